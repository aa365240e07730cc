-- the state that both sides stand for: counts (0 play bytes, 1 hole bytes, 2 moves, 3 coughs, 4 darks, 5 sights), rows (0, 1 bytes; 2, 3 moves; 4, 5 coughs; 6 darks; 7, 8 sights), sheets (form, size, items), the latest finding
abbrev q_S : Type := (Nat → Nat) × (Nat → Nat → Nat) × (Nat → Int32) × (Nat → Nat) × (Nat → Nat → Int32) × Int32
def q_ct (f v : Int32) : Int32 := if f = nI 0 then v.toInt8.toInt32 else if f = nI 1 then v.toInt16.toInt32 else v
def q_wf (S : q_S) : Prop :=
  (S.1 0 ≤ 24 ∧ S.1 1 ≤ 44 ∧ S.1 2 ≤ 12 ∧ S.1 3 ≤ 12 ∧ S.1 4 ≤ 6 ∧ S.1 5 ≤ 8) ∧
  (∀ k, S.2.1 0 k < 256 ∧ S.2.1 1 k < 256 ∧ S.2.1 2 k < 40 ∧ S.2.1 3 k < 10 ∧ S.2.1 4 k < 40 ∧ S.2.1 5 k < 9 ∧ S.2.1 6 k < 40 ∧ S.2.1 7 k < 40 ∧ S.2.1 8 k < 8) ∧
  ∀ s, S.2.2.2.1 s ≤ 60 ∧ (S.2.2.1 s = (-1) ∨ S.2.2.1 s = nI 0 ∨ S.2.2.1 s = nI 1 ∨ S.2.2.1 s = nI 2) ∧ ∀ k, q_ct (S.2.2.1 s) (S.2.2.2.2.1 s k) = S.2.2.2.2.1 s k
def q_m0 (S : q_S) : Nat := q_ff (fun k => !(decide (97 ≤ S.2.1 0 k) && decide (S.2.1 0 k ≤ 104))) (S.1 0)
def q_pl (S : q_S) : Nat := if q_m0 S = S.1 0 then S.1 0 else 0
def q_f0 (S : q_S) : Int32 := if q_m0 S = S.1 0 then (-1) else nI (q_m0 S)
def q_pv (S : q_S) (k : Nat) : Nat := S.2.1 0 k - 97
def q_ok1 (j b : Nat) : Bool := if j = 0 then decide (97 ≤ b) && decide (b ≤ 106) else if j = 1 then decide (48 ≤ b) && decide (b ≤ 57) else if j = 2 then decide (b = 108 ∨ b = 110 ∨ b = 114 ∨ b = 121) else if j = 3 then decide (97 ≤ b) && decide (b ≤ 104) else decide (b = 59)
def q_m1 (S : q_S) : Nat := q_ff (fun k => !q_ok1 (k % 5) (S.2.1 1 k)) (S.1 1)
def q_f1 (S : q_S) : Int32 := if q_m1 S < S.1 1 then nI (q_m1 S) else if S.1 1 = 0 ∨ S.1 1 % 5 = 4 then (-1) else nI (S.1 1)
def q_hn (S : q_S) : Nat := if q_m1 S < S.1 1 then 0 else if S.1 1 = 0 ∨ S.1 1 % 5 = 4 then (S.1 1 + 1) / 5 else 0
def q_hb (b : Nat) : Nat := if b = 108 then 3 else if b = 110 then 0 else if b = 114 then 1 else 2
def q_hp (S : q_S) (h : Nat) : Nat := S.2.1 1 (5 * h) - 97
def q_hr (S : q_S) (h : Nat) : Nat := S.2.1 1 (5 * h + 1) - 48
def q_hh (S : q_S) (h : Nat) : Nat := q_hb (S.2.1 1 (5 * h + 2))
def q_hl (S : q_S) (h : Nat) : Nat := S.2.1 1 (5 * h + 3) - 97
def q_fp (S : q_S) (l : Nat) : Nat := q_ff (fun p => decide (q_pv S p = l)) (q_pl S)
def q_nx (S : q_S) (l : Nat) : Nat := if q_fp S l < q_pl S then q_pv S ((q_fp S l + 1) % q_pl S) else q_pv S 0
def q_ah (S : q_S) (l : Nat) : Nat := if q_fp S l < q_pl S then q_pv S ((q_fp S l + q_pl S - 1) % q_pl S) else q_pv S 0
def q_wn (S : q_S) (t : Nat) : Nat → Nat × Nat
  | 0 => (0, 0)
  | n + 1 => if (q_wn S t n).1 ≤ S.2.1 2 n + 1 ∧ S.2.1 2 n ≤ t then (S.2.1 2 n + 1, S.2.1 3 n) else q_wn S t n
def q_wh (S : q_S) (t : Nat) : Nat := (q_wn S t (S.1 2)).2
def q_dn (S : q_S) (t : Nat) : Nat → Bool
  | 0 => decide (t = 0)
  | n + 1 => q_dn S t n || decide (S.2.1 6 n = t)
def q_dk (S : q_S) (t : Nat) : Bool := q_dn S t (S.1 4)
def q_cn (S : q_S) : Nat → Nat → Int32
  | 0 => fun _ => nI 0
  | n + 1 => fun t => if t = S.2.1 4 n then q_cn S n t ||| ph_shl (nI 1) (nI (S.2.1 5 n)) else q_cn S n t
def q_cg (S : q_S) : Nat → Int32 := q_cn S (S.1 3)
def q_he (S : q_S) (f : Option Nat) (h t : Nat) : Bool := decide (q_pl S ≠ 0) && (!q_dk S t && decide (q_ad (q_hp S h) (q_wh S (t - 1)) ≤ q_hr S h + (if f = some h then 1 else 0)))
def q_bn (S : q_S) (f : Option Nat) (t : Nat) : Nat → Option Nat × Nat
  | 0 => (none, 10)
  | n + 1 => if q_ad (q_hp S n) (q_wh S t) < (q_bn S f t n).2 ∧ q_he S f n t = true then (some n, q_ad (q_hp S n) (q_wh S t)) else q_bn S f t n
def q_by (S : q_S) (f : Option Nat) (t : Nat) : Option Nat := (q_bn S f t (q_hn S)).1
def q_th (S : q_S) (h l : Nat) : Nat := if q_hh S h = 0 then q_nx S l else if q_hh S h = 1 then l else if q_hh S h = 2 then (if l = q_hl S h then q_nx S l else q_hl S h) else if q_nx S l = q_hl S h ∨ q_ah S l = q_hl S h then q_hl S h else l
def q_tb (c : Int32) (h : Nat) : Bool := !decide (ph_shr c (nI h) &&& nI 1 = nI 0)
def q_wp (S : q_S) (h l : Nat) (c : Int32) : Nat := if q_tb c h then (q_th S h l + 1) % 8 else q_th S h l
def q_fo (S : q_S) (t : Nat) (b : Option Nat) (l : Nat) (c : Int32) : Nat := if q_dk S t then q_pv S 0 else match b with
  | none => q_nx S l
  | some h => q_wp S h l c
def q_P (S : q_S) (f : Option Nat) (c : Nat → Int32) : Nat → Nat
  | 0 => q_pv S 0
  | t + 1 => q_fo S (t + 1) (q_by S f (t + 1)) (q_P S f c t) (c (t + 1))
def q_lv (S : q_S) (x : Nat) : Int32 := if q_pl S = 0 then (-1) else nI x
def q_bv (b : Option Nat) : Int32 := match b with
  | none => (-1)
  | some h => nI h
def q_pr (S : q_S) (t : Nat) : Nat := q_pv S (t % q_pl S)
-- bounds
theorem q_pl_le {S : q_S} (w : q_wf S) : q_pl S ≤ 24 := by
  have := w.1.1
  unfold q_pl
  split <;> omega
theorem q_pv_lt {S : q_S} {k : Nat} (hk : k < q_pl S) : q_pv S k < 8 := by
  unfold q_pl at hk
  split at hk
  · next e =>
    have h1 := q_ff_no (fun k => !(decide (97 ≤ S.2.1 0 k) && decide (S.2.1 0 k ≤ 104))) (S.1 0) k (by show k < q_m0 S; omega)
    simp at h1
    unfold q_pv
    omega
  · omega
theorem q_pv_b {S : q_S} {k : Nat} (hk : k < q_pl S) : 97 ≤ S.2.1 0 k ∧ S.2.1 0 k ≤ 104 := by
  unfold q_pl at hk
  split at hk
  · next e =>
    have h1 := q_ff_no (fun k => !(decide (97 ≤ S.2.1 0 k) && decide (S.2.1 0 k ≤ 104))) (S.1 0) k (by show k < q_m0 S; omega)
    simpa using h1
  · omega
theorem q_hn_le {S : q_S} (w : q_wf S) : q_hn S ≤ 9 := by
  have := w.1.2.1
  unfold q_hn
  split
  · omega
  · split <;> omega
theorem q_hn_at {S : q_S} {h : Nat} (hh : h < q_hn S) : q_m1 S = S.1 1 ∧ 5 * h + 4 ≤ S.1 1 ∧ S.1 1 % 5 = 4 ∧ S.1 1 = 5 * q_hn S - 1 := by
  have hl : q_m1 S ≤ S.1 1 := q_ff_le _ _
  unfold q_hn at hh ⊢
  split at hh
  · omega
  · split at hh
    · next h1 h2 =>
      rw [if_neg h1, if_pos h2]
      omega
    · omega
theorem q_hb_ok {S : q_S} {k : Nat} (hk : k < q_m1 S) : q_ok1 (k % 5) (S.2.1 1 k) = true := by
  have h1 := q_ff_no (fun k => !q_ok1 (k % 5) (S.2.1 1 k)) (S.1 1) k hk
  simpa using h1
theorem q_h0 {S : q_S} {h : Nat} (hh : h < q_hn S) : 97 ≤ S.2.1 1 (5 * h) ∧ S.2.1 1 (5 * h) ≤ 106 := by
  obtain ⟨a, b, -⟩ := q_hn_at hh
  have h1 := q_hb_ok (S := S) (k := 5 * h) (by omega)
  rw [show (5 * h) % 5 = 0 by omega] at h1
  simpa [q_ok1] using h1
theorem q_h1 {S : q_S} {h : Nat} (hh : h < q_hn S) : 48 ≤ S.2.1 1 (5 * h + 1) ∧ S.2.1 1 (5 * h + 1) ≤ 57 := by
  obtain ⟨a, b, -⟩ := q_hn_at hh
  have h1 := q_hb_ok (S := S) (k := 5 * h + 1) (by omega)
  rw [show (5 * h + 1) % 5 = 1 by omega] at h1
  simpa [q_ok1] using h1
theorem q_h2 {S : q_S} {h : Nat} (hh : h < q_hn S) : S.2.1 1 (5 * h + 2) = 108 ∨ S.2.1 1 (5 * h + 2) = 110 ∨ S.2.1 1 (5 * h + 2) = 114 ∨ S.2.1 1 (5 * h + 2) = 121 := by
  obtain ⟨a, b, -⟩ := q_hn_at hh
  have h1 := q_hb_ok (S := S) (k := 5 * h + 2) (by omega)
  rw [show (5 * h + 2) % 5 = 2 by omega] at h1
  simpa [q_ok1] using h1
theorem q_h3 {S : q_S} {h : Nat} (hh : h < q_hn S) : 97 ≤ S.2.1 1 (5 * h + 3) ∧ S.2.1 1 (5 * h + 3) ≤ 104 := by
  obtain ⟨a, b, -⟩ := q_hn_at hh
  have h1 := q_hb_ok (S := S) (k := 5 * h + 3) (by omega)
  rw [show (5 * h + 3) % 5 = 3 by omega] at h1
  simpa [q_ok1] using h1
theorem q_hp_lt {S : q_S} {h : Nat} (hh : h < q_hn S) : q_hp S h < 10 := by have := q_h0 hh; unfold q_hp; omega
theorem q_hr_lt {S : q_S} {h : Nat} (hh : h < q_hn S) : q_hr S h < 10 := by have := q_h1 hh; unfold q_hr; omega
theorem q_hl_lt {S : q_S} {h : Nat} (hh : h < q_hn S) : q_hl S h < 8 := by have := q_h3 hh; unfold q_hl; omega
theorem q_hh_lt (S : q_S) (h : Nat) : q_hh S h < 4 := by
  unfold q_hh q_hb
  split
  · omega
  · split
    · omega
    · split <;> omega
theorem q_fp_le (S : q_S) (l : Nat) : q_fp S l ≤ q_pl S := q_ff_le _ _
theorem q_nx_lt {S : q_S} (hp : q_pl S ≠ 0) (l : Nat) : q_nx S l < 8 := by
  unfold q_nx
  split
  · exact q_pv_lt (Nat.mod_lt _ (by omega))
  · exact q_pv_lt (by omega)
theorem q_ah_lt {S : q_S} (hp : q_pl S ≠ 0) (l : Nat) : q_ah S l < 8 := by
  unfold q_ah
  split
  · exact q_pv_lt (Nat.mod_lt _ (by omega))
  · exact q_pv_lt (by omega)
theorem q_wn_lt {S : q_S} (w : q_wf S) (t : Nat) : ∀ n, (q_wn S t n).2 < 10
  | 0 => by show 0 < 10; omega
  | n + 1 => by
    have ih := q_wn_lt w t n
    have := w.2.1 n
    unfold q_wn
    split
    · show S.2.1 3 n < 10; omega
    · exact ih
theorem q_wh_lt {S : q_S} (w : q_wf S) (t : Nat) : q_wh S t < 10 := q_wn_lt w t _
theorem q_bn_lt {S : q_S} {f : Option Nat} {t : Nat} : ∀ {n h : Nat}, (q_bn S f t n).1 = some h → h < n
  | 0, h, e => by cases e
  | n + 1, h, e => by
    unfold q_bn at e
    split at e
    · have : n = h := Option.some.inj e
      omega
    · have := q_bn_lt e
      omega
theorem q_by_lt {S : q_S} {f : Option Nat} {t h : Nat} (e : q_by S f t = some h) : h < q_hn S := q_bn_lt e
theorem q_bn_he {S : q_S} {f : Option Nat} {t : Nat} : ∀ {n h : Nat}, (q_bn S f t n).1 = some h → q_he S f h t = true
  | 0, h, e => by cases e
  | n + 1, h, e => by
    unfold q_bn at e
    split at e
    · next c =>
      have : n = h := Option.some.inj e
      rw [← this]; exact c.2
    · exact q_bn_he e
theorem q_he_pl {S : q_S} {f : Option Nat} {h t : Nat} (e : q_he S f h t = true) : q_pl S ≠ 0 ∧ q_dk S t = false := by
  simp [q_he] at e
  exact ⟨e.1, e.2.1⟩
theorem q_by_pl {S : q_S} {f : Option Nat} {t h : Nat} (e : q_by S f t = some h) : q_pl S ≠ 0 ∧ q_dk S t = false := q_he_pl (q_bn_he e)
theorem q_th_lt {S : q_S} {h l : Nat} (hp : q_pl S ≠ 0) (hh : h < q_hn S) (hl : l < 8) : q_th S h l < 8 := by
  have h1 := q_nx_lt hp l
  have h2 := q_hl_lt hh
  unfold q_th
  split
  · exact h1
  · split
    · exact hl
    · split
      · split <;> omega
      · split <;> omega
theorem q_wp_lt {S : q_S} {h l : Nat} {c : Int32} (hp : q_pl S ≠ 0) (hh : h < q_hn S) (hl : l < 8) : q_wp S h l c < 8 := by
  have h1 := q_th_lt hp hh hl
  unfold q_wp
  split
  · exact Nat.mod_lt _ (by omega)
  · exact h1
theorem q_fo_lt {S : q_S} {t l : Nat} {b : Option Nat} {c : Int32} (hp : q_pl S ≠ 0) (hb : ∀ h, b = some h → h < q_hn S) (hl : l < 8) : q_fo S t b l c < 8 := by
  unfold q_fo
  split
  · exact q_pv_lt (by omega)
  · cases b with
    | none => exact q_nx_lt hp l
    | some h => exact q_wp_lt hp (hb h rfl) hl
theorem q_P_lt {S : q_S} (hp : q_pl S ≠ 0) (f : Option Nat) (c : Nat → Int32) : ∀ t, q_P S f c t < 8
  | 0 => q_pv_lt (by omega)
  | t + 1 => q_fo_lt hp (fun h e => q_by_lt e) (q_P_lt hp f c t)
theorem q_dk_0 (S : q_S) : q_dk S 0 = true := by
  have : ∀ n, q_dn S 0 n = true := by
    intro n
    induction n with
    | zero => rfl
    | succ n ih => simp [q_dn, ih]
  exact this _
theorem q_pr_lt {S : q_S} (hp : q_pl S ≠ 0) (t : Nat) : q_pr S t < 8 := q_pv_lt (Nat.mod_lt _ (by omega))
theorem q_lv_0 {S : q_S} (hp : q_pl S = 0) (x : Nat) : q_lv S x = (-1) := if_pos hp
theorem q_lv_1 {S : q_S} (hp : q_pl S ≠ 0) (x : Nat) : q_lv S x = nI x := if_neg hp
theorem q_lv_eq {S : q_S} {x y : Nat} (hp : q_pl S ≠ 0) (hx : x < 8) (hy : y < 8) : q_lv S x = q_lv S y ↔ x = y := by
  rw [q_lv_1 hp, q_lv_1 hp, nI_eq (by omega) (by omega)]
-- agreement of two heaps but for some cells
def q_ag (X : List Nat) (h g : ph_Hp) : Prop := ∀ i, i ∉ X → g.1 i = h.1 i ∧ g.2 i = h.2 i
theorem q_ag_rf (X : List Nat) (h : ph_Hp) : q_ag X h h := fun _ _ => ⟨rfl, rfl⟩
theorem q_ag_tr {X : List Nat} {a b c : ph_Hp} (h1 : q_ag X a b) (h2 : q_ag X b c) : q_ag X a c := fun i hi => ⟨(h2 i hi).1.trans (h1 i hi).1, (h2 i hi).2.trans (h1 i hi).2⟩
theorem q_ag_sub {X Y : List Nat} {a b : ph_Hp} (h : q_ag X a b) (hs : ∀ i ∈ X, i ∈ Y) : q_ag Y a b := fun i hi => h i (fun q => hi (hs i q))
theorem q_ag_sI {X : List Nat} {a b : ph_Hp} {q k : Nat} {x : Int32} (h : q_ag X a b) (hq : q ∈ X) : q_ag X a (ph_sI b q k x) := fun i hi => by
  have e : i ≠ q := fun z => hi (z ▸ hq)
  exact ⟨(sI_ne b k x e).trans (h i hi).1, (h i hi).2⟩
theorem q_ag_sJ {X : List Nat} {a b : ph_Hp} {q k : Nat} {x : Int64} (h : q_ag X a b) (hq : q ∈ X) : q_ag X a (ph_sJ b q k x) := fun i hi => by
  have e : i ≠ q := fun z => hi (z ▸ hq)
  exact ⟨(h i hi).1, (sJ_ne b k x e).trans (h i hi).2⟩
