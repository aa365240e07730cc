-- what the cells of the class hold of a state
def q_in (x : Int32) (n : Nat) : Option Nat := if x < nI 0 then none else if nI n ≤ x then none else some x.toNatClampNeg
theorem q_ins (x : Int32) (n : Nat) (hn : n < 2 ^ 31) : (q_in x n = none ∧ (x < nI 0 ∨ nI n ≤ x)) ∨ ∃ j, j < n ∧ x = nI j ∧ q_in x n = some j := by
  unfold q_in
  rcases n_ix x n hn with h | ⟨j, h1, h2⟩
  · left
    refine ⟨?_, h⟩
    rcases h with h | h
    · rw [if_pos h]
    · by_cases c : x < nI 0
      · rw [if_pos c]
      · rw [if_neg c, if_pos h]
  · right
    refine ⟨j, h1, h2, ?_⟩
    subst h2
    simp (disch := omega) only [i_lt_f, i_lt_t, i_le_f, i_le_t, i_eq_f, i_eq_t, i_m1_lt, i_eqm_f, i_meq_f, i_mm_t, i_mle_t, i_nle_m, rz_0, rz_1, if_true, if_false, cl_some, ldI_at, ldJ_at, stI_at, stZ_at, stJ_at, pfI_at, pfJ_at, jn_at, dvI_at, rmI_at, irem_at, nI_add, pk_mul, pk_sub, n_dec, n_sub1, nI_clamp]
def cR (r q n : Nat) (f : Nat → Nat) (h : ph_Hp) : Prop := h.1 r 1 = nI n ∧ ∀ k, k < n → h.1 q k = nI (f k)
theorem cR_push {r q n : Nat} {f : Nat → Nat} {h : ph_Hp} (k : cR r q n f h) (hrq : q ≠ r) (x : Nat) : cR r q (n + 1) (fun j => if j = n then x else f j) (ph_sI (ph_sI h q n (nI x)) r 1 (nI (n + 1))) := by
  refine ⟨by rw [sI_eq, if_pos rfl], fun j hj => ?_⟩
  rw [sI_ne _ _ _ hrq, sI_eq]
  show _ = nI (if j = n then x else f j)
  by_cases c : j = n
  · rw [if_pos c, if_pos c]
  · rw [if_neg c, if_neg c]
    exact k.2 j (by omega)
theorem cR_ne {r q n : Nat} {f : Nat → Nat} {h : ph_Hp} (k : cR r q n f h) {i : Nat} (j : Nat) (x : Int32) (h1 : r ≠ i) (h2 : q ≠ i) : cR r q n f (ph_sI h i j x) := by
  refine ⟨by rw [sI_ne _ _ _ h1]; exact k.1, fun j hj => ?_⟩
  rw [sI_ne _ _ _ h2]
  exact k.2 j hj
theorem cR_size {r q n m : Nat} {f : Nat → Nat} {h : ph_Hp} (k : cR r q n f h) (hm : m ≤ n) (h2 : q ≠ r) : cR r q m f (ph_sI h r 1 (nI m)) := by
  refine ⟨by rw [sI_eq, if_pos rfl], fun j hj => ?_⟩
  rw [sI_ne _ _ _ h2]
  exact k.2 j (by omega)
theorem cR_ag {r q n : Nat} {f : Nat → Nat} {h g : ph_Hp} (k : cR r q n f h) (h1 : g.1 r = h.1 r) (h2 : g.1 q = h.1 q) : cR r q n f g := by
  unfold cR
  rw [h1, h2]
  exact k
def cS (b1 b2 b3 : Nat) (S : q_S) (h : ph_Hp) : Prop := ∀ s, s < 4 → h.1 b1 s = S.2.2.1 s ∧ (S.2.2.1 s ≠ (-1) → h.1 b2 s = nI (S.2.2.2.1 s) ∧ ∀ k, k < S.2.2.2.1 s → h.1 b3 (60 * s + k) = S.2.2.2.2.1 s k)
def CP (S : q_S) (h : ph_Hp) : Prop := cR 1 2 (S.1 0) (S.2.1 0) h ∧ cR 3 4 (S.1 1) (S.2.1 1) h ∧ cR 6 7 (S.1 2) (S.2.1 2) h ∧ cR 8 9 (S.1 2) (S.2.1 3) h ∧ cR 11 12 (S.1 3) (S.2.1 4) h ∧ cR 13 14 (S.1 3) (S.2.1 5) h ∧ cR 16 17 (S.1 4) (S.2.1 6) h ∧ cR 18 19 (S.1 4) (S.2.1 9) h ∧ cR 21 22 (S.1 5) (S.2.1 7) h ∧ cR 23 24 (S.1 5) (S.2.1 8) h ∧ cS 48 49 50 S h
def q_A (S : q_S) (h : ph_Hp) : Prop := h.1 26 3 = nI (q_pl S) ∧ h.1 26 4 = q_f0 S ∧ (∀ k, k < q_pl S → h.1 27 k = nI (q_pv S k)) ∧ (∀ l, l < 8 → h.1 28 l = q_lv S (q_nx S l)) ∧ (∀ l, l < 8 → h.1 29 l = q_lv S (q_ah S l))
def q_B (S : q_S) (h : ph_Hp) : Prop := h.1 30 5 = nI (q_hn S) ∧ h.1 30 6 = q_f1 S ∧ ∀ k, k < q_hn S → h.1 31 k = nI (q_hp S k) ∧ h.1 32 k = nI (q_hr S k) ∧ h.1 33 k = nI (q_hh S k) ∧ h.1 34 k = nI (q_hl S k)
def q_T (S : q_S) (h : ph_Hp) : Prop := q_pl S ≠ 0 → ∀ k, k < q_hn S → ∀ l, l < 8 → h.1 35 (k * 8 + l) = nI (q_th S k l)
def q_C (S : q_S) (h : ph_Hp) : Prop := ∀ t, t < 40 → h.1 36 t = nI (q_wh S t) ∧ h.1 37 t = q_cg S t ∧ h.1 38 t = (if q_dk S t then nI 1 else nI 0)
def q_D (S : q_S) (h : ph_Hp) : Prop := ∀ t, t < 40 → h.1 39 t = q_bv (q_by S none t) ∧ h.1 40 t = q_lv S (q_P S none (q_cg S) t)
def q_St (S : q_S) (h : ph_Hp) : Prop := q_A S h ∧ q_B S h ∧ q_T S h ∧ q_C S h ∧ q_D S h
def CI (S : q_S) (h : ph_Hp) : Prop := q_wf S ∧ CP S h ∧ h.1 0 13 = S.2.2.2.2.2 ∧ (h.1 0 7 = nI 1 ∨ (h.1 0 7 = nI 0 ∧ q_St S h))
def q_aM (h g : ph_Hp) : Prop := ∀ i, 51 ≤ i → g.1 i = h.1 i
def q_aC (h g : ph_Hp) : Prop := ∀ i, i < 51 → g.1 i = h.1 i ∧ g.2 i = h.2 i
theorem q_aM_rf (h : ph_Hp) : q_aM h h := fun _ _ => rfl
theorem q_aM_tr {a b c : ph_Hp} (h1 : q_aM a b) (h2 : q_aM b c) : q_aM a c := fun i hi => (h2 i hi).trans (h1 i hi)
theorem q_aM_sI {a b : ph_Hp} {q k : Nat} {x : Int32} (h : q_aM a b) (hq : q < 51) : q_aM a (ph_sI b q k x) := fun i hi => (sI_ne b k x (by omega)).trans (h i hi)
theorem q_aM_ag {X : List Nat} {a b : ph_Hp} (h : q_ag X a b) (hX : ∀ i ∈ X, i < 51) : q_aM a b := fun i hi => (h i (fun q => absurd (hX i q) (by omega))).1
theorem q_aC_rf (h : ph_Hp) : q_aC h h := fun _ _ => ⟨rfl, rfl⟩
theorem q_aC_tr {a b c : ph_Hp} (h1 : q_aC a b) (h2 : q_aC b c) : q_aC a c := fun i hi => ⟨(h2 i hi).1.trans (h1 i hi).1, (h2 i hi).2.trans (h1 i hi).2⟩
theorem q_aC_sI {a b : ph_Hp} {q k : Nat} {x : Int32} (h : q_aC a b) (hq : 51 ≤ q) : q_aC a (ph_sI b q k x) := fun i hi => ⟨(sI_ne b k x (by omega)).trans (h i hi).1, (h i hi).2⟩
theorem q_aC_ag {X : List Nat} {a b : ph_Hp} (h : q_ag X a b) (hX : ∀ i ∈ X, 51 ≤ i) : q_aC a b := fun i hi => h i (fun q => absurd (hX i q) (by omega))
theorem CP_ag {S : q_S} {h g : ph_Hp} (k : CP S h) (e : ∀ i, i ∈ [1, 2, 3, 4, 6, 7, 8, 9, 11, 12, 13, 14, 16, 17, 18, 19, 21, 22, 23, 24, 48, 49, 50] → g.1 i = h.1 i) : CP S g := by
  obtain ⟨k1, k2, k3, k4, k5, k6, k7, k8, k9, k10, k11⟩ := k
  refine ⟨cR_ag k1 (e 1 (by decide)) (e 2 (by decide)), cR_ag k2 (e 3 (by decide)) (e 4 (by decide)), cR_ag k3 (e 6 (by decide)) (e 7 (by decide)), cR_ag k4 (e 8 (by decide)) (e 9 (by decide)), cR_ag k5 (e 11 (by decide)) (e 12 (by decide)), cR_ag k6 (e 13 (by decide)) (e 14 (by decide)), cR_ag k7 (e 16 (by decide)) (e 17 (by decide)), cR_ag k8 (e 18 (by decide)) (e 19 (by decide)), cR_ag k9 (e 21 (by decide)) (e 22 (by decide)), cR_ag k10 (e 23 (by decide)) (e 24 (by decide)), ?_⟩
  unfold cS
  rw [e 48 (by decide), e 49 (by decide), e 50 (by decide)]
  exact k11
theorem q_A_ag {S : q_S} {h g : ph_Hp} (k : q_A S h) (e : ∀ i, i ∈ [26, 27, 28, 29] → g.1 i = h.1 i) : q_A S g := by
  unfold q_A
  rw [e 26 (by decide), e 27 (by decide), e 28 (by decide), e 29 (by decide)]
  exact k
theorem q_B_ag {S : q_S} {h g : ph_Hp} (k : q_B S h) (e : ∀ i, i ∈ [30, 31, 32, 33, 34] → g.1 i = h.1 i) : q_B S g := by
  unfold q_B
  rw [e 30 (by decide), e 31 (by decide), e 32 (by decide), e 33 (by decide), e 34 (by decide)]
  exact k
theorem q_T_ag {S : q_S} {h g : ph_Hp} (k : q_T S h) (e : g.1 35 = h.1 35) : q_T S g := by
  unfold q_T
  rw [e]
  exact k
theorem q_C_ag {S : q_S} {h g : ph_Hp} (k : q_C S h) (e : ∀ i, i ∈ [36, 37, 38] → g.1 i = h.1 i) : q_C S g := by
  unfold q_C
  rw [e 36 (by decide), e 37 (by decide), e 38 (by decide)]
  exact k
theorem q_D_ag {S : q_S} {h g : ph_Hp} (k : q_D S h) (e : ∀ i, i ∈ [39, 40] → g.1 i = h.1 i) : q_D S g := by
  unfold q_D
  rw [e 39 (by decide), e 40 (by decide)]
  exact k
theorem q_St_ag {S : q_S} {h g : ph_Hp} (k : q_St S h) (e : ∀ i, 26 ≤ i → i ≤ 40 → g.1 i = h.1 i) : q_St S g := by
  refine ⟨q_A_ag k.1 (fun i hi => ?_), q_B_ag k.2.1 (fun i hi => ?_), q_T_ag k.2.2.1 (e 35 (by decide) (by decide)), q_C_ag k.2.2.2.1 (fun i hi => ?_), q_D_ag k.2.2.2.2 (fun i hi => ?_)⟩ <;> (simp at hi; exact e i (by omega) (by omega))
theorem CI_aC {S : q_S} {h g : ph_Hp} (k : CI S h) (e : q_aC h g) : CI S g := by
  obtain ⟨w, k1, k2, k3⟩ := k
  refine ⟨w, CP_ag k1 (fun i hi => ?_), ?_, ?_⟩
  · simp at hi
    exact (e i (by omega)).1
  · rw [(e 0 (by decide)).1]; exact k2
  · rw [(e 0 (by decide)).1]
    rcases k3 with k3 | ⟨k3, k4⟩
    · exact Or.inl k3
    · exact Or.inr ⟨k3, q_St_ag k4 (fun i _ h2 => (e i (by omega)).1)⟩
-- new states
def q_cnt (S : q_S) (j n : Nat) : q_S := (fun i => if i = j then n else S.1 i, S.2)
def q_row (S : q_S) (r k x : Nat) : q_S := (S.1, fun i j => if i = r then (if j = k then x else S.2.1 i j) else S.2.1 i j, S.2.2)
def q_fd (S : q_S) (x : Int32) : q_S := (S.1, S.2.1, S.2.2.1, S.2.2.2.1, S.2.2.2.2.1, x)
def q_put2 (S : q_S) (j r1 r2 a b : Nat) : q_S := q_cnt (q_row (q_row S r1 (S.1 j) a) r2 (S.1 j) b) j (S.1 j + 1)
def q_cap (t : Nat) : Nat := if t = 0 then 24 else if t = 1 then 44 else if t = 2 then 12 else if t = 3 then 12 else if t = 4 then 6 else 8
def sp_type (S : q_S) (x1 x2 : Int32) : Int32 × q_S := match q_in x1 2, q_in x2 256 with
  | some t, some b => if S.1 t = q_cap t then ((-4), S) else (nI (S.1 t + 1), q_cnt (q_row S t (S.1 t) b) t (S.1 t + 1))
  | _, _ => ((-2), S)
def sp_wipe (S : q_S) (x1 : Int32) : Int32 × q_S := match q_in x1 2 with
  | some t => (nI (S.1 t), q_cnt S t 0)
  | none => ((-2), S)
def sp_undo (S : q_S) (x1 : Int32) : Int32 × q_S := match q_in x1 2 with
  | some t => if S.1 t = 0 then ((-3), S) else (nI (S.1 t - 1), q_cnt S t (S.1 t - 1))
  | none => ((-2), S)
def sp_tell (S : q_S) (j r1 r2 a b : Nat) : Int32 × q_S := if S.1 j = q_cap j then ((-4), S) else (nI (S.1 j + 1), q_put2 S j r1 r2 a b)
def sp_move (S : q_S) (x1 x2 : Int32) : Int32 × q_S := match q_in x1 40, q_in x2 10 with
  | some a, some b => sp_tell S 2 2 3 a b
  | _, _ => ((-2), S)
def sp_cough (S : q_S) (x1 x2 : Int32) : Int32 × q_S := match q_in x1 40, q_in x2 9 with
  | some a, some b => sp_tell S 3 4 5 a b
  | _, _ => ((-2), S)
def sp_dark (S : q_S) (x1 : Int32) : Int32 × q_S := match q_in x1 40 with
  | some a => sp_tell S 4 6 9 a 0
  | none => ((-2), S)
def sp_seen (S : q_S) (x1 x2 : Int32) : Int32 × q_S := match q_in x1 40, q_in x2 8 with
  | some a, some b => sp_tell S 5 7 8 a b
  | _, _ => ((-2), S)
def sp_back (S : q_S) (x1 : Int32) : Int32 × q_S := match q_in x1 3 with
  | some w => if S.1 (2 + w) = 0 then ((-3), S) else (nI (S.1 (2 + w) - 1), q_cnt S (2 + w) (S.1 (2 + w) - 1))
  | none => ((-2), S)
def sp_forget (S : q_S) : Int32 × q_S := (nI (S.1 5), q_cnt S 5 0)
theorem wf_cnt {S : q_S} (w : q_wf S) {j n : Nat} (h : n ≤ q_cap j) : q_wf (q_cnt S j n) := by
  obtain ⟨⟨a0, a1, a2, a3, a4, a5⟩, b, c⟩ := w
  refine ⟨?_, b, c⟩
  simp only [q_cnt]
  unfold q_cap at h
  refine ⟨?_, ?_, ?_, ?_, ?_, ?_⟩ <;> (split <;> first | assumption | (rename_i e; subst e; simpa using h))
theorem wf_row {S : q_S} (w : q_wf S) {r k x : Nat} (h : (r = 0 → x < 256) ∧ (r = 1 → x < 256) ∧ (r = 2 → x < 40) ∧ (r = 3 → x < 10) ∧ (r = 4 → x < 40) ∧ (r = 5 → x < 9) ∧ (r = 6 → x < 40) ∧ (r = 7 → x < 40) ∧ (r = 8 → x < 8)) : q_wf (q_row S r k x) := by
  obtain ⟨a, b, c⟩ := w
  refine ⟨a, fun j => ?_, c⟩
  have b := b j
  simp only [q_row]
  refine ⟨?_, ?_, ?_, ?_, ?_, ?_, ?_, ?_, ?_⟩ <;> (split <;> (try split) <;> omega)
theorem wf_fd {S : q_S} (w : q_wf S) (x : Int32) : q_wf (q_fd S x) := w
theorem wf_put2 {S : q_S} (w : q_wf S) {j r1 r2 a b : Nat} (hn : S.1 j < q_cap j) (h1 : (r1 = 0 → a < 256) ∧ (r1 = 1 → a < 256) ∧ (r1 = 2 → a < 40) ∧ (r1 = 3 → a < 10) ∧ (r1 = 4 → a < 40) ∧ (r1 = 5 → a < 9) ∧ (r1 = 6 → a < 40) ∧ (r1 = 7 → a < 40) ∧ (r1 = 8 → a < 8)) (h2 : (r2 = 0 → b < 256) ∧ (r2 = 1 → b < 256) ∧ (r2 = 2 → b < 40) ∧ (r2 = 3 → b < 10) ∧ (r2 = 4 → b < 40) ∧ (r2 = 5 → b < 9) ∧ (r2 = 6 → b < 40) ∧ (r2 = 7 → b < 40) ∧ (r2 = 8 → b < 8)) : q_wf (q_put2 S j r1 r2 a b) := wf_cnt (wf_row (wf_row w h1) h2) (by omega)
theorem wf_cap {S : q_S} (w : q_wf S) {j : Nat} (hj : j < 6) : S.1 j ≤ q_cap j := by
  obtain ⟨⟨a0, a1, a2, a3, a4, a5⟩, b, c⟩ := w
  match j, hj with
  | 0, _ => exact a0
  | 1, _ => exact a1
  | 2, _ => exact a2
  | 3, _ => exact a3
  | 4, _ => exact a4
  | 5, _ => exact a5
