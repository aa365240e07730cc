-- sheets
def q_sh (S : q_S) (s : Nat) (f : Int32) (n : Nat) : q_S := (S.1, S.2.1, fun i => if i = s then f else S.2.2.1 i, fun i => if i = s then n else S.2.2.2.1 i, fun i k => if i = s then nI 0 else S.2.2.2.2.1 i k, S.2.2.2.2.2)
def q_lo (S : q_S) (s : Nat) : q_S := (S.1, S.2.1, fun i => if i = s then (-1) else S.2.2.1 i, S.2.2.2.1, S.2.2.2.2.1, S.2.2.2.2.2)
def q_ni (S : q_S) (s : Nat) (F : Nat → Int32) : q_S := (S.1, S.2.1, S.2.2.1, S.2.2.2.1, fun i k => if i = s then F k else S.2.2.2.2.1 i k, S.2.2.2.2.2)
def q_it (S : q_S) (s k : Nat) (v : Int32) : q_S := q_ni S s (fun j => if j = k then v else S.2.2.2.2.1 s j)
def q_cp (S : q_S) (a i b j n : Nat) : q_S := q_ni S b (fun m => if j ≤ m ∧ m < j + n then S.2.2.2.2.1 a (i + (m - j)) else S.2.2.2.2.1 b m)
def sp_found (S : q_S) (x : Int32) : Int32 × q_S := ((-10) - x, q_fd S x)
def sp_sheet (S : q_S) (x1 x2 x3 : Int32) : Int32 × q_S := match q_in x1 4, q_in x2 3 with
  | some s, some f => if x3 < nI 0 then sp_found S (nI 5) else (match q_in x3 61 with
    | some n => (nI n, q_sh S s (nI f) n)
    | none => ((-2), S))
  | _, _ => ((-2), S)
def sp_lose (S : q_S) (x1 : Int32) : Int32 × q_S := match q_in x1 4 with
  | some s => if S.2.2.1 s = (-1) then sp_found S (nI 1) else (nI (S.2.2.2.1 s), q_lo S s)
  | none => ((-2), S)
def q_wr (S : q_S) (s f : Nat) (x : Int32) : Nat := if S.2.2.1 s = (-1) then 1 else if S.2.2.1 s = nI f then (match q_in x (S.2.2.2.1 s) with
  | some _ => 0
  | none => 2) else 3
def sp_lay (S : q_S) (x1 x2 x3 x4 : Int32) : Int32 × q_S := match q_in x1 4, q_in x2 3 with
  | some s, some f => if q_wr S s f x3 = 0 then (nI 1, q_it S s x3.toNatClampNeg (q_ct (nI f) x4)) else sp_found S (nI (q_wr S s f x3))
  | _, _ => ((-2), S)
def sp_get (S : q_S) (x1 x2 x3 : Int32) : Int32 × q_S := match q_in x1 4, q_in x2 3 with
  | some s, some f => if q_wr S s f x3 = 0 then (S.2.2.2.2.1 s x3.toNatClampNeg, S) else ((-2147483648), q_fd S (nI (q_wr S s f x3)))
  | _, _ => ((-2147483648), S)
def q_run (x y : Int32) (z : Nat) : Bool := match q_in x 61, q_in y 61 with
  | some i, some n => decide (i + n ≤ z)
  | _, _ => false
def sp_copy (S : q_S) (x1 x2 x3 x4 x5 : Int32) : Int32 × q_S := match q_in x1 4, q_in x3 4 with
  | some a, some b => if S.2.2.1 a = (-1) ∨ S.2.2.1 b = (-1) then sp_found S (nI 1) else if S.2.2.1 a = S.2.2.1 b then (if q_run x2 x5 (S.2.2.2.1 a) = true ∧ q_run x4 x5 (S.2.2.2.1 b) = true then (nI 1, q_cp S a x2.toNatClampNeg b x4.toNatClampNeg x5.toNatClampNeg) else sp_found S (nI 2)) else sp_found S (nI 4)
  | _, _ => ((-2), S)
def q_40 (n : Nat) : Nat := if 40 < n then 40 else n
def q_wv (S : q_S) (w k : Nat) : Int32 := if w = 0 then q_lv S (q_p S k) else q_bv (q_by S none k)
def q_wt (S : q_S) (s w n : Nat) : q_S := q_ni S s (fun k => if k < n then q_ct (S.2.2.1 s) (q_wv S w k) else S.2.2.2.2.1 s k)
def sp_write (S : q_S) (x1 x2 : Int32) : Int32 × q_S := match q_in x1 2, q_in x2 4 with
  | some w, some s => if S.2.2.1 s = (-1) then sp_found S (nI 1) else (nI (q_40 (S.2.2.2.1 s)), q_wt S s w (q_40 (S.2.2.2.1 s)))
  | _, _ => ((-2), S)
def q_rd (s : Nat) : Nat → Nat → q_S → Int32 × q_S
  | 0, n, S => (nI n, S)
  | d + 1, n, S => if 2 * n + 2 ≤ S.2.2.2.1 s then (if nI 0 ≤ (sp_move S (S.2.2.2.2.1 s (2 * n)) (S.2.2.2.2.1 s (2 * n + 1))).1 then q_rd s d (n + 1) (sp_move S (S.2.2.2.2.1 s (2 * n)) (S.2.2.2.2.1 s (2 * n + 1))).2 else (nI n, (sp_move S (S.2.2.2.2.1 s (2 * n)) (S.2.2.2.2.1 s (2 * n + 1))).2)) else (nI n, S)
def sp_read (S : q_S) (x1 : Int32) : Int32 × q_S := match q_in x1 4 with
  | some s => if S.2.2.1 s = (-1) then sp_found S (nI 1) else q_rd s 31 0 S
  | none => ((-2), S)
-- cuts
theorem ct_ct (f v : Int32) : q_ct f (q_ct f v) = q_ct f v := by
  unfold q_ct
  by_cases c1 : f = nI 0
  · rw [if_pos c1, if_pos c1]; simp
  · rw [if_neg c1, if_neg c1]
    by_cases c2 : f = nI 1
    · rw [if_pos c2, if_pos c2]; simp
    · rw [if_neg c2, if_neg c2]
theorem ct_0 (f : Int32) : q_ct f (nI 0) = nI 0 := by
  unfold q_ct
  by_cases c1 : f = nI 0
  · rw [if_pos c1]; decide
  · rw [if_neg c1]
    by_cases c2 : f = nI 1
    · rw [if_pos c2]; decide
    · rw [if_neg c2]
theorem ct_m (v : Int32) : q_ct (-1) v = v := by
  unfold q_ct
  rw [if_neg (by decide), if_neg (by decide)]
-- the new states are well formed
theorem wf_sh {S : q_S} (w : q_wf S) {s f n : Nat} (hf : f < 3) (hn : n ≤ 60) : q_wf (q_sh S s (nI f) n) := by
  refine ⟨w.1, w.2.1, fun i => ?_⟩
  have := w.2.2 i
  by_cases c : i = s
  · simp only [q_sh, if_pos c]
    refine ⟨hn, ?_, fun k => ct_0 _⟩
    rcases (show f = 0 ∨ f = 1 ∨ f = 2 by omega) with rfl | rfl | rfl
    · exact Or.inr (Or.inl rfl)
    · exact Or.inr (Or.inr (Or.inl rfl))
    · exact Or.inr (Or.inr (Or.inr rfl))
  · simp only [q_sh, if_neg c]
    exact this
theorem wf_lo {S : q_S} (w : q_wf S) (s : Nat) : q_wf (q_lo S s) := by
  refine ⟨w.1, w.2.1, fun i => ?_⟩
  have := w.2.2 i
  by_cases c : i = s
  · simp only [q_lo, if_pos c]
    exact ⟨this.1, Or.inl trivial, fun k => ct_m _⟩
  · simp only [q_lo, if_neg c]
    exact this
theorem wf_is {S : q_S} (w : q_wf S) {s : Nat} {F : Nat → Int32} (hF : ∀ k, q_ct (S.2.2.1 s) (F k) = F k) : q_wf (q_ni S s F) := by
  refine ⟨w.1, w.2.1, fun i => ?_⟩
  have := w.2.2 i
  by_cases c : i = s
  · simp only [q_ni, if_pos c]
    exact ⟨this.1, this.2.1, fun k => by rw [c]; exact hF k⟩
  · simp only [q_ni, if_neg c]
    exact this
theorem wf_it {S : q_S} (w : q_wf S) {s k : Nat} {v : Int32} (hv : q_ct (S.2.2.1 s) v = v) : q_wf (q_it S s k v) := by
  refine wf_is w (fun j => ?_)
  by_cases c : j = k
  · rw [if_pos c]; exact hv
  · rw [if_neg c]; exact (w.2.2 s).2.2 j
theorem wf_cp {S : q_S} (w : q_wf S) {a i b j n : Nat} (e : S.2.2.1 a = S.2.2.1 b) : q_wf (q_cp S a i b j n) := by
  refine wf_is w (fun m => ?_)
  by_cases c : j ≤ m ∧ m < j + n
  · rw [if_pos c, ← e]; exact (w.2.2 a).2.2 _
  · rw [if_neg c]; exact (w.2.2 b).2.2 m
theorem wf_wt {S : q_S} (w : q_wf S) {s v n : Nat} : q_wf (q_wt S s v n) := by
  refine wf_is w (fun m => ?_)
  by_cases c : m < n
  · rw [if_pos c]; exact ct_ct _ _
  · rw [if_neg c]; exact (w.2.2 s).2.2 m
-- the cells of sheets
theorem cS_fd {b1 b2 b3 : Nat} {S : q_S} {g : ph_Hp} (k : cS b1 b2 b3 S g) (x : Int32) : cS b1 b2 b3 (q_fd S x) g := k
theorem cS_ag {b1 b2 b3 : Nat} {S : q_S} {h g : ph_Hp} (k : cS b1 b2 b3 S h) (e1 : g.1 b1 = h.1 b1) (e2 : g.1 b2 = h.1 b2) (e3 : g.1 b3 = h.1 b3) : cS b1 b2 b3 S g := by
  unfold cS
  rw [e1, e2, e3]
  exact k
theorem cS_sh {b1 b2 b3 : Nat} {S : q_S} {h g : ph_Hp} (k : cS b1 b2 b3 S h) {s n : Nat} {f : Int32} (e1 : ∀ i, g.1 b1 i = if i = s then f else h.1 b1 i) (e2 : ∀ i, g.1 b2 i = if i = s then nI n else h.1 b2 i) (e3 : ∀ i, i < n → g.1 b3 (60 * s + i) = nI 0) (e4 : ∀ t i, t ≠ s → i < 60 → g.1 b3 (60 * t + i) = h.1 b3 (60 * t + i)) (w : q_wf S) : cS b1 b2 b3 (q_sh S s f n) g := by
  intro t ht
  have := k t ht
  have hw := (w.2.2 t).1
  rw [e1, e2]
  by_cases c : t = s
  · simp only [q_sh, if_pos c]
    exact ⟨trivial, fun _ => ⟨trivial, fun i hi => by rw [c]; exact e3 i hi⟩⟩
  · simp only [q_sh, if_neg c]
    exact ⟨this.1, fun z => ⟨(this.2 z).1, fun i hi => by rw [e4 t i c (by omega)]; exact (this.2 z).2 i hi⟩⟩
theorem cS_lo {b1 b2 b3 : Nat} {S : q_S} {h g : ph_Hp} (k : cS b1 b2 b3 S h) {s : Nat} (e1 : ∀ i, g.1 b1 i = if i = s then (-1) else h.1 b1 i) (e2 : ∀ i, i ≠ s → g.1 b2 i = h.1 b2 i) (e3 : g.1 b3 = h.1 b3) : cS b1 b2 b3 (q_lo S s) g := by
  intro t ht
  have := k t ht
  rw [e1, e3]
  by_cases c : t = s
  · simp only [q_lo, if_pos c]
    exact ⟨trivial, fun z => absurd rfl z⟩
  · simp only [q_lo, if_neg c]
    rw [e2 t c]
    exact this
theorem cS_is {b1 b2 b3 : Nat} {S : q_S} {h g : ph_Hp} (k : cS b1 b2 b3 S h) {s : Nat} {F : Nat → Int32} (e1 : g.1 b1 = h.1 b1) (e2 : g.1 b2 = h.1 b2) (e3 : ∀ i, i < S.2.2.2.1 s → g.1 b3 (60 * s + i) = F i) (e4 : ∀ t i, t ≠ s → i < 60 → g.1 b3 (60 * t + i) = h.1 b3 (60 * t + i)) (w : q_wf S) : cS b1 b2 b3 (q_ni S s F) g := by
  intro t ht
  have := k t ht
  have hw := (w.2.2 t).1
  rw [e1, e2]
  by_cases c : t = s
  · simp only [q_ni, if_pos c]
    exact ⟨this.1, fun z => ⟨(this.2 z).1, fun i hi => by rw [c]; exact e3 i (by rw [← c]; exact hi)⟩⟩
  · simp only [q_ni, if_neg c]
    exact ⟨this.1, fun z => ⟨(this.2 z).1, fun i hi => by rw [e4 t i c (by omega)]; exact (this.2 z).2 i hi⟩⟩
theorem CI_sh {S S2 : q_S} {h g : ph_Hp} (K : CI S h) (w2 : q_wf S2) (e1 : S2.1 = S.1) (e2 : S2.2.1 = S.2.1) (ks : cS 48 49 50 S2 g) (kf : g.1 0 13 = S2.2.2.2.2.2) (k7 : g.1 0 7 = h.1 0 7) (ag : ∀ i, i < 48 → i ≠ 0 → g.1 i = h.1 i) : CI S2 g := by
  obtain ⟨w, ⟨k1, k2, k3, k4, k5, k6, k7', k8, k9, k10, k11⟩, kf', kt⟩ := K
  refine ⟨w2, ?_, kf, ?_⟩
  · unfold CP
    rw [e1, e2]
    exact ⟨cR_ag k1 (ag 1 (by decide) (by decide)) (ag 2 (by decide) (by decide)), cR_ag k2 (ag 3 (by decide) (by decide)) (ag 4 (by decide) (by decide)), cR_ag k3 (ag 6 (by decide) (by decide)) (ag 7 (by decide) (by decide)), cR_ag k4 (ag 8 (by decide) (by decide)) (ag 9 (by decide) (by decide)), cR_ag k5 (ag 11 (by decide) (by decide)) (ag 12 (by decide) (by decide)), cR_ag k6 (ag 13 (by decide) (by decide)) (ag 14 (by decide) (by decide)), cR_ag k7' (ag 16 (by decide) (by decide)) (ag 17 (by decide) (by decide)), cR_ag k8 (ag 18 (by decide) (by decide)) (ag 19 (by decide) (by decide)), cR_ag k9 (ag 21 (by decide) (by decide)) (ag 22 (by decide) (by decide)), cR_ag k10 (ag 23 (by decide) (by decide)) (ag 24 (by decide) (by decide)), ks⟩
  · rw [k7]
    rcases kt with kt | ⟨kt, ku⟩
    · exact Or.inl kt
    · exact Or.inr ⟨kt, e_St ⟨fun j _ => by rw [e1], fun r _ => by rw [e2]⟩ (q_St_ag ku (fun i h1 h2 => ag i (by omega) (by omega)))⟩
theorem CI_fd {S : q_S} {h : ph_Hp} (K : CI S h) (x : Int32) : CI (q_fd S x) (ph_sI h 0 13 x) := CI_sh K (wf_fd K.1 x) rfl rfl (cS_fd (cS_ag K.2.1.2.2.2.2.2.2.2.2.2.2 (sI_ne _ _ _ (by decide)) (sI_ne _ _ _ (by decide)) (sI_ne _ _ _ (by decide))) x) (by rw [sI_eq, if_pos rfl]; rfl) (by rw [sI_eq, if_neg (by decide)]) (fun i h1 h2 => sI_ne _ _ _ h2)
theorem k_found {S : q_S} {h : ph_Hp} (K : CI S h) (x : Int32) : ph_O (f_X8_found x h) (Cq h (sp_found S x).1 (sp_found S x).2) := by
  unfold f_X8_found
  simp (disch := omega) only [i_lt_f, i_lt_t, i_le_f, i_le_t, i_eq_f, i_eq_t, i_m1_lt, i_eqm_f, i_meq_f, i_mm_t, i_mle_t, i_nle_m, rz_0, rz_1, if_true, if_false, cl_some, ldI_at, ldJ_at, stI_at, stZ_at, stJ_at, pfI_at, pfJ_at, jn_at, dvI_at, rmI_at, irem_at, nI_add, pk_mul, pk_sub, n_dec, n_sub1]
  refine O_ret ⟨rfl, CI_fd K x, q_aM_sI (q_aM_rf h) (by decide)⟩
theorem cl_id {ρ : Type} {o : Option (ρ × ph_Hp)} {Q : ρ → ph_Hp → Prop} (a : ph_O o Q) : ph_O (ph_cl o (fun v h => some (v, h))) Q := O_cl a (fun _ _ q => O_ret q)
-- the class
theorem s_form {s : Nat} (g : ph_Hp) (hs : s < 4) : f_X5_formOf (nI s) g = some (g.1 48 s, g) := by
  unfold f_X5_formOf
  rw [s_wi g hs (by decide), cl_some]
  simp (disch := omega) only [i_lt_f, i_lt_t, i_le_f, i_le_t, i_eq_f, i_eq_t, i_m1_lt, i_eqm_f, i_meq_f, i_mm_t, i_mle_t, i_nle_m, rz_0, rz_1, if_true, if_false, cl_some, ldI_at, ldJ_at, stI_at, stZ_at, stJ_at, pfI_at, pfJ_at, jn_at, dvI_at, rmI_at, irem_at, nI_add, pk_mul, pk_sub, n_dec, n_sub1]
theorem s_lost {s : Nat} (g : ph_Hp) (hs : s < 4) : f_X5_isLost (nI s) g = some (if g.1 48 s = (-1) then nI 1 else nI 0, g) := by
  unfold f_X5_isLost
  rw [s_form g hs, cl_some]
  by_cases c : g.1 48 s = (-1)
  · rw [if_pos c, if_pos c, rz_1]
  · rw [if_neg c, if_neg c, rz_0]
theorem s_ssize {s : Nat} (g : ph_Hp) (hs : s < 4) : f_X5_sizeOf (nI s) g = some (g.1 49 s, g) := by
  unfold f_X5_sizeOf
  rw [s_wi g hs (by decide), cl_some]
  simp (disch := omega) only [i_lt_f, i_lt_t, i_le_f, i_le_t, i_eq_f, i_eq_t, i_m1_lt, i_eqm_f, i_meq_f, i_mm_t, i_mle_t, i_nle_m, rz_0, rz_1, if_true, if_false, cl_some, ldI_at, ldJ_at, stI_at, stZ_at, stJ_at, pfI_at, pfJ_at, jn_at, dvI_at, rmI_at, irem_at, nI_add, pk_mul, pk_sub, n_dec, n_sub1]
theorem s_item {s k : Nat} (g : ph_Hp) (hs : s < 4) (hk : k < 60) : f_X5_item (nI s) (nI k) g = some (g.1 50 (60 * s + k), g) := by
  unfold f_X5_item
  rw [s_wi g hs (by decide), cl_some, if_neg (by decide), s_wi g hk (by decide), cl_some, if_neg (by decide), pk_mul, nI_add, ldI_at (by omega) (by decide), Nat.mul_comm]
theorem s_sput {s k : Nat} (g : ph_Hp) (hs : s < 4) (hk : k < 60) (v : Int32) : f_X5_put (nI s) (nI k) v g = some ((), ph_sI g 50 (60 * s + k) (q_ct (g.1 48 s) v)) := by
  unfold f_X5_put q_ct
  rw [s_wi g hs (by decide), cl_some, if_neg (by decide), s_wi g hk (by decide), cl_some, if_neg (by decide), ldI_at hs (by decide), jn_at, ldI_at hs (by decide), pk_mul, nI_add, Nat.mul_comm s 60]
  by_cases c1 : g.1 48 s = nI 0
  · rw [if_pos c1, if_pos c1]; dsimp only; rw [stI_at (by omega) (by decide)]
  · rw [if_neg c1, if_neg c1]
    by_cases c2 : g.1 48 s = nI 1
    · rw [if_pos c2, if_pos c2]; dsimp only; rw [stI_at (by omega) (by decide)]
    · rw [if_neg c2, if_neg c2]; dsimp only; rw [stI_at (by omega) (by decide)]
theorem s_renew {s n : Nat} {x : Int32} (h : ph_Hp) (hs : s < 4) : ph_O (f_X5_renew (nI s) x (nI n) h) (fun _ g => (∀ i, g.1 48 i = if i = s then x else h.1 48 i) ∧ (∀ i, g.1 49 i = if i = s then nI n else h.1 49 i) ∧ (∀ i, i < 60 → g.1 50 (60 * s + i) = nI 0) ∧ (∀ t i, t ≠ s → i < 60 → g.1 50 (60 * t + i) = h.1 50 (60 * t + i)) ∧ q_ag [48, 49, 50] h g) := by
  unfold f_X5_renew
  rw [s_wi h hs (by decide), cl_some, if_neg (by decide), stI_at hs (by decide), stI_at hs (by decide)]
  refine O_for 60 (fun m y => y.1 = nI m ∧ (∀ i, y.2.1 48 i = if i = s then x else h.1 48 i) ∧ (∀ i, y.2.1 49 i = if i = s then nI n else h.1 49 i) ∧ (∀ i, i < m → y.2.1 50 (60 * s + i) = nI 0) ∧ (∀ t i, t ≠ s → i < 60 → y.2.1 50 (60 * t + i) = h.1 50 (60 * t + i)) ∧ q_ag [48, 49, 50] h y.2) (by omega) ⟨rfl, fun i => ?_, fun i => ?_, fun i hi => absurd hi (Nat.not_lt_zero i), fun t i _ _ => ?_, q_ag_sI (q_ag_sI (q_ag_rf _ h) (by decide)) (by decide)⟩ ?_ ?_
  · dsimp only; rw [sI_ne _ _ _ (by decide), sI_eq]
  · dsimp only; rw [sI_eq, sI_ne _ _ _ (by decide)]
  · dsimp only; rw [sI_ne _ _ _ (by decide), sI_ne _ _ _ (by decide)]
  · rintro rec m ⟨y, g⟩ hm ⟨ey, e1, e2, e3, e4, e5⟩ hrec
    dsimp only at ey e1 e2 e3 e4 e5 ⊢
    subst ey
    rw [if_neg (nI_ge hm (by decide)), pk_mul, nI_add, stI_at (by omega) (by decide), Nat.mul_comm s 60]
    refine hrec _ ⟨nI_add _ _, fun i => ?_, fun i => ?_, fun i hi => ?_, fun t i ht hi => ?_, q_ag_sI e5 (by decide)⟩
    · dsimp only; rw [sI_ne _ _ _ (by decide)]; exact e1 i
    · dsimp only; rw [sI_ne _ _ _ (by decide)]; exact e2 i
    · dsimp only; rw [sI_eq]
      by_cases c : i = m
      · rw [if_pos (by rw [c])]
      · rw [if_neg (by omega)]; exact e3 i (by omega)
    · dsimp only; rw [sI_eq, if_neg (by omega)]; exact e4 t i ht hi
  · rintro rec ⟨y, g⟩ ⟨ey, e⟩
    dsimp only at ey e ⊢
    subst ey
    rw [if_pos (nI_le (by omega) (by decide))]
    exact O_ret e
theorem k_sheet (S : q_S) (h : ph_Hp) (K : CI S h) (x1 x2 x3 : Int32) : ph_O (f_X8_sheet x1 x2 x3 h) (Cq h (sp_sheet S x1 x2 x3).1 (sp_sheet S x1 x2 x3).2) := by
  unfold f_X8_sheet sp_sheet
  rcases q_ins x1 4 (by decide) with ⟨e1, b1⟩ | ⟨s, hs, rfl, e1⟩
  · rw [s_wo h b1, cl_some, e1]
    simp (disch := omega) only [i_lt_f, i_lt_t, i_le_f, i_le_t, i_eq_f, i_eq_t, i_m1_lt, i_eqm_f, i_meq_f, i_mm_t, i_mle_t, i_nle_m, rz_0, rz_1, if_true, if_false, cl_some, ldI_at, ldJ_at, stI_at, stZ_at, stJ_at, pfI_at, pfJ_at, jn_at, dvI_at, rmI_at, irem_at, nI_add, pk_mul, pk_sub, n_dec, n_sub1]
    exact O_ret ⟨rfl, K, q_aM_rf h⟩
  rw [s_wi h hs (by decide), cl_some, e1, if_neg (by decide)]
  rcases q_ins x2 3 (by decide) with ⟨e2, b2⟩ | ⟨f, hf, rfl, e2⟩
  · rw [s_wo h b2, cl_some, e2]
    simp (disch := omega) only [i_lt_f, i_lt_t, i_le_f, i_le_t, i_eq_f, i_eq_t, i_m1_lt, i_eqm_f, i_meq_f, i_mm_t, i_mle_t, i_nle_m, rz_0, rz_1, if_true, if_false, cl_some, ldI_at, ldJ_at, stI_at, stZ_at, stJ_at, pfI_at, pfJ_at, jn_at, dvI_at, rmI_at, irem_at, nI_add, pk_mul, pk_sub, n_dec, n_sub1]
    exact O_ret ⟨rfl, K, q_aM_rf h⟩
  rw [s_wi h hf (by decide), cl_some, e2, if_neg (by decide)]
  dsimp only
  rcases q_ins x3 61 (by decide) with ⟨e3, b3⟩ | ⟨n, hn, rfl, e3⟩
  · rw [e3]
    rcases b3 with b3 | b3
    · rw [if_pos b3, if_pos (Int32.le_trans (Int32.le_of_lt b3) (by decide)), if_neg (by rw [Int32.not_le]; exact b3)]
      exact cl_id (k_found K _)
    · have : ¬ x3 < nI 0 := fun z => absurd (Int32.lt_of_lt_of_le z (Int32.le_trans (by decide) b3)) Int32.lt_irrefl
      rw [if_neg this, if_neg (by rw [Int32.not_le]; exact Int32.lt_of_lt_of_le (by decide) b3)]
      exact O_ret ⟨rfl, K, q_aM_rf h⟩
  · rw [e3, if_pos (nI_le (by omega) (by decide)), if_pos (nI_le (by omega) (by omega)), if_neg (n_pos (by omega))]
    refine O_cl (s_renew h hs) ?_
    rintro _ g ⟨r1, r2, r3, r4, r5⟩
    refine O_ret ⟨rfl, CI_sh K (wf_sh K.1 hf (by omega)) rfl rfl (cS_sh K.2.1.2.2.2.2.2.2.2.2.2.2 r1 r2 (fun i hi => r3 i (by omega)) r4 K.1) ?_ ?_ (fun i h1 h2 => (r5 i (by simp; omega)).1), q_aM_ag r5 (by decide)⟩
    · rw [(r5 0 (by decide)).1]; exact K.2.2.1
    · rw [(r5 0 (by decide)).1]
theorem k_lose (S : q_S) (h : ph_Hp) (K : CI S h) (x1 : Int32) : ph_O (f_X8_lose x1 h) (Cq h (sp_lose S x1).1 (sp_lose S x1).2) := by
  unfold f_X8_lose sp_lose
  rcases q_ins x1 4 (by decide) with ⟨e1, b1⟩ | ⟨s, hs, rfl, e1⟩
  · rw [s_wo h b1, cl_some, e1]
    simp (disch := omega) only [i_lt_f, i_lt_t, i_le_f, i_le_t, i_eq_f, i_eq_t, i_m1_lt, i_eqm_f, i_meq_f, i_mm_t, i_mle_t, i_nle_m, rz_0, rz_1, if_true, if_false, cl_some, ldI_at, ldJ_at, stI_at, stZ_at, stJ_at, pfI_at, pfJ_at, jn_at, dvI_at, rmI_at, irem_at, nI_add, pk_mul, pk_sub, n_dec, n_sub1]
    exact O_ret ⟨rfl, K, q_aM_rf h⟩
  have ks := K.2.1.2.2.2.2.2.2.2.2.2.2
  rw [s_wi h hs (by decide), cl_some, e1, if_neg (by decide), s_lost h hs, cl_some, (ks s hs).1]
  dsimp only
  by_cases c : S.2.2.1 s = (-1)
  · rw [if_pos c, if_neg (by decide), if_pos c]
    exact cl_id (k_found K _)
  · rw [if_neg c, if_pos rfl, if_neg c, s_ssize h hs, cl_some]
    unfold f_X5_tear
    rw [s_wi h hs (by decide), cl_some, if_neg (by decide), stI_at hs (by decide), stI_at hs (by decide), cl_some]
    refine O_ret ⟨((ks s hs).2 c).1, CI_sh K (wf_lo K.1 s) rfl rfl (cS_lo ks (fun i => ?_) (fun i hi => ?_) ?_) ?_ ?_ (fun i h1 h2 => ?_), q_aM_sI (q_aM_sI (q_aM_rf h) (by decide)) (by decide)⟩
    · rw [sI_ne _ _ _ (by decide), sI_eq]
    · rw [sI_eq, if_neg hi, sI_ne _ _ _ (by decide)]
    · rw [sI_ne _ _ _ (by decide), sI_ne _ _ _ (by decide)]
    · rw [sI_ne _ _ _ (by decide), sI_ne _ _ _ (by decide)]; exact K.2.2.1
    · rw [sI_ne _ _ _ (by decide), sI_ne _ _ _ (by decide)]
    · rw [sI_ne _ _ _ (by omega), sI_ne _ _ _ (by omega)]
theorem s_wrong {S : q_S} {h : ph_Hp} (K : CI S h) {s f : Nat} (hs : s < 4) (x : Int32) : f_X5_wrongWith (nI s) (nI f) x h = some (nI (q_wr S s f x), h) := by
  have ks := K.2.1.2.2.2.2.2.2.2.2.2.2 s hs
  have hw := (K.1.2.2 s).1
  unfold f_X5_wrongWith q_wr
  rw [s_lost h hs, cl_some, ks.1]
  by_cases c : S.2.2.1 s = (-1)
  · rw [if_pos c, if_neg (by decide), if_pos c]
  · rw [if_neg c, if_pos rfl, if_neg c, s_form h hs, cl_some, ks.1]
    by_cases c2 : S.2.2.1 s = nI f
    · rw [if_pos c2, if_pos c2, s_ssize h hs, cl_some, (ks.2 c).1]
      rcases q_ins x (S.2.2.2.1 s) (by omega) with ⟨e1, b1⟩ | ⟨k, hk, rfl, e1⟩
      · rw [s_wo h b1, cl_some, e1, if_pos rfl]
      · rw [s_wi h hk (by omega), cl_some, e1, if_neg (by decide)]
    · rw [if_neg c2, if_neg c2]
theorem q_wr_0 {S : q_S} {s f : Nat} {x : Int32} (w : q_wf S) (e : q_wr S s f x = 0) : S.2.2.1 s ≠ (-1) ∧ S.2.2.1 s = nI f ∧ ∃ k, k < S.2.2.2.1 s ∧ x = nI k := by
  have hw := (w.2.2 s).1
  unfold q_wr at e
  by_cases c : S.2.2.1 s = (-1)
  · rw [if_pos c] at e; cases e
  · rw [if_neg c] at e
    by_cases c2 : S.2.2.1 s = nI f
    · rw [if_pos c2] at e
      rcases q_ins x (S.2.2.2.1 s) (by omega) with ⟨e1, b1⟩ | ⟨k, hk, rfl, e1⟩
      · rw [e1] at e; cases e
      · exact ⟨c, c2, k, hk, rfl⟩
    · rw [if_neg c2] at e; cases e
theorem q_wr_le (S : q_S) (s f : Nat) (x : Int32) : q_wr S s f x ≤ 3 := by
  unfold q_wr
  split
  · decide
  · split
    · split <;> decide
    · decide
theorem k_lay (S : q_S) (h : ph_Hp) (K : CI S h) (x1 x2 x3 x4 : Int32) : ph_O (f_X8_lay x1 x2 x3 x4 h) (Cq h (sp_lay S x1 x2 x3 x4).1 (sp_lay S x1 x2 x3 x4).2) := by
  unfold f_X8_lay sp_lay
  rcases q_ins x1 4 (by decide) with ⟨e1, b1⟩ | ⟨s, hs, rfl, e1⟩
  · rw [s_wo h b1, cl_some, e1]
    simp (disch := omega) only [i_lt_f, i_lt_t, i_le_f, i_le_t, i_eq_f, i_eq_t, i_m1_lt, i_eqm_f, i_meq_f, i_mm_t, i_mle_t, i_nle_m, rz_0, rz_1, if_true, if_false, cl_some, ldI_at, ldJ_at, stI_at, stZ_at, stJ_at, pfI_at, pfJ_at, jn_at, dvI_at, rmI_at, irem_at, nI_add, pk_mul, pk_sub, n_dec, n_sub1]
    exact O_ret ⟨rfl, K, q_aM_rf h⟩
  rw [s_wi h hs (by decide), cl_some, e1, if_neg (by decide)]
  rcases q_ins x2 3 (by decide) with ⟨e2, b2⟩ | ⟨f, hf, rfl, e2⟩
  · rw [s_wo h b2, cl_some, e2]
    simp (disch := omega) only [i_lt_f, i_lt_t, i_le_f, i_le_t, i_eq_f, i_eq_t, i_m1_lt, i_eqm_f, i_meq_f, i_mm_t, i_mle_t, i_nle_m, rz_0, rz_1, if_true, if_false, cl_some, ldI_at, ldJ_at, stI_at, stZ_at, stJ_at, pfI_at, pfJ_at, jn_at, dvI_at, rmI_at, irem_at, nI_add, pk_mul, pk_sub, n_dec, n_sub1]
    exact O_ret ⟨rfl, K, q_aM_rf h⟩
  have ks := K.2.1.2.2.2.2.2.2.2.2.2.2
  have hw := (K.1.2.2 s).1
  have hle := q_wr_le S s f x3
  rw [s_wi h hf (by decide), cl_some, e2, if_neg (by decide), s_wrong K hs, cl_some]
  dsimp only
  by_cases c : q_wr S s f x3 = 0
  · obtain ⟨c1, c2, k, hk, rfl⟩ := q_wr_0 K.1 c
    rw [if_pos (by rw [c]), if_pos c, s_sput h hs (by omega), cl_some, (ks s hs).1, c2, nI_clamp (by omega)]
    refine O_ret ⟨rfl, CI_sh K (wf_it K.1 (by rw [c2]; exact ct_ct _ _)) rfl rfl (cS_is ks (sI_ne _ _ _ (by decide)) (sI_ne _ _ _ (by decide)) (fun i hi => ?_) (fun t i ht hi => ?_) K.1) ?_ ?_ (fun i h1 h2 => ?_), q_aM_sI (q_aM_rf h) (by decide)⟩
    · rw [sI_eq]
      by_cases q : i = k
      · rw [if_pos (by rw [q]), if_pos q]
      · rw [if_neg (by omega), if_neg q]; exact ((ks s hs).2 c1).2 i hi
    · rw [sI_eq, if_neg (by omega)]
    · rw [sI_ne _ _ _ (by decide)]; exact K.2.2.1
    · rw [sI_ne _ _ _ (by decide)]
    · rw [sI_ne _ _ _ (by omega)]
  · rw [if_neg (by rw [nI_eq (by omega) (by decide)]; exact c), if_neg c]
    exact cl_id (k_found K _)
theorem k_get (S : q_S) (h : ph_Hp) (K : CI S h) (x1 x2 x3 : Int32) : ph_O (f_X8_get x1 x2 x3 h) (Cq h (sp_get S x1 x2 x3).1 (sp_get S x1 x2 x3).2) := by
  unfold f_X8_get sp_get
  rcases q_ins x1 4 (by decide) with ⟨e1, b1⟩ | ⟨s, hs, rfl, e1⟩
  · rw [s_wo h b1, cl_some, e1]
    simp (disch := omega) only [i_lt_f, i_lt_t, i_le_f, i_le_t, i_eq_f, i_eq_t, i_m1_lt, i_eqm_f, i_meq_f, i_mm_t, i_mle_t, i_nle_m, rz_0, rz_1, if_true, if_false, cl_some, ldI_at, ldJ_at, stI_at, stZ_at, stJ_at, pfI_at, pfJ_at, jn_at, dvI_at, rmI_at, irem_at, nI_add, pk_mul, pk_sub, n_dec, n_sub1]
    exact O_ret ⟨rfl, K, q_aM_rf h⟩
  rw [s_wi h hs (by decide), cl_some, e1, if_neg (by decide)]
  rcases q_ins x2 3 (by decide) with ⟨e2, b2⟩ | ⟨f, hf, rfl, e2⟩
  · rw [s_wo h b2, cl_some, e2]
    simp (disch := omega) only [i_lt_f, i_lt_t, i_le_f, i_le_t, i_eq_f, i_eq_t, i_m1_lt, i_eqm_f, i_meq_f, i_mm_t, i_mle_t, i_nle_m, rz_0, rz_1, if_true, if_false, cl_some, ldI_at, ldJ_at, stI_at, stZ_at, stJ_at, pfI_at, pfJ_at, jn_at, dvI_at, rmI_at, irem_at, nI_add, pk_mul, pk_sub, n_dec, n_sub1]
    exact O_ret ⟨rfl, K, q_aM_rf h⟩
  have ks := K.2.1.2.2.2.2.2.2.2.2.2.2
  have hw := (K.1.2.2 s).1
  have hle := q_wr_le S s f x3
  rw [s_wi h hf (by decide), cl_some, e2, if_neg (by decide), s_wrong K hs, cl_some]
  dsimp only
  by_cases c : q_wr S s f x3 = 0
  · obtain ⟨c1, c2, k, hk, rfl⟩ := q_wr_0 K.1 c
    rw [if_pos (by rw [c]), if_pos c, s_item h hs (by omega), cl_some, nI_clamp (by omega)]
    exact O_ret ⟨((ks s hs).2 c1).2 k hk, K, q_aM_rf h⟩
  · rw [if_neg (by rw [nI_eq (by omega) (by decide)]; exact c), if_neg c]
    rw [pfI_at]
    exact O_ret ⟨rfl, CI_fd K _, q_aM_sI (q_aM_rf h) (by decide)⟩
