-- the class: thoughts
theorem s_nextTo {l : Nat} (h : ph_Hp) (hl : l < 8) : f_X3_nextTo (nI l) h = some (h.1 28 l, h) := by
  unfold f_X3_nextTo; simp (disch := omega) only [i_lt_f, i_lt_t, i_le_f, i_le_t, i_eq_f, i_eq_t, i_m1_lt, i_eqm_f, i_meq_f, i_mm_t, i_mle_t, i_nle_m, rz_0, rz_1, if_true, if_false, cl_some, ldI_at, ldJ_at, stI_at, stZ_at, stJ_at, pfI_at, pfJ_at, jn_at, dvI_at, rmI_at, irem_at, nI_add, pk_mul, pk_sub, n_dec, n_sub1]
theorem s_nextToM (h : ph_Hp) : f_X3_nextTo (-1) h = some ((-1), h) := by
  unfold f_X3_nextTo; rw [if_pos (by decide)]
theorem s_aheadOf {l : Nat} (h : ph_Hp) (hl : l < 8) : f_X3_aheadOf (nI l) h = some (h.1 29 l, h) := by
  unfold f_X3_aheadOf; simp (disch := omega) only [i_lt_f, i_lt_t, i_le_f, i_le_t, i_eq_f, i_eq_t, i_m1_lt, i_eqm_f, i_meq_f, i_mm_t, i_mle_t, i_nle_m, rz_0, rz_1, if_true, if_false, cl_some, ldI_at, ldJ_at, stI_at, stZ_at, stJ_at, pfI_at, pfJ_at, jn_at, dvI_at, rmI_at, irem_at, nI_add, pk_mul, pk_sub, n_dec, n_sub1]
theorem s_placeOf {l : Nat} (h : ph_Hp) (hl : l < 9) : f_X1_placeOf (nI l) h = some (h.1 31 l, h) := by
  unfold f_X1_placeOf; simp (disch := omega) only [i_lt_f, i_lt_t, i_le_f, i_le_t, i_eq_f, i_eq_t, i_m1_lt, i_eqm_f, i_meq_f, i_mm_t, i_mle_t, i_nle_m, rz_0, rz_1, if_true, if_false, cl_some, ldI_at, ldJ_at, stI_at, stZ_at, stJ_at, pfI_at, pfJ_at, jn_at, dvI_at, rmI_at, irem_at, nI_add, pk_mul, pk_sub, n_dec, n_sub1]
theorem s_hearsOf {l : Nat} (h : ph_Hp) (hl : l < 9) : f_X1_hearsOf (nI l) h = some (h.1 32 l, h) := by
  unfold f_X1_hearsOf; simp (disch := omega) only [i_lt_f, i_lt_t, i_le_f, i_le_t, i_eq_f, i_eq_t, i_m1_lt, i_eqm_f, i_meq_f, i_mm_t, i_mle_t, i_nle_m, rz_0, rz_1, if_true, if_false, cl_some, ldI_at, ldJ_at, stI_at, stZ_at, stJ_at, pfI_at, pfJ_at, jn_at, dvI_at, rmI_at, irem_at, nI_add, pk_mul, pk_sub, n_dec, n_sub1]
theorem s_habitOf {l : Nat} (h : ph_Hp) (hl : l < 9) : f_X1_habitOf (nI l) h = some (h.1 33 l, h) := by
  unfold f_X1_habitOf; simp (disch := omega) only [i_lt_f, i_lt_t, i_le_f, i_le_t, i_eq_f, i_eq_t, i_m1_lt, i_eqm_f, i_meq_f, i_mm_t, i_mle_t, i_nle_m, rz_0, rz_1, if_true, if_false, cl_some, ldI_at, ldJ_at, stI_at, stZ_at, stJ_at, pfI_at, pfJ_at, jn_at, dvI_at, rmI_at, irem_at, nI_add, pk_mul, pk_sub, n_dec, n_sub1]
theorem s_lineOf {l : Nat} (h : ph_Hp) (hl : l < 9) : f_X1_lineOf (nI l) h = some (h.1 34 l, h) := by
  unfold f_X1_lineOf; simp (disch := omega) only [i_lt_f, i_lt_t, i_le_f, i_le_t, i_eq_f, i_eq_t, i_m1_lt, i_eqm_f, i_meq_f, i_mm_t, i_mle_t, i_nle_m, rz_0, rz_1, if_true, if_false, cl_some, ldI_at, ldJ_at, stI_at, stZ_at, stJ_at, pfI_at, pfJ_at, jn_at, dvI_at, rmI_at, irem_at, nI_add, pk_mul, pk_sub, n_dec, n_sub1]
def q_bh (hb own nx ah l : Int32) : Int32 := if hb = nI 0 then nx else if hb = nI 1 then l else if hb = nI 2 then (if l = own then nx else own) else if nx = own ∨ ah = own then own else l
theorem s_byHabit {k : Nat} {l nx ah : Int32} (h : ph_Hp) (hk : k < 9) : f_X1_byHabit (nI k) l nx ah h = some (q_bh (h.1 33 k) (h.1 34 k) nx ah l, h) := by
  unfold f_X1_byHabit q_bh
  rw [s_lineOf h hk, cl_some, s_habitOf h hk, cl_some]
  by_cases c0 : h.1 33 k = nI 0
  · rw [if_pos c0, if_pos c0]
  rw [if_neg c0, if_neg c0]
  by_cases c1 : h.1 33 k = nI 1
  · rw [if_pos c1, if_pos c1]
  rw [if_neg c1, if_neg c1]
  by_cases c2 : h.1 33 k = nI 2
  · rw [if_pos c2, if_pos c2]
    by_cases c3 : l = h.1 34 k
    · rw [if_pos c3, if_pos c3]
    · rw [if_neg c3, if_neg c3]
  rw [if_neg c2, if_neg c2, jn_at]
  by_cases c3 : nx = h.1 34 k
  · rw [if_pos c3, if_pos (Or.inl c3)]
  · rw [if_neg c3]
    by_cases c4 : ah = h.1 34 k
    · rw [if_pos c4, if_pos (Or.inr c4)]
    · rw [if_neg c4, if_neg (fun z => z.elim c3 c4)]
theorem q_bh_th {S : q_S} {k l : Nat} (w : q_wf S) (hp : q_pl S ≠ 0) (hk : k < q_hn S) (hl : l < 8) : q_bh (nI (q_hh S k)) (nI (q_hl S k)) (q_lv S (q_nx S l)) (q_lv S (q_ah S l)) (nI l) = nI (q_th S k l) := by
  have h1 := q_hh_lt S k
  have h2 := q_hl_lt hk
  have h3 := q_nx_lt hp l
  have h4 := q_ah_lt hp l
  unfold q_bh q_th
  rw [q_lv_1 hp, q_lv_1 hp]
  rcases (show q_hh S k = 0 ∨ q_hh S k = 1 ∨ q_hh S k = 2 ∨ q_hh S k = 3 by omega) with e | e | e | e
  · rw [e]; rfl
  · rw [e]; simp (disch := omega) only [i_lt_f, i_lt_t, i_le_f, i_le_t, i_eq_f, i_eq_t, i_m1_lt, i_eqm_f, i_meq_f, i_mm_t, i_mle_t, i_nle_m, rz_0, rz_1, if_true, if_false, cl_some, ldI_at, ldJ_at, stI_at, stZ_at, stJ_at, pfI_at, pfJ_at, jn_at, dvI_at, rmI_at, irem_at, nI_add, pk_mul, pk_sub, n_dec, n_sub1]; rfl
  · rw [e, if_neg (show ¬ nI 2 = nI 0 by decide), if_neg (show ¬ nI 2 = nI 1 by decide), if_pos rfl, if_neg (show ¬ 2 = 0 by decide), if_neg (show ¬ 2 = 1 by decide), if_pos rfl]
    by_cases c : l = q_hl S k
    · rw [if_pos (by rw [c]), if_pos c]
    · rw [if_neg (by rw [nI_eq (by omega) (by omega)]; exact c), if_neg c]
  · rw [e, if_neg (show ¬ nI 3 = nI 0 by decide), if_neg (show ¬ nI 3 = nI 1 by decide), if_neg (show ¬ nI 3 = nI 2 by decide), if_neg (show ¬ 3 = 0 by decide), if_neg (show ¬ 3 = 1 by decide), if_neg (show ¬ 3 = 2 by decide)]
    have e1 : (nI (q_nx S l) = nI (q_hl S k) ∨ nI (q_ah S l) = nI (q_hl S k)) ↔ (q_nx S l = q_hl S k ∨ q_ah S l = q_hl S k) := by
      rw [nI_eq (by omega) (by omega), nI_eq (by omega) (by omega)]
    by_cases c : q_nx S l = q_hl S k ∨ q_ah S l = q_hl S k
    · rw [if_pos (e1.mpr c), if_pos c]
    · rw [if_neg (fun z => c (e1.mp z)), if_neg c]
theorem s_think {S : q_S} {h : ph_Hp} (w : q_wf S) (ka : q_A S h) (kb : q_B S h) : ph_O (f_X1_think h) (fun _ g => q_T S g ∧ q_ag [35] h g) := by
  have hhn := q_hn_le w
  unfold f_X1_think
  refine O_for 9 (fun i y => y.1 = nI i ∧ (∀ k, k < i → ∀ l, l < 8 → y.2.1 35 (k * 8 + l) = q_bh (h.1 33 k) (h.1 34 k) (h.1 28 l) (h.1 29 l) (nI l)) ∧ q_ag [35] h y.2) (by omega) ⟨rfl, fun k hk => absurd hk (Nat.not_lt_zero k), q_ag_rf _ h⟩ ?_ ?_
  · rintro rec i ⟨x, g⟩ hi ⟨ex, e1, e2⟩ hrec
    dsimp only at ex e1 e2 ⊢
    subst ex
    rw [if_neg (by rw [nI_leI (by decide) (by omega)]; omega)]
    refine O_for 8 (fun j y => y.1 = nI j ∧ (∀ k, k < i → ∀ l, l < 8 → y.2.1 35 (k * 8 + l) = q_bh (h.1 33 k) (h.1 34 k) (h.1 28 l) (h.1 29 l) (nI l)) ∧ (∀ l, l < j → y.2.1 35 (i * 8 + l) = q_bh (h.1 33 i) (h.1 34 i) (h.1 28 l) (h.1 29 l) (nI l)) ∧ q_ag [35] h y.2) (by omega) ⟨rfl, e1, fun k hk => absurd hk (Nat.not_lt_zero k), e2⟩ ?_ ?_
    · rintro rec2 j ⟨x, g⟩ hj ⟨ex, e1, e3, e2⟩ hrec2
      dsimp only at ex e1 e2 e3 ⊢
      subst ex
      simp (disch := omega) only [i_lt_f, i_lt_t, i_le_f, i_le_t, i_eq_f, i_eq_t, i_m1_lt, i_eqm_f, i_meq_f, i_mm_t, i_mle_t, i_nle_m, rz_0, rz_1, if_true, if_false, cl_some, ldI_at, ldJ_at, stI_at, stZ_at, stJ_at, pfI_at, pfJ_at, jn_at, dvI_at, rmI_at, irem_at, nI_add, pk_mul, pk_sub, n_dec, n_sub1]
      rw [s_nextTo g hj, cl_some, s_aheadOf g hj, cl_some, s_byHabit g hi, cl_some]
      try simp (disch := omega) only [i_lt_f, i_lt_t, i_le_f, i_le_t, i_eq_f, i_eq_t, i_m1_lt, i_eqm_f, i_meq_f, i_mm_t, i_mle_t, i_nle_m, rz_0, rz_1, if_true, if_false, cl_some, ldI_at, ldJ_at, stI_at, stZ_at, stJ_at, pfI_at, pfJ_at, jn_at, dvI_at, rmI_at, irem_at, nI_add, pk_mul, pk_sub, n_dec, n_sub1]
      have ga : ∀ i, i ≠ 35 → g.1 i = h.1 i := fun i hi => (e2 i (by simpa using hi)).1
      rw [ga 33 (by decide), ga 34 (by decide), ga 28 (by decide), ga 29 (by decide)]
      refine hrec2 _ ⟨rfl, fun k hk l hl => ?_, fun l hl => ?_, q_ag_sI e2 (by decide)⟩
      · dsimp only
        rw [sI_eq, if_neg (by omega)]; exact e1 k hk l hl
      · dsimp only
        rw [sI_eq]
        by_cases c : l = j
        · rw [if_pos (by omega), c]
        · rw [if_neg (by omega)]; exact e3 l (by omega)
    · rintro rec2 ⟨x, g⟩ ⟨ex, e1, e3, e2⟩
      dsimp only at ex e1 e2 e3 ⊢
      subst ex
      simp (disch := omega) only [i_lt_f, i_lt_t, i_le_f, i_le_t, i_eq_f, i_eq_t, i_m1_lt, i_eqm_f, i_meq_f, i_mm_t, i_mle_t, i_nle_m, rz_0, rz_1, if_true, if_false, cl_some, ldI_at, ldJ_at, stI_at, stZ_at, stJ_at, pfI_at, pfJ_at, jn_at, dvI_at, rmI_at, irem_at, nI_add, pk_mul, pk_sub, n_dec, n_sub1]
      refine hrec _ ⟨rfl, fun k hk l hl => ?_, e2⟩
      rcases Nat.lt_or_ge k i with q | q
      · exact e1 k q l hl
      · have : k = i := by omega
        subst this
        exact e3 l hl
  · rintro rec ⟨x, g⟩ ⟨ex, e1, e2⟩
    dsimp only at ex e1 e2 ⊢
    subst ex
    simp (disch := omega) only [i_lt_f, i_lt_t, i_le_f, i_le_t, i_eq_f, i_eq_t, i_m1_lt, i_eqm_f, i_meq_f, i_mm_t, i_mle_t, i_nle_m, rz_0, rz_1, if_true, if_false, cl_some, ldI_at, ldJ_at, stI_at, stZ_at, stJ_at, pfI_at, pfJ_at, jn_at, dvI_at, rmI_at, irem_at, nI_add, pk_mul, pk_sub, n_dec, n_sub1]
    refine O_ret ⟨fun hp k hk l hl => ?_, e2⟩
    rw [e1 k (by omega) l hl, (kb.2.2 k hk).2.2.1, (kb.2.2 k hk).2.2.2, ka.2.2.2.1 l hl, ka.2.2.2.2 l hl]
    exact q_bh_th w hp hk hl
-- moves, coughs, darks
def q_w2 (S : q_S) : Nat → Nat → Option Nat
  | 0 => fun _ => none
  | n + 1 => fun t => if t = S.2.1 2 n then some (S.2.1 3 n) else q_w2 S n t
def q_cy (S : q_S) (n : Nat) : Nat → Nat × Nat
  | 0 => match q_w2 S n 0 with
    | some p => (1, p)
    | none => (0, 0)
  | t + 1 => match q_w2 S n (t + 1) with
    | some p => (t + 2, p)
    | none => q_cy S n t
theorem q_cy_le (S : q_S) (n : Nat) : ∀ t, (q_cy S n t).1 ≤ t + 1
  | 0 => by unfold q_cy; cases q_w2 S n 0 <;> simp
  | t + 1 => by
    have ih := q_cy_le S n t
    unfold q_cy
    cases q_w2 S n (t + 1) with
    | none => simp; omega
    | some p => simp
theorem q_cy_s (S : q_S) (n : Nat) : ∀ t, q_cy S (n + 1) t = if (q_cy S n t).1 ≤ S.2.1 2 n + 1 ∧ S.2.1 2 n ≤ t then (S.2.1 2 n + 1, S.2.1 3 n) else q_cy S n t
  | 0 => by
    have hl := q_cy_le S n 0
    by_cases c : S.2.1 2 n = 0
    · rw [if_pos ⟨by omega, by omega⟩]
      simp [q_cy, q_w2, c]
    · rw [if_neg (by omega)]
      have : ¬ 0 = S.2.1 2 n := fun z => c z.symm
      simp [q_cy, q_w2, this]
  | t + 1 => by
    have ih := q_cy_s S n t
    have hl := q_cy_le S n (t + 1)
    by_cases c : S.2.1 2 n = t + 1
    · rw [if_pos ⟨by omega, by omega⟩]
      simp [q_cy, q_w2, c]
    · have c2 : ¬ t + 1 = S.2.1 2 n := fun z => c z.symm
      have e : q_w2 S (n + 1) (t + 1) = q_w2 S n (t + 1) := by simp [q_w2, c2]
      have l1 : q_cy S (n + 1) (t + 1) = match q_w2 S n (t + 1) with
        | some p => (t + 2, p)
        | none => q_cy S (n + 1) t := by rw [← e]; rfl
      have l2 : q_cy S n (t + 1) = match q_w2 S n (t + 1) with
        | some p => (t + 2, p)
        | none => q_cy S n t := rfl
      rw [l1]
      cases hw : q_w2 S n (t + 1) with
      | some p =>
        rw [hw] at l2
        rw [l2]
        rw [if_neg (by show ¬ (t + 2 ≤ S.2.1 2 n + 1 ∧ S.2.1 2 n ≤ t + 1); omega)]
      | none =>
        rw [hw] at l2
        rw [l2]
        show q_cy S (n + 1) t = _
        rw [ih]
        by_cases c3 : (q_cy S n t).1 ≤ S.2.1 2 n + 1 ∧ S.2.1 2 n ≤ t
        · rw [if_pos c3, if_pos (by show (q_cy S n t).1 ≤ S.2.1 2 n + 1 ∧ S.2.1 2 n ≤ t + 1; omega)]
        · rw [if_neg c3, if_neg (by show ¬ ((q_cy S n t).1 ≤ S.2.1 2 n + 1 ∧ S.2.1 2 n ≤ t + 1); omega)]
theorem q_cy_wn (S : q_S) (t : Nat) : ∀ n, q_cy S n t = q_wn S t n
  | 0 => by
    have : ∀ t, q_cy S 0 t = (0, 0) := by
      intro t
      induction t with
      | zero => rfl
      | succ t ih => exact ih
    exact this t
  | n + 1 => by rw [q_cy_s, q_cy_wn S t n]; rfl
def q_wI (o : Option Nat) : Int32 := match o with
  | none => (-1)
  | some p => nI p
theorem q_narZ0 : vp_nar .boolean (nI 0) = nI 0 := by decide
theorem q_narZ1 : vp_nar .boolean (nI 1) = nI 1 := by decide
def q_Cw (S : q_S) (m c d : Nat) (h : ph_Hp) : Prop := ∀ t, t < 40 → h.1 36 t = q_wI (q_w2 S m t) ∧ h.1 37 t = q_cn S c t ∧ h.1 38 t = (if q_dn S t d then nI 1 else nI 0)
theorem s_set {S : q_S} {h : ph_Hp} (w : q_wf S) (kp : CP S h) : ph_O (f_X6_set h) (fun _ g => q_Cw S (S.1 2) (S.1 3) (S.1 4) g ∧ q_ag [36, 37, 38] h g) := by
  obtain ⟨k1, k2, k3, k4, k5, k6, k7, k8, k9, k10, k11⟩ := kp
  obtain ⟨⟨n0, n1, n2, n3, n4, n5⟩, wb, -⟩ := w
  unfold f_X6_set
  refine O_for 40 (fun i y => y.1 = nI i ∧ (∀ t, t < i → y.2.1 36 t = (-1) ∧ y.2.1 37 t = nI 0 ∧ y.2.1 38 t = (if t = 0 then nI 1 else nI 0)) ∧ q_ag [36, 37, 38] h y.2) (by omega) ⟨rfl, fun k hk => absurd hk (Nat.not_lt_zero k), q_ag_rf _ h⟩ ?_ ?_
  · rintro rec i ⟨x, g⟩ hi ⟨ex, e1, e2⟩ hrec
    dsimp only at ex e1 e2 ⊢
    subst ex
    have fin : ∀ z : Int32, vp_nar .boolean z = (if i = 0 then nI 1 else nI 0) → ph_O (rec (nI (i + 1), ph_sI (ph_sI (ph_sI g 36 i (-1)) 37 i (nI 0)) 38 i (vp_nar .boolean z))) (fun _ g => q_Cw S (S.1 2) (S.1 3) (S.1 4) g ∧ q_ag [36, 37, 38] h g) := by
      intro z hz
      refine hrec _ ⟨rfl, fun t ht => ?_, q_ag_sI (q_ag_sI (q_ag_sI e2 (by decide)) (by decide)) (by decide)⟩
      dsimp only
      rw [sI_ne _ _ _ (show 36 ≠ 38 by decide), sI_ne _ _ _ (show 36 ≠ 37 by decide), sI_eq, sI_ne _ _ _ (show 37 ≠ 38 by decide), sI_eq, sI_eq, sI_ne _ _ _ (show 37 ≠ 36 by decide), sI_ne _ _ _ (show 38 ≠ 37 by decide), sI_ne _ _ _ (show 38 ≠ 36 by decide)]
      by_cases c : t = i
      · rw [if_pos c, if_pos c, if_pos c, hz, c]; exact ⟨rfl, rfl, rfl⟩
      · rw [if_neg c, if_neg c, if_neg c]; exact e1 t (by omega)
    simp (disch := omega) only [i_lt_f, i_lt_t, i_le_f, i_le_t, i_eq_f, i_eq_t, i_m1_lt, i_eqm_f, i_meq_f, i_mm_t, i_mle_t, i_nle_m, rz_0, rz_1, if_true, if_false, cl_some, ldI_at, ldJ_at, stI_at, stZ_at, stJ_at, pfI_at, pfJ_at, jn_at, dvI_at, rmI_at, irem_at, nI_add, pk_mul, pk_sub, n_dec, n_sub1]
    by_cases c : i = 0
    · simp (disch := omega) only [i_lt_f, i_lt_t, i_le_f, i_le_t, i_eq_f, i_eq_t, i_m1_lt, i_eqm_f, i_meq_f, i_mm_t, i_mle_t, i_nle_m, rz_0, rz_1, if_true, if_false, cl_some, ldI_at, ldJ_at, stI_at, stZ_at, stJ_at, pfI_at, pfJ_at, jn_at, dvI_at, rmI_at, irem_at, nI_add, pk_mul, pk_sub, n_dec, n_sub1]
      exact fin _ (by rw [if_pos c]; exact q_narZ1)
    · simp (disch := omega) only [i_lt_f, i_lt_t, i_le_f, i_le_t, i_eq_f, i_eq_t, i_m1_lt, i_eqm_f, i_meq_f, i_mm_t, i_mle_t, i_nle_m, rz_0, rz_1, if_true, if_false, cl_some, ldI_at, ldJ_at, stI_at, stZ_at, stJ_at, pfI_at, pfJ_at, jn_at, dvI_at, rmI_at, irem_at, nI_add, pk_mul, pk_sub, n_dec, n_sub1]
      exact fin _ (by rw [if_neg c]; exact q_narZ0)
  · rintro rec ⟨x, g⟩ ⟨ex, e1, e2⟩
    dsimp only at ex e1 e2 ⊢
    subst ex
    simp (disch := omega) only [i_lt_f, i_lt_t, i_le_f, i_le_t, i_eq_f, i_eq_t, i_m1_lt, i_eqm_f, i_meq_f, i_mm_t, i_mle_t, i_nle_m, rz_0, rz_1, if_true, if_false, cl_some, ldI_at, ldJ_at, stI_at, stZ_at, stJ_at, pfI_at, pfJ_at, jn_at, dvI_at, rmI_at, irem_at, nI_add, pk_mul, pk_sub, n_dec, n_sub1]
    refine O_for (S.1 2) (fun i y => y.1 = nI i ∧ q_Cw S i 0 0 y.2 ∧ q_ag [36, 37, 38] h y.2) (by omega) ⟨rfl, fun t ht => ⟨(e1 t ht).1, (e1 t ht).2.1, by rw [(e1 t ht).2.2]; simp [q_dn]⟩, e2⟩ ?_ ?_
    · rintro rec i ⟨x, g⟩ hi ⟨ex, e1, e2⟩ hrec
      dsimp only at ex e1 e2 ⊢
      subst ex
      have w1 := (wb i).2.2.1
      rw [s_Tsize t_5, cl_some, (e2 6 (by decide)).1, k3.1]
      simp (disch := omega) only [i_lt_f, i_lt_t, i_le_f, i_le_t, i_eq_f, i_eq_t, i_m1_lt, i_eqm_f, i_meq_f, i_mm_t, i_mle_t, i_nle_m, rz_0, rz_1, if_true, if_false, cl_some, ldI_at, ldJ_at, stI_at, stZ_at, stJ_at, pfI_at, pfJ_at, jn_at, dvI_at, rmI_at, irem_at, nI_add, pk_mul, pk_sub, n_dec, n_sub1]
      rw [s_Tstep t_5 g (by omega), cl_some, (e2 7 (by decide)).1, k3.2 i hi, s_wi g w1 (by decide), cl_some]
      simp (disch := omega) only [i_lt_f, i_lt_t, i_le_f, i_le_t, i_eq_f, i_eq_t, i_m1_lt, i_eqm_f, i_meq_f, i_mm_t, i_mle_t, i_nle_m, rz_0, rz_1, if_true, if_false, cl_some, ldI_at, ldJ_at, stI_at, stZ_at, stJ_at, pfI_at, pfJ_at, jn_at, dvI_at, rmI_at, irem_at, nI_add, pk_mul, pk_sub, n_dec, n_sub1]
      rw [s_Tval t_5 g (by omega), cl_some, (e2 9 (by decide)).1, k4.2 i hi]
      try simp (disch := omega) only [i_lt_f, i_lt_t, i_le_f, i_le_t, i_eq_f, i_eq_t, i_m1_lt, i_eqm_f, i_meq_f, i_mm_t, i_mle_t, i_nle_m, rz_0, rz_1, if_true, if_false, cl_some, ldI_at, ldJ_at, stI_at, stZ_at, stJ_at, pfI_at, pfJ_at, jn_at, dvI_at, rmI_at, irem_at, nI_add, pk_mul, pk_sub, n_dec, n_sub1]
      refine hrec _ ⟨rfl, fun t ht => ?_, q_ag_sI e2 (by decide)⟩
      dsimp only
      rw [sI_ne _ _ _ (show 37 ≠ 36 by decide), sI_ne _ _ _ (show 38 ≠ 36 by decide), sI_eq]
      refine ⟨?_, (e1 t ht).2⟩
      unfold q_w2
      by_cases c : t = S.2.1 2 i
      · rw [if_pos c, if_pos c]; rfl
      · rw [if_neg c, if_neg c]; exact (e1 t ht).1
    · rintro rec ⟨x, g⟩ ⟨ex, e1, e2⟩
      dsimp only at ex e1 e2 ⊢
      subst ex
      rw [s_Tsize t_5, cl_some, (e2 6 (by decide)).1, k3.1]
      simp (disch := omega) only [i_lt_f, i_lt_t, i_le_f, i_le_t, i_eq_f, i_eq_t, i_m1_lt, i_eqm_f, i_meq_f, i_mm_t, i_mle_t, i_nle_m, rz_0, rz_1, if_true, if_false, cl_some, ldI_at, ldJ_at, stI_at, stZ_at, stJ_at, pfI_at, pfJ_at, jn_at, dvI_at, rmI_at, irem_at, nI_add, pk_mul, pk_sub, n_dec, n_sub1]
      refine O_for (S.1 3) (fun i y => y.1 = nI i ∧ q_Cw S (S.1 2) i 0 y.2 ∧ q_ag [36, 37, 38] h y.2) (by omega) ⟨rfl, e1, e2⟩ ?_ ?_
      · rintro rec i ⟨x, g⟩ hi ⟨ex, e1, e2⟩ hrec
        dsimp only at ex e1 e2 ⊢
        subst ex
        have w1 := (wb i).2.2.2.2.1
        rw [s_Tsize t_10, cl_some, (e2 11 (by decide)).1, k5.1]
        simp (disch := omega) only [i_lt_f, i_lt_t, i_le_f, i_le_t, i_eq_f, i_eq_t, i_m1_lt, i_eqm_f, i_meq_f, i_mm_t, i_mle_t, i_nle_m, rz_0, rz_1, if_true, if_false, cl_some, ldI_at, ldJ_at, stI_at, stZ_at, stJ_at, pfI_at, pfJ_at, jn_at, dvI_at, rmI_at, irem_at, nI_add, pk_mul, pk_sub, n_dec, n_sub1]
        rw [s_Tstep t_10 g (by omega), cl_some, (e2 12 (by decide)).1, k5.2 i hi, s_wi g w1 (by decide), cl_some]
        simp (disch := omega) only [i_lt_f, i_lt_t, i_le_f, i_le_t, i_eq_f, i_eq_t, i_m1_lt, i_eqm_f, i_meq_f, i_mm_t, i_mle_t, i_nle_m, rz_0, rz_1, if_true, if_false, cl_some, ldI_at, ldJ_at, stI_at, stZ_at, stJ_at, pfI_at, pfJ_at, jn_at, dvI_at, rmI_at, irem_at, nI_add, pk_mul, pk_sub, n_dec, n_sub1]
        rw [s_Tval t_10 g (by omega), cl_some, (e2 14 (by decide)).1, k6.2 i hi]
        try simp (disch := omega) only [i_lt_f, i_lt_t, i_le_f, i_le_t, i_eq_f, i_eq_t, i_m1_lt, i_eqm_f, i_meq_f, i_mm_t, i_mle_t, i_nle_m, rz_0, rz_1, if_true, if_false, cl_some, ldI_at, ldJ_at, stI_at, stZ_at, stJ_at, pfI_at, pfJ_at, jn_at, dvI_at, rmI_at, irem_at, nI_add, pk_mul, pk_sub, n_dec, n_sub1]
        refine hrec _ ⟨rfl, fun t ht => ?_, q_ag_sI e2 (by decide)⟩
        dsimp only
        rw [sI_ne _ _ _ (show 36 ≠ 37 by decide), sI_ne _ _ _ (show 38 ≠ 37 by decide), sI_eq]
        refine ⟨(e1 t ht).1, ?_, (e1 t ht).2.2⟩
        unfold q_cn
        by_cases c : t = S.2.1 4 i
        · rw [if_pos c, if_pos c, c, (e1 _ w1).2.1]
        · rw [if_neg c, if_neg c]; exact (e1 t ht).2.1
      · rintro rec ⟨x, g⟩ ⟨ex, e1, e2⟩
        dsimp only at ex e1 e2 ⊢
        subst ex
        rw [s_Tsize t_10, cl_some, (e2 11 (by decide)).1, k5.1]
        simp (disch := omega) only [i_lt_f, i_lt_t, i_le_f, i_le_t, i_eq_f, i_eq_t, i_m1_lt, i_eqm_f, i_meq_f, i_mm_t, i_mle_t, i_nle_m, rz_0, rz_1, if_true, if_false, cl_some, ldI_at, ldJ_at, stI_at, stZ_at, stJ_at, pfI_at, pfJ_at, jn_at, dvI_at, rmI_at, irem_at, nI_add, pk_mul, pk_sub, n_dec, n_sub1]
        refine O_for (S.1 4) (fun i y => y.1 = nI i ∧ q_Cw S (S.1 2) (S.1 3) i y.2 ∧ q_ag [36, 37, 38] h y.2) (by omega) ⟨rfl, e1, e2⟩ ?_ ?_
        · rintro rec i ⟨x, g⟩ hi ⟨ex, e1, e2⟩ hrec
          dsimp only at ex e1 e2 ⊢
          subst ex
          have w1 := (wb i).2.2.2.2.2.2.1
          rw [s_Tsize t_15, cl_some, (e2 16 (by decide)).1, k7.1]
          simp (disch := omega) only [i_lt_f, i_lt_t, i_le_f, i_le_t, i_eq_f, i_eq_t, i_m1_lt, i_eqm_f, i_meq_f, i_mm_t, i_mle_t, i_nle_m, rz_0, rz_1, if_true, if_false, cl_some, ldI_at, ldJ_at, stI_at, stZ_at, stJ_at, pfI_at, pfJ_at, jn_at, dvI_at, rmI_at, irem_at, nI_add, pk_mul, pk_sub, n_dec, n_sub1]
          rw [s_Tstep t_15 g (by omega), cl_some, (e2 17 (by decide)).1, k7.2 i hi, s_wi g w1 (by decide), cl_some]
          simp (disch := omega) only [i_lt_f, i_lt_t, i_le_f, i_le_t, i_eq_f, i_eq_t, i_m1_lt, i_eqm_f, i_meq_f, i_mm_t, i_mle_t, i_nle_m, rz_0, rz_1, if_true, if_false, cl_some, ldI_at, ldJ_at, stI_at, stZ_at, stJ_at, pfI_at, pfJ_at, jn_at, dvI_at, rmI_at, irem_at, nI_add, pk_mul, pk_sub, n_dec, n_sub1, q_narZ1]
          refine hrec _ ⟨rfl, fun t ht => ?_, q_ag_sI e2 (by decide)⟩
          dsimp only
          rw [sI_ne _ _ _ (show 36 ≠ 38 by decide), sI_ne _ _ _ (show 37 ≠ 38 by decide), sI_eq]
          refine ⟨(e1 t ht).1, (e1 t ht).2.1, ?_⟩
          by_cases c : t = S.2.1 6 i
          · rw [if_pos c, if_pos (by simp [q_dn, c])]
          · have c2 : ¬ S.2.1 6 i = t := fun z => c z.symm
            rw [if_neg c, (e1 t ht).2.2]
            simp [q_dn, c2]
        · rintro rec ⟨x, g⟩ ⟨ex, e1, e2⟩
          dsimp only at ex e1 e2 ⊢
          subst ex
          rw [s_Tsize t_15, cl_some, (e2 16 (by decide)).1, k7.1]
          simp (disch := omega) only [i_lt_f, i_lt_t, i_le_f, i_le_t, i_eq_f, i_eq_t, i_m1_lt, i_eqm_f, i_meq_f, i_mm_t, i_mle_t, i_nle_m, rz_0, rz_1, if_true, if_false, cl_some, ldI_at, ldJ_at, stI_at, stZ_at, stJ_at, pfI_at, pfJ_at, jn_at, dvI_at, rmI_at, irem_at, nI_add, pk_mul, pk_sub, n_dec, n_sub1]
          exact O_ret ⟨e1, e2⟩
