-- the class: the holes' text
theorem s_habitBy {b : Nat} (h : ph_Hp) (hb : b < 256) : f_X1_habitBy (nI b) h = some (if q_ok1 2 b = true then nI (q_hb b) else (-1), h) := by
  have hq : q_ok1 2 b = decide (b = 108 ∨ b = 110 ∨ b = 114 ∨ b = 121) := rfl
  unfold f_X1_habitBy q_hb
  rw [hq]
  by_cases c1 : b = 108
  · subst c1; rfl
  by_cases c2 : b = 110
  · subst c2; simp (disch := omega) only [i_lt_f, i_lt_t, i_le_f, i_le_t, i_eq_f, i_eq_t, i_m1_lt, i_eqm_f, i_meq_f, i_mm_t, i_mle_t, i_nle_m, rz_0, rz_1, if_true, if_false, cl_some, ldI_at, ldJ_at, stI_at, stZ_at, stJ_at, pfI_at, pfJ_at, jn_at, dvI_at, rmI_at, irem_at, nI_add, pk_mul, pk_sub, n_dec, n_sub1]; rfl
  by_cases c3 : b = 114
  · subst c3; simp (disch := omega) only [i_lt_f, i_lt_t, i_le_f, i_le_t, i_eq_f, i_eq_t, i_m1_lt, i_eqm_f, i_meq_f, i_mm_t, i_mle_t, i_nle_m, rz_0, rz_1, if_true, if_false, cl_some, ldI_at, ldJ_at, stI_at, stZ_at, stJ_at, pfI_at, pfJ_at, jn_at, dvI_at, rmI_at, irem_at, nI_add, pk_mul, pk_sub, n_dec, n_sub1]; rfl
  by_cases c4 : b = 121
  · subst c4; simp (disch := omega) only [i_lt_f, i_lt_t, i_le_f, i_le_t, i_eq_f, i_eq_t, i_m1_lt, i_eqm_f, i_meq_f, i_mm_t, i_mle_t, i_nle_m, rz_0, rz_1, if_true, if_false, cl_some, ldI_at, ldJ_at, stI_at, stZ_at, stJ_at, pfI_at, pfJ_at, jn_at, dvI_at, rmI_at, irem_at, nI_add, pk_mul, pk_sub, n_dec, n_sub1]; rfl
  rw [if_neg (show ¬ decide (b = 108 ∨ b = 110 ∨ b = 114 ∨ b = 121) = true by simp; omega)]
  simp (disch := omega) only [i_lt_f, i_lt_t, i_le_f, i_le_t, i_eq_f, i_eq_t, i_m1_lt, i_eqm_f, i_meq_f, i_mm_t, i_mle_t, i_nle_m, rz_0, rz_1, if_true, if_false, cl_some, ldI_at, ldJ_at, stI_at, stZ_at, stJ_at, pfI_at, pfJ_at, jn_at, dvI_at, rmI_at, irem_at, nI_add, pk_mul, pk_sub, n_dec, n_sub1]
theorem s_goesOn {j b : Nat} (h : ph_Hp) (hj : j < 5) (hb : b < 256) : f_X1_goesOn (nI j) (nI b) h = some (if q_ok1 j b = true then nI 1 else nI 0, h) := by
  unfold f_X1_goesOn
  rcases (show j = 0 ∨ j = 1 ∨ j = 2 ∨ j = 3 ∨ j = 4 by omega) with rfl | rfl | rfl | rfl | rfl
  · simp (disch := omega) only [i_lt_f, i_lt_t, i_le_f, i_le_t, i_eq_f, i_eq_t, i_m1_lt, i_eqm_f, i_meq_f, i_mm_t, i_mle_t, i_nle_m, rz_0, rz_1, if_true, if_false, cl_some, ldI_at, ldJ_at, stI_at, stZ_at, stJ_at, pfI_at, pfJ_at, jn_at, dvI_at, rmI_at, irem_at, nI_add, pk_mul, pk_sub, n_dec, n_sub1]
    by_cases c1 : b < 97
    · rw [if_neg (show ¬ q_ok1 0 b = true by simp [q_ok1]; omega)]; simp (disch := omega) only [i_lt_f, i_lt_t, i_le_f, i_le_t, i_eq_f, i_eq_t, i_m1_lt, i_eqm_f, i_meq_f, i_mm_t, i_mle_t, i_nle_m, rz_0, rz_1, if_true, if_false, cl_some, ldI_at, ldJ_at, stI_at, stZ_at, stJ_at, pfI_at, pfJ_at, jn_at, dvI_at, rmI_at, irem_at, nI_add, pk_mul, pk_sub, n_dec, n_sub1]
    by_cases c2 : 106 < b
    · rw [if_neg (show ¬ q_ok1 0 b = true by simp [q_ok1]; omega)]; simp (disch := omega) only [i_lt_f, i_lt_t, i_le_f, i_le_t, i_eq_f, i_eq_t, i_m1_lt, i_eqm_f, i_meq_f, i_mm_t, i_mle_t, i_nle_m, rz_0, rz_1, if_true, if_false, cl_some, ldI_at, ldJ_at, stI_at, stZ_at, stJ_at, pfI_at, pfJ_at, jn_at, dvI_at, rmI_at, irem_at, nI_add, pk_mul, pk_sub, n_dec, n_sub1]
    rw [if_pos (show q_ok1 0 b = true by simp [q_ok1]; omega)]; simp (disch := omega) only [i_lt_f, i_lt_t, i_le_f, i_le_t, i_eq_f, i_eq_t, i_m1_lt, i_eqm_f, i_meq_f, i_mm_t, i_mle_t, i_nle_m, rz_0, rz_1, if_true, if_false, cl_some, ldI_at, ldJ_at, stI_at, stZ_at, stJ_at, pfI_at, pfJ_at, jn_at, dvI_at, rmI_at, irem_at, nI_add, pk_mul, pk_sub, n_dec, n_sub1]
  · simp (disch := omega) only [i_lt_f, i_lt_t, i_le_f, i_le_t, i_eq_f, i_eq_t, i_m1_lt, i_eqm_f, i_meq_f, i_mm_t, i_mle_t, i_nle_m, rz_0, rz_1, if_true, if_false, cl_some, ldI_at, ldJ_at, stI_at, stZ_at, stJ_at, pfI_at, pfJ_at, jn_at, dvI_at, rmI_at, irem_at, nI_add, pk_mul, pk_sub, n_dec, n_sub1]
    by_cases c1 : b < 48
    · rw [if_neg (show ¬ q_ok1 1 b = true by simp [q_ok1]; omega)]; simp (disch := omega) only [i_lt_f, i_lt_t, i_le_f, i_le_t, i_eq_f, i_eq_t, i_m1_lt, i_eqm_f, i_meq_f, i_mm_t, i_mle_t, i_nle_m, rz_0, rz_1, if_true, if_false, cl_some, ldI_at, ldJ_at, stI_at, stZ_at, stJ_at, pfI_at, pfJ_at, jn_at, dvI_at, rmI_at, irem_at, nI_add, pk_mul, pk_sub, n_dec, n_sub1]
    by_cases c2 : 57 < b
    · rw [if_neg (show ¬ q_ok1 1 b = true by simp [q_ok1]; omega)]; simp (disch := omega) only [i_lt_f, i_lt_t, i_le_f, i_le_t, i_eq_f, i_eq_t, i_m1_lt, i_eqm_f, i_meq_f, i_mm_t, i_mle_t, i_nle_m, rz_0, rz_1, if_true, if_false, cl_some, ldI_at, ldJ_at, stI_at, stZ_at, stJ_at, pfI_at, pfJ_at, jn_at, dvI_at, rmI_at, irem_at, nI_add, pk_mul, pk_sub, n_dec, n_sub1]
    rw [if_pos (show q_ok1 1 b = true by simp [q_ok1]; omega)]; simp (disch := omega) only [i_lt_f, i_lt_t, i_le_f, i_le_t, i_eq_f, i_eq_t, i_m1_lt, i_eqm_f, i_meq_f, i_mm_t, i_mle_t, i_nle_m, rz_0, rz_1, if_true, if_false, cl_some, ldI_at, ldJ_at, stI_at, stZ_at, stJ_at, pfI_at, pfJ_at, jn_at, dvI_at, rmI_at, irem_at, nI_add, pk_mul, pk_sub, n_dec, n_sub1]
  · simp (disch := omega) only [i_lt_f, i_lt_t, i_le_f, i_le_t, i_eq_f, i_eq_t, i_m1_lt, i_eqm_f, i_meq_f, i_mm_t, i_mle_t, i_nle_m, rz_0, rz_1, if_true, if_false, cl_some, ldI_at, ldJ_at, stI_at, stZ_at, stJ_at, pfI_at, pfJ_at, jn_at, dvI_at, rmI_at, irem_at, nI_add, pk_mul, pk_sub, n_dec, n_sub1]
    rw [s_habitBy h hb, cl_some]
    have : q_hb b < 4 := by unfold q_hb; split <;> (try split) <;> (try split) <;> omega
    by_cases c : q_ok1 2 b = true
    · rw [if_pos c, if_pos c]; simp (disch := omega) only [i_lt_f, i_lt_t, i_le_f, i_le_t, i_eq_f, i_eq_t, i_m1_lt, i_eqm_f, i_meq_f, i_mm_t, i_mle_t, i_nle_m, rz_0, rz_1, if_true, if_false, cl_some, ldI_at, ldJ_at, stI_at, stZ_at, stJ_at, pfI_at, pfJ_at, jn_at, dvI_at, rmI_at, irem_at, nI_add, pk_mul, pk_sub, n_dec, n_sub1]
    · rw [if_neg c, if_neg c]; simp (disch := omega) only [i_lt_f, i_lt_t, i_le_f, i_le_t, i_eq_f, i_eq_t, i_m1_lt, i_eqm_f, i_meq_f, i_mm_t, i_mle_t, i_nle_m, rz_0, rz_1, if_true, if_false, cl_some, ldI_at, ldJ_at, stI_at, stZ_at, stJ_at, pfI_at, pfJ_at, jn_at, dvI_at, rmI_at, irem_at, nI_add, pk_mul, pk_sub, n_dec, n_sub1]
  · simp (disch := omega) only [i_lt_f, i_lt_t, i_le_f, i_le_t, i_eq_f, i_eq_t, i_m1_lt, i_eqm_f, i_meq_f, i_mm_t, i_mle_t, i_nle_m, rz_0, rz_1, if_true, if_false, cl_some, ldI_at, ldJ_at, stI_at, stZ_at, stJ_at, pfI_at, pfJ_at, jn_at, dvI_at, rmI_at, irem_at, nI_add, pk_mul, pk_sub, n_dec, n_sub1]
    by_cases c1 : b < 97
    · rw [if_neg (show ¬ q_ok1 3 b = true by simp [q_ok1]; omega)]; simp (disch := omega) only [i_lt_f, i_lt_t, i_le_f, i_le_t, i_eq_f, i_eq_t, i_m1_lt, i_eqm_f, i_meq_f, i_mm_t, i_mle_t, i_nle_m, rz_0, rz_1, if_true, if_false, cl_some, ldI_at, ldJ_at, stI_at, stZ_at, stJ_at, pfI_at, pfJ_at, jn_at, dvI_at, rmI_at, irem_at, nI_add, pk_mul, pk_sub, n_dec, n_sub1]
    by_cases c2 : 104 < b
    · rw [if_neg (show ¬ q_ok1 3 b = true by simp [q_ok1]; omega)]; simp (disch := omega) only [i_lt_f, i_lt_t, i_le_f, i_le_t, i_eq_f, i_eq_t, i_m1_lt, i_eqm_f, i_meq_f, i_mm_t, i_mle_t, i_nle_m, rz_0, rz_1, if_true, if_false, cl_some, ldI_at, ldJ_at, stI_at, stZ_at, stJ_at, pfI_at, pfJ_at, jn_at, dvI_at, rmI_at, irem_at, nI_add, pk_mul, pk_sub, n_dec, n_sub1]
    rw [if_pos (show q_ok1 3 b = true by simp [q_ok1]; omega)]; simp (disch := omega) only [i_lt_f, i_lt_t, i_le_f, i_le_t, i_eq_f, i_eq_t, i_m1_lt, i_eqm_f, i_meq_f, i_mm_t, i_mle_t, i_nle_m, rz_0, rz_1, if_true, if_false, cl_some, ldI_at, ldJ_at, stI_at, stZ_at, stJ_at, pfI_at, pfJ_at, jn_at, dvI_at, rmI_at, irem_at, nI_add, pk_mul, pk_sub, n_dec, n_sub1]
  · simp (disch := omega) only [i_lt_f, i_lt_t, i_le_f, i_le_t, i_eq_f, i_eq_t, i_m1_lt, i_eqm_f, i_meq_f, i_mm_t, i_mle_t, i_nle_m, rz_0, rz_1, if_true, if_false, cl_some, ldI_at, ldJ_at, stI_at, stZ_at, stJ_at, pfI_at, pfJ_at, jn_at, dvI_at, rmI_at, irem_at, nI_add, pk_mul, pk_sub, n_dec, n_sub1]
    by_cases c1 : b = 59
    · rw [if_pos (show q_ok1 4 b = true by simp [q_ok1, c1])]; simp (disch := omega) only [i_lt_f, i_lt_t, i_le_f, i_le_t, i_eq_f, i_eq_t, i_m1_lt, i_eqm_f, i_meq_f, i_mm_t, i_mle_t, i_nle_m, rz_0, rz_1, if_true, if_false, cl_some, ldI_at, ldJ_at, stI_at, stZ_at, stJ_at, pfI_at, pfJ_at, jn_at, dvI_at, rmI_at, irem_at, nI_add, pk_mul, pk_sub, n_dec, n_sub1]
    · rw [if_neg (show ¬ q_ok1 4 b = true by simp [q_ok1, c1])]; simp (disch := omega) only [i_lt_f, i_lt_t, i_le_f, i_le_t, i_eq_f, i_eq_t, i_m1_lt, i_eqm_f, i_meq_f, i_mm_t, i_mle_t, i_nle_m, rz_0, rz_1, if_true, if_false, cl_some, ldI_at, ldJ_at, stI_at, stZ_at, stJ_at, pfI_at, pfJ_at, jn_at, dvI_at, rmI_at, irem_at, nI_add, pk_mul, pk_sub, n_dec, n_sub1]
theorem s_fault1 {S : q_S} {h : ph_Hp} (w : q_wf S) (k1 : cR 3 4 (S.1 1) (S.2.1 1) h) : f_X1_faultOf h = some (q_f1 S, h) := by
  have hn : S.1 1 ≤ 44 := w.1.2.1
  have hm : q_m1 S ≤ S.1 1 := q_ff_le _ _
  unfold f_X1_faultOf
  rw [s_Rsize r_3, cl_some, k1.1]
  refine lp_for (st := fun i => (nI i, h)) (q_m1 S) (by omega) rfl (fun rec i hi => ?_) (fun rec => ?_)
  · have h1 := q_hb_ok hi
    have hb := (w.2.1 i).2.1
    dsimp only
    simp (disch := omega) only [i_lt_f, i_lt_t, i_le_f, i_le_t, i_eq_f, i_eq_t, i_m1_lt, i_eqm_f, i_meq_f, i_mm_t, i_mle_t, i_nle_m, rz_0, rz_1, if_true, if_false, cl_some, ldI_at, ldJ_at, stI_at, stZ_at, stJ_at, pfI_at, pfJ_at, jn_at, dvI_at, rmI_at, irem_at, nI_add, pk_mul, pk_sub, n_dec, n_sub1]
    rw [s_Rat r_3 h (by omega), cl_some, k1.2 i (by omega), s_goesOn h (by omega) hb, cl_some, if_pos h1]
    simp (disch := omega) only [i_lt_f, i_lt_t, i_le_f, i_le_t, i_eq_f, i_eq_t, i_m1_lt, i_eqm_f, i_meq_f, i_mm_t, i_mle_t, i_nle_m, rz_0, rz_1, if_true, if_false, cl_some, ldI_at, ldJ_at, stI_at, stZ_at, stJ_at, pfI_at, pfJ_at, jn_at, dvI_at, rmI_at, irem_at, nI_add, pk_mul, pk_sub, n_dec, n_sub1]
  · dsimp only
    unfold q_f1
    by_cases c : q_m1 S < S.1 1
    · have h1 := q_ff_yes (fun k => !q_ok1 (k % 5) (S.2.1 1 k)) (S.1 1) c
      have h1 : ¬ q_ok1 (q_m1 S % 5) (S.2.1 1 (q_m1 S)) = true := by
        have h2 : (!q_ok1 (q_m1 S % 5) (S.2.1 1 (q_m1 S))) = true := h1
        simpa using h2
      have hb := (w.2.1 (q_m1 S)).2.1
      rw [if_pos c]
      simp (disch := omega) only [i_lt_f, i_lt_t, i_le_f, i_le_t, i_eq_f, i_eq_t, i_m1_lt, i_eqm_f, i_meq_f, i_mm_t, i_mle_t, i_nle_m, rz_0, rz_1, if_true, if_false, cl_some, ldI_at, ldJ_at, stI_at, stZ_at, stJ_at, pfI_at, pfJ_at, jn_at, dvI_at, rmI_at, irem_at, nI_add, pk_mul, pk_sub, n_dec, n_sub1]
      rw [s_Rat r_3 h (by omega), cl_some, k1.2 _ c, s_goesOn h (by omega) hb, cl_some, if_neg h1]
      simp (disch := omega) only [i_lt_f, i_lt_t, i_le_f, i_le_t, i_eq_f, i_eq_t, i_m1_lt, i_eqm_f, i_meq_f, i_mm_t, i_mle_t, i_nle_m, rz_0, rz_1, if_true, if_false, cl_some, ldI_at, ldJ_at, stI_at, stZ_at, stJ_at, pfI_at, pfJ_at, jn_at, dvI_at, rmI_at, irem_at, nI_add, pk_mul, pk_sub, n_dec, n_sub1]
    · have e : q_m1 S = S.1 1 := by omega
      rw [if_neg c, e]
      simp (disch := omega) only [i_lt_f, i_lt_t, i_le_f, i_le_t, i_eq_f, i_eq_t, i_m1_lt, i_eqm_f, i_meq_f, i_mm_t, i_mle_t, i_nle_m, rz_0, rz_1, if_true, if_false, cl_some, ldI_at, ldJ_at, stI_at, stZ_at, stJ_at, pfI_at, pfJ_at, jn_at, dvI_at, rmI_at, irem_at, nI_add, pk_mul, pk_sub, n_dec, n_sub1]
      by_cases c0 : S.1 1 = 0
      · rw [if_pos (Or.inl c0)]
        simp (disch := omega) only [i_lt_f, i_lt_t, i_le_f, i_le_t, i_eq_f, i_eq_t, i_m1_lt, i_eqm_f, i_meq_f, i_mm_t, i_mle_t, i_nle_m, rz_0, rz_1, if_true, if_false, cl_some, ldI_at, ldJ_at, stI_at, stZ_at, stJ_at, pfI_at, pfJ_at, jn_at, dvI_at, rmI_at, irem_at, nI_add, pk_mul, pk_sub, n_dec, n_sub1]
      by_cases c4 : S.1 1 % 5 = 4
      · rw [if_pos (Or.inr c4)]
        simp (disch := omega) only [i_lt_f, i_lt_t, i_le_f, i_le_t, i_eq_f, i_eq_t, i_m1_lt, i_eqm_f, i_meq_f, i_mm_t, i_mle_t, i_nle_m, rz_0, rz_1, if_true, if_false, cl_some, ldI_at, ldJ_at, stI_at, stZ_at, stJ_at, pfI_at, pfJ_at, jn_at, dvI_at, rmI_at, irem_at, nI_add, pk_mul, pk_sub, n_dec, n_sub1]
      rw [if_neg (show ¬ (S.1 1 = 0 ∨ S.1 1 % 5 = 4) by omega)]
      simp (disch := omega) only [i_lt_f, i_lt_t, i_le_f, i_le_t, i_eq_f, i_eq_t, i_m1_lt, i_eqm_f, i_meq_f, i_mm_t, i_mle_t, i_nle_m, rz_0, rz_1, if_true, if_false, cl_some, ldI_at, ldJ_at, stI_at, stZ_at, stJ_at, pfI_at, pfJ_at, jn_at, dvI_at, rmI_at, irem_at, nI_add, pk_mul, pk_sub, n_dec, n_sub1]
theorem s_parse1 {S : q_S} {h : ph_Hp} (w : q_wf S) (k1 : cR 3 4 (S.1 1) (S.2.1 1) h) : ph_O (f_X1_parse h) (fun _ g => q_B S g ∧ q_ag [30, 31, 32, 33, 34] h g) := by
  have hn : S.1 1 ≤ 44 := w.1.2.1
  have hhn := q_hn_le w
  unfold f_X1_parse
  rw [s_fault1 w k1, cl_some, pfI_at]
  refine O_jn (fun x => x.1 = nI (q_hn S) ∧ x.2.1 30 6 = q_f1 S ∧ q_ag [30, 31, 32, 33, 34] h x.2) ?_ ?_
  · rintro ⟨x7, h8⟩ ⟨e7, e8, a8⟩
    dsimp only at e7 e8 a8 ⊢
    subst e7
    rw [pfI_at]
    refine O_for (q_hn S) (fun i y => y.1 = nI i ∧ y.2.1 30 5 = nI (q_hn S) ∧ y.2.1 30 6 = q_f1 S ∧ (∀ k, k < i → y.2.1 31 k = nI (q_hp S k) ∧ y.2.1 32 k = nI (q_hr S k) ∧ y.2.1 33 k = nI (q_hh S k) ∧ y.2.1 34 k = nI (q_hl S k)) ∧ q_ag [30, 31, 32, 33, 34] h y.2) (by omega) ⟨rfl, by rw [sI_eq, if_pos rfl], by rw [sI_eq, if_neg (by decide)]; exact e8, fun k hk => absurd hk (Nat.not_lt_zero k), q_ag_sI a8 (by decide)⟩ ?_ ?_
    · rintro rec i ⟨x, g⟩ hi ⟨ex, e1, e2, e3, e4⟩ hrec
      dsimp only at ex e1 e2 e3 e4 ⊢
      subst ex
      have kg : cR 3 4 (S.1 1) (S.2.1 1) g := cR_ag k1 (e4 3 (by decide)).1 (e4 4 (by decide)).1
      obtain ⟨f1, f2, -⟩ := q_hn_at hi
      have hb0 := q_h0 hi
      have hb1 := q_h1 hi
      have hb2 := q_h2 hi
      have hb3 := q_h3 hi
      have hr : ∀ (g2 : ph_Hp) (k : Nat), g2.1 4 = g.1 4 → k < S.1 1 → f_X4_at 3 (nI k) g2 = some (nI (S.2.1 1 k), g2) := fun g2 k eg hk => by
        rw [s_Rat r_3 g2 (by omega), eg, kg.2 k hk]
      rw [e1]
      simp (disch := omega) only [i_lt_f, i_lt_t, i_le_f, i_le_t, i_eq_f, i_eq_t, i_m1_lt, i_eqm_f, i_meq_f, i_mm_t, i_mle_t, i_nle_m, rz_0, rz_1, if_true, if_false, cl_some, ldI_at, ldJ_at, stI_at, stZ_at, stJ_at, pfI_at, pfJ_at, jn_at, dvI_at, rmI_at, irem_at, nI_add, pk_mul, pk_sub, n_dec, n_sub1]
      rw [hr g (i * 5) rfl (by omega), cl_some]
      try simp (disch := omega) only [i_lt_f, i_lt_t, i_le_f, i_le_t, i_eq_f, i_eq_t, i_m1_lt, i_eqm_f, i_meq_f, i_mm_t, i_mle_t, i_nle_m, rz_0, rz_1, if_true, if_false, cl_some, ldI_at, ldJ_at, stI_at, stZ_at, stJ_at, pfI_at, pfJ_at, jn_at, dvI_at, rmI_at, irem_at, nI_add, pk_mul, pk_sub, n_dec, n_sub1]
      rw [hr _ (i * 5 + 1) (by rw [sI_ne _ _ _ (by decide)]) (by omega), cl_some]
      try simp (disch := omega) only [i_lt_f, i_lt_t, i_le_f, i_le_t, i_eq_f, i_eq_t, i_m1_lt, i_eqm_f, i_meq_f, i_mm_t, i_mle_t, i_nle_m, rz_0, rz_1, if_true, if_false, cl_some, ldI_at, ldJ_at, stI_at, stZ_at, stJ_at, pfI_at, pfJ_at, jn_at, dvI_at, rmI_at, irem_at, nI_add, pk_mul, pk_sub, n_dec, n_sub1]
      rw [hr _ (i * 5 + 2) (by rw [sI_ne _ _ _ (by decide), sI_ne _ _ _ (by decide)]) (by omega), cl_some, s_habitBy _ (w.2.1 _).2.1, cl_some, if_pos (by
        have hq : q_ok1 2 (S.2.1 1 (i * 5 + 2)) = decide (S.2.1 1 (i * 5 + 2) = 108 ∨ S.2.1 1 (i * 5 + 2) = 110 ∨ S.2.1 1 (i * 5 + 2) = 114 ∨ S.2.1 1 (i * 5 + 2) = 121) := rfl
        rw [hq, Nat.mul_comm]
        exact decide_eq_true hb2)]
      try simp (disch := omega) only [i_lt_f, i_lt_t, i_le_f, i_le_t, i_eq_f, i_eq_t, i_m1_lt, i_eqm_f, i_meq_f, i_mm_t, i_mle_t, i_nle_m, rz_0, rz_1, if_true, if_false, cl_some, ldI_at, ldJ_at, stI_at, stZ_at, stJ_at, pfI_at, pfJ_at, jn_at, dvI_at, rmI_at, irem_at, nI_add, pk_mul, pk_sub, n_dec, n_sub1]
      rw [hr _ (i * 5 + 3) (by rw [sI_ne _ _ _ (by decide), sI_ne _ _ _ (by decide), sI_ne _ _ _ (by decide)]) (by omega), cl_some]
      rw [Nat.mul_comm i 5]
      try simp (disch := omega) only [i_lt_f, i_lt_t, i_le_f, i_le_t, i_eq_f, i_eq_t, i_m1_lt, i_eqm_f, i_meq_f, i_mm_t, i_mle_t, i_nle_m, rz_0, rz_1, if_true, if_false, cl_some, ldI_at, ldJ_at, stI_at, stZ_at, stJ_at, pfI_at, pfJ_at, jn_at, dvI_at, rmI_at, irem_at, nI_add, pk_mul, pk_sub, n_dec, n_sub1]
      refine hrec _ ⟨rfl, by simp only [sI_ne _ _ _ (show 30 ≠ 34 by decide), sI_ne _ _ _ (show 30 ≠ 33 by decide), sI_ne _ _ _ (show 30 ≠ 32 by decide), sI_ne _ _ _ (show 30 ≠ 31 by decide)]; exact e1, by simp only [sI_ne _ _ _ (show 30 ≠ 34 by decide), sI_ne _ _ _ (show 30 ≠ 33 by decide), sI_ne _ _ _ (show 30 ≠ 32 by decide), sI_ne _ _ _ (show 30 ≠ 31 by decide)]; exact e2, fun k hk => ?_, q_ag_sI (q_ag_sI (q_ag_sI (q_ag_sI e4 (by decide)) (by decide)) (by decide)) (by decide)⟩
      dsimp only
      rw [sI_ne _ _ _ (show 31 ≠ 34 by decide), sI_ne _ _ _ (show 31 ≠ 33 by decide), sI_ne _ _ _ (show 31 ≠ 32 by decide), sI_eq, sI_ne _ _ _ (show 32 ≠ 34 by decide), sI_ne _ _ _ (show 32 ≠ 33 by decide), sI_eq, sI_ne _ _ _ (show 33 ≠ 34 by decide), sI_eq, sI_eq, sI_ne _ _ _ (show 32 ≠ 31 by decide), sI_ne _ _ _ (show 33 ≠ 32 by decide), sI_ne _ _ _ (show 33 ≠ 31 by decide), sI_ne _ _ _ (show 34 ≠ 33 by decide), sI_ne _ _ _ (show 34 ≠ 32 by decide), sI_ne _ _ _ (show 34 ≠ 31 by decide)]
      by_cases c : k = i
      · rw [if_pos c, if_pos c, if_pos c, if_pos c, c]
        exact ⟨rfl, rfl, rfl, rfl⟩
      · rw [if_neg c, if_neg c, if_neg c, if_neg c]
        exact e3 k (by omega)
    · rintro rec ⟨x, g⟩ ⟨ex, e1, e2, e3, e4⟩
      dsimp only at ex e1 e2 e3 e4 ⊢
      subst ex
      rw [e1]
      simp (disch := omega) only [i_lt_f, i_lt_t, i_le_f, i_le_t, i_eq_f, i_eq_t, i_m1_lt, i_eqm_f, i_meq_f, i_mm_t, i_mle_t, i_nle_m, rz_0, rz_1, if_true, if_false, cl_some, ldI_at, ldJ_at, stI_at, stZ_at, stJ_at, pfI_at, pfJ_at, jn_at, dvI_at, rmI_at, irem_at, nI_add, pk_mul, pk_sub, n_dec, n_sub1]
      exact O_ret ⟨⟨e1, e2, e3⟩, e4⟩
  · intro j hj
    have hm : q_m1 S ≤ S.1 1 := q_ff_le _ _
    rw [sI_eq, if_pos rfl, s_Rsize r_3, cl_some, sI_ne _ _ _ (by decide), k1.1]
    have hq : q_f1 S = (-1) ↔ (¬ q_m1 S < S.1 1 ∧ (S.1 1 = 0 ∨ S.1 1 % 5 = 4)) := by
      unfold q_f1
      by_cases c : q_m1 S < S.1 1
      · rw [if_pos c]
        constructor
        · intro e; exact absurd e (n_ne1 (by omega))
        · intro e; exact absurd c e.1
      · rw [if_neg c]
        by_cases c2 : S.1 1 = 0 ∨ S.1 1 % 5 = 4
        · rw [if_pos c2]; exact ⟨fun _ => ⟨c, c2⟩, fun _ => rfl⟩
        · rw [if_neg c2]
          constructor
          · intro e; exact absurd e (n_ne1 (by omega))
          · intro e; exact absurd e.2 c2
    by_cases c : q_f1 S = (-1)
    · obtain ⟨d1, d2⟩ := hq.mp c
      rw [if_pos c]
      simp (disch := omega) only [i_lt_f, i_lt_t, i_le_f, i_le_t, i_eq_f, i_eq_t, i_m1_lt, i_eqm_f, i_meq_f, i_mm_t, i_mle_t, i_nle_m, rz_0, rz_1, if_true, if_false, cl_some, ldI_at, ldJ_at, stI_at, stZ_at, stJ_at, pfI_at, pfJ_at, jn_at, dvI_at, rmI_at, irem_at, nI_add, pk_mul, pk_sub, n_dec, n_sub1, pk_div]
      refine hj _ ⟨?_, by rw [sI_eq, if_pos rfl], q_ag_sI (q_ag_rf _ h) (by decide)⟩
      unfold q_hn
      rw [if_neg d1, if_pos d2]
    · rw [if_neg c]
      refine hj _ ⟨?_, by rw [sI_eq, if_pos rfl], q_ag_sI (q_ag_rf _ h) (by decide)⟩
      unfold q_hn
      by_cases d1 : q_m1 S < S.1 1
      · rw [if_pos d1]
      · rw [if_neg d1, if_neg (fun d2 => c (hq.mpr ⟨d1, d2⟩))]
