def Cq {ρ : Type} (h : ph_Hp) (r : ρ) (S2 : q_S) : ρ → ph_Hp → Prop := fun v g => v = r ∧ CI S2 g ∧ q_aM h g
theorem CI_stale {S : q_S} {g : ph_Hp} (w : q_wf S) (k : CP S g) (e : g.1 0 13 = S.2.2.2.2.2) (k7 : g.1 0 7 = nI 1) : CI S g := ⟨w, k, e, Or.inl k7⟩
theorem k_type (S : q_S) (h : ph_Hp) (K : CI S h) (x1 x2 : Int32) : ph_O (f_X8_type x1 x2 h) (Cq h (sp_type S x1 x2).1 (sp_type S x1 x2).2) := by
  obtain ⟨w, kp, kf, ks⟩ := id K
  obtain ⟨k1, k2, k3, k4, k5, k6, k7, k8, k9, k10, k11⟩ := id kp
  unfold f_X8_type sp_type
  rcases q_ins x1 2 (by decide) with ⟨e_t, b_t⟩ | ⟨t, h_t, rfl, e_t⟩
  · rw [s_wo h b_t, cl_some, e_t]
    simp (disch := omega) only [i_lt_f, i_lt_t, i_le_f, i_le_t, i_eq_f, i_eq_t, i_m1_lt, i_eqm_f, i_meq_f, i_mm_t, i_mle_t, i_nle_m, rz_0, rz_1, if_true, if_false, cl_some, ldI_at, ldJ_at, stI_at, stZ_at, stJ_at, pfI_at, pfJ_at, jn_at, dvI_at, rmI_at, irem_at, nI_add, pk_mul, pk_sub, n_dec, n_sub1]
    exact O_ret ⟨rfl, K, q_aM_rf h⟩
  rw [s_wi h h_t (by decide), cl_some, e_t]
  simp (disch := omega) only [i_lt_f, i_lt_t, i_le_f, i_le_t, i_eq_f, i_eq_t, i_m1_lt, i_eqm_f, i_meq_f, i_mm_t, i_mle_t, i_nle_m, rz_0, rz_1, if_true, if_false, cl_some, ldI_at, ldJ_at, stI_at, stZ_at, stJ_at, pfI_at, pfJ_at, jn_at, dvI_at, rmI_at, irem_at, nI_add, pk_mul, pk_sub, n_dec, n_sub1]
  rcases q_ins x2 256 (by decide) with ⟨e_b, b_b⟩ | ⟨b, h_b, rfl, e_b⟩
  · rw [s_wo h b_b, cl_some, e_b]
    simp (disch := omega) only [i_lt_f, i_lt_t, i_le_f, i_le_t, i_eq_f, i_eq_t, i_m1_lt, i_eqm_f, i_meq_f, i_mm_t, i_mle_t, i_nle_m, rz_0, rz_1, if_true, if_false, cl_some, ldI_at, ldJ_at, stI_at, stZ_at, stJ_at, pfI_at, pfJ_at, jn_at, dvI_at, rmI_at, irem_at, nI_add, pk_mul, pk_sub, n_dec, n_sub1]
    exact O_ret ⟨rfl, K, q_aM_rf h⟩
  rw [s_wi h h_b (by decide), cl_some, e_b]
  simp (disch := omega) only [i_lt_f, i_lt_t, i_le_f, i_le_t, i_eq_f, i_eq_t, i_m1_lt, i_eqm_f, i_meq_f, i_mm_t, i_mle_t, i_nle_m, rz_0, rz_1, if_true, if_false, cl_some, ldI_at, ldJ_at, stI_at, stZ_at, stJ_at, pfI_at, pfJ_at, jn_at, dvI_at, rmI_at, irem_at, nI_add, pk_mul, pk_sub, n_dec, n_sub1]
  have hcap := wf_cap w (j := t) (by omega)
  rcases (show t = 0 ∨ t = 1 by omega) with rfl | rfl
  · unfold f_X8_textOf
    simp (disch := omega) only [i_lt_f, i_lt_t, i_le_f, i_le_t, i_eq_f, i_eq_t, i_m1_lt, i_eqm_f, i_meq_f, i_mm_t, i_mle_t, i_nle_m, rz_0, rz_1, if_true, if_false, cl_some, ldI_at, ldJ_at, stI_at, stZ_at, stJ_at, pfI_at, pfJ_at, jn_at, dvI_at, rmI_at, irem_at, nI_add, pk_mul, pk_sub, n_dec, n_sub1]
    rw [isK_at r_1.1, s_Rfull r_1 k1.1 hcap, cl_some]
    by_cases c : S.1 0 = 24
    · rw [if_pos c, if_pos (show S.1 0 = q_cap 0 from c)]
      simp (disch := omega) only [i_lt_f, i_lt_t, i_le_f, i_le_t, i_eq_f, i_eq_t, i_m1_lt, i_eqm_f, i_meq_f, i_mm_t, i_mle_t, i_nle_m, rz_0, rz_1, if_true, if_false, cl_some, ldI_at, ldJ_at, stI_at, stZ_at, stJ_at, pfI_at, pfJ_at, jn_at, dvI_at, rmI_at, irem_at, nI_add, pk_mul, pk_sub, n_dec, n_sub1]
      exact O_ret ⟨rfl, K, q_aM_rf h⟩
    · have hlt : S.1 0 < 24 := Nat.lt_of_le_of_ne hcap c
      rw [if_neg c, if_neg (show ¬ S.1 0 = q_cap 0 from c)]
      simp (disch := omega) only [i_lt_f, i_lt_t, i_le_f, i_le_t, i_eq_f, i_eq_t, i_m1_lt, i_eqm_f, i_meq_f, i_mm_t, i_mle_t, i_nle_m, rz_0, rz_1, if_true, if_false, cl_some, ldI_at, ldJ_at, stI_at, stZ_at, stJ_at, pfI_at, pfJ_at, jn_at, dvI_at, rmI_at, irem_at, nI_add, pk_mul, pk_sub, n_dec, n_sub1]
      rw [s_Radd r_1 _ k1.1 hlt, cl_some, s_Rsize r_1, cl_some, sI_ne _ _ _ (by decide), sI_eq, if_pos rfl]
      refine O_ret ⟨rfl, CI_stale (wf_cnt (wf_row w (by omega)) (by show S.1 0 + 1 ≤ 24; omega)) ⟨?_, ?_, ?_, ?_, ?_, ?_, ?_, ?_, ?_, ?_, ?_⟩ kf (by rw [sI_eq, if_pos rfl]), (q_aM_sI (q_aM_sI (q_aM_sI (q_aM_rf h) (by decide)) (by decide)) (by decide))⟩
      · exact (cR_ne (cR_push k1 (by decide) b) _ _ (by decide) (by decide))
      · exact (cR_ne (cR_ne (cR_ne k2 _ _ (by decide) (by decide)) _ _ (by decide) (by decide)) _ _ (by decide) (by decide))
      · exact (cR_ne (cR_ne (cR_ne k3 _ _ (by decide) (by decide)) _ _ (by decide) (by decide)) _ _ (by decide) (by decide))
      · exact (cR_ne (cR_ne (cR_ne k4 _ _ (by decide) (by decide)) _ _ (by decide) (by decide)) _ _ (by decide) (by decide))
      · exact (cR_ne (cR_ne (cR_ne k5 _ _ (by decide) (by decide)) _ _ (by decide) (by decide)) _ _ (by decide) (by decide))
      · exact (cR_ne (cR_ne (cR_ne k6 _ _ (by decide) (by decide)) _ _ (by decide) (by decide)) _ _ (by decide) (by decide))
      · exact (cR_ne (cR_ne (cR_ne k7 _ _ (by decide) (by decide)) _ _ (by decide) (by decide)) _ _ (by decide) (by decide))
      · exact (cR_ne (cR_ne (cR_ne k8 _ _ (by decide) (by decide)) _ _ (by decide) (by decide)) _ _ (by decide) (by decide))
      · exact (cR_ne (cR_ne (cR_ne k9 _ _ (by decide) (by decide)) _ _ (by decide) (by decide)) _ _ (by decide) (by decide))
      · exact (cR_ne (cR_ne (cR_ne k10 _ _ (by decide) (by decide)) _ _ (by decide) (by decide)) _ _ (by decide) (by decide))
      · exact k11
  · unfold f_X8_textOf
    simp (disch := omega) only [i_lt_f, i_lt_t, i_le_f, i_le_t, i_eq_f, i_eq_t, i_m1_lt, i_eqm_f, i_meq_f, i_mm_t, i_mle_t, i_nle_m, rz_0, rz_1, if_true, if_false, cl_some, ldI_at, ldJ_at, stI_at, stZ_at, stJ_at, pfI_at, pfJ_at, jn_at, dvI_at, rmI_at, irem_at, nI_add, pk_mul, pk_sub, n_dec, n_sub1]
    rw [isK_at r_3.1, s_Rfull r_3 k2.1 hcap, cl_some]
    by_cases c : S.1 1 = 44
    · rw [if_pos c, if_pos (show S.1 1 = q_cap 1 from c)]
      simp (disch := omega) only [i_lt_f, i_lt_t, i_le_f, i_le_t, i_eq_f, i_eq_t, i_m1_lt, i_eqm_f, i_meq_f, i_mm_t, i_mle_t, i_nle_m, rz_0, rz_1, if_true, if_false, cl_some, ldI_at, ldJ_at, stI_at, stZ_at, stJ_at, pfI_at, pfJ_at, jn_at, dvI_at, rmI_at, irem_at, nI_add, pk_mul, pk_sub, n_dec, n_sub1]
      exact O_ret ⟨rfl, K, q_aM_rf h⟩
    · have hlt : S.1 1 < 44 := Nat.lt_of_le_of_ne hcap c
      rw [if_neg c, if_neg (show ¬ S.1 1 = q_cap 1 from c)]
      simp (disch := omega) only [i_lt_f, i_lt_t, i_le_f, i_le_t, i_eq_f, i_eq_t, i_m1_lt, i_eqm_f, i_meq_f, i_mm_t, i_mle_t, i_nle_m, rz_0, rz_1, if_true, if_false, cl_some, ldI_at, ldJ_at, stI_at, stZ_at, stJ_at, pfI_at, pfJ_at, jn_at, dvI_at, rmI_at, irem_at, nI_add, pk_mul, pk_sub, n_dec, n_sub1]
      rw [s_Radd r_3 _ k2.1 hlt, cl_some, s_Rsize r_3, cl_some, sI_ne _ _ _ (by decide), sI_eq, if_pos rfl]
      refine O_ret ⟨rfl, CI_stale (wf_cnt (wf_row w (by omega)) (by show S.1 1 + 1 ≤ 44; omega)) ⟨?_, ?_, ?_, ?_, ?_, ?_, ?_, ?_, ?_, ?_, ?_⟩ kf (by rw [sI_eq, if_pos rfl]), (q_aM_sI (q_aM_sI (q_aM_sI (q_aM_rf h) (by decide)) (by decide)) (by decide))⟩
      · exact (cR_ne (cR_ne (cR_ne k1 _ _ (by decide) (by decide)) _ _ (by decide) (by decide)) _ _ (by decide) (by decide))
      · exact (cR_ne (cR_push k2 (by decide) b) _ _ (by decide) (by decide))
      · exact (cR_ne (cR_ne (cR_ne k3 _ _ (by decide) (by decide)) _ _ (by decide) (by decide)) _ _ (by decide) (by decide))
      · exact (cR_ne (cR_ne (cR_ne k4 _ _ (by decide) (by decide)) _ _ (by decide) (by decide)) _ _ (by decide) (by decide))
      · exact (cR_ne (cR_ne (cR_ne k5 _ _ (by decide) (by decide)) _ _ (by decide) (by decide)) _ _ (by decide) (by decide))
      · exact (cR_ne (cR_ne (cR_ne k6 _ _ (by decide) (by decide)) _ _ (by decide) (by decide)) _ _ (by decide) (by decide))
      · exact (cR_ne (cR_ne (cR_ne k7 _ _ (by decide) (by decide)) _ _ (by decide) (by decide)) _ _ (by decide) (by decide))
      · exact (cR_ne (cR_ne (cR_ne k8 _ _ (by decide) (by decide)) _ _ (by decide) (by decide)) _ _ (by decide) (by decide))
      · exact (cR_ne (cR_ne (cR_ne k9 _ _ (by decide) (by decide)) _ _ (by decide) (by decide)) _ _ (by decide) (by decide))
      · exact (cR_ne (cR_ne (cR_ne k10 _ _ (by decide) (by decide)) _ _ (by decide) (by decide)) _ _ (by decide) (by decide))
      · exact k11

theorem k_wipe (S : q_S) (h : ph_Hp) (K : CI S h) (x1 : Int32) : ph_O (f_X8_wipe x1 h) (Cq h (sp_wipe S x1).1 (sp_wipe S x1).2) := by
  obtain ⟨w, kp, kf, ks⟩ := id K
  obtain ⟨k1, k2, k3, k4, k5, k6, k7, k8, k9, k10, k11⟩ := id kp
  unfold f_X8_wipe sp_wipe
  rcases q_ins x1 2 (by decide) with ⟨e_t, b_t⟩ | ⟨t, h_t, rfl, e_t⟩
  · rw [s_wo h b_t, cl_some, e_t]
    simp (disch := omega) only [i_lt_f, i_lt_t, i_le_f, i_le_t, i_eq_f, i_eq_t, i_m1_lt, i_eqm_f, i_meq_f, i_mm_t, i_mle_t, i_nle_m, rz_0, rz_1, if_true, if_false, cl_some, ldI_at, ldJ_at, stI_at, stZ_at, stJ_at, pfI_at, pfJ_at, jn_at, dvI_at, rmI_at, irem_at, nI_add, pk_mul, pk_sub, n_dec, n_sub1]
    exact O_ret ⟨rfl, K, q_aM_rf h⟩
  rw [s_wi h h_t (by decide), cl_some, e_t]
  simp (disch := omega) only [i_lt_f, i_lt_t, i_le_f, i_le_t, i_eq_f, i_eq_t, i_m1_lt, i_eqm_f, i_meq_f, i_mm_t, i_mle_t, i_nle_m, rz_0, rz_1, if_true, if_false, cl_some, ldI_at, ldJ_at, stI_at, stZ_at, stJ_at, pfI_at, pfJ_at, jn_at, dvI_at, rmI_at, irem_at, nI_add, pk_mul, pk_sub, n_dec, n_sub1]
  rcases (show t = 0 ∨ t = 1 by omega) with rfl | rfl
  · unfold f_X8_textOf
    simp (disch := omega) only [i_lt_f, i_lt_t, i_le_f, i_le_t, i_eq_f, i_eq_t, i_m1_lt, i_eqm_f, i_meq_f, i_mm_t, i_mle_t, i_nle_m, rz_0, rz_1, if_true, if_false, cl_some, ldI_at, ldJ_at, stI_at, stZ_at, stJ_at, pfI_at, pfJ_at, jn_at, dvI_at, rmI_at, irem_at, nI_add, pk_mul, pk_sub, n_dec, n_sub1]
    rw [isK_at r_1.1, s_Rsize r_1, cl_some, s_Rclr r_1, cl_some, k1.1]
    refine O_ret ⟨rfl, CI_stale (wf_cnt w (by omega)) ⟨?_, ?_, ?_, ?_, ?_, ?_, ?_, ?_, ?_, ?_, ?_⟩ kf (by rw [sI_eq, if_pos rfl]), (q_aM_sI (q_aM_sI (q_aM_rf h) (by decide)) (by decide))⟩
    · exact (cR_ne (cR_size (m := 0) k1 (by omega) (by decide)) _ _ (by decide) (by decide))
    · exact (cR_ne (cR_ne k2 _ _ (by decide) (by decide)) _ _ (by decide) (by decide))
    · exact (cR_ne (cR_ne k3 _ _ (by decide) (by decide)) _ _ (by decide) (by decide))
    · exact (cR_ne (cR_ne k4 _ _ (by decide) (by decide)) _ _ (by decide) (by decide))
    · exact (cR_ne (cR_ne k5 _ _ (by decide) (by decide)) _ _ (by decide) (by decide))
    · exact (cR_ne (cR_ne k6 _ _ (by decide) (by decide)) _ _ (by decide) (by decide))
    · exact (cR_ne (cR_ne k7 _ _ (by decide) (by decide)) _ _ (by decide) (by decide))
    · exact (cR_ne (cR_ne k8 _ _ (by decide) (by decide)) _ _ (by decide) (by decide))
    · exact (cR_ne (cR_ne k9 _ _ (by decide) (by decide)) _ _ (by decide) (by decide))
    · exact (cR_ne (cR_ne k10 _ _ (by decide) (by decide)) _ _ (by decide) (by decide))
    · exact k11
  · unfold f_X8_textOf
    simp (disch := omega) only [i_lt_f, i_lt_t, i_le_f, i_le_t, i_eq_f, i_eq_t, i_m1_lt, i_eqm_f, i_meq_f, i_mm_t, i_mle_t, i_nle_m, rz_0, rz_1, if_true, if_false, cl_some, ldI_at, ldJ_at, stI_at, stZ_at, stJ_at, pfI_at, pfJ_at, jn_at, dvI_at, rmI_at, irem_at, nI_add, pk_mul, pk_sub, n_dec, n_sub1]
    rw [isK_at r_3.1, s_Rsize r_3, cl_some, s_Rclr r_3, cl_some, k2.1]
    refine O_ret ⟨rfl, CI_stale (wf_cnt w (by omega)) ⟨?_, ?_, ?_, ?_, ?_, ?_, ?_, ?_, ?_, ?_, ?_⟩ kf (by rw [sI_eq, if_pos rfl]), (q_aM_sI (q_aM_sI (q_aM_rf h) (by decide)) (by decide))⟩
    · exact (cR_ne (cR_ne k1 _ _ (by decide) (by decide)) _ _ (by decide) (by decide))
    · exact (cR_ne (cR_size (m := 0) k2 (by omega) (by decide)) _ _ (by decide) (by decide))
    · exact (cR_ne (cR_ne k3 _ _ (by decide) (by decide)) _ _ (by decide) (by decide))
    · exact (cR_ne (cR_ne k4 _ _ (by decide) (by decide)) _ _ (by decide) (by decide))
    · exact (cR_ne (cR_ne k5 _ _ (by decide) (by decide)) _ _ (by decide) (by decide))
    · exact (cR_ne (cR_ne k6 _ _ (by decide) (by decide)) _ _ (by decide) (by decide))
    · exact (cR_ne (cR_ne k7 _ _ (by decide) (by decide)) _ _ (by decide) (by decide))
    · exact (cR_ne (cR_ne k8 _ _ (by decide) (by decide)) _ _ (by decide) (by decide))
    · exact (cR_ne (cR_ne k9 _ _ (by decide) (by decide)) _ _ (by decide) (by decide))
    · exact (cR_ne (cR_ne k10 _ _ (by decide) (by decide)) _ _ (by decide) (by decide))
    · exact k11

theorem k_undo (S : q_S) (h : ph_Hp) (K : CI S h) (x1 : Int32) : ph_O (f_X8_undo x1 h) (Cq h (sp_undo S x1).1 (sp_undo S x1).2) := by
  obtain ⟨w, kp, kf, ks⟩ := id K
  obtain ⟨k1, k2, k3, k4, k5, k6, k7, k8, k9, k10, k11⟩ := id kp
  unfold f_X8_undo sp_undo
  rcases q_ins x1 2 (by decide) with ⟨e_t, b_t⟩ | ⟨t, h_t, rfl, e_t⟩
  · rw [s_wo h b_t, cl_some, e_t]
    simp (disch := omega) only [i_lt_f, i_lt_t, i_le_f, i_le_t, i_eq_f, i_eq_t, i_m1_lt, i_eqm_f, i_meq_f, i_mm_t, i_mle_t, i_nle_m, rz_0, rz_1, if_true, if_false, cl_some, ldI_at, ldJ_at, stI_at, stZ_at, stJ_at, pfI_at, pfJ_at, jn_at, dvI_at, rmI_at, irem_at, nI_add, pk_mul, pk_sub, n_dec, n_sub1]
    exact O_ret ⟨rfl, K, q_aM_rf h⟩
  rw [s_wi h h_t (by decide), cl_some, e_t]
  simp (disch := omega) only [i_lt_f, i_lt_t, i_le_f, i_le_t, i_eq_f, i_eq_t, i_m1_lt, i_eqm_f, i_meq_f, i_mm_t, i_mle_t, i_nle_m, rz_0, rz_1, if_true, if_false, cl_some, ldI_at, ldJ_at, stI_at, stZ_at, stJ_at, pfI_at, pfJ_at, jn_at, dvI_at, rmI_at, irem_at, nI_add, pk_mul, pk_sub, n_dec, n_sub1]
  have hcap := wf_cap w (j := t) (by omega)
  rcases (show t = 0 ∨ t = 1 by omega) with rfl | rfl
  · have hcap : S.1 0 ≤ 24 := hcap
    unfold f_X8_textOf
    simp (disch := omega) only [i_lt_f, i_lt_t, i_le_f, i_le_t, i_eq_f, i_eq_t, i_m1_lt, i_eqm_f, i_meq_f, i_mm_t, i_mle_t, i_nle_m, rz_0, rz_1, if_true, if_false, cl_some, ldI_at, ldJ_at, stI_at, stZ_at, stJ_at, pfI_at, pfJ_at, jn_at, dvI_at, rmI_at, irem_at, nI_add, pk_mul, pk_sub, n_dec, n_sub1]
    rw [isK_at r_1.1, s_Rsize r_1, cl_some, k1.1]
    by_cases c : S.1 0 = 0
    · rw [if_pos (by rw [c]), if_pos c]
      exact O_ret ⟨rfl, K, q_aM_rf h⟩
    · obtain ⟨m, em⟩ : ∃ m, S.1 0 = m + 1 := ⟨S.1 0 - 1, by omega⟩
      rw [if_neg (by rw [nI_eq (by omega) (by omega)]; exact c), if_neg c, s_Rcut r_1 (by rw [k1.1, em]) (by omega), cl_some, s_Rsize r_1, cl_some, sI_ne _ _ _ (by decide), sI_eq, if_pos rfl]
      rw [show S.1 0 - 1 = m by omega]
      refine O_ret ⟨rfl, CI_stale (wf_cnt w (by show m ≤ 24; omega)) ⟨?_, ?_, ?_, ?_, ?_, ?_, ?_, ?_, ?_, ?_, ?_⟩ kf (by rw [sI_eq, if_pos rfl]), (q_aM_sI (q_aM_sI (q_aM_rf h) (by decide)) (by decide))⟩
      · exact (cR_ne (cR_size (m := m) k1 (by omega) (by decide)) _ _ (by decide) (by decide))
      · exact (cR_ne (cR_ne k2 _ _ (by decide) (by decide)) _ _ (by decide) (by decide))
      · exact (cR_ne (cR_ne k3 _ _ (by decide) (by decide)) _ _ (by decide) (by decide))
      · exact (cR_ne (cR_ne k4 _ _ (by decide) (by decide)) _ _ (by decide) (by decide))
      · exact (cR_ne (cR_ne k5 _ _ (by decide) (by decide)) _ _ (by decide) (by decide))
      · exact (cR_ne (cR_ne k6 _ _ (by decide) (by decide)) _ _ (by decide) (by decide))
      · exact (cR_ne (cR_ne k7 _ _ (by decide) (by decide)) _ _ (by decide) (by decide))
      · exact (cR_ne (cR_ne k8 _ _ (by decide) (by decide)) _ _ (by decide) (by decide))
      · exact (cR_ne (cR_ne k9 _ _ (by decide) (by decide)) _ _ (by decide) (by decide))
      · exact (cR_ne (cR_ne k10 _ _ (by decide) (by decide)) _ _ (by decide) (by decide))
      · exact k11
  · have hcap : S.1 1 ≤ 44 := hcap
    unfold f_X8_textOf
    simp (disch := omega) only [i_lt_f, i_lt_t, i_le_f, i_le_t, i_eq_f, i_eq_t, i_m1_lt, i_eqm_f, i_meq_f, i_mm_t, i_mle_t, i_nle_m, rz_0, rz_1, if_true, if_false, cl_some, ldI_at, ldJ_at, stI_at, stZ_at, stJ_at, pfI_at, pfJ_at, jn_at, dvI_at, rmI_at, irem_at, nI_add, pk_mul, pk_sub, n_dec, n_sub1]
    rw [isK_at r_3.1, s_Rsize r_3, cl_some, k2.1]
    by_cases c : S.1 1 = 0
    · rw [if_pos (by rw [c]), if_pos c]
      exact O_ret ⟨rfl, K, q_aM_rf h⟩
    · obtain ⟨m, em⟩ : ∃ m, S.1 1 = m + 1 := ⟨S.1 1 - 1, by omega⟩
      rw [if_neg (by rw [nI_eq (by omega) (by omega)]; exact c), if_neg c, s_Rcut r_3 (by rw [k2.1, em]) (by omega), cl_some, s_Rsize r_3, cl_some, sI_ne _ _ _ (by decide), sI_eq, if_pos rfl]
      rw [show S.1 1 - 1 = m by omega]
      refine O_ret ⟨rfl, CI_stale (wf_cnt w (by show m ≤ 44; omega)) ⟨?_, ?_, ?_, ?_, ?_, ?_, ?_, ?_, ?_, ?_, ?_⟩ kf (by rw [sI_eq, if_pos rfl]), (q_aM_sI (q_aM_sI (q_aM_rf h) (by decide)) (by decide))⟩
      · exact (cR_ne (cR_ne k1 _ _ (by decide) (by decide)) _ _ (by decide) (by decide))
      · exact (cR_ne (cR_size (m := m) k2 (by omega) (by decide)) _ _ (by decide) (by decide))
      · exact (cR_ne (cR_ne k3 _ _ (by decide) (by decide)) _ _ (by decide) (by decide))
      · exact (cR_ne (cR_ne k4 _ _ (by decide) (by decide)) _ _ (by decide) (by decide))
      · exact (cR_ne (cR_ne k5 _ _ (by decide) (by decide)) _ _ (by decide) (by decide))
      · exact (cR_ne (cR_ne k6 _ _ (by decide) (by decide)) _ _ (by decide) (by decide))
      · exact (cR_ne (cR_ne k7 _ _ (by decide) (by decide)) _ _ (by decide) (by decide))
      · exact (cR_ne (cR_ne k8 _ _ (by decide) (by decide)) _ _ (by decide) (by decide))
      · exact (cR_ne (cR_ne k9 _ _ (by decide) (by decide)) _ _ (by decide) (by decide))
      · exact (cR_ne (cR_ne k10 _ _ (by decide) (by decide)) _ _ (by decide) (by decide))
      · exact k11

theorem k_move (S : q_S) (h : ph_Hp) (K : CI S h) (x1 x2 : Int32) : ph_O (f_X8_move x1 x2 h) (Cq h (sp_move S x1 x2).1 (sp_move S x1 x2).2) := by
  obtain ⟨w, kp, kf, ks⟩ := id K
  obtain ⟨k1, k2, k3, k4, k5, k6, k7, k8, k9, k10, k11⟩ := id kp
  unfold f_X8_move sp_move
  rcases q_ins x1 40 (by decide) with ⟨e_a, b_a⟩ | ⟨a, h_a, rfl, e_a⟩
  · rw [s_wo h b_a, cl_some, e_a]
    simp (disch := omega) only [i_lt_f, i_lt_t, i_le_f, i_le_t, i_eq_f, i_eq_t, i_m1_lt, i_eqm_f, i_meq_f, i_mm_t, i_mle_t, i_nle_m, rz_0, rz_1, if_true, if_false, cl_some, ldI_at, ldJ_at, stI_at, stZ_at, stJ_at, pfI_at, pfJ_at, jn_at, dvI_at, rmI_at, irem_at, nI_add, pk_mul, pk_sub, n_dec, n_sub1]
    exact O_ret ⟨rfl, K, q_aM_rf h⟩
  rw [s_wi h h_a (by decide), cl_some, e_a]
  simp (disch := omega) only [i_lt_f, i_lt_t, i_le_f, i_le_t, i_eq_f, i_eq_t, i_m1_lt, i_eqm_f, i_meq_f, i_mm_t, i_mle_t, i_nle_m, rz_0, rz_1, if_true, if_false, cl_some, ldI_at, ldJ_at, stI_at, stZ_at, stJ_at, pfI_at, pfJ_at, jn_at, dvI_at, rmI_at, irem_at, nI_add, pk_mul, pk_sub, n_dec, n_sub1]
  rcases q_ins x2 10 (by decide) with ⟨e_b, b_b⟩ | ⟨b, h_b, rfl, e_b⟩
  · rw [s_wo h b_b, cl_some, e_b]
    simp (disch := omega) only [i_lt_f, i_lt_t, i_le_f, i_le_t, i_eq_f, i_eq_t, i_m1_lt, i_eqm_f, i_meq_f, i_mm_t, i_mle_t, i_nle_m, rz_0, rz_1, if_true, if_false, cl_some, ldI_at, ldJ_at, stI_at, stZ_at, stJ_at, pfI_at, pfJ_at, jn_at, dvI_at, rmI_at, irem_at, nI_add, pk_mul, pk_sub, n_dec, n_sub1]
    exact O_ret ⟨rfl, K, q_aM_rf h⟩
  rw [s_wi h h_b (by decide), cl_some, e_b]
  simp (disch := omega) only [i_lt_f, i_lt_t, i_le_f, i_le_t, i_eq_f, i_eq_t, i_m1_lt, i_eqm_f, i_meq_f, i_mm_t, i_mle_t, i_nle_m, rz_0, rz_1, if_true, if_false, cl_some, ldI_at, ldJ_at, stI_at, stZ_at, stJ_at, pfI_at, pfJ_at, jn_at, dvI_at, rmI_at, irem_at, nI_add, pk_mul, pk_sub, n_dec, n_sub1]
  unfold sp_tell
  have hcap : S.1 2 ≤ 12 := wf_cap w (j := 2) (by decide)
  by_cases c : S.1 2 = 12
  · rw [if_pos (show S.1 2 = q_cap 2 from c), s_tellF t_5 _ _ (h := (ph_sI h 0 7 (nI 1))) k3.1 c, cl_some]
    refine O_ret ⟨rfl, CI_stale w ⟨?_, ?_, ?_, ?_, ?_, ?_, ?_, ?_, ?_, ?_, ?_⟩ kf (by rw [sI_eq, if_pos rfl]), (q_aM_sI (q_aM_rf h) (by decide))⟩
    · exact (cR_ne k1 _ _ (by decide) (by decide))
    · exact (cR_ne k2 _ _ (by decide) (by decide))
    · exact (cR_ne k3 _ _ (by decide) (by decide))
    · exact (cR_ne k4 _ _ (by decide) (by decide))
    · exact (cR_ne k5 _ _ (by decide) (by decide))
    · exact (cR_ne k6 _ _ (by decide) (by decide))
    · exact (cR_ne k7 _ _ (by decide) (by decide))
    · exact (cR_ne k8 _ _ (by decide) (by decide))
    · exact (cR_ne k9 _ _ (by decide) (by decide))
    · exact (cR_ne k10 _ _ (by decide) (by decide))
    · exact k11
  · have hlt : S.1 2 < 12 := Nat.lt_of_le_of_ne hcap c
    rw [if_neg (show ¬ S.1 2 = q_cap 2 from c), s_tell t_5 _ _ (h := (ph_sI h 0 7 (nI 1))) k3.1 k4.1 hlt, cl_some]
    refine O_ret ⟨rfl, CI_stale (wf_put2 w (by show S.1 2 < 12; omega) (by omega) (by omega)) ⟨?_, ?_, ?_, ?_, ?_, ?_, ?_, ?_, ?_, ?_, ?_⟩ kf (by rw [sI_ne _ _ _ (by decide), sI_ne _ _ _ (by decide), sI_ne _ _ _ (by decide), sI_ne _ _ _ (by decide), sI_eq, if_pos rfl]), (q_aM_sI (q_aM_sI (q_aM_sI (q_aM_sI (q_aM_sI (q_aM_rf h) (by decide)) (by decide)) (by decide)) (by decide)) (by decide))⟩
    · exact (cR_ne (cR_ne (cR_ne (cR_ne (cR_ne k1 _ _ (by decide) (by decide)) _ _ (by decide) (by decide)) _ _ (by decide) (by decide)) _ _ (by decide) (by decide)) _ _ (by decide) (by decide))
    · exact (cR_ne (cR_ne (cR_ne (cR_ne (cR_ne k2 _ _ (by decide) (by decide)) _ _ (by decide) (by decide)) _ _ (by decide) (by decide)) _ _ (by decide) (by decide)) _ _ (by decide) (by decide))
    · exact (cR_ne (cR_ne (cR_push (cR_ne k3 _ _ (by decide) (by decide)) (by decide) a) _ _ (by decide) (by decide)) _ _ (by decide) (by decide))
    · exact (cR_push (cR_ne (cR_ne (cR_ne k4 _ _ (by decide) (by decide)) _ _ (by decide) (by decide)) _ _ (by decide) (by decide)) (by decide) b)
    · exact (cR_ne (cR_ne (cR_ne (cR_ne (cR_ne k5 _ _ (by decide) (by decide)) _ _ (by decide) (by decide)) _ _ (by decide) (by decide)) _ _ (by decide) (by decide)) _ _ (by decide) (by decide))
    · exact (cR_ne (cR_ne (cR_ne (cR_ne (cR_ne k6 _ _ (by decide) (by decide)) _ _ (by decide) (by decide)) _ _ (by decide) (by decide)) _ _ (by decide) (by decide)) _ _ (by decide) (by decide))
    · exact (cR_ne (cR_ne (cR_ne (cR_ne (cR_ne k7 _ _ (by decide) (by decide)) _ _ (by decide) (by decide)) _ _ (by decide) (by decide)) _ _ (by decide) (by decide)) _ _ (by decide) (by decide))
    · exact (cR_ne (cR_ne (cR_ne (cR_ne (cR_ne k8 _ _ (by decide) (by decide)) _ _ (by decide) (by decide)) _ _ (by decide) (by decide)) _ _ (by decide) (by decide)) _ _ (by decide) (by decide))
    · exact (cR_ne (cR_ne (cR_ne (cR_ne (cR_ne k9 _ _ (by decide) (by decide)) _ _ (by decide) (by decide)) _ _ (by decide) (by decide)) _ _ (by decide) (by decide)) _ _ (by decide) (by decide))
    · exact (cR_ne (cR_ne (cR_ne (cR_ne (cR_ne k10 _ _ (by decide) (by decide)) _ _ (by decide) (by decide)) _ _ (by decide) (by decide)) _ _ (by decide) (by decide)) _ _ (by decide) (by decide))
    · exact k11

theorem k_cough (S : q_S) (h : ph_Hp) (K : CI S h) (x1 x2 : Int32) : ph_O (f_X8_cough x1 x2 h) (Cq h (sp_cough S x1 x2).1 (sp_cough S x1 x2).2) := by
  obtain ⟨w, kp, kf, ks⟩ := id K
  obtain ⟨k1, k2, k3, k4, k5, k6, k7, k8, k9, k10, k11⟩ := id kp
  unfold f_X8_cough sp_cough
  rcases q_ins x1 40 (by decide) with ⟨e_a, b_a⟩ | ⟨a, h_a, rfl, e_a⟩
  · rw [s_wo h b_a, cl_some, e_a]
    simp (disch := omega) only [i_lt_f, i_lt_t, i_le_f, i_le_t, i_eq_f, i_eq_t, i_m1_lt, i_eqm_f, i_meq_f, i_mm_t, i_mle_t, i_nle_m, rz_0, rz_1, if_true, if_false, cl_some, ldI_at, ldJ_at, stI_at, stZ_at, stJ_at, pfI_at, pfJ_at, jn_at, dvI_at, rmI_at, irem_at, nI_add, pk_mul, pk_sub, n_dec, n_sub1]
    exact O_ret ⟨rfl, K, q_aM_rf h⟩
  rw [s_wi h h_a (by decide), cl_some, e_a]
  simp (disch := omega) only [i_lt_f, i_lt_t, i_le_f, i_le_t, i_eq_f, i_eq_t, i_m1_lt, i_eqm_f, i_meq_f, i_mm_t, i_mle_t, i_nle_m, rz_0, rz_1, if_true, if_false, cl_some, ldI_at, ldJ_at, stI_at, stZ_at, stJ_at, pfI_at, pfJ_at, jn_at, dvI_at, rmI_at, irem_at, nI_add, pk_mul, pk_sub, n_dec, n_sub1]
  rcases q_ins x2 9 (by decide) with ⟨e_b, b_b⟩ | ⟨b, h_b, rfl, e_b⟩
  · rw [s_wo h b_b, cl_some, e_b]
    simp (disch := omega) only [i_lt_f, i_lt_t, i_le_f, i_le_t, i_eq_f, i_eq_t, i_m1_lt, i_eqm_f, i_meq_f, i_mm_t, i_mle_t, i_nle_m, rz_0, rz_1, if_true, if_false, cl_some, ldI_at, ldJ_at, stI_at, stZ_at, stJ_at, pfI_at, pfJ_at, jn_at, dvI_at, rmI_at, irem_at, nI_add, pk_mul, pk_sub, n_dec, n_sub1]
    exact O_ret ⟨rfl, K, q_aM_rf h⟩
  rw [s_wi h h_b (by decide), cl_some, e_b]
  simp (disch := omega) only [i_lt_f, i_lt_t, i_le_f, i_le_t, i_eq_f, i_eq_t, i_m1_lt, i_eqm_f, i_meq_f, i_mm_t, i_mle_t, i_nle_m, rz_0, rz_1, if_true, if_false, cl_some, ldI_at, ldJ_at, stI_at, stZ_at, stJ_at, pfI_at, pfJ_at, jn_at, dvI_at, rmI_at, irem_at, nI_add, pk_mul, pk_sub, n_dec, n_sub1]
  unfold sp_tell
  have hcap : S.1 3 ≤ 12 := wf_cap w (j := 3) (by decide)
  by_cases c : S.1 3 = 12
  · rw [if_pos (show S.1 3 = q_cap 3 from c), s_tellF t_10 _ _ (h := (ph_sI h 0 7 (nI 1))) k5.1 c, cl_some]
    refine O_ret ⟨rfl, CI_stale w ⟨?_, ?_, ?_, ?_, ?_, ?_, ?_, ?_, ?_, ?_, ?_⟩ kf (by rw [sI_eq, if_pos rfl]), (q_aM_sI (q_aM_rf h) (by decide))⟩
    · exact (cR_ne k1 _ _ (by decide) (by decide))
    · exact (cR_ne k2 _ _ (by decide) (by decide))
    · exact (cR_ne k3 _ _ (by decide) (by decide))
    · exact (cR_ne k4 _ _ (by decide) (by decide))
    · exact (cR_ne k5 _ _ (by decide) (by decide))
    · exact (cR_ne k6 _ _ (by decide) (by decide))
    · exact (cR_ne k7 _ _ (by decide) (by decide))
    · exact (cR_ne k8 _ _ (by decide) (by decide))
    · exact (cR_ne k9 _ _ (by decide) (by decide))
    · exact (cR_ne k10 _ _ (by decide) (by decide))
    · exact k11
  · have hlt : S.1 3 < 12 := Nat.lt_of_le_of_ne hcap c
    rw [if_neg (show ¬ S.1 3 = q_cap 3 from c), s_tell t_10 _ _ (h := (ph_sI h 0 7 (nI 1))) k5.1 k6.1 hlt, cl_some]
    refine O_ret ⟨rfl, CI_stale (wf_put2 w (by show S.1 3 < 12; omega) (by omega) (by omega)) ⟨?_, ?_, ?_, ?_, ?_, ?_, ?_, ?_, ?_, ?_, ?_⟩ kf (by rw [sI_ne _ _ _ (by decide), sI_ne _ _ _ (by decide), sI_ne _ _ _ (by decide), sI_ne _ _ _ (by decide), sI_eq, if_pos rfl]), (q_aM_sI (q_aM_sI (q_aM_sI (q_aM_sI (q_aM_sI (q_aM_rf h) (by decide)) (by decide)) (by decide)) (by decide)) (by decide))⟩
    · exact (cR_ne (cR_ne (cR_ne (cR_ne (cR_ne k1 _ _ (by decide) (by decide)) _ _ (by decide) (by decide)) _ _ (by decide) (by decide)) _ _ (by decide) (by decide)) _ _ (by decide) (by decide))
    · exact (cR_ne (cR_ne (cR_ne (cR_ne (cR_ne k2 _ _ (by decide) (by decide)) _ _ (by decide) (by decide)) _ _ (by decide) (by decide)) _ _ (by decide) (by decide)) _ _ (by decide) (by decide))
    · exact (cR_ne (cR_ne (cR_ne (cR_ne (cR_ne k3 _ _ (by decide) (by decide)) _ _ (by decide) (by decide)) _ _ (by decide) (by decide)) _ _ (by decide) (by decide)) _ _ (by decide) (by decide))
    · exact (cR_ne (cR_ne (cR_ne (cR_ne (cR_ne k4 _ _ (by decide) (by decide)) _ _ (by decide) (by decide)) _ _ (by decide) (by decide)) _ _ (by decide) (by decide)) _ _ (by decide) (by decide))
    · exact (cR_ne (cR_ne (cR_push (cR_ne k5 _ _ (by decide) (by decide)) (by decide) a) _ _ (by decide) (by decide)) _ _ (by decide) (by decide))
    · exact (cR_push (cR_ne (cR_ne (cR_ne k6 _ _ (by decide) (by decide)) _ _ (by decide) (by decide)) _ _ (by decide) (by decide)) (by decide) b)
    · exact (cR_ne (cR_ne (cR_ne (cR_ne (cR_ne k7 _ _ (by decide) (by decide)) _ _ (by decide) (by decide)) _ _ (by decide) (by decide)) _ _ (by decide) (by decide)) _ _ (by decide) (by decide))
    · exact (cR_ne (cR_ne (cR_ne (cR_ne (cR_ne k8 _ _ (by decide) (by decide)) _ _ (by decide) (by decide)) _ _ (by decide) (by decide)) _ _ (by decide) (by decide)) _ _ (by decide) (by decide))
    · exact (cR_ne (cR_ne (cR_ne (cR_ne (cR_ne k9 _ _ (by decide) (by decide)) _ _ (by decide) (by decide)) _ _ (by decide) (by decide)) _ _ (by decide) (by decide)) _ _ (by decide) (by decide))
    · exact (cR_ne (cR_ne (cR_ne (cR_ne (cR_ne k10 _ _ (by decide) (by decide)) _ _ (by decide) (by decide)) _ _ (by decide) (by decide)) _ _ (by decide) (by decide)) _ _ (by decide) (by decide))
    · exact k11

theorem k_dark (S : q_S) (h : ph_Hp) (K : CI S h) (x1 : Int32) : ph_O (f_X8_dark x1 h) (Cq h (sp_dark S x1).1 (sp_dark S x1).2) := by
  obtain ⟨w, kp, kf, ks⟩ := id K
  obtain ⟨k1, k2, k3, k4, k5, k6, k7, k8, k9, k10, k11⟩ := id kp
  unfold f_X8_dark sp_dark
  rcases q_ins x1 40 (by decide) with ⟨e_a, b_a⟩ | ⟨a, h_a, rfl, e_a⟩
  · rw [s_wo h b_a, cl_some, e_a]
    simp (disch := omega) only [i_lt_f, i_lt_t, i_le_f, i_le_t, i_eq_f, i_eq_t, i_m1_lt, i_eqm_f, i_meq_f, i_mm_t, i_mle_t, i_nle_m, rz_0, rz_1, if_true, if_false, cl_some, ldI_at, ldJ_at, stI_at, stZ_at, stJ_at, pfI_at, pfJ_at, jn_at, dvI_at, rmI_at, irem_at, nI_add, pk_mul, pk_sub, n_dec, n_sub1]
    exact O_ret ⟨rfl, K, q_aM_rf h⟩
  rw [s_wi h h_a (by decide), cl_some, e_a]
  simp (disch := omega) only [i_lt_f, i_lt_t, i_le_f, i_le_t, i_eq_f, i_eq_t, i_m1_lt, i_eqm_f, i_meq_f, i_mm_t, i_mle_t, i_nle_m, rz_0, rz_1, if_true, if_false, cl_some, ldI_at, ldJ_at, stI_at, stZ_at, stJ_at, pfI_at, pfJ_at, jn_at, dvI_at, rmI_at, irem_at, nI_add, pk_mul, pk_sub, n_dec, n_sub1]
  unfold sp_tell
  have hcap : S.1 4 ≤ 6 := wf_cap w (j := 4) (by decide)
  by_cases c : S.1 4 = 6
  · rw [if_pos (show S.1 4 = q_cap 4 from c), s_tellF t_15 _ _ (h := (ph_sI h 0 7 (nI 1))) k7.1 c, cl_some]
    refine O_ret ⟨rfl, CI_stale w ⟨?_, ?_, ?_, ?_, ?_, ?_, ?_, ?_, ?_, ?_, ?_⟩ kf (by rw [sI_eq, if_pos rfl]), (q_aM_sI (q_aM_rf h) (by decide))⟩
    · exact (cR_ne k1 _ _ (by decide) (by decide))
    · exact (cR_ne k2 _ _ (by decide) (by decide))
    · exact (cR_ne k3 _ _ (by decide) (by decide))
    · exact (cR_ne k4 _ _ (by decide) (by decide))
    · exact (cR_ne k5 _ _ (by decide) (by decide))
    · exact (cR_ne k6 _ _ (by decide) (by decide))
    · exact (cR_ne k7 _ _ (by decide) (by decide))
    · exact (cR_ne k8 _ _ (by decide) (by decide))
    · exact (cR_ne k9 _ _ (by decide) (by decide))
    · exact (cR_ne k10 _ _ (by decide) (by decide))
    · exact k11
  · have hlt : S.1 4 < 6 := Nat.lt_of_le_of_ne hcap c
    rw [if_neg (show ¬ S.1 4 = q_cap 4 from c), s_tell t_15 _ _ (h := (ph_sI h 0 7 (nI 1))) k7.1 k8.1 hlt, cl_some]
    refine O_ret ⟨rfl, CI_stale (wf_put2 w (by show S.1 4 < 6; omega) (by omega) (by omega)) ⟨?_, ?_, ?_, ?_, ?_, ?_, ?_, ?_, ?_, ?_, ?_⟩ kf (by rw [sI_ne _ _ _ (by decide), sI_ne _ _ _ (by decide), sI_ne _ _ _ (by decide), sI_ne _ _ _ (by decide), sI_eq, if_pos rfl]), (q_aM_sI (q_aM_sI (q_aM_sI (q_aM_sI (q_aM_sI (q_aM_rf h) (by decide)) (by decide)) (by decide)) (by decide)) (by decide))⟩
    · exact (cR_ne (cR_ne (cR_ne (cR_ne (cR_ne k1 _ _ (by decide) (by decide)) _ _ (by decide) (by decide)) _ _ (by decide) (by decide)) _ _ (by decide) (by decide)) _ _ (by decide) (by decide))
    · exact (cR_ne (cR_ne (cR_ne (cR_ne (cR_ne k2 _ _ (by decide) (by decide)) _ _ (by decide) (by decide)) _ _ (by decide) (by decide)) _ _ (by decide) (by decide)) _ _ (by decide) (by decide))
    · exact (cR_ne (cR_ne (cR_ne (cR_ne (cR_ne k3 _ _ (by decide) (by decide)) _ _ (by decide) (by decide)) _ _ (by decide) (by decide)) _ _ (by decide) (by decide)) _ _ (by decide) (by decide))
    · exact (cR_ne (cR_ne (cR_ne (cR_ne (cR_ne k4 _ _ (by decide) (by decide)) _ _ (by decide) (by decide)) _ _ (by decide) (by decide)) _ _ (by decide) (by decide)) _ _ (by decide) (by decide))
    · exact (cR_ne (cR_ne (cR_ne (cR_ne (cR_ne k5 _ _ (by decide) (by decide)) _ _ (by decide) (by decide)) _ _ (by decide) (by decide)) _ _ (by decide) (by decide)) _ _ (by decide) (by decide))
    · exact (cR_ne (cR_ne (cR_ne (cR_ne (cR_ne k6 _ _ (by decide) (by decide)) _ _ (by decide) (by decide)) _ _ (by decide) (by decide)) _ _ (by decide) (by decide)) _ _ (by decide) (by decide))
    · exact (cR_ne (cR_ne (cR_push (cR_ne k7 _ _ (by decide) (by decide)) (by decide) a) _ _ (by decide) (by decide)) _ _ (by decide) (by decide))
    · exact (cR_push (cR_ne (cR_ne (cR_ne k8 _ _ (by decide) (by decide)) _ _ (by decide) (by decide)) _ _ (by decide) (by decide)) (by decide) 0)
    · exact (cR_ne (cR_ne (cR_ne (cR_ne (cR_ne k9 _ _ (by decide) (by decide)) _ _ (by decide) (by decide)) _ _ (by decide) (by decide)) _ _ (by decide) (by decide)) _ _ (by decide) (by decide))
    · exact (cR_ne (cR_ne (cR_ne (cR_ne (cR_ne k10 _ _ (by decide) (by decide)) _ _ (by decide) (by decide)) _ _ (by decide) (by decide)) _ _ (by decide) (by decide)) _ _ (by decide) (by decide))
    · exact k11

theorem k_seen (S : q_S) (h : ph_Hp) (K : CI S h) (x1 x2 : Int32) : ph_O (f_X8_seen x1 x2 h) (Cq h (sp_seen S x1 x2).1 (sp_seen S x1 x2).2) := by
  obtain ⟨w, kp, kf, ks⟩ := id K
  obtain ⟨k1, k2, k3, k4, k5, k6, k7, k8, k9, k10, k11⟩ := id kp
  unfold f_X8_seen sp_seen
  rcases q_ins x1 40 (by decide) with ⟨e_a, b_a⟩ | ⟨a, h_a, rfl, e_a⟩
  · rw [s_wo h b_a, cl_some, e_a]
    simp (disch := omega) only [i_lt_f, i_lt_t, i_le_f, i_le_t, i_eq_f, i_eq_t, i_m1_lt, i_eqm_f, i_meq_f, i_mm_t, i_mle_t, i_nle_m, rz_0, rz_1, if_true, if_false, cl_some, ldI_at, ldJ_at, stI_at, stZ_at, stJ_at, pfI_at, pfJ_at, jn_at, dvI_at, rmI_at, irem_at, nI_add, pk_mul, pk_sub, n_dec, n_sub1]
    exact O_ret ⟨rfl, K, q_aM_rf h⟩
  rw [s_wi h h_a (by decide), cl_some, e_a]
  simp (disch := omega) only [i_lt_f, i_lt_t, i_le_f, i_le_t, i_eq_f, i_eq_t, i_m1_lt, i_eqm_f, i_meq_f, i_mm_t, i_mle_t, i_nle_m, rz_0, rz_1, if_true, if_false, cl_some, ldI_at, ldJ_at, stI_at, stZ_at, stJ_at, pfI_at, pfJ_at, jn_at, dvI_at, rmI_at, irem_at, nI_add, pk_mul, pk_sub, n_dec, n_sub1]
  rcases q_ins x2 8 (by decide) with ⟨e_b, b_b⟩ | ⟨b, h_b, rfl, e_b⟩
  · rw [s_wo h b_b, cl_some, e_b]
    simp (disch := omega) only [i_lt_f, i_lt_t, i_le_f, i_le_t, i_eq_f, i_eq_t, i_m1_lt, i_eqm_f, i_meq_f, i_mm_t, i_mle_t, i_nle_m, rz_0, rz_1, if_true, if_false, cl_some, ldI_at, ldJ_at, stI_at, stZ_at, stJ_at, pfI_at, pfJ_at, jn_at, dvI_at, rmI_at, irem_at, nI_add, pk_mul, pk_sub, n_dec, n_sub1]
    exact O_ret ⟨rfl, K, q_aM_rf h⟩
  rw [s_wi h h_b (by decide), cl_some, e_b]
  simp (disch := omega) only [i_lt_f, i_lt_t, i_le_f, i_le_t, i_eq_f, i_eq_t, i_m1_lt, i_eqm_f, i_meq_f, i_mm_t, i_mle_t, i_nle_m, rz_0, rz_1, if_true, if_false, cl_some, ldI_at, ldJ_at, stI_at, stZ_at, stJ_at, pfI_at, pfJ_at, jn_at, dvI_at, rmI_at, irem_at, nI_add, pk_mul, pk_sub, n_dec, n_sub1]
  unfold sp_tell
  have hcap : S.1 5 ≤ 8 := wf_cap w (j := 5) (by decide)
  by_cases c : S.1 5 = 8
  · rw [if_pos (show S.1 5 = q_cap 5 from c), s_tellF t_20 _ _ (h := h) k9.1 c, cl_some]
    exact O_ret ⟨rfl, K, q_aM_rf h⟩
  · have hlt : S.1 5 < 8 := Nat.lt_of_le_of_ne hcap c
    rw [if_neg (show ¬ S.1 5 = q_cap 5 from c), s_tell t_20 _ _ (h := h) k9.1 k10.1 hlt, cl_some]
    have hst : ∀ g : ph_Hp, (∀ i, 26 ≤ i → i ≤ 40 → g.1 i = h.1 i) → q_St S h → q_St (q_put2 S 5 7 8 a b) g := fun g hg k => e_St (S := S) ⟨fun j hj => if_neg (by omega), fun r hr => by simp [q_put2, q_cnt, q_row, show r ≠ 7 by omega, show r ≠ 8 by omega]⟩ (q_St_ag k hg)
    refine O_ret ⟨rfl, ⟨wf_put2 w (by show S.1 5 < 8; omega) (by omega) (by omega), ⟨?_, ?_, ?_, ?_, ?_, ?_, ?_, ?_, ?_, ?_, ?_⟩, kf, ?_⟩, (q_aM_sI (q_aM_sI (q_aM_sI (q_aM_sI (q_aM_rf h) (by decide)) (by decide)) (by decide)) (by decide))⟩
    · exact (cR_ne (cR_ne (cR_ne (cR_ne k1 _ _ (by decide) (by decide)) _ _ (by decide) (by decide)) _ _ (by decide) (by decide)) _ _ (by decide) (by decide))
    · exact (cR_ne (cR_ne (cR_ne (cR_ne k2 _ _ (by decide) (by decide)) _ _ (by decide) (by decide)) _ _ (by decide) (by decide)) _ _ (by decide) (by decide))
    · exact (cR_ne (cR_ne (cR_ne (cR_ne k3 _ _ (by decide) (by decide)) _ _ (by decide) (by decide)) _ _ (by decide) (by decide)) _ _ (by decide) (by decide))
    · exact (cR_ne (cR_ne (cR_ne (cR_ne k4 _ _ (by decide) (by decide)) _ _ (by decide) (by decide)) _ _ (by decide) (by decide)) _ _ (by decide) (by decide))
    · exact (cR_ne (cR_ne (cR_ne (cR_ne k5 _ _ (by decide) (by decide)) _ _ (by decide) (by decide)) _ _ (by decide) (by decide)) _ _ (by decide) (by decide))
    · exact (cR_ne (cR_ne (cR_ne (cR_ne k6 _ _ (by decide) (by decide)) _ _ (by decide) (by decide)) _ _ (by decide) (by decide)) _ _ (by decide) (by decide))
    · exact (cR_ne (cR_ne (cR_ne (cR_ne k7 _ _ (by decide) (by decide)) _ _ (by decide) (by decide)) _ _ (by decide) (by decide)) _ _ (by decide) (by decide))
    · exact (cR_ne (cR_ne (cR_ne (cR_ne k8 _ _ (by decide) (by decide)) _ _ (by decide) (by decide)) _ _ (by decide) (by decide)) _ _ (by decide) (by decide))
    · exact (cR_ne (cR_ne (cR_push k9 (by decide) a) _ _ (by decide) (by decide)) _ _ (by decide) (by decide))
    · exact (cR_push (cR_ne (cR_ne k10 _ _ (by decide) (by decide)) _ _ (by decide) (by decide)) (by decide) b)
    · exact k11
    · rcases ks with ks | ⟨ks, kt⟩
      · exact Or.inl (by rw [sI_ne _ _ _ (by decide), sI_ne _ _ _ (by decide), sI_ne _ _ _ (by decide), sI_ne _ _ _ (by decide)]; exact ks)
      · exact Or.inr ⟨by rw [sI_ne _ _ _ (by decide), sI_ne _ _ _ (by decide), sI_ne _ _ _ (by decide), sI_ne _ _ _ (by decide)]; exact ks, hst _ (fun i h1 h2 => by rw [sI_ne _ _ _ (by omega), sI_ne _ _ _ (by omega), sI_ne _ _ _ (by omega), sI_ne _ _ _ (by omega)]) kt⟩

theorem k_back (S : q_S) (h : ph_Hp) (K : CI S h) (x1 : Int32) : ph_O (f_X8_back x1 h) (Cq h (sp_back S x1).1 (sp_back S x1).2) := by
  obtain ⟨w, kp, kf, ks⟩ := id K
  obtain ⟨k1, k2, k3, k4, k5, k6, k7, k8, k9, k10, k11⟩ := id kp
  unfold f_X8_back sp_back
  rcases q_ins x1 3 (by decide) with ⟨e_t, b_t⟩ | ⟨t, h_t, rfl, e_t⟩
  · rw [s_wo h b_t, cl_some, e_t]
    simp (disch := omega) only [i_lt_f, i_lt_t, i_le_f, i_le_t, i_eq_f, i_eq_t, i_m1_lt, i_eqm_f, i_meq_f, i_mm_t, i_mle_t, i_nle_m, rz_0, rz_1, if_true, if_false, cl_some, ldI_at, ldJ_at, stI_at, stZ_at, stJ_at, pfI_at, pfJ_at, jn_at, dvI_at, rmI_at, irem_at, nI_add, pk_mul, pk_sub, n_dec, n_sub1]
    exact O_ret ⟨rfl, K, q_aM_rf h⟩
  rw [s_wi h h_t (by decide), cl_some, e_t]
  simp (disch := omega) only [i_lt_f, i_lt_t, i_le_f, i_le_t, i_eq_f, i_eq_t, i_m1_lt, i_eqm_f, i_meq_f, i_mm_t, i_mle_t, i_nle_m, rz_0, rz_1, if_true, if_false, cl_some, ldI_at, ldJ_at, stI_at, stZ_at, stJ_at, pfI_at, pfJ_at, jn_at, dvI_at, rmI_at, irem_at, nI_add, pk_mul, pk_sub, n_dec, n_sub1]
  have hcap := wf_cap w (j := 2 + t) (by omega)
  rcases (show t = 0 ∨ t = 1 ∨ t = 2 by omega) with rfl | rfl | rfl
  · have hcap : S.1 2 ≤ 12 := hcap
    simp (disch := omega) only [i_lt_f, i_lt_t, i_le_f, i_le_t, i_eq_f, i_eq_t, i_m1_lt, i_eqm_f, i_meq_f, i_mm_t, i_mle_t, i_nle_m, rz_0, rz_1, if_true, if_false, cl_some, ldI_at, ldJ_at, stI_at, stZ_at, stJ_at, pfI_at, pfJ_at, jn_at, dvI_at, rmI_at, irem_at, nI_add, pk_mul, pk_sub, n_dec, n_sub1]
    rw [isK_at t_5.1, s_Tsize t_5, cl_some, k3.1]
    by_cases c : S.1 2 = 0
    · rw [if_pos (by rw [c]), if_pos (show S.1 (2 + 0) = 0 from c)]
      exact O_ret ⟨rfl, K, q_aM_rf h⟩
    · obtain ⟨m, em⟩ : ∃ m, S.1 2 = m + 1 := ⟨S.1 2 - 1, by omega⟩
      rw [if_neg (by rw [nI_eq (by omega) (by omega)]; exact c), if_neg (show ¬ S.1 (2 + 0) = 0 from c), s_Tcut t_5 (by rw [k3.1, em]) (by rw [k4.1, em]) (by omega), cl_some, s_Tsize t_5, cl_some, sI_ne _ _ _ (by decide), sI_ne _ _ _ (by decide), sI_eq, if_pos rfl]
      rw [show S.1 (2 + 0) - 1 = m by show S.1 2 - 1 = m; omega]
      refine O_ret ⟨rfl, CI_stale (wf_cnt w (by show m ≤ 12; omega)) ⟨?_, ?_, ?_, ?_, ?_, ?_, ?_, ?_, ?_, ?_, ?_⟩ kf (by rw [sI_eq, if_pos rfl]), (q_aM_sI (q_aM_sI (q_aM_sI (q_aM_rf h) (by decide)) (by decide)) (by decide))⟩
      · exact (cR_ne (cR_ne (cR_ne k1 _ _ (by decide) (by decide)) _ _ (by decide) (by decide)) _ _ (by decide) (by decide))
      · exact (cR_ne (cR_ne (cR_ne k2 _ _ (by decide) (by decide)) _ _ (by decide) (by decide)) _ _ (by decide) (by decide))
      · exact (cR_ne (cR_ne (cR_size (m := m) k3 (by omega) (by decide)) _ _ (by decide) (by decide)) _ _ (by decide) (by decide))
      · exact (cR_ne (cR_size (m := m) (cR_ne k4 _ _ (by decide) (by decide)) (by omega) (by decide)) _ _ (by decide) (by decide))
      · exact (cR_ne (cR_ne (cR_ne k5 _ _ (by decide) (by decide)) _ _ (by decide) (by decide)) _ _ (by decide) (by decide))
      · exact (cR_ne (cR_ne (cR_ne k6 _ _ (by decide) (by decide)) _ _ (by decide) (by decide)) _ _ (by decide) (by decide))
      · exact (cR_ne (cR_ne (cR_ne k7 _ _ (by decide) (by decide)) _ _ (by decide) (by decide)) _ _ (by decide) (by decide))
      · exact (cR_ne (cR_ne (cR_ne k8 _ _ (by decide) (by decide)) _ _ (by decide) (by decide)) _ _ (by decide) (by decide))
      · exact (cR_ne (cR_ne (cR_ne k9 _ _ (by decide) (by decide)) _ _ (by decide) (by decide)) _ _ (by decide) (by decide))
      · exact (cR_ne (cR_ne (cR_ne k10 _ _ (by decide) (by decide)) _ _ (by decide) (by decide)) _ _ (by decide) (by decide))
      · exact k11
  · have hcap : S.1 3 ≤ 12 := hcap
    simp (disch := omega) only [i_lt_f, i_lt_t, i_le_f, i_le_t, i_eq_f, i_eq_t, i_m1_lt, i_eqm_f, i_meq_f, i_mm_t, i_mle_t, i_nle_m, rz_0, rz_1, if_true, if_false, cl_some, ldI_at, ldJ_at, stI_at, stZ_at, stJ_at, pfI_at, pfJ_at, jn_at, dvI_at, rmI_at, irem_at, nI_add, pk_mul, pk_sub, n_dec, n_sub1]
    rw [isK_at t_10.1, s_Tsize t_10, cl_some, k5.1]
    by_cases c : S.1 3 = 0
    · rw [if_pos (by rw [c]), if_pos (show S.1 (2 + 1) = 0 from c)]
      exact O_ret ⟨rfl, K, q_aM_rf h⟩
    · obtain ⟨m, em⟩ : ∃ m, S.1 3 = m + 1 := ⟨S.1 3 - 1, by omega⟩
      rw [if_neg (by rw [nI_eq (by omega) (by omega)]; exact c), if_neg (show ¬ S.1 (2 + 1) = 0 from c), s_Tcut t_10 (by rw [k5.1, em]) (by rw [k6.1, em]) (by omega), cl_some, s_Tsize t_10, cl_some, sI_ne _ _ _ (by decide), sI_ne _ _ _ (by decide), sI_eq, if_pos rfl]
      rw [show S.1 (2 + 1) - 1 = m by show S.1 3 - 1 = m; omega]
      refine O_ret ⟨rfl, CI_stale (wf_cnt w (by show m ≤ 12; omega)) ⟨?_, ?_, ?_, ?_, ?_, ?_, ?_, ?_, ?_, ?_, ?_⟩ kf (by rw [sI_eq, if_pos rfl]), (q_aM_sI (q_aM_sI (q_aM_sI (q_aM_rf h) (by decide)) (by decide)) (by decide))⟩
      · exact (cR_ne (cR_ne (cR_ne k1 _ _ (by decide) (by decide)) _ _ (by decide) (by decide)) _ _ (by decide) (by decide))
      · exact (cR_ne (cR_ne (cR_ne k2 _ _ (by decide) (by decide)) _ _ (by decide) (by decide)) _ _ (by decide) (by decide))
      · exact (cR_ne (cR_ne (cR_ne k3 _ _ (by decide) (by decide)) _ _ (by decide) (by decide)) _ _ (by decide) (by decide))
      · exact (cR_ne (cR_ne (cR_ne k4 _ _ (by decide) (by decide)) _ _ (by decide) (by decide)) _ _ (by decide) (by decide))
      · exact (cR_ne (cR_ne (cR_size (m := m) k5 (by omega) (by decide)) _ _ (by decide) (by decide)) _ _ (by decide) (by decide))
      · exact (cR_ne (cR_size (m := m) (cR_ne k6 _ _ (by decide) (by decide)) (by omega) (by decide)) _ _ (by decide) (by decide))
      · exact (cR_ne (cR_ne (cR_ne k7 _ _ (by decide) (by decide)) _ _ (by decide) (by decide)) _ _ (by decide) (by decide))
      · exact (cR_ne (cR_ne (cR_ne k8 _ _ (by decide) (by decide)) _ _ (by decide) (by decide)) _ _ (by decide) (by decide))
      · exact (cR_ne (cR_ne (cR_ne k9 _ _ (by decide) (by decide)) _ _ (by decide) (by decide)) _ _ (by decide) (by decide))
      · exact (cR_ne (cR_ne (cR_ne k10 _ _ (by decide) (by decide)) _ _ (by decide) (by decide)) _ _ (by decide) (by decide))
      · exact k11
  · have hcap : S.1 4 ≤ 6 := hcap
    simp (disch := omega) only [i_lt_f, i_lt_t, i_le_f, i_le_t, i_eq_f, i_eq_t, i_m1_lt, i_eqm_f, i_meq_f, i_mm_t, i_mle_t, i_nle_m, rz_0, rz_1, if_true, if_false, cl_some, ldI_at, ldJ_at, stI_at, stZ_at, stJ_at, pfI_at, pfJ_at, jn_at, dvI_at, rmI_at, irem_at, nI_add, pk_mul, pk_sub, n_dec, n_sub1]
    rw [isK_at t_15.1, s_Tsize t_15, cl_some, k7.1]
    by_cases c : S.1 4 = 0
    · rw [if_pos (by rw [c]), if_pos (show S.1 (2 + 2) = 0 from c)]
      exact O_ret ⟨rfl, K, q_aM_rf h⟩
    · obtain ⟨m, em⟩ : ∃ m, S.1 4 = m + 1 := ⟨S.1 4 - 1, by omega⟩
      rw [if_neg (by rw [nI_eq (by omega) (by omega)]; exact c), if_neg (show ¬ S.1 (2 + 2) = 0 from c), s_Tcut t_15 (by rw [k7.1, em]) (by rw [k8.1, em]) (by omega), cl_some, s_Tsize t_15, cl_some, sI_ne _ _ _ (by decide), sI_ne _ _ _ (by decide), sI_eq, if_pos rfl]
      rw [show S.1 (2 + 2) - 1 = m by show S.1 4 - 1 = m; omega]
      refine O_ret ⟨rfl, CI_stale (wf_cnt w (by show m ≤ 6; omega)) ⟨?_, ?_, ?_, ?_, ?_, ?_, ?_, ?_, ?_, ?_, ?_⟩ kf (by rw [sI_eq, if_pos rfl]), (q_aM_sI (q_aM_sI (q_aM_sI (q_aM_rf h) (by decide)) (by decide)) (by decide))⟩
      · exact (cR_ne (cR_ne (cR_ne k1 _ _ (by decide) (by decide)) _ _ (by decide) (by decide)) _ _ (by decide) (by decide))
      · exact (cR_ne (cR_ne (cR_ne k2 _ _ (by decide) (by decide)) _ _ (by decide) (by decide)) _ _ (by decide) (by decide))
      · exact (cR_ne (cR_ne (cR_ne k3 _ _ (by decide) (by decide)) _ _ (by decide) (by decide)) _ _ (by decide) (by decide))
      · exact (cR_ne (cR_ne (cR_ne k4 _ _ (by decide) (by decide)) _ _ (by decide) (by decide)) _ _ (by decide) (by decide))
      · exact (cR_ne (cR_ne (cR_ne k5 _ _ (by decide) (by decide)) _ _ (by decide) (by decide)) _ _ (by decide) (by decide))
      · exact (cR_ne (cR_ne (cR_ne k6 _ _ (by decide) (by decide)) _ _ (by decide) (by decide)) _ _ (by decide) (by decide))
      · exact (cR_ne (cR_ne (cR_size (m := m) k7 (by omega) (by decide)) _ _ (by decide) (by decide)) _ _ (by decide) (by decide))
      · exact (cR_ne (cR_size (m := m) (cR_ne k8 _ _ (by decide) (by decide)) (by omega) (by decide)) _ _ (by decide) (by decide))
      · exact (cR_ne (cR_ne (cR_ne k9 _ _ (by decide) (by decide)) _ _ (by decide) (by decide)) _ _ (by decide) (by decide))
      · exact (cR_ne (cR_ne (cR_ne k10 _ _ (by decide) (by decide)) _ _ (by decide) (by decide)) _ _ (by decide) (by decide))
      · exact k11

theorem k_forget (S : q_S) (h : ph_Hp) (K : CI S h) : ph_O (f_X8_forget h) (Cq h (sp_forget S).1 (sp_forget S).2) := by
  obtain ⟨w, kp, kf, ks⟩ := id K
  obtain ⟨k1, k2, k3, k4, k5, k6, k7, k8, k9, k10, k11⟩ := id kp
  unfold f_X8_forget sp_forget
  rw [s_Tsize t_20, cl_some, s_Tclr t_20, cl_some, k9.1]
  have hst : ∀ g : ph_Hp, (∀ i, 26 ≤ i → i ≤ 40 → g.1 i = h.1 i) → q_St S h → q_St (q_cnt S 5 0) g := fun g hg k => e_St (S := S) (S2 := q_cnt S 5 0) ⟨fun j hj => if_neg (by omega), fun r hr => rfl⟩ (q_St_ag k hg)
  refine O_ret ⟨rfl, ⟨wf_cnt w (Nat.zero_le _), ⟨?_, ?_, ?_, ?_, ?_, ?_, ?_, ?_, ?_, ?_, ?_⟩, kf, ?_⟩, (q_aM_sI (q_aM_sI (q_aM_rf h) (by decide)) (by decide))⟩
  · exact (cR_ne (cR_ne k1 _ _ (by decide) (by decide)) _ _ (by decide) (by decide))
  · exact (cR_ne (cR_ne k2 _ _ (by decide) (by decide)) _ _ (by decide) (by decide))
  · exact (cR_ne (cR_ne k3 _ _ (by decide) (by decide)) _ _ (by decide) (by decide))
  · exact (cR_ne (cR_ne k4 _ _ (by decide) (by decide)) _ _ (by decide) (by decide))
  · exact (cR_ne (cR_ne k5 _ _ (by decide) (by decide)) _ _ (by decide) (by decide))
  · exact (cR_ne (cR_ne k6 _ _ (by decide) (by decide)) _ _ (by decide) (by decide))
  · exact (cR_ne (cR_ne k7 _ _ (by decide) (by decide)) _ _ (by decide) (by decide))
  · exact (cR_ne (cR_ne k8 _ _ (by decide) (by decide)) _ _ (by decide) (by decide))
  · exact (cR_ne (cR_size (m := 0) k9 (by omega) (by decide)) _ _ (by decide) (by decide))
  · exact (cR_size (m := 0) (cR_ne k10 _ _ (by decide) (by decide)) (by omega) (by decide))
  · exact k11
  · rcases ks with ks | ⟨ks, kt⟩
    · exact Or.inl (by rw [sI_ne _ _ _ (by decide), sI_ne _ _ _ (by decide)]; exact ks)
    · exact Or.inr ⟨by rw [sI_ne _ _ _ (by decide), sI_ne _ _ _ (by decide)]; exact ks, hst _ (fun i h1 h2 => by rw [sI_ne _ _ _ (by omega), sI_ne _ _ _ (by omega)]) kt⟩
