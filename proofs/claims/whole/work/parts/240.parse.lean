-- the class: the play's text
theorem s_fault0 {S : q_S} {h : ph_Hp} (w : q_wf S) (k1 : cR 1 2 (S.1 0) (S.2.1 0) h) : f_X3_faultOf h = some (q_f0 S, h) := by
  have hn : S.1 0 ≤ 24 := w.1.1
  have hm : q_m0 S ≤ S.1 0 := q_ff_le _ _
  unfold f_X3_faultOf
  refine lp_for (st := fun i => (nI i, h)) (q_m0 S) (by omega) rfl (fun rec i hi => ?_) (fun rec => ?_)
  · have h1 := q_ff_no (fun k => !(decide (97 ≤ S.2.1 0 k) && decide (S.2.1 0 k ≤ 104))) (S.1 0) i hi
    simp at h1
    have hb := (w.2.1 i).1
    dsimp only
    rw [s_Rsize r_1, cl_some, k1.1]
    simp (disch := omega) only [i_lt_f, i_lt_t, i_le_f, i_le_t, i_eq_f, i_eq_t, i_m1_lt, i_eqm_f, i_meq_f, i_mm_t, i_mle_t, i_nle_m, rz_0, rz_1, if_true, if_false, cl_some, ldI_at, ldJ_at, stI_at, stZ_at, stJ_at, pfI_at, pfJ_at, jn_at, dvI_at, rmI_at, irem_at, nI_add, pk_mul, pk_sub, n_dec, n_sub1]
    rw [s_Rat r_1 h (by omega), cl_some, k1.2 i (by omega)]
    simp (disch := omega) only [i_lt_f, i_lt_t, i_le_f, i_le_t, i_eq_f, i_eq_t, i_m1_lt, i_eqm_f, i_meq_f, i_mm_t, i_mle_t, i_nle_m, rz_0, rz_1, if_true, if_false, cl_some, ldI_at, ldJ_at, stI_at, stZ_at, stJ_at, pfI_at, pfJ_at, jn_at, dvI_at, rmI_at, irem_at, nI_add, pk_mul, pk_sub, n_dec, n_sub1]
  · dsimp only
    rw [s_Rsize r_1, cl_some, k1.1]
    unfold q_f0
    by_cases c : q_m0 S = S.1 0
    · rw [if_pos c, c]
      simp (disch := omega) only [i_lt_f, i_lt_t, i_le_f, i_le_t, i_eq_f, i_eq_t, i_m1_lt, i_eqm_f, i_meq_f, i_mm_t, i_mle_t, i_nle_m, rz_0, rz_1, if_true, if_false, cl_some, ldI_at, ldJ_at, stI_at, stZ_at, stJ_at, pfI_at, pfJ_at, jn_at, dvI_at, rmI_at, irem_at, nI_add, pk_mul, pk_sub, n_dec, n_sub1]
    · have h1 := q_ff_yes (fun k => !(decide (97 ≤ S.2.1 0 k) && decide (S.2.1 0 k ≤ 104))) (S.1 0) (show q_m0 S < S.1 0 by omega)
      have h1 : S.2.1 0 (q_m0 S) < 97 ∨ 104 < S.2.1 0 (q_m0 S) := by
        have h2 : (!(decide (97 ≤ S.2.1 0 (q_m0 S)) && decide (S.2.1 0 (q_m0 S) ≤ 104))) = true := h1
        simpa using h2
      have hb := (w.2.1 (q_m0 S)).1
      rw [if_neg c]
      simp (disch := omega) only [i_lt_f, i_lt_t, i_le_f, i_le_t, i_eq_f, i_eq_t, i_m1_lt, i_eqm_f, i_meq_f, i_mm_t, i_mle_t, i_nle_m, rz_0, rz_1, if_true, if_false, cl_some, ldI_at, ldJ_at, stI_at, stZ_at, stJ_at, pfI_at, pfJ_at, jn_at, dvI_at, rmI_at, irem_at, nI_add, pk_mul, pk_sub, n_dec, n_sub1]
      rw [s_Rat r_1 h (by omega), cl_some, k1.2 _ (by omega)]
      by_cases c2 : S.2.1 0 (q_m0 S) < 97
      · simp (disch := omega) only [i_lt_f, i_lt_t, i_le_f, i_le_t, i_eq_f, i_eq_t, i_m1_lt, i_eqm_f, i_meq_f, i_mm_t, i_mle_t, i_nle_m, rz_0, rz_1, if_true, if_false, cl_some, ldI_at, ldJ_at, stI_at, stZ_at, stJ_at, pfI_at, pfJ_at, jn_at, dvI_at, rmI_at, irem_at, nI_add, pk_mul, pk_sub, n_dec, n_sub1]
      · simp (disch := omega) only [i_lt_f, i_lt_t, i_le_f, i_le_t, i_eq_f, i_eq_t, i_m1_lt, i_eqm_f, i_meq_f, i_mm_t, i_mle_t, i_nle_m, rz_0, rz_1, if_true, if_false, cl_some, ldI_at, ldJ_at, stI_at, stZ_at, stJ_at, pfI_at, pfJ_at, jn_at, dvI_at, rmI_at, irem_at, nI_add, pk_mul, pk_sub, n_dec, n_sub1]
theorem s_lineIn {S : q_S} {h : ph_Hp} (w : q_wf S) {k : Nat} (e : h.1 26 3 = nI (q_pl S)) (ek : ∀ k, k < q_pl S → h.1 27 k = nI (q_pv S k)) (hk : k < q_pl S) : f_X3_lineIn (nI k) h = some (nI (q_pv S k), h) := by
  have := q_pl_le w
  unfold f_X3_lineIn
  rw [e]
  simp (disch := omega) only [i_lt_f, i_lt_t, i_le_f, i_le_t, i_eq_f, i_eq_t, i_m1_lt, i_eqm_f, i_meq_f, i_mm_t, i_mle_t, i_nle_m, rz_0, rz_1, if_true, if_false, cl_some, ldI_at, ldJ_at, stI_at, stZ_at, stJ_at, pfI_at, pfJ_at, jn_at, dvI_at, rmI_at, irem_at, nI_add, pk_mul, pk_sub, n_dec, n_sub1, ek k hk]
theorem s_lineIn0 {S : q_S} {h : ph_Hp} (w : q_wf S) (e : h.1 26 3 = nI (q_pl S)) (ek : ∀ k, k < q_pl S → h.1 27 k = nI (q_pv S k)) : f_X3_lineIn (nI 0) h = some (q_lv S (q_pv S 0), h) := by
  by_cases c : q_pl S = 0
  · rw [q_lv_0 c]
    unfold f_X3_lineIn
    rw [e, c]
    simp (disch := omega) only [i_lt_f, i_lt_t, i_le_f, i_le_t, i_eq_f, i_eq_t, i_m1_lt, i_eqm_f, i_meq_f, i_mm_t, i_mle_t, i_nle_m, rz_0, rz_1, if_true, if_false, cl_some, ldI_at, ldJ_at, stI_at, stZ_at, stJ_at, pfI_at, pfJ_at, jn_at, dvI_at, rmI_at, irem_at, nI_add, pk_mul, pk_sub, n_dec, n_sub1]
  · rw [q_lv_1 c]
    exact s_lineIn w e ek (by omega)
def q_A1 (S : q_S) (h : ph_Hp) : Prop := h.1 26 3 = nI (q_pl S) ∧ h.1 26 4 = q_f0 S ∧ ∀ k, k < q_pl S → h.1 27 k = nI (q_pv S k)
theorem s_parse3 {S : q_S} {h : ph_Hp} (w : q_wf S) (k1 : cR 1 2 (S.1 0) (S.2.1 0) h) : ph_O (f_X3_parse h) (fun _ g => q_A S g ∧ q_ag [26, 27, 28, 29] h g) := by
  have hn : S.1 0 ≤ 24 := w.1.1
  have hpl := q_pl_le w
  unfold f_X3_parse
  rw [s_fault0 w k1, cl_some, pfI_at]
  -- the joint: the length is known
  refine O_jn (fun x => x.1 = nI (q_pl S) ∧ x.2.1 26 4 = q_f0 S ∧ q_ag [26, 27, 28, 29] h x.2) ?_ ?_
  · rintro ⟨x7, h8⟩ ⟨e7, e8, a8⟩
    dsimp only at e7 e8 a8 ⊢
    subst e7
    rw [pfI_at]
    refine O_for (q_pl S) (fun i y => y.1 = nI i ∧ y.2.1 26 3 = nI (q_pl S) ∧ y.2.1 26 4 = q_f0 S ∧ (∀ k, k < i → y.2.1 27 k = nI (q_pv S k)) ∧ q_ag [26, 27, 28, 29] h y.2) (by omega) ⟨rfl, by rw [sI_eq, if_pos rfl], by rw [sI_eq, if_neg (by decide)]; exact e8, fun k hk => absurd hk (Nat.not_lt_zero k), q_ag_sI a8 (by decide)⟩ ?_ ?_
    · rintro rec i ⟨x, g⟩ hi ⟨ex, e1, e2, e3, e4⟩ hrec
      dsimp only at ex e1 e2 e3 e4 ⊢
      subst ex
      have kg : cR 1 2 (S.1 0) (S.2.1 0) g := cR_ag k1 (e4 1 (by decide)).1 (e4 2 (by decide)).1
      have hi2 : i < S.1 0 := by
        have : q_pl S ≤ S.1 0 := by unfold q_pl; split <;> omega
        omega
      have hb := q_pv_b hi
      rw [e1]
      simp (disch := omega) only [i_lt_f, i_lt_t, i_le_f, i_le_t, i_eq_f, i_eq_t, i_m1_lt, i_eqm_f, i_meq_f, i_mm_t, i_mle_t, i_nle_m, rz_0, rz_1, if_true, if_false, cl_some, ldI_at, ldJ_at, stI_at, stZ_at, stJ_at, pfI_at, pfJ_at, jn_at, dvI_at, rmI_at, irem_at, nI_add, pk_mul, pk_sub, n_dec, n_sub1]
      rw [s_Rat r_1 g (by omega), cl_some, kg.2 i hi2]
      simp (disch := omega) only [i_lt_f, i_lt_t, i_le_f, i_le_t, i_eq_f, i_eq_t, i_m1_lt, i_eqm_f, i_meq_f, i_mm_t, i_mle_t, i_nle_m, rz_0, rz_1, if_true, if_false, cl_some, ldI_at, ldJ_at, stI_at, stZ_at, stJ_at, pfI_at, pfJ_at, jn_at, dvI_at, rmI_at, irem_at, nI_add, pk_mul, pk_sub, n_dec, n_sub1]
      refine hrec _ ⟨rfl, by rw [sI_ne _ _ _ (by decide)]; exact e1, by rw [sI_ne _ _ _ (by decide)]; exact e2, fun k hk => ?_, q_ag_sI e4 (by decide)⟩
      rw [sI_eq]
      by_cases c : k = i
      · rw [if_pos c, c]; rfl
      · rw [if_neg c]; exact e3 k (by omega)
    · rintro rec ⟨x, g⟩ ⟨ex, e1, e2, e3, e4⟩
      dsimp only at ex e1 e2 e3 e4 ⊢
      subst ex
      rw [e1]
      simp (disch := omega) only [i_lt_f, i_lt_t, i_le_f, i_le_t, i_eq_f, i_eq_t, i_m1_lt, i_eqm_f, i_meq_f, i_mm_t, i_mle_t, i_nle_m, rz_0, rz_1, if_true, if_false, cl_some, ldI_at, ldJ_at, stI_at, stZ_at, stJ_at, pfI_at, pfJ_at, jn_at, dvI_at, rmI_at, irem_at, nI_add, pk_mul, pk_sub, n_dec, n_sub1]
      -- next and ahead: the first line
      refine O_for 8 (fun i y => y.1 = nI i ∧ q_A1 S y.2 ∧ (∀ l, l < i → y.2.1 28 l = q_lv S (q_pv S 0) ∧ y.2.1 29 l = q_lv S (q_pv S 0)) ∧ q_ag [26, 27, 28, 29] h y.2) (by omega) ⟨rfl, ⟨e1, e2, e3⟩, fun k hk => absurd hk (Nat.not_lt_zero k), e4⟩ ?_ ?_
      · rintro rec2 i ⟨x, g⟩ hi ⟨ex, ⟨e1, e2, e3⟩, e5, e4⟩ hrec
        dsimp only at ex e1 e2 e3 e4 e5 ⊢
        subst ex
        simp (disch := omega) only [i_lt_f, i_lt_t, i_le_f, i_le_t, i_eq_f, i_eq_t, i_m1_lt, i_eqm_f, i_meq_f, i_mm_t, i_mle_t, i_nle_m, rz_0, rz_1, if_true, if_false, cl_some, ldI_at, ldJ_at, stI_at, stZ_at, stJ_at, pfI_at, pfJ_at, jn_at, dvI_at, rmI_at, irem_at, nI_add, pk_mul, pk_sub, n_dec, n_sub1]
        rw [s_lineIn0 w e1 e3, cl_some, s_lineIn0 w (by rw [sI_ne _ _ _ (by decide)]; exact e1) (by rw [sI_ne _ _ _ (by decide)]; exact e3), cl_some]
        refine hrec _ ⟨rfl, ⟨by rw [sI_ne _ _ _ (by decide), sI_ne _ _ _ (by decide)]; exact e1, by rw [sI_ne _ _ _ (by decide), sI_ne _ _ _ (by decide)]; exact e2, by rw [sI_ne _ _ _ (by decide), sI_ne _ _ _ (by decide)]; exact e3⟩, fun l hl => ?_, q_ag_sI (q_ag_sI e4 (by decide)) (by decide)⟩
        rw [sI_ne _ _ _ (by decide), sI_eq, sI_eq, sI_ne _ _ _ (by decide)]
        by_cases c : l = i
        · rw [if_pos c, if_pos c]; exact ⟨rfl, rfl⟩
        · rw [if_neg c, if_neg c]; exact e5 l (by omega)
      · rintro rec2 ⟨x, g⟩ ⟨ex, ⟨e1, e2, e3⟩, e5, e4⟩
        dsimp only at ex e1 e2 e3 e4 e5 ⊢
        subst ex
        simp (disch := omega) only [i_lt_f, i_lt_t, i_le_f, i_le_t, i_eq_f, i_eq_t, i_m1_lt, i_eqm_f, i_meq_f, i_mm_t, i_mle_t, i_nle_m, rz_0, rz_1, if_true, if_false, cl_some, ldI_at, ldJ_at, stI_at, stZ_at, stJ_at, pfI_at, pfJ_at, jn_at, dvI_at, rmI_at, irem_at, nI_add, pk_mul, pk_sub, n_dec, n_sub1]
        rw [e1]
        -- from the end on
        refine O_for (q_pl S) (fun i y => y.1 = nI (q_pl S - i) - nI 1 ∧ q_A1 S y.2 ∧ (∀ l, l < 8 → (∃ p, q_pl S - i ≤ p ∧ p < q_pl S ∧ q_pv S p = l ∧ (∀ p2, q_pl S - i ≤ p2 → p2 < p → q_pv S p2 ≠ l) ∧ y.2.1 28 l = nI (q_pv S ((p + 1) % q_pl S)) ∧ y.2.1 29 l = nI (q_pv S ((p + q_pl S - 1) % q_pl S))) ∨ ((∀ p, q_pl S - i ≤ p → p < q_pl S → q_pv S p ≠ l) ∧ y.2.1 28 l = q_lv S (q_pv S 0) ∧ y.2.1 29 l = q_lv S (q_pv S 0))) ∧ q_ag [26, 27, 28, 29] h y.2) (by omega) ⟨rfl, ⟨e1, e2, e3⟩, fun l hl => Or.inr ⟨fun p h1 h2 => by omega, (e5 l hl).1, (e5 l hl).2⟩, e4⟩ ?_ ?_
        · rintro rec3 i ⟨x, g⟩ hi ⟨ex, ⟨e1, e2, e3⟩, e5, e4⟩ hrec
          dsimp only at ex e1 e2 e3 e4 e5 ⊢
          obtain ⟨p, hp⟩ : ∃ p, q_pl S - i = p + 1 := ⟨q_pl S - i - 1, by omega⟩
          rw [hp, n_sub1] at ex
          subst ex
          have hpp : p < q_pl S := by omega
          have hv := q_pv_lt hpp
          simp (disch := omega) only [i_lt_f, i_lt_t, i_le_f, i_le_t, i_eq_f, i_eq_t, i_m1_lt, i_eqm_f, i_meq_f, i_mm_t, i_mle_t, i_nle_m, rz_0, rz_1, if_true, if_false, cl_some, ldI_at, ldJ_at, stI_at, stZ_at, stJ_at, pfI_at, pfJ_at, jn_at, dvI_at, rmI_at, irem_at, nI_add, pk_mul, pk_sub, n_dec, n_sub1]
          rw [s_lineIn w e1 e3 hpp, cl_some, s_wi g hv (by decide), cl_some]
          simp (disch := omega) only [i_lt_f, i_lt_t, i_le_f, i_le_t, i_eq_f, i_eq_t, i_m1_lt, i_eqm_f, i_meq_f, i_mm_t, i_mle_t, i_nle_m, rz_0, rz_1, if_true, if_false, cl_some, ldI_at, ldJ_at, stI_at, stZ_at, stJ_at, pfI_at, pfJ_at, jn_at, dvI_at, rmI_at, irem_at, nI_add, pk_mul, pk_sub, n_dec, n_sub1]
          rw [e1]
          have fin : ph_O (rec3 (nI p + -1, ph_sI (ph_sI g 28 (q_pv S p) (nI (q_pv S ((p + 1) % q_pl S)))) 29 (q_pv S p) (nI (q_pv S ((p + q_pl S - 1) % q_pl S))))) (fun _ g => q_A S g ∧ q_ag [26, 27, 28, 29] h g) := by
            refine hrec _ ⟨?_, ⟨by rw [sI_ne _ _ _ (by decide), sI_ne _ _ _ (by decide)]; exact e1, by rw [sI_ne _ _ _ (by decide), sI_ne _ _ _ (by decide)]; exact e2, by rw [sI_ne _ _ _ (by decide), sI_ne _ _ _ (by decide)]; exact e3⟩, fun l hl => ?_, q_ag_sI (q_ag_sI e4 (by decide)) (by decide)⟩
            · rw [show q_pl S - (i + 1) = p by omega]
              exact n_am1 _
            · rw [show q_pl S - (i + 1) = p by omega]
              dsimp only
              rw [sI_ne _ _ _ (by decide), sI_eq, sI_eq, sI_ne _ _ _ (by decide)]
              by_cases c : l = q_pv S p
              · left
                exact ⟨p, Nat.le_refl p, hpp, c.symm, fun p2 h1 h2 => by omega, by rw [if_pos c], by rw [if_pos c]⟩
              · rw [if_neg c, if_neg c]
                rcases e5 l hl with ⟨p1, f1, f2, f3, f4, f5, f6⟩ | ⟨f1, f2, f3⟩
                · left
                  refine ⟨p1, by omega, f2, f3, fun p2 h1 h2 => ?_, f5, f6⟩
                  rcases Nat.lt_or_ge p p2 with q | q
                  · exact f4 p2 (by omega) h2
                  · have : p2 = p := by omega
                    rw [this]; exact fun z => c z.symm
                · right
                  refine ⟨fun p2 h1 h2 => ?_, f2, f3⟩
                  rcases Nat.lt_or_ge p p2 with q | q
                  · exact f1 p2 (by omega) h2
                  · have : p2 = p := by omega
                    rw [this]; exact fun z => c z.symm
          have l1 : (p + 1) % q_pl S = if p = q_pl S - 1 then 0 else p + 1 := by
            by_cases c : p = q_pl S - 1
            · rw [if_pos c, show p + 1 = q_pl S by omega, Nat.mod_self]
            · rw [if_neg c]; exact Nat.mod_eq_of_lt (by omega)
          have l2 : (p + q_pl S - 1) % q_pl S = if p = 0 then q_pl S - 1 else p - 1 := by
            by_cases c : p = 0
            · rw [if_pos c, c, Nat.zero_add]; exact Nat.mod_eq_of_lt (by omega)
            · rw [if_neg c, show p + q_pl S - 1 = (p - 1) + q_pl S by omega, Nat.add_mod_right]; exact Nat.mod_eq_of_lt (by omega)
          have g1 : ∀ x : Int32, (ph_sI g 28 (q_pv S p) x).1 26 3 = nI (q_pl S) := fun x => by rw [sI_ne _ _ _ (by decide)]; exact e1
          have g3 : ∀ x : Int32, ∀ k, k < q_pl S → (ph_sI g 28 (q_pv S p) x).1 27 k = nI (q_pv S k) := fun x k hk => by rw [sI_ne _ _ _ (by decide)]; exact e3 k hk
          rw [l1, l2] at fin
          by_cases c1 : p = q_pl S - 1
          · rw [if_pos c1] at fin
            simp (disch := omega) only [i_lt_f, i_lt_t, i_le_f, i_le_t, i_eq_f, i_eq_t, i_m1_lt, i_eqm_f, i_meq_f, i_mm_t, i_mle_t, i_nle_m, rz_0, rz_1, if_true, if_false, cl_some, ldI_at, ldJ_at, stI_at, stZ_at, stJ_at, pfI_at, pfJ_at, jn_at, dvI_at, rmI_at, irem_at, nI_add, pk_mul, pk_sub, n_dec, n_sub1]
            rw [s_lineIn w e1 e3 (show 0 < q_pl S by omega), cl_some]
            by_cases c2 : p = 0
            · rw [if_pos c2] at fin
              simp (disch := omega) only [i_lt_f, i_lt_t, i_le_f, i_le_t, i_eq_f, i_eq_t, i_m1_lt, i_eqm_f, i_meq_f, i_mm_t, i_mle_t, i_nle_m, rz_0, rz_1, if_true, if_false, cl_some, ldI_at, ldJ_at, stI_at, stZ_at, stJ_at, pfI_at, pfJ_at, jn_at, dvI_at, rmI_at, irem_at, nI_add, pk_mul, pk_sub, n_dec, n_sub1, g1]
              rw [s_lineIn w (g1 _) (g3 _) (show q_pl S - 1 < q_pl S by omega), cl_some]
              exact fin
            · rw [if_neg c2] at fin
              simp (disch := omega) only [i_lt_f, i_lt_t, i_le_f, i_le_t, i_eq_f, i_eq_t, i_m1_lt, i_eqm_f, i_meq_f, i_mm_t, i_mle_t, i_nle_m, rz_0, rz_1, if_true, if_false, cl_some, ldI_at, ldJ_at, stI_at, stZ_at, stJ_at, pfI_at, pfJ_at, jn_at, dvI_at, rmI_at, irem_at, nI_add, pk_mul, pk_sub, n_dec, n_sub1, g1]
              rw [s_lineIn w (g1 _) (g3 _) (show p - 1 < q_pl S by omega), cl_some]
              exact fin
          · rw [if_neg c1] at fin
            simp (disch := omega) only [i_lt_f, i_lt_t, i_le_f, i_le_t, i_eq_f, i_eq_t, i_m1_lt, i_eqm_f, i_meq_f, i_mm_t, i_mle_t, i_nle_m, rz_0, rz_1, if_true, if_false, cl_some, ldI_at, ldJ_at, stI_at, stZ_at, stJ_at, pfI_at, pfJ_at, jn_at, dvI_at, rmI_at, irem_at, nI_add, pk_mul, pk_sub, n_dec, n_sub1]
            rw [s_lineIn w e1 e3 (show p + 1 < q_pl S by omega), cl_some]
            by_cases c2 : p = 0
            · rw [if_pos c2] at fin
              simp (disch := omega) only [i_lt_f, i_lt_t, i_le_f, i_le_t, i_eq_f, i_eq_t, i_m1_lt, i_eqm_f, i_meq_f, i_mm_t, i_mle_t, i_nle_m, rz_0, rz_1, if_true, if_false, cl_some, ldI_at, ldJ_at, stI_at, stZ_at, stJ_at, pfI_at, pfJ_at, jn_at, dvI_at, rmI_at, irem_at, nI_add, pk_mul, pk_sub, n_dec, n_sub1, g1]
              rw [s_lineIn w (g1 _) (g3 _) (show q_pl S - 1 < q_pl S by omega), cl_some]
              exact fin
            · rw [if_neg c2] at fin
              simp (disch := omega) only [i_lt_f, i_lt_t, i_le_f, i_le_t, i_eq_f, i_eq_t, i_m1_lt, i_eqm_f, i_meq_f, i_mm_t, i_mle_t, i_nle_m, rz_0, rz_1, if_true, if_false, cl_some, ldI_at, ldJ_at, stI_at, stZ_at, stJ_at, pfI_at, pfJ_at, jn_at, dvI_at, rmI_at, irem_at, nI_add, pk_mul, pk_sub, n_dec, n_sub1, g1]
              rw [s_lineIn w (g1 _) (g3 _) (show p - 1 < q_pl S by omega), cl_some]
              exact fin
        · rintro rec3 ⟨x, g⟩ ⟨ex, ⟨e1, e2, e3⟩, e5, e4⟩
          dsimp only at ex e1 e2 e3 e4 e5 ⊢
          rw [Nat.sub_self] at ex e5
          rw [if_pos (by rw [ex]; decide)]
          have key : ∀ l, l < 8 → g.1 28 l = q_lv S (q_nx S l) ∧ g.1 29 l = q_lv S (q_ah S l) := by
            intro l hl
            unfold q_nx q_ah
            rcases e5 l hl with ⟨p1, f1, f2, f3, f4, f5, f6⟩ | ⟨f1, f2, f3⟩
            · have hfp : q_fp S l = p1 := by
                have h1 : q_fp S l < q_pl S := by
                  rcases Nat.lt_or_ge (q_fp S l) (q_pl S) with q | q
                  · exact q
                  · have := q_ff_no (fun p => decide (q_pv S p = l)) (q_pl S) p1 (by show p1 < q_fp S l; omega)
                    simp [f3] at this
                have h2 := q_ff_yes (fun p => decide (q_pv S p = l)) (q_pl S) h1
                have h2 : q_pv S (q_fp S l) = l := of_decide_eq_true h2
                rcases Nat.lt_trichotomy (q_fp S l) p1 with q | q | q
                · exact absurd h2 (f4 _ (Nat.zero_le _) q)
                · exact q
                · have := q_ff_no (fun p => decide (q_pv S p = l)) (q_pl S) p1 q
                  simp [f3] at this
              rw [hfp, if_pos f2, if_pos f2, q_lv_1 (by omega), q_lv_1 (by omega)]
              exact ⟨f5, f6⟩
            · have hfp : ¬ q_fp S l < q_pl S := by
                intro h1
                have h2 := q_ff_yes (fun p => decide (q_pv S p = l)) (q_pl S) h1
                have h2 : q_pv S (q_fp S l) = l := of_decide_eq_true h2
                exact f1 _ (Nat.zero_le _) h1 h2
              rw [if_neg hfp, if_neg hfp]
              exact ⟨f2, f3⟩
          exact O_ret ⟨⟨e1, e2, e3, fun l hl => (key l hl).1, fun l hl => (key l hl).2⟩, e4⟩
  · intro j hj
    rw [sI_eq, if_pos rfl]
    unfold q_f0 q_pl at *
    by_cases c : q_m0 S = S.1 0
    · rw [if_pos c, if_pos rfl, s_Rsize r_1, cl_some, sI_ne _ _ _ (by decide), k1.1]
      simp (disch := omega) only [i_lt_f, i_lt_t, i_le_f, i_le_t, i_eq_f, i_eq_t, i_m1_lt, i_eqm_f, i_meq_f, i_mm_t, i_mle_t, i_nle_m, rz_0, rz_1, if_true, if_false, cl_some, ldI_at, ldJ_at, stI_at, stZ_at, stJ_at, pfI_at, pfJ_at, jn_at, dvI_at, rmI_at, irem_at, nI_add, pk_mul, pk_sub, n_dec, n_sub1]
      refine hj _ ⟨by rw [if_pos c], by rw [sI_eq, if_pos rfl, if_pos c], q_ag_sI (q_ag_rf _ h) (by decide)⟩
    · have : q_m0 S ≤ S.1 0 := q_ff_le _ _
      rw [if_neg c]
      simp (disch := omega) only [i_lt_f, i_lt_t, i_le_f, i_le_t, i_eq_f, i_eq_t, i_m1_lt, i_eqm_f, i_meq_f, i_mm_t, i_mle_t, i_nle_m, rz_0, rz_1, if_true, if_false, cl_some, ldI_at, ldJ_at, stI_at, stZ_at, stJ_at, pfI_at, pfJ_at, jn_at, dvI_at, rmI_at, irem_at, nI_add, pk_mul, pk_sub, n_dec, n_sub1]
      refine hj _ ⟨by rw [if_neg c], by rw [sI_eq, if_pos rfl, if_neg c], q_ag_sI (q_ag_rf _ h) (by decide)⟩
