-- drift, round, often, write, read of the reference
def q_dq (S : q_S) (P : Nat → Nat) (t : Nat) : Bool := !decide (q_lv S (P t) = q_lv S (q_pr S t))
theorem m_driftTo {S : q_S} (w : q_wf S) {h : ph_Hp} (R : MRp S h) {P : Nat → Nat} {T : Nat} (hT : T < 40) (hP : ∀ t, t ≤ T → h.1 65 t = q_lv S (P t)) : f_X9_driftTo (nI T) h = some (nI (q_nb (q_dq S P) (T + 1)), h) := by
  unfold f_X9_driftTo
  refine lp_for (fun i => (nI (q_nb (q_dq S P) i), nI i, h)) (T + 1) (by omega) rfl ?_ ?_
  · intro rec i hi
    dsimp only
    rw [if_neg (nI_nlt (by omega) (by omega)), ldI_at (by omega) (by decide), hP i (by omega), m_pin w R (by omega), cl_some, jn_at, nI_add i 1]
    by_cases c : q_lv S (P i) = q_lv S (q_pr S i)
    · rw [if_pos c]; dsimp only; rw [nI_add, q_nb, if_neg (by unfold q_dq; simp [c])]
    · rw [if_neg c]; dsimp only; rw [nI_add, q_nb, if_pos (by unfold q_dq; simp [c])]
  · intro rec
    dsimp only
    rw [if_pos (nI_lt (by omega) (by omega))]
theorem q_dq_df (S : q_S) (t : Nat) : q_dq S (q_p S) t = q_df S t := by
  unfold q_dq q_df
  by_cases cp : q_pl S = 0
  · rw [q_lv_0 cp, q_lv_0 cp]; simp [cp]
  · have h1 := q_P_lt cp none (q_cg S) t
    have h2 := q_pr_lt cp t
    by_cases c : q_p S t = q_pr S t
    · simp [c]
    · have : ¬ q_lv S (q_p S t) = q_lv S (q_pr S t) := fun z => c ((q_lv_eq cp h1 h2).mp z)
      simp [c, cp, this]
theorem m_driftOf {S : q_S} (w : q_wf S) {h : ph_Hp} (F : MF S h) {j : Nat} (hj : j < 2) : f_X9_driftOf (nI j) h = some (q_dr S j, h) := by
  have hle := q_ff_le (q_df S) 40
  unfold f_X9_driftOf
  refine lp_for (fun i => (nI i, h)) (q_ff (q_df S) 40) (by omega) rfl ?_ ?_
  · intro rec i hi
    have h1 := q_ff_no _ _ i hi
    rw [← q_dq_df] at h1
    unfold q_dq at h1
    dsimp only
    rw [if_neg (nI_ge (by omega) (by decide)), ldI_at (by omega) (by decide), (F.2.1 i (by omega)).1, m_pin w F.1.1 (by omega), cl_some, if_pos (by simpa using h1), nI_add]
  · intro rec
    dsimp only
    unfold q_dr
    by_cases c : q_ff (q_df S) 40 = 40
    · rw [c, if_pos (nI_le (by decide) (by decide)), if_pos rfl]
    · have h1 := q_ff_yes _ _ (show q_ff (q_df S) 40 < 40 by omega)
      rw [← q_dq_df] at h1
      unfold q_dq at h1
      rw [if_neg (nI_ge (by omega) (by decide)), ldI_at (by omega) (by decide), (F.2.1 _ (by omega)).1, m_pin w F.1.1 (by omega), cl_some, if_neg (by simpa using h1), if_neg c]
      by_cases c2 : j = 0
      · rw [if_pos (by rw [c2]), if_pos c2]
      · rw [if_neg (by rw [nI_eq (by omega) (by decide)]; exact c2), if_neg c2, m_driftTo w F.1.1 (P := q_p S) (by decide) (fun t ht => (F.2.1 t (by omega)).1), cl_some]
        rw [show q_dq S (q_p S) = q_df S from funext (q_dq_df S)]
theorem m_drift (S : q_S) (w : q_wf S) (h : ph_Hp) (K : MI S h) (x1 : Int32) : ph_O (f_X9_drift x1 h) (Mq h (sp_drift S x1).1 (sp_drift S x1).2) := by
  unfold f_X9_drift sp_drift
  refine O_cl (m_find w K) ?_
  rintro _ g ⟨F, a1⟩
  rcases q_ins x1 2 (by decide) with ⟨e1, b1⟩ | ⟨j, hj, rfl, e1⟩
  · rw [m_two_o b1, cl_some, e1, if_pos rfl]
    exact O_ret ⟨rfl, F.2.2, mA_C a1⟩
  rw [m_two_i hj, cl_some, e1, if_neg (by decide), m_driftOf w F hj, cl_some]
  dsimp only
  exact O_ret ⟨rfl, F.2.2, mA_C a1⟩
theorem m_oftenOf {S : q_S} (w : q_wf S) {h : ph_Hp} (F : MF S h) {l j : Nat} (hl : l < 8) (hj : j < 2) : f_X9_oftenOf (nI l) (nI j) h = some (q_of S l j, h) := by
  unfold f_X9_oftenOf
  refine lp_for (fun i => (nI (q_nb (q_is S l) i), q_la (q_is S l) i, nI i)) 40 (by omega) rfl ?_ ?_
  · intro rec i hi
    dsimp only
    have hq : (q_lv S (q_p S i) = nI l) ↔ q_is S l i = true := by
      unfold q_is
      by_cases cp : q_pl S = 0
      · rw [q_lv_0 cp]; simp [cp]; exact n_ne1' (by omega)
      · have h1 : q_p S i < 8 := q_P_lt cp none (q_cg S) i
        rw [q_lv_1 cp, nI_eq (by omega) (by omega)]; simp [cp]
    rw [if_neg (nI_ge (by omega) (by decide)), ldI_at (by omega) (by decide), (F.2.1 i (by omega)).1, jn_at, nI_add i 1]
    by_cases c : q_is S l i = true
    · rw [if_pos (hq.mpr c)]
      dsimp only
      rw [ldI_at (by omega) (by decide), (F.2.1 i (by omega)).1, jn_at, if_pos (hq.mpr c), nI_add, q_nb, if_pos c, q_la, if_pos c]
    · rw [if_neg (fun z => c (hq.mp z))]
      dsimp only
      rw [ldI_at (by omega) (by decide), (F.2.1 i (by omega)).1, jn_at, if_neg (fun z => c (hq.mp z)), nI_add, q_nb, if_neg c, q_la, if_neg c]
  · intro rec
    dsimp only
    rw [if_pos (nI_le (by decide) (by decide))]
    unfold q_of
    by_cases c2 : j = 0
    · rw [if_pos (by rw [c2]), if_pos c2]
    · rw [if_neg (by rw [nI_eq (by omega) (by decide)]; exact c2), if_neg c2]
theorem m_often (S : q_S) (w : q_wf S) (h : ph_Hp) (K : MI S h) (x1 x2 : Int32) : ph_O (f_X9_often x1 x2 h) (Mq h (sp_often S x1 x2).1 (sp_often S x1 x2).2) := by
  unfold f_X9_often sp_often
  refine O_cl (m_find w K) ?_
  rintro _ g ⟨F, a1⟩
  rcases q_ins x1 8 (by decide) with ⟨e1, b1⟩ | ⟨l, hl, rfl, e1⟩
  · rw [m_lin_o b1, cl_some, e1, if_pos rfl]
    exact O_ret ⟨rfl, F.2.2, mA_C a1⟩
  rw [m_lin_i hl, cl_some, e1, if_neg (by decide)]
  rcases q_ins x2 2 (by decide) with ⟨e2, b2⟩ | ⟨j, hj, rfl, e2⟩
  · rw [m_two_o b2, cl_some, e2, if_pos rfl]
    exact O_ret ⟨rfl, F.2.2, mA_C a1⟩
  rw [m_two_i hj, cl_some, e2, if_neg (by decide), m_oftenOf w F hl hj, cl_some]
  dsimp only
  exact O_ret ⟨rfl, F.2.2, mA_C a1⟩
theorem wf_move {S : q_S} (w : q_wf S) (x y : Int32) : q_wf (sp_move S x y).2 := by
  unfold sp_move
  rcases q_ins x 40 (by decide) with ⟨e1, b1⟩ | ⟨a, ha, rfl, e1⟩
  · rw [e1]; exact w
  rcases q_ins y 10 (by decide) with ⟨e2, b2⟩ | ⟨b, hb, rfl, e2⟩
  · rw [e1, e2]; exact w
  rw [e1, e2]
  dsimp only
  unfold sp_tell
  have hw := w.1.2.2.1
  by_cases c : S.1 2 = q_cap 2
  · rw [if_pos c]; exact w
  · rw [if_neg c]
    exact wf_put2 w (by have : q_cap 2 = 12 := rfl; omega) (by omega) (by omega)
theorem m_read (S : q_S) (w : q_wf S) (h : ph_Hp) (K : MI S h) (x1 : Int32) : ph_O (f_X9_read x1 h) (Mq h (sp_read S x1).1 (sp_read S x1).2) := by
  unfold f_X9_read sp_read
  rcases q_ins x1 4 (by decide) with ⟨e2, b2⟩ | ⟨s, hs, rfl, e2⟩
  · rw [m_she_o b2, cl_some, e2, if_pos rfl]
    exact O_ret ⟨rfl, K, q_aC_rf h⟩
  rw [m_she_i hs, cl_some, e2, if_neg (by decide), ldI_at hs (by decide), (K.2.2.2.2.2.2.1 s hs).1]
  dsimp only
  by_cases c : S.2.2.1 s = (-1)
  · rw [if_neg (fun z => (n_form w s).mp z c), if_pos c]
    exact cl_id (m_found K _)
  rw [if_pos ((n_form w s).mpr c), if_neg c]
  refine O_for 33 (fun p y => q_aC h y.2.2 ∧ ∃ S1 : q_S, q_wf S1 ∧ MI S1 y.2.2 ∧ S1.2.2 = S.2.2 ∧ ((y.1 = nI p ∧ p ≤ 31 ∧ y.2.1 = nI 1 ∧ q_rd s (31 - p) p S1 = q_rd s 31 0 S) ∨ (y.2.1 = nI 0 ∧ q_rd s 31 0 S = (y.1, S1)))) (by omega) ⟨q_aC_rf h, S, w, K, rfl, Or.inl ⟨rfl, by decide, rfl, rfl⟩⟩ ?_ ?_
  · rintro rec p ⟨y, z, g⟩ hp ⟨am, S1, w1, K1, e3, e4⟩ hrec
    dsimp only at am K1 e4 ⊢
    rcases e4 with ⟨ey, hp31, ez, e4⟩ | ⟨ez, e4⟩
    · subst ey ez
      have ks := K1.2.2.2.2.2.2.1
      have c1 : S1.2.2.1 s ≠ (-1) := by rw [e3]; exact c
      have hw1 := (w1.2.2 s).1
      rw [if_neg (by decide), ldI_at hs (by decide), ((ks s hs).2 c1).1, pk_mul, nI_add]
      by_cases c2 : 2 * p + 2 ≤ S1.2.2.2.1 s
      · rw [show 31 - p = (31 - (p + 1)) + 1 by omega, q_rd_s, if_pos c2] at e4
        rw [if_neg (nI_nlt c2 (by omega)), pk_mul, nI_add, ldI_at (by omega) (by decide), nI_add, ldI_at (by omega) (by decide), ((ks s hs).2 c1).2 _ (by omega), Nat.add_assoc, ((ks s hs).2 c1).2 _ (by omega)]
        refine O_cl (m_move S1 w1 g K1 _ _) ?_
        rintro v g2 ⟨rfl, K2, am2⟩
        have w2 : q_wf (sp_move S1 (S1.2.2.2.2.1 s (2 * p)) (S1.2.2.2.2.1 s (2 * p + 1))).2 := wf_move w1 _ _
        rw [jn_at]
        by_cases c3 : nI 0 ≤ (sp_move S1 (S1.2.2.2.2.1 s (2 * p)) (S1.2.2.2.2.1 s (2 * p + 1))).1
        · rw [if_pos c3] at e4
          rw [if_neg (by rw [Int32.not_lt]; exact c3)]
          dsimp only
          rw [jn_at, if_neg (by decide)]
          dsimp only
          rw [nI_add]
          exact hrec _ ⟨q_aC_tr am am2, _, w2, K2, by rw [mv_sh]; exact e3, Or.inl ⟨rfl, by omega, rfl, e4⟩⟩
        · rw [if_neg c3] at e4
          rw [if_pos (by rw [← Int32.not_le]; exact c3)]
          dsimp only
          rw [jn_at, if_pos rfl]
          dsimp only
          rw [nI_add]
          exact hrec _ ⟨q_aC_tr am am2, _, w2, K2, by rw [mv_sh]; exact e3, Or.inr ⟨rfl, e4.symm⟩⟩
      · rw [if_pos (nI_lt (by omega) (by omega))]
        have e5 : q_rd s (31 - p) p S1 = (nI p, S1) := by
          by_cases q : p = 31
          · rw [q]; rfl
          · rw [show 31 - p = (31 - (p + 1)) + 1 by omega, q_rd_s, if_neg c2]
        rw [← e4, e5]
        exact O_ret ⟨rfl, K1, am⟩
    · rw [ez, if_pos rfl, e4]
      exact O_ret ⟨rfl, K1, am⟩
  · rintro rec ⟨y, z, g⟩ ⟨am, S1, w1, K1, e3, e4⟩
    dsimp only at am K1 e4 ⊢
    rcases e4 with ⟨ey, hp31, ez, e4⟩ | ⟨ez, e4⟩
    · omega
    · rw [ez, if_pos rfl, e4]
      exact O_ret ⟨rfl, K1, am⟩
