-- small deeds of the reference
theorem m_undo (S : q_S) (w : q_wf S) (h : ph_Hp) (K : MI S h) (x1 : Int32) : ph_O (f_X9_undo x1 h) (Mq h (sp_undo S x1).1 (sp_undo S x1).2) := by
  unfold f_X9_undo sp_undo
  rcases q_ins x1 2 (by decide) with ⟨e1, b1⟩ | ⟨t, ht, rfl, e1⟩
  · rw [m_two_o b1, cl_some, e1, if_pos rfl]
    exact O_ret ⟨rfl, K, q_aC_rf h⟩
  rw [m_two_i ht, cl_some, e1, if_neg (by decide)]
  dsimp only
  obtain ⟨⟨a1, a2⟩, ⟨b1, b2⟩, ⟨c1, c2, c3⟩, ⟨d1, d2, d3⟩, ⟨f1, f2⟩, ⟨g1, g2, g3⟩, h1, i1, j1, k1⟩ := id K
  rcases (show t = 0 ∨ t = 1 by omega) with rfl | rfl
  · have hw := w.1.1
    rw [ldI_at (by decide) (by decide), a1]
    by_cases c : S.1 0 = 0
    · rw [if_pos (by rw [c]), if_pos c]
      exact O_ret ⟨rfl, K, q_aC_rf h⟩
    · rw [if_neg (by rw [nI_eq (by omega) (by decide)]; exact c), if_neg c, ldI_at (by decide) (by decide), a1, pk_sub (by omega), stI_at (by decide) (by decide), ldI_at (by decide) (by decide)]
      exact O_ret ⟨by rw [sI_eq, if_pos rfl], ⟨⟨by rw [sI_eq, if_pos rfl]; rfl, mW_le (mW_ag a2 (sI_ne _ _ _ (by decide))) (Nat.sub_le _ _)⟩, ⟨by rw [sI_eq, if_neg (by decide)]; exact b1, b2⟩, ⟨c1, c2, c3⟩, ⟨d1, d2, d3⟩, ⟨f1, f2⟩, ⟨g1, g2, g3⟩, h1, i1, j1, k1⟩, q_aC_sI (q_aC_rf h) (by decide)⟩
  · have hw := w.1.2.1
    rw [ldI_at (by decide) (by decide), b1]
    by_cases c : S.1 1 = 0
    · rw [if_pos (by rw [c]), if_pos c]
      exact O_ret ⟨rfl, K, q_aC_rf h⟩
    · rw [if_neg (by rw [nI_eq (by omega) (by decide)]; exact c), if_neg c, ldI_at (by decide) (by decide), b1, pk_sub (by omega), stI_at (by decide) (by decide), ldI_at (by decide) (by decide)]
      exact O_ret ⟨by rw [sI_eq, if_pos rfl], ⟨⟨by rw [sI_eq, if_neg (by decide)]; exact a1, a2⟩, ⟨by rw [sI_eq, if_pos rfl]; rfl, mW_le (mW_ag b2 (sI_ne _ _ _ (by decide))) (Nat.sub_le _ _)⟩, ⟨c1, c2, c3⟩, ⟨d1, d2, d3⟩, ⟨f1, f2⟩, ⟨g1, g2, g3⟩, h1, i1, j1, k1⟩, q_aC_sI (q_aC_rf h) (by decide)⟩
theorem m_move (S : q_S) (w : q_wf S) (h : ph_Hp) (K : MI S h) (x1 x2 : Int32) : ph_O (f_X9_move x1 x2 h) (Mq h (sp_move S x1 x2).1 (sp_move S x1 x2).2) := by
  unfold f_X9_move sp_move
  rcases q_ins x1 40 (by decide) with ⟨e1, b1⟩ | ⟨t, ht, rfl, e1⟩
  · rw [m_ste_o b1, cl_some, e1, if_pos rfl]
    exact O_ret ⟨rfl, K, q_aC_rf h⟩
  rw [m_ste_i ht, cl_some, e1, if_neg (by decide)]
  rcases q_ins x2 10 (by decide) with ⟨e2, b2⟩ | ⟨b, hb, rfl, e2⟩
  · rw [m_wo (by decide) b2, cl_some, e2, if_pos rfl]
    exact O_ret ⟨rfl, K, q_aC_rf h⟩
  rw [m_wi hb (by decide), cl_some, e2, if_neg (by decide)]
  dsimp only
  obtain ⟨⟨a1, a2⟩, ⟨b1, b2⟩, ⟨c1, c2, c3⟩, ⟨d1, d2, d3⟩, ⟨f1, f2⟩, ⟨g1, g2, g3⟩, h1, i1, j1, k1⟩ := id K
  have hw := w.1
  unfold sp_tell
  rw [c1, show q_cap 2 = 12 from rfl]
  by_cases c : S.1 2 = 12
  · rw [if_pos (by rw [c]), if_pos c]
    exact O_ret ⟨rfl, K, q_aC_rf h⟩
  · rw [if_neg (by rw [nI_eq (by omega) (by decide)]; exact c), if_neg c, pk_mul, stI_at (by omega) (by decide), sI_ne _ _ _ (by decide), c1, pk_mul, nI_add, stI_at (by omega) (by decide), pfI_at, sI_ne (i := 60) (j := 51) _ _ _ (by decide), sI_ne (i := 60) (j := 51) _ _ _ (by decide), c1, nI_add]
    exact O_ret ⟨by rw [sI_eq, if_pos rfl], ⟨⟨a1, a2⟩, ⟨b1, b2⟩, ⟨by rw [sI_eq, if_pos rfl]; rfl, mW_push c2 (fun j hj => by rw [sI_ne _ _ _ (by decide), sI_eq, if_neg (by omega), sI_eq, if_neg (by omega)]) (by rw [sI_ne _ _ _ (by decide), sI_eq, if_neg (by omega), sI_eq, if_pos (by omega)]), mW_push c3 (fun j hj => by rw [sI_ne _ _ _ (by decide), sI_eq, if_neg (by omega), sI_eq, if_neg (by omega)]) (by rw [sI_ne _ _ _ (by decide), sI_eq, if_pos (by omega)])⟩, ⟨by rw [sI_eq, if_neg (by decide), sI_ne _ _ _ (by decide), sI_ne _ _ _ (by decide)]; exact d1, d2, d3⟩, ⟨by rw [sI_eq, if_neg (by decide), sI_ne _ _ _ (by decide), sI_ne _ _ _ (by decide)]; exact f1, f2⟩, ⟨by rw [sI_eq, if_neg (by decide), sI_ne _ _ _ (by decide), sI_ne _ _ _ (by decide)]; exact g1, g2, g3⟩, h1, by rw [sI_eq, if_neg (by decide), sI_ne _ _ _ (by decide), sI_ne _ _ _ (by decide)]; exact i1, by rw [sI_eq, if_neg (by decide), sI_ne _ _ _ (by decide), sI_ne _ _ _ (by decide)]; exact j1, by rw [sI_eq, if_neg (by decide), sI_ne _ _ _ (by decide), sI_ne _ _ _ (by decide)]; exact k1⟩, q_aC_sI (q_aC_sI (q_aC_sI (q_aC_rf h) (by decide)) (by decide)) (by decide)⟩
theorem m_cough (S : q_S) (w : q_wf S) (h : ph_Hp) (K : MI S h) (x1 x2 : Int32) : ph_O (f_X9_cough x1 x2 h) (Mq h (sp_cough S x1 x2).1 (sp_cough S x1 x2).2) := by
  unfold f_X9_cough sp_cough
  rcases q_ins x1 40 (by decide) with ⟨e1, b1⟩ | ⟨t, ht, rfl, e1⟩
  · rw [m_ste_o b1, cl_some, e1, if_pos rfl]
    exact O_ret ⟨rfl, K, q_aC_rf h⟩
  rw [m_ste_i ht, cl_some, e1, if_neg (by decide)]
  rcases q_ins x2 9 (by decide) with ⟨e2, b2⟩ | ⟨b, hb, rfl, e2⟩
  · rw [m_wo (by decide) b2, cl_some, e2, if_pos rfl]
    exact O_ret ⟨rfl, K, q_aC_rf h⟩
  rw [m_wi hb (by decide), cl_some, e2, if_neg (by decide)]
  dsimp only
  obtain ⟨⟨a1, a2⟩, ⟨b1, b2⟩, ⟨c1, c2, c3⟩, ⟨d1, d2, d3⟩, ⟨f1, f2⟩, ⟨g1, g2, g3⟩, h1, i1, j1, k1⟩ := id K
  have hw := w.1
  unfold sp_tell
  rw [d1, show q_cap 3 = 12 from rfl]
  by_cases c : S.1 3 = 12
  · rw [if_pos (by rw [c]), if_pos c]
    exact O_ret ⟨rfl, K, q_aC_rf h⟩
  · rw [if_neg (by rw [nI_eq (by omega) (by decide)]; exact c), if_neg c, pk_mul, stI_at (by omega) (by decide), sI_ne _ _ _ (by decide), d1, pk_mul, nI_add, stI_at (by omega) (by decide), pfI_at, sI_ne (i := 61) (j := 51) _ _ _ (by decide), sI_ne (i := 61) (j := 51) _ _ _ (by decide), d1, nI_add]
    exact O_ret ⟨by rw [sI_eq, if_pos rfl], ⟨⟨a1, a2⟩, ⟨b1, b2⟩, ⟨by rw [sI_eq, if_neg (by decide), sI_ne _ _ _ (by decide), sI_ne _ _ _ (by decide)]; exact c1, c2, c3⟩, ⟨by rw [sI_eq, if_pos rfl]; rfl, mW_push d2 (fun j hj => by rw [sI_ne _ _ _ (by decide), sI_eq, if_neg (by omega), sI_eq, if_neg (by omega)]) (by rw [sI_ne _ _ _ (by decide), sI_eq, if_neg (by omega), sI_eq, if_pos (by omega)]), mW_push d3 (fun j hj => by rw [sI_ne _ _ _ (by decide), sI_eq, if_neg (by omega), sI_eq, if_neg (by omega)]) (by rw [sI_ne _ _ _ (by decide), sI_eq, if_pos (by omega)])⟩, ⟨by rw [sI_eq, if_neg (by decide), sI_ne _ _ _ (by decide), sI_ne _ _ _ (by decide)]; exact f1, f2⟩, ⟨by rw [sI_eq, if_neg (by decide), sI_ne _ _ _ (by decide), sI_ne _ _ _ (by decide)]; exact g1, g2, g3⟩, h1, by rw [sI_eq, if_neg (by decide), sI_ne _ _ _ (by decide), sI_ne _ _ _ (by decide)]; exact i1, by rw [sI_eq, if_neg (by decide), sI_ne _ _ _ (by decide), sI_ne _ _ _ (by decide)]; exact j1, by rw [sI_eq, if_neg (by decide), sI_ne _ _ _ (by decide), sI_ne _ _ _ (by decide)]; exact k1⟩, q_aC_sI (q_aC_sI (q_aC_sI (q_aC_rf h) (by decide)) (by decide)) (by decide)⟩
theorem m_seen (S : q_S) (w : q_wf S) (h : ph_Hp) (K : MI S h) (x1 x2 : Int32) : ph_O (f_X9_seen x1 x2 h) (Mq h (sp_seen S x1 x2).1 (sp_seen S x1 x2).2) := by
  unfold f_X9_seen sp_seen
  rcases q_ins x1 40 (by decide) with ⟨e1, b1⟩ | ⟨t, ht, rfl, e1⟩
  · rw [m_ste_o b1, cl_some, e1, if_pos rfl]
    exact O_ret ⟨rfl, K, q_aC_rf h⟩
  rw [m_ste_i ht, cl_some, e1, if_neg (by decide)]
  rcases q_ins x2 8 (by decide) with ⟨e2, b2⟩ | ⟨b, hb, rfl, e2⟩
  · rw [m_lin_o b2, cl_some, e2, if_pos rfl]
    exact O_ret ⟨rfl, K, q_aC_rf h⟩
  rw [m_lin_i hb, cl_some, e2, if_neg (by decide)]
  dsimp only
  obtain ⟨⟨a1, a2⟩, ⟨b1, b2⟩, ⟨c1, c2, c3⟩, ⟨d1, d2, d3⟩, ⟨f1, f2⟩, ⟨g1, g2, g3⟩, h1, i1, j1, k1⟩ := id K
  have hw := w.1
  unfold sp_tell
  rw [g1, show q_cap 5 = 8 from rfl]
  by_cases c : S.1 5 = 8
  · rw [if_pos (by rw [c]), if_pos c]
    exact O_ret ⟨rfl, K, q_aC_rf h⟩
  · rw [if_neg (by rw [nI_eq (by omega) (by decide)]; exact c), if_neg c, pk_mul, stI_at (by omega) (by decide), sI_ne _ _ _ (by decide), g1, pk_mul, nI_add, stI_at (by omega) (by decide), pfI_at, sI_ne (i := 67) (j := 51) _ _ _ (by decide), sI_ne (i := 67) (j := 51) _ _ _ (by decide), g1, nI_add]
    exact O_ret ⟨by rw [sI_eq, if_pos rfl], ⟨⟨a1, a2⟩, ⟨b1, b2⟩, ⟨by rw [sI_eq, if_neg (by decide), sI_ne _ _ _ (by decide), sI_ne _ _ _ (by decide)]; exact c1, c2, c3⟩, ⟨by rw [sI_eq, if_neg (by decide), sI_ne _ _ _ (by decide), sI_ne _ _ _ (by decide)]; exact d1, d2, d3⟩, ⟨by rw [sI_eq, if_neg (by decide), sI_ne _ _ _ (by decide), sI_ne _ _ _ (by decide)]; exact f1, f2⟩, ⟨by rw [sI_eq, if_pos rfl]; rfl, mW_push g2 (fun j hj => by rw [sI_ne _ _ _ (by decide), sI_eq, if_neg (by omega), sI_eq, if_neg (by omega)]) (by rw [sI_ne _ _ _ (by decide), sI_eq, if_neg (by omega), sI_eq, if_pos (by omega)]), mW_push g3 (fun j hj => by rw [sI_ne _ _ _ (by decide), sI_eq, if_neg (by omega), sI_eq, if_neg (by omega)]) (by rw [sI_ne _ _ _ (by decide), sI_eq, if_pos (by omega)])⟩, h1, by rw [sI_eq, if_neg (by decide), sI_ne _ _ _ (by decide), sI_ne _ _ _ (by decide)]; exact i1, by rw [sI_eq, if_neg (by decide), sI_ne _ _ _ (by decide), sI_ne _ _ _ (by decide)]; exact j1, by rw [sI_eq, if_neg (by decide), sI_ne _ _ _ (by decide), sI_ne _ _ _ (by decide)]; exact k1⟩, q_aC_sI (q_aC_sI (q_aC_sI (q_aC_rf h) (by decide)) (by decide)) (by decide)⟩
theorem m_dark (S : q_S) (w : q_wf S) (h : ph_Hp) (K : MI S h) (x1 : Int32) : ph_O (f_X9_dark x1 h) (Mq h (sp_dark S x1).1 (sp_dark S x1).2) := by
  unfold f_X9_dark sp_dark
  rcases q_ins x1 40 (by decide) with ⟨e1, b1⟩ | ⟨t, ht, rfl, e1⟩
  · rw [m_ste_o b1, cl_some, e1, if_pos rfl]
    exact O_ret ⟨rfl, K, q_aC_rf h⟩
  rw [m_ste_i ht, cl_some, e1, if_neg (by decide)]
  dsimp only
  obtain ⟨⟨a1, a2⟩, ⟨b1, b2⟩, ⟨c1, c2, c3⟩, ⟨d1, d2, d3⟩, ⟨f1, f2⟩, ⟨g1, g2, g3⟩, h1, i1, j1, k1⟩ := id K
  have hw := w.1
  unfold sp_tell
  rw [f1, show q_cap 4 = 6 from rfl]
  by_cases c : S.1 4 = 6
  · rw [if_pos (by rw [c]), if_pos c]
    exact O_ret ⟨rfl, K, q_aC_rf h⟩
  · rw [if_neg (by rw [nI_eq (by omega) (by decide)]; exact c), if_neg c, stI_at (by omega) (by decide), pfI_at, sI_ne (i := 62) (j := 51) _ _ _ (by decide), f1, nI_add]
    exact O_ret ⟨by rw [sI_eq, if_pos rfl], ⟨⟨a1, a2⟩, ⟨b1, b2⟩, ⟨by rw [sI_eq, if_neg (by decide), sI_ne _ _ _ (by decide)]; exact c1, c2, c3⟩, ⟨by rw [sI_eq, if_neg (by decide), sI_ne _ _ _ (by decide)]; exact d1, d2, d3⟩, ⟨by rw [sI_eq, if_pos rfl]; rfl, mW_push f2 (fun j hj => by rw [sI_ne _ _ _ (by decide), sI_eq, if_neg (by omega)]) (by rw [sI_ne _ _ _ (by decide), sI_eq, if_pos (by omega)])⟩, ⟨by rw [sI_eq, if_neg (by decide), sI_ne _ _ _ (by decide)]; exact g1, g2, g3⟩, h1, by rw [sI_eq, if_neg (by decide), sI_ne _ _ _ (by decide)]; exact i1, by rw [sI_eq, if_neg (by decide), sI_ne _ _ _ (by decide)]; exact j1, by rw [sI_eq, if_neg (by decide), sI_ne _ _ _ (by decide)]; exact k1⟩, q_aC_sI (q_aC_sI (q_aC_rf h) (by decide)) (by decide)⟩
theorem m_forget (S : q_S) (w : q_wf S) (h : ph_Hp) (K : MI S h) : ph_O (f_X9_forget h) (Mq h (sp_forget S).1 (sp_forget S).2) := by
  unfold f_X9_forget sp_forget
  obtain ⟨⟨a1, a2⟩, ⟨b1, b2⟩, ⟨c1, c2, c3⟩, ⟨d1, d2, d3⟩, ⟨f1, f2⟩, ⟨g1, g2, g3⟩, h1, i1, j1, k1⟩ := id K
  rw [pfI_at]
  exact O_ret ⟨g1, ⟨⟨a1, a2⟩, ⟨b1, b2⟩, ⟨by rw [sI_eq, if_neg (by decide)]; exact c1, c2, c3⟩, ⟨by rw [sI_eq, if_neg (by decide)]; exact d1, d2, d3⟩, ⟨by rw [sI_eq, if_neg (by decide)]; exact f1, f2⟩, ⟨by rw [sI_eq, if_pos rfl]; rfl, mW_0 _ _ _ _ _, mW_0 _ _ _ _ _⟩, h1, by rw [sI_eq, if_neg (by decide)]; exact i1, by rw [sI_eq, if_neg (by decide)]; exact j1, by rw [sI_eq, if_neg (by decide)]; exact k1⟩, q_aC_sI (q_aC_rf h) (by decide)⟩
theorem m_back (S : q_S) (w : q_wf S) (h : ph_Hp) (K : MI S h) (x1 : Int32) : ph_O (f_X9_back x1 h) (Mq h (sp_back S x1).1 (sp_back S x1).2) := by
  unfold f_X9_back sp_back
  rcases q_ins x1 3 (by decide) with ⟨e1, b1⟩ | ⟨t, ht, rfl, e1⟩
  · rw [m_wo (by decide) b1, cl_some, e1, if_pos rfl]
    exact O_ret ⟨rfl, K, q_aC_rf h⟩
  rw [m_wi ht (by decide), cl_some, e1, if_neg (by decide)]
  dsimp only
  obtain ⟨⟨a1, a2⟩, ⟨b1, b2⟩, ⟨c1, c2, c3⟩, ⟨d1, d2, d3⟩, ⟨f1, f2⟩, ⟨g1, g2, g3⟩, h1, i1, j1, k1⟩ := id K
  have hw := w.1
  rcases (show t = 0 ∨ t = 1 ∨ t = 2 by omega) with rfl | rfl | rfl
  · rw [jn_at, if_pos rfl]
    dsimp only
    rw [c1]
    by_cases c : S.1 2 = 0
    · rw [if_pos (by rw [c]), if_pos (show S.1 (2 + 0) = 0 from c)]
      exact O_ret ⟨rfl, K, q_aC_rf h⟩
    · rw [if_neg (by rw [nI_eq (by omega) (by decide)]; exact c), if_neg (show ¬ S.1 (2 + 0) = 0 from c), jn_at, if_pos rfl]
      dsimp only
      rw [pfI_at, jn_at, if_neg (by decide)]
      dsimp only
      rw [pfI_at, jn_at, if_neg (by decide)]
      dsimp only
      rw [pfI_at, pk_sub (show 1 ≤ S.1 2 by omega), sI_eq, if_neg (by decide), d1, pk_sub (Nat.zero_le _), sI_eq, if_neg (by decide), sI_eq, if_neg (by decide), f1, pk_sub (Nat.zero_le _)]
      exact O_ret ⟨rfl, ⟨⟨a1, a2⟩, ⟨b1, b2⟩, ⟨by rw [sI_eq, if_neg (by decide), sI_eq, if_neg (by decide), sI_eq, if_pos rfl]; rfl, mW_le c2 (Nat.sub_le _ _), mW_le c3 (Nat.sub_le _ _)⟩, ⟨by rw [sI_eq, if_neg (by decide), sI_eq, if_pos rfl]; rfl, d2, d3⟩, ⟨by rw [sI_eq, if_pos rfl]; rfl, f2⟩, ⟨by rw [sI_eq, if_neg (by decide), sI_eq, if_neg (by decide), sI_eq, if_neg (by decide)]; exact g1, g2, g3⟩, h1, by rw [sI_eq, if_neg (by decide), sI_eq, if_neg (by decide), sI_eq, if_neg (by decide)]; exact i1, by rw [sI_eq, if_neg (by decide), sI_eq, if_neg (by decide), sI_eq, if_neg (by decide)]; exact j1, by rw [sI_eq, if_neg (by decide), sI_eq, if_neg (by decide), sI_eq, if_neg (by decide)]; exact k1⟩, q_aC_sI (q_aC_sI (q_aC_sI (q_aC_rf h) (by decide)) (by decide)) (by decide)⟩
  · rw [jn_at, if_neg (by decide), if_pos rfl]
    dsimp only
    rw [d1]
    by_cases c : S.1 3 = 0
    · rw [if_pos (by rw [c]), if_pos (show S.1 (2 + 1) = 0 from c)]
      exact O_ret ⟨rfl, K, q_aC_rf h⟩
    · rw [if_neg (by rw [nI_eq (by omega) (by decide)]; exact c), if_neg (show ¬ S.1 (2 + 1) = 0 from c), jn_at, if_neg (by decide)]
      dsimp only
      rw [pfI_at, jn_at, if_pos rfl]
      dsimp only
      rw [pfI_at, jn_at, if_neg (by decide)]
      dsimp only
      rw [pfI_at, pk_sub (show 1 ≤ S.1 3 by omega), c1, pk_sub (Nat.zero_le _), sI_eq, if_neg (by decide), d1, pk_sub (show 1 ≤ S.1 3 by omega), sI_eq, if_neg (by decide), sI_eq, if_neg (by decide), f1, pk_sub (Nat.zero_le _)]
      exact O_ret ⟨rfl, ⟨⟨a1, a2⟩, ⟨b1, b2⟩, ⟨by rw [sI_eq, if_neg (by decide), sI_eq, if_neg (by decide), sI_eq, if_pos rfl]; rfl, c2, c3⟩, ⟨by rw [sI_eq, if_neg (by decide), sI_eq, if_pos rfl]; rfl, mW_le d2 (Nat.sub_le _ _), mW_le d3 (Nat.sub_le _ _)⟩, ⟨by rw [sI_eq, if_pos rfl]; rfl, f2⟩, ⟨by rw [sI_eq, if_neg (by decide), sI_eq, if_neg (by decide), sI_eq, if_neg (by decide)]; exact g1, g2, g3⟩, h1, by rw [sI_eq, if_neg (by decide), sI_eq, if_neg (by decide), sI_eq, if_neg (by decide)]; exact i1, by rw [sI_eq, if_neg (by decide), sI_eq, if_neg (by decide), sI_eq, if_neg (by decide)]; exact j1, by rw [sI_eq, if_neg (by decide), sI_eq, if_neg (by decide), sI_eq, if_neg (by decide)]; exact k1⟩, q_aC_sI (q_aC_sI (q_aC_sI (q_aC_rf h) (by decide)) (by decide)) (by decide)⟩
  · rw [jn_at, if_neg (by decide), if_neg (by decide)]
    dsimp only
    rw [f1]
    by_cases c : S.1 4 = 0
    · rw [if_pos (by rw [c]), if_pos (show S.1 (2 + 2) = 0 from c)]
      exact O_ret ⟨rfl, K, q_aC_rf h⟩
    · rw [if_neg (by rw [nI_eq (by omega) (by decide)]; exact c), if_neg (show ¬ S.1 (2 + 2) = 0 from c), jn_at, if_neg (by decide)]
      dsimp only
      rw [pfI_at, jn_at, if_neg (by decide)]
      dsimp only
      rw [pfI_at, jn_at, if_pos rfl]
      dsimp only
      rw [pfI_at, pk_sub (show 1 ≤ S.1 4 by omega), c1, pk_sub (Nat.zero_le _), sI_eq, if_neg (by decide), d1, pk_sub (Nat.zero_le _), sI_eq, if_neg (by decide), sI_eq, if_neg (by decide), f1, pk_sub (show 1 ≤ S.1 4 by omega)]
      exact O_ret ⟨rfl, ⟨⟨a1, a2⟩, ⟨b1, b2⟩, ⟨by rw [sI_eq, if_neg (by decide), sI_eq, if_neg (by decide), sI_eq, if_pos rfl]; rfl, c2, c3⟩, ⟨by rw [sI_eq, if_neg (by decide), sI_eq, if_pos rfl]; rfl, d2, d3⟩, ⟨by rw [sI_eq, if_pos rfl]; rfl, mW_le f2 (Nat.sub_le _ _)⟩, ⟨by rw [sI_eq, if_neg (by decide), sI_eq, if_neg (by decide), sI_eq, if_neg (by decide)]; exact g1, g2, g3⟩, h1, by rw [sI_eq, if_neg (by decide), sI_eq, if_neg (by decide), sI_eq, if_neg (by decide)]; exact i1, by rw [sI_eq, if_neg (by decide), sI_eq, if_neg (by decide), sI_eq, if_neg (by decide)]; exact j1, by rw [sI_eq, if_neg (by decide), sI_eq, if_neg (by decide), sI_eq, if_neg (by decide)]; exact k1⟩, q_aC_sI (q_aC_sI (q_aC_sI (q_aC_rf h) (by decide)) (by decide)) (by decide)⟩
