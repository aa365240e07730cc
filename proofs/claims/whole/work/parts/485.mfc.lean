-- filed and coughed of the reference
theorem m_redo {S : q_S} (w : q_wf S) {h : ph_Hp} (K : MI S h) (P : MP S (q_cg S) h) : ph_O (f_X9_lives (nI 0) (nI 39) h) (fun _ g => MF S g ∧ mA h g) := by
  refine O_mono (m_lives w (MI_V K P) (fun k e => by cases e) (T := 39) (by decide) (fun t ht => n_ne1 (by omega))) ?_
  rintro _ g2 ⟨r1, r2, r3⟩
  have V2 := MV_ag (MI_V K P) r3
  exact ⟨⟨V2.1, fun t ht => r1 t (by omega), MI_mA K (mA_ag r3 (by decide))⟩, mA_ag r3 (by decide)⟩
theorem MP_ag {S : q_S} {c : Nat → Int32} {h g : ph_Hp} (P : MP S c h) (e : ∀ i, i ∈ [58, 59, 63, 64] → g.1 i = h.1 i) (e2 : g.1 51 7 = h.1 51 7) (e3 : g.1 51 9 = h.1 51 9) : MP S c g := by
  obtain ⟨r1, r2, r3⟩ := P
  refine ⟨⟨by rw [e2]; exact r1.1, by rw [e 58 (by decide)]; exact r1.2⟩, ⟨by rw [e3]; exact r2.1, by rw [e 59 (by decide)]; exact r2.2⟩, ?_⟩
  rw [e 63 (by decide), e 64 (by decide)]
  exact r3
theorem m_filedNow {S : q_S} (w : q_wf S) {h : ph_Hp} (F : MF S h) : ph_O (f_X9_filedNow h) (fun v g => v = q_fi S ∧ MF S g ∧ mA h g) := by
  have hhn := q_hn_le w
  obtain ⟨P, L, K⟩ := F
  have mv : ∀ (g : ph_Hp) (f : Option Nat), q_ag [51, 65, 66] h g → (∀ k, k ≠ 21 → g.1 51 k = h.1 51 k) → g.1 51 21 = q_bv f → MV S f (-1) (q_cg S) g ∧ (g.1 51 24 = nI (S.1 5) ∧ mW 67 2 0 (S.1 5) (S.2.1 7) g ∧ mW 67 2 1 (S.1 5) (S.2.1 8) g) := by
    intro g f ag e1 e2
    refine ⟨⟨MP_ag P (fun i hi => (ag i (by simp at hi; simp; omega)).1) (e1 7 (by decide)) (e1 9 (by decide)), ⟨by rw [e1 15 (by decide)]; exact K.2.2.2.2.1.1, mW_ag K.2.2.2.2.1.2 (ag 62 (by decide)).1⟩, e2, by rw [e1 22 (by decide)]; exact K.2.2.2.2.2.2.2.2.2⟩, ⟨by rw [e1 24 (by decide)]; exact K.2.2.2.2.2.1.1, mW_ag K.2.2.2.2.2.1.2.1 (ag 67 (by decide)).1, mW_ag K.2.2.2.2.2.1.2.2 (ag 67 (by decide)).1⟩⟩
  unfold f_X9_filedNow
  refine O_for (q_hn S) (fun i y => y.1 = q_or (fun k => q_as S (q_P S (some k) (q_cg S))) i ∧ y.2.1 = nI i ∧ q_ag [51, 65, 66] h y.2.2 ∧ ∀ k, k ≠ 21 → y.2.2.1 51 k = h.1 51 k) (by omega) ⟨rfl, rfl, q_ag_rf _ h, fun _ _ => rfl⟩ ?_ ?_
  · rintro rec i ⟨x, y, g⟩ hi ⟨ex, ey, e1, e2⟩ hrec
    dsimp only at ex ey e1 e2 ⊢
    subst ex ey
    have e3 : q_ag [51, 65, 66] h (ph_sI g 51 21 (nI i)) := q_ag_sI e1 (by decide)
    have e4 : ∀ k, k ≠ 21 → (ph_sI g 51 21 (nI i)).1 51 k = h.1 51 k := fun k hk => by rw [sI_eq, if_neg hk]; exact e2 k hk
    have V := mv _ (some i) e3 e4 (by rw [sI_eq, if_pos rfl]; rfl)
    rw [e2 9 (by decide), P.2.1.1, if_neg (nI_ge hi (by omega)), pfI_at]
    refine O_cl (m_isSeen w V.1 (fun k e => by cases e; omega) V.2) ?_
    rintro v g2 ⟨rfl, r2⟩
    have r3 : q_ag [51, 65, 66] h g2 := q_ag_tr e3 (fun j hj => r2 j (by simp at hj; simp; omega))
    have r4 : ∀ k, k ≠ 21 → g2.1 51 k = h.1 51 k := fun k hk => by rw [(r2 51 (by decide)).1]; exact e4 k hk
    rw [jn_at]
    by_cases c : q_as S (q_P S (some i) (q_cg S)) = true
    · rw [if_pos c, if_neg (by decide)]
      exact hrec _ ⟨by dsimp only; rw [q_or, if_pos c], nI_add _ _, r3, r4⟩
    · rw [if_neg c, if_pos rfl]
      exact hrec _ ⟨by dsimp only; rw [q_or, if_neg c]; exact Int32.or_zero, nI_add _ _, r3, r4⟩
  · rintro rec ⟨x, y, g⟩ ⟨ex, ey, e1, e2⟩
    dsimp only at ex ey e1 e2 ⊢
    subst ex ey
    have e3 : q_ag [51, 65, 66] h (ph_sI g 51 21 (-1)) := q_ag_sI e1 (by decide)
    have e4 : ∀ k, (ph_sI g 51 21 (-1)).1 51 k = h.1 51 k := fun k => by
      rw [sI_eq]
      by_cases q : k = 21
      · rw [if_pos q, q]; exact K.2.2.2.2.2.2.2.2.1.symm
      · rw [if_neg q]; exact e2 k q
    have a1 : mA h (ph_sI g 51 21 (-1)) := ⟨fun i hi => e3 i (by simp at hi; simp; omega), fun k _ => e4 k⟩
    rw [e2 9 (by decide), P.2.1.1, if_pos (nI_le (Nat.le_refl _) (by omega)), pfI_at]
    refine O_cl (m_redo w (MI_mA K a1) (MP_ag P (fun i hi => (e3 i (by simp at hi; simp; omega)).1) (e4 7) (e4 9))) ?_
    rintro _ g2 ⟨F2, a2⟩
    exact O_ret ⟨rfl, F2, mA_tr a1 a2⟩
theorem m_filed (S : q_S) (w : q_wf S) (h : ph_Hp) (K : MI S h) : ph_O (f_X9_filed h) (Mq h (sp_filed S).1 (sp_filed S).2) := by
  unfold f_X9_filed sp_filed
  refine O_cl (m_find w K) ?_
  rintro _ g ⟨F, a1⟩
  refine O_cl (m_filedNow w F) ?_
  rintro v g2 ⟨rfl, F2, a2⟩
  dsimp only
  exact O_ret ⟨rfl, F2.2.2, mA_C (mA_tr a1 a2)⟩
theorem m_coughedOf {S : q_S} (w : q_wf S) {h : ph_Hp} (F : MF S h) {k : Nat} (hk : k < q_hn S) : ph_O (f_X9_coughedOf (nI k) h) (fun v g => v = q_co S k ∧ MF S g ∧ mA h g) := by
  have hhn := q_hn_le w
  obtain ⟨P, L, K⟩ := F
  have keep : ∀ (g : ph_Hp) (c : Nat → Int32), q_ag [63, 65, 66] h g → (∀ t, t < 40 → g.1 63 t = c t) → MI S g ∧ MP S c g := by
    intro g c ag e
    refine ⟨MI_mA K (mA_ag ag (by decide)), ⟨⟨by rw [(ag 51 (by decide)).1]; exact P.1.1, by rw [(ag 58 (by decide)).1]; exact P.1.2⟩, ⟨by rw [(ag 51 (by decide)).1]; exact P.2.1.1, by rw [(ag 59 (by decide)).1]; exact P.2.1.2⟩, fun t ht => ⟨e t ht, by rw [(ag 64 (by decide)).1]; exact (P.2.2 t ht).2⟩⟩⟩
  unfold f_X9_coughedOf
  refine O_for 31 (fun i y => y.1 = q_or (q_ak S k) i ∧ y.2.1 = nI i ∧ q_ag [63, 65, 66] h y.2.2 ∧ ∀ t, t < 40 → y.2.2.1 63 t = q_cg S t) (by omega) ⟨rfl, rfl, q_ag_rf _ h, fun t ht => (P.2.2 t ht).1⟩ ?_ ?_
  · rintro rec i ⟨x, y, g⟩ hi ⟨ex, ey, e1, e2⟩ hrec
    dsimp only at ex ey e1 e2 ⊢
    subst ex ey
    have hi40 : i < 40 := by omega
    rw [if_neg (nI_ge hi (by decide)), ldI_at hi40 (by decide), ldI_at hi40 (by decide), stI_at hi40 (by decide), e2 i hi40]
    have e3 : q_ag [63, 65, 66] h (ph_sI g 63 i (q_cg S i ||| ph_shl (nI 1) (nI k))) := q_ag_sI e1 (by decide)
    have KP := keep _ (q_cu S i (ph_shl (nI 1) (nI k))) e3 (fun t ht => by
      rw [sI_eq]
      unfold q_cu
      by_cases q : t = i
      · rw [if_pos q, if_pos q, q]
      · rw [if_neg q, if_neg q]; exact e2 t ht)
    refine O_cl (m_isSeen w (MI_V KP.1 KP.2) (fun k e => by cases e) KP.1.2.2.2.2.2.1) ?_
    rintro v g2 ⟨rfl, r2⟩
    have r3 : q_ag [63, 65, 66] h g2 := q_ag_tr e3 (fun j hj => r2 j (by simp at hj; simp; omega))
    have r4 : ∀ t, t < 40 → (ph_sI g2 63 i (q_cg S i)).1 63 t = q_cg S t := fun t ht => by
      rw [sI_eq]
      by_cases q : t = i
      · rw [if_pos q, q]
      · rw [if_neg q, (r2 63 (by decide)).1, sI_eq, if_neg q]; exact e2 t ht
    rw [jn_at, show q_as S (q_P S none (q_cu S i (ph_shl (nI 1) (nI k)))) = q_ak S k i from rfl]
    by_cases c : q_ak S k i = true
    · rw [if_pos c, if_neg (by decide)]
      dsimp only
      rw [stI_at hi40 (by decide)]
      exact hrec _ ⟨by dsimp only; rw [q_or, if_pos c], nI_add _ _, q_ag_sI r3 (by decide), r4⟩
    · rw [if_neg c, if_pos rfl]
      dsimp only
      rw [stI_at hi40 (by decide)]
      exact hrec _ ⟨by dsimp only; rw [q_or, if_neg c]; exact Int32.or_zero, nI_add _ _, q_ag_sI r3 (by decide), r4⟩
  · rintro rec ⟨x, y, g⟩ ⟨ex, ey, e1, e2⟩
    dsimp only at ex ey e1 e2 ⊢
    subst ex ey
    have KP := keep _ _ e1 e2
    rw [if_pos (nI_le (Nat.le_refl _) (by decide))]
    refine O_cl (m_redo w KP.1 KP.2) ?_
    rintro _ g2 ⟨F2, a2⟩
    exact O_ret ⟨rfl, F2, mA_tr (mA_ag e1 (by decide)) a2⟩
theorem m_coughed (S : q_S) (w : q_wf S) (h : ph_Hp) (K : MI S h) (x1 : Int32) : ph_O (f_X9_coughed x1 h) (Mq h (sp_coughed S x1).1 (sp_coughed S x1).2) := by
  have hhn := q_hn_le w
  unfold f_X9_coughed sp_coughed
  refine O_cl (m_find w K) ?_
  rintro _ g ⟨F, a1⟩
  rcases q_ins x1 (q_hn S) (by omega) with ⟨e1, b1⟩ | ⟨k, hk, rfl, e1⟩
  · rw [m_hol_o (by omega) F.1.2.1.1 b1, cl_some, e1, if_pos rfl]
    exact O_ret ⟨rfl, F.2.2, mA_C a1⟩
  rw [m_hol_i (by omega) F.1.2.1.1 hk, cl_some, e1, if_neg (by decide)]
  refine O_cl (m_coughedOf w F hk) ?_
  rintro v g2 ⟨rfl, F2, a2⟩
  dsimp only
  exact O_ret ⟨rfl, F2.2.2, mA_C (mA_tr a1 a2)⟩
