theorem m_mayOf {S : q_S} (w : q_wf S) {h : ph_Hp} (F : MF S h) {u t : Nat} (hu : u < 40) (ht : t < 40) : ph_O (f_X9_mayOf (nI u) (nI t) h) (fun v g => v = q_ma S u t ∧ MF S g ∧ mA h g) := by
  have hhn := q_hn_le w
  have h512 : 2 ^ q_hn S ≤ 2 ^ 9 := Nat.pow_le_pow_right (by decide) hhn
  obtain ⟨P, L, K⟩ := F
  have keep : ∀ (g : ph_Hp) (c : Nat → Int32), q_ag [63, 65, 66] h g → (∀ t, t < 40 → g.1 63 t = c t) → MI S g ∧ MP S c g := by
    intro g c ag e
    refine ⟨MI_mA K (mA_ag ag (by decide)), ⟨⟨by rw [(ag 51 (by decide)).1]; exact P.1.1, by rw [(ag 58 (by decide)).1]; exact P.1.2⟩, ⟨by rw [(ag 51 (by decide)).1]; exact P.2.1.1, by rw [(ag 59 (by decide)).1]; exact P.2.1.2⟩, fun t ht => ⟨e t ht, by rw [(ag 64 (by decide)).1]; exact (P.2.2 t ht).2⟩⟩⟩
  unfold f_X9_mayOf
  rw [ldI_at hu (by decide), (P.2.2 u hu).1]
  refine O_for (2 ^ q_hn S) (fun i y => y.1 = q_oa (q_mf S u t) i ∧ y.2.1 = nI i ∧ q_ag [63, 65, 66] h y.2.2 ∧ ∀ s, s < 40 → s ≠ u → y.2.2.1 63 s = q_cg S s) (by omega) ⟨rfl, rfl, q_ag_rf _ h, fun s hs _ => (P.2.2 s hs).1⟩ ?_ ?_
  · rintro rec i ⟨x, y, g⟩ hi ⟨ex, ey, e1, e2⟩ hrec
    dsimp only at ex ey e1 e2 ⊢
    subst ex ey
    have e3 : q_ag [63, 65, 66] h (ph_sI g 63 u (q_cg S u ||| nI i)) := q_ag_sI e1 (by decide)
    have KP := keep _ (q_cu S u (nI i)) e3 (fun s hs => by
      rw [sI_eq]
      unfold q_cu
      by_cases q : s = u
      · rw [if_pos q, if_pos q, q]
      · rw [if_neg q, if_neg q]; exact e2 s hs q)
    rw [(e1 51 (by decide)).1, P.2.1.1, n_shl _ (by omega), if_neg (nI_ge hi (by omega)), stI_at hu (by decide)]
    refine O_cl (m_lives w (MI_V KP.1 KP.2) (fun k e => by cases e) ht (fun s hs => n_ne1 (by omega))) ?_
    rintro _ g2 ⟨r1, r2, r3⟩
    have r4 : q_ag [63, 65, 66] h g2 := q_ag_tr e3 (fun j hj => r3 j (by simp at hj; simp; omega))
    have r5 : ∀ s, s < 40 → s ≠ u → g2.1 63 s = q_cg S s := fun s hs q => by
      rw [(r3 63 (by decide)).1, sI_eq, if_neg q]; exact e2 s hs q
    have hle := q_pl_le w
    rw [jn_at, (r4 51 (by decide)).1, P.1.1]
    by_cases c : q_pl S = 0
    · rw [if_pos (by rw [c])]
      exact hrec _ ⟨by dsimp only; rw [q_oa]; unfold q_mf; rw [if_pos c], nI_add _ _, r4, r5⟩
    · rw [if_neg (by rw [nI_eq (by omega) (by decide)]; exact c), ldI_at ht (by decide), (r1 t (Nat.le_refl t)).1, q_lv_1 c]
      exact hrec _ ⟨by dsimp only; rw [q_oa]; unfold q_mf; rw [if_neg c], nI_add _ _, r4, r5⟩
  · rintro rec ⟨x, y, g⟩ ⟨ex, ey, e1, e2⟩
    dsimp only at ex ey e1 e2 ⊢
    subst ex ey
    have e3 : q_ag [63, 65, 66] h (ph_sI g 63 u (q_cg S u)) := q_ag_sI e1 (by decide)
    have KP := keep _ (q_cg S) e3 (fun s hs => by
      rw [sI_eq]
      by_cases q : s = u
      · rw [if_pos q, q]
      · rw [if_neg q]; exact e2 s hs q)
    rw [(e1 51 (by decide)).1, P.2.1.1, n_shl _ (by omega), if_pos (nI_le (Nat.le_refl _) (by omega)), stI_at hu (by decide), q_mf_all S w]
    refine O_cl (m_redo w KP.1 KP.2) ?_
    rintro _ g2 ⟨F2, a2⟩
    exact O_ret ⟨rfl, F2, mA_tr (mA_ag e3 (by decide)) a2⟩
theorem m_may (S : q_S) (w : q_wf S) (h : ph_Hp) (K : MI S h) (x1 x2 : Int32) : ph_O (f_X9_may x1 x2 h) (Mq h (sp_may S x1 x2).1 (sp_may S x1 x2).2) := by
  unfold f_X9_may sp_may
  refine O_cl (m_find w K) ?_
  rintro _ g ⟨F, a1⟩
  rcases q_ins x1 40 (by decide) with ⟨e1, b1⟩ | ⟨u, hu, rfl, e1⟩
  · rw [m_ste_o b1, cl_some, e1, if_pos rfl]
    exact O_ret ⟨rfl, F.2.2, mA_C a1⟩
  rw [m_ste_i hu, cl_some, e1, if_neg (by decide)]
  rcases q_ins x2 40 (by decide) with ⟨e2, b2⟩ | ⟨t, ht, rfl, e2⟩
  · rw [m_ste_o b2, cl_some, e2, if_pos rfl]
    exact O_ret ⟨rfl, F.2.2, mA_C a1⟩
  rw [m_ste_i ht, cl_some, e2, if_neg (by decide)]
  refine O_cl (m_mayOf w F hu ht) ?_
  rintro v g2 ⟨rfl, F2, a2⟩
  dsimp only
  exact O_ret ⟨rfl, F2.2.2, mA_C (mA_tr a1 a2)⟩
