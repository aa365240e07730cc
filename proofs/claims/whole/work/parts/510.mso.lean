-- slips of the reference: way by way
theorem m_slipsOf {S : q_S} (w : q_wf S) {h : ph_Hp} (F : MF S h) {c k l t j : Nat} (hc : c ≤ 16) (hk : k < q_hn S) (hl : l < 8) (ht0 : t ≠ 0) (ht : t ≤ 9) (hj : j < 2) : ph_O (f_X9_slipsOf (nI c) (nI k) (nI l) (nI t) (nI j) h) (fun v g => v = q_sl S c k l t j ∧ MF S g ∧ mA h g) := by
  have hhn := q_hn_le w
  obtain ⟨P, L, K⟩ := F
  have mk : ∀ g : ph_Hp, q_ag [63, 65, 66] h g → MI S g ∧ MP S (fun s => g.1 63 s) g := by
    intro g ag
    exact ⟨MI_mA K (mA_ag ag (by decide)), ⟨⟨by rw [(ag 51 (by decide)).1]; exact P.1.1, by rw [(ag 58 (by decide)).1]; exact P.1.2⟩, ⟨by rw [(ag 51 (by decide)).1]; exact P.2.1.1, by rw [(ag 59 (by decide)).1]; exact P.2.1.2⟩, fun s hs => ⟨rfl, by rw [(ag 64 (by decide)).1]; exact (P.2.2 s hs).2⟩⟩⟩
  have h2t : 2 ^ t ≤ 2 ^ 9 := Nat.pow_le_pow_right (by decide) ht
  unfold f_X9_slipsOf
  refine O_for t (fun i y => y.1 = lN (16 ^ i) ∧ y.2 = nI i) (by omega) ⟨rfl, rfl⟩ ?_ ?_
  · rintro rec i ⟨x, y⟩ hi ⟨ex, ey⟩ hrec
    dsimp only at ex ey ⊢
    subst ex ey
    rw [if_neg (nI_ge hi (by omega)), lN_mul]
    exact hrec _ ⟨by dsimp only; rw [Nat.pow_succ], nI_add _ _⟩
  rintro rec0 ⟨x, y⟩ ⟨ex, ey⟩
  dsimp only at ex ey ⊢
  subst ex ey
  rw [if_pos (nI_le (Nat.le_refl _) (by omega))]
  refine O_for (2 ^ t) (fun i y => y.1 = lN (q_sm (q_xs S k c t l) i) ∧ y.2.1 = nI i ∧ q_ag [63, 65, 66] h y.2.2 ∧ y.2.2.1 63 0 = q_cg S 0 ∧ ∀ s, 1 ≤ s → s ≤ t → y.2.2.1 63 s &&& (ph_shl (nI 1) (nI k) ^^^ (-1)) = q_d0 S k s) (by omega) ⟨rfl, rfl, q_ag_rf _ h, (P.2.2 0 (by decide)).1, fun s _ hs => by dsimp only; rw [(P.2.2 s (by omega)).1]; rfl⟩ ?_ ?_
  · rintro rec i ⟨x, y, g⟩ hi ⟨ex, ey, e1, e2, e3⟩ hrec
    dsimp only at ex ey e1 e2 e3 ⊢
    subst ex ey
    rw [n_shl t (by omega), if_neg (nI_ge hi (by omega))]
    refine O_for t (fun s y => y.1 = lN (q_xw c i s) ∧ y.2.1 = nI (s + 1) ∧ q_ag [63, 65, 66] h y.2.2 ∧ y.2.2.1 63 0 = q_cg S 0 ∧ (∀ u, 1 ≤ u → u ≤ s → y.2.2.1 63 u = q_xc S k i u) ∧ ∀ u, s < u → u ≤ t → y.2.2.1 63 u &&& (ph_shl (nI 1) (nI k) ^^^ (-1)) = q_d0 S k u) (by omega) ⟨rfl, rfl, e1, e2, fun u h1 h2 => absurd h2 (by omega), fun u h1 h2 => e3 u h1 h2⟩ ?_ ?_
    · rintro rec2 s ⟨x, y, g1⟩ hs ⟨ex, ey, f1, f2, f3, f4⟩ hrec2
      dsimp only at ex ey f1 f2 f3 f4 ⊢
      subst ex ey
      have hs40 : s + 1 < 40 := by omega
      rw [if_neg (nI_nlt (by omega) (by omega)), n_sub1, m_isIn, cl_some, q_tb_n (by omega)]
      by_cases b : Nat.testBit i s = true
      · rw [if_pos b, jn_at, if_neg (by decide)]
        dsimp only
        rw [ldI_at hs40 (by decide), jn_at, if_neg (by decide)]
        dsimp only
        rw [stI_at hs40 (by decide), f4 (s + 1) (by omega) (by omega), nI_l (by omega), lN_mul, nI_add]
        refine hrec2 _ ⟨by dsimp only; rw [q_xw, if_pos b], rfl, q_ag_sI f1 (by decide), ?_, fun u h1 h2 => ?_, fun u h1 h2 => ?_⟩
        · dsimp only
          rw [sI_eq, if_neg (by omega)]; exact f2
        · dsimp only
          rw [sI_eq]
          by_cases q : u = s + 1
          · rw [if_pos q, q]
            unfold q_xc
            rw [if_neg (by omega), Nat.add_sub_cancel, if_pos b]; rfl
          · rw [if_neg q]; exact f3 u h1 (by omega)
        · dsimp only
          rw [sI_eq, if_neg (by omega)]; exact f4 u (by omega) h2
      · rw [if_neg b, jn_at, if_pos rfl]
        dsimp only
        rw [ldI_at hs40 (by decide), jn_at, if_pos rfl]
        dsimp only
        rw [stI_at hs40 (by decide), f4 (s + 1) (by omega) (by omega), q_16 hc, lN_mul, nI_add]
        refine hrec2 _ ⟨by dsimp only; rw [q_xw, if_neg b], rfl, q_ag_sI f1 (by decide), ?_, fun u h1 h2 => ?_, fun u h1 h2 => ?_⟩
        · dsimp only
          rw [sI_eq, if_neg (by omega)]; exact f2
        · dsimp only
          rw [sI_eq]
          by_cases q : u = s + 1
          · rw [if_pos q, q]
            unfold q_xc
            rw [if_neg (by omega), Nat.add_sub_cancel, if_neg b]
            exact Int32.or_zero
          · rw [if_neg q]; exact f3 u h1 (by omega)
        · dsimp only
          rw [sI_eq, if_neg (by omega)]; exact f4 u (by omega) h2
    · rintro rec2 ⟨x, y, g1⟩ ⟨ex, ey, f1, f2, f3, f4⟩
      dsimp only at ex ey f1 f2 f3 f4 ⊢
      subst ex ey
      obtain ⟨K1, P1⟩ := mk g1 f1
      rw [if_pos (nI_lt (by omega) (by omega))]
      refine O_cl (m_lives w (MI_V K1 P1) (fun k e => by cases e) (T := t) (by omega) (fun s hs => n_ne1 (by omega))) ?_
      rintro _ g2 ⟨r1, r2, r3⟩
      have eP : q_P S none (fun s => g1.1 63 s) t = q_P S none (q_xc S k i) t := q_P_cg2 t (fun u hu => by
        by_cases q : u = 0
        · rw [q]
          unfold q_xc
          rw [if_pos rfl]; exact f2
        · exact f3 u (by omega) hu)
      have r4 : q_ag [63, 65, 66] h g2 := q_ag_tr f1 (fun j hj => r3 j (by simp at hj; simp; omega))
      have r5 : ∀ u, g2.1 63 u = g1.1 63 u := fun u => by rw [(r3 63 (by decide)).1]
      rw [ldI_at (by omega) (by decide), (r1 t (Nat.le_refl t)).1, eP, jn_at]
      have nxt : ∀ v : Int64, v = lN (q_xs S k c t l i) → ph_O (rec (lN (q_sm (q_xs S k c t l) i) + v, nI i + nI 1, g2)) (fun v g => v = q_sl S c k l t j ∧ MF S g ∧ mA h g) := by
        intro v hv
        refine hrec _ ⟨by dsimp only; rw [hv, lN_add, q_sm_s], nI_add _ _, r4, by dsimp only; rw [r5]; exact f2, fun s h1 h2 => ?_⟩
        dsimp only
        rw [r5, f3 s h1 h2]
        unfold q_xc
        rw [if_neg (by omega)]
        by_cases b : Nat.testBit i (s - 1) = true
        · rw [if_pos b]; exact q_d_an1 S
        · rw [if_neg b]; exact q_d_and S
      by_cases cp : q_pl S ≠ 0 ∧ q_P S none (q_xc S k i) t = l
      · rw [if_pos (by rw [q_lv_1 cp.1, cp.2])]
        exact nxt _ (by unfold q_xs; rw [if_pos cp])
      · have hne : ¬ q_lv S (q_P S none (q_xc S k i) t) = nI l := by
          intro z
          by_cases q : q_pl S = 0
          · rw [q_lv_0 q] at z
            exact n_ne1' (by omega) z
          · have := q_P_lt q none (q_xc S k i) t
            rw [q_lv_1 q, nI_eq (by omega) (by omega)] at z
            exact cp ⟨q, z⟩
        rw [if_neg hne]
        exact nxt _ (by unfold q_xs; rw [if_neg cp])
  · rintro rec ⟨x, y, g⟩ ⟨ex, ey, e1, e2, e3⟩
    dsimp only at ex ey e1 e2 e3 ⊢
    subst ex ey
    obtain ⟨K1, P1⟩ := mk g e1
    rw [n_shl t (by omega), if_pos (nI_le (Nat.le_refl _) (by omega)), q_xs_sum]
    refine O_cl (m_find w K1) ?_
    rintro _ g2 ⟨F2, a2⟩
    have hW := q_Wy_le S k hc hl t
    have h16 : 16 ^ t ≤ 16 ^ 9 := Nat.pow_le_pow_right (by decide) ht
    have h16p : 0 < 16 ^ t := Nat.pow_pos (by decide)
    rw [m_part hW (by omega) h16p hj, cl_some]
    exact O_ret ⟨rfl, F2, mA_tr (mA_ag e1 (by decide)) a2⟩
theorem m_19o {x : Int32} (b : x < nI 0 ∨ nI 10 ≤ x) (h : ph_Hp) : f_X9_in x.toInt64 (lN 1) (lN 9) h = some (nI 0, h) := by
  rw [← nI_l (show 1 < 2 ^ 31 by decide), ← nI_l (show 9 < 2 ^ 31 by decide), m_in, if_pos]
  rcases b with b | b
  · exact Or.inl (Int32.lt_trans b (by decide))
  · exact Or.inr (Int32.lt_of_lt_of_le (by decide) b)
theorem m_slipsF {S : q_S} (w : q_wf S) {h : ph_Hp} (K : MI S h) (x1 x2 x3 x4 x5 : Int32) : ph_O (f_X9_slips x1 x2 x3 x4 x5 h) (fun v g => v = (sp_slips S x1 x2 x3 x4 x5).1 ∧ MF S g ∧ mA h g) := by
  have hhn := q_hn_le w
  unfold f_X9_slips
  refine O_cl (m_find w K) ?_
  rintro _ g ⟨F, a1⟩
  have bad : (sp_slips S x1 x2 x3 x4 x5).1 = (-9223372036854775806) → ph_O (ph_cl (f_X9_no (-2) g) fun v15 h16 => some (v15, h16)) (fun v g => v = (sp_slips S x1 x2 x3 x4 x5).1 ∧ MF S g ∧ mA h g) := fun e => by
    rw [e]
    exact O_ret ⟨(by decide : (-9223372036854775808 : Int64) - (-2 : Int32).toInt64 = -9223372036854775806), F, a1⟩
  rcases q_ins x1 17 (by decide) with ⟨e1, b1⟩ | ⟨c, hc, rfl, e1⟩
  · rw [m_wo (by decide) b1, cl_some, jn_at, jn_at, if_pos rfl]
    dsimp only
    rw [if_pos rfl]
    exact bad (by unfold sp_slips; rw [e1])
  rw [m_wi hc (by decide), cl_some, jn_at, jn_at, if_neg (by decide)]
  rcases q_ins x2 (q_hn S) (by omega) with ⟨e2, b2⟩ | ⟨k, hk, rfl, e2⟩
  · rw [m_hol_o (by omega) F.1.2.1.1 b2, cl_some, if_pos rfl]
    dsimp only
    rw [if_pos rfl]
    exact bad (by unfold sp_slips; rw [e1, e2])
  rw [m_hol_i (by omega) F.1.2.1.1 hk, cl_some, if_neg (by decide)]
  rcases q_ins x3 8 (by decide) with ⟨e3, b3⟩ | ⟨l, hl, rfl, e3⟩
  · rw [m_lin_o b3, cl_some, if_pos rfl]
    dsimp only
    rw [if_pos rfl]
    exact bad (by unfold sp_slips; rw [e1, e2, e3])
  rw [m_lin_i hl, cl_some, if_neg (by decide)]
  rcases q_ins x4 10 (by decide) with ⟨e4, b4⟩ | ⟨t, ht, rfl, e4⟩
  · rw [m_19o b4, cl_some, if_pos rfl]
    dsimp only
    rw [if_pos rfl]
    exact bad (by unfold sp_slips; rw [e1, e2, e3, e4])
  rw [m_rg (by omega) (by decide) (by decide), cl_some]
  by_cases ct : t = 0
  · rw [if_neg (show ¬ (1 ≤ t ∧ t ≤ 9) by omega), if_pos rfl]
    dsimp only
    rw [if_pos rfl]
    refine bad ?_
    unfold sp_slips
    rw [e1, e2, e3, e4]
    cases q_in x5 2 with
    | none => rfl
    | some j => dsimp only; rw [if_pos ct]
  rw [if_pos (show 1 ≤ t ∧ t ≤ 9 by omega), if_neg (by decide)]
  rcases q_ins x5 2 (by decide) with ⟨e5, b5⟩ | ⟨j, hj, rfl, e5⟩
  · rw [m_two_o b5, cl_some, if_pos rfl]
    dsimp only
    rw [if_pos rfl]
    exact bad (by unfold sp_slips; rw [e1, e2, e3, e4, e5])
  rw [m_two_i hj, cl_some, if_neg (by decide)]
  dsimp only
  rw [if_neg (by decide)]
  have esp : (sp_slips S (nI c) (nI k) (nI l) (nI t) (nI j)).1 = q_sl S c k l t j := by
    unfold sp_slips
    rw [e1, e2, e3, e4, e5]
    dsimp only
    rw [if_neg ct]
  rw [esp]
  refine cl_id (O_mono (m_slipsOf w F (by omega) hk hl ct (by omega) hj) ?_)
  rintro v g2 ⟨rfl, F2, a2⟩
  exact ⟨rfl, F2, mA_tr a1 a2⟩
theorem m_slips (S : q_S) (w : q_wf S) (h : ph_Hp) (K : MI S h) (x1 x2 x3 x4 x5 : Int32) : ph_O (f_X9_slips x1 x2 x3 x4 x5 h) (Mq h (sp_slips S x1 x2 x3 x4 x5).1 (sp_slips S x1 x2 x3 x4 x5).2) := by
  refine O_mono (m_slipsF w K x1 x2 x3 x4 x5) ?_
  rintro v g ⟨e, F, a⟩
  rw [y_slips]
  exact ⟨e, F.2.2, mA_C a⟩
