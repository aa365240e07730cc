-- the digest of the reference
theorem q_in_n {j n : Nat} (h : j < n) (hn : n < 2 ^ 31) : q_in (nI j) n = some j := by
  rcases q_ins (nI j) n hn with ⟨e, b | b⟩ | ⟨k, hk, e, e2⟩
  · exact absurd b (n_pos (by omega))
  · exact absurd b (nI_ge h hn)
  · rw [nI_eq (by omega) (by omega)] at e
    subst e
    exact e2
theorem v_printed0 (S : q_S) {l : Nat} (hl : l < 8) : (sp_printed S (nI l) (nI 0)).1 = q_lv S (q_nx S l) := by
  unfold sp_printed
  rw [q_in_n hl (by decide), q_in_n (show 0 < 2 by decide) (by decide)]
  rfl
theorem v_printed1 (S : q_S) {l : Nat} (hl : l < 8) : (sp_printed S (nI l) (nI 1)).1 = q_lv S (q_ah S l) := by
  unfold sp_printed
  rw [q_in_n hl (by decide), q_in_n (show 1 < 2 by decide) (by decide)]
  rfl
theorem v_often (S : q_S) {l j : Nat} (hl : l < 8) (hj : j < 2) : (sp_often S (nI l) (nI j)).1 = q_of S l j := by
  unfold sp_often
  rw [q_in_n hl (by decide), q_in_n hj (by decide)]
theorem v_prompt (S : q_S) {l j : Nat} (hl : l < 8) (hj : j < 3) : (sp_prompt S (nI 3) (nI 6) (nI l) (nI j)).1 = q_pm S 3 6 l j := by
  unfold sp_prompt
  rw [q_in_n (show 3 < 40 by decide) (by decide), q_in_n (show 6 < 40 by decide) (by decide), q_in_n hl (by decide), q_in_n hj (by decide)]
  dsimp only
  rw [if_pos (by decide)]
theorem v_hole (S : q_S) (w : q_wf S) {k j : Nat} (hk : k < q_hn S) (hj : j < 4) : (sp_hole S (nI k) (nI j)).1 = nI (if j = 0 then q_hp S k else if j = 1 then q_hr S k else if j = 2 then q_hh S k else q_hl S k) := by
  have hhn := q_hn_le w
  unfold sp_hole
  rw [q_in_n hk (by omega), q_in_n hj (by decide)]
theorem v_whispers (S : q_S) (w : q_wf S) {k : Nat} (hk : k < q_hn S) : (sp_whispers S (nI 3) (nI k)).1 = q_ws S 3 k := by
  have hhn := q_hn_le w
  unfold sp_whispers
  rw [q_in_n (show 3 < 40 by decide) (by decide), q_in_n hk (by omega)]
theorem v_coughed (S : q_S) (w : q_wf S) {k : Nat} (hk : k < q_hn S) : (sp_coughed S (nI k)).1 = q_co S k := by
  have hhn := q_hn_le w
  unfold sp_coughed
  rw [q_in_n hk (by omega)]
theorem v_ask (S : q_S) (w : q_wf S) {k : Nat} (hk : k < q_hn S) : (sp_ask S (nI k)).1 = q_sk S k := by
  have hhn := q_hn_le w
  unfold sp_ask
  rw [q_in_n hk (by omega)]
theorem v_step (S : q_S) {t j : Nat} (ht : t < 40) (hj : j < 4) : (sp_step S (nI t) (nI j)).1 = q_so S t j := by
  unfold sp_step q_so
  rw [q_in_n ht (by decide), q_in_n hj (by decide)]
theorem v_may (S : q_S) {t : Nat} (ht : t < 40) : (sp_may S (nI 3) (nI t)).1 = q_ma S 3 t := by
  unfold sp_may
  rw [q_in_n (show 3 < 40 by decide) (by decide), q_in_n ht (by decide)]
theorem v_evening (S : q_S) {t j : Nat} (ht : t < 40) (hj : j < 2) : (sp_evening S (nI 7) (nI t) (nI j)).1 = q_evn S (nI 7) t j := by
  unfold sp_evening
  rw [q_in_n ht (by decide), q_in_n hj (by decide)]
theorem v_fault0 (S : q_S) : (sp_fault S (nI 0)).1 = q_f0 S := by
  unfold sp_fault
  rw [q_in_n (show 0 < 2 by decide) (by decide)]
  rfl
theorem v_fault1 (S : q_S) : (sp_fault S (nI 1)).1 = q_f1 S := by
  unfold sp_fault
  rw [q_in_n (show 1 < 2 by decide) (by decide)]
  rfl
theorem v_drift (S : q_S) {j : Nat} (hj : j < 2) : (sp_drift S (nI j)).1 = q_dr S j := by
  unfold sp_drift
  rw [q_in_n hj (by decide)]
theorem v_round (S : q_S) : (sp_round S).1 = q_ro S := by
  unfold sp_round
  dsimp only
theorem v_filed (S : q_S) : (sp_filed S).1 = q_fi S := by
  unfold sp_filed
  dsimp only
theorem m_tellsLine {S : q_S} (w : q_wf S) {h : ph_Hp} (F : MF S h) (x : Int64) {l : Nat} (hl : l < 8) : ph_O (f_X9_tellsLine x (nI l) h) (fun v g => v = q_ml S l x ∧ MF S g ∧ mA h g) := by
  unfold f_X9_tellsLine q_ml
  rw [m_nx w F.1.1 (by omega), cl_some, m_ah w F.1.1 (by omega), cl_some, m_oftenOf w F hl (show 0 < 2 by decide), cl_some, m_oftenOf w F hl (show 1 < 2 by decide), cl_some]
  refine O_cl (m_slipsF w F.2.2 _ _ _ _ _) ?_
  rintro v g ⟨rfl, F1, a1⟩
  refine O_cl (m_slipsF w F1.2.2 _ _ _ _ _) ?_
  rintro v g2 ⟨rfl, F2, a2⟩
  refine O_for 3 (fun i y => y.1 = q_fx (fun j x => q_31 x (sp_prompt S (nI 3) (nI 6) (nI l) (nI j)).1.toInt64) i (q_31 (q_31 (q_31 (q_31 (q_31 (q_31 x (sp_printed S (nI l) (nI 0)).1.toInt64) (sp_printed S (nI l) (nI 1)).1.toInt64) (sp_often S (nI l) (nI 0)).1.toInt64) (sp_often S (nI l) (nI 1)).1.toInt64) (sp_slips S (nI 5) (nI 0) (nI l) (nI 5) (nI 0)).1) (sp_slips S (nI 5) (nI 0) (nI l) (nI 5) (nI 1)).1) ∧ y.2.1 = nI i ∧ MF S y.2.2 ∧ mA h y.2.2) (by omega) ⟨by rw [q_fx_0, v_printed0 S hl, v_printed1 S hl, v_often S hl (show 0 < 2 by decide), v_often S hl (show 1 < 2 by decide)]; rfl, rfl, F2, mA_tr a1 a2⟩ ?_ ?_
  · rintro rec i ⟨y, z, g⟩ hi ⟨ey, ez, F, am⟩ hrec
    dsimp only at ey ez F am ⊢
    subst ez
    rw [if_neg (nI_ge hi (by decide))]
    refine O_cl (m_promptOf w F (f := 3) (T := 6) (by decide) (by decide) hl hi) ?_
    rintro v g2 ⟨rfl, F2, a2⟩
    exact hrec _ ⟨by dsimp only; rw [q_fx_s, ← ey, v_prompt S hl hi]; rfl, nI_add _ _, F2, mA_tr am a2⟩
  · rintro rec ⟨y, z, g⟩ ⟨ey, ez, F, am⟩
    dsimp only at ey ez F am ⊢
    subst ez
    rw [if_pos (nI_le (Nat.le_refl 3) (by decide))]
    exact O_ret ⟨ey, F, am⟩
theorem m_digest (S : q_S) (w : q_wf S) (h : ph_Hp) (K : MI S h) : ph_O (f_X9_digest h) (Mq h (sp_digest S).1 (sp_digest S).2) := by
  have hhn := q_hn_le w
  unfold f_X9_digest
  have hQ : ∀ v g, v = (sp_digest S).1 → MI S g → q_aC h g → Mq h (sp_digest S).1 (sp_digest S).2 v g := fun v g a b c => ⟨a, b, c⟩
  revert hQ
  generalize Mq h (sp_digest S).1 (sp_digest S).2 = Q
  intro hQ
  refine O_for 8 (fun i y => y.1 = q_fx (fun i x => q_31 x (sp_count S (nI i)).1.toInt64) i (lN 17) ∧ y.2.1 = nI i ∧ MI S y.2.2 ∧ q_aC h y.2.2) (by omega) ⟨by rw [q_fx_0], rfl, K, q_aC_rf h⟩ ?_ ?_
  · rintro rec i ⟨y, z, g⟩ hi ⟨ey, ez, K, am⟩ hrec
    dsimp only at ey ez K am ⊢
    subst ez
    rw [if_neg (nI_ge hi (by decide))]
    refine O_cl (m_count S w g K _) ?_
    rintro v g2 ⟨rfl, K2, a2⟩
    exact hrec _ ⟨by dsimp only; rw [q_fx_s, ← ey]; rfl, nI_add _ _, K2, q_aC_tr am a2⟩
  rintro rec ⟨y, z, g⟩ ⟨ey, ez, K, am⟩
  dsimp only at ey ez K am ⊢
  subst ez
  rw [if_pos (nI_le (Nat.le_refl 8) (by decide))]
  refine O_cl (m_rplay w K) ?_
  rintro v g1 ⟨rfl, r1, r2, r3⟩
  have b1 : mA g g1 := ⟨fun i hi => r2 i (by simp at hi; simp; omega), fun k hk => r3 k (by simp at hk; omega)⟩
  have K1 := MI_mA K b1
  refine O_cl (m_rholes w K1) ?_
  rintro v g2 ⟨rfl, s1, s2, s3⟩
  have b2 : mA g1 g2 := ⟨fun i hi => s2 i (by simp at hi; simp; omega), fun k hk => s3 k (by simp at hk; omega)⟩
  refine O_cl (m_find w (MI_mA K1 b2)) ?_
  rintro _ g3 ⟨F, b3⟩
  have am : q_aC h g3 := q_aC_tr am (mA_C (mA_tr b1 (mA_tr b2 b3)))
  have e1 : (lN 31) * (((lN 31) * y) + (q_f0 S).toInt64) + (q_f1 S).toInt64 = q_d1' S := by
    rw [ey]
    unfold q_d1'
    rw [v_fault0, v_fault1]
    rfl
  rw [e1]
  refine O_for 8 (fun i y => y.1 = q_fx (fun l x => q_ml S l x) i (q_d1' S) ∧ y.2.1 = nI i ∧ MF S y.2.2 ∧ q_aC h y.2.2) (by omega) ⟨by rw [q_fx_0], rfl, F, am⟩ ?_ ?_
  · rintro rec i ⟨y, z, g⟩ hi ⟨ey, ez, F, am⟩ hrec
    dsimp only at ey ez F am ⊢
    subst ez
    rw [if_neg (nI_ge hi (by decide))]
    refine O_cl (m_tellsLine w F y hi) ?_
    rintro v g ⟨rfl, F, a2⟩
    exact hrec _ ⟨by dsimp only; rw [q_fx_s, ← ey], nI_add _ _, F, q_aC_tr am (mA_C a2)⟩
  clear ey e1 am F b3 b2 s1 s2 s3 b1 r1 r2 r3 K1
  rintro rec ⟨y, z, g⟩ ⟨ey, ez, F, am⟩
  dsimp only at ey ez F am ⊢
  subst ez
  rw [if_pos (nI_le (Nat.le_refl 8) (by decide))]
  refine O_for (q_hn S) (fun i y => y.1 = q_fx (fun k x => q_mh S k x) i (q_d2 S) ∧ y.2.1 = nI i ∧ MF S y.2.2 ∧ q_aC h y.2.2) (by omega) ⟨by rw [q_fx_0]; exact ey, rfl, F, am⟩ ?_ ?_
  · rintro rec i ⟨y, z, g⟩ hi ⟨ey, ez, F, am⟩ hrec
    dsimp only at ey ez F am ⊢
    subst ez
    rw [F.1.2.1.1, if_neg (nI_ge hi (by omega))]
    refine O_for 4 (fun j x => x.1 = q_fx (fun j x => q_31 x (sp_hole S (nI i) (nI j)).1.toInt64) j y ∧ x.2 = nI j) (by omega) ⟨by rw [q_fx_0], rfl⟩ ?_ ?_
    · rintro rec2 j ⟨x, z⟩ hj ⟨ex, ez⟩ hrec2
      dsimp only at ex ez ⊢
      subst ez
      obtain ⟨u1, u2, u3, u4⟩ := F.1.2.1.2 i hi
      have e59 : g.1 59 (4 * i + j) = (sp_hole S (nI i) (nI j)).1 := by
        rw [v_hole S w hi hj]
        rcases (show j = 0 ∨ j = 1 ∨ j = 2 ∨ j = 3 by omega) with rfl | rfl | rfl | rfl
        · exact u1
        · exact u2
        · exact u3
        · exact u4
      rw [if_neg (nI_ge hj (by decide)), pk_mul, nI_add (4 * i) j, ldI_at (by omega) (by decide), e59]
      exact hrec2 _ ⟨by dsimp only; rw [q_fx_s, ← ex]; rfl, nI_add _ _⟩
    · rintro rec2 ⟨x, z⟩ ⟨ex, ez⟩
      dsimp only at ex ez ⊢
      subst ez
      rw [if_pos (nI_le (Nat.le_refl 4) (by decide)), m_wnow w F (by decide) hi, cl_some]
      refine O_cl (m_coughedOf w F hi) ?_
      rintro v g2 ⟨rfl, F2, a2⟩
      refine O_cl (m_askOf w F2 hi) ?_
      rintro v g3 ⟨rfl, F3, a3⟩
      refine hrec _ ⟨?_, nI_add _ _, F3, q_aC_tr am (mA_C (mA_tr a2 a3))⟩
      dsimp only
      rw [q_fx_s, ← ey]
      unfold q_mh
      rw [v_whispers S w hi, v_coughed S w hi, v_ask S w hi, ← ex]
      rfl
  clear ey am F
  rintro rec ⟨y, z, g⟩ ⟨ey, ez, F, am⟩
  dsimp only at ey ez F am ⊢
  subst ez
  rw [F.1.2.1.1, if_pos (nI_le (Nat.le_refl _) (by omega))]
  refine O_for 5 (fun i y => y.1 = q_fx (fun i x => q_ms S (ph_dg i) x) i (q_d3 S) ∧ y.2.1 = nI i ∧ MF S y.2.2 ∧ q_aC h y.2.2) (by omega) ⟨by rw [q_fx_0]; exact ey, rfl, F, am⟩ ?_ ?_
  · rintro rec i ⟨y, z, g⟩ hi ⟨ey, ez, F, am⟩ hrec
    dsimp only at ey ez F am ⊢
    subst ez
    rw [if_neg (nI_ge hi (by omega))]
    refine O_jn (fun x => ∃ t, t < 40 ∧ x = nI t ∧ ph_dg i = nI t) ?_ ?_
    · rintro x ⟨t, ht, rfl, edg⟩
      refine O_for 4 (fun j x => x.1 = q_fx (fun j x => q_31 x (sp_step S (nI t) (nI j)).1.toInt64) j y ∧ x.2.1 = nI j ∧ MF S x.2.2 ∧ q_aC h x.2.2) (by omega) ⟨by rw [q_fx_0], rfl, F, am⟩ ?_ ?_
      · rintro rec2 j ⟨x, z, g⟩ hj ⟨ex, ez, F, am⟩ hrec2
        dsimp only at ex ez F am ⊢
        subst ez
        rw [if_neg (nI_ge hj (by decide)), m_stepOf w F ht hj, cl_some, ← v_step S ht hj]
        exact hrec2 _ ⟨by dsimp only; rw [q_fx_s, ← ex]; rfl, nI_add _ _, F, am⟩
      · rintro rec2 ⟨x, z, g⟩ ⟨ex, ez, F, am⟩
        dsimp only at ex ez F am ⊢
        subst ez
        rw [if_pos (nI_le (Nat.le_refl 4) (by decide))]
        refine O_cl (m_mayOf w F (u := 3) (by decide) ht) ?_
        rintro v g2 ⟨rfl, F2, a2⟩
        refine O_cl (m_eveningOf w F2 (nI 7) ht (show 0 < 2 by decide)) ?_
        rintro v g3 ⟨rfl, F3, a3⟩
        refine O_cl (m_eveningOf w F3 (nI 7) ht (show 1 < 2 by decide)) ?_
        rintro v g4 ⟨rfl, F4, a4⟩
        refine hrec _ ⟨?_, nI_add _ _, F4, q_aC_tr am (mA_C (mA_tr a2 (mA_tr a3 a4)))⟩
        dsimp only
        rw [q_fx_s, ← ey, edg]
        unfold q_ms
        rw [v_may S ht, v_evening S ht (show 0 < 2 by decide), v_evening S ht (show 1 < 2 by decide), ← ex]
        rfl
    · intro j36 hj36
      rcases (show i = 0 ∨ i = 1 ∨ i = 2 ∨ i = 3 ∨ i = 4 by omega) with rfl | rfl | rfl | rfl | rfl
      · rw [if_neg (by decide)]; exact hj36 _ ⟨0, by decide, rfl, rfl⟩
      · rw [if_neg (by decide)]; exact hj36 _ ⟨1, by decide, rfl, rfl⟩
      · rw [if_neg (by decide)]; exact hj36 _ ⟨2, by decide, rfl, rfl⟩
      · rw [if_pos (by decide), if_pos rfl]; exact hj36 _ ⟨9, by decide, rfl, rfl⟩
      · rw [if_pos (by decide), if_neg (by decide)]; exact hj36 _ ⟨39, by decide, rfl, rfl⟩
  clear ey am F
  rintro rec ⟨y, z, g⟩ ⟨ey, ez, F, am⟩
  dsimp only at ey ez F am ⊢
  subst ez
  rw [if_pos (nI_le (Nat.le_refl _) (by omega)), m_driftOf w F (show 0 < 2 by decide), cl_some, m_driftOf w F (show 1 < 2 by decide), cl_some, m_roundNow w F, cl_some]
  refine O_cl (m_filedNow w F) ?_
  rintro v g2 ⟨rfl, F2, a2⟩
  refine O_ret (hQ _ _ ?_ F2.2.2 (q_aC_tr am (mA_C a2)))
  unfold sp_digest
  have e4 : y = q_d4 S := ey
  rw [v_drift S (show 0 < 2 by decide), v_drift S (show 1 < 2 by decide), e4, v_round, v_filed]
  dsimp only [q_31]
