-- an evening of the reference
theorem q_P_cg2 {S : q_S} {f : Option Nat} {c d : Nat → Int32} : ∀ t, (∀ u, u ≤ t → c u = d u) → q_P S f c t = q_P S f d t
  | 0, _ => rfl
  | t + 1, h => by rw [q_P_s, q_P_s, q_P_cg2 t (fun u hu => h u (by omega)), h (t + 1) (Nat.le_refl _)]
theorem q_nb_dd {S : q_S} {P : Nat → Nat} (h0 : P 0 = q_pv S 0) : ∀ t, q_nb (q_dq S P) (t + 1) = q_dd S P t
  | 0 => by
    have : q_dq S P 0 = false := by
      unfold q_dq q_pr
      rw [h0, Nat.zero_mod]
      simp
    rw [q_nb, q_nb, this]
    rfl
  | t + 1 => by
    rw [q_nb, q_nb_dd h0 t, q_dd]
    unfold q_dq
    by_cases c : q_lv S (P (t + 1)) = q_lv S (q_pr S (t + 1))
    · rw [if_pos c]; simp [c]
    · rw [if_neg c]; simp [c]
theorem m_lot {g : ph_Hp} {n : Nat} (h0 : 0 < n) (hn : n < 100) : f_X9_lot (nI n) g = some (nI (q_hi (q_rg (g.1 51 27)) % n), ph_sI g 51 27 (q_rg (g.1 51 27))) := by
  have := q_hi_lt (q_rg (g.1 51 27))
  unfold f_X9_lot
  rw [pfI_at, sI_eq, if_pos rfl, show (nI 1103515245) * (g.1 51 27) + (nI 12345) = q_rg (g.1 51 27) from rfl, u_16, rmI_at (by omega) h0 (by omega)]
theorem q_ev_0 (S : q_S) (z : Int32) : q_ev S z 0 = q_cg S 0 := by
  rw [q_ev_e]
  exact Int32.or_zero
theorem q_ev_n {S : q_S} (z : Int32) (hn : q_hn S = 0) (t : Nat) : q_ev S z t = q_cg S t := by
  rw [q_ev_e]
  cases t with
  | zero => exact Int32.or_zero
  | succ t =>
    rw [q_ec_s]
    unfold q_lot
    rw [if_pos hn]
    exact Int32.or_zero
theorem m_eveningOf {S : q_S} (w : q_wf S) {h : ph_Hp} (F : MF S h) (x1 : Int32) {T j : Nat} (hT : T < 40) (hj : j < 2) : ph_O (f_X9_eveningOf x1 (nI T) (nI j) h) (fun v g => v = q_evn S x1 T j ∧ MF S g ∧ mA h g) := by
  have hhn := q_hn_le w
  obtain ⟨P, L, K⟩ := F
  have mk : ∀ g : ph_Hp, q_ag [51, 63] h g → (∀ k, k ≠ 27 → g.1 51 k = h.1 51 k) → mA h g ∧ MI S g ∧ MP S (fun t => g.1 63 t) g := by
    intro g ag e
    have a1 : mA h g := ⟨fun i hi => ag i (by simp at hi; simp; omega), fun k hk => e k (by simp at hk; omega)⟩
    refine ⟨a1, MI_mA K a1, ⟨by rw [e 7 (by decide)]; exact P.1.1, by rw [(ag 58 (by decide)).1]; exact P.1.2⟩, ⟨by rw [e 9 (by decide)]; exact P.2.1.1, by rw [(ag 59 (by decide)).1]; exact P.2.1.2⟩, fun t ht => ⟨rfl, by rw [(ag 64 (by decide)).1]; exact (P.2.2 t ht).2⟩⟩
  have fin : ∀ g : ph_Hp, q_ag [51, 63] h g → (∀ k, k ≠ 27 → g.1 51 k = h.1 51 k) → (∀ t, t ≤ T → g.1 63 t = q_ev S x1 t) → ph_O (ph_cl (f_X9_lives (nI 0) (nI T) g) fun _ h11 =>
      ph_jn (α := Int32 × ph_Hp) (fun (x13, h14) =>
        ph_cl (f_X9_find h14) fun _ h16 =>
        some (x13, h16)) (fun j12 =>
        if nI j = nI 0 then
          ph_ldI h11 65 40 (nI T) fun v20 =>
          j12 (v20, h11)
        else
          ph_cl (f_X9_driftTo (nI T) h11) fun v18 h19 =>
          j12 (v18, h19))) (fun v g => v = q_evn S x1 T j ∧ MF S g ∧ mA h g) := by
    intro g ag e1 e2
    obtain ⟨a1, K1, P1⟩ := mk g ag e1
    refine O_cl (m_lives w (MI_V K1 P1) (fun k e => by cases e) hT (fun t ht => n_ne1 (by omega))) ?_
    rintro _ g2 ⟨r1, r2, r3⟩
    have e3 : ∀ t, t ≤ T → g2.1 65 t = q_lv S (q_P S none (q_ev S x1) t) := fun t ht => by
      rw [(r1 t ht).1, q_P_cg2 t (fun u hu => e2 u (by omega))]
    have a2 : mA g g2 := mA_ag r3 (by decide)
    have K2 := MI_mA K1 a2
    have done : ∀ v : Int32, v = q_evn S x1 T j → ph_O (ph_cl (f_X9_find g2) fun _ h16 => some (v, h16)) (fun v g => v = q_evn S x1 T j ∧ MF S g ∧ mA h g) := by
      intro v hv
      refine O_cl (m_find w K2) ?_
      rintro _ g3 ⟨F3, a3⟩
      exact O_ret ⟨hv, F3, mA_tr a1 (mA_tr a2 a3)⟩
    rw [jn_at]
    by_cases c : j = 0
    · rw [if_pos (by rw [c]), ldI_at hT (by decide)]
      exact done _ (by unfold q_evn; rw [if_pos c]; exact e3 T (Nat.le_refl T))
    · rw [if_neg (by rw [nI_eq (by omega) (by decide)]; exact c), m_driftTo w (MV_ag (MI_V K1 P1) r3).1.1 (P := q_P S none (q_ev S x1)) hT e3, cl_some]
      exact done _ (by unfold q_evn; rw [if_neg c, q_nb_dd (q_P_0 S none (q_ev S x1))])
  unfold f_X9_eveningOf
  rw [pfI_at]
  have b0 : q_ag [51, 63] h (ph_sI h 51 27 x1) := q_ag_sI (q_ag_rf _ h) (by decide)
  have b1 : ∀ k, k ≠ 27 → (ph_sI h 51 27 x1).1 51 k = h.1 51 k := fun k hk => by rw [sI_eq, if_neg hk]
  refine O_for (if q_hn S = 0 then 0 else T) (fun i y => y.1 = nI (i + 1) ∧ i ≤ T ∧ (q_hn S ≠ 0 → y.2.1 51 27 = q_sd x1 i) ∧ (∀ t, t < 40 → y.2.1 63 t = if t ≤ i then q_ev S x1 t else q_cg S t) ∧ q_ag [51, 63] h y.2 ∧ ∀ k, k ≠ 27 → y.2.1 51 k = h.1 51 k) (by split <;> omega) ⟨rfl, Nat.zero_le T, fun _ => by dsimp only; rw [sI_eq, if_pos rfl, q_sd_0], fun t ht => ?_, b0, b1⟩ ?_ ?_
  · dsimp only
    rw [sI_ne _ _ _ (by decide), (P.2.2 t ht).1]
    by_cases q : t ≤ 0
    · rw [if_pos q, show t = 0 by omega, q_ev_0]
    · rw [if_neg q]
  · rintro rec i ⟨y, g⟩ hi ⟨ey, e0, e1, e2, e3, e4⟩ hrec
    dsimp only at ey e1 e2 e3 e4 ⊢
    subst ey
    have hne : q_hn S ≠ 0 := fun z => by rw [if_pos z] at hi; exact absurd hi (Nat.not_lt_zero i)
    rw [if_neg hne] at hi
    have h1 : i + 1 < 40 := by omega
    rw [jn_at, if_neg (nI_nlt (by omega) (by omega)), e4 9 (by decide), P.2.1.1, if_neg (nI_ge (by omega) (by omega)), m_lot (by omega) (by omega), cl_some, ldI_at h1 (by decide), sI_ne (i := 51) (j := 63) _ _ _ (by decide), m_lot (by decide) (by decide), cl_some, e1 hne, sI_eq, if_pos rfl, jn_at, e2 _ h1, if_neg (show ¬ i + 1 ≤ i by omega)]
    have h4 : q_hi (q_rg (q_rg (q_sd x1 i))) % 4 < 4 := Nat.mod_lt _ (by decide)
    have go : ∀ v : Int32, v = q_lot (q_sd x1 i) (q_hn S) → ph_O (ph_stI (ph_sI (ph_sI g 51 27 (q_rg (q_sd x1 i))) 51 27 (q_rg (q_rg (q_sd x1 i)))) 63 40 (nI (i + 1)) (q_cg S (i + 1) ||| v) fun h30 => rec (nI (i + 1) + (nI 1), h30)) (fun v g => v = q_evn S x1 T j ∧ MF S g ∧ mA h g) := by
      intro v hv
      rw [stI_at h1 (by decide)]
      refine hrec _ ⟨nI_add _ _, by omega, fun _ => ?_, fun t ht => ?_, q_ag_sI (q_ag_sI (q_ag_sI e3 (by decide)) (by decide)) (by decide), fun k hk => ?_⟩
      · dsimp only
        rw [sI_ne _ _ _ (by decide), sI_eq, if_pos rfl, q_sd_s]
      · dsimp only
        rw [sI_eq]
        by_cases q : t = i + 1
        · rw [if_pos q, if_pos (by omega), q, hv, q_ev_e, q_ec_s]
        · rw [if_neg q, sI_ne _ _ _ (by decide), sI_ne _ _ _ (by decide), e2 t ht]
          by_cases q2 : t ≤ i
          · rw [if_pos q2, if_pos (by omega)]
          · rw [if_neg q2, if_neg (by omega)]
      · dsimp only
        rw [sI_ne _ _ _ (by decide), sI_eq, if_neg hk, sI_eq, if_neg hk]; exact e4 k hk
    by_cases c : q_hi (q_rg (q_rg (q_sd x1 i))) % 4 = 0
    · rw [if_pos (by rw [c])]
      exact go _ (by unfold q_lot; rw [if_neg hne, if_pos c])
    · rw [if_neg (by rw [nI_eq (by omega) (by decide)]; exact c)]
      exact go _ (by unfold q_lot; rw [if_neg hne, if_neg c])
  · rintro rec ⟨y, g⟩ ⟨ey, e0, e1, e2, e3, e4⟩
    dsimp only at ey e1 e2 e3 e4 ⊢
    subst ey
    rw [jn_at]
    by_cases hne : q_hn S = 0
    · rw [if_pos hne] at e0 e1 e2 ⊢
      have hev : ∀ t, t ≤ T → g.1 63 t = q_ev S x1 t := fun t ht => by
        rw [e2 t (by omega), q_ev_n x1 hne]
        by_cases q : t ≤ 0
        · rw [if_pos q]
        · rw [if_neg q]
      by_cases q : T < 1
      · rw [if_pos (nI_lt (by omega) (by omega))]
        exact fin g e3 e4 hev
      · rw [if_neg (nI_nlt (by omega) (by omega)), e4 9 (by decide), P.2.1.1, hne, if_pos (by decide)]
        exact fin g e3 e4 hev
    · rw [if_neg hne] at e0 e1 e2 ⊢
      rw [if_pos (nI_lt (by omega) (by omega))]
      exact fin g e3 e4 (fun t ht => by rw [e2 t (by omega), if_pos ht])
theorem m_evening (S : q_S) (w : q_wf S) (h : ph_Hp) (K : MI S h) (x1 x2 x3 : Int32) : ph_O (f_X9_evening x1 x2 x3 h) (Mq h (sp_evening S x1 x2 x3).1 (sp_evening S x1 x2 x3).2) := by
  unfold f_X9_evening sp_evening
  refine O_cl (m_find w K) ?_
  rintro _ g ⟨F, a1⟩
  rcases q_ins x2 40 (by decide) with ⟨e1, b1⟩ | ⟨T, hT, rfl, e1⟩
  · rw [m_ste_o b1, cl_some, e1, if_pos rfl]
    exact O_ret ⟨rfl, F.2.2, mA_C a1⟩
  rw [m_ste_i hT, cl_some, e1, if_neg (by decide)]
  rcases q_ins x3 2 (by decide) with ⟨e2, b2⟩ | ⟨j, hj, rfl, e2⟩
  · rw [m_two_o b2, cl_some, e2, if_pos rfl]
    exact O_ret ⟨rfl, F.2.2, mA_C a1⟩
  rw [m_two_i hj, cl_some, e2, if_neg (by decide)]
  refine O_cl (m_eveningOf w F x1 hT hj) ?_
  rintro v g2 ⟨rfl, F2, a2⟩
  dsimp only
  exact O_ret ⟨rfl, F2.2.2, mA_C (mA_tr a1 a2)⟩
