-- sheets of the reference
theorem MI_sh {S S2 : q_S} {h g : ph_Hp} (K : MI S h) (e1 : S2.1 = S.1) (e2 : S2.2.1 = S.2.1) (ks : cS 52 53 54 S2 g) (kf : g.1 51 4 = S2.2.2.2.2.2) (ag : ∀ i, i ∈ [56, 57, 60, 61, 62, 67] → g.1 i = h.1 i) (ag2 : ∀ k, k ∈ [11, 13, 15, 21, 22, 24] → g.1 51 k = h.1 51 k) : MI S2 g := by
  obtain ⟨⟨a1, a2⟩, ⟨b1, b2⟩, ⟨c1, c2, c3⟩, ⟨d1, d2, d3⟩, ⟨f1, f2⟩, ⟨g1, g2, g3⟩, h1, i1, j1, k1⟩ := K
  unfold MI
  rw [e1, e2]
  refine ⟨⟨?_, mW_ag a2 (ag 56 (by decide))⟩, ⟨?_, mW_ag b2 (ag 56 (by decide))⟩, ⟨?_, mW_ag c2 (ag 60 (by decide)), mW_ag c3 (ag 60 (by decide))⟩, ⟨?_, mW_ag d2 (ag 61 (by decide)), mW_ag d3 (ag 61 (by decide))⟩, ⟨?_, mW_ag f2 (ag 62 (by decide))⟩, ⟨?_, mW_ag g2 (ag 67 (by decide)), mW_ag g3 (ag 67 (by decide))⟩, ks, kf, ?_, ?_⟩
  · rw [ag 57 (by decide)]; exact a1
  · rw [ag 57 (by decide)]; exact b1
  · rw [ag2 11 (by decide)]; exact c1
  · rw [ag2 13 (by decide)]; exact d1
  · rw [ag2 15 (by decide)]; exact f1
  · rw [ag2 24 (by decide)]; exact g1
  · rw [ag2 21 (by decide)]; exact j1
  · rw [ag2 22 (by decide)]; exact k1
theorem MI_fd {S : q_S} {h : ph_Hp} (K : MI S h) (x : Int32) : MI (q_fd S x) (ph_sI h 51 4 x) := MI_sh K rfl rfl (cS_fd (cS_ag K.2.2.2.2.2.2.1 (sI_ne _ _ _ (by decide)) (sI_ne _ _ _ (by decide)) (sI_ne _ _ _ (by decide))) x) (by rw [sI_eq, if_pos rfl]; rfl) (fun i hi => sI_ne _ _ _ (by simp at hi; omega)) (fun k hk => by rw [sI_eq, if_neg (by simp at hk; omega)])
theorem m_found {S : q_S} {h : ph_Hp} (K : MI S h) (x : Int32) : ph_O (f_X9_finds x h) (Mq h (sp_found S x).1 (sp_found S x).2) := by
  unfold f_X9_finds
  rw [pfI_at]
  refine O_ret ⟨rfl, MI_fd K x, q_aC_sI (q_aC_rf h) (by decide)⟩
theorem m_ags {S : q_S} {h g : ph_Hp} (K : MI S h) {S2 : q_S} (e1 : S2.1 = S.1) (e2 : S2.2.1 = S.2.1) (e3 : S2.2.2.2.2.2 = S.2.2.2.2.2) (ks : cS 52 53 54 S2 g) (ag : q_ag [52, 53, 54, 55] h g) : MI S2 g := MI_sh K e1 e2 ks (by rw [(ag 51 (by decide)).1, e3]; exact K.2.2.2.2.2.2.2.1) (fun i hi => (ag i (by simp at hi; simp; omega)).1) (fun k _ => by rw [(ag 51 (by decide)).1])
theorem n_form {S : q_S} (w : q_wf S) (s : Nat) : nI 0 ≤ S.2.2.1 s ↔ S.2.2.1 s ≠ (-1) := by
  rcases (w.2.2 s).2.1 with e | e | e | e
  · rw [e]; exact ⟨fun z => absurd z (by decide), fun z => absurd rfl z⟩
  · rw [e]; exact ⟨fun _ => by decide, fun _ => by decide⟩
  · rw [e]; exact ⟨fun _ => by decide, fun _ => by decide⟩
  · rw [e]; exact ⟨fun _ => by decide, fun _ => by decide⟩
theorem m_sheet (S : q_S) (w : q_wf S) (h : ph_Hp) (K : MI S h) (x1 x2 x3 : Int32) : ph_O (f_X9_sheet x1 x2 x3 h) (Mq h (sp_sheet S x1 x2 x3).1 (sp_sheet S x1 x2 x3).2) := by
  unfold f_X9_sheet sp_sheet
  rcases q_ins x1 4 (by decide) with ⟨e1, b1⟩ | ⟨s, hs, rfl, e1⟩
  · rw [m_she_o b1, cl_some, e1, if_pos rfl]
    exact O_ret ⟨rfl, K, q_aC_rf h⟩
  rw [m_she_i hs, cl_some, e1, if_neg (by decide)]
  rcases q_ins x2 3 (by decide) with ⟨e2, b2⟩ | ⟨f, hf, rfl, e2⟩
  · rw [m_wo (by decide) b2, cl_some, e2, if_pos rfl]
    exact O_ret ⟨rfl, K, q_aC_rf h⟩
  rw [m_wi hf (by decide), cl_some, e2, if_neg (by decide)]
  dsimp only
  rcases q_ins x3 61 (by decide) with ⟨e3, b3⟩ | ⟨n, hn, rfl, e3⟩
  · rw [e3]
    rcases b3 with b3 | b3
    · rw [if_pos b3, if_pos (Int32.le_trans (Int32.le_of_lt b3) (by decide)), if_neg (by rw [Int32.not_le]; exact b3)]
      exact cl_id (m_found K _)
    · have : ¬ x3 < nI 0 := fun z => absurd (Int32.lt_of_lt_of_le z (Int32.le_trans (by decide) b3)) Int32.lt_irrefl
      rw [if_neg this, if_neg (by rw [Int32.not_le]; exact Int32.lt_of_lt_of_le (by decide) b3)]
      exact O_ret ⟨rfl, K, q_aC_rf h⟩
  rw [e3, if_pos (nI_le (by omega) (by decide)), if_pos (nI_le (by omega) (by omega)), if_neg (n_pos (by omega)), stI_at hs (by decide), stI_at hs (by decide)]
  dsimp only
  refine O_for n (fun m y => y.1 = nI m ∧ (∀ i, y.2.1 52 i = if i = s then nI f else h.1 52 i) ∧ (∀ i, y.2.1 53 i = if i = s then nI n else h.1 53 i) ∧ (∀ i, i < m → y.2.1 54 (60 * s + i) = nI 0) ∧ (∀ t i, t ≠ s → i < 60 → y.2.1 54 (60 * t + i) = h.1 54 (60 * t + i)) ∧ q_ag [52, 53, 54, 55] h y.2) (by omega) ⟨rfl, fun i => ?_, fun i => ?_, fun i hi => absurd hi (Nat.not_lt_zero i), fun t i _ _ => ?_, q_ag_sI (q_ag_sI (q_ag_rf _ h) (by decide)) (by decide)⟩ ?_ ?_
  · dsimp only; rw [sI_ne _ _ _ (by decide), sI_eq]
  · dsimp only; rw [sI_eq, sI_ne _ _ _ (by decide)]
  · dsimp only; rw [sI_ne _ _ _ (by decide), sI_ne _ _ _ (by decide)]
  · rintro rec m ⟨y, g⟩ hm ⟨ey, e1, e2, e3, e4, e5⟩ hrec
    dsimp only at ey e1 e2 e3 e4 e5 ⊢
    subst ey
    rw [if_neg (nI_ge hm (by omega)), pk_mul, nI_add, stI_at (by omega) (by decide)]
    refine hrec _ ⟨nI_add _ _, fun i => ?_, fun i => ?_, fun i hi => ?_, fun t i ht hi => ?_, q_ag_sI e5 (by decide)⟩
    · dsimp only; rw [sI_ne _ _ _ (by decide)]; exact e1 i
    · dsimp only; rw [sI_ne _ _ _ (by decide)]; exact e2 i
    · dsimp only; rw [sI_eq]
      by_cases c : i = m
      · rw [if_pos (by rw [c])]
      · rw [if_neg (by omega)]; exact e3 i (by omega)
    · dsimp only; rw [sI_eq, if_neg (by omega)]; exact e4 t i ht hi
  · rintro rec ⟨y, g⟩ ⟨ey, r1, r2, r3, r4, r5⟩
    dsimp only at ey r1 r2 r3 r4 r5 ⊢
    subst ey
    rw [if_pos (nI_le (Nat.le_refl n) (by omega))]
    exact O_ret ⟨rfl, m_ags K rfl rfl rfl (cS_sh K.2.2.2.2.2.2.1 r1 r2 r3 r4 w) r5, q_aC_ag r5 (by decide)⟩
theorem m_lose (S : q_S) (w : q_wf S) (h : ph_Hp) (K : MI S h) (x1 : Int32) : ph_O (f_X9_lose x1 h) (Mq h (sp_lose S x1).1 (sp_lose S x1).2) := by
  unfold f_X9_lose sp_lose
  rcases q_ins x1 4 (by decide) with ⟨e1, b1⟩ | ⟨s, hs, rfl, e1⟩
  · rw [m_she_o b1, cl_some, e1, if_pos rfl]
    exact O_ret ⟨rfl, K, q_aC_rf h⟩
  have ks := K.2.2.2.2.2.2.1
  rw [m_she_i hs, cl_some, e1, if_neg (by decide), ldI_at hs (by decide), (ks s hs).1]
  dsimp only
  by_cases c : S.2.2.1 s = (-1)
  · rw [if_neg (fun z => (n_form w s).mp z c), if_pos c]
    exact cl_id (m_found K _)
  · rw [if_pos ((n_form w s).mpr c), if_neg c, stI_at hs (by decide), ldI_at hs (by decide)]
    refine O_ret ⟨?_, m_ags K rfl rfl rfl (cS_lo ks (fun i => ?_) (fun i hi => ?_) ?_) (q_ag_sI (q_ag_rf _ h) (by decide)), q_aC_sI (q_aC_rf h) (by decide)⟩
    · rw [sI_ne _ _ _ (by decide)]; exact ((ks s hs).2 c).1
    · rw [sI_eq]
    · rw [sI_ne _ _ _ (by decide)]
    · rw [sI_ne _ _ _ (by decide)]
theorem m_lacks {S : q_S} (w : q_wf S) {h : ph_Hp} (K : MI S h) {s f : Nat} (hs : s < 4) (x : Int32) : f_X9_lacks (nI s) (nI f) x h = if q_wr S s f x = 0 then some (nI 0, h) else some ((-10) - nI (q_wr S s f x), ph_sI h 51 4 (nI (q_wr S s f x))) := by
  have ks := K.2.2.2.2.2.2.1 s hs
  have hw := (w.2.2 s).1
  unfold f_X9_lacks q_wr
  rw [ldI_at hs (by decide), ks.1]
  by_cases c : S.2.2.1 s = (-1)
  · rw [if_neg (fun z => (n_form w s).mp z c), if_pos c, if_neg (by decide)]
    rfl
  · rw [if_pos ((n_form w s).mpr c), if_neg c, ldI_at hs (by decide), ks.1]
    by_cases c2 : S.2.2.1 s = nI f
    · rw [if_pos c2, if_pos c2, ldI_at hs (by decide), (ks.2 c).1, ← nI_l (show 0 < 2 ^ 31 by decide), m_in, cl_some]
      rcases q_ins x (S.2.2.2.1 s) (by omega) with ⟨e1, b1⟩ | ⟨k, hk, rfl, e1⟩
      · rw [e1, if_pos (b1.elim Or.inl (fun z => Or.inr ((n_le1 (by omega)).mpr z))), if_pos rfl]
        dsimp only
        rw [if_neg (by decide)]
        rfl
      · have hno : ¬ (nI k < nI 0 ∨ nI (S.2.2.2.1 s) - nI 1 < nI k) := fun z => z.elim (n_pos (by omega)) (fun z => nI_ge hk (by omega) ((n_le1 (by omega)).mp z))
        rw [e1, if_neg hno, if_neg (show ¬ nI 1 = nI 0 by decide)]
        dsimp only
        rw [if_pos rfl]
    · rw [if_neg c2, if_neg c2, if_neg (by decide)]
      rfl
theorem m_cut {f : Nat} (hf : f < 3) (v : Int32) (h : ph_Hp) : f_X9_cut (nI f) v h = some (q_ct (nI f) v, h) := by
  unfold f_X9_cut q_ct
  by_cases c1 : nI f = nI 0
  · rw [if_pos c1, if_pos c1]
  · rw [if_neg c1, if_neg c1]
    by_cases c2 : nI f = nI 1
    · rw [if_pos c2, if_pos c2]
    · rw [if_neg c2, if_neg c2]
theorem n_no {n : Nat} (hn : n ≤ 5) : ¬ (-10) - nI n = nI 0 := by
  rcases (show n = 0 ∨ n = 1 ∨ n = 2 ∨ n = 3 ∨ n = 4 ∨ n = 5 by omega) with rfl | rfl | rfl | rfl | rfl | rfl <;> decide
theorem m_lay (S : q_S) (w : q_wf S) (h : ph_Hp) (K : MI S h) (x1 x2 x3 x4 : Int32) : ph_O (f_X9_lay x1 x2 x3 x4 h) (Mq h (sp_lay S x1 x2 x3 x4).1 (sp_lay S x1 x2 x3 x4).2) := by
  unfold f_X9_lay sp_lay
  rcases q_ins x1 4 (by decide) with ⟨e1, b1⟩ | ⟨s, hs, rfl, e1⟩
  · rw [m_she_o b1, cl_some, e1, if_pos rfl]
    exact O_ret ⟨rfl, K, q_aC_rf h⟩
  rw [m_she_i hs, cl_some, e1, if_neg (by decide)]
  rcases q_ins x2 3 (by decide) with ⟨e2, b2⟩ | ⟨f, hf, rfl, e2⟩
  · rw [m_wo (by decide) b2, cl_some, e2, if_pos rfl]
    exact O_ret ⟨rfl, K, q_aC_rf h⟩
  have ks := K.2.2.2.2.2.2.1
  have hw := (w.2.2 s).1
  have hle := q_wr_le S s f x3
  rw [m_wi hf (by decide), cl_some, e2, if_neg (by decide), m_lacks w K hs]
  dsimp only
  by_cases c : q_wr S s f x3 = 0
  · obtain ⟨c1, c2, k, hk, rfl⟩ := q_wr_0 w c
    rw [if_pos c, if_pos c, cl_some, if_pos rfl, m_cut hf, cl_some, pk_mul, nI_add, stI_at (by omega) (by decide), nI_clamp (by omega)]
    refine O_ret ⟨rfl, m_ags K rfl rfl rfl (cS_is ks (sI_ne _ _ _ (by decide)) (sI_ne _ _ _ (by decide)) (fun i hi => ?_) (fun t i ht hi => ?_) w) (q_ag_sI (q_ag_rf _ h) (by decide)), q_aC_sI (q_aC_rf h) (by decide)⟩
    · rw [sI_eq]
      by_cases q : i = k
      · rw [if_pos (by rw [q]), if_pos q]
      · rw [if_neg (by omega), if_neg q]; exact ((ks s hs).2 c1).2 i hi
    · rw [sI_eq, if_neg (by omega)]
  · rw [if_neg c, if_neg c, cl_some, if_neg (n_no (by omega))]
    exact O_ret ⟨rfl, MI_fd K _, q_aC_sI (q_aC_rf h) (by decide)⟩
theorem m_get (S : q_S) (w : q_wf S) (h : ph_Hp) (K : MI S h) (x1 x2 x3 : Int32) : ph_O (f_X9_get x1 x2 x3 h) (Mq h (sp_get S x1 x2 x3).1 (sp_get S x1 x2 x3).2) := by
  unfold f_X9_get sp_get
  rcases q_ins x1 4 (by decide) with ⟨e1, b1⟩ | ⟨s, hs, rfl, e1⟩
  · rw [m_she_o b1, cl_some, e1, if_pos rfl]
    exact O_ret ⟨rfl, K, q_aC_rf h⟩
  rw [m_she_i hs, cl_some, e1, if_neg (by decide)]
  rcases q_ins x2 3 (by decide) with ⟨e2, b2⟩ | ⟨f, hf, rfl, e2⟩
  · rw [m_wo (by decide) b2, cl_some, e2, if_pos rfl]
    exact O_ret ⟨rfl, K, q_aC_rf h⟩
  have ks := K.2.2.2.2.2.2.1
  have hw := (w.2.2 s).1
  have hle := q_wr_le S s f x3
  rw [m_wi hf (by decide), cl_some, e2, if_neg (by decide), m_lacks w K hs]
  dsimp only
  by_cases c : q_wr S s f x3 = 0
  · obtain ⟨c1, c2, k, hk, rfl⟩ := q_wr_0 w c
    rw [if_pos c, if_pos c, cl_some, if_pos rfl, pk_mul, nI_add, ldI_at (by omega) (by decide), nI_clamp (by omega)]
    exact O_ret ⟨((ks s hs).2 c1).2 k hk, K, q_aC_rf h⟩
  · rw [if_neg c, if_neg c, cl_some, if_neg (n_no (by omega))]
    exact O_ret ⟨rfl, MI_fd K _, q_aC_sI (q_aC_rf h) (by decide)⟩
