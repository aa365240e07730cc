-- round and write of the reference
def q_al (p : Nat → Bool) : Nat → Bool
  | 0 => true
  | n + 1 => q_al p n && !p n
theorem q_al_iff (p : Nat → Bool) : ∀ n, q_al p n = true ↔ ∀ k, k < n → p k = false
  | 0 => ⟨fun _ k hk => absurd hk (Nat.not_lt_zero k), fun _ => rfl⟩
  | n + 1 => by
    unfold q_al
    rw [Bool.and_eq_true, q_al_iff p n]
    constructor
    · rintro ⟨a, b⟩ k hk
      by_cases q : k = n
      · rw [q]; simpa using b
      · exact a k (by omega)
    · intro a
      exact ⟨fun k hk => a k (by omega), by rw [a n (by omega)]; rfl⟩
theorem q_al_ff (p : Nat → Bool) (n : Nat) : q_al p n = decide (q_ff p n = n) := by
  by_cases c : q_al p n = true
  · rw [c]
    exact (decide_eq_true (q_ff_all.mpr ((q_al_iff p n).mp c))).symm
  · have : ¬ q_ff p n = n := fun z => c ((q_al_iff p n).mpr (q_ff_all.mp z))
    rw [decide_eq_false this]
    simpa using c
theorem m_roundNow {S : q_S} (w : q_wf S) {h : ph_Hp} (F : MF S h) : f_X9_roundNow h = some (q_ro S, h) := by
  have hle := q_ff_le (fun i => q_rn S (i + 1)) 12
  have inner : ∀ (n : Nat), 1 ≤ n → n ≤ 12 → ∀ (rec : Int32 → Option (Int32 × ph_Hp)), ph_lp (α := Int32 × Int32) (fun j5 (x6, x7) =>
        if (nI 40) ≤ (x7 + nI n) then
          if x6 = nI 0 then
            rec (nI n + (nI 1))
          else
            some (nI n, h)
        else
          ph_jn (α := Int32) (fun x11 =>
            j5 (x11, x7 + (nI 1))) (fun j10 =>
            ph_jn (α := Unit) (fun _x =>
              j10 (nI 0)) (fun j12 =>
              if x6 = nI 0 then
                j12 ()
              else
                ph_ldI h 65 40 x7 fun v14 =>
                ph_ldI h 65 40 (x7 + nI n) fun v15 =>
                if v14 = v15 then
                  j10 (nI 1)
                else
                  j12 ()))) ph_fu ((nI 1), (nI 16)) = if q_rn S n = true then some (nI n, h) else rec (nI (n + 1)) := by
    intro n h1 h2 rec
    refine lp_for (fun i => (if q_al (q_ne S n) i = true then nI 1 else nI 0, nI (16 + i))) (24 - n) (by omega) rfl ?_ ?_
    · intro rec2 i hi
      have hq : (q_lv S (q_p S (16 + i)) = q_lv S (q_p S (16 + i + n))) ↔ q_ne S n i = false := by
        unfold q_ne
        by_cases cp : q_pl S = 0
        · rw [q_lv_0 cp, q_lv_0 cp]; simp [cp]
        · have l1 : q_p S (16 + i) < 8 := q_P_lt cp none (q_cg S) _
          have l2 : q_p S (16 + i + n) < 8 := q_P_lt cp none (q_cg S) _
          rw [q_lv_eq cp l1 l2]; simp [cp]
      dsimp only
      rw [nI_add, if_neg (nI_ge (by omega) (by decide)), jn_at, jn_at, nI_add (16 + i) 1, show 16 + i + 1 = 16 + (i + 1) by omega]
      by_cases c : q_al (q_ne S n) i = true
      · rw [if_pos c, if_neg (by decide), ldI_at (by omega) (by decide), ldI_at (by omega) (by decide), (F.2.1 _ (by omega)).1, (F.2.1 _ (by omega)).1]
        by_cases d : q_ne S n i = false
        · rw [if_pos (hq.mpr d), if_pos (by unfold q_al; simp [c, d])]
        · rw [if_neg (fun z => d (hq.mp z)), if_neg (by unfold q_al; simp [c]; simpa using d)]
      · rw [if_neg c, if_pos rfl, if_neg (by unfold q_al; simp [c])]
    · intro rec2
      dsimp only
      rw [nI_add, if_pos (nI_le (by omega) (by omega)), nI_add]
      have : q_rn S n = q_al (q_ne S n) (24 - n) := (q_al_ff _ _).symm
      rw [this]
      by_cases c : q_al (q_ne S n) (24 - n) = true
      · rw [if_pos c, if_neg (by decide), if_pos c]
      · rw [if_neg c, if_pos rfl, if_neg c]
  unfold f_X9_roundNow
  refine lp_for (fun i => nI (i + 1)) (q_ff (fun i => q_rn S (i + 1)) 12) (by omega) rfl ?_ ?_
  · intro rec i hi
    have h1 := q_ff_no _ _ i hi
    rw [if_neg (nI_ge (by omega) (by decide))]
    rw [inner (i + 1) (by omega) (by omega), if_neg (by rw [h1]; decide)]
  · intro rec
    unfold q_ro
    by_cases c : q_ff (fun i => q_rn S (i + 1)) 12 = 12
    · rw [if_pos c, c, if_pos (nI_le (by decide) (by decide))]
    · have h1 := q_ff_yes _ _ (show q_ff (fun i => q_rn S (i + 1)) 12 < 12 by omega)
      rw [if_neg c, if_neg (nI_ge (by omega) (by decide)), inner _ (by omega) (by omega), if_pos h1]
theorem m_round (S : q_S) (w : q_wf S) (h : ph_Hp) (K : MI S h) : ph_O (f_X9_round h) (Mq h (sp_round S).1 (sp_round S).2) := by
  unfold f_X9_round sp_round
  refine O_cl (m_find w K) ?_
  rintro _ g ⟨F, a1⟩
  rw [m_roundNow w F, cl_some]
  dsimp only
  exact O_ret ⟨rfl, F.2.2, mA_C a1⟩
theorem q_40l {z : Nat} (hz : z ≤ 60) (h : ph_Hp) : f_X9_lesser (nI z) (nI 40) h = some (nI (q_40 z), h) := by
  unfold f_X9_lesser q_40
  by_cases c : 40 ≤ z
  · rw [if_pos (nI_le c (by omega))]
    by_cases d : 40 < z
    · rw [if_pos d]
    · rw [if_neg d, show z = 40 by omega]
  · rw [if_neg (nI_ge (by omega) (by decide)), if_neg (by omega)]
theorem m_write (S : q_S) (w : q_wf S) (h : ph_Hp) (K : MI S h) (x1 x2 : Int32) : ph_O (f_X9_write x1 x2 h) (Mq h (sp_write S x1 x2).1 (sp_write S x1 x2).2) := by
  unfold f_X9_write sp_write
  rcases q_ins x1 2 (by decide) with ⟨e1, b1⟩ | ⟨v, hv, rfl, e1⟩
  · rw [m_two_o b1, cl_some, e1, if_pos rfl]
    exact O_ret ⟨rfl, K, q_aC_rf h⟩
  rw [m_two_i hv, cl_some, e1, if_neg (by decide)]
  rcases q_ins x2 4 (by decide) with ⟨e2, b2⟩ | ⟨s, hs, rfl, e2⟩
  · rw [m_she_o b2, cl_some, e2, if_pos rfl]
    exact O_ret ⟨rfl, K, q_aC_rf h⟩
  have hw := (w.2.2 s).1
  rw [m_she_i hs, cl_some, e2, if_neg (by decide), ldI_at hs (by decide), (K.2.2.2.2.2.2.1 s hs).1]
  dsimp only
  by_cases c : S.2.2.1 s = (-1)
  · rw [if_neg (fun z => (n_form w s).mp z c), if_pos c]
    exact cl_id (m_found K _)
  rw [if_pos ((n_form w s).mpr c), if_neg c]
  refine O_cl (m_find w K) ?_
  rintro _ g ⟨F, am⟩
  have ks := F.2.2.2.2.2.2.2.2.1
  have hle := q_40_le (S.2.2.2.1 s)
  obtain ⟨fm, hfm, efm⟩ : ∃ fm, fm < 3 ∧ S.2.2.1 s = nI fm := by
    rcases (w.2.2 s).2.1 with e | e | e | e
    · exact absurd e c
    · exact ⟨0, by decide, e⟩
    · exact ⟨1, by decide, e⟩
    · exact ⟨2, by decide, e⟩
  rw [ldI_at hs (by decide), ((ks s hs).2 c).1, q_40l hw, cl_some]
  refine O_for (q_40 (S.2.2.2.1 s)) (fun p y => y.1 = nI p ∧ (∀ m, m < 60 → y.2.1 54 (60 * s + m) = if m < p then q_ct (S.2.2.1 s) (q_wv S v m) else g.1 54 (60 * s + m)) ∧ (∀ t m, t ≠ s → m < 60 → y.2.1 54 (60 * t + m) = g.1 54 (60 * t + m)) ∧ q_ag [54] g y.2) (by omega) ⟨rfl, fun m hm => by rw [if_neg (by omega)], fun t m _ _ => rfl, q_ag_rf _ g⟩ ?_ ?_
  · rintro rec p ⟨y, g1⟩ hp ⟨ey, e1, e2, e3⟩ hrec
    dsimp only at ey e1 e2 e3 ⊢
    subst ey
    have hst : f_X9_stepOf (nI p) (nI v) g1 = some (q_wv S v p, g1) := by
      unfold f_X9_stepOf q_wv
      by_cases cv : v = 0
      · rw [if_pos (by rw [cv]), if_pos cv, ldI_at (by omega) (by decide), (e3 65 (by decide)).1, (F.2.1 p (by omega)).1]
      · rw [if_neg (by rw [nI_eq (by omega) (by decide)]; exact cv), if_neg cv, if_pos (by rw [show v = 1 by omega]), ldI_at (by omega) (by decide), (e3 66 (by decide)).1, (F.2.1 p (by omega)).2]
    rw [if_neg (nI_ge hp (by omega)), ldI_at hs (by decide), (e3 52 (by decide)).1, (ks s hs).1, hst, cl_some, efm, m_cut hfm, cl_some, pk_mul, nI_add, stI_at (by omega) (by decide)]
    refine hrec _ ⟨nI_add _ _, fun m hm => ?_, fun t m ht hm => ?_, q_ag_sI e3 (by decide)⟩
    · dsimp only
      rw [sI_eq]
      by_cases q : m = p
      · rw [if_pos (by rw [q]), if_pos (by omega), q, efm]
      · rw [if_neg (by omega), e1 m hm]
        by_cases q2 : m < p
        · rw [if_pos q2, if_pos (by omega)]
        · rw [if_neg q2, if_neg (by omega)]
    · dsimp only
      rw [sI_eq, if_neg (by omega)]; exact e2 t m ht hm
  · rintro rec ⟨y, g1⟩ ⟨ey, e1, e2, e3⟩
    dsimp only at ey e1 e2 e3 ⊢
    subst ey
    rw [if_pos (nI_le (Nat.le_refl _) (by omega))]
    refine O_ret ⟨rfl, m_ags F.2.2 rfl rfl rfl (cS_is ks (e3 52 (by decide)).1 (e3 53 (by decide)).1 (fun m hm => ?_) e2 w) (fun k hk => e3 k (by simp at hk; simp; omega)), q_aC_tr (mA_C am) (q_aC_ag e3 (by decide))⟩
    rw [e1 m (by omega), ((ks s hs).2 c).2 m hm]
