-- writing, reading, counting
theorem q_40e {z : Nat} (hz : z ≤ 60) : (if nI 40 < nI z then nI 40 else nI z) = nI (q_40 z) := by
  unfold q_40
  by_cases c : 40 < z
  · rw [if_pos (nI_lt c (by omega)), if_pos c]
  · rw [if_neg (nI_nlt (by omega) (by decide)), if_neg c]
theorem q_40_le (z : Nat) : q_40 z ≤ 40 ∧ q_40 z ≤ z := by
  unfold q_40
  split <;> omega
theorem k_write (S : q_S) (h : ph_Hp) (K : CI S h) (x1 x2 : Int32) : ph_O (f_X8_write x1 x2 h) (Cq h (sp_write S x1 x2).1 (sp_write S x1 x2).2) := by
  unfold f_X8_write sp_write
  rcases q_ins x1 2 (by decide) with ⟨e1, b1⟩ | ⟨v, hv, rfl, e1⟩
  · rw [s_wo h b1, cl_some, e1, if_pos rfl]
    exact O_ret ⟨rfl, K, q_aM_rf h⟩
  rw [s_wi h hv (by decide), cl_some, e1, if_neg (by decide)]
  rcases q_ins x2 4 (by decide) with ⟨e2, b2⟩ | ⟨s, hs, rfl, e2⟩
  · rw [s_wo h b2, cl_some, e2, if_pos rfl]
    exact O_ret ⟨rfl, K, q_aM_rf h⟩
  have hw := (K.1.2.2 s).1
  rw [s_wi h hs (by decide), cl_some, e2, if_neg (by decide), s_lost h hs, cl_some, (K.2.1.2.2.2.2.2.2.2.2.2.2 s hs).1]
  dsimp only
  by_cases c : S.2.2.1 s = (-1)
  · rw [if_pos c, if_neg (by decide), if_pos c]
    exact cl_id (k_found K _)
  rw [if_neg c, if_pos rfl, if_neg c]
  refine O_cl (s_staged K) (fun _ g ⟨K1, st, k7, am, ag⟩ => ?_)
  have ks := K1.2.1.2.2.2.2.2.2.2.2.2.2
  have hle := q_40_le (S.2.2.2.1 s)
  rw [s_ssize g hs, cl_some, ((ks s hs).2 c).1, q_40e hw]
  refine O_for (q_40 (S.2.2.2.1 s)) (fun p y => y.1 = nI p ∧ (∀ m, m < 60 → y.2.1 50 (60 * s + m) = if m < p then q_ct (S.2.2.1 s) (q_wv S v m) else g.1 50 (60 * s + m)) ∧ (∀ t m, t ≠ s → m < 60 → y.2.1 50 (60 * t + m) = g.1 50 (60 * t + m)) ∧ q_ag [50] g y.2) (by omega) ⟨rfl, fun m hm => by rw [if_neg (by omega)], fun t m _ _ => rfl, q_ag_rf _ g⟩ ?_ ?_
  · rintro rec p ⟨y, g1⟩ hp ⟨ey, e1, e2, e3⟩ hrec
    dsimp only at ey e1 e2 e3 ⊢
    subst ey
    have hrd : ph_O (ph_cl (f_X5_put (nI s) (nI p) (q_wv S v p) g1) fun _ h25 => rec (nI p + nI 1, h25)) (Cq h (nI (q_40 (S.2.2.2.1 s))) (q_wt S s v (q_40 (S.2.2.2.1 s)))) := by
      rw [s_sput g1 hs (by omega), cl_some, (e3 48 (by decide)).1, (ks s hs).1]
      refine hrec _ ⟨nI_add _ _, fun m hm => ?_, fun t m ht hm => ?_, q_ag_sI e3 (by decide)⟩
      · dsimp only
        rw [sI_eq]
        by_cases q : m = p
        · rw [if_pos (by rw [q]), if_pos (by omega), q]
        · rw [if_neg (by omega), e1 m hm]
          by_cases q2 : m < p
          · rw [if_pos q2, if_pos (by omega)]
          · rw [if_neg q2, if_neg (by omega)]
      · dsimp only
        rw [sI_eq, if_neg (by omega)]; exact e2 t m ht hm
    rw [if_neg (nI_ge hp (by omega)), jn_at]
    by_cases cv : v = 0
    · rw [if_pos (by rw [cv]), s_playedIn g1 (by omega), cl_some, (e3 40 (by decide)).1, (st.2.2.2.2 p (by omega)).2]
      unfold q_wv at hrd
      rw [if_pos cv] at hrd
      exact hrd
    · rw [if_neg (by rw [nI_eq (by omega) (by decide)]; exact cv), s_byIn g1 (by omega), cl_some, (e3 39 (by decide)).1, (st.2.2.2.2 p (by omega)).1]
      unfold q_wv at hrd
      rw [if_neg cv] at hrd
      exact hrd
  · rintro rec ⟨y, g1⟩ ⟨ey, e1, e2, e3⟩
    dsimp only at ey e1 e2 e3 ⊢
    subst ey
    rw [if_pos (nI_le (Nat.le_refl _) (by omega))]
    refine O_ret ⟨rfl, CI_sh K1 (wf_wt K1.1) rfl rfl (cS_is ks (e3 48 (by decide)).1 (e3 49 (by decide)).1 (fun m hm => ?_) e2 K.1) ?_ ?_ (fun i h1 h2 => (e3 i (by simp; omega)).1), q_aM_tr am (q_aM_ag e3 (by decide))⟩
    · rw [e1 m (by omega), ((ks s hs).2 c).2 m hm]
    · rw [(e3 0 (by decide)).1]; exact K1.2.2.1
    · rw [(e3 0 (by decide)).1]
theorem mv_sh (S : q_S) (x y : Int32) : (sp_move S x y).2.2.2 = S.2.2 := by
  unfold sp_move
  split
  · unfold sp_tell
    split <;> rfl
  · rfl
theorem q_rd_s (s d n : Nat) (S : q_S) : q_rd s (d + 1) n S = if 2 * n + 2 ≤ S.2.2.2.1 s then (if nI 0 ≤ (sp_move S (S.2.2.2.2.1 s (2 * n)) (S.2.2.2.2.1 s (2 * n + 1))).1 then q_rd s d (n + 1) (sp_move S (S.2.2.2.2.1 s (2 * n)) (S.2.2.2.2.1 s (2 * n + 1))).2 else (nI n, (sp_move S (S.2.2.2.2.1 s (2 * n)) (S.2.2.2.2.1 s (2 * n + 1))).2)) else (nI n, S) := rfl
theorem k_read (S : q_S) (h : ph_Hp) (K : CI S h) (x1 : Int32) : ph_O (f_X8_read x1 h) (Cq h (sp_read S x1).1 (sp_read S x1).2) := by
  unfold f_X8_read sp_read
  rcases q_ins x1 4 (by decide) with ⟨e2, b2⟩ | ⟨s, hs, rfl, e2⟩
  · rw [s_wo h b2, cl_some, e2, if_pos rfl]
    exact O_ret ⟨rfl, K, q_aM_rf h⟩
  have hw := (K.1.2.2 s).1
  rw [s_wi h hs (by decide), cl_some, e2, if_neg (by decide), s_lost h hs, cl_some, (K.2.1.2.2.2.2.2.2.2.2.2.2 s hs).1]
  dsimp only
  by_cases c : S.2.2.1 s = (-1)
  · rw [if_pos c, if_neg (by decide), if_pos c]
    exact cl_id (k_found K _)
  rw [if_neg c, if_pos rfl, if_neg c]
  refine O_for 31 (fun p y => y.1 = nI p ∧ y.2.1 = nI (2 * p) ∧ q_aM h y.2.2 ∧ ∃ S1 : q_S, CI S1 y.2.2 ∧ S1.2.2 = S.2.2 ∧ q_rd s (31 - p) p S1 = q_rd s 31 0 S) (by omega) ⟨rfl, rfl, q_aM_rf h, S, K, rfl, rfl⟩ ?_ ?_
  · rintro rec p ⟨y, z, g⟩ hp ⟨ey, ez, am, S1, K1, e3, e4⟩ hrec
    dsimp only at ey ez am K1 ⊢
    subst ey ez
    have ks := K1.2.1.2.2.2.2.2.2.2.2.2.2
    have c1 : S1.2.2.1 s ≠ (-1) := by rw [e3]; exact c
    rw [show 31 - p = (31 - (p + 1)) + 1 by omega, q_rd_s] at e4
    have hw1 := (K1.1.2.2 s).1
    rw [s_ssize g hs, cl_some, ((ks s hs).2 c1).1, nI_add]
    by_cases c2 : 2 * p + 2 ≤ S1.2.2.2.1 s
    · rw [if_pos c2] at e4
      rw [if_neg (nI_ge (by omega) (by omega)), s_item g hs (by omega), cl_some, s_item g hs (by omega), cl_some, ((ks s hs).2 c1).2 _ (by omega), ((ks s hs).2 c1).2 _ (by omega)]
      refine O_cl (k_move S1 g K1 _ _) ?_
      rintro v g2 ⟨rfl, K2, am2⟩
      by_cases c3 : nI 0 ≤ (sp_move S1 (S1.2.2.2.2.1 s (2 * p)) (S1.2.2.2.2.1 s (2 * p + 1))).1
      · rw [if_pos c3] at e4
        rw [if_pos c3]
        exact hrec _ ⟨nI_add _ _, by dsimp only; rw [nI_add]; exact congrArg nI (by omega), q_aM_tr am am2, _, K2, by rw [mv_sh]; exact e3, e4⟩
      · rw [if_neg c3] at e4
        rw [if_neg c3, ← e4]
        exact O_ret ⟨rfl, K2, q_aM_tr am am2⟩
    · rw [if_neg c2] at e4
      rw [if_pos (nI_le (by omega) (by omega)), ← e4]
      exact O_ret ⟨rfl, K1, am⟩
  · rintro rec ⟨y, z, g⟩ ⟨ey, ez, am, S1, K1, e3, e4⟩
    dsimp only at ey ez am K1 ⊢
    subst ey ez
    have ks := K1.2.1.2.2.2.2.2.2.2.2.2.2
    have c1 : S1.2.2.1 s ≠ (-1) := by rw [e3]; exact c
    have hw1 := (K1.1.2.2 s).1
    rw [s_ssize g hs, cl_some, ((ks s hs).2 c1).1, nI_add, if_pos (nI_le (by omega) (by omega)), ← e4]
    exact O_ret ⟨rfl, K1, am⟩
def q_ko (S : q_S) (x : Int32) : Int32 := if x = nI 0 then nI (q_pl S) else if x = nI 1 then nI (q_hn S) else if x = nI 2 then nI (S.1 0) else if x = nI 3 then nI (S.1 1) else if x = nI 4 then nI (S.1 2) else if x = nI 5 then nI (S.1 3) else if x = nI 6 then nI (S.1 4) else if x = nI 7 then nI (S.1 5) else if x = nI 8 then S.2.2.2.2.2 else (-2)
def sp_count (S : q_S) (x1 : Int32) : Int32 × q_S := (q_ko S x1, S)
theorem k_count (S : q_S) (h : ph_Hp) (K : CI S h) (x1 : Int32) : ph_O (f_X8_count x1 h) (Cq h (sp_count S x1).1 (sp_count S x1).2) := by
  obtain ⟨w, kp, kf, ks⟩ := id K
  obtain ⟨k1, k2, k3, k4, k5, k6, k7, k8, k9, k10, k11⟩ := id kp
  unfold f_X8_count sp_count q_ko
  by_cases c : x1 = nI 0
  · rw [if_pos c, if_pos c]
    exact O_cl (s_staged K) (fun _ g ⟨K1, st, k7, am, ag⟩ => O_ret ⟨st.1.1, K1, am⟩)
  rw [if_neg c, if_neg c]; clear c
  by_cases c : x1 = nI 1
  · rw [if_pos c, if_pos c]
    exact O_cl (s_staged K) (fun _ g ⟨K1, st, k7, am, ag⟩ => O_ret ⟨st.2.1.1, K1, am⟩)
  rw [if_neg c, if_neg c]; clear c
  by_cases c : x1 = nI 2
  · rw [if_pos c, if_pos c, s_Rsize r_1, cl_some]; exact O_ret ⟨k1.1, K, q_aM_rf h⟩
  rw [if_neg c, if_neg c]; clear c
  by_cases c : x1 = nI 3
  · rw [if_pos c, if_pos c, s_Rsize r_3, cl_some]; exact O_ret ⟨k2.1, K, q_aM_rf h⟩
  rw [if_neg c, if_neg c]; clear c
  by_cases c : x1 = nI 4
  · rw [if_pos c, if_pos c, s_Tsize t_5, cl_some]; exact O_ret ⟨k3.1, K, q_aM_rf h⟩
  rw [if_neg c, if_neg c]; clear c
  by_cases c : x1 = nI 5
  · rw [if_pos c, if_pos c, s_Tsize t_10, cl_some]; exact O_ret ⟨k5.1, K, q_aM_rf h⟩
  rw [if_neg c, if_neg c]; clear c
  by_cases c : x1 = nI 6
  · rw [if_pos c, if_pos c, s_Tsize t_15, cl_some]; exact O_ret ⟨k7.1, K, q_aM_rf h⟩
  rw [if_neg c, if_neg c]; clear c
  by_cases c : x1 = nI 7
  · rw [if_pos c, if_pos c, s_Tsize t_20, cl_some]; exact O_ret ⟨k9.1, K, q_aM_rf h⟩
  rw [if_neg c, if_neg c]; clear c
  by_cases c : x1 = nI 8
  · rw [if_pos c, if_pos c]; exact O_ret ⟨kf, K, q_aM_rf h⟩
  rw [if_neg c, if_neg c]
  exact O_ret ⟨rfl, K, q_aM_rf h⟩
