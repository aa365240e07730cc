theorem q_run_no {x y : Int32} {z : Nat} (hh : (x < nI 0 ∨ nI 61 ≤ x) ∨ (y < nI 0 ∨ nI 61 ≤ y)) : q_run x y z = false := by
  unfold q_run
  rcases q_ins x 61 (by decide) with ⟨e1, b1⟩ | ⟨i, hi, rfl, e1⟩
  · rw [e1]
  · rcases q_ins y 61 (by decide) with ⟨e2, b2⟩ | ⟨n, hn, rfl, e2⟩
    · rw [e1, e2]
    · exfalso
      rcases hh with (q | q) | (q | q)
      · exact n_pos (by omega) q
      · exact nI_ge hi (by decide) q
      · exact n_pos (by omega) q
      · exact nI_ge hn (by decide) q
theorem q_run_n {i n z : Nat} (hi : i < 2 ^ 31) (hn : n < 2 ^ 31) (hz : z ≤ 60) : q_run (nI i) (nI n) z = decide (i + n ≤ z) := by
  rcases Nat.lt_or_ge i 61 with q1 | q1
  · rcases Nat.lt_or_ge n 61 with q2 | q2
    · unfold q_run q_in
      simp (disch := omega) only [i_lt_f, i_lt_t, i_le_f, i_le_t, i_eq_f, i_eq_t, i_m1_lt, i_eqm_f, i_meq_f, i_mm_t, i_mle_t, i_nle_m, rz_0, rz_1, if_true, if_false, cl_some, ldI_at, ldJ_at, stI_at, stZ_at, stJ_at, pfI_at, pfJ_at, jn_at, dvI_at, rmI_at, irem_at, nI_add, pk_mul, pk_sub, n_dec, n_sub1, nI_clamp]
    · rw [q_run_no (Or.inr (Or.inr (nI_le q2 hn)))]
      exact (decide_eq_false (by omega)).symm
  · rw [q_run_no (Or.inl (Or.inr (nI_le q1 hi)))]
    exact (decide_eq_false (by omega)).symm
theorem m_copy (S : q_S) (w : q_wf S) (h : ph_Hp) (K : MI S h) (x1 x2 x3 x4 x5 : Int32) : ph_O (f_X9_copy x1 x2 x3 x4 x5 h) (Mq h (sp_copy S x1 x2 x3 x4 x5).1 (sp_copy S x1 x2 x3 x4 x5).2) := by
  unfold f_X9_copy sp_copy
  rcases q_ins x1 4 (by decide) with ⟨e1, b1⟩ | ⟨a, ha, rfl, e1⟩
  · rw [m_she_o b1, cl_some, e1, if_pos rfl]
    exact O_ret ⟨rfl, K, q_aC_rf h⟩
  rw [m_she_i ha, cl_some, e1, if_neg (by decide)]
  rcases q_ins x3 4 (by decide) with ⟨e2, b2⟩ | ⟨b, hb, rfl, e2⟩
  · rw [m_she_o b2, cl_some, e2, if_pos rfl]
    exact O_ret ⟨rfl, K, q_aC_rf h⟩
  have ks := K.2.2.2.2.2.2.1
  have hwa := (w.2.2 a).1
  have hwb := (w.2.2 b).1
  rw [m_she_i hb, cl_some, e2, if_neg (by decide), ldI_at ha (by decide), (ks a ha).1, jn_at]
  dsimp only
  by_cases c1 : S.2.2.1 a = (-1)
  · rw [if_pos (by rw [c1]; decide), if_pos (Or.inl c1)]
    exact cl_id (m_found K _)
  rw [if_neg (by rw [Int32.not_lt]; exact (n_form w a).mpr c1), ldI_at hb (by decide), (ks b hb).1]
  by_cases c2 : S.2.2.1 b = (-1)
  · rw [if_neg (fun z => (n_form w b).mp z c2), if_pos (Or.inr c2)]
    exact cl_id (m_found K _)
  rw [if_pos ((n_form w b).mpr c2), if_neg (fun z => z.elim c1 c2), ldI_at ha (by decide), ldI_at hb (by decide), (ks a ha).1, (ks b hb).1]
  by_cases c3 : S.2.2.1 a = S.2.2.1 b
  · rw [if_pos c3, if_pos c3, jn_at]
    have bad : ¬ (q_run x2 x5 (S.2.2.2.1 a) = true ∧ q_run x4 x5 (S.2.2.2.1 b) = true) → ph_O (ph_cl (f_X9_finds (nI 2) h) fun v24 h25 => some (v24, h25)) (Mq h (if q_run x2 x5 (S.2.2.2.1 a) = true ∧ q_run x4 x5 (S.2.2.2.1 b) = true then (nI 1, q_cp S a x2.toNatClampNeg b x4.toNatClampNeg x5.toNatClampNeg) else sp_found S (nI 2)).1 (if q_run x2 x5 (S.2.2.2.1 a) = true ∧ q_run x4 x5 (S.2.2.2.1 b) = true then (nI 1, q_cp S a x2.toNatClampNeg b x4.toNatClampNeg x5.toNatClampNeg) else sp_found S (nI 2)).2) := by
      intro z
      rw [if_neg z]
      exact cl_id (m_found K _)
    by_cases n2 : x2 < nI 0
    · rw [if_pos n2]
      exact bad (fun z => by rw [q_run_no (Or.inl (Or.inl n2))] at z; exact absurd z.1 (by decide))
    rw [if_neg n2]
    by_cases n4 : x4 < nI 0
    · rw [if_pos n4]
      exact bad (fun z => by rw [q_run_no (x := x4) (Or.inl (Or.inl n4))] at z; exact absurd z.2 (by decide))
    rw [if_neg n4]
    by_cases n5 : x5 < nI 0
    · rw [if_pos n5]
      exact bad (fun z => by rw [q_run_no (x := x2) (Or.inr (Or.inl n5))] at z; exact absurd z.1 (by decide))
    rw [if_neg n5]
    obtain ⟨i, hi, rfl⟩ := (n_nat x2).resolve_left n2
    obtain ⟨j, hj, rfl⟩ := (n_nat x4).resolve_left n4
    obtain ⟨n, hn, rfl⟩ := (n_nat x5).resolve_left n5
    rw [ldI_at ha (by decide), ((ks a ha).2 c1).1, nI_l hi, nI_l hn, nI_l (show S.2.2.2.1 a < 2 ^ 31 by omega), lN_add]
    by_cases c4 : i + n ≤ S.2.2.2.1 a
    · rw [if_neg (fun z => by
        have := (pk_lLT (by omega) (by omega)).mp ((cmp_gt _ _).mp z)
        omega), ldI_at hb (by decide), ((ks b hb).2 c2).1, nI_l hj, nI_l (show S.2.2.2.1 b < 2 ^ 31 by omega), lN_add]
      by_cases c5 : j + n ≤ S.2.2.2.1 b
      · rw [if_pos (by
          rw [← Int32.not_lt]
          intro z
          have := (pk_lLT (by omega) (by omega)).mp ((cmp_gt _ _).mp z)
          omega), if_pos ⟨by rw [q_run_n hi hn hwa]; exact decide_eq_true c4, by rw [q_run_n hj hn hwb]; exact decide_eq_true c5⟩, nI_clamp hi, nI_clamp hj, nI_clamp hn]
        dsimp only
        refine O_for n (fun p y => y.1 = nI p ∧ (∀ m, m < p → y.2.1 55 m = S.2.2.2.2.1 a (i + m)) ∧ q_ag [55] h y.2) (by omega) ⟨rfl, fun m hm => absurd hm (Nat.not_lt_zero m), q_ag_rf _ h⟩ ?_ ?_
        · rintro rec p ⟨y, g⟩ hp ⟨ey, f1, f2⟩ hrec
          dsimp only at ey f1 f2 ⊢
          subst ey
          rw [if_neg (nI_ge hp (by omega)), pk_mul, nI_add, nI_add, ldI_at (by omega) (by decide), stI_at (by omega) (by decide), (f2 54 (by decide)).1, Nat.add_assoc (60 * a) i p, ((ks a ha).2 c1).2 _ (by omega)]
          refine hrec _ ⟨nI_add _ _, fun m hm => ?_, q_ag_sI f2 (by decide)⟩
          dsimp only
          rw [sI_eq]
          by_cases q : m = p
          · rw [if_pos q, q]
          · rw [if_neg q]; exact f1 m (by omega)
        · rintro rec ⟨y, g⟩ ⟨ey, f1, f2⟩
          dsimp only at ey f1 f2 ⊢
          subst ey
          rw [if_pos (nI_le (Nat.le_refl n) (by omega))]
          refine O_for n (fun p y => y.1 = nI p ∧ (∀ m, m < 60 → y.2.1 54 (60 * b + m) = if j ≤ m ∧ m < j + p then S.2.2.2.2.1 a (i + (m - j)) else h.1 54 (60 * b + m)) ∧ (∀ t m, t ≠ b → m < 60 → y.2.1 54 (60 * t + m) = h.1 54 (60 * t + m)) ∧ (∀ m, m < n → y.2.1 55 m = S.2.2.2.2.1 a (i + m)) ∧ q_ag [54, 55] h y.2) (by omega) ⟨rfl, fun m hm => by dsimp only; rw [if_neg (by omega), (f2 54 (by decide)).1], fun t m _ _ => by dsimp only; rw [(f2 54 (by decide)).1], f1, fun k hk => f2 k (by simp at hk; simp; omega)⟩ ?_ ?_
          · rintro rec p ⟨y, g⟩ hp ⟨ey, f1, f2, f3, f4⟩ hrec
            dsimp only at ey f1 f2 f3 f4 ⊢
            subst ey
            rw [if_neg (nI_ge hp (by omega)), ldI_at (by omega) (by decide), pk_mul, nI_add, nI_add, stI_at (by omega) (by decide), f3 p hp, Nat.add_assoc (60 * b) j p]
            refine hrec _ ⟨nI_add _ _, fun m hm => ?_, fun t m ht hm => ?_, fun m hm => ?_, q_ag_sI f4 (by decide)⟩
            · dsimp only
              rw [sI_eq]
              by_cases q : m = j + p
              · rw [if_pos (by rw [q]), if_pos (by omega), q, Nat.add_sub_cancel_left]
              · rw [if_neg (by omega), f1 m hm]
                by_cases q2 : j ≤ m ∧ m < j + p
                · rw [if_pos q2, if_pos (by omega)]
                · rw [if_neg q2, if_neg (by omega)]
            · dsimp only; rw [sI_eq, if_neg (by omega)]; exact f2 t m ht hm
            · dsimp only; rw [sI_ne _ _ _ (by decide)]; exact f3 m hm
          · rintro rec ⟨y, g⟩ ⟨ey, f1, f2, f3, f4⟩
            dsimp only at ey f1 f2 f3 f4 ⊢
            subst ey
            rw [if_pos (nI_le (Nat.le_refl n) (by omega))]
            refine O_ret ⟨rfl, m_ags K rfl rfl rfl (cS_is ks (f4 52 (by decide)).1 (f4 53 (by decide)).1 (fun m hm => ?_) (fun t m ht hm => f2 t m ht hm) w) (fun k hk => f4 k (by simp at hk; simp; omega)), q_aC_ag f4 (by decide)⟩
            rw [f1 m (by omega), ((ks b hb).2 c2).2 m hm]
      · rw [if_neg (by
          rw [Int32.not_le]
          exact (cmp_gt _ _).mpr ((pk_lLT (by omega) (by omega)).mpr (by omega)))]
        exact bad (fun z => by rw [q_run_n hj hn hwb] at z; exact c5 (of_decide_eq_true z.2))
    · rw [if_pos ((cmp_gt _ _).mpr ((pk_lLT (by omega) (by omega)).mpr (by omega)))]
      exact bad (fun z => by rw [q_run_n hi hn hwa] at z; exact c4 (of_decide_eq_true z.1))
  · rw [if_neg c3, if_neg c3]
    exact cl_id (m_found K _)
