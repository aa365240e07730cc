-- copying, writing, reading
theorem n_run {z i n : Nat} (hz : z ≤ 60) (hi : i < 2 ^ 31) (hn : n < 2 ^ 31) : nI z - nI i < nI n ↔ z < i + n := by
  rw [Int32.lt_iff_toInt_lt, Int32.toInt_sub, nI_toInt (by omega), nI_toInt hi, nI_toInt hn, Int.bmod_eq_of_le (by omega) (by omega)]
  omega
theorem n_nat (x : Int32) : x < nI 0 ∨ ∃ j : Nat, j < 2 ^ 31 ∧ x = nI j := by
  by_cases c : x < nI 0
  · exact Or.inl c
  · right
    have h1 : (0 : Int) ≤ x.toInt := by
      rw [Int32.lt_iff_toInt_lt] at c
      have : (nI 0).toInt = 0 := by decide
      omega
    have h2 := Int32.toInt_lt x
    refine ⟨x.toInt.toNat, by omega, ?_⟩
    apply Int32.toInt_inj.1
    rw [nI_toInt (by omega)]
    omega
theorem s_run {a z : Nat} {g : ph_Hp} (ha : a < 4) (hz : z ≤ 60) (e : g.1 49 a = nI z) (x y : Int32) : f_X5_hasRun (nI a) x y g = some (if q_run x y z = true then nI 1 else nI 0, g) := by
  unfold f_X5_hasRun
  have hno : (x < nI 0 ∨ nI 61 ≤ x) ∨ (y < nI 0 ∨ nI 61 ≤ y) → q_run x y z = false := by
    intro hh
    unfold q_run
    rcases q_ins x 61 (by decide) with ⟨e1, b1⟩ | ⟨i, hi, rfl, e1⟩
    · rw [e1]
    · rcases q_ins y 61 (by decide) with ⟨e2, b2⟩ | ⟨n, hn, rfl, e2⟩
      · rw [e1, e2]
      · exfalso
        rcases hh with (q | q) | (q | q)
        · exact n_pos (by omega) q
        · exact nI_ge hi (by decide) q
        · exact n_pos (by omega) q
        · exact nI_ge hn (by decide) q
  by_cases c1 : x < nI 0
  · rw [if_pos c1, hno (Or.inl (Or.inl c1)), rz_0]; rfl
  rw [if_neg c1]
  by_cases c2 : y < nI 0
  · rw [if_pos c2, hno (Or.inr (Or.inl c2)), rz_0]; rfl
  rw [if_neg c2, s_ssize g ha, cl_some, e]
  obtain ⟨i, hi, rfl⟩ := (n_nat x).resolve_left c1
  obtain ⟨n, hn, rfl⟩ := (n_nat y).resolve_left c2
  have hr : q_run (nI i) (nI n) z = decide (i + n ≤ z) := by
    rcases Nat.lt_or_ge i 61 with q1 | q1
    · rcases Nat.lt_or_ge n 61 with q2 | q2
      · unfold q_run q_in
        simp (disch := omega) only [i_lt_f, i_lt_t, i_le_f, i_le_t, i_eq_f, i_eq_t, i_m1_lt, i_eqm_f, i_meq_f, i_mm_t, i_mle_t, i_nle_m, rz_0, rz_1, if_true, if_false, cl_some, ldI_at, ldJ_at, stI_at, stZ_at, stJ_at, pfI_at, pfJ_at, jn_at, dvI_at, rmI_at, irem_at, nI_add, pk_mul, pk_sub, n_dec, n_sub1, nI_clamp]
      · rw [hno (Or.inr (Or.inr (nI_le q2 hn)))]
        exact (decide_eq_false (by omega)).symm
    · rw [hno (Or.inl (Or.inr (nI_le q1 hi)))]
      exact (decide_eq_false (by omega)).symm
  rw [hr]
  by_cases c : i + n ≤ z
  · rw [if_neg (by rw [n_run hz hi hn]; omega), if_pos (decide_eq_true c), rz_1]
  · rw [if_pos (by rw [n_run hz hi hn]; omega), if_neg (by rw [decide_eq_true_eq]; exact c), rz_0]
theorem q_run_t {x y : Int32} {z : Nat} (hz : z ≤ 60) (e : q_run x y z = true) : ∃ i n, x = nI i ∧ y = nI n ∧ i + n ≤ z := by
  unfold q_run at e
  rcases q_ins x 61 (by decide) with ⟨e1, b1⟩ | ⟨i, hi, rfl, e1⟩
  · rw [e1] at e; cases e
  · rcases q_ins y 61 (by decide) with ⟨e2, b2⟩ | ⟨n, hn, rfl, e2⟩
    · rw [e1, e2] at e; cases e
    · rw [e1, e2] at e
      exact ⟨i, n, rfl, rfl, of_decide_eq_true e⟩
theorem s_carry {S : q_S} {h : ph_Hp} (K : CI S h) {a i b j n : Nat} (ha : a < 4) (hb : b < 4) (fa : S.2.2.1 a ≠ (-1)) (fe : S.2.2.1 a = S.2.2.1 b) (h1 : i + n ≤ S.2.2.2.1 a) (h2 : j + n ≤ S.2.2.2.1 b) : ph_O (f_X5_carry (nI a) (nI i) (nI b) (nI j) (nI n) h) (fun _ g => (∀ m, m < 60 → g.1 50 (60 * b + m) = if j ≤ m ∧ m < j + n then S.2.2.2.2.1 a (i + (m - j)) else h.1 50 (60 * b + m)) ∧ (∀ t m, t ≠ b → m < 60 → g.1 50 (60 * t + m) = h.1 50 (60 * t + m)) ∧ q_ag [50] h g) := by
  have ks := K.2.1.2.2.2.2.2.2.2.2.2.2
  have hwa := (K.1.2.2 a).1
  have hwb := (K.1.2.2 b).1
  have hct : ∀ k, q_ct (S.2.2.1 b) (S.2.2.2.2.1 a k) = S.2.2.2.2.1 a k := fun k => by rw [← fe]; exact (K.1.2.2 a).2.2 k
  have src : ∀ k, k < S.2.2.2.1 a → h.1 50 (60 * a + k) = S.2.2.2.2.1 a k := ((ks a ha).2 fa).2
  -- one turn
  have turn : ∀ (g : ph_Hp) (q : Nat), q < n → q_ag [50] h g → (g.1 50 (60 * a + (i + q)) = h.1 50 (60 * a + (i + q))) → (ph_cl (f_X5_item (nI a) (nI i + nI q) g) fun v15 h16 => ph_cl (f_X5_put (nI b) (nI j + nI q) v15 h16) fun _ h18 => some ((), h18)) = some ((), ph_sI g 50 (60 * b + (j + q)) (S.2.2.2.2.1 a (i + q))) := by
    intro g q hq ag e
    rw [nI_add, nI_add, s_item g ha (by omega), cl_some, s_sput g hb (by omega), cl_some, e, src _ (by omega), (ag 48 (by decide)).1, (ks b hb).1, hct]
  have item : ∀ (g : ph_Hp) (q : Nat), q < n → q_ag [50] h g → (g.1 50 (60 * a + (i + q)) = h.1 50 (60 * a + (i + q))) → f_X5_item (nI a) (nI i + nI q) g = some (S.2.2.2.2.1 a (i + q), g) := by
    intro g q hq ag e
    rw [nI_add, s_item g ha (by omega), e, src _ (by omega)]
  have put : ∀ (g : ph_Hp) (q : Nat), q < n → q_ag [50] h g → f_X5_put (nI b) (nI j + nI q) (S.2.2.2.2.1 a (i + q)) g = some ((), ph_sI g 50 (60 * b + (j + q)) (S.2.2.2.2.1 a (i + q))) := by
    intro g q hq ag
    rw [nI_add, s_sput g hb (by omega), (ag 48 (by decide)).1, (ks b hb).1, hct]
  have forw : ¬ (a = b ∧ i < j) → ph_O (ph_lp (α := Int32 × ph_Hp) (fun j9 (x10, h11) =>
      if nI n ≤ x10 then some ((), h11) else
        ph_jn (α := Int32) (fun x14 =>
          ph_cl (f_X5_item (nI a) (nI i + x14) h11) fun v15 h16 =>
          ph_cl (f_X5_put (nI b) (nI j + x14) v15 h16) fun _ h18 =>
          j9 (x10 + (nI 1), h18)) (fun j13 =>
          if nI 1 = nI 0 then j13 ((nI n - (nI 1)) - x10) else j13 x10)) ph_fu ((nI 0), h)) (fun _ g => (∀ m, m < 60 → g.1 50 (60 * b + m) = if j ≤ m ∧ m < j + n then S.2.2.2.2.1 a (i + (m - j)) else h.1 50 (60 * b + m)) ∧ (∀ t m, t ≠ b → m < 60 → g.1 50 (60 * t + m) = h.1 50 (60 * t + m)) ∧ q_ag [50] h g) := by
    intro hd
    refine O_for n (fun p y => y.1 = nI p ∧ (∀ m, m < 60 → y.2.1 50 (60 * b + m) = if j ≤ m ∧ m < j + p then S.2.2.2.2.1 a (i + (m - j)) else h.1 50 (60 * b + m)) ∧ (∀ t m, t ≠ b → m < 60 → y.2.1 50 (60 * t + m) = h.1 50 (60 * t + m)) ∧ q_ag [50] h y.2) (by omega) ⟨rfl, fun m hm => by rw [if_neg (by omega)], fun t m _ _ => rfl, q_ag_rf _ h⟩ ?_ ?_
    · rintro rec p ⟨y, g⟩ hp ⟨ey, e1, e2, e3⟩ hrec
      dsimp only at ey e1 e2 e3 ⊢
      subst ey
      have es : g.1 50 (60 * a + (i + p)) = h.1 50 (60 * a + (i + p)) := by
        by_cases c : a = b
        · rw [c, e1 (i + p) (by omega), if_neg (by omega)]
        · exact e2 a (i + p) c (by omega)
      rw [if_neg (nI_ge hp (by omega)), jn_at, if_neg (by decide)]
      dsimp only
      rw [item g p hp e3 es, cl_some, put g p hp e3, cl_some]
      refine hrec _ ⟨nI_add _ _, fun m hm => ?_, fun t m ht hm => ?_, q_ag_sI e3 (by decide)⟩
      · dsimp only
        rw [sI_eq]
        by_cases c : m = j + p
        · rw [if_pos (by rw [c]), if_pos (by omega), c, Nat.add_sub_cancel_left]
        · rw [if_neg (by omega), e1 m hm]
          by_cases c2 : j ≤ m ∧ m < j + p
          · rw [if_pos c2, if_pos (by omega)]
          · rw [if_neg c2, if_neg (by omega)]
      · dsimp only
        rw [sI_eq, if_neg (by omega)]; exact e2 t m ht hm
    · rintro rec ⟨y, g⟩ ⟨ey, e⟩
      dsimp only at ey e ⊢
      subst ey
      rw [if_pos (nI_le (Nat.le_refl n) (by omega))]
      exact O_ret e
  have bakw : a = b ∧ i < j → ph_O (ph_lp (α := Int32 × ph_Hp) (fun j9 (x10, h11) =>
      if nI n ≤ x10 then some ((), h11) else
        ph_jn (α := Int32) (fun x14 =>
          ph_cl (f_X5_item (nI a) (nI i + x14) h11) fun v15 h16 =>
          ph_cl (f_X5_put (nI b) (nI j + x14) v15 h16) fun _ h18 =>
          j9 (x10 + (nI 1), h18)) (fun j13 =>
          if nI 0 = nI 0 then j13 ((nI n - (nI 1)) - x10) else j13 x10)) ph_fu ((nI 0), h)) (fun _ g => (∀ m, m < 60 → g.1 50 (60 * b + m) = if j ≤ m ∧ m < j + n then S.2.2.2.2.1 a (i + (m - j)) else h.1 50 (60 * b + m)) ∧ (∀ t m, t ≠ b → m < 60 → g.1 50 (60 * t + m) = h.1 50 (60 * t + m)) ∧ q_ag [50] h g) := by
    rintro ⟨rfl, hij⟩
    refine O_for n (fun p y => y.1 = nI p ∧ (∀ m, m < 60 → y.2.1 50 (60 * a + m) = if j + (n - p) ≤ m ∧ m < j + n then S.2.2.2.2.1 a (i + (m - j)) else h.1 50 (60 * a + m)) ∧ (∀ t m, t ≠ a → m < 60 → y.2.1 50 (60 * t + m) = h.1 50 (60 * t + m)) ∧ q_ag [50] h y.2) (by omega) ⟨rfl, fun m hm => by rw [if_neg (by omega)], fun t m _ _ => rfl, q_ag_rf _ h⟩ ?_ ?_
    · rintro rec p ⟨y, g⟩ hp ⟨ey, e1, e2, e3⟩ hrec
      dsimp only at ey e1 e2 e3 ⊢
      subst ey
      have es : g.1 50 (60 * a + (i + (n - 1 - p))) = h.1 50 (60 * a + (i + (n - 1 - p))) := by
        rw [e1 (i + (n - 1 - p)) (by omega), if_neg (by omega)]
      rw [if_neg (nI_ge hp (by omega)), jn_at, if_pos rfl, pk_sub (by omega), pk_sub (by omega)]
      dsimp only
      rw [item g (n - 1 - p) (by omega) e3 es, cl_some, put g (n - 1 - p) (by omega) e3, cl_some]
      refine hrec _ ⟨nI_add _ _, fun m hm => ?_, fun t m ht hm => ?_, q_ag_sI e3 (by decide)⟩
      · dsimp only
        rw [sI_eq]
        by_cases c : m = j + (n - 1 - p)
        · rw [if_pos (by rw [c]), if_pos (by omega), c, Nat.add_sub_cancel_left]
        · rw [if_neg (by omega), e1 m hm]
          by_cases c2 : j + (n - p) ≤ m ∧ m < j + n
          · rw [if_pos c2, if_pos (by omega)]
          · rw [if_neg c2, if_neg (by omega)]
      · dsimp only
        rw [sI_eq, if_neg (by omega)]; exact e2 t m ht hm
    · rintro rec ⟨y, g⟩ ⟨ey, e1, e2, e3⟩
      dsimp only at ey e1 e2 e3 ⊢
      subst ey
      rw [if_pos (nI_le (Nat.le_refl n) (by omega))]
      rw [Nat.sub_self, Nat.add_zero] at e1
      exact O_ret ⟨e1, e2, e3⟩
  unfold f_X5_carry
  rw [jn_at, jn_at]
  by_cases c1 : a = b
  · rw [if_pos (by rw [c1])]
    by_cases c2 : i < j
    · rw [if_pos (nI_lt c2 (by omega))]
      exact bakw ⟨c1, c2⟩
    · rw [if_neg (nI_nlt (by omega) (by omega))]
      exact forw (fun z => c2 z.2)
  · rw [if_neg (by rw [nI_eq (by omega) (by omega)]; exact c1)]
    exact forw (fun z => c1 z.1)
theorem k_copy (S : q_S) (h : ph_Hp) (K : CI S h) (x1 x2 x3 x4 x5 : Int32) : ph_O (f_X8_copy x1 x2 x3 x4 x5 h) (Cq h (sp_copy S x1 x2 x3 x4 x5).1 (sp_copy S x1 x2 x3 x4 x5).2) := by
  unfold f_X8_copy sp_copy
  rcases q_ins x1 4 (by decide) with ⟨e1, b1⟩ | ⟨a, ha, rfl, e1⟩
  · rw [s_wo h b1, cl_some, e1, if_pos rfl]
    exact O_ret ⟨rfl, K, q_aM_rf h⟩
  rw [s_wi h ha (by decide), cl_some, e1, if_neg (by decide)]
  rcases q_ins x3 4 (by decide) with ⟨e2, b2⟩ | ⟨b, hb, rfl, e2⟩
  · rw [s_wo h b2, cl_some, e2, if_pos rfl]
    exact O_ret ⟨rfl, K, q_aM_rf h⟩
  have ks := K.2.1.2.2.2.2.2.2.2.2.2.2
  have hwa := (K.1.2.2 a).1
  have hwb := (K.1.2.2 b).1
  rw [s_wi h hb (by decide), cl_some, e2, if_neg (by decide), s_lost h ha, cl_some, (ks a ha).1]
  dsimp only
  rw [jn_at]
  by_cases c1 : S.2.2.1 a = (-1)
  · rw [if_pos c1, if_neg (by decide), if_pos (Or.inl c1)]
    exact cl_id (k_found K _)
  rw [if_neg c1, if_pos rfl, s_lost h hb, cl_some, (ks b hb).1]
  by_cases c2 : S.2.2.1 b = (-1)
  · rw [if_pos c2, if_neg (by decide), if_pos (Or.inr c2)]
    exact cl_id (k_found K _)
  rw [if_neg c2, if_pos rfl, if_neg (fun z => z.elim c1 c2), s_form h ha, cl_some, s_form h hb, cl_some, (ks a ha).1, (ks b hb).1]
  by_cases c3 : S.2.2.1 a = S.2.2.1 b
  · rw [if_pos c3, if_pos c3, s_run ha hwa ((ks a ha).2 c1).1, cl_some, jn_at]
    by_cases c4 : q_run x2 x5 (S.2.2.2.1 a) = true
    · rw [if_pos c4, if_neg (by decide), s_run hb hwb ((ks b hb).2 c2).1, cl_some]
      by_cases c5 : q_run x4 x5 (S.2.2.2.1 b) = true
      · rw [if_pos c5, if_neg (by decide), if_pos ⟨c4, c5⟩]
        obtain ⟨i, n, rfl, rfl, h1⟩ := q_run_t hwa c4
        obtain ⟨j, n2, rfl, en, h2⟩ := q_run_t hwb c5
        have en : n = n2 := (nI_eq (by omega) (by omega)).mp en
        subst en
        rw [nI_clamp (by omega), nI_clamp (by omega), nI_clamp (by omega)]
        refine O_cl (s_carry K ha hb c1 c3 h1 h2) ?_
        rintro _ g ⟨r1, r2, r3⟩
        refine O_ret ⟨rfl, CI_sh K (wf_cp K.1 c3) rfl rfl (cS_is ks (r3 48 (by decide)).1 (r3 49 (by decide)).1 (fun m hm => ?_) (fun t i ht hi => r2 t i ht hi) K.1) ?_ ?_ (fun i h1 h2 => (r3 i (by simp; omega)).1), q_aM_ag r3 (by decide)⟩
        · rw [r1 m (by omega), ((ks b hb).2 c2).2 m hm]
        · rw [(r3 0 (by decide)).1]; exact K.2.2.1
        · rw [(r3 0 (by decide)).1]
      · rw [if_neg c5, if_pos rfl, if_neg (fun z => c5 z.2)]
        exact cl_id (k_found K _)
    · rw [if_neg c4, if_pos rfl, if_neg (fun z => c4 z.1)]
      exact cl_id (k_found K _)
  · rw [if_neg c3, if_neg c3]
    exact cl_id (k_found K _)
