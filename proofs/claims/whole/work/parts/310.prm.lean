-- prompt
def q_ru (S : q_S) (a w : Nat) : Nat → Nat
  | 0 => w
  | n + 1 => q_fo S (a + n + 1) (q_by S none (a + n + 1)) (q_ru S a w n) (q_cg S (a + n + 1))
theorem q_ru_sh (S : q_S) (a w : Nat) : ∀ n, q_ru S a w (n + 1) = q_ru S (a + 1) (q_fo S (a + 1) (q_by S none (a + 1)) w (q_cg S (a + 1))) n
  | 0 => rfl
  | n + 1 => by
    have ih := q_ru_sh S a w n
    rw [q_ru, ih]
    show _ = q_fo S (a + 1 + n + 1) _ _ _
    rw [show a + (n + 1) + 1 = a + 1 + n + 1 by omega]
theorem q_ru_lt {S : q_S} (hp : q_pl S ≠ 0) (a : Nat) {w : Nat} (hw : w < 8) : ∀ n, q_ru S a w n < 8
  | 0 => hw
  | n + 1 => q_fo_lt hp (fun h e => q_by_lt e) (q_ru_lt hp a hw n)
def q_ht (S : q_S) (T l a w : Nat) : Bool := decide (q_pl S ≠ 0) && decide (q_ru S a w (T - a) = l)
theorem q_ht_sh {S : q_S} {T l a w : Nat} (ha : a < T) : q_ht S T l a w = q_ht S T l (a + 1) (q_fo S (a + 1) (q_by S none (a + 1)) w (q_cg S (a + 1))) := by
  unfold q_ht
  rw [show T - a = (T - (a + 1)) + 1 by omega, q_ru_sh]
theorem q_or_cong {p q : Nat → Bool} : ∀ n, (∀ k, k < n → p k = q k) → q_or p n = q_or q n
  | 0, _ => rfl
  | n + 1, h => by unfold q_or; rw [q_or_cong n (fun k hk => h k (by omega)), h n (by omega)]
theorem q_nb_cong {p q : Nat → Bool} : ∀ n, (∀ k, k < n → p k = q k) → q_nb p n = q_nb q n
  | 0, _ => rfl
  | n + 1, h => by unfold q_nb; rw [q_nb_cong n (fun k hk => h k (by omega)), h n (by omega)]
theorem q_ff_cong {p q : Nat → Bool} : ∀ n, (∀ k, k < n → p k = q k) → q_ff p n = q_ff q n
  | 0, _ => rfl
  | n + 1, h => by unfold q_ff; rw [q_ff_cong n (fun k hk => h k (by omega)), h n (by omega)]
theorem q_tb_0 {h : Nat} (hh : h < 32) : q_tb (nI 0) h = false := by rw [q_tb_bt _ hh, b_n0]
theorem q_tb_qor (p : Nat → Bool) {w : Nat} (hw : w < 32) : ∀ n, n ≤ 32 → q_tb (q_or p n) w = (decide (w < n) && p w)
  | 0, _ => by rw [q_or, q_tb_0 hw]; simp
  | n + 1, hn => by
    have ih := q_tb_qor p hw n (by omega)
    unfold q_or
    by_cases c : p n = true
    · rw [if_pos c, q_tb_or _ _ hw, ih, q_tb_sl (by omega) hw]
      rcases Nat.lt_trichotomy w n with q | q | q
      · simp [q, show w < n + 1 by omega, show ¬ w = n by omega]
      · subst q; simp [c]
      · simp [show ¬ w < n by omega, show ¬ w < n + 1 by omega, show ¬ w = n by omega]
    · rw [if_neg c, ih]
      rcases Nat.lt_trichotomy w n with q | q | q
      · simp [q, show w < n + 1 by omega]
      · subst q; simp [c]
      · simp [show ¬ w < n by omega, show ¬ w < n + 1 by omega]
theorem b_sl {k i : Nat} (hk : k < 32) (hi : i < 32) : bt (ph_shl (nI 1) (nI k)) i = decide (i = k) := by rw [← q_tb_bt _ hi, q_tb_sl hk hi]
theorem b_andsl (x : Int32) {k : Nat} (hk : k < 32) : x &&& ph_shl (nI 1) (nI k) = nI 0 ↔ q_tb x k = false := by
  rw [q_tb_bt _ hk]
  constructor
  · intro e
    have h1 : bt (x &&& ph_shl (nI 1) (nI k)) k = bt (nI 0) k := by rw [e]
    rw [b_and, b_n0, b_sl hk hk] at h1
    simpa using h1
  · intro e
    apply b_ext
    intro i hi
    rw [b_and, b_n0, b_sl hk hi]
    by_cases c : i = k
    · rw [c, e]; rfl
    · simp [c]
theorem b_andsl' (x : Int32) {k : Nat} (hk : k < 32) : ph_shl (nI 1) (nI k) &&& x = nI 0 ↔ q_tb x k = false := by
  rw [Int32.and_comm, b_andsl x hk]
theorem q_bits (p : Nat → Bool) : ∀ k, ∃ n, n < 2 ^ k ∧ ∀ w, w < k → p w = n.testBit w
  | 0 => ⟨0, by simp, fun w hw => absurd hw (Nat.not_lt_zero w)⟩
  | k + 1 => by
    obtain ⟨n, h1, h2⟩ := q_bits p k
    have e2 : 2 ^ (k + 1) = 2 ^ k + 2 ^ k := by rw [Nat.pow_succ]; omega
    cases hp : p k with
    | false =>
      refine ⟨n, by omega, fun w hw => ?_⟩
      rcases Nat.lt_or_ge w k with q | q
      · exact h2 w q
      · rw [show w = k by omega, hp, Nat.testBit_lt_two_pow h1]
    | true =>
      refine ⟨2 ^ k + n, by omega, fun w hw => ?_⟩
      rcases Nat.lt_or_ge w k with q | q
      · rw [Nat.testBit_two_pow_add_gt q, h2 w q]
      · rw [show w = k by omega, hp, Nat.testBit_two_pow_add_eq, Nat.testBit_lt_two_pow h1]; rfl
def q_bc (x : Int32) : Int32 := match f_J6_bitCount_0f7a4 x (fun _ _ => 0, fun _ _ => 0) with
  | some r => r.1
  | none => 0
theorem q_bc_all : ∀ n, n < 256 → q_bc (q_or (fun w => n.testBit w) 8) = nI (q_nb (fun w => n.testBit w) 8) := by decide +kernel
theorem s_bitCount (p : Nat → Bool) (h : ph_Hp) : f_J6_bitCount_0f7a4 (q_or p 8) h = some (nI (q_nb p 8), h) := by
  obtain ⟨n, h1, h2⟩ := q_bits p 8
  have e1 : q_or p 8 = q_or (fun w => n.testBit w) 8 := q_or_cong 8 h2
  have e2 : q_nb p 8 = q_nb (fun w => n.testBit w) 8 := q_nb_cong 8 h2
  have h3 := q_bc_all n h1
  rw [e1, e2, ← h3]
  rfl
theorem q_or_0 {p : Nat → Bool} {n : Nat} (hn : n ≤ 32) : q_or p n = nI 0 ↔ ∀ w, w < n → p w = false := by
  constructor
  · intro e w hw
    have h1 := q_tb_qor p (w := w) (by omega) n hn
    rw [e, q_tb_0 (by omega)] at h1
    simpa [hw] using h1.symm
  · intro e
    have : ∀ m, m ≤ n → q_or p m = nI 0 := by
      intro m
      induction m with
      | zero => intro _; rfl
      | succ m ih =>
        intro hm
        unfold q_or
        rw [e m (by omega), ih (by omega)]
        rfl
    exact this n (Nat.le_refl n)
theorem s_lowest (p : Nat → Bool) (h : ph_Hp) (hp : q_ff p 8 < 8) : f_X8_lowestBit (q_or p 8) h = some (nI (q_ff p 8), h) := by
  unfold f_X8_lowestBit
  refine lp_for (st := fun i => (nI i, h)) (q_ff p 8) (by omega) rfl (fun rec i hi => ?_) (fun rec => ?_)
  · have h1 := q_ff_no p 8 i hi
    dsimp only
    simp (disch := omega) only [i_lt_f, i_lt_t, i_le_f, i_le_t, i_eq_f, i_eq_t, i_m1_lt, i_eqm_f, i_meq_f, i_mm_t, i_mle_t, i_nle_m, rz_0, rz_1, if_true, if_false, cl_some, ldI_at, ldJ_at, stI_at, stZ_at, stJ_at, pfI_at, pfJ_at, jn_at, dvI_at, rmI_at, irem_at, nI_add, pk_mul, pk_sub, n_dec, n_sub1]
    rw [s_bitN h (by omega), cl_some, if_pos ((b_andsl _ (by omega)).mpr (by rw [q_tb_qor p (by omega) 8 (by decide), h1]; simp))]
  · have h1 := q_ff_yes p 8 hp
    dsimp only
    simp (disch := omega) only [i_lt_f, i_lt_t, i_le_f, i_le_t, i_eq_f, i_eq_t, i_m1_lt, i_eqm_f, i_meq_f, i_mm_t, i_mle_t, i_nle_m, rz_0, rz_1, if_true, if_false, cl_some, ldI_at, ldJ_at, stI_at, stZ_at, stJ_at, pfI_at, pfJ_at, jn_at, dvI_at, rmI_at, irem_at, nI_add, pk_mul, pk_sub, n_dec, n_sub1]
    rw [s_bitN h hp, cl_some, if_neg (fun z => by
      have := (b_andsl _ (by omega)).mp z
      rw [q_tb_qor p (by omega) 8 (by decide), h1] at this
      simp [hp] at this)]
theorem q_or_t {p : Nat → Bool} {n : Nat} (h : p n = true) : q_or p (n + 1) = q_or p n ||| ph_shl (nI 1) (nI n) := by
  show (if p n then _ else _) = _
  rw [if_pos h]
theorem q_or_f {p : Nat → Bool} {n : Nat} (h : p n = false) : q_or p (n + 1) = q_or p n := by
  show (if p n then _ else _) = _
  rw [h]; rfl
theorem n_and0 (x : Int32) : nI 0 &&& x = nI 0 := by
  apply b_ext
  intro i hi
  rw [b_and, b_n0]; rfl
def q_ld (S : q_S) (t : Nat) (x : Int32) (v : Nat) : Bool := decide (q_pl S ≠ 0) && q_tb x (q_fo S t (q_by S none t) v (q_cg S t))
theorem s_leading {S : q_S} {g : ph_Hp} (w : q_wf S) (st : q_St S g) {t : Nat} (ht : t < 40) (x : Int32) : f_X6_leadingInto (nI t) x g = some (q_or (q_ld S t x) 8, g) := by
  obtain ⟨ka, kb, kt, kc, kd⟩ := id st
  unfold f_X6_leadingInto
  rw [s_byIn g ht, cl_some, s_coughsIn g ht, cl_some, (kd t ht).1, (kc t ht).2.1]
  refine lp_for (st := fun i => (q_or (q_ld S t x) i, nI i, g)) 8 (by omega) rfl (fun rec i hi => ?_) (fun rec => ?_)
  · dsimp only
    simp (disch := omega) only [i_lt_f, i_lt_t, i_le_f, i_le_t, i_eq_f, i_eq_t, i_m1_lt, i_eqm_f, i_meq_f, i_mm_t, i_mle_t, i_nle_m, rz_0, rz_1, if_true, if_false, cl_some, ldI_at, ldJ_at, stI_at, stZ_at, stJ_at, pfI_at, pfJ_at, jn_at, dvI_at, rmI_at, irem_at, nI_add, pk_mul, pk_sub, n_dec, n_sub1]
    by_cases c : q_pl S = 0
    · have hf : f_X6_follow (nI t) (q_bv (q_by S none t)) (nI i) (q_cg S t) g = some ((-1), g) := by
        have hb : q_by S none t = none := by
          cases hb : q_by S none t with
          | none => rfl
          | some k => exact absurd c (q_by_pl hb).1
        unfold f_X6_follow
        simp (disch := omega) only [i_lt_f, i_lt_t, i_le_f, i_le_t, i_eq_f, i_eq_t, i_m1_lt, i_eqm_f, i_meq_f, i_mm_t, i_mle_t, i_nle_m, rz_0, rz_1, if_true, if_false, cl_some, ldI_at, ldJ_at, stI_at, stZ_at, stJ_at, pfI_at, pfJ_at, jn_at, dvI_at, rmI_at, irem_at, nI_add, pk_mul, pk_sub, n_dec, n_sub1]
        rw [(kc t ht).2.2]
        by_cases c1 : q_dk S t = true
        · rw [if_pos c1, if_neg (by decide), s_lineIn0 w ka.1 ka.2.2.1, cl_some, q_lv_0 c]
        · rw [if_neg c1, if_pos rfl, hb, show q_bv none = (-1) from rfl, if_pos rfl, s_nextTo g hi, cl_some, ka.2.2.2.1 i hi, q_lv_0 c]
      rw [hf, cl_some]
      unfold f_X8_bitOf
      rw [s_wm, cl_some, if_pos rfl, cl_some, if_pos (n_and0 x), q_or_f (by simp [q_ld, c])]
    · have hl : q_fo S t (q_by S none t) i (q_cg S t) < 8 := q_fo_lt c (fun h e => q_by_lt e) hi
      have hf : f_X6_follow (nI t) (q_bv (q_by S none t)) (nI i) (q_cg S t) g = some (nI (q_fo S t (q_by S none t) i (q_cg S t)), g) := by
        rw [← q_lv_1 c i, ← q_lv_1 c (q_fo S t (q_by S none t) i (q_cg S t))]
        exact s_follow w ka kt kc ht q_byok (fun _ => Or.inl hi) (Or.inr rfl)
      rw [hf, cl_some, s_bitN g hl, cl_some]
      by_cases c2 : q_tb x (q_fo S t (q_by S none t) i (q_cg S t)) = false
      · rw [if_pos ((b_andsl' _ (by omega)).mpr c2), q_or_f (by simp [q_ld, c2])]
      · rw [if_neg (fun z => c2 ((b_andsl' _ (by omega)).mp z)), q_or_t (by simp [q_ld, c, c2])]
  · dsimp only
    simp (disch := omega) only [i_lt_f, i_lt_t, i_le_f, i_le_t, i_eq_f, i_eq_t, i_m1_lt, i_eqm_f, i_meq_f, i_mm_t, i_mle_t, i_nle_m, rz_0, rz_1, if_true, if_false, cl_some, ldI_at, ldJ_at, stI_at, stZ_at, stJ_at, pfI_at, pfJ_at, jn_at, dvI_at, rmI_at, irem_at, nI_add, pk_mul, pk_sub, n_dec, n_sub1]
-- the hits in their order: place m stands for step f + m / 8 and line m % 8
def q_hh2 (S : q_S) (f T l m : Nat) : Bool := q_ht S T l (f + m / 8) (m % 8)
def q_bb (S : q_S) (f T l d : Nat) : Bool := !decide (q_nb (q_ht S T l (f + d)) 8 = 0)
def q_lb (f : Nat) (b : Nat → Bool) : Nat → Int32
  | 0 => (-1)
  | n + 1 => if b n then nI (f + n) else q_lb f b n
def q_pm (S : q_S) (f T l j : Nat) : Int32 :=
  if j = 0 then (if q_ff (q_hh2 S f T l) (8 * (T - f)) = 8 * (T - f) then (-1) else nI (8 * f + q_ff (q_hh2 S f T l) (8 * (T - f))))
  else if j = 1 then q_lb f (q_bb S f T l) (T - f) else nI (q_nb (q_hh2 S f T l) (8 * (T - f)))
def sp_prompt (S : q_S) (x1 x2 x3 x4 : Int32) : Int32 × q_S := match q_in x1 40, q_in x2 40, q_in x3 8, q_in x4 3 with
  | some f, some T, some l, some j => if 1 ≤ f ∧ f < T then (q_pm S f T l j, S) else ((-2), S)
  | _, _, _, _ => ((-2), S)
theorem q_hh2_at (S : q_S) (f T l : Nat) {d v : Nat} (hv : v < 8) : q_hh2 S f T l (8 * d + v) = q_ht S T l (f + d) v := by
  unfold q_hh2
  rw [show (8 * d + v) / 8 = d by omega, show (8 * d + v) % 8 = v by omega]
theorem q_nb_split (p : Nat → Bool) (m : Nat) : ∀ n, q_nb p (m + n) = q_nb p m + q_nb (fun k => p (m + k)) n
  | 0 => rfl
  | n + 1 => by
    have ih := q_nb_split p m n
    show q_nb p (m + n) + (if p (m + n) then 1 else 0) = q_nb p m + (q_nb (fun k => p (m + k)) n + (if p (m + n) then 1 else 0))
    rw [ih]
    omega
theorem q_nb_blk (S : q_S) (f T l d : Nat) : q_nb (q_hh2 S f T l) (8 * (d + 1)) = q_nb (q_hh2 S f T l) (8 * d) + q_nb (q_ht S T l (f + d)) 8 := by
  rw [show 8 * (d + 1) = 8 * d + 8 by omega, q_nb_split]
  congr 1
  exact q_nb_cong 8 (fun k hk => q_hh2_at S f T l hk)
theorem q_nb_mono (p : Nat → Bool) {m n : Nat} (h : m ≤ n) : q_nb p m ≤ q_nb p n := by
  obtain ⟨k, rfl⟩ : ∃ k, n = m + k := ⟨n - m, by omega⟩
  rw [q_nb_split]; omega
theorem q_lb_is (f : Nat) (b : Nat → Bool) : ∀ (D d : Nat), d < D → b d = true → (∀ e, d < e → e < D → b e = false) → q_lb f b D = nI (f + d)
  | 0, d, h, _, _ => absurd h (Nat.not_lt_zero d)
  | D + 1, d, h, h1, h2 => by
    unfold q_lb
    rcases Nat.lt_or_ge d D with q | q
    · rw [h2 D q (by omega)]
      exact q_lb_is f b D d q h1 (fun e g1 g2 => h2 e g1 (by omega))
    · have : d = D := by omega
      subst this
      rw [if_pos h1]
theorem q_lb_no (f : Nat) (b : Nat → Bool) : ∀ (D : Nat), (∀ e, e < D → b e = false) → q_lb f b D = (-1)
  | 0, _ => rfl
  | D + 1, h => by
    unfold q_lb
    rw [h D (by omega)]
    exact q_lb_no f b D (fun e he => h e (by omega))
theorem k_prompt (S : q_S) (h : ph_Hp) (K : CI S h) (x1 x2 x3 x4 : Int32) : ph_O (f_X8_prompt x1 x2 x3 x4 h) (Cq h (sp_prompt S x1 x2 x3 x4).1 (sp_prompt S x1 x2 x3 x4).2) := by
  have bad : sp_prompt S x1 x2 x3 x4 = ((-2), S) → ph_O (some (((-2) : Int32), h)) (Cq h (sp_prompt S x1 x2 x3 x4).1 (sp_prompt S x1 x2 x3 x4).2) := fun e => by
    rw [e]; exact O_ret ⟨rfl, K, q_aM_rf h⟩
  unfold f_X8_prompt
  by_cases c1 : x1 < nI 1
  · rw [if_pos c1]
    apply bad
    unfold sp_prompt
    rcases q_ins x1 40 (by decide) with ⟨e1, b1⟩ | ⟨f, hf, rfl, e1⟩
    · rw [e1]
    · rw [e1]
      have : f < 1 := (nI_ltI (by omega) (by omega)).mp c1
      split
      · next e2 e3 e4 e5 => cases e2; rw [if_neg (by omega)]
      · rfl
  rw [if_neg c1]
  rcases q_ins x2 40 (by decide) with ⟨e2, b2⟩ | ⟨T, hT, rfl, e2⟩
  · rw [s_wo h b2, cl_some, if_pos rfl]
    apply bad
    unfold sp_prompt
    rw [e2]
    split
    · next q1 q2 q3 q4 => cases q2
    · rfl
  rw [s_wi h hT (by decide), cl_some, if_neg (by decide)]
  by_cases c2 : x1 < nI T
  · rw [if_pos c2]
    obtain ⟨f, hf, rfl⟩ : ∃ f, f < T ∧ x1 = nI f := by
      rcases n_ix x1 T (by omega) with (q | q) | ⟨f, q1, q2⟩
      · exact absurd (Int32.lt_trans q (by decide)) c1
      · exact absurd c2 (by rw [Int32.not_lt]; exact q)
      · exact ⟨f, q1, q2⟩
    have hf1 : 1 ≤ f := by
      rcases Nat.lt_or_ge f 1 with q | q
      · exact absurd (nI_lt q (by decide)) c1
      · exact q
    have e1 : q_in (nI f) 40 = some f := by
      rcases q_ins (nI f) 40 (by decide) with ⟨e1, b1⟩ | ⟨f2, hf2, e, e1⟩
      · rcases b1 with b1 | b1
        · exact absurd b1 (n_pos (by omega))
        · exact absurd b1 (nI_ge (by omega) (by decide))
      · rw [(nI_eq (by omega) (by omega)).mp e]
        rw [← (nI_eq (a := f) (b := f2) (by omega) (by omega)).mp e] at e1 ⊢
        exact e1
    rcases q_ins x3 8 (by decide) with ⟨e3, b3⟩ | ⟨l, hl, rfl, e3⟩
    · rw [s_wo h b3, cl_some, if_pos rfl]
      apply bad
      unfold sp_prompt
      rw [e1, e2, e3]
    rw [s_wi h hl (by decide), cl_some, if_neg (by decide)]
    rcases q_ins x4 3 (by decide) with ⟨e4, b4⟩ | ⟨j, hj, rfl, e4⟩
    · rw [s_wo h b4, cl_some, if_pos rfl]
      apply bad
      unfold sp_prompt
      rw [e1, e2, e3, e4]
    rw [s_wi h hj (by decide), cl_some, if_neg (by decide)]
    have esp : sp_prompt S (nI f) (nI T) (nI l) (nI j) = (q_pm S f T l j, S) := by
      unfold sp_prompt
      rw [e1, e2, e3, e4]
      show (if 1 ≤ f ∧ f < T then _ else _) = _
      rw [if_pos ⟨hf1, hf⟩]
    rw [esp]
    dsimp only
    refine O_cl (s_staged K) (fun _ g ⟨K1, st, k7, am, ag⟩ => ?_)
    rw [s_bitN g hl, cl_some]
    have hD : T - f ≤ 40 := by omega
    refine O_for (T - f) (fun i y => y.2.2.2.2.1 = nI (T - i) - nI 1 ∧ y.2.2.2.2.2 = g ∧ (i = 0 → y.2.2.2.1 = ph_shl (nI 1) (nI l)) ∧ (0 < i → y.2.2.2.1 = q_or (q_ht S T l (T - i)) 8)
      ∧ y.2.2.1 = nI (q_nb (q_hh2 S f T l) (8 * (T - f)) - q_nb (q_hh2 S f T l) (8 * (T - f - i)))
      ∧ ((y.1 = (-1) ∧ y.2.1 = (-1) ∧ (∀ m, 8 * (T - f - i) ≤ m → m < 8 * (T - f) → q_hh2 S f T l m = false) ∧ ∀ d, T - f - i ≤ d → d < T - f → q_bb S f T l d = false)
        ∨ ∃ m0 d0, y.1 = nI (8 * f + m0) ∧ y.2.1 = nI (f + d0) ∧ 8 * (T - f - i) ≤ m0 ∧ m0 < 8 * (T - f) ∧ q_hh2 S f T l m0 = true ∧ (∀ m, 8 * (T - f - i) ≤ m → m < m0 → q_hh2 S f T l m = false) ∧ T - f - i ≤ d0 ∧ d0 < T - f ∧ q_bb S f T l d0 = true ∧ ∀ d, d0 < d → d < T - f → q_bb S f T l d = false)) (by omega) ⟨rfl, rfl, fun _ => rfl, fun q => absurd q (Nat.lt_irrefl 0), by simp [nI], Or.inl ⟨rfl, rfl, fun m h1 h2 => by omega, fun d h1 h2 => by omega⟩⟩ ?_ ?_
    · rintro rec i ⟨a1, a2, a3, a4, a5, g1⟩ hi ⟨e5, eg, e40, e41, e3, e6⟩ hrec
      dsimp only at e5 eg e40 e41 e3 e6 ⊢
      subst eg
      obtain ⟨a, ha⟩ : ∃ a, T - i = a + 1 := ⟨T - i - 1, by omega⟩
      rw [ha, n_sub1] at e5
      subst e5
      have hfa : f ≤ a := by omega
      have hd : T - f - i = (a - f) + 1 := by omega
      have hd1 : T - f - (i + 1) = a - f := by omega
      have hT1 : T - (i + 1) = a := by omega
      have hfd : f + (a - f) = a := by omega
      simp (disch := omega) only [i_lt_f, i_lt_t, i_le_f, i_le_t, i_eq_f, i_eq_t, i_m1_lt, i_eqm_f, i_meq_f, i_mm_t, i_mle_t, i_nle_m, rz_0, rz_1, if_true, if_false, cl_some, ldI_at, ldJ_at, stI_at, stZ_at, stJ_at, pfI_at, pfJ_at, jn_at, dvI_at, rmI_at, irem_at, nI_add, pk_mul, pk_sub, n_dec, n_sub1]
      rw [s_leading K1.1 st (by omega), cl_some]
      have hor : q_or (q_ld S (a + 1) a4) 8 = q_or (q_ht S T l a) 8 := by
        refine q_or_cong 8 (fun v hv => ?_)
        rw [q_ht_sh (by omega)]
        unfold q_ld
        by_cases cp : q_pl S = 0
        · simp [cp, q_ht]
        · have hfo : q_fo S (a + 1) (q_by S none (a + 1)) v (q_cg S (a + 1)) < 8 := q_fo_lt cp (fun h e => q_by_lt e) hv
          by_cases ci : i = 0
          · rw [e40 ci, q_tb_sl (by omega) (by omega)]
            unfold q_ht
            rw [show T - (a + 1) = 0 by omega]
            rfl
          · rw [e41 (by omega), ha, q_tb_qor _ (by omega) 8 (by decide)]
            simp [cp, hfo]
      rw [hor]
      have hblk := q_nb_blk S f T l (a - f)
      rw [hfd] at hblk
      have hle1 := q_nb_mono (q_hh2 S f T l) (show 8 * (a - f + 1) ≤ 8 * (T - f) by omega)
      have hle2 := q_nb_le (q_hh2 S f T l) (8 * (T - f))
      have hle3 := q_nb_le (q_ht S T l a) 8
      have hat : ∀ v, v < 8 → q_hh2 S f T l (8 * (a - f) + v) = q_ht S T l a v := fun v hv => by rw [q_hh2_at S f T l hv, hfd]
      by_cases cz : q_or (q_ht S T l a) 8 = nI 0
      · have hz := (q_or_0 (by decide)).mp cz
        have hz8 : q_nb (q_ht S T l a) 8 = 0 := q_nb_0.mpr hz
        have hbb : q_bb S f T l (a - f) = false := by unfold q_bb; rw [hfd, hz8]; rfl
        rw [if_pos cz]
        refine hrec _ ⟨by rw [hT1]; exact n_am1 _, rfl, fun q => by omega, fun _ => by rw [hT1], ?_, ?_⟩
        · rw [hd1, e3, hd]
          exact congrArg nI (by omega)
        · rw [hd1]
          rw [hd] at e6
          rcases e6 with ⟨f1, f2, f3, f4⟩ | ⟨m0, d0, f1, f2, f3, f4, f5, f6, f7, f8, f9, f10⟩
          · refine Or.inl ⟨f1, f2, fun m h1 h2 => ?_, fun d h1 h2 => ?_⟩
            · rcases Nat.lt_or_ge m (8 * (a - f + 1)) with q | q
              · obtain ⟨v, hv, rfl⟩ : ∃ v, v < 8 ∧ m = 8 * (a - f) + v := ⟨m - 8 * (a - f), by omega, by omega⟩
                rw [hat v hv]; exact hz v hv
              · exact f3 m q h2
            · rcases Nat.lt_or_ge d (a - f + 1) with q | q
              · rw [show d = a - f by omega]; exact hbb
              · exact f4 d q h2
          · refine Or.inr ⟨m0, d0, f1, f2, by omega, f4, f5, fun m h1 h2 => ?_, by omega, f8, f9, f10⟩
            rcases Nat.lt_or_ge m (8 * (a - f + 1)) with q | q
            · obtain ⟨v, hv, rfl⟩ : ∃ v, v < 8 ∧ m = 8 * (a - f) + v := ⟨m - 8 * (a - f), by omega, by omega⟩
              rw [hat v hv]; exact hz v hv
            · exact f6 m q h2
      · have hlt8 : q_ff (q_ht S T l a) 8 < 8 := by
          rcases Nat.lt_or_ge (q_ff (q_ht S T l a) 8) 8 with q | q
          · exact q
          · have hl8 := q_ff_le (q_ht S T l a) 8
            exact absurd ((q_or_0 (by decide)).mpr (q_ff_all.mp (by omega))) cz
        have hyes := q_ff_yes (q_ht S T l a) 8 hlt8
        have hbb : q_bb S f T l (a - f) = true := by
          unfold q_bb
          rw [hfd]
          have : q_nb (q_ht S T l a) 8 ≠ 0 := fun z => by
            have := q_nb_0.mp z _ hlt8
            rw [hyes] at this; cases this
          simp [this]
        have hmin : ∀ m, 8 * (a - f) ≤ m → m < 8 * (a - f) + q_ff (q_ht S T l a) 8 → q_hh2 S f T l m = false := fun m h1 h2 => by
          obtain ⟨v, hv, rfl⟩ : ∃ v, v < q_ff (q_ht S T l a) 8 ∧ m = 8 * (a - f) + v := ⟨m - 8 * (a - f), by omega, by omega⟩
          rw [hat v (by omega)]
          exact q_ff_no _ 8 v hv
        have hhit : q_hh2 S f T l (8 * (a - f) + q_ff (q_ht S T l a) 8) = true := by rw [hat _ hlt8]; exact hyes
        rw [if_neg cz, s_lowest _ _ hlt8, cl_some, s_bitCount, cl_some]
        generalize q_ff (q_ht S T l a) 8 = w0 at hlt8 hyes hmin hhit ⊢
        refine hrec _ ⟨by rw [hT1]; exact n_am1 _, rfl, fun q => by omega, fun _ => by rw [hT1], ?_, ?_⟩
        · dsimp only
          rw [hd1, e3, hd, nI_add]
          exact congrArg nI (by omega)
        · rw [hd1]
          rw [hd] at e6
          dsimp only
          rcases e6 with ⟨f1, f2, f3, f4⟩ | ⟨m0, d0, f1, f2, f3, f4, f5, f6, f7, f8, f9, f10⟩
          · refine Or.inr ⟨8 * (a - f) + w0, a - f, ?_, ?_, by omega, by omega, hhit, hmin, by omega, by omega, hbb, fun d h1 h2 => f4 d (by omega) h2⟩
            · (try rw [pk_mul]); rw [nI_add]; exact congrArg nI (by omega)
            · rw [f2, if_pos (by
                rw [Int32.lt_iff_toInt_lt, nI_toInt (by omega)]
                have : (-1 : Int32).toInt = -1 := by decide
                omega), hfd]
          · refine Or.inr ⟨8 * (a - f) + w0, d0, ?_, ?_, by omega, by omega, hhit, hmin, by omega, f8, f9, f10⟩
            · (try rw [pk_mul]); rw [nI_add]; exact congrArg nI (by omega)
            · rw [f2, if_neg (nI_nlt (by omega) (by omega))]
    · rintro rec ⟨a1, a2, a3, a4, a5, g1⟩ ⟨e5, eg, e40, e41, e3, e6⟩
      dsimp only at e5 eg e40 e41 e3 e6 ⊢
      subst eg
      have hle2 := q_nb_le (q_hh2 S f T l) (8 * (T - f))
      rw [show T - (T - f) = (f - 1) + 1 by omega, n_sub1] at e5
      subst e5
      rw [if_pos (nI_lt (by omega) (by omega))]
      rw [show T - f - (T - f) = 0 by omega] at e3 e6
      have e3 : a3 = nI (q_nb (q_hh2 S f T l) (8 * (T - f))) := by rw [e3]; rfl
      unfold q_pm
      rcases (show j = 0 ∨ j = 1 ∨ j = 2 by omega) with rfl | rfl | rfl
      · rw [if_pos rfl, if_pos rfl]
        refine O_ret ⟨?_, K1, am⟩
        rcases e6 with ⟨f1, f2, f3, f4⟩ | ⟨m0, d0, f1, f2, f3, f4, f5, f6, f7, f8, f9, f10⟩
        · rw [if_pos (q_ff_all.mpr (fun k hk => f3 k (by omega) hk)), f1]
        · rw [q_ff_is f4 f5 (fun k hk => f6 k (by omega) hk), if_neg (by omega), f1]
      · rw [if_neg (by decide), if_pos rfl, if_neg (by decide), if_pos rfl]
        refine O_ret ⟨?_, K1, am⟩
        rcases e6 with ⟨f1, f2, f3, f4⟩ | ⟨m0, d0, f1, f2, f3, f4, f5, f6, f7, f8, f9, f10⟩
        · rw [q_lb_no f _ _ (fun e he => f4 e (by omega) he), f2]
        · rw [q_lb_is f _ _ d0 f8 f9 f10, f2]
      · rw [if_neg (by decide), if_neg (by decide), if_neg (by decide), if_neg (by decide), e3]
        exact O_ret ⟨rfl, K1, am⟩
  · rw [if_neg c2]
    apply bad
    unfold sp_prompt
    rcases q_ins x1 40 (by decide) with ⟨e1, b1⟩ | ⟨f, hf, rfl, e1⟩
    · rw [e1]
    · rw [e1, e2]
      have : ¬ f < T := fun z => c2 (nI_lt z (by omega))
      split
      · next q1 q2 q3 q4 => cases q1; cases q2; rw [if_neg (by omega)]
      · rfl
