-- longs
theorem l_and (a b : Nat) : lN a &&& lN b = lN (a &&& b) := by
  apply Int64.toBitVec_inj.1
  show BitVec.ofNat 64 a &&& BitVec.ofNat 64 b = BitVec.ofNat 64 (a &&& b)
  apply BitVec.eq_of_getLsbD_eq
  intro i hi
  simp [hi]
theorem l_and1 (a : Nat) : lN a &&& lN 1 = lN (a % 2) := by rw [l_and, Nat.and_one_is_mod]
theorem lg_cmp0 (x y : Int64) : lg_cmp x y = nI 0 ↔ x = y := by
  unfold lg_cmp
  by_cases c1 : x > y
  · rw [if_pos c1]
    constructor
    · intro e; exact absurd e (by decide)
    · intro e; rw [e] at c1; exact absurd c1 (Int64.lt_irrefl)
  · rw [if_neg c1]
    by_cases c2 : x = y
    · rw [if_pos c2]; exact ⟨fun _ => c2, fun _ => rfl⟩
    · rw [if_neg c2]
      constructor
      · intro e; exact absurd e (by decide)
      · intro e; exact absurd e c2
def q_sm (f : Nat → Nat) : Nat → Nat
  | 0 => 0
  | n + 1 => q_sm f n + f n
theorem q_sm_s (f : Nat → Nat) (n : Nat) : q_sm f (n + 1) = q_sm f n + f n := rfl
theorem q_sm_cong {f g : Nat → Nat} : ∀ n, (∀ k, k < n → f k = g k) → q_sm f n = q_sm g n
  | 0, _ => rfl
  | n + 1, h => by unfold q_sm; rw [q_sm_cong n (fun k hk => h k (by omega)), h n (by omega)]
theorem q_sm_add (f g : Nat → Nat) : ∀ n, q_sm (fun k => f k + g k) n = q_sm f n + q_sm g n
  | 0 => rfl
  | n + 1 => by unfold q_sm; rw [q_sm_add f g n]; omega
theorem q_sm_mul (c : Nat) (f : Nat → Nat) : ∀ n, q_sm (fun k => c * f k) n = c * q_sm f n
  | 0 => rfl
  | n + 1 => by unfold q_sm; rw [q_sm_mul c f n, Nat.mul_add]
theorem q_sm_0 {f : Nat → Nat} : ∀ n, (∀ k, k < n → f k = 0) → q_sm f n = 0
  | 0, _ => rfl
  | n + 1, h => by unfold q_sm; rw [q_sm_0 n (fun k hk => h k (by omega)), h n (by omega)]
theorem q_sm_1 (x : Nat) : ∀ n, q_sm (fun l => if x = l then 1 else 0) n = if x < n then 1 else 0
  | 0 => rfl
  | n + 1 => by
    unfold q_sm
    rw [q_sm_1 x n]
    by_cases c1 : x < n
    · rw [if_pos c1, if_neg (by omega), if_pos (by omega)]
    · by_cases c2 : x = n
      · rw [if_neg c1, if_pos c2, if_pos (by omega)]
      · rw [if_neg c1, if_neg c2, if_neg (by omega)]
theorem q_sm_sw (f : Nat → Nat → Nat) (m : Nat) : ∀ n, q_sm (fun i => q_sm (fun j => f i j) m) n = q_sm (fun j => q_sm (fun i => f i j) n) m
  | 0 => by rw [q_sm_0 (f := fun j => q_sm (fun i => f i j) 0) m (fun k _ => rfl)]; rfl
  | n + 1 => by
    rw [q_sm, q_sm_sw f m n, ← q_sm_add]
    rfl
-- how a hole slips
def q_d0 (S : q_S) (k t : Nat) : Int32 := q_cg S t &&& (ph_shl (nI 1) (nI k) ^^^ (-1))
def q_d1 (S : q_S) (k t : Nat) : Int32 := q_d0 S k t ||| ph_shl (nI 1) (nI k)
def q_f (S : q_S) (t l : Nat) (c : Int32) : Nat := q_fo S t (q_by S none t) l c
def q_g (S : q_S) (k c t i l : Nat) : Nat := (if q_f S t i (q_d0 S k t) = l then 16 - c else 0) + (if q_f S t i (q_d1 S k t) = l then c else 0)
def q_Wy (S : q_S) (k c : Nat) : Nat → Nat → Nat
  | 0 => fun l => if q_pl S ≠ 0 ∧ q_pv S 0 = l then 1 else 0
  | t + 1 => fun l => q_sm (fun i => q_Wy S k c t i * q_g S k c (t + 1) i l) 8
theorem q_Wy_sum (S : q_S) (k : Nat) {c : Nat} (hc : c ≤ 16) : ∀ t, q_sm (q_Wy S k c t) 8 ≤ 16 ^ t
  | 0 => by
    unfold q_Wy
    by_cases hp : q_pl S = 0
    · rw [q_sm_0 8 (fun l _ => if_neg (fun z => z.1 hp))]; exact Nat.zero_le _
    · have : (fun l => if q_pl S ≠ 0 ∧ q_pv S 0 = l then 1 else 0) = (fun l => if q_pv S 0 = l then 1 else 0) := by
        funext l; simp [hp]
      rw [this, q_sm_1]
      split <;> simp
  | t + 1 => by
    have ih := q_Wy_sum S k hc t
    have e : q_sm (q_Wy S k c (t + 1)) 8 = q_sm (fun i => q_Wy S k c t i * q_sm (fun l => q_g S k c (t + 1) i l) 8) 8 := by
      show q_sm (fun l => q_sm (fun i => q_Wy S k c t i * q_g S k c (t + 1) i l) 8) 8 = _
      rw [q_sm_sw (fun l i => q_Wy S k c t i * q_g S k c (t + 1) i l) 8 8]
      refine q_sm_cong 8 (fun i _ => ?_)
      rw [q_sm_mul]
    have hg : ∀ i, q_sm (fun l => q_g S k c (t + 1) i l) 8 ≤ 16 := by
      intro i
      unfold q_g
      rw [q_sm_add]
      have h1 : ∀ (x a : Nat), q_sm (fun l => if x = l then a else 0) 8 ≤ a := by
        intro x a
        have e1 : (fun l => if x = l then a else 0) = (fun l => a * (if x = l then 1 else 0)) := by funext l; split <;> simp
        rw [e1, q_sm_mul, q_sm_1]
        split <;> simp
      have := h1 (q_f S (t + 1) i (q_d0 S k (t + 1))) (16 - c)
      have := h1 (q_f S (t + 1) i (q_d1 S k (t + 1))) c
      omega
    have hle : ∀ n, q_sm (fun i => q_Wy S k c t i * q_sm (fun l => q_g S k c (t + 1) i l) 8) n ≤ 16 * q_sm (q_Wy S k c t) n := by
      intro n
      induction n with
      | zero => exact Nat.zero_le _
      | succ n ihn =>
        have := Nat.mul_le_mul (Nat.le_refl (q_Wy S k c t n)) (hg n)
        show q_sm (fun i => q_Wy S k c t i * q_sm (fun l => q_g S k c (t + 1) i l) 8) n + q_Wy S k c t n * q_sm (fun l => q_g S k c (t + 1) n l) 8 ≤ 16 * (q_sm (q_Wy S k c t) n + q_Wy S k c t n)
        rw [Nat.mul_add]
        omega
    rw [e]
    have := hle 8
    rw [Nat.pow_succ]
    omega
theorem q_sm_le {f : Nat → Nat} : ∀ {n k : Nat}, k < n → f k ≤ q_sm f n
  | 0, k, h => absurd h (Nat.not_lt_zero k)
  | n + 1, k, h => by
    unfold q_sm
    rcases Nat.lt_or_ge k n with q | q
    · have := q_sm_le (f := f) q; omega
    · have : k = n := by omega
      subst this; omega
theorem q_Wy_le (S : q_S) (k : Nat) {c l : Nat} (hc : c ≤ 16) (hl : l < 8) (t : Nat) : q_Wy S k c t l ≤ 16 ^ t := Nat.le_trans (q_sm_le hl) (q_Wy_sum S k hc t)
theorem q_sm_mono {f : Nat → Nat} {m n : Nat} (h : m ≤ n) : q_sm f m ≤ q_sm f n := by
  induction n with
  | zero => rw [show m = 0 by omega]; exact Nat.le_refl _
  | succ n ih =>
    rcases Nat.lt_or_ge m (n + 1) with q | q
    · have := ih (by omega)
      rw [q_sm_s]; omega
    · rw [show m = n + 1 by omega]; exact Nat.le_refl _
-- the class: chances
theorem s_put {h : ph_Hp} {l : Nat} {F : Nat → Nat} (hl : l < 8) (e : ∀ i, i < 8 → h.2 43 i = lN (F i)) (m : Nat) : f_X0_put (nI l) (lN m) h = some ((), ph_sJ h 43 l (lN (F l + m))) := by
  unfold f_X0_put
  rw [s_wi h hl (by decide), cl_some]
  simp (disch := omega) only [i_lt_f, i_lt_t, i_le_f, i_le_t, i_eq_f, i_eq_t, i_m1_lt, i_eqm_f, i_meq_f, i_mm_t, i_mle_t, i_nle_m, rz_0, rz_1, if_true, if_false, cl_some, ldI_at, ldJ_at, stI_at, stZ_at, stJ_at, pfI_at, pfJ_at, jn_at, dvI_at, rmI_at, irem_at, nI_add, pk_mul, pk_sub, n_dec, n_sub1]
  rw [e l hl, lN_add]
def q_Y (S : q_S) (k c t : Nat) (h : ph_Hp) : Prop := (∀ l, l < 8 → h.2 43 l = lN (q_Wy S k c t l)) ∧ h.2 42 2 = lN (16 ^ t)
theorem s_begin {S : q_S} {h : ph_Hp} (hv : q_pl S ≠ 0 → q_pv S 0 < 8) (k c : Nat) : ph_O (f_X0_begin (q_lv S (q_pv S 0)) h) (fun _ g => q_Y S k c 0 g ∧ q_ag [41, 42, 43, 44, 45, 46] h g) := by
  unfold f_X0_begin
  refine O_for 8 (fun i y => y.1 = nI i ∧ (∀ l, l < i → y.2.2 43 l = lN (q_Wy S k c 0 l)) ∧ q_ag [41, 42, 43, 44, 45, 46] h y.2) (by omega) ⟨rfl, fun k hk => absurd hk (Nat.not_lt_zero k), q_ag_rf _ h⟩ ?_ ?_
  · rintro rec i ⟨x, g⟩ hi ⟨ex, f1, f2⟩ hrec
    dsimp only at ex f1 f2 ⊢
    subst ex
    have fin : ∀ z : Int64, z = lN (q_Wy S k c 0 i) → ph_O (rec (nI (i + 1), ph_sJ g 43 i z)) (fun _ g => q_Y S k c 0 g ∧ q_ag [41, 42, 43, 44, 45, 46] h g) := by
      intro z hz
      refine hrec _ ⟨rfl, fun l hl => ?_, q_ag_sJ f2 (by decide)⟩
      dsimp only
      rw [sJ_eq]
      by_cases q : l = i
      · rw [if_pos q, hz, q]
      · rw [if_neg q]; exact f1 l (by omega)
    simp (disch := omega) only [i_lt_f, i_lt_t, i_le_f, i_le_t, i_eq_f, i_eq_t, i_m1_lt, i_eqm_f, i_meq_f, i_mm_t, i_mle_t, i_nle_m, rz_0, rz_1, if_true, if_false, cl_some, ldI_at, ldJ_at, stI_at, stZ_at, stJ_at, pfI_at, pfJ_at, jn_at, dvI_at, rmI_at, irem_at, nI_add, pk_mul, pk_sub, n_dec, n_sub1]
    by_cases cp : q_pl S = 0
    · rw [q_lv_0 cp, if_neg (n_ne1 (by omega))]
      exact fin _ (by unfold q_Wy; rw [if_neg (fun z => z.1 cp)])
    · have := hv cp
      rw [q_lv_1 cp]
      by_cases q : i = q_pv S 0
      · rw [if_pos (by rw [q])]
        exact fin _ (by unfold q_Wy; rw [if_pos ⟨cp, q.symm⟩])
      · rw [if_neg (by rw [nI_eq (by omega) (by omega)]; exact q)]
        exact fin _ (by unfold q_Wy; rw [if_neg (fun z => q z.2.symm)])
  · rintro rec ⟨x, g⟩ ⟨ex, f1, f2⟩
    dsimp only at ex f1 f2 ⊢
    subst ex
    simp (disch := omega) only [i_lt_f, i_lt_t, i_le_f, i_le_t, i_eq_f, i_eq_t, i_m1_lt, i_eqm_f, i_meq_f, i_mm_t, i_mle_t, i_nle_m, rz_0, rz_1, if_true, if_false, cl_some, ldI_at, ldJ_at, stI_at, stZ_at, stJ_at, pfI_at, pfJ_at, jn_at, dvI_at, rmI_at, irem_at, nI_add, pk_mul, pk_sub, n_dec, n_sub1]
    refine O_ret ⟨⟨fun l hl => ?_, by rw [sJ_eq, if_pos rfl]⟩, q_ag_sJ f2 (by decide)⟩
    rw [sJ_ne _ _ _ (by decide)]
    exact f1 l hl
theorem q_16 {c : Nat} (hc : c ≤ 16) : (nI 16 - nI c).toInt64 = lN (16 - c) := by rw [pk_sub hc, nI_l (by omega)]
theorem s_goOn {S : q_S} {g : ph_Hp} (w : q_wf S) (st : q_St S g) {k c t : Nat} (hk : k < 9) (hc : c ≤ 16) (h9 : t + 1 ≤ 9) (Y : q_Y S k c t g) : ph_O (f_X0_goOn (nI (t + 1)) (nI k) (nI c) g) (fun _ g2 => q_Y S k c (t + 1) g2 ∧ q_ag [41, 42, 43, 44, 45, 46] g g2) := by
  obtain ⟨ka, kb, kt, kc, kd⟩ := id st
  have ht : t + 1 < 40 := by omega
  have keep : ∀ g2 : ph_Hp, q_ag [41, 42, 43, 44, 45, 46] g g2 → q_St S g2 := fun g2 ag => St_sc st ag
  unfold f_X0_goOn
  refine O_for 8 (fun i y => y.1 = nI i ∧ (∀ l, l < i → y.2.2 43 l = lN 0 ∧ y.2.2 44 l = lN (q_Wy S k c t l)) ∧ (∀ l, i ≤ l → l < 8 → y.2.2 43 l = lN (q_Wy S k c t l)) ∧ y.2.2 42 2 = lN (16 ^ t) ∧ q_ag [41, 42, 43, 44, 45, 46] g y.2) (by omega) ⟨rfl, fun k hk => absurd hk (Nat.not_lt_zero k), fun l _ hl => Y.1 l hl, Y.2, q_ag_rf _ g⟩ ?_ ?_
  · rintro rec i ⟨x, g1⟩ hi ⟨ex, f1, f2, f3, f4⟩ hrec
    dsimp only at ex f1 f2 f3 f4 ⊢
    subst ex
    simp (disch := omega) only [i_lt_f, i_lt_t, i_le_f, i_le_t, i_eq_f, i_eq_t, i_m1_lt, i_eqm_f, i_meq_f, i_mm_t, i_mle_t, i_nle_m, rz_0, rz_1, if_true, if_false, cl_some, ldI_at, ldJ_at, stI_at, stZ_at, stJ_at, pfI_at, pfJ_at, jn_at, dvI_at, rmI_at, irem_at, nI_add, pk_mul, pk_sub, n_dec, n_sub1]
    refine hrec _ ⟨rfl, fun l hl => ?_, fun l h1 h2 => ?_, by rw [sJ_ne _ _ _ (by decide), sJ_ne _ _ _ (by decide)]; exact f3, q_ag_sJ (q_ag_sJ f4 (by decide)) (by decide)⟩
    · dsimp only
      rw [sJ_eq, sJ_ne _ _ _ (show 43 ≠ 44 by decide), sJ_ne _ _ _ (show 44 ≠ 43 by decide), sJ_eq]
      by_cases q : l = i
      · rw [if_pos q, if_pos q, f2 i (Nat.le_refl i) hi, q]; exact ⟨rfl, rfl⟩
      · rw [if_neg q, if_neg q]; exact f1 l (by omega)
    · dsimp only
      rw [sJ_eq, if_neg (by omega), sJ_ne _ _ _ (show 43 ≠ 44 by decide)]
      exact f2 l (by omega) h2
  · rintro rec ⟨x, g1⟩ ⟨ex, f1, -, f3, f4⟩
    dsimp only at ex f1 f3 f4 ⊢
    subst ex
    have st1 := keep g1 f4
    simp (disch := omega) only [i_lt_f, i_lt_t, i_le_f, i_le_t, i_eq_f, i_eq_t, i_m1_lt, i_eqm_f, i_meq_f, i_mm_t, i_mle_t, i_nle_m, rz_0, rz_1, if_true, if_false, cl_some, ldI_at, ldJ_at, stI_at, stZ_at, stJ_at, pfI_at, pfJ_at, jn_at, dvI_at, rmI_at, irem_at, nI_add, pk_mul, pk_sub, n_dec, n_sub1]
    rw [s_coughsIn g1 ht, cl_some, s_byIn g1 ht, cl_some, (st1.2.2.2.2 _ ht).1, (st1.2.2.2.1 _ ht).2.1]
    refine O_for 8 (fun i y => y.1 = nI i ∧ (∀ l, l < 8 → y.2.2 43 l = lN (q_sm (fun j => q_Wy S k c t j * q_g S k c (t + 1) j l) i)) ∧ (∀ l, l < 8 → y.2.2 44 l = lN (q_Wy S k c t l)) ∧ y.2.2 42 2 = lN (16 ^ t) ∧ q_ag [41, 42, 43, 44, 45, 46] g y.2) (by omega) ⟨rfl, fun l hl => (f1 l hl).1, fun l hl => (f1 l hl).2, f3, f4⟩ ?_ ?_
    · rintro rec2 i ⟨x, g2⟩ hi ⟨ex, e1, e2, e3, e4⟩ hrec
      dsimp only at ex e1 e2 e3 e4 ⊢
      subst ex
      obtain ⟨ka, kb, kt, kc, kd⟩ := keep g2 e4
      simp (disch := omega) only [i_lt_f, i_lt_t, i_le_f, i_le_t, i_eq_f, i_eq_t, i_m1_lt, i_eqm_f, i_meq_f, i_mm_t, i_mle_t, i_nle_m, rz_0, rz_1, if_true, if_false, cl_some, ldI_at, ldJ_at, stI_at, stZ_at, stJ_at, pfI_at, pfJ_at, jn_at, dvI_at, rmI_at, irem_at, nI_add, pk_mul, pk_sub, n_dec, n_sub1]
      rw [e2 i hi]
      have hwle := q_Wy_le S k hc hi t
      have h16 : 16 ^ t ≤ 16 ^ 9 := Nat.pow_le_pow_right (by decide) (by omega)
      by_cases cz : q_Wy S k c t i = 0
      · rw [if_pos ((lg_cmp0 _ _).mpr (by rw [cz]))]
        refine hrec _ ⟨rfl, fun l hl => ?_, e2, e3, e4⟩
        rw [e1 l hl, q_sm_s]
        show _ = lN (_ + q_Wy S k c t i * _)
        rw [cz, Nat.zero_mul]; rfl
      · have hp : q_pl S ≠ 0 := by
          intro hp
          apply cz
          cases t with
          | zero => unfold q_Wy; rw [if_neg (fun z => z.1 hp)]
          | succ t =>
            have : ∀ t l, q_Wy S k c t l = 0 := by
              intro t
              induction t with
              | zero => intro l; unfold q_Wy; rw [if_neg (fun z => z.1 hp)]
              | succ t ih =>
                intro l
                unfold q_Wy
                exact q_sm_0 8 (fun j _ => by rw [ih j, Nat.zero_mul])
            exact this (t + 1) i
        rw [if_neg (fun z => by
          have h2 := (lg_cmp0 _ _).mp z
          exact cz ((pk_lEQ (by omega) (by decide)).mp h2))]
        have st2 := keep g2 e4
        have b0 : q_f S (t + 1) i (q_d0 S k (t + 1)) < 8 := q_fo_lt hp (fun h e => q_by_lt e) hi
        have b1 : q_f S (t + 1) i (q_d1 S k (t + 1)) < 8 := q_fo_lt hp (fun h e => q_by_lt e) hi
        have es : nI i = q_lv S i := (q_lv_1 hp i).symm
        have fo : ∀ (g3 : ph_Hp), q_ag [41, 42, 43, 44, 45, 46] g g3 → ∀ d : Int32, f_X6_follow (nI (t + 1)) (q_bv (q_by S none (t + 1))) (nI i) d g3 = some (nI (q_f S (t + 1) i d), g3) := by
          intro g3 ag d
          obtain ⟨ka, kb, kt, kc, kd⟩ := keep g3 ag
          rw [es, s_follow w ka kt kc ht q_byok (fun _ => Or.inl hi) (Or.inr rfl), q_lv_1 hp]
          rfl
        show ph_O (ph_cl (f_X6_follow (nI (t + 1)) (q_bv (q_by S none (t + 1))) (nI i) (q_d0 S k (t + 1)) g2) _) _
        rw [fo g2 e4, cl_some]
        try simp (disch := omega) only [ldJ_at]
        rw [e2 i hi, nI_l (show 16 - c < 2 ^ 31 by omega), lN_mul, s_put (F := fun l => q_sm (fun j => q_Wy S k c t j * q_g S k c (t + 1) j l) i) b0 e1, cl_some]
        have e4' : q_ag [41, 42, 43, 44, 45, 46] g (ph_sJ g2 43 (q_f S (t + 1) i (q_d0 S k (t + 1))) (lN (q_sm (fun j => q_Wy S k c t j * q_g S k c (t + 1) j (q_f S (t + 1) i (q_d0 S k (t + 1)))) i + q_Wy S k c t i * (16 - c)))) := q_ag_sJ e4 (by decide)
        show ph_O (ph_cl (f_X6_follow (nI (t + 1)) (q_bv (q_by S none (t + 1))) (nI i) (q_d1 S k (t + 1)) _) _) _
        rw [fo _ e4', cl_some]
        try simp (disch := omega) only [ldJ_at]
        rw [sJ_ne _ _ _ (show 44 ≠ 43 by decide), e2 i hi, nI_l (by omega), lN_mul, s_put (F := fun l => q_sm (fun j => q_Wy S k c t j * q_g S k c (t + 1) j l) i + (if q_f S (t + 1) i (q_d0 S k (t + 1)) = l then q_Wy S k c t i * (16 - c) else 0)) b1 (fun l hl => by
          rw [sJ_eq]
          by_cases q : l = q_f S (t + 1) i (q_d0 S k (t + 1))
          · rw [if_pos q, if_pos q.symm, q]
          · rw [if_neg q, if_neg (fun z => q z.symm), e1 l hl]; rfl), cl_some]
        refine hrec _ ⟨rfl, fun l hl => ?_, fun l hl => ?_, ?_, q_ag_sJ e4' (by decide)⟩
        · dsimp only
          rw [sJ_eq, q_sm_s]
          show _ = lN (_ + q_Wy S k c t i * q_g S k c (t + 1) i l)
          unfold q_g
          by_cases q : l = q_f S (t + 1) i (q_d1 S k (t + 1))
          · rw [if_pos q, if_pos (show q_f S (t + 1) i (q_d1 S k (t + 1)) = l from q.symm), Nat.mul_add]
            by_cases q2 : q_f S (t + 1) i (q_d0 S k (t + 1)) = l
            · rw [if_pos q2, if_pos (by rw [q2]; exact q), ← q]
              exact congrArg lN (Nat.add_assoc _ _ _)
            · rw [if_neg q2, if_neg (fun z => q2 (by rw [z]; exact q.symm)), ← q]
              exact congrArg lN (by omega)
          · rw [if_neg q, if_neg (show ¬ q_f S (t + 1) i (q_d1 S k (t + 1)) = l from fun z => q z.symm), sJ_eq]
            by_cases q2 : q_f S (t + 1) i (q_d0 S k (t + 1)) = l
            · rw [if_pos q2, if_pos q2.symm, q2]; rfl
            · rw [if_neg q2, if_neg (fun z => q2 z.symm), e1 l hl]; rfl
        · dsimp only
          rw [sJ_ne _ _ _ (show 44 ≠ 43 by decide), sJ_ne _ _ _ (show 44 ≠ 43 by decide)]; exact e2 l hl
        · dsimp only
          rw [sJ_ne _ _ _ (show 42 ≠ 43 by decide), sJ_ne _ _ _ (show 42 ≠ 43 by decide)]; exact e3
    · rintro rec2 ⟨x, g2⟩ ⟨ex, e1, e2, e3, e4⟩
      dsimp only at ex e1 e2 e3 e4 ⊢
      subst ex
      simp (disch := omega) only [i_lt_f, i_lt_t, i_le_f, i_le_t, i_eq_f, i_eq_t, i_m1_lt, i_eqm_f, i_meq_f, i_mm_t, i_mle_t, i_nle_m, rz_0, rz_1, if_true, if_false, cl_some, ldI_at, ldJ_at, stI_at, stZ_at, stJ_at, pfI_at, pfJ_at, jn_at, dvI_at, rmI_at, irem_at, nI_add, pk_mul, pk_sub, n_dec, n_sub1]
      refine O_ret ⟨⟨fun l hl => ?_, ?_⟩, q_ag_sJ e4 (by decide)⟩
      · rw [sJ_ne _ _ _ (by decide)]; exact e1 l hl
      · rw [sJ_eq, if_pos rfl, e3, lN_mul, Nat.pow_succ]
theorem l_ev {a : Nat} (ha : a < 2 ^ 63) : lg_cmp (lN a &&& lN 1) (lN 0) = nI 0 ↔ a % 2 = 0 := by rw [lg_cmp0, l_and1, pk_lEQ (by omega) (by decide)]
theorem q_cop {a p : Nat} (h : a % 2 = 1 ∨ p = 0) : Nat.gcd a (2 ^ p) = 1 := by
  rcases h with h | h
  · refine Nat.Coprime.pow_right p ?_
    show Nat.gcd a 2 = 1
    rw [Nat.gcd_comm, Nat.gcd_rec, h]
    rfl
  · rw [h]; exact Nat.gcd_one_right a
theorem q_red {a m p W : Nat} (e : W = a * 2 ^ m) (h : a % 2 = 1 ∨ p = 0) : a = W / Nat.gcd W (2 ^ (p + m)) ∧ 2 ^ p = 2 ^ (p + m) / Nat.gcd W (2 ^ (p + m)) := by
  have h0 : 0 < 2 ^ m := Nat.pow_pos (by decide)
  have hg : Nat.gcd W (2 ^ (p + m)) = 2 ^ m := by
    rw [e, Nat.pow_add, Nat.gcd_mul_right, q_cop h, Nat.one_mul]
  rw [hg, e, Nat.pow_add, Nat.mul_div_cancel _ h0, Nat.mul_div_cancel _ h0]
  exact ⟨rfl, rfl⟩
theorem s_halve {h : ph_Hp} {W p : Nat} (hp : p ≤ 36) (hW : W < 2 ^ 63) (e3 : h.2 42 3 = lN W) (e4 : h.2 42 4 = lN (2 ^ p)) {body : ((Int32 × ph_Hp) → Option (Unit × ph_Hp)) → (Int32 × ph_Hp) → Option (Unit × ph_Hp)}
    (hb : ∀ rec x g, body rec (x, g) = (if (nI 64) ≤ x then some ((), g) else if (lg_cmp ((g.2 42 3) &&& (lN 1)) (lN 0)) = nI 0 then (if (lg_cmp ((g.2 42 4) &&& (lN 1)) (lN 0)) = nI 0 then rec (x + nI 1, ph_sJ (ph_sJ g 42 3 ((g.2 42 3) / lN 2)) 42 4 ((g.2 42 4) / lN 2)) else some ((), g)) else some ((), g))) :
    ph_O (ph_lp body ph_fu (nI 0, h)) (fun _ g => g.2 42 3 = lN (W / Nat.gcd W (2 ^ p)) ∧ g.2 42 4 = lN (2 ^ p / Nat.gcd W (2 ^ p)) ∧ q_ag [41, 42, 43, 44, 45, 46] h g) := by
  refine O_for 64 (fun i y => y.1 = nI i ∧ (∃ a, i ≤ p ∧ W = a * 2 ^ i ∧ y.2.2 42 3 = lN a ∧ y.2.2 42 4 = lN (2 ^ (p - i))) ∧ q_ag [41, 42, 43, 44, 45, 46] h y.2) (by omega) ⟨rfl, ⟨W, Nat.zero_le p, by rw [Nat.pow_zero, Nat.mul_one], e3, e4⟩, q_ag_rf _ h⟩ ?_ ?_
  · rintro rec i ⟨x, g⟩ hi ⟨ex, ⟨a, f1, f2, f3, f4⟩, f5⟩ hrec
    dsimp only at ex f3 f4 f5 ⊢
    subst ex
    rw [hb, if_neg (nI_ge hi (by decide)), f3, f4]
    have h1 : 0 < 2 ^ i := Nat.pow_pos (by decide)
    have h2 : 2 ^ (p - i) ≤ 2 ^ 36 := Nat.pow_le_pow_right (by decide) (by omega)
    have h3 : a ≤ W := by rw [f2]; exact Nat.le_mul_of_pos_right a h1
    have done : a % 2 = 1 ∨ p - i = 0 → ph_O (some ((), g)) (fun _ g => g.2 42 3 = lN (W / Nat.gcd W (2 ^ p)) ∧ g.2 42 4 = lN (2 ^ p / Nat.gcd W (2 ^ p)) ∧ q_ag [41, 42, 43, 44, 45, 46] h g) := by
      intro hh
      have := q_red f2 hh
      rw [Nat.sub_add_cancel f1] at this
      exact O_ret ⟨by rw [f3, ← this.1], by rw [f4, ← this.2], f5⟩
    by_cases c1 : a % 2 = 0
    · rw [if_pos ((l_ev (by omega)).mpr c1)]
      by_cases c2 : p - i = 0
      · rw [if_neg (fun z => by
          have := (l_ev (by omega)).mp z
          rw [c2] at this; exact absurd this (by decide))]
        exact done (Or.inr c2)
      · obtain ⟨m, hm⟩ : ∃ m, p - i = m + 1 := ⟨p - i - 1, by omega⟩
        have h4 : 2 ^ (m + 1) = 2 ^ m * 2 := Nat.pow_succ 2 m
        rw [if_pos ((l_ev (by omega)).mpr (by rw [hm, h4]; exact Nat.mul_mod_left _ _))]
        refine hrec _ ⟨by rw [nI_add], ⟨a / 2, by omega, ?_, ?_, ?_⟩, q_ag_sJ (q_ag_sJ f5 (by decide)) (by decide)⟩
        · rw [Nat.pow_succ, Nat.mul_comm (2 ^ i) 2, ← Nat.mul_assoc, Nat.div_mul_cancel (Nat.dvd_of_mod_eq_zero c1)]; exact f2
        · dsimp only
          rw [sJ_eq, if_neg (by decide), sJ_eq, if_pos rfl, pk_lDiv (by omega) (by decide) (by decide)]
        · dsimp only
          rw [sJ_eq, if_pos rfl, pk_lDiv (by omega) (by decide) (by decide), hm, h4, Nat.mul_div_cancel _ (by decide), show p - (i + 1) = m by omega]
    · rw [if_neg (fun z => c1 ((l_ev (by omega)).mp z))]
      exact done (Or.inl (by omega))
  · rintro rec ⟨x, g⟩ ⟨ex, ⟨a, f1, f2, f3, f4⟩, f5⟩
    exact absurd f1 (by omega)
theorem s_reduce {h : ph_Hp} {l t W : Nat} (hl : l < 8) (e : h.2 43 l = lN W) (e2 : h.2 42 2 = lN (16 ^ t)) (hW : W ≤ 16 ^ t) (ht : t ≤ 9) : ph_O (f_X0_reduce (nI l) h) (fun _ g => g.2 42 3 = lN (W / Nat.gcd W (16 ^ t)) ∧ g.2 42 4 = lN (16 ^ t / Nat.gcd W (16 ^ t)) ∧ q_ag [41, 42, 43, 44, 45, 46] h g) := by
  have h16 : 16 ^ t ≤ 16 ^ 9 := Nat.pow_le_pow_right (by decide) ht
  have e16 : 16 ^ t = 2 ^ (4 * t) := by rw [Nat.pow_mul]
  have hpos : 0 < 16 ^ t := Nat.pow_pos (by decide)
  unfold f_X0_reduce
  rw [s_wi h hl (by decide), cl_some]
  simp (disch := omega) only [ldJ_at, jn_at, pfJ_at, i_eq_f, if_false]
  rw [e, sJ_eq, if_pos rfl]
  by_cases c : W = 0
  · rw [if_pos ((lg_cmp0 _ _).mpr (by rw [c]))]
    refine O_mono (s_halve (W := 0) (p := 0) (by decide) (by decide) (by rw [sJ_eq, if_neg (by decide), sJ_eq, if_pos rfl, c]) (by rw [sJ_eq, if_pos rfl]) (fun _ _ _ => rfl)) ?_
    rintro _ g ⟨f1, f2, f3⟩
    refine ⟨by rw [f1, c, Nat.zero_div, Nat.zero_div], ?_, ?_⟩
    · rw [f2, c, Nat.gcd_zero_left, Nat.gcd_zero_left, Nat.div_self hpos]
    · exact q_ag_tr (q_ag_sJ (q_ag_sJ (q_ag_rf _ h) (by decide)) (by decide)) f3
  · rw [if_neg (fun z => c ((pk_lEQ (by omega) (by decide)).mp ((lg_cmp0 _ _).mp z)))]
    refine O_mono (s_halve (W := W) (p := 4 * t) (by omega) (by omega) (by rw [sJ_eq, if_neg (by decide), sJ_eq, if_pos rfl]) (by rw [sJ_eq, if_pos rfl, sJ_eq, if_neg (by decide), e2, e16]) (fun _ _ _ => rfl)) ?_
    rintro _ g ⟨f1, f2, f3⟩
    rw [← e16] at f1 f2
    exact ⟨f1, f2, q_ag_tr (q_ag_sJ (q_ag_sJ (q_ag_rf _ h) (by decide)) (by decide)) f3⟩
def q_sl (S : q_S) (c k l t j : Nat) : Int64 := if j = 0 then lN (q_Wy S k c t l / Nat.gcd (q_Wy S k c t l) (16 ^ t)) else lN (16 ^ t / Nat.gcd (q_Wy S k c t l) (16 ^ t))
def sp_slips (S : q_S) (x1 x2 x3 x4 x5 : Int32) : Int64 × q_S := match q_in x1 17, q_in x2 (q_hn S), q_in x3 8, q_in x4 10, q_in x5 2 with
  | some c, some k, some l, some t, some j => if t = 0 then ((-9223372036854775806), S) else (q_sl S c k l t j, S)
  | _, _, _, _, _ => ((-9223372036854775806), S)
theorem k_slips (S : q_S) (h : ph_Hp) (K : CI S h) (x1 x2 x3 x4 x5 : Int32) : ph_O (f_X8_slips x1 x2 x3 x4 x5 h) (Cq h (sp_slips S x1 x2 x3 x4 x5).1 (sp_slips S x1 x2 x3 x4 x5).2) := by
  have hhn := q_hn_le K.1
  unfold f_X8_slips
  refine O_cl (s_staged K) (fun _ g ⟨K1, st, k7, am, ag⟩ => ?_)
  have bad : sp_slips S x1 x2 x3 x4 x5 = ((-9223372036854775806), S) → ph_O (some (((-9223372036854775806) : Int64), g)) (Cq h (sp_slips S x1 x2 x3 x4 x5).1 (sp_slips S x1 x2 x3 x4 x5).2) := fun e => by
    rw [e]; exact O_ret ⟨rfl, K1, am⟩
  rcases q_ins x1 17 (by decide) with ⟨e1, b1⟩ | ⟨c, hc, rfl, e1⟩
  · rw [s_wo g b1, cl_some, if_pos rfl]
    exact bad (by unfold sp_slips; rw [e1])
  rw [s_wi g hc (by decide), cl_some, if_neg (by decide), st.2.1.1]
  rcases q_ins x2 (q_hn S) (by omega) with ⟨e2, b2⟩ | ⟨k, hk, rfl, e2⟩
  · rw [s_wo g b2, cl_some, if_pos rfl]
    exact bad (by unfold sp_slips; rw [e1, e2])
  rw [s_wi g hk (by omega), cl_some, if_neg (by decide)]
  rcases q_ins x3 8 (by decide) with ⟨e3, b3⟩ | ⟨l, hl, rfl, e3⟩
  · rw [s_wo g b3, cl_some, if_pos rfl]
    exact bad (by unfold sp_slips; rw [e1, e2, e3])
  rw [s_wi g hl (by decide), cl_some, if_neg (by decide)]
  rcases q_ins x4 10 (by decide) with ⟨e4, b4⟩ | ⟨t, ht, rfl, e4⟩
  · have hb := bad (by unfold sp_slips; rw [e1, e2, e3, e4])
    rcases b4 with b4 | b4
    · rw [if_pos (Int32.lt_trans b4 (by decide))]; exact hb
    · rw [if_neg (fun z => absurd (Int32.lt_of_lt_of_le z (Int32.le_trans (by decide) b4)) Int32.lt_irrefl), if_pos (Int32.lt_of_lt_of_le (by decide) b4)]; exact hb
  rcases q_ins x5 2 (by decide) with ⟨e5, b5⟩ | ⟨j, hj, rfl, e5⟩
  · have hb := bad (by unfold sp_slips; rw [e1, e2, e3, e4, e5])
    by_cases ct : t = 0
    · rw [if_pos (by rw [ct]; decide)]; exact hb
    · rw [if_neg (nI_nlt (by omega) (by omega)), if_neg (nI_nlt (by omega) (by omega)), s_wo g b5, cl_some, if_pos rfl]; exact hb
  have esp : sp_slips S (nI c) (nI k) (nI l) (nI t) (nI j) = if t = 0 then ((-9223372036854775806), S) else (q_sl S c k l t j, S) := by
    unfold sp_slips
    rw [e1, e2, e3, e4, e5]
  by_cases ct : t = 0
  · rw [if_pos (by rw [ct]; decide)]
    exact bad (by rw [esp, if_pos ct])
  rw [if_neg (nI_nlt (by omega) (by omega)), if_neg (nI_nlt (by omega) (by omega)), s_wi g hj (by decide), cl_some, if_neg (by decide), esp, if_neg ct, s_playedIn g (by decide), cl_some, (st.2.2.2.2 0 (by decide)).2]
  dsimp only
  refine O_cl (s_begin (S := S) (fun hp => q_pv_lt (by omega)) k c) ?_
  rintro _ g1 ⟨Y1, ag1⟩
  refine O_for t (fun i y => y.1 = nI (i + 1) ∧ q_Y S k c i y.2 ∧ q_ag [41, 42, 43, 44, 45, 46] g y.2) (by omega) ⟨rfl, Y1, ag1⟩ ?_ ?_
  · rintro rec i ⟨x, g2⟩ hi ⟨ex, f1, f2⟩ hrec
    dsimp only at ex f1 f2 ⊢
    subst ex
    rw [if_neg (nI_nlt (by omega) (by omega))]
    refine O_cl (s_goOn K1.1 (St_sc st f2) (by omega) (by omega) (by omega) f1) ?_
    rintro _ g3 ⟨Y3, ag3⟩
    exact hrec _ ⟨nI_add _ _, Y3, q_ag_tr f2 ag3⟩
  · rintro rec ⟨x, g2⟩ ⟨ex, f1, f2⟩
    dsimp only at ex f1 f2 ⊢
    subst ex
    rw [if_pos (nI_lt (by omega) (by omega))]
    refine O_cl (s_reduce hl (f1.1 l hl) f1.2 (q_Wy_le S k (by omega) hl t) (by omega)) ?_
    rintro _ g3 ⟨r1, r2, r3⟩
    have agt := q_ag_tr f2 r3
    unfold q_sl
    by_cases cj : j = 0
    · rw [if_pos (by rw [cj]), if_pos cj]
      exact O_ret ⟨r1, CI_sc K1 agt, q_aM_tr am (aM_sc agt)⟩
    · rw [if_neg (by rw [nI_eq (by omega) (by decide)]; exact cj), if_neg cj]
      exact O_ret ⟨r2, CI_sc K1 agt, q_aM_tr am (aM_sc agt)⟩
