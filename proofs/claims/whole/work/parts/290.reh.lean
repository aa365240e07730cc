def bt (x : Int32) (i : Nat) : Bool := x.toBitVec.getLsbD i
theorem b_ext {x y : Int32} (h : ∀ i, i < 32 → bt x i = bt y i) : x = y := Int32.toBitVec_inj.mp (BitVec.eq_of_getLsbD_eq (fun i hi => h i hi))
theorem b_or (x y : Int32) (i : Nat) : bt (x ||| y) i = (bt x i || bt y i) := by unfold bt; rw [Int32.toBitVec_or, BitVec.getLsbD_or]
theorem b_and (x y : Int32) (i : Nat) : bt (x &&& y) i = (bt x i && bt y i) := by unfold bt; rw [Int32.toBitVec_and, BitVec.getLsbD_and]
theorem b_xor (x y : Int32) (i : Nat) : bt (x ^^^ y) i = (bt x i ^^ bt y i) := by unfold bt; rw [Int32.toBitVec_xor, BitVec.getLsbD_xor]
theorem b_big {x : Int32} {i : Nat} (h : 32 ≤ i) : bt x i = false := BitVec.getLsbD_of_ge _ _ h
theorem b_255 (i : Nat) : bt 255 i = decide (i < 8) := by
  rcases Nat.lt_or_ge i 32 with h | h
  · exact (by decide +kernel : ∀ i, i < 32 → bt 255 i = decide (i < 8)) i h
  · rw [b_big h, decide_eq_false (by omega)]
theorem b_65535 (i : Nat) : bt 65535 i = decide (i < 16) := by
  rcases Nat.lt_or_ge i 32 with h | h
  · exact (by decide +kernel : ∀ i, i < 32 → bt 65535 i = decide (i < 16)) i h
  · rw [b_big h, decide_eq_false (by omega)]
theorem b_m1 : ∀ i, i < 32 → bt (-1) i = true := by decide +kernel
theorem b_0 (i : Nat) : bt 0 i = false := BitVec.getLsbD_zero
theorem s_l : ∀ n, n < 32 → ((nI n &&& 31).toBitVec.smod 32).toNat = n := by decide +kernel
theorem s_u : ∀ n, n < 32 → (((nI n).toUInt32 &&& Int32.toUInt32 31).toBitVec % 32).toNat = n := by decide +kernel
theorem b_shl (n : Nat) (hn : n < 32) (x : Int32) {i : Nat} (hi : i < 32) : bt (x <<< (nI n &&& 31)) i = (decide (n ≤ i) && bt x (i - n)) := by
  unfold bt
  rw [Int32.toBitVec_shiftLeft]
  show (x.toBitVec <<< ((nI n &&& 31).toBitVec.smod 32).toNat).getLsbD i = _
  rw [s_l n hn, BitVec.getLsbD_shiftLeft]
  rcases Nat.lt_or_ge i n with h | h
  · simp [h, Nat.not_le.mpr h]
  · simp [hi, h, Nat.not_lt.mpr h]
theorem b_ushr (n : Nat) (hn : n < 32) (x : Int32) (i : Nat) : bt ((x.toUInt32 >>> ((nI n).toUInt32 &&& Int32.toUInt32 31)).toInt32) i = bt x (n + i) := by
  show (x.toUInt32 >>> ((nI n).toUInt32 &&& Int32.toUInt32 31)).toBitVec.getLsbD i = x.toUInt32.toBitVec.getLsbD (n + i)
  rw [UInt32.toBitVec_shiftRight]
  show (x.toUInt32.toBitVec >>> (((nI n).toUInt32 &&& Int32.toUInt32 31).toBitVec % 32).toNat).getLsbD i = _
  rw [s_u n hn, BitVec.getLsbD_ushiftRight]
theorem b_sshr (n : Nat) (hn : n < 32) (x : Int32) {i : Nat} (hi : i < 32) : bt (x >>> (nI n &&& 31)) i = if n + i < 32 then bt x (n + i) else bt x 31 := by
  unfold bt
  rw [Int32.toBitVec_shiftRight]
  show (x.toBitVec.sshiftRight ((nI n &&& 31).toBitVec.smod 32).toNat).getLsbD i = _
  rw [s_l n hn, BitVec.getLsbD_sshiftRight, BitVec.msb_eq_getLsbD_last]
  simp [hi]
theorem b_shl8 (x : Int32) {i : Nat} (hi : i < 32) : bt (x <<< ((8 : Int32) &&& 31)) i = (decide (8 ≤ i) && bt x (i - 8)) := b_shl 8 (by omega) x hi
theorem b_shl16 (x : Int32) {i : Nat} (hi : i < 32) : bt (x <<< ((16 : Int32) &&& 31)) i = (decide (16 ≤ i) && bt x (i - 16)) := b_shl 16 (by omega) x hi
theorem b_shl24 (x : Int32) {i : Nat} (hi : i < 32) : bt (x <<< ((24 : Int32) &&& 31)) i = (decide (24 ≤ i) && bt x (i - 24)) := b_shl 24 (by omega) x hi
theorem b_sshr8 (x : Int32) {i : Nat} (hi : i < 32) : bt (x >>> ((8 : Int32) &&& 31)) i = if 8 + i < 32 then bt x (8 + i) else bt x 31 := b_sshr 8 (by omega) x hi

-- one bit
theorem b_n0 (i : Nat) : bt (nI 0) i = false := b_0 i
theorem b_n1 : ∀ i, i < 32 → bt (nI 1) i = decide (i = 0) := by decide +kernel
theorem b_and1 (x : Int32) : x &&& nI 1 = nI 0 ↔ bt x 0 = false := by
  constructor
  · intro e
    have h1 : bt (x &&& nI 1) 0 = bt (nI 0) 0 := by rw [e]
    rw [b_and, b_n0, b_n1 0 (by decide)] at h1
    simpa using h1
  · intro e
    apply b_ext
    intro i hi
    rw [b_and, b_n0, b_n1 i hi]
    by_cases c : i = 0
    · rw [c, e]; rfl
    · simp [c]
theorem q_tb_bt (c : Int32) {h : Nat} (hh : h < 32) : q_tb c h = bt c h := by
  unfold q_tb ph_shr
  have e : bt (c >>> (nI h &&& 31)) 0 = bt c h := by rw [b_sshr h hh c (by decide), if_pos (by omega), Nat.add_zero]
  cases hb : bt c h with
  | false =>
    rw [hb] at e
    rw [decide_eq_true ((b_and1 _).mpr e)]; rfl
  | true =>
    rw [hb] at e
    rw [decide_eq_false (fun z => by rw [(b_and1 _).mp z] at e; cases e)]; rfl
theorem q_tb_or (x y : Int32) {h : Nat} (hh : h < 32) : q_tb (x ||| y) h = (q_tb x h || q_tb y h) := by rw [q_tb_bt _ hh, q_tb_bt _ hh, q_tb_bt _ hh, b_or]
theorem q_tb_an (x y : Int32) {h : Nat} (hh : h < 32) : q_tb (x &&& (y ^^^ (-1))) h = (q_tb x h && !q_tb y h) := by rw [q_tb_bt _ hh, q_tb_bt _ hh, q_tb_bt _ hh, b_and, b_xor, b_m1 h hh]; simp
theorem q_tb_sl {k h : Nat} (hk : k < 32) (hh : h < 32) : q_tb (ph_shl (nI 1) (nI k)) h = decide (h = k) := by
  rw [q_tb_bt _ hh]
  unfold ph_shl
  rw [b_shl k hk _ hh]
  rcases Nat.lt_trichotomy h k with c | c | c
  · simp [show ¬ k ≤ h by omega, show ¬ h = k by omega]
  · subst c; simp; exact b_n1 0 (by decide)
  · rw [b_n1 (h - k) (by omega)]; simp [show ¬ h - k = 0 by omega, show ¬ h = k by omega]
theorem q_tb_511 : ∀ h, h < 32 → q_tb (nI 511) h = decide (h < 9) := by decide +kernel
theorem q_tb_c {c : Int32} {h : Nat} : (ph_shr c (nI h) &&& nI 1 = nI 0) ↔ q_tb c h = false := by
  unfold q_tb
  simp
-- coughs besides
def q_cu (S : q_S) (u : Nat) (e : Int32) (t : Nat) : Int32 := if t = u then q_cg S t ||| e else q_cg S t
theorem q_fo_cong {S : q_S} {t l : Nat} {b : Option Nat} {c d : Int32} (h : ∀ k, b = some k → q_tb c k = q_tb d k) : q_fo S t b l c = q_fo S t b l d := by
  unfold q_fo
  cases b with
  | none => rfl
  | some k =>
    show (if _ then _ else q_wp S k l c) = (if _ then _ else q_wp S k l d)
    unfold q_wp
    rw [h k rfl]
theorem q_P_cong {S : q_S} {f : Option Nat} {c d : Nat → Int32} : ∀ t, (∀ s, s ≤ t → ∀ k, q_by S f s = some k → q_tb (c s) k = q_tb (d s) k) → q_P S f c t = q_P S f d t
  | 0, _ => rfl
  | t + 1, h => by
    unfold q_P
    rw [q_P_cong t (fun s hs => h s (by omega)), q_fo_cong (h (t + 1) (Nat.le_refl _))]
theorem s_rehearse {S : q_S} {g : ph_Hp} (w : q_wf S) (st : q_St S g) {u : Nat} (hu : u < 40) (e : Int32) : ph_O (f_X6_rehearse (nI u) e g) (fun _ g2 => (∀ t, t < 40 → g2.1 45 t = q_lv S (q_P S none (q_cu S u e) t)) ∧ q_ag [45] g g2) := by
  obtain ⟨ka, kb, kt, kc, kd⟩ := id st
  have hhn := q_hn_le w
  unfold f_X6_rehearse
  rw [s_byIn g hu, cl_some, s_coughsIn g hu, cl_some, (kd u hu).1, (kc u hu).2.1]
  have keep : ∀ g2 : ph_Hp, q_ag [45] g g2 → q_A S g2 ∧ q_T S g2 ∧ q_W S g2 ∧ q_D S g2 := fun g2 ag => ⟨q_A_ag ka (fun i hi => (ag i (by simp at hi; simp; omega)).1), q_T_ag kt (ag 35 (by decide)).1, q_C_ag kc (fun i hi => (ag i (by simp at hi; simp; omega)).1), q_D_ag kd (fun i hi => (ag i (by simp at hi; simp; omega)).1)⟩
  refine O_jn (fun x => (x = nI 40 ∧ ∀ t, q_P S none (q_cu S u e) t = q_P S none (q_cg S) t) ∨ x = nI u) ?_ ?_
  · intro x hx
    have hlow : ∀ t, t < u → q_P S none (q_cu S u e) t = q_P S none (q_cg S) t := fun t ht => q_P_cong t (fun s hs k _ => by unfold q_cu; rw [if_neg (by omega)])
    refine O_for 40 (fun i y => (0 < i → y.1 = q_lv S (q_P S none (q_cu S u e) (i - 1))) ∧ y.2.1 = nI i ∧ (∀ t, t < i → y.2.2.1 45 t = q_lv S (q_P S none (q_cu S u e) t)) ∧ q_ag [45] g y.2.2) (by omega) ⟨fun q => absurd q (Nat.lt_irrefl 0), rfl, fun k hk => absurd hk (Nat.not_lt_zero k), q_ag_rf _ g⟩ ?_ ?_
    · rintro rec i ⟨y, z, g1⟩ hi ⟨ey, ez, e1, e2⟩ hrec
      dsimp only at ey ez e1 e2 ⊢
      subst ez
      obtain ⟨ka1, kt1, kc1, kd1⟩ := keep g1 e2
      have fin : ph_O (rec (q_lv S (q_P S none (q_cu S u e) i), nI (i + 1), ph_sI g1 45 i (q_lv S (q_P S none (q_cu S u e) i)))) (fun _ g2 => (∀ t, t < 40 → g2.1 45 t = q_lv S (q_P S none (q_cu S u e) t)) ∧ q_ag [45] g g2) := by
        refine hrec _ ⟨fun _ => rfl, rfl, fun t ht => ?_, q_ag_sI e2 (by decide)⟩
        dsimp only
        rw [sI_eq]
        by_cases c : t = i
        · rw [if_pos c, c]
        · rw [if_neg c]; exact e1 t (by omega)
      rcases hx with ⟨hx, hsame⟩ | hx
      · subst hx
        simp (disch := omega) only [i_lt_f, i_lt_t, i_le_f, i_le_t, i_eq_f, i_eq_t, i_m1_lt, i_eqm_f, i_meq_f, i_mm_t, i_mle_t, i_nle_m, rz_0, rz_1, if_true, if_false, cl_some, ldI_at, ldJ_at, stI_at, stZ_at, stJ_at, pfI_at, pfJ_at, jn_at, dvI_at, rmI_at, irem_at, nI_add, pk_mul, pk_sub, n_dec, n_sub1]
        rw [(kd1 i hi).2, ← hsame i]
        exact fin
      · subst hx
        have fol : ∀ c : Int32, c = q_cu S u e i → f_X6_follow (nI i) (g1.1 39 i) y c g1 = some (q_lv S (q_P S none (q_cu S u e) i), g1) := by
          intro c hc
          rw [(kd1 i hi).1, q_P_fo, ← hc]
          exact s_follow (l := q_Pp S none (q_cu S u e) i) w ka1 kt1 kc1 hi q_byok (fun hp => by
            cases i with
            | zero => exact Or.inr (q_dk_0 S)
            | succ v => exact Or.inl (q_P_lt hp _ _ _)) (by
            cases i with
            | zero => exact Or.inl (q_dk_0 S)
            | succ v => exact Or.inr (ey (Nat.succ_pos v)))
        rcases Nat.lt_trichotomy i u with q | q | q
        · simp (disch := omega) only [i_lt_f, i_lt_t, i_le_f, i_le_t, i_eq_f, i_eq_t, i_m1_lt, i_eqm_f, i_meq_f, i_mm_t, i_mle_t, i_nle_m, rz_0, rz_1, if_true, if_false, cl_some, ldI_at, ldJ_at, stI_at, stZ_at, stJ_at, pfI_at, pfJ_at, jn_at, dvI_at, rmI_at, irem_at, nI_add, pk_mul, pk_sub, n_dec, n_sub1]
          rw [(kd1 i hi).2, ← hlow i q]
          exact fin
        · subst q
          simp (disch := omega) only [i_lt_f, i_lt_t, i_le_f, i_le_t, i_eq_f, i_eq_t, i_m1_lt, i_eqm_f, i_meq_f, i_mm_t, i_mle_t, i_nle_m, rz_0, rz_1, if_true, if_false, cl_some, ldI_at, ldJ_at, stI_at, stZ_at, stJ_at, pfI_at, pfJ_at, jn_at, dvI_at, rmI_at, irem_at, nI_add, pk_mul, pk_sub, n_dec, n_sub1]
          rw [fol _ (by unfold q_cu; rw [if_pos rfl, (kc1 i hi).2.1]), cl_some]
          try simp (disch := omega) only [i_lt_f, i_lt_t, i_le_f, i_le_t, i_eq_f, i_eq_t, i_m1_lt, i_eqm_f, i_meq_f, i_mm_t, i_mle_t, i_nle_m, rz_0, rz_1, if_true, if_false, cl_some, ldI_at, ldJ_at, stI_at, stZ_at, stJ_at, pfI_at, pfJ_at, jn_at, dvI_at, rmI_at, irem_at, nI_add, pk_mul, pk_sub, n_dec, n_sub1]
          exact fin
        · simp (disch := omega) only [i_lt_f, i_lt_t, i_le_f, i_le_t, i_eq_f, i_eq_t, i_m1_lt, i_eqm_f, i_meq_f, i_mm_t, i_mle_t, i_nle_m, rz_0, rz_1, if_true, if_false, cl_some, ldI_at, ldJ_at, stI_at, stZ_at, stJ_at, pfI_at, pfJ_at, jn_at, dvI_at, rmI_at, irem_at, nI_add, pk_mul, pk_sub, n_dec, n_sub1]
          rw [fol _ (by unfold q_cu; rw [if_neg (by omega), (kc1 i hi).2.1]), cl_some]
          try simp (disch := omega) only [i_lt_f, i_lt_t, i_le_f, i_le_t, i_eq_f, i_eq_t, i_m1_lt, i_eqm_f, i_meq_f, i_mm_t, i_mle_t, i_nle_m, rz_0, rz_1, if_true, if_false, cl_some, ldI_at, ldJ_at, stI_at, stZ_at, stJ_at, pfI_at, pfJ_at, jn_at, dvI_at, rmI_at, irem_at, nI_add, pk_mul, pk_sub, n_dec, n_sub1]
          exact fin
    · rintro rec ⟨y, z, g1⟩ ⟨ey, ez, e1, e2⟩
      dsimp only at ey ez e1 e2 ⊢
      subst ez
      simp (disch := omega) only [i_lt_f, i_lt_t, i_le_f, i_le_t, i_eq_f, i_eq_t, i_m1_lt, i_eqm_f, i_meq_f, i_mm_t, i_mle_t, i_nle_m, rz_0, rz_1, if_true, if_false, cl_some, ldI_at, ldJ_at, stI_at, stZ_at, stJ_at, pfI_at, pfJ_at, jn_at, dvI_at, rmI_at, irem_at, nI_add, pk_mul, pk_sub, n_dec, n_sub1]
      exact O_ret ⟨e1, e2⟩
  · intro j hj
    rw [jn_at]
    cases hb : q_by S none u with
    | none =>
      rw [show q_bv none = (-1) from rfl, if_pos rfl]
      refine hj _ (Or.inl ⟨rfl, fun t => q_P_cong t (fun s hs k hk => ?_)⟩)
      unfold q_cu
      by_cases c : s = u
      · rw [c, hb] at hk; cases hk
      · rw [if_neg c]
    | some b =>
      have hb9 := q_by_lt hb
      rw [show q_bv (some b) = nI b from rfl, if_neg (n_ne1 (by omega))]
      by_cases c : q_tb (e &&& (q_cg S u ^^^ (-1))) b = false
      · rw [if_pos (q_tb_c.mpr c)]
        refine hj _ (Or.inl ⟨rfl, fun t => q_P_cong t (fun s hs k hk => ?_)⟩)
        unfold q_cu
        by_cases c2 : s = u
        · rw [if_pos c2]
          subst c2
          rw [hb] at hk
          cases hk
          rw [q_tb_an _ _ (by omega)] at c
          rw [q_tb_or _ _ (by omega)]
          cases h1 : q_tb (q_cg S s) b <;> cases h2 : q_tb e b <;> simp [h1, h2] at c ⊢
        · rw [if_neg c2]
      · rw [if_neg (fun z => c (q_tb_c.mp z))]
        exact hj _ (Or.inr rfl)
-- what was seen
def q_un (S : q_S) (P : Nat → Nat) (i : Nat) : Bool := !(decide (q_pl S ≠ 0) && decide (P (S.2.1 7 i) = S.2.1 8 i))
def q_as (S : q_S) (P : Nat → Nat) : Bool := decide (q_ff (q_un S P) (S.1 5) = S.1 5)
theorem q_un_iff {S : q_S} (w : q_wf S) {P : Nat → Nat} (hP : q_pl S ≠ 0 → ∀ t, P t < 8) (i : Nat) : q_lv S (P (S.2.1 7 i)) = nI (S.2.1 8 i) ↔ q_un S P i = false := by
  have h1 := (w.2.1 i).2.2.2.2.2.2.2.2
  unfold q_un
  by_cases c : q_pl S = 0
  · rw [q_lv_0 c]; simp [c]; exact n_ne1' (by omega)
  · have h2 := hP c (S.2.1 7 i)
    rw [q_lv_1 c, nI_eq (by omega) (by omega)]; simp [c]
theorem s_allSeen {S : q_S} {g : ph_Hp} (w : q_wf S) (k9 : cR 21 22 (S.1 5) (S.2.1 7) g) (k10 : cR 23 24 (S.1 5) (S.2.1 8) g) {P : Nat → Nat} (hP : q_pl S ≠ 0 → ∀ t, P t < 8) (e : ∀ t, t < 40 → g.1 45 t = q_lv S (P t)) : f_X8_allSeenIn g = some (if q_as S P = true then nI 1 else nI 0, g) := by
  have hn := w.1.2.2.2.2.2
  have hm := q_ff_le (q_un S P) (S.1 5)
  unfold f_X8_allSeenIn q_as
  refine lp_for (st := fun i => (nI i, g)) (q_ff (q_un S P) (S.1 5)) (by omega) rfl (fun rec i hi => ?_) (fun rec => ?_)
  · have h1 := q_ff_no (q_un S P) (S.1 5) i hi
    have h2 := (w.2.1 i).2.2.2.2.2.2.2.1
    dsimp only
    rw [s_Tsize t_20, cl_some, k9.1]
    simp (disch := omega) only [i_lt_f, i_lt_t, i_le_f, i_le_t, i_eq_f, i_eq_t, i_m1_lt, i_eqm_f, i_meq_f, i_mm_t, i_mle_t, i_nle_m, rz_0, rz_1, if_true, if_false, cl_some, ldI_at, ldJ_at, stI_at, stZ_at, stJ_at, pfI_at, pfJ_at, jn_at, dvI_at, rmI_at, irem_at, nI_add, pk_mul, pk_sub, n_dec, n_sub1]
    rw [s_Tstep t_20 g (by omega), cl_some, k9.2 i (by omega), s_wi g h2 (by decide), cl_some]
    simp (disch := omega) only [i_lt_f, i_lt_t, i_le_f, i_le_t, i_eq_f, i_eq_t, i_m1_lt, i_eqm_f, i_meq_f, i_mm_t, i_mle_t, i_nle_m, rz_0, rz_1, if_true, if_false, cl_some, ldI_at, ldJ_at, stI_at, stZ_at, stJ_at, pfI_at, pfJ_at, jn_at, dvI_at, rmI_at, irem_at, nI_add, pk_mul, pk_sub, n_dec, n_sub1]
    rw [s_Tval t_20 g (by omega), cl_some, k10.2 i (by omega), e _ h2, if_pos ((q_un_iff w hP i).mpr h1)]
  · dsimp only
    rw [s_Tsize t_20, cl_some, k9.1]
    by_cases c : q_ff (q_un S P) (S.1 5) = S.1 5
    · rw [if_pos (show decide (q_ff (q_un S P) (S.1 5) = S.1 5) = true from decide_eq_true c), c]
      simp (disch := omega) only [i_lt_f, i_lt_t, i_le_f, i_le_t, i_eq_f, i_eq_t, i_m1_lt, i_eqm_f, i_meq_f, i_mm_t, i_mle_t, i_nle_m, rz_0, rz_1, if_true, if_false, cl_some, ldI_at, ldJ_at, stI_at, stZ_at, stJ_at, pfI_at, pfJ_at, jn_at, dvI_at, rmI_at, irem_at, nI_add, pk_mul, pk_sub, n_dec, n_sub1]
    · have h1 := q_ff_yes (q_un S P) (S.1 5) (by omega)
      have h2 := (w.2.1 (q_ff (q_un S P) (S.1 5))).2.2.2.2.2.2.2.1
      simp (disch := omega) only [i_lt_f, i_lt_t, i_le_f, i_le_t, i_eq_f, i_eq_t, i_m1_lt, i_eqm_f, i_meq_f, i_mm_t, i_mle_t, i_nle_m, rz_0, rz_1, if_true, if_false, cl_some, ldI_at, ldJ_at, stI_at, stZ_at, stJ_at, pfI_at, pfJ_at, jn_at, dvI_at, rmI_at, irem_at, nI_add, pk_mul, pk_sub, n_dec, n_sub1]
      rw [s_Tstep t_20 g (by omega), cl_some, k9.2 _ (by omega), s_wi g h2 (by decide), cl_some]
      simp (disch := omega) only [i_lt_f, i_lt_t, i_le_f, i_le_t, i_eq_f, i_eq_t, i_m1_lt, i_eqm_f, i_meq_f, i_mm_t, i_mle_t, i_nle_m, rz_0, rz_1, if_true, if_false, cl_some, ldI_at, ldJ_at, stI_at, stZ_at, stJ_at, pfI_at, pfJ_at, jn_at, dvI_at, rmI_at, irem_at, nI_add, pk_mul, pk_sub, n_dec, n_sub1]
      rw [s_Tval t_20 g (by omega), cl_some, k10.2 _ (by omega), e _ h2, if_neg (fun z => by
        have := (q_un_iff w hP _).mp z
        rw [h1] at this; cases this), if_neg (show ¬ decide (q_ff (q_un S P) (S.1 5) = S.1 5) = true by simp [c])]
def q_or (p : Nat → Bool) : Nat → Int32
  | 0 => nI 0
  | n + 1 => if p n then q_or p n ||| ph_shl (nI 1) (nI n) else q_or p n
def q_fi (S : q_S) : Int32 := q_or (fun k => q_as S (q_P S (some k) (q_cg S))) (q_hn S)
def sp_filed (S : q_S) : Int32 × q_S := (q_fi S, S)
def q_ak (S : q_S) (k u : Nat) : Bool := q_as S (q_P S none (q_cu S u (ph_shl (nI 1) (nI k))))
def q_co (S : q_S) (k : Nat) : Int32 := q_or (q_ak S k) 31
def sp_coughed (S : q_S) (x1 : Int32) : Int32 × q_S := match q_in x1 (q_hn S) with
  | some k => (q_co S k, S)
  | none => ((-2), S)
-- scratch cells of the class
theorem CI_sc {S : q_S} {h g : ph_Hp} (K : CI S h) (ag : q_ag [41, 42, 43, 44, 45, 46] h g) : CI S g := by
  obtain ⟨w, kp, kf, ks⟩ := K
  have e : ∀ i, i ∉ [41, 42, 43, 44, 45, 46] → g.1 i = h.1 i := fun i hi => (ag i hi).1
  refine ⟨w, CP_ag kp (fun i hi => e i (by simp at hi; simp; omega)), by rw [e 0 (by decide)]; exact kf, ?_⟩
  rw [e 0 (by decide)]
  rcases ks with ks | ⟨ks, kt⟩
  · exact Or.inl ks
  · exact Or.inr ⟨ks, q_St_ag kt (fun i h1 h2 => e i (by simp; omega))⟩
theorem St_sc {S : q_S} {h g : ph_Hp} (K : q_St S h) (ag : q_ag [41, 42, 43, 44, 45, 46] h g) : q_St S g := q_St_ag K (fun i h1 h2 => (ag i (by simp; omega)).1)
theorem aM_sc {h g : ph_Hp} (ag : q_ag [41, 42, 43, 44, 45, 46] h g) : q_aM h g := q_aM_ag ag (by decide)
theorem s_rehFiled {S : q_S} {g : ph_Hp} (w : q_wf S) (st : q_St S g) {k : Nat} (hk : k < 9) : ph_O (f_X6_rehearseFiled (nI k) g) (fun _ g2 => (∀ t, t < 40 → g2.1 45 t = q_lv S (q_P S (some k) (q_cg S) t)) ∧ q_ag [45] g g2) := by
  obtain ⟨ka, kb, kt, kc, kd⟩ := id st
  unfold f_X6_rehearseFiled
  have keep : ∀ g2 : ph_Hp, q_ag [45] g g2 → q_A S g2 ∧ q_B S g2 ∧ q_T S g2 ∧ q_W S g2 := fun g2 ag => ⟨q_A_ag ka (fun i hi => (ag i (by simp at hi; simp; omega)).1), q_B_ag kb (fun i hi => (ag i (by simp at hi; simp; omega)).1), q_T_ag kt (ag 35 (by decide)).1, q_C_ag kc (fun i hi => (ag i (by simp at hi; simp; omega)).1)⟩
  refine O_for 40 (fun i y => (0 < i → y.1 = q_lv S (q_P S (some k) (q_cg S) (i - 1))) ∧ y.2.1 = nI i ∧ (∀ t, t < i → y.2.2.1 45 t = q_lv S (q_P S (some k) (q_cg S) t)) ∧ q_ag [45] g y.2.2) (by omega) ⟨fun q => absurd q (Nat.lt_irrefl 0), rfl, fun k hk => absurd hk (Nat.not_lt_zero k), q_ag_rf _ g⟩ ?_ ?_
  · rintro rec i ⟨y, z, g1⟩ hi ⟨ey, ez, e1, e2⟩ hrec
    dsimp only at ey ez e1 e2 ⊢
    subst ez
    obtain ⟨ka1, kb1, kt1, kc1⟩ := keep g1 e2
    simp (disch := omega) only [i_lt_f, i_lt_t, i_le_f, i_le_t, i_eq_f, i_eq_t, i_m1_lt, i_eqm_f, i_meq_f, i_mm_t, i_mle_t, i_nle_m, rz_0, rz_1, if_true, if_false, cl_some, ldI_at, ldJ_at, stI_at, stZ_at, stJ_at, pfI_at, pfJ_at, jn_at, dvI_at, rmI_at, irem_at, nI_add, pk_mul, pk_sub, n_dec, n_sub1]
    rw [show nI k = q_bv (some k) from rfl, s_nearest w ka1.1 kb1 kc1 (fun k2 e => by cases e; exact hk) hi, cl_some]
    try simp (disch := omega) only [i_lt_f, i_lt_t, i_le_f, i_le_t, i_eq_f, i_eq_t, i_m1_lt, i_eqm_f, i_meq_f, i_mm_t, i_mle_t, i_nle_m, rz_0, rz_1, if_true, if_false, cl_some, ldI_at, ldJ_at, stI_at, stZ_at, stJ_at, pfI_at, pfJ_at, jn_at, dvI_at, rmI_at, irem_at, nI_add, pk_mul, pk_sub, n_dec, n_sub1]
    rw [(kc1 i hi).2.1, s_follow (l := q_Pp S (some k) (q_cg S) i) w ka1 kt1 kc1 hi q_byok (fun hp => by
        cases i with
        | zero => exact Or.inr (q_dk_0 S)
        | succ v => exact Or.inl (q_P_lt hp _ _ _)) (by
        cases i with
        | zero => exact Or.inl (q_dk_0 S)
        | succ v => exact Or.inr (ey (Nat.succ_pos v))), cl_some, ← q_P_fo]
    try simp (disch := omega) only [i_lt_f, i_lt_t, i_le_f, i_le_t, i_eq_f, i_eq_t, i_m1_lt, i_eqm_f, i_meq_f, i_mm_t, i_mle_t, i_nle_m, rz_0, rz_1, if_true, if_false, cl_some, ldI_at, ldJ_at, stI_at, stZ_at, stJ_at, pfI_at, pfJ_at, jn_at, dvI_at, rmI_at, irem_at, nI_add, pk_mul, pk_sub, n_dec, n_sub1]
    refine hrec _ ⟨fun _ => rfl, rfl, fun t ht => ?_, q_ag_sI e2 (by decide)⟩
    dsimp only
    rw [sI_eq]
    by_cases c : t = i
    · rw [if_pos c, c]
    · rw [if_neg c]; exact e1 t (by omega)
  · rintro rec ⟨y, z, g1⟩ ⟨ey, ez, e1, e2⟩
    dsimp only at ey ez e1 e2 ⊢
    subst ez
    simp (disch := omega) only [i_lt_f, i_lt_t, i_le_f, i_le_t, i_eq_f, i_eq_t, i_m1_lt, i_eqm_f, i_meq_f, i_mm_t, i_mle_t, i_nle_m, rz_0, rz_1, if_true, if_false, cl_some, ldI_at, ldJ_at, stI_at, stZ_at, stJ_at, pfI_at, pfJ_at, jn_at, dvI_at, rmI_at, irem_at, nI_add, pk_mul, pk_sub, n_dec, n_sub1]
    exact O_ret ⟨e1, e2⟩
theorem k_filed (S : q_S) (h : ph_Hp) (K : CI S h) : ph_O (f_X8_filed h) (Cq h (sp_filed S).1 (sp_filed S).2) := by
  have hhn := q_hn_le K.1
  unfold f_X8_filed sp_filed
  dsimp only
  refine O_cl (s_staged K) (fun _ g ⟨K1, st, k7, am, ag⟩ => ?_)
  refine O_for (q_hn S) (fun i y => y.1 = q_or (fun k => q_as S (q_P S (some k) (q_cg S))) i ∧ y.2.1 = nI i ∧ q_ag [41, 42, 43, 44, 45, 46] g y.2.2) (by omega) ⟨rfl, rfl, q_ag_rf _ g⟩ ?_ ?_
  · rintro rec i ⟨y, z, g1⟩ hi ⟨ey, ez, e2⟩ hrec
    dsimp only at ey ez e2 ⊢
    subst ez
    have K2 := CI_sc K1 e2
    have st2 := St_sc st e2
    rw [st2.2.1.1]
    simp (disch := omega) only [i_lt_f, i_lt_t, i_le_f, i_le_t, i_eq_f, i_eq_t, i_m1_lt, i_eqm_f, i_meq_f, i_mm_t, i_mle_t, i_nle_m, rz_0, rz_1, if_true, if_false, cl_some, ldI_at, ldJ_at, stI_at, stZ_at, stJ_at, pfI_at, pfJ_at, jn_at, dvI_at, rmI_at, irem_at, nI_add, pk_mul, pk_sub, n_dec, n_sub1]
    refine O_cl (s_rehFiled K2.1 st2 (show i < 9 by omega)) (fun _ g2 ⟨r1, r2⟩ => ?_)
    have e3 : q_ag [41, 42, 43, 44, 45, 46] g g2 := q_ag_tr e2 (q_ag_sub r2 (by decide))
    have K3 := CI_sc K1 e3
    rw [s_allSeen K3.1 K3.2.1.2.2.2.2.2.2.2.2.1 K3.2.1.2.2.2.2.2.2.2.2.2.1 (fun hp t => q_P_lt hp _ _ t) r1, cl_some]
    by_cases c : q_as S (q_P S (some i) (q_cg S)) = true
    · rw [if_pos c, if_neg (by decide)]
      refine hrec _ ⟨?_, rfl, e3⟩
      show _ = q_or _ (i + 1)
      unfold q_or
      rw [if_pos c, ey]
    · rw [if_neg c, if_pos rfl]
      refine hrec _ ⟨?_, rfl, e3⟩
      show _ = q_or _ (i + 1)
      unfold q_or
      rw [if_neg c, ey]
  · rintro rec ⟨y, z, g1⟩ ⟨ey, ez, e2⟩
    dsimp only at ey ez e2 ⊢
    subst ez
    have st2 := St_sc st e2
    rw [st2.2.1.1]
    simp (disch := omega) only [i_lt_f, i_lt_t, i_le_f, i_le_t, i_eq_f, i_eq_t, i_m1_lt, i_eqm_f, i_meq_f, i_mm_t, i_mle_t, i_nle_m, rz_0, rz_1, if_true, if_false, cl_some, ldI_at, ldJ_at, stI_at, stZ_at, stJ_at, pfI_at, pfJ_at, jn_at, dvI_at, rmI_at, irem_at, nI_add, pk_mul, pk_sub, n_dec, n_sub1]
    exact O_ret ⟨ey, CI_sc K1 e2, q_aM_tr am (aM_sc e2)⟩
theorem k_coughed (S : q_S) (h : ph_Hp) (K : CI S h) (x1 : Int32) : ph_O (f_X8_coughed x1 h) (Cq h (sp_coughed S x1).1 (sp_coughed S x1).2) := by
  have hhn := q_hn_le K.1
  unfold f_X8_coughed sp_coughed
  refine O_cl (s_staged K) (fun _ g ⟨K1, st, k7, am, ag⟩ => ?_)
  rw [st.2.1.1]
  rcases q_ins x1 (q_hn S) (by omega) with ⟨e1, b1⟩ | ⟨k, hk, rfl, e1⟩
  · rw [s_wo g b1, cl_some, e1]
    simp (disch := omega) only [i_lt_f, i_lt_t, i_le_f, i_le_t, i_eq_f, i_eq_t, i_m1_lt, i_eqm_f, i_meq_f, i_mm_t, i_mle_t, i_nle_m, rz_0, rz_1, if_true, if_false, cl_some, ldI_at, ldJ_at, stI_at, stZ_at, stJ_at, pfI_at, pfJ_at, jn_at, dvI_at, rmI_at, irem_at, nI_add, pk_mul, pk_sub, n_dec, n_sub1]
    exact O_ret ⟨rfl, K1, am⟩
  rw [s_wi g hk (by omega), cl_some, e1]
  simp (disch := omega) only [i_lt_f, i_lt_t, i_le_f, i_le_t, i_eq_f, i_eq_t, i_m1_lt, i_eqm_f, i_meq_f, i_mm_t, i_mle_t, i_nle_m, rz_0, rz_1, if_true, if_false, cl_some, ldI_at, ldJ_at, stI_at, stZ_at, stJ_at, pfI_at, pfJ_at, jn_at, dvI_at, rmI_at, irem_at, nI_add, pk_mul, pk_sub, n_dec, n_sub1]
  try dsimp only
  refine O_for 31 (fun i y => y.1 = q_or (q_ak S k) i ∧ y.2.1 = nI i ∧ q_ag [41, 42, 43, 44, 45, 46] g y.2.2) (by omega) ⟨rfl, rfl, q_ag_rf _ g⟩ ?_ ?_
  · rintro rec i ⟨y, z, g1⟩ hi ⟨ey, ez, e2⟩ hrec
    dsimp only at ey ez e2 ⊢
    subst ez
    have K2 := CI_sc K1 e2
    have st2 := St_sc st e2
    simp (disch := omega) only [i_lt_f, i_lt_t, i_le_f, i_le_t, i_eq_f, i_eq_t, i_m1_lt, i_eqm_f, i_meq_f, i_mm_t, i_mle_t, i_nle_m, rz_0, rz_1, if_true, if_false, cl_some, ldI_at, ldJ_at, stI_at, stZ_at, stJ_at, pfI_at, pfJ_at, jn_at, dvI_at, rmI_at, irem_at, nI_add, pk_mul, pk_sub, n_dec, n_sub1]
    refine O_cl (s_rehearse K2.1 st2 (show i < 40 by omega) _) (fun _ g2 ⟨r1, r2⟩ => ?_)
    have e3 : q_ag [41, 42, 43, 44, 45, 46] g g2 := q_ag_tr e2 (q_ag_sub r2 (by decide))
    have K3 := CI_sc K1 e3
    rw [s_allSeen (P := q_P S none (q_cu S i (ph_shl (nI 1) (nI k)))) K3.1 K3.2.1.2.2.2.2.2.2.2.2.1 K3.2.1.2.2.2.2.2.2.2.2.2.1 (fun hp t => q_P_lt hp _ _ t) r1, cl_some, show q_as S (q_P S none (q_cu S i (ph_shl (nI 1) (nI k)))) = q_ak S k i from rfl]
    by_cases c : q_ak S k i = true
    · rw [if_pos c, if_neg (by decide)]
      refine hrec _ ⟨?_, rfl, e3⟩
      show _ = q_or _ (i + 1)
      unfold q_or
      rw [if_pos c, ey]
    · rw [if_neg c, if_pos rfl]
      refine hrec _ ⟨?_, rfl, e3⟩
      show _ = q_or _ (i + 1)
      unfold q_or
      rw [if_neg c, ey]
  · rintro rec ⟨y, z, g1⟩ ⟨ey, ez, e2⟩
    dsimp only at ey ez e2 ⊢
    subst ez
    simp (disch := omega) only [i_lt_f, i_lt_t, i_le_f, i_le_t, i_eq_f, i_eq_t, i_m1_lt, i_eqm_f, i_meq_f, i_mm_t, i_mle_t, i_nle_m, rz_0, rz_1, if_true, if_false, cl_some, ldI_at, ldJ_at, stI_at, stZ_at, stJ_at, pfI_at, pfJ_at, jn_at, dvI_at, rmI_at, irem_at, nI_add, pk_mul, pk_sub, n_dec, n_sub1]
    exact O_ret ⟨ey, CI_sc K1 e2, q_aM_tr am (aM_sc e2)⟩
