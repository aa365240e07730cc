-- may, ask
theorem s_bitOf {S : q_S} (h : ph_Hp) {l : Nat} (hl : q_pl S ≠ 0 → l < 8) : f_X8_bitOf (q_lv S l) h = some (if q_pl S = 0 then nI 0 else ph_shl (nI 1) (nI l), h) := by
  unfold f_X8_bitOf
  by_cases c : q_pl S = 0
  · rw [q_lv_0 c, s_wm, cl_some, if_pos rfl, if_pos c]
  · rw [q_lv_1 c, s_wi h (hl c) (by decide), cl_some, if_neg (by decide), if_neg c]
theorem s_bitN (h : ph_Hp) {l : Nat} (hl : l < 8) : f_X8_bitOf (nI l) h = some (ph_shl (nI 1) (nI l), h) := by
  unfold f_X8_bitOf
  rw [s_wi h hl (by decide), cl_some, if_neg (by decide)]
def q_ma (S : q_S) (u t : Nat) : Int32 := if q_pl S = 0 then nI 0 else ph_shl (nI 1) (nI (q_p S t)) ||| ph_shl (nI 1) (nI (q_P S none (q_cu S u (nI 511)) t))
def sp_may (S : q_S) (x1 x2 : Int32) : Int32 × q_S := match q_in x1 40, q_in x2 40 with
  | some u, some t => (q_ma S u t, S)
  | _, _ => ((-2), S)
theorem k_may (S : q_S) (h : ph_Hp) (K : CI S h) (x1 x2 : Int32) : ph_O (f_X8_may x1 x2 h) (Cq h (sp_may S x1 x2).1 (sp_may S x1 x2).2) := by
  unfold f_X8_may sp_may
  rcases q_ins x1 40 (by decide) with ⟨e1, b1⟩ | ⟨u, hu, rfl, e1⟩
  · rw [s_wo h b1, cl_some, e1]
    simp (disch := omega) only [i_lt_f, i_lt_t, i_le_f, i_le_t, i_eq_f, i_eq_t, i_m1_lt, i_eqm_f, i_meq_f, i_mm_t, i_mle_t, i_nle_m, rz_0, rz_1, if_true, if_false, cl_some, ldI_at, ldJ_at, stI_at, stZ_at, stJ_at, pfI_at, pfJ_at, jn_at, dvI_at, rmI_at, irem_at, nI_add, pk_mul, pk_sub, n_dec, n_sub1]
    exact O_ret ⟨rfl, K, q_aM_rf h⟩
  rw [s_wi h hu (by decide), cl_some, e1]
  simp (disch := omega) only [i_lt_f, i_lt_t, i_le_f, i_le_t, i_eq_f, i_eq_t, i_m1_lt, i_eqm_f, i_meq_f, i_mm_t, i_mle_t, i_nle_m, rz_0, rz_1, if_true, if_false, cl_some, ldI_at, ldJ_at, stI_at, stZ_at, stJ_at, pfI_at, pfJ_at, jn_at, dvI_at, rmI_at, irem_at, nI_add, pk_mul, pk_sub, n_dec, n_sub1]
  rcases q_ins x2 40 (by decide) with ⟨e2, b2⟩ | ⟨t, ht, rfl, e2⟩
  · rw [s_wo h b2, cl_some, e2]
    simp (disch := omega) only [i_lt_f, i_lt_t, i_le_f, i_le_t, i_eq_f, i_eq_t, i_m1_lt, i_eqm_f, i_meq_f, i_mm_t, i_mle_t, i_nle_m, rz_0, rz_1, if_true, if_false, cl_some, ldI_at, ldJ_at, stI_at, stZ_at, stJ_at, pfI_at, pfJ_at, jn_at, dvI_at, rmI_at, irem_at, nI_add, pk_mul, pk_sub, n_dec, n_sub1]
    exact O_ret ⟨rfl, K, q_aM_rf h⟩
  rw [s_wi h ht (by decide), cl_some, e2]
  simp (disch := omega) only [i_lt_f, i_lt_t, i_le_f, i_le_t, i_eq_f, i_eq_t, i_m1_lt, i_eqm_f, i_meq_f, i_mm_t, i_mle_t, i_nle_m, rz_0, rz_1, if_true, if_false, cl_some, ldI_at, ldJ_at, stI_at, stZ_at, stJ_at, pfI_at, pfJ_at, jn_at, dvI_at, rmI_at, irem_at, nI_add, pk_mul, pk_sub, n_dec, n_sub1]
  refine O_cl (s_staged K) (fun _ g ⟨K1, st, k7, am, ag⟩ => ?_)
  refine O_cl (s_rehearse K1.1 st hu _) (fun _ g2 ⟨r1, r2⟩ => ?_)
  have e3 : q_ag [41, 42, 43, 44, 45, 46] g g2 := q_ag_sub r2 (by decide)
  have st2 := St_sc st e3
  rw [s_playedIn g2 ht, cl_some, (st2.2.2.2.2 t ht).2, s_bitOf g2 (fun hp => q_P_lt hp _ _ _), cl_some]
  try simp (disch := omega) only [i_lt_f, i_lt_t, i_le_f, i_le_t, i_eq_f, i_eq_t, i_m1_lt, i_eqm_f, i_meq_f, i_mm_t, i_mle_t, i_nle_m, rz_0, rz_1, if_true, if_false, cl_some, ldI_at, ldJ_at, stI_at, stZ_at, stJ_at, pfI_at, pfJ_at, jn_at, dvI_at, rmI_at, irem_at, nI_add, pk_mul, pk_sub, n_dec, n_sub1]
  rw [r1 t ht, s_bitOf g2 (fun hp => q_P_lt hp _ _ _), cl_some]
  refine O_ret ⟨?_, CI_sc K1 e3, q_aM_tr am (aM_sc e3)⟩
  unfold q_ma
  by_cases c : q_pl S = 0
  · rw [if_pos c, if_pos c, if_pos c]; decide
  · rw [if_neg c, if_neg c, if_neg c]
-- ask
def q_mx (f : Nat → Nat) : Nat → Nat
  | 0 => 0
  | n + 1 => if q_mx f n < f n then f n else q_mx f n
theorem q_mx_le {f : Nat → Nat} {b : Nat} (hf : ∀ k, f k ≤ b) : ∀ n, q_mx f n ≤ b
  | 0 => Nat.zero_le b
  | n + 1 => by
    have := q_mx_le hf n
    have := hf n
    unfold q_mx
    split <;> omega
def q_am (G : Nat → Nat) : Nat → Nat
  | 0 => 0
  | n + 1 => if G (n + 1) < G (q_am G n) then n + 1 else q_am G n
theorem q_am_le (G : Nat → Nat) : ∀ n, q_am G n ≤ n
  | 0 => Nat.le_refl 0
  | n + 1 => by
    have := q_am_le G n
    unfold q_am
    split <;> omega
def q_tp (S : q_S) (k t l u : Nat) : Bool := q_ak S k u && (decide (q_pl S ≠ 0) && decide (q_P S none (q_cu S u (ph_shl (nI 1) (nI k))) t = l))
def q_tl (S : q_S) (k n t l : Nat) : Nat := q_nb (q_tp S k t l) n
def q_gt (S : q_S) (k t : Nat) : Nat := q_mx (q_tl S k 31 t) 8
def q_sk (S : q_S) (k : Nat) : Int32 := nI (q_am (q_gt S k) 39)
def sp_ask (S : q_S) (x1 : Int32) : Int32 × q_S := match q_in x1 (q_hn S) with
  | some k => (q_sk S k, S)
  | none => ((-2), S)
theorem q_tl_le (S : q_S) (k n t l : Nat) : q_tl S k n t l ≤ n := q_nb_le _ n
theorem s_tally {S : q_S} {g : ph_Hp} {P : Nat → Nat} (hP : q_pl S ≠ 0 → ∀ t, P t < 8) (e : ∀ t, t < 40 → g.1 45 t = q_lv S (P t)) {F : Nat → Nat → Nat} (hF : ∀ t l, F t l < 1000) (e2 : ∀ t, t < 40 → ∀ l, l < 8 → g.1 46 (t * 8 + l) = nI (F t l)) : ph_O (f_X8_tallyRehearsal g) (fun _ g2 => (∀ t, t < 40 → ∀ l, l < 8 → g2.1 46 (t * 8 + l) = nI (F t l + if q_pl S ≠ 0 ∧ P t = l then 1 else 0)) ∧ q_ag [46] g g2) := by
  unfold f_X8_tallyRehearsal
  refine O_for 40 (fun i y => y.1 = nI i ∧ (∀ t, t < i → ∀ l, l < 8 → y.2.1 46 (t * 8 + l) = nI (F t l + if q_pl S ≠ 0 ∧ P t = l then 1 else 0)) ∧ (∀ t, i ≤ t → t < 40 → ∀ l, l < 8 → y.2.1 46 (t * 8 + l) = nI (F t l)) ∧ q_ag [46] g y.2) (by omega) ⟨rfl, fun k hk => absurd hk (Nat.not_lt_zero k), fun t _ ht => e2 t ht, q_ag_rf _ g⟩ ?_ ?_
  · rintro rec i ⟨x, g1⟩ hi ⟨ex, f1, f2, f3⟩ hrec
    dsimp only at ex f1 f2 f3 ⊢
    subst ex
    have e45 : g1.1 45 i = q_lv S (P i) := by rw [(f3 45 (by decide)).1]; exact e i hi
    simp (disch := omega) only [i_lt_f, i_lt_t, i_le_f, i_le_t, i_eq_f, i_eq_t, i_m1_lt, i_eqm_f, i_meq_f, i_mm_t, i_mle_t, i_nle_m, rz_0, rz_1, if_true, if_false, cl_some, ldI_at, ldJ_at, stI_at, stZ_at, stJ_at, pfI_at, pfJ_at, jn_at, dvI_at, rmI_at, irem_at, nI_add, pk_mul, pk_sub, n_dec, n_sub1]
    rw [e45]
    by_cases c : q_pl S = 0
    · rw [q_lv_0 c, s_wm, cl_some, if_pos rfl]
      refine hrec _ ⟨rfl, fun t ht l hl => ?_, fun t h1 h2 => f2 t (by omega) h2, f3⟩
      rcases Nat.lt_or_ge t i with q | q
      · exact f1 t q l hl
      · rw [if_neg (fun z => z.1 c)]
        exact f2 t (by omega) (by omega) l hl
    · have hp := hP c i
      rw [q_lv_1 c, s_wi g1 hp (by decide), cl_some, if_neg (by decide)]
      simp (disch := omega) only [i_lt_f, i_lt_t, i_le_f, i_le_t, i_eq_f, i_eq_t, i_m1_lt, i_eqm_f, i_meq_f, i_mm_t, i_mle_t, i_nle_m, rz_0, rz_1, if_true, if_false, cl_some, ldI_at, ldJ_at, stI_at, stZ_at, stJ_at, pfI_at, pfJ_at, jn_at, dvI_at, rmI_at, irem_at, nI_add, pk_mul, pk_sub, n_dec, n_sub1]
      rw [f2 i (Nat.le_refl i) hi _ hp]
      try simp (disch := omega) only [i_lt_f, i_lt_t, i_le_f, i_le_t, i_eq_f, i_eq_t, i_m1_lt, i_eqm_f, i_meq_f, i_mm_t, i_mle_t, i_nle_m, rz_0, rz_1, if_true, if_false, cl_some, ldI_at, ldJ_at, stI_at, stZ_at, stJ_at, pfI_at, pfJ_at, jn_at, dvI_at, rmI_at, irem_at, nI_add, pk_mul, pk_sub, n_dec, n_sub1]
      refine hrec _ ⟨rfl, fun t ht l hl => ?_, fun t h1 h2 l hl => ?_, q_ag_sI f3 (by decide)⟩
      · dsimp only
        rw [sI_eq]
        by_cases c2 : t = i
        · subst c2
          by_cases c3 : P t = l
          · rw [if_pos (by omega), if_pos ⟨c, c3⟩, c3]
          · rw [if_neg (by omega), if_neg (fun z => c3 z.2)]
            exact f2 t (by omega) hi l hl
        · rw [if_neg (by omega)]
          exact f1 t (by omega) l hl
      · dsimp only
        rw [sI_eq, if_neg (by omega)]
        exact f2 t (by omega) h2 l hl
  · rintro rec ⟨x, g1⟩ ⟨ex, f1, f2, f3⟩
    dsimp only at ex f1 f2 f3 ⊢
    subst ex
    simp (disch := omega) only [i_lt_f, i_lt_t, i_le_f, i_le_t, i_eq_f, i_eq_t, i_m1_lt, i_eqm_f, i_meq_f, i_mm_t, i_mle_t, i_nle_m, rz_0, rz_1, if_true, if_false, cl_some, ldI_at, ldJ_at, stI_at, stZ_at, stJ_at, pfI_at, pfJ_at, jn_at, dvI_at, rmI_at, irem_at, nI_add, pk_mul, pk_sub, n_dec, n_sub1]
    exact O_ret ⟨f1, f3⟩
theorem s_greatest {g : ph_Hp} {t : Nat} {F : Nat → Nat} (ht : t < 40) (hF : ∀ l, F l ≤ 31) (e : ∀ l, l < 8 → g.1 46 (t * 8 + l) = nI (F l)) : f_X8_greatestTally (nI t) g = some (nI (q_mx F 8), g) := by
  unfold f_X8_greatestTally
  refine lp_for (st := fun i => (nI (q_mx F i), nI i)) 8 (by omega) rfl (fun rec i hi => ?_) (fun rec => ?_)
  · have h1 := q_mx_le hF i
    have h2 := hF i
    dsimp only
    simp (disch := omega) only [i_lt_f, i_lt_t, i_le_f, i_le_t, i_eq_f, i_eq_t, i_m1_lt, i_eqm_f, i_meq_f, i_mm_t, i_mle_t, i_nle_m, rz_0, rz_1, if_true, if_false, cl_some, ldI_at, ldJ_at, stI_at, stZ_at, stJ_at, pfI_at, pfJ_at, jn_at, dvI_at, rmI_at, irem_at, nI_add, pk_mul, pk_sub, n_dec, n_sub1]
    rw [e i hi]
    show _ = rec (nI (if q_mx F i < F i then F i else q_mx F i), _)
    by_cases c : q_mx F i < F i
    · rw [if_pos c, if_pos (nI_lt c (by omega))]
    · rw [if_neg c, if_neg (nI_nlt (by omega) (by omega))]
  · dsimp only
    simp (disch := omega) only [i_lt_f, i_lt_t, i_le_f, i_le_t, i_eq_f, i_eq_t, i_m1_lt, i_eqm_f, i_meq_f, i_mm_t, i_mle_t, i_nle_m, rz_0, rz_1, if_true, if_false, cl_some, ldI_at, ldJ_at, stI_at, stZ_at, stJ_at, pfI_at, pfJ_at, jn_at, dvI_at, rmI_at, irem_at, nI_add, pk_mul, pk_sub, n_dec, n_sub1]
theorem k_ask (S : q_S) (h : ph_Hp) (K : CI S h) (x1 : Int32) : ph_O (f_X8_ask x1 h) (Cq h (sp_ask S x1).1 (sp_ask S x1).2) := by
  have hhn := q_hn_le K.1
  unfold f_X8_ask sp_ask
  refine O_cl (s_staged K) (fun _ g ⟨K1, st, k7, am, ag⟩ => ?_)
  rw [st.2.1.1]
  rcases q_ins x1 (q_hn S) (by omega) with ⟨e1, b1⟩ | ⟨k, hk, rfl, e1⟩
  · rw [s_wo g b1, cl_some, e1]
    simp (disch := omega) only [i_lt_f, i_lt_t, i_le_f, i_le_t, i_eq_f, i_eq_t, i_m1_lt, i_eqm_f, i_meq_f, i_mm_t, i_mle_t, i_nle_m, rz_0, rz_1, if_true, if_false, cl_some, ldI_at, ldJ_at, stI_at, stZ_at, stJ_at, pfI_at, pfJ_at, jn_at, dvI_at, rmI_at, irem_at, nI_add, pk_mul, pk_sub, n_dec, n_sub1]
    exact O_ret ⟨rfl, K1, am⟩
  rw [s_wi g hk (by omega), cl_some, e1]
  simp (disch := omega) only [i_lt_f, i_lt_t, i_le_f, i_le_t, i_eq_f, i_eq_t, i_m1_lt, i_eqm_f, i_meq_f, i_mm_t, i_mle_t, i_nle_m, rz_0, rz_1, if_true, if_false, cl_some, ldI_at, ldJ_at, stI_at, stZ_at, stJ_at, pfI_at, pfJ_at, jn_at, dvI_at, rmI_at, irem_at, nI_add, pk_mul, pk_sub, n_dec, n_sub1]
  try dsimp only
  refine O_for 320 (fun i y => y.1 = nI i ∧ (∀ m, m < i → y.2.1 46 m = nI 0) ∧ q_ag [41, 42, 43, 44, 45, 46] g y.2) (by omega) ⟨rfl, fun k hk => absurd hk (Nat.not_lt_zero k), q_ag_rf _ g⟩ ?_ ?_
  · rintro rec i ⟨x, g1⟩ hi ⟨ex, f1, f2⟩ hrec
    dsimp only at ex f1 f2 ⊢
    subst ex
    simp (disch := omega) only [i_lt_f, i_lt_t, i_le_f, i_le_t, i_eq_f, i_eq_t, i_m1_lt, i_eqm_f, i_meq_f, i_mm_t, i_mle_t, i_nle_m, rz_0, rz_1, if_true, if_false, cl_some, ldI_at, ldJ_at, stI_at, stZ_at, stJ_at, pfI_at, pfJ_at, jn_at, dvI_at, rmI_at, irem_at, nI_add, pk_mul, pk_sub, n_dec, n_sub1]
    refine hrec _ ⟨rfl, fun m hm => ?_, q_ag_sI f2 (by decide)⟩
    dsimp only
    rw [sI_eq]
    by_cases c : m = i
    · rw [if_pos c]
    · rw [if_neg c]; exact f1 m (by omega)
  · rintro rec ⟨x, g1⟩ ⟨ex, f1, f2⟩
    dsimp only at ex f1 f2 ⊢
    subst ex
    simp (disch := omega) only [i_lt_f, i_lt_t, i_le_f, i_le_t, i_eq_f, i_eq_t, i_m1_lt, i_eqm_f, i_meq_f, i_mm_t, i_mle_t, i_nle_m, rz_0, rz_1, if_true, if_false, cl_some, ldI_at, ldJ_at, stI_at, stZ_at, stJ_at, pfI_at, pfJ_at, jn_at, dvI_at, rmI_at, irem_at, nI_add, pk_mul, pk_sub, n_dec, n_sub1]
    refine O_for 31 (fun i y => y.1 = nI i ∧ (∀ t, t < 40 → ∀ l, l < 8 → y.2.1 46 (t * 8 + l) = nI (q_tl S k i t l)) ∧ q_ag [41, 42, 43, 44, 45, 46] g y.2) (by omega) ⟨rfl, fun t ht l hl => f1 _ (by omega), f2⟩ ?_ ?_
    · rintro rec2 i ⟨x, g1⟩ hi ⟨ex, f1, f2⟩ hrec
      dsimp only at ex f1 f2 ⊢
      subst ex
      have K2 := CI_sc K1 f2
      have st2 := St_sc st f2
      simp (disch := omega) only [i_lt_f, i_lt_t, i_le_f, i_le_t, i_eq_f, i_eq_t, i_m1_lt, i_eqm_f, i_meq_f, i_mm_t, i_mle_t, i_nle_m, rz_0, rz_1, if_true, if_false, cl_some, ldI_at, ldJ_at, stI_at, stZ_at, stJ_at, pfI_at, pfJ_at, jn_at, dvI_at, rmI_at, irem_at, nI_add, pk_mul, pk_sub, n_dec, n_sub1]
      refine O_cl (s_rehearse K2.1 st2 (show i < 40 by omega) _) (fun _ g2 ⟨r1, r2⟩ => ?_)
      have e3 : q_ag [41, 42, 43, 44, 45, 46] g g2 := q_ag_tr f2 (q_ag_sub r2 (by decide))
      have K3 := CI_sc K1 e3
      rw [s_allSeen (P := q_P S none (q_cu S i (ph_shl (nI 1) (nI k)))) K3.1 K3.2.1.2.2.2.2.2.2.2.2.1 K3.2.1.2.2.2.2.2.2.2.2.2.1 (fun hp t => q_P_lt hp _ _ t) r1, cl_some, show q_as S (q_P S none (q_cu S i (ph_shl (nI 1) (nI k)))) = q_ak S k i from rfl]
      by_cases c : q_ak S k i = true
      · rw [if_pos c, if_neg (by decide)]
        refine O_cl (s_tally (S := S) (P := q_P S none (q_cu S i (ph_shl (nI 1) (nI k)))) (F := q_tl S k i) (fun hp t => q_P_lt hp _ _ t) r1 (fun t l => by have := q_tl_le S k i t l; omega) (fun t ht l hl => by rw [(r2 46 (by decide)).1]; exact f1 t ht l hl)) (fun _ g3 ⟨t1, t2⟩ => ?_)
        refine hrec _ ⟨rfl, fun t ht l hl => ?_, q_ag_tr e3 (q_ag_sub t2 (by decide))⟩
        rw [t1 t ht l hl]
        show _ = nI (q_nb (q_tp S k t l) i + if q_tp S k t l i then 1 else 0)
        congr 2
        unfold q_tp
        rw [c]
        simp
      · rw [if_neg c, if_pos rfl]
        refine hrec _ ⟨rfl, fun t ht l hl => ?_, e3⟩
        rw [(r2 46 (by decide)).1, f1 t ht l hl]
        show _ = nI (q_nb (q_tp S k t l) i + if q_tp S k t l i then 1 else 0)
        rw [show q_tp S k t l i = false by simp [q_tp, c]]
        rfl
    · rintro rec2 ⟨x, g1⟩ ⟨ex, f1, f2⟩
      dsimp only at ex f1 f2 ⊢
      subst ex
      simp (disch := omega) only [i_lt_f, i_lt_t, i_le_f, i_le_t, i_eq_f, i_eq_t, i_m1_lt, i_eqm_f, i_meq_f, i_mm_t, i_mle_t, i_nle_m, rz_0, rz_1, if_true, if_false, cl_some, ldI_at, ldJ_at, stI_at, stZ_at, stJ_at, pfI_at, pfJ_at, jn_at, dvI_at, rmI_at, irem_at, nI_add, pk_mul, pk_sub, n_dec, n_sub1]
      have gr : ∀ t, t < 40 → f_X8_greatestTally (nI t) g1 = some (nI (q_gt S k t), g1) := fun t ht => s_greatest ht (q_tl_le S k 31 t) (f1 t ht)
      have gl : ∀ t, q_gt S k t ≤ 31 := fun t => q_mx_le (q_tl_le S k 31 t) 8
      refine O_of (v := q_sk S k) (h := g1) ?_ ⟨rfl, CI_sc K1 f2, q_aM_tr am (aM_sc f2)⟩
      refine lp_for (st := fun i => (nI (q_am (q_gt S k) i), nI (i + 1), g1)) 39 (by omega) rfl (fun rec3 i hi => ?_) (fun rec3 => ?_)
      · have h1 := q_am_le (q_gt S k) i
        have h2 := gl (i + 1)
        have h3 := gl (q_am (q_gt S k) i)
        dsimp only
        simp (disch := omega) only [i_lt_f, i_lt_t, i_le_f, i_le_t, i_eq_f, i_eq_t, i_m1_lt, i_eqm_f, i_meq_f, i_mm_t, i_mle_t, i_nle_m, rz_0, rz_1, if_true, if_false, cl_some, ldI_at, ldJ_at, stI_at, stZ_at, stJ_at, pfI_at, pfJ_at, jn_at, dvI_at, rmI_at, irem_at, nI_add, pk_mul, pk_sub, n_dec, n_sub1]
        rw [gr (i + 1) (by omega), cl_some, gr _ (by omega), cl_some]
        show _ = rec3 (nI (if q_gt S k (i + 1) < q_gt S k (q_am (q_gt S k) i) then i + 1 else q_am (q_gt S k) i), _, _)
        by_cases c : q_gt S k (i + 1) < q_gt S k (q_am (q_gt S k) i)
        · rw [if_pos c]; simp (disch := omega) only [i_lt_f, i_lt_t, i_le_f, i_le_t, i_eq_f, i_eq_t, i_m1_lt, i_eqm_f, i_meq_f, i_mm_t, i_mle_t, i_nle_m, rz_0, rz_1, if_true, if_false, cl_some, ldI_at, ldJ_at, stI_at, stZ_at, stJ_at, pfI_at, pfJ_at, jn_at, dvI_at, rmI_at, irem_at, nI_add, pk_mul, pk_sub, n_dec, n_sub1]
        · rw [if_neg c]; simp (disch := omega) only [i_lt_f, i_lt_t, i_le_f, i_le_t, i_eq_f, i_eq_t, i_m1_lt, i_eqm_f, i_meq_f, i_mm_t, i_mle_t, i_nle_m, rz_0, rz_1, if_true, if_false, cl_some, ldI_at, ldJ_at, stI_at, stZ_at, stJ_at, pfI_at, pfJ_at, jn_at, dvI_at, rmI_at, irem_at, nI_add, pk_mul, pk_sub, n_dec, n_sub1]
      · dsimp only
        simp (disch := omega) only [i_lt_f, i_lt_t, i_le_f, i_le_t, i_eq_f, i_eq_t, i_m1_lt, i_eqm_f, i_meq_f, i_mm_t, i_mle_t, i_nle_m, rz_0, rz_1, if_true, if_false, cl_some, ldI_at, ldJ_at, stI_at, stZ_at, stJ_at, pfI_at, pfJ_at, jn_at, dvI_at, rmI_at, irem_at, nI_add, pk_mul, pk_sub, n_dec, n_sub1]
        rfl
