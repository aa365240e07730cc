-- counts
def q_nb (p : Nat → Bool) : Nat → Nat
  | 0 => 0
  | n + 1 => q_nb p n + if p n then 1 else 0
theorem q_nb_le (p : Nat → Bool) : ∀ n, q_nb p n ≤ n
  | 0 => Nat.le_refl 0
  | n + 1 => by
    have := q_nb_le p n
    unfold q_nb
    split <;> omega
theorem q_nb_sh (p : Nat → Bool) : ∀ n, q_nb p (n + 1) = (if p 0 then 1 else 0) + q_nb (fun k => p (k + 1)) n
  | 0 => by simp [q_nb]
  | n + 1 => by
    have ih := q_nb_sh p n
    rw [q_nb, ih, q_nb]
    omega
theorem q_nb_rev : ∀ (n : Nat) (p : Nat → Bool), q_nb (fun k => p (n - 1 - k)) n = q_nb p n
  | 0, _ => rfl
  | n + 1, p => by
    rw [q_nb_sh (fun k => p (n + 1 - 1 - k)) n, q_nb]
    have ih := q_nb_rev n p
    have e : q_nb (fun k => p (n + 1 - 1 - (k + 1))) n = q_nb (fun k => p (n - 1 - k)) n := by
      congr 1
      funext k
      congr 1
      omega
    rw [e, ih]
    simp
    omega
theorem q_nb_0 {p : Nat → Bool} : ∀ {n : Nat}, q_nb p n = 0 ↔ ∀ k, k < n → p k = false
  | 0 => ⟨fun _ k hk => absurd hk (Nat.not_lt_zero k), fun _ => rfl⟩
  | n + 1 => by
    have ih := q_nb_0 (p := p) (n := n)
    unfold q_nb
    constructor
    · intro e k hk
      cases hp : p n with
      | true => simp [hp] at e
      | false =>
        rcases Nat.lt_or_ge k n with q | q
        · exact ih.mp (by simp [hp] at e; exact e) k q
        · have : k = n := by omega
          rw [this]; exact hp
    · intro e
      rw [ih.mpr (fun k hk => e k (by omega)), e n (by omega)]
      rfl
theorem q_ff_all {p : Nat → Bool} {n : Nat} : q_ff p n = n ↔ ∀ k, k < n → p k = false := by
  constructor
  · intro e k hk; exact q_ff_no p n k (by omega)
  · intro e
    rcases Nat.lt_or_ge (q_ff p n) n with q | q
    · have h1 := q_ff_yes p n q
      rw [e _ q] at h1
      cases h1
    · have := q_ff_le p n; omega
theorem q_ff_is {p : Nat → Bool} {n t : Nat} (ht : t < n) (hp : p t = true) (hb : ∀ k, k < t → p k = false) : q_ff p n = t := by
  rcases Nat.lt_trichotomy (q_ff p n) t with q | q | q
  · have h1 := q_ff_yes p n (by omega)
    rw [hb _ q] at h1; cases h1
  · exact q
  · have h1 := q_ff_no p n t q
    rw [hp] at h1; cases h1
def q_la (p : Nat → Bool) : Nat → Int32
  | 0 => (-1)
  | n + 1 => if p n then nI n else q_la p n
-- specifications
def sp_fault (S : q_S) (x1 : Int32) : Int32 × q_S := match q_in x1 2 with
  | some t => (if t = 0 then q_f0 S else q_f1 S, S)
  | none => ((-2), S)
def sp_line (S : q_S) (x1 : Int32) : Int32 × q_S := match q_in x1 24 with
  | some k => (if k < q_pl S then nI (q_pv S k) else (-1), S)
  | none => ((-2), S)
def sp_hole (S : q_S) (x1 x2 : Int32) : Int32 × q_S := match q_in x1 (q_hn S), q_in x2 4 with
  | some k, some j => (nI (if j = 0 then q_hp S k else if j = 1 then q_hr S k else if j = 2 then q_hh S k else q_hl S k), S)
  | _, _ => ((-2), S)
def sp_printed (S : q_S) (x1 x2 : Int32) : Int32 × q_S := match q_in x1 8, q_in x2 2 with
  | some l, some j => (q_lv S (if j = 0 then q_nx S l else q_ah S l), S)
  | _, _ => ((-2), S)
abbrev q_p (S : q_S) (t : Nat) : Nat := q_P S none (q_cg S) t
def sp_step (S : q_S) (x1 x2 : Int32) : Int32 × q_S := match q_in x1 40, q_in x2 4 with
  | some t, some j => (if j = 0 then q_lv S (q_p S t) else if j = 1 then q_bv (q_by S none t) else if j = 2 then nI (q_wh S t) else q_lv S (q_pr S t), S)
  | _, _ => ((-2), S)
def q_ws (S : q_S) (t k : Nat) : Int32 := if q_he S none k t = true then nI (q_wp S k (q_p S (t - 1)) (q_cg S t)) else (-1)
def sp_whispers (S : q_S) (x1 x2 : Int32) : Int32 × q_S := match q_in x1 40, q_in x2 (q_hn S) with
  | some t, some k => (q_ws S t k, S)
  | _, _ => ((-2), S)
def q_df (S : q_S) (t : Nat) : Bool := decide (q_pl S ≠ 0) && decide (q_p S t ≠ q_pr S t)
def q_dr (S : q_S) (j : Nat) : Int32 := if q_ff (q_df S) 40 = 40 then (-1) else if j = 0 then nI (q_ff (q_df S) 40) else nI (q_nb (q_df S) 40)
def sp_drift (S : q_S) (x1 : Int32) : Int32 × q_S := match q_in x1 2 with
  | some j => (q_dr S j, S)
  | none => ((-2), S)
def q_ne (S : q_S) (n i : Nat) : Bool := decide (q_pl S ≠ 0) && decide (q_p S (16 + i) ≠ q_p S (16 + i + n))
def q_rn (S : q_S) (n : Nat) : Bool := decide (q_ff (q_ne S n) (24 - n) = 24 - n)
def q_ro (S : q_S) : Int32 := if q_ff (fun i => q_rn S (i + 1)) 12 = 12 then (-1) else nI (q_ff (fun i => q_rn S (i + 1)) 12 + 1)
def sp_round (S : q_S) : Int32 × q_S := (q_ro S, S)
def q_is (S : q_S) (l t : Nat) : Bool := decide (q_pl S ≠ 0) && decide (q_p S t = l)
def q_of (S : q_S) (l j : Nat) : Int32 := if j = 0 then nI (q_nb (q_is S l) 40) else q_la (q_is S l) 40
def sp_often (S : q_S) (x1 x2 : Int32) : Int32 × q_S := match q_in x1 8, q_in x2 2 with
  | some l, some j => (q_of S l j, S)
  | _, _ => ((-2), S)
-- the class
theorem s_printedIn {S : q_S} {h : ph_Hp} (w : q_wf S) (ka : q_A S h) {t : Nat} (ht : t < 40) : f_X3_printedIn (nI t) h = some (q_lv S (q_pr S t), h) := by
  have hpl := q_pl_le w
  unfold f_X3_printedIn
  rw [ka.1]
  by_cases c : q_pl S = 0
  · rw [q_lv_0 c]
    simp (disch := omega) only [i_lt_f, i_lt_t, i_le_f, i_le_t, i_eq_f, i_eq_t, i_m1_lt, i_eqm_f, i_meq_f, i_mm_t, i_mle_t, i_nle_m, rz_0, rz_1, if_true, if_false, cl_some, ldI_at, ldJ_at, stI_at, stZ_at, stJ_at, pfI_at, pfJ_at, jn_at, dvI_at, rmI_at, irem_at, nI_add, pk_mul, pk_sub, n_dec, n_sub1]
  · rw [q_lv_1 c]
    simp (disch := omega) only [i_lt_f, i_lt_t, i_le_f, i_le_t, i_eq_f, i_eq_t, i_m1_lt, i_eqm_f, i_meq_f, i_mm_t, i_mle_t, i_nle_m, rz_0, rz_1, if_true, if_false, cl_some, ldI_at, ldJ_at, stI_at, stZ_at, stJ_at, pfI_at, pfJ_at, jn_at, dvI_at, rmI_at, irem_at, nI_add, pk_mul, pk_sub, n_dec, n_sub1]
    rw [s_lineIn w ka.1 ka.2.2.1 (Nat.mod_lt _ (by omega)), cl_some]
    rfl
theorem k_fault (S : q_S) (h : ph_Hp) (K : CI S h) (x1 : Int32) : ph_O (f_X8_fault x1 h) (Cq h (sp_fault S x1).1 (sp_fault S x1).2) := by
  unfold f_X8_fault sp_fault
  rcases q_ins x1 2 (by decide) with ⟨e1, b1⟩ | ⟨t, ht, rfl, e1⟩
  · rw [s_wo h b1, cl_some, e1]
    simp (disch := omega) only [i_lt_f, i_lt_t, i_le_f, i_le_t, i_eq_f, i_eq_t, i_m1_lt, i_eqm_f, i_meq_f, i_mm_t, i_mle_t, i_nle_m, rz_0, rz_1, if_true, if_false, cl_some, ldI_at, ldJ_at, stI_at, stZ_at, stJ_at, pfI_at, pfJ_at, jn_at, dvI_at, rmI_at, irem_at, nI_add, pk_mul, pk_sub, n_dec, n_sub1]
    exact O_ret ⟨rfl, K, q_aM_rf h⟩
  rw [s_wi h ht (by decide), cl_some, e1]
  simp (disch := omega) only [i_lt_f, i_lt_t, i_le_f, i_le_t, i_eq_f, i_eq_t, i_m1_lt, i_eqm_f, i_meq_f, i_mm_t, i_mle_t, i_nle_m, rz_0, rz_1, if_true, if_false, cl_some, ldI_at, ldJ_at, stI_at, stZ_at, stJ_at, pfI_at, pfJ_at, jn_at, dvI_at, rmI_at, irem_at, nI_add, pk_mul, pk_sub, n_dec, n_sub1]
  refine O_cl (s_staged K) (fun _ g ⟨K1, st, k7, am, ag⟩ => ?_)
  by_cases c : t = 0
  · simp (disch := omega) only [i_lt_f, i_lt_t, i_le_f, i_le_t, i_eq_f, i_eq_t, i_m1_lt, i_eqm_f, i_meq_f, i_mm_t, i_mle_t, i_nle_m, rz_0, rz_1, if_true, if_false, cl_some, ldI_at, ldJ_at, stI_at, stZ_at, stJ_at, pfI_at, pfJ_at, jn_at, dvI_at, rmI_at, irem_at, nI_add, pk_mul, pk_sub, n_dec, n_sub1]
    rw [st.1.2.1]
    exact O_ret ⟨by rw [if_pos c], K1, am⟩
  · simp (disch := omega) only [i_lt_f, i_lt_t, i_le_f, i_le_t, i_eq_f, i_eq_t, i_m1_lt, i_eqm_f, i_meq_f, i_mm_t, i_mle_t, i_nle_m, rz_0, rz_1, if_true, if_false, cl_some, ldI_at, ldJ_at, stI_at, stZ_at, stJ_at, pfI_at, pfJ_at, jn_at, dvI_at, rmI_at, irem_at, nI_add, pk_mul, pk_sub, n_dec, n_sub1]
    rw [st.2.1.2.1]
    exact O_ret ⟨by rw [if_neg c], K1, am⟩
theorem k_line (S : q_S) (h : ph_Hp) (K : CI S h) (x1 : Int32) : ph_O (f_X8_line x1 h) (Cq h (sp_line S x1).1 (sp_line S x1).2) := by
  unfold f_X8_line sp_line
  rcases q_ins x1 24 (by decide) with ⟨e1, b1⟩ | ⟨t, ht, rfl, e1⟩
  · rw [s_wo h b1, cl_some, e1]
    simp (disch := omega) only [i_lt_f, i_lt_t, i_le_f, i_le_t, i_eq_f, i_eq_t, i_m1_lt, i_eqm_f, i_meq_f, i_mm_t, i_mle_t, i_nle_m, rz_0, rz_1, if_true, if_false, cl_some, ldI_at, ldJ_at, stI_at, stZ_at, stJ_at, pfI_at, pfJ_at, jn_at, dvI_at, rmI_at, irem_at, nI_add, pk_mul, pk_sub, n_dec, n_sub1]
    exact O_ret ⟨rfl, K, q_aM_rf h⟩
  rw [s_wi h ht (by decide), cl_some, e1]
  simp (disch := omega) only [i_lt_f, i_lt_t, i_le_f, i_le_t, i_eq_f, i_eq_t, i_m1_lt, i_eqm_f, i_meq_f, i_mm_t, i_mle_t, i_nle_m, rz_0, rz_1, if_true, if_false, cl_some, ldI_at, ldJ_at, stI_at, stZ_at, stJ_at, pfI_at, pfJ_at, jn_at, dvI_at, rmI_at, irem_at, nI_add, pk_mul, pk_sub, n_dec, n_sub1]
  refine O_cl (s_staged K) (fun _ g ⟨K1, st, k7, am, ag⟩ => ?_)
  have hpl := q_pl_le K1.1
  by_cases c : t < q_pl S
  · rw [s_lineIn K1.1 st.1.1 st.1.2.2.1 c, cl_some]
    exact O_ret ⟨by rw [if_pos c], K1, am⟩
  · unfold f_X3_lineIn
    rw [st.1.1]
    simp (disch := omega) only [i_lt_f, i_lt_t, i_le_f, i_le_t, i_eq_f, i_eq_t, i_m1_lt, i_eqm_f, i_meq_f, i_mm_t, i_mle_t, i_nle_m, rz_0, rz_1, if_true, if_false, cl_some, ldI_at, ldJ_at, stI_at, stZ_at, stJ_at, pfI_at, pfJ_at, jn_at, dvI_at, rmI_at, irem_at, nI_add, pk_mul, pk_sub, n_dec, n_sub1]
    exact O_ret ⟨by rw [if_neg c], K1, am⟩
theorem k_hole (S : q_S) (h : ph_Hp) (K : CI S h) (x1 x2 : Int32) : ph_O (f_X8_hole x1 x2 h) (Cq h (sp_hole S x1 x2).1 (sp_hole S x1 x2).2) := by
  have hhn := q_hn_le K.1
  unfold f_X8_hole sp_hole
  refine O_cl (s_staged K) (fun _ g ⟨K1, st, k7, am, ag⟩ => ?_)
  rw [st.2.1.1]
  rcases q_ins x1 (q_hn S) (by omega) with ⟨e1, b1⟩ | ⟨t, ht, rfl, e1⟩
  · rw [s_wo g b1, cl_some, e1]
    simp (disch := omega) only [i_lt_f, i_lt_t, i_le_f, i_le_t, i_eq_f, i_eq_t, i_m1_lt, i_eqm_f, i_meq_f, i_mm_t, i_mle_t, i_nle_m, rz_0, rz_1, if_true, if_false, cl_some, ldI_at, ldJ_at, stI_at, stZ_at, stJ_at, pfI_at, pfJ_at, jn_at, dvI_at, rmI_at, irem_at, nI_add, pk_mul, pk_sub, n_dec, n_sub1]
    exact O_ret ⟨rfl, K1, am⟩
  rw [s_wi g ht (by omega), cl_some, e1]
  simp (disch := omega) only [i_lt_f, i_lt_t, i_le_f, i_le_t, i_eq_f, i_eq_t, i_m1_lt, i_eqm_f, i_meq_f, i_mm_t, i_mle_t, i_nle_m, rz_0, rz_1, if_true, if_false, cl_some, ldI_at, ldJ_at, stI_at, stZ_at, stJ_at, pfI_at, pfJ_at, jn_at, dvI_at, rmI_at, irem_at, nI_add, pk_mul, pk_sub, n_dec, n_sub1]
  rcases q_ins x2 4 (by decide) with ⟨e2, b2⟩ | ⟨j, hj, rfl, e2⟩
  · rw [s_wo g b2, cl_some, e2]
    simp (disch := omega) only [i_lt_f, i_lt_t, i_le_f, i_le_t, i_eq_f, i_eq_t, i_m1_lt, i_eqm_f, i_meq_f, i_mm_t, i_mle_t, i_nle_m, rz_0, rz_1, if_true, if_false, cl_some, ldI_at, ldJ_at, stI_at, stZ_at, stJ_at, pfI_at, pfJ_at, jn_at, dvI_at, rmI_at, irem_at, nI_add, pk_mul, pk_sub, n_dec, n_sub1]
    exact O_ret ⟨rfl, K1, am⟩
  rw [s_wi g hj (by decide), cl_some, e2]
  simp (disch := omega) only [i_lt_f, i_lt_t, i_le_f, i_le_t, i_eq_f, i_eq_t, i_m1_lt, i_eqm_f, i_meq_f, i_mm_t, i_mle_t, i_nle_m, rz_0, rz_1, if_true, if_false, cl_some, ldI_at, ldJ_at, stI_at, stZ_at, stJ_at, pfI_at, pfJ_at, jn_at, dvI_at, rmI_at, irem_at, nI_add, pk_mul, pk_sub, n_dec, n_sub1]
  obtain ⟨v0, v1, v2, v3⟩ := st.2.1.2.2 t ht
  rcases (show j = 0 ∨ j = 1 ∨ j = 2 ∨ j = 3 by omega) with rfl | rfl | rfl | rfl
  · simp (disch := omega) only [i_lt_f, i_lt_t, i_le_f, i_le_t, i_eq_f, i_eq_t, i_m1_lt, i_eqm_f, i_meq_f, i_mm_t, i_mle_t, i_nle_m, rz_0, rz_1, if_true, if_false, cl_some, ldI_at, ldJ_at, stI_at, stZ_at, stJ_at, pfI_at, pfJ_at, jn_at, dvI_at, rmI_at, irem_at, nI_add, pk_mul, pk_sub, n_dec, n_sub1]
    rw [s_placeOf g (by omega), cl_some, v0]
    exact O_ret ⟨rfl, K1, am⟩
  · simp (disch := omega) only [i_lt_f, i_lt_t, i_le_f, i_le_t, i_eq_f, i_eq_t, i_m1_lt, i_eqm_f, i_meq_f, i_mm_t, i_mle_t, i_nle_m, rz_0, rz_1, if_true, if_false, cl_some, ldI_at, ldJ_at, stI_at, stZ_at, stJ_at, pfI_at, pfJ_at, jn_at, dvI_at, rmI_at, irem_at, nI_add, pk_mul, pk_sub, n_dec, n_sub1]
    rw [s_hearsOf g (by omega), cl_some, v1]
    exact O_ret ⟨rfl, K1, am⟩
  · simp (disch := omega) only [i_lt_f, i_lt_t, i_le_f, i_le_t, i_eq_f, i_eq_t, i_m1_lt, i_eqm_f, i_meq_f, i_mm_t, i_mle_t, i_nle_m, rz_0, rz_1, if_true, if_false, cl_some, ldI_at, ldJ_at, stI_at, stZ_at, stJ_at, pfI_at, pfJ_at, jn_at, dvI_at, rmI_at, irem_at, nI_add, pk_mul, pk_sub, n_dec, n_sub1]
    rw [s_habitOf g (by omega), cl_some, v2]
    exact O_ret ⟨rfl, K1, am⟩
  · simp (disch := omega) only [i_lt_f, i_lt_t, i_le_f, i_le_t, i_eq_f, i_eq_t, i_m1_lt, i_eqm_f, i_meq_f, i_mm_t, i_mle_t, i_nle_m, rz_0, rz_1, if_true, if_false, cl_some, ldI_at, ldJ_at, stI_at, stZ_at, stJ_at, pfI_at, pfJ_at, jn_at, dvI_at, rmI_at, irem_at, nI_add, pk_mul, pk_sub, n_dec, n_sub1]
    rw [s_lineOf g (by omega), cl_some, v3]
    exact O_ret ⟨rfl, K1, am⟩
theorem k_printed (S : q_S) (h : ph_Hp) (K : CI S h) (x1 x2 : Int32) : ph_O (f_X8_printed x1 x2 h) (Cq h (sp_printed S x1 x2).1 (sp_printed S x1 x2).2) := by
  unfold f_X8_printed sp_printed
  rcases q_ins x1 8 (by decide) with ⟨e1, b1⟩ | ⟨t, ht, rfl, e1⟩
  · rw [s_wo h b1, cl_some, e1]
    simp (disch := omega) only [i_lt_f, i_lt_t, i_le_f, i_le_t, i_eq_f, i_eq_t, i_m1_lt, i_eqm_f, i_meq_f, i_mm_t, i_mle_t, i_nle_m, rz_0, rz_1, if_true, if_false, cl_some, ldI_at, ldJ_at, stI_at, stZ_at, stJ_at, pfI_at, pfJ_at, jn_at, dvI_at, rmI_at, irem_at, nI_add, pk_mul, pk_sub, n_dec, n_sub1]
    exact O_ret ⟨rfl, K, q_aM_rf h⟩
  rw [s_wi h ht (by decide), cl_some, e1]
  simp (disch := omega) only [i_lt_f, i_lt_t, i_le_f, i_le_t, i_eq_f, i_eq_t, i_m1_lt, i_eqm_f, i_meq_f, i_mm_t, i_mle_t, i_nle_m, rz_0, rz_1, if_true, if_false, cl_some, ldI_at, ldJ_at, stI_at, stZ_at, stJ_at, pfI_at, pfJ_at, jn_at, dvI_at, rmI_at, irem_at, nI_add, pk_mul, pk_sub, n_dec, n_sub1]
  rcases q_ins x2 2 (by decide) with ⟨e2, b2⟩ | ⟨j, hj, rfl, e2⟩
  · rw [s_wo h b2, cl_some, e2]
    simp (disch := omega) only [i_lt_f, i_lt_t, i_le_f, i_le_t, i_eq_f, i_eq_t, i_m1_lt, i_eqm_f, i_meq_f, i_mm_t, i_mle_t, i_nle_m, rz_0, rz_1, if_true, if_false, cl_some, ldI_at, ldJ_at, stI_at, stZ_at, stJ_at, pfI_at, pfJ_at, jn_at, dvI_at, rmI_at, irem_at, nI_add, pk_mul, pk_sub, n_dec, n_sub1]
    exact O_ret ⟨rfl, K, q_aM_rf h⟩
  rw [s_wi h hj (by decide), cl_some, e2]
  simp (disch := omega) only [i_lt_f, i_lt_t, i_le_f, i_le_t, i_eq_f, i_eq_t, i_m1_lt, i_eqm_f, i_meq_f, i_mm_t, i_mle_t, i_nle_m, rz_0, rz_1, if_true, if_false, cl_some, ldI_at, ldJ_at, stI_at, stZ_at, stJ_at, pfI_at, pfJ_at, jn_at, dvI_at, rmI_at, irem_at, nI_add, pk_mul, pk_sub, n_dec, n_sub1]
  refine O_cl (s_staged K) (fun _ g ⟨K1, st, k7, am, ag⟩ => ?_)
  by_cases c : j = 0
  · simp (disch := omega) only [i_lt_f, i_lt_t, i_le_f, i_le_t, i_eq_f, i_eq_t, i_m1_lt, i_eqm_f, i_meq_f, i_mm_t, i_mle_t, i_nle_m, rz_0, rz_1, if_true, if_false, cl_some, ldI_at, ldJ_at, stI_at, stZ_at, stJ_at, pfI_at, pfJ_at, jn_at, dvI_at, rmI_at, irem_at, nI_add, pk_mul, pk_sub, n_dec, n_sub1]
    rw [s_nextTo g ht, cl_some, st.1.2.2.2.1 t ht]
    exact O_ret ⟨by rw [if_pos c], K1, am⟩
  · simp (disch := omega) only [i_lt_f, i_lt_t, i_le_f, i_le_t, i_eq_f, i_eq_t, i_m1_lt, i_eqm_f, i_meq_f, i_mm_t, i_mle_t, i_nle_m, rz_0, rz_1, if_true, if_false, cl_some, ldI_at, ldJ_at, stI_at, stZ_at, stJ_at, pfI_at, pfJ_at, jn_at, dvI_at, rmI_at, irem_at, nI_add, pk_mul, pk_sub, n_dec, n_sub1]
    rw [s_aheadOf g ht, cl_some, st.1.2.2.2.2 t ht]
    exact O_ret ⟨by rw [if_neg c], K1, am⟩
theorem k_step (S : q_S) (h : ph_Hp) (K : CI S h) (x1 x2 : Int32) : ph_O (f_X8_step x1 x2 h) (Cq h (sp_step S x1 x2).1 (sp_step S x1 x2).2) := by
  unfold f_X8_step sp_step
  rcases q_ins x1 40 (by decide) with ⟨e1, b1⟩ | ⟨t, ht, rfl, e1⟩
  · rw [s_wo h b1, cl_some, e1]
    simp (disch := omega) only [i_lt_f, i_lt_t, i_le_f, i_le_t, i_eq_f, i_eq_t, i_m1_lt, i_eqm_f, i_meq_f, i_mm_t, i_mle_t, i_nle_m, rz_0, rz_1, if_true, if_false, cl_some, ldI_at, ldJ_at, stI_at, stZ_at, stJ_at, pfI_at, pfJ_at, jn_at, dvI_at, rmI_at, irem_at, nI_add, pk_mul, pk_sub, n_dec, n_sub1]
    exact O_ret ⟨rfl, K, q_aM_rf h⟩
  rw [s_wi h ht (by decide), cl_some, e1]
  simp (disch := omega) only [i_lt_f, i_lt_t, i_le_f, i_le_t, i_eq_f, i_eq_t, i_m1_lt, i_eqm_f, i_meq_f, i_mm_t, i_mle_t, i_nle_m, rz_0, rz_1, if_true, if_false, cl_some, ldI_at, ldJ_at, stI_at, stZ_at, stJ_at, pfI_at, pfJ_at, jn_at, dvI_at, rmI_at, irem_at, nI_add, pk_mul, pk_sub, n_dec, n_sub1]
  rcases q_ins x2 4 (by decide) with ⟨e2, b2⟩ | ⟨j, hj, rfl, e2⟩
  · rw [s_wo h b2, cl_some, e2]
    simp (disch := omega) only [i_lt_f, i_lt_t, i_le_f, i_le_t, i_eq_f, i_eq_t, i_m1_lt, i_eqm_f, i_meq_f, i_mm_t, i_mle_t, i_nle_m, rz_0, rz_1, if_true, if_false, cl_some, ldI_at, ldJ_at, stI_at, stZ_at, stJ_at, pfI_at, pfJ_at, jn_at, dvI_at, rmI_at, irem_at, nI_add, pk_mul, pk_sub, n_dec, n_sub1]
    exact O_ret ⟨rfl, K, q_aM_rf h⟩
  rw [s_wi h hj (by decide), cl_some, e2]
  simp (disch := omega) only [i_lt_f, i_lt_t, i_le_f, i_le_t, i_eq_f, i_eq_t, i_m1_lt, i_eqm_f, i_meq_f, i_mm_t, i_mle_t, i_nle_m, rz_0, rz_1, if_true, if_false, cl_some, ldI_at, ldJ_at, stI_at, stZ_at, stJ_at, pfI_at, pfJ_at, jn_at, dvI_at, rmI_at, irem_at, nI_add, pk_mul, pk_sub, n_dec, n_sub1]
  refine O_cl (s_staged K) (fun _ g ⟨K1, st, k7, am, ag⟩ => ?_)
  rcases (show j = 0 ∨ j = 1 ∨ j = 2 ∨ j = 3 by omega) with rfl | rfl | rfl | rfl
  · simp (disch := omega) only [i_lt_f, i_lt_t, i_le_f, i_le_t, i_eq_f, i_eq_t, i_m1_lt, i_eqm_f, i_meq_f, i_mm_t, i_mle_t, i_nle_m, rz_0, rz_1, if_true, if_false, cl_some, ldI_at, ldJ_at, stI_at, stZ_at, stJ_at, pfI_at, pfJ_at, jn_at, dvI_at, rmI_at, irem_at, nI_add, pk_mul, pk_sub, n_dec, n_sub1]
    rw [s_playedIn g ht, cl_some, (st.2.2.2.2 t ht).2]
    exact O_ret ⟨rfl, K1, am⟩
  · simp (disch := omega) only [i_lt_f, i_lt_t, i_le_f, i_le_t, i_eq_f, i_eq_t, i_m1_lt, i_eqm_f, i_meq_f, i_mm_t, i_mle_t, i_nle_m, rz_0, rz_1, if_true, if_false, cl_some, ldI_at, ldJ_at, stI_at, stZ_at, stJ_at, pfI_at, pfJ_at, jn_at, dvI_at, rmI_at, irem_at, nI_add, pk_mul, pk_sub, n_dec, n_sub1]
    rw [s_byIn g ht, cl_some, (st.2.2.2.2 t ht).1]
    exact O_ret ⟨rfl, K1, am⟩
  · simp (disch := omega) only [i_lt_f, i_lt_t, i_le_f, i_le_t, i_eq_f, i_eq_t, i_m1_lt, i_eqm_f, i_meq_f, i_mm_t, i_mle_t, i_nle_m, rz_0, rz_1, if_true, if_false, cl_some, ldI_at, ldJ_at, stI_at, stZ_at, stJ_at, pfI_at, pfJ_at, jn_at, dvI_at, rmI_at, irem_at, nI_add, pk_mul, pk_sub, n_dec, n_sub1]
    rw [s_whereIn g ht, cl_some, (st.2.2.2.1 t ht).1]
    exact O_ret ⟨rfl, K1, am⟩
  · simp (disch := omega) only [i_lt_f, i_lt_t, i_le_f, i_le_t, i_eq_f, i_eq_t, i_m1_lt, i_eqm_f, i_meq_f, i_mm_t, i_mle_t, i_nle_m, rz_0, rz_1, if_true, if_false, cl_some, ldI_at, ldJ_at, stI_at, stZ_at, stJ_at, pfI_at, pfJ_at, jn_at, dvI_at, rmI_at, irem_at, nI_add, pk_mul, pk_sub, n_dec, n_sub1]
    rw [s_printedIn K1.1 st.1 ht, cl_some]
    exact O_ret ⟨rfl, K1, am⟩
theorem k_whispers (S : q_S) (h : ph_Hp) (K : CI S h) (x1 x2 : Int32) : ph_O (f_X8_whispers x1 x2 h) (Cq h (sp_whispers S x1 x2).1 (sp_whispers S x1 x2).2) := by
  have hhn := q_hn_le K.1
  unfold f_X8_whispers sp_whispers
  refine O_cl (s_staged K) (fun _ g ⟨K1, st, k7, am, ag⟩ => ?_)
  rcases q_ins x1 40 (by decide) with ⟨e1, b1⟩ | ⟨t, ht, rfl, e1⟩
  · rw [s_wo g b1, cl_some, e1]
    simp (disch := omega) only [i_lt_f, i_lt_t, i_le_f, i_le_t, i_eq_f, i_eq_t, i_m1_lt, i_eqm_f, i_meq_f, i_mm_t, i_mle_t, i_nle_m, rz_0, rz_1, if_true, if_false, cl_some, ldI_at, ldJ_at, stI_at, stZ_at, stJ_at, pfI_at, pfJ_at, jn_at, dvI_at, rmI_at, irem_at, nI_add, pk_mul, pk_sub, n_dec, n_sub1]
    exact O_ret ⟨rfl, K1, am⟩
  rw [s_wi g ht (by decide), cl_some, e1]
  simp (disch := omega) only [i_lt_f, i_lt_t, i_le_f, i_le_t, i_eq_f, i_eq_t, i_m1_lt, i_eqm_f, i_meq_f, i_mm_t, i_mle_t, i_nle_m, rz_0, rz_1, if_true, if_false, cl_some, ldI_at, ldJ_at, stI_at, stZ_at, stJ_at, pfI_at, pfJ_at, jn_at, dvI_at, rmI_at, irem_at, nI_add, pk_mul, pk_sub, n_dec, n_sub1]
  rw [st.2.1.1]
  rcases q_ins x2 (q_hn S) (by omega) with ⟨e2, b2⟩ | ⟨j, hj, rfl, e2⟩
  · rw [s_wo g b2, cl_some, e2]
    simp (disch := omega) only [i_lt_f, i_lt_t, i_le_f, i_le_t, i_eq_f, i_eq_t, i_m1_lt, i_eqm_f, i_meq_f, i_mm_t, i_mle_t, i_nle_m, rz_0, rz_1, if_true, if_false, cl_some, ldI_at, ldJ_at, stI_at, stZ_at, stJ_at, pfI_at, pfJ_at, jn_at, dvI_at, rmI_at, irem_at, nI_add, pk_mul, pk_sub, n_dec, n_sub1]
    exact O_ret ⟨rfl, K1, am⟩
  rw [s_wi g hj (by omega), cl_some, e2]
  simp (disch := omega) only [i_lt_f, i_lt_t, i_le_f, i_le_t, i_eq_f, i_eq_t, i_m1_lt, i_eqm_f, i_meq_f, i_mm_t, i_mle_t, i_nle_m, rz_0, rz_1, if_true, if_false, cl_some, ldI_at, ldJ_at, stI_at, stZ_at, stJ_at, pfI_at, pfJ_at, jn_at, dvI_at, rmI_at, irem_at, nI_add, pk_mul, pk_sub, n_dec, n_sub1]
  rw [s_hears (f := none) (x := 0) K1.1 st.1.1 st.2.1 st.2.2.2.1 hj ht (by simp), cl_some]
  unfold q_ws
  by_cases c : q_he S none j t = true
  · obtain ⟨d1, d2⟩ := q_he_pl c
    have t0 : t ≠ 0 := fun z => by rw [z, q_dk_0] at d2; cases d2
    rw [if_pos c, if_pos c]
    simp (disch := omega) only [i_lt_f, i_lt_t, i_le_f, i_le_t, i_eq_f, i_eq_t, i_m1_lt, i_eqm_f, i_meq_f, i_mm_t, i_mle_t, i_nle_m, rz_0, rz_1, if_true, if_false, cl_some, ldI_at, ldJ_at, stI_at, stZ_at, stJ_at, pfI_at, pfJ_at, jn_at, dvI_at, rmI_at, irem_at, nI_add, pk_mul, pk_sub, n_dec, n_sub1]
    rw [s_playedIn g (by omega), cl_some, s_coughsIn g ht, cl_some, (st.2.2.2.2 (t - 1) (by omega)).2, (st.2.2.2.1 t ht).2.1, q_lv_1 d1, s_whispered K1.1 st.2.2.1 d1 hj (q_P_lt d1 _ _ _), cl_some]
    exact O_ret ⟨rfl, K1, am⟩
  · rw [if_neg c, if_neg c]
    simp (disch := omega) only [i_lt_f, i_lt_t, i_le_f, i_le_t, i_eq_f, i_eq_t, i_m1_lt, i_eqm_f, i_meq_f, i_mm_t, i_mle_t, i_nle_m, rz_0, rz_1, if_true, if_false, cl_some, ldI_at, ldJ_at, stI_at, stZ_at, stJ_at, pfI_at, pfJ_at, jn_at, dvI_at, rmI_at, irem_at, nI_add, pk_mul, pk_sub, n_dec, n_sub1]
    exact O_ret ⟨rfl, K1, am⟩
theorem q_df_iff (S : q_S) (t : Nat) : q_lv S (q_p S t) = q_lv S (q_pr S t) ↔ q_df S t = false := by
  unfold q_df
  by_cases c : q_pl S = 0
  · rw [q_lv_0 c, q_lv_0 c]; simp [c]
  · rw [q_lv_eq c (q_P_lt c _ _ _) (q_pr_lt c t)]; simp [c]
theorem k_drift (S : q_S) (h : ph_Hp) (K : CI S h) (x1 : Int32) : ph_O (f_X8_drift x1 h) (Cq h (sp_drift S x1).1 (sp_drift S x1).2) := by
  unfold f_X8_drift sp_drift
  rcases q_ins x1 2 (by decide) with ⟨e1, b1⟩ | ⟨j, hj, rfl, e1⟩
  · rw [s_wo h b1, cl_some, e1]
    simp (disch := omega) only [i_lt_f, i_lt_t, i_le_f, i_le_t, i_eq_f, i_eq_t, i_m1_lt, i_eqm_f, i_meq_f, i_mm_t, i_mle_t, i_nle_m, rz_0, rz_1, if_true, if_false, cl_some, ldI_at, ldJ_at, stI_at, stZ_at, stJ_at, pfI_at, pfJ_at, jn_at, dvI_at, rmI_at, irem_at, nI_add, pk_mul, pk_sub, n_dec, n_sub1]
    exact O_ret ⟨rfl, K, q_aM_rf h⟩
  rw [s_wi h hj (by decide), cl_some, e1]
  simp (disch := omega) only [i_lt_f, i_lt_t, i_le_f, i_le_t, i_eq_f, i_eq_t, i_m1_lt, i_eqm_f, i_meq_f, i_mm_t, i_mle_t, i_nle_m, rz_0, rz_1, if_true, if_false, cl_some, ldI_at, ldJ_at, stI_at, stZ_at, stJ_at, pfI_at, pfJ_at, jn_at, dvI_at, rmI_at, irem_at, nI_add, pk_mul, pk_sub, n_dec, n_sub1]
  refine O_cl (s_staged K) (fun _ g ⟨K1, st, k7, am, ag⟩ => ?_)
  refine O_for 40 (fun i y => y.2.2.1 = nI (40 - i) - nI 1 ∧ y.2.2.2 = g ∧ y.2.1 = nI (q_nb (fun k => q_df S (40 - 1 - k)) i) ∧ ((y.1 = (-1) ∧ ∀ t, 40 - i ≤ t → t < 40 → q_df S t = false) ∨ ∃ t0, y.1 = nI t0 ∧ 40 - i ≤ t0 ∧ t0 < 40 ∧ q_df S t0 = true ∧ ∀ t, 40 - i ≤ t → t < t0 → q_df S t = false)) (by omega) ⟨show nI 39 = nI 40 - nI 1 by decide, rfl, rfl, Or.inl ⟨rfl, fun t h1 h2 => by omega⟩⟩ ?_ ?_
  · rintro rec i ⟨x, y, z, g1⟩ hi ⟨ex, eg, en, ef⟩ hrec
    dsimp only at ex eg en ef ⊢
    subst eg
    obtain ⟨p, hp⟩ : ∃ p, 40 - i = p + 1 := ⟨39 - i, by omega⟩
    rw [hp, n_sub1] at ex
    subst ex
    subst en
    have hnb := q_nb_le (fun k => q_df S (40 - 1 - k)) i
    simp (disch := omega) only [i_lt_f, i_lt_t, i_le_f, i_le_t, i_eq_f, i_eq_t, i_m1_lt, i_eqm_f, i_meq_f, i_mm_t, i_mle_t, i_nle_m, rz_0, rz_1, if_true, if_false, cl_some, ldI_at, ldJ_at, stI_at, stZ_at, stJ_at, pfI_at, pfJ_at, jn_at, dvI_at, rmI_at, irem_at, nI_add, pk_mul, pk_sub, n_dec, n_sub1]
    rw [s_playedIn g1 (by omega), cl_some, s_printedIn K1.1 st.1 (by omega), cl_some, (st.2.2.2.2 p (by omega)).2]
    have e39 : 40 - 1 - i = p := by omega
    have e40 : 40 - (i + 1) = p := by omega
    by_cases c : q_df S p = false
    · rw [if_pos ((q_df_iff S p).mpr c)]
      refine hrec _ ⟨by rw [e40]; exact n_am1 _, rfl, ?_, ?_⟩
      · show nI _ = nI (q_nb _ i + if q_df S (40 - 1 - i) then 1 else 0)
        rw [e39, c]; rfl
      · rw [e40]
        rcases ef with ⟨f1, f2⟩ | ⟨t0, f1, f2, f3, f4, f5⟩
        · refine Or.inl ⟨f1, fun t h1 h2 => ?_⟩
          rcases Nat.lt_or_ge p t with q | q
          · exact f2 t (by omega) h2
          · rw [show t = p by omega]; exact c
        · refine Or.inr ⟨t0, f1, by omega, f3, f4, fun t h1 h2 => ?_⟩
          rcases Nat.lt_or_ge p t with q | q
          · exact f5 t (by omega) h2
          · rw [show t = p by omega]; exact c
    · have ct : q_df S p = true := by cases hq : q_df S p with
        | true => rfl
        | false => exact absurd hq c
      rw [if_neg (fun z => c ((q_df_iff S p).mp z))]
      refine hrec _ ⟨by rw [e40]; exact n_am1 _, rfl, ?_, ?_⟩
      · show nI _ = nI (q_nb _ i + if q_df S (40 - 1 - i) then 1 else 0)
        rw [e39, ct]; rfl
      · rw [e40]
        exact Or.inr ⟨p, rfl, Nat.le_refl p, by omega, ct, fun t h1 h2 => by omega⟩
  · rintro rec ⟨x, y, z, g1⟩ ⟨ex, eg, en, ef⟩
    dsimp only at ex eg en ef ⊢
    subst eg
    rw [if_pos (by rw [ex]; decide)]
    rw [q_nb_rev] at en
    have hnb := q_nb_le (q_df S) 40
    subst en
    unfold q_dr
    rcases ef with ⟨f1, f2⟩ | ⟨t0, f1, f2, f3, f4, f5⟩
    · have z1 : q_nb (q_df S) 40 = 0 := q_nb_0.mpr (fun k hk => f2 k (by omega) hk)
      have z2 : q_ff (q_df S) 40 = 40 := q_ff_all.mpr (fun k hk => f2 k (by omega) hk)
      rw [z1, z2, if_pos rfl, if_pos rfl]
      exact O_ret ⟨rfl, K1, am⟩
    · have z2 : q_ff (q_df S) 40 = t0 := q_ff_is f3 f4 (fun k hk => f5 k (by omega) hk)
      have z1 : q_nb (q_df S) 40 ≠ 0 := fun z => by
        have := q_nb_0.mp z t0 f3
        rw [f4] at this; cases this
      rw [if_neg (by rw [nI_eq (by omega) (by omega)]; exact z1), z2, if_neg (show ¬ t0 = 40 by omega)]
      subst f1
      by_cases c : j = 0
      · simp (disch := omega) only [i_lt_f, i_lt_t, i_le_f, i_le_t, i_eq_f, i_eq_t, i_m1_lt, i_eqm_f, i_meq_f, i_mm_t, i_mle_t, i_nle_m, rz_0, rz_1, if_true, if_false, cl_some, ldI_at, ldJ_at, stI_at, stZ_at, stJ_at, pfI_at, pfJ_at, jn_at, dvI_at, rmI_at, irem_at, nI_add, pk_mul, pk_sub, n_dec, n_sub1]
        exact O_ret ⟨by rw [if_pos c], K1, am⟩
      · simp (disch := omega) only [i_lt_f, i_lt_t, i_le_f, i_le_t, i_eq_f, i_eq_t, i_m1_lt, i_eqm_f, i_meq_f, i_mm_t, i_mle_t, i_nle_m, rz_0, rz_1, if_true, if_false, cl_some, ldI_at, ldJ_at, stI_at, stZ_at, stJ_at, pfI_at, pfJ_at, jn_at, dvI_at, rmI_at, irem_at, nI_add, pk_mul, pk_sub, n_dec, n_sub1]
        exact O_ret ⟨by rw [if_neg c], K1, am⟩
theorem q_ne_iff (S : q_S) (n i : Nat) : q_lv S (q_p S (16 + i)) = q_lv S (q_p S (16 + i + n)) ↔ q_ne S n i = false := by
  unfold q_ne
  by_cases c : q_pl S = 0
  · rw [q_lv_0 c, q_lv_0 c]; simp [c]
  · rw [q_lv_eq c (q_P_lt c _ _ _) (q_P_lt c _ _ _)]; simp [c]
theorem s_goesRound {S : q_S} {g : ph_Hp} (kd : q_D S g) {n : Nat} (hn : n < 13) : f_X8_goesRound (nI n) g = some (if q_rn S n = true then nI 1 else nI 0, g) := by
  have hm := q_ff_le (q_ne S n) (24 - n)
  unfold f_X8_goesRound q_rn
  refine lp_for (st := fun i => (nI (16 + i), g)) (q_ff (q_ne S n) (24 - n)) (by omega) rfl (fun rec i hi => ?_) (fun rec => ?_)
  · have h1 := q_ff_no (q_ne S n) (24 - n) i hi
    dsimp only
    simp (disch := omega) only [i_lt_f, i_lt_t, i_le_f, i_le_t, i_eq_f, i_eq_t, i_m1_lt, i_eqm_f, i_meq_f, i_mm_t, i_mle_t, i_nle_m, rz_0, rz_1, if_true, if_false, cl_some, ldI_at, ldJ_at, stI_at, stZ_at, stJ_at, pfI_at, pfJ_at, jn_at, dvI_at, rmI_at, irem_at, nI_add, pk_mul, pk_sub, n_dec, n_sub1]
    rw [s_playedIn g (by omega), cl_some, s_playedIn g (by omega), cl_some, (kd _ (by omega)).2, (kd _ (by omega)).2]
    rw [if_pos ((q_ne_iff S n i).mpr h1)]
    rfl
  · dsimp only
    by_cases c : q_ff (q_ne S n) (24 - n) = 24 - n
    · simp (disch := omega) only [i_lt_f, i_lt_t, i_le_f, i_le_t, i_eq_f, i_eq_t, i_m1_lt, i_eqm_f, i_meq_f, i_mm_t, i_mle_t, i_nle_m, rz_0, rz_1, if_true, if_false, cl_some, ldI_at, ldJ_at, stI_at, stZ_at, stJ_at, pfI_at, pfJ_at, jn_at, dvI_at, rmI_at, irem_at, nI_add, pk_mul, pk_sub, n_dec, n_sub1]
      rw [if_pos (by simp [c])]
    · have h1 := q_ff_yes (q_ne S n) (24 - n) (by omega)
      simp (disch := omega) only [i_lt_f, i_lt_t, i_le_f, i_le_t, i_eq_f, i_eq_t, i_m1_lt, i_eqm_f, i_meq_f, i_mm_t, i_mle_t, i_nle_m, rz_0, rz_1, if_true, if_false, cl_some, ldI_at, ldJ_at, stI_at, stZ_at, stJ_at, pfI_at, pfJ_at, jn_at, dvI_at, rmI_at, irem_at, nI_add, pk_mul, pk_sub, n_dec, n_sub1]
      rw [s_playedIn g (by omega), cl_some, s_playedIn g (by omega), cl_some, (kd _ (by omega)).2, (kd _ (by omega)).2]
      rw [if_neg (fun z => by
        have := (q_ne_iff S n _).mp z
        rw [h1] at this; cases this), if_neg (by simp [c])]
theorem k_round (S : q_S) (h : ph_Hp) (K : CI S h) : ph_O (f_X8_round h) (Cq h (sp_round S).1 (sp_round S).2) := by
  unfold f_X8_round sp_round
  dsimp only
  refine O_cl (s_staged K) (fun _ g ⟨K1, st, k7, am, ag⟩ => ?_)
  have hm := q_ff_le (fun i => q_rn S (i + 1)) 12
  refine O_of (v := q_ro S) (h := g) ?_ ⟨rfl, K1, am⟩
  unfold q_ro
  refine lp_for (st := fun i => (nI (i + 1), g)) (q_ff (fun i => q_rn S (i + 1)) 12) (by omega) rfl (fun rec i hi => ?_) (fun rec => ?_)
  · have h1 := q_ff_no (fun i => q_rn S (i + 1)) 12 i hi
    dsimp only at h1 ⊢
    simp (disch := omega) only [i_lt_f, i_lt_t, i_le_f, i_le_t, i_eq_f, i_eq_t, i_m1_lt, i_eqm_f, i_meq_f, i_mm_t, i_mle_t, i_nle_m, rz_0, rz_1, if_true, if_false, cl_some, ldI_at, ldJ_at, stI_at, stZ_at, stJ_at, pfI_at, pfJ_at, jn_at, dvI_at, rmI_at, irem_at, nI_add, pk_mul, pk_sub, n_dec, n_sub1]
    rw [s_goesRound st.2.2.2.2 (by omega), cl_some, h1]
    rfl
  · dsimp only
    by_cases c : q_ff (fun i => q_rn S (i + 1)) 12 = 12
    · rw [if_pos c, c]
      simp (disch := omega) only [i_lt_f, i_lt_t, i_le_f, i_le_t, i_eq_f, i_eq_t, i_m1_lt, i_eqm_f, i_meq_f, i_mm_t, i_mle_t, i_nle_m, rz_0, rz_1, if_true, if_false, cl_some, ldI_at, ldJ_at, stI_at, stZ_at, stJ_at, pfI_at, pfJ_at, jn_at, dvI_at, rmI_at, irem_at, nI_add, pk_mul, pk_sub, n_dec, n_sub1]
    · have h1 := q_ff_yes (fun i => q_rn S (i + 1)) 12 (by omega)
      rw [if_neg c]
      try dsimp only at h1
      simp (disch := omega) only [i_lt_f, i_lt_t, i_le_f, i_le_t, i_eq_f, i_eq_t, i_m1_lt, i_eqm_f, i_meq_f, i_mm_t, i_mle_t, i_nle_m, rz_0, rz_1, if_true, if_false, cl_some, ldI_at, ldJ_at, stI_at, stZ_at, stJ_at, pfI_at, pfJ_at, jn_at, dvI_at, rmI_at, irem_at, nI_add, pk_mul, pk_sub, n_dec, n_sub1]
      rw [s_goesRound st.2.2.2.2 (by omega), cl_some, h1]
      rfl
theorem q_is_iff (S : q_S) {l : Nat} (t : Nat) (hl : l < 8) : q_lv S (q_p S t) = nI l ↔ q_is S l t = true := by
  unfold q_is
  by_cases c : q_pl S = 0
  · rw [q_lv_0 c]; simp [c]; exact n_ne1' (by omega)
  · have := q_P_lt c none (q_cg S) t
    rw [q_lv_1 c]; simp [c]; exact nI_eq (by show q_P S none (q_cg S) t < _; omega) (by omega)
theorem k_often (S : q_S) (h : ph_Hp) (K : CI S h) (x1 x2 : Int32) : ph_O (f_X8_often x1 x2 h) (Cq h (sp_often S x1 x2).1 (sp_often S x1 x2).2) := by
  unfold f_X8_often sp_often
  rcases q_ins x1 8 (by decide) with ⟨e1, b1⟩ | ⟨l, hl, rfl, e1⟩
  · rw [s_wo h b1, cl_some, e1]
    simp (disch := omega) only [i_lt_f, i_lt_t, i_le_f, i_le_t, i_eq_f, i_eq_t, i_m1_lt, i_eqm_f, i_meq_f, i_mm_t, i_mle_t, i_nle_m, rz_0, rz_1, if_true, if_false, cl_some, ldI_at, ldJ_at, stI_at, stZ_at, stJ_at, pfI_at, pfJ_at, jn_at, dvI_at, rmI_at, irem_at, nI_add, pk_mul, pk_sub, n_dec, n_sub1]
    exact O_ret ⟨rfl, K, q_aM_rf h⟩
  rw [s_wi h hl (by decide), cl_some, e1]
  simp (disch := omega) only [i_lt_f, i_lt_t, i_le_f, i_le_t, i_eq_f, i_eq_t, i_m1_lt, i_eqm_f, i_meq_f, i_mm_t, i_mle_t, i_nle_m, rz_0, rz_1, if_true, if_false, cl_some, ldI_at, ldJ_at, stI_at, stZ_at, stJ_at, pfI_at, pfJ_at, jn_at, dvI_at, rmI_at, irem_at, nI_add, pk_mul, pk_sub, n_dec, n_sub1]
  rcases q_ins x2 2 (by decide) with ⟨e2, b2⟩ | ⟨j, hj, rfl, e2⟩
  · rw [s_wo h b2, cl_some, e2]
    simp (disch := omega) only [i_lt_f, i_lt_t, i_le_f, i_le_t, i_eq_f, i_eq_t, i_m1_lt, i_eqm_f, i_meq_f, i_mm_t, i_mle_t, i_nle_m, rz_0, rz_1, if_true, if_false, cl_some, ldI_at, ldJ_at, stI_at, stZ_at, stJ_at, pfI_at, pfJ_at, jn_at, dvI_at, rmI_at, irem_at, nI_add, pk_mul, pk_sub, n_dec, n_sub1]
    exact O_ret ⟨rfl, K, q_aM_rf h⟩
  rw [s_wi h hj (by decide), cl_some, e2]
  simp (disch := omega) only [i_lt_f, i_lt_t, i_le_f, i_le_t, i_eq_f, i_eq_t, i_m1_lt, i_eqm_f, i_meq_f, i_mm_t, i_mle_t, i_nle_m, rz_0, rz_1, if_true, if_false, cl_some, ldI_at, ldJ_at, stI_at, stZ_at, stJ_at, pfI_at, pfJ_at, jn_at, dvI_at, rmI_at, irem_at, nI_add, pk_mul, pk_sub, n_dec, n_sub1]
  refine O_cl (s_staged K) (fun _ g ⟨K1, st, k7, am, ag⟩ => ?_)
  refine O_of (v := q_of S l j) (h := g) ?_ ⟨rfl, K1, am⟩
  refine lp_for (st := fun i => (nI (q_nb (q_is S l) i), q_la (q_is S l) i, nI i, g)) 40 (by omega) rfl (fun rec i hi => ?_) (fun rec => ?_)
  · dsimp only
    simp (disch := omega) only [i_lt_f, i_lt_t, i_le_f, i_le_t, i_eq_f, i_eq_t, i_m1_lt, i_eqm_f, i_meq_f, i_mm_t, i_mle_t, i_nle_m, rz_0, rz_1, if_true, if_false, cl_some, ldI_at, ldJ_at, stI_at, stZ_at, stJ_at, pfI_at, pfJ_at, jn_at, dvI_at, rmI_at, irem_at, nI_add, pk_mul, pk_sub, n_dec, n_sub1]
    rw [s_playedIn g hi, cl_some, (st.2.2.2.2 i hi).2]
    by_cases c : q_is S l i = true
    · rw [if_pos ((q_is_iff S i hl).mpr c)]
      simp [q_nb, q_la, c]
    · rw [if_neg (fun z => c ((q_is_iff S i hl).mp z))]
      simp [q_nb, q_la, c]
  · dsimp only
    unfold q_of
    by_cases c : j = 0
    · simp (disch := omega) only [i_lt_f, i_lt_t, i_le_f, i_le_t, i_eq_f, i_eq_t, i_m1_lt, i_eqm_f, i_meq_f, i_mm_t, i_mle_t, i_nle_m, rz_0, rz_1, if_true, if_false, cl_some, ldI_at, ldJ_at, stI_at, stZ_at, stJ_at, pfI_at, pfJ_at, jn_at, dvI_at, rmI_at, irem_at, nI_add, pk_mul, pk_sub, n_dec, n_sub1]
      rw [if_pos c]
    · simp (disch := omega) only [i_lt_f, i_lt_t, i_le_f, i_le_t, i_eq_f, i_eq_t, i_m1_lt, i_eqm_f, i_meq_f, i_mm_t, i_mle_t, i_nle_m, rz_0, rz_1, if_true, if_false, cl_some, ldI_at, ldJ_at, stI_at, stZ_at, stJ_at, pfI_at, pfJ_at, jn_at, dvI_at, rmI_at, irem_at, nI_add, pk_mul, pk_sub, n_dec, n_sub1]
      rw [if_neg c]
