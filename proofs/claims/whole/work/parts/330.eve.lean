-- an evening
def q_rg (z : Int32) : Int32 := nI 1103515245 * z + nI 12345
def q_hi (z : Int32) : Nat := z.toBitVec.toNat / 2 ^ 16
theorem q_hi_lt (z : Int32) : q_hi z < 2 ^ 16 := by
  have := z.toBitVec.isLt
  unfold q_hi
  omega
theorem u_16 (z : Int32) : ph_ushr z (nI 16) = nI (q_hi z) := by
  apply Int32.toBitVec_inj.1
  apply BitVec.eq_of_toNat_eq
  have h1 := pk_ushr z (nI 16) 16 (by decide)
  have h2 := q_hi_lt z
  refine h1.trans ?_
  show q_hi z = (BitVec.ofNat 32 (q_hi z)).toNat
  rw [BitVec.toNat_ofNat, Nat.mod_eq_of_lt (by omega)]
def q_sd (z : Int32) : Nat → Int32
  | 0 => z
  | t + 1 => q_rg (q_rg (q_sd z t))
theorem q_sd_s (z : Int32) (t : Nat) : q_sd z (t + 1) = q_rg (q_rg (q_sd z t)) := rfl
theorem q_sd_0 (z : Int32) : q_sd z 0 = z := rfl
def q_lot (z : Int32) (n : Nat) : Int32 := if n = 0 then nI 0 else if q_hi (q_rg (q_rg z)) % 4 = 0 then ph_shl (nI 1) (nI (q_hi (q_rg z) % n)) else nI 0
def q_ec (S : q_S) (z : Int32) : Nat → Int32
  | 0 => nI 0
  | t + 1 => q_lot (q_sd z t) (q_hn S)
theorem q_ec_s (S : q_S) (z : Int32) (t : Nat) : q_ec S z (t + 1) = q_lot (q_sd z t) (q_hn S) := rfl
def q_ev (S : q_S) (z : Int32) : Nat → Int32 := fun t => q_cg S t ||| q_ec S z t
theorem q_ev_e (S : q_S) (z : Int32) (t : Nat) : q_ev S z t = q_cg S t ||| q_ec S z t := rfl
def q_dd (S : q_S) (P : Nat → Nat) : Nat → Nat
  | 0 => 0
  | t + 1 => q_dd S P t + if q_lv S (P (t + 1)) = q_lv S (q_pr S (t + 1)) then 0 else 1
theorem q_dd_le (S : q_S) (P : Nat → Nat) : ∀ n, q_dd S P n ≤ n
  | 0 => Nat.le_refl 0
  | n + 1 => by
    have := q_dd_le S P n
    unfold q_dd
    split <;> omega
theorem q_P_0 (S : q_S) (f : Option Nat) (c : Nat → Int32) : q_P S f c 0 = q_pv S 0 := rfl
theorem q_P_s (S : q_S) (f : Option Nat) (c : Nat → Int32) (t : Nat) : q_P S f c (t + 1) = q_fo S (t + 1) (q_by S f (t + 1)) (q_P S f c t) (c (t + 1)) := rfl
theorem q_dd_0 (S : q_S) (P : Nat → Nat) : q_dd S P 0 = 0 := rfl
def q_evn (S : q_S) (z : Int32) (t j : Nat) : Int32 := if j = 0 then q_lv S (q_P S none (q_ev S z) t) else nI (q_dd S (q_P S none (q_ev S z)) t)
def sp_evening (S : q_S) (x1 x2 x3 : Int32) : Int32 × q_S := match q_in x2 40, q_in x3 2 with
  | some t, some j => (q_evn S x1 t j, S)
  | _, _ => ((-2), S)
theorem s_draw {g : ph_Hp} {n : Nat} (h0 : 0 < n) (hn : n < 100) : f_X2_draw (nI n) g = some (nI (q_hi (q_rg (g.1 41 0)) % n), ph_sI g 41 0 (q_rg (g.1 41 0))) := by
  unfold f_X2_draw
  have := q_hi_lt (q_rg (g.1 41 0))
  simp (disch := omega) only [i_lt_f, i_lt_t, i_le_f, i_le_t, i_eq_f, i_eq_t, i_m1_lt, i_eqm_f, i_meq_f, i_mm_t, i_mle_t, i_nle_m, rz_0, rz_1, if_true, if_false, cl_some, ldI_at, ldJ_at, stI_at, stZ_at, stJ_at, pfI_at, pfJ_at, jn_at, dvI_at, rmI_at, irem_at, nI_add, pk_mul, pk_sub, n_dec, n_sub1]
  rw [sI_eq, if_pos rfl]
  show ph_rmI (ph_ushr (q_rg (g.1 41 0)) (nI 16)) (nI n) _ = _
  rw [u_16, rmI_at (by omega) h0 (by omega)]
  rfl
theorem s_drawCough {g : ph_Hp} {n : Nat} (hn : n ≤ 9) : ∃ g2, f_X2_drawCough (nI n) g = some (q_lot (g.1 41 0) n, g2) ∧ (n ≠ 0 → g2.1 41 0 = q_rg (q_rg (g.1 41 0))) ∧ q_ag [41, 42, 43, 44, 45, 46] g g2 := by
  unfold f_X2_drawCough q_lot
  by_cases c : n = 0
  · subst c
    exact ⟨g, rfl, fun z => absurd rfl z, q_ag_rf _ g⟩
  · rw [if_pos (nI_lt (by omega) (by omega)), s_draw (by omega) (by omega), cl_some, s_draw (by decide) (by decide), cl_some, if_neg c, sI_eq, if_pos rfl]
    have h1 : q_hi (q_rg (q_rg (g.1 41 0))) % 4 < 4 := Nat.mod_lt _ (by decide)
    refine ⟨ph_sI (ph_sI g 41 0 (q_rg (g.1 41 0))) 41 0 (q_rg (q_rg (g.1 41 0))), ?_, fun _ => by rw [sI_eq, if_pos rfl], q_ag_sI (q_ag_sI (q_ag_rf _ g) (by decide)) (by decide)⟩
    by_cases c2 : q_hi (q_rg (q_rg (g.1 41 0))) % 4 = 0
    · rw [if_pos c2, if_pos (by rw [c2])]
    · rw [if_neg c2, if_neg (by rw [nI_eq (by omega) (by decide)]; exact c2)]
theorem s_lots (x : Int32) (g : ph_Hp) : f_X2_begin x g = some ((), ph_sI g 41 0 x) := rfl
theorem k_evening (S : q_S) (h : ph_Hp) (K : CI S h) (x1 x2 x3 : Int32) : ph_O (f_X8_evening x1 x2 x3 h) (Cq h (sp_evening S x1 x2 x3).1 (sp_evening S x1 x2 x3).2) := by
  have hhn := q_hn_le K.1
  unfold f_X8_evening sp_evening
  rcases q_ins x2 40 (by decide) with ⟨e1, b1⟩ | ⟨T, hT, rfl, e1⟩
  · rw [s_wo h b1, cl_some, e1]
    simp (disch := omega) only [i_lt_f, i_lt_t, i_le_f, i_le_t, i_eq_f, i_eq_t, i_m1_lt, i_eqm_f, i_meq_f, i_mm_t, i_mle_t, i_nle_m, rz_0, rz_1, if_true, if_false, cl_some, ldI_at, ldJ_at, stI_at, stZ_at, stJ_at, pfI_at, pfJ_at, jn_at, dvI_at, rmI_at, irem_at, nI_add, pk_mul, pk_sub, n_dec, n_sub1]
    exact O_ret ⟨rfl, K, q_aM_rf h⟩
  rw [s_wi h hT (by decide), cl_some, e1]
  simp (disch := omega) only [i_lt_f, i_lt_t, i_le_f, i_le_t, i_eq_f, i_eq_t, i_m1_lt, i_eqm_f, i_meq_f, i_mm_t, i_mle_t, i_nle_m, rz_0, rz_1, if_true, if_false, cl_some, ldI_at, ldJ_at, stI_at, stZ_at, stJ_at, pfI_at, pfJ_at, jn_at, dvI_at, rmI_at, irem_at, nI_add, pk_mul, pk_sub, n_dec, n_sub1]
  rcases q_ins x3 2 (by decide) with ⟨e2, b2⟩ | ⟨j, hj, rfl, e2⟩
  · rw [s_wo h b2, cl_some, e2]
    simp (disch := omega) only [i_lt_f, i_lt_t, i_le_f, i_le_t, i_eq_f, i_eq_t, i_m1_lt, i_eqm_f, i_meq_f, i_mm_t, i_mle_t, i_nle_m, rz_0, rz_1, if_true, if_false, cl_some, ldI_at, ldJ_at, stI_at, stZ_at, stJ_at, pfI_at, pfJ_at, jn_at, dvI_at, rmI_at, irem_at, nI_add, pk_mul, pk_sub, n_dec, n_sub1]
    exact O_ret ⟨rfl, K, q_aM_rf h⟩
  rw [s_wi h hj (by decide), cl_some, e2]
  simp (disch := omega) only [i_lt_f, i_lt_t, i_le_f, i_le_t, i_eq_f, i_eq_t, i_m1_lt, i_eqm_f, i_meq_f, i_mm_t, i_mle_t, i_nle_m, rz_0, rz_1, if_true, if_false, cl_some, ldI_at, ldJ_at, stI_at, stZ_at, stJ_at, pfI_at, pfJ_at, jn_at, dvI_at, rmI_at, irem_at, nI_add, pk_mul, pk_sub, n_dec, n_sub1]
  try dsimp only
  refine O_cl (s_staged K) (fun _ g ⟨K1, st, k7, am, ag⟩ => ?_)
  rw [s_lots, cl_some, s_playedIn _ (by decide), cl_some, sI_ne _ _ _ (by decide), (st.2.2.2.2 0 (by decide)).2]
  refine O_for T (fun i y => y.1 = q_lv S (q_P S none (q_ev S x1) i) ∧ y.2.1 = nI (q_dd S (q_P S none (q_ev S x1)) i) ∧ y.2.2.1 = nI (i + 1) ∧ (q_hn S ≠ 0 → y.2.2.2.1 41 0 = q_sd x1 i) ∧ q_ag [41, 42, 43, 44, 45, 46] g y.2.2.2) (by omega) ⟨by dsimp only; rw [q_P_0, q_P_0], by dsimp only; rw [q_dd_0], rfl, fun _ => by dsimp only; rw [sI_eq, if_pos rfl, q_sd_0], q_ag_sI (q_ag_rf _ g) (by decide)⟩ ?_ ?_
  · rintro rec i ⟨a1, a2, a3, g1⟩ hi ⟨e1, e2, e3, e4, e5⟩ hrec
    dsimp only at e1 e2 e3 e4 e5 ⊢
    subst e1 e2 e3
    have st1 := St_sc st e5
    have hi1 : i + 1 < 40 := by omega
    rw [if_neg (nI_nlt (by omega) (by omega)), s_coughsIn g1 hi1, cl_some, (st1.2.2.2.1 _ hi1).2.1, st1.2.1.1]
    obtain ⟨g2, r1, r2, r3⟩ := s_drawCough (g := g1) hhn
    have ag2 := q_ag_tr e5 r3
    have st2 := St_sc st ag2
    rw [r1, cl_some, s_byIn g2 hi1, cl_some, (st2.2.2.2.2 _ hi1).1]
    have hec : q_cg S (i + 1) ||| q_lot (g1.1 41 0) (q_hn S) = q_ev S x1 (i + 1) := by
      rw [q_ev_e, q_ec_s]
      by_cases c : q_hn S = 0
      · unfold q_lot; rw [if_pos c, if_pos c]
      · rw [e4 c]
    rw [hec, s_follow K1.1 st2.1 st2.2.2.1 st2.2.2.2.1 hi1 q_byok (fun hp => Or.inl (q_P_lt hp _ _ _)) (Or.inr rfl), cl_some, s_printedIn K1.1 st2.1 hi1, cl_some, ← q_P_s]
    have hle := q_dd_le S (q_P S none (q_ev S x1)) i
    have hsd : q_hn S ≠ 0 → g2.1 41 0 = q_sd x1 (i + 1) := fun c => by rw [r2 c, e4 c, q_sd_s]
    try simp (disch := omega) only [jn_at]
    by_cases cc : q_lv S (q_P S none (q_ev S x1) (i + 1)) = q_lv S (q_pr S (i + 1))
    · rw [if_pos cc]
      refine hrec _ ⟨rfl, ?_, nI_add _ _, hsd, ag2⟩
      dsimp only
      rw [q_dd, if_pos cc, Nat.add_zero]
    · rw [if_neg cc]
      refine hrec _ ⟨rfl, ?_, nI_add _ _, hsd, ag2⟩
      dsimp only
      rw [q_dd, if_neg cc, nI_add]
  · rintro rec ⟨a1, a2, a3, g1⟩ ⟨e1, e2, e3, e4, e5⟩
    dsimp only at e1 e2 e3 e4 e5 ⊢
    subst e1 e2 e3
    rw [if_pos (nI_lt (by omega) (by omega))]
    unfold q_evn
    by_cases cj : j = 0
    · rw [if_pos (by rw [cj]), if_pos cj]
      exact O_ret ⟨rfl, CI_sc K1 e5, q_aM_tr am (aM_sc e5)⟩
    · rw [if_neg (by rw [nI_eq (by omega) (by decide)]; exact cj), if_neg cj]
      exact O_ret ⟨rfl, CI_sc K1 e5, q_aM_tr am (aM_sc e5)⟩
