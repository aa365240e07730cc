-- the class: hears, nearest, follow, perform
def q_W (S : q_S) (h : ph_Hp) : Prop := ∀ t, t < 40 → h.1 36 t = nI (q_wh S t) ∧ h.1 37 t = q_cg S t ∧ h.1 38 t = (if q_dk S t then nI 1 else nI 0)
theorem q_ad_lt {a b n : Nat} (ha : a < n) (hb : b < n) : q_ad a b < n := by unfold q_ad; split <;> omega
theorem s_hears {S : q_S} {h : ph_Hp} (w : q_wf S) (ea : h.1 26 3 = nI (q_pl S)) (kb : q_B S h) (kc : q_W S h) {f : Option Nat} {k t x : Nat} (hk : k < q_hn S) (ht : t < 40) (hx : x = if f = some k then 1 else 0) : f_X6_hears (nI k) (nI t) (nI x) h = some (if q_he S f k t = true then nI 1 else nI 0, h) := by
  have hhn := q_hn_le w
  have hpl := q_pl_le w
  have hx2 : x < 2 := by rw [hx]; split <;> omega
  unfold f_X6_hears
  by_cases c0 : t = 0
  · subst c0
    rw [if_neg (show ¬ q_he S f k 0 = true by simp [q_he, q_dk_0])]
    simp (disch := omega) only [i_lt_f, i_lt_t, i_le_f, i_le_t, i_eq_f, i_eq_t, i_m1_lt, i_eqm_f, i_meq_f, i_mm_t, i_mle_t, i_nle_m, rz_0, rz_1, if_true, if_false, cl_some, ldI_at, ldJ_at, stI_at, stZ_at, stJ_at, pfI_at, pfJ_at, jn_at, dvI_at, rmI_at, irem_at, nI_add, pk_mul, pk_sub, n_dec, n_sub1]
  obtain ⟨u, rfl⟩ : ∃ u, t = u + 1 := ⟨t - 1, by omega⟩
  simp (disch := omega) only [i_lt_f, i_lt_t, i_le_f, i_le_t, i_eq_f, i_eq_t, i_m1_lt, i_eqm_f, i_meq_f, i_mm_t, i_mle_t, i_nle_m, rz_0, rz_1, if_true, if_false, cl_some, ldI_at, ldJ_at, stI_at, stZ_at, stJ_at, pfI_at, pfJ_at, jn_at, dvI_at, rmI_at, irem_at, nI_add, pk_mul, pk_sub, n_dec, n_sub1]
  rw [(kc (u + 1) ht).2.2, ea]
  by_cases c1 : q_dk S (u + 1) = true
  · rw [if_pos c1, if_neg (show ¬ q_he S f k (u + 1) = true by simp [q_he, c1])]
    simp (disch := omega) only [i_lt_f, i_lt_t, i_le_f, i_le_t, i_eq_f, i_eq_t, i_m1_lt, i_eqm_f, i_meq_f, i_mm_t, i_mle_t, i_nle_m, rz_0, rz_1, if_true, if_false, cl_some, ldI_at, ldJ_at, stI_at, stZ_at, stJ_at, pfI_at, pfJ_at, jn_at, dvI_at, rmI_at, irem_at, nI_add, pk_mul, pk_sub, n_dec, n_sub1]
  rw [if_neg c1]
  by_cases c2 : q_pl S = 0
  · rw [if_neg (show ¬ q_he S f k (u + 1) = true by simp [q_he, c2])]
    simp (disch := omega) only [i_lt_f, i_lt_t, i_le_f, i_le_t, i_eq_f, i_eq_t, i_m1_lt, i_eqm_f, i_meq_f, i_mm_t, i_mle_t, i_nle_m, rz_0, rz_1, if_true, if_false, cl_some, ldI_at, ldJ_at, stI_at, stZ_at, stJ_at, pfI_at, pfJ_at, jn_at, dvI_at, rmI_at, irem_at, nI_add, pk_mul, pk_sub, n_dec, n_sub1]
  have h1 := q_hp_lt hk
  have h2 := q_hr_lt hk
  have h3 := q_wh_lt w u
  have h4 := q_ad_lt h1 h3
  simp (disch := omega) only [i_lt_f, i_lt_t, i_le_f, i_le_t, i_eq_f, i_eq_t, i_m1_lt, i_eqm_f, i_meq_f, i_mm_t, i_mle_t, i_nle_m, rz_0, rz_1, if_true, if_false, cl_some, ldI_at, ldJ_at, stI_at, stZ_at, stJ_at, pfI_at, pfJ_at, jn_at, dvI_at, rmI_at, irem_at, nI_add, pk_mul, pk_sub, n_dec, n_sub1, Nat.add_sub_cancel]
  rw [(kb.2.2 k hk).1, (kb.2.2 k hk).2.1, (kc u (by omega)).1, n_abs (by omega) (by omega)]
  simp (disch := omega) only [i_lt_f, i_lt_t, i_le_f, i_le_t, i_eq_f, i_eq_t, i_m1_lt, i_eqm_f, i_meq_f, i_mm_t, i_mle_t, i_nle_m, rz_0, rz_1, if_true, if_false, cl_some, ldI_at, ldJ_at, stI_at, stZ_at, stJ_at, pfI_at, pfJ_at, jn_at, dvI_at, rmI_at, irem_at, nI_add, pk_mul, pk_sub, n_dec, n_sub1]
  by_cases c3 : q_ad (q_hp S k) (q_wh S u) ≤ q_hr S k + x
  · rw [if_pos (show q_he S f k (u + 1) = true by rw [hx] at c3; simp [q_he, c2, c1, c3])]
    simp (disch := omega) only [i_lt_f, i_lt_t, i_le_f, i_le_t, i_eq_f, i_eq_t, i_m1_lt, i_eqm_f, i_meq_f, i_mm_t, i_mle_t, i_nle_m, rz_0, rz_1, if_true, if_false, cl_some, ldI_at, ldJ_at, stI_at, stZ_at, stJ_at, pfI_at, pfJ_at, jn_at, dvI_at, rmI_at, irem_at, nI_add, pk_mul, pk_sub, n_dec, n_sub1]
  · rw [if_neg (show ¬ q_he S f k (u + 1) = true by rw [hx] at c3; simp [q_he, c2, c1]; omega)]
    simp (disch := omega) only [i_lt_f, i_lt_t, i_le_f, i_le_t, i_eq_f, i_eq_t, i_m1_lt, i_eqm_f, i_meq_f, i_mm_t, i_mle_t, i_nle_m, rz_0, rz_1, if_true, if_false, cl_some, ldI_at, ldJ_at, stI_at, stZ_at, stJ_at, pfI_at, pfJ_at, jn_at, dvI_at, rmI_at, irem_at, nI_add, pk_mul, pk_sub, n_dec, n_sub1]
theorem s_whereIn {t : Nat} (h : ph_Hp) (ht : t < 40) : f_X6_whereIn (nI t) h = some (h.1 36 t, h) := by
  unfold f_X6_whereIn; simp (disch := omega) only [i_lt_f, i_lt_t, i_le_f, i_le_t, i_eq_f, i_eq_t, i_m1_lt, i_eqm_f, i_meq_f, i_mm_t, i_mle_t, i_nle_m, rz_0, rz_1, if_true, if_false, cl_some, ldI_at, ldJ_at, stI_at, stZ_at, stJ_at, pfI_at, pfJ_at, jn_at, dvI_at, rmI_at, irem_at, nI_add, pk_mul, pk_sub, n_dec, n_sub1]
theorem s_byIn {t : Nat} (h : ph_Hp) (ht : t < 40) : f_X6_byIn (nI t) h = some (h.1 39 t, h) := by
  unfold f_X6_byIn; simp (disch := omega) only [i_lt_f, i_lt_t, i_le_f, i_le_t, i_eq_f, i_eq_t, i_m1_lt, i_eqm_f, i_meq_f, i_mm_t, i_mle_t, i_nle_m, rz_0, rz_1, if_true, if_false, cl_some, ldI_at, ldJ_at, stI_at, stZ_at, stJ_at, pfI_at, pfJ_at, jn_at, dvI_at, rmI_at, irem_at, nI_add, pk_mul, pk_sub, n_dec, n_sub1]
theorem s_coughsIn {t : Nat} (h : ph_Hp) (ht : t < 40) : f_X6_coughsIn (nI t) h = some (h.1 37 t, h) := by
  unfold f_X6_coughsIn; simp (disch := omega) only [i_lt_f, i_lt_t, i_le_f, i_le_t, i_eq_f, i_eq_t, i_m1_lt, i_eqm_f, i_meq_f, i_mm_t, i_mle_t, i_nle_m, rz_0, rz_1, if_true, if_false, cl_some, ldI_at, ldJ_at, stI_at, stZ_at, stJ_at, pfI_at, pfJ_at, jn_at, dvI_at, rmI_at, irem_at, nI_add, pk_mul, pk_sub, n_dec, n_sub1]
theorem s_playedIn {t : Nat} (h : ph_Hp) (ht : t < 40) : f_X6_playedIn (nI t) h = some (h.1 40 t, h) := by
  unfold f_X6_playedIn; simp (disch := omega) only [i_lt_f, i_lt_t, i_le_f, i_le_t, i_eq_f, i_eq_t, i_m1_lt, i_eqm_f, i_meq_f, i_mm_t, i_mle_t, i_nle_m, rz_0, rz_1, if_true, if_false, cl_some, ldI_at, ldJ_at, stI_at, stZ_at, stJ_at, pfI_at, pfJ_at, jn_at, dvI_at, rmI_at, irem_at, nI_add, pk_mul, pk_sub, n_dec, n_sub1]
theorem q_bn_2 {S : q_S} (w : q_wf S) (f : Option Nat) {t : Nat} : ∀ n, n ≤ q_hn S → (q_bn S f t n).2 ≤ 10
  | 0, _ => Nat.le_refl 10
  | n + 1, hn => by
    have ih := q_bn_2 w f (t := t) n (by omega)
    have h1 := q_ad_lt (q_hp_lt (S := S) (h := n) (by omega)) (q_wh_lt w t)
    unfold q_bn
    split
    · show q_ad _ _ ≤ 10; omega
    · exact ih
theorem s_nearest {S : q_S} {h : ph_Hp} (w : q_wf S) (ea : h.1 26 3 = nI (q_pl S)) (kb : q_B S h) (kc : q_W S h) {f : Option Nat} (hf : ∀ k, f = some k → k < 9) {t : Nat} (ht : t < 40) : f_X6_nearest (nI t) (q_bv f) h = some (q_bv (q_by S f t), h) := by
  have hhn := q_hn_le w
  unfold f_X6_nearest
  rw [s_whereIn h ht, cl_some, (kc t ht).1]
  refine lp_for (st := fun i => (q_bv (q_bn S f t i).1, nI (q_bn S f t i).2, nI i, h)) (q_hn S) (by omega) rfl (fun rec i hi => ?_) (fun rec => ?_)
  · have h1 := q_hp_lt hi
    have h3 := q_wh_lt w t
    have h4 := q_ad_lt h1 h3
    have h5 := q_bn_2 w f (t := t) i (by omega)
    dsimp only
    rw [kb.1]
    simp (disch := omega) only [i_lt_f, i_lt_t, i_le_f, i_le_t, i_eq_f, i_eq_t, i_m1_lt, i_eqm_f, i_meq_f, i_mm_t, i_mle_t, i_nle_m, rz_0, rz_1, if_true, if_false, cl_some, ldI_at, ldJ_at, stI_at, stZ_at, stJ_at, pfI_at, pfJ_at, jn_at, dvI_at, rmI_at, irem_at, nI_add, pk_mul, pk_sub, n_dec, n_sub1]
    rw [s_placeOf h (by omega), cl_some, (kb.2.2 i hi).1, n_abs (by omega) (by omega)]
    by_cases c1 : q_ad (q_hp S i) (q_wh S t) < (q_bn S f t i).2
    · simp (disch := omega) only [i_lt_f, i_lt_t, i_le_f, i_le_t, i_eq_f, i_eq_t, i_m1_lt, i_eqm_f, i_meq_f, i_mm_t, i_mle_t, i_nle_m, rz_0, rz_1, if_true, if_false, cl_some, ldI_at, ldJ_at, stI_at, stZ_at, stJ_at, pfI_at, pfJ_at, jn_at, dvI_at, rmI_at, irem_at, nI_add, pk_mul, pk_sub, n_dec, n_sub1]
      have e1 : ∀ x, x = (if f = some i then 1 else 0) → (ph_cl (f_X6_hears (nI i) (nI t) (nI x) h) fun v21 h22 => if v21 = nI 0 then rec (q_bv (q_bn S f t i).1, nI (q_bn S f t i).2, nI (i + 1), h22) else rec (nI i, nI (q_ad (q_hp S i) (q_wh S t)), nI (i + 1), h22)) = rec (q_bv (q_bn S f t (i + 1)).1, nI (q_bn S f t (i + 1)).2, nI (i + 1), h) := by
        intro x hx
        rw [s_hears w ea kb kc hi ht hx, cl_some]
        by_cases c2 : q_he S f i t = true
        · rw [if_pos c2, if_neg (by decide)]
          have : q_bn S f t (i + 1) = (some i, q_ad (q_hp S i) (q_wh S t)) := by
            show (if _ then _ else _) = _
            rw [if_pos ⟨c1, c2⟩]
          rw [this]
          rfl
        · rw [if_neg c2, if_pos rfl]
          have : q_bn S f t (i + 1) = q_bn S f t i := by
            show (if _ then _ else _) = _
            rw [if_neg (fun z => c2 z.2)]
          rw [this]
      cases hfe : f with
      | none =>
        rw [hfe] at e1
        show (if nI i = (-1) then _ else _) = _
        rw [if_neg (n_ne1 (by omega))]
        exact e1 0 (by simp)
      | some k =>
        have hk := hf k hfe
        rw [hfe] at e1
        show (if nI i = nI k then _ else _) = _
        by_cases c3 : i = k
        · rw [if_pos (by rw [c3])]
          exact e1 1 (by simp [c3])
        · rw [if_neg (by rw [nI_eq (by omega) (by omega)]; exact c3)]
          exact e1 0 (by
            have : ¬ k = i := fun z => c3 z.symm
            simp [this])
    · simp (disch := omega) only [i_lt_f, i_lt_t, i_le_f, i_le_t, i_eq_f, i_eq_t, i_m1_lt, i_eqm_f, i_meq_f, i_mm_t, i_mle_t, i_nle_m, rz_0, rz_1, if_true, if_false, cl_some, ldI_at, ldJ_at, stI_at, stZ_at, stJ_at, pfI_at, pfJ_at, jn_at, dvI_at, rmI_at, irem_at, nI_add, pk_mul, pk_sub, n_dec, n_sub1]
      have : q_bn S f t (i + 1) = q_bn S f t i := by
        show (if _ then _ else _) = _
        rw [if_neg (fun z => c1 z.1)]
      rw [this]
  · dsimp only
    rw [kb.1]
    simp (disch := omega) only [i_lt_f, i_lt_t, i_le_f, i_le_t, i_eq_f, i_eq_t, i_m1_lt, i_eqm_f, i_meq_f, i_mm_t, i_mle_t, i_nle_m, rz_0, rz_1, if_true, if_false, cl_some, ldI_at, ldJ_at, stI_at, stZ_at, stJ_at, pfI_at, pfJ_at, jn_at, dvI_at, rmI_at, irem_at, nI_add, pk_mul, pk_sub, n_dec, n_sub1]
    rfl
theorem s_whispered {S : q_S} {h : ph_Hp} (w : q_wf S) (kt : q_T S h) (hp : q_pl S ≠ 0) {k l : Nat} {c : Int32} (hk : k < q_hn S) (hl : l < 8) : f_X6_whispered (nI k) (nI l) c h = some (nI (q_wp S k l c), h) := by
  have hhn := q_hn_le w
  have h1 := q_th_lt hp hk hl
  unfold f_X6_whispered q_wp q_tb
  simp (disch := omega) only [i_lt_f, i_lt_t, i_le_f, i_le_t, i_eq_f, i_eq_t, i_m1_lt, i_eqm_f, i_meq_f, i_mm_t, i_mle_t, i_nle_m, rz_0, rz_1, if_true, if_false, cl_some, ldI_at, ldJ_at, stI_at, stZ_at, stJ_at, pfI_at, pfJ_at, jn_at, dvI_at, rmI_at, irem_at, nI_add, pk_mul, pk_sub, n_dec, n_sub1]
  rw [kt hp k hk l hl]
  by_cases c1 : ph_shr c (nI k) &&& nI 1 = nI 0
  · rw [if_pos c1, if_neg (by simp [c1])]
  · rw [if_neg c1, if_pos (by simp [c1])]
    simp (disch := omega) only [i_lt_f, i_lt_t, i_le_f, i_le_t, i_eq_f, i_eq_t, i_m1_lt, i_eqm_f, i_meq_f, i_mm_t, i_mle_t, i_nle_m, rz_0, rz_1, if_true, if_false, cl_some, ldI_at, ldJ_at, stI_at, stZ_at, stJ_at, pfI_at, pfJ_at, jn_at, dvI_at, rmI_at, irem_at, nI_add, pk_mul, pk_sub, n_dec, n_sub1]
theorem s_follow {S : q_S} {h : ph_Hp} (w : q_wf S) (ka : q_A S h) (kt : q_T S h) (kc : q_W S h) {t l : Nat} {b : Option Nat} {c : Int32} (ht : t < 40) (hb : ∀ k, b = some k → k < q_hn S ∧ q_pl S ≠ 0) (hl : q_pl S ≠ 0 → l < 8 ∨ q_dk S t = true) {x : Int32} (hx : q_dk S t = true ∨ x = q_lv S l) : f_X6_follow (nI t) (q_bv b) x c h = some (q_lv S (q_fo S t b l c), h) := by
  have hhn := q_hn_le w
  unfold f_X6_follow q_fo
  simp (disch := omega) only [i_lt_f, i_lt_t, i_le_f, i_le_t, i_eq_f, i_eq_t, i_m1_lt, i_eqm_f, i_meq_f, i_mm_t, i_mle_t, i_nle_m, rz_0, rz_1, if_true, if_false, cl_some, ldI_at, ldJ_at, stI_at, stZ_at, stJ_at, pfI_at, pfJ_at, jn_at, dvI_at, rmI_at, irem_at, nI_add, pk_mul, pk_sub, n_dec, n_sub1]
  rw [(kc t ht).2.2]
  by_cases c1 : q_dk S t = true
  · rw [if_pos c1, if_pos c1, if_neg (by decide), s_lineIn0 w ka.1 ka.2.2.1, cl_some]
  · have hx : x = q_lv S l := hx.resolve_left c1
    subst hx
    rw [if_neg c1, if_neg c1, if_pos rfl]
    cases b with
    | none =>
      show (if (-1 : Int32) = (-1) then _ else _) = _
      rw [if_pos rfl]
      by_cases c2 : q_pl S = 0
      · rw [q_lv_0 c2, q_lv_0 c2, s_nextToM, cl_some]
      · have hl : l < 8 := (hl c2).resolve_right c1
        rw [q_lv_1 c2, s_nextTo h hl, cl_some, ka.2.2.2.1 l hl]
    | some k =>
      obtain ⟨h1, h2⟩ := hb k rfl
      have hl : l < 8 := (hl h2).resolve_right c1
      rw [show q_bv (some k) = nI k from rfl, if_neg (n_ne1 (by omega)), q_lv_1 h2, q_lv_1 h2, s_whispered w kt h2 h1 hl, cl_some]
theorem q_byok {S : q_S} {f : Option Nat} {t : Nat} : ∀ k, q_by S f t = some k → k < q_hn S ∧ q_pl S ≠ 0 := fun k e => ⟨q_by_lt e, (q_by_pl e).1⟩
def q_Pp (S : q_S) (f : Option Nat) (c : Nat → Int32) : Nat → Nat
  | 0 => 0
  | u + 1 => q_P S f c u
theorem q_P_fo (S : q_S) (f : Option Nat) (c : Nat → Int32) (t : Nat) : q_P S f c t = q_fo S t (q_by S f t) (q_Pp S f c t) (c t) := by
  cases t with
  | zero =>
    unfold q_fo
    rw [if_pos (q_dk_0 S)]
    rfl
  | succ u => rfl
theorem s_perform {S : q_S} {h : ph_Hp} (w : q_wf S) (ka : q_A S h) (kb : q_B S h) (kt : q_T S h) (kc : q_Cw S (S.1 2) (S.1 3) (S.1 4) h) : ph_O (f_X6_perform h) (fun _ g => q_W S g ∧ q_D S g ∧ q_ag [36, 39, 40] h g) := by
  have hpv : ∀ k p, q_w2 S (S.1 2) k = some p → p < 10 := by
    have : ∀ n k p, q_w2 S n k = some p → p < 10 := by
      intro n
      induction n with
      | zero => intro k p e; cases e
      | succ n ih =>
        intro k p e
        unfold q_w2 at e
        split at e
        · cases e; exact (w.2.1 n).2.2.2.1
        · exact ih k p e
    exact this _
  unfold f_X6_perform
  refine O_for 40 (fun i y => y.1 = nI (match i with
    | 0 => 0
    | u + 1 => q_wh S u) ∧ y.2.1 = nI i ∧ (∀ t, t < i → y.2.2.1 36 t = nI (q_wh S t)) ∧ (∀ t, i ≤ t → t < 40 → y.2.2.1 36 t = q_wI (q_w2 S (S.1 2) t)) ∧ q_ag [36, 39, 40] h y.2.2) (by omega) ⟨rfl, rfl, fun k hk => absurd hk (Nat.not_lt_zero k), fun t _ ht => (kc t ht).1, q_ag_rf _ h⟩ ?_ ?_
  · rintro rec i ⟨x, y, g⟩ hi ⟨ex, ey, e1, e2, e3⟩ hrec
    dsimp only at ex ey e1 e2 e3 ⊢
    subst ey
    have fin : ∀ z : Int32, z = nI (q_wh S i) → ph_O (rec (z, nI (i + 1), ph_sI g 36 i z)) (fun _ g => q_W S g ∧ q_D S g ∧ q_ag [36, 39, 40] h g) := by
      intro z hz
      refine hrec _ ⟨hz, rfl, fun t ht => ?_, fun t h1 h2 => ?_, q_ag_sI e3 (by decide)⟩
      · dsimp only
        rw [sI_eq]
        by_cases c : t = i
        · rw [if_pos c, hz, c]
        · rw [if_neg c]; exact e1 t (by omega)
      · dsimp only
        rw [sI_eq, if_neg (by omega)]; exact e2 t (by omega) h2
    have hwh : q_wh S i = (q_cy S (S.1 2) i).2 := by rw [q_cy_wn]; rfl
    simp (disch := omega) only [i_lt_f, i_lt_t, i_le_f, i_le_t, i_eq_f, i_eq_t, i_m1_lt, i_eqm_f, i_meq_f, i_mm_t, i_mle_t, i_nle_m, rz_0, rz_1, if_true, if_false, cl_some, ldI_at, ldJ_at, stI_at, stZ_at, stJ_at, pfI_at, pfJ_at, jn_at, dvI_at, rmI_at, irem_at, nI_add, pk_mul, pk_sub, n_dec, n_sub1]
    rw [e2 i (Nat.le_refl i) hi]
    cases hw : q_w2 S (S.1 2) i with
    | none =>
      show ph_O (if (-1 : Int32) = (-1) then _ else _) _
      rw [if_pos rfl]
      refine fin x ?_
      rw [ex, hwh]
      cases i with
      | zero => simp [q_cy, hw]
      | succ u =>
        have : q_cy S (S.1 2) (u + 1) = q_cy S (S.1 2) u := by simp [q_cy, hw]
        rw [this, q_cy_wn]
        rfl
    | some p =>
      have hp := hpv i p hw
      show ph_O (if nI p = (-1) then _ else _) _
      rw [if_neg (n_ne1 (by omega))]
      refine fin _ ?_
      show nI p = _
      rw [hwh]
      cases i with
      | zero => simp [q_cy, hw]
      | succ u => simp [q_cy, hw]
  · rintro rec ⟨x, y, g⟩ ⟨ex, ey, e1, -, e3⟩
    dsimp only at ex ey e1 e3 ⊢
    subst ey
    simp (disch := omega) only [i_lt_f, i_lt_t, i_le_f, i_le_t, i_eq_f, i_eq_t, i_m1_lt, i_eqm_f, i_meq_f, i_mm_t, i_mle_t, i_nle_m, rz_0, rz_1, if_true, if_false, cl_some, ldI_at, ldJ_at, stI_at, stZ_at, stJ_at, pfI_at, pfJ_at, jn_at, dvI_at, rmI_at, irem_at, nI_add, pk_mul, pk_sub, n_dec, n_sub1]
    have kw : ∀ g2 : ph_Hp, q_ag [39, 40] g g2 → q_W S g2 ∧ q_A S g2 ∧ q_B S g2 ∧ q_T S g2 := by
      intro g2 ag
      have a2 : ∀ i, i ∉ [36, 39, 40] → g2.1 i = h.1 i := fun i hi => by
        simp at hi
        rw [(ag i (by simp; omega)).1, (e3 i (by simp; omega)).1]
      refine ⟨fun t ht => ⟨by rw [(ag 36 (by decide)).1]; exact e1 t ht, by rw [a2 37 (by decide)]; exact (kc t ht).2.1, by rw [a2 38 (by decide)]; exact (kc t ht).2.2⟩, q_A_ag ka (fun i hi => a2 i (by simp at hi; simp; omega)), q_B_ag kb (fun i hi => a2 i (by simp at hi; simp; omega)), q_T_ag kt (a2 35 (by decide))⟩
    refine O_for 40 (fun i y => (0 < i → y.1 = q_lv S (q_P S none (q_cg S) (i - 1))) ∧ y.2.1 = nI i ∧ (∀ t, t < i → y.2.2.1 39 t = q_bv (q_by S none t) ∧ y.2.2.1 40 t = q_lv S (q_P S none (q_cg S) t)) ∧ q_ag [39, 40] g y.2.2) (by omega) ⟨fun q => absurd q (Nat.lt_irrefl 0), rfl, fun k hk => absurd hk (Nat.not_lt_zero k), q_ag_rf _ g⟩ ?_ ?_
    · rintro rec i ⟨x, y, g1⟩ hi ⟨ex, ey, e4, e5⟩ hrec
      dsimp only at ex ey e4 e5 ⊢
      subst ey
      obtain ⟨w1, w2, w3, w4⟩ := kw g1 e5
      simp (disch := omega) only [i_lt_f, i_lt_t, i_le_f, i_le_t, i_eq_f, i_eq_t, i_m1_lt, i_eqm_f, i_meq_f, i_mm_t, i_mle_t, i_nle_m, rz_0, rz_1, if_true, if_false, cl_some, ldI_at, ldJ_at, stI_at, stZ_at, stJ_at, pfI_at, pfJ_at, jn_at, dvI_at, rmI_at, irem_at, nI_add, pk_mul, pk_sub, n_dec, n_sub1]
      rw [show (-1 : Int32) = q_bv none from rfl, s_nearest w w2.1 w3 w1 (fun k e => by cases e) hi, cl_some]
      try simp (disch := omega) only [i_lt_f, i_lt_t, i_le_f, i_le_t, i_eq_f, i_eq_t, i_m1_lt, i_eqm_f, i_meq_f, i_mm_t, i_mle_t, i_nle_m, rz_0, rz_1, if_true, if_false, cl_some, ldI_at, ldJ_at, stI_at, stZ_at, stJ_at, pfI_at, pfJ_at, jn_at, dvI_at, rmI_at, irem_at, nI_add, pk_mul, pk_sub, n_dec, n_sub1]
      have ag2 : q_ag [39, 40] g (ph_sI g1 39 i (q_bv (q_by S none i))) := q_ag_sI e5 (by decide)
      obtain ⟨v1, v2, v3, v4⟩ := kw _ ag2
      rw [sI_eq, if_pos rfl, (v1 i hi).2.1]
      rw [s_follow (l := q_Pp S none (q_cg S) i) w v2 v4 v1 hi q_byok (fun hp => by
          cases i with
          | zero => exact Or.inr (q_dk_0 S)
          | succ u => exact Or.inl (q_P_lt hp _ _ _)) (by
          cases i with
          | zero => exact Or.inl (q_dk_0 S)
          | succ u => exact Or.inr (ex (Nat.succ_pos u))), cl_some, ← q_P_fo]
      try simp (disch := omega) only [i_lt_f, i_lt_t, i_le_f, i_le_t, i_eq_f, i_eq_t, i_m1_lt, i_eqm_f, i_meq_f, i_mm_t, i_mle_t, i_nle_m, rz_0, rz_1, if_true, if_false, cl_some, ldI_at, ldJ_at, stI_at, stZ_at, stJ_at, pfI_at, pfJ_at, jn_at, dvI_at, rmI_at, irem_at, nI_add, pk_mul, pk_sub, n_dec, n_sub1]
      refine hrec _ ⟨fun _ => rfl, rfl, fun t ht => ?_, q_ag_sI ag2 (by decide)⟩
      dsimp only
      rw [sI_ne _ _ _ (show 39 ≠ 40 by decide), sI_eq, sI_eq, sI_ne _ _ _ (show 40 ≠ 39 by decide)]
      by_cases c : t = i
      · rw [if_pos c, if_pos c, c]; exact ⟨rfl, rfl⟩
      · rw [if_neg c, if_neg c]; exact e4 t (by omega)
    · rintro rec ⟨x, y, g1⟩ ⟨-, ey, e4, e5⟩
      dsimp only at ey e4 e5 ⊢
      subst ey
      simp (disch := omega) only [i_lt_f, i_lt_t, i_le_f, i_le_t, i_eq_f, i_eq_t, i_m1_lt, i_eqm_f, i_meq_f, i_mm_t, i_mle_t, i_nle_m, rz_0, rz_1, if_true, if_false, cl_some, ldI_at, ldJ_at, stI_at, stZ_at, stJ_at, pfI_at, pfJ_at, jn_at, dvI_at, rmI_at, irem_at, nI_add, pk_mul, pk_sub, n_dec, n_sub1]
      exact O_ret ⟨(kw g1 e5).1, e4, q_ag_tr e3 (q_ag_sub e5 (by decide))⟩
theorem s_staged {S : q_S} {h : ph_Hp} (K : CI S h) : ph_O (f_X8_staged h) (fun _ g => CI S g ∧ q_St S g ∧ g.1 0 7 = nI 0 ∧ q_aM h g ∧ ∀ i, i < 51 → i ≠ 0 → (i < 26 ∨ 40 < i) → g.1 i = h.1 i ∧ g.2 i = h.2 i) := by
  obtain ⟨w, kp, kf, ks⟩ := id K
  unfold f_X8_staged
  rcases ks with ks | ⟨ks, kt⟩
  · rw [ks, if_neg (by decide)]
    refine O_cl (s_parse3 w kp.1) (fun _ h1 ⟨a1, g1⟩ => ?_)
    have kp1 : CP S h1 := CP_ag kp (fun i hi => (g1 i (by simp at hi; simp; omega)).1)
    refine O_cl (s_parse1 w kp1.2.1) (fun _ h2 ⟨a2, g2⟩ => ?_)
    have kp2 : CP S h2 := CP_ag kp1 (fun i hi => (g2 i (by simp at hi; simp; omega)).1)
    have b2 : q_A S h2 := q_A_ag a1 (fun i hi => (g2 i (by simp at hi; simp; omega)).1)
    refine O_cl (s_think w b2 a2) (fun _ h3 ⟨a3, g3⟩ => ?_)
    have kp3 : CP S h3 := CP_ag kp2 (fun i hi => (g3 i (by simp at hi; simp; omega)).1)
    have b3 : q_A S h3 := q_A_ag b2 (fun i hi => (g3 i (by simp at hi; simp; omega)).1)
    have c3 : q_B S h3 := q_B_ag a2 (fun i hi => (g3 i (by simp at hi; simp; omega)).1)
    refine O_cl (s_set w kp3) (fun _ h4 ⟨a4, g4⟩ => ?_)
    have kp4 : CP S h4 := CP_ag kp3 (fun i hi => (g4 i (by simp at hi; simp; omega)).1)
    have b4 : q_A S h4 := q_A_ag b3 (fun i hi => (g4 i (by simp at hi; simp; omega)).1)
    have c4 : q_B S h4 := q_B_ag c3 (fun i hi => (g4 i (by simp at hi; simp; omega)).1)
    have d4 : q_T S h4 := q_T_ag a3 (g4 35 (by decide)).1
    refine O_cl (s_perform w b4 c4 d4 a4) (fun _ h5 ⟨a5, e5, g5⟩ => ?_)
    have kp5 : CP S h5 := CP_ag kp4 (fun i hi => (g5 i (by simp at hi; simp; omega)).1)
    have b5 : q_A S h5 := q_A_ag b4 (fun i hi => (g5 i (by simp at hi; simp; omega)).1)
    have c5 : q_B S h5 := q_B_ag c4 (fun i hi => (g5 i (by simp at hi; simp; omega)).1)
    have d5 : q_T S h5 := q_T_ag d4 (g5 35 (by decide)).1
    have ag : ∀ i, (i < 26 ∨ 40 < i) → h5.1 i = h.1 i ∧ h5.2 i = h.2 i := fun i hi => by
      have f1 := g1 i (by simp; omega)
      have f2 := g2 i (by simp; omega)
      have f3 := g3 i (by simp; omega)
      have f4 := g4 i (by simp; omega)
      have f5 := g5 i (by simp; omega)
      exact ⟨by rw [f5.1, f4.1, f3.1, f2.1, f1.1], by rw [f5.2, f4.2, f3.2, f2.2, f1.2]⟩
    have st : q_St S (ph_sI h5 0 7 (nI 0)) := q_St_ag (h := h5) ⟨b5, c5, d5, a5, e5⟩ (fun i h1 _ => sI_ne _ _ _ (by omega))
    have k0 : (ph_sI h5 0 7 (nI 0)).1 0 7 = nI 0 := by rw [sI_eq, if_pos rfl]
    rw [pfI_at]
    refine O_ret ⟨⟨w, CP_ag kp5 (fun i hi => sI_ne _ _ _ (by simp at hi; omega)), ?_, Or.inr ⟨k0, st⟩⟩, st, k0, fun i hi => ?_, fun i h1 h2 h3 => ?_⟩
    · rw [sI_eq, if_neg (by decide), (ag 0 (by decide)).1]; exact kf
    · rw [sI_ne _ _ _ (by omega)]; exact (ag i (by omega)).1
    · rw [sI_ne _ _ _ h2]; exact ag i h3
  · rw [ks, if_pos rfl]
    exact O_ret ⟨K, kt, ks, q_aM_rf h, fun i _ _ _ => ⟨rfl, rfl⟩⟩
