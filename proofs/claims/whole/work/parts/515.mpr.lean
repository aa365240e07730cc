-- prompt of the reference
theorem m_playsS {S : q_S} {f : Option Nat} {c : Nat → Int32} {h : ph_Hp} {t v : Nat} (w : q_wf S) (V : MV S f (nI t) c h) (hp : q_pl S ≠ 0) (ht : t < 40) (h23 : h.1 51 23 = nI v) : ph_O (f_X9_plays (nI t) h) (fun _ g => g.1 65 t = nI v ∧ (∀ u, u ≠ t → g.1 65 u = h.1 65 u) ∧ q_ag [65, 66] h g) := by
  have hle := q_pl_le w
  have a0 : q_ag [65, 66] h (ph_sI h 66 t (-1)) := q_ag_sI (q_ag_rf _ h) (by decide)
  have V0 := MV_ag V a0
  unfold f_X9_plays
  rw [stI_at ht (by decide), V0.1.1.1, if_neg (by rw [nI_eq (by omega) (by decide)]; exact hp), V0.2.2.2, if_pos rfl, stI_at ht (by decide), sI_ne (i := 66) (j := 51) _ _ _ (by decide), h23]
  refine O_ret ⟨by rw [sI_eq, if_pos rfl], fun u hu => ?_, q_ag_sI a0 (by decide)⟩
  rw [sI_eq, if_neg hu, sI_ne _ _ _ (by decide)]
theorem m_livesS {S : q_S} (w : q_wf S) {h : ph_Hp} {a T v : Nat} (V : MV S none (nI a) (q_cg S) h) (hp : q_pl S ≠ 0) (ha : a ≤ T) (hT : T < 40) (hv : v < 8) (h23 : h.1 51 23 = nI v) : ph_O (f_X9_lives (nI a) (nI T) h) (fun _ g => g.1 65 T = nI (q_ru S a v (T - a)) ∧ (∀ u, u < a → g.1 65 u = h.1 65 u) ∧ q_ag [65, 66] h g) := by
  unfold f_X9_lives
  refine O_for (T + 1 - a) (fun i y => y.1 = nI (a + i) ∧ (∀ n, n < i → y.2.1 65 (a + n) = nI (q_ru S a v n)) ∧ (∀ u, u < a → y.2.1 65 u = h.1 65 u) ∧ q_ag [65, 66] h y.2) (by omega) ⟨rfl, fun n hn => absurd hn (Nat.not_lt_zero n), fun _ _ => rfl, q_ag_rf _ h⟩ ?_ ?_
  · rintro rec i ⟨y, g⟩ hi ⟨ey, e1, e2, e3⟩ hrec
    dsimp only at ey e1 e2 e3 ⊢
    subst ey
    have V1 := MV_ag V e3
    rw [if_neg (nI_nlt (by omega) (by omega))]
    cases i with
    | zero =>
      refine O_cl (m_playsS w V1 (t := a) hp (by omega) (by rw [(e3 51 (by decide)).1]; exact h23)) ?_
      rintro _ g2 ⟨r1, r2, r3⟩
      refine hrec _ ⟨nI_add _ _, fun n hn => ?_, fun u hu => ?_, q_ag_tr e3 r3⟩
      · have : n = 0 := by omega
        subst this
        exact r1
      · dsimp only
        rw [r2 u (by omega)]; exact e2 u hu
    | succ m =>
      refine O_cl (m_plays w V1 (fun k e => by cases e) (t := a + (m + 1)) (p := q_ru S a v m) (by omega) (fun z => ?_) (fun hp => q_ru_lt hp a hv m) (fun _ => ?_)) ?_
      · rw [nI_eq (by omega) (by omega)] at z
        omega
      · rw [show a + (m + 1) - 1 = a + m by omega, e1 m (by omega), q_lv_1 hp]
      · rintro _ g2 ⟨r1, r2, r3, r4⟩
        refine hrec _ ⟨nI_add _ _, fun n hn => ?_, fun u hu => ?_, q_ag_tr e3 r4⟩
        · dsimp only
          by_cases q : n = m + 1
          · rw [q, r1, q_lv_1 hp]; rfl
          · rw [(r3 (a + n) (by omega)).1]; exact e1 n (by omega)
        · dsimp only
          rw [(r3 u (by omega)).1]; exact e2 u hu
  · rintro rec ⟨y, g⟩ ⟨ey, e1, e2, e3⟩
    dsimp only at ey e1 e2 e3 ⊢
    subst ey
    rw [if_pos (nI_lt (by omega) (by omega))]
    refine O_ret ⟨?_, e2, e3⟩
    have h1 := e1 (T - a) (by omega)
    rw [show a + (T - a) = T by omega] at h1
    exact h1
theorem q_Pp_8 {S : q_S} (hp : q_pl S ≠ 0) (t : Nat) : q_Pp S none (q_cg S) t < 8 := by
  cases t with
  | zero => exact (show (0 : Nat) < 8 by decide)
  | succ v => exact q_P_lt hp _ _ _
theorem q_Pp_at {S : q_S} {h : ph_Hp} {t : Nat} (h0 : t ≠ 0) (e : h.1 65 (t - 1) = q_lv S (q_p S (t - 1))) : h.1 65 (t - 1) = q_lv S (q_Pp S none (q_cg S) t) := by
  cases t with
  | zero => exact absurd rfl h0
  | succ v => exact e
theorem m_livesN {S : q_S} (w : q_wf S) {h : ph_Hp} {a T : Nat} (V : MV S none (-1) (q_cg S) h) (hT : T < 40) (ha : a ≤ T) (hq : ∀ u, u < a → h.1 65 u = q_lv S (q_p S u)) : ph_O (f_X9_lives (nI a) (nI T) h) (fun _ g => (∀ u, u ≤ T → g.1 65 u = q_lv S (q_p S u)) ∧ q_ag [65, 66] h g) := by
  unfold f_X9_lives
  refine O_for (T + 1 - a) (fun i y => y.1 = nI (a + i) ∧ (∀ u, u < a + i → y.2.1 65 u = q_lv S (q_p S u)) ∧ q_ag [65, 66] h y.2) (by omega) ⟨rfl, hq, q_ag_rf _ h⟩ ?_ ?_
  · rintro rec i ⟨y, g⟩ hi ⟨ey, e1, e3⟩ hrec
    dsimp only at ey e1 e3 ⊢
    subst ey
    rw [if_neg (nI_nlt (by omega) (by omega))]
    refine O_cl (m_plays w (MV_ag V e3) (fun k e => by cases e) (t := a + i) (p := q_Pp S none (q_cg S) (a + i)) (by omega) (n_ne1 (by omega)) (fun hp => q_Pp_8 hp _) (fun h0 => q_Pp_at h0 (e1 _ (by omega)))) ?_
    rintro _ g2 ⟨r1, r2, r3, r4⟩
    refine hrec _ ⟨nI_add _ _, fun u hu => ?_, q_ag_tr e3 r4⟩
    dsimp only
    by_cases q : u = a + i
    · rw [q, r1, ← q_P_fo]
    · rw [(r3 u q).1]; exact e1 u (by omega)
  · rintro rec ⟨y, g⟩ ⟨ey, e1, e3⟩
    dsimp only at ey e1 e3 ⊢
    subst ey
    rw [if_pos (nI_lt (by omega) (by omega))]
    exact O_ret ⟨fun u hu => e1 u (by omega), e3⟩
theorem q_ff_s (p : Nat → Bool) (n : Nat) : q_ff p (n + 1) = if q_ff p n < n then q_ff p n else if p n then n else n + 1 := rfl
theorem q_nb_s (p : Nat → Bool) (n : Nat) : q_nb p (n + 1) = q_nb p n + (if p n then 1 else 0) := rfl
def q_lc (S : q_S) (f T l d v : Nat) : Int32 := if q_nb (q_ht S T l (f + d)) v = 0 then q_lb f (q_bb S f T l) d else nI (f + d)
def q_fc (f : Nat) (p : Nat → Bool) (m : Nat) : Int32 := if q_ff p m = m then (-1) else nI (8 * f + q_ff p m)
theorem q_lc_8 (S : q_S) (f T l d : Nat) : q_lc S f T l d 8 = q_lb f (q_bb S f T l) (d + 1) := by
  unfold q_lc
  show _ = if q_bb S f T l d then nI (f + d) else q_lb f (q_bb S f T l) d
  by_cases c : q_nb (q_ht S T l (f + d)) 8 = 0
  · rw [if_pos c, if_neg (by simp [q_bb, c])]
  · rw [if_neg c, if_pos (by simp [q_bb, c])]
theorem q_fc_t {f : Nat} {p : Nat → Bool} {m : Nat} (h : p m = true) : q_fc f p (m + 1) = if q_nb p m = 0 then nI (8 * f + m) else q_fc f p m := by
  have hle := q_ff_le p m
  unfold q_fc
  by_cases c : q_ff p m = m
  · have e : q_ff p (m + 1) = m := by rw [q_ff_s, if_neg (by omega), if_pos h]
    rw [e, if_neg (by omega), if_pos (q_nb_0.mpr (q_ff_all.mp c))]
  · have e : q_ff p (m + 1) = q_ff p m := by rw [q_ff_s, if_pos (by omega)]
    rw [e, if_neg (by omega), if_neg (fun z => c (q_ff_all.mpr (q_nb_0.mp z))), if_neg c]
theorem q_fc_f {f : Nat} {p : Nat → Bool} {m : Nat} (h : p m = false) : q_fc f p (m + 1) = q_fc f p m := by
  have hle := q_ff_le p m
  unfold q_fc
  by_cases c : q_ff p m = m
  · have e : q_ff p (m + 1) = m + 1 := by rw [q_ff_s, if_neg (by omega), if_neg (by rw [h]; decide)]
    rw [e, if_pos rfl, if_pos c]
  · have e : q_ff p (m + 1) = q_ff p m := by rw [q_ff_s, if_pos (by omega)]
    rw [e, if_neg (by omega), if_neg c]
theorem m_promptOf {S : q_S} (w : q_wf S) {h : ph_Hp} (F : MF S h) {f T l j : Nat} (hfT : f < T) (hT : T < 40) (hl : l < 8) (hj : j < 3) : ph_O (f_X9_promptOf (nI f) (nI T) (nI l) (nI j) h) (fun v g => v = q_pm S f T l j ∧ MF S g ∧ mA h g) := by
  obtain ⟨P, L, K⟩ := F
  have hle := q_pl_le w
  have mv : ∀ (g : ph_Hp) (s : Int32), q_ag [51, 65, 66] h g → (∀ k, k ≠ 22 → k ≠ 23 → g.1 51 k = h.1 51 k) → g.1 51 22 = s → MV S none s (q_cg S) g := by
    intro g s ag e1 e2
    exact ⟨MP_ag P (fun i hi => (ag i (by simp at hi; simp; omega)).1) (e1 7 (by decide) (by decide)) (e1 9 (by decide) (by decide)), ⟨by rw [e1 15 (by decide) (by decide)]; exact K.2.2.2.2.1.1, mW_ag K.2.2.2.2.1.2 (ag 62 (by decide)).1⟩, by rw [e1 21 (by decide) (by decide)]; exact K.2.2.2.2.2.2.2.2.1, e2⟩
  have hQ : ∀ (v : Int32) (g : ph_Hp), v = q_pm S f T l j → MF S g → mA h g → (fun v g => v = q_pm S f T l j ∧ MF S g ∧ mA h g) v g := fun v g a b c => ⟨a, b, c⟩
  revert hQ
  generalize (fun (v : Int32) (g : ph_Hp) => v = q_pm S f T l j ∧ MF S g ∧ mA h g) = Q
  intro hQ
  have fin : ∀ (g : ph_Hp) (x7 x8 x9 : Int32), q_ag [51, 65, 66] h g → (∀ k, k ≠ 22 → k ≠ 23 → g.1 51 k = h.1 51 k) → (if j = 0 then x7 else if j = 1 then x8 else x9) = q_pm S f T l j → ph_O (ph_pfI g 51 22 (-1) fun h13 =>
      ph_cl (f_X9_lives (nI 0) (nI 39) h13) fun _ h15 =>
      if nI j = nI 0 then
        some (x7, h15)
      else
        if nI j = (nI 1) then
          some (x8, h15)
        else
          some (x9, h15)) Q := by
    intro g x7 x8 x9 ag e1 ev
    rw [pfI_at]
    have e3 : q_ag [51, 65, 66] h (ph_sI g 51 22 (-1)) := q_ag_sI ag (by decide)
    have e4 : ∀ k, k ≠ 23 → (ph_sI g 51 22 (-1)).1 51 k = h.1 51 k := fun k hk => by
      rw [sI_eq]
      by_cases q : k = 22
      · rw [if_pos q, q]; exact K.2.2.2.2.2.2.2.2.2.symm
      · rw [if_neg q]; exact e1 k q hk
    have a1 : mA h (ph_sI g 51 22 (-1)) := ⟨fun i hi => e3 i (by simp at hi; simp; omega), fun k hk => e4 k (by simp at hk; omega)⟩
    refine O_cl (m_redo w (MI_mA K a1) (MP_ag P (fun i hi => (e3 i (by simp at hi; simp; omega)).1) (e4 7 (by decide)) (e4 9 (by decide)))) ?_
    rintro _ g2 ⟨F2, a2⟩
    have r := mA_tr a1 a2
    by_cases c0 : j = 0
    · rw [if_pos (by rw [c0])]
      rw [if_pos c0] at ev
      exact O_ret (hQ _ _ ev F2 r)
    · rw [if_neg (by rw [nI_eq (by omega) (by decide)]; exact c0)]
      rw [if_neg c0] at ev
      by_cases c1 : j = 1
      · rw [if_pos (by rw [c1])]
        rw [if_pos c1] at ev
        exact O_ret (hQ _ _ ev F2 r)
      · rw [if_neg (by rw [nI_eq (by omega) (by decide)]; exact c1)]
        rw [if_neg c1] at ev
        exact O_ret (hQ _ _ ev F2 r)
  unfold f_X9_promptOf
  refine O_for (if q_pl S = 0 then 0 else T - f) (fun d y => y.1 = q_fc f (q_hh2 S f T l) (8 * d) ∧ y.2.1 = q_lb f (q_bb S f T l) d ∧ y.2.2.1 = nI (q_nb (q_hh2 S f T l) (8 * d)) ∧ y.2.2.2.1 = nI (f + d) ∧ q_ag [51, 65, 66] h y.2.2.2.2 ∧ (∀ k, k ≠ 22 → k ≠ 23 → y.2.2.2.2.1 51 k = h.1 51 k) ∧ ∀ u, u < f + d → y.2.2.2.2.1 65 u = q_lv S (q_p S u)) (by split <;> omega) ⟨rfl, rfl, rfl, rfl, q_ag_rf _ h, fun _ _ _ => rfl, fun u hu => (L u (by omega)).1⟩ ?_ ?_
  · rintro rec d ⟨x7, x8, x9, x10, g⟩ hd ⟨e7, e8, e9, e10, e1, e2, e3⟩ hrec
    dsimp only at e7 e8 e9 e10 e1 e2 e3 ⊢
    subst e7 e8 e9 e10
    have hp : q_pl S ≠ 0 := fun z => by rw [if_pos z] at hd; exact absurd hd (Nat.not_lt_zero d)
    rw [if_neg hp] at hd
    rw [jn_at, if_neg (nI_ge (by omega) (by omega)), e2 7 (by decide) (by decide), P.1.1, if_neg (nI_ge (by omega) (by omega))]
    refine O_for 8 (fun v y => y.1 = q_fc f (q_hh2 S f T l) (8 * d + v) ∧ y.2.1 = q_lc S f T l d v ∧ y.2.2.1 = nI (q_nb (q_hh2 S f T l) (8 * d + v)) ∧ y.2.2.2.1 = nI v ∧ q_ag [51, 65, 66] h y.2.2.2.2 ∧ (∀ k, k ≠ 22 → k ≠ 23 → y.2.2.2.2.1 51 k = h.1 51 k) ∧ ∀ u, u < f + d → y.2.2.2.2.1 65 u = q_lv S (q_p S u)) (by omega) ⟨rfl, rfl, rfl, rfl, e1, e2, e3⟩ ?_ ?_
    · rintro rec2 v ⟨x1, x2, x3, x4, g1⟩ hv ⟨e7, e8, e9, e10, f1, f2, f3⟩ hrec2
      dsimp only at e7 e8 e9 e10 f1 f2 f3 ⊢
      subst e7 e8 e9 e10
      rw [if_neg (nI_ge hv (by decide)), pfI_at, pfI_at]
      have s1 : q_ag [51, 65, 66] h (ph_sI (ph_sI g1 51 22 (nI (f + d))) 51 23 (nI v)) := q_ag_sI (q_ag_sI f1 (by decide)) (by decide)
      have s2 : ∀ k, k ≠ 22 → k ≠ 23 → (ph_sI (ph_sI g1 51 22 (nI (f + d))) 51 23 (nI v)).1 51 k = h.1 51 k := fun k h1 h2 => by rw [sI_eq, if_neg h2, sI_eq, if_neg h1]; exact f2 k h1 h2
      have V := mv _ (nI (f + d)) s1 s2 (by rw [sI_eq, if_neg (by decide), sI_eq, if_pos rfl])
      refine O_cl (m_livesS w V hp (by omega) hT hv (by rw [sI_eq, if_pos rfl])) ?_
      rintro _ g2 ⟨r1, r2, r3⟩
      have s3 : q_ag [51, 65, 66] h g2 := q_ag_tr s1 (q_ag_sub r3 (by decide))
      have s4 : ∀ k, k ≠ 22 → k ≠ 23 → g2.1 51 k = h.1 51 k := fun k h1 h2 => by rw [(r3 51 (by decide)).1]; exact s2 k h1 h2
      have s5 : ∀ u, u < f + d → g2.1 65 u = q_lv S (q_p S u) := fun u hu => by rw [r2 u hu, sI_ne _ _ _ (by decide), sI_ne _ _ _ (by decide)]; exact f3 u hu
      have hru := q_ru_lt hp (f + d) hv (T - (f + d))
      have hpm : q_hh2 S f T l (8 * d + v) = q_ht S T l (f + d) v := q_hh2_at S f T l hv
      have hnb := q_nb_le (q_hh2 S f T l) (8 * d + v)
      rw [ldI_at hT (by decide), r1, jn_at]
      by_cases cr : q_ru S (f + d) v (T - (f + d)) = l
      · have ht : q_ht S T l (f + d) v = true := by unfold q_ht; simp [hp, cr]
        rw [if_pos (by rw [cr]), jn_at]
        have go : ∀ x : Int32, x = q_fc f (q_hh2 S f T l) (8 * d + v + 1) → ph_O (rec2 (x, nI (f + d), nI (q_nb (q_hh2 S f T l) (8 * d + v)) + nI 1, nI v + nI 1, g2)) Q := by
          intro x hx
          refine hrec2 _ ⟨hx, ?_, ?_, nI_add _ _, s3, s4, s5⟩
          · dsimp only
            unfold q_lc
            rw [q_nb_s, if_pos ht, if_neg (by omega)]
          · dsimp only
            rw [nI_add, show 8 * d + (v + 1) = 8 * d + v + 1 from rfl, q_nb_s, if_pos (hpm.trans ht)]
        by_cases cn : q_nb (q_hh2 S f T l) (8 * d + v) = 0
        · rw [if_pos (by rw [cn])]
          exact go _ (by rw [pk_mul, nI_add, q_fc_t (hpm.trans ht), if_pos cn]; exact congrArg nI (by omega))
        · rw [if_neg (by rw [nI_eq (by omega) (by decide)]; exact cn)]
          exact go _ (by rw [q_fc_t (hpm.trans ht), if_neg cn])
      · have ht : q_ht S T l (f + d) v = false := by unfold q_ht; simp [cr]
        have hq : q_nb (q_ht S T l (f + d)) (v + 1) = q_nb (q_ht S T l (f + d)) v := by rw [q_nb_s, if_neg (by rw [ht]; decide), Nat.add_zero]
        have hq2 : q_nb (q_hh2 S f T l) (8 * d + v + 1) = q_nb (q_hh2 S f T l) (8 * d + v) := by rw [q_nb_s, if_neg (by rw [hpm, ht]; decide), Nat.add_zero]
        rw [if_neg (by rw [nI_eq (by omega) (by omega)]; exact cr)]
        refine hrec2 _ ⟨(q_fc_f (hpm.trans ht)).symm, ?_, ?_, nI_add _ _, s3, s4, s5⟩
        · dsimp only
          unfold q_lc
          rw [hq]
        · dsimp only
          rw [show 8 * d + (v + 1) = 8 * d + v + 1 from rfl, hq2]
    · rintro rec2 ⟨x1, x2, x3, x4, g1⟩ ⟨e7, e8, e9, e10, f1, f2, f3⟩
      dsimp only at e7 e8 e9 e10 f1 f2 f3 ⊢
      subst e7 e8 e9 e10
      rw [if_pos (nI_le (Nat.le_refl _) (by decide)), pfI_at]
      have s1 : q_ag [51, 65, 66] h (ph_sI g1 51 22 (-1)) := q_ag_sI f1 (by decide)
      have s2 : ∀ k, k ≠ 22 → k ≠ 23 → (ph_sI g1 51 22 (-1)).1 51 k = h.1 51 k := fun k h1 h2 => by rw [sI_eq, if_neg h1]; exact f2 k h1 h2
      have V := mv _ (-1) s1 s2 (by rw [sI_eq, if_pos rfl])
      refine O_cl (m_livesN w V hT (by omega) (fun u hu => by rw [sI_ne _ _ _ (by decide)]; exact f3 u hu)) ?_
      rintro _ g2 ⟨r1, r3⟩
      refine hrec _ ⟨by dsimp only; rw [show 8 * (d + 1) = 8 * d + 8 from rfl], q_lc_8 S f T l d, by dsimp only; rw [show 8 * (d + 1) = 8 * d + 8 from rfl], nI_add _ _, q_ag_tr s1 (q_ag_sub r3 (by decide)), fun k h1 h2 => ?_, fun u hu => r1 u (by omega)⟩
      dsimp only
      rw [(r3 51 (by decide)).1]; exact s2 k h1 h2
  · rintro rec ⟨x7, x8, x9, x10, g⟩ ⟨e7, e8, e9, e10, e1, e2, e3⟩
    dsimp only at e7 e8 e9 e10 e1 e2 e3 ⊢
    subst e7 e8 e9 e10
    rw [jn_at]
    by_cases hp : q_pl S = 0
    · have hz : ∀ a v, q_ht S T l a v = false := fun a v => by unfold q_ht; simp [hp]
      have h2 : ∀ m, q_hh2 S f T l m = false := fun m => hz _ _
      have hb : ∀ d, q_bb S f T l d = false := fun d => by
        unfold q_bb
        rw [q_nb_0.mpr (fun k _ => hz _ _)]
        rfl
      rw [if_pos hp, if_neg (nI_ge (by omega) (by omega)), e2 7 (by decide) (by decide), P.1.1, hp, if_pos (by decide)]
      refine fin g _ _ _ e1 e2 ?_
      unfold q_pm
      rw [q_ff_all.mpr (fun k _ => h2 k), if_pos rfl, q_lb_no f _ (T - f) (fun e _ => hb e), q_nb_0 (n := 8 * (T - f)) |>.mpr (fun k _ => h2 k)]
      rfl
    · rw [if_neg hp, if_pos (nI_le (by omega) (by omega))]
      exact fin g _ _ _ e1 e2 rfl
theorem q_in_some {x : Int32} {n j : Nat} (hn : n < 2 ^ 31) (e : q_in x n = some j) : j < n ∧ x = nI j := by
  rcases q_ins x n hn with ⟨e1, -⟩ | ⟨k, hk, rfl, e1⟩
  · rw [e1] at e; cases e
  · rw [e1] at e; cases e; exact ⟨hk, rfl⟩
theorem sp_pbad {S : q_S} {x1 x2 x3 x4 : Int32} (hb : ∀ f T l j, q_in x1 40 = some f → q_in x2 40 = some T → q_in x3 8 = some l → q_in x4 3 = some j → ¬ (1 ≤ f ∧ f < T)) : sp_prompt S x1 x2 x3 x4 = ((-2), S) := by
  unfold sp_prompt
  split
  · next f T l j a b c d => rw [if_neg (hb f T l j a b c d)]
  · rfl
theorem m_prompt (S : q_S) (w : q_wf S) (h : ph_Hp) (K : MI S h) (x1 x2 x3 x4 : Int32) : ph_O (f_X9_prompt x1 x2 x3 x4 h) (Mq h (sp_prompt S x1 x2 x3 x4).1 (sp_prompt S x1 x2 x3 x4).2) := by
  unfold f_X9_prompt
  refine O_cl (m_find w K) ?_
  rintro _ g ⟨F, a1⟩
  have bad : sp_prompt S x1 x2 x3 x4 = ((-2), S) → ph_O (some (((-2) : Int32), g)) (Mq h (sp_prompt S x1 x2 x3 x4).1 (sp_prompt S x1 x2 x3 x4).2) := fun e => by
    rw [e]; exact O_ret ⟨rfl, F.2.2, mA_C a1⟩
  by_cases c1 : x1 ≤ nI 0
  · rw [if_pos c1]
    refine bad (sp_pbad (fun f T l j a b c d z => ?_))
    obtain ⟨h1, rfl⟩ := q_in_some (by decide) a
    exact nI_ge (show 0 < f by omega) (by omega) c1
  rw [if_neg c1]
  rcases q_ins x2 40 (by decide) with ⟨e2, b2⟩ | ⟨T, hT, rfl, e2⟩
  · rw [m_ste_o b2, cl_some, if_pos rfl]
    exact bad (sp_pbad (fun f T l j a b c d z => by rw [e2] at b; cases b))
  rw [m_ste_i hT, cl_some, if_neg (by decide)]
  by_cases c2 : nI T ≤ x1
  · rw [if_pos c2]
    refine bad (sp_pbad (fun f T2 l j a b c d z => ?_))
    obtain ⟨h1, rfl⟩ := q_in_some (by decide) a
    rw [e2] at b
    cases b
    exact nI_ge z.2 (by omega) c2
  rw [if_neg c2]
  rcases q_ins x3 8 (by decide) with ⟨e3, b3⟩ | ⟨l, hl, rfl, e3⟩
  · rw [m_lin_o b3, cl_some, if_pos rfl]
    exact bad (sp_pbad (fun f T l j a b c d z => by rw [e3] at c; cases c))
  rw [m_lin_i hl, cl_some, if_neg (by decide)]
  rcases q_ins x4 3 (by decide) with ⟨e4, b4⟩ | ⟨j, hj, rfl, e4⟩
  · rw [m_wo (by decide) b4, cl_some, if_pos rfl]
    exact bad (sp_pbad (fun f T l j a b c d z => by rw [e4] at d; cases d))
  rw [m_wi hj (by decide), cl_some, if_neg (by decide)]
  rcases q_ins x1 40 (by decide) with ⟨e1, b1⟩ | ⟨f, hf, rfl, e1⟩
  · exfalso
    rcases b1 with b1 | b1
    · exact c1 (Int32.le_of_lt b1)
    · exact c2 (Int32.le_trans (nI_le (show T ≤ 40 by omega) (by decide)) b1)
  have hf1 : 1 ≤ f := by
    rcases Nat.eq_zero_or_pos f with q | q
    · exact absurd (by rw [q]; exact Int32.le_refl _) c1
    · exact q
  have hfT : f < T := by
    rcases Nat.lt_or_ge f T with q | q
    · exact q
    · exact absurd (nI_le q (by omega)) c2
  have esp : sp_prompt S (nI f) (nI T) (nI l) (nI j) = (q_pm S f T l j, S) := by
    unfold sp_prompt
    rw [e1, e2, e3, e4]
    dsimp only
    rw [if_pos ⟨hf1, hfT⟩]
  rw [esp]
  refine cl_id (O_mono (m_promptOf w F hfT hT hl hj) ?_)
  rintro v g2 ⟨rfl, F2, a2⟩
  exact ⟨rfl, F2.2.2, mA_C (mA_tr a1 a2)⟩
