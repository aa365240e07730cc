-- one step, many steps
theorem q_bn_1 {S : q_S} {f : Option Nat} {t : Nat} : ∀ n, (q_bn S f t n).1 = none → (q_bn S f t n).2 = 10
  | 0, _ => rfl
  | n + 1, e => by
    unfold q_bn at e ⊢
    split at e
    · cases e
    · next c => rw [if_neg c]; exact q_bn_1 n e
theorem q_bn_3 {S : q_S} (w : q_wf S) {f : Option Nat} {t : Nat} : ∀ n, n ≤ q_hn S → ∀ k, (q_bn S f t n).1 = some k → (q_bn S f t n).2 < 10
  | 0, _, k, e => by cases e
  | n + 1, hn, k, e => by
    have b1 := q_hp_lt (S := S) (h := n) (by omega)
    have b2 := q_wh_lt w t
    unfold q_bn at e ⊢
    split at e
    · next c =>
      rw [if_pos c]
      show q_ad _ _ < 10
      unfold q_ad; split <;> omega
    · next c => rw [if_neg c]; exact q_bn_3 w n (by omega) k e
def q_99 (b : Option Nat × Nat) : Int32 := match b.1 with
  | none => nI 99
  | some _ => nI b.2
theorem m_plays {S : q_S} (w : q_wf S) {f : Option Nat} {s : Int32} {c : Nat → Int32} {h : ph_Hp} (V : MV S f s c h) (hf : ∀ k, f = some k → k < 9) {t p : Nat} (ht : t < 40) (hs : nI t ≠ s) (hp8 : q_pl S ≠ 0 → p < 8) (hpr : t ≠ 0 → h.1 65 (t - 1) = q_lv S p) : ph_O (f_X9_plays (nI t) h) (fun _ g => g.1 65 t = q_lv S (q_fo S t (q_by S f t) p (c t)) ∧ g.1 66 t = q_bv (q_by S f t) ∧ (∀ u, u ≠ t → g.1 65 u = h.1 65 u ∧ g.1 66 u = h.1 66 u) ∧ q_ag [65, 66] h g) := by
  have hhn := q_hn_le w
  have hle := q_pl_le w
  have a0 : q_ag [65, 66] h (ph_sI h 66 t (-1)) := q_ag_sI (q_ag_rf _ h) (by decide)
  have V0 := MV_ag V a0
  have nb : q_pl S = 0 ∨ q_dk S t = true → q_by S f t = none := fun z => by
    cases e : q_by S f t with
    | none => rfl
    | some k =>
      have := q_by_pl e
      rcases z with z | z
      · exact absurd z this.1
      · rw [z] at this; exact absurd this.2 (by decide)
  unfold f_X9_plays
  rw [stI_at ht (by decide), V0.1.1.1]
  by_cases cp : q_pl S = 0
  · rw [if_pos (by rw [cp]), stI_at ht (by decide)]
    refine O_ret ⟨by rw [sI_eq, if_pos rfl, q_lv_0 cp], by rw [sI_ne _ _ _ (by decide), sI_eq, if_pos rfl, nb (Or.inl cp)]; rfl, fun u hu => ?_, q_ag_sI a0 (by decide)⟩
    rw [sI_eq, if_neg hu, sI_ne _ _ _ (by decide), sI_ne _ _ _ (by decide), sI_eq, if_neg hu]
    exact ⟨rfl, rfl⟩
  rw [if_neg (by rw [nI_eq (by omega) (by decide)]; exact cp), V0.2.2.2, if_neg hs, m_dark_ w V0.2.1 ht, cl_some]
  by_cases cd : q_dk S t = true
  · rw [if_pos cd, if_neg (by decide), ldI_at (by decide) (by decide), V0.1.1.2 0 (by omega), stI_at ht (by decide)]
    refine O_ret ⟨by rw [sI_eq, if_pos rfl, q_lv_1 cp]; unfold q_fo; rw [if_pos cd], by rw [sI_ne _ _ _ (by decide), sI_eq, if_pos rfl, nb (Or.inr cd)]; rfl, fun u hu => ?_, q_ag_sI a0 (by decide)⟩
    rw [sI_eq, if_neg hu, sI_ne _ _ _ (by decide), sI_ne _ _ _ (by decide), sI_eq, if_neg hu]
    exact ⟨rfl, rfl⟩
  have ht0 : t ≠ 0 := fun z => cd (by rw [z]; exact q_dk_0 S)
  have hp := hp8 cp
  rw [if_neg cd, if_pos rfl, pk_sub (by omega), ldI_at (by omega) (by decide), sI_ne _ _ _ (by decide), hpr ht0, q_lv_1 cp, m_nx w V0.1.1 (by omega), cl_some, stI_at ht (by decide)]
  refine O_for (q_hn S) (fun i y => y.1 = q_99 (q_bn S f t i) ∧ y.2.1 = nI i ∧ y.2.2.1 65 t = q_lv S (match (q_bn S f t i).1 with
    | none => q_nx S p
    | some k => q_wp S k p (c t)) ∧ y.2.2.1 66 t = q_bv (q_bn S f t i).1 ∧ (∀ u, u ≠ t → y.2.2.1 65 u = h.1 65 u ∧ y.2.2.1 66 u = h.1 66 u) ∧ q_ag [65, 66] h y.2.2) (by omega) ⟨rfl, rfl, by dsimp only; rw [sI_eq, if_pos rfl]; rfl, by dsimp only; rw [sI_ne _ _ _ (by decide), sI_eq, if_pos rfl]; rfl, fun u hu => by dsimp only; rw [sI_eq, if_neg hu, sI_ne _ _ _ (by decide), sI_ne _ _ _ (by decide), sI_eq, if_neg hu]; exact ⟨rfl, rfl⟩, q_ag_sI a0 (by decide)⟩ ?_ ?_
  · rintro rec i ⟨x, y, g⟩ hi ⟨ex, ey, e1, e2, e3, e4⟩ hrec
    dsimp only at ex ey e1 e2 e3 e4 ⊢
    subst ex ey
    have V1 := MV_ag V e4
    have b1 := q_hp_lt hi
    have b2 := q_wh_lt w t
    have hads : q_ad (q_wh S t) (q_hp S i) = q_ad (q_hp S i) (q_wh S t) := by unfold q_ad; split <;> split <;> omega
    have hadl : q_ad (q_hp S i) (q_wh S t) < 10 := by unfold q_ad; split <;> omega
    have hpr1 : t ≠ 0 → g.1 65 (t - 1) = q_lv S p := fun z => by rw [(e3 (t - 1) (by omega)).1]; exact hpr z
    rw [V1.1.2.1.1, if_neg (nI_ge hi (by omega)), m_whn w V1 hf ht hi hp8 hpr1, cl_some, ldI_at ht (by decide), (V1.1.2.2 t ht).2, pk_mul, ldI_at (by omega) (by decide), (V1.1.2.1.2 i hi).1, m_amount (by omega) (by omega), cl_some, hads, jn_at, nI_add]
    have h99 : (q_99 (q_bn S f t i) ≤ nI (q_ad (q_hp S i) (q_wh S t))) ↔ ¬ q_ad (q_hp S i) (q_wh S t) < (q_bn S f t i).2 := by
      cases eb : (q_bn S f t i).1 with
      | none =>
        have h10 := q_bn_1 i eb
        have : q_99 (q_bn S f t i) = nI 99 := by unfold q_99; rw [eb]
        rw [this, h10]
        exact ⟨fun z => absurd z (nI_ge (by omega) (by decide)), fun z => absurd hadl z⟩
      | some k =>
        have h10 := q_bn_3 w i (by omega) k eb
        have : q_99 (q_bn S f t i) = nI (q_bn S f t i).2 := by unfold q_99; rw [eb]
        rw [this]
        constructor
        · intro z y; exact nI_ge y (by omega) z
        · intro z; exact nI_le (by omega) (by omega)
    by_cases cc : q_ad (q_hp S i) (q_wh S t) < (q_bn S f t i).2 ∧ q_he S f i t = true
    · have eb : q_bn S f t (i + 1) = (some i, q_ad (q_hp S i) (q_wh S t)) := by rw [q_bn, if_pos cc]
      have hwl := q_wp_lt (c := c t) cp hi hp
      have ew : q_wq S f c t i p = nI (q_wp S i p (c t)) := by unfold q_wq; rw [if_pos cc.2]
      rw [ew, if_neg (n_ne1 (by omega)), if_neg (fun z => (h99.mp z) cc.1), stI_at ht (by decide), stI_at ht (by decide)]
      refine hrec _ ⟨by rw [eb]; rfl, rfl, ?_, ?_, fun u hu => ?_, q_ag_sI (q_ag_sI e4 (by decide)) (by decide)⟩
      · dsimp only
        rw [sI_ne _ _ _ (by decide), sI_eq, if_pos rfl, eb, q_lv_1 cp]
      · dsimp only
        rw [sI_eq, if_pos rfl, eb]; rfl
      · dsimp only
        rw [sI_ne _ _ _ (show 65 ≠ 66 by decide), sI_eq, if_neg hu, sI_eq, if_neg hu, sI_ne _ _ _ (show 66 ≠ 65 by decide)]
        exact e3 u hu
    · have eb : q_bn S f t (i + 1) = q_bn S f t i := by rw [q_bn, if_neg cc]
      have same : ph_O (rec (q_99 (q_bn S f t i), nI (i + 1), g)) (fun _ g => g.1 65 t = q_lv S (q_fo S t (q_by S f t) p (c t)) ∧ g.1 66 t = q_bv (q_by S f t) ∧ (∀ u, u ≠ t → g.1 65 u = h.1 65 u ∧ g.1 66 u = h.1 66 u) ∧ q_ag [65, 66] h g) := hrec _ ⟨by rw [eb], rfl, by rw [eb]; exact e1, by rw [eb]; exact e2, e3, e4⟩
      by_cases ce : q_he S f i t = true
      · have hwl := q_wp_lt (c := c t) cp hi hp
        have ew : q_wq S f c t i p = nI (q_wp S i p (c t)) := by unfold q_wq; rw [if_pos ce]
        rw [ew, if_neg (n_ne1 (by omega)), if_pos (h99.mpr (fun z => cc ⟨z, ce⟩))]
        exact same
      · have ew : q_wq S f c t i p = (-1) := by unfold q_wq; rw [if_neg ce]
        rw [ew, if_pos rfl]
        exact same
  · rintro rec ⟨x, y, g⟩ ⟨ex, ey, e1, e2, e3, e4⟩
    dsimp only at ex ey e1 e2 e3 e4 ⊢
    subst ex ey
    rw [(MV_ag V e4).1.2.1.1, if_pos (nI_le (Nat.le_refl _) (by omega))]
    refine O_ret ⟨?_, e2, e3, e4⟩
    rw [e1]
    unfold q_fo q_by
    rw [if_neg cd]
    cases (q_bn S f t (q_hn S)).1 <;> rfl
theorem m_lives {S : q_S} (w : q_wf S) {f : Option Nat} {s : Int32} {c : Nat → Int32} {h : ph_Hp} (V : MV S f s c h) (hf : ∀ k, f = some k → k < 9) {T : Nat} (hT : T < 40) (hs : ∀ t, t ≤ T → nI t ≠ s) : ph_O (f_X9_lives (nI 0) (nI T) h) (fun _ g => (∀ t, t ≤ T → g.1 65 t = q_lv S (q_P S f c t) ∧ g.1 66 t = q_bv (q_by S f t)) ∧ (∀ t, T < t → g.1 65 t = h.1 65 t ∧ g.1 66 t = h.1 66 t) ∧ q_ag [65, 66] h g) := by
  unfold f_X9_lives
  refine O_for (T + 1) (fun i y => y.1 = nI i ∧ (∀ t, t < i → y.2.1 65 t = q_lv S (q_P S f c t) ∧ y.2.1 66 t = q_bv (q_by S f t)) ∧ (∀ t, i ≤ t → y.2.1 65 t = h.1 65 t ∧ y.2.1 66 t = h.1 66 t) ∧ q_ag [65, 66] h y.2) (by omega) ⟨rfl, fun t ht => absurd ht (Nat.not_lt_zero t), fun t _ => ⟨rfl, rfl⟩, q_ag_rf _ h⟩ ?_ ?_
  · rintro rec i ⟨y, g⟩ hi ⟨ey, e1, e2, e3⟩ hrec
    dsimp only at ey e1 e2 e3 ⊢
    subst ey
    rw [if_neg (nI_nlt (by omega) (by omega))]
    refine O_cl (m_plays w (MV_ag V e3) hf (t := i) (p := q_Pp S f c i) (by omega) (hs i (by omega)) (fun hp => ?_) (fun h0 => ?_)) ?_
    · cases i with
      | zero => exact (show (0 : Nat) < 8 by decide)
      | succ v => exact q_P_lt hp _ _ _
    · cases i with
      | zero => exact absurd rfl h0
      | succ v => exact (e1 v (by omega)).1
    · rintro _ g2 ⟨r1, r2, r3, r4⟩
      refine hrec _ ⟨nI_add _ _, fun t ht => ?_, fun t ht => ?_, q_ag_tr e3 r4⟩
      · dsimp only
        by_cases q : t = i
        · rw [q, r1, r2, ← q_P_fo]; exact ⟨rfl, rfl⟩
        · rw [(r3 t q).1, (r3 t q).2]; exact e1 t (by omega)
      · dsimp only
        rw [(r3 t (by omega)).1, (r3 t (by omega)).2]; exact e2 t (by omega)
  · rintro rec ⟨y, g⟩ ⟨ey, e1, e2, e3⟩
    dsimp only at ey e1 e2 e3 ⊢
    subst ey
    rw [if_pos (nI_lt (by omega) (by omega))]
    exact O_ret ⟨fun t ht => e1 t (by omega), fun t ht => e2 t (by omega), e3⟩
theorem MI_V {S : q_S} {c : Nat → Int32} {h : ph_Hp} (K : MI S h) (P : MP S c h) : MV S none (-1) c h := ⟨P, K.2.2.2.2.1, K.2.2.2.2.2.2.2.2.1, K.2.2.2.2.2.2.2.2.2⟩
def MF (S : q_S) (h : ph_Hp) : Prop := MP S (q_cg S) h ∧ (∀ t, t < 40 → h.1 65 t = q_lv S (q_p S t) ∧ h.1 66 t = q_bv (q_by S none t)) ∧ MI S h
theorem m_find {S : q_S} (w : q_wf S) {h : ph_Hp} (K : MI S h) : ph_O (f_X9_find h) (fun _ g => MF S g ∧ mA h g) := by
  unfold f_X9_find
  refine O_cl (m_plain w K) ?_
  rintro _ g ⟨P, K1, a1⟩
  refine O_cl (m_lives w (MI_V K1 P) (fun k e => by cases e) (T := 39) (by decide) (fun t ht => n_ne1 (by omega))) ?_
  rintro _ g2 ⟨r1, r2, r3⟩
  have V2 := MV_ag (MI_V K1 P) r3
  exact O_ret ⟨⟨V2.1, fun t ht => r1 t (by omega), MI_mA K1 (mA_ag r3 (by decide))⟩, mA_tr a1 (mA_ag r3 (by decide))⟩
