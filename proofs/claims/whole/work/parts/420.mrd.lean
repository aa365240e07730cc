-- the reference reads what was typed
theorem m_rg {v a b : Nat} (hv : v < 2 ^ 31) (ha : a < 2 ^ 31) (hb : b < 2 ^ 31) (h : ph_Hp) : f_X9_in (nI v).toInt64 (lN a) (lN b) h = some (if a ≤ v ∧ v ≤ b then nI 1 else nI 0, h) := by
  rw [← nI_l ha, ← nI_l hb, m_in]
  by_cases c : a ≤ v ∧ v ≤ b
  · rw [if_pos c, if_neg (fun z => z.elim (nI_nlt c.1 hv) (nI_nlt c.2 hb))]
  · rw [if_neg c, if_pos]
    by_cases d : a ≤ v
    · exact Or.inr (nI_lt (by omega) hv)
    · exact Or.inl (nI_lt (by omega) ha)
def MRp (S : q_S) (h : ph_Hp) : Prop := h.1 51 7 = nI (q_pl S) ∧ ∀ k, k < q_pl S → h.1 58 k = nI (q_pv S k)
def MRh (S : q_S) (h : ph_Hp) : Prop := h.1 51 9 = nI (q_hn S) ∧ ∀ k, k < q_hn S → h.1 59 (4 * k) = nI (q_hp S k) ∧ h.1 59 (4 * k + 1) = nI (q_hr S k) ∧ h.1 59 (4 * k + 2) = nI (q_hh S k) ∧ h.1 59 (4 * k + 3) = nI (q_hl S k)
def q_b0 (S : q_S) (k : Nat) : Bool := !(decide (97 ≤ S.2.1 0 k) && decide (S.2.1 0 k ≤ 104))
theorem m_rplay {S : q_S} (w : q_wf S) {h : ph_Hp} (K : MI S h) : ph_O (f_X9_readsPlay h) (fun v g => v = q_f0 S ∧ MRp S g ∧ q_ag [51, 58] h g ∧ ∀ k, k ≠ 7 → g.1 51 k = h.1 51 k) := by
  have hw := w.1.1
  have a1 := K.1.1
  have a2 := K.1.2
  unfold f_X9_readsPlay
  rw [pfI_at]
  refine O_for (S.1 0) (fun p y => y.1 = nI p ∧ (∀ k, k < p → q_b0 S k = false) ∧ y.2.1 51 7 = nI p ∧ (∀ k, k < p → y.2.1 58 k = nI (q_pv S k)) ∧ q_ag [51, 58] h y.2 ∧ ∀ k, k ≠ 7 → y.2.1 51 k = h.1 51 k) (by omega) ⟨rfl, fun k hk => absurd hk (Nat.not_lt_zero k), by dsimp only; rw [sI_eq, if_pos rfl], fun k hk => absurd hk (Nat.not_lt_zero k), q_ag_sI (q_ag_rf _ h) (by decide), fun k hk => by dsimp only; rw [sI_eq, if_neg hk]⟩ ?_ ?_
  · rintro rec p ⟨y, g⟩ hp ⟨ey, e1, e2, e3, e4, e5⟩ hrec
    dsimp only at ey e1 e2 e3 e4 e5 ⊢
    subst ey
    have hb := (w.2.1 p).1
    have hcell : g.1 56 p = nI (S.2.1 0 p) := by
      rw [(e4 56 (by decide)).1]
      have := a2 p hp
      rw [Nat.one_mul, Nat.add_zero] at this
      exact this
    rw [ldI_at (by decide) (by decide), (e4 57 (by decide)).1, a1, if_neg (nI_ge hp (by omega)), ldI_at (by omega) (by decide), hcell, m_rg (by omega) (by decide) (by decide), cl_some]
    by_cases c : 97 ≤ S.2.1 0 p ∧ S.2.1 0 p ≤ 104
    · rw [if_pos c, if_neg (by decide), ldI_at (by omega) (by decide), hcell, pk_sub c.1, stI_at (by omega) (by decide), pfI_at, sI_ne (i := 58) (j := 51) _ _ _ (by decide), e2, nI_add]
      refine hrec _ ⟨rfl, fun k hk => ?_, by dsimp only; rw [sI_eq, if_pos rfl], fun k hk => ?_, q_ag_sI (q_ag_sI e4 (by decide)) (by decide), fun k hk => ?_⟩
      · by_cases q : k = p
        · rw [q]; unfold q_b0; simp [c.1, c.2]
        · exact e1 k (by omega)
      · dsimp only
        rw [sI_ne _ _ _ (by decide), sI_eq]
        by_cases q : k = p
        · rw [if_pos q, q]; rfl
        · rw [if_neg q]; exact e3 k (by omega)
      · dsimp only
        rw [sI_eq, if_neg hk, sI_ne _ _ _ (by decide)]; exact e5 k hk
    · have hm : q_m0 S = p := q_ff_is hp (by show q_b0 S p = true; unfold q_b0; by_cases d : 97 ≤ S.2.1 0 p <;> simp [d] <;> omega) (fun k hk => e1 k hk)
      have hpl : q_pl S = 0 := by unfold q_pl; rw [hm, if_neg (by omega)]
      rw [if_neg c, if_pos rfl, pfI_at]
      refine O_ret ⟨by unfold q_f0; rw [hm, if_neg (by omega)], ⟨by rw [sI_eq, if_pos rfl, hpl], fun k hk => by rw [hpl] at hk; exact absurd hk (Nat.not_lt_zero k)⟩, q_ag_sI e4 (by decide), fun k hk => by rw [sI_eq, if_neg hk]; exact e5 k hk⟩
  · rintro rec ⟨y, g⟩ ⟨ey, e1, e2, e3, e4, e5⟩
    dsimp only at ey e1 e2 e3 e4 e5 ⊢
    subst ey
    have hm : q_m0 S = S.1 0 := q_ff_all.mpr e1
    have hpl : q_pl S = S.1 0 := by unfold q_pl; rw [hm, if_pos rfl]
    rw [ldI_at (by decide) (by decide), (e4 57 (by decide)).1, a1, if_pos (nI_le (Nat.le_refl _) (by omega))]
    exact O_ret ⟨by unfold q_f0; rw [hm, if_pos rfl], ⟨by rw [hpl]; exact e2, fun k hk => e3 k (by rw [hpl] at hk; exact hk)⟩, e4, e5⟩
def q_tv (j b : Nat) : Nat := if j = 0 then b - 97 else if j = 1 then b - 48 else if j = 2 then q_hb b else if j = 3 then b - 97 else 0
theorem m_with {v a b : Nat} (hv : v < 256) (ha : a < 256) (hb : b < 256) (h : ph_Hp) : f_X9_within (nI v) (nI a) (nI b) h = some (if decide (a ≤ v) && decide (v ≤ b) then nI (v - a) else (-1), h) := by
  unfold f_X9_within
  rw [nI_l (n := a) (by omega), nI_l (n := b) (by omega), m_rg (by omega) (by omega) (by omega), cl_some]
  by_cases c : a ≤ v ∧ v ≤ b
  · rw [if_pos c, if_neg (by decide), if_pos (by simp [c.1, c.2]), pk_sub c.1]
  · rw [if_neg c, if_pos rfl, if_neg (by simp; omega)]
theorem m_tells {j b : Nat} (hj : j < 5) (hb : b < 256) (h : ph_Hp) : f_X9_tellsOf (nI j) (nI b) h = some (if q_ok1 j b = true then nI (q_tv j b) else (-1), h) := by
  unfold f_X9_tellsOf q_ok1 q_tv q_hb
  have ne : ∀ a, a < 256 → b ≠ a → ¬ nI b = nI a := fun a ha hn z => hn ((nI_eq (by omega) (by omega)).mp z)
  rcases (show j = 0 ∨ j = 1 ∨ j = 2 ∨ j = 3 ∨ j = 4 by omega) with rfl | rfl | rfl | rfl | rfl
  · rw [if_pos rfl, m_with hb (by decide) (by decide), cl_some]; rfl
  · rw [if_neg (by decide), if_pos rfl, m_with hb (by decide) (by decide), cl_some]; rfl
  · rw [if_neg (by decide), if_neg (by decide), if_pos rfl]
    by_cases c1 : b = 110
    · subst c1; rfl
    rw [if_neg (ne _ (by decide) c1)]
    by_cases c2 : b = 114
    · subst c2; rfl
    rw [if_neg (ne _ (by decide) c2)]
    by_cases c3 : b = 121
    · subst c3; rfl
    rw [if_neg (ne _ (by decide) c3)]
    by_cases c4 : b = 108
    · subst c4; rfl
    rw [if_neg (ne _ (by decide) c4)]
    simp [c1, c2, c3, c4]
  · rw [if_neg (by decide), if_neg (by decide), if_neg (by decide), if_pos rfl, m_with hb (by decide) (by decide), cl_some]; rfl
  · rw [if_neg (by decide), if_neg (by decide), if_neg (by decide), if_neg (by decide)]
    by_cases c : b = 59
    · subst c; rfl
    rw [if_neg (ne _ (by decide) c)]
    simp [c]
theorem q_tv_lt {j b : Nat} (hb : b < 256) : q_tv j b < 256 := by
  unfold q_tv q_hb
  repeat' split
  all_goals omega
theorem m_rholes {S : q_S} (w : q_wf S) {h : ph_Hp} (K : MI S h) : ph_O (f_X9_readsHoles h) (fun v g => v = q_f1 S ∧ MRh S g ∧ q_ag [51, 59] h g ∧ ∀ k, k ≠ 9 → g.1 51 k = h.1 51 k) := by
  have hw := w.1.2.1
  have b1 := K.2.1.1
  have b2 := K.2.1.2
  unfold f_X9_readsHoles
  rw [pfI_at, ldI_at (by decide) (by decide), sI_ne _ _ _ (by decide), b1]
  refine O_for (S.1 1) (fun p y => y.1 = nI p ∧ (∀ k, k < p → (!q_ok1 (k % 5) (S.2.1 1 k)) = false) ∧ y.2.1 51 9 = nI ((p + 1) / 5) ∧ (∀ k, k < p → k % 5 < 4 → y.2.1 59 (4 * (k / 5) + k % 5) = nI (q_tv (k % 5) (S.2.1 1 k))) ∧ q_ag [51, 59] h y.2 ∧ ∀ k, k ≠ 9 → y.2.1 51 k = h.1 51 k) (by omega) ⟨rfl, fun k hk => absurd hk (Nat.not_lt_zero k), by dsimp only; rw [sI_eq, if_pos rfl], fun k hk => absurd hk (Nat.not_lt_zero k), q_ag_sI (q_ag_rf _ h) (by decide), fun k hk => by dsimp only; rw [sI_eq, if_neg hk]⟩ ?_ ?_
  · rintro rec p ⟨y, g⟩ hp ⟨ey, e1, e2, e3, e4, e5⟩ hrec
    dsimp only at ey e1 e2 e3 e4 e5 ⊢
    subst ey
    have hb := (w.2.1 p).2.1
    have hcell : g.1 56 (44 + p) = nI (S.2.1 1 p) := by
      rw [(e4 56 (by decide)).1]
      have := b2 p hp
      rw [Nat.one_mul, Nat.add_comm] at this
      exact this
    have htv := q_tv_lt (j := p % 5) hb
    rw [if_neg (nI_ge hp (by omega)), jn_at, pk_div (by omega) (by decide) (by decide), irem_at (by omega) (by decide) (by decide), if_neg (by rw [nI_eq (by omega) (by decide)]; omega), nI_add, ldI_at (by omega) (by decide), hcell, m_tells (by omega) hb, cl_some]
    dsimp only
    by_cases c : q_ok1 (p % 5) (S.2.1 1 p) = true
    · rw [if_pos c, if_neg (n_ne1 (by omega)), jn_at]
      have hok : ∀ k, k < p + 1 → (!q_ok1 (k % 5) (S.2.1 1 k)) = false := fun k hk => by
        by_cases q : k = p
        · rw [q, c]; rfl
        · exact e1 k (by omega)
      have go : ∀ g2 : ph_Hp, g2.1 51 9 = nI ((p + 1) / 5) → (∀ k, k < p + 1 → k % 5 < 4 → g2.1 59 (4 * (k / 5) + k % 5) = nI (q_tv (k % 5) (S.2.1 1 k))) → q_ag [51, 59] h g2 → (∀ k, k ≠ 9 → g2.1 51 k = h.1 51 k) → ph_O (ph_jn (α := Int32) (fun x18 => ph_pfI g2 51 9 ((g2.1 51 9) + x18) fun h19 => rec (nI p + (nI 1), h19)) (fun j17 => if nI (p % 5) = (nI 3) then j17 (nI 1) else j17 (nI 0))) (fun v g => v = q_f1 S ∧ MRh S g ∧ q_ag [51, 59] h g ∧ ∀ k, k ≠ 9 → g.1 51 k = h.1 51 k) := by
        intro g2 r1 r2 r3 r4
        rw [jn_at]
        have fin : ∀ z : Nat, (p + 1) / 5 + z = (p + 1 + 1) / 5 → ph_O (ph_pfI g2 51 9 ((g2.1 51 9) + nI z) fun h19 => rec (nI p + (nI 1), h19)) (fun v g => v = q_f1 S ∧ MRh S g ∧ q_ag [51, 59] h g ∧ ∀ k, k ≠ 9 → g.1 51 k = h.1 51 k) := by
          intro z hz
          rw [pfI_at, r1, nI_add ((p + 1) / 5) z, hz]
          exact hrec _ ⟨nI_add _ _, hok, by dsimp only; rw [sI_eq, if_pos rfl], fun k hk h4 => by dsimp only; rw [sI_ne _ _ _ (by decide)]; exact r2 k hk h4, q_ag_sI r3 (by decide), fun k hk => by dsimp only; rw [sI_eq, if_neg hk]; exact r4 k hk⟩
        by_cases c3 : p % 5 = 3
        · rw [if_pos (by rw [c3])]
          exact fin 1 (by omega)
        · rw [if_neg (by rw [nI_eq (by omega) (by decide)]; exact c3)]
          exact fin 0 (by omega)
      by_cases c4 : 4 ≤ p % 5
      · rw [if_pos (nI_le c4 (by omega))]
        exact go g e2 (fun k hk h4 => by
          by_cases q : k = p
          · rw [q] at h4; omega
          · exact e3 k (by omega) h4) e4 e5
      · rw [if_neg (nI_ge (by omega) (by decide)), pk_mul, nI_add, stI_at (by omega) (by decide)]
        refine go _ (by rw [sI_ne _ _ _ (by decide)]; exact e2) (fun k hk h4 => ?_) (q_ag_sI e4 (by decide)) (fun k hk => by rw [sI_ne _ _ _ (by decide)]; exact e5 k hk)
        rw [sI_eq]
        by_cases q : k = p
        · rw [q, if_pos rfl]
        · rw [if_neg (by omega)]; exact e3 k (by omega) h4
    · have hm : q_m1 S = p := q_ff_is hp (by simp [c]) (fun k hk => e1 k hk)
      have hhn : q_hn S = 0 := by unfold q_hn; rw [hm, if_pos hp]
      rw [if_neg c, if_pos rfl, pfI_at]
      refine O_ret ⟨by unfold q_f1; rw [hm, if_pos hp], ⟨by rw [sI_eq, if_pos rfl, hhn], fun k hk => by rw [hhn] at hk; exact absurd hk (Nat.not_lt_zero k)⟩, q_ag_sI e4 (by decide), fun k hk => by rw [sI_eq, if_neg hk]; exact e5 k hk⟩
  · rintro rec ⟨y, g⟩ ⟨ey, e1, e2, e3, e4, e5⟩
    dsimp only at ey e1 e2 e3 e4 e5 ⊢
    subst ey
    have hm : q_m1 S = S.1 1 := q_ff_all.mpr e1
    have good : S.1 1 = 0 ∨ S.1 1 % 5 = 4 → q_hn S = (S.1 1 + 1) / 5 ∧ q_f1 S = (-1) := fun z => by
      unfold q_hn q_f1
      rw [hm, if_neg (Nat.lt_irrefl _), if_neg (Nat.lt_irrefl _), if_pos z, if_pos z]
      exact ⟨rfl, rfl⟩
    have cells : S.1 1 = 0 ∨ S.1 1 % 5 = 4 → MRh S g := fun z => by
      have gz := (good z).1
      refine ⟨by rw [gz]; exact e2, fun k hk => ?_⟩
      have at4 : ∀ j, j < 4 → g.1 59 (4 * k + j) = nI (q_tv j (S.2.1 1 (5 * k + j))) := fun j hj => by
        have h5 := e3 (5 * k + j) (by omega) (by omega)
        rw [show (5 * k + j) / 5 = k by omega, show (5 * k + j) % 5 = j by omega] at h5
        exact h5
      exact ⟨at4 0 (by decide), at4 1 (by decide), at4 2 (by decide), at4 3 (by decide)⟩
    rw [if_pos (nI_le (Nat.le_refl _) (by omega)), irem_at (by omega) (by decide) (by decide)]
    by_cases c1 : S.1 1 = 0
    · rw [if_pos (nI_le (by omega) (by omega))]
      exact O_ret ⟨(good (Or.inl c1)).2.symm, cells (Or.inl c1), e4, e5⟩
    · rw [if_neg (nI_ge (by omega) (by omega))]
      by_cases c2 : S.1 1 % 5 = 4
      · rw [if_pos (by rw [c2])]
        exact O_ret ⟨(good (Or.inr c2)).2.symm, cells (Or.inr c2), e4, e5⟩
      · rw [if_neg (by rw [nI_eq (by omega) (by decide)]; exact c2), pfI_at]
        have hhn : q_hn S = 0 := by unfold q_hn; rw [hm, if_neg (by omega), if_neg (fun z => z.elim c1 c2)]
        refine O_ret ⟨by unfold q_f1; rw [hm, if_neg (by omega), if_neg (fun z => z.elim c1 c2)], ⟨by rw [sI_eq, if_pos rfl, hhn], fun k hk => by rw [hhn] at hk; exact absurd hk (Nat.not_lt_zero k)⟩, q_ag_sI e4 (by decide), fun k hk => by rw [sI_eq, if_neg hk]; exact e5 k hk⟩
