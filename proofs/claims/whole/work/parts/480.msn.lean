-- what was seen
theorem m_isSeen {S : q_S} (w : q_wf S) {f : Option Nat} {c : Nat → Int32} {h : ph_Hp} (V : MV S f (-1) c h) (hf : ∀ k, f = some k → k < 9) (kg : h.1 51 24 = nI (S.1 5) ∧ mW 67 2 0 (S.1 5) (S.2.1 7) h ∧ mW 67 2 1 (S.1 5) (S.2.1 8) h) : ph_O (f_X9_isSeen h) (fun v g => v = (if q_as S (q_P S f c) = true then nI 1 else nI 0) ∧ q_ag [65, 66] h g) := by
  have hw := w.1.2.2.2.2.2
  have hP : q_pl S ≠ 0 → ∀ t, q_P S f c t < 8 := fun hp t => q_P_lt hp _ _ t
  unfold f_X9_isSeen
  refine O_cl (m_lives w V hf (T := 39) (by decide) (fun t ht => n_ne1 (by omega))) ?_
  rintro _ g ⟨r1, r2, r3⟩
  have kg1 : g.1 51 24 = nI (S.1 5) := by rw [(r3 51 (by decide)).1]; exact kg.1
  refine O_of (v := if q_as S (q_P S f c) = true then nI 1 else nI 0) (h := g) ?_ ⟨rfl, r3⟩
  refine lp_for (fun i => (if q_al (q_un S (q_P S f c)) i = true then nI 1 else nI 0, nI i)) (S.1 5) (by omega) rfl ?_ ?_
  · intro rec i hi
    have h1 := kg.2.1 i hi
    have h2 := kg.2.2 i hi
    have hb := (w.2.1 i).2.2.2.2.2.2.2.1
    rw [Nat.add_zero] at h1
    dsimp only
    rw [kg1, if_neg (nI_ge hi (by omega)), jn_at, jn_at, nI_add i 1]
    by_cases cc : q_al (q_un S (q_P S f c)) i = true
    · rw [if_pos cc, if_neg (by decide), pk_mul, ldI_at (by omega) (by decide), (r3 67 (by decide)).1, h1, ldI_at hb (by decide), nI_add, ldI_at (by omega) (by decide), (r3 67 (by decide)).1, h2, (r1 _ (by omega)).1]
      by_cases d : q_un S (q_P S f c) i = false
      · rw [if_pos ((q_un_iff w hP i).mpr d), if_pos (by unfold q_al; simp [cc, d])]
      · rw [if_neg (fun z => d ((q_un_iff w hP i).mp z)), if_neg (by unfold q_al; simp [cc]; simpa using d)]
    · rw [if_neg cc, if_pos rfl, if_neg (by unfold q_al; simp [cc])]
  · intro rec
    dsimp only
    rw [kg1, if_pos (nI_le (Nat.le_refl _) (by omega)), q_al_ff]
    unfold q_as
    by_cases cc : q_ff (q_un S (q_P S f c)) (S.1 5) = S.1 5
    · rw [if_pos (decide_eq_true cc), rz_1]
    · rw [if_neg (by simp [cc]), rz_0]
theorem MF_V {S : q_S} {h : ph_Hp} (F : MF S h) : MV S none (-1) (q_cg S) h := MI_V F.2.2 F.1
