-- greatest common parts
def q_eu (p : Nat × Nat) : Nat × Nat := if p.2 = 0 then p else (p.2, p.1 % p.2)
def q_es (p : Nat × Nat) : Nat → Nat × Nat
  | 0 => p
  | n + 1 => q_eu (q_es p n)
theorem q_eu_gcd (p : Nat × Nat) : Nat.gcd (q_eu p).1 (q_eu p).2 = Nat.gcd p.1 p.2 := by
  unfold q_eu
  by_cases c : p.2 = 0
  · rw [if_pos c]
  · rw [if_neg c]
    dsimp only
    rw [Nat.gcd_comm p.1 p.2, Nat.gcd_rec p.2 p.1, Nat.gcd_comm]
theorem q_es_gcd (p : Nat × Nat) : ∀ n, Nat.gcd (q_es p n).1 (q_es p n).2 = Nat.gcd p.1 p.2
  | 0 => rfl
  | n + 1 => by rw [q_es, q_eu_gcd, q_es_gcd p n]
theorem q_eu_half (p : Nat × Nat) : (q_eu (q_eu p)).2 ≤ p.2 / 2 := by
  unfold q_eu
  by_cases c : p.2 = 0
  · rw [if_pos c, if_pos c, c]; exact Nat.le_refl _
  · rw [if_neg c]
    dsimp only
    have h1 : p.1 % p.2 < p.2 := Nat.mod_lt _ (by omega)
    by_cases d : p.1 % p.2 = 0
    · rw [if_pos d]
      dsimp only
      rw [d]; exact Nat.zero_le _
    · rw [if_neg d]
      dsimp only
      have h2 : p.2 % (p.1 % p.2) < p.1 % p.2 := Nat.mod_lt _ (by omega)
      have h3 : p.2 % (p.1 % p.2) ≤ p.2 - p.1 % p.2 := by
        rw [Nat.mod_eq_sub_mod (by omega)]
        exact Nat.mod_le _ _
      omega
theorem q_es_small (p : Nat × Nat) : ∀ m, (q_es p (2 * m)).2 ≤ p.2 / 2 ^ m
  | 0 => by rw [Nat.pow_zero, Nat.div_one]; exact Nat.le_refl _
  | m + 1 => by
    have h1 := q_es_small p m
    have h2 := q_eu_half (q_es p (2 * m))
    rw [show 2 * (m + 1) = 2 * m + 1 + 1 by omega, q_es, q_es, Nat.pow_succ, ← Nat.div_div_eq_div_mul]
    omega
theorem q_es_end {p : Nat × Nat} (hp : p.2 < 2 ^ 40) : (q_es p 80).2 = 0 := by
  have : (q_es p 80).2 ≤ p.2 / 2 ^ 40 := q_es_small p 40
  rw [Nat.div_eq_of_lt hp] at this
  omega
theorem q_es_le {p : Nat × Nat} {b : Nat} (h1 : p.1 ≤ b) (h2 : p.2 ≤ b) : ∀ n, (q_es p n).1 ≤ b ∧ (q_es p n).2 ≤ b
  | 0 => ⟨h1, h2⟩
  | n + 1 => by
    have h3 := q_es_le h1 h2 n
    rw [q_es]
    unfold q_eu
    by_cases c : (q_es p n).2 = 0
    · rw [if_pos c]; exact h3
    · rw [if_neg c]
      refine ⟨h3.2, ?_⟩
      have : (q_es p n).1 % (q_es p n).2 < (q_es p n).2 := Nat.mod_lt _ (by omega)
      dsimp only
      omega
theorem m_part {W B j : Nat} (hW : W ≤ B) (hB : B < 2 ^ 40) (h0 : 0 < B) (hj : j < 2) (h : ph_Hp) : f_X9_part (lN W) (lN B) (nI j) h = some (if j = 0 then lN (W / Nat.gcd W B) else lN (B / Nat.gcd W B), h) := by
  have hle := q_ff_le (fun i => decide ((q_es (W, B) i).2 = 0)) 81
  have hlt : q_ff (fun i => decide ((q_es (W, B) i).2 = 0)) 81 < 81 := by
    rcases Nat.lt_or_ge (q_ff (fun i => decide ((q_es (W, B) i).2 = 0)) 81) 81 with q | q
    · exact q
    · have h1 := q_ff_all.mp (show q_ff (fun i => decide ((q_es (W, B) i).2 = 0)) 81 = 81 by omega) 80 (by decide)
      have h2 : (q_es (W, B) 80).2 = 0 := q_es_end hB
      simp [h2] at h1
  have hy := q_ff_yes _ _ hlt
  have bd := q_es_le (p := (W, B)) (b := B) hW (Nat.le_refl B)
  unfold f_X9_part
  refine lp_for (fun i => (lN (q_es (W, B) i).1, lN (q_es (W, B) i).2)) (q_ff (fun i => decide ((q_es (W, B) i).2 = 0)) 81) (by omega) rfl ?_ ?_
  · intro rec i hi
    have h1 := of_decide_eq_false (q_ff_no _ _ i hi)
    have b1 := bd i
    have hne : ¬ lN (q_es (W, B) i).2 = lN 0 := fun z => h1 ((pk_lEQ (by omega) (by decide)).mp z)
    dsimp only
    rw [if_neg (fun z => hne ((lg_cmp0 _ _).mp z))]
    unfold ph_rmJ ph_lrem
    rw [if_neg hne, pk_lRem (by omega) (by omega) (by omega), q_es]
    unfold q_eu
    rw [if_neg h1]
  · intro rec
    have h1 : (q_es (W, B) (q_ff (fun i => decide ((q_es (W, B) i).2 = 0)) 81)).2 = 0 := of_decide_eq_true hy
    have h2 := q_es_gcd (W, B) (q_ff (fun i => decide ((q_es (W, B) i).2 = 0)) 81)
    rw [h1, Nat.gcd_zero_right] at h2
    dsimp only at h2 ⊢
    have hg : 0 < Nat.gcd W B := Nat.gcd_pos_of_pos_right W h0
    have hgl : Nat.gcd W B ≤ B := Nat.gcd_le_right W h0
    rw [h1, h2, if_pos ((lg_cmp0 _ _).mpr rfl), jn_at]
    have hne : ¬ lN (Nat.gcd W B) = lN 0 := fun z => by
      have := (pk_lEQ (by omega) (by decide)).mp z
      omega
    unfold ph_dvJ
    by_cases c : j = 0
    · rw [if_pos (by rw [c]), if_pos c]
      dsimp only
      rw [if_neg hne, pk_lDiv (by omega) hg (by omega)]
    · rw [if_neg (by rw [nI_eq (by omega) (by decide)]; exact c), if_neg c]
      dsimp only
      rw [if_neg hne, pk_lDiv (by omega) hg (by omega)]
