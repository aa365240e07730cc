theorem q_sm_pick {g : Nat → Nat} {x a : Nat} : ∀ n, q_sm (fun i => (if x = i then a else 0) * g i) n = if x < n then a * g x else 0
  | 0 => rfl
  | n + 1 => by
    rw [q_sm_s, q_sm_pick n]
    by_cases c1 : x < n
    · rw [if_pos c1, if_neg (show ¬ x = n by omega), if_pos (by omega), Nat.zero_mul, Nat.add_zero]
    · by_cases c2 : x = n
      · rw [if_neg c1, if_pos c2, if_pos (by omega), c2, Nat.zero_add]
      · rw [if_neg c1, if_neg c2, if_neg (by omega), Nat.zero_mul]
theorem q_sm_mulr (c : Nat) (f : Nat → Nat) : ∀ n, q_sm (fun k => f k * c) n = q_sm f n * c
  | 0 => by rw [q_sm, q_sm, Nat.zero_mul]
  | n + 1 => by rw [q_sm_s, q_sm_s, q_sm_mulr c f n, Nat.add_mul]
theorem q_xs_sum (S : q_S) (k c : Nat) : ∀ t l, q_sm (q_xs S k c t l) (2 ^ t) = q_Wy S k c t l
  | 0, l => by
    rw [Nat.pow_zero, q_sm, q_sm, Nat.zero_add]
    unfold q_xs q_Wy
    rfl
  | t + 1, l => by
    have lo : ∀ y, y < 2 ^ t → Nat.testBit y t = false := fun y hy => Nat.testBit_lt_two_pow hy
    have hi : ∀ y, y < 2 ^ t → Nat.testBit (2 ^ t + y) t = true := fun y hy => by rw [Nat.testBit_two_pow_add_eq, lo y hy]; rfl
    have up : ∀ y s, s < t → Nat.testBit (2 ^ t + y) s = Nat.testBit y s := fun y s hs => Nat.testBit_two_pow_add_gt hs y
    have one : ∀ y, y < 2 ^ t → q_xs S k c (t + 1) l y + q_xs S k c (t + 1) l (2 ^ t + y) = q_sm (fun i => q_xs S k c t i y * q_g S k c (t + 1) i l) 8 := by
      intro y hy
      by_cases cp : q_pl S = 0
      · rw [q_sm_0 8 (fun i _ => by unfold q_xs; rw [if_neg (fun z => z.1 cp), Nat.zero_mul])]
        unfold q_xs
        rw [if_neg (fun z => z.1 cp), if_neg (fun z => z.1 cp)]
      · have hP : q_P S none (q_xc S k y) t < 8 := q_P_lt cp _ _ _
        have e0 : (fun i => q_xs S k c t i y * q_g S k c (t + 1) i l) = (fun i => (if q_P S none (q_xc S k y) t = i then q_xw c y t else 0) * q_g S k c (t + 1) i l) := by
          funext i
          unfold q_xs
          by_cases d : q_P S none (q_xc S k y) t = i
          · rw [if_pos ⟨cp, d⟩, if_pos d]
          · rw [if_neg (fun z => d z.2), if_neg d]
        have c0 : q_xc S k y (t + 1) = q_d0 S k (t + 1) := by
          unfold q_xc
          rw [if_neg (by omega), Nat.add_sub_cancel, lo y hy, if_neg (by decide)]
        have c1 : q_xc S k (2 ^ t + y) (t + 1) = q_d1 S k (t + 1) := by
          unfold q_xc
          rw [if_neg (by omega), Nat.add_sub_cancel, hi y hy, if_pos rfl]
        have p0 : q_P S none (q_xc S k y) (t + 1) = q_f S (t + 1) (q_P S none (q_xc S k y) t) (q_d0 S k (t + 1)) := by rw [q_P_s, c0]; rfl
        have p1 : q_P S none (q_xc S k (2 ^ t + y)) (t + 1) = q_f S (t + 1) (q_P S none (q_xc S k y) t) (q_d1 S k (t + 1)) := by rw [q_P_s, c1, q_xP_cong t (fun s hs => up y s hs)]; rfl
        rw [e0, q_sm_pick, if_pos hP]
        unfold q_xs q_g
        rw [p0, p1, q_xw, q_xw, lo y hy, hi y hy, if_neg (show ¬ false = true by decide), if_pos (show true = true from rfl), q_xw_cong t (fun s hs => up y s hs), Nat.mul_add]
        by_cases d0 : q_f S (t + 1) (q_P S none (q_xc S k y) t) (q_d0 S k (t + 1)) = l
        · by_cases d1 : q_f S (t + 1) (q_P S none (q_xc S k y) t) (q_d1 S k (t + 1)) = l
          · rw [if_pos ⟨cp, d0⟩, if_pos ⟨cp, d1⟩, if_pos d0, if_pos d1]
          · rw [if_pos ⟨cp, d0⟩, if_neg (fun z => d1 z.2), if_pos d0, if_neg d1, Nat.mul_zero]
        · by_cases d1 : q_f S (t + 1) (q_P S none (q_xc S k y) t) (q_d1 S k (t + 1)) = l
          · rw [if_neg (fun z => d0 z.2), if_pos ⟨cp, d1⟩, if_neg d0, if_pos d1, Nat.mul_zero]
          · rw [if_neg (fun z => d0 z.2), if_neg (fun z => d1 z.2), if_neg d0, if_neg d1]; rfl
    rw [show 2 ^ (t + 1) = 2 ^ t + 2 ^ t by rw [Nat.pow_succ]; omega, q_sm_split, ← q_sm_add, q_sm_cong _ one, q_sm_sw]
    show _ = q_sm (fun i => q_Wy S k c t i * q_g S k c (t + 1) i l) 8
    refine q_sm_cong 8 (fun i _ => ?_)
    rw [q_sm_mulr (q_g S k c (t + 1) i l) (fun y => q_xs S k c t i y), q_xs_sum S k c t i]
