-- all the ways a hole slips
def q_xc (S : q_S) (k x s : Nat) : Int32 := if s = 0 then q_cg S 0 else if Nat.testBit x (s - 1) = true then q_d1 S k s else q_d0 S k s
def q_xw (c x : Nat) : Nat → Nat
  | 0 => 1
  | s + 1 => q_xw c x s * (if Nat.testBit x s = true then c else 16 - c)
theorem q_sm_split (f : Nat → Nat) (n : Nat) : ∀ m, q_sm f (n + m) = q_sm f n + q_sm (fun i => f (n + i)) m
  | 0 => rfl
  | m + 1 => by
    rw [show n + (m + 1) = (n + m) + 1 by omega, q_sm_s, q_sm_split f n m, q_sm_s, Nat.add_assoc]
theorem q_xw_cong {c x y : Nat} : ∀ t, (∀ s, s < t → Nat.testBit x s = Nat.testBit y s) → q_xw c x t = q_xw c y t
  | 0, _ => rfl
  | t + 1, h => by rw [q_xw, q_xw, q_xw_cong t (fun s hs => h s (by omega)), h t (by omega)]
theorem q_xP_cong {S : q_S} {k x y : Nat} (t : Nat) (h : ∀ s, s < t → Nat.testBit x s = Nat.testBit y s) : q_P S none (q_xc S k x) t = q_P S none (q_xc S k y) t := by
  refine q_P_cg2 t (fun u hu => ?_)
  unfold q_xc
  by_cases c : u = 0
  · rw [if_pos c, if_pos c]
  · rw [if_neg c, if_neg c, h (u - 1) (by omega)]
def q_xs (S : q_S) (k c t l x : Nat) : Nat := if q_pl S ≠ 0 ∧ q_P S none (q_xc S k x) t = l then q_xw c x t else 0
