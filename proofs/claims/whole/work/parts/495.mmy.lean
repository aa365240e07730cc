-- may of the reference
def q_oa (F : Nat → Int32) : Nat → Int32
  | 0 => nI 0
  | n + 1 => q_oa F n ||| F n
theorem q_oa_two {F : Nat → Int32} {a b : Int32} (h0 : F 0 = a) (h : ∀ x, F x = a ∨ F x = b) : ∀ n, q_oa F (n + 1) = a ∨ q_oa F (n + 1) = a ||| b
  | 0 => by
    left
    rw [q_oa, q_oa, h0]
    exact Int32.zero_or
  | n + 1 => by
    rw [q_oa]
    rcases q_oa_two h0 h n with e | e <;> rcases h (n + 1) with d | d <;> rw [e, d]
    · left; exact Int32.or_self
    · right; rfl
    · right; rw [Int32.or_assoc, Int32.or_comm b a, ← Int32.or_assoc, Int32.or_self]
    · right; rw [Int32.or_assoc, Int32.or_self]
theorem q_oa_b {F : Nat → Int32} {a b : Int32} (h0 : F 0 = a) (h : ∀ x, F x = a ∨ F x = b) {x : Nat} (hx : F x = b) : ∀ n, x ≤ n → q_oa F (n + 1) = a ||| b
  | 0, hn => by
    have : x = 0 := by omega
    subst this
    rw [q_oa, q_oa, ← hx, ← h0, Int32.or_self]
    exact Int32.zero_or
  | n + 1, hn => by
    by_cases c : x = n + 1
    · rw [q_oa, ← c, hx]
      rcases q_oa_two h0 h n with e | e <;> rw [c, e]
      rw [Int32.or_assoc, Int32.or_self]
    · rw [q_oa, q_oa_b h0 h hx n (by omega)]
      rcases h (n + 1) with d | d <;> rw [d]
      · rw [Int32.or_assoc, Int32.or_comm b a, ← Int32.or_assoc, Int32.or_self]
      · rw [Int32.or_assoc, Int32.or_self]
theorem n_shl : ∀ n, n < 10 → ph_shl (nI 1) (nI n) = nI (2 ^ n) := by decide +kernel
theorem q_may_two (S : q_S) (w : q_wf S) (u t : Nat) (x : Int32) : q_P S none (q_cu S u x) t = q_p S t ∨ q_P S none (q_cu S u x) t = q_P S none (q_cu S u (nI 511)) t := by
  have hhn := q_hn_le w
  cases eb : q_by S none u with
  | none =>
    left
    refine q_P_cong t (fun s _ k hk => ?_)
    unfold q_cu
    by_cases q : s = u
    · rw [q, eb] at hk; cases hk
    · rw [if_neg q]
  | some b =>
    have hb := q_by_lt eb
    by_cases c : q_tb x b = true
    · right
      refine q_P_cong t (fun s _ k hk => ?_)
      unfold q_cu
      by_cases q : s = u
      · rw [q, eb] at hk
        cases hk
        rw [if_pos q, if_pos q, q_tb_or _ _ (by omega), q_tb_or _ _ (by omega), c, q_tb_511 _ (by omega), decide_eq_true (show b < 9 by omega)]
      · rw [if_neg q, if_neg q]
    · left
      refine q_P_cong t (fun s _ k hk => ?_)
      unfold q_cu
      by_cases q : s = u
      · rw [q, eb] at hk
        cases hk
        have c2 : q_tb x b = false := by simpa using c
        rw [if_pos q, q_tb_or _ _ (by omega), c2, Bool.or_false]
      · rw [if_neg q]
theorem q_may_hit (S : q_S) (w : q_wf S) (u t : Nat) : ∃ x, x < 2 ^ q_hn S ∧ q_P S none (q_cu S u (nI x)) t = q_P S none (q_cu S u (nI 511)) t := by
  have hhn := q_hn_le w
  cases eb : q_by S none u with
  | none =>
    refine ⟨0, Nat.pow_pos (by decide), q_P_cong t (fun s _ k hk => ?_)⟩
    unfold q_cu
    by_cases q : s = u
    · rw [q, eb] at hk; cases hk
    · rw [if_neg q, if_neg q]
  | some b =>
    have hb := q_by_lt eb
    refine ⟨2 ^ b, Nat.pow_lt_pow_right (by decide) hb, q_P_cong t (fun s _ k hk => ?_)⟩
    unfold q_cu
    by_cases q : s = u
    · rw [q, eb] at hk
      cases hk
      rw [if_pos q, if_pos q, ← n_shl b (by omega), q_tb_or _ _ (by omega), q_tb_or _ _ (by omega), q_tb_511 _ (by omega), q_tb_sl (by omega) (by omega), decide_eq_true rfl, decide_eq_true (show b < 9 by omega)]
    · rw [if_neg q, if_neg q]
def q_mf (S : q_S) (u t x : Nat) : Int32 := if q_pl S = 0 then nI 0 else ph_shl (nI 1) (nI (q_P S none (q_cu S u (nI x)) t))
theorem q_mf_all (S : q_S) (w : q_wf S) (u t : Nat) : q_oa (q_mf S u t) (2 ^ q_hn S) = q_ma S u t := by
  obtain ⟨x, hx, ex⟩ := q_may_hit S w u t
  obtain ⟨n, hn⟩ : ∃ n, 2 ^ q_hn S = n + 1 := ⟨2 ^ q_hn S - 1, by omega⟩
  rw [hn]
  unfold q_ma
  by_cases c : q_pl S = 0
  · have h : ∀ x, q_mf S u t x = nI 0 := fun x => if_pos c
    rw [if_pos c, q_oa_b (a := nI 0) (b := nI 0) (h 0) (fun x => Or.inl (h x)) (h 0) n (Nat.zero_le n)]
    decide
  · rw [if_neg c]
    have h : ∀ x, q_mf S u t x = ph_shl (nI 1) (nI (q_P S none (q_cu S u (nI x)) t)) := fun x => if_neg c
    refine q_oa_b ?_ (fun x => ?_) (x := x) ?_ n (by omega)
    · rw [h, q_P_cg2 (d := q_cg S) t (fun s _ => ?_)]
      unfold q_cu
      by_cases q : s = u
      · rw [if_pos q]; exact Int32.or_zero
      · rw [if_neg q]
    · rw [h]
      rcases q_may_two S w u t (nI x) with e | e
      · rw [e]; exact Or.inl rfl
      · rw [e]; exact Or.inr rfl
    · rw [h, ex]
