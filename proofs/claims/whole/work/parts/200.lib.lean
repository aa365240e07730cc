-- rules for the words of the pure programs
def ph_O {ρ : Type} (o : Option (ρ × ph_Hp)) (Q : ρ → ph_Hp → Prop) : Prop := ∃ v h, o = some (v, h) ∧ Q v h
section LIB
variable {ρ ρ2 α : Type} {Q : ρ → ph_Hp → Prop} {h : ph_Hp}
theorem O_ret {v : ρ} (q : Q v h) : ph_O (some (v, h)) Q := ⟨v, h, rfl, q⟩
theorem O_of {o : Option (ρ × ph_Hp)} {v : ρ} (e : o = some (v, h)) (q : Q v h) : ph_O o Q := ⟨v, h, e, q⟩
theorem O_mono {o : Option (ρ × ph_Hp)} {P : ρ → ph_Hp → Prop} (a : ph_O o P) (k : ∀ v h, P v h → Q v h) : ph_O o Q := by
  obtain ⟨v, h, e, q⟩ := a
  exact ⟨v, h, e, k v h q⟩
theorem cl_some {β : Type} {v : ρ} {K : ρ → ph_Hp → Option β} : ph_cl (some (v, h)) K = K v h := rfl
theorem O_cl {x : Option (ρ2 × ph_Hp)} {K : ρ2 → ph_Hp → Option (ρ × ph_Hp)} {P : ρ2 → ph_Hp → Prop} (a : ph_O x P) (k : ∀ v h, P v h → ph_O (K v h) Q) : ph_O (ph_cl x K) Q := by
  obtain ⟨v, h, e, q⟩ := a
  rw [e]
  exact k v h q
theorem O_clE {x : Option (ρ2 × ph_Hp)} {K : ρ2 → ph_Hp → Option (ρ × ph_Hp)} {v : ρ2} {h1 : ph_Hp} (e : x = some (v, h1)) (k : ph_O (K v h1) Q) : ph_O (ph_cl x K) Q := by
  rw [e]
  exact k
theorem O_if {c : Prop} [Decidable c] {A B : Option (ρ × ph_Hp)} (a : c → ph_O A Q) (b : ¬ c → ph_O B Q) : ph_O (if c then A else B) Q := by
  by_cases hc : c
  · rw [if_pos hc]; exact a hc
  · rw [if_neg hc]; exact b hc
theorem O_ift {c : Prop} [Decidable c] {A B : Option (ρ × ph_Hp)} (hc : c) (a : ph_O A Q) : ph_O (if c then A else B) Q := by rw [if_pos hc]; exact a
theorem O_iff {c : Prop} [Decidable c] {A B : Option (ρ × ph_Hp)} (hc : ¬ c) (a : ph_O B Q) : ph_O (if c then A else B) Q := by rw [if_neg hc]; exact a
theorem O_jn {f : α → Option (ρ × ph_Hp)} {b : (α → Option (ρ × ph_Hp)) → Option (ρ × ph_Hp)} (P : α → Prop) (k1 : ∀ x, P x → ph_O (f x) Q) (k2 : ∀ j : α → Option (ρ × ph_Hp), (∀ x, P x → ph_O (j x) Q) → ph_O (b j) Q) : ph_O (ph_jn f b) Q := k2 f k1
theorem lp_for {β : Type} {body : (α → Option β) → α → Option β} {x : α} {r : Option β} (st : Nat → α) (N : Nat) (hN : N < 2000) (h0 : x = st 0) (hs : ∀ rec i, i < N → body rec (st i) = rec (st (i + 1))) (he : ∀ rec, body rec (st N) = r) : ph_lp body ph_fu x = r := by
  have key : ∀ n i, i ≤ N → N - i < n → ph_lp body n (st i) = r := by
    intro n
    induction n with
    | zero => intro i _ h2; omega
    | succ n ih =>
      intro i h1 h2
      show body (ph_lp body n) (st i) = r
      rcases Nat.lt_or_ge i N with q | q
      · rw [hs _ i q]; exact ih (i + 1) q (by omega)
      · have e : i = N := by omega
        rw [e]; exact he _
  rw [h0]
  exact key ph_fu 0 (Nat.zero_le N) (by show N - 0 < 2000; omega)
theorem O_for {body : (α → Option (ρ × ph_Hp)) → α → Option (ρ × ph_Hp)} {x : α} (N : Nat) (I : Nat → α → Prop) (hN : N < 2000) (h0 : I 0 x) (hs : ∀ rec i y, i < N → I i y → (∀ z, I (i + 1) z → ph_O (rec z) Q) → ph_O (body rec y) Q) (he : ∀ rec y, I N y → ph_O (body rec y) Q) : ph_O (ph_lp body ph_fu x) Q := by
  have key : ∀ n i y, i ≤ N → N - i < n → I i y → ph_O (ph_lp body n y) Q := by
    intro n
    induction n with
    | zero => intro i y _ h2; omega
    | succ n ih =>
      intro i y h1 h2 h3
      show ph_O (body (ph_lp body n) y) Q
      rcases Nat.lt_or_ge i N with q | q
      · exact hs _ i y q h3 (fun z hz => ih (i + 1) z q (by omega) hz)
      · have e : i = N := by omega
        subst e
        exact he _ y h3
  exact key ph_fu 0 x (Nat.zero_le N) (by show N - 0 < 2000; omega) h0
theorem O_ldI {q n j : Nat} {i : Int32} {F : Int32 → Option (ρ × ph_Hp)} (e : i = nI j) (hj : j < n) (hn : n < 2000) (k : ph_O (F (h.1 q j)) Q) : ph_O (ph_ldI h q n i F) Q := by
  subst e
  unfold ph_ldI
  rw [if_pos (by rw [nI_toInt (by omega)]; omega), nI_clamp (by omega)]
  exact k
theorem ldI_at {β : Type} {q n j : Nat} {F : Int32 → Option β} (hj : j < n) (hn : n < 2000) : ph_ldI h q n (nI j) F = F (h.1 q j) := by
  unfold ph_ldI
  rw [if_pos (by rw [nI_toInt (by omega)]; omega), nI_clamp (by omega)]
theorem ldJ_at {β : Type} {q n j : Nat} {F : Int64 → Option β} (hj : j < n) (hn : n < 2000) : ph_ldJ h q n (nI j) F = F (h.2 q j) := by
  unfold ph_ldJ
  rw [if_pos (by rw [nI_toInt (by omega)]; omega), nI_clamp (by omega)]
theorem stI_at {β : Type} {q n j : Nat} {x : Int32} {F : ph_Hp → Option β} (hj : j < n) (hn : n < 2000) : ph_stI h q n (nI j) x F = F (ph_sI h q j x) := by
  unfold ph_stI
  rw [if_pos (by rw [nI_toInt (by omega)]; omega), nI_clamp (by omega)]
theorem stZ_at {β : Type} {q n j : Nat} {x : Int32} {F : ph_Hp → Option β} (hj : j < n) (hn : n < 2000) : ph_stZ h q n (nI j) x F = F (ph_sI h q j (vp_nar .boolean x)) := by
  unfold ph_stZ
  rw [if_pos (by rw [nI_toInt (by omega)]; omega), nI_clamp (by omega)]
theorem stJ_at {β : Type} {q n j : Nat} {x : Int64} {F : ph_Hp → Option β} (hj : j < n) (hn : n < 2000) : ph_stJ h q n (nI j) x F = F (ph_sJ h q j x) := by
  unfold ph_stJ
  rw [if_pos (by rw [nI_toInt (by omega)]; omega), nI_clamp (by omega)]
theorem pfI_at {β : Type} {q k : Nat} {x : Int32} {F : ph_Hp → Option β} : ph_pfI h q k x F = F (ph_sI h q k x) := rfl
theorem pfJ_at {β : Type} {q k : Nat} {x : Int64} {F : ph_Hp → Option β} : ph_pfJ h q k x F = F (ph_sJ h q k x) := rfl
theorem jn_at {β : Type} {f : α → Option β} {b : (α → Option β) → Option β} : ph_jn f b = b f := rfl
theorem isK_at {β : Type} {r k : Nat} {F : Option β} (e : ph_kd r = k) : ph_isK r k F = F := if_pos e
theorem dvI_at {β : Type} {a d : Nat} {F : Int32 → Option β} (ha : a < 2 ^ 31) (h0 : 0 < d) (hd : d < 2 ^ 31) : ph_dvI (nI a) (nI d) F = F (nI (a / d)) := by
  unfold ph_dvI
  rw [if_neg (by rw [nI_eq hd (by omega)]; omega), pk_div ha h0 hd]
theorem irem_at {a d : Nat} (ha : a < 2 ^ 31) (h0 : 0 < d) (hd : d < 2 ^ 31) : ph_irem (nI a) (nI d) = nI (a % d) := pk_rem ha h0 hd
theorem rmI_at {β : Type} {a d : Nat} {F : Int32 → Option β} (ha : a < 2 ^ 31) (h0 : 0 < d) (hd : d < 2 ^ 31) : ph_rmI (nI a) (nI d) F = F (nI (a % d)) := by
  unfold ph_rmI
  rw [if_neg (by rw [nI_eq hd (by omega)]; omega), irem_at ha h0 hd]
theorem rz_0 : ph_rz (nI 0) h = some (nI 0, h) := if_pos (Or.inl rfl)
theorem rz_1 : ph_rz (nI 1) h = some (nI 1, h) := if_pos (Or.inr rfl)
end LIB
-- reads behind writes
theorem sI_ne (h : ph_Hp) {i j : Nat} (k : Nat) (x : Int32) (hij : j ≠ i) : (ph_sI h i k x).1 j = h.1 j := if_neg hij
theorem sI_eq (h : ph_Hp) (i k : Nat) (x : Int32) (k2 : Nat) : (ph_sI h i k x).1 i k2 = if k2 = k then x else h.1 i k2 := by rw [ph_sI_i]; rfl
theorem sI_2 (h : ph_Hp) (i k : Nat) (x : Int32) : (ph_sI h i k x).2 = h.2 := rfl
theorem sJ_1 (h : ph_Hp) (i k : Nat) (x : Int64) : (ph_sJ h i k x).1 = h.1 := rfl
theorem sJ_ne (h : ph_Hp) {i j : Nat} (k : Nat) (x : Int64) (hij : j ≠ i) : (ph_sJ h i k x).2 j = h.2 j := if_neg hij
theorem sJ_eq (h : ph_Hp) (i k : Nat) (x : Int64) (k2 : Nat) : (ph_sJ h i k x).2 i k2 = if k2 = k then x else h.2 i k2 := by rw [ph_sJ_i]; rfl
-- numbers
theorem n_m1 : (-1 : Int32) < nI 0 := by decide
theorem n_ne1 {n : Nat} (h : n < 2 ^ 31) : ¬ nI n = (-1) := by
  intro e
  have h1 := nI_pos h
  rw [e] at h1
  exact h1 (by decide)
theorem n_ne1' {n : Nat} (h : n < 2 ^ 31) : ¬ (-1 : Int32) = nI n := fun e => n_ne1 h e.symm
theorem n_pos {n : Nat} (h : n < 2 ^ 31) : ¬ nI n < nI 0 := nI_pos h
theorem n_m1le {n : Nat} (h : n < 2 ^ 31) : ¬ nI n ≤ (-1) := by
  intro e
  have h1 := Int32.le_iff_toInt_le.mp e
  rw [nI_toInt h] at h1
  have : (-1 : Int32).toInt = -1 := by decide
  omega
theorem n_m1le' {n : Nat} (h : n < 2 ^ 31) : (-1 : Int32) ≤ nI n := by
  rw [Int32.le_iff_toInt_le, nI_toInt h]
  have : (-1 : Int32).toInt = -1 := by decide
  omega
theorem n_dec {n : Nat} : nI (n + 1) + (-1) = nI n := pk_m1 n
theorem n_sub1 {n : Nat} : nI (n + 1) - nI 1 = nI n := nI_pred n
theorem n_am1 (x : Int32) : x + (-1) = x - nI 1 := by rw [Int32.sub_eq_add_neg]; rfl
def q_ad (a b : Nat) : Nat := if a < b then b - a else a - b
theorem n_abs {a b : Nat} (ha : a < 2 ^ 30) (hb : b < 2 ^ 30) : (if nI 0 ≤ nI a - nI b then nI a - nI b else nI 0 - (nI a - nI b)) = nI (q_ad a b) := by
  unfold q_ad
  by_cases h1 : a < b
  · rw [if_pos h1, if_neg (fun h2 => absurd (pk_sneg hb h1) (by rw [Int32.not_lt]; exact h2))]
    apply Int32.toInt_inj.mp
    rw [Int32.toInt_sub, pk_sub_toInt ha hb, nI_toInt (by omega), nI_toInt (by omega)]
    have := Int.bmod_eq_of_le (n := ((0 : Nat) : Int) - ((a : Int) - (b : Int))) (m := 2 ^ 32) (by omega) (by omega)
    rw [this]; omega
  · rw [if_neg h1, pk_sub (by omega), if_pos (nI_le (Nat.zero_le _) (by omega))]
theorem n_ix (x : Int32) (n : Nat) (hn : n < 2 ^ 31) : (x < nI 0 ∨ nI n ≤ x) ∨ ∃ j : Nat, j < n ∧ x = nI j := by
  rcases pk_ix x hn with h | h | h
  · exact Or.inl (Or.inl h)
  · exact Or.inl (Or.inr h)
  · exact Or.inr h
-- first place at which p holds, n if none
def q_ff (p : Nat → Bool) : Nat → Nat
  | 0 => 0
  | n + 1 => if q_ff p n < n then q_ff p n else if p n then n else n + 1
theorem q_ff_le (p : Nat → Bool) : ∀ n, q_ff p n ≤ n
  | 0 => Nat.le_refl 0
  | n + 1 => by
    have ih := q_ff_le p n
    unfold q_ff
    split
    · omega
    · split <;> omega
theorem q_ff_no (p : Nat → Bool) : ∀ n k, k < q_ff p n → p k = false
  | 0, k, h => absurd h (Nat.not_lt_zero k)
  | n + 1, k, h => by
    have ih := q_ff_no p n k
    have hl := q_ff_le p n
    unfold q_ff at h
    split at h
    · exact ih h
    · split at h
      · exact ih (by omega)
      · next h1 h2 =>
        rcases Nat.lt_or_ge k n with q | q
        · exact ih (by omega)
        · have e : k = n := by omega
          rw [e]
          cases hp : p n with
          | false => rfl
          | true => exact absurd hp h2
theorem q_ff_yes (p : Nat → Bool) : ∀ n, q_ff p n < n → p (q_ff p n) = true
  | 0, h => absurd h (Nat.not_lt_zero _)
  | n + 1, h => by
    have ih := q_ff_yes p n
    unfold q_ff at h ⊢
    split
    · next h1 => exact ih h1
    · next h1 =>
      split
      · next h2 => exact h2
      · next h2 =>
        rw [if_neg h1, if_neg h2] at h
        omega
