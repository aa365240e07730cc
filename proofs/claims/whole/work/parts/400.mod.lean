-- the reference: what its cells hold of a state
theorem sI_at (h : ph_Hp) (i k : Nat) (x : Int32) (j m : Nat) : (ph_sI h i k x).1 j m = if j = i ∧ m = k then x else h.1 j m := by
  by_cases c : j = i
  · subst c
    rw [sI_eq]
    by_cases d : m = k
    · rw [if_pos d, if_pos ⟨rfl, d⟩]
    · rw [if_neg d, if_neg (fun z => d z.2)]
  · rw [sI_ne _ _ _ c, if_neg (fun z => c z.1)]
theorem l_lt (x y : Int32) : x.toInt64 < y.toInt64 ↔ x < y := by
  rw [Int64.lt_iff_toInt_lt, Int32.lt_iff_toInt_lt, Int32.toInt_toInt64, Int32.toInt_toInt64]
theorem l_inj (x y : Int32) : x.toInt64 = y.toInt64 ↔ x = y := by
  rw [← Int64.toInt_inj, ← Int32.toInt_inj, Int32.toInt_toInt64, Int32.toInt_toInt64]
theorem cmp_lt (x y : Int64) : lg_cmp x y < nI 0 ↔ x < y := by
  unfold lg_cmp
  by_cases c1 : x > y
  · rw [if_pos c1]
    constructor
    · intro e; exact absurd e (by decide)
    · intro e; exact absurd (Int64.lt_trans e c1) Int64.lt_irrefl
  · rw [if_neg c1]
    by_cases c2 : x = y
    · rw [if_pos c2]
      constructor
      · intro e; exact absurd e (by decide)
      · intro e; rw [c2] at e; exact absurd e Int64.lt_irrefl
    · rw [if_neg c2]
      constructor
      · intro _
        rw [Int64.lt_iff_toInt_lt]
        have h1 : ¬ y.toInt < x.toInt := fun z => c1 (Int64.lt_iff_toInt_lt.mpr z)
        have h2 : x.toInt ≠ y.toInt := fun z => c2 (Int64.toInt_inj.1 z)
        omega
      · intro _; decide
theorem cmp_gt (x y : Int64) : nI 0 < lg_cmp x y ↔ y < x := by
  unfold lg_cmp
  by_cases c1 : x > y
  · rw [if_pos c1]
    exact ⟨fun _ => c1, fun _ => by decide⟩
  · rw [if_neg c1]
    by_cases c2 : x = y
    · rw [if_pos c2]
      exact ⟨fun e => absurd e (by decide), fun e => absurd e c1⟩
    · rw [if_neg c2]
      exact ⟨fun e => absurd e (by decide), fun e => absurd e c1⟩
theorem m_in (x y z : Int32) (h : ph_Hp) : f_X9_in x.toInt64 y.toInt64 z.toInt64 h = some (if x < y ∨ z < x then nI 0 else nI 1, h) := by
  unfold f_X9_in
  by_cases c1 : x < y
  · rw [if_pos ((cmp_lt _ _).mpr ((l_lt _ _).mpr c1)), if_pos (Or.inl c1), rz_0]
  · rw [if_neg (fun e => c1 ((l_lt _ _).mp ((cmp_lt _ _).mp e)))]
    by_cases c2 : z < x
    · rw [if_pos ((cmp_gt _ _).mpr ((l_lt _ _).mpr c2)), if_pos (Or.inr c2), rz_0]
    · rw [if_neg (fun e => c2 ((l_lt _ _).mp ((cmp_gt _ _).mp e))), if_neg (fun e => e.elim c1 c2), rz_1]
theorem m_wo {x : Int32} {m : Nat} (hm : m + 1 < 2 ^ 31) (b : x < nI 0 ∨ nI (m + 1) ≤ x) (h : ph_Hp) : f_X9_in x.toInt64 (lN 0) (lN m) h = some (nI 0, h) := by
  rw [← nI_l (show 0 < 2 ^ 31 by decide), ← nI_l (show m < 2 ^ 31 by omega), m_in, if_pos]
  rcases b with b | b
  · exact Or.inl b
  · exact Or.inr (Int32.lt_of_lt_of_le (nI_lt (by omega) hm) b)
theorem m_wi {j m : Nat} (hj : j < m + 1) (hm : m < 2 ^ 31) (h : ph_Hp) : f_X9_in (nI j).toInt64 (lN 0) (lN m) h = some (nI 1, h) := by
  rw [← nI_l (show 0 < 2 ^ 31 by decide), ← nI_l hm, m_in, if_neg]
  rintro (b | b)
  · exact n_pos (by omega) b
  · exact nI_nlt (by omega) (by omega) b
theorem m_two_o {x : Int32} (b : x < nI 0 ∨ nI 2 ≤ x) (h : ph_Hp) : f_X9_isTwo x h = some (nI 0, h) := by unfold f_X9_isTwo; rw [m_wo (by decide) b, cl_some, rz_0]
theorem m_two_i {j : Nat} (hj : j < 2) (h : ph_Hp) : f_X9_isTwo (nI j) h = some (nI 1, h) := by unfold f_X9_isTwo; rw [m_wi hj (by decide), cl_some, rz_1]
theorem m_she_o {x : Int32} (b : x < nI 0 ∨ nI 4 ≤ x) (h : ph_Hp) : f_X9_isSheet x h = some (nI 0, h) := by unfold f_X9_isSheet; rw [m_wo (by decide) b, cl_some, rz_0]
theorem m_she_i {j : Nat} (hj : j < 4) (h : ph_Hp) : f_X9_isSheet (nI j) h = some (nI 1, h) := by unfold f_X9_isSheet; rw [m_wi hj (by decide), cl_some, rz_1]
theorem m_lin_o {x : Int32} (b : x < nI 0 ∨ nI 8 ≤ x) (h : ph_Hp) : f_X9_isLine x h = some (nI 0, h) := by unfold f_X9_isLine; rw [m_wo (by decide) b, cl_some, rz_0]
theorem m_lin_i {j : Nat} (hj : j < 8) (h : ph_Hp) : f_X9_isLine (nI j) h = some (nI 1, h) := by unfold f_X9_isLine; rw [m_wi hj (by decide), cl_some, rz_1]
theorem m_ste_o {x : Int32} (b : x < nI 0 ∨ nI 40 ≤ x) (h : ph_Hp) : f_X9_isStep x h = some (nI 0, h) := by unfold f_X9_isStep; rw [m_wo (by decide) b, cl_some, rz_0]
theorem m_ste_i {j : Nat} (hj : j < 40) (h : ph_Hp) : f_X9_isStep (nI j) h = some (nI 1, h) := by unfold f_X9_isStep; rw [m_wi hj (by decide), cl_some, rz_1]
theorem n_le1 {x : Int32} {n : Nat} (hn : n < 2 ^ 31) : nI n - nI 1 < x ↔ nI n ≤ x := by
  rw [Int32.lt_iff_toInt_lt, Int32.le_iff_toInt_le, Int32.toInt_sub, nI_toInt hn, nI_toInt (by decide), Int.bmod_eq_of_le (by omega) (by omega)]
  omega
theorem m_hol_o {x : Int32} {n : Nat} {h : ph_Hp} (hn : n < 2 ^ 31) (e : h.1 51 9 = nI n) (b : x < nI 0 ∨ nI n ≤ x) : f_X9_isHole x h = some (nI 0, h) := by
  unfold f_X9_isHole
  rw [e, ← nI_l (show 0 < 2 ^ 31 by decide), m_in, if_pos, cl_some, rz_0]
  rcases b with b | b
  · exact Or.inl b
  · exact Or.inr ((n_le1 hn).mpr b)
theorem m_hol_i {j n : Nat} {h : ph_Hp} (hn : n < 2 ^ 31) (e : h.1 51 9 = nI n) (hj : j < n) : f_X9_isHole (nI j) h = some (nI 1, h) := by
  unfold f_X9_isHole
  rw [e, ← nI_l (show 0 < 2 ^ 31 by decide), m_in, if_neg, cl_some, rz_1]
  rintro (b | b)
  · exact n_pos (by omega) b
  · exact nI_ge hj hn ((n_le1 hn).mp b)
def mW (q a b n : Nat) (f : Nat → Nat) (h : ph_Hp) : Prop := ∀ k, k < n → h.1 q (a * k + b) = nI (f k)
def MI (S : q_S) (h : ph_Hp) : Prop := (h.1 57 0 = nI (S.1 0) ∧ mW 56 1 0 (S.1 0) (S.2.1 0) h) ∧ (h.1 57 1 = nI (S.1 1) ∧ mW 56 1 44 (S.1 1) (S.2.1 1) h) ∧ (h.1 51 11 = nI (S.1 2) ∧ mW 60 2 0 (S.1 2) (S.2.1 2) h ∧ mW 60 2 1 (S.1 2) (S.2.1 3) h) ∧ (h.1 51 13 = nI (S.1 3) ∧ mW 61 2 0 (S.1 3) (S.2.1 4) h ∧ mW 61 2 1 (S.1 3) (S.2.1 5) h) ∧ (h.1 51 15 = nI (S.1 4) ∧ mW 62 1 0 (S.1 4) (S.2.1 6) h) ∧ (h.1 51 24 = nI (S.1 5) ∧ mW 67 2 0 (S.1 5) (S.2.1 7) h ∧ mW 67 2 1 (S.1 5) (S.2.1 8) h) ∧ cS 52 53 54 S h ∧ h.1 51 4 = S.2.2.2.2.2 ∧ h.1 51 21 = (-1) ∧ h.1 51 22 = (-1)
def Mq {ρ : Type} (h : ph_Hp) (r : ρ) (S2 : q_S) : ρ → ph_Hp → Prop := fun v g => v = r ∧ MI S2 g ∧ q_aC h g
theorem mW_ag {q a b n : Nat} {f : Nat → Nat} {h g : ph_Hp} (k : mW q a b n f h) (e : g.1 q = h.1 q) : mW q a b n f g := by
  unfold mW
  rw [e]
  exact k
theorem mW_0 (q a b : Nat) (f : Nat → Nat) (h : ph_Hp) : mW q a b 0 f h := fun k hk => absurd hk (Nat.not_lt_zero k)
theorem mW_le {q a b n m : Nat} {f : Nat → Nat} {h : ph_Hp} (k : mW q a b n f h) (hm : m ≤ n) : mW q a b m f h := fun j hj => k j (by omega)
theorem mW_push {q a b n x : Nat} {f : Nat → Nat} {h g : ph_Hp} (k : mW q a b n f h) (e : ∀ j, j < n → g.1 q (a * j + b) = h.1 q (a * j + b)) (e2 : g.1 q (a * n + b) = nI x) : mW q a b (n + 1) (fun j => if j = n then x else f j) g := by
  intro j hj
  show _ = nI (if j = n then x else f j)
  by_cases c : j = n
  · rw [if_pos c, c]; exact e2
  · rw [if_neg c, e j (by omega)]; exact k j (by omega)
theorem MI_ag {S : q_S} {h g : ph_Hp} (K : MI S h) (e : ∀ i, i ∈ [52, 53, 54, 56, 57, 60, 61, 62, 67] → g.1 i = h.1 i) (e2 : ∀ k, k ∈ [4, 11, 13, 15, 21, 22, 24] → g.1 51 k = h.1 51 k) : MI S g := by
  obtain ⟨⟨a1, a2⟩, ⟨b1, b2⟩, ⟨c1, c2, c3⟩, ⟨d1, d2, d3⟩, ⟨f1, f2⟩, ⟨g1, g2, g3⟩, h1, i1, j1, k1⟩ := K
  refine ⟨⟨?_, mW_ag a2 (e 56 (by decide))⟩, ⟨?_, mW_ag b2 (e 56 (by decide))⟩, ⟨?_, mW_ag c2 (e 60 (by decide)), mW_ag c3 (e 60 (by decide))⟩, ⟨?_, mW_ag d2 (e 61 (by decide)), mW_ag d3 (e 61 (by decide))⟩, ⟨?_, mW_ag f2 (e 62 (by decide))⟩, ⟨?_, mW_ag g2 (e 67 (by decide)), mW_ag g3 (e 67 (by decide))⟩, cS_ag h1 (e 52 (by decide)) (e 53 (by decide)) (e 54 (by decide)), ?_, ?_, ?_⟩
  · rw [e 57 (by decide)]; exact a1
  · rw [e 57 (by decide)]; exact b1
  · rw [e2 11 (by decide)]; exact c1
  · rw [e2 13 (by decide)]; exact d1
  · rw [e2 15 (by decide)]; exact f1
  · rw [e2 24 (by decide)]; exact g1
  · rw [e2 4 (by decide)]; exact i1
  · rw [e2 21 (by decide)]; exact j1
  · rw [e2 22 (by decide)]; exact k1
theorem m_type (S : q_S) (w : q_wf S) (h : ph_Hp) (K : MI S h) (x1 x2 : Int32) : ph_O (f_X9_type x1 x2 h) (Mq h (sp_type S x1 x2).1 (sp_type S x1 x2).2) := by
  unfold f_X9_type sp_type
  rcases q_ins x1 2 (by decide) with ⟨e1, b1⟩ | ⟨t, ht, rfl, e1⟩
  · rw [m_two_o b1, cl_some, e1, if_pos rfl]
    exact O_ret ⟨rfl, K, q_aC_rf h⟩
  rw [m_two_i ht, cl_some, e1, if_neg (by decide)]
  rcases q_ins x2 256 (by decide) with ⟨e2, b2⟩ | ⟨b, hb, rfl, e2⟩
  · rw [m_wo (by decide) b2, cl_some, e2, if_pos rfl]
    exact O_ret ⟨rfl, K, q_aC_rf h⟩
  rw [m_wi hb (by decide), cl_some, e2, if_neg (by decide)]
  dsimp only
  obtain ⟨⟨a1, a2⟩, ⟨b1, b2⟩, ⟨c1, c2, c3⟩, ⟨d1, d2, d3⟩, ⟨f1, f2⟩, ⟨g1, g2, g3⟩, h1, i1, j1, k1⟩ := id K
  rcases (show t = 0 ∨ t = 1 by omega) with rfl | rfl
  · have hw := w.1.1
    rw [ldI_at (by decide) (by decide), jn_at, if_pos rfl, a1, show q_cap 0 = 24 from rfl]
    dsimp only
    by_cases c : S.1 0 = 24
    · rw [if_pos (by rw [c]), if_pos c]
      exact O_ret ⟨rfl, K, q_aC_rf h⟩
    · rw [if_neg (by rw [nI_eq (by omega) (by decide)]; exact c), if_neg c, ldI_at (by decide) (by decide), a1, pk_mul, nI_add, stI_at (by omega) (by decide), ldI_at (by decide) (by decide), sI_ne _ _ _ (by decide), a1, nI_add, stI_at (by decide) (by decide), ldI_at (by decide) (by decide)]
      refine O_ret ⟨by rw [sI_eq, if_pos rfl], ⟨⟨by rw [sI_eq, if_pos rfl]; rfl, ?_⟩, ⟨by rw [sI_eq, if_neg (by decide), sI_ne _ _ _ (by decide)]; exact b1, fun k hk => ?_⟩, ⟨c1, c2, c3⟩, ⟨d1, d2, d3⟩, ⟨f1, f2⟩, ⟨g1, g2, g3⟩, h1, i1, j1, k1⟩, q_aC_sI (q_aC_sI (q_aC_rf h) (by decide)) (by decide)⟩
      · refine mW_push a2 (fun j hj => ?_) ?_
        · rw [sI_ne _ _ _ (by decide), sI_eq, if_neg (by omega)]
        · rw [sI_ne _ _ _ (by decide), sI_eq, if_pos (by omega)]
      · rw [sI_ne _ _ _ (by decide), sI_eq, if_neg (by omega)]; exact b2 k hk
  · have hw := w.1.2.1
    rw [ldI_at (by decide) (by decide), jn_at, if_neg (by decide), b1, show q_cap 1 = 44 from rfl]
    dsimp only
    by_cases c : S.1 1 = 44
    · rw [if_pos (by rw [c]), if_pos c]
      exact O_ret ⟨rfl, K, q_aC_rf h⟩
    · rw [if_neg (by rw [nI_eq (by omega) (by decide)]; exact c), if_neg c, ldI_at (by decide) (by decide), b1, pk_mul, nI_add, stI_at (by omega) (by decide), ldI_at (by decide) (by decide), sI_ne _ _ _ (by decide), b1, nI_add, stI_at (by decide) (by decide), ldI_at (by decide) (by decide)]
      refine O_ret ⟨by rw [sI_eq, if_pos rfl], ⟨⟨by rw [sI_eq, if_neg (by decide), sI_ne _ _ _ (by decide)]; exact a1, fun k hk => ?_⟩, ⟨by rw [sI_eq, if_pos rfl]; rfl, ?_⟩, ⟨c1, c2, c3⟩, ⟨d1, d2, d3⟩, ⟨f1, f2⟩, ⟨g1, g2, g3⟩, h1, i1, j1, k1⟩, q_aC_sI (q_aC_sI (q_aC_rf h) (by decide)) (by decide)⟩
      · have : k < 24 := Nat.lt_of_lt_of_le hk w.1.1
        rw [sI_ne _ _ _ (by decide), sI_eq, if_neg (by omega)]; exact a2 k hk
      · refine mW_push b2 (fun j hj => ?_) ?_
        · rw [sI_ne _ _ _ (by decide), sI_eq, if_neg (by omega)]
        · rw [sI_ne _ _ _ (by decide), sI_eq, if_pos (by omega)]
theorem m_wipe (S : q_S) (w : q_wf S) (h : ph_Hp) (K : MI S h) (x1 : Int32) : ph_O (f_X9_wipe x1 h) (Mq h (sp_wipe S x1).1 (sp_wipe S x1).2) := by
  unfold f_X9_wipe sp_wipe
  rcases q_ins x1 2 (by decide) with ⟨e1, b1⟩ | ⟨t, ht, rfl, e1⟩
  · rw [m_two_o b1, cl_some, e1, if_pos rfl]
    exact O_ret ⟨rfl, K, q_aC_rf h⟩
  rw [m_two_i ht, cl_some, e1, if_neg (by decide)]
  dsimp only
  obtain ⟨⟨a1, a2⟩, ⟨b1, b2⟩, ⟨c1, c2, c3⟩, ⟨d1, d2, d3⟩, ⟨f1, f2⟩, ⟨g1, g2, g3⟩, h1, i1, j1, k1⟩ := id K
  rcases (show t = 0 ∨ t = 1 by omega) with rfl | rfl
  · rw [ldI_at (by decide) (by decide), stI_at (by decide) (by decide)]
    exact O_ret ⟨a1, ⟨⟨by rw [sI_eq, if_pos rfl]; rfl, mW_0 _ _ _ _ _⟩, ⟨by rw [sI_eq, if_neg (by decide)]; exact b1, b2⟩, ⟨c1, c2, c3⟩, ⟨d1, d2, d3⟩, ⟨f1, f2⟩, ⟨g1, g2, g3⟩, h1, i1, j1, k1⟩, q_aC_sI (q_aC_rf h) (by decide)⟩
  · rw [ldI_at (by decide) (by decide), stI_at (by decide) (by decide)]
    exact O_ret ⟨b1, ⟨⟨by rw [sI_eq, if_neg (by decide)]; exact a1, a2⟩, ⟨by rw [sI_eq, if_pos rfl]; rfl, mW_0 _ _ _ _ _⟩, ⟨c1, c2, c3⟩, ⟨d1, d2, d3⟩, ⟨f1, f2⟩, ⟨g1, g2, g3⟩, h1, i1, j1, k1⟩, q_aC_sI (q_aC_rf h) (by decide)⟩
