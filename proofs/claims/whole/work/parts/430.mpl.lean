-- the reference: one performance
def mA (h g : ph_Hp) : Prop := q_ag [51, 55, 58, 59, 63, 64, 65, 66, 68] h g ∧ ∀ k, k ∈ [4, 11, 13, 15, 21, 22, 24] → g.1 51 k = h.1 51 k
theorem mA_rf (h : ph_Hp) : mA h h := ⟨q_ag_rf _ h, fun _ _ => rfl⟩
theorem mA_tr {a b c : ph_Hp} (h1 : mA a b) (h2 : mA b c) : mA a c := ⟨q_ag_tr h1.1 h2.1, fun k hk => (h2.2 k hk).trans (h1.2 k hk)⟩
theorem MI_mA {S : q_S} {h g : ph_Hp} (K : MI S h) (a : mA h g) : MI S g := MI_ag K (fun i hi => (a.1 i (by simp at hi; simp; omega)).1) a.2
theorem mA_C {h g : ph_Hp} (a : mA h g) : q_aC h g := q_aC_ag a.1 (by decide)
theorem mA_ag {X : List Nat} {h g : ph_Hp} (a : q_ag X h g) (hX : ∀ i ∈ X, i ∈ [55, 58, 59, 63, 64, 65, 66, 68]) : mA h g := by
  refine ⟨fun i hi => a i (fun z => ?_), fun k _ => by rw [(a 51 (fun z => absurd (hX 51 z) (by decide))).1]⟩
  have := hX i z
  simp at this
  simp at hi
  omega
theorem m_reads {S : q_S} (w : q_wf S) {h : ph_Hp} (K : MI S h) : ph_O (f_X9_reads h) (fun _ g => MRp S g ∧ MRh S g ∧ MI S g ∧ mA h g) := by
  unfold f_X9_reads
  refine O_cl (m_rplay w K) ?_
  rintro v g ⟨-, r1, r2, r3⟩
  have a1 : mA h g := ⟨fun i hi => r2 i (by simp at hi; simp; omega), fun k hk => r3 k (by simp at hk; omega)⟩
  have K1 := MI_mA K a1
  refine O_cl (m_rholes w K1) ?_
  rintro v g2 ⟨-, s1, s2, s3⟩
  have a2 : mA g g2 := ⟨fun i hi => s2 i (by simp at hi; simp; omega), fun k hk => s3 k (by simp at hk; omega)⟩
  refine O_ret ⟨⟨by rw [s3 7 (by decide)]; exact r1.1, by rw [(s2 58 (by decide)).1]; exact r1.2⟩, s1, MI_mA K1 a2, mA_tr a1 a2⟩
theorem n_pm {p q : Nat} (h : 1 ≤ p + q) : nI p + (-1) + nI q = nI (p + q - 1) := by
  rw [n_am1, Int32.sub_eq_add_neg, Int32.add_assoc, Int32.add_comm (-nI 1), ← Int32.add_assoc, ← Int32.sub_eq_add_neg, nI_add, pk_sub h]
theorem m_pby {S : q_S} (w : q_wf S) {h : ph_Hp} (R : MRp S h) {l : Nat} (hl : l < 2 ^ 31) {x : Int32} {F : Nat → Nat} (hx : ∀ p, p < q_pl S → nI p + x + nI (q_pl S) = nI (F p) ∧ F p < 100) : f_X9_printedBy (nI l) x h = some (q_lv S (if q_fp S l < q_pl S then q_pv S (F (q_fp S l) % q_pl S) else q_pv S 0), h) := by
  have hle := q_pl_le w
  unfold f_X9_printedBy
  rw [R.1]
  by_cases c : q_pl S = 0
  · rw [if_pos (by rw [c]), q_lv_0 c]
  · rw [if_neg (by rw [nI_eq (by omega) (by decide)]; exact c), q_lv_1 c]
    have hfl := q_ff_le (fun p => decide (q_pv S p = l)) (q_pl S)
    refine lp_for (fun i => nI i) (q_fp S l) (by unfold q_fp; omega) rfl ?_ ?_
    · intro rec i hi
      have h1 : i < q_pl S := Nat.lt_of_lt_of_le hi hfl
      have h2 := q_ff_no _ _ i hi
      have h3 := q_pv_lt h1
      try dsimp only
      rw [if_neg (nI_ge h1 (by omega)), ldI_at (by omega) (by decide), R.2 i h1, if_neg (by rw [nI_eq (by omega) hl]; exact of_decide_eq_false h2), nI_add]
    · intro rec
      try dsimp only
      by_cases c2 : q_fp S l < q_pl S
      · have h2 := q_ff_yes _ _ c2
        have h3 := hx _ c2
        have h4 : F (q_fp S l) % q_pl S < q_pl S := Nat.mod_lt _ (by omega)
        rw [if_neg (nI_ge c2 (by omega)), ldI_at (by omega) (by decide), R.2 _ c2, if_pos (by rw [show q_pv S (q_fp S l) = l from of_decide_eq_true h2]), h3.1, rmI_at (by omega) (by omega) (by omega), ldI_at (by omega) (by decide), R.2 _ h4, if_pos c2]
      · rw [if_pos (nI_le (by omega) (by unfold q_fp; omega)), ldI_at (by decide) (by decide), R.2 0 (by omega), if_neg c2]
theorem m_nx {S : q_S} (w : q_wf S) {h : ph_Hp} (R : MRp S h) {l : Nat} (hl : l < 2 ^ 31) : f_X9_printedBy (nI l) (nI 1) h = some (q_lv S (q_nx S l), h) := by
  have hle := q_pl_le w
  rw [m_pby w R hl (F := fun p => p + 1 + q_pl S) (fun p hp => ⟨by rw [nI_add, nI_add], by omega⟩)]
  unfold q_nx
  try dsimp only
  rw [Nat.add_mod_right]
theorem m_ah {S : q_S} (w : q_wf S) {h : ph_Hp} (R : MRp S h) {l : Nat} (hl : l < 2 ^ 31) : f_X9_printedBy (nI l) (-1) h = some (q_lv S (q_ah S l), h) := by
  have hle := q_pl_le w
  rw [m_pby w R hl (F := fun p => p + q_pl S - 1) (fun p hp => ⟨n_pm (by omega), by omega⟩)]
  rfl
theorem m_dark_ {S : q_S} (w : q_wf S) {h : ph_Hp} (kd : h.1 51 15 = nI (S.1 4) ∧ mW 62 1 0 (S.1 4) (S.2.1 6) h) {t : Nat} (ht : t < 40) : f_X9_isDark (nI t) h = some (if q_dk S t = true then nI 1 else nI 0, h) := by
  have hw := w.1.2.2.2.2.1
  have e0 : (if nI t = nI 0 then nI 1 else nI 0) = (if q_dn S t 0 = true then nI 1 else nI 0) := by
    by_cases c : t = 0
    · rw [if_pos (by rw [c]), if_pos (by unfold q_dn; exact decide_eq_true c)]
    · rw [if_neg (by rw [nI_eq (by omega) (by decide)]; exact c), if_neg (by unfold q_dn; simp [c])]
  have key : ph_lp (α := Int32 × Int32) (fun j5 (x6, x7) =>
      if (h.1 51 15) ≤ x7 then
        ph_rz x6 h
      else
        ph_jn (α := Int32) (fun x10 =>
          j5 (x10, x7 + (nI 1))) (fun j9 =>
          ph_jn (α := Unit) (fun _x =>
            j9 (nI 1)) (fun j11 =>
            if x6 = nI 0 then
              ph_ldI h 62 6 x7 fun v13 =>
              if v13 = nI t then
                j11 ()
              else
                j9 (nI 0)
            else
              j11 ()))) ph_fu ((if nI t = nI 0 then nI 1 else nI 0), (nI 0)) = some (if q_dk S t = true then nI 1 else nI 0, h) := by
    refine lp_for (fun i => (if q_dn S t i = true then nI 1 else nI 0, nI i)) (S.1 4) (by omega) (by rw [e0]) ?_ ?_
    · intro rec i hi
      have hb := (w.2.1 i).2.2.2.2.2.2.1
      have hc := kd.2 i hi
      rw [Nat.one_mul, Nat.add_zero] at hc
      dsimp only
      rw [kd.1, if_neg (nI_ge hi (by omega)), jn_at, jn_at, nI_add]
      by_cases c : q_dn S t i = true
      · rw [if_pos c, if_neg (by decide), if_pos (by unfold q_dn; simp [c])]
      · rw [if_neg c, if_pos rfl, ldI_at (by omega) (by decide), hc]
        by_cases c2 : S.2.1 6 i = t
        · rw [if_pos (by rw [c2]), if_pos (by unfold q_dn; simp [c2])]
        · rw [if_neg (by rw [nI_eq (by omega) (by omega)]; exact c2), if_neg (by unfold q_dn; simp [c, c2])]
    · intro rec
      dsimp only
      rw [kd.1, if_pos (nI_le (Nat.le_refl _) (by omega)), show q_dn S t (S.1 4) = q_dk S t from rfl]
      by_cases c : q_dk S t = true
      · rw [if_pos c, rz_1]
      · rw [if_neg c, rz_0]
  unfold f_X9_isDark
  rw [jn_at]
  by_cases c : nI t = nI 0
  · rw [if_pos c] at key ⊢
    exact key
  · rw [if_neg c] at key ⊢
    exact key
theorem m_where {S : q_S} (w : q_wf S) {h : ph_Hp} (km : h.1 51 11 = nI (S.1 2) ∧ mW 60 2 0 (S.1 2) (S.2.1 2) h ∧ mW 60 2 1 (S.1 2) (S.2.1 3) h) {t : Nat} (ht : t < 40) : f_X9_whereAt (nI t) h = some (nI (q_wh S t), h) := by
  have hw := w.1.2.2.1
  have hfst : ∀ n, (q_wn S t n).1 ≤ 40 := by
    intro n
    induction n with
    | zero => exact Nat.zero_le _
    | succ n ih =>
      have := (w.2.1 n).2.2.1
      unfold q_wn
      split
      · show S.2.1 2 n + 1 ≤ 40; omega
      · exact ih
  unfold f_X9_whereAt
  refine lp_for (fun i => (nI (q_wn S t i).1 - nI 1, nI (q_wn S t i).2, nI i, h)) (S.1 2) (by omega) rfl ?_ ?_
  · intro rec i hi
    have hb := (w.2.1 i).2.2.1
    have hb2 := (w.2.1 i).2.2.2.1
    have h1 := km.2.1 i hi
    have h2 := km.2.2 i hi
    have hf := hfst i
    rw [Nat.add_zero] at h1
    dsimp only
    rw [km.1, if_neg (nI_ge hi (by omega)), pk_mul, ldI_at (by omega) (by decide), h1, m_in, cl_some, jn_at, nI_add]
    have hlt : nI (S.2.1 2 i) < nI (q_wn S t i).1 - nI 1 ↔ S.2.1 2 i + 1 < (q_wn S t i).1 := by
      rw [Int32.lt_iff_toInt_lt, Int32.toInt_sub, nI_toInt (by omega), nI_toInt (by omega), nI_toInt (by decide), Int.bmod_eq_of_le (by omega) (by omega)]
      omega
    by_cases c : (q_wn S t i).1 ≤ S.2.1 2 i + 1 ∧ S.2.1 2 i ≤ t
    · have hn : ¬ (nI (S.2.1 2 i) < nI (q_wn S t i).1 - nI 1 ∨ nI t < nI (S.2.1 2 i)) := fun z => z.elim (fun z => by have := hlt.mp z; omega) (nI_nlt c.2 (by omega))
      rw [if_neg hn, if_neg (show ¬ nI 1 = nI 0 by decide), ldI_at (by omega) (by decide), nI_add, ldI_at (by omega) (by decide), h1, h2]
      have e : q_wn S t (i + 1) = (S.2.1 2 i + 1, S.2.1 3 i) := by rw [q_wn, if_pos c]
      rw [e]
      dsimp only
      rw [n_sub1]
    · have e : q_wn S t (i + 1) = q_wn S t i := by rw [q_wn, if_neg c]
      have hn : nI (S.2.1 2 i) < nI (q_wn S t i).1 - nI 1 ∨ nI t < nI (S.2.1 2 i) := by
        by_cases d : (q_wn S t i).1 ≤ S.2.1 2 i + 1
        · exact Or.inr (nI_lt (by omega) (by omega))
        · exact Or.inl (hlt.mpr (by omega))
      rw [if_pos hn, if_pos rfl, e]
  · intro rec
    dsimp only
    rw [km.1, if_pos (nI_le (Nat.le_refl _) (by omega))]
    rfl
def MP (S : q_S) (c : Nat → Int32) (h : ph_Hp) : Prop := MRp S h ∧ MRh S h ∧ ∀ t, t < 40 → h.1 63 t = c t ∧ h.1 64 t = nI (q_wh S t)
theorem m_plain {S : q_S} (w : q_wf S) {h : ph_Hp} (K : MI S h) : ph_O (f_X9_plain h) (fun _ g => MP S (q_cg S) g ∧ MI S g ∧ mA h g) := by
  have hw := w.1.2.2.2.1
  unfold f_X9_plain
  refine O_cl (m_reads w K) ?_
  rintro _ h1 ⟨r1, r2, K1, a1⟩
  have mp : ∀ g : ph_Hp, q_ag [63, 64] h1 g → MRp S g ∧ MRh S g ∧ MI S g := fun g ag => ⟨⟨by rw [(ag 51 (by decide)).1]; exact r1.1, by rw [(ag 58 (by decide)).1]; exact r1.2⟩, ⟨by rw [(ag 51 (by decide)).1]; exact r2.1, by rw [(ag 59 (by decide)).1]; exact r2.2⟩, MI_mA K1 (mA_ag ag (by decide))⟩
  refine O_for 40 (fun i y => y.1 = nI i ∧ (∀ t, t < i → y.2.1 63 t = nI 0 ∧ y.2.1 64 t = nI (q_wh S t)) ∧ q_ag [63, 64] h1 y.2) (by omega) ⟨rfl, fun t ht => absurd ht (Nat.not_lt_zero t), q_ag_rf _ h1⟩ ?_ ?_
  · rintro rec i ⟨y, g⟩ hi ⟨ey, e1, e2⟩ hrec
    dsimp only at ey e1 e2 ⊢
    subst ey
    have e3 : q_ag [63, 64] h1 (ph_sI g 63 i (nI 0)) := q_ag_sI e2 (by decide)
    rw [if_neg (nI_ge hi (by decide)), stI_at hi (by decide), m_where w (mp _ e3).2.2.2.2.1 hi, cl_some, stI_at hi (by decide)]
    refine hrec _ ⟨nI_add _ _, fun t ht => ?_, q_ag_sI e3 (by decide)⟩
    dsimp only
    rw [sI_ne _ _ _ (show 63 ≠ 64 by decide), sI_eq, sI_eq, sI_ne _ _ _ (show 64 ≠ 63 by decide)]
    by_cases q : t = i
    · rw [if_pos q, if_pos q, q]; exact ⟨rfl, rfl⟩
    · rw [if_neg q, if_neg q]; exact e1 t (by omega)
  · rintro rec ⟨y, g⟩ ⟨ey, e1, e2⟩
    dsimp only at ey e1 e2 ⊢
    subst ey
    rw [if_pos (nI_le (Nat.le_refl _) (by decide))]
    refine O_for (S.1 3) (fun i y => y.1 = nI i ∧ (∀ t, t < 40 → y.2.1 63 t = q_cn S i t ∧ y.2.1 64 t = nI (q_wh S t)) ∧ q_ag [63, 64] h1 y.2) (by omega) ⟨rfl, e1, e2⟩ ?_ ?_
    · rintro rec i ⟨y, g⟩ hi ⟨ey, e1, e2⟩ hrec
      dsimp only at ey e1 e2 ⊢
      subst ey
      obtain ⟨d1, d2, d3⟩ := (mp _ e2).2.2.2.2.2.1
      have hb := (w.2.1 i).2.2.2.2.1
      have h4 := d2 i hi
      have h5 := d3 i hi
      rw [Nat.add_zero] at h4
      rw [d1, if_neg (nI_ge hi (by omega)), pk_mul, ldI_at (by omega) (by decide), h4, ldI_at hb (by decide), nI_add, ldI_at (by omega) (by decide), h5, stI_at hb (by decide)]
      refine hrec _ ⟨nI_add _ _, fun t ht => ?_, q_ag_sI e2 (by decide)⟩
      dsimp only
      rw [sI_eq, sI_ne _ _ _ (show 64 ≠ 63 by decide)]
      refine ⟨?_, (e1 t ht).2⟩
      unfold q_cn
      by_cases q : t = S.2.1 4 i
      · rw [if_pos q, if_pos q, ← q, (e1 t ht).1]
      · rw [if_neg q, if_neg q]; exact (e1 t ht).1
    · rintro rec ⟨y, g⟩ ⟨ey, e1, e2⟩
      dsimp only at ey e1 e2 ⊢
      subst ey
      have K2 := mp _ e2
      rw [K2.2.2.2.2.2.1.1, if_pos (nI_le (Nat.le_refl _) (by omega))]
      exact O_ret ⟨⟨K2.1, K2.2.1, e1⟩, K2.2.2, mA_tr a1 (mA_ag e2 (by decide))⟩
