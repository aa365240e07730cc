-- the law
theorem ldS_at {β : Type} {Z : ph_L} {j : Nat} {F : Int32 → Option β} (hj : j < ph_n Z) (hn : ph_n Z < 2000) : ph_ldS Z (nI j) F = F (ph_x Z j) := by
  unfold ph_ldS
  rw [if_pos (by rw [nI_toInt (by omega)]; omega), nI_clamp (by omega)]
theorem MI_aM {S : q_S} {h g : ph_Hp} (K : MI S h) (a : q_aM h g) : MI S g := MI_ag K (fun i hi => a i (by simp at hi; omega)) (fun k _ => by rw [a 51 (by decide)])
theorem l_end {n m : Nat} (hn : n < 2000) (hm : m < 2000) : nI n - nI 6 < nI m ↔ n < m + 6 := by
  rw [Int32.lt_iff_toInt_lt, pk_sub_toInt (by omega) (by omega), nI_toInt (by omega)]
  omega
theorem O_two {Z : ph_L} {ρ : Type} {S : q_S} {h : ph_Hp} {o : Option (ρ × ph_Hp)} {sp : ρ × q_S} {K : ρ → ph_Hp → Option (Int32 × ph_Hp)} {Q : Int32 → ph_Hp → Prop} (M : MI S h) (a : ph_O o (Cq h sp.1 sp.2)) (k : ∀ g, CI sp.2 g → MI S g → ph_O (K sp.1 g) Q) : ph_O (ph_cl o K) Q := by
  refine O_cl a ?_
  rintro v g ⟨rfl, K1, am⟩
  exact k g K1 (MI_aM M am)
theorem O_thr {ρ : Type} {h : ph_Hp} {o : Option (ρ × ph_Hp)} {sp : ρ × q_S} {K : ρ → ph_Hp → Option (Int32 × ph_Hp)} {Q : Int32 → ph_Hp → Prop} (C : CI sp.2 h) (a : ph_O o (Mq h sp.1 sp.2)) (k : ∀ g, CI sp.2 g → MI sp.2 g → ph_O (K sp.1 g) Q) : ph_O (ph_cl o K) Q := by
  refine O_cl a ?_
  rintro v g ⟨rfl, K1, ac⟩
  exact k g (CI_aC C ac) K1
set_option maxRecDepth 100000 in
theorem k_law (Z : ph_L) (hn : ph_n Z ≤ 384) (S : q_S) (h : ph_Hp) (C : CI S h) (M : MI S h) : ph_O (f_law Z h) (fun v _ => v = nI 1) := by
  unfold f_law
  refine O_for (ph_n Z / 6) (fun i y => y.1 = nI (6 * i) ∧ ∃ S, CI S y.2 ∧ MI S y.2) (by omega) ⟨rfl, S, C, M⟩ ?_ ?_
  · rintro rec i ⟨y, g⟩ hi ⟨ey, S, C, M⟩ hrec
    dsimp only at ey C M ⊢
    subst ey
    have w := C.1
    have L1 : ∀ (F : Int32 → Option (Int32 × ph_Hp)), ph_ldS Z (nI (6 * i) + nI 1) F = F (ph_x Z (6 * i + 1)) := fun F => by rw [nI_add, ldS_at (by omega) (by omega)]
    have L2 : ∀ (F : Int32 → Option (Int32 × ph_Hp)), ph_ldS Z (nI (6 * i) + nI 2) F = F (ph_x Z (6 * i + 2)) := fun F => by rw [nI_add, ldS_at (by omega) (by omega)]
    have L3 : ∀ (F : Int32 → Option (Int32 × ph_Hp)), ph_ldS Z (nI (6 * i) + nI 3) F = F (ph_x Z (6 * i + 3)) := fun F => by rw [nI_add, ldS_at (by omega) (by omega)]
    have L4 : ∀ (F : Int32 → Option (Int32 × ph_Hp)), ph_ldS Z (nI (6 * i) + nI 4) F = F (ph_x Z (6 * i + 4)) := fun F => by rw [nI_add, ldS_at (by omega) (by omega)]
    have L5 : ∀ (F : Int32 → Option (Int32 × ph_Hp)), ph_ldS Z (nI (6 * i) + nI 5) F = F (ph_x Z (6 * i + 5)) := fun F => by rw [nI_add, ldS_at (by omega) (by omega)]
    have go : ∀ (g : ph_Hp) (S : q_S), CI S g → MI S g → ph_O (rec (nI (6 * i) + nI 6, g)) (fun v _ => v = nI 1) := fun g S C M => hrec _ ⟨by dsimp only; rw [nI_add]; rfl, S, C, M⟩
    rw [if_neg (fun z => by have := (l_end (by omega) (by omega)).mp z; omega), ldS_at (by omega) (by omega), jn_at]
    clear hrec
    by_cases c0 : (ph_x Z (6 * i) &&& nI 63) = nI 0
    · rw [if_pos c0, L1, L2]
      refine O_two (Z := Z) M (k_type S g C _ _) (fun g C M => ?_)
      rw [L1, L2]
      refine O_thr C (m_type S w g M _ _) (fun g C M => ?_)
      rw [if_pos rfl]
      exact go _ _ C M
    rw [if_neg c0]
    clear c0
    by_cases c1 : (ph_x Z (6 * i) &&& nI 63) = nI 1
    · rw [if_pos c1, L1]
      refine O_two (Z := Z) M (k_wipe S g C _) (fun g C M => ?_)
      rw [L1]
      refine O_thr C (m_wipe S w g M _) (fun g C M => ?_)
      rw [if_pos rfl]
      exact go _ _ C M
    rw [if_neg c1]
    clear c1
    by_cases c2 : (ph_x Z (6 * i) &&& nI 63) = nI 2
    · rw [if_pos c2, L1]
      refine O_two (Z := Z) M (k_undo S g C _) (fun g C M => ?_)
      rw [L1]
      refine O_thr C (m_undo S w g M _) (fun g C M => ?_)
      rw [if_pos rfl]
      exact go _ _ C M
    rw [if_neg c2]
    clear c2
    by_cases c3 : (ph_x Z (6 * i) &&& nI 63) = nI 3
    · rw [if_pos c3, L1]
      refine O_two (Z := Z) M (k_fault S g C _) (fun g C M => ?_)
      rw [L1]
      refine O_thr C (m_fault S w g M _) (fun g C M => ?_)
      rw [if_pos rfl]
      exact go _ _ C M
    rw [if_neg c3]
    clear c3
    by_cases c4 : (ph_x Z (6 * i) &&& nI 63) = nI 4
    · rw [if_pos c4, L1]
      refine O_two (Z := Z) M (k_line S g C _) (fun g C M => ?_)
      rw [L1]
      refine O_thr C (m_line S w g M _) (fun g C M => ?_)
      rw [if_pos rfl]
      exact go _ _ C M
    rw [if_neg c4]
    clear c4
    by_cases c5 : (ph_x Z (6 * i) &&& nI 63) = nI 5
    · rw [if_pos c5, L1, L2]
      refine O_two (Z := Z) M (k_hole S g C _ _) (fun g C M => ?_)
      rw [L1, L2]
      refine O_thr C (m_hole S w g M _ _) (fun g C M => ?_)
      rw [if_pos rfl]
      exact go _ _ C M
    rw [if_neg c5]
    clear c5
    by_cases c6 : (ph_x Z (6 * i) &&& nI 63) = nI 6
    · rw [if_pos c6, L1, L2]
      refine O_two (Z := Z) M (k_printed S g C _ _) (fun g C M => ?_)
      rw [L1, L2]
      refine O_thr C (m_printed S w g M _ _) (fun g C M => ?_)
      rw [if_pos rfl]
      exact go _ _ C M
    rw [if_neg c6]
    clear c6
    by_cases c7 : (ph_x Z (6 * i) &&& nI 63) = nI 7
    · rw [if_pos c7, L1, L2]
      refine O_two (Z := Z) M (k_move S g C _ _) (fun g C M => ?_)
      rw [L1, L2]
      refine O_thr C (m_move S w g M _ _) (fun g C M => ?_)
      rw [if_pos rfl]
      exact go _ _ C M
    rw [if_neg c7]
    clear c7
    by_cases c8 : (ph_x Z (6 * i) &&& nI 63) = nI 8
    · rw [if_pos c8, L1, L2]
      refine O_two (Z := Z) M (k_cough S g C _ _) (fun g C M => ?_)
      rw [L1, L2]
      refine O_thr C (m_cough S w g M _ _) (fun g C M => ?_)
      rw [if_pos rfl]
      exact go _ _ C M
    rw [if_neg c8]
    clear c8
    by_cases c9 : (ph_x Z (6 * i) &&& nI 63) = nI 9
    · rw [if_pos c9, L1]
      refine O_two (Z := Z) M (k_dark S g C _) (fun g C M => ?_)
      rw [L1]
      refine O_thr C (m_dark S w g M _) (fun g C M => ?_)
      rw [if_pos rfl]
      exact go _ _ C M
    rw [if_neg c9]
    clear c9
    by_cases c10 : (ph_x Z (6 * i) &&& nI 63) = nI 10
    · rw [if_pos c10, L1]
      refine O_two (Z := Z) M (k_back S g C _) (fun g C M => ?_)
      rw [L1]
      refine O_thr C (m_back S w g M _) (fun g C M => ?_)
      rw [if_pos rfl]
      exact go _ _ C M
    rw [if_neg c10]
    clear c10
    by_cases c11 : (ph_x Z (6 * i) &&& nI 63) = nI 11
    · rw [if_pos c11, L1]
      refine O_two (Z := Z) M (k_read S g C _) (fun g C M => ?_)
      rw [L1]
      refine O_thr C (m_read S w g M _) (fun g C M => ?_)
      rw [if_pos rfl]
      exact go _ _ C M
    rw [if_neg c11]
    clear c11
    by_cases c12 : (ph_x Z (6 * i) &&& nI 63) = nI 12
    · rw [if_pos c12, L1, L2]
      refine O_two (Z := Z) M (k_step S g C _ _) (fun g C M => ?_)
      rw [L1, L2]
      refine O_thr C (m_step S w g M _ _) (fun g C M => ?_)
      rw [if_pos rfl]
      exact go _ _ C M
    rw [if_neg c12]
    clear c12
    by_cases c13 : (ph_x Z (6 * i) &&& nI 63) = nI 13
    · rw [if_pos c13, L1, L2]
      refine O_two (Z := Z) M (k_whispers S g C _ _) (fun g C M => ?_)
      rw [L1, L2]
      refine O_thr C (m_whispers S w g M _ _) (fun g C M => ?_)
      rw [if_pos rfl]
      exact go _ _ C M
    rw [if_neg c13]
    clear c13
    by_cases c14 : (ph_x Z (6 * i) &&& nI 63) = nI 14
    · rw [if_pos c14, L1]
      refine O_two (Z := Z) M (k_drift S g C _) (fun g C M => ?_)
      rw [L1]
      refine O_thr C (m_drift S w g M _) (fun g C M => ?_)
      rw [if_pos rfl]
      exact go _ _ C M
    rw [if_neg c14]
    clear c14
    by_cases c15 : (ph_x Z (6 * i) &&& nI 63) = nI 15
    · rw [if_pos c15]
      refine O_two (Z := Z) M (k_round S g C) (fun g C M => ?_)
      refine O_thr C (m_round S w g M) (fun g C M => ?_)
      rw [if_pos rfl]
      exact go _ _ C M
    rw [if_neg c15]
    clear c15
    by_cases c16 : (ph_x Z (6 * i) &&& nI 63) = nI 16
    · rw [if_pos c16, L1, L2]
      refine O_two (Z := Z) M (k_often S g C _ _) (fun g C M => ?_)
      rw [L1, L2]
      refine O_thr C (m_often S w g M _ _) (fun g C M => ?_)
      rw [if_pos rfl]
      exact go _ _ C M
    rw [if_neg c16]
    clear c16
    by_cases c17 : (ph_x Z (6 * i) &&& nI 63) = nI 17
    · rw [if_pos c17, L1, L2]
      refine O_two (Z := Z) M (k_may S g C _ _) (fun g C M => ?_)
      rw [L1, L2]
      refine O_thr C (m_may S w g M _ _) (fun g C M => ?_)
      rw [if_pos rfl]
      exact go _ _ C M
    rw [if_neg c17]
    clear c17
    by_cases c18 : (ph_x Z (6 * i) &&& nI 63) = nI 18
    · rw [if_pos c18, L1, L2, L3, L4]
      refine O_two (Z := Z) M (k_prompt S g C _ _ _ _) (fun g C M => ?_)
      rw [L1, L2, L3, L4]
      refine O_thr C (m_prompt S w g M _ _ _ _) (fun g C M => ?_)
      rw [if_pos rfl]
      exact go _ _ C M
    rw [if_neg c18]
    clear c18
    by_cases c19 : (ph_x Z (6 * i) &&& nI 63) = nI 19
    · rw [if_pos c19, L1, L2]
      refine O_two (Z := Z) M (k_seen S g C _ _) (fun g C M => ?_)
      rw [L1, L2]
      refine O_thr C (m_seen S w g M _ _) (fun g C M => ?_)
      rw [if_pos rfl]
      exact go _ _ C M
    rw [if_neg c19]
    clear c19
    by_cases c20 : (ph_x Z (6 * i) &&& nI 63) = nI 20
    · rw [if_pos c20]
      refine O_two (Z := Z) M (k_forget S g C) (fun g C M => ?_)
      refine O_thr C (m_forget S w g M) (fun g C M => ?_)
      rw [if_pos rfl]
      exact go _ _ C M
    rw [if_neg c20]
    clear c20
    by_cases c21 : (ph_x Z (6 * i) &&& nI 63) = nI 21
    · rw [if_pos c21]
      refine O_two (Z := Z) M (k_filed S g C) (fun g C M => ?_)
      refine O_thr C (m_filed S w g M) (fun g C M => ?_)
      rw [if_pos rfl]
      exact go _ _ C M
    rw [if_neg c21]
    clear c21
    by_cases c22 : (ph_x Z (6 * i) &&& nI 63) = nI 22
    · rw [if_pos c22, L1]
      refine O_two (Z := Z) M (k_coughed S g C _) (fun g C M => ?_)
      rw [L1]
      refine O_thr C (m_coughed S w g M _) (fun g C M => ?_)
      rw [if_pos rfl]
      exact go _ _ C M
    rw [if_neg c22]
    clear c22
    by_cases c23 : (ph_x Z (6 * i) &&& nI 63) = nI 23
    · rw [if_pos c23, L1]
      refine O_two (Z := Z) M (k_ask S g C _) (fun g C M => ?_)
      rw [L1]
      refine O_thr C (m_ask S w g M _) (fun g C M => ?_)
      rw [if_pos rfl]
      exact go _ _ C M
    rw [if_neg c23]
    clear c23
    by_cases c24 : (ph_x Z (6 * i) &&& nI 63) = nI 24
    · rw [if_pos c24, L1, L2, L3, L4, L5]
      refine O_two (Z := Z) M (k_slips S g C _ _ _ _ _) (fun g C M => ?_)
      rw [L1, L2, L3, L4, L5]
      refine O_thr C (m_slips S w g M _ _ _ _ _) (fun g C M => ?_)
      rw [if_pos ((lg_cmp0 _ _).mpr rfl)]
      exact go _ _ C M
    rw [if_neg c24]
    clear c24
    by_cases c25 : (ph_x Z (6 * i) &&& nI 63) = nI 25
    · rw [if_pos c25, L1, L2, L3]
      refine O_two (Z := Z) M (k_evening S g C _ _ _) (fun g C M => ?_)
      rw [L1, L2, L3]
      refine O_thr C (m_evening S w g M _ _ _) (fun g C M => ?_)
      rw [if_pos rfl]
      exact go _ _ C M
    rw [if_neg c25]
    clear c25
    by_cases c26 : (ph_x Z (6 * i) &&& nI 63) = nI 26
    · rw [if_pos c26, L1, L2, L3]
      refine O_two (Z := Z) M (k_sheet S g C _ _ _) (fun g C M => ?_)
      rw [L1, L2, L3]
      refine O_thr C (m_sheet S w g M _ _ _) (fun g C M => ?_)
      rw [if_pos rfl]
      exact go _ _ C M
    rw [if_neg c26]
    clear c26
    by_cases c27 : (ph_x Z (6 * i) &&& nI 63) = nI 27
    · rw [if_pos c27, L1]
      refine O_two (Z := Z) M (k_lose S g C _) (fun g C M => ?_)
      rw [L1]
      refine O_thr C (m_lose S w g M _) (fun g C M => ?_)
      rw [if_pos rfl]
      exact go _ _ C M
    rw [if_neg c27]
    clear c27
    by_cases c28 : (ph_x Z (6 * i) &&& nI 63) = nI 28
    · rw [if_pos c28, L1, L2, L3, L4]
      refine O_two (Z := Z) M (k_lay S g C _ _ _ _) (fun g C M => ?_)
      rw [L1, L2, L3, L4]
      refine O_thr C (m_lay S w g M _ _ _ _) (fun g C M => ?_)
      rw [if_pos rfl]
      exact go _ _ C M
    rw [if_neg c28]
    clear c28
    by_cases c29 : (ph_x Z (6 * i) &&& nI 63) = nI 29
    · rw [if_pos c29, L1, L2, L3]
      refine O_two (Z := Z) M (k_get S g C _ _ _) (fun g C M => ?_)
      rw [L1, L2, L3]
      refine O_thr C (m_get S w g M _ _ _) (fun g C M => ?_)
      rw [if_pos rfl]
      exact go _ _ C M
    rw [if_neg c29]
    clear c29
    by_cases c30 : (ph_x Z (6 * i) &&& nI 63) = nI 30
    · rw [if_pos c30, L1, L2, L3, L4, L5]
      refine O_two (Z := Z) M (k_copy S g C _ _ _ _ _) (fun g C M => ?_)
      rw [L1, L2, L3, L4, L5]
      refine O_thr C (m_copy S w g M _ _ _ _ _) (fun g C M => ?_)
      rw [if_pos rfl]
      exact go _ _ C M
    rw [if_neg c30]
    clear c30
    by_cases c31 : (ph_x Z (6 * i) &&& nI 63) = nI 31
    · rw [if_pos c31, L1, L2]
      refine O_two (Z := Z) M (k_write S g C _ _) (fun g C M => ?_)
      rw [L1, L2]
      refine O_thr C (m_write S w g M _ _) (fun g C M => ?_)
      rw [if_pos rfl]
      exact go _ _ C M
    rw [if_neg c31]
    clear c31
    by_cases c32 : (ph_x Z (6 * i) &&& nI 63) = nI 32
    · rw [if_pos c32, L1]
      refine O_two (Z := Z) M (k_count S g C _) (fun g C M => ?_)
      rw [L1]
      refine O_thr C (m_count S w g M _) (fun g C M => ?_)
      rw [if_pos rfl]
      exact go _ _ C M
    rw [if_neg c32]
    clear c32
    by_cases c33 : (ph_x Z (6 * i) &&& nI 63) = nI 33
    · rw [if_pos c33]
      refine O_two (Z := Z) M (k_digest S g C) (fun g C M => ?_)
      refine O_thr C (m_digest S w g M) (fun g C M => ?_)
      rw [if_pos ((lg_cmp0 _ _).mpr rfl)]
      exact go _ _ C M
    rw [if_neg c33]
    clear c33
    exact go _ _ C M
  · rintro rec ⟨y, g⟩ ⟨ey, S, C, M⟩
    dsimp only at ey C M ⊢
    subst ey
    rw [if_pos ((l_end (by omega) (by omega)).mpr (by omega)), rz_1]
    exact O_ret rfl
