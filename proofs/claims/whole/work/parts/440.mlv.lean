-- the reference plays
theorem m_amount {a b : Nat} (ha : a < 2 ^ 30) (hb : b < 2 ^ 30) (h : ph_Hp) : f_X9_amount (nI a - nI b) h = some (nI (q_ad a b), h) := by
  unfold f_X9_amount
  rw [← n_abs ha hb]
  by_cases c : nI 0 ≤ nI a - nI b
  · rw [if_pos c, if_pos c]
  · rw [if_neg c, if_neg c]
    exact congrArg (fun z => some (z, h)) (Int32.zero_sub (nI a - nI b)).symm
theorem m_isIn (c : Int32) (k : Nat) (h : ph_Hp) : f_X9_isIn c (nI k) h = some (if q_tb c k = true then nI 1 else nI 0, h) := by
  unfold f_X9_isIn
  have key : ∀ x : Int32, x &&& nI 1 = nI 1 ↔ ¬ x &&& nI 1 = nI 0 := by
    intro x
    constructor
    · intro e z; rw [e] at z; exact absurd z (by decide)
    · intro e
      apply Int32.toBitVec_inj.1
      have h1 : ¬ x.toBitVec &&& 1#32 = 0#32 := fun z => e (Int32.toBitVec_inj.1 z)
      show x.toBitVec &&& 1#32 = 1#32
      have h2 : (x.toBitVec &&& 1#32).toNat = x.toBitVec.toNat % 2 := by
        rw [BitVec.toNat_and]
        exact Nat.and_one_is_mod _
      apply BitVec.eq_of_toNat_eq
      rw [h2]
      have h3 : ¬ (x.toBitVec &&& 1#32).toNat = 0 := fun z => h1 (BitVec.eq_of_toNat_eq z)
      rw [h2] at h3
      show _ = 1
      omega
  by_cases c1 : ph_shr c (nI k) &&& nI 1 = nI 0
  · rw [if_neg (fun z => (key _).mp z c1), if_neg (by unfold q_tb; simp [c1]), rz_0]
  · rw [if_pos ((key _).mpr c1), if_pos (by unfold q_tb; simp [c1]), rz_1]
theorem m_habit {S : q_S} (w : q_wf S) {h : ph_Hp} (R : MRp S h) (H : MRh S h) {k l : Nat} (hp : q_pl S ≠ 0) (hk : k < q_hn S) (hl : l < 8) : f_X9_habitOf (nI k) (nI l) h = some (nI (q_th S k l), h) := by
  have hhn := q_hn_le w
  have h1 := q_nx_lt hp l
  have h2 := q_ah_lt hp l
  have h3 := q_hl_lt hk
  have h4 := q_hh_lt S k
  obtain ⟨r1, r2, r3, r4⟩ := H.2 k hk
  unfold f_X9_habitOf q_th
  rw [pk_mul, nI_add, ldI_at (by omega) (by decide), r4, m_nx w R (by omega), cl_some, nI_add, ldI_at (by omega) (by decide), r3, q_lv_1 hp]
  by_cases c0 : q_hh S k = 0
  · rw [if_pos (by rw [c0]), if_pos c0]
  rw [if_neg (by rw [nI_eq (by omega) (by decide)]; exact c0), if_neg c0]
  by_cases c1 : q_hh S k = 1
  · rw [if_pos (by rw [c1]), if_pos c1]
  rw [if_neg (by rw [nI_eq (by omega) (by decide)]; exact c1), if_neg c1]
  by_cases c2 : q_hh S k = 2
  · rw [if_pos (by rw [c2]), if_pos c2]
    by_cases d : l = q_hl S k
    · rw [if_pos (by rw [d]), if_pos d]
    · rw [if_neg (by rw [nI_eq (by omega) (by omega)]; exact d), if_neg d]
  rw [if_neg (by rw [nI_eq (by omega) (by decide)]; exact c2), if_neg c2, jn_at]
  by_cases d : q_nx S l = q_hl S k
  · rw [if_pos (by rw [d]), if_pos (Or.inl d)]
  · rw [if_neg (by rw [nI_eq (by omega) (by omega)]; exact d), m_ah w R (by omega), cl_some, q_lv_1 hp]
    by_cases e : q_ah S l = q_hl S k
    · rw [if_pos (by rw [e]), if_pos (Or.inr e)]
    · rw [if_neg (by rw [nI_eq (by omega) (by omega)]; exact e), if_neg (fun z => z.elim d e)]
def MV (S : q_S) (f : Option Nat) (s : Int32) (c : Nat → Int32) (h : ph_Hp) : Prop := MP S c h ∧ (h.1 51 15 = nI (S.1 4) ∧ mW 62 1 0 (S.1 4) (S.2.1 6) h) ∧ h.1 51 21 = q_bv f ∧ h.1 51 22 = s
theorem MV_ag {S : q_S} {f : Option Nat} {s : Int32} {c : Nat → Int32} {h g : ph_Hp} (V : MV S f s c h) (ag : q_ag [65, 66] h g) : MV S f s c g := by
  obtain ⟨⟨r1, r2, r3⟩, ⟨k1, k2⟩, k3, k4⟩ := V
  refine ⟨⟨⟨?_, ?_⟩, ⟨?_, ?_⟩, ?_⟩, ⟨?_, ?_⟩, ?_, ?_⟩
  · rw [(ag 51 (by decide)).1]; exact r1.1
  · rw [(ag 58 (by decide)).1]; exact r1.2
  · rw [(ag 51 (by decide)).1]; exact r2.1
  · rw [(ag 59 (by decide)).1]; exact r2.2
  · rw [(ag 63 (by decide)).1, (ag 64 (by decide)).1]; exact r3
  · rw [(ag 51 (by decide)).1]; exact k1
  · exact mW_ag k2 (ag 62 (by decide)).1
  · rw [(ag 51 (by decide)).1]; exact k3
  · rw [(ag 51 (by decide)).1]; exact k4
def q_wq (S : q_S) (f : Option Nat) (c : Nat → Int32) (t k p : Nat) : Int32 := if q_he S f k t = true then nI (q_wp S k p (c t)) else (-1)
theorem m_whn {S : q_S} (w : q_wf S) {f : Option Nat} {s : Int32} {c : Nat → Int32} {h : ph_Hp} (V : MV S f s c h) (hf : ∀ k, f = some k → k < 9) {t k p : Nat} (ht : t < 40) (hk : k < q_hn S) (hp8 : q_pl S ≠ 0 → p < 8) (hpr : t ≠ 0 → h.1 65 (t - 1) = q_lv S p) : f_X9_whispersNow (nI t) (nI k) h = some (q_wq S f c t k p, h) := by
  have hhn := q_hn_le w
  obtain ⟨⟨r1, r2, r3⟩, kd, k3, k4⟩ := V
  obtain ⟨u1, u2, u3, u4⟩ := r2.2 k hk
  have b1 := q_hp_lt hk
  have b2 := q_hr_lt hk
  unfold f_X9_whispersNow q_wq
  rw [m_dark_ w kd ht, cl_some]
  by_cases cd : q_dk S t = true
  · rw [if_pos cd, if_neg (by decide), if_neg (fun z => by have := (q_he_pl z).2; rw [cd] at this; cases this)]
  · have ht0 : t ≠ 0 := fun z => cd (by rw [z]; exact q_dk_0 S)
    rw [if_neg cd, if_pos rfl, r1.1]
    by_cases cp : q_pl S = 0
    · rw [if_pos (by rw [cp]), if_neg (fun z => (q_he_pl z).1 cp)]
    · have hle := q_pl_le w
      have b3 := q_wh_lt w (t - 1)
      have e21 : (if nI k = h.1 51 21 then nI 1 else nI 0) = nI (if f = some k then 1 else 0) := by
        rw [k3]
        cases f with
        | none => rw [show q_bv none = (-1) from rfl, if_neg (n_ne1 (by omega)), if_neg (by simp)]
        | some k2 =>
          have := hf k2 rfl
          by_cases e : k2 = k
          · rw [if_pos (by rw [e]; rfl), if_pos (by rw [e])]
          · rw [if_neg (by show ¬ nI k = nI k2; rw [nI_eq (by omega) (by omega)]; exact fun z => e z.symm), if_neg (by simp [e])]
      have hads : q_ad (q_wh S (t - 1)) (q_hp S k) = q_ad (q_hp S k) (q_wh S (t - 1)) := by unfold q_ad; split <;> split <;> omega
      have hadl : q_ad (q_hp S k) (q_wh S (t - 1)) < 10 := by unfold q_ad; split <;> omega
      have fin : ph_O (ph_ldI h 64 40 (nI t - (nI 1)) fun v11 =>
          ph_ldI h 59 36 (nI (4 * k)) fun v12 =>
          ph_cl (f_X9_amount (v11 - v12) h) fun v13 h14 =>
          if v13 ≤ (nI (q_hr S k) + nI (if f = some k then 1 else 0)) then
            ph_ldI h14 65 40 (nI t - (nI 1)) fun v16 =>
            ph_cl (f_X9_habitOf (nI k) v16 h14) fun v17 h18 =>
            ph_ldI h18 63 40 (nI t) fun v19 =>
            ph_cl (f_X9_isIn v19 (nI k) h18) fun v20 h21 =>
            if v20 = nI 0 then
              some (v17, h21)
            else
              some (ph_irem (v17 + (nI 1)) (nI 8), h21)
          else
            some ((-1), h14)) (fun v g => v = (if q_he S f k t = true then nI (q_wp S k p (c t)) else (-1)) ∧ g = h) := by
        rw [pk_sub (by omega), ldI_at (by omega) (by decide), ldI_at (by omega) (by decide), (r3 (t - 1) (by omega)).2, u1, m_amount (by omega) (by omega), cl_some, hads, nI_add]
        by_cases cr : q_ad (q_hp S k) (q_wh S (t - 1)) ≤ q_hr S k + (if f = some k then 1 else 0)
        · have he : q_he S f k t = true := by unfold q_he; simp [cp, cd, cr]
          have hth := q_th_lt cp hk (hp8 cp)
          rw [if_pos (nI_le cr (by split <;> omega)), ldI_at (by omega) (by decide), hpr ht0, q_lv_1 cp, m_habit w r1 r2 cp hk (hp8 cp), cl_some, ldI_at (by omega) (by decide), (r3 t ht).1, m_isIn, cl_some, if_pos he]
          unfold q_wp
          by_cases cb : q_tb (c t) k = true
          · rw [if_pos cb, if_neg (by decide), if_pos cb, nI_add, irem_at (by omega) (by decide) (by decide)]
            exact O_ret ⟨rfl, rfl⟩
          · rw [if_neg cb, if_pos rfl, if_neg cb]
            exact O_ret ⟨rfl, rfl⟩
        · have he : ¬ q_he S f k t = true := by unfold q_he; simp [cp, cd]; omega
          rw [if_neg (nI_ge (by omega) (by omega)), if_neg he]
          exact O_ret ⟨rfl, rfl⟩
      rw [if_neg (by rw [nI_eq (by omega) (by decide)]; exact cp), pk_mul, nI_add, ldI_at (by omega) (by decide), u2, jn_at]
      obtain ⟨v, g, e, ev, eg⟩ := fin
      rw [ev, eg] at e
      by_cases ck : nI k = h.1 51 21
      · rw [if_pos ck] at e21
        rw [← e21] at e
        rw [if_pos ck]
        exact e
      · rw [if_neg ck] at e21
        rw [← e21] at e
        rw [if_neg ck]
        exact e
