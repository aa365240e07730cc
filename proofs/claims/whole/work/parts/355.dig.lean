-- the digest
def q_31 (x v : Int64) : Int64 := lN 31 * x + v
def q_fx (f : Nat → Int64 → Int64) : Nat → Int64 → Int64
  | 0, x => x
  | n + 1, x => f n (q_fx f n x)
theorem q_fx_0 (f : Nat → Int64 → Int64) (x : Int64) : q_fx f 0 x = x := rfl
theorem q_fx_s (f : Nat → Int64 → Int64) (n : Nat) (x : Int64) : q_fx f (n + 1) x = f n (q_fx f n x) := rfl
def q_ml (S : q_S) (l : Nat) (x : Int64) : Int64 := q_fx (fun j x => q_31 x (sp_prompt S (nI 3) (nI 6) (nI l) (nI j)).1.toInt64) 3 (q_31 (q_31 (q_31 (q_31 (q_31 (q_31 x (sp_printed S (nI l) (nI 0)).1.toInt64) (sp_printed S (nI l) (nI 1)).1.toInt64) (sp_often S (nI l) (nI 0)).1.toInt64) (sp_often S (nI l) (nI 1)).1.toInt64) (sp_slips S (nI 5) (nI 0) (nI l) (nI 5) (nI 0)).1) (sp_slips S (nI 5) (nI 0) (nI l) (nI 5) (nI 1)).1)
def q_mh (S : q_S) (k : Nat) (x : Int64) : Int64 := q_31 (q_31 (q_31 (q_fx (fun j x => q_31 x (sp_hole S (nI k) (nI j)).1.toInt64) 4 x) (sp_whispers S (nI 3) (nI k)).1.toInt64) (sp_coughed S (nI k)).1.toInt64) (sp_ask S (nI k)).1.toInt64
def q_ms (S : q_S) (t : Int32) (x : Int64) : Int64 := q_31 (q_31 (q_31 (q_fx (fun j x => q_31 x (sp_step S t (nI j)).1.toInt64) 4 x) (sp_may S (nI 3) t).1.toInt64) (sp_evening S (nI 7) t (nI 0)).1.toInt64) (sp_evening S (nI 7) t (nI 1)).1.toInt64
def q_d1' (S : q_S) : Int64 := q_31 (q_31 (q_fx (fun i x => q_31 x (sp_count S (nI i)).1.toInt64) 8 (lN 17)) (sp_fault S (nI 0)).1.toInt64) (sp_fault S (nI 1)).1.toInt64
def q_d2 (S : q_S) : Int64 := q_fx (fun l x => q_ml S l x) 8 (q_d1' S)
def q_d3 (S : q_S) : Int64 := q_fx (fun k x => q_mh S k x) (q_hn S) (q_d2 S)
def q_d4 (S : q_S) : Int64 := q_fx (fun i x => q_ms S (ph_dg i) x) 5 (q_d3 S)
def sp_digest (S : q_S) : Int64 × q_S := (q_31 (q_31 (q_31 (q_31 (q_d4 S) (sp_drift S (nI 0)).1.toInt64) (sp_drift S (nI 1)).1.toInt64) (sp_round S).1.toInt64) (sp_filed S).1.toInt64, S)
theorem y_prompt (S : q_S) (a b c d : Int32) : (sp_prompt S a b c d).2 = S := by
  unfold sp_prompt
  split
  · split <;> rfl
  · rfl
theorem y_printed (S : q_S) (a b : Int32) : (sp_printed S a b).2 = S := by unfold sp_printed; split <;> rfl
theorem y_often (S : q_S) (a b : Int32) : (sp_often S a b).2 = S := by unfold sp_often; split <;> rfl
theorem y_slips (S : q_S) (a b c d e : Int32) : (sp_slips S a b c d e).2 = S := by
  unfold sp_slips
  split
  · split <;> rfl
  · rfl
theorem y_hole (S : q_S) (a b : Int32) : (sp_hole S a b).2 = S := by unfold sp_hole; split <;> rfl
theorem y_whispers (S : q_S) (a b : Int32) : (sp_whispers S a b).2 = S := by unfold sp_whispers; split <;> rfl
theorem y_coughed (S : q_S) (a : Int32) : (sp_coughed S a).2 = S := by unfold sp_coughed; split <;> rfl
theorem y_ask (S : q_S) (a : Int32) : (sp_ask S a).2 = S := by unfold sp_ask; split <;> rfl
theorem y_step (S : q_S) (a b : Int32) : (sp_step S a b).2 = S := by unfold sp_step; split <;> rfl
theorem y_may (S : q_S) (a b : Int32) : (sp_may S a b).2 = S := by
  unfold sp_may
  split
  · first | rfl | (split <;> rfl)
  · rfl
theorem y_evening (S : q_S) (a b c : Int32) : (sp_evening S a b c).2 = S := by unfold sp_evening; split <;> rfl
theorem y_fault (S : q_S) (a : Int32) : (sp_fault S a).2 = S := by unfold sp_fault; split <;> rfl
theorem y_drift (S : q_S) (a : Int32) : (sp_drift S a).2 = S := by unfold sp_drift; split <;> rfl
theorem O_q {ρ σ : Type} {S : q_S} {h0 h : ph_Hp} {o : Option (ρ × ph_Hp)} {sp : ρ × q_S} {K : ρ → ph_Hp → Option (σ × ph_Hp)} {Q : σ → ph_Hp → Prop} (a : ph_O o (Cq h sp.1 sp.2)) (e : sp.2 = S) (am : q_aM h0 h) (k : ∀ g, CI S g → q_aM h0 g → ph_O (K sp.1 g) Q) : ph_O (ph_cl o K) Q := by
  refine O_cl a ?_
  rintro v g ⟨rfl, K1, am1⟩
  rw [e] at K1
  exact k g K1 (q_aM_tr am am1)
theorem s_mixLine {S : q_S} {h0 h : ph_Hp} (K : CI S h) (am : q_aM h0 h) (x : Int64) (l : Nat) : ph_O (f_X8_mixLine x (nI l) h) (fun v g => v = q_ml S l x ∧ CI S g ∧ q_aM h0 g) := by
  unfold f_X8_mixLine q_ml
  refine O_q (k_printed S h K _ _) (y_printed _ _ _) am (fun g K am => ?_)
  refine O_q (k_printed S g K _ _) (y_printed _ _ _) am (fun g K am => ?_)
  refine O_q (k_often S g K _ _) (y_often _ _ _) am (fun g K am => ?_)
  refine O_q (k_often S g K _ _) (y_often _ _ _) am (fun g K am => ?_)
  refine O_q (k_slips S g K _ _ _ _ _) (y_slips _ _ _ _ _ _) am (fun g K am => ?_)
  refine O_q (k_slips S g K _ _ _ _ _) (y_slips _ _ _ _ _ _) am (fun g K am => ?_)
  refine O_for 3 (fun i y => y.1 = q_fx (fun j x => q_31 x (sp_prompt S (nI 3) (nI 6) (nI l) (nI j)).1.toInt64) i (q_31 (q_31 (q_31 (q_31 (q_31 (q_31 x (sp_printed S (nI l) (nI 0)).1.toInt64) (sp_printed S (nI l) (nI 1)).1.toInt64) (sp_often S (nI l) (nI 0)).1.toInt64) (sp_often S (nI l) (nI 1)).1.toInt64) (sp_slips S (nI 5) (nI 0) (nI l) (nI 5) (nI 0)).1) (sp_slips S (nI 5) (nI 0) (nI l) (nI 5) (nI 1)).1) ∧ y.2.1 = nI i ∧ CI S y.2.2 ∧ q_aM h0 y.2.2) (by omega) ⟨by rw [q_fx_0]; rfl, rfl, K, am⟩ ?_ ?_
  · rintro rec i ⟨y, z, g⟩ hi ⟨ey, ez, K, am⟩ hrec
    dsimp only at ey ez K am ⊢
    subst ez
    rw [if_neg (nI_ge hi (by decide))]
    refine O_q (k_prompt S g K _ _ _ _) (y_prompt _ _ _ _ _) am (fun g K am => ?_)
    exact hrec _ ⟨by dsimp only; rw [q_fx_s, ← ey]; rfl, nI_add _ _, K, am⟩
  · rintro rec ⟨y, z, g⟩ ⟨ey, ez, K, am⟩
    dsimp only at ey ez K am ⊢
    subst ez
    rw [if_pos (nI_le (Nat.le_refl 3) (by decide))]
    exact O_ret ⟨ey, K, am⟩
theorem s_mixHole {S : q_S} {h0 h : ph_Hp} (K : CI S h) (am : q_aM h0 h) (x : Int64) (k : Nat) : ph_O (f_X8_mixHole x (nI k) h) (fun v g => v = q_mh S k x ∧ CI S g ∧ q_aM h0 g) := by
  unfold f_X8_mixHole q_mh
  refine O_for 4 (fun i y => y.1 = q_fx (fun j x => q_31 x (sp_hole S (nI k) (nI j)).1.toInt64) i x ∧ y.2.1 = nI i ∧ CI S y.2.2 ∧ q_aM h0 y.2.2) (by omega) ⟨by rw [q_fx_0], rfl, K, am⟩ ?_ ?_
  · rintro rec i ⟨y, z, g⟩ hi ⟨ey, ez, K, am⟩ hrec
    dsimp only at ey ez K am ⊢
    subst ez
    rw [if_neg (nI_ge hi (by decide))]
    refine O_q (k_hole S g K _ _) (y_hole _ _ _) am (fun g K am => ?_)
    exact hrec _ ⟨by dsimp only; rw [q_fx_s, ← ey]; rfl, nI_add _ _, K, am⟩
  · rintro rec ⟨y, z, g⟩ ⟨ey, ez, K, am⟩
    dsimp only at ey ez K am ⊢
    subst ez
    rw [if_pos (nI_le (Nat.le_refl 4) (by decide)), ← ey]
    refine O_q (k_whispers S g K _ _) (y_whispers _ _ _) am (fun g K am => ?_)
    refine O_q (k_coughed S g K _) (y_coughed _ _) am (fun g K am => ?_)
    refine O_q (k_ask S g K _) (y_ask _ _) am (fun g K am => ?_)
    exact O_ret ⟨rfl, K, am⟩
theorem s_mixStep {S : q_S} {h0 h : ph_Hp} (K : CI S h) (am : q_aM h0 h) (x : Int64) (t : Int32) : ph_O (f_X8_mixStep x t h) (fun v g => v = q_ms S t x ∧ CI S g ∧ q_aM h0 g) := by
  unfold f_X8_mixStep q_ms
  refine O_for 4 (fun i y => y.1 = q_fx (fun j x => q_31 x (sp_step S t (nI j)).1.toInt64) i x ∧ y.2.1 = nI i ∧ CI S y.2.2 ∧ q_aM h0 y.2.2) (by omega) ⟨by rw [q_fx_0], rfl, K, am⟩ ?_ ?_
  · rintro rec i ⟨y, z, g⟩ hi ⟨ey, ez, K, am⟩ hrec
    dsimp only at ey ez K am ⊢
    subst ez
    rw [if_neg (nI_ge hi (by decide))]
    refine O_q (k_step S g K _ _) (y_step _ _ _) am (fun g K am => ?_)
    exact hrec _ ⟨by dsimp only; rw [q_fx_s, ← ey]; rfl, nI_add _ _, K, am⟩
  · rintro rec ⟨y, z, g⟩ ⟨ey, ez, K, am⟩
    dsimp only at ey ez K am ⊢
    subst ez
    rw [if_pos (nI_le (Nat.le_refl 4) (by decide)), ← ey]
    refine O_q (k_may S g K _ _) (y_may _ _ _) am (fun g K am => ?_)
    refine O_q (k_evening S g K _ _ _) (y_evening _ _ _ _) am (fun g K am => ?_)
    refine O_q (k_evening S g K _ _ _) (y_evening _ _ _ _) am (fun g K am => ?_)
    exact O_ret ⟨rfl, K, am⟩
theorem ldT_at {β : Type} {i : Nat} {F : Int32 → Option β} (hi : i < 5) : ph_ldT (nI i) F = F (ph_dg i) := by
  unfold ph_ldT
  rw [if_pos (by rw [nI_toInt (by omega)]; omega), nI_clamp (by omega)]
theorem k_digest (S : q_S) (h : ph_Hp) (K : CI S h) : ph_O (f_X8_digest h) (Cq h (sp_digest S).1 (sp_digest S).2) := by
  have hhn := q_hn_le K.1
  unfold f_X8_digest
  have hQ : ∀ v g, v = (sp_digest S).1 → CI S g → q_aM h g → Cq h (sp_digest S).1 (sp_digest S).2 v g := fun v g a b c => ⟨a, b, c⟩
  revert hQ
  generalize Cq h (sp_digest S).1 (sp_digest S).2 = Q
  intro hQ
  refine O_for 8 (fun i y => y.1 = q_fx (fun i x => q_31 x (sp_count S (nI i)).1.toInt64) i (lN 17) ∧ y.2.1 = nI i ∧ CI S y.2.2 ∧ q_aM h y.2.2) (by omega) ⟨by rw [q_fx_0], rfl, K, q_aM_rf h⟩ ?_ ?_
  · rintro rec i ⟨y, z, g⟩ hi ⟨ey, ez, K, am⟩ hrec
    dsimp only at ey ez K am ⊢
    subst ez
    rw [if_neg (nI_ge hi (by decide))]
    refine O_q (k_count S g K _) rfl am (fun g K am => ?_)
    exact hrec _ ⟨by dsimp only; rw [q_fx_s, ← ey]; rfl, nI_add _ _, K, am⟩
  rintro rec ⟨y, z, g⟩ ⟨ey, ez, K, am⟩
  dsimp only at ey ez K am ⊢
  subst ez
  rw [if_pos (nI_le (Nat.le_refl 8) (by decide))]
  refine O_q (k_fault S g K _) (y_fault _ _) am (fun g K am => ?_)
  refine O_q (k_fault S g K _) (y_fault _ _) am (fun g K am => ?_)
  have e1 : (lN 31) * (((lN 31) * y) + (sp_fault S (nI 0)).1.toInt64) + (sp_fault S (nI 1)).1.toInt64 = q_d1' S := by rw [ey]; rfl
  rw [e1]
  refine O_for 8 (fun i y => y.1 = q_fx (fun l x => q_ml S l x) i (q_d1' S) ∧ y.2.1 = nI i ∧ CI S y.2.2 ∧ q_aM h y.2.2) (by omega) ⟨by rw [q_fx_0], rfl, K, am⟩ ?_ ?_
  · rintro rec i ⟨y, z, g⟩ hi ⟨ey, ez, K, am⟩ hrec
    dsimp only at ey ez K am ⊢
    subst ez
    rw [if_neg (nI_ge hi (by decide))]
    refine O_cl (s_mixLine K am y i) ?_
    rintro v g ⟨rfl, K, am⟩
    exact hrec _ ⟨by dsimp only; rw [q_fx_s, ← ey], nI_add _ _, K, am⟩
  clear ey e1
  rintro rec ⟨y, z, g⟩ ⟨ey, ez, K, am⟩
  dsimp only at ey ez K am ⊢
  subst ez
  rw [if_pos (nI_le (Nat.le_refl 8) (by decide))]
  refine O_q (k_count S g K _) rfl am (fun g K am => ?_)
  rw [show (sp_count S (nI 1)).1 = nI (q_hn S) from rfl]
  refine O_for (q_hn S) (fun i y => y.1 = q_fx (fun k x => q_mh S k x) i (q_d2 S) ∧ y.2.1 = nI i ∧ CI S y.2.2 ∧ q_aM h y.2.2) (by omega) ⟨by rw [q_fx_0]; exact ey, rfl, K, am⟩ ?_ ?_
  · rintro rec i ⟨y, z, g⟩ hi ⟨ey, ez, K, am⟩ hrec
    dsimp only at ey ez K am ⊢
    subst ez
    rw [if_neg (nI_ge hi (by omega))]
    refine O_cl (s_mixHole K am y i) ?_
    rintro v g ⟨rfl, K, am⟩
    exact hrec _ ⟨by dsimp only; rw [q_fx_s, ← ey], nI_add _ _, K, am⟩
  clear ey
  rintro rec ⟨y, z, g⟩ ⟨ey, ez, K, am⟩
  dsimp only at ey ez K am ⊢
  subst ez
  rw [if_pos (nI_le (Nat.le_refl _) (by omega))]
  refine O_for 5 (fun i y => y.1 = q_fx (fun i x => q_ms S (ph_dg i) x) i (q_d3 S) ∧ y.2.1 = nI i ∧ CI S y.2.2 ∧ q_aM h y.2.2) (by omega) ⟨by rw [q_fx_0]; exact ey, rfl, K, am⟩ ?_ ?_
  · rintro rec i ⟨y, z, g⟩ hi ⟨ey, ez, K, am⟩ hrec
    dsimp only at ey ez K am ⊢
    subst ez
    rw [if_neg (nI_ge hi (by omega)), ldT_at hi]
    refine O_cl (s_mixStep K am y (ph_dg i)) ?_
    rintro v g ⟨rfl, K, am⟩
    exact hrec _ ⟨by dsimp only; rw [q_fx_s, ← ey], nI_add _ _, K, am⟩
  clear ey
  rintro rec ⟨y, z, g⟩ ⟨ey, ez, K, am⟩
  dsimp only at ey ez K am ⊢
  subst ez
  rw [if_pos (nI_le (Nat.le_refl _) (by omega))]
  refine O_q (k_drift S g K _) (y_drift _ _) am (fun g K am => ?_)
  refine O_q (k_drift S g K _) (y_drift _ _) am (fun g K am => ?_)
  refine O_q (k_round S g K) rfl am (fun g K am => ?_)
  refine O_q (k_filed S g K) rfl am (fun g K am => ?_)
  exact O_ret (hQ _ _ (by rw [ey]; rfl) K am)
