-- what the play shows does not depend on what was seen, on sheets, on findings
def q_E (S S2 : q_S) : Prop := (∀ j, j < 5 → S2.1 j = S.1 j) ∧ ∀ r, r < 7 → S2.2.1 r = S.2.1 r
section CONG
variable {S S2 : q_S}
theorem e_pl (E : q_E S S2) : q_pl S2 = q_pl S := by unfold q_pl q_m0; rw [E.1 0 (by decide), E.2 0 (by decide)]
theorem e_f0 (E : q_E S S2) : q_f0 S2 = q_f0 S := by unfold q_f0 q_m0; rw [E.1 0 (by decide), E.2 0 (by decide)]
theorem e_pv (E : q_E S S2) : q_pv S2 = q_pv S := by funext k; unfold q_pv; rw [E.2 0 (by decide)]
theorem e_hn (E : q_E S S2) : q_hn S2 = q_hn S := by unfold q_hn q_m1; rw [E.1 1 (by decide), E.2 1 (by decide)]
theorem e_f1 (E : q_E S S2) : q_f1 S2 = q_f1 S := by unfold q_f1 q_m1; rw [E.1 1 (by decide), E.2 1 (by decide)]
theorem e_hp (E : q_E S S2) : q_hp S2 = q_hp S := by funext k; unfold q_hp; rw [E.2 1 (by decide)]
theorem e_hr (E : q_E S S2) : q_hr S2 = q_hr S := by funext k; unfold q_hr; rw [E.2 1 (by decide)]
theorem e_hh (E : q_E S S2) : q_hh S2 = q_hh S := by funext k; unfold q_hh; rw [E.2 1 (by decide)]
theorem e_hl (E : q_E S S2) : q_hl S2 = q_hl S := by funext k; unfold q_hl; rw [E.2 1 (by decide)]
theorem e_fp (E : q_E S S2) : q_fp S2 = q_fp S := by funext l; unfold q_fp; rw [e_pl E, e_pv E]
theorem e_nx (E : q_E S S2) : q_nx S2 = q_nx S := by funext l; unfold q_nx; rw [e_pl E, e_pv E, e_fp E]
theorem e_ah (E : q_E S S2) : q_ah S2 = q_ah S := by funext l; unfold q_ah; rw [e_pl E, e_pv E, e_fp E]
theorem e_wn (E : q_E S S2) (t : Nat) : ∀ n, q_wn S2 t n = q_wn S t n
  | 0 => rfl
  | n + 1 => by unfold q_wn; rw [e_wn E t n, E.2 2 (by decide), E.2 3 (by decide)]
theorem e_wh (E : q_E S S2) : q_wh S2 = q_wh S := by funext t; unfold q_wh; rw [e_wn E, E.1 2 (by decide)]
theorem e_dn (E : q_E S S2) (t : Nat) : ∀ n, q_dn S2 t n = q_dn S t n
  | 0 => rfl
  | n + 1 => by unfold q_dn; rw [e_dn E t n, E.2 6 (by decide)]
theorem e_dk (E : q_E S S2) : q_dk S2 = q_dk S := by funext t; unfold q_dk; rw [e_dn E, E.1 4 (by decide)]
theorem e_cn (E : q_E S S2) : ∀ n, q_cn S2 n = q_cn S n
  | 0 => rfl
  | n + 1 => by funext t; unfold q_cn; rw [e_cn E n, E.2 4 (by decide), E.2 5 (by decide)]
theorem e_cg (E : q_E S S2) : q_cg S2 = q_cg S := by unfold q_cg; rw [e_cn E, E.1 3 (by decide)]
theorem e_he (E : q_E S S2) : q_he S2 = q_he S := by funext f h t; unfold q_he; rw [e_pl E, e_dk E, e_hp E, e_wh E, e_hr E]
theorem e_bn (E : q_E S S2) (f : Option Nat) (t : Nat) : ∀ n, q_bn S2 f t n = q_bn S f t n
  | 0 => rfl
  | n + 1 => by unfold q_bn; rw [e_bn E f t n, e_hp E, e_wh E, e_he E]
theorem e_by (E : q_E S S2) : q_by S2 = q_by S := by funext f t; unfold q_by; rw [e_bn E, e_hn E]
theorem e_th (E : q_E S S2) : q_th S2 = q_th S := by funext h l; unfold q_th; rw [e_hh E, e_nx E, e_ah E, e_hl E]
theorem e_wp (E : q_E S S2) : q_wp S2 = q_wp S := by funext h l c; unfold q_wp; rw [e_th E]
theorem e_fo (E : q_E S S2) : q_fo S2 = q_fo S := by funext t b l c; unfold q_fo; rw [e_dk E, e_pv E, e_nx E, e_wp E]
theorem e_P (E : q_E S S2) (f : Option Nat) (c : Nat → Int32) : ∀ t, q_P S2 f c t = q_P S f c t
  | 0 => by unfold q_P; rw [e_pv E]
  | t + 1 => by unfold q_P; rw [e_P E f c t, e_fo E, e_by E]
theorem e_lv (E : q_E S S2) : q_lv S2 = q_lv S := by funext x; unfold q_lv; rw [e_pl E]
theorem e_pr (E : q_E S S2) : q_pr S2 = q_pr S := by funext x; unfold q_pr; rw [e_pl E, e_pv E]
theorem e_St (E : q_E S S2) {h : ph_Hp} (k : q_St S h) : q_St S2 h := by
  unfold q_St q_A q_B q_T q_C q_D at *
  simp only [e_pl E, e_f0 E, e_pv E, e_hn E, e_f1 E, e_hp E, e_hr E, e_hh E, e_hl E, e_nx E, e_ah E, e_wh E, e_dk E, e_cg E, e_by E, e_th E, e_P E, e_lv E]
  exact k
end CONG
