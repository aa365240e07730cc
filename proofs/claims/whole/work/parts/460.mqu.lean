-- plain questions to the reference
theorem m_fault (S : q_S) (w : q_wf S) (h : ph_Hp) (K : MI S h) (x1 : Int32) : ph_O (f_X9_fault x1 h) (Mq h (sp_fault S x1).1 (sp_fault S x1).2) := by
  unfold f_X9_fault sp_fault
  rcases q_ins x1 2 (by decide) with ⟨e1, b1⟩ | ⟨t, ht, rfl, e1⟩
  · rw [m_two_o b1, cl_some, e1, if_pos rfl]
    exact O_ret ⟨rfl, K, q_aC_rf h⟩
  rw [m_two_i ht, cl_some, e1, if_neg (by decide)]
  dsimp only
  by_cases c : t = 0
  · rw [if_pos (by rw [c]), if_pos c]
    refine cl_id (O_mono (m_rplay w K) ?_)
    rintro v g ⟨r0, r1, r2, r3⟩
    have a1 : mA h g := ⟨fun i hi => r2 i (by simp at hi; simp; omega), fun k hk => r3 k (by simp at hk; omega)⟩
    exact ⟨r0, MI_mA K a1, mA_C a1⟩
  · rw [if_neg (by rw [nI_eq (by omega) (by decide)]; exact c), if_neg c]
    refine cl_id (O_mono (m_rholes w K) ?_)
    rintro v g ⟨r0, r1, r2, r3⟩
    have a1 : mA h g := ⟨fun i hi => r2 i (by simp at hi; simp; omega), fun k hk => r3 k (by simp at hk; omega)⟩
    exact ⟨r0, MI_mA K a1, mA_C a1⟩
theorem m_line (S : q_S) (w : q_wf S) (h : ph_Hp) (K : MI S h) (x1 : Int32) : ph_O (f_X9_line x1 h) (Mq h (sp_line S x1).1 (sp_line S x1).2) := by
  have hle := q_pl_le w
  unfold f_X9_line sp_line
  refine O_cl (m_reads w K) ?_
  rintro _ g ⟨r1, r2, K1, a1⟩
  rcases q_ins x1 24 (by decide) with ⟨e1, b1⟩ | ⟨k, hk, rfl, e1⟩
  · rw [m_wo (by decide) b1, cl_some, e1, if_pos rfl]
    exact O_ret ⟨rfl, K1, mA_C a1⟩
  rw [m_wi hk (by decide), cl_some, e1, if_neg (by decide), r1.1]
  dsimp only
  by_cases c : k < q_pl S
  · rw [if_neg (nI_ge c (by omega)), ldI_at hk (by decide), r1.2 k c, if_pos c]
    exact O_ret ⟨rfl, K1, mA_C a1⟩
  · rw [if_pos (nI_le (by omega) (by omega)), if_neg c]
    exact O_ret ⟨rfl, K1, mA_C a1⟩
theorem m_hole (S : q_S) (w : q_wf S) (h : ph_Hp) (K : MI S h) (x1 x2 : Int32) : ph_O (f_X9_hole x1 x2 h) (Mq h (sp_hole S x1 x2).1 (sp_hole S x1 x2).2) := by
  have hhn := q_hn_le w
  unfold f_X9_hole sp_hole
  refine O_cl (m_reads w K) ?_
  rintro _ g ⟨r1, r2, K1, a1⟩
  rcases q_ins x1 (q_hn S) (by omega) with ⟨e1, b1⟩ | ⟨k, hk, rfl, e1⟩
  · rw [m_hol_o (by omega) r2.1 b1, cl_some, e1, if_pos rfl]
    exact O_ret ⟨rfl, K1, mA_C a1⟩
  rw [m_hol_i (by omega) r2.1 hk, cl_some, e1, if_neg (by decide)]
  rcases q_ins x2 4 (by decide) with ⟨e2, b2⟩ | ⟨j, hj, rfl, e2⟩
  · rw [m_wo (by decide) b2, cl_some, e2, if_pos rfl]
    exact O_ret ⟨rfl, K1, mA_C a1⟩
  obtain ⟨u1, u2, u3, u4⟩ := r2.2 k hk
  rw [m_wi hj (by decide), cl_some, e2, if_neg (by decide), pk_mul, nI_add, ldI_at (by omega) (by decide)]
  dsimp only
  rcases (show j = 0 ∨ j = 1 ∨ j = 2 ∨ j = 3 by omega) with rfl | rfl | rfl | rfl
  · exact O_ret ⟨u1, K1, mA_C a1⟩
  · exact O_ret ⟨u2, K1, mA_C a1⟩
  · exact O_ret ⟨u3, K1, mA_C a1⟩
  · exact O_ret ⟨u4, K1, mA_C a1⟩
theorem m_printed (S : q_S) (w : q_wf S) (h : ph_Hp) (K : MI S h) (x1 x2 : Int32) : ph_O (f_X9_printed x1 x2 h) (Mq h (sp_printed S x1 x2).1 (sp_printed S x1 x2).2) := by
  unfold f_X9_printed sp_printed
  refine O_cl (m_reads w K) ?_
  rintro _ g ⟨r1, r2, K1, a1⟩
  rcases q_ins x1 8 (by decide) with ⟨e1, b1⟩ | ⟨l, hl, rfl, e1⟩
  · rw [m_lin_o b1, cl_some, e1, if_pos rfl]
    exact O_ret ⟨rfl, K1, mA_C a1⟩
  rw [m_lin_i hl, cl_some, e1, if_neg (by decide)]
  rcases q_ins x2 2 (by decide) with ⟨e2, b2⟩ | ⟨j, hj, rfl, e2⟩
  · rw [m_two_o b2, cl_some, e2, if_pos rfl]
    exact O_ret ⟨rfl, K1, mA_C a1⟩
  rw [m_two_i hj, cl_some, e2, if_neg (by decide), jn_at]
  dsimp only
  by_cases c : j = 0
  · rw [if_pos (by rw [c]), if_pos c, m_nx w r1 (by omega), cl_some]
    exact O_ret ⟨rfl, K1, mA_C a1⟩
  · rw [if_neg (by rw [nI_eq (by omega) (by decide)]; exact c), if_neg c, m_ah w r1 (by omega), cl_some]
    exact O_ret ⟨rfl, K1, mA_C a1⟩
theorem m_pin {S : q_S} (w : q_wf S) {h : ph_Hp} (R : MRp S h) {t : Nat} (ht : t < 40) : f_X9_printedIn (nI t) h = some (q_lv S (q_pr S t), h) := by
  have hle := q_pl_le w
  unfold f_X9_printedIn
  rw [R.1]
  by_cases c : q_pl S = 0
  · rw [if_pos (by rw [c]), q_lv_0 c]
  · have h4 : t % q_pl S < q_pl S := Nat.mod_lt _ (by omega)
    rw [if_neg (by rw [nI_eq (by omega) (by decide)]; exact c), rmI_at (by omega) (by omega) (by omega), ldI_at (by omega) (by decide), R.2 _ h4, q_lv_1 c]
    rfl
def q_so (S : q_S) (t j : Nat) : Int32 := if j = 0 then q_lv S (q_p S t) else if j = 1 then q_bv (q_by S none t) else if j = 2 then nI (q_wh S t) else q_lv S (q_pr S t)
theorem m_stepOf {S : q_S} (w : q_wf S) {h : ph_Hp} (F : MF S h) {t j : Nat} (ht : t < 40) (hj : j < 4) : f_X9_stepOf (nI t) (nI j) h = some (q_so S t j, h) := by
  unfold f_X9_stepOf q_so
  rcases (show j = 0 ∨ j = 1 ∨ j = 2 ∨ j = 3 by omega) with rfl | rfl | rfl | rfl
  · rw [if_pos rfl, ldI_at ht (by decide), (F.2.1 t ht).1]; rfl
  · rw [if_neg (by decide), if_pos rfl, ldI_at ht (by decide), (F.2.1 t ht).2]; rfl
  · rw [if_neg (by decide), if_neg (by decide), if_pos rfl, ldI_at ht (by decide), (F.1.2.2 t ht).2]; rfl
  · rw [if_neg (by decide), if_neg (by decide), if_neg (by decide), m_pin w F.1.1 ht, cl_some]; rfl
theorem m_step (S : q_S) (w : q_wf S) (h : ph_Hp) (K : MI S h) (x1 x2 : Int32) : ph_O (f_X9_step x1 x2 h) (Mq h (sp_step S x1 x2).1 (sp_step S x1 x2).2) := by
  unfold f_X9_step sp_step
  refine O_cl (m_find w K) ?_
  rintro _ g ⟨F, a1⟩
  rcases q_ins x1 40 (by decide) with ⟨e1, b1⟩ | ⟨t, ht, rfl, e1⟩
  · rw [m_ste_o b1, cl_some, e1, if_pos rfl]
    exact O_ret ⟨rfl, F.2.2, mA_C a1⟩
  rw [m_ste_i ht, cl_some, e1, if_neg (by decide)]
  rcases q_ins x2 4 (by decide) with ⟨e2, b2⟩ | ⟨j, hj, rfl, e2⟩
  · rw [m_wo (by decide) b2, cl_some, e2, if_pos rfl]
    exact O_ret ⟨rfl, F.2.2, mA_C a1⟩
  rw [m_wi hj (by decide), cl_some, e2, if_neg (by decide), m_stepOf w F ht hj, cl_some]
  exact O_ret ⟨rfl, F.2.2, mA_C a1⟩
theorem m_wnow {S : q_S} (w : q_wf S) {h : ph_Hp} (F : MF S h) {t k : Nat} (ht : t < 40) (hk : k < q_hn S) : f_X9_whispersNow (nI t) (nI k) h = some (q_ws S t k, h) := by
  rw [m_whn w (MI_V F.2.2 F.1) (fun k e => by cases e) ht hk (p := q_p S (t - 1)) (fun hp => q_P_lt hp _ _ _) (fun _ => (F.2.1 (t - 1) (by omega)).1)]
  rfl
theorem m_whispers (S : q_S) (w : q_wf S) (h : ph_Hp) (K : MI S h) (x1 x2 : Int32) : ph_O (f_X9_whispers x1 x2 h) (Mq h (sp_whispers S x1 x2).1 (sp_whispers S x1 x2).2) := by
  have hhn := q_hn_le w
  unfold f_X9_whispers sp_whispers
  refine O_cl (m_find w K) ?_
  rintro _ g ⟨F, a1⟩
  rcases q_ins x1 40 (by decide) with ⟨e1, b1⟩ | ⟨t, ht, rfl, e1⟩
  · rw [m_ste_o b1, cl_some, e1, if_pos rfl]
    exact O_ret ⟨rfl, F.2.2, mA_C a1⟩
  rw [m_ste_i ht, cl_some, e1, if_neg (by decide)]
  rcases q_ins x2 (q_hn S) (by omega) with ⟨e2, b2⟩ | ⟨k, hk, rfl, e2⟩
  · rw [m_hol_o (by omega) F.1.2.1.1 b2, cl_some, e2, if_pos rfl]
    exact O_ret ⟨rfl, F.2.2, mA_C a1⟩
  rw [m_hol_i (by omega) F.1.2.1.1 hk, cl_some, e2, if_neg (by decide), m_wnow w F ht hk, cl_some]
  exact O_ret ⟨rfl, F.2.2, mA_C a1⟩
theorem m_count (S : q_S) (w : q_wf S) (h : ph_Hp) (K : MI S h) (x1 : Int32) : ph_O (f_X9_count x1 h) (Mq h (sp_count S x1).1 (sp_count S x1).2) := by
  unfold f_X9_count sp_count q_ko
  refine O_cl (m_reads w K) ?_
  rintro _ g ⟨r1, r2, K1, am⟩
  obtain ⟨⟨a1, a2⟩, ⟨b1, b2⟩, ⟨c1, c2, c3⟩, ⟨d1, d2, d3⟩, ⟨f1, f2⟩, ⟨g1, g2, g3⟩, h1, i1, j1, k1⟩ := id K1
  rw [jn_at]
  by_cases c : x1 = nI 0
  · rw [if_pos c, if_pos c]; exact O_ret ⟨r1.1, K1, mA_C am⟩
  rw [if_neg c, if_neg c]; clear c
  by_cases c : x1 = nI 1
  · rw [if_pos c, if_pos c]; exact O_ret ⟨r2.1, K1, mA_C am⟩
  rw [if_neg c, if_neg c]; clear c
  by_cases c : x1 = nI 2
  · rw [if_pos c, if_pos c, c, pk_sub (by decide), ldI_at (by decide) (by decide)]; exact O_ret ⟨a1, K1, mA_C am⟩
  rw [if_neg c, if_neg c]; clear c
  by_cases c : x1 = nI 3
  · rw [if_pos c, if_pos c, c, pk_sub (by decide), ldI_at (by decide) (by decide)]; exact O_ret ⟨b1, K1, mA_C am⟩
  rw [if_neg c, if_neg c]; clear c
  by_cases c : x1 = nI 4
  · rw [if_pos c, if_pos c]; exact O_ret ⟨c1, K1, mA_C am⟩
  rw [if_neg c, if_neg c]; clear c
  by_cases c : x1 = nI 5
  · rw [if_pos c, if_pos c]; exact O_ret ⟨d1, K1, mA_C am⟩
  rw [if_neg c, if_neg c]; clear c
  by_cases c : x1 = nI 6
  · rw [if_pos c, if_pos c]; exact O_ret ⟨f1, K1, mA_C am⟩
  rw [if_neg c, if_neg c]; clear c
  by_cases c : x1 = nI 7
  · rw [if_pos c, if_pos c]; exact O_ret ⟨g1, K1, mA_C am⟩
  rw [if_neg c, if_neg c]; clear c
  by_cases c : x1 = nI 8
  · rw [if_pos c, if_pos c]; exact O_ret ⟨i1, K1, mA_C am⟩
  rw [if_neg c, if_neg c]
  exact O_ret ⟨rfl, K1, mA_C am⟩
