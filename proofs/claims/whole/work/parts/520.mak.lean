-- ask of the reference
def q_ix (S : q_S) (x : Nat) : Nat := if q_pl S = 0 then 0 else x + 1
theorem q_ix_at (S : q_S) (u x : Nat) : nI 9 * nI u + q_lv S x + nI 1 = nI (9 * u + q_ix S x) := by
  unfold q_ix q_lv
  rw [pk_mul]
  by_cases c : q_pl S = 0
  · rw [if_pos c, if_pos c, n_am1]
    exact Int32.sub_add_cancel _ _
  · rw [if_neg c, if_neg c, nI_add, nI_add, Nat.add_assoc]
theorem q_ix_lt (S : q_S) {x : Nat} (h : q_pl S ≠ 0 → x < 8) : q_ix S x < 9 := by
  unfold q_ix
  by_cases c : q_pl S = 0
  · rw [if_pos c]; decide
  · rw [if_neg c]
    have := h c
    omega
def q_tq (S : q_S) (k u l t : Nat) : Bool := q_ak S k t && decide (q_ix S (q_P S none (q_cu S t (ph_shl (nI 1) (nI k))) u) = l)
def q_t9 (S : q_S) (k n u l : Nat) : Nat := q_nb (q_tq S k u l) n
def q_g9 (S : q_S) (k u : Nat) : Nat := q_mx (q_t9 S k 31 u) 9
theorem q_g9_le (S : q_S) (k u : Nat) : q_g9 S k u ≤ 31 := q_mx_le (fun l => q_nb_le _ 31) 9
theorem q_am_const {G : Nat → Nat} {c : Nat} (h : ∀ u, G u = c) : ∀ n, q_am G n = 0
  | 0 => rfl
  | n + 1 => by
    unfold q_am
    rw [h, h, if_neg (Nat.lt_irrefl c)]
    exact q_am_const h n
theorem q_mx_s (f : Nat → Nat) (n : Nat) : q_mx f (n + 1) = if q_mx f n < f n then f n else q_mx f n := rfl
theorem q_mx_sh {f : Nat → Nat} (h0 : f 0 = 0) : ∀ n, q_mx f (n + 1) = q_mx (fun k => f (k + 1)) n
  | 0 => by rw [q_mx_s, h0]; rfl
  | n + 1 => by rw [q_mx_s, q_mx_sh h0 n, q_mx_s]
theorem q_g9_am (S : q_S) (k : Nat) : q_am (q_g9 S k) 39 = q_am (q_gt S k) 39 := by
  by_cases cp : q_pl S = 0
  · have h1 : ∀ u, q_g9 S k u = q_g9 S k 0 := by
      intro u
      have hx : ∀ x, q_ix S x = 0 := fun x => if_pos cp
      unfold q_g9 q_t9
      have : ∀ l, q_tq S k u l = q_tq S k 0 l := by
        intro l
        funext t
        unfold q_tq
        rw [hx, hx]
      simp only [this]
    have h2 : ∀ u, q_gt S k u = q_gt S k 0 := by
      intro u
      unfold q_gt q_tl
      have : ∀ l, q_tp S k u l = q_tp S k 0 l := by
        intro l
        funext t
        unfold q_tp
        simp [cp]
      simp only [this]
    rw [q_am_const h1, q_am_const h2]
  · have : q_g9 S k = q_gt S k := by
      funext u
      unfold q_g9 q_gt
      have hx : ∀ x, q_ix S x = x + 1 := fun x => if_neg cp
      have h0 : q_t9 S k 31 u 0 = 0 := q_nb_0.mpr (fun t _ => by unfold q_tq; rw [hx]; simp)
      rw [q_mx_sh h0 8]
      congr 1
      funext l
      refine q_nb_cong 31 (fun t _ => ?_)
      unfold q_tq q_tp
      rw [hx]
      simp [cp]
    rw [this]
theorem m_redo2 {S : q_S} (w : q_wf S) {h : ph_Hp} (K : MI S h) (P : MP S (q_cg S) h) : ph_O (f_X9_lives (nI 0) (nI 39) h) (fun _ g => MF S g ∧ q_ag [65, 66] h g) := by
  refine O_mono (m_lives w (MI_V K P) (fun k e => by cases e) (T := 39) (by decide) (fun t ht => n_ne1 (by omega))) ?_
  rintro _ g2 ⟨r1, r2, r3⟩
  have V2 := MV_ag (MI_V K P) r3
  exact ⟨⟨V2.1, fun t ht => r1 t (by omega), MI_mA K (mA_ag r3 (by decide))⟩, r3⟩
theorem m_askOf {S : q_S} (w : q_wf S) {h : ph_Hp} (F : MF S h) {k : Nat} (hk : k < q_hn S) : ph_O (f_X9_askOf (nI k) h) (fun v g => v = q_sk S k ∧ MF S g ∧ mA h g) := by
  have hhn := q_hn_le w
  unfold f_X9_askOf
  refine O_cl (m_coughedOf w F hk) ?_
  rintro v h1 ⟨rfl, ⟨P, L, K⟩, a1⟩
  have keep : ∀ (g : ph_Hp) (c : Nat → Int32), q_ag [63, 65, 66, 68] h1 g → (∀ t, t < 40 → g.1 63 t = c t) → MI S g ∧ MP S c g := by
    intro g c ag e
    refine ⟨MI_mA K (mA_ag ag (by decide)), ⟨⟨by rw [(ag 51 (by decide)).1]; exact P.1.1, by rw [(ag 58 (by decide)).1]; exact P.1.2⟩, ⟨by rw [(ag 51 (by decide)).1]; exact P.2.1.1, by rw [(ag 59 (by decide)).1]; exact P.2.1.2⟩, fun t ht => ⟨e t ht, by rw [(ag 64 (by decide)).1]; exact (P.2.2 t ht).2⟩⟩⟩
  refine O_for 360 (fun i y => y.1 = nI i ∧ (∀ m, m < i → y.2.1 68 m = nI 0) ∧ q_ag [63, 65, 66, 68] h1 y.2 ∧ ∀ t, t < 40 → y.2.1 63 t = q_cg S t) (by omega) ⟨rfl, fun m hm => absurd hm (Nat.not_lt_zero m), q_ag_rf _ h1, fun t ht => (P.2.2 t ht).1⟩ ?_ ?_
  · rintro rec i ⟨y, g⟩ hi ⟨ey, e1, e2, e3⟩ hrec
    dsimp only at ey e1 e2 e3 ⊢
    subst ey
    rw [if_neg (nI_ge hi (by decide)), stI_at hi (by decide)]
    refine hrec _ ⟨nI_add _ _, fun m hm => ?_, q_ag_sI e2 (by decide), fun t ht => by dsimp only; rw [sI_ne _ _ _ (by decide)]; exact e3 t ht⟩
    dsimp only
    rw [sI_eq]
    by_cases q : m = i
    · rw [if_pos q]
    · rw [if_neg q]; exact e1 m (by omega)
  rintro rec0 ⟨y, g⟩ ⟨ey, e1, e2, e3⟩
  dsimp only at ey e1 e2 e3 ⊢
  subst ey
  rw [if_pos (nI_le (Nat.le_refl _) (by decide))]
  refine O_for 31 (fun i y => y.1 = nI i ∧ (∀ u, u < 40 → ∀ l, l < 9 → y.2.1 68 (9 * u + l) = nI (q_t9 S k i u l)) ∧ q_ag [63, 65, 66, 68] h1 y.2 ∧ ∀ t, t < 40 → y.2.1 63 t = q_cg S t) (by omega) ⟨rfl, fun u hu l hl => e1 _ (by omega), e2, e3⟩ ?_ ?_
  · rintro rec i ⟨y, g2⟩ hi ⟨ey, f1, f2, f3⟩ hrec
    dsimp only at ey f1 f2 f3 ⊢
    subst ey
    have hi40 : i < 40 := by omega
    have etb : q_tb (q_co S k) i = q_ak S k i := by
      unfold q_co
      rw [q_tb_qor _ (by omega) 31 (by decide)]
      simp [hi]
    rw [if_neg (nI_ge hi (by decide)), m_isIn, cl_some, jn_at, etb]
    by_cases c : q_ak S k i = true
    · rw [if_pos c, if_neg (by decide), ldI_at hi40 (by decide), ldI_at hi40 (by decide), stI_at hi40 (by decide), f3 i hi40]
      have f4 : q_ag [63, 65, 66, 68] h1 (ph_sI g2 63 i (q_cg S i ||| ph_shl (nI 1) (nI k))) := q_ag_sI f2 (by decide)
      have KP := keep _ (q_cu S i (ph_shl (nI 1) (nI k))) f4 (fun t ht => by
        rw [sI_eq]
        unfold q_cu
        by_cases q : t = i
        · rw [if_pos q, if_pos q, q]
        · rw [if_neg q, if_neg q]; exact f3 t ht)
      refine O_cl (m_lives w (MI_V KP.1 KP.2) (fun k e => by cases e) (T := 39) (by decide) (fun t ht => n_ne1 (by omega))) ?_
      rintro _ g3 ⟨r1, r2, r3⟩
      have r4 : q_ag [63, 65, 66, 68] h1 (ph_sI g3 63 i (q_cg S i)) := q_ag_sI (q_ag_tr f4 (q_ag_sub r3 (by decide))) (by decide)
      have r5 : ∀ t, t < 40 → (ph_sI g3 63 i (q_cg S i)).1 63 t = q_cg S t := fun t ht => by
        rw [sI_eq]
        by_cases q : t = i
        · rw [if_pos q, q]
        · rw [if_neg q, (r3 63 (by decide)).1, sI_eq, if_neg q]; exact f3 t ht
      rw [stI_at hi40 (by decide)]
      refine O_for 40 (fun m y => y.1 = nI m ∧ (∀ u, u < m → ∀ l, l < 9 → y.2.1 68 (9 * u + l) = nI (q_t9 S k (i + 1) u l)) ∧ (∀ u, m ≤ u → u < 40 → ∀ l, l < 9 → y.2.1 68 (9 * u + l) = nI (q_t9 S k i u l)) ∧ q_ag [68] (ph_sI g3 63 i (q_cg S i)) y.2) (by omega) ⟨rfl, fun u hu => absurd hu (Nat.not_lt_zero u), fun u _ hu l hl => ?_, q_ag_rf _ _⟩ ?_ ?_
      · dsimp only
        rw [sI_ne _ _ _ (by decide), (r3 68 (by decide)).1, sI_ne _ _ _ (by decide)]; exact f1 u hu l hl
      · rintro rec2 m ⟨y, g4⟩ hm ⟨ey, s1, s2, s3⟩ hrec2
        dsimp only at ey s1 s2 s3 ⊢
        subst ey
        have hix : q_ix S (q_P S none (q_cu S i (ph_shl (nI 1) (nI k))) m) < 9 := q_ix_lt S (fun cp => q_P_lt cp _ _ _)
        have e65 : g4.1 65 m = q_lv S (q_P S none (q_cu S i (ph_shl (nI 1) (nI k))) m) := by
          rw [(s3 65 (by decide)).1, sI_ne _ _ _ (by decide)]; exact (r1 m (by omega)).1
        rw [if_neg (nI_ge hm (by decide)), ldI_at hm (by decide), e65, q_ix_at, ldI_at (by omega) (by decide), s2 m (Nat.le_refl m) hm _ hix, stI_at (by omega) (by decide)]
        refine hrec2 _ ⟨nI_add _ _, fun u hu l hl => ?_, fun u h1 h2 l hl => ?_, q_ag_sI s3 (by decide)⟩
        · dsimp only
          rw [sI_eq]
          by_cases q : u = m
          · subst q
            have e9 : q_t9 S k (i + 1) u l = q_t9 S k i u l + (if q_tq S k u l i then 1 else 0) := rfl
            by_cases ql : l = q_ix S (q_P S none (q_cu S i (ph_shl (nI 1) (nI k))) u)
            · subst ql
              rw [if_pos rfl, nI_add, e9, if_pos (by unfold q_tq; simp [c])]
            · rw [if_neg (by omega), e9, if_neg (by unfold q_tq; simp [c]; exact fun z => ql z.symm), Nat.add_zero]
              exact s2 u (Nat.le_refl u) hm l hl
          · rw [if_neg (by omega)]; exact s1 u (by omega) l hl
        · dsimp only
          rw [sI_eq, if_neg (by omega)]; exact s2 u (by omega) h2 l hl
      · rintro rec2 ⟨y, g4⟩ ⟨ey, s1, s2, s3⟩
        dsimp only at ey s1 s2 s3 ⊢
        subst ey
        rw [if_pos (nI_le (Nat.le_refl _) (by decide))]
        refine hrec _ ⟨nI_add _ _, s1, q_ag_tr r4 (q_ag_sub s3 (by decide)), fun t ht => ?_⟩
        dsimp only
        rw [(s3 63 (by decide)).1]; exact r5 t ht
    · rw [if_neg c, if_pos rfl]
      refine hrec _ ⟨nI_add _ _, fun u hu l hl => ?_, f2, f3⟩
      dsimp only
      rw [f1 u hu l hl]
      show nI (q_nb (q_tq S k u l) i) = nI (q_nb (q_tq S k u l) i + if q_tq S k u l i then 1 else 0)
      rw [if_neg (by unfold q_tq; simp [c]), Nat.add_zero]
  · rintro rec ⟨y, g2⟩ ⟨ey, f1, f2, f3⟩
    dsimp only at ey f1 f2 f3 ⊢
    subst ey
    have KP := keep _ _ f2 f3
    rw [if_pos (nI_le (Nat.le_refl _) (by decide))]
    refine O_cl (m_redo2 w KP.1 KP.2) ?_
    rintro _ g3 ⟨F3, a3⟩
    have f5 : ∀ u, u < 40 → ∀ l, l < 9 → g3.1 68 (9 * u + l) = nI (q_t9 S k 31 u l) := fun u hu l hl => by rw [(a3 68 (by decide)).1]; exact f1 u hu l hl
    refine O_of (v := q_sk S k) (h := g3) ?_ ⟨rfl, F3, mA_tr a1 (mA_tr (mA_ag f2 (by decide)) (mA_ag a3 (by decide)))⟩
    refine lp_for (fun i => (nI (q_am (q_g9 S k) (i - 1)), if i = 0 then (-1) else nI (q_g9 S k (q_am (q_g9 S k) (i - 1))), nI i)) 40 (by omega) rfl ?_ ?_
    · intro rec i hi
      dsimp only
      rw [if_neg (nI_ge hi (by decide))]
      refine lp_for (fun l => (nI (q_mx (q_t9 S k 31 i) l), nI l)) 9 (by omega) rfl ?_ ?_
      · intro rec2 l hl
        have b1 : q_t9 S k 31 i l ≤ 31 := q_nb_le _ 31
        have b2 : q_mx (q_t9 S k 31 i) l ≤ 31 := q_mx_le (fun l => q_nb_le _ 31) l
        dsimp only
        rw [if_neg (nI_ge hl (by decide)), pk_mul, nI_add (9 * i) l, ldI_at (by omega) (by decide), f5 i hi l hl, jn_at, q_mx_s]
        by_cases c : q_mx (q_t9 S k 31 i) l < q_t9 S k 31 i l
        · rw [if_neg (nI_ge c (by omega)), ldI_at (by omega) (by decide), f5 i hi l hl, if_pos c, nI_add]
        · rw [if_pos (nI_le (by omega) (by omega)), if_neg c, nI_add]
      · intro rec2
        have b1 := q_g9_le S k i
        have b2 := q_g9_le S k (q_am (q_g9 S k) (i - 1))
        dsimp only
        rw [if_pos (nI_le (Nat.le_refl _) (by decide)), jn_at, jn_at, show q_mx (q_t9 S k 31 i) 9 = q_g9 S k i from rfl]
        by_cases c0 : i = 0
        · rw [if_pos c0, if_pos rfl]
          dsimp only
          rw [jn_at, if_neg (by decide)]
          dsimp only
          rw [jn_at, if_neg (by decide), if_neg (Nat.succ_ne_zero i), nI_add]
          subst c0
          rfl
        · obtain ⟨m, rfl⟩ : ∃ m, i = m + 1 := ⟨i - 1, by omega⟩
          rw [show m + 1 - 1 = m from rfl] at b2 ⊢
          rw [if_neg c0, if_neg (n_ne1 (by omega)), if_neg (Nat.succ_ne_zero (m + 1)), show m + 1 + 1 - 1 = m + 1 from rfl]
          by_cases c : q_g9 S k (m + 1) < q_g9 S k (q_am (q_g9 S k) m)
          · rw [if_neg (nI_ge c (by omega)), show q_am (q_g9 S k) (m + 1) = m + 1 from if_pos c]
            dsimp only
            rw [jn_at, if_neg (by decide)]
            dsimp only
            rw [jn_at, if_neg (by decide), nI_add]
          · rw [if_pos (nI_le (by omega) (by omega)), show q_am (q_g9 S k) (m + 1) = q_am (q_g9 S k) m from if_neg c]
            dsimp only
            rw [jn_at, if_pos rfl]
            dsimp only
            rw [jn_at, if_pos rfl, nI_add]
    · intro rec
      dsimp only
      rw [if_pos (nI_le (Nat.le_refl _) (by decide))]
      show some (nI (q_am (q_g9 S k) 39), g3) = some (nI (q_am (q_gt S k) 39), g3)
      rw [q_g9_am]
theorem m_ask (S : q_S) (w : q_wf S) (h : ph_Hp) (K : MI S h) (x1 : Int32) : ph_O (f_X9_ask x1 h) (Mq h (sp_ask S x1).1 (sp_ask S x1).2) := by
  have hhn := q_hn_le w
  unfold f_X9_ask sp_ask
  refine O_cl (m_find w K) ?_
  rintro _ g ⟨F, a1⟩
  rcases q_ins x1 (q_hn S) (by omega) with ⟨e1, b1⟩ | ⟨k, hk, rfl, e1⟩
  · rw [m_hol_o (by omega) F.1.2.1.1 b1, cl_some, e1, if_pos rfl]
    exact O_ret ⟨rfl, F.2.2, mA_C a1⟩
  rw [m_hol_i (by omega) F.1.2.1.1 hk, cl_some, e1, if_neg (by decide)]
  refine O_cl (m_askOf w F hk) ?_
  rintro v g2 ⟨rfl, F2, a2⟩
  dsimp only
  exact O_ret ⟨rfl, F2.2.2, mA_C (mA_tr a1 a2)⟩
