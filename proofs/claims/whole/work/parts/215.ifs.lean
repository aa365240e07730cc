section IFS
variable {β : Sort _} {A B : β}
theorem i_lt_f {a b : Nat} (h : b ≤ a) (ha : a < 2 ^ 31) : (if nI a < nI b then A else B) = B := if_neg (nI_nlt h ha)
theorem i_lt_t {a b : Nat} (h : a < b) (hb : b < 2 ^ 31) : (if nI a < nI b then A else B) = A := if_pos (nI_lt h hb)
theorem i_le_f {a b : Nat} (h : b < a) (ha : a < 2 ^ 31) : (if nI a ≤ nI b then A else B) = B := if_neg (nI_ge h ha)
theorem i_le_t {a b : Nat} (h : a ≤ b) (hb : b < 2 ^ 31) : (if nI a ≤ nI b then A else B) = A := if_pos (nI_le h hb)
theorem i_eq_f {a b : Nat} (h : a ≠ b) (ha : a < 2 ^ 31) (hb : b < 2 ^ 31) : (if nI a = nI b then A else B) = B := if_neg (fun e => h ((nI_eq ha hb).mp e))
theorem i_eq_t {a b : Nat} (h : a = b) : (if nI a = nI b then A else B) = A := if_pos (by rw [h])
theorem i_m1_lt {a : Nat} (ha : a < 2 ^ 31) : (if (-1 : Int32) < nI a then A else B) = A := if_pos (by
  rw [Int32.lt_iff_toInt_lt, nI_toInt ha]
  have : (-1 : Int32).toInt = -1 := by decide
  omega)
theorem i_eqm_f {a : Nat} (ha : a < 2 ^ 31) : (if nI a = (-1) then A else B) = B := if_neg (n_ne1 ha)
theorem i_meq_f {a : Nat} (ha : a < 2 ^ 31) : (if (-1 : Int32) = nI a then A else B) = B := if_neg (n_ne1' ha)
theorem i_mm_t : (if (-1 : Int32) = (-1) then A else B) = A := if_pos rfl
theorem i_mle_t {a : Nat} (ha : a < 2 ^ 31) : (if (-1 : Int32) ≤ nI a then A else B) = A := if_pos (n_m1le' ha)
theorem i_nle_m {a : Nat} (ha : a < 2 ^ 31) : (if nI a ≤ (-1) then A else B) = B := if_neg (n_m1le ha)
end IFS
-- the class: leaves
theorem s_wi {j n : Nat} (h : ph_Hp) (hj : j < n) (hn : n < 2 ^ 31) : f_X8_within (nI j) (nI n) h = some (nI 1, h) := by
  simp (disch := omega) only [i_lt_f, i_lt_t, i_le_f, i_le_t, i_eq_f, i_eq_t, i_m1_lt, i_eqm_f, i_meq_f, i_mm_t, i_mle_t, i_nle_m, rz_0, rz_1, if_true, if_false, cl_some, ldI_at, ldJ_at, stI_at, stZ_at, stJ_at, pfI_at, pfJ_at, jn_at, dvI_at, rmI_at, irem_at, nI_add, pk_mul, pk_sub, n_dec, n_sub1, f_X8_within]
theorem s_wo {x : Int32} {n : Nat} (h : ph_Hp) (hx : x < nI 0 ∨ nI n ≤ x) : f_X8_within x (nI n) h = some (nI 0, h) := by
  unfold f_X8_within
  rcases hx with hx | hx
  · rw [if_pos hx, rz_0]
  · by_cases h0 : x < nI 0
    · rw [if_pos h0, rz_0]
    · rw [if_neg h0, if_pos hx, rz_0]
theorem s_wm {n : Nat} (h : ph_Hp) : f_X8_within (-1) (nI n) h = some (nI 0, h) := s_wo h (Or.inl (by decide))
def r_ok (r q n : Nat) : Prop := ph_kd r = 4 ∧ ph_rf r 0 = q ∧ ph_kd q = 10 ∧ ph_ln q = n ∧ n < 2000 ∧ r ≠ q
theorem s_Rsize {r q n : Nat} (k : r_ok r q n) (h : ph_Hp) : f_X4_size r h = some (h.1 r 1, h) := by
  unfold f_X4_size
  rw [isK_at k.1]
theorem s_Rat {r q n j : Nat} (k : r_ok r q n) (h : ph_Hp) (hj : j < n) : f_X4_at r (nI j) h = some (h.1 q j, h) := by
  obtain ⟨k1, k2, k3, k4, k5, k6⟩ := k
  unfold f_X4_at
  rw [k2, isK_at k1, isK_at k3, k4]
  simp (disch := omega) only [i_lt_f, i_lt_t, i_le_f, i_le_t, i_eq_f, i_eq_t, i_m1_lt, i_eqm_f, i_meq_f, i_mm_t, i_mle_t, i_nle_m, rz_0, rz_1, if_true, if_false, cl_some, ldI_at, ldJ_at, stI_at, stZ_at, stJ_at, pfI_at, pfJ_at, jn_at, dvI_at, rmI_at, irem_at, nI_add, pk_mul, pk_sub, n_dec, n_sub1]
theorem s_Rfull {r q n m : Nat} (k : r_ok r q n) {h : ph_Hp} (e : h.1 r 1 = nI m) (hm : m ≤ n) : f_X4_isFull r h = some (if m = n then nI 1 else nI 0, h) := by
  obtain ⟨k1, k2, k3, k4, k5, k6⟩ := k
  unfold f_X4_isFull
  rw [k2, isK_at k1, isK_at k3, k4, e]
  by_cases c : m = n
  · rw [if_pos c, c]
    simp (disch := omega) only [i_lt_f, i_lt_t, i_le_f, i_le_t, i_eq_f, i_eq_t, i_m1_lt, i_eqm_f, i_meq_f, i_mm_t, i_mle_t, i_nle_m, rz_0, rz_1, if_true, if_false, cl_some, ldI_at, ldJ_at, stI_at, stZ_at, stJ_at, pfI_at, pfJ_at, jn_at, dvI_at, rmI_at, irem_at, nI_add, pk_mul, pk_sub, n_dec, n_sub1]
  · rw [if_neg c]
    simp (disch := omega) only [i_lt_f, i_lt_t, i_le_f, i_le_t, i_eq_f, i_eq_t, i_m1_lt, i_eqm_f, i_meq_f, i_mm_t, i_mle_t, i_nle_m, rz_0, rz_1, if_true, if_false, cl_some, ldI_at, ldJ_at, stI_at, stZ_at, stJ_at, pfI_at, pfJ_at, jn_at, dvI_at, rmI_at, irem_at, nI_add, pk_mul, pk_sub, n_dec, n_sub1]
theorem s_Radd {r q n m : Nat} (k : r_ok r q n) {h : ph_Hp} (x : Int32) (e : h.1 r 1 = nI m) (hm : m < n) : f_X4_add r x h = some ((), ph_sI (ph_sI h q m x) r 1 (nI (m + 1))) := by
  obtain ⟨k1, k2, k3, k4, k5, k6⟩ := k
  unfold f_X4_add
  rw [k2, isK_at k1, isK_at k3, k4, e]
  simp (disch := omega) only [i_lt_f, i_lt_t, i_le_f, i_le_t, i_eq_f, i_eq_t, i_m1_lt, i_eqm_f, i_meq_f, i_mm_t, i_mle_t, i_nle_m, rz_0, rz_1, if_true, if_false, cl_some, ldI_at, ldJ_at, stI_at, stZ_at, stJ_at, pfI_at, pfJ_at, jn_at, dvI_at, rmI_at, irem_at, nI_add, pk_mul, pk_sub, n_dec, n_sub1, sI_ne _ _ _ k6, e]
theorem s_Rcut {r q n m : Nat} (k : r_ok r q n) {h : ph_Hp} (e : h.1 r 1 = nI (m + 1)) (hm : m + 1 ≤ n) : f_X4_cut r h = some ((), ph_sI h r 1 (nI m)) := by
  obtain ⟨k1, k2, k3, k4, k5, k6⟩ := k
  unfold f_X4_cut
  rw [isK_at k1, e]
  simp (disch := omega) only [i_lt_f, i_lt_t, i_le_f, i_le_t, i_eq_f, i_eq_t, i_m1_lt, i_eqm_f, i_meq_f, i_mm_t, i_mle_t, i_nle_m, rz_0, rz_1, if_true, if_false, cl_some, ldI_at, ldJ_at, stI_at, stZ_at, stJ_at, pfI_at, pfJ_at, jn_at, dvI_at, rmI_at, irem_at, nI_add, pk_mul, pk_sub, n_dec, n_sub1, Nat.add_sub_cancel]
theorem s_Rclr {r q n : Nat} (k : r_ok r q n) (h : ph_Hp) : f_X4_clear r h = some ((), ph_sI h r 1 (nI 0)) := by
  unfold f_X4_clear
  rw [isK_at k.1]
  rfl
def t_ok (t r1 q1 r2 q2 n : Nat) : Prop := ph_kd t = 7 ∧ ph_rf t 0 = r1 ∧ ph_rf t 1 = r2 ∧ r_ok r1 q1 n ∧ r_ok r2 q2 n ∧ r1 ≠ r2 ∧ r1 ≠ q2 ∧ q1 ≠ r2 ∧ q1 ≠ q2
theorem s_Tsize {t r1 q1 r2 q2 n : Nat} (k : t_ok t r1 q1 r2 q2 n) (h : ph_Hp) : f_X7_size t h = some (h.1 r1 1, h) := by
  obtain ⟨k1, k2, k3, k4, k5, k6⟩ := k
  unfold f_X7_size
  rw [k2, isK_at k1, isK_at k4.1, s_Rsize k4, cl_some]
theorem s_Tstep {t r1 q1 r2 q2 n j : Nat} (k : t_ok t r1 q1 r2 q2 n) (h : ph_Hp) (hj : j < n) : f_X7_stepAt t (nI j) h = some (h.1 q1 j, h) := by
  obtain ⟨k1, k2, k3, k4, k5, k6⟩ := k
  unfold f_X7_stepAt
  rw [k2, isK_at k1, isK_at k4.1, s_Rat k4 h hj, cl_some]
theorem s_Tval {t r1 q1 r2 q2 n j : Nat} (k : t_ok t r1 q1 r2 q2 n) (h : ph_Hp) (hj : j < n) : f_X7_valueAt t (nI j) h = some (h.1 q2 j, h) := by
  obtain ⟨k1, k2, k3, k4, k5, k6⟩ := k
  unfold f_X7_valueAt
  rw [k3, isK_at k1, isK_at k5.1, s_Rat k5 h hj, cl_some]
theorem s_Tfull {t r1 q1 r2 q2 n m : Nat} (k : t_ok t r1 q1 r2 q2 n) {h : ph_Hp} (e : h.1 r1 1 = nI m) (hm : m ≤ n) : f_X7_isFull t h = some (if m = n then nI 1 else nI 0, h) := by
  obtain ⟨k1, k2, k3, k4, k5, k6⟩ := k
  unfold f_X7_isFull
  rw [k2, isK_at k1, isK_at k4.1, s_Rfull k4 e hm, cl_some]
  by_cases c : m = n
  · rw [if_pos c, rz_1]
  · rw [if_neg c, rz_0]
theorem s_Tadd {t r1 q1 r2 q2 n m : Nat} (k : t_ok t r1 q1 r2 q2 n) {h : ph_Hp} (x y : Int32) (e1 : h.1 r1 1 = nI m) (e2 : h.1 r2 1 = nI m) (hm : m < n) : f_X7_add t x y h = some ((), ph_sI (ph_sI (ph_sI (ph_sI h q1 m x) r1 1 (nI (m + 1))) q2 m y) r2 1 (nI (m + 1))) := by
  obtain ⟨k1, k2, k3, k4, k5, k6, k7, k8, k9⟩ := k
  unfold f_X7_add
  rw [k2, k3, isK_at k1, isK_at k4.1, s_Radd k4 x e1 hm, cl_some, isK_at k5.1, s_Radd k5 y (by rw [sI_ne _ _ _ (Ne.symm k6), sI_ne _ _ _ (Ne.symm k8), e2]) hm, cl_some]
theorem s_Tcut {t r1 q1 r2 q2 n m : Nat} (k : t_ok t r1 q1 r2 q2 n) {h : ph_Hp} (e1 : h.1 r1 1 = nI (m + 1)) (e2 : h.1 r2 1 = nI (m + 1)) (hm : m + 1 ≤ n) : f_X7_cut t h = some ((), ph_sI (ph_sI h r1 1 (nI m)) r2 1 (nI m)) := by
  obtain ⟨k1, k2, k3, k4, k5, k6, k7, k8, k9⟩ := k
  unfold f_X7_cut
  rw [k2, k3, isK_at k1, isK_at k4.1, s_Rcut k4 e1 hm, cl_some, isK_at k5.1, s_Rcut k5 (by rw [sI_ne _ _ _ (Ne.symm k6), e2]) hm, cl_some]
theorem s_Tclr {t r1 q1 r2 q2 n : Nat} (k : t_ok t r1 q1 r2 q2 n) (h : ph_Hp) : f_X7_clear t h = some ((), ph_sI (ph_sI h r1 1 (nI 0)) r2 1 (nI 0)) := by
  obtain ⟨k1, k2, k3, k4, k5, k6, k7, k8, k9⟩ := k
  unfold f_X7_clear
  rw [k2, k3, isK_at k1, isK_at k4.1, s_Rclr k4, cl_some, isK_at k5.1, s_Rclr k5, cl_some]
theorem s_tellF {t r1 q1 r2 q2 n m : Nat} (k : t_ok t r1 q1 r2 q2 n) {h : ph_Hp} (x y : Int32) (e1 : h.1 r1 1 = nI m) (hm : m = n) : f_X8_tell t x y h = some ((-4), h) := by
  unfold f_X8_tell
  rw [isK_at k.1, s_Tfull k e1 (by omega), if_pos hm]
  simp (disch := omega) only [i_lt_f, i_lt_t, i_le_f, i_le_t, i_eq_f, i_eq_t, i_m1_lt, i_eqm_f, i_meq_f, i_mm_t, i_mle_t, i_nle_m, rz_0, rz_1, if_true, if_false, cl_some, ldI_at, ldJ_at, stI_at, stZ_at, stJ_at, pfI_at, pfJ_at, jn_at, dvI_at, rmI_at, irem_at, nI_add, pk_mul, pk_sub, n_dec, n_sub1]
theorem s_tell {t r1 q1 r2 q2 n m : Nat} (k : t_ok t r1 q1 r2 q2 n) {h : ph_Hp} (x y : Int32) (e1 : h.1 r1 1 = nI m) (e2 : h.1 r2 1 = nI m) (hm : m < n) : f_X8_tell t x y h = some (nI (m + 1), ph_sI (ph_sI (ph_sI (ph_sI h q1 m x) r1 1 (nI (m + 1))) q2 m y) r2 1 (nI (m + 1))) := by
  have k0 := k
  obtain ⟨k1, k2, k3, k4, k5, k6, k7, k8, k9⟩ := k0
  unfold f_X8_tell
  rw [isK_at k.1, s_Tfull k e1 (by omega), if_neg (by omega)]
  simp (disch := omega) only [i_lt_f, i_lt_t, i_le_f, i_le_t, i_eq_f, i_eq_t, i_m1_lt, i_eqm_f, i_meq_f, i_mm_t, i_mle_t, i_nle_m, rz_0, rz_1, if_true, if_false, cl_some, ldI_at, ldJ_at, stI_at, stZ_at, stJ_at, pfI_at, pfJ_at, jn_at, dvI_at, rmI_at, irem_at, nI_add, pk_mul, pk_sub, n_dec, n_sub1]
  rw [s_Tadd k x y e1 e2 hm, cl_some, s_Tsize k, cl_some, sI_ne _ _ _ k6, sI_ne _ _ _ k7, sI_eq, if_pos rfl]
theorem r_1 : r_ok 1 2 24 := ⟨rfl, rfl, rfl, rfl, by decide, by decide⟩
theorem r_3 : r_ok 3 4 44 := ⟨rfl, rfl, rfl, rfl, by decide, by decide⟩
theorem t_5 : t_ok 5 6 7 8 9 12 := ⟨rfl, rfl, rfl, ⟨rfl, rfl, rfl, rfl, by decide, by decide⟩, ⟨rfl, rfl, rfl, rfl, by decide, by decide⟩, by decide, by decide, by decide, by decide⟩
theorem t_10 : t_ok 10 11 12 13 14 12 := ⟨rfl, rfl, rfl, ⟨rfl, rfl, rfl, rfl, by decide, by decide⟩, ⟨rfl, rfl, rfl, rfl, by decide, by decide⟩, by decide, by decide, by decide, by decide⟩
theorem t_15 : t_ok 15 16 17 18 19 6 := ⟨rfl, rfl, rfl, ⟨rfl, rfl, rfl, rfl, by decide, by decide⟩, ⟨rfl, rfl, rfl, rfl, by decide, by decide⟩, by decide, by decide, by decide, by decide⟩
theorem t_20 : t_ok 20 21 22 23 24 8 := ⟨rfl, rfl, rfl, ⟨rfl, rfl, rfl, rfl, by decide, by decide⟩, ⟨rfl, rfl, rfl, rfl, by decide, by decide⟩, by decide, by decide, by decide, by decide⟩
