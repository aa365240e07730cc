theorem q_tb_n {x s : Nat} (hs : s < 32) : q_tb (nI x) s = Nat.testBit x s := by
  rw [q_tb_bt _ hs]
  show (BitVec.ofNat 32 x).getLsbD s = Nat.testBit x s
  rw [BitVec.getLsbD_ofNat]
  simp [hs]
theorem q_d_and (S : q_S) {k t : Nat} : q_d0 S k t &&& (ph_shl (nI 1) (nI k) ^^^ (-1)) = q_d0 S k t := by
  unfold q_d0
  rw [Int32.and_assoc, Int32.and_self]
theorem q_d_an1 (S : q_S) {k t : Nat} : q_d1 S k t &&& (ph_shl (nI 1) (nI k) ^^^ (-1)) = q_d0 S k t := by
  unfold q_d1 q_d0
  generalize ph_shl (nI 1) (nI k) = m
  generalize q_cg S t = a
  apply Int32.toBitVec_inj.1
  apply BitVec.eq_of_getLsbD_eq
  intro i hi
  show ((a.toBitVec &&& (m.toBitVec ^^^ (-1 : Int32).toBitVec) ||| m.toBitVec) &&& (m.toBitVec ^^^ (-1 : Int32).toBitVec)).getLsbD i = (a.toBitVec &&& (m.toBitVec ^^^ (-1 : Int32).toBitVec)).getLsbD i
  have e : (-1 : Int32).toBitVec = BitVec.allOnes 32 := by decide
  rw [e]
  simp only [BitVec.getLsbD_and, BitVec.getLsbD_or, BitVec.getLsbD_xor, BitVec.getLsbD_allOnes, hi, decide_true]
  cases a.toBitVec.getLsbD i <;> cases m.toBitVec.getLsbD i <;> rfl
