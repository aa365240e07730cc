theorem ph_begin {Z : ph_L} {own : String} {y : MethodName} {cc : ByteArray} {nL : Nat} {ret : Option FieldType} {n d : Nat} {As : List Value} {ρ : Type} {tv : ρ → Option Value} {h : ph_Hp} {F : Option (ρ × ph_Hp)} (hm : ph_MF y cc nL ret n) (ho : y.cls = own) {ls : List (Option Value)} (hls : ph_ent nL As = ls) (hn : (lg_sl As).length ≤ nL) (k : ph_G Z own cc nL ret d tv 0 ls [] h F) : ph_CM Z y cc nL ret d As tv h F := by
  subst ho
  exact ph_enter hm hls hn k
def ph_le : List (Option Value) → List (Option Value) → Prop
  | [], _ => True
  | none :: t, _ :: l => ph_le t l
  | some v :: t, x :: l => x = some v ∧ ph_le t l
  | _ :: _, [] => False
theorem ph_le_at : ∀ (t l : List (Option Value)), ph_le t l → ∀ (i : Nat) (v : Value), t[i]? = some (some v) → l[i]? = some (some v)
  | [], _, _, i, v, e => by simp at e
  | none :: t, [], h, i, v, e => h.elim
  | some u :: t, [], h, i, v, e => h.elim
  | none :: t, x :: l, h, i, v, e => by
    cases i with
    | zero => simp at e
    | succ i => simpa using ph_le_at t l h i v (by simpa using e)
  | some u :: t, x :: l, h, i, v, e => by
    cases i with
    | zero =>
      simp at e
      subst e
      simpa using h.1
    | succ i => simpa using ph_le_at t l h.2 i v (by simpa using e)
def ph_vk (Z : ph_L) (r : Nat) (_ : Unit) : Option Value := some (.ref (ph_a Z r))
section PHX
variable {Z : ph_L} {own : String} {cc : ByteArray} {nL : Nat} {ret : Option FieldType} {d : Nat} {ρ : Type} {tv : ρ → Option Value} {pc : Nat} {ls : List (Option Value)} {st : List Value} {h : ph_Hp} {F : Option (ρ × ph_Hp)}
theorem ph_wk {ls1 : List (Option Value)} (hw : ph_le ls1 ls) (k : ph_G Z own cc nL ret d tv pc ls1 st h F) : ph_G Z own cc nL ret d tv pc ls st h F := by
  intro p e R s m args below meth c Q A cells slots X r hr fin H locs lsA hP hS hl
  refine k p e R s m args below meth c Q A cells slots X r hr fin H locs lsA hP hS ⟨hl.1, hl.2.1, ?_⟩
  rintro ⟨j, w⟩ hq
  obtain ⟨i, h1, h2⟩ := (ph_kn_mem _ 0 j w).mp hq
  rw [Nat.zero_add] at h2
  subst h2
  exact hl.2.2 (j, w) ((ph_kn_mem ls 0 j w).mpr ⟨j, ph_le_at ls1 ls hw j w h1, by omega⟩)
theorem ph_aretK {ret : Option FieldType} {n : String} {v : Nat} (hd : decode cc pc = .ok (.areturn, 1)) (hr2 : ret = some (.object n)) : ph_G Z own cc nL ret d (ph_vk Z v) pc ls [.ref (ph_a Z v)] h (some ((), h)) := by
  intro p e R s m args below meth c Q A cells slots X r hr fin H locs lsA hP hS hl
  cases hr
  exact fin H locs lsA pc hP hS ⟨hd, n, hr2⟩
theorem ph_lsv {dflt : Int} {ps : Array (Int × Int)} {len : Nat} {x v : Int32} {off : Int} {tgt : Nat} (hd : decode cc pc = .ok (.lookupswitch dflt ps, len)) (hx : x = v) (hp : (ps.toList.zip (ps.toList.drop 1)).all (fun (a, next) => a.1 < next.1) = true) (ho : Op.lookupswitch.offset ps.toList dflt v.toInt = off) (ht : (pc : Int) + off = (tgt : Int)) (k : ph_G Z own cc nL ret d tv tgt ls st h F) : ph_G Z own cc nL ret d tv pc ls (.int x :: st) h F := by
  subst hx
  exact ph_lsw hd hp ho ht k
theorem ph_idivX {x y : Int32} {K : Int32 → Option (ρ × ph_Hp)} (hd : decode cc pc = .ok (.idiv, 1)) (k : ∀ z, ph_G Z own cc nL ret d tv (pc + 1) ls (.int z :: st) h (K z)) : ph_G Z own cc nL ret d tv pc ls (.int y :: .int x :: st) h (ph_dvI x y K) := ph_idiv hd (k _)
theorem ph_iremX {x y : Int32} {K : Int32 → Option (ρ × ph_Hp)} (hd : decode cc pc = .ok (.irem, 1)) (k : ∀ z, ph_G Z own cc nL ret d tv (pc + 1) ls (.int z :: st) h (K z)) : ph_G Z own cc nL ret d tv pc ls (.int y :: .int x :: st) h (ph_rmI x y K) := ph_iremr hd (k _)
theorem ph_ldivX {x y : Int64} {K : Int64 → Option (ρ × ph_Hp)} (hd : decode cc pc = .ok (.ldiv, 1)) (k : ∀ z, ph_G Z own cc nL ret d tv (pc + 1) ls (.long z :: st) h (K z)) : ph_G Z own cc nL ret d tv pc ls (.long y :: .long x :: st) h (ph_dvJ x y K) := ph_ldiv hd (k _)
theorem ph_lremX {x y : Int64} {K : Int64 → Option (ρ × ph_Hp)} (hd : decode cc pc = .ok (.lrem, 1)) (k : ∀ z, ph_G Z own cc nL ret d tv (pc + 1) ls (.long z :: st) h (K z)) : ph_G Z own cc nL ret d tv pc ls (.long y :: .long x :: st) h (ph_rmJ x y K) := ph_lremr hd (k _)
theorem ph_callSi {y : MethodName} {bytes : ByteArray} {maxL : Nat} {ret2 : Option FieldType} {n d2 idx : Nat} {As rest : List Value} {F0 : Option (Int32 × ph_Hp)} {K : Int32 → ph_Hp → Option (ρ × ph_Hp)} (hd : decode cc pc = .ok (.invokestatic idx, 3)) (hm : ph_MF y bytes maxL ret2 n) (hl0 : ph_ML own idx y) (hs0 : Cond.static y ∈ ph_tb) (hc : ph_CM Z y bytes maxL ret2 d2 As ph_vi h F0) (hdd : d2 + 1 ≤ d) (hn : As.length = n) (hst : As.reverse ++ rest = st) (hro : (rest.map fun v => v.category).sum ≤ 8)
    (k : ∀ v h1, ph_G Z own cc nL ret d tv (pc + 3) ls (.int v :: rest) h1 (K v h1)) : ph_G Z own cc nL ret d tv pc ls st h (ph_cl F0 K) := ph_callS hd hm hl0 hs0 hc hdd hn hst hro (fun v h1 => k v h1)
theorem ph_callSl {y : MethodName} {bytes : ByteArray} {maxL : Nat} {ret2 : Option FieldType} {n d2 idx : Nat} {As rest : List Value} {F0 : Option (Int64 × ph_Hp)} {K : Int64 → ph_Hp → Option (ρ × ph_Hp)} (hd : decode cc pc = .ok (.invokestatic idx, 3)) (hm : ph_MF y bytes maxL ret2 n) (hl0 : ph_ML own idx y) (hs0 : Cond.static y ∈ ph_tb) (hc : ph_CM Z y bytes maxL ret2 d2 As ph_vl h F0) (hdd : d2 + 1 ≤ d) (hn : As.length = n) (hst : As.reverse ++ rest = st) (hro : (rest.map fun v => v.category).sum ≤ 8)
    (k : ∀ v h1, ph_G Z own cc nL ret d tv (pc + 3) ls (.long v :: rest) h1 (K v h1)) : ph_G Z own cc nL ret d tv pc ls st h (ph_cl F0 K) := ph_callS hd hm hl0 hs0 hc hdd hn hst hro (fun v h1 => k v h1)
theorem ph_callSv {y : MethodName} {bytes : ByteArray} {maxL : Nat} {ret2 : Option FieldType} {n d2 idx : Nat} {As rest : List Value} {F0 : Option (Unit × ph_Hp)} {K : Unit → ph_Hp → Option (ρ × ph_Hp)} (hd : decode cc pc = .ok (.invokestatic idx, 3)) (hm : ph_MF y bytes maxL ret2 n) (hl0 : ph_ML own idx y) (hs0 : Cond.static y ∈ ph_tb) (hc : ph_CM Z y bytes maxL ret2 d2 As ph_vv h F0) (hdd : d2 + 1 ≤ d) (hn : As.length = n) (hst : As.reverse ++ rest = st) (hro : (rest.map fun v => v.category).sum ≤ 8)
    (k : ∀ v h1, ph_G Z own cc nL ret d tv (pc + 3) ls (rest) h1 (K v h1)) : ph_G Z own cc nL ret d tv pc ls st h (ph_cl F0 K) := ph_callS hd hm hl0 hs0 hc hdd hn hst hro (fun v h1 => k v h1)
theorem ph_callSr {y : MethodName} {bytes : ByteArray} {maxL : Nat} {ret2 : Option FieldType} {n d2 idx : Nat} {As rest : List Value} {F0 : Option (Nat × ph_Hp)} {K : Nat → ph_Hp → Option (ρ × ph_Hp)} (hd : decode cc pc = .ok (.invokestatic idx, 3)) (hm : ph_MF y bytes maxL ret2 n) (hl0 : ph_ML own idx y) (hs0 : Cond.static y ∈ ph_tb) (hc : ph_CM Z y bytes maxL ret2 d2 As (ph_vr Z) h F0) (hdd : d2 + 1 ≤ d) (hn : As.length = n) (hst : As.reverse ++ rest = st) (hro : (rest.map fun v => v.category).sum ≤ 8)
    (k : ∀ v h1, ph_G Z own cc nL ret d tv (pc + 3) ls (.ref (ph_a Z v) :: rest) h1 (K v h1)) : ph_G Z own cc nL ret d tv pc ls st h (ph_cl F0 K) := ph_callS hd hm hl0 hs0 hc hdd hn hst hro (fun v h1 => k v h1)
theorem ph_callSk {y : MethodName} {bytes : ByteArray} {maxL : Nat} {ret2 : Option FieldType} {n d2 idx : Nat} {As rest : List Value} {r9 : Nat} {F0 : Option (Unit × ph_Hp)} {K : Unit → ph_Hp → Option (ρ × ph_Hp)} (hd : decode cc pc = .ok (.invokestatic idx, 3)) (hm : ph_MF y bytes maxL ret2 n) (hl0 : ph_ML own idx y) (hs0 : Cond.static y ∈ ph_tb) (hc : ph_CM Z y bytes maxL ret2 d2 As (ph_vk Z r9) h F0) (hdd : d2 + 1 ≤ d) (hn : As.length = n) (hst : As.reverse ++ rest = st) (hro : (rest.map fun v => v.category).sum ≤ 8)
    (k : ∀ v h1, ph_G Z own cc nL ret d tv (pc + 3) ls (.ref (ph_a Z r9) :: rest) h1 (K v h1)) : ph_G Z own cc nL ret d tv pc ls st h (ph_cl F0 K) := ph_callS hd hm hl0 hs0 hc hdd hn hst hro (fun v h1 => k v h1)
theorem ph_callVi {y : MethodName} {bytes : ByteArray} {maxL : Nat} {ret2 : Option FieldType} {n d2 idx i ci : Nat} {As rest : List Value} {F0 : Option (Int32 × ph_Hp)} {K : Int32 → ph_Hp → Option (ρ × ph_Hp)} {C : String} {T : u_T} {N : Nat} (hd : decode cc pc = .ok (.invokevirtual idx, 3)) (hm : ph_MF y bytes maxL ret2 n) (hl0 : ph_ML own idx y) (hi0 : Cond.instanceMethod y ∈ ph_tb) (hs0 : Cond.selects C y y ∈ ph_tb) (hci : vwCl[ci]? = some (C, T, N)) (hk : ph_kd i = ci) (hc : ph_CM Z y bytes maxL ret2 d2 (.ref (ph_a Z i) :: As) ph_vi h F0) (hdd : d2 + 1 ≤ d) (hn : As.length = n) (hst : As.reverse ++ .ref (ph_a Z i) :: rest = st) (hro : (rest.map fun v => v.category).sum ≤ 8)
    (k : ∀ v h1, ph_G Z own cc nL ret d tv (pc + 3) ls (.int v :: rest) h1 (K v h1)) : ph_G Z own cc nL ret d tv pc ls st h (ph_cl F0 K) := ph_callV hd hm hl0 hi0 hs0 hci hk hc hdd hn hst hro (fun v h1 => k v h1)
theorem ph_callVl {y : MethodName} {bytes : ByteArray} {maxL : Nat} {ret2 : Option FieldType} {n d2 idx i ci : Nat} {As rest : List Value} {F0 : Option (Int64 × ph_Hp)} {K : Int64 → ph_Hp → Option (ρ × ph_Hp)} {C : String} {T : u_T} {N : Nat} (hd : decode cc pc = .ok (.invokevirtual idx, 3)) (hm : ph_MF y bytes maxL ret2 n) (hl0 : ph_ML own idx y) (hi0 : Cond.instanceMethod y ∈ ph_tb) (hs0 : Cond.selects C y y ∈ ph_tb) (hci : vwCl[ci]? = some (C, T, N)) (hk : ph_kd i = ci) (hc : ph_CM Z y bytes maxL ret2 d2 (.ref (ph_a Z i) :: As) ph_vl h F0) (hdd : d2 + 1 ≤ d) (hn : As.length = n) (hst : As.reverse ++ .ref (ph_a Z i) :: rest = st) (hro : (rest.map fun v => v.category).sum ≤ 8)
    (k : ∀ v h1, ph_G Z own cc nL ret d tv (pc + 3) ls (.long v :: rest) h1 (K v h1)) : ph_G Z own cc nL ret d tv pc ls st h (ph_cl F0 K) := ph_callV hd hm hl0 hi0 hs0 hci hk hc hdd hn hst hro (fun v h1 => k v h1)
theorem ph_callVv {y : MethodName} {bytes : ByteArray} {maxL : Nat} {ret2 : Option FieldType} {n d2 idx i ci : Nat} {As rest : List Value} {F0 : Option (Unit × ph_Hp)} {K : Unit → ph_Hp → Option (ρ × ph_Hp)} {C : String} {T : u_T} {N : Nat} (hd : decode cc pc = .ok (.invokevirtual idx, 3)) (hm : ph_MF y bytes maxL ret2 n) (hl0 : ph_ML own idx y) (hi0 : Cond.instanceMethod y ∈ ph_tb) (hs0 : Cond.selects C y y ∈ ph_tb) (hci : vwCl[ci]? = some (C, T, N)) (hk : ph_kd i = ci) (hc : ph_CM Z y bytes maxL ret2 d2 (.ref (ph_a Z i) :: As) ph_vv h F0) (hdd : d2 + 1 ≤ d) (hn : As.length = n) (hst : As.reverse ++ .ref (ph_a Z i) :: rest = st) (hro : (rest.map fun v => v.category).sum ≤ 8)
    (k : ∀ v h1, ph_G Z own cc nL ret d tv (pc + 3) ls (rest) h1 (K v h1)) : ph_G Z own cc nL ret d tv pc ls st h (ph_cl F0 K) := ph_callV hd hm hl0 hi0 hs0 hci hk hc hdd hn hst hro (fun v h1 => k v h1)
theorem ph_callVr {y : MethodName} {bytes : ByteArray} {maxL : Nat} {ret2 : Option FieldType} {n d2 idx i ci : Nat} {As rest : List Value} {F0 : Option (Nat × ph_Hp)} {K : Nat → ph_Hp → Option (ρ × ph_Hp)} {C : String} {T : u_T} {N : Nat} (hd : decode cc pc = .ok (.invokevirtual idx, 3)) (hm : ph_MF y bytes maxL ret2 n) (hl0 : ph_ML own idx y) (hi0 : Cond.instanceMethod y ∈ ph_tb) (hs0 : Cond.selects C y y ∈ ph_tb) (hci : vwCl[ci]? = some (C, T, N)) (hk : ph_kd i = ci) (hc : ph_CM Z y bytes maxL ret2 d2 (.ref (ph_a Z i) :: As) (ph_vr Z) h F0) (hdd : d2 + 1 ≤ d) (hn : As.length = n) (hst : As.reverse ++ .ref (ph_a Z i) :: rest = st) (hro : (rest.map fun v => v.category).sum ≤ 8)
    (k : ∀ v h1, ph_G Z own cc nL ret d tv (pc + 3) ls (.ref (ph_a Z v) :: rest) h1 (K v h1)) : ph_G Z own cc nL ret d tv pc ls st h (ph_cl F0 K) := ph_callV hd hm hl0 hi0 hs0 hci hk hc hdd hn hst hro (fun v h1 => k v h1)
theorem ph_callVk {y : MethodName} {bytes : ByteArray} {maxL : Nat} {ret2 : Option FieldType} {n d2 idx i ci : Nat} {As rest : List Value} {r9 : Nat} {F0 : Option (Unit × ph_Hp)} {K : Unit → ph_Hp → Option (ρ × ph_Hp)} {C : String} {T : u_T} {N : Nat} (hd : decode cc pc = .ok (.invokevirtual idx, 3)) (hm : ph_MF y bytes maxL ret2 n) (hl0 : ph_ML own idx y) (hi0 : Cond.instanceMethod y ∈ ph_tb) (hs0 : Cond.selects C y y ∈ ph_tb) (hci : vwCl[ci]? = some (C, T, N)) (hk : ph_kd i = ci) (hc : ph_CM Z y bytes maxL ret2 d2 (.ref (ph_a Z i) :: As) (ph_vk Z r9) h F0) (hdd : d2 + 1 ≤ d) (hn : As.length = n) (hst : As.reverse ++ .ref (ph_a Z i) :: rest = st) (hro : (rest.map fun v => v.category).sum ≤ 8)
    (k : ∀ v h1, ph_G Z own cc nL ret d tv (pc + 3) ls (.ref (ph_a Z r9) :: rest) h1 (K v h1)) : ph_G Z own cc nL ret d tv pc ls st h (ph_cl F0 K) := ph_callV hd hm hl0 hi0 hs0 hci hk hc hdd hn hst hro (fun v h1 => k v h1)
end PHX
