section PHF
variable {Z : ph_L} {own : String} {cc : ByteArray} {nL : Nat} {ret : Option FieldType} {d : Nat} {ρ : Type} {tv : ρ → Option Value} {pc : Nat} {ls : List (Option Value)} {st : List Value} {h : ph_Hp} {F : Option (ρ × ph_Hp)}
theorem ph_getv {i ci k idx : Nat} {v : Value} (hd : decode cc pc = .ok (.getfield idx, 3)) (hf : ph_FL own idx ci k) (hk : ph_kd i = ci) (hv : ph_val Z (h.1 i) (h.2 i) (ph_fk ci k) k (ph_rf i k) = v) (kk : ph_G Z own cc nL ret d tv (pc + 3) ls (v :: st) h F) : ph_G Z own cc nL ret d tv pc ls (.ref (ph_a Z i) :: st) h F := by
  intro p e R s m args below meth c Q A cells slots X r hr fin H locs lsA hP hS hl
  obtain ⟨C, T, N, h1, h2, h3, h4⟩ := hf
  obtain ⟨h5, h6, -, -⟩ := ph_cf ci C T N h1
  have hat := ph_ato Z h hk h5
  have hfv : (ph_flds Z (h.1 i) (h.2 i) i)[k]? = some v := by
    rw [ph_flds_at Z _ _ i (by rw [hk]; exact h3), hk, hv]
  rcases h4 with h4 | ⟨host, h4⟩
  · exact va_get X.ex X.bt X.ts h6 X.ow X.kk hP i hat h1 k h2 (X.ts _ h4) (fun _ h9 => h9) hfv hd (kk p e R s m args below meth c Q A cells slots X r hr fin H locs lsA hP hS hl)
  · exact va_getN X.ex X.bt X.ts h6 X.ow X.kk hP i hat h1 k h2 (va_Nw.use (ph_ns_on h4) (X.ns _ h4)) (fun _ h9 => h9) hfv hd (kk p e R s m args below meth c Q A cells slots X r hr fin H locs lsA hP hS hl)
theorem ph_getI {i ci k idx : Nat} (hd : decode cc pc = .ok (.getfield idx, 3)) (hf : ph_FL own idx ci k) (hk : ph_kd i = ci) (h2 : ph_fk ci k ≠ 2 ∧ ph_fk ci k ≠ 3) (kk : ph_G Z own cc nL ret d tv (pc + 3) ls (.int (h.1 i k) :: st) h F) : ph_G Z own cc nL ret d tv pc ls (.ref (ph_a Z i) :: st) h F :=
  ph_getv hd hf hk (by unfold ph_val; rw [if_neg h2.1, if_neg h2.2]) kk
theorem ph_getJ {i ci k idx : Nat} (hd : decode cc pc = .ok (.getfield idx, 3)) (hf : ph_FL own idx ci k) (hk : ph_kd i = ci) (h2 : ph_fk ci k = 2) (kk : ph_G Z own cc nL ret d tv (pc + 3) ls (.long (h.2 i k) :: st) h F) : ph_G Z own cc nL ret d tv pc ls (.ref (ph_a Z i) :: st) h F :=
  ph_getv hd hf hk (by unfold ph_val; rw [if_pos h2]) kk
theorem ph_getR {i ci k idx j : Nat} (hd : decode cc pc = .ok (.getfield idx, 3)) (hf : ph_FL own idx ci k) (hk : ph_kd i = ci) (h3 : ph_fk ci k = 3) (hj : ph_rf i k = j) (kk : ph_G Z own cc nL ret d tv (pc + 3) ls (.ref (ph_a Z j) :: st) h F) : ph_G Z own cc nL ret d tv pc ls (.ref (ph_a Z i) :: st) h F :=
  ph_getv hd hf hk (by unfold ph_val; rw [if_neg (by omega), if_pos h3, hj]) kk
theorem ph_putI {i ci k idx : Nat} {x : Int32} {ty : FieldType} {K : ph_Hp → Option (ρ × ph_Hp)} (hd : decode cc pc = .ok (.putfield idx, 3)) (hf : ph_PL own idx ci k ty) (hk : ph_kd i = ci) (h2 : ph_fk ci k ≠ 2 ∧ ph_fk ci k ≠ 3) (hn : narrow ty (.int x) = .int x) (hfit : fits ty (.int x) = true) (kk : ∀ h1, ph_G Z own cc nL ret d tv (pc + 3) ls st h1 (K h1)) : ph_G Z own cc nL ret d tv pc ls (.int x :: .ref (ph_a Z i) :: st) h (ph_pfI h i k x K) := by
  intro p e R s m args below meth c Q A cells slots X r hr fin H locs lsA hP hS hl
  obtain ⟨C, T, N, h1, h3, h4, h5, h6, h7⟩ := hf
  obtain ⟨g1, g2, ⟨ty0, g3⟩, g4⟩ := ph_cf ci C T N h1
  have hat := ph_ato Z h hk g1
  refine va_put X.ex X.bt X.ts g2 ty0 g3 g4 X.ow X.kk hP X.dd hS i hat h1 k h3 (X.ts _ h5) (fun _ h9 => h9) h6 h7 hn hfit (by rw [ph_flds_len, hk]; exact h4) hd (fun H1 locs1 hP1 hD1 hS1 => ?_)
  rw [ph_ws_set (h1 := ph_sI h i k x) (by rw [ph_cell_o Z _ _ hk g1, ph_sI_i, ph_flds_setI Z _ _ i x (by rw [hk]; exact h2.1) (by rw [hk]; exact h2.2)]; rfl) (ph_sI_o h i k x)] at hP1
  exact kk _ p e R s m args below meth c Q A cells slots X r hr fin H1 locs1 lsA hP1 hS1 hl
theorem ph_putJ {i ci k idx : Nat} {x : Int64} {K : ph_Hp → Option (ρ × ph_Hp)} (hd : decode cc pc = .ok (.putfield idx, 3)) (hf : ph_PL own idx ci k .long) (hk : ph_kd i = ci) (h2 : ph_fk ci k = 2) (kk : ∀ h1, ph_G Z own cc nL ret d tv (pc + 3) ls st h1 (K h1)) : ph_G Z own cc nL ret d tv pc ls (.long x :: .ref (ph_a Z i) :: st) h (ph_pfJ h i k x K) := by
  intro p e R s m args below meth c Q A cells slots X r hr fin H locs lsA hP hS hl
  obtain ⟨C, T, N, h1, h3, h4, h5, h6, h7⟩ := hf
  obtain ⟨g1, g2, ⟨ty0, g3⟩, g4⟩ := ph_cf ci C T N h1
  have hat := ph_ato Z h hk g1
  refine va_put X.ex X.bt X.ts g2 ty0 g3 g4 X.ow X.kk hP X.dd hS i hat h1 k h3 (X.ts _ h5) (fun _ h9 => h9) h6 h7 rfl rfl (by rw [ph_flds_len, hk]; exact h4) hd (fun H1 locs1 hP1 hD1 hS1 => ?_)
  rw [ph_ws_set (h1 := ph_sJ h i k x) (by rw [ph_cell_o Z _ _ hk g1, ph_sJ_i, ph_flds_setJ Z _ _ i x (by rw [hk]; exact h2)]; rfl) (ph_sJ_o h i k x)] at hP1
  exact kk _ p e R s m args below meth c Q A cells slots X r hr fin H1 locs1 lsA hP1 hS1 hl
end PHF
-- contracts
def ph_rm (d : Nat) : Room := { frames := d, cells := 0, slots := 0, locals := 40 * d }
def ph_Pre (Z : ph_L) (h : ph_Hp) (U : State) : Prop := va_P (ph_D Z) vwCl (ph_ws Z h) U.heap ∧ va_K (ph_D Z) vwCl (ph_tys Z) U ∧ (∀ w ∈ ph_ns, va_Nw w U) ∧ ph_Stat Z (ph_Wd Z) U U.heap ∧ ph_inj Z
def ph_Po (Z : ph_L) (v : Option Value) (h : ph_Hp) (_ : Array Value) (st : State) (oc : Outcome) (t : State) : Prop := oc = .returned v ∧ va_P (ph_D Z) vwCl (ph_ws Z h) t.heap ∧ va_F (ph_Wd Z) st t
def ph_CM (Z : ph_L) (y : MethodName) (cc : ByteArray) (nL : Nat) (ret : Option FieldType) (d : Nat) (As : List Value) {ρ : Type} (tv : ρ → Option Value) (h : ph_Hp) (F : Option (ρ × ph_Hp)) : Prop :=
  ∀ r : ρ × ph_Hp, F = some r → Met (ph_l Z) y (.code y cc nL ret :: ph_tb) (ph_rm d) (va_Pc As (ph_Pre Z h)) (ph_Po Z (tv r.1) r.2) 0 0 (ph_Wd Z)
def ph_MF (y : MethodName) (cc : ByteArray) (nL : Nat) (ret : Option FieldType) (n : Nat) : Prop := Cond.code y cc nL ret ∈ ph_tb ∧ Cond.initialized y.cls ∈ ph_tb ∧ (y.cls ≠ "java/lang/invoke/MethodHandle" ∧ y.cls ≠ "java/lang/invoke/VarHandle" ∧ (parseMethodDescriptor y.desc).map (fun d => d.parameters.length) = some n) ∧ (plainName y.cls = true ∧ y.cls ≠ RL) ∧ nL ≤ 21
def ph_ML (own : String) (idx : Nat) (y : MethodName) : Prop := Cond.methodLink own idx y ∈ ph_tb ∨ ∃ host, Cond.methodLinkNest own idx y host ∈ ph_ns
def ph_ent : Nat → List Value → List (Option Value)
  | n, [] => List.replicate n none
  | n, v :: vs => if v.category = 2 then some v :: none :: ph_ent (n - 2) vs else some v :: ph_ent (n - 1) vs
theorem ph_ent_rep : ∀ (n i : Nat), ph_kn i (List.replicate n none) = []
  | 0, i => rfl
  | n + 1, i => by rw [List.replicate_succ, ph_kn, ph_ent_rep n (i + 1)]
theorem ph_ent_kn : ∀ (vs : List Value) (n i : Nat), ph_kn i (ph_ent n vs) = lv_args i vs
  | [], n, i => by rw [ph_ent, ph_ent_rep]; rfl
  | v :: vs, n, i => by
    rw [ph_ent, lv_args]
    by_cases hc : v.category = 2
    · rw [if_pos hc, if_pos hc, ph_kn, ph_kn, ph_ent_kn vs]
    · rw [if_neg hc, if_neg hc, ph_kn, ph_ent_kn vs]
theorem ph_enter {Z : ph_L} {y : MethodName} {cc : ByteArray} {nL : Nat} {ret : Option FieldType} {n d : Nat} {As : List Value} {ρ : Type} {tv : ρ → Option Value} {h : ph_Hp} {F : Option (ρ × ph_Hp)} (hm : ph_MF y cc nL ret n) {ls : List (Option Value)} (hls : ph_ent nL As = ls) (hn : (lg_sl As).length ≤ nL) (k : ph_G Z y.cls cc nL ret d tv 0 ls [] h F) : ph_CM Z y cc nL ret d As tv h F := by
  intro r hr
  refine Met.ofW (cc := cc) (maxL := nL) (ret := ret) hm.2.2.2.1.1 rfl ?_
  intro p e s m args below meth c s₁ B hml hv
  obtain ⟨rfl, hP, hK, hN, hSt, hij⟩ := hv
  have hts := atoms_spec (ws := .code y cc nL ret :: ph_tb) B.pre
  rw [lg_entry_eq]
  have hl := lv_entry As (n := nL) hn
  refine k p e (ph_rm d) s m As.toArray below meth c (MQ below (ph_Po Z (tv r.1) r.2) As.toArray s 0 0 (ph_Wd Z)) (ph_Wd Z) 0 0 ?_ r hr ?_ s.heap [] _ hP va_S.rf ?_
  · exact ⟨B.exec, B.bytes, hml, B.returns, findClass_of_methodNamed B.named, fun w hw => hts w (List.mem_cons_of_mem _ hw), hN, hK, hij, fun i hi => ⟨i, hi, rfl⟩, hSt, Nat.le_refl _, Nat.le_refl _, Nat.le_refl _, Nat.le_refl _, B.notSynchronized, fun q => absurd q hm.2.2.2.1.2⟩
  · intro H locs lsA pc2 hP2 hS2 hrd
    have hq : ∀ t : State, t.heap = H → s.WarmedH t.vm → ph_Po Z (tv r.1) r.2 As.toArray s (.returned (tv r.1)) t := fun t ht _ => ⟨rfl, by rw [ht]; exact hP2, hS2.F ht⟩
    generalize hvv : tv r.1 = vv at hrd hq ⊢
    have hlk : meth.locks = false := B.notSynchronized
    cases vv with
    | none => exact W.vret B.exec B.bytes (B.returns.trans hrd.1) hq hS2.2.2 hrd.2
    | some v =>
      cases v with
      | int x =>
        obtain ⟨g1, ty, g2, g3⟩ := hrd
        exact W.zret B.exec B.bytes (B.returns.trans g2) g3 hq hS2.2.2 g1
      | long x => exact W.lret B.exec B.bytes (B.returns.trans hrd.2) hq hS2.2.2 hrd.1
      | ref x =>
        obtain ⟨g1, n2, g2⟩ := hrd
        exact W.aret B.exec B.bytes (B.returns.trans g2) (Or.inl ⟨n2, rfl⟩) (Or.inr ⟨x, rfl⟩) hq hS2.2.2 g1
      | _ => exact hrd.elim
  · show lv_has _ nL (ph_kn 0 ls)
    rw [← hls, ph_ent_kn]
    exact hl
theorem ph_pre_at {Z : ph_L} {own : String} {cc : ByteArray} {nL : Nat} {ret : Option FieldType} {d : Nat} {p : Program} {e : Env} {R : Room} {s : State} {m : MethodId} {args : Array Value} {meth : Method} {c : Code} {A : Nat → Prop} {cells slots : Nat} (X : ph_Ok Z own cc nL ret d p e R s m args meth c A cells slots) {h : ph_Hp} {H : Heap} {locs : List Loc} (hP : va_P (ph_D Z) vwCl (ph_ws Z h) H) (hS : va_S A s.heap H locs) : ∀ U : State, U.heap = H → s.WarmedH U.vm → ph_Pre Z h U := by
  intro U hU hW
  have hAB : ∀ q, ph_Wd Z q → A q := fun q ⟨i, hi, e⟩ => e ▸ X.aa i hi
  refine ⟨by rw [hU]; exact hP, va_K.moved hW.alike X.kk, fun w hw => ph_ns_warm hw hW (X.ns w hw), ⟨?_, ?_⟩, X.ij⟩
  · rw [hU]
    exact ((va_Z.moved hW.alike X.sa.1).kept hS.2.1).narrow hAB
  · rw [hU]
    exact ((va_T.moved hW.alike X.sa.2).kept hS.2.1).narrow hAB
theorem ph_blind (Z : ph_L) (h : ph_Hp) (As : List Value) : FrameBlind (va_Pc As (ph_Pre Z h)) := by
  intro a U g mk q
  obtain ⟨q0, qP, qK, qN, ⟨q1, q2⟩, qi⟩ := q
  have hvm : U.vm.Alike (U.calling g mk a).vm := Vm.Alike.refl U.vm
  exact ⟨q0, qP, va_K.moved (u := U) (U := U.calling g mk a) hvm qK, fun w hw => va_Nw.same (ph_ns_on hw) (rfl : U.vm = (U.calling g mk a).vm) (qN w hw), ⟨va_Z.moved (u := U) (U := U.calling g mk a) hvm q1, va_T.moved (u := U) (U := U.calling g mk a) hvm q2⟩, qi⟩
theorem ph_back {Z : ph_L} {p : Program} {e : Env} {R : Room} {s : State} {m : MethodId} {args : Array Value} {below : List Frame} {meth : Method} {c : Code} {H : Heap} {locs : List Loc} {cells slots : Nat} {Q : State → Prop} {A : Nat → Prop} {pc : Nat} {lsA : Array Slot} {st rest : List Value} {v : Option Value} {h1 : ph_Hp} {a : Array Value}
    (hr : va_Run p (ph_l Z) e R s m args below meth c H locs cells slots 0 0 (F0 m pc lsA st) rest (ph_Po Z v h1 a) (ph_Wd Z)) (hS : va_S A s.heap H locs) (hA : ∀ q, ph_Wd Z q → A q)
    (kk : ∀ (H1 : Heap) (locs1 : List Loc), va_P (ph_D Z) vwCl (ph_ws Z h1) H1 → va_S A s.heap H1 locs1 → W p (ph_l Z) e R s m args below meth c H1 locs1 cells slots Q (F0 m (pc + 3) lsA (v.toList ++ rest))) : W p (ph_l Z) e R s m args below meth c H locs cells slots Q (F0 m pc lsA st) := by
  intro T hT X
  obtain ⟨v2, st₀, t, T', L, h0, X', hL, e1, e2, ⟨hv, hP1, hz, hk⟩, go⟩ := hr T hT X
  cases hv
  rw [h0] at hz hk
  obtain ⟨t2, a1, b1⟩ := kk T'.heap (locs ++ L) (by rw [e1]; exact hP1) ⟨Nat.le_trans hS.1 (by rw [e1]; exact hz), fun q g1 g2 => by rw [e1, hk q (Nat.lt_of_lt_of_le g1 hS.1) (fun z => g2 (hA q z))]; exact hS.2.1 q g1 g2, fun q hq => by
      rcases List.mem_append.mp hq with g | g
      · exact hS.2.2 q g
      · exact hA _ (hL q g)⟩ T' rfl X'
  exact ⟨t2, go t2 a1, b1⟩
theorem ph_tb_good : ∀ w ∈ ph_tb, (w.onTables && w.keeps) = true ∨ ∃ ty, w = .arrayClass ty := fun w hw => good_of_word (List.mem_filter.mp hw).2
theorem ph_wsgood {y : MethodName} {cc : ByteArray} {nL : Nat} {ret : Option FieldType} (hc : Cond.code y cc nL ret ∈ ph_tb) : GoodIn ph_tb (.code y cc nL ret :: ph_tb) := fun w hw => by
  rcases List.mem_cons.mp hw with q | q
  · rw [q]; exact ⟨hc, ph_tb_good _ hc⟩
  · exact ⟨q, ph_tb_good _ q⟩
section PHC
variable {Z : ph_L} {own : String} {cc : ByteArray} {nL : Nat} {ret : Option FieldType} {d : Nat} {ρ : Type} {tv : ρ → Option Value} {pc : Nat} {ls : List (Option Value)} {st : List Value} {h : ph_Hp} {F : Option (ρ × ph_Hp)}
theorem ph_callS {y : MethodName} {bytes : ByteArray} {maxL : Nat} {ret2 : Option FieldType} {n d2 idx : Nat} {As rest : List Value} {ρ2 : Type} {tv2 : ρ2 → Option Value} {F0 : Option (ρ2 × ph_Hp)} {K : ρ2 → ph_Hp → Option (ρ × ph_Hp)} (hd : decode cc pc = .ok (.invokestatic idx, 3)) (hm : ph_MF y bytes maxL ret2 n) (hl0 : ph_ML own idx y) (hs0 : Cond.static y ∈ ph_tb) (hc : ph_CM Z y bytes maxL ret2 d2 As tv2 h F0) (hdd : d2 + 1 ≤ d) (hn : As.length = n) (hst : As.reverse ++ rest = st) (hro : (rest.map fun v => v.category).sum ≤ 8)
    (k : ∀ v h1, ph_G Z own cc nL ret d tv (pc + 3) ls ((tv2 v).toList ++ rest) h1 (K v h1)) : ph_G Z own cc nL ret d tv pc ls st h (ph_cl F0 K) := by
  intro p e R s m args below meth c Q A cells slots X r hr fin H locs lsA hP hS hl
  cases hF : F0 with
  | none => rw [hF] at hr; cases hr
  | some r0 =>
    rw [hF] at hr
    have hM := hc r0 hF
    have hR : (ph_rm d2).frames + 1 ≤ R.frames ∧ 8 + (maxL + 11) + (ph_rm d2).locals ≤ R.locals := by
      have h1 := X.fr
      have h2 := X.lo
      have h3 := hm.2.2.2.2
      exact ⟨Nat.le_trans hdd h1, by show 8 + (maxL + 11) + 40 * d2 ≤ R.locals; omega⟩
    have hcw : ∀ (hl9 : (Cond.methodLink own idx y).before args s = true), CallB R s args own idx y bytes maxL ret2 (.code y bytes maxL ret2 :: ph_tb) (ph_rm d2) 0 0 n := fun hl9 => callB_of n X.ts (ph_wsgood hm.1) rfl rfl rfl (X.ts _ hm.2.1) hl9 hm.2.2.1 hR
    have hA : ∀ q, ph_Wd Z q → A q := fun q ⟨i, hi, e⟩ => e ▸ X.aa i hi
    have hpre : PreS s H (va_Pc As (ph_Pre Z h)) As := ⟨ph_blind Z h As, fun U hU hW => ⟨rfl, ph_pre_at X hP hS U hU hW⟩⟩
    refine ph_back (v := tv2 r0.1) (h1 := r0.2) (rest := rest) (a := As.toArray) ?_ hS hA (fun H1 locs1 hP1 hS1 => k r0.1 r0.2 p e R s m args below meth c Q A cells slots X r hr fin H1 locs1 lsA hP1 hS1 hl)
    rcases hl0 with hl0 | ⟨host, hl0⟩
    · exact va_runS (Ts := ph_tb) ⟨X.ex, X.bt, X.ml, X.ow, X.ts⟩ hM ⟨hcw (X.ts _ hl0), X.ts _ hs0⟩ hpre rfl hn hl.1 hst.symm (lv_room hro) hd ⟨X.ce, X.sl⟩
    · exact va_runSN (Ts := ph_tb) ⟨X.ex, X.bt, X.ml, X.ow, X.ts⟩ hM ⟨va_cnB n X.ts (ph_wsgood hm.1) rfl rfl rfl (X.ns _ hl0) (X.ts _ hm.2.1) hm.2.2.1 hR, X.ts _ hs0, trivial⟩ hpre rfl hn hl.1 hst.symm (lv_room hro) hd ⟨X.ce, X.sl⟩
theorem ph_callV {y : MethodName} {bytes : ByteArray} {maxL : Nat} {ret2 : Option FieldType} {n d2 idx i ci : Nat} {As rest : List Value} {ρ2 : Type} {tv2 : ρ2 → Option Value} {F0 : Option (ρ2 × ph_Hp)} {K : ρ2 → ph_Hp → Option (ρ × ph_Hp)} {C : String} {T : u_T} {N : Nat} (hd : decode cc pc = .ok (.invokevirtual idx, 3)) (hm : ph_MF y bytes maxL ret2 n) (hl0 : ph_ML own idx y) (hi0 : Cond.instanceMethod y ∈ ph_tb) (hs0 : Cond.selects C y y ∈ ph_tb) (hci : vwCl[ci]? = some (C, T, N)) (hk : ph_kd i = ci) (hc : ph_CM Z y bytes maxL ret2 d2 (.ref (ph_a Z i) :: As) tv2 h F0) (hdd : d2 + 1 ≤ d) (hn : As.length = n) (hst : As.reverse ++ .ref (ph_a Z i) :: rest = st) (hro : (rest.map fun v => v.category).sum ≤ 8)
    (k : ∀ v h1, ph_G Z own cc nL ret d tv (pc + 3) ls ((tv2 v).toList ++ rest) h1 (K v h1)) : ph_G Z own cc nL ret d tv pc ls st h (ph_cl F0 K) := by
  intro p e R s m args below meth c Q A cells slots X r hr fin H locs lsA hP hS hl
  cases hF : F0 with
  | none => rw [hF] at hr; cases hr
  | some r0 =>
    rw [hF] at hr
    have hM := hc r0 hF
    have hR : (ph_rm d2).frames + 1 ≤ R.frames ∧ 8 + (maxL + 11) + (ph_rm d2).locals ≤ R.locals := by
      have h1 := X.fr
      have h2 := X.lo
      have h3 := hm.2.2.2.2
      exact ⟨Nat.le_trans hdd h1, by show 8 + (maxL + 11) + 40 * d2 ≤ R.locals; omega⟩
    have hcw : ∀ (hl9 : (Cond.methodLink own idx y).before args s = true), CallB R s args own idx y bytes maxL ret2 (.code y bytes maxL ret2 :: ph_tb) (ph_rm d2) 0 0 n := fun hl9 => callB_of n X.ts (ph_wsgood hm.1) rfl rfl rfl (X.ts _ hm.2.1) hl9 hm.2.2.1 hR
    have hA : ∀ q, ph_Wd Z q → A q := fun q ⟨i, hi, e⟩ => e ▸ X.aa i hi
    have hrecv := va_recv X.kk hP hci (ph_ato Z h hk (ph_cf ci C T N hci).1)
    have hpre : PreV s H C (ph_a Z i) (va_Pc (.ref (ph_a Z i) :: As) (ph_Pre Z h)) As := ⟨ph_blind Z h _, hrecv, fun U hU hW => ⟨rfl, ph_pre_at X hP hS U hU hW⟩⟩
    refine ph_back (v := tv2 r0.1) (h1 := r0.2) (rest := rest) (a := (Value.ref (ph_a Z i) :: As).toArray) ?_ hS hA (fun H1 locs1 hP1 hS1 => k r0.1 r0.2 p e R s m args below meth c Q A cells slots X r hr fin H1 locs1 lsA hP1 hS1 hl)
    rcases hl0 with hl0 | ⟨host, hl0⟩
    · exact va_runV (Ts := ph_tb) ⟨X.ex, X.bt, X.ml, X.ow, X.ts⟩ hM ⟨hcw (X.ts _ hl0), X.ts _ hi0, X.ts _ hs0⟩ hpre rfl hn hl.1 hst.symm (lv_room hro) hd ⟨X.ce, X.sl⟩
    · exact va_runVN (Ts := ph_tb) ⟨X.ex, X.bt, X.ml, X.ow, X.ts⟩ hM ⟨va_cnB n X.ts (ph_wsgood hm.1) rfl rfl rfl (X.ns _ hl0) (X.ts _ hm.2.1) hm.2.2.1 hR, X.ts _ hi0, X.ts _ hs0⟩ hpre rfl hn hl.1 hst.symm (lv_room hro) hd ⟨X.ce, X.sl⟩
theorem ph_mmax {x y : Int32} {idx : Nat} (hd : decode cc pc = .ok (.invokestatic idx, 3)) (hl0 : Cond.methodLink own idx Lib.Math.max.name ∈ ph_tb) (hm : Cond.code Lib.Math.max.name Lib.Math.max.code 2 (some .int) ∈ ph_tb ∧ Cond.static Lib.Math.max.name ∈ ph_tb ∧ Cond.initialized "java/lang/Math" ∈ ph_tb) (hdd : 1 ≤ d) (hro : (st.map fun v => v.category).sum ≤ 8) (k : ph_G Z own cc nL ret d tv (pc + 3) ls (.int (if x < y then y else x) :: st) h F) : ph_G Z own cc nL ret d tv pc ls (.int y :: .int x :: st) h F := by
  intro p e R s m args below meth c Q A cells slots X r hr fin H locs lsA hP hS hl
  have h1 := X.fr
  have h2 := X.lo
  exact va_mmax X.ex X.bt (X.ml.trans hl.1.symm) X.ow (X.ts _ hl0) (X.ts _ hm.2.1) (X.ts _ hm.2.2) (X.ts _ hm.1) (by omega) (by omega) X.ce X.sl hd (k p e R s m args below meth c Q A cells slots X r hr fin H locs lsA hP hS hl)
theorem ph_mmin {x y : Int32} {idx : Nat} (hd : decode cc pc = .ok (.invokestatic idx, 3)) (hl0 : Cond.methodLink own idx Lib.Math.min.name ∈ ph_tb) (hm : Cond.code Lib.Math.min.name Lib.Math.min.code 2 (some .int) ∈ ph_tb ∧ Cond.static Lib.Math.min.name ∈ ph_tb ∧ Cond.initialized "java/lang/Math" ∈ ph_tb) (hdd : 1 ≤ d) (hro : (st.map fun v => v.category).sum ≤ 8) (k : ph_G Z own cc nL ret d tv (pc + 3) ls (.int (if y < x then y else x) :: st) h F) : ph_G Z own cc nL ret d tv pc ls (.int y :: .int x :: st) h F := by
  intro p e R s m args below meth c Q A cells slots X r hr fin H locs lsA hP hS hl
  have h1 := X.fr
  have h2 := X.lo
  exact va_mmin X.ex X.bt (X.ml.trans hl.1.symm) X.ow (X.ts _ hl0) (X.ts _ hm.2.1) (X.ts _ hm.2.2) (X.ts _ hm.1) (by omega) (by omega) X.ce X.sl hd (k p e R s m args below meth c Q A cells slots X r hr fin H locs lsA hP hS hl)
theorem ph_mabs {x : Int32} {idx : Nat} (hd : decode cc pc = .ok (.invokestatic idx, 3)) (hl0 : Cond.methodLink own idx Lib.Math.abs.name ∈ ph_tb) (hm : Cond.code Lib.Math.abs.name Lib.Math.abs.code 1 (some .int) ∈ ph_tb ∧ Cond.static Lib.Math.abs.name ∈ ph_tb ∧ Cond.initialized "java/lang/Math" ∈ ph_tb) (hdd : 1 ≤ d) (hro : (st.map fun v => v.category).sum ≤ 8) (k : ph_G Z own cc nL ret d tv (pc + 3) ls (.int (if nI 0 ≤ x then x else nI 0 - x) :: st) h F) : ph_G Z own cc nL ret d tv pc ls (.int x :: st) h F := by
  intro p e R s m args below meth c Q A cells slots X r hr fin H locs lsA hP hS hl
  have h1 := X.fr
  have h2 := X.lo
  exact va_mabs X.ex X.bt (X.ml.trans hl.1.symm) X.ow (X.ts _ hl0) (X.ts _ hm.2.1) (X.ts _ hm.2.2) (X.ts _ hm.1) (by omega) (by omega) X.ce X.sl hd (k p e R s m args below meth c Q A cells slots X r hr fin H locs lsA hP hS hl)
end PHC
