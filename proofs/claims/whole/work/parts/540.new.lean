-- making the objects: the judgement n_G over a list of cells that grows
abbrev n_E : Type := Launch × va_G × (ClassId × ClassId × ClassId)
def n_tys (E : n_E) : List (ClassId × FieldType) := [(E.2.2.1, .int), (E.2.2.2.1, .boolean), (E.2.2.2.2, .long)]
abbrev n_T : Type := Nat × Nat × Nat
def n_Ok (E : n_E) (own : String) (cc : ByteArray) (nL : Nat) (t : n_T) (p : Program) (R : Room) (s : State) (m : MethodId) (args : Array Value) (c : Code) (A : Nat → Prop) : Prop :=
  p.tables.exec = Jvm.exec ∧ c.code = cc ∧ c.maxLocals = nL ∧ s.vm.findClass own = some m.cls ∧ (∀ w ∈ ph_tb, w.before args s = true) ∧ (∀ w ∈ ph_ns, va_Nw w s) ∧ va_K E.2.1 vwCl (n_tys E) s ∧ (∀ q, s.heap.size ≤ q → A q) ∧ t.1 ≤ R.frames ∧ 40 * t.1 ≤ R.locals ∧ t.2.1 ≤ R.cells ∧ t.2.2 ≤ R.slots
section NOK
variable {E : n_E} {own : String} {cc : ByteArray} {nL : Nat} {t : n_T} {p : Program} {R : Room} {s : State} {m : MethodId} {args : Array Value} {c : Code} {A : Nat → Prop}
theorem n_Ok.ex (X : n_Ok E own cc nL t p R s m args c A) : p.tables.exec = Jvm.exec := X.1
theorem n_Ok.bt (X : n_Ok E own cc nL t p R s m args c A) : c.code = cc := X.2.1
theorem n_Ok.ml (X : n_Ok E own cc nL t p R s m args c A) : c.maxLocals = nL := X.2.2.1
theorem n_Ok.ow (X : n_Ok E own cc nL t p R s m args c A) : s.vm.findClass own = some m.cls := X.2.2.2.1
theorem n_Ok.ts (X : n_Ok E own cc nL t p R s m args c A) : ∀ w ∈ ph_tb, w.before args s = true := X.2.2.2.2.1
theorem n_Ok.ns (X : n_Ok E own cc nL t p R s m args c A) : ∀ w ∈ ph_ns, va_Nw w s := X.2.2.2.2.2.1
theorem n_Ok.kk (X : n_Ok E own cc nL t p R s m args c A) : va_K E.2.1 vwCl (n_tys E) s := X.2.2.2.2.2.2.1
theorem n_Ok.aa (X : n_Ok E own cc nL t p R s m args c A) : ∀ q, s.heap.size ≤ q → A q := X.2.2.2.2.2.2.2.1
theorem n_Ok.fr (X : n_Ok E own cc nL t p R s m args c A) : t.1 ≤ R.frames := X.2.2.2.2.2.2.2.2.1
theorem n_Ok.lo (X : n_Ok E own cc nL t p R s m args c A) : 40 * t.1 ≤ R.locals := X.2.2.2.2.2.2.2.2.2.1
theorem n_Ok.ce (X : n_Ok E own cc nL t p R s m args c A) : t.2.1 ≤ R.cells := X.2.2.2.2.2.2.2.2.2.2.1
theorem n_Ok.sl (X : n_Ok E own cc nL t p R s m args c A) : t.2.2 ≤ R.slots := X.2.2.2.2.2.2.2.2.2.2.2
end NOK
def n_G (E : n_E) (own : String) (cc : ByteArray) (nL : Nat) (t : n_T) (pi : Bool) (pc : Nat) (ls : List (Option Value)) (st : List Value) (ws : va_W) (ce sl : Nat) (Qf : Nat → List (Option Value) → va_W → Prop) : Prop :=
  ∀ (p : Program) (e : Env) (R : Room) (s : State) (m : MethodId) (args : Array Value) (below : List Frame) (meth : Method) (c : Code) (Q : State → Prop) (A : Nat → Prop), n_Ok E own cc nL t p R s m args c A → (pi = true → meth.name = "<init>") →
    (∀ (H : Heap) (locs : List Loc) (lsA : Array Slot) (pc2 : Nat) (ls2 : List (Option Value)) (ws2 : va_W), Qf pc2 ls2 ws2 → va_P E.2.1 vwCl ws2 H → va_D A ws2 → va_S A s.heap H locs → ph_lv lsA nL ls2 → W p E.1 e R s m args below meth c H locs t.2.1 t.2.2 Q (F0 m pc2 lsA [])) →
    ∀ (H : Heap) (locs : List Loc) (lsA : Array Slot), va_P E.2.1 vwCl ws H → va_D A ws → va_S A s.heap H locs → ph_lv lsA nL ls → W p E.1 e R s m args below meth c H locs ce sl Q (F0 m pc lsA st)
section NR
variable {E : n_E} {own : String} {cc : ByteArray} {nL : Nat} {t : n_T} {pi : Bool} {pc : Nat} {ls : List (Option Value)} {st : List Value} {ws : va_W} {ce sl : Nat} {Qf : Nat → List (Option Value) → va_W → Prop}
theorem n_end (h : Qf pc ls ws) (hc : ce = t.2.1) (hs : sl = t.2.2) : n_G E own cc nL t pi pc ls [] ws ce sl Qf := by
  subst hc hs
  intro p e R s m args below meth c Q A X hm fin H locs lsA hP hD hS hl
  exact fin H locs lsA pc ls ws h hP hD hS hl
theorem n_aload_n {k0 : Fin 4} {i : Nat} {x : Nat} (hd : decode cc pc = .ok (.aload_n k0, 1)) (hi : (k0 : Nat) = i) (hg : ls[i]? = some (some (.ref x))) (k : n_G E own cc nL t pi (pc + 1) ls (.ref x :: st) ws ce sl Qf) : n_G E own cc nL t pi pc ls st ws ce sl Qf :=
  fun p e R s m args below meth c Q A X hm fin H locs lsA hP hD hS hl => lv_aload_n X.ex X.bt hd hi (hl.ta hg) (k p e R s m args below meth c Q A X hm fin H locs lsA hP hD hS hl)
theorem n_iload_n {k0 : Fin 4} {i : Nat} {x : Int32} (hd : decode cc pc = .ok (.iload_n k0, 1)) (hi : (k0 : Nat) = i) (hg : ls[i]? = some (some (.int x))) (k : n_G E own cc nL t pi (pc + 1) ls (.int x :: st) ws ce sl Qf) : n_G E own cc nL t pi pc ls st ws ce sl Qf :=
  fun p e R s m args below meth c Q A X hm fin H locs lsA hP hD hS hl => lv_iload_n X.ex X.bt hd hi (hl.ta hg) (k p e R s m args below meth c Q A X hm fin H locs lsA hP hD hS hl)
theorem n_iconst {n : Int} {v : Int32} (hd : decode cc pc = .ok (.iconst n, 1)) (hv : Int32.ofInt n = v) (k : n_G E own cc nL t pi (pc + 1) ls (.int v :: st) ws ce sl Qf) : n_G E own cc nL t pi pc ls st ws ce sl Qf :=
  fun p e R s m args below meth c Q A X hm fin H locs lsA hP hD hS hl => lv_iconst X.ex X.bt hd hv (k p e R s m args below meth c Q A X hm fin H locs lsA hP hD hS hl)
theorem n_lconst {n : Fin 2} {v : Int64} (hd : decode cc pc = .ok (.lconst n, 1)) (hv : Int64.ofNat (n : Nat) = v) (k : n_G E own cc nL t pi (pc + 1) ls (.long v :: st) ws ce sl Qf) : n_G E own cc nL t pi pc ls st ws ce sl Qf :=
  fun p e R s m args below meth c Q A X hm fin H locs lsA hP hD hS hl => lv_lconst X.ex X.bt hd hv (k p e R s m args below meth c Q A X hm fin H locs lsA hP hD hS hl)
theorem n_bipush {n : Int} {v : Int32} (hd : decode cc pc = .ok (.bipush n, 2)) (hv : (Int8.ofInt n).toInt32 = v) (k : n_G E own cc nL t pi (pc + 2) ls (.int v :: st) ws ce sl Qf) : n_G E own cc nL t pi pc ls st ws ce sl Qf :=
  fun p e R s m args below meth c Q A X hm fin H locs lsA hP hD hS hl => lv_bipush X.ex X.bt hd hv (k p e R s m args below meth c Q A X hm fin H locs lsA hP hD hS hl)
theorem n_sipush {n : Int} {v : Int32} (hd : decode cc pc = .ok (.sipush n, 3)) (hv : (Int16.ofInt n).toInt32 = v) (k : n_G E own cc nL t pi (pc + 3) ls (.int v :: st) ws ce sl Qf) : n_G E own cc nL t pi pc ls st ws ce sl Qf :=
  fun p e R s m args below meth c Q A X hm fin H locs lsA hP hD hS hl => lv_sipush X.ex X.bt hd hv (k p e R s m args below meth c Q A X hm fin H locs lsA hP hD hS hl)
theorem n_dup {v : Value} (hd : decode cc pc = .ok (.dup, 1)) (hv : v.category = 1) (k : n_G E own cc nL t pi (pc + 1) ls (v :: v :: st) ws ce sl Qf) : n_G E own cc nL t pi pc ls (v :: st) ws ce sl Qf :=
  fun p e R s m args below meth c Q A X hm fin H locs lsA hP hD hS hl => lv_dup X.ex X.bt hd hv (k p e R s m args below meth c Q A X hm fin H locs lsA hP hD hS hl)
theorem n_istore_n {k0 : Fin 4} {i : Nat} {x : Int32} {ls1 : List (Option Value)} (hd : decode cc pc = .ok (.istore_n k0, 1)) (hi : (k0 : Nat) = i) (hn : i < nL) (h1 : ph_set1 ls i (.int x) = ls1) (k : n_G E own cc nL t pi (pc + 1) ls1 st ws ce sl Qf) : n_G E own cc nL t pi pc ls (.int x :: st) ws ce sl Qf :=
  fun p e R s m args below meth c Q A X hm fin H locs lsA hP hD hS hl => lv_istore_n X.ex X.bt hd hi hl hn rfl (fun ls2 h2 => k p e R s m args below meth c Q A X hm fin H locs ls2 hP hD hS (h1 ▸ ph_lv_of1 h2))
theorem n_astore_n {k0 : Fin 4} {i : Nat} {x : Nat} {ls1 : List (Option Value)} (hd : decode cc pc = .ok (.astore_n k0, 1)) (hi : (k0 : Nat) = i) (hn : i < nL) (h1 : ph_set1 ls i (.ref x) = ls1) (k : n_G E own cc nL t pi (pc + 1) ls1 st ws ce sl Qf) : n_G E own cc nL t pi pc ls (.ref x :: st) ws ce sl Qf :=
  fun p e R s m args below meth c Q A X hm fin H locs lsA hP hD hS hl => lv_astore_n X.ex X.bt hd hi hl hn rfl (fun ls2 h2 => k p e R s m args below meth c Q A X hm fin H locs ls2 hP hD hS (h1 ▸ ph_lv_of1 h2))
theorem n_iinc {i : Nat} {n : Int} {x v y : Int32} {ls1 : List (Option Value)} (hd : decode cc pc = .ok (.iinc i n, 3)) (hg : ls[i]? = some (some (.int x))) (hv : Int32.ofInt n = v) (hy : x + v = y) (hn : i < nL) (h1 : ph_set1 ls i (.int y) = ls1) (k : n_G E own cc nL t pi (pc + 3) ls1 st ws ce sl Qf) : n_G E own cc nL t pi pc ls st ws ce sl Qf := by
  intro p e R s m args below meth c Q A X hm fin H locs lsA hP hD hS hl
  obtain ⟨k0, hk0⟩ := List.getElem?_of_mem ((ph_kn_mem ls 0 i (.int x)).mpr ⟨i, hg, by omega⟩)
  exact lv_iinc (v := y) X.ex X.bt hd hl hk0 (by rw [hv, hy]) hn rfl (fun ls2 h2 => k p e R s m args below meth c Q A X hm fin H locs ls2 hP hD hS (h1 ▸ ph_lv_of1 h2))
theorem n_goto {off : Int} {tgt : Nat} (hd : decode cc pc = .ok (.goto off, 3)) (ht : (pc : Int) + off = (tgt : Int)) (k : n_G E own cc nL t pi tgt ls st ws ce sl Qf) : n_G E own cc nL t pi pc ls st ws ce sl Qf :=
  fun p e R s m args below meth c Q A X hm fin H locs lsA hP hD hS hl => lv_goto X.ex X.bt hd ht (k p e R s m args below meth c Q A X hm fin H locs lsA hP hD hS hl)
theorem n_icmp_geT {x y : Int32} {off : Int} {tgt : Nat} (hd : decode cc pc = .ok (.if_icmp .ge off, 3)) (ht : (pc : Int) + off = (tgt : Int)) (h : y ≤ x) (k : n_G E own cc nL t pi tgt ls st ws ce sl Qf) : n_G E own cc nL t pi pc ls (.int y :: .int x :: st) ws ce sl Qf :=
  fun p e R s m args below meth c Q A X hm fin H locs lsA hP hD hS hl => lv_icmp_ge X.ex X.bt hd ht (fun _ => k p e R s m args below meth c Q A X hm fin H locs lsA hP hD hS hl) (fun c1 => absurd h c1)
theorem n_icmp_geF {x y : Int32} {off : Int} {tgt : Nat} (hd : decode cc pc = .ok (.if_icmp .ge off, 3)) (ht : (pc : Int) + off = (tgt : Int)) (h : ¬ y ≤ x) (k : n_G E own cc nL t pi (pc + 3) ls st ws ce sl Qf) : n_G E own cc nL t pi pc ls (.int y :: .int x :: st) ws ce sl Qf :=
  fun p e R s m args below meth c Q A X hm fin H locs lsA hP hD hS hl => lv_icmp_ge X.ex X.bt hd ht (fun c1 => absurd c1 h) (fun _ => k p e R s m args below meth c Q A X hm fin H locs lsA hP hD hS hl)
theorem n_max {x y z : Int32} {idx : Nat} (hd : decode cc pc = .ok (.invokestatic idx, 3)) (hl0 : Cond.methodLink own idx Lib.Math.max.name ∈ ph_tb) (hdd : 1 ≤ t.1) (hro : (st.map fun v => v.category).sum ≤ 8) (hz : (if x < y then y else x) = z) (k : n_G E own cc nL t pi (pc + 3) ls (.int z :: st) ws ce sl Qf) (hce : ce ≤ t.2.1) (hsl : sl ≤ t.2.2) : n_G E own cc nL t pi pc ls (.int y :: .int x :: st) ws ce sl Qf := by
  subst hz
  intro p e R s m args below meth c Q A X hm fin H locs lsA hP hD hS hl
  have h1 := X.fr
  have h2 := X.lo
  have h3 := X.ce
  have h4 := X.sl
  exact va_mmax X.ex X.bt (X.ml.trans hl.1.symm) X.ow (X.ts _ hl0) (X.ts _ ph_mm_max.2.1) (X.ts _ ph_mm_max.2.2) (X.ts _ ph_mm_max.1) (by omega) (by omega) (by omega) (by omega) hd (k p e R s m args below meth c Q A X hm fin H locs lsA hP hD hS hl)
theorem n_obj {a idx : Nat} (hd : decode cc pc = .ok (.invokespecial idx, 3)) (hl0 : Cond.methodLink own idx Lib.objectInit ∈ ph_tb) (hi : Cond.instanceMethod Lib.objectInit ∈ ph_tb) (hc : Cond.code Lib.objectInit ⟨#[0xb1]⟩ 1 none ∈ ph_tb) (hdd : 1 ≤ t.1) (hro : (st.map fun v => v.category).sum ≤ 8) (k : n_G E own cc nL t pi (pc + 3) ls st ws ce sl Qf) : n_G E own cc nL t pi pc ls (.ref a :: st) ws ce sl Qf := by
  intro p e R s m args below meth c Q A X hm fin H locs lsA hP hD hS hl
  have h1 := X.fr
  have h2 := X.lo
  refine W.objInit X.ex X.bt X.ow (X.ts _ hl0) (X.ts _ hi) (X.ts _ hc) rfl (by rw [X.ml]; exact hl.1) rfl hd (by omega) (Nat.le_trans (Nat.add_le_add_right (lv_room hro) 12) (by omega)) ?_
  exact k p e R s m args below meth c Q A X hm fin H locs lsA hP hD hS hl
theorem n_new {ci idx N ce2 sl2 : Nat} {C : String} {T : u_T} {fs : List Value} (ty : Nat → FieldType) (hd : decode cc pc = .ok (.new idx, 3)) (hci : vwCl[ci]? = some (C, T, N)) (hty : ∀ k, k < N → parseFieldDescriptor (T k).2.2.1 = some (ty k)) (hcl : Cond.classLink own idx C ∈ ph_tb) (hin : Cond.instantiable C N ∈ ph_tb) (hini : Cond.initialized C ∈ ph_tb) (hfs : ∀ j, j < N → defaultValue (ty j) = vp_V fs j) (hc : ce + 1 = ce2) (hs : sl + N = sl2) (hc2 : ce2 ≤ t.2.1) (hs2 : sl2 ≤ t.2.2) (k : ∀ q, n_G E own cc nL t pi (pc + 3) ls (.ref q :: st) (ws ++ [(q, .inr (ci, fs))]) ce2 sl2 Qf) : n_G E own cc nL t pi pc ls st ws ce sl Qf := by
  subst hc hs
  intro p e R s m args below meth c Q A X hm fin H locs lsA hP hD hS hl
  have h3 := X.ce
  have h4 := X.sl
  exact va_new (ci := ci) X.ex X.bt X.ts (ph_cf ci C T N hci).2.1 ty hty X.ow (X.ts _ hcl) (X.ts _ hin) (X.ts _ hini) X.kk hP hD hS X.aa hci hfs (by omega) (by omega) hd (fun q H1 hP1 hD1 hS1 => k q p e R s m args below meth c Q A X hm fin H1 locs lsA hP1 hD1 hS1 hl)
theorem n_newI {N ce2 sl2 : Nat} {n : Int32} (hd : decode cc pc = .ok (.newarray .int, 2)) (ha : Cond.arrayClass .int ∈ ph_tb) (hn : n = nI N) (hN : N < 1000) (hc : ce + 1 = ce2) (hs : sl + N = sl2) (hc2 : ce2 ≤ t.2.1) (hs2 : sl2 ≤ t.2.2) (k : ∀ q, n_G E own cc nL t pi (pc + 2) ls (.ref q :: st) (ws ++ [(q, .inl (E.2.2.1, N, .inl (fun _ => nI 0)))]) ce2 sl2 Qf) : n_G E own cc nL t pi pc ls (.int n :: st) ws ce sl Qf := by
  subst hc hs hn
  intro p e R s m args below meth c Q A X hm fin H locs lsA hP hD hS hl
  have h3 := X.ce
  have h4 := X.sl
  refine va_newa (atype := .int) (ty := .int) (a0 := (N, .inl (fun _ => nI 0))) X.ex X.bt (X.ts _ ha) rfl X.kk hP hD hS X.aa (fun cA => rfl) (nI_pos (by omega)) (nI_clamp (by omega)) (by show N * 4 ≤ _; omega) (by omega) (by omega) hd (fun q cA H1 hK1 hP1 hD1 hS1 => ?_)
  have e1 : s.vm.findClass ("[" ++ FieldType.int.toString) = some cA := (hK1.2 3 (cA, .int) rfl).2
  have e2 : s.vm.findClass ("[" ++ FieldType.int.toString) = some E.2.2.1 := (X.kk.2 0 (E.2.2.1, .int) rfl).2
  have e3 : cA = E.2.2.1 := Option.some.inj (e1.symm.trans e2)
  subst e3
  exact k q p e R s m args below meth c Q A X hm fin H1 locs lsA hP1 hD1 hS1 hl
theorem n_newZ {N ce2 sl2 : Nat} {n : Int32} (hd : decode cc pc = .ok (.newarray .boolean, 2)) (ha : Cond.arrayClass .boolean ∈ ph_tb) (hn : n = nI N) (hN : N < 1000) (hc : ce + 1 = ce2) (hs : sl + N = sl2) (hc2 : ce2 ≤ t.2.1) (hs2 : sl2 ≤ t.2.2) (k : ∀ q, n_G E own cc nL t pi (pc + 2) ls (.ref q :: st) (ws ++ [(q, .inl (E.2.2.2.1, N, .inl (fun _ => nI 0)))]) ce2 sl2 Qf) : n_G E own cc nL t pi pc ls (.int n :: st) ws ce sl Qf := by
  subst hc hs hn
  intro p e R s m args below meth c Q A X hm fin H locs lsA hP hD hS hl
  have h3 := X.ce
  have h4 := X.sl
  refine va_newa (atype := .boolean) (ty := .boolean) (a0 := (N, .inl (fun _ => nI 0))) X.ex X.bt (X.ts _ ha) rfl X.kk hP hD hS X.aa (fun cA => rfl) (nI_pos (by omega)) (nI_clamp (by omega)) (by show N * 1 ≤ _; omega) (by omega) (by omega) hd (fun q cA H1 hK1 hP1 hD1 hS1 => ?_)
  have e1 : s.vm.findClass ("[" ++ FieldType.boolean.toString) = some cA := (hK1.2 3 (cA, .boolean) rfl).2
  have e2 : s.vm.findClass ("[" ++ FieldType.boolean.toString) = some E.2.2.2.1 := (X.kk.2 1 (E.2.2.2.1, .boolean) rfl).2
  have e3 : cA = E.2.2.2.1 := Option.some.inj (e1.symm.trans e2)
  subst e3
  exact k q p e R s m args below meth c Q A X hm fin H1 locs lsA hP1 hD1 hS1 hl
theorem n_newJ {N ce2 sl2 : Nat} {n : Int32} (hd : decode cc pc = .ok (.newarray .long, 2)) (ha : Cond.arrayClass .long ∈ ph_tb) (hn : n = nI N) (hN : N < 1000) (hc : ce + 1 = ce2) (hs : sl + N = sl2) (hc2 : ce2 ≤ t.2.1) (hs2 : sl2 ≤ t.2.2) (k : ∀ q, n_G E own cc nL t pi (pc + 2) ls (.ref q :: st) (ws ++ [(q, .inl (E.2.2.2.2, N, .inr (.inl (fun _ => lN 0))))]) ce2 sl2 Qf) : n_G E own cc nL t pi pc ls (.int n :: st) ws ce sl Qf := by
  subst hc hs hn
  intro p e R s m args below meth c Q A X hm fin H locs lsA hP hD hS hl
  have h3 := X.ce
  have h4 := X.sl
  refine va_newa (atype := .long) (ty := .long) (a0 := (N, .inr (.inl (fun _ => lN 0)))) X.ex X.bt (X.ts _ ha) rfl X.kk hP hD hS X.aa (fun cA => rfl) (nI_pos (by omega)) (nI_clamp (by omega)) (by show N * 8 ≤ _; omega) (by omega) (by omega) hd (fun q cA H1 hK1 hP1 hD1 hS1 => ?_)
  have e1 : s.vm.findClass ("[" ++ FieldType.long.toString) = some cA := (hK1.2 3 (cA, .long) rfl).2
  have e2 : s.vm.findClass ("[" ++ FieldType.long.toString) = some E.2.2.2.2 := (X.kk.2 2 (E.2.2.2.2, .long) rfl).2
  have e3 : cA = E.2.2.2.2 := Option.some.inj (e1.symm.trans e2)
  subst e3
  exact k q p e R s m args below meth c Q A X hm fin H1 locs lsA hP1 hD1 hS1 hl
theorem n_putF {a ci N k0 idx : Nat} {C : String} {T : u_T} {fs fs2 : List Value} {Y : va_W} {v : Value} {ty : FieldType} (hd : decode cc pc = .ok (.putfield idx, 3)) (hw : ws = (a, .inr (ci, fs)) :: Y) (hci : vwCl[ci]? = some (C, T, N)) (hk : k0 < N) (hlk : Cond.fieldLink own idx (T k0).1 (T k0).2.1 (T k0).2.2.1 ∈ ph_tb) (hfi : (T k0).2.2.2 = true) (hpi : pi = true) (hde : (T k0).1 = own) (hty : parseFieldDescriptor (T k0).2.2.1 = some ty) (hn : narrow ty v = v) (hf : fits ty v = true) (hl0 : k0 < fs.length) (h2 : fs.set k0 v = fs2) (k : n_G E own cc nL t pi (pc + 3) ls st ((a, .inr (ci, fs2)) :: Y) ce sl Qf) : n_G E own cc nL t pi pc ls (v :: .ref a :: st) ws ce sl Qf := by
  subst hw h2
  intro p e R s m args below meth c Q A X hm fin H locs lsA hP hD hS hl
  obtain ⟨-, hin, ⟨ty0, hty0⟩, hnm⟩ := ph_cf ci C T N hci
  exact va_putF X.ex X.bt X.ts hin ty0 hty0 hnm X.ow X.kk hP hD hS 0 rfl hci k0 hk (X.ts _ hlk) (fun _ h9 => h9) hfi (hm hpi) hde hty hn hf hl0 hd (fun H1 locs1 hP1 hD1 hS1 => k p e R s m args below meth c Q A X hm fin H1 locs1 lsA hP1 hD1 hS1 hl)
theorem n_put {a ci N k0 idx : Nat} {C : String} {T : u_T} {fs fs2 : List Value} {Y : va_W} {v : Value} {ty : FieldType} (hd : decode cc pc = .ok (.putfield idx, 3)) (hw : ws = (a, .inr (ci, fs)) :: Y) (hci : vwCl[ci]? = some (C, T, N)) (hk : k0 < N) (hlk : Cond.fieldLink own idx (T k0).1 (T k0).2.1 (T k0).2.2.1 ∈ ph_tb) (hfi : (T k0).2.2.2 = false) (hty : parseFieldDescriptor (T k0).2.2.1 = some ty) (hn : narrow ty v = v) (hf : fits ty v = true) (hl0 : k0 < fs.length) (h2 : fs.set k0 v = fs2) (k : n_G E own cc nL t pi (pc + 3) ls st ((a, .inr (ci, fs2)) :: Y) ce sl Qf) : n_G E own cc nL t pi pc ls (v :: .ref a :: st) ws ce sl Qf := by
  subst hw h2
  intro p e R s m args below meth c Q A X hm fin H locs lsA hP hD hS hl
  obtain ⟨-, hin, ⟨ty0, hty0⟩, hnm⟩ := ph_cf ci C T N hci
  exact va_put X.ex X.bt X.ts hin ty0 hty0 hnm X.ow X.kk hP hD hS 0 rfl hci k0 hk (X.ts _ hlk) (fun _ h9 => h9) hfi hty hn hf hl0 hd (fun H1 locs1 hP1 hD1 hS1 => k p e R s m args below meth c Q A X hm fin H1 locs1 lsA hP1 hD1 hS1 hl)
theorem n_get {a ci N k0 idx : Nat} {C : String} {T : u_T} {fs : List Value} {Y : va_W} {v : Value} (hd : decode cc pc = .ok (.getfield idx, 3)) (hw : ws = (a, .inr (ci, fs)) :: Y) (hci : vwCl[ci]? = some (C, T, N)) (hk : k0 < N) (hlk : Cond.fieldLink own idx (T k0).1 (T k0).2.1 (T k0).2.2.1 ∈ ph_tb) (hv : fs[k0]? = some v) (k : n_G E own cc nL t pi (pc + 3) ls (v :: st) ws ce sl Qf) : n_G E own cc nL t pi pc ls (.ref a :: st) ws ce sl Qf := by
  subst hw
  intro p e R s m args below meth c Q A X hm fin H locs lsA hP hD hS hl
  exact va_get X.ex X.bt X.ts (ph_cf ci C T N hci).2.1 X.ow X.kk hP 0 rfl hci k0 hk (X.ts _ hlk) (fun _ h9 => h9) hv hd (k p e R s m args below meth c Q A X hm fin H locs lsA hP hD hS hl)
theorem n_iast {a j n j0 : Nat} {f : Nat → Int32} {i x : Int32} {ws2 : va_W} (hd : decode cc pc = .ok (.iastore, 1)) (he : ws[j]? = some (a, .inl (E.2.2.1, n, .inl f))) (hi : i = nI j0) (hj : j0 < n) (hn : n < 1000) (hw : ws.set j (a, .inl (E.2.2.1, n, .inl (upd f j0 x))) = ws2) (k : n_G E own cc nL t pi (pc + 1) ls st ws2 ce sl Qf) : n_G E own cc nL t pi pc ls (.int x :: .int i :: .ref a :: st) ws ce sl Qf := by
  subst hw hi
  intro p e R s m args below meth c Q A X hm fin H locs lsA hP hD hS hl
  refine va_iast X.ex X.bt X.kk hP hD hS j 0 he rfl (vp_in_nI hj (by omega)) hd (fun H1 locs1 hP1 hD1 hS1 => ?_)
  rw [nI_clamp (by omega)] at hP1 hD1
  exact k p e R s m args below meth c Q A X hm fin H1 locs1 lsA hP1 hD1 hS1 hl
end NR
-- a constructor's contract
def n_rm (t : n_T) : Room := { frames := t.1, cells := t.2.1, slots := t.2.2, locals := 40 * t.1 }
def n_Pre (E : n_E) (sz a : Nat) (c0 : va_E) (U : State) : Prop := U.heap.size = sz ∧ va_P E.2.1 vwCl [(a, c0)] U.heap ∧ va_K E.2.1 vwCl (n_tys E) U ∧ ∀ w ∈ ph_ns, va_Nw w U
def n_CM (E : n_E) (y : MethodName) (cc : ByteArray) (nL : Nat) (t : n_T) (a : Nat) (As : List Value) (c0 : va_E) (Wf : va_W → Prop) : Prop :=
  ∀ sz, Met E.1 y (.code y cc nL none :: ph_tb) (n_rm t) (va_Pc (.ref a :: As) (n_Pre E sz a c0)) (va_Qv Wf (fun w1 t => va_P E.2.1 vwCl w1 t.heap ∧ va_D (va_A [(a, c0)] sz) w1) (va_A [(a, c0)] sz)) t.2.1 t.2.2 (va_A [(a, c0)] sz)
theorem n_one {A : Nat → Prop} {q : Nat × va_E} (h : A q.1) : va_D A [q] := by
  refine ⟨fun i j x y hx hy _ => ?_, fun k x hx => ?_⟩
  · have h1 := (List.getElem?_eq_some_iff.mp hx).1
    have h2 := (List.getElem?_eq_some_iff.mp hy).1
    simp at h1 h2
    omega
  · have h1 := (List.getElem?_eq_some_iff.mp hx).1
    simp at h1
    subst h1
    cases hx
    exact h
theorem n_enter {E : n_E} {y : MethodName} {cc : ByteArray} {nL : Nat} {t : n_T} {a : Nat} {As : List Value} {c0 : va_E} {Wf : va_W → Prop} (hy : plainName y.cls = true) (hy1 : y.name = "<init>") {ls : List (Option Value)} (hls : ph_ent nL (.ref a :: As) = ls) (hn : (lg_sl (.ref a :: As)).length ≤ nL) (k : n_G E y.cls cc nL t true 0 ls [] [(a, c0)] 0 0 (fun pc2 _ w1 => decode cc pc2 = .ok (.return_, 1) ∧ Wf w1)) : n_CM E y cc nL t a As c0 Wf := by
  intro sz
  refine Met.ofW (cc := cc) (maxL := nL) (ret := none) hy rfl ?_
  intro p e s m args below meth c s₁ B hml hv
  obtain ⟨rfl, hsz, hP, hK, hN⟩ := hv
  have hts := atoms_spec (ws := .code y cc nL none :: ph_tb) B.pre
  rw [lg_entry_eq]
  have hl := lv_entry (.ref a :: As) (n := nL) hn
  have hlk : meth.locks = false := B.notSynchronized
  refine k p e (n_rm t) s m (Value.ref a :: As).toArray below meth c _ (va_A [(a, c0)] sz) ?_ (fun _ => ((name_of_methodNamed B.named B.method).1).trans hy1) ?_ s.heap [] _ hP (n_one (va_A.in (k := 0) rfl)) va_S.rf ?_
  · exact ⟨B.exec, B.bytes, hml, findClass_of_methodNamed B.named, fun w hw => hts w (List.mem_cons_of_mem _ hw), hN, hK, fun q h => Or.inr (by rw [← hsz]; exact h), Nat.le_refl _, Nat.le_refl _, Nat.le_refl _, Nat.le_refl _⟩
  · rintro H locs lsA pc2 ls2 ws2 ⟨hq, hw⟩ hP1 hD1 hS1 hl1
    exact W.vret B.exec B.bytes B.returns (fun t ht hW => ⟨⟨ws2, rfl, hw, by rw [ht]; exact hP1, hD1⟩, hS1.F ht⟩) hS1.2.2 hq
  · show lv_has _ nL (ph_kn 0 ls)
    rw [← hls, ph_ent_kn]
    exact hl
theorem n_join {A0 : Nat → Prop} {D : va_G} {cl : List vw_C} {X w1 : va_W} {cell : Nat × va_E} {H H1 : Heap} (hP : va_P D cl (X ++ [cell]) H) (hD : va_D A0 (X ++ [cell])) (hk : ∀ q : Nat, q < H.size → ¬ va_A [cell] H.size q → H1[q]? = H[q]?) (hF : ∀ q, va_A [cell] H.size q → A0 q) (hP1 : va_P D cl w1 H1) (hD1 : va_D (va_A [cell] H.size) w1) : va_P D cl (X ++ w1) H1 ∧ va_D A0 (X ++ w1) := by
  have inX : ∀ (k : Nat) (q : Nat × va_E), X[k]? = some q → (X ++ [cell])[k]? = some q := fun k q h => by rw [List.getElem?_append_left (List.getElem?_eq_some_iff.mp h).1]; exact h
  have atC : (X ++ [cell])[X.length]? = some cell := by simp
  have apart : ∀ (k : Nat) (q : Nat × va_E), X[k]? = some q → q.1 < H.size ∧ ¬ va_A [cell] H.size q.1 := by
    intro k q hq
    have hl := (hP k q (inX k q hq)).lt
    refine ⟨hl, fun h => ?_⟩
    rcases h with ⟨k2, e, h⟩ | h
    · have h0 : cell = (q.1, e) := by
        cases k2 with
        | zero => exact Option.some.inj h
        | succ n => simp at h
      have h1 := hD.1 k X.length q cell (inX k q hq) atC (by rw [h0])
      have h2 := (List.getElem?_eq_some_iff.mp hq).1
      omega
    · omega
  refine ⟨va_P.app (fun k q hq => ?_) hP1, va_D.app ⟨fun i j x y hx hy => hD.1 i j x y (inX i x hx) (inX j y hy), fun k q hq => hD.2 k q (inX k q hq)⟩ (hD1.weaken (fun k q _ h => hF q.1 h)) (fun i j x y hx hy hxy => ?_)⟩
  · exact (hP k q (inX k q hq)).kept (hk q.1 (apart k q hq).1 (apart k q hq).2)
  · exact (apart i x hx).2 (by rw [hxy]; exact hD1.2 j y hy)
def n_MF (y : MethodName) (cc : ByteArray) (nL n : Nat) : Prop := Cond.code y cc nL none ∈ ph_tb ∧ Cond.initialized y.cls ∈ ph_tb ∧ Cond.instanceMethod y ∈ ph_tb ∧ y.name = "<init>" ∧ (y.cls ≠ "java/lang/invoke/MethodHandle" ∧ y.cls ≠ "java/lang/invoke/VarHandle" ∧ (parseMethodDescriptor y.desc).map (fun d => d.parameters.length) = some n) ∧ nL ≤ 21
theorem n_call {E : n_E} {own : String} {cc : ByteArray} {nL : Nat} {t : n_T} {pi : Bool} {pc : Nat} {ls : List (Option Value)} {st : List Value} {ws : va_W} {ce sl : Nat} {Qf : Nat → List (Option Value) → va_W → Prop} {y : MethodName} {bytes : ByteArray} {maxL n idx a ce2 sl2 : Nat} {t2 : n_T} {As rest : List Value} {c0 : va_E} {X : va_W} {Wf : va_W → Prop} (hd : decode cc pc = .ok (.invokespecial idx, 3)) (hm : n_MF y bytes maxL n) (hl0 : ph_ML own idx y) (hcm : n_CM E y bytes maxL t2 a As c0 Wf) (hw : ws = X ++ [(a, c0)]) (hdd : t2.1 + 1 ≤ t.1) (hn : As.length = n) (hst : As.reverse ++ .ref a :: rest = st) (hro : (rest.map fun v => v.category).sum ≤ 8) (hc : ce + t2.2.1 = ce2) (hs : sl + t2.2.2 = sl2) (hc2 : ce2 ≤ t.2.1) (hs2 : sl2 ≤ t.2.2)
    (k : ∀ w1, Wf w1 → n_G E own cc nL t pi (pc + 3) ls rest (X ++ w1) ce2 sl2 Qf) : n_G E own cc nL t pi pc ls st ws ce sl Qf := by
  subst hc hs hw
  intro p e R s m args below meth c Q A Xo hpi fin H locs lsA hP hD hS hl
  have h1 := Xo.fr
  have h2 := Xo.lo
  have h3 := Xo.ce
  have h4 := Xo.sl
  obtain ⟨m1, m2, m3, m4, m5, m6⟩ := hm
  have hP0 : va_P E.2.1 vwCl [(a, c0)] H := fun k2 q h => hP (X.length + k2) q (by rw [List.getElem?_append_right (by omega), Nat.add_sub_cancel_left]; exact h)
  have hF : ∀ q, va_A [(a, c0)] H.size q → A q := by
    rintro q (⟨k2, e2, h⟩ | h)
    · exact hD.2 (X.length + k2) (q, e2) (by rw [List.getElem?_append_right (by omega), Nat.add_sub_cancel_left]; exact h)
    · exact Xo.aa q (Nat.le_trans hS.1 h)
  have hR : (n_rm t2).frames + 1 ≤ R.frames ∧ 8 + (maxL + 11) + (n_rm t2).locals ≤ R.locals := ⟨Nat.le_trans hdd h1, by show 8 + (maxL + 11) + 40 * t2.1 ≤ R.locals; omega⟩
  have blind : FrameBlind (va_Pc (.ref a :: As) (n_Pre E H.size a c0)) := by
    intro a2 U g mk q
    obtain ⟨q0, q1, qP, qK, qN⟩ := q
    exact ⟨q0, q1, qP, va_K.moved (u := U) (U := U.calling g mk a2) (Vm.Alike.refl U.vm) qK, fun w hw => va_Nw.same (ph_ns_on hw) (rfl : U.vm = (U.calling g mk a2).vm) (qN w hw)⟩
  have hpre : PreS s H (va_Pc (.ref a :: As) (n_Pre E H.size a c0)) (.ref a :: As) := ⟨blind, fun U hU hW => ⟨rfl, by rw [hU], by rw [hU]; exact hP0, va_K.moved hW.alike Xo.kk, fun w hw => ph_ns_warm hw hW (Xo.ns w hw)⟩⟩
  refine va_callv (post := Wf) (B := fun w1 t => va_P E.2.1 vwCl w1 t.heap ∧ va_D (va_A [(a, c0)] H.size) w1) (A1 := va_A [(a, c0)] H.size) (a := (Value.ref a :: As).toArray) (rest := rest) (mc := t2.2.1) (ms := t2.2.2) (free := va_A [(a, c0)] H.size) ?_ hS (fun q _ h => hF q h) hF (fun w1 t3 H1 locs1 ht hvm hw1 hB hz hk hS1 => ?_)
  · rcases hl0 with hl0 | ⟨host, hl0⟩
    · exact va_runI (Ts := ph_tb) (As := As) (rest := rest) ⟨Xo.ex, Xo.bt, Xo.ml, Xo.ow, Xo.ts⟩ (hcm H.size) (cwI n Xo.ts (ph_wsgood m1) rfl rfl rfl (Xo.ts _ m2) (Xo.ts _ hl0) (Xo.ts _ m3) m4 m5 hR) hpre rfl hn hl.1 hst.symm (lv_room hro) hd ⟨by omega, by omega⟩
    · exact va_runIN (Ts := ph_tb) (As := As) (rest := rest) ⟨Xo.ex, Xo.bt, Xo.ml, Xo.ow, Xo.ts⟩ (hcm H.size) ⟨va_cnB n Xo.ts (ph_wsgood m1) rfl rfl rfl (Xo.ns _ hl0) (Xo.ts _ m2) m5 hR, m4, Xo.ts _ m3⟩ hpre rfl hn hl.1 hst.symm (lv_room hro) hd ⟨by omega, by omega⟩
  · obtain ⟨hP1, hD1⟩ := hB
    rw [ht] at hP1
    obtain ⟨hP2, hD2⟩ := n_join hP hD hk hF hP1 hD1
    exact k w1 hw1 p e R s m args below meth c Q A Xo hpi fin H1 locs1 lsA hP2 hD2 hS1 hl
