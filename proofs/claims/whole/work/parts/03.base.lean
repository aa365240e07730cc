-- the pure heap: ints (and booleans) by cell and place, longs by cell and place; the shape of the cells
abbrev ph_Hp : Type := (Nat → Nat → Int32) × (Nat → Nat → Int64)
def ph_sI (h : ph_Hp) (i k : Nat) (x : Int32) : ph_Hp := (fun i2 => if i2 = i then upd (h.1 i) k x else h.1 i2, h.2)
def ph_sJ (h : ph_Hp) (i k : Nat) (x : Int64) : ph_Hp := (h.1, fun i2 => if i2 = i then vp_updL (h.2 i) k x else h.2 i2)
def ph_shp : List (Nat × Nat × List Nat) := [(8, 14, [1, 3, 5, 10, 15, 20, 25, 0, 41, 42, 45, 46, 47, 0]), (4, 2, [2, 0]), (10, 24, []), (4, 2, [4, 0]), (10, 44, []), (7, 2, [6, 8]), (4, 2, [7, 0]), (10, 12, []), (4, 2, [9, 0]), (10, 12, []), (7, 2, [11, 13]), (4, 2, [12, 0]), (10, 12, []), (4, 2, [14, 0]), (10, 12, []), (7, 2, [16, 18]), (4, 2, [17, 0]), (10, 6, []), (4, 2, [19, 0]), (10, 6, []), (7, 2, [21, 23]), (4, 2, [22, 0]), (10, 8, []), (4, 2, [24, 0]), (10, 8, []), (6, 7, [26, 30, 36, 37, 38, 39, 40]), (3, 5, [27, 28, 29, 0, 0]), (10, 24, []), (10, 8, []), (10, 8, []), (1, 7, [31, 32, 33, 34, 35, 0, 0]), (10, 9, []), (10, 9, []), (10, 9, []), (10, 9, []), (10, 72, []), (10, 40, []), (10, 40, []), (11, 40, []), (10, 40, []), (10, 40, []), (2, 1, [0]), (0, 5, [43, 44, 0, 0, 0]), (12, 8, []), (12, 8, []), (10, 40, []), (10, 320, []), (5, 3, [48, 49, 50]), (10, 4, []), (10, 4, []), (10, 240, []), (9, 28, [52, 53, 54, 55, 0, 56, 57, 0, 58, 0, 59, 0, 60, 0, 61, 0, 62, 63, 64, 65, 66, 0, 0, 0, 0, 67, 68, 0]), (10, 4, []), (10, 4, []), (10, 240, []), (10, 60, []), (10, 88, []), (10, 2, []), (10, 24, []), (10, 36, []), (10, 24, []), (10, 24, []), (10, 6, []), (10, 40, []), (10, 40, []), (10, 40, []), (10, 40, []), (10, 16, []), (10, 360, [])]
def ph_N : Nat := 69
def ph_kd (i : Nat) : Nat := (ph_shp.getD i (99, 0, [])).1
def ph_ln (i : Nat) : Nat := (ph_shp.getD i (99, 0, [])).2.1
def ph_rf (i k : Nat) : Nat := (ph_shp.getD i (99, 0, [])).2.2.getD k 0
def ph_fks : List (List Nat) := [[3, 3, 2, 2, 2], [3, 3, 3, 3, 3, 0, 0], [0], [3, 3, 3, 0, 0], [3, 0], [3, 3, 3], [3, 3, 3, 3, 3, 3, 3], [3, 3], [3, 3, 3, 3, 3, 3, 3, 1, 3, 3, 3, 3, 3, 0], [3, 3, 3, 3, 0, 3, 3, 0, 3, 0, 3, 0, 3, 0, 3, 0, 3, 3, 3, 3, 3, 0, 0, 0, 0, 3, 3, 0]]
def ph_fk (ci k : Nat) : Nat := (ph_fks.getD ci []).getD k 3
def ph_cn (ci : Nat) : Nat := ([5, 7, 1, 5, 2, 3, 7, 2, 14, 28] : List Nat).getD ci 0
def ph_dg (j : Nat) : Int32 := ([0, 1, 2, 9, 39] : List Int32).getD j 0
-- what is given of the machine
abbrev ph_L : Type := Launch × va_G × (Nat → Nat) × (ClassId × ClassId × ClassId) × (Nat × Nat × (Nat → Int32)) × Nat
abbrev ph_l (Z : ph_L) : Launch := Z.1
abbrev ph_D (Z : ph_L) : va_G := Z.2.1
def ph_a (Z : ph_L) (i : Nat) : Nat := Z.2.2.1 i
abbrev ph_cI (Z : ph_L) : ClassId := Z.2.2.2.1.1
abbrev ph_cZ (Z : ph_L) : ClassId := Z.2.2.2.1.2.1
abbrev ph_cJ (Z : ph_L) : ClassId := Z.2.2.2.1.2.2
def ph_b (Z : ph_L) : Nat := Z.2.2.2.2.1.1
def ph_n (Z : ph_L) : Nat := Z.2.2.2.2.1.2.1
def ph_x (Z : ph_L) : Nat → Int32 := Z.2.2.2.2.1.2.2
def ph_t (Z : ph_L) : Nat := Z.2.2.2.2.2
def ph_tys (Z : ph_L) : List (ClassId × FieldType) := [(ph_cI Z, .int), (ph_cZ Z, .boolean), (ph_cJ Z, .long)]
def ph_val (Z : ph_L) (f : Nat → Int32) (g : Nat → Int64) (kd k r : Nat) : Value := if kd = 2 then .long (g k) else if kd = 3 then .ref (ph_a Z r) else .int (f k)
def ph_flds (Z : ph_L) (f : Nat → Int32) (g : Nat → Int64) (i : Nat) : List Value := (List.range (ph_cn (ph_kd i))).map fun k => ph_val Z f g (ph_fk (ph_kd i) k) k (ph_rf i k)
def ph_cell (Z : ph_L) (f : Nat → Int32) (g : Nat → Int64) (i : Nat) : va_E :=
  if ph_kd i = 10 then .inl (ph_cI Z, ph_ln i, .inl f) else if ph_kd i = 11 then .inl (ph_cZ Z, ph_ln i, .inl f) else if ph_kd i = 12 then .inl (ph_cJ Z, ph_ln i, .inr (.inl g)) else .inr (ph_kd i, ph_flds Z f g i)
def ph_ws (Z : ph_L) (h : ph_Hp) : va_W := (List.range ph_N).map fun i => (ph_a Z i, ph_cell Z (h.1 i) (h.2 i) i)
def ph_Wd (Z : ph_L) : Nat → Prop := fun q => ∃ i, i < ph_N ∧ ph_a Z i = q
def ph_inj (Z : ph_L) : Prop := ∀ i j, i < ph_N → j < ph_N → ph_a Z i = ph_a Z j → i = j
theorem ph_lt {i : Nat} (h : ph_kd i < 13) : i < ph_N := by
  rcases Nat.lt_or_ge i ph_N with q | q
  · exact q
  · exfalso
    have e : ph_kd i = 99 := by
      unfold ph_kd
      have h1 : ph_shp[i]? = none := List.getElem?_eq_none (show ph_shp.length ≤ i from q)
      rw [List.getD_eq_getElem?_getD, h1]
      rfl
    omega
theorem ph_ws_at (Z : ph_L) (h : ph_Hp) {i : Nat} (hi : i < ph_N) : (ph_ws Z h)[i]? = some (ph_a Z i, ph_cell Z (h.1 i) (h.2 i) i) := by
  unfold ph_ws
  rw [List.getElem?_map, List.getElem?_range hi]
  rfl
theorem ph_ws_some {Z : ph_L} {h : ph_Hp} {k : Nat} {q : Nat × va_E} (e : (ph_ws Z h)[k]? = some q) : k < ph_N ∧ q = (ph_a Z k, ph_cell Z (h.1 k) (h.2 k) k) := by
  have hk : k < ph_N := by
    have := (List.getElem?_eq_some_iff.mp e).1
    unfold ph_ws at this
    rwa [List.length_map, List.length_range] at this
  refine ⟨hk, ?_⟩
  rw [ph_ws_at Z h hk] at e
  exact (Option.some.inj e).symm
theorem ph_dd {Z : ph_L} {h : ph_Hp} {A : Nat → Prop} (hi : ph_inj Z) (hA : ∀ i, i < ph_N → A (ph_a Z i)) : va_D A (ph_ws Z h) := by
  refine ⟨fun i j p q h1 h2 e => ?_, fun k q h1 => ?_⟩
  · obtain ⟨a1, rfl⟩ := ph_ws_some h1
    obtain ⟨a2, rfl⟩ := ph_ws_some h2
    exact hi i j a1 a2 e
  · obtain ⟨a1, rfl⟩ := ph_ws_some h1
    exact hA k a1
theorem ph_ws_set {Z : ph_L} {h h1 : ph_Hp} {i : Nat} {c : va_E} (hc : ph_cell Z (h1.1 i) (h1.2 i) i = c) (ho : ∀ j, j ≠ i → h1.1 j = h.1 j ∧ h1.2 j = h.2 j) : (ph_ws Z h).set i (ph_a Z i, c) = ph_ws Z h1 := by
  apply List.ext_getElem?
  intro k
  by_cases hk : k < ph_N
  · by_cases hki : k = i
    · subst hki
      rw [List.getElem?_set_self (by unfold ph_ws; rw [List.length_map, List.length_range]; exact hk), ph_ws_at Z h1 hk, hc]
    · rw [List.getElem?_set_ne (fun q => hki q.symm), ph_ws_at Z h hk, ph_ws_at Z h1 hk, (ho k hki).1, (ho k hki).2]
  · have l1 : (ph_ws Z h1).length ≤ k := by unfold ph_ws; rw [List.length_map, List.length_range]; omega
    have l2 : ((ph_ws Z h).set i (ph_a Z i, c)).length ≤ k := by rw [List.length_set]; unfold ph_ws; rw [List.length_map, List.length_range]; omega
    rw [List.getElem?_eq_none l1, List.getElem?_eq_none l2]
theorem ph_sI_o (h : ph_Hp) (i k : Nat) (x : Int32) : ∀ j, j ≠ i → (ph_sI h i k x).1 j = h.1 j ∧ (ph_sI h i k x).2 j = h.2 j := fun j hj => ⟨if_neg hj, rfl⟩
theorem ph_sJ_o (h : ph_Hp) (i k : Nat) (x : Int64) : ∀ j, j ≠ i → (ph_sJ h i k x).1 j = h.1 j ∧ (ph_sJ h i k x).2 j = h.2 j := fun j hj => ⟨rfl, if_neg hj⟩
theorem ph_sI_i (h : ph_Hp) (i k : Nat) (x : Int32) : (ph_sI h i k x).1 i = upd (h.1 i) k x := if_pos rfl
theorem ph_sJ_i (h : ph_Hp) (i k : Nat) (x : Int64) : (ph_sJ h i k x).2 i = vp_updL (h.2 i) k x := if_pos rfl
theorem ph_flds_at (Z : ph_L) (f : Nat → Int32) (g : Nat → Int64) (i : Nat) {k : Nat} (hk : k < ph_cn (ph_kd i)) : (ph_flds Z f g i)[k]? = some (ph_val Z f g (ph_fk (ph_kd i) k) k (ph_rf i k)) := by
  unfold ph_flds
  rw [List.getElem?_map, List.getElem?_range hk]
  rfl
theorem ph_flds_len (Z : ph_L) (f : Nat → Int32) (g : Nat → Int64) (i : Nat) : (ph_flds Z f g i).length = ph_cn (ph_kd i) := by
  unfold ph_flds
  rw [List.length_map, List.length_range]
theorem ph_flds_setI (Z : ph_L) (f : Nat → Int32) (g : Nat → Int64) (i : Nat) {k : Nat} (x : Int32) (h2 : ph_fk (ph_kd i) k ≠ 2) (h3 : ph_fk (ph_kd i) k ≠ 3) : ph_flds Z (upd f k x) g i = (ph_flds Z f g i).set k (.int x) := by
  apply List.ext_getElem?
  intro j
  by_cases hj : j < ph_cn (ph_kd i)
  · rw [ph_flds_at Z _ g i hj]
    by_cases e : j = k
    · subst e
      rw [List.getElem?_set_self (by rw [ph_flds_len]; exact hj)]
      simp [ph_val, h2, h3, upd]
    · rw [List.getElem?_set_ne (fun q => e q.symm), ph_flds_at Z f g i hj]
      simp [ph_val, upd, e]
  · rw [List.getElem?_eq_none (by rw [ph_flds_len]; omega), List.getElem?_eq_none (by rw [List.length_set, ph_flds_len]; omega)]
theorem ph_flds_setJ (Z : ph_L) (f : Nat → Int32) (g : Nat → Int64) (i : Nat) {k : Nat} (x : Int64) (h2 : ph_fk (ph_kd i) k = 2) : ph_flds Z f (vp_updL g k x) i = (ph_flds Z f g i).set k (.long x) := by
  apply List.ext_getElem?
  intro j
  by_cases hj : j < ph_cn (ph_kd i)
  · rw [ph_flds_at Z f _ i hj]
    by_cases e : j = k
    · subst e
      rw [List.getElem?_set_self (by rw [ph_flds_len]; exact hj)]
      simp [ph_val, h2, vp_updL]
    · rw [List.getElem?_set_ne (fun q => e q.symm), ph_flds_at Z f g i hj]
      simp [ph_val, vp_updL, e]
  · rw [List.getElem?_eq_none (by rw [ph_flds_len]; omega), List.getElem?_eq_none (by rw [List.length_set, ph_flds_len]; omega)]
-- the words: those that stay true over calls; those of nest mates
def ph_tb : List Cond := lw_tbl.filter goodWord
def ph_isN : Cond → Bool
  | .fieldLinkNest _ _ _ _ _ _ => true
  | .methodLinkNest _ _ _ _ => true
  | _ => false
def ph_ns : List Cond := tables_1.filter ph_isN
theorem ph_tb_of {w : Cond} (i : Nat) (h : lw_tbl[i]? = some w) (hg : goodWord w = true) : w ∈ ph_tb := List.mem_filter.mpr ⟨List.mem_of_getElem? h, hg⟩
theorem ph_ns_of {w : Cond} (i : Nat) (h : lw_tbl[i + 44]? = some w) (hg : ph_isN w = true) : w ∈ ph_ns := by
  refine List.mem_filter.mpr ⟨?_, hg⟩
  have e : lw_tbl[i + 44]? = tables_1[i]? := by
    unfold lw_tbl
    rw [List.getElem?_append_right (by show (k2_sels lw_privs).length ≤ i + 44; exact Nat.le_trans (by decide +kernel) (Nat.le_add_left 44 i))]
    congr 1
  exact List.mem_of_getElem? (e ▸ h)
theorem ph_ns_on {w : Cond} (h : w ∈ ph_ns) : w.onTables = true := by
  have h1 := (List.mem_filter.mp h).2
  cases w <;> first | rfl | (exact absurd (show false = true from h1) Bool.false_ne_true)
theorem ph_ns_warm {w : Cond} {s U : State} (h : w ∈ ph_ns) (hW : s.WarmedH U.vm) (hs : va_Nw w s) : va_Nw w U := by
  have h1 := (List.mem_filter.mp h).2
  cases w <;> first | (exact va_Nw.warmF hW hs) | (exact va_Nw.warmM hW hs) | (exact absurd (show false = true from h1) Bool.false_ne_true)
def ph_Stat (Z : ph_L) (A : Nat → Prop) (s : State) (H : Heap) : Prop := va_Z "PromptHoles" "DIGEST_STEPS" "[I" (.ref (ph_t Z)) A s H ∧ va_T .int (ph_t Z) 5 (fun j => .int (ph_dg j)) A s H
def ph_Ok (Z : ph_L) (own : String) (cc : ByteArray) (nL : Nat) (ret : Option FieldType) (d : Nat) (p : Program) (e : Env) (R : Room) (s : State) (m : MethodId) (args : Array Value) (meth : Method) (c : Code) (A : Nat → Prop) (cells slots : Nat) : Prop :=
  p.tables.exec = Jvm.exec ∧ c.code = cc ∧ c.maxLocals = nL ∧ meth.sig.returnType = ret ∧ s.vm.findClass own = some m.cls ∧ (∀ w ∈ ph_tb, w.before args s = true) ∧ (∀ w ∈ ph_ns, va_Nw w s) ∧ va_K (ph_D Z) vwCl (ph_tys Z) s ∧ ph_inj Z ∧ (∀ i, i < ph_N → A (ph_a Z i)) ∧ ph_Stat Z A s s.heap ∧ d ≤ R.frames ∧ 40 * d ≤ R.locals ∧ cells ≤ R.cells ∧ slots ≤ R.slots ∧ meth.locks = false ∧ (own = RL → va_X (ph_b Z) (ph_n Z) (ph_x Z) s s.heap ∧ ph_b Z < s.heap.size ∧ ¬ A (ph_b Z))
section PHOK
variable {Z : ph_L} {own : String} {cc : ByteArray} {nL : Nat} {ret : Option FieldType} {d : Nat} {p : Program} {e : Env} {R : Room} {s : State} {m : MethodId} {args : Array Value} {meth : Method} {c : Code} {A : Nat → Prop} {cells slots : Nat}
theorem ph_Ok.ex (X : ph_Ok Z own cc nL ret d p e R s m args meth c A cells slots) : p.tables.exec = Jvm.exec := X.1
theorem ph_Ok.bt (X : ph_Ok Z own cc nL ret d p e R s m args meth c A cells slots) : c.code = cc := X.2.1
theorem ph_Ok.ml (X : ph_Ok Z own cc nL ret d p e R s m args meth c A cells slots) : c.maxLocals = nL := X.2.2.1
theorem ph_Ok.rt (X : ph_Ok Z own cc nL ret d p e R s m args meth c A cells slots) : meth.sig.returnType = ret := X.2.2.2.1
theorem ph_Ok.ow (X : ph_Ok Z own cc nL ret d p e R s m args meth c A cells slots) : s.vm.findClass own = some m.cls := X.2.2.2.2.1
theorem ph_Ok.ts (X : ph_Ok Z own cc nL ret d p e R s m args meth c A cells slots) : ∀ w ∈ ph_tb, w.before args s = true := X.2.2.2.2.2.1
theorem ph_Ok.ns (X : ph_Ok Z own cc nL ret d p e R s m args meth c A cells slots) : ∀ w ∈ ph_ns, va_Nw w s := X.2.2.2.2.2.2.1
theorem ph_Ok.kk (X : ph_Ok Z own cc nL ret d p e R s m args meth c A cells slots) : va_K (ph_D Z) vwCl (ph_tys Z) s := X.2.2.2.2.2.2.2.1
theorem ph_Ok.ij (X : ph_Ok Z own cc nL ret d p e R s m args meth c A cells slots) : ph_inj Z := X.2.2.2.2.2.2.2.2.1
theorem ph_Ok.aa (X : ph_Ok Z own cc nL ret d p e R s m args meth c A cells slots) : ∀ i, i < ph_N → A (ph_a Z i) := X.2.2.2.2.2.2.2.2.2.1
theorem ph_Ok.sa (X : ph_Ok Z own cc nL ret d p e R s m args meth c A cells slots) : ph_Stat Z A s s.heap := X.2.2.2.2.2.2.2.2.2.2.1
theorem ph_Ok.fr (X : ph_Ok Z own cc nL ret d p e R s m args meth c A cells slots) : d ≤ R.frames := X.2.2.2.2.2.2.2.2.2.2.2.1
theorem ph_Ok.lo (X : ph_Ok Z own cc nL ret d p e R s m args meth c A cells slots) : 40 * d ≤ R.locals := X.2.2.2.2.2.2.2.2.2.2.2.2.1
theorem ph_Ok.ce (X : ph_Ok Z own cc nL ret d p e R s m args meth c A cells slots) : cells ≤ R.cells := X.2.2.2.2.2.2.2.2.2.2.2.2.2.1
theorem ph_Ok.sl (X : ph_Ok Z own cc nL ret d p e R s m args meth c A cells slots) : slots ≤ R.slots := X.2.2.2.2.2.2.2.2.2.2.2.2.2.2.1
theorem ph_Ok.lk (X : ph_Ok Z own cc nL ret d p e R s m args meth c A cells slots) : meth.locks = false := X.2.2.2.2.2.2.2.2.2.2.2.2.2.2.2.1
theorem ph_Ok.sc (X : ph_Ok Z own cc nL ret d p e R s m args meth c A cells slots) : own = RL → va_X (ph_b Z) (ph_n Z) (ph_x Z) s s.heap ∧ ph_b Z < s.heap.size ∧ ¬ A (ph_b Z) := X.2.2.2.2.2.2.2.2.2.2.2.2.2.2.2.2
theorem ph_Ok.dd (X : ph_Ok Z own cc nL ret d p e R s m args meth c A cells slots) {h : ph_Hp} : va_D A (ph_ws Z h) := ph_dd X.ij X.aa
end PHOK
-- locals: a list by place; none: not known
def ph_kn : Nat → List (Option Value) → List (Nat × Value)
  | _, [] => []
  | i, some v :: t => (i, v) :: ph_kn (i + 1) t
  | i, none :: t => ph_kn (i + 1) t
theorem ph_kn_mem : ∀ (ls : List (Option Value)) (i j : Nat) (v : Value), (j, v) ∈ ph_kn i ls ↔ ∃ k, ls[k]? = some (some v) ∧ j = i + k
  | [], i, j, v => by simp [ph_kn]
  | none :: t, i, j, v => by
    rw [ph_kn, ph_kn_mem t (i + 1) j v]
    constructor
    · rintro ⟨k, h1, h2⟩
      exact ⟨k + 1, by simpa using h1, by omega⟩
    · rintro ⟨k, h1, h2⟩
      cases k with
      | zero => simp at h1
      | succ k => exact ⟨k, by simpa using h1, by omega⟩
  | some u :: t, i, j, v => by
    rw [ph_kn, List.mem_cons, ph_kn_mem t (i + 1) j v]
    constructor
    · rintro (h | ⟨k, h1, h2⟩)
      · cases h
        exact ⟨0, by simp, rfl⟩
      · exact ⟨k + 1, by simpa using h1, by omega⟩
    · rintro ⟨k, h1, h2⟩
      cases k with
      | zero =>
        left
        simp at h1
        rw [h2, h1]
        rfl
      | succ k => exact Or.inr ⟨k, by simpa using h1, by omega⟩
abbrev ph_lv (lsA : Array Slot) (nL : Nat) (ls : List (Option Value)) : Prop := lv_has lsA nL (ph_kn 0 ls)
theorem ph_lv.ta {lsA : Array Slot} {nL : Nat} {ls : List (Option Value)} (h : ph_lv lsA nL ls) {i : Nat} {v : Value} (e : ls[i]? = some (some v)) : lsA[i]? = some (.val v) :=
  h.2.2 (i, v) ((ph_kn_mem ls 0 i v).mpr ⟨i, e, by omega⟩)
def ph_clr (ls : List (Option Value)) : Nat → List (Option Value)
  | 0 => ls
  | j + 1 => match ls[j]? with
    | some (some v) => if v.category = 2 then ls.set j none else ls
    | _ => ls
def ph_set1 (ls : List (Option Value)) (i : Nat) (v : Value) : List (Option Value) := (ph_clr ls i).set i (some v)
def ph_set2 (ls : List (Option Value)) (i : Nat) (v : Value) : List (Option Value) := ((ph_clr ls i).set i (some v)).set (i + 1) none
theorem ph_clr_at {ls : List (Option Value)} {i j : Nat} {w : Value} (hj : j ≠ i) (e : (ph_clr ls i)[j]? = some (some w)) : ls[j]? = some (some w) ∧ ¬ (j + 1 = i ∧ w.category = 2) := by
  cases i with
  | zero => exact ⟨e, fun h => by omega⟩
  | succ k =>
    by_cases hk : j = k
    · subst hk
      simp only [ph_clr] at e
      cases hg : ls[j]? with
      | none => rw [hg] at e; simp [hg] at e
      | some x =>
        cases x with
        | none => rw [hg] at e; simp [hg] at e
        | some v =>
          rw [hg] at e
          by_cases hc : v.category = 2
          · simp only [hc, if_true] at e
            obtain ⟨h3, h4⟩ := List.getElem?_eq_some_iff.mp e
            rw [List.getElem_set_self] at h4
            cases h4
          · simp [hc] at e
            rw [hg] at e
            have : v = w := Option.some.inj (Option.some.inj e)
            subst this
            exact ⟨rfl, fun h => hc h.2⟩
    · refine ⟨?_, fun h => by omega⟩
      simp only [ph_clr] at e
      split at e
      · split at e
        · rwa [List.getElem?_set_ne (fun q => hk q.symm)] at e
        · exact e
      · exact e
theorem ph_lv_of1 {ls2 : Array Slot} {nL : Nat} {ls : List (Option Value)} {i : Nat} {v : Value} (h : lv_has ls2 nL ((i, v) :: (ph_kn 0 ls).filter (fun q => !(q.1 == i) && !(q.1 + 1 == i && q.2.category == 2)))) : ph_lv ls2 nL (ph_set1 ls i v) := by
  refine ⟨h.1, h.2.1, ?_⟩
  rintro ⟨j, w⟩ hq
  obtain ⟨k, h1, h2⟩ := (ph_kn_mem _ 0 j w).mp hq
  rw [Nat.zero_add] at h2
  subst h2
  apply h.2.2
  unfold ph_set1 at h1
  by_cases hj : j = i
  · subst hj
    have := List.getElem?_eq_some_iff.mp h1
    obtain ⟨h3, h4⟩ := this
    rw [List.getElem_set_self] at h4
    have : v = w := Option.some.inj h4
    subst this
    exact List.mem_cons_self
  · rw [List.getElem?_set_ne (fun q => hj q.symm)] at h1
    obtain ⟨h3, h4⟩ := ph_clr_at hj h1
    refine List.mem_cons_of_mem _ (List.mem_filter.mpr ⟨(ph_kn_mem ls 0 j w).mpr ⟨j, h3, by omega⟩, ?_⟩)
    by_cases h5 : j + 1 = i
    · have : ¬ w.category = 2 := fun q => h4 ⟨h5, q⟩
      simp [hj, this]
    · simp [hj, h5]
theorem ph_lv_of2 {ls2 : Array Slot} {nL : Nat} {ls : List (Option Value)} {i : Nat} {v : Value} (h : lv_has ls2 nL ((i, v) :: (ph_kn 0 ls).filter (fun q => !(q.1 == i) && (!(q.1 == i + 1) && !(q.1 + 1 == i && q.2.category == 2))))) : ph_lv ls2 nL (ph_set2 ls i v) := by
  refine ⟨h.1, h.2.1, ?_⟩
  rintro ⟨j, w⟩ hq
  obtain ⟨k, h1, h2⟩ := (ph_kn_mem _ 0 j w).mp hq
  rw [Nat.zero_add] at h2
  subst h2
  apply h.2.2
  unfold ph_set2 at h1
  by_cases hj1 : j = i + 1
  · subst hj1
    obtain ⟨h3, h4⟩ := List.getElem?_eq_some_iff.mp h1
    rw [List.getElem_set_self] at h4
    cases h4
  rw [List.getElem?_set_ne (fun q => hj1 q.symm)] at h1
  by_cases hj : j = i
  · subst hj
    obtain ⟨h3, h4⟩ := List.getElem?_eq_some_iff.mp h1
    rw [List.getElem_set_self] at h4
    have : v = w := Option.some.inj h4
    subst this
    exact List.mem_cons_self
  · rw [List.getElem?_set_ne (fun q => hj q.symm)] at h1
    obtain ⟨h3, h4⟩ := ph_clr_at hj h1
    refine List.mem_cons_of_mem _ (List.mem_filter.mpr ⟨(ph_kn_mem ls 0 j w).mpr ⟨j, h3, by omega⟩, ?_⟩)
    by_cases h5 : j + 1 = i
    · have : ¬ w.category = 2 := fun q => h4 ⟨h5, q⟩
      simp [hj, hj1, this]
    · simp [hj, hj1, h5]
-- the pure words of the machine's arithmetic
def ph_shl (x y : Int32) : Int32 := x <<< (y &&& 31)
def ph_shr (x y : Int32) : Int32 := x >>> (y &&& 31)
def ph_ushr (x y : Int32) : Int32 := (x.toUInt32 >>> (y.toUInt32 &&& Int32.toUInt32 31)).toInt32
def ph_irem (x y : Int32) : Int32 := x - x / y * y
def ph_lrem (x y : Int64) : Int64 := x - x / y * y
-- the words of the pure programs
def ph_ldI {β : Type} (h : ph_Hp) (q n : Nat) (i : Int32) (F : Int32 → Option β) : Option β := if 0 ≤ i.toInt ∧ i.toInt < (n : Int) then F (h.1 q i.toNatClampNeg) else none
def ph_ldJ {β : Type} (h : ph_Hp) (q n : Nat) (i : Int32) (F : Int64 → Option β) : Option β := if 0 ≤ i.toInt ∧ i.toInt < (n : Int) then F (h.2 q i.toNatClampNeg) else none
def ph_stI {β : Type} (h : ph_Hp) (q n : Nat) (i x : Int32) (F : ph_Hp → Option β) : Option β := if 0 ≤ i.toInt ∧ i.toInt < (n : Int) then F (ph_sI h q i.toNatClampNeg x) else none
def ph_stZ {β : Type} (h : ph_Hp) (q n : Nat) (i x : Int32) (F : ph_Hp → Option β) : Option β := if 0 ≤ i.toInt ∧ i.toInt < (n : Int) then F (ph_sI h q i.toNatClampNeg (vp_nar .boolean x)) else none
def ph_stJ {β : Type} (h : ph_Hp) (q n : Nat) (i : Int32) (x : Int64) (F : ph_Hp → Option β) : Option β := if 0 ≤ i.toInt ∧ i.toInt < (n : Int) then F (ph_sJ h q i.toNatClampNeg x) else none
def ph_pfI {β : Type} (h : ph_Hp) (q k : Nat) (x : Int32) (F : ph_Hp → Option β) : Option β := F (ph_sI h q k x)
def ph_pfJ {β : Type} (h : ph_Hp) (q k : Nat) (x : Int64) (F : ph_Hp → Option β) : Option β := F (ph_sJ h q k x)
def ph_isK {β : Type} (r k : Nat) (F : Option β) : Option β := if ph_kd r = k then F else none
def ph_ldS {β : Type} (Z : ph_L) (i : Int32) (F : Int32 → Option β) : Option β := if 0 ≤ i.toInt ∧ i.toInt < (ph_n Z : Int) then F (ph_x Z i.toNatClampNeg) else none
def ph_ldT {β : Type} (i : Int32) (F : Int32 → Option β) : Option β := if 0 ≤ i.toInt ∧ i.toInt < (5 : Int) then F (ph_dg i.toNatClampNeg) else none
def ph_dvI {β : Type} (x y : Int32) (F : Int32 → Option β) : Option β := if y = nI 0 then none else F (x / y)
def ph_rmI {β : Type} (x y : Int32) (F : Int32 → Option β) : Option β := if y = nI 0 then none else F (ph_irem x y)
def ph_dvJ {β : Type} (x y : Int64) (F : Int64 → Option β) : Option β := if y = lN 0 then none else F (x / y)
def ph_rmJ {β : Type} (x y : Int64) (F : Int64 → Option β) : Option β := if y = lN 0 then none else F (ph_lrem x y)
def ph_cl {β ρ : Type} (x : Option (ρ × ph_Hp)) (k : ρ → ph_Hp → Option β) : Option β := match x with
  | none => none
  | some r => k r.1 r.2
def ph_rz (v : Int32) (h : ph_Hp) : Option (Int32 × ph_Hp) := if v = nI 0 ∨ v = nI 1 then some (v, h) else none
def ph_jn {α β : Type} (f : α → Option β) (b : (α → Option β) → Option β) : Option β := b f
def ph_lp {α β : Type} (body : (α → Option β) → α → Option β) : Nat → α → Option β
  | 0, _ => none
  | n + 1, x => body (ph_lp body n) x
def ph_fu : Nat := 2000
def ph_vi (v : Int32) : Option Value := some (.int v)
def ph_vl (v : Int64) : Option Value := some (.long v)
def ph_vv (_ : Unit) : Option Value := none
def ph_vr (Z : ph_L) (r : Nat) : Option Value := some (.ref (ph_a Z r))
def ph_rd (cc : ByteArray) (ret : Option FieldType) (pc : Nat) (v : Option Value) : Prop := match v with
  | none => ret = none ∧ decode cc pc = .ok (.return_, 1)
  | some (.int x) => decode cc pc = .ok (.ireturn, 1) ∧ ∃ ty, ret = some ty ∧ narrow ty (.int x) = .int x
  | some (.long _) => decode cc pc = .ok (.lreturn, 1) ∧ ret = some .long
  | some (.ref _) => decode cc pc = .ok (.areturn, 1) ∧ ∃ n, ret = some (.object n)
  | _ => False
/-- the judgement: if the pure text F has an answer r, the machine comes from here (place pc, locals ls, stack st, pure heap h) to a return of that answer, with the pure heap r.2 -/
def ph_G (Z : ph_L) (own : String) (cc : ByteArray) (nL : Nat) (ret : Option FieldType) (d : Nat) {ρ : Type} (tv : ρ → Option Value) (pc : Nat) (ls : List (Option Value)) (st : List Value) (h : ph_Hp) (F : Option (ρ × ph_Hp)) : Prop :=
  ∀ (p : Program) (e : Env) (R : Room) (s : State) (m : MethodId) (args : Array Value) (below : List Frame) (meth : Method) (c : Code) (Q : State → Prop) (A : Nat → Prop) (cells slots : Nat),
    ph_Ok Z own cc nL ret d p e R s m args meth c A cells slots → ∀ r : ρ × ph_Hp, F = some r →
    (∀ (H : Heap) (locs : List Loc) (lsA : Array Slot) (pc' : Nat), va_P (ph_D Z) vwCl (ph_ws Z r.2) H → va_S A s.heap H locs → ph_rd cc ret pc' (tv r.1) → W p (ph_l Z) e R s m args below meth c H locs cells slots Q (F0 m pc' lsA (tv r.1).toList)) →
    ∀ (H : Heap) (locs : List Loc) (lsA : Array Slot), va_P (ph_D Z) vwCl (ph_ws Z h) H → va_S A s.heap H locs → ph_lv lsA nL ls → W p (ph_l Z) e R s m args below meth c H locs cells slots Q (F0 m pc lsA st)

section PHR
variable {Z : ph_L} {own : String} {cc : ByteArray} {nL : Nat} {ret : Option FieldType} {d : Nat} {ρ : Type} {tv : ρ → Option Value} {pc : Nat} {ls : List (Option Value)} {st : List Value} {h : ph_Hp} {F : Option (ρ × ph_Hp)}
theorem ph_iadd {x y : Int32} (hd : decode cc pc = .ok (.iadd, 1)) (k : ph_G Z own cc nL ret d tv (pc + 1) ls (.int (x + y) :: st) h F) : ph_G Z own cc nL ret d tv pc ls (.int y :: .int x :: st) h F :=
  fun p e R s m args below meth c Q A cells slots X r hr fin H locs lsA hP hS hl => lv_iadd X.ex X.bt hd (k p e R s m args below meth c Q A cells slots X r hr fin H locs lsA hP hS hl)
theorem ph_isub {x y : Int32} (hd : decode cc pc = .ok (.isub, 1)) (k : ph_G Z own cc nL ret d tv (pc + 1) ls (.int (x - y) :: st) h F) : ph_G Z own cc nL ret d tv pc ls (.int y :: .int x :: st) h F :=
  fun p e R s m args below meth c Q A cells slots X r hr fin H locs lsA hP hS hl => lv_isub X.ex X.bt hd (k p e R s m args below meth c Q A cells slots X r hr fin H locs lsA hP hS hl)
theorem ph_imul {x y : Int32} (hd : decode cc pc = .ok (.imul, 1)) (k : ph_G Z own cc nL ret d tv (pc + 1) ls (.int (x * y) :: st) h F) : ph_G Z own cc nL ret d tv pc ls (.int y :: .int x :: st) h F :=
  fun p e R s m args below meth c Q A cells slots X r hr fin H locs lsA hP hS hl => lv_imul X.ex X.bt hd (k p e R s m args below meth c Q A cells slots X r hr fin H locs lsA hP hS hl)
theorem ph_iand {x y : Int32} (hd : decode cc pc = .ok (.iand, 1)) (k : ph_G Z own cc nL ret d tv (pc + 1) ls (.int (x &&& y) :: st) h F) : ph_G Z own cc nL ret d tv pc ls (.int y :: .int x :: st) h F :=
  fun p e R s m args below meth c Q A cells slots X r hr fin H locs lsA hP hS hl => lv_iand X.ex X.bt hd (k p e R s m args below meth c Q A cells slots X r hr fin H locs lsA hP hS hl)
theorem ph_ior {x y : Int32} (hd : decode cc pc = .ok (.ior, 1)) (k : ph_G Z own cc nL ret d tv (pc + 1) ls (.int (x ||| y) :: st) h F) : ph_G Z own cc nL ret d tv pc ls (.int y :: .int x :: st) h F :=
  fun p e R s m args below meth c Q A cells slots X r hr fin H locs lsA hP hS hl => lv_ior X.ex X.bt hd (k p e R s m args below meth c Q A cells slots X r hr fin H locs lsA hP hS hl)
theorem ph_ixor {x y : Int32} (hd : decode cc pc = .ok (.ixor, 1)) (k : ph_G Z own cc nL ret d tv (pc + 1) ls (.int (x ^^^ y) :: st) h F) : ph_G Z own cc nL ret d tv pc ls (.int y :: .int x :: st) h F :=
  fun p e R s m args below meth c Q A cells slots X r hr fin H locs lsA hP hS hl => lv_ixor X.ex X.bt hd (k p e R s m args below meth c Q A cells slots X r hr fin H locs lsA hP hS hl)
theorem ph_ishl {x y : Int32} (hd : decode cc pc = .ok (.ishl, 1)) (k : ph_G Z own cc nL ret d tv (pc + 1) ls (.int (ph_shl x y) :: st) h F) : ph_G Z own cc nL ret d tv pc ls (.int y :: .int x :: st) h F :=
  fun p e R s m args below meth c Q A cells slots X r hr fin H locs lsA hP hS hl => lv_ishl X.ex X.bt hd (k p e R s m args below meth c Q A cells slots X r hr fin H locs lsA hP hS hl)
theorem ph_ishr {x y : Int32} (hd : decode cc pc = .ok (.ishr, 1)) (k : ph_G Z own cc nL ret d tv (pc + 1) ls (.int (ph_shr x y) :: st) h F) : ph_G Z own cc nL ret d tv pc ls (.int y :: .int x :: st) h F :=
  fun p e R s m args below meth c Q A cells slots X r hr fin H locs lsA hP hS hl => lv_ishr X.ex X.bt hd (k p e R s m args below meth c Q A cells slots X r hr fin H locs lsA hP hS hl)
theorem ph_iushr {x y : Int32} (hd : decode cc pc = .ok (.iushr, 1)) (k : ph_G Z own cc nL ret d tv (pc + 1) ls (.int (ph_ushr x y) :: st) h F) : ph_G Z own cc nL ret d tv pc ls (.int y :: .int x :: st) h F :=
  fun p e R s m args below meth c Q A cells slots X r hr fin H locs lsA hP hS hl => lv_iushr X.ex X.bt hd rfl (k p e R s m args below meth c Q A cells slots X r hr fin H locs lsA hP hS hl)
theorem ph_ineg {x : Int32} (hd : decode cc pc = .ok (.ineg, 1)) (k : ph_G Z own cc nL ret d tv (pc + 1) ls (.int (-x) :: st) h F) : ph_G Z own cc nL ret d tv pc ls (.int x :: st) h F :=
  fun p e R s m args below meth c Q A cells slots X r hr fin H locs lsA hP hS hl => lv_ineg X.ex X.bt hd (k p e R s m args below meth c Q A cells slots X r hr fin H locs lsA hP hS hl)
theorem ph_i2l {x : Int32} (hd : decode cc pc = .ok (.i2l, 1)) (k : ph_G Z own cc nL ret d tv (pc + 1) ls (.long (x.toInt64) :: st) h F) : ph_G Z own cc nL ret d tv pc ls (.int x :: st) h F :=
  fun p e R s m args below meth c Q A cells slots X r hr fin H locs lsA hP hS hl => lv_i2l X.ex X.bt hd rfl (k p e R s m args below meth c Q A cells slots X r hr fin H locs lsA hP hS hl)
theorem ph_i2b {x : Int32} (hd : decode cc pc = .ok (.i2b, 1)) (k : ph_G Z own cc nL ret d tv (pc + 1) ls (.int (x.toInt8.toInt32) :: st) h F) : ph_G Z own cc nL ret d tv pc ls (.int x :: st) h F :=
  fun p e R s m args below meth c Q A cells slots X r hr fin H locs lsA hP hS hl => lv_i2b X.ex X.bt hd rfl (k p e R s m args below meth c Q A cells slots X r hr fin H locs lsA hP hS hl)
theorem ph_i2s {x : Int32} (hd : decode cc pc = .ok (.i2s, 1)) (k : ph_G Z own cc nL ret d tv (pc + 1) ls (.int (x.toInt16.toInt32) :: st) h F) : ph_G Z own cc nL ret d tv pc ls (.int x :: st) h F :=
  fun p e R s m args below meth c Q A cells slots X r hr fin H locs lsA hP hS hl => lv_i2s X.ex X.bt hd rfl (k p e R s m args below meth c Q A cells slots X r hr fin H locs lsA hP hS hl)
theorem ph_ladd {x y : Int64} (hd : decode cc pc = .ok (.ladd, 1)) (k : ph_G Z own cc nL ret d tv (pc + 1) ls (.long (x + y) :: st) h F) : ph_G Z own cc nL ret d tv pc ls (.long y :: .long x :: st) h F :=
  fun p e R s m args below meth c Q A cells slots X r hr fin H locs lsA hP hS hl => lv_ladd X.ex X.bt hd (k p e R s m args below meth c Q A cells slots X r hr fin H locs lsA hP hS hl)
theorem ph_lsub {x y : Int64} (hd : decode cc pc = .ok (.lsub, 1)) (k : ph_G Z own cc nL ret d tv (pc + 1) ls (.long (x - y) :: st) h F) : ph_G Z own cc nL ret d tv pc ls (.long y :: .long x :: st) h F :=
  fun p e R s m args below meth c Q A cells slots X r hr fin H locs lsA hP hS hl => lv_lsub X.ex X.bt hd (k p e R s m args below meth c Q A cells slots X r hr fin H locs lsA hP hS hl)
theorem ph_lmul {x y : Int64} (hd : decode cc pc = .ok (.lmul, 1)) (k : ph_G Z own cc nL ret d tv (pc + 1) ls (.long (x * y) :: st) h F) : ph_G Z own cc nL ret d tv pc ls (.long y :: .long x :: st) h F :=
  fun p e R s m args below meth c Q A cells slots X r hr fin H locs lsA hP hS hl => lv_lmul X.ex X.bt hd (k p e R s m args below meth c Q A cells slots X r hr fin H locs lsA hP hS hl)
theorem ph_land {x y : Int64} (hd : decode cc pc = .ok (.land, 1)) (k : ph_G Z own cc nL ret d tv (pc + 1) ls (.long (x &&& y) :: st) h F) : ph_G Z own cc nL ret d tv pc ls (.long y :: .long x :: st) h F :=
  fun p e R s m args below meth c Q A cells slots X r hr fin H locs lsA hP hS hl => lv_land X.ex X.bt hd (k p e R s m args below meth c Q A cells slots X r hr fin H locs lsA hP hS hl)
theorem ph_lcmp {x y : Int64} (hd : decode cc pc = .ok (.lcmp, 1)) (k : ph_G Z own cc nL ret d tv (pc + 1) ls (.int (lg_cmp x y) :: st) h F) : ph_G Z own cc nL ret d tv pc ls (.long y :: .long x :: st) h F :=
  fun p e R s m args below meth c Q A cells slots X r hr fin H locs lsA hP hS hl => W.lcmp X.ex X.bt hd (k p e R s m args below meth c Q A cells slots X r hr fin H locs lsA hP hS hl)
theorem ph_dup {v : Value} (hd : decode cc pc = .ok (.dup, 1)) (hv : v.category = 1) (k : ph_G Z own cc nL ret d tv (pc + 1) ls (v :: v :: st) h F) : ph_G Z own cc nL ret d tv pc ls (v :: st) h F :=
  fun p e R s m args below meth c Q A cells slots X r hr fin H locs lsA hP hS hl => lv_dup X.ex X.bt hd hv (k p e R s m args below meth c Q A cells slots X r hr fin H locs lsA hP hS hl)
theorem ph_dup2 {v u : Value} (hd : decode cc pc = .ok (.dup2, 1)) (hv : v.category = 1) (hu : u.category = 1) (k : ph_G Z own cc nL ret d tv (pc + 1) ls (v :: u :: v :: u :: st) h F) : ph_G Z own cc nL ret d tv pc ls (v :: u :: st) h F :=
  fun p e R s m args below meth c Q A cells slots X r hr fin H locs lsA hP hS hl => lv_dup2_11 X.ex X.bt hd hv hu (k p e R s m args below meth c Q A cells slots X r hr fin H locs lsA hP hS hl)
theorem ph_pop {v : Value} (hd : decode cc pc = .ok (.pop, 1)) (hv : v.category = 1) (k : ph_G Z own cc nL ret d tv (pc + 1) ls st h F) : ph_G Z own cc nL ret d tv pc ls (v :: st) h F :=
  fun p e R s m args below meth c Q A cells slots X r hr fin H locs lsA hP hS hl => lv_pop X.ex X.bt hd hv (k p e R s m args below meth c Q A cells slots X r hr fin H locs lsA hP hS hl)
theorem ph_iconst {n : Int} {v : Int32} (hd : decode cc pc = .ok (.iconst n, 1)) (hv : Int32.ofInt n = v) (k : ph_G Z own cc nL ret d tv (pc + 1) ls (.int v :: st) h F) : ph_G Z own cc nL ret d tv pc ls st h F :=
  fun p e R s m args below meth c Q A cells slots X r hr fin H locs lsA hP hS hl => lv_iconst X.ex X.bt hd hv (k p e R s m args below meth c Q A cells slots X r hr fin H locs lsA hP hS hl)
theorem ph_bipush {n : Int} {v : Int32} (hd : decode cc pc = .ok (.bipush n, 2)) (hv : (Int8.ofInt n).toInt32 = v) (k : ph_G Z own cc nL ret d tv (pc + 2) ls (.int v :: st) h F) : ph_G Z own cc nL ret d tv pc ls st h F :=
  fun p e R s m args below meth c Q A cells slots X r hr fin H locs lsA hP hS hl => lv_bipush X.ex X.bt hd hv (k p e R s m args below meth c Q A cells slots X r hr fin H locs lsA hP hS hl)
theorem ph_sipush {n : Int} {v : Int32} (hd : decode cc pc = .ok (.sipush n, 3)) (hv : (Int16.ofInt n).toInt32 = v) (k : ph_G Z own cc nL ret d tv (pc + 3) ls (.int v :: st) h F) : ph_G Z own cc nL ret d tv pc ls st h F :=
  fun p e R s m args below meth c Q A cells slots X r hr fin H locs lsA hP hS hl => lv_sipush X.ex X.bt hd hv (k p e R s m args below meth c Q A cells slots X r hr fin H locs lsA hP hS hl)
theorem ph_lconst {n : Fin 2} {v : Int64} (hd : decode cc pc = .ok (.lconst n, 1)) (hv : Int64.ofNat (n : Nat) = v) (k : ph_G Z own cc nL ret d tv (pc + 1) ls (.long v :: st) h F) : ph_G Z own cc nL ret d tv pc ls st h F :=
  fun p e R s m args below meth c Q A cells slots X r hr fin H locs lsA hP hS hl => lv_lconst X.ex X.bt hd hv (k p e R s m args below meth c Q A cells slots X r hr fin H locs lsA hP hS hl)
theorem ph_ldc {i : Nat} {v : Int32} (hd : decode cc pc = .ok (.ldc i, 2)) (hc : Cond.constant own i v ∈ ph_tb) (k : ph_G Z own cc nL ret d tv (pc + 2) ls (.int v :: st) h F) : ph_G Z own cc nL ret d tv pc ls st h F :=
  fun p e R s m args below meth c Q A cells slots X r hr fin H locs lsA hP hS hl => lv_ldc X.ex X.bt X.ow (X.ts _ hc) hd (k p e R s m args below meth c Q A cells slots X r hr fin H locs lsA hP hS hl)
theorem ph_ldcw {i : Nat} {v : Int32} (hd : decode cc pc = .ok (.ldc_w i, 3)) (hc : Cond.constant own i v ∈ ph_tb) (k : ph_G Z own cc nL ret d tv (pc + 3) ls (.int v :: st) h F) : ph_G Z own cc nL ret d tv pc ls st h F :=
  fun p e R s m args below meth c Q A cells slots X r hr fin H locs lsA hP hS hl => lv_ldcw X.ex X.bt X.ow (X.ts _ hc) hd (k p e R s m args below meth c Q A cells slots X r hr fin H locs lsA hP hS hl)
theorem ph_ldc2 {i : Nat} {v : Int64} (hd : decode cc pc = .ok (.ldc2_w i, 3)) (hc : Cond.constantLong own i v ∈ ph_tb) (k : ph_G Z own cc nL ret d tv (pc + 3) ls (.long v :: st) h F) : ph_G Z own cc nL ret d tv pc ls st h F :=
  fun p e R s m args below meth c Q A cells slots X r hr fin H locs lsA hP hS hl => lv_ldc2 X.ex X.bt X.ow (X.ts _ hc) hd (k p e R s m args below meth c Q A cells slots X r hr fin H locs lsA hP hS hl)
theorem ph_iload_n {k0 : Fin 4} {i : Nat} {x : Int32} (hd : decode cc pc = .ok (.iload_n k0, 1)) (hi : (k0 : Nat) = i) (hg : ls[i]? = some (some (.int x))) (k : ph_G Z own cc nL ret d tv (pc + 1) ls (.int x :: st) h F) : ph_G Z own cc nL ret d tv pc ls st h F :=
  fun p e R s m args below meth c Q A cells slots X r hr fin H locs lsA hP hS hl => lv_iload_n X.ex X.bt hd hi (hl.ta hg) (k p e R s m args below meth c Q A cells slots X r hr fin H locs lsA hP hS hl)
theorem ph_iload {i : Nat} {x : Int32} (hd : decode cc pc = .ok (.iload i, 2)) (hg : ls[i]? = some (some (.int x))) (k : ph_G Z own cc nL ret d tv (pc + 2) ls (.int x :: st) h F) : ph_G Z own cc nL ret d tv pc ls st h F :=
  fun p e R s m args below meth c Q A cells slots X r hr fin H locs lsA hP hS hl => lv_iload X.ex X.bt hd (hl.ta hg) (k p e R s m args below meth c Q A cells slots X r hr fin H locs lsA hP hS hl)
theorem ph_lload_n {k0 : Fin 4} {i : Nat} {x : Int64} (hd : decode cc pc = .ok (.lload_n k0, 1)) (hi : (k0 : Nat) = i) (hg : ls[i]? = some (some (.long x))) (k : ph_G Z own cc nL ret d tv (pc + 1) ls (.long x :: st) h F) : ph_G Z own cc nL ret d tv pc ls st h F :=
  fun p e R s m args below meth c Q A cells slots X r hr fin H locs lsA hP hS hl => lv_lload_n X.ex X.bt hd hi (hl.ta hg) (k p e R s m args below meth c Q A cells slots X r hr fin H locs lsA hP hS hl)
theorem ph_lload {i : Nat} {x : Int64} (hd : decode cc pc = .ok (.lload i, 2)) (hg : ls[i]? = some (some (.long x))) (k : ph_G Z own cc nL ret d tv (pc + 2) ls (.long x :: st) h F) : ph_G Z own cc nL ret d tv pc ls st h F :=
  fun p e R s m args below meth c Q A cells slots X r hr fin H locs lsA hP hS hl => lv_lload X.ex X.bt hd (hl.ta hg) (k p e R s m args below meth c Q A cells slots X r hr fin H locs lsA hP hS hl)
theorem ph_aload_n {k0 : Fin 4} {i : Nat} {x : Nat} (hd : decode cc pc = .ok (.aload_n k0, 1)) (hi : (k0 : Nat) = i) (hg : ls[i]? = some (some (.ref x))) (k : ph_G Z own cc nL ret d tv (pc + 1) ls (.ref x :: st) h F) : ph_G Z own cc nL ret d tv pc ls st h F :=
  fun p e R s m args below meth c Q A cells slots X r hr fin H locs lsA hP hS hl => lv_aload_n X.ex X.bt hd hi (hl.ta hg) (k p e R s m args below meth c Q A cells slots X r hr fin H locs lsA hP hS hl)
theorem ph_aload {i : Nat} {x : Nat} (hd : decode cc pc = .ok (.aload i, 2)) (hg : ls[i]? = some (some (.ref x))) (k : ph_G Z own cc nL ret d tv (pc + 2) ls (.ref x :: st) h F) : ph_G Z own cc nL ret d tv pc ls st h F :=
  fun p e R s m args below meth c Q A cells slots X r hr fin H locs lsA hP hS hl => lv_aload X.ex X.bt hd (hl.ta hg) (k p e R s m args below meth c Q A cells slots X r hr fin H locs lsA hP hS hl)
theorem ph_istore_n {k0 : Fin 4} {i : Nat} {x : Int32} {ls1 : List (Option Value)} (hd : decode cc pc = .ok (.istore_n k0, 1)) (hi : (k0 : Nat) = i) (hn : i < nL) (h1 : ph_set1 ls i (.int x) = ls1) (k : ph_G Z own cc nL ret d tv (pc + 1) ls1 st h F) : ph_G Z own cc nL ret d tv pc ls (.int x :: st) h F :=
  fun p e R s m args below meth c Q A cells slots X r hr fin H locs lsA hP hS hl => lv_istore_n X.ex X.bt hd hi hl hn rfl (fun ls2 h2 => k p e R s m args below meth c Q A cells slots X r hr fin H locs ls2 hP hS (h1 ▸ ph_lv_of1 h2))
theorem ph_istore {i : Nat} {x : Int32} {ls1 : List (Option Value)} (hd : decode cc pc = .ok (.istore i, 2)) (hn : i < nL) (h1 : ph_set1 ls i (.int x) = ls1) (k : ph_G Z own cc nL ret d tv (pc + 2) ls1 st h F) : ph_G Z own cc nL ret d tv pc ls (.int x :: st) h F :=
  fun p e R s m args below meth c Q A cells slots X r hr fin H locs lsA hP hS hl => lv_istore X.ex X.bt hd hl hn rfl (fun ls2 h2 => k p e R s m args below meth c Q A cells slots X r hr fin H locs ls2 hP hS (h1 ▸ ph_lv_of1 h2))
theorem ph_lstore_n {k0 : Fin 4} {i : Nat} {x : Int64} {ls1 : List (Option Value)} (hd : decode cc pc = .ok (.lstore_n k0, 1)) (hi : (k0 : Nat) = i) (hn : i + 1 < nL) (h1 : ph_set2 ls i (.long x) = ls1) (k : ph_G Z own cc nL ret d tv (pc + 1) ls1 st h F) : ph_G Z own cc nL ret d tv pc ls (.long x :: st) h F :=
  fun p e R s m args below meth c Q A cells slots X r hr fin H locs lsA hP hS hl => lv_lstore_n X.ex X.bt hd hi hl hn rfl (fun ls2 h2 => k p e R s m args below meth c Q A cells slots X r hr fin H locs ls2 hP hS (h1 ▸ ph_lv_of2 h2))
theorem ph_lstore {i : Nat} {x : Int64} {ls1 : List (Option Value)} (hd : decode cc pc = .ok (.lstore i, 2)) (hn : i + 1 < nL) (h1 : ph_set2 ls i (.long x) = ls1) (k : ph_G Z own cc nL ret d tv (pc + 2) ls1 st h F) : ph_G Z own cc nL ret d tv pc ls (.long x :: st) h F :=
  fun p e R s m args below meth c Q A cells slots X r hr fin H locs lsA hP hS hl => lv_lstore X.ex X.bt hd hl hn rfl (fun ls2 h2 => k p e R s m args below meth c Q A cells slots X r hr fin H locs ls2 hP hS (h1 ▸ ph_lv_of2 h2))
theorem ph_astore_n {k0 : Fin 4} {i : Nat} {x : Nat} {ls1 : List (Option Value)} (hd : decode cc pc = .ok (.astore_n k0, 1)) (hi : (k0 : Nat) = i) (hn : i < nL) (h1 : ph_set1 ls i (.ref x) = ls1) (k : ph_G Z own cc nL ret d tv (pc + 1) ls1 st h F) : ph_G Z own cc nL ret d tv pc ls (.ref x :: st) h F :=
  fun p e R s m args below meth c Q A cells slots X r hr fin H locs lsA hP hS hl => lv_astore_n X.ex X.bt hd hi hl hn rfl (fun ls2 h2 => k p e R s m args below meth c Q A cells slots X r hr fin H locs ls2 hP hS (h1 ▸ ph_lv_of1 h2))
theorem ph_astore {i : Nat} {x : Nat} {ls1 : List (Option Value)} (hd : decode cc pc = .ok (.astore i, 2)) (hn : i < nL) (h1 : ph_set1 ls i (.ref x) = ls1) (k : ph_G Z own cc nL ret d tv (pc + 2) ls1 st h F) : ph_G Z own cc nL ret d tv pc ls (.ref x :: st) h F :=
  fun p e R s m args below meth c Q A cells slots X r hr fin H locs lsA hP hS hl => lv_astore X.ex X.bt hd hl hn rfl (fun ls2 h2 => k p e R s m args below meth c Q A cells slots X r hr fin H locs ls2 hP hS (h1 ▸ ph_lv_of1 h2))
theorem ph_if_eq {x : Int32} {off : Int} {tgt : Nat} {F1 F2 : Option (ρ × ph_Hp)} (hd : decode cc pc = .ok (.ifCond .eq off, 3)) (ht : (pc : Int) + off = (tgt : Int)) (k1 : x = nI 0 → ph_G Z own cc nL ret d tv tgt ls st h F1) (k2 : ¬ (x = nI 0) → ph_G Z own cc nL ret d tv (pc + 3) ls st h F2) : ph_G Z own cc nL ret d tv pc ls (.int x :: st) h (if x = nI 0 then F1 else F2) :=
  fun p e R s m args below meth c Q A cells slots X r hr fin H locs lsA hP hS hl => lv_if_eq X.ex X.bt hd ht (fun c1 => k1 c1 p e R s m args below meth c Q A cells slots X r (by rw [if_pos (show x = nI 0 from c1)] at hr; exact hr) fin H locs lsA hP hS hl) (fun c1 => k2 c1 p e R s m args below meth c Q A cells slots X r (by rw [if_neg (show ¬ (x = nI 0) from c1)] at hr; exact hr) fin H locs lsA hP hS hl)
theorem ph_if_ne {x : Int32} {off : Int} {tgt : Nat} {F1 F2 : Option (ρ × ph_Hp)} (hd : decode cc pc = .ok (.ifCond .ne off, 3)) (ht : (pc : Int) + off = (tgt : Int)) (k1 : ¬ (x = nI 0) → ph_G Z own cc nL ret d tv tgt ls st h F1) (k2 : x = nI 0 → ph_G Z own cc nL ret d tv (pc + 3) ls st h F2) : ph_G Z own cc nL ret d tv pc ls (.int x :: st) h (if x = nI 0 then F2 else F1) :=
  fun p e R s m args below meth c Q A cells slots X r hr fin H locs lsA hP hS hl => lv_if_ne X.ex X.bt hd ht (fun c1 => k1 c1 p e R s m args below meth c Q A cells slots X r (by rw [if_neg (show ¬ (x = nI 0) from c1)] at hr; exact hr) fin H locs lsA hP hS hl) (fun c1 => k2 c1 p e R s m args below meth c Q A cells slots X r (by rw [if_pos (show x = nI 0 from c1)] at hr; exact hr) fin H locs lsA hP hS hl)
theorem ph_if_lt {x : Int32} {off : Int} {tgt : Nat} {F1 F2 : Option (ρ × ph_Hp)} (hd : decode cc pc = .ok (.ifCond .lt off, 3)) (ht : (pc : Int) + off = (tgt : Int)) (k1 : x < nI 0 → ph_G Z own cc nL ret d tv tgt ls st h F1) (k2 : ¬ (x < nI 0) → ph_G Z own cc nL ret d tv (pc + 3) ls st h F2) : ph_G Z own cc nL ret d tv pc ls (.int x :: st) h (if x < nI 0 then F1 else F2) :=
  fun p e R s m args below meth c Q A cells slots X r hr fin H locs lsA hP hS hl => lv_if_lt X.ex X.bt hd ht (fun c1 => k1 c1 p e R s m args below meth c Q A cells slots X r (by rw [if_pos (show x < nI 0 from c1)] at hr; exact hr) fin H locs lsA hP hS hl) (fun c1 => k2 c1 p e R s m args below meth c Q A cells slots X r (by rw [if_neg (show ¬ (x < nI 0) from c1)] at hr; exact hr) fin H locs lsA hP hS hl)
theorem ph_if_ge {x : Int32} {off : Int} {tgt : Nat} {F1 F2 : Option (ρ × ph_Hp)} (hd : decode cc pc = .ok (.ifCond .ge off, 3)) (ht : (pc : Int) + off = (tgt : Int)) (k1 : nI 0 ≤ x → ph_G Z own cc nL ret d tv tgt ls st h F1) (k2 : ¬ (nI 0 ≤ x) → ph_G Z own cc nL ret d tv (pc + 3) ls st h F2) : ph_G Z own cc nL ret d tv pc ls (.int x :: st) h (if nI 0 ≤ x then F1 else F2) :=
  fun p e R s m args below meth c Q A cells slots X r hr fin H locs lsA hP hS hl => lv_if_ge X.ex X.bt hd ht (fun c1 => k1 c1 p e R s m args below meth c Q A cells slots X r (by rw [if_pos (show nI 0 ≤ x from c1)] at hr; exact hr) fin H locs lsA hP hS hl) (fun c1 => k2 c1 p e R s m args below meth c Q A cells slots X r (by rw [if_neg (show ¬ (nI 0 ≤ x) from c1)] at hr; exact hr) fin H locs lsA hP hS hl)
theorem ph_if_gt {x : Int32} {off : Int} {tgt : Nat} {F1 F2 : Option (ρ × ph_Hp)} (hd : decode cc pc = .ok (.ifCond .gt off, 3)) (ht : (pc : Int) + off = (tgt : Int)) (k1 : nI 0 < x → ph_G Z own cc nL ret d tv tgt ls st h F1) (k2 : ¬ (nI 0 < x) → ph_G Z own cc nL ret d tv (pc + 3) ls st h F2) : ph_G Z own cc nL ret d tv pc ls (.int x :: st) h (if nI 0 < x then F1 else F2) :=
  fun p e R s m args below meth c Q A cells slots X r hr fin H locs lsA hP hS hl => lv_if_gt X.ex X.bt hd ht (fun c1 => k1 c1 p e R s m args below meth c Q A cells slots X r (by rw [if_pos (show nI 0 < x from c1)] at hr; exact hr) fin H locs lsA hP hS hl) (fun c1 => k2 c1 p e R s m args below meth c Q A cells slots X r (by rw [if_neg (show ¬ (nI 0 < x) from c1)] at hr; exact hr) fin H locs lsA hP hS hl)
theorem ph_if_le {x : Int32} {off : Int} {tgt : Nat} {F1 F2 : Option (ρ × ph_Hp)} (hd : decode cc pc = .ok (.ifCond .le off, 3)) (ht : (pc : Int) + off = (tgt : Int)) (k1 : x ≤ nI 0 → ph_G Z own cc nL ret d tv tgt ls st h F1) (k2 : ¬ (x ≤ nI 0) → ph_G Z own cc nL ret d tv (pc + 3) ls st h F2) : ph_G Z own cc nL ret d tv pc ls (.int x :: st) h (if x ≤ nI 0 then F1 else F2) :=
  fun p e R s m args below meth c Q A cells slots X r hr fin H locs lsA hP hS hl => lv_if_le X.ex X.bt hd ht (fun c1 => k1 c1 p e R s m args below meth c Q A cells slots X r (by rw [if_pos (show x ≤ nI 0 from c1)] at hr; exact hr) fin H locs lsA hP hS hl) (fun c1 => k2 c1 p e R s m args below meth c Q A cells slots X r (by rw [if_neg (show ¬ (x ≤ nI 0) from c1)] at hr; exact hr) fin H locs lsA hP hS hl)
theorem ph_icmp_eq {x y : Int32} {off : Int} {tgt : Nat} {F1 F2 : Option (ρ × ph_Hp)} (hd : decode cc pc = .ok (.if_icmp .eq off, 3)) (ht : (pc : Int) + off = (tgt : Int)) (k1 : x = y → ph_G Z own cc nL ret d tv tgt ls st h F1) (k2 : ¬ (x = y) → ph_G Z own cc nL ret d tv (pc + 3) ls st h F2) : ph_G Z own cc nL ret d tv pc ls (.int y :: .int x :: st) h (if x = y then F1 else F2) :=
  fun p e R s m args below meth c Q A cells slots X r hr fin H locs lsA hP hS hl => lv_icmp_eq X.ex X.bt hd ht (fun c1 => k1 c1 p e R s m args below meth c Q A cells slots X r (by rw [if_pos (show x = y from c1)] at hr; exact hr) fin H locs lsA hP hS hl) (fun c1 => k2 c1 p e R s m args below meth c Q A cells slots X r (by rw [if_neg (show ¬ (x = y) from c1)] at hr; exact hr) fin H locs lsA hP hS hl)
theorem ph_icmp_ne {x y : Int32} {off : Int} {tgt : Nat} {F1 F2 : Option (ρ × ph_Hp)} (hd : decode cc pc = .ok (.if_icmp .ne off, 3)) (ht : (pc : Int) + off = (tgt : Int)) (k1 : ¬ (x = y) → ph_G Z own cc nL ret d tv tgt ls st h F1) (k2 : x = y → ph_G Z own cc nL ret d tv (pc + 3) ls st h F2) : ph_G Z own cc nL ret d tv pc ls (.int y :: .int x :: st) h (if x = y then F2 else F1) :=
  fun p e R s m args below meth c Q A cells slots X r hr fin H locs lsA hP hS hl => lv_icmp_ne X.ex X.bt hd ht (fun c1 => k1 c1 p e R s m args below meth c Q A cells slots X r (by rw [if_neg (show ¬ (x = y) from c1)] at hr; exact hr) fin H locs lsA hP hS hl) (fun c1 => k2 c1 p e R s m args below meth c Q A cells slots X r (by rw [if_pos (show x = y from c1)] at hr; exact hr) fin H locs lsA hP hS hl)
theorem ph_icmp_lt {x y : Int32} {off : Int} {tgt : Nat} {F1 F2 : Option (ρ × ph_Hp)} (hd : decode cc pc = .ok (.if_icmp .lt off, 3)) (ht : (pc : Int) + off = (tgt : Int)) (k1 : x < y → ph_G Z own cc nL ret d tv tgt ls st h F1) (k2 : ¬ (x < y) → ph_G Z own cc nL ret d tv (pc + 3) ls st h F2) : ph_G Z own cc nL ret d tv pc ls (.int y :: .int x :: st) h (if x < y then F1 else F2) :=
  fun p e R s m args below meth c Q A cells slots X r hr fin H locs lsA hP hS hl => lv_icmp_lt X.ex X.bt hd ht (fun c1 => k1 c1 p e R s m args below meth c Q A cells slots X r (by rw [if_pos (show x < y from c1)] at hr; exact hr) fin H locs lsA hP hS hl) (fun c1 => k2 c1 p e R s m args below meth c Q A cells slots X r (by rw [if_neg (show ¬ (x < y) from c1)] at hr; exact hr) fin H locs lsA hP hS hl)
theorem ph_icmp_ge {x y : Int32} {off : Int} {tgt : Nat} {F1 F2 : Option (ρ × ph_Hp)} (hd : decode cc pc = .ok (.if_icmp .ge off, 3)) (ht : (pc : Int) + off = (tgt : Int)) (k1 : y ≤ x → ph_G Z own cc nL ret d tv tgt ls st h F1) (k2 : ¬ (y ≤ x) → ph_G Z own cc nL ret d tv (pc + 3) ls st h F2) : ph_G Z own cc nL ret d tv pc ls (.int y :: .int x :: st) h (if y ≤ x then F1 else F2) :=
  fun p e R s m args below meth c Q A cells slots X r hr fin H locs lsA hP hS hl => lv_icmp_ge X.ex X.bt hd ht (fun c1 => k1 c1 p e R s m args below meth c Q A cells slots X r (by rw [if_pos (show y ≤ x from c1)] at hr; exact hr) fin H locs lsA hP hS hl) (fun c1 => k2 c1 p e R s m args below meth c Q A cells slots X r (by rw [if_neg (show ¬ (y ≤ x) from c1)] at hr; exact hr) fin H locs lsA hP hS hl)
theorem ph_icmp_gt {x y : Int32} {off : Int} {tgt : Nat} {F1 F2 : Option (ρ × ph_Hp)} (hd : decode cc pc = .ok (.if_icmp .gt off, 3)) (ht : (pc : Int) + off = (tgt : Int)) (k1 : y < x → ph_G Z own cc nL ret d tv tgt ls st h F1) (k2 : ¬ (y < x) → ph_G Z own cc nL ret d tv (pc + 3) ls st h F2) : ph_G Z own cc nL ret d tv pc ls (.int y :: .int x :: st) h (if y < x then F1 else F2) :=
  fun p e R s m args below meth c Q A cells slots X r hr fin H locs lsA hP hS hl => lv_icmp_gt X.ex X.bt hd ht (fun c1 => k1 c1 p e R s m args below meth c Q A cells slots X r (by rw [if_pos (show y < x from c1)] at hr; exact hr) fin H locs lsA hP hS hl) (fun c1 => k2 c1 p e R s m args below meth c Q A cells slots X r (by rw [if_neg (show ¬ (y < x) from c1)] at hr; exact hr) fin H locs lsA hP hS hl)
theorem ph_icmp_le {x y : Int32} {off : Int} {tgt : Nat} {F1 F2 : Option (ρ × ph_Hp)} (hd : decode cc pc = .ok (.if_icmp .le off, 3)) (ht : (pc : Int) + off = (tgt : Int)) (k1 : x ≤ y → ph_G Z own cc nL ret d tv tgt ls st h F1) (k2 : ¬ (x ≤ y) → ph_G Z own cc nL ret d tv (pc + 3) ls st h F2) : ph_G Z own cc nL ret d tv pc ls (.int y :: .int x :: st) h (if x ≤ y then F1 else F2) :=
  fun p e R s m args below meth c Q A cells slots X r hr fin H locs lsA hP hS hl => lv_icmp_le X.ex X.bt hd ht (fun c1 => k1 c1 p e R s m args below meth c Q A cells slots X r (by rw [if_pos (show x ≤ y from c1)] at hr; exact hr) fin H locs lsA hP hS hl) (fun c1 => k2 c1 p e R s m args below meth c Q A cells slots X r (by rw [if_neg (show ¬ (x ≤ y) from c1)] at hr; exact hr) fin H locs lsA hP hS hl)
theorem ph_goto {off : Int} {tgt : Nat} (hd : decode cc pc = .ok (.goto off, 3)) (ht : (pc : Int) + off = (tgt : Int)) (k : ph_G Z own cc nL ret d tv tgt ls st h F) : ph_G Z own cc nL ret d tv pc ls st h F :=
  fun p e R s m args below meth c Q A cells slots X r hr fin H locs lsA hP hS hl => lv_goto X.ex X.bt hd ht (k p e R s m args below meth c Q A cells slots X r hr fin H locs lsA hP hS hl)
end PHR
section PHS
variable {Z : ph_L} {own : String} {cc : ByteArray} {nL : Nat} {ret : Option FieldType} {d : Nat} {ρ : Type} {tv : ρ → Option Value} {pc : Nat} {ls : List (Option Value)} {st : List Value} {h : ph_Hp} {F : Option (ρ × ph_Hp)}
theorem ph_none : ph_G Z own cc nL ret d tv pc ls st h none := fun p e R s m args below meth c Q A cells slots X r hr => by cases hr
theorem ph_eqF {F1 : Option (ρ × ph_Hp)} (e : F = F1) (k : ph_G Z own cc nL ret d tv pc ls st h F1) : ph_G Z own cc nL ret d tv pc ls st h F := e ▸ k
theorem ph_iinc {i : Nat} {n : Int} {x v : Int32} {ls1 : List (Option Value)} (hd : decode cc pc = .ok (.iinc i n, 3)) (hg : ls[i]? = some (some (.int x))) (hv : Int32.ofInt n = v) (hn : i < nL) (h1 : ph_set1 ls i (.int (x + v)) = ls1) (k : ph_G Z own cc nL ret d tv (pc + 3) ls1 st h F) : ph_G Z own cc nL ret d tv pc ls st h F := by
  intro p e R s m args below meth c Q A cells slots X r hr fin H locs lsA hP hS hl
  obtain ⟨k0, hk0⟩ := List.getElem?_of_mem ((ph_kn_mem ls 0 i (.int x)).mpr ⟨i, hg, by omega⟩)
  exact lv_iinc X.ex X.bt hd hl hk0 (by rw [hv]) hn rfl (fun ls2 h2 => k p e R s m args below meth c Q A cells slots X r hr fin H locs ls2 hP hS (h1 ▸ ph_lv_of1 h2))
-- returns
theorem ph_iret {ret : Option FieldType} {v : Int32} (hd : decode cc pc = .ok (.ireturn, 1)) (hr2 : ret = some .int) : ph_G Z own cc nL ret d ph_vi pc ls [.int v] h (some (v, h)) := by
  intro p e R s m args below meth c Q A cells slots X r hr fin H locs lsA hP hS hl
  cases hr
  exact fin H locs lsA pc hP hS ⟨hd, .int, hr2, rfl⟩
theorem ph_zret {ret : Option FieldType} {v : Int32} (hd : decode cc pc = .ok (.ireturn, 1)) (hr2 : ret = some .boolean) : ph_G Z own cc nL ret d ph_vi pc ls [.int v] h (ph_rz v h) := by
  intro p e R s m args below meth c Q A cells slots X r hr fin H locs lsA hP hS hl
  unfold ph_rz at hr
  by_cases hv : v = nI 0 ∨ v = nI 1
  · rw [if_pos hv] at hr
    cases hr
    refine fin H locs lsA pc hP hS ⟨hd, .boolean, hr2, ?_⟩
    rcases hv with hv | hv <;> (show narrow .boolean (.int v) = .int v; rw [hv]; rfl)
  · rw [if_neg hv] at hr
    cases hr
theorem ph_lret {ret : Option FieldType} {v : Int64} (hd : decode cc pc = .ok (.lreturn, 1)) (hr2 : ret = some .long) : ph_G Z own cc nL ret d ph_vl pc ls [.long v] h (some (v, h)) := by
  intro p e R s m args below meth c Q A cells slots X r hr fin H locs lsA hP hS hl
  cases hr
  exact fin H locs lsA pc hP hS ⟨hd, hr2⟩
theorem ph_vret {ret : Option FieldType} (hd : decode cc pc = .ok (.return_, 1)) (hr2 : ret = none) : ph_G Z own cc nL ret d ph_vv pc ls [] h (some ((), h)) := by
  intro p e R s m args below meth c Q A cells slots X r hr fin H locs lsA hP hS hl
  cases hr
  exact fin H locs lsA pc hP hS ⟨hr2, hd⟩
theorem ph_aret {ret : Option FieldType} {n : String} {v : Nat} (hd : decode cc pc = .ok (.areturn, 1)) (hr2 : ret = some (.object n)) : ph_G Z own cc nL ret d (ph_vr Z) pc ls [.ref (ph_a Z v)] h (some (v, h)) := by
  intro p e R s m args below meth c Q A cells slots X r hr fin H locs lsA hP hS hl
  cases hr
  exact fin H locs lsA pc hP hS ⟨hd, n, hr2⟩
-- joins and loops
theorem ph_join {α : Type} {f : α → Option (ρ × ph_Hp)} {b : (α → Option (ρ × ph_Hp)) → Option (ρ × ph_Hp)} (pcj : Nat) (lsj : α → List (Option Value)) (stj : α → List Value) (hj : α → ph_Hp) (k1 : ∀ x, ph_G Z own cc nL ret d tv pcj (lsj x) (stj x) (hj x) (f x)) (k2 : ∀ j : α → Option (ρ × ph_Hp), (∀ x, ph_G Z own cc nL ret d tv pcj (lsj x) (stj x) (hj x) (j x)) → ph_G Z own cc nL ret d tv pc ls st h (b j)) : ph_G Z own cc nL ret d tv pc ls st h (ph_jn f b) := k2 f k1
theorem ph_loop {α : Type} {body : (α → Option (ρ × ph_Hp)) → α → Option (ρ × ph_Hp)} (pcj : Nat) (lsj : α → List (Option Value)) (stj : α → List Value) (hj : α → ph_Hp) (k : ∀ j : α → Option (ρ × ph_Hp), (∀ x, ph_G Z own cc nL ret d tv pcj (lsj x) (stj x) (hj x) (j x)) → ∀ x, ph_G Z own cc nL ret d tv pcj (lsj x) (stj x) (hj x) (body j x)) : ∀ (n : Nat) (x : α), ph_G Z own cc nL ret d tv pcj (lsj x) (stj x) (hj x) (ph_lp body n x)
  | 0, x => ph_none
  | n + 1, x => k (ph_lp body n) (ph_loop pcj lsj stj hj k n) x
-- divisions
theorem ph_idiv {x y : Int32} {K : Int32 → Option (ρ × ph_Hp)} (hd : decode cc pc = .ok (.idiv, 1)) (k : ph_G Z own cc nL ret d tv (pc + 1) ls (.int (x / y) :: st) h (K (x / y))) : ph_G Z own cc nL ret d tv pc ls (.int y :: .int x :: st) h (ph_dvI x y K) := by
  intro p e R s m args below meth c Q A cells slots X r hr fin H locs lsA hP hS hl
  unfold ph_dvI at hr
  by_cases hy : y = nI 0
  · rw [if_pos hy] at hr; cases hr
  · rw [if_neg hy] at hr
    exact lv_idiv X.ex X.bt hd hy (k p e R s m args below meth c Q A cells slots X r hr fin H locs lsA hP hS hl)
theorem ph_iremr {x y : Int32} {K : Int32 → Option (ρ × ph_Hp)} (hd : decode cc pc = .ok (.irem, 1)) (k : ph_G Z own cc nL ret d tv (pc + 1) ls (.int (ph_irem x y) :: st) h (K (ph_irem x y))) : ph_G Z own cc nL ret d tv pc ls (.int y :: .int x :: st) h (ph_rmI x y K) := by
  intro p e R s m args below meth c Q A cells slots X r hr fin H locs lsA hP hS hl
  unfold ph_rmI at hr
  by_cases hy : y = nI 0
  · rw [if_pos hy] at hr; cases hr
  · rw [if_neg hy] at hr
    exact lv_irem X.ex X.bt hd hy (k p e R s m args below meth c Q A cells slots X r hr fin H locs lsA hP hS hl)
theorem ph_ldiv {x y : Int64} {K : Int64 → Option (ρ × ph_Hp)} (hd : decode cc pc = .ok (.ldiv, 1)) (k : ph_G Z own cc nL ret d tv (pc + 1) ls (.long (x / y) :: st) h (K (x / y))) : ph_G Z own cc nL ret d tv pc ls (.long y :: .long x :: st) h (ph_dvJ x y K) := by
  intro p e R s m args below meth c Q A cells slots X r hr fin H locs lsA hP hS hl
  unfold ph_dvJ at hr
  by_cases hy : y = lN 0
  · rw [if_pos hy] at hr; cases hr
  · rw [if_neg hy] at hr
    exact lv_ldiv X.ex X.bt hd hy (k p e R s m args below meth c Q A cells slots X r hr fin H locs lsA hP hS hl)
theorem ph_lremr {x y : Int64} {K : Int64 → Option (ρ × ph_Hp)} (hd : decode cc pc = .ok (.lrem, 1)) (k : ph_G Z own cc nL ret d tv (pc + 1) ls (.long (ph_lrem x y) :: st) h (K (ph_lrem x y))) : ph_G Z own cc nL ret d tv pc ls (.long y :: .long x :: st) h (ph_rmJ x y K) := by
  intro p e R s m args below meth c Q A cells slots X r hr fin H locs lsA hP hS hl
  unfold ph_rmJ at hr
  by_cases hy : y = lN 0
  · rw [if_pos hy] at hr; cases hr
  · rw [if_neg hy] at hr
    exact lv_lrem X.ex X.bt hd hy (k p e R s m args below meth c Q A cells slots X r hr fin H locs lsA hP hS hl)
-- division by a number that is not 0
theorem ph_idivK {x y : Int32} (hd : decode cc pc = .ok (.idiv, 1)) (hy : ¬ y = 0) (k : ph_G Z own cc nL ret d tv (pc + 1) ls (.int (x / y) :: st) h F) : ph_G Z own cc nL ret d tv pc ls (.int y :: .int x :: st) h F :=
  fun p e R s m args below meth c Q A cells slots X r hr fin H locs lsA hP hS hl => lv_idiv X.ex X.bt hd hy (k p e R s m args below meth c Q A cells slots X r hr fin H locs lsA hP hS hl)
theorem ph_iremK {x y : Int32} (hd : decode cc pc = .ok (.irem, 1)) (hy : ¬ y = 0) (k : ph_G Z own cc nL ret d tv (pc + 1) ls (.int (ph_irem x y) :: st) h F) : ph_G Z own cc nL ret d tv pc ls (.int y :: .int x :: st) h F :=
  fun p e R s m args below meth c Q A cells slots X r hr fin H locs lsA hP hS hl => lv_irem X.ex X.bt hd hy (k p e R s m args below meth c Q A cells slots X r hr fin H locs lsA hP hS hl)
theorem ph_ldivK {x y : Int64} (hd : decode cc pc = .ok (.ldiv, 1)) (hy : ¬ y = 0) (k : ph_G Z own cc nL ret d tv (pc + 1) ls (.long (x / y) :: st) h F) : ph_G Z own cc nL ret d tv pc ls (.long y :: .long x :: st) h F :=
  fun p e R s m args below meth c Q A cells slots X r hr fin H locs lsA hP hS hl => lv_ldiv X.ex X.bt hd hy (k p e R s m args below meth c Q A cells slots X r hr fin H locs lsA hP hS hl)
-- switches: a case, the rest
theorem ph_tin {dflt lo hi : Int} {offs : Array Int} {len : Nat} {x v : Int32} {off : Int} {tgt : Nat} (hd : decode cc pc = .ok (.tableswitch dflt lo hi offs, len)) (hx : x = v) (h1 : ¬ v.toInt < lo) (h2 : ¬ hi < v.toInt) (ho : offs[(v.toInt - lo).toNat]? = some off) (ht : (pc : Int) + off = (tgt : Int)) (k : ph_G Z own cc nL ret d tv tgt ls st h F) : ph_G Z own cc nL ret d tv pc ls (.int x :: st) h F := by
  subst hx
  exact fun p e R s m args below meth c Q A cells slots X r hr fin H locs lsA hP hS hl => lv_tableIn X.ex X.bt hd h1 h2 ho ht (k p e R s m args below meth c Q A cells slots X r hr fin H locs lsA hP hS hl)
theorem ph_tout {dflt lo hi : Int} {offs : Array Int} {len : Nat} {x : Int32} {tgt : Nat} (hd : decode cc pc = .ok (.tableswitch dflt lo hi offs, len)) (h0 : x.toInt < lo ∨ hi < x.toInt) (ht : (pc : Int) + dflt = (tgt : Int)) (k : ph_G Z own cc nL ret d tv tgt ls st h F) : ph_G Z own cc nL ret d tv pc ls (.int x :: st) h F :=
  fun p e R s m args below meth c Q A cells slots X r hr fin H locs lsA hP hS hl => lv_tableOut X.ex X.bt hd h0 ht (k p e R s m args below meth c Q A cells slots X r hr fin H locs lsA hP hS hl)
theorem ph_lsw {dflt : Int} {ps : Array (Int × Int)} {len : Nat} {x : Int32} {off : Int} {tgt : Nat} (hd : decode cc pc = .ok (.lookupswitch dflt ps, len)) (hp : (ps.toList.zip (ps.toList.drop 1)).all (fun (a, next) => a.1 < next.1) = true) (ho : Op.lookupswitch.offset ps.toList dflt x.toInt = off) (ht : (pc : Int) + off = (tgt : Int)) (k : ph_G Z own cc nL ret d tv tgt ls st h F) : ph_G Z own cc nL ret d tv pc ls (.int x :: st) h F :=
  fun p e R s m args below meth c Q A cells slots X r hr fin H locs lsA hP hS hl => lv_lookup X.ex X.bt hd hp ho ht (k p e R s m args below meth c Q A cells slots X r hr fin H locs lsA hP hS hl)
theorem ph_ite {P : Prop} [Decidable P] {F1 F2 : Option (ρ × ph_Hp)} (k1 : P → ph_G Z own cc nL ret d tv pc ls st h F1) (k2 : ¬ P → ph_G Z own cc nL ret d tv pc ls st h F2) : ph_G Z own cc nL ret d tv pc ls st h (if P then F1 else F2) := by
  by_cases hP : P
  · rw [if_pos hP]; exact k1 hP
  · rw [if_neg hP]; exact k2 hP
theorem ph_isKr {r0 k0 : Nat} (k : ph_kd r0 = k0 → ph_G Z own cc nL ret d tv pc ls st h F) : ph_G Z own cc nL ret d tv pc ls st h (ph_isK r0 k0 F) := by
  unfold ph_isK
  by_cases hP : ph_kd r0 = k0
  · rw [if_pos hP]; exact k hP
  · rw [if_neg hP]; exact ph_none
-- arrays
theorem ph_cell_I (Z : ph_L) (f : Nat → Int32) (g : Nat → Int64) {i : Nat} (hk : ph_kd i = 10) : ph_cell Z f g i = .inl (ph_cI Z, ph_ln i, .inl f) := by unfold ph_cell; rw [if_pos hk]
theorem ph_cell_Z (Z : ph_L) (f : Nat → Int32) (g : Nat → Int64) {i : Nat} (hk : ph_kd i = 11) : ph_cell Z f g i = .inl (ph_cZ Z, ph_ln i, .inl f) := by unfold ph_cell; rw [if_neg (by omega), if_pos hk]
theorem ph_cell_J (Z : ph_L) (f : Nat → Int32) (g : Nat → Int64) {i : Nat} (hk : ph_kd i = 12) : ph_cell Z f g i = .inl (ph_cJ Z, ph_ln i, .inr (.inl g)) := by unfold ph_cell; rw [if_neg (by omega), if_neg (by omega), if_pos hk]
theorem ph_cell_o (Z : ph_L) (f : Nat → Int32) (g : Nat → Int64) {i ci : Nat} (hk : ph_kd i = ci) (hc : ci < 10) : ph_cell Z f g i = .inr (ci, ph_flds Z f g i) := by unfold ph_cell; rw [if_neg (by omega), if_neg (by omega), if_neg (by omega), hk]
theorem ph_atI (Z : ph_L) (h : ph_Hp) {i : Nat} (hk : ph_kd i = 10) : (ph_ws Z h)[i]? = some (ph_a Z i, .inl (ph_cI Z, ph_ln i, .inl (h.1 i))) := by rw [ph_ws_at Z h (ph_lt (by omega)), ph_cell_I Z _ _ hk]
theorem ph_atZ (Z : ph_L) (h : ph_Hp) {i : Nat} (hk : ph_kd i = 11) : (ph_ws Z h)[i]? = some (ph_a Z i, .inl (ph_cZ Z, ph_ln i, .inl (h.1 i))) := by rw [ph_ws_at Z h (ph_lt (by omega)), ph_cell_Z Z _ _ hk]
theorem ph_atJ (Z : ph_L) (h : ph_Hp) {i : Nat} (hk : ph_kd i = 12) : (ph_ws Z h)[i]? = some (ph_a Z i, .inl (ph_cJ Z, ph_ln i, .inr (.inl (h.2 i)))) := by rw [ph_ws_at Z h (ph_lt (by omega)), ph_cell_J Z _ _ hk]
theorem ph_ato (Z : ph_L) (h : ph_Hp) {i ci : Nat} (hk : ph_kd i = ci) (hc : ci < 10) : (ph_ws Z h)[i]? = some (ph_a Z i, .inr (ci, ph_flds Z (h.1 i) (h.2 i) i)) := by rw [ph_ws_at Z h (ph_lt (by omega)), ph_cell_o Z _ _ hk hc]
theorem ph_vin {i : Int32} {n : Nat} (h : 0 ≤ i.toInt ∧ i.toInt < (n : Int)) : vp_in i n := vp_in_iff.mpr h
theorem ph_iald {q n : Nat} {i : Int32} {K : Int32 → Option (ρ × ph_Hp)} (hd : decode cc pc = .ok (.iaload, 1)) (hk : ph_kd q = 10) (hn : ph_ln q = n) (k : ∀ x, ph_G Z own cc nL ret d tv (pc + 1) ls (.int x :: st) h (K x)) : ph_G Z own cc nL ret d tv pc ls (.int i :: .ref (ph_a Z q) :: st) h (ph_ldI h q n i K) := by
  subst hn
  intro p e R s m args below meth c Q A cells slots X r hr fin H locs lsA hP hS hl
  unfold ph_ldI at hr
  by_cases hc : 0 ≤ i.toInt ∧ i.toInt < (ph_ln q : Int)
  · rw [if_pos hc] at hr
    exact va_iald X.ex X.bt X.kk hP q 0 (ph_atI Z h hk) rfl (ph_vin hc) hd (k _ p e R s m args below meth c Q A cells slots X r hr fin H locs lsA hP hS hl)
  · rw [if_neg hc] at hr; cases hr
theorem ph_zald {q n : Nat} {i : Int32} {K : Int32 → Option (ρ × ph_Hp)} (hd : decode cc pc = .ok (.baload, 1)) (hk : ph_kd q = 11) (hn : ph_ln q = n) (k : ∀ x, ph_G Z own cc nL ret d tv (pc + 1) ls (.int x :: st) h (K x)) : ph_G Z own cc nL ret d tv pc ls (.int i :: .ref (ph_a Z q) :: st) h (ph_ldI h q n i K) := by
  subst hn
  intro p e R s m args below meth c Q A cells slots X r hr fin H locs lsA hP hS hl
  unfold ph_ldI at hr
  by_cases hc : 0 ≤ i.toInt ∧ i.toInt < (ph_ln q : Int)
  · rw [if_pos hc] at hr
    exact va_zald X.ex X.bt X.kk hP q 1 (ph_atZ Z h hk) rfl (ph_vin hc) hd (k _ p e R s m args below meth c Q A cells slots X r hr fin H locs lsA hP hS hl)
  · rw [if_neg hc] at hr; cases hr
theorem ph_lald {q n : Nat} {i : Int32} {K : Int64 → Option (ρ × ph_Hp)} (hd : decode cc pc = .ok (.laload, 1)) (hk : ph_kd q = 12) (hn : ph_ln q = n) (k : ∀ x, ph_G Z own cc nL ret d tv (pc + 1) ls (.long x :: st) h (K x)) : ph_G Z own cc nL ret d tv pc ls (.int i :: .ref (ph_a Z q) :: st) h (ph_ldJ h q n i K) := by
  subst hn
  intro p e R s m args below meth c Q A cells slots X r hr fin H locs lsA hP hS hl
  unfold ph_ldJ at hr
  by_cases hc : 0 ≤ i.toInt ∧ i.toInt < (ph_ln q : Int)
  · rw [if_pos hc] at hr
    exact va_lald X.ex X.bt X.kk hP q 2 (ph_atJ Z h hk) rfl (ph_vin hc) hd (k _ p e R s m args below meth c Q A cells slots X r hr fin H locs lsA hP hS hl)
  · rw [if_neg hc] at hr; cases hr
theorem ph_iast {q n : Nat} {i x : Int32} {K : ph_Hp → Option (ρ × ph_Hp)} (hd : decode cc pc = .ok (.iastore, 1)) (hk : ph_kd q = 10) (hn : ph_ln q = n) (k : ∀ h1, ph_G Z own cc nL ret d tv (pc + 1) ls st h1 (K h1)) : ph_G Z own cc nL ret d tv pc ls (.int x :: .int i :: .ref (ph_a Z q) :: st) h (ph_stI h q n i x K) := by
  subst hn
  intro p e R s m args below meth c Q A cells slots X r hr fin H locs lsA hP hS hl
  unfold ph_stI at hr
  by_cases hc : 0 ≤ i.toInt ∧ i.toInt < (ph_ln q : Int)
  · rw [if_pos hc] at hr
    refine va_iast X.ex X.bt X.kk hP X.dd hS q 0 (ph_atI Z h hk) rfl (ph_vin hc) hd (fun H1 locs1 hP1 hD1 hS1 => ?_)
    rw [ph_ws_set (h1 := ph_sI h q i.toNatClampNeg x) (by rw [ph_cell_I Z _ _ hk, ph_sI_i]) (ph_sI_o h q _ x)] at hP1
    exact k _ p e R s m args below meth c Q A cells slots X r hr fin H1 locs1 lsA hP1 hS1 hl
  · rw [if_neg hc] at hr; cases hr
theorem ph_zast {q n : Nat} {i x : Int32} {K : ph_Hp → Option (ρ × ph_Hp)} (hd : decode cc pc = .ok (.bastore, 1)) (hk : ph_kd q = 11) (hn : ph_ln q = n) (k : ∀ h1, ph_G Z own cc nL ret d tv (pc + 1) ls st h1 (K h1)) : ph_G Z own cc nL ret d tv pc ls (.int x :: .int i :: .ref (ph_a Z q) :: st) h (ph_stZ h q n i x K) := by
  subst hn
  intro p e R s m args below meth c Q A cells slots X r hr fin H locs lsA hP hS hl
  unfold ph_stZ at hr
  by_cases hc : 0 ≤ i.toInt ∧ i.toInt < (ph_ln q : Int)
  · rw [if_pos hc] at hr
    refine va_zast X.ex X.bt X.kk hP X.dd hS q 1 (ph_atZ Z h hk) rfl (ph_vin hc) hd (fun H1 locs1 hP1 hD1 hS1 => ?_)
    rw [ph_ws_set (h1 := ph_sI h q i.toNatClampNeg (vp_nar .boolean x)) (by rw [ph_cell_Z Z _ _ hk, ph_sI_i]) (ph_sI_o h q _ _)] at hP1
    exact k _ p e R s m args below meth c Q A cells slots X r hr fin H1 locs1 lsA hP1 hS1 hl
  · rw [if_neg hc] at hr; cases hr
theorem ph_last {q n : Nat} {i : Int32} {x : Int64} {K : ph_Hp → Option (ρ × ph_Hp)} (hd : decode cc pc = .ok (.lastore, 1)) (hk : ph_kd q = 12) (hn : ph_ln q = n) (k : ∀ h1, ph_G Z own cc nL ret d tv (pc + 1) ls st h1 (K h1)) : ph_G Z own cc nL ret d tv pc ls (.long x :: .int i :: .ref (ph_a Z q) :: st) h (ph_stJ h q n i x K) := by
  subst hn
  intro p e R s m args below meth c Q A cells slots X r hr fin H locs lsA hP hS hl
  unfold ph_stJ at hr
  by_cases hc : 0 ≤ i.toInt ∧ i.toInt < (ph_ln q : Int)
  · rw [if_pos hc] at hr
    refine va_last X.ex X.bt X.kk hP X.dd hS q 2 (ph_atJ Z h hk) rfl (ph_vin hc) hd (fun H1 locs1 hP1 hD1 hS1 => ?_)
    rw [ph_ws_set (h1 := ph_sJ h q i.toNatClampNeg x) (by rw [ph_cell_J Z _ _ hk, ph_sJ_i]) (ph_sJ_o h q _ x)] at hP1
    exact k _ p e R s m args below meth c Q A cells slots X r hr fin H1 locs1 lsA hP1 hS1 hl
  · rw [if_neg hc] at hr; cases hr
theorem ph_alen {q : Nat} {v : Int32} (hd : decode cc pc = .ok (.arraylength, 1)) (hk : ph_kd q = 10) (hv : Int32.ofNat (ph_ln q) = v) (k : ph_G Z own cc nL ret d tv (pc + 1) ls (.int v :: st) h F) : ph_G Z own cc nL ret d tv pc ls (.ref (ph_a Z q) :: st) h F :=
  fun p e R s m args below meth c Q A cells slots X r hr fin H locs lsA hP hS hl => va_alen X.ex X.bt X.kk hP q 0 (ph_atI Z h hk) rfl hv hd (k p e R s m args below meth c Q A cells slots X r hr fin H locs lsA hP hS hl)
-- the script (the law's own)
theorem ph_slen (hd : decode cc pc = .ok (.arraylength, 1)) (ho : own = RL) (k : ph_G Z own cc nL ret d tv (pc + 1) ls (.int (nI (ph_n Z)) :: st) h F) : ph_G Z own cc nL ret d tv pc ls (.ref (ph_b Z) :: st) h F :=
  fun p e R s m args below meth c Q A cells slots X r hr fin H locs lsA hP hS hl => va_slen X.ex X.bt (X.sc ho).1 (X.sc ho).2.1 (X.sc ho).2.2 hS hd (k p e R s m args below meth c Q A cells slots X r hr fin H locs lsA hP hS hl)
theorem ph_sald {i : Int32} {K : Int32 → Option (ρ × ph_Hp)} (hd : decode cc pc = .ok (.iaload, 1)) (ho : own = RL) (k : ∀ x, ph_G Z own cc nL ret d tv (pc + 1) ls (.int x :: st) h (K x)) : ph_G Z own cc nL ret d tv pc ls (.int i :: .ref (ph_b Z) :: st) h (ph_ldS Z i K) := by
  intro p e R s m args below meth c Q A cells slots X r hr fin H locs lsA hP hS hl
  unfold ph_ldS at hr
  by_cases hc : 0 ≤ i.toInt ∧ i.toInt < (ph_n Z : Int)
  · rw [if_pos hc] at hr
    exact va_sld X.ex X.bt (X.sc ho).1 (X.sc ho).2.1 (X.sc ho).2.2 hS (ph_vin hc) hd (k _ p e R s m args below meth c Q A cells slots X r hr fin H locs lsA hP hS hl)
  · rw [if_neg hc] at hr; cases hr
-- the static table
theorem ph_gets {i : Nat} (hd : decode cc pc = .ok (.getstatic i, 3)) (hc : Cond.fieldLink own i "PromptHoles" "DIGEST_STEPS" "[I" ∈ ph_tb) (k : ph_G Z own cc nL ret d tv (pc + 3) ls (.ref (ph_t Z) :: st) h F) : ph_G Z own cc nL ret d tv pc ls st h F :=
  fun p e R s m args below meth c Q A cells slots X r hr fin H locs lsA hP hS hl => va_gets X.ex X.bt X.sa.1 hS X.ow (X.ts _ hc) (fun _ h9 => h9) hd (k p e R s m args below meth c Q A cells slots X r hr fin H locs lsA hP hS hl)
theorem ph_tlen (hd : decode cc pc = .ok (.arraylength, 1)) (k : ph_G Z own cc nL ret d tv (pc + 1) ls (.int (nI 5) :: st) h F) : ph_G Z own cc nL ret d tv pc ls (.ref (ph_t Z) :: st) h F :=
  fun p e R s m args below meth c Q A cells slots X r hr fin H locs lsA hP hS hl => va_tlen X.ex X.bt X.sa.2 hS (by decide) hd (k p e R s m args below meth c Q A cells slots X r hr fin H locs lsA hP hS hl)
theorem ph_tald {i : Int32} {K : Int32 → Option (ρ × ph_Hp)} (hd : decode cc pc = .ok (.iaload, 1)) (k : ∀ x, ph_G Z own cc nL ret d tv (pc + 1) ls (.int x :: st) h (K x)) : ph_G Z own cc nL ret d tv pc ls (.int i :: .ref (ph_t Z) :: st) h (ph_ldT i K) := by
  intro p e R s m args below meth c Q A cells slots X r hr fin H locs lsA hP hS hl
  unfold ph_ldT at hr
  by_cases hc : 0 ≤ i.toInt ∧ i.toInt < (5 : Int)
  · rw [if_pos hc] at hr
    exact va_ti X.ex X.bt X.sa.2 hS (ph_vin hc) rfl hd (k _ p e R s m args below meth c Q A cells slots X r hr fin H locs lsA hP hS hl)
  · rw [if_neg hc] at hr; cases hr
end PHS
-- fields: which place of which table a pool entry names
def ph_FL (own : String) (idx ci k : Nat) : Prop := ∃ (C : String) (T : u_T) (N : Nat), vwCl[ci]? = some (C, T, N) ∧ k < N ∧ k < ph_cn ci ∧ (Cond.fieldLink own idx (T k).1 (T k).2.1 (T k).2.2.1 ∈ ph_tb ∨ ∃ host, Cond.fieldLinkNest own idx (T k).1 (T k).2.1 (T k).2.2.1 host ∈ ph_ns)
def ph_PL (own : String) (idx ci k : Nat) (ty : FieldType) : Prop := ∃ (C : String) (T : u_T) (N : Nat), vwCl[ci]? = some (C, T, N) ∧ k < N ∧ k < ph_cn ci ∧ Cond.fieldLink own idx (T k).1 (T k).2.1 (T k).2.2.1 ∈ ph_tb ∧ (T k).2.2.2 = false ∧ parseFieldDescriptor (T k).2.2.1 = some ty
def ph_Cf : Prop := ∀ (ci : Nat) (C : String) (T : u_T) (N : Nat), vwCl[ci]? = some (C, T, N) → ci < 10 ∧ (∀ w ∈ u_ws C T N, w ∈ ph_tb) ∧ (∃ ty : Nat → FieldType, ∀ k, k < N → parseFieldDescriptor (T k).2.2.1 = some (ty k)) ∧ (∀ a, a < N → ∀ b, b < N → a ≠ b → (T a).2.1 ≠ (T b).2.1)

