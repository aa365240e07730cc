def f_X1_habitOf (x1 : Int32) (h : ph_Hp) : Option (Int32 × ph_Hp) :=
  if x1 < nI 0 then
    some ((-1), h)
  else
    if (nI 9) ≤ x1 then
      some ((-1), h)
    else
      ph_ldI h 33 9 x1 fun v5 =>
      some (v5, h)
set_option maxRecDepth 100000 in
theorem c_X1_habitOf (Z : ph_L) (d : Nat) (hdd : 0 ≤ d) (x1 : Int32) (h : ph_Hp) : ph_CM Z yX1_habitOf cX1_habitOf 2 (some .int) d [.ref (ph_a Z 30), .int x1] ph_vi h (f_X1_habitOf x1 h) := by
  refine ph_begin (own := RX1) ph_mf_yX1_habitOf rfl (ls := [some (.ref (ph_a Z 30)), some (.int x1)]) rfl (Nat.le_of_ble_eq_true rfl) ?_
  unfold f_X1_habitOf
  refine ph_iload_n (i := 1) (pc := 0) dX1_habitOf_0 rfl rfl ?_
  refine ph_if_lt (tgt := 19) (pc := 1) dX1_habitOf_1 (by decide) (fun c3 => ?_) (fun c3 => ?_)
  · refine ph_iconst (v := (-1)) (pc := 19) dX1_habitOf_19 ph_ic_m1 ?_
    exact ph_iret (pc := 20) dX1_habitOf_20 rfl
  · refine ph_iload_n (i := 1) (pc := 4) dX1_habitOf_4 rfl rfl ?_
    refine ph_bipush (v := (nI 9)) (pc := 5) dX1_habitOf_5 ph_bp_9 ?_
    refine ph_icmp_ge (tgt := 19) (pc := 7) dX1_habitOf_7 (by decide) (fun c4 => ?_) (fun c4 => ?_)
    · refine ph_iconst (v := (-1)) (pc := 19) dX1_habitOf_19 ph_ic_m1 ?_
      exact ph_iret (pc := 20) dX1_habitOf_20 rfl
    · refine ph_aload_n (i := 0) (pc := 10) dX1_habitOf_10 rfl rfl ?_
      refine ph_getR (j := 33) (pc := 11) dX1_habitOf_11 ph_fl_RX1_18 rfl rfl rfl ?_
      refine ph_iload_n (i := 1) (pc := 14) dX1_habitOf_14 rfl rfl ?_
      refine ph_iald (pc := 15) dX1_habitOf_15 rfl rfl (fun v5 => ?_)
      refine ph_goto (tgt := 20) (pc := 16) dX1_habitOf_16 (by decide) ?_
      exact ph_iret (pc := 20) dX1_habitOf_20 rfl
def f_X1_lineOf (x1 : Int32) (h : ph_Hp) : Option (Int32 × ph_Hp) :=
  if x1 < nI 0 then
    some ((-1), h)
  else
    if (nI 9) ≤ x1 then
      some ((-1), h)
    else
      ph_ldI h 34 9 x1 fun v5 =>
      some (v5, h)
set_option maxRecDepth 100000 in
theorem c_X1_lineOf (Z : ph_L) (d : Nat) (hdd : 0 ≤ d) (x1 : Int32) (h : ph_Hp) : ph_CM Z yX1_lineOf cX1_lineOf 2 (some .int) d [.ref (ph_a Z 30), .int x1] ph_vi h (f_X1_lineOf x1 h) := by
  refine ph_begin (own := RX1) ph_mf_yX1_lineOf rfl (ls := [some (.ref (ph_a Z 30)), some (.int x1)]) rfl (Nat.le_of_ble_eq_true rfl) ?_
  unfold f_X1_lineOf
  refine ph_iload_n (i := 1) (pc := 0) dX1_lineOf_0 rfl rfl ?_
  refine ph_if_lt (tgt := 19) (pc := 1) dX1_lineOf_1 (by decide) (fun c3 => ?_) (fun c3 => ?_)
  · refine ph_iconst (v := (-1)) (pc := 19) dX1_lineOf_19 ph_ic_m1 ?_
    exact ph_iret (pc := 20) dX1_lineOf_20 rfl
  · refine ph_iload_n (i := 1) (pc := 4) dX1_lineOf_4 rfl rfl ?_
    refine ph_bipush (v := (nI 9)) (pc := 5) dX1_lineOf_5 ph_bp_9 ?_
    refine ph_icmp_ge (tgt := 19) (pc := 7) dX1_lineOf_7 (by decide) (fun c4 => ?_) (fun c4 => ?_)
    · refine ph_iconst (v := (-1)) (pc := 19) dX1_lineOf_19 ph_ic_m1 ?_
      exact ph_iret (pc := 20) dX1_lineOf_20 rfl
    · refine ph_aload_n (i := 0) (pc := 10) dX1_lineOf_10 rfl rfl ?_
      refine ph_getR (j := 34) (pc := 11) dX1_lineOf_11 ph_fl_RX1_21 rfl rfl rfl ?_
      refine ph_iload_n (i := 1) (pc := 14) dX1_lineOf_14 rfl rfl ?_
      refine ph_iald (pc := 15) dX1_lineOf_15 rfl rfl (fun v5 => ?_)
      refine ph_goto (tgt := 20) (pc := 16) dX1_lineOf_16 (by decide) ?_
      exact ph_iret (pc := 20) dX1_lineOf_20 rfl
def f_X3_aheadOf (x1 : Int32) (h : ph_Hp) : Option (Int32 × ph_Hp) :=
  if x1 < nI 0 then
    some ((-1), h)
  else
    if (nI 8) ≤ x1 then
      some ((-1), h)
    else
      ph_ldI h 29 8 x1 fun v5 =>
      some (v5, h)
set_option maxRecDepth 100000 in
theorem c_X3_aheadOf (Z : ph_L) (d : Nat) (hdd : 0 ≤ d) (x1 : Int32) (h : ph_Hp) : ph_CM Z yX3_aheadOf cX3_aheadOf 2 (some .int) d [.ref (ph_a Z 26), .int x1] ph_vi h (f_X3_aheadOf x1 h) := by
  refine ph_begin (own := RX3) ph_mf_yX3_aheadOf rfl (ls := [some (.ref (ph_a Z 26)), some (.int x1)]) rfl (Nat.le_of_ble_eq_true rfl) ?_
  unfold f_X3_aheadOf
  refine ph_iload_n (i := 1) (pc := 0) dX3_aheadOf_0 rfl rfl ?_
  refine ph_if_lt (tgt := 19) (pc := 1) dX3_aheadOf_1 (by decide) (fun c3 => ?_) (fun c3 => ?_)
  · refine ph_iconst (v := (-1)) (pc := 19) dX3_aheadOf_19 ph_ic_m1 ?_
    exact ph_iret (pc := 20) dX3_aheadOf_20 rfl
  · refine ph_iload_n (i := 1) (pc := 4) dX3_aheadOf_4 rfl rfl ?_
    refine ph_bipush (v := (nI 8)) (pc := 5) dX3_aheadOf_5 ph_bp_8 ?_
    refine ph_icmp_ge (tgt := 19) (pc := 7) dX3_aheadOf_7 (by decide) (fun c4 => ?_) (fun c4 => ?_)
    · refine ph_iconst (v := (-1)) (pc := 19) dX3_aheadOf_19 ph_ic_m1 ?_
      exact ph_iret (pc := 20) dX3_aheadOf_20 rfl
    · refine ph_aload_n (i := 0) (pc := 10) dX3_aheadOf_10 rfl rfl ?_
      refine ph_getR (j := 29) (pc := 11) dX3_aheadOf_11 ph_fl_RX3_18 rfl rfl rfl ?_
      refine ph_iload_n (i := 1) (pc := 14) dX3_aheadOf_14 rfl rfl ?_
      refine ph_iald (pc := 15) dX3_aheadOf_15 rfl rfl (fun v5 => ?_)
      refine ph_goto (tgt := 20) (pc := 16) dX3_aheadOf_16 (by decide) ?_
      exact ph_iret (pc := 20) dX3_aheadOf_20 rfl
def f_X1_byHabit (x1 : Int32) (x2 : Int32) (x3 : Int32) (x4 : Int32) (h : ph_Hp) : Option (Int32 × ph_Hp) :=
  ph_cl (f_X1_lineOf x1 h) fun v6 h7 =>
  ph_cl (f_X1_habitOf x1 h7) fun v8 h9 =>
  if v8 = (nI 0) then
    some (x3, h9)
  else
  if v8 = (nI 1) then
    some (x2, h9)
  else
  if v8 = (nI 2) then
    if x2 = v6 then
      some (x3, h9)
    else
      some (v6, h9)
  else
  ph_jn (α := Unit) (fun _x =>
    some (v6, h9)) (fun j14 =>
    if x3 = v6 then
      j14 ()
    else
      if x4 = v6 then
        j14 ()
      else
        some (x2, h9))
set_option maxRecDepth 100000 in
theorem c_X1_byHabit (Z : ph_L) (d : Nat) (hdd : 1 ≤ d) (x1 : Int32) (x2 : Int32) (x3 : Int32) (x4 : Int32) (h : ph_Hp) : ph_CM Z yX1_byHabit cX1_byHabit 6 (some .int) d [.ref (ph_a Z 30), .int x1, .int x2, .int x3, .int x4] ph_vi h (f_X1_byHabit x1 x2 x3 x4 h) := by
  refine ph_begin (own := RX1) ph_mf_yX1_byHabit rfl (ls := [some (.ref (ph_a Z 30)), some (.int x1), some (.int x2), some (.int x3), some (.int x4), none]) rfl (Nat.le_of_ble_eq_true rfl) ?_
  unfold f_X1_byHabit
  refine ph_aload_n (i := 0) (pc := 0) dX1_byHabit_0 rfl rfl ?_
  refine ph_iload_n (i := 1) (pc := 1) dX1_byHabit_1 rfl rfl ?_
  refine ph_callVi (pc := 2) dX1_byHabit_2 ph_mf_yX1_lineOf ph_ml_RX1_72 ph_mi_yX1_lineOf ph_mv_yX1_lineOf rfl rfl (c_X1_lineOf Z (d - 1) (by omega) x1 h) (by omega) rfl rfl (Nat.le_of_ble_eq_true rfl) (fun v6 h7 => ?_)
  refine ph_istore (i := 5) (ls1 := [some (.ref (ph_a Z 30)), some (.int x1), some (.int x2), some (.int x3), some (.int x4), some (.int v6)]) (pc := 5) dX1_byHabit_5 (by decide) rfl ?_
  refine ph_aload_n (i := 0) (pc := 7) dX1_byHabit_7 rfl rfl ?_
  refine ph_iload_n (i := 1) (pc := 8) dX1_byHabit_8 rfl rfl ?_
  refine ph_callVi (pc := 9) dX1_byHabit_9 ph_mf_yX1_habitOf ph_ml_RX1_75 ph_mi_yX1_habitOf ph_mv_yX1_habitOf rfl rfl (c_X1_habitOf Z (d - 1) (by omega) x1 h7) (by omega) rfl rfl (Nat.le_of_ble_eq_true rfl) (fun v8 h9 => ?_)
  refine ph_ite (fun c10 => ?_) (fun c10 => ?_)
  · refine ph_tin (tgt := 40) (v := (nI 0)) (pc := 12) dX1_byHabit_12 c10 (by decide) (by decide) rfl (by decide) ?_
    refine ph_iload_n (i := 3) (pc := 40) dX1_byHabit_40 rfl rfl ?_
    exact ph_iret (pc := 41) dX1_byHabit_41 rfl
  refine ph_ite (fun c11 => ?_) (fun c11 => ?_)
  · refine ph_tin (tgt := 42) (v := (nI 1)) (pc := 12) dX1_byHabit_12 c11 (by decide) (by decide) rfl (by decide) ?_
    refine ph_iload_n (i := 2) (pc := 42) dX1_byHabit_42 rfl rfl ?_
    exact ph_iret (pc := 43) dX1_byHabit_43 rfl
  refine ph_ite (fun c12 => ?_) (fun c12 => ?_)
  · refine ph_tin (tgt := 44) (v := (nI 2)) (pc := 12) dX1_byHabit_12 c12 (by decide) (by decide) rfl (by decide) ?_
    refine ph_iload_n (i := 2) (pc := 44) dX1_byHabit_44 rfl rfl ?_
    refine ph_iload (i := 5) (pc := 45) dX1_byHabit_45 rfl ?_
    refine ph_icmp_ne (tgt := 54) (pc := 47) dX1_byHabit_47 (by decide) (fun c13 => ?_) (fun c13 => ?_)
    · refine ph_iload (i := 5) (pc := 54) dX1_byHabit_54 rfl ?_
      exact ph_iret (pc := 56) dX1_byHabit_56 rfl
    · refine ph_iload_n (i := 3) (pc := 50) dX1_byHabit_50 rfl rfl ?_
      refine ph_goto (tgt := 56) (pc := 51) dX1_byHabit_51 (by decide) ?_
      exact ph_iret (pc := 56) dX1_byHabit_56 rfl
  refine ph_tout (tgt := 57) (pc := 12) dX1_byHabit_12 (by
    have := lv_neT (a := 0) c10 (by decide)
    have := lv_neT (a := 1) c11 (by decide)
    have := lv_neT (a := 2) c12 (by decide)
    omega) (by decide) ?_
  refine ph_iload_n (i := 3) (pc := 57) dX1_byHabit_57 rfl rfl ?_
  refine ph_iload (i := 5) (pc := 58) dX1_byHabit_58 rfl ?_
  refine ph_join (α := Unit) 70 (fun x => [none, none, none, none, none, some (.int v6)]) (fun x => []) (fun x => h9) (fun x => ?_) (fun j14 hj14 => ?_)
  · refine ph_iload (i := 5) (pc := 70) dX1_byHabit_70 rfl ?_
    refine ph_goto (tgt := 76) (pc := 72) dX1_byHabit_72 (by decide) ?_
    exact ph_iret (pc := 76) dX1_byHabit_76 rfl
  · refine ph_icmp_eq (tgt := 70) (pc := 60) dX1_byHabit_60 (by decide) (fun c15 => ?_) (fun c15 => ?_)
    · refine ph_wk (ls1 := [none, none, none, none, none, some (.int v6)]) ⟨rfl, trivial⟩ ?_
      exact hj14 ()
    · refine ph_iload (i := 4) (pc := 63) dX1_byHabit_63 rfl ?_
      refine ph_iload (i := 5) (pc := 65) dX1_byHabit_65 rfl ?_
      refine ph_icmp_ne (tgt := 75) (pc := 67) dX1_byHabit_67 (by decide) (fun c16 => ?_) (fun c16 => ?_)
      · refine ph_iload_n (i := 2) (pc := 75) dX1_byHabit_75 rfl rfl ?_
        exact ph_iret (pc := 76) dX1_byHabit_76 rfl
      · refine ph_wk (ls1 := [none, none, none, none, none, some (.int v6)]) ⟨rfl, trivial⟩ ?_
        exact hj14 ()
def f_X1_think (h : ph_Hp) : Option (Unit × ph_Hp) :=
  ph_lp (α := Int32 × ph_Hp) (fun j3 (x4, h5) =>
    if (nI 9) ≤ x4 then
      some ((), h5)
    else
      ph_lp (α := Int32 × ph_Hp) (fun j7 (x8, h9) =>
        if (nI 8) ≤ x8 then
          j3 (x4 + (nI 1), h9)
        else
          ph_cl (f_X3_nextTo x8 h9) fun v11 h12 =>
          ph_cl (f_X3_aheadOf x8 h12) fun v13 h14 =>
          ph_cl (f_X1_byHabit x4 x8 v11 v13 h14) fun v15 h16 =>
          ph_stI h16 35 72 ((x4 * (nI 8)) + x8) v15 fun h17 =>
          j7 (x8 + (nI 1), h17)) ph_fu ((nI 0), h5)) ph_fu ((nI 0), h)
set_option maxRecDepth 100000 in
theorem c_X1_think (Z : ph_L) (d : Nat) (hdd : 2 ≤ d) (h : ph_Hp) : ph_CM Z yX1_think cX1_think 6 none d [.ref (ph_a Z 30), .ref (ph_a Z 26)] ph_vv h (f_X1_think h) := by
  refine ph_begin (own := RX1) ph_mf_yX1_think rfl (ls := [some (.ref (ph_a Z 30)), some (.ref (ph_a Z 26)), none, none, none, none]) rfl (Nat.le_of_ble_eq_true rfl) ?_
  unfold f_X1_think
  refine ph_iconst (v := (nI 0)) (pc := 0) dX1_think_0 ph_ic_0 ?_
  refine ph_istore_n (i := 2) (ls1 := [some (.ref (ph_a Z 30)), some (.ref (ph_a Z 26)), some (.int (nI 0)), none, none, none]) (pc := 1) dX1_think_1 rfl (by decide) rfl ?_
  refine ph_loop (α := Int32 × ph_Hp) 2 (fun x => [some (.ref (ph_a Z 30)), some (.ref (ph_a Z 26)), some (.int x.1), none, none, none]) (fun x => []) (fun x => x.2) (fun j3 hj3 x => ?_) ph_fu ((nI 0), h)
  obtain ⟨x4, h5⟩ := x
  dsimp only
  refine ph_iload_n (i := 2) (pc := 2) dX1_think_2 rfl rfl ?_
  refine ph_bipush (v := (nI 9)) (pc := 3) dX1_think_3 ph_bp_9 ?_
  refine ph_icmp_ge (tgt := 63) (pc := 5) dX1_think_5 (by decide) (fun c6 => ?_) (fun c6 => ?_)
  · exact ph_vret (pc := 63) dX1_think_63 rfl
  · refine ph_iconst (v := (nI 0)) (pc := 8) dX1_think_8 ph_ic_0 ?_
    refine ph_istore_n (i := 3) (ls1 := [some (.ref (ph_a Z 30)), some (.ref (ph_a Z 26)), some (.int x4), some (.int (nI 0)), none, none]) (pc := 9) dX1_think_9 rfl (by decide) rfl ?_
    refine ph_loop (α := Int32 × ph_Hp) 10 (fun x => [some (.ref (ph_a Z 30)), some (.ref (ph_a Z 26)), some (.int x4), some (.int x.1), none, none]) (fun x => []) (fun x => x.2) (fun j7 hj7 x => ?_) ph_fu ((nI 0), h5)
    obtain ⟨x8, h9⟩ := x
    dsimp only
    refine ph_iload_n (i := 3) (pc := 10) dX1_think_10 rfl rfl ?_
    refine ph_bipush (v := (nI 8)) (pc := 11) dX1_think_11 ph_bp_8 ?_
    refine ph_icmp_ge (tgt := 57) (pc := 13) dX1_think_13 (by decide) (fun c10 => ?_) (fun c10 => ?_)
    · refine ph_iinc (i := 2) (v := (nI 1)) (ls1 := [some (.ref (ph_a Z 30)), some (.ref (ph_a Z 26)), some (.int (x4 + (nI 1))), some (.int x8), none, none]) (pc := 57) dX1_think_57 rfl ph_ic_1 (by decide) rfl ?_
      refine ph_goto (tgt := 2) (pc := 60) dX1_think_60 (by decide) ?_
      refine ph_wk (ls1 := [some (.ref (ph_a Z 30)), some (.ref (ph_a Z 26)), some (.int (x4 + (nI 1))), none, none, none]) ⟨rfl, ⟨rfl, ⟨rfl, trivial⟩⟩⟩ ?_
      exact hj3 (x4 + (nI 1), h9)
    · refine ph_aload_n (i := 1) (pc := 16) dX1_think_16 rfl rfl ?_
      refine ph_iload_n (i := 3) (pc := 17) dX1_think_17 rfl rfl ?_
      refine ph_callVi (pc := 18) dX1_think_18 ph_mf_yX3_nextTo ph_ml_RX1_60 ph_mi_yX3_nextTo ph_mv_yX3_nextTo rfl rfl (c_X3_nextTo Z (d - 1) (by omega) x8 h9) (by omega) rfl rfl (Nat.le_of_ble_eq_true rfl) (fun v11 h12 => ?_)
      refine ph_istore (i := 4) (ls1 := [some (.ref (ph_a Z 30)), some (.ref (ph_a Z 26)), some (.int x4), some (.int x8), some (.int v11), none]) (pc := 21) dX1_think_21 (by decide) rfl ?_
      refine ph_aload_n (i := 1) (pc := 23) dX1_think_23 rfl rfl ?_
      refine ph_iload_n (i := 3) (pc := 24) dX1_think_24 rfl rfl ?_
      refine ph_callVi (pc := 25) dX1_think_25 ph_mf_yX3_aheadOf ph_ml_RX1_65 ph_mi_yX3_aheadOf ph_mv_yX3_aheadOf rfl rfl (c_X3_aheadOf Z (d - 1) (by omega) x8 h12) (by omega) rfl rfl (Nat.le_of_ble_eq_true rfl) (fun v13 h14 => ?_)
      refine ph_istore (i := 5) (ls1 := [some (.ref (ph_a Z 30)), some (.ref (ph_a Z 26)), some (.int x4), some (.int x8), some (.int v11), some (.int v13)]) (pc := 28) dX1_think_28 (by decide) rfl ?_
      refine ph_aload_n (i := 0) (pc := 30) dX1_think_30 rfl rfl ?_
      refine ph_getR (j := 35) (pc := 31) dX1_think_31 ph_fl_RX1_24 rfl rfl rfl ?_
      refine ph_iload_n (i := 2) (pc := 34) dX1_think_34 rfl rfl ?_
      refine ph_bipush (v := (nI 8)) (pc := 35) dX1_think_35 ph_bp_8 ?_
      refine ph_imul (pc := 37) dX1_think_37 ?_
      refine ph_iload_n (i := 3) (pc := 38) dX1_think_38 rfl rfl ?_
      refine ph_iadd (pc := 39) dX1_think_39 ?_
      refine ph_aload_n (i := 0) (pc := 40) dX1_think_40 rfl rfl ?_
      refine ph_iload_n (i := 2) (pc := 41) dX1_think_41 rfl rfl ?_
      refine ph_iload_n (i := 3) (pc := 42) dX1_think_42 rfl rfl ?_
      refine ph_iload (i := 4) (pc := 43) dX1_think_43 rfl ?_
      refine ph_iload (i := 5) (pc := 45) dX1_think_45 rfl ?_
      refine ph_callVi (pc := 47) dX1_think_47 ph_mf_yX1_byHabit ph_ml_RX1_68 ph_mi_yX1_byHabit ph_mv_yX1_byHabit rfl rfl (c_X1_byHabit Z (d - 1) (by omega) x4 x8 v11 v13 h14) (by omega) rfl rfl (Nat.le_of_ble_eq_true rfl) (fun v15 h16 => ?_)
      refine ph_iast (pc := 50) dX1_think_50 rfl rfl (fun h17 => ?_)
      refine ph_iinc (i := 3) (v := (nI 1)) (ls1 := [some (.ref (ph_a Z 30)), some (.ref (ph_a Z 26)), some (.int x4), some (.int (x8 + (nI 1))), some (.int v11), some (.int v13)]) (pc := 51) dX1_think_51 rfl ph_ic_1 (by decide) rfl ?_
      refine ph_goto (tgt := 10) (pc := 54) dX1_think_54 (by decide) ?_
      refine ph_wk (ls1 := [some (.ref (ph_a Z 30)), some (.ref (ph_a Z 26)), some (.int x4), some (.int (x8 + (nI 1))), none, none]) ⟨rfl, ⟨rfl, ⟨rfl, ⟨rfl, trivial⟩⟩⟩⟩ ?_
      exact hj7 (x8 + (nI 1), h17)
def f_X2_begin (x1 : Int32) (h : ph_Hp) : Option (Unit × ph_Hp) :=
  ph_pfI h 41 0 x1 fun h3 =>
  some ((), h3)
set_option maxRecDepth 100000 in
theorem c_X2_begin (Z : ph_L) (d : Nat) (hdd : 0 ≤ d) (x1 : Int32) (h : ph_Hp) : ph_CM Z yX2_begin cX2_begin 2 none d [.ref (ph_a Z 41), .int x1] ph_vv h (f_X2_begin x1 h) := by
  refine ph_begin (own := RX2) ph_mf_yX2_begin rfl (ls := [some (.ref (ph_a Z 41)), some (.int x1)]) rfl (Nat.le_of_ble_eq_true rfl) ?_
  unfold f_X2_begin
  refine ph_aload_n (i := 0) (pc := 0) dX2_begin_0 rfl rfl ?_
  refine ph_iload_n (i := 1) (pc := 1) dX2_begin_1 rfl rfl ?_
  refine ph_putI (pc := 2) dX2_begin_2 ph_pl_RX2_7 rfl (by decide) rfl rfl (fun h3 => ?_)
  exact ph_vret (pc := 5) dX2_begin_5 rfl
def f_X2_draw (x1 : Int32) (h : ph_Hp) : Option (Int32 × ph_Hp) :=
  ph_pfI h 41 0 (((nI 1103515245) * (h.1 41 0)) + (nI 12345)) fun h3 =>
  if x1 ≤ nI 0 then
    some ((nI 0), h3)
  else
    ph_rmI (ph_ushr (h3.1 41 0) (nI 16)) x1 fun v5 =>
    some (v5, h3)
set_option maxRecDepth 100000 in
theorem c_X2_draw (Z : ph_L) (d : Nat) (hdd : 0 ≤ d) (x1 : Int32) (h : ph_Hp) : ph_CM Z yX2_draw cX2_draw 2 (some .int) d [.ref (ph_a Z 41), .int x1] ph_vi h (f_X2_draw x1 h) := by
  refine ph_begin (own := RX2) ph_mf_yX2_draw rfl (ls := [some (.ref (ph_a Z 41)), some (.int x1)]) rfl (Nat.le_of_ble_eq_true rfl) ?_
  unfold f_X2_draw
  refine ph_aload_n (i := 0) (pc := 0) dX2_draw_0 rfl rfl ?_
  refine ph_ldc (v := (nI 1103515245)) (pc := 1) dX2_draw_1 ph_k_RX2_13 ?_
  refine ph_aload_n (i := 0) (pc := 3) dX2_draw_3 rfl rfl ?_
  refine ph_getI (pc := 4) dX2_draw_4 ph_fl_RX2_7 rfl (by decide) ?_
  refine ph_imul (pc := 7) dX2_draw_7 ?_
  refine ph_sipush (v := (nI 12345)) (pc := 8) dX2_draw_8 ph_sp_12345 ?_
  refine ph_iadd (pc := 11) dX2_draw_11 ?_
  refine ph_putI (pc := 12) dX2_draw_12 ph_pl_RX2_7 rfl (by decide) rfl rfl (fun h3 => ?_)
  refine ph_iload_n (i := 1) (pc := 15) dX2_draw_15 rfl rfl ?_
  refine ph_if_le (tgt := 31) (pc := 16) dX2_draw_16 (by decide) (fun c4 => ?_) (fun c4 => ?_)
  · refine ph_iconst (v := (nI 0)) (pc := 31) dX2_draw_31 ph_ic_0 ?_
    exact ph_iret (pc := 32) dX2_draw_32 rfl
  · refine ph_aload_n (i := 0) (pc := 19) dX2_draw_19 rfl rfl ?_
    refine ph_getI (pc := 20) dX2_draw_20 ph_fl_RX2_7 rfl (by decide) ?_
    refine ph_bipush (v := (nI 16)) (pc := 23) dX2_draw_23 ph_bp_16 ?_
    refine ph_iushr (pc := 25) dX2_draw_25 ?_
    refine ph_iload_n (i := 1) (pc := 26) dX2_draw_26 rfl rfl ?_
    refine ph_iremX (pc := 27) dX2_draw_27 (fun v5 => ?_)
    refine ph_goto (tgt := 32) (pc := 28) dX2_draw_28 (by decide) ?_
    exact ph_iret (pc := 32) dX2_draw_32 rfl
def f_X2_drawCough (x1 : Int32) (h : ph_Hp) : Option (Int32 × ph_Hp) :=
  if nI 0 < x1 then
    ph_cl (f_X2_draw x1 h) fun v4 h5 =>
    ph_cl (f_X2_draw (nI 4) h5) fun v6 h7 =>
    if v6 = nI 0 then
      some (ph_shl (nI 1) v4, h7)
    else
      some ((nI 0), h7)
  else
    some ((nI 0), h)
set_option maxRecDepth 100000 in
theorem c_X2_drawCough (Z : ph_L) (d : Nat) (hdd : 1 ≤ d) (x1 : Int32) (h : ph_Hp) : ph_CM Z yX2_drawCough cX2_drawCough 3 (some .int) d [.ref (ph_a Z 41), .int x1] ph_vi h (f_X2_drawCough x1 h) := by
  refine ph_begin (own := RX2) ph_mf_yX2_drawCough rfl (ls := [some (.ref (ph_a Z 41)), some (.int x1), none]) rfl (Nat.le_of_ble_eq_true rfl) ?_
  unfold f_X2_drawCough
  refine ph_iload_n (i := 1) (pc := 0) dX2_drawCough_0 rfl rfl ?_
  refine ph_if_gt (tgt := 6) (pc := 1) dX2_drawCough_1 (by decide) (fun c3 => ?_) (fun c3 => ?_)
  · refine ph_aload_n (i := 0) (pc := 6) dX2_drawCough_6 rfl rfl ?_
    refine ph_iload_n (i := 1) (pc := 7) dX2_drawCough_7 rfl rfl ?_
    refine ph_callVi (pc := 8) dX2_drawCough_8 ph_mf_yX2_draw ph_ml_RX2_14 ph_mi_yX2_draw ph_mv_yX2_draw rfl rfl (c_X2_draw Z (d - 1) (by omega) x1 h) (by omega) rfl rfl (Nat.le_of_ble_eq_true rfl) (fun v4 h5 => ?_)
    refine ph_istore_n (i := 2) (ls1 := [some (.ref (ph_a Z 41)), some (.int x1), some (.int v4)]) (pc := 11) dX2_drawCough_11 rfl (by decide) rfl ?_
    refine ph_aload_n (i := 0) (pc := 12) dX2_drawCough_12 rfl rfl ?_
    refine ph_iconst (v := (nI 4)) (pc := 13) dX2_drawCough_13 ph_ic_4 ?_
    refine ph_callVi (pc := 14) dX2_drawCough_14 ph_mf_yX2_draw ph_ml_RX2_14 ph_mi_yX2_draw ph_mv_yX2_draw rfl rfl (c_X2_draw Z (d - 1) (by omega) (nI 4) h5) (by omega) rfl rfl (Nat.le_of_ble_eq_true rfl) (fun v6 h7 => ?_)
    refine ph_if_ne (tgt := 26) (pc := 17) dX2_drawCough_17 (by decide) (fun c8 => ?_) (fun c8 => ?_)
    · refine ph_iconst (v := (nI 0)) (pc := 26) dX2_drawCough_26 ph_ic_0 ?_
      exact ph_iret (pc := 27) dX2_drawCough_27 rfl
    · refine ph_iconst (v := (nI 1)) (pc := 20) dX2_drawCough_20 ph_ic_1 ?_
      refine ph_iload_n (i := 2) (pc := 21) dX2_drawCough_21 rfl rfl ?_
      refine ph_ishl (pc := 22) dX2_drawCough_22 ?_
      refine ph_goto (tgt := 27) (pc := 23) dX2_drawCough_23 (by decide) ?_
      exact ph_iret (pc := 27) dX2_drawCough_27 rfl
  · refine ph_iconst (v := (nI 0)) (pc := 4) dX2_drawCough_4 ph_ic_0 ?_
    exact ph_iret (pc := 5) dX2_drawCough_5 rfl
def f_X3_faultOf (h : ph_Hp) : Option (Int32 × ph_Hp) :=
  ph_lp (α := Int32 × ph_Hp) (fun j3 (x4, h5) =>
    ph_cl (f_X4_size 1 h5) fun v6 h7 =>
    if v6 ≤ x4 then
      some ((-1), h7)
    else
      ph_cl (f_X4_at 1 x4 h7) fun v9 h10 =>
      if v9 < (nI 97) then
        some (x4, h10)
      else
        if v9 ≤ (nI 104) then
          j3 (x4 + (nI 1), h10)
        else
          some (x4, h10)) ph_fu ((nI 0), h)
set_option maxRecDepth 100000 in
theorem c_X3_faultOf (Z : ph_L) (d : Nat) (hdd : 1 ≤ d) (h : ph_Hp) : ph_CM Z yX3_faultOf cX3_faultOf 3 (some .int) d [.ref (ph_a Z 1)] ph_vi h (f_X3_faultOf h) := by
  refine ph_begin (own := RX3) ph_mf_yX3_faultOf rfl (ls := [some (.ref (ph_a Z 1)), none, none]) rfl (Nat.le_of_ble_eq_true rfl) ?_
  unfold f_X3_faultOf
  refine ph_iconst (v := (nI 0)) (pc := 0) dX3_faultOf_0 ph_ic_0 ?_
  refine ph_istore_n (i := 1) (ls1 := [some (.ref (ph_a Z 1)), some (.int (nI 0)), none]) (pc := 1) dX3_faultOf_1 rfl (by decide) rfl ?_
  refine ph_loop (α := Int32 × ph_Hp) 2 (fun x => [some (.ref (ph_a Z 1)), some (.int x.1), none]) (fun x => []) (fun x => x.2) (fun j3 hj3 x => ?_) ph_fu ((nI 0), h)
  obtain ⟨x4, h5⟩ := x
  dsimp only
  refine ph_iload_n (i := 1) (pc := 2) dX3_faultOf_2 rfl rfl ?_
  refine ph_aload_n (i := 0) (pc := 3) dX3_faultOf_3 rfl rfl ?_
  refine ph_callVi (pc := 4) dX3_faultOf_4 ph_mf_yX4_size ph_ml_RX3_32 ph_mi_yX4_size ph_mv_yX4_size rfl rfl (c_X4_size Z (d - 1) (by omega) 1 h5) (by omega) rfl rfl (Nat.le_of_ble_eq_true rfl) (fun v6 h7 => ?_)
  refine ph_icmp_ge (tgt := 36) (pc := 7) dX3_faultOf_7 (by decide) (fun c8 => ?_) (fun c8 => ?_)
  · refine ph_iconst (v := (-1)) (pc := 36) dX3_faultOf_36 ph_ic_m1 ?_
    exact ph_iret (pc := 37) dX3_faultOf_37 rfl
  · refine ph_aload_n (i := 0) (pc := 10) dX3_faultOf_10 rfl rfl ?_
    refine ph_iload_n (i := 1) (pc := 11) dX3_faultOf_11 rfl rfl ?_
    refine ph_callVi (pc := 12) dX3_faultOf_12 ph_mf_yX4_at ph_ml_RX3_44 ph_mi_yX4_at ph_mv_yX4_at rfl rfl (c_X4_at Z (d - 1) (by omega) 1 x4 h7) (by omega) rfl rfl (Nat.le_of_ble_eq_true rfl) (fun v9 h10 => ?_)
    refine ph_istore_n (i := 2) (ls1 := [some (.ref (ph_a Z 1)), some (.int x4), some (.int v9)]) (pc := 15) dX3_faultOf_15 rfl (by decide) rfl ?_
    refine ph_iload_n (i := 2) (pc := 16) dX3_faultOf_16 rfl rfl ?_
    refine ph_bipush (v := (nI 97)) (pc := 17) dX3_faultOf_17 ph_bp_97 ?_
    refine ph_icmp_lt (tgt := 28) (pc := 19) dX3_faultOf_19 (by decide) (fun c11 => ?_) (fun c11 => ?_)
    · refine ph_iload_n (i := 1) (pc := 28) dX3_faultOf_28 rfl rfl ?_
      exact ph_iret (pc := 29) dX3_faultOf_29 rfl
    · refine ph_iload_n (i := 2) (pc := 22) dX3_faultOf_22 rfl rfl ?_
      refine ph_bipush (v := (nI 104)) (pc := 23) dX3_faultOf_23 ph_bp_104 ?_
      refine ph_icmp_le (tgt := 30) (pc := 25) dX3_faultOf_25 (by decide) (fun c12 => ?_) (fun c12 => ?_)
      · refine ph_iinc (i := 1) (v := (nI 1)) (ls1 := [some (.ref (ph_a Z 1)), some (.int (x4 + (nI 1))), some (.int v9)]) (pc := 30) dX3_faultOf_30 rfl ph_ic_1 (by decide) rfl ?_
        refine ph_goto (tgt := 2) (pc := 33) dX3_faultOf_33 (by decide) ?_
        refine ph_wk (ls1 := [some (.ref (ph_a Z 1)), some (.int (x4 + (nI 1))), none]) ⟨rfl, ⟨rfl, trivial⟩⟩ ?_
        exact hj3 (x4 + (nI 1), h10)
      · refine ph_iload_n (i := 1) (pc := 28) dX3_faultOf_28 rfl rfl ?_
        exact ph_iret (pc := 29) dX3_faultOf_29 rfl
def f_X3_parse (h : ph_Hp) : Option (Unit × ph_Hp) :=
  ph_cl (f_X3_faultOf h) fun v3 h4 =>
  ph_pfI h4 26 4 v3 fun h5 =>
  ph_jn (α := Int32 × ph_Hp) (fun (x7, h8) =>
    ph_pfI h8 26 3 x7 fun h9 =>
    ph_lp (α := Int32 × ph_Hp) (fun j10 (x11, h12) =>
      if (h12.1 26 3) ≤ x11 then
        ph_lp (α := Int32 × ph_Hp) (fun j14 (x15, h16) =>
          if (nI 8) ≤ x15 then
            ph_lp (α := Int32 × ph_Hp) (fun j18 (x19, h20) =>
              if x19 < nI 0 then
                some ((), h20)
              else
                ph_cl (f_X3_lineIn x19 h20) fun v22 h23 =>
                ph_cl (f_X8_within v22 (nI 8) h23) fun v24 h25 =>
                ph_jn (α := ph_Hp) (fun h27 =>
                  j18 (x19 + (-1), h27)) (fun j26 =>
                  if v24 = nI 0 then
                    j26 h25
                  else
                    ph_jn (α := Int32) (fun x30 =>
                      ph_cl (f_X3_lineIn x30 h25) fun v31 h32 =>
                      ph_stI h32 28 8 v22 v31 fun h33 =>
                      ph_jn (α := Int32) (fun x35 =>
                        ph_cl (f_X3_lineIn x35 h33) fun v36 h37 =>
                        ph_stI h37 29 8 v22 v36 fun h38 =>
                        j26 h38) (fun j34 =>
                        if x19 = nI 0 then
                          j34 ((h33.1 26 3) - (nI 1))
                        else
                          j34 (x19 - (nI 1)))) (fun j29 =>
                      if x19 = ((h25.1 26 3) - (nI 1)) then
                        j29 (nI 0)
                      else
                        j29 (x19 + (nI 1))))) ph_fu ((h16.1 26 3) - (nI 1), h16)
          else
            ph_cl (f_X3_lineIn (nI 0) h16) fun v41 h42 =>
            ph_stI h42 28 8 x15 v41 fun h43 =>
            ph_cl (f_X3_lineIn (nI 0) h43) fun v44 h45 =>
            ph_stI h45 29 8 x15 v44 fun h46 =>
            j14 (x15 + (nI 1), h46)) ph_fu ((nI 0), h12)
      else
        ph_cl (f_X4_at 1 x11 h12) fun v47 h48 =>
        ph_stI h48 27 24 x11 (v47 - (nI 97)) fun h49 =>
        j10 (x11 + (nI 1), h49)) ph_fu ((nI 0), h9)) (fun j6 =>
    if (h5.1 26 4) = (-1) then
      ph_cl (f_X4_size 1 h5) fun v51 h52 =>
      j6 ((if (nI 24) < v51 then (nI 24) else v51), h52)
    else
      j6 ((nI 0), h5))
set_option maxRecDepth 100000 in
theorem c_X3_parse (Z : ph_L) (d : Nat) (hdd : 2 ≤ d) (h : ph_Hp) : ph_CM Z yX3_parse cX3_parse 4 none d [.ref (ph_a Z 26), .ref (ph_a Z 1)] ph_vv h (f_X3_parse h) := by
  refine ph_begin (own := RX3) ph_mf_yX3_parse rfl (ls := [some (.ref (ph_a Z 26)), some (.ref (ph_a Z 1)), none, none]) rfl (Nat.le_of_ble_eq_true rfl) ?_
  unfold f_X3_parse
  refine ph_aload_n (i := 0) (pc := 0) dX3_parse_0 rfl rfl ?_
  refine ph_aload_n (i := 1) (pc := 1) dX3_parse_1 rfl rfl ?_
  refine ph_callSi (pc := 2) dX3_parse_2 ph_mf_yX3_faultOf ph_ml_RX3_28 ph_ms_yX3_faultOf (c_X3_faultOf Z (d - 1) (by omega) h) (by omega) rfl rfl (Nat.le_of_ble_eq_true rfl) (fun v3 h4 => ?_)
  refine ph_putI (pc := 5) dX3_parse_5 ph_pl_RX3_25 rfl (by decide) rfl rfl (fun h5 => ?_)
  refine ph_aload_n (i := 0) (pc := 8) dX3_parse_8 rfl rfl ?_
  refine ph_aload_n (i := 0) (pc := 9) dX3_parse_9 rfl rfl ?_
  refine ph_getI (pc := 10) dX3_parse_10 ph_fl_RX3_25 rfl (by decide) ?_
  refine ph_iconst (v := (-1)) (pc := 13) dX3_parse_13 ph_ic_m1 ?_
  refine ph_join (α := Int32 × ph_Hp) 30 (fun x => [some (.ref (ph_a Z 26)), some (.ref (ph_a Z 1)), none, none]) (fun x => [.int x.1, .ref (ph_a Z 26)]) (fun x => x.2) (fun x => ?_) (fun j6 hj6 => ?_)
  · obtain ⟨x7, h8⟩ := x
    dsimp only
    refine ph_putI (pc := 30) dX3_parse_30 ph_pl_RX3_21 rfl (by decide) rfl rfl (fun h9 => ?_)
    refine ph_iconst (v := (nI 0)) (pc := 33) dX3_parse_33 ph_ic_0 ?_
    refine ph_istore_n (i := 2) (ls1 := [some (.ref (ph_a Z 26)), some (.ref (ph_a Z 1)), some (.int (nI 0)), none]) (pc := 34) dX3_parse_34 rfl (by decide) rfl ?_
    refine ph_loop (α := Int32 × ph_Hp) 35 (fun x => [some (.ref (ph_a Z 26)), some (.ref (ph_a Z 1)), some (.int x.1), none]) (fun x => []) (fun x => x.2) (fun j10 hj10 x => ?_) ph_fu ((nI 0), h9)
    obtain ⟨x11, h12⟩ := x
    dsimp only
    refine ph_iload_n (i := 2) (pc := 35) dX3_parse_35 rfl rfl ?_
    refine ph_aload_n (i := 0) (pc := 36) dX3_parse_36 rfl rfl ?_
    refine ph_getI (pc := 37) dX3_parse_37 ph_fl_RX3_21 rfl (by decide) ?_
    refine ph_icmp_ge (tgt := 63) (pc := 40) dX3_parse_40 (by decide) (fun c13 => ?_) (fun c13 => ?_)
    · refine ph_iconst (v := (nI 0)) (pc := 63) dX3_parse_63 ph_ic_0 ?_
      refine ph_istore_n (i := 2) (ls1 := [some (.ref (ph_a Z 26)), some (.ref (ph_a Z 1)), some (.int (nI 0)), none]) (pc := 64) dX3_parse_64 rfl (by decide) rfl ?_
      refine ph_wk (ls1 := [some (.ref (ph_a Z 26)), none, some (.int (nI 0)), none]) ⟨rfl, ⟨rfl, trivial⟩⟩ ?_
      refine ph_loop (α := Int32 × ph_Hp) 65 (fun x => [some (.ref (ph_a Z 26)), none, some (.int x.1), none]) (fun x => []) (fun x => x.2) (fun j14 hj14 x => ?_) ph_fu ((nI 0), h12)
      obtain ⟨x15, h16⟩ := x
      dsimp only
      refine ph_iload_n (i := 2) (pc := 65) dX3_parse_65 rfl rfl ?_
      refine ph_bipush (v := (nI 8)) (pc := 66) dX3_parse_66 ph_bp_8 ?_
      refine ph_icmp_ge (tgt := 99) (pc := 68) dX3_parse_68 (by decide) (fun c17 => ?_) (fun c17 => ?_)
      · refine ph_aload_n (i := 0) (pc := 99) dX3_parse_99 rfl rfl ?_
        refine ph_getI (pc := 100) dX3_parse_100 ph_fl_RX3_21 rfl (by decide) ?_
        refine ph_iconst (v := (nI 1)) (pc := 103) dX3_parse_103 ph_ic_1 ?_
        refine ph_isub (pc := 104) dX3_parse_104 ?_
        refine ph_istore_n (i := 2) (ls1 := [some (.ref (ph_a Z 26)), none, some (.int ((h16.1 26 3) - (nI 1))), none]) (pc := 105) dX3_parse_105 rfl (by decide) rfl ?_
        refine ph_loop (α := Int32 × ph_Hp) 106 (fun x => [some (.ref (ph_a Z 26)), none, some (.int x.1), none]) (fun x => []) (fun x => x.2) (fun j18 hj18 x => ?_) ph_fu ((h16.1 26 3) - (nI 1), h16)
        obtain ⟨x19, h20⟩ := x
        dsimp only
        refine ph_iload_n (i := 2) (pc := 106) dX3_parse_106 rfl rfl ?_
        refine ph_if_lt (tgt := 184) (pc := 107) dX3_parse_107 (by decide) (fun c21 => ?_) (fun c21 => ?_)
        · exact ph_vret (pc := 184) dX3_parse_184 rfl
        · refine ph_aload_n (i := 0) (pc := 110) dX3_parse_110 rfl rfl ?_
          refine ph_iload_n (i := 2) (pc := 111) dX3_parse_111 rfl rfl ?_
          refine ph_callVi (pc := 112) dX3_parse_112 ph_mf_yX3_lineIn ph_ml_RX3_48 ph_mi_yX3_lineIn ph_mv_yX3_lineIn rfl rfl (c_X3_lineIn Z (d - 1) (by omega) x19 h20) (by omega) rfl rfl (Nat.le_of_ble_eq_true rfl) (fun v22 h23 => ?_)
          refine ph_istore_n (i := 3) (ls1 := [some (.ref (ph_a Z 26)), none, some (.int x19), some (.int v22)]) (pc := 115) dX3_parse_115 rfl (by decide) rfl ?_
          refine ph_iload_n (i := 3) (pc := 116) dX3_parse_116 rfl rfl ?_
          refine ph_bipush (v := (nI 8)) (pc := 117) dX3_parse_117 ph_bp_8 ?_
          refine ph_callSi (pc := 119) dX3_parse_119 ph_mf_yX8_within ph_ml_RX3_51 ph_ms_yX8_within (c_X8_within Z (d - 1) (by omega) v22 (nI 8) h23) (by omega) rfl rfl (Nat.le_of_ble_eq_true rfl) (fun v24 h25 => ?_)
          refine ph_join (α := ph_Hp) 178 (fun x => [some (.ref (ph_a Z 26)), none, some (.int x19), none]) (fun x => []) (fun x => x) (fun x => ?_) (fun j26 hj26 => ?_)
          · revert x; intro h27
            refine ph_iinc (i := 2) (v := (-1)) (ls1 := [some (.ref (ph_a Z 26)), none, some (.int (x19 + (-1))), none]) (pc := 178) dX3_parse_178 rfl ph_ic_m1 (by decide) rfl ?_
            refine ph_goto (tgt := 106) (pc := 181) dX3_parse_181 (by decide) ?_
            exact hj18 (x19 + (-1), h27)
          · refine ph_if_eq (tgt := 178) (pc := 122) dX3_parse_122 (by decide) (fun c28 => ?_) (fun c28 => ?_)
            · refine ph_wk (ls1 := [some (.ref (ph_a Z 26)), none, some (.int x19), none]) ⟨rfl, ⟨rfl, trivial⟩⟩ ?_
              exact hj26 h25
            · refine ph_aload_n (i := 0) (pc := 125) dX3_parse_125 rfl rfl ?_
              refine ph_getR (j := 28) (pc := 126) dX3_parse_126 ph_fl_RX3_15 rfl rfl rfl ?_
              refine ph_iload_n (i := 3) (pc := 129) dX3_parse_129 rfl rfl ?_
              refine ph_aload_n (i := 0) (pc := 130) dX3_parse_130 rfl rfl ?_
              refine ph_iload_n (i := 2) (pc := 131) dX3_parse_131 rfl rfl ?_
              refine ph_aload_n (i := 0) (pc := 132) dX3_parse_132 rfl rfl ?_
              refine ph_getI (pc := 133) dX3_parse_133 ph_fl_RX3_21 rfl (by decide) ?_
              refine ph_iconst (v := (nI 1)) (pc := 136) dX3_parse_136 ph_ic_1 ?_
              refine ph_isub (pc := 137) dX3_parse_137 ?_
              refine ph_join (α := Int32) 148 (fun x => [some (.ref (ph_a Z 26)), none, some (.int x19), some (.int v22)]) (fun x => [.int x, .ref (ph_a Z 26), .int v22, .ref (ph_a Z 28)]) (fun x => h25) (fun x => ?_) (fun j29 hj29 => ?_)
              · revert x; intro x30
                refine ph_callVi (pc := 148) dX3_parse_148 ph_mf_yX3_lineIn ph_ml_RX3_48 ph_mi_yX3_lineIn ph_mv_yX3_lineIn rfl rfl (c_X3_lineIn Z (d - 1) (by omega) x30 h25) (by omega) rfl rfl (Nat.le_of_ble_eq_true rfl) (fun v31 h32 => ?_)
                refine ph_iast (pc := 151) dX3_parse_151 rfl rfl (fun h33 => ?_)
                refine ph_aload_n (i := 0) (pc := 152) dX3_parse_152 rfl rfl ?_
                refine ph_getR (j := 29) (pc := 153) dX3_parse_153 ph_fl_RX3_18 rfl rfl rfl ?_
                refine ph_iload_n (i := 3) (pc := 156) dX3_parse_156 rfl rfl ?_
                refine ph_aload_n (i := 0) (pc := 157) dX3_parse_157 rfl rfl ?_
                refine ph_iload_n (i := 2) (pc := 158) dX3_parse_158 rfl rfl ?_
                refine ph_join (α := Int32) 174 (fun x => [some (.ref (ph_a Z 26)), none, some (.int x19), none]) (fun x => [.int x, .ref (ph_a Z 26), .int v22, .ref (ph_a Z 29)]) (fun x => h33) (fun x => ?_) (fun j34 hj34 => ?_)
                · revert x; intro x35
                  refine ph_callVi (pc := 174) dX3_parse_174 ph_mf_yX3_lineIn ph_ml_RX3_48 ph_mi_yX3_lineIn ph_mv_yX3_lineIn rfl rfl (c_X3_lineIn Z (d - 1) (by omega) x35 h33) (by omega) rfl rfl (Nat.le_of_ble_eq_true rfl) (fun v36 h37 => ?_)
                  refine ph_iast (pc := 177) dX3_parse_177 rfl rfl (fun h38 => ?_)
                  exact hj26 h38
                · refine ph_if_ne (tgt := 171) (pc := 159) dX3_parse_159 (by decide) (fun c39 => ?_) (fun c39 => ?_)
                  · refine ph_iload_n (i := 2) (pc := 171) dX3_parse_171 rfl rfl ?_
                    refine ph_iconst (v := (nI 1)) (pc := 172) dX3_parse_172 ph_ic_1 ?_
                    refine ph_isub (pc := 173) dX3_parse_173 ?_
                    refine ph_wk (ls1 := [some (.ref (ph_a Z 26)), none, some (.int x19), none]) ⟨rfl, ⟨rfl, trivial⟩⟩ ?_
                    exact hj34 (x19 - (nI 1))
                  · refine ph_aload_n (i := 0) (pc := 162) dX3_parse_162 rfl rfl ?_
                    refine ph_getI (pc := 163) dX3_parse_163 ph_fl_RX3_21 rfl (by decide) ?_
                    refine ph_iconst (v := (nI 1)) (pc := 166) dX3_parse_166 ph_ic_1 ?_
                    refine ph_isub (pc := 167) dX3_parse_167 ?_
                    refine ph_goto (tgt := 174) (pc := 168) dX3_parse_168 (by decide) ?_
                    refine ph_wk (ls1 := [some (.ref (ph_a Z 26)), none, some (.int x19), none]) ⟨rfl, ⟨rfl, trivial⟩⟩ ?_
                    exact hj34 ((h33.1 26 3) - (nI 1))
              · refine ph_icmp_ne (tgt := 145) (pc := 138) dX3_parse_138 (by decide) (fun c40 => ?_) (fun c40 => ?_)
                · refine ph_iload_n (i := 2) (pc := 145) dX3_parse_145 rfl rfl ?_
                  refine ph_iconst (v := (nI 1)) (pc := 146) dX3_parse_146 ph_ic_1 ?_
                  refine ph_iadd (pc := 147) dX3_parse_147 ?_
                  exact hj29 (x19 + (nI 1))
                · refine ph_iconst (v := (nI 0)) (pc := 141) dX3_parse_141 ph_ic_0 ?_
                  refine ph_goto (tgt := 148) (pc := 142) dX3_parse_142 (by decide) ?_
                  exact hj29 (nI 0)
      · refine ph_aload_n (i := 0) (pc := 71) dX3_parse_71 rfl rfl ?_
        refine ph_getR (j := 28) (pc := 72) dX3_parse_72 ph_fl_RX3_15 rfl rfl rfl ?_
        refine ph_iload_n (i := 2) (pc := 75) dX3_parse_75 rfl rfl ?_
        refine ph_aload_n (i := 0) (pc := 76) dX3_parse_76 rfl rfl ?_
        refine ph_iconst (v := (nI 0)) (pc := 77) dX3_parse_77 ph_ic_0 ?_
        refine ph_callVi (pc := 78) dX3_parse_78 ph_mf_yX3_lineIn ph_ml_RX3_48 ph_mi_yX3_lineIn ph_mv_yX3_lineIn rfl rfl (c_X3_lineIn Z (d - 1) (by omega) (nI 0) h16) (by omega) rfl rfl (Nat.le_of_ble_eq_true rfl) (fun v41 h42 => ?_)
        refine ph_iast (pc := 81) dX3_parse_81 rfl rfl (fun h43 => ?_)
        refine ph_aload_n (i := 0) (pc := 82) dX3_parse_82 rfl rfl ?_
        refine ph_getR (j := 29) (pc := 83) dX3_parse_83 ph_fl_RX3_18 rfl rfl rfl ?_
        refine ph_iload_n (i := 2) (pc := 86) dX3_parse_86 rfl rfl ?_
        refine ph_aload_n (i := 0) (pc := 87) dX3_parse_87 rfl rfl ?_
        refine ph_iconst (v := (nI 0)) (pc := 88) dX3_parse_88 ph_ic_0 ?_
        refine ph_callVi (pc := 89) dX3_parse_89 ph_mf_yX3_lineIn ph_ml_RX3_48 ph_mi_yX3_lineIn ph_mv_yX3_lineIn rfl rfl (c_X3_lineIn Z (d - 1) (by omega) (nI 0) h43) (by omega) rfl rfl (Nat.le_of_ble_eq_true rfl) (fun v44 h45 => ?_)
        refine ph_iast (pc := 92) dX3_parse_92 rfl rfl (fun h46 => ?_)
        refine ph_iinc (i := 2) (v := (nI 1)) (ls1 := [some (.ref (ph_a Z 26)), none, some (.int (x15 + (nI 1))), none]) (pc := 93) dX3_parse_93 rfl ph_ic_1 (by decide) rfl ?_
        refine ph_goto (tgt := 65) (pc := 96) dX3_parse_96 (by decide) ?_
        exact hj14 (x15 + (nI 1), h46)
    · refine ph_aload_n (i := 0) (pc := 43) dX3_parse_43 rfl rfl ?_
      refine ph_getR (j := 27) (pc := 44) dX3_parse_44 ph_fl_RX3_9 rfl rfl rfl ?_
      refine ph_iload_n (i := 2) (pc := 47) dX3_parse_47 rfl rfl ?_
      refine ph_aload_n (i := 1) (pc := 48) dX3_parse_48 rfl rfl ?_
      refine ph_iload_n (i := 2) (pc := 49) dX3_parse_49 rfl rfl ?_
      refine ph_callVi (pc := 50) dX3_parse_50 ph_mf_yX4_at ph_ml_RX3_44 ph_mi_yX4_at ph_mv_yX4_at rfl rfl (c_X4_at Z (d - 1) (by omega) 1 x11 h12) (by omega) rfl rfl (Nat.le_of_ble_eq_true rfl) (fun v47 h48 => ?_)
      refine ph_bipush (v := (nI 97)) (pc := 53) dX3_parse_53 ph_bp_97 ?_
      refine ph_isub (pc := 55) dX3_parse_55 ?_
      refine ph_iast (pc := 56) dX3_parse_56 rfl rfl (fun h49 => ?_)
      refine ph_iinc (i := 2) (v := (nI 1)) (ls1 := [some (.ref (ph_a Z 26)), some (.ref (ph_a Z 1)), some (.int (x11 + (nI 1))), none]) (pc := 57) dX3_parse_57 rfl ph_ic_1 (by decide) rfl ?_
      refine ph_goto (tgt := 35) (pc := 60) dX3_parse_60 (by decide) ?_
      exact hj10 (x11 + (nI 1), h49)
  · refine ph_icmp_ne (tgt := 29) (pc := 14) dX3_parse_14 (by decide) (fun c50 => ?_) (fun c50 => ?_)
    · refine ph_iconst (v := (nI 0)) (pc := 29) dX3_parse_29 ph_ic_0 ?_
      exact hj6 ((nI 0), h5)
    · refine ph_aload_n (i := 1) (pc := 17) dX3_parse_17 rfl rfl ?_
      refine ph_callVi (pc := 18) dX3_parse_18 ph_mf_yX4_size ph_ml_RX3_32 ph_mi_yX4_size ph_mv_yX4_size rfl rfl (c_X4_size Z (d - 1) (by omega) 1 h5) (by omega) rfl rfl (Nat.le_of_ble_eq_true rfl) (fun v51 h52 => ?_)
      refine ph_bipush (v := (nI 24)) (pc := 21) dX3_parse_21 ph_bp_24 ?_
      refine ph_mmin (pc := 23) dX3_parse_23 ph_ml_RX3_38 ph_mm_min (by omega) (Nat.le_of_ble_eq_true rfl) ?_
      refine ph_goto (tgt := 30) (pc := 26) dX3_parse_26 (by decide) ?_
      exact hj6 ((if (nI 24) < v51 then (nI 24) else v51), h52)
def f_X3_printedIn (x1 : Int32) (h : ph_Hp) : Option (Int32 × ph_Hp) :=
  if (h.1 26 3) ≤ nI 0 then
    some ((-1), h)
  else
    ph_rmI x1 (h.1 26 3) fun v4 =>
    ph_cl (f_X3_lineIn v4 h) fun v5 h6 =>
    some (v5, h6)
set_option maxRecDepth 100000 in
theorem c_X3_printedIn (Z : ph_L) (d : Nat) (hdd : 1 ≤ d) (x1 : Int32) (h : ph_Hp) : ph_CM Z yX3_printedIn cX3_printedIn 2 (some .int) d [.ref (ph_a Z 26), .int x1] ph_vi h (f_X3_printedIn x1 h) := by
  refine ph_begin (own := RX3) ph_mf_yX3_printedIn rfl (ls := [some (.ref (ph_a Z 26)), some (.int x1)]) rfl (Nat.le_of_ble_eq_true rfl) ?_
  unfold f_X3_printedIn
  refine ph_aload_n (i := 0) (pc := 0) dX3_printedIn_0 rfl rfl ?_
  refine ph_getI (pc := 1) dX3_printedIn_1 ph_fl_RX3_21 rfl (by decide) ?_
  refine ph_if_le (tgt := 20) (pc := 4) dX3_printedIn_4 (by decide) (fun c3 => ?_) (fun c3 => ?_)
  · refine ph_iconst (v := (-1)) (pc := 20) dX3_printedIn_20 ph_ic_m1 ?_
    exact ph_iret (pc := 21) dX3_printedIn_21 rfl
  · refine ph_aload_n (i := 0) (pc := 7) dX3_printedIn_7 rfl rfl ?_
    refine ph_iload_n (i := 1) (pc := 8) dX3_printedIn_8 rfl rfl ?_
    refine ph_aload_n (i := 0) (pc := 9) dX3_printedIn_9 rfl rfl ?_
    refine ph_getI (pc := 10) dX3_printedIn_10 ph_fl_RX3_21 rfl (by decide) ?_
    refine ph_iremX (pc := 13) dX3_printedIn_13 (fun v4 => ?_)
    refine ph_callVi (pc := 14) dX3_printedIn_14 ph_mf_yX3_lineIn ph_ml_RX3_48 ph_mi_yX3_lineIn ph_mv_yX3_lineIn rfl rfl (c_X3_lineIn Z (d - 1) (by omega) v4 h) (by omega) rfl rfl (Nat.le_of_ble_eq_true rfl) (fun v5 h6 => ?_)
    refine ph_goto (tgt := 21) (pc := 17) dX3_printedIn_17 (by decide) ?_
    exact ph_iret (pc := 21) dX3_printedIn_21 rfl
def f_X4_isFull (r0 : Nat) (h : ph_Hp) : Option (Int32 × ph_Hp) :=
  ph_isK r0 4 <|
  ph_isK (ph_rf r0 0) 10 <|
  if (h.1 r0 1) < (nI (ph_ln (ph_rf r0 0))) then
    ph_rz (nI 0) h
  else
    ph_rz (nI 1) h
set_option maxRecDepth 100000 in
theorem c_X4_isFull (Z : ph_L) (d : Nat) (hdd : 0 ≤ d) (r0 : Nat) (h : ph_Hp) : ph_CM Z yX4_isFull cX4_isFull 1 (some .boolean) d [.ref (ph_a Z r0)] ph_vi h (f_X4_isFull r0 h) := by
  refine ph_begin (own := RX4) ph_mf_yX4_isFull rfl (ls := [some (.ref (ph_a Z r0))]) rfl (Nat.le_of_ble_eq_true rfl) ?_
  unfold f_X4_isFull
  refine ph_aload_n (i := 0) (pc := 0) dX4_isFull_0 rfl rfl ?_
  refine ph_isKr (fun hk2 => ?_)
  refine ph_getI (pc := 1) dX4_isFull_1 ph_fl_RX4_9 hk2 (by decide) ?_
  refine ph_aload_n (i := 0) (pc := 4) dX4_isFull_4 rfl rfl ?_
  refine ph_getR (pc := 5) dX4_isFull_5 ph_fl_RX4_21 hk2 rfl rfl ?_
  refine ph_isKr (fun hk3 => ?_)
  refine ph_alen (pc := 8) dX4_isFull_8 hk3 rfl ?_
  refine ph_icmp_lt (tgt := 16) (pc := 9) dX4_isFull_9 (by decide) (fun c4 => ?_) (fun c4 => ?_)
  · refine ph_iconst (v := (nI 0)) (pc := 16) dX4_isFull_16 ph_ic_0 ?_
    exact ph_zret (pc := 17) dX4_isFull_17 rfl
  · refine ph_iconst (v := (nI 1)) (pc := 12) dX4_isFull_12 ph_ic_1 ?_
    refine ph_goto (tgt := 17) (pc := 13) dX4_isFull_13 (by decide) ?_
    exact ph_zret (pc := 17) dX4_isFull_17 rfl
def f_X4_add (r0 : Nat) (x1 : Int32) (h : ph_Hp) : Option (Unit × ph_Hp) :=
  ph_isK r0 4 <|
  if (h.1 r0 1) < nI 0 then
    some ((), h)
  else
    ph_isK (ph_rf r0 0) 10 <|
    if (nI (ph_ln (ph_rf r0 0))) ≤ (h.1 r0 1) then
      some ((), h)
    else
      ph_stI h (ph_rf r0 0) (ph_ln (ph_rf r0 0)) (h.1 r0 1) x1 fun h7 =>
      ph_pfI h7 r0 1 ((h7.1 r0 1) + (nI 1)) fun h8 =>
      some ((), h8)
set_option maxRecDepth 100000 in
theorem c_X4_add (Z : ph_L) (d : Nat) (hdd : 0 ≤ d) (r0 : Nat) (x1 : Int32) (h : ph_Hp) : ph_CM Z yX4_add cX4_add 2 none d [.ref (ph_a Z r0), .int x1] ph_vv h (f_X4_add r0 x1 h) := by
  refine ph_begin (own := RX4) ph_mf_yX4_add rfl (ls := [some (.ref (ph_a Z r0)), some (.int x1)]) rfl (Nat.le_of_ble_eq_true rfl) ?_
  unfold f_X4_add
  refine ph_aload_n (i := 0) (pc := 0) dX4_add_0 rfl rfl ?_
  refine ph_isKr (fun hk3 => ?_)
  refine ph_getI (pc := 1) dX4_add_1 ph_fl_RX4_9 hk3 (by decide) ?_
  refine ph_if_lt (tgt := 39) (pc := 4) dX4_add_4 (by decide) (fun c4 => ?_) (fun c4 => ?_)
  · exact ph_vret (pc := 39) dX4_add_39 rfl
  · refine ph_aload_n (i := 0) (pc := 7) dX4_add_7 rfl rfl ?_
    refine ph_getI (pc := 8) dX4_add_8 ph_fl_RX4_9 hk3 (by decide) ?_
    refine ph_aload_n (i := 0) (pc := 11) dX4_add_11 rfl rfl ?_
    refine ph_getR (pc := 12) dX4_add_12 ph_fl_RX4_21 hk3 rfl rfl ?_
    refine ph_isKr (fun hk5 => ?_)
    refine ph_alen (pc := 15) dX4_add_15 hk5 rfl ?_
    refine ph_icmp_ge (tgt := 39) (pc := 16) dX4_add_16 (by decide) (fun c6 => ?_) (fun c6 => ?_)
    · exact ph_vret (pc := 39) dX4_add_39 rfl
    · refine ph_aload_n (i := 0) (pc := 19) dX4_add_19 rfl rfl ?_
      refine ph_getR (pc := 20) dX4_add_20 ph_fl_RX4_21 hk3 rfl rfl ?_
      refine ph_aload_n (i := 0) (pc := 23) dX4_add_23 rfl rfl ?_
      refine ph_getI (pc := 24) dX4_add_24 ph_fl_RX4_9 hk3 (by decide) ?_
      refine ph_iload_n (i := 1) (pc := 27) dX4_add_27 rfl rfl ?_
      refine ph_iast (pc := 28) dX4_add_28 hk5 rfl (fun h7 => ?_)
      refine ph_aload_n (i := 0) (pc := 29) dX4_add_29 rfl rfl ?_
      refine ph_dup (pc := 30) dX4_add_30 rfl ?_
      refine ph_getI (pc := 31) dX4_add_31 ph_fl_RX4_9 hk3 (by decide) ?_
      refine ph_iconst (v := (nI 1)) (pc := 34) dX4_add_34 ph_ic_1 ?_
      refine ph_iadd (pc := 35) dX4_add_35 ?_
      refine ph_putI (pc := 36) dX4_add_36 ph_pl_RX4_9 hk3 (by decide) rfl rfl (fun h8 => ?_)
      exact ph_vret (pc := 39) dX4_add_39 rfl
def f_X4_cut (r0 : Nat) (h : ph_Hp) : Option (Unit × ph_Hp) :=
  ph_isK r0 4 <|
  ph_pfI h r0 1 (if ((h.1 r0 1) - (nI 1)) < (nI 0) then (nI 0) else ((h.1 r0 1) - (nI 1))) fun h3 =>
  some ((), h3)
set_option maxRecDepth 100000 in
theorem c_X4_cut (Z : ph_L) (d : Nat) (hdd : 1 ≤ d) (r0 : Nat) (h : ph_Hp) : ph_CM Z yX4_cut cX4_cut 1 none d [.ref (ph_a Z r0)] ph_vv h (f_X4_cut r0 h) := by
  refine ph_begin (own := RX4) ph_mf_yX4_cut rfl (ls := [some (.ref (ph_a Z r0))]) rfl (Nat.le_of_ble_eq_true rfl) ?_
  unfold f_X4_cut
  refine ph_aload_n (i := 0) (pc := 0) dX4_cut_0 rfl rfl ?_
  refine ph_aload_n (i := 0) (pc := 1) dX4_cut_1 rfl rfl ?_
  refine ph_isKr (fun hk2 => ?_)
  refine ph_getI (pc := 2) dX4_cut_2 ph_fl_RX4_9 hk2 (by decide) ?_
  refine ph_iconst (v := (nI 1)) (pc := 5) dX4_cut_5 ph_ic_1 ?_
  refine ph_isub (pc := 6) dX4_cut_6 ?_
  refine ph_iconst (v := (nI 0)) (pc := 7) dX4_cut_7 ph_ic_0 ?_
  refine ph_mmax (pc := 8) dX4_cut_8 ph_ml_RX4_15 ph_mm_max (by omega) (Nat.le_of_ble_eq_true rfl) ?_
  refine ph_putI (pc := 11) dX4_cut_11 ph_pl_RX4_9 hk2 (by decide) rfl rfl (fun h3 => ?_)
  exact ph_vret (pc := 14) dX4_cut_14 rfl
def f_X4_clear (r0 : Nat) (h : ph_Hp) : Option (Unit × ph_Hp) :=
  ph_isK r0 4 <|
  ph_pfI h r0 1 (nI 0) fun h3 =>
  some ((), h3)
set_option maxRecDepth 100000 in
theorem c_X4_clear (Z : ph_L) (d : Nat) (hdd : 0 ≤ d) (r0 : Nat) (h : ph_Hp) : ph_CM Z yX4_clear cX4_clear 1 none d [.ref (ph_a Z r0)] ph_vv h (f_X4_clear r0 h) := by
  refine ph_begin (own := RX4) ph_mf_yX4_clear rfl (ls := [some (.ref (ph_a Z r0))]) rfl (Nat.le_of_ble_eq_true rfl) ?_
  unfold f_X4_clear
  refine ph_aload_n (i := 0) (pc := 0) dX4_clear_0 rfl rfl ?_
  refine ph_iconst (v := (nI 0)) (pc := 1) dX4_clear_1 ph_ic_0 ?_
  refine ph_isKr (fun hk2 => ?_)
  refine ph_putI (pc := 2) dX4_clear_2 ph_pl_RX4_9 hk2 (by decide) rfl rfl (fun h3 => ?_)
  exact ph_vret (pc := 5) dX4_clear_5 rfl
def f_X5_formOf (x1 : Int32) (h : ph_Hp) : Option (Int32 × ph_Hp) :=
  ph_cl (f_X8_within x1 (nI 4) h) fun v3 h4 =>
  if v3 = nI 0 then
    some ((-1), h4)
  else
    ph_ldI h4 48 4 x1 fun v6 =>
    some (v6, h4)
set_option maxRecDepth 100000 in
theorem c_X5_formOf (Z : ph_L) (d : Nat) (hdd : 1 ≤ d) (x1 : Int32) (h : ph_Hp) : ph_CM Z yX5_formOf cX5_formOf 2 (some .int) d [.ref (ph_a Z 47), .int x1] ph_vi h (f_X5_formOf x1 h) := by
  refine ph_begin (own := RX5) ph_mf_yX5_formOf rfl (ls := [some (.ref (ph_a Z 47)), some (.int x1)]) rfl (Nat.le_of_ble_eq_true rfl) ?_
  unfold f_X5_formOf
  refine ph_iload_n (i := 1) (pc := 0) dX5_formOf_0 rfl rfl ?_
  refine ph_iconst (v := (nI 4)) (pc := 1) dX5_formOf_1 ph_ic_4 ?_
  refine ph_callSi (pc := 2) dX5_formOf_2 ph_mf_yX8_within ph_ml_RX5_25 ph_ms_yX8_within (c_X8_within Z (d - 1) (by omega) x1 (nI 4) h) (by omega) rfl rfl (Nat.le_of_ble_eq_true rfl) (fun v3 h4 => ?_)
  refine ph_if_eq (tgt := 17) (pc := 5) dX5_formOf_5 (by decide) (fun c5 => ?_) (fun c5 => ?_)
  · refine ph_iconst (v := (-1)) (pc := 17) dX5_formOf_17 ph_ic_m1 ?_
    exact ph_iret (pc := 18) dX5_formOf_18 rfl
  · refine ph_aload_n (i := 0) (pc := 8) dX5_formOf_8 rfl rfl ?_
    refine ph_getR (j := 48) (pc := 9) dX5_formOf_9 ph_fl_RX5_11 rfl rfl rfl ?_
    refine ph_iload_n (i := 1) (pc := 12) dX5_formOf_12 rfl rfl ?_
    refine ph_iald (pc := 13) dX5_formOf_13 rfl rfl (fun v6 => ?_)
    refine ph_goto (tgt := 18) (pc := 14) dX5_formOf_14 (by decide) ?_
    exact ph_iret (pc := 18) dX5_formOf_18 rfl
def f_X5_isLost (x1 : Int32) (h : ph_Hp) : Option (Int32 × ph_Hp) :=
  ph_cl (f_X5_formOf x1 h) fun v3 h4 =>
  if v3 = (-1) then
    ph_rz (nI 1) h4
  else
    ph_rz (nI 0) h4
set_option maxRecDepth 100000 in
theorem c_X5_isLost (Z : ph_L) (d : Nat) (hdd : 2 ≤ d) (x1 : Int32) (h : ph_Hp) : ph_CM Z yX5_isLost cX5_isLost 2 (some .boolean) d [.ref (ph_a Z 47), .int x1] ph_vi h (f_X5_isLost x1 h) := by
  refine ph_begin (own := RX5) ph_mf_yX5_isLost rfl (ls := [some (.ref (ph_a Z 47)), some (.int x1)]) rfl (Nat.le_of_ble_eq_true rfl) ?_
  unfold f_X5_isLost
  refine ph_aload_n (i := 0) (pc := 0) dX5_isLost_0 rfl rfl ?_
  refine ph_iload_n (i := 1) (pc := 1) dX5_isLost_1 rfl rfl ?_
  refine ph_callVi (pc := 2) dX5_isLost_2 ph_mf_yX5_formOf ph_ml_RX5_21 ph_mi_yX5_formOf ph_mv_yX5_formOf rfl rfl (c_X5_formOf Z (d - 1) (by omega) x1 h) (by omega) rfl rfl (Nat.le_of_ble_eq_true rfl) (fun v3 h4 => ?_)
  refine ph_iconst (v := (-1)) (pc := 5) dX5_isLost_5 ph_ic_m1 ?_
  refine ph_icmp_ne (tgt := 13) (pc := 6) dX5_isLost_6 (by decide) (fun c5 => ?_) (fun c5 => ?_)
  · refine ph_iconst (v := (nI 0)) (pc := 13) dX5_isLost_13 ph_ic_0 ?_
    exact ph_zret (pc := 14) dX5_isLost_14 rfl
  · refine ph_iconst (v := (nI 1)) (pc := 9) dX5_isLost_9 ph_ic_1 ?_
    refine ph_goto (tgt := 14) (pc := 10) dX5_isLost_10 (by decide) ?_
    exact ph_zret (pc := 14) dX5_isLost_14 rfl
def f_X5_sizeOf (x1 : Int32) (h : ph_Hp) : Option (Int32 × ph_Hp) :=
  ph_cl (f_X8_within x1 (nI 4) h) fun v3 h4 =>
  if v3 = nI 0 then
    some ((nI 0), h4)
  else
    ph_ldI h4 49 4 x1 fun v6 =>
    some (v6, h4)
set_option maxRecDepth 100000 in
theorem c_X5_sizeOf (Z : ph_L) (d : Nat) (hdd : 1 ≤ d) (x1 : Int32) (h : ph_Hp) : ph_CM Z yX5_sizeOf cX5_sizeOf 2 (some .int) d [.ref (ph_a Z 47), .int x1] ph_vi h (f_X5_sizeOf x1 h) := by
  refine ph_begin (own := RX5) ph_mf_yX5_sizeOf rfl (ls := [some (.ref (ph_a Z 47)), some (.int x1)]) rfl (Nat.le_of_ble_eq_true rfl) ?_
  unfold f_X5_sizeOf
  refine ph_iload_n (i := 1) (pc := 0) dX5_sizeOf_0 rfl rfl ?_
  refine ph_iconst (v := (nI 4)) (pc := 1) dX5_sizeOf_1 ph_ic_4 ?_
  refine ph_callSi (pc := 2) dX5_sizeOf_2 ph_mf_yX8_within ph_ml_RX5_25 ph_ms_yX8_within (c_X8_within Z (d - 1) (by omega) x1 (nI 4) h) (by omega) rfl rfl (Nat.le_of_ble_eq_true rfl) (fun v3 h4 => ?_)
  refine ph_if_eq (tgt := 17) (pc := 5) dX5_sizeOf_5 (by decide) (fun c5 => ?_) (fun c5 => ?_)
  · refine ph_iconst (v := (nI 0)) (pc := 17) dX5_sizeOf_17 ph_ic_0 ?_
    exact ph_iret (pc := 18) dX5_sizeOf_18 rfl
  · refine ph_aload_n (i := 0) (pc := 8) dX5_sizeOf_8 rfl rfl ?_
    refine ph_getR (j := 49) (pc := 9) dX5_sizeOf_9 ph_fl_RX5_15 rfl rfl rfl ?_
    refine ph_iload_n (i := 1) (pc := 12) dX5_sizeOf_12 rfl rfl ?_
    refine ph_iald (pc := 13) dX5_sizeOf_13 rfl rfl (fun v6 => ?_)
    refine ph_goto (tgt := 18) (pc := 14) dX5_sizeOf_14 (by decide) ?_
    exact ph_iret (pc := 18) dX5_sizeOf_18 rfl
def f_X5_item (x1 : Int32) (x2 : Int32) (h : ph_Hp) : Option (Int32 × ph_Hp) :=
  ph_cl (f_X8_within x1 (nI 4) h) fun v4 h5 =>
  if v4 = nI 0 then
    some ((nI 0), h5)
  else
    ph_cl (f_X8_within x2 (nI 60) h5) fun v7 h8 =>
    if v7 = nI 0 then
      some ((nI 0), h8)
    else
      ph_ldI h8 50 240 ((x1 * (nI 60)) + x2) fun v10 =>
      some (v10, h8)
set_option maxRecDepth 100000 in
theorem c_X5_item (Z : ph_L) (d : Nat) (hdd : 1 ≤ d) (x1 : Int32) (x2 : Int32) (h : ph_Hp) : ph_CM Z yX5_item cX5_item 3 (some .int) d [.ref (ph_a Z 47), .int x1, .int x2] ph_vi h (f_X5_item x1 x2 h) := by
  refine ph_begin (own := RX5) ph_mf_yX5_item rfl (ls := [some (.ref (ph_a Z 47)), some (.int x1), some (.int x2)]) rfl (Nat.le_of_ble_eq_true rfl) ?_
  unfold f_X5_item
  refine ph_iload_n (i := 1) (pc := 0) dX5_item_0 rfl rfl ?_
  refine ph_iconst (v := (nI 4)) (pc := 1) dX5_item_1 ph_ic_4 ?_
  refine ph_callSi (pc := 2) dX5_item_2 ph_mf_yX8_within ph_ml_RX5_25 ph_ms_yX8_within (c_X8_within Z (d - 1) (by omega) x1 (nI 4) h) (by omega) rfl rfl (Nat.le_of_ble_eq_true rfl) (fun v4 h5 => ?_)
  refine ph_if_eq (tgt := 31) (pc := 5) dX5_item_5 (by decide) (fun c6 => ?_) (fun c6 => ?_)
  · refine ph_iconst (v := (nI 0)) (pc := 31) dX5_item_31 ph_ic_0 ?_
    exact ph_iret (pc := 32) dX5_item_32 rfl
  · refine ph_iload_n (i := 2) (pc := 8) dX5_item_8 rfl rfl ?_
    refine ph_bipush (v := (nI 60)) (pc := 9) dX5_item_9 ph_bp_60 ?_
    refine ph_callSi (pc := 11) dX5_item_11 ph_mf_yX8_within ph_ml_RX5_25 ph_ms_yX8_within (c_X8_within Z (d - 1) (by omega) x2 (nI 60) h5) (by omega) rfl rfl (Nat.le_of_ble_eq_true rfl) (fun v7 h8 => ?_)
    refine ph_if_eq (tgt := 31) (pc := 14) dX5_item_14 (by decide) (fun c9 => ?_) (fun c9 => ?_)
    · refine ph_iconst (v := (nI 0)) (pc := 31) dX5_item_31 ph_ic_0 ?_
      exact ph_iret (pc := 32) dX5_item_32 rfl
    · refine ph_aload_n (i := 0) (pc := 17) dX5_item_17 rfl rfl ?_
      refine ph_getR (j := 50) (pc := 18) dX5_item_18 ph_fl_RX5_18 rfl rfl rfl ?_
      refine ph_iload_n (i := 1) (pc := 21) dX5_item_21 rfl rfl ?_
      refine ph_bipush (v := (nI 60)) (pc := 22) dX5_item_22 ph_bp_60 ?_
      refine ph_imul (pc := 24) dX5_item_24 ?_
      refine ph_iload_n (i := 2) (pc := 25) dX5_item_25 rfl rfl ?_
      refine ph_iadd (pc := 26) dX5_item_26 ?_
      refine ph_iald (pc := 27) dX5_item_27 rfl rfl (fun v10 => ?_)
      refine ph_goto (tgt := 32) (pc := 28) dX5_item_28 (by decide) ?_
      exact ph_iret (pc := 32) dX5_item_32 rfl
def f_X5_put (x1 : Int32) (x2 : Int32) (x3 : Int32) (h : ph_Hp) : Option (Unit × ph_Hp) :=
  ph_cl (f_X8_within x1 (nI 4) h) fun v5 h6 =>
  if v5 = nI 0 then
    some ((), h6)
  else
    ph_cl (f_X8_within x2 (nI 60) h6) fun v8 h9 =>
    if v8 = nI 0 then
      some ((), h9)
    else
      ph_ldI h9 48 4 x1 fun v11 =>
      ph_jn (α := Int32) (fun x13 =>
        ph_stI h9 50 240 ((x1 * (nI 60)) + x2) x13 fun h14 =>
        some ((), h14)) (fun j12 =>
        if v11 = nI 0 then
          j12 x3.toInt8.toInt32
        else
          ph_ldI h9 48 4 x1 fun v16 =>
          if v16 = (nI 1) then
            j12 x3.toInt16.toInt32
          else
            j12 x3)
set_option maxRecDepth 100000 in
theorem c_X5_put (Z : ph_L) (d : Nat) (hdd : 1 ≤ d) (x1 : Int32) (x2 : Int32) (x3 : Int32) (h : ph_Hp) : ph_CM Z yX5_put cX5_put 4 none d [.ref (ph_a Z 47), .int x1, .int x2, .int x3] ph_vv h (f_X5_put x1 x2 x3 h) := by
  refine ph_begin (own := RX5) ph_mf_yX5_put rfl (ls := [some (.ref (ph_a Z 47)), some (.int x1), some (.int x2), some (.int x3)]) rfl (Nat.le_of_ble_eq_true rfl) ?_
  unfold f_X5_put
  refine ph_iload_n (i := 1) (pc := 0) dX5_put_0 rfl rfl ?_
  refine ph_iconst (v := (nI 4)) (pc := 1) dX5_put_1 ph_ic_4 ?_
  refine ph_callSi (pc := 2) dX5_put_2 ph_mf_yX8_within ph_ml_RX5_25 ph_ms_yX8_within (c_X8_within Z (d - 1) (by omega) x1 (nI 4) h) (by omega) rfl rfl (Nat.le_of_ble_eq_true rfl) (fun v5 h6 => ?_)
  refine ph_if_eq (tgt := 58) (pc := 5) dX5_put_5 (by decide) (fun c7 => ?_) (fun c7 => ?_)
  · exact ph_vret (pc := 58) dX5_put_58 rfl
  · refine ph_iload_n (i := 2) (pc := 8) dX5_put_8 rfl rfl ?_
    refine ph_bipush (v := (nI 60)) (pc := 9) dX5_put_9 ph_bp_60 ?_
    refine ph_callSi (pc := 11) dX5_put_11 ph_mf_yX8_within ph_ml_RX5_25 ph_ms_yX8_within (c_X8_within Z (d - 1) (by omega) x2 (nI 60) h6) (by omega) rfl rfl (Nat.le_of_ble_eq_true rfl) (fun v8 h9 => ?_)
    refine ph_if_eq (tgt := 58) (pc := 14) dX5_put_14 (by decide) (fun c10 => ?_) (fun c10 => ?_)
    · exact ph_vret (pc := 58) dX5_put_58 rfl
    · refine ph_aload_n (i := 0) (pc := 17) dX5_put_17 rfl rfl ?_
      refine ph_getR (j := 50) (pc := 18) dX5_put_18 ph_fl_RX5_18 rfl rfl rfl ?_
      refine ph_iload_n (i := 1) (pc := 21) dX5_put_21 rfl rfl ?_
      refine ph_bipush (v := (nI 60)) (pc := 22) dX5_put_22 ph_bp_60 ?_
      refine ph_imul (pc := 24) dX5_put_24 ?_
      refine ph_iload_n (i := 2) (pc := 25) dX5_put_25 rfl rfl ?_
      refine ph_iadd (pc := 26) dX5_put_26 ?_
      refine ph_aload_n (i := 0) (pc := 27) dX5_put_27 rfl rfl ?_
      refine ph_getR (j := 48) (pc := 28) dX5_put_28 ph_fl_RX5_11 rfl rfl rfl ?_
      refine ph_iload_n (i := 1) (pc := 31) dX5_put_31 rfl rfl ?_
      refine ph_iald (pc := 32) dX5_put_32 rfl rfl (fun v11 => ?_)
      refine ph_join (α := Int32) 57 (fun x => [none, none, none, none]) (fun x => [.int x, .int ((x1 * (nI 60)) + x2), .ref (ph_a Z 50)]) (fun x => h9) (fun x => ?_) (fun j12 hj12 => ?_)
      · revert x; intro x13
        refine ph_iast (pc := 57) dX5_put_57 rfl rfl (fun h14 => ?_)
        exact ph_vret (pc := 58) dX5_put_58 rfl
      · refine ph_if_ne (tgt := 41) (pc := 33) dX5_put_33 (by decide) (fun c15 => ?_) (fun c15 => ?_)
        · refine ph_aload_n (i := 0) (pc := 41) dX5_put_41 rfl rfl ?_
          refine ph_getR (j := 48) (pc := 42) dX5_put_42 ph_fl_RX5_11 rfl rfl rfl ?_
          refine ph_iload_n (i := 1) (pc := 45) dX5_put_45 rfl rfl ?_
          refine ph_iald (pc := 46) dX5_put_46 rfl rfl (fun v16 => ?_)
          refine ph_iconst (v := (nI 1)) (pc := 47) dX5_put_47 ph_ic_1 ?_
          refine ph_icmp_ne (tgt := 56) (pc := 48) dX5_put_48 (by decide) (fun c17 => ?_) (fun c17 => ?_)
          · refine ph_iload_n (i := 3) (pc := 56) dX5_put_56 rfl rfl ?_
            refine ph_wk (ls1 := [none, none, none, none]) trivial ?_
            exact hj12 x3
          · refine ph_iload_n (i := 3) (pc := 51) dX5_put_51 rfl rfl ?_
            refine ph_i2s (pc := 52) dX5_put_52 ?_
            refine ph_goto (tgt := 57) (pc := 53) dX5_put_53 (by decide) ?_
            refine ph_wk (ls1 := [none, none, none, none]) trivial ?_
            exact hj12 x3.toInt16.toInt32
        · refine ph_iload_n (i := 3) (pc := 36) dX5_put_36 rfl rfl ?_
          refine ph_i2b (pc := 37) dX5_put_37 ?_
          refine ph_goto (tgt := 57) (pc := 38) dX5_put_38 (by decide) ?_
          refine ph_wk (ls1 := [none, none, none, none]) trivial ?_
          exact hj12 x3.toInt8.toInt32
def f_X5_renew (x1 : Int32) (x2 : Int32) (x3 : Int32) (h : ph_Hp) : Option (Unit × ph_Hp) :=
  ph_cl (f_X8_within x1 (nI 4) h) fun v5 h6 =>
  if v5 = nI 0 then
    some ((), h6)
  else
    ph_stI h6 48 4 x1 x2 fun h8 =>
    ph_stI h8 49 4 x1 x3 fun h9 =>
    ph_lp (α := Int32 × ph_Hp) (fun j10 (x11, h12) =>
      if (nI 60) ≤ x11 then
        some ((), h12)
      else
        ph_stI h12 50 240 ((x1 * (nI 60)) + x11) (nI 0) fun h14 =>
        j10 (x11 + (nI 1), h14)) ph_fu ((nI 0), h9)
set_option maxRecDepth 100000 in
theorem c_X5_renew (Z : ph_L) (d : Nat) (hdd : 1 ≤ d) (x1 : Int32) (x2 : Int32) (x3 : Int32) (h : ph_Hp) : ph_CM Z yX5_renew cX5_renew 5 none d [.ref (ph_a Z 47), .int x1, .int x2, .int x3] ph_vv h (f_X5_renew x1 x2 x3 h) := by
  refine ph_begin (own := RX5) ph_mf_yX5_renew rfl (ls := [some (.ref (ph_a Z 47)), some (.int x1), some (.int x2), some (.int x3), none]) rfl (Nat.le_of_ble_eq_true rfl) ?_
  unfold f_X5_renew
  refine ph_iload_n (i := 1) (pc := 0) dX5_renew_0 rfl rfl ?_
  refine ph_iconst (v := (nI 4)) (pc := 1) dX5_renew_1 ph_ic_4 ?_
  refine ph_callSi (pc := 2) dX5_renew_2 ph_mf_yX8_within ph_ml_RX5_25 ph_ms_yX8_within (c_X8_within Z (d - 1) (by omega) x1 (nI 4) h) (by omega) rfl rfl (Nat.le_of_ble_eq_true rfl) (fun v5 h6 => ?_)
  refine ph_if_eq (tgt := 51) (pc := 5) dX5_renew_5 (by decide) (fun c7 => ?_) (fun c7 => ?_)
  · exact ph_vret (pc := 51) dX5_renew_51 rfl
  · refine ph_aload_n (i := 0) (pc := 8) dX5_renew_8 rfl rfl ?_
    refine ph_getR (j := 48) (pc := 9) dX5_renew_9 ph_fl_RX5_11 rfl rfl rfl ?_
    refine ph_iload_n (i := 1) (pc := 12) dX5_renew_12 rfl rfl ?_
    refine ph_iload_n (i := 2) (pc := 13) dX5_renew_13 rfl rfl ?_
    refine ph_iast (pc := 14) dX5_renew_14 rfl rfl (fun h8 => ?_)
    refine ph_aload_n (i := 0) (pc := 15) dX5_renew_15 rfl rfl ?_
    refine ph_getR (j := 49) (pc := 16) dX5_renew_16 ph_fl_RX5_15 rfl rfl rfl ?_
    refine ph_iload_n (i := 1) (pc := 19) dX5_renew_19 rfl rfl ?_
    refine ph_iload_n (i := 3) (pc := 20) dX5_renew_20 rfl rfl ?_
    refine ph_iast (pc := 21) dX5_renew_21 rfl rfl (fun h9 => ?_)
    refine ph_iconst (v := (nI 0)) (pc := 22) dX5_renew_22 ph_ic_0 ?_
    refine ph_istore (i := 4) (ls1 := [some (.ref (ph_a Z 47)), some (.int x1), some (.int x2), some (.int x3), some (.int (nI 0))]) (pc := 23) dX5_renew_23 (by decide) rfl ?_
    refine ph_wk (ls1 := [some (.ref (ph_a Z 47)), some (.int x1), none, none, some (.int (nI 0))]) ⟨rfl, ⟨rfl, ⟨rfl, trivial⟩⟩⟩ ?_
    refine ph_loop (α := Int32 × ph_Hp) 25 (fun x => [some (.ref (ph_a Z 47)), some (.int x1), none, none, some (.int x.1)]) (fun x => []) (fun x => x.2) (fun j10 hj10 x => ?_) ph_fu ((nI 0), h9)
    obtain ⟨x11, h12⟩ := x
    dsimp only
    refine ph_iload (i := 4) (pc := 25) dX5_renew_25 rfl ?_
    refine ph_bipush (v := (nI 60)) (pc := 27) dX5_renew_27 ph_bp_60 ?_
    refine ph_icmp_ge (tgt := 51) (pc := 29) dX5_renew_29 (by decide) (fun c13 => ?_) (fun c13 => ?_)
    · exact ph_vret (pc := 51) dX5_renew_51 rfl
    · refine ph_aload_n (i := 0) (pc := 32) dX5_renew_32 rfl rfl ?_
      refine ph_getR (j := 50) (pc := 33) dX5_renew_33 ph_fl_RX5_18 rfl rfl rfl ?_
      refine ph_iload_n (i := 1) (pc := 36) dX5_renew_36 rfl rfl ?_
      refine ph_bipush (v := (nI 60)) (pc := 37) dX5_renew_37 ph_bp_60 ?_
      refine ph_imul (pc := 39) dX5_renew_39 ?_
      refine ph_iload (i := 4) (pc := 40) dX5_renew_40 rfl ?_
      refine ph_iadd (pc := 42) dX5_renew_42 ?_
      refine ph_iconst (v := (nI 0)) (pc := 43) dX5_renew_43 ph_ic_0 ?_
      refine ph_iast (pc := 44) dX5_renew_44 rfl rfl (fun h14 => ?_)
      refine ph_iinc (i := 4) (v := (nI 1)) (ls1 := [some (.ref (ph_a Z 47)), some (.int x1), none, none, some (.int (x11 + (nI 1)))]) (pc := 45) dX5_renew_45 rfl ph_ic_1 (by decide) rfl ?_
      refine ph_goto (tgt := 25) (pc := 48) dX5_renew_48 (by decide) ?_
      exact hj10 (x11 + (nI 1), h14)
def f_X5_tear (x1 : Int32) (h : ph_Hp) : Option (Unit × ph_Hp) :=
  ph_cl (f_X8_within x1 (nI 4) h) fun v3 h4 =>
  if v3 = nI 0 then
    some ((), h4)
  else
    ph_stI h4 48 4 x1 (-1) fun h6 =>
    ph_stI h6 49 4 x1 (nI 0) fun h7 =>
    some ((), h7)
set_option maxRecDepth 100000 in
theorem c_X5_tear (Z : ph_L) (d : Nat) (hdd : 1 ≤ d) (x1 : Int32) (h : ph_Hp) : ph_CM Z yX5_tear cX5_tear 2 none d [.ref (ph_a Z 47), .int x1] ph_vv h (f_X5_tear x1 h) := by
  refine ph_begin (own := RX5) ph_mf_yX5_tear rfl (ls := [some (.ref (ph_a Z 47)), some (.int x1)]) rfl (Nat.le_of_ble_eq_true rfl) ?_
  unfold f_X5_tear
  refine ph_iload_n (i := 1) (pc := 0) dX5_tear_0 rfl rfl ?_
  refine ph_iconst (v := (nI 4)) (pc := 1) dX5_tear_1 ph_ic_4 ?_
  refine ph_callSi (pc := 2) dX5_tear_2 ph_mf_yX8_within ph_ml_RX5_25 ph_ms_yX8_within (c_X8_within Z (d - 1) (by omega) x1 (nI 4) h) (by omega) rfl rfl (Nat.le_of_ble_eq_true rfl) (fun v3 h4 => ?_)
  refine ph_if_eq (tgt := 22) (pc := 5) dX5_tear_5 (by decide) (fun c5 => ?_) (fun c5 => ?_)
  · exact ph_vret (pc := 22) dX5_tear_22 rfl
  · refine ph_aload_n (i := 0) (pc := 8) dX5_tear_8 rfl rfl ?_
    refine ph_getR (j := 48) (pc := 9) dX5_tear_9 ph_fl_RX5_11 rfl rfl rfl ?_
    refine ph_iload_n (i := 1) (pc := 12) dX5_tear_12 rfl rfl ?_
    refine ph_iconst (v := (-1)) (pc := 13) dX5_tear_13 ph_ic_m1 ?_
    refine ph_iast (pc := 14) dX5_tear_14 rfl rfl (fun h6 => ?_)
    refine ph_aload_n (i := 0) (pc := 15) dX5_tear_15 rfl rfl ?_
    refine ph_getR (j := 49) (pc := 16) dX5_tear_16 ph_fl_RX5_15 rfl rfl rfl ?_
    refine ph_iload_n (i := 1) (pc := 19) dX5_tear_19 rfl rfl ?_
    refine ph_iconst (v := (nI 0)) (pc := 20) dX5_tear_20 ph_ic_0 ?_
    refine ph_iast (pc := 21) dX5_tear_21 rfl rfl (fun h7 => ?_)
    exact ph_vret (pc := 22) dX5_tear_22 rfl
def f_X5_wrongWith (x1 : Int32) (x2 : Int32) (x3 : Int32) (h : ph_Hp) : Option (Int32 × ph_Hp) :=
  ph_cl (f_X5_isLost x1 h) fun v5 h6 =>
  if v5 = nI 0 then
    ph_cl (f_X5_formOf x1 h6) fun v8 h9 =>
    if v8 = x2 then
      ph_cl (f_X5_sizeOf x1 h9) fun v11 h12 =>
      ph_cl (f_X8_within x3 v11 h12) fun v13 h14 =>
      if v13 = nI 0 then
        some ((nI 2), h14)
      else
        some ((nI 0), h14)
    else
      some ((nI 3), h9)
  else
    some ((nI 1), h6)
set_option maxRecDepth 100000 in
theorem c_X5_wrongWith (Z : ph_L) (d : Nat) (hdd : 3 ≤ d) (x1 : Int32) (x2 : Int32) (x3 : Int32) (h : ph_Hp) : ph_CM Z yX5_wrongWith cX5_wrongWith 4 (some .int) d [.ref (ph_a Z 47), .int x1, .int x2, .int x3] ph_vi h (f_X5_wrongWith x1 x2 x3 h) := by
  refine ph_begin (own := RX5) ph_mf_yX5_wrongWith rfl (ls := [some (.ref (ph_a Z 47)), some (.int x1), some (.int x2), some (.int x3)]) rfl (Nat.le_of_ble_eq_true rfl) ?_
  unfold f_X5_wrongWith
  refine ph_aload_n (i := 0) (pc := 0) dX5_wrongWith_0 rfl rfl ?_
  refine ph_iload_n (i := 1) (pc := 1) dX5_wrongWith_1 rfl rfl ?_
  refine ph_callVi (pc := 2) dX5_wrongWith_2 ph_mf_yX5_isLost ph_ml_RX5_29 ph_mi_yX5_isLost ph_mv_yX5_isLost rfl rfl (c_X5_isLost Z (d - 1) (by omega) x1 h) (by omega) rfl rfl (Nat.le_of_ble_eq_true rfl) (fun v5 h6 => ?_)
  refine ph_if_eq (tgt := 10) (pc := 5) dX5_wrongWith_5 (by decide) (fun c7 => ?_) (fun c7 => ?_)
  · refine ph_aload_n (i := 0) (pc := 10) dX5_wrongWith_10 rfl rfl ?_
    refine ph_iload_n (i := 1) (pc := 11) dX5_wrongWith_11 rfl rfl ?_
    refine ph_callVi (pc := 12) dX5_wrongWith_12 ph_mf_yX5_formOf ph_ml_RX5_21 ph_mi_yX5_formOf ph_mv_yX5_formOf rfl rfl (c_X5_formOf Z (d - 1) (by omega) x1 h6) (by omega) rfl rfl (Nat.le_of_ble_eq_true rfl) (fun v8 h9 => ?_)
    refine ph_iload_n (i := 2) (pc := 15) dX5_wrongWith_15 rfl rfl ?_
    refine ph_icmp_eq (tgt := 21) (pc := 16) dX5_wrongWith_16 (by decide) (fun c10 => ?_) (fun c10 => ?_)
    · refine ph_iload_n (i := 3) (pc := 21) dX5_wrongWith_21 rfl rfl ?_
      refine ph_aload_n (i := 0) (pc := 22) dX5_wrongWith_22 rfl rfl ?_
      refine ph_iload_n (i := 1) (pc := 23) dX5_wrongWith_23 rfl rfl ?_
      refine ph_callVi (pc := 24) dX5_wrongWith_24 ph_mf_yX5_sizeOf ph_ml_RX5_33 ph_mi_yX5_sizeOf ph_mv_yX5_sizeOf rfl rfl (c_X5_sizeOf Z (d - 1) (by omega) x1 h9) (by omega) rfl rfl (Nat.le_of_ble_eq_true rfl) (fun v11 h12 => ?_)
      refine ph_callSi (pc := 27) dX5_wrongWith_27 ph_mf_yX8_within ph_ml_RX5_25 ph_ms_yX8_within (c_X8_within Z (d - 1) (by omega) x3 v11 h12) (by omega) rfl rfl (Nat.le_of_ble_eq_true rfl) (fun v13 h14 => ?_)
      refine ph_if_eq (tgt := 37) (pc := 30) dX5_wrongWith_30 (by decide) (fun c15 => ?_) (fun c15 => ?_)
      · refine ph_iconst (v := (nI 2)) (pc := 37) dX5_wrongWith_37 ph_ic_2 ?_
        exact ph_iret (pc := 38) dX5_wrongWith_38 rfl
      · refine ph_iconst (v := (nI 0)) (pc := 33) dX5_wrongWith_33 ph_ic_0 ?_
        refine ph_goto (tgt := 38) (pc := 34) dX5_wrongWith_34 (by decide) ?_
        exact ph_iret (pc := 38) dX5_wrongWith_38 rfl
    · refine ph_iconst (v := (nI 3)) (pc := 19) dX5_wrongWith_19 ph_ic_3 ?_
      exact ph_iret (pc := 20) dX5_wrongWith_20 rfl
  · refine ph_iconst (v := (nI 1)) (pc := 8) dX5_wrongWith_8 ph_ic_1 ?_
    exact ph_iret (pc := 9) dX5_wrongWith_9 rfl
def f_X5_hasRun (x1 : Int32) (x2 : Int32) (x3 : Int32) (h : ph_Hp) : Option (Int32 × ph_Hp) :=
  if x2 < nI 0 then
    ph_rz (nI 0) h
  else
    if x3 < nI 0 then
      ph_rz (nI 0) h
    else
      ph_cl (f_X5_sizeOf x1 h) fun v7 h8 =>
      if (v7 - x2) < x3 then
        ph_rz (nI 0) h8
      else
        ph_rz (nI 1) h8
set_option maxRecDepth 100000 in
theorem c_X5_hasRun (Z : ph_L) (d : Nat) (hdd : 2 ≤ d) (x1 : Int32) (x2 : Int32) (x3 : Int32) (h : ph_Hp) : ph_CM Z yX5_hasRun cX5_hasRun 4 (some .boolean) d [.ref (ph_a Z 47), .int x1, .int x2, .int x3] ph_vi h (f_X5_hasRun x1 x2 x3 h) := by
  refine ph_begin (own := RX5) ph_mf_yX5_hasRun rfl (ls := [some (.ref (ph_a Z 47)), some (.int x1), some (.int x2), some (.int x3)]) rfl (Nat.le_of_ble_eq_true rfl) ?_
  unfold f_X5_hasRun
  refine ph_iload_n (i := 2) (pc := 0) dX5_hasRun_0 rfl rfl ?_
  refine ph_if_lt (tgt := 23) (pc := 1) dX5_hasRun_1 (by decide) (fun c5 => ?_) (fun c5 => ?_)
  · refine ph_iconst (v := (nI 0)) (pc := 23) dX5_hasRun_23 ph_ic_0 ?_
    exact ph_zret (pc := 24) dX5_hasRun_24 rfl
  · refine ph_iload_n (i := 3) (pc := 4) dX5_hasRun_4 rfl rfl ?_
    refine ph_if_lt (tgt := 23) (pc := 5) dX5_hasRun_5 (by decide) (fun c6 => ?_) (fun c6 => ?_)
    · refine ph_iconst (v := (nI 0)) (pc := 23) dX5_hasRun_23 ph_ic_0 ?_
      exact ph_zret (pc := 24) dX5_hasRun_24 rfl
    · refine ph_iload_n (i := 3) (pc := 8) dX5_hasRun_8 rfl rfl ?_
      refine ph_aload_n (i := 0) (pc := 9) dX5_hasRun_9 rfl rfl ?_
      refine ph_iload_n (i := 1) (pc := 10) dX5_hasRun_10 rfl rfl ?_
      refine ph_callVi (pc := 11) dX5_hasRun_11 ph_mf_yX5_sizeOf ph_ml_RX5_33 ph_mi_yX5_sizeOf ph_mv_yX5_sizeOf rfl rfl (c_X5_sizeOf Z (d - 1) (by omega) x1 h) (by omega) rfl rfl (Nat.le_of_ble_eq_true rfl) (fun v7 h8 => ?_)
      refine ph_iload_n (i := 2) (pc := 14) dX5_hasRun_14 rfl rfl ?_
      refine ph_isub (pc := 15) dX5_hasRun_15 ?_
      refine ph_icmp_gt (tgt := 23) (pc := 16) dX5_hasRun_16 (by decide) (fun c9 => ?_) (fun c9 => ?_)
      · refine ph_iconst (v := (nI 0)) (pc := 23) dX5_hasRun_23 ph_ic_0 ?_
        exact ph_zret (pc := 24) dX5_hasRun_24 rfl
      · refine ph_iconst (v := (nI 1)) (pc := 19) dX5_hasRun_19 ph_ic_1 ?_
        refine ph_goto (tgt := 24) (pc := 20) dX5_hasRun_20 (by decide) ?_
        exact ph_zret (pc := 24) dX5_hasRun_24 rfl
def f_X5_carry (x1 : Int32) (x2 : Int32) (x3 : Int32) (x4 : Int32) (x5 : Int32) (h : ph_Hp) : Option (Unit × ph_Hp) :=
  ph_jn (α := Int32) (fun x8 =>
    ph_lp (α := Int32 × ph_Hp) (fun j9 (x10, h11) =>
      if x5 ≤ x10 then
        some ((), h11)
      else
        ph_jn (α := Int32) (fun x14 =>
          ph_cl (f_X5_item x1 (x2 + x14) h11) fun v15 h16 =>
          ph_cl (f_X5_put x3 (x4 + x14) v15 h16) fun _ h18 =>
          j9 (x10 + (nI 1), h18)) (fun j13 =>
          if x8 = nI 0 then
            j13 ((x5 - (nI 1)) - x10)
          else
            j13 x10)) ph_fu ((nI 0), h)) (fun j7 =>
    ph_jn (α := Unit) (fun _x =>
      j7 (nI 1)) (fun j20 =>
      if x1 = x3 then
        if x2 < x4 then
          j7 (nI 0)
        else
          j20 ()
      else
        j20 ()))
set_option maxRecDepth 100000 in
theorem c_X5_carry (Z : ph_L) (d : Nat) (hdd : 2 ≤ d) (x1 : Int32) (x2 : Int32) (x3 : Int32) (x4 : Int32) (x5 : Int32) (h : ph_Hp) : ph_CM Z yX5_carry cX5_carry 9 none d [.ref (ph_a Z 47), .int x1, .int x2, .int x3, .int x4, .int x5] ph_vv h (f_X5_carry x1 x2 x3 x4 x5 h) := by
  refine ph_begin (own := RX5) ph_mf_yX5_carry rfl (ls := [some (.ref (ph_a Z 47)), some (.int x1), some (.int x2), some (.int x3), some (.int x4), some (.int x5), none, none, none]) rfl (Nat.le_of_ble_eq_true rfl) ?_
  unfold f_X5_carry
  refine ph_iload_n (i := 1) (pc := 0) dX5_carry_0 rfl rfl ?_
  refine ph_iload_n (i := 3) (pc := 1) dX5_carry_1 rfl rfl ?_
  refine ph_join (α := Int32) 16 (fun x => [some (.ref (ph_a Z 47)), some (.int x1), some (.int x2), some (.int x3), some (.int x4), some (.int x5), none, none, none]) (fun x => [.int x]) (fun x => h) (fun x => ?_) (fun j7 hj7 => ?_)
  · revert x; intro x8
    refine ph_istore (i := 6) (ls1 := [some (.ref (ph_a Z 47)), some (.int x1), some (.int x2), some (.int x3), some (.int x4), some (.int x5), some (.int x8), none, none]) (pc := 16) dX5_carry_16 (by decide) rfl ?_
    refine ph_iconst (v := (nI 0)) (pc := 18) dX5_carry_18 ph_ic_0 ?_
    refine ph_istore (i := 7) (ls1 := [some (.ref (ph_a Z 47)), some (.int x1), some (.int x2), some (.int x3), some (.int x4), some (.int x5), some (.int x8), some (.int (nI 0)), none]) (pc := 19) dX5_carry_19 (by decide) rfl ?_
    refine ph_loop (α := Int32 × ph_Hp) 21 (fun x => [some (.ref (ph_a Z 47)), some (.int x1), some (.int x2), some (.int x3), some (.int x4), some (.int x5), some (.int x8), some (.int x.1), none]) (fun x => []) (fun x => x.2) (fun j9 hj9 x => ?_) ph_fu ((nI 0), h)
    obtain ⟨x10, h11⟩ := x
    dsimp only
    refine ph_iload (i := 7) (pc := 21) dX5_carry_21 rfl ?_
    refine ph_iload (i := 5) (pc := 23) dX5_carry_23 rfl ?_
    refine ph_icmp_ge (tgt := 72) (pc := 25) dX5_carry_25 (by decide) (fun c12 => ?_) (fun c12 => ?_)
    · exact ph_vret (pc := 72) dX5_carry_72 rfl
    · refine ph_iload (i := 6) (pc := 28) dX5_carry_28 rfl ?_
      refine ph_join (α := Int32) 45 (fun x => [some (.ref (ph_a Z 47)), some (.int x1), some (.int x2), some (.int x3), some (.int x4), some (.int x5), some (.int x8), some (.int x10), none]) (fun x => [.int x]) (fun x => h11) (fun x => ?_) (fun j13 hj13 => ?_)
      · revert x; intro x14
        refine ph_istore (i := 8) (ls1 := [some (.ref (ph_a Z 47)), some (.int x1), some (.int x2), some (.int x3), some (.int x4), some (.int x5), some (.int x8), some (.int x10), some (.int x14)]) (pc := 45) dX5_carry_45 (by decide) rfl ?_
        refine ph_aload_n (i := 0) (pc := 47) dX5_carry_47 rfl rfl ?_
        refine ph_iload_n (i := 3) (pc := 48) dX5_carry_48 rfl rfl ?_
        refine ph_iload (i := 4) (pc := 49) dX5_carry_49 rfl ?_
        refine ph_iload (i := 8) (pc := 51) dX5_carry_51 rfl ?_
        refine ph_iadd (pc := 53) dX5_carry_53 ?_
        refine ph_aload_n (i := 0) (pc := 54) dX5_carry_54 rfl rfl ?_
        refine ph_iload_n (i := 1) (pc := 55) dX5_carry_55 rfl rfl ?_
        refine ph_iload_n (i := 2) (pc := 56) dX5_carry_56 rfl rfl ?_
        refine ph_iload (i := 8) (pc := 57) dX5_carry_57 rfl ?_
        refine ph_iadd (pc := 59) dX5_carry_59 ?_
        refine ph_callVi (pc := 60) dX5_carry_60 ph_mf_yX5_item ph_ml_RX5_36 ph_mi_yX5_item ph_mv_yX5_item rfl rfl (c_X5_item Z (d - 1) (by omega) x1 (x2 + x14) h11) (by omega) rfl rfl (Nat.le_of_ble_eq_true rfl) (fun v15 h16 => ?_)
        refine ph_callVv (pc := 63) dX5_carry_63 ph_mf_yX5_put ph_ml_RX5_40 ph_mi_yX5_put ph_mv_yX5_put rfl rfl (c_X5_put Z (d - 1) (by omega) x3 (x4 + x14) v15 h16) (by omega) rfl rfl (Nat.le_of_ble_eq_true rfl) (fun v17 h18 => ?_)
        refine ph_iinc (i := 7) (v := (nI 1)) (ls1 := [some (.ref (ph_a Z 47)), some (.int x1), some (.int x2), some (.int x3), some (.int x4), some (.int x5), some (.int x8), some (.int (x10 + (nI 1))), some (.int x14)]) (pc := 66) dX5_carry_66 rfl ph_ic_1 (by decide) rfl ?_
        refine ph_goto (tgt := 21) (pc := 69) dX5_carry_69 (by decide) ?_
        refine ph_wk (ls1 := [some (.ref (ph_a Z 47)), some (.int x1), some (.int x2), some (.int x3), some (.int x4), some (.int x5), some (.int x8), some (.int (x10 + (nI 1))), none]) ⟨rfl, ⟨rfl, ⟨rfl, ⟨rfl, ⟨rfl, ⟨rfl, ⟨rfl, ⟨rfl, trivial⟩⟩⟩⟩⟩⟩⟩⟩ ?_
        exact hj9 (x10 + (nI 1), h18)
      · refine ph_if_eq (tgt := 38) (pc := 30) dX5_carry_30 (by decide) (fun c19 => ?_) (fun c19 => ?_)
        · refine ph_iload (i := 5) (pc := 38) dX5_carry_38 rfl ?_
          refine ph_iconst (v := (nI 1)) (pc := 40) dX5_carry_40 ph_ic_1 ?_
          refine ph_isub (pc := 41) dX5_carry_41 ?_
          refine ph_iload (i := 7) (pc := 42) dX5_carry_42 rfl ?_
          refine ph_isub (pc := 44) dX5_carry_44 ?_
          exact hj13 ((x5 - (nI 1)) - x10)
        · refine ph_iload (i := 7) (pc := 33) dX5_carry_33 rfl ?_
          refine ph_goto (tgt := 45) (pc := 35) dX5_carry_35 (by decide) ?_
          exact hj13 x10
  · refine ph_join (α := Unit) 11 (fun x => [some (.ref (ph_a Z 47)), some (.int x1), some (.int x2), some (.int x3), some (.int x4), some (.int x5), none, none, none]) (fun x => []) (fun x => h) (fun x => ?_) (fun j20 hj20 => ?_)
    · refine ph_iconst (v := (nI 1)) (pc := 11) dX5_carry_11 ph_ic_1 ?_
      refine ph_goto (tgt := 16) (pc := 12) dX5_carry_12 (by decide) ?_
      exact hj7 (nI 1)
    · refine ph_icmp_ne (tgt := 11) (pc := 2) dX5_carry_2 (by decide) (fun c21 => ?_) (fun c21 => ?_)
      · exact hj20 ()
      · refine ph_iload (i := 4) (pc := 5) dX5_carry_5 rfl ?_
        refine ph_iload_n (i := 2) (pc := 7) dX5_carry_7 rfl rfl ?_
        refine ph_icmp_gt (tgt := 15) (pc := 8) dX5_carry_8 (by decide) (fun c22 => ?_) (fun c22 => ?_)
        · refine ph_iconst (v := (nI 0)) (pc := 15) dX5_carry_15 ph_ic_0 ?_
          exact hj7 (nI 0)
        · exact hj20 ()
