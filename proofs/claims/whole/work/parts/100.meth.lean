def f_X0_begin (x1 : Int32) (h : ph_Hp) : Option (Unit × ph_Hp) :=
  ph_lp (α := Int32 × ph_Hp) (fun j3 (x4, h5) =>
    if (nI 8) ≤ x4 then
      ph_pfJ h5 42 2 (lN 1) fun h7 =>
      some ((), h7)
    else
      ph_jn (α := Int64) (fun x9 =>
        ph_stJ h5 43 8 x4 x9 fun h10 =>
        j3 (x4 + (nI 1), h10)) (fun j8 =>
        if x4 = x1 then
          j8 (lN 1)
        else
          j8 (lN 0))) ph_fu ((nI 0), h)
set_option maxRecDepth 100000 in
theorem c_X0_begin (Z : ph_L) (d : Nat) (hdd : 0 ≤ d) (x1 : Int32) (h : ph_Hp) : ph_CM Z yX0_begin cX0_begin 3 none d [.ref (ph_a Z 42), .int x1] ph_vv h (f_X0_begin x1 h) := by
  refine ph_begin (own := RX0) ph_mf_yX0_begin rfl (ls := [some (.ref (ph_a Z 42)), some (.int x1), none]) rfl (Nat.le_of_ble_eq_true rfl) ?_
  unfold f_X0_begin
  refine ph_iconst (v := (nI 0)) (pc := 0) dX0_begin_0 ph_ic_0 ?_
  refine ph_istore_n (i := 2) (ls1 := [some (.ref (ph_a Z 42)), some (.int x1), some (.int (nI 0))]) (pc := 1) dX0_begin_1 rfl (by decide) rfl ?_
  refine ph_loop (α := Int32 × ph_Hp) 2 (fun x => [some (.ref (ph_a Z 42)), some (.int x1), some (.int x.1)]) (fun x => []) (fun x => x.2) (fun j3 hj3 x => ?_) ph_fu ((nI 0), h)
  obtain ⟨x4, h5⟩ := x
  dsimp only
  refine ph_iload_n (i := 2) (pc := 2) dX0_begin_2 rfl rfl ?_
  refine ph_bipush (v := (nI 8)) (pc := 3) dX0_begin_3 ph_bp_8 ?_
  refine ph_icmp_ge (tgt := 30) (pc := 5) dX0_begin_5 (by decide) (fun c6 => ?_) (fun c6 => ?_)
  · refine ph_aload_n (i := 0) (pc := 30) dX0_begin_30 rfl rfl ?_
    refine ph_lconst (v := (lN 1)) (pc := 31) dX0_begin_31 rfl ?_
    refine ph_putJ (pc := 32) dX0_begin_32 ph_pl_RX0_18 rfl rfl (fun h7 => ?_)
    exact ph_vret (pc := 35) dX0_begin_35 rfl
  · refine ph_aload_n (i := 0) (pc := 8) dX0_begin_8 rfl rfl ?_
    refine ph_getR (j := 43) (pc := 9) dX0_begin_9 ph_fl_RX0_9 rfl rfl rfl ?_
    refine ph_iload_n (i := 2) (pc := 12) dX0_begin_12 rfl rfl ?_
    refine ph_iload_n (i := 2) (pc := 13) dX0_begin_13 rfl rfl ?_
    refine ph_iload_n (i := 1) (pc := 14) dX0_begin_14 rfl rfl ?_
    refine ph_join (α := Int64) 23 (fun x => [some (.ref (ph_a Z 42)), some (.int x1), some (.int x4)]) (fun x => [.long x, .int x4, .ref (ph_a Z 43)]) (fun x => h5) (fun x => ?_) (fun j8 hj8 => ?_)
    · revert x; intro x9
      refine ph_last (pc := 23) dX0_begin_23 rfl rfl (fun h10 => ?_)
      refine ph_iinc (i := 2) (v := (nI 1)) (ls1 := [some (.ref (ph_a Z 42)), some (.int x1), some (.int (x4 + (nI 1)))]) (pc := 24) dX0_begin_24 rfl ph_ic_1 (by decide) rfl ?_
      refine ph_goto (tgt := 2) (pc := 27) dX0_begin_27 (by decide) ?_
      exact hj3 (x4 + (nI 1), h10)
    · refine ph_icmp_ne (tgt := 22) (pc := 15) dX0_begin_15 (by decide) (fun c11 => ?_) (fun c11 => ?_)
      · refine ph_lconst (v := (lN 0)) (pc := 22) dX0_begin_22 rfl ?_
        exact hj8 (lN 0)
      · refine ph_lconst (v := (lN 1)) (pc := 18) dX0_begin_18 rfl ?_
        refine ph_goto (tgt := 23) (pc := 19) dX0_begin_19 (by decide) ?_
        exact hj8 (lN 1)
def f_X6_coughsIn (x1 : Int32) (h : ph_Hp) : Option (Int32 × ph_Hp) :=
  if x1 < nI 0 then
    some ((nI 0), h)
  else
    if (nI 40) ≤ x1 then
      some ((nI 0), h)
    else
      ph_ldI h 37 40 x1 fun v5 =>
      some (v5, h)
set_option maxRecDepth 100000 in
theorem c_X6_coughsIn (Z : ph_L) (d : Nat) (hdd : 0 ≤ d) (x1 : Int32) (h : ph_Hp) : ph_CM Z yX6_coughsIn cX6_coughsIn 2 (some .int) d [.ref (ph_a Z 25), .int x1] ph_vi h (f_X6_coughsIn x1 h) := by
  refine ph_begin (own := RX6) ph_mf_yX6_coughsIn rfl (ls := [some (.ref (ph_a Z 25)), some (.int x1)]) rfl (Nat.le_of_ble_eq_true rfl) ?_
  unfold f_X6_coughsIn
  refine ph_iload_n (i := 1) (pc := 0) dX6_coughsIn_0 rfl rfl ?_
  refine ph_if_lt (tgt := 19) (pc := 1) dX6_coughsIn_1 (by decide) (fun c3 => ?_) (fun c3 => ?_)
  · refine ph_iconst (v := (nI 0)) (pc := 19) dX6_coughsIn_19 ph_ic_0 ?_
    exact ph_iret (pc := 20) dX6_coughsIn_20 rfl
  · refine ph_iload_n (i := 1) (pc := 4) dX6_coughsIn_4 rfl rfl ?_
    refine ph_bipush (v := (nI 40)) (pc := 5) dX6_coughsIn_5 ph_bp_40 ?_
    refine ph_icmp_ge (tgt := 19) (pc := 7) dX6_coughsIn_7 (by decide) (fun c4 => ?_) (fun c4 => ?_)
    · refine ph_iconst (v := (nI 0)) (pc := 19) dX6_coughsIn_19 ph_ic_0 ?_
      exact ph_iret (pc := 20) dX6_coughsIn_20 rfl
    · refine ph_aload_n (i := 0) (pc := 10) dX6_coughsIn_10 rfl rfl ?_
      refine ph_getR (j := 37) (pc := 11) dX6_coughsIn_11 ph_fl_RX6_29 rfl rfl rfl ?_
      refine ph_iload_n (i := 1) (pc := 14) dX6_coughsIn_14 rfl rfl ?_
      refine ph_iald (pc := 15) dX6_coughsIn_15 rfl rfl (fun v5 => ?_)
      refine ph_goto (tgt := 20) (pc := 16) dX6_coughsIn_16 (by decide) ?_
      exact ph_iret (pc := 20) dX6_coughsIn_20 rfl
def f_X6_byIn (x1 : Int32) (h : ph_Hp) : Option (Int32 × ph_Hp) :=
  if x1 < nI 0 then
    some ((-1), h)
  else
    if (nI 40) ≤ x1 then
      some ((-1), h)
    else
      ph_ldI h 39 40 x1 fun v5 =>
      some (v5, h)
set_option maxRecDepth 100000 in
theorem c_X6_byIn (Z : ph_L) (d : Nat) (hdd : 0 ≤ d) (x1 : Int32) (h : ph_Hp) : ph_CM Z yX6_byIn cX6_byIn 2 (some .int) d [.ref (ph_a Z 25), .int x1] ph_vi h (f_X6_byIn x1 h) := by
  refine ph_begin (own := RX6) ph_mf_yX6_byIn rfl (ls := [some (.ref (ph_a Z 25)), some (.int x1)]) rfl (Nat.le_of_ble_eq_true rfl) ?_
  unfold f_X6_byIn
  refine ph_iload_n (i := 1) (pc := 0) dX6_byIn_0 rfl rfl ?_
  refine ph_if_lt (tgt := 19) (pc := 1) dX6_byIn_1 (by decide) (fun c3 => ?_) (fun c3 => ?_)
  · refine ph_iconst (v := (-1)) (pc := 19) dX6_byIn_19 ph_ic_m1 ?_
    exact ph_iret (pc := 20) dX6_byIn_20 rfl
  · refine ph_iload_n (i := 1) (pc := 4) dX6_byIn_4 rfl rfl ?_
    refine ph_bipush (v := (nI 40)) (pc := 5) dX6_byIn_5 ph_bp_40 ?_
    refine ph_icmp_ge (tgt := 19) (pc := 7) dX6_byIn_7 (by decide) (fun c4 => ?_) (fun c4 => ?_)
    · refine ph_iconst (v := (-1)) (pc := 19) dX6_byIn_19 ph_ic_m1 ?_
      exact ph_iret (pc := 20) dX6_byIn_20 rfl
    · refine ph_aload_n (i := 0) (pc := 10) dX6_byIn_10 rfl rfl ?_
      refine ph_getR (j := 39) (pc := 11) dX6_byIn_11 ph_fl_RX6_36 rfl rfl rfl ?_
      refine ph_iload_n (i := 1) (pc := 14) dX6_byIn_14 rfl rfl ?_
      refine ph_iald (pc := 15) dX6_byIn_15 rfl rfl (fun v5 => ?_)
      refine ph_goto (tgt := 20) (pc := 16) dX6_byIn_16 (by decide) ?_
      exact ph_iret (pc := 20) dX6_byIn_20 rfl
def f_X3_lineIn (x1 : Int32) (h : ph_Hp) : Option (Int32 × ph_Hp) :=
  if x1 < nI 0 then
    some ((-1), h)
  else
    if (h.1 26 3) ≤ x1 then
      some ((-1), h)
    else
      if (nI 24) ≤ x1 then
        some ((-1), h)
      else
        ph_ldI h 27 24 x1 fun v6 =>
        some (v6, h)
set_option maxRecDepth 100000 in
theorem c_X3_lineIn (Z : ph_L) (d : Nat) (hdd : 0 ≤ d) (x1 : Int32) (h : ph_Hp) : ph_CM Z yX3_lineIn cX3_lineIn 2 (some .int) d [.ref (ph_a Z 26), .int x1] ph_vi h (f_X3_lineIn x1 h) := by
  refine ph_begin (own := RX3) ph_mf_yX3_lineIn rfl (ls := [some (.ref (ph_a Z 26)), some (.int x1)]) rfl (Nat.le_of_ble_eq_true rfl) ?_
  unfold f_X3_lineIn
  refine ph_iload_n (i := 1) (pc := 0) dX3_lineIn_0 rfl rfl ?_
  refine ph_if_lt (tgt := 27) (pc := 1) dX3_lineIn_1 (by decide) (fun c3 => ?_) (fun c3 => ?_)
  · refine ph_iconst (v := (-1)) (pc := 27) dX3_lineIn_27 ph_ic_m1 ?_
    exact ph_iret (pc := 28) dX3_lineIn_28 rfl
  · refine ph_iload_n (i := 1) (pc := 4) dX3_lineIn_4 rfl rfl ?_
    refine ph_aload_n (i := 0) (pc := 5) dX3_lineIn_5 rfl rfl ?_
    refine ph_getI (pc := 6) dX3_lineIn_6 ph_fl_RX3_21 rfl (by decide) ?_
    refine ph_icmp_ge (tgt := 27) (pc := 9) dX3_lineIn_9 (by decide) (fun c4 => ?_) (fun c4 => ?_)
    · refine ph_iconst (v := (-1)) (pc := 27) dX3_lineIn_27 ph_ic_m1 ?_
      exact ph_iret (pc := 28) dX3_lineIn_28 rfl
    · refine ph_iload_n (i := 1) (pc := 12) dX3_lineIn_12 rfl rfl ?_
      refine ph_bipush (v := (nI 24)) (pc := 13) dX3_lineIn_13 ph_bp_24 ?_
      refine ph_icmp_ge (tgt := 27) (pc := 15) dX3_lineIn_15 (by decide) (fun c5 => ?_) (fun c5 => ?_)
      · refine ph_iconst (v := (-1)) (pc := 27) dX3_lineIn_27 ph_ic_m1 ?_
        exact ph_iret (pc := 28) dX3_lineIn_28 rfl
      · refine ph_aload_n (i := 0) (pc := 18) dX3_lineIn_18 rfl rfl ?_
        refine ph_getR (j := 27) (pc := 19) dX3_lineIn_19 ph_fl_RX3_9 rfl rfl rfl ?_
        refine ph_iload_n (i := 1) (pc := 22) dX3_lineIn_22 rfl rfl ?_
        refine ph_iald (pc := 23) dX3_lineIn_23 rfl rfl (fun v6 => ?_)
        refine ph_goto (tgt := 28) (pc := 24) dX3_lineIn_24 (by decide) ?_
        exact ph_iret (pc := 28) dX3_lineIn_28 rfl
def f_X3_nextTo (x1 : Int32) (h : ph_Hp) : Option (Int32 × ph_Hp) :=
  if x1 < nI 0 then
    some ((-1), h)
  else
    if (nI 8) ≤ x1 then
      some ((-1), h)
    else
      ph_ldI h 28 8 x1 fun v5 =>
      some (v5, h)
set_option maxRecDepth 100000 in
theorem c_X3_nextTo (Z : ph_L) (d : Nat) (hdd : 0 ≤ d) (x1 : Int32) (h : ph_Hp) : ph_CM Z yX3_nextTo cX3_nextTo 2 (some .int) d [.ref (ph_a Z 26), .int x1] ph_vi h (f_X3_nextTo x1 h) := by
  refine ph_begin (own := RX3) ph_mf_yX3_nextTo rfl (ls := [some (.ref (ph_a Z 26)), some (.int x1)]) rfl (Nat.le_of_ble_eq_true rfl) ?_
  unfold f_X3_nextTo
  refine ph_iload_n (i := 1) (pc := 0) dX3_nextTo_0 rfl rfl ?_
  refine ph_if_lt (tgt := 19) (pc := 1) dX3_nextTo_1 (by decide) (fun c3 => ?_) (fun c3 => ?_)
  · refine ph_iconst (v := (-1)) (pc := 19) dX3_nextTo_19 ph_ic_m1 ?_
    exact ph_iret (pc := 20) dX3_nextTo_20 rfl
  · refine ph_iload_n (i := 1) (pc := 4) dX3_nextTo_4 rfl rfl ?_
    refine ph_bipush (v := (nI 8)) (pc := 5) dX3_nextTo_5 ph_bp_8 ?_
    refine ph_icmp_ge (tgt := 19) (pc := 7) dX3_nextTo_7 (by decide) (fun c4 => ?_) (fun c4 => ?_)
    · refine ph_iconst (v := (-1)) (pc := 19) dX3_nextTo_19 ph_ic_m1 ?_
      exact ph_iret (pc := 20) dX3_nextTo_20 rfl
    · refine ph_aload_n (i := 0) (pc := 10) dX3_nextTo_10 rfl rfl ?_
      refine ph_getR (j := 28) (pc := 11) dX3_nextTo_11 ph_fl_RX3_15 rfl rfl rfl ?_
      refine ph_iload_n (i := 1) (pc := 14) dX3_nextTo_14 rfl rfl ?_
      refine ph_iald (pc := 15) dX3_nextTo_15 rfl rfl (fun v5 => ?_)
      refine ph_goto (tgt := 20) (pc := 16) dX3_nextTo_16 (by decide) ?_
      exact ph_iret (pc := 20) dX3_nextTo_20 rfl
def f_X6_whispered (x1 : Int32) (x2 : Int32) (x3 : Int32) (h : ph_Hp) : Option (Int32 × ph_Hp) :=
  if x1 < nI 0 then
    some ((-1), h)
  else
    if (nI 9) ≤ x1 then
      some ((-1), h)
    else
      if x2 < nI 0 then
        some ((-1), h)
      else
        if x2 < (nI 8) then
          ph_ldI h 35 72 ((x1 * (nI 8)) + x2) fun v9 =>
          if ((ph_shr x3 x1) &&& (nI 1)) = nI 0 then
            some (v9, h)
          else
            some (ph_irem (v9 + (nI 1)) (nI 8), h)
        else
          some ((-1), h)
set_option maxRecDepth 100000 in
theorem c_X6_whispered (Z : ph_L) (d : Nat) (hdd : 0 ≤ d) (x1 : Int32) (x2 : Int32) (x3 : Int32) (h : ph_Hp) : ph_CM Z yX6_whispered cX6_whispered 5 (some .int) d [.ref (ph_a Z 25), .int x1, .int x2, .int x3] ph_vi h (f_X6_whispered x1 x2 x3 h) := by
  refine ph_begin (own := RX6) ph_mf_yX6_whispered rfl (ls := [some (.ref (ph_a Z 25)), some (.int x1), some (.int x2), some (.int x3), none]) rfl (Nat.le_of_ble_eq_true rfl) ?_
  unfold f_X6_whispered
  refine ph_iload_n (i := 1) (pc := 0) dX6_whispered_0 rfl rfl ?_
  refine ph_if_lt (tgt := 20) (pc := 1) dX6_whispered_1 (by decide) (fun c5 => ?_) (fun c5 => ?_)
  · refine ph_iconst (v := (-1)) (pc := 20) dX6_whispered_20 ph_ic_m1 ?_
    exact ph_iret (pc := 21) dX6_whispered_21 rfl
  · refine ph_iload_n (i := 1) (pc := 4) dX6_whispered_4 rfl rfl ?_
    refine ph_bipush (v := (nI 9)) (pc := 5) dX6_whispered_5 ph_bp_9 ?_
    refine ph_icmp_ge (tgt := 20) (pc := 7) dX6_whispered_7 (by decide) (fun c6 => ?_) (fun c6 => ?_)
    · refine ph_iconst (v := (-1)) (pc := 20) dX6_whispered_20 ph_ic_m1 ?_
      exact ph_iret (pc := 21) dX6_whispered_21 rfl
    · refine ph_iload_n (i := 2) (pc := 10) dX6_whispered_10 rfl rfl ?_
      refine ph_if_lt (tgt := 20) (pc := 11) dX6_whispered_11 (by decide) (fun c7 => ?_) (fun c7 => ?_)
      · refine ph_iconst (v := (-1)) (pc := 20) dX6_whispered_20 ph_ic_m1 ?_
        exact ph_iret (pc := 21) dX6_whispered_21 rfl
      · refine ph_iload_n (i := 2) (pc := 14) dX6_whispered_14 rfl rfl ?_
        refine ph_bipush (v := (nI 8)) (pc := 15) dX6_whispered_15 ph_bp_8 ?_
        refine ph_icmp_lt (tgt := 22) (pc := 17) dX6_whispered_17 (by decide) (fun c8 => ?_) (fun c8 => ?_)
        · refine ph_aload_n (i := 0) (pc := 22) dX6_whispered_22 rfl rfl ?_
          refine ph_getR (j := 30) (pc := 23) dX6_whispered_23 ph_fl_RX6_21 rfl rfl rfl ?_
          refine ph_getR (j := 35) (pc := 26) dX6_whispered_26 ph_fl_RX6_94 rfl rfl rfl ?_
          refine ph_iload_n (i := 1) (pc := 29) dX6_whispered_29 rfl rfl ?_
          refine ph_bipush (v := (nI 8)) (pc := 30) dX6_whispered_30 ph_bp_8 ?_
          refine ph_imul (pc := 32) dX6_whispered_32 ?_
          refine ph_iload_n (i := 2) (pc := 33) dX6_whispered_33 rfl rfl ?_
          refine ph_iadd (pc := 34) dX6_whispered_34 ?_
          refine ph_iald (pc := 35) dX6_whispered_35 rfl rfl (fun v9 => ?_)
          refine ph_istore (i := 4) (ls1 := [some (.ref (ph_a Z 25)), some (.int x1), some (.int x2), some (.int x3), some (.int v9)]) (pc := 36) dX6_whispered_36 (by decide) rfl ?_
          refine ph_iload_n (i := 3) (pc := 38) dX6_whispered_38 rfl rfl ?_
          refine ph_iload_n (i := 1) (pc := 39) dX6_whispered_39 rfl rfl ?_
          refine ph_ishr (pc := 40) dX6_whispered_40 ?_
          refine ph_iconst (v := (nI 1)) (pc := 41) dX6_whispered_41 ph_ic_1 ?_
          refine ph_iand (pc := 42) dX6_whispered_42 ?_
          refine ph_if_ne (tgt := 51) (pc := 43) dX6_whispered_43 (by decide) (fun c10 => ?_) (fun c10 => ?_)
          · refine ph_iload (i := 4) (pc := 51) dX6_whispered_51 rfl ?_
            refine ph_iconst (v := (nI 1)) (pc := 53) dX6_whispered_53 ph_ic_1 ?_
            refine ph_iadd (pc := 54) dX6_whispered_54 ?_
            refine ph_bipush (v := (nI 8)) (pc := 55) dX6_whispered_55 ph_bp_8 ?_
            refine ph_iremK (pc := 57) dX6_whispered_57 (by decide) ?_
            exact ph_iret (pc := 58) dX6_whispered_58 rfl
          · refine ph_iload (i := 4) (pc := 46) dX6_whispered_46 rfl ?_
            refine ph_goto (tgt := 58) (pc := 48) dX6_whispered_48 (by decide) ?_
            exact ph_iret (pc := 58) dX6_whispered_58 rfl
        · refine ph_iconst (v := (-1)) (pc := 20) dX6_whispered_20 ph_ic_m1 ?_
          exact ph_iret (pc := 21) dX6_whispered_21 rfl
def f_X6_follow (x1 : Int32) (x2 : Int32) (x3 : Int32) (x4 : Int32) (h : ph_Hp) : Option (Int32 × ph_Hp) :=
  ph_jn (α := Unit) (fun _x =>
    ph_cl (f_X3_lineIn (nI 0) h) fun v7 h8 =>
    some (v7, h8)) (fun j6 =>
    if x1 < nI 0 then
      j6 ()
    else
      if (nI 40) ≤ x1 then
        j6 ()
      else
        ph_ldI h 38 40 x1 fun v11 =>
        if v11 = nI 0 then
          if x2 = (-1) then
            ph_cl (f_X3_nextTo x3 h) fun v16 h17 =>
            some (v16, h17)
          else
            ph_cl (f_X6_whispered x2 x3 x4 h) fun v14 h15 =>
            some (v14, h15)
        else
          j6 ())
set_option maxRecDepth 100000 in
theorem c_X6_follow (Z : ph_L) (d : Nat) (hdd : 1 ≤ d) (x1 : Int32) (x2 : Int32) (x3 : Int32) (x4 : Int32) (h : ph_Hp) : ph_CM Z yX6_follow cX6_follow 5 (some .int) d [.ref (ph_a Z 25), .int x1, .int x2, .int x3, .int x4] ph_vi h (f_X6_follow x1 x2 x3 x4 h) := by
  refine ph_begin (own := RX6) ph_mf_yX6_follow rfl (ls := [some (.ref (ph_a Z 25)), some (.int x1), some (.int x2), some (.int x3), some (.int x4)]) rfl (Nat.le_of_ble_eq_true rfl) ?_
  unfold f_X6_follow
  refine ph_iload_n (i := 1) (pc := 0) dX6_follow_0 rfl rfl ?_
  refine ph_join (α := Unit) 19 (fun x => [some (.ref (ph_a Z 25)), none, none, none, none]) (fun x => []) (fun x => h) (fun x => ?_) (fun j6 hj6 => ?_)
  · refine ph_aload_n (i := 0) (pc := 19) dX6_follow_19 rfl rfl ?_
    refine ph_getR (j := 26) (pc := 20) dX6_follow_20 ph_fl_RX6_12 rfl rfl rfl ?_
    refine ph_iconst (v := (nI 0)) (pc := 23) dX6_follow_23 ph_ic_0 ?_
    refine ph_callVi (pc := 24) dX6_follow_24 ph_mf_yX3_lineIn ph_ml_RX6_97 ph_mi_yX3_lineIn ph_mv_yX3_lineIn rfl rfl (c_X3_lineIn Z (d - 1) (by omega) (nI 0) h) (by omega) rfl rfl (Nat.le_of_ble_eq_true rfl) (fun v7 h8 => ?_)
    exact ph_iret (pc := 27) dX6_follow_27 rfl
  · refine ph_if_lt (tgt := 19) (pc := 1) dX6_follow_1 (by decide) (fun c9 => ?_) (fun c9 => ?_)
    · refine ph_wk (ls1 := [some (.ref (ph_a Z 25)), none, none, none, none]) ⟨rfl, trivial⟩ ?_
      exact hj6 ()
    · refine ph_iload_n (i := 1) (pc := 4) dX6_follow_4 rfl rfl ?_
      refine ph_bipush (v := (nI 40)) (pc := 5) dX6_follow_5 ph_bp_40 ?_
      refine ph_icmp_ge (tgt := 19) (pc := 7) dX6_follow_7 (by decide) (fun c10 => ?_) (fun c10 => ?_)
      · refine ph_wk (ls1 := [some (.ref (ph_a Z 25)), none, none, none, none]) ⟨rfl, trivial⟩ ?_
        exact hj6 ()
      · refine ph_aload_n (i := 0) (pc := 10) dX6_follow_10 rfl rfl ?_
        refine ph_getR (j := 38) (pc := 11) dX6_follow_11 ph_fl_RX6_32 rfl rfl rfl ?_
        refine ph_iload_n (i := 1) (pc := 14) dX6_follow_14 rfl rfl ?_
        refine ph_zald (pc := 15) dX6_follow_15 rfl rfl (fun v11 => ?_)
        refine ph_if_eq (tgt := 28) (pc := 16) dX6_follow_16 (by decide) (fun c12 => ?_) (fun c12 => ?_)
        · refine ph_iload_n (i := 2) (pc := 28) dX6_follow_28 rfl rfl ?_
          refine ph_iconst (v := (-1)) (pc := 29) dX6_follow_29 ph_ic_m1 ?_
          refine ph_icmp_ne (tgt := 44) (pc := 30) dX6_follow_30 (by decide) (fun c13 => ?_) (fun c13 => ?_)
          · refine ph_aload_n (i := 0) (pc := 44) dX6_follow_44 rfl rfl ?_
            refine ph_iload_n (i := 2) (pc := 45) dX6_follow_45 rfl rfl ?_
            refine ph_iload_n (i := 3) (pc := 46) dX6_follow_46 rfl rfl ?_
            refine ph_iload (i := 4) (pc := 47) dX6_follow_47 rfl ?_
            refine ph_callVi (pc := 49) dX6_follow_49 ph_mf_yX6_whispered ph_ml_RX6_103 ph_mi_yX6_whispered ph_mv_yX6_whispered rfl rfl (c_X6_whispered Z (d - 1) (by omega) x2 x3 x4 h) (by omega) rfl rfl (Nat.le_of_ble_eq_true rfl) (fun v14 h15 => ?_)
            exact ph_iret (pc := 52) dX6_follow_52 rfl
          · refine ph_aload_n (i := 0) (pc := 33) dX6_follow_33 rfl rfl ?_
            refine ph_getR (j := 26) (pc := 34) dX6_follow_34 ph_fl_RX6_12 rfl rfl rfl ?_
            refine ph_iload_n (i := 3) (pc := 37) dX6_follow_37 rfl rfl ?_
            refine ph_callVi (pc := 38) dX6_follow_38 ph_mf_yX3_nextTo ph_ml_RX6_100 ph_mi_yX3_nextTo ph_mv_yX3_nextTo rfl rfl (c_X3_nextTo Z (d - 1) (by omega) x3 h) (by omega) rfl rfl (Nat.le_of_ble_eq_true rfl) (fun v16 h17 => ?_)
            refine ph_goto (tgt := 52) (pc := 41) dX6_follow_41 (by decide) ?_
            exact ph_iret (pc := 52) dX6_follow_52 rfl
        · refine ph_wk (ls1 := [some (.ref (ph_a Z 25)), none, none, none, none]) ⟨rfl, trivial⟩ ?_
          exact hj6 ()
def f_X8_within (x1 : Int32) (x2 : Int32) (h : ph_Hp) : Option (Int32 × ph_Hp) :=
  if x1 < nI 0 then
    ph_rz (nI 0) h
  else
    if x2 ≤ x1 then
      ph_rz (nI 0) h
    else
      ph_rz (nI 1) h
set_option maxRecDepth 100000 in
theorem c_X8_within (Z : ph_L) (d : Nat) (hdd : 0 ≤ d) (x1 : Int32) (x2 : Int32) (h : ph_Hp) : ph_CM Z yX8_within cX8_within 2 (some .boolean) d [.int x1, .int x2] ph_vi h (f_X8_within x1 x2 h) := by
  refine ph_begin (own := RX8) ph_mf_yX8_within rfl (ls := [some (.int x1), some (.int x2)]) rfl (Nat.le_of_ble_eq_true rfl) ?_
  unfold f_X8_within
  refine ph_iload_n (i := 0) (pc := 0) dX8_within_0 rfl rfl ?_
  refine ph_if_lt (tgt := 13) (pc := 1) dX8_within_1 (by decide) (fun c4 => ?_) (fun c4 => ?_)
  · refine ph_iconst (v := (nI 0)) (pc := 13) dX8_within_13 ph_ic_0 ?_
    exact ph_zret (pc := 14) dX8_within_14 rfl
  · refine ph_iload_n (i := 0) (pc := 4) dX8_within_4 rfl rfl ?_
    refine ph_iload_n (i := 1) (pc := 5) dX8_within_5 rfl rfl ?_
    refine ph_icmp_ge (tgt := 13) (pc := 6) dX8_within_6 (by decide) (fun c5 => ?_) (fun c5 => ?_)
    · refine ph_iconst (v := (nI 0)) (pc := 13) dX8_within_13 ph_ic_0 ?_
      exact ph_zret (pc := 14) dX8_within_14 rfl
    · refine ph_iconst (v := (nI 1)) (pc := 9) dX8_within_9 ph_ic_1 ?_
      refine ph_goto (tgt := 14) (pc := 10) dX8_within_10 (by decide) ?_
      exact ph_zret (pc := 14) dX8_within_14 rfl
def f_X0_put (x1 : Int32) (x2 : Int64) (h : ph_Hp) : Option (Unit × ph_Hp) :=
  ph_cl (f_X8_within x1 (nI 8) h) fun v4 h5 =>
  if v4 = nI 0 then
    some ((), h5)
  else
    ph_ldJ h5 43 8 x1 fun v7 =>
    ph_stJ h5 43 8 x1 (v7 + x2) fun h8 =>
    some ((), h8)
set_option maxRecDepth 100000 in
theorem c_X0_put (Z : ph_L) (d : Nat) (hdd : 1 ≤ d) (x1 : Int32) (x2 : Int64) (h : ph_Hp) : ph_CM Z yX0_put cX0_put 4 none d [.ref (ph_a Z 42), .int x1, .long x2] ph_vv h (f_X0_put x1 x2 h) := by
  refine ph_begin (own := RX0) ph_mf_yX0_put rfl (ls := [some (.ref (ph_a Z 42)), some (.int x1), some (.long x2), none]) rfl (Nat.le_of_ble_eq_true rfl) ?_
  unfold f_X0_put
  refine ph_iload_n (i := 1) (pc := 0) dX0_put_0 rfl rfl ?_
  refine ph_bipush (v := (nI 8)) (pc := 1) dX0_put_1 ph_bp_8 ?_
  refine ph_callSi (pc := 3) dX0_put_3 ph_mf_yX8_within ph_ml_RX0_47 ph_ms_yX8_within (c_X8_within Z (d - 1) (by omega) x1 (nI 8) h) (by omega) rfl rfl (Nat.le_of_ble_eq_true rfl) (fun v4 h5 => ?_)
  refine ph_if_eq (tgt := 19) (pc := 6) dX0_put_6 (by decide) (fun c6 => ?_) (fun c6 => ?_)
  · exact ph_vret (pc := 19) dX0_put_19 rfl
  · refine ph_aload_n (i := 0) (pc := 9) dX0_put_9 rfl rfl ?_
    refine ph_getR (j := 43) (pc := 10) dX0_put_10 ph_fl_RX0_9 rfl rfl rfl ?_
    refine ph_iload_n (i := 1) (pc := 13) dX0_put_13 rfl rfl ?_
    refine ph_dup2 (pc := 14) dX0_put_14 rfl rfl ?_
    refine ph_lald (pc := 15) dX0_put_15 rfl rfl (fun v7 => ?_)
    refine ph_lload_n (i := 2) (pc := 16) dX0_put_16 rfl rfl ?_
    refine ph_ladd (pc := 17) dX0_put_17 ?_
    refine ph_last (pc := 18) dX0_put_18 rfl rfl (fun h8 => ?_)
    exact ph_vret (pc := 19) dX0_put_19 rfl
def f_X0_goOn (x2 : Int32) (x3 : Int32) (x4 : Int32) (h : ph_Hp) : Option (Unit × ph_Hp) :=
  ph_lp (α := Int32 × ph_Hp) (fun j6 (x7, h8) =>
    if (nI 8) ≤ x7 then
      ph_cl (f_X6_coughsIn x2 h8) fun v10 h11 =>
      ph_cl (f_X6_byIn x2 h11) fun v12 h13 =>
      ph_lp (α := Int32 × ph_Hp) (fun j14 (x15, h16) =>
        if (nI 8) ≤ x15 then
          ph_pfJ h16 42 2 ((h16.2 42 2) * (lN 16)) fun h18 =>
          some ((), h18)
        else
          ph_ldJ h16 44 8 x15 fun v19 =>
          ph_jn (α := ph_Hp) (fun h21 =>
            j14 (x15 + (nI 1), h21)) (fun j20 =>
            if (lg_cmp v19 (lN 0)) = nI 0 then
              j20 h16
            else
              ph_cl (f_X6_follow x2 v12 x15 (v10 &&& ((ph_shl (nI 1) x3) ^^^ (-1))) h16) fun v23 h24 =>
              ph_ldJ h24 44 8 x15 fun v25 =>
              ph_cl (f_X0_put v23 (v25 * (((nI 16) - x4).toInt64)) h24) fun _ h27 =>
              ph_cl (f_X6_follow x2 v12 x15 ((v10 &&& ((ph_shl (nI 1) x3) ^^^ (-1))) ||| (ph_shl (nI 1) x3)) h27) fun v28 h29 =>
              ph_ldJ h29 44 8 x15 fun v30 =>
              ph_cl (f_X0_put v28 (v30 * x4.toInt64) h29) fun _ h32 =>
              j20 h32)) ph_fu ((nI 0), h13)
    else
      ph_ldJ h8 43 8 x7 fun v33 =>
      ph_stJ h8 44 8 x7 v33 fun h34 =>
      ph_stJ h34 43 8 x7 (lN 0) fun h35 =>
      j6 (x7 + (nI 1), h35)) ph_fu ((nI 0), h)
set_option maxRecDepth 100000 in
theorem c_X0_goOn (Z : ph_L) (d : Nat) (hdd : 2 ≤ d) (x2 : Int32) (x3 : Int32) (x4 : Int32) (h : ph_Hp) : ph_CM Z yX0_goOn cX0_goOn 9 none d [.ref (ph_a Z 42), .ref (ph_a Z 25), .int x2, .int x3, .int x4] ph_vv h (f_X0_goOn x2 x3 x4 h) := by
  refine ph_begin (own := RX0) ph_mf_yX0_goOn rfl (ls := [some (.ref (ph_a Z 42)), some (.ref (ph_a Z 25)), some (.int x2), some (.int x3), some (.int x4), none, none, none, none]) rfl (Nat.le_of_ble_eq_true rfl) ?_
  unfold f_X0_goOn
  refine ph_iconst (v := (nI 0)) (pc := 0) dX0_goOn_0 ph_ic_0 ?_
  refine ph_istore (i := 5) (ls1 := [some (.ref (ph_a Z 42)), some (.ref (ph_a Z 25)), some (.int x2), some (.int x3), some (.int x4), some (.int (nI 0)), none, none, none]) (pc := 1) dX0_goOn_1 (by decide) rfl ?_
  refine ph_loop (α := Int32 × ph_Hp) 3 (fun x => [some (.ref (ph_a Z 42)), some (.ref (ph_a Z 25)), some (.int x2), some (.int x3), some (.int x4), some (.int x.1), none, none, none]) (fun x => []) (fun x => x.2) (fun j6 hj6 x => ?_) ph_fu ((nI 0), h)
  obtain ⟨x7, h8⟩ := x
  dsimp only
  refine ph_iload (i := 5) (pc := 3) dX0_goOn_3 rfl ?_
  refine ph_bipush (v := (nI 8)) (pc := 5) dX0_goOn_5 ph_bp_8 ?_
  refine ph_icmp_ge (tgt := 38) (pc := 7) dX0_goOn_7 (by decide) (fun c9 => ?_) (fun c9 => ?_)
  · refine ph_iconst (v := (nI 1)) (pc := 38) dX0_goOn_38 ph_ic_1 ?_
    refine ph_iload_n (i := 3) (pc := 39) dX0_goOn_39 rfl rfl ?_
    refine ph_ishl (pc := 40) dX0_goOn_40 ?_
    refine ph_istore (i := 5) (ls1 := [some (.ref (ph_a Z 42)), some (.ref (ph_a Z 25)), some (.int x2), some (.int x3), some (.int x4), some (.int (ph_shl (nI 1) x3)), none, none, none]) (pc := 41) dX0_goOn_41 (by decide) rfl ?_
    refine ph_aload_n (i := 1) (pc := 43) dX0_goOn_43 rfl rfl ?_
    refine ph_iload_n (i := 2) (pc := 44) dX0_goOn_44 rfl rfl ?_
    refine ph_callVi (pc := 45) dX0_goOn_45 ph_mf_yX6_coughsIn ph_ml_RX0_28 ph_mi_yX6_coughsIn ph_mv_yX6_coughsIn rfl rfl (c_X6_coughsIn Z (d - 1) (by omega) x2 h8) (by omega) rfl rfl (Nat.le_of_ble_eq_true rfl) (fun v10 h11 => ?_)
    refine ph_iload (i := 5) (pc := 48) dX0_goOn_48 rfl ?_
    refine ph_iconst (v := (-1)) (pc := 50) dX0_goOn_50 ph_ic_m1 ?_
    refine ph_ixor (pc := 51) dX0_goOn_51 ?_
    refine ph_iand (pc := 52) dX0_goOn_52 ?_
    refine ph_istore (i := 6) (ls1 := [some (.ref (ph_a Z 42)), some (.ref (ph_a Z 25)), some (.int x2), some (.int x3), some (.int x4), some (.int (ph_shl (nI 1) x3)), some (.int (v10 &&& ((ph_shl (nI 1) x3) ^^^ (-1)))), none, none]) (pc := 53) dX0_goOn_53 (by decide) rfl ?_
    refine ph_aload_n (i := 1) (pc := 55) dX0_goOn_55 rfl rfl ?_
    refine ph_iload_n (i := 2) (pc := 56) dX0_goOn_56 rfl rfl ?_
    refine ph_callVi (pc := 57) dX0_goOn_57 ph_mf_yX6_byIn ph_ml_RX0_34 ph_mi_yX6_byIn ph_mv_yX6_byIn rfl rfl (c_X6_byIn Z (d - 1) (by omega) x2 h11) (by omega) rfl rfl (Nat.le_of_ble_eq_true rfl) (fun v12 h13 => ?_)
    refine ph_istore (i := 7) (ls1 := [some (.ref (ph_a Z 42)), some (.ref (ph_a Z 25)), some (.int x2), some (.int x3), some (.int x4), some (.int (ph_shl (nI 1) x3)), some (.int (v10 &&& ((ph_shl (nI 1) x3) ^^^ (-1)))), some (.int v12), none]) (pc := 60) dX0_goOn_60 (by decide) rfl ?_
    refine ph_iconst (v := (nI 0)) (pc := 62) dX0_goOn_62 ph_ic_0 ?_
    refine ph_istore (i := 8) (ls1 := [some (.ref (ph_a Z 42)), some (.ref (ph_a Z 25)), some (.int x2), some (.int x3), some (.int x4), some (.int (ph_shl (nI 1) x3)), some (.int (v10 &&& ((ph_shl (nI 1) x3) ^^^ (-1)))), some (.int v12), some (.int (nI 0))]) (pc := 63) dX0_goOn_63 (by decide) rfl ?_
    refine ph_wk (ls1 := [some (.ref (ph_a Z 42)), some (.ref (ph_a Z 25)), some (.int x2), none, some (.int x4), some (.int (ph_shl (nI 1) x3)), some (.int (v10 &&& ((ph_shl (nI 1) x3) ^^^ (-1)))), some (.int v12), some (.int (nI 0))]) ⟨rfl, ⟨rfl, ⟨rfl, ⟨rfl, ⟨rfl, ⟨rfl, ⟨rfl, ⟨rfl, trivial⟩⟩⟩⟩⟩⟩⟩⟩ ?_
    refine ph_loop (α := Int32 × ph_Hp) 65 (fun x => [some (.ref (ph_a Z 42)), some (.ref (ph_a Z 25)), some (.int x2), none, some (.int x4), some (.int (ph_shl (nI 1) x3)), some (.int (v10 &&& ((ph_shl (nI 1) x3) ^^^ (-1)))), some (.int v12), some (.int x.1)]) (fun x => []) (fun x => x.2) (fun j14 hj14 x => ?_) ph_fu ((nI 0), h13)
    obtain ⟨x15, h16⟩ := x
    dsimp only
    refine ph_iload (i := 8) (pc := 65) dX0_goOn_65 rfl ?_
    refine ph_bipush (v := (nI 8)) (pc := 67) dX0_goOn_67 ph_bp_8 ?_
    refine ph_icmp_ge (tgt := 148) (pc := 69) dX0_goOn_69 (by decide) (fun c17 => ?_) (fun c17 => ?_)
    · refine ph_aload_n (i := 0) (pc := 148) dX0_goOn_148 rfl rfl ?_
      refine ph_dup (pc := 149) dX0_goOn_149 rfl ?_
      refine ph_getJ (pc := 150) dX0_goOn_150 ph_fl_RX0_18 rfl rfl ?_
      refine ph_ldc2 (v := (lN 16)) (pc := 153) dX0_goOn_153 ph_k_RX0_45 ?_
      refine ph_lmul (pc := 156) dX0_goOn_156 ?_
      refine ph_putJ (pc := 157) dX0_goOn_157 ph_pl_RX0_18 rfl rfl (fun h18 => ?_)
      exact ph_vret (pc := 160) dX0_goOn_160 rfl
    · refine ph_aload_n (i := 0) (pc := 72) dX0_goOn_72 rfl rfl ?_
      refine ph_getR (j := 44) (pc := 73) dX0_goOn_73 ph_fl_RX0_15 rfl rfl rfl ?_
      refine ph_iload (i := 8) (pc := 76) dX0_goOn_76 rfl ?_
      refine ph_lald (pc := 78) dX0_goOn_78 rfl rfl (fun v19 => ?_)
      refine ph_lconst (v := (lN 0)) (pc := 79) dX0_goOn_79 rfl ?_
      refine ph_lcmp (pc := 80) dX0_goOn_80 ?_
      refine ph_join (α := ph_Hp) 142 (fun x => [some (.ref (ph_a Z 42)), some (.ref (ph_a Z 25)), some (.int x2), none, some (.int x4), some (.int (ph_shl (nI 1) x3)), some (.int (v10 &&& ((ph_shl (nI 1) x3) ^^^ (-1)))), some (.int v12), some (.int x15)]) (fun x => []) (fun x => x) (fun x => ?_) (fun j20 hj20 => ?_)
      · revert x; intro h21
        refine ph_iinc (i := 8) (v := (nI 1)) (ls1 := [some (.ref (ph_a Z 42)), some (.ref (ph_a Z 25)), some (.int x2), none, some (.int x4), some (.int (ph_shl (nI 1) x3)), some (.int (v10 &&& ((ph_shl (nI 1) x3) ^^^ (-1)))), some (.int v12), some (.int (x15 + (nI 1)))]) (pc := 142) dX0_goOn_142 rfl ph_ic_1 (by decide) rfl ?_
        refine ph_goto (tgt := 65) (pc := 145) dX0_goOn_145 (by decide) ?_
        exact hj14 (x15 + (nI 1), h21)
      · refine ph_if_eq (tgt := 142) (pc := 81) dX0_goOn_81 (by decide) (fun c22 => ?_) (fun c22 => ?_)
        · exact hj20 h16
        · refine ph_aload_n (i := 0) (pc := 84) dX0_goOn_84 rfl rfl ?_
          refine ph_aload_n (i := 1) (pc := 85) dX0_goOn_85 rfl rfl ?_
          refine ph_iload_n (i := 2) (pc := 86) dX0_goOn_86 rfl rfl ?_
          refine ph_iload (i := 7) (pc := 87) dX0_goOn_87 rfl ?_
          refine ph_iload (i := 8) (pc := 89) dX0_goOn_89 rfl ?_
          refine ph_iload (i := 6) (pc := 91) dX0_goOn_91 rfl ?_
          refine ph_callVi (pc := 93) dX0_goOn_93 ph_mf_yX6_follow ph_ml_RX0_37 ph_mi_yX6_follow ph_mv_yX6_follow rfl rfl (c_X6_follow Z (d - 1) (by omega) x2 v12 x15 (v10 &&& ((ph_shl (nI 1) x3) ^^^ (-1))) h16) (by omega) rfl rfl (Nat.le_of_ble_eq_true rfl) (fun v23 h24 => ?_)
          refine ph_aload_n (i := 0) (pc := 96) dX0_goOn_96 rfl rfl ?_
          refine ph_getR (j := 44) (pc := 97) dX0_goOn_97 ph_fl_RX0_15 rfl rfl rfl ?_
          refine ph_iload (i := 8) (pc := 100) dX0_goOn_100 rfl ?_
          refine ph_lald (pc := 102) dX0_goOn_102 rfl rfl (fun v25 => ?_)
          refine ph_bipush (v := (nI 16)) (pc := 103) dX0_goOn_103 ph_bp_16 ?_
          refine ph_iload (i := 4) (pc := 105) dX0_goOn_105 rfl ?_
          refine ph_isub (pc := 107) dX0_goOn_107 ?_
          refine ph_i2l (pc := 108) dX0_goOn_108 ?_
          refine ph_lmul (pc := 109) dX0_goOn_109 ?_
          refine ph_callVv (pc := 110) dX0_goOn_110 ph_mf_yX0_put ph_ml_RX0_41 ph_mi_yX0_put ph_mv_yX0_put rfl rfl (c_X0_put Z (d - 1) (by omega) v23 (v25 * (((nI 16) - x4).toInt64)) h24) (by omega) rfl rfl (Nat.le_of_ble_eq_true rfl) (fun v26 h27 => ?_)
          refine ph_aload_n (i := 0) (pc := 113) dX0_goOn_113 rfl rfl ?_
          refine ph_aload_n (i := 1) (pc := 114) dX0_goOn_114 rfl rfl ?_
          refine ph_iload_n (i := 2) (pc := 115) dX0_goOn_115 rfl rfl ?_
          refine ph_iload (i := 7) (pc := 116) dX0_goOn_116 rfl ?_
          refine ph_iload (i := 8) (pc := 118) dX0_goOn_118 rfl ?_
          refine ph_iload (i := 6) (pc := 120) dX0_goOn_120 rfl ?_
          refine ph_iload (i := 5) (pc := 122) dX0_goOn_122 rfl ?_
          refine ph_ior (pc := 124) dX0_goOn_124 ?_
          refine ph_callVi (pc := 125) dX0_goOn_125 ph_mf_yX6_follow ph_ml_RX0_37 ph_mi_yX6_follow ph_mv_yX6_follow rfl rfl (c_X6_follow Z (d - 1) (by omega) x2 v12 x15 ((v10 &&& ((ph_shl (nI 1) x3) ^^^ (-1))) ||| (ph_shl (nI 1) x3)) h27) (by omega) rfl rfl (Nat.le_of_ble_eq_true rfl) (fun v28 h29 => ?_)
          refine ph_aload_n (i := 0) (pc := 128) dX0_goOn_128 rfl rfl ?_
          refine ph_getR (j := 44) (pc := 129) dX0_goOn_129 ph_fl_RX0_15 rfl rfl rfl ?_
          refine ph_iload (i := 8) (pc := 132) dX0_goOn_132 rfl ?_
          refine ph_lald (pc := 134) dX0_goOn_134 rfl rfl (fun v30 => ?_)
          refine ph_iload (i := 4) (pc := 135) dX0_goOn_135 rfl ?_
          refine ph_i2l (pc := 137) dX0_goOn_137 ?_
          refine ph_lmul (pc := 138) dX0_goOn_138 ?_
          refine ph_callVv (pc := 139) dX0_goOn_139 ph_mf_yX0_put ph_ml_RX0_41 ph_mi_yX0_put ph_mv_yX0_put rfl rfl (c_X0_put Z (d - 1) (by omega) v28 (v30 * x4.toInt64) h29) (by omega) rfl rfl (Nat.le_of_ble_eq_true rfl) (fun v31 h32 => ?_)
          exact hj20 h32
  · refine ph_aload_n (i := 0) (pc := 10) dX0_goOn_10 rfl rfl ?_
    refine ph_getR (j := 44) (pc := 11) dX0_goOn_11 ph_fl_RX0_15 rfl rfl rfl ?_
    refine ph_iload (i := 5) (pc := 14) dX0_goOn_14 rfl ?_
    refine ph_aload_n (i := 0) (pc := 16) dX0_goOn_16 rfl rfl ?_
    refine ph_getR (j := 43) (pc := 17) dX0_goOn_17 ph_fl_RX0_9 rfl rfl rfl ?_
    refine ph_iload (i := 5) (pc := 20) dX0_goOn_20 rfl ?_
    refine ph_lald (pc := 22) dX0_goOn_22 rfl rfl (fun v33 => ?_)
    refine ph_last (pc := 23) dX0_goOn_23 rfl rfl (fun h34 => ?_)
    refine ph_aload_n (i := 0) (pc := 24) dX0_goOn_24 rfl rfl ?_
    refine ph_getR (j := 43) (pc := 25) dX0_goOn_25 ph_fl_RX0_9 rfl rfl rfl ?_
    refine ph_iload (i := 5) (pc := 28) dX0_goOn_28 rfl ?_
    refine ph_lconst (v := (lN 0)) (pc := 30) dX0_goOn_30 rfl ?_
    refine ph_last (pc := 31) dX0_goOn_31 rfl rfl (fun h35 => ?_)
    refine ph_iinc (i := 5) (v := (nI 1)) (ls1 := [some (.ref (ph_a Z 42)), some (.ref (ph_a Z 25)), some (.int x2), some (.int x3), some (.int x4), some (.int (x7 + (nI 1))), none, none, none]) (pc := 32) dX0_goOn_32 rfl ph_ic_1 (by decide) rfl ?_
    refine ph_goto (tgt := 3) (pc := 35) dX0_goOn_35 (by decide) ?_
    exact hj6 (x7 + (nI 1), h35)
def f_X0_reduce (x1 : Int32) (h : ph_Hp) : Option (Unit × ph_Hp) :=
  ph_cl (f_X8_within x1 (nI 8) h) fun v3 h4 =>
  ph_jn (α := Int64) (fun x6 =>
    ph_pfJ h4 42 3 x6 fun h7 =>
    ph_jn (α := Int64) (fun x9 =>
      ph_pfJ h7 42 4 x9 fun h10 =>
      ph_lp (α := Int32 × ph_Hp) (fun j11 (x12, h13) =>
        if (nI 64) ≤ x12 then
          some ((), h13)
        else
          if (lg_cmp ((h13.2 42 3) &&& (lN 1)) (lN 0)) = nI 0 then
            if (lg_cmp ((h13.2 42 4) &&& (lN 1)) (lN 0)) = nI 0 then
              ph_pfJ h13 42 3 ((h13.2 42 3) / (lN 2)) fun h17 =>
              ph_pfJ h17 42 4 ((h17.2 42 4) / (lN 2)) fun h18 =>
              j11 (x12 + (nI 1), h18)
            else
              some ((), h13)
          else
            some ((), h13)) ph_fu ((nI 0), h10)) (fun j8 =>
      if (lg_cmp (h7.2 42 3) (lN 0)) = nI 0 then
        j8 (lN 1)
      else
        j8 (h7.2 42 2))) (fun j5 =>
    if v3 = nI 0 then
      j5 (lN 0)
    else
      ph_ldJ h4 43 8 x1 fun v21 =>
      j5 v21)
set_option maxRecDepth 100000 in
theorem c_X0_reduce (Z : ph_L) (d : Nat) (hdd : 1 ≤ d) (x1 : Int32) (h : ph_Hp) : ph_CM Z yX0_reduce cX0_reduce 3 none d [.ref (ph_a Z 42), .int x1] ph_vv h (f_X0_reduce x1 h) := by
  refine ph_begin (own := RX0) ph_mf_yX0_reduce rfl (ls := [some (.ref (ph_a Z 42)), some (.int x1), none]) rfl (Nat.le_of_ble_eq_true rfl) ?_
  unfold f_X0_reduce
  refine ph_aload_n (i := 0) (pc := 0) dX0_reduce_0 rfl rfl ?_
  refine ph_iload_n (i := 1) (pc := 1) dX0_reduce_1 rfl rfl ?_
  refine ph_bipush (v := (nI 8)) (pc := 2) dX0_reduce_2 ph_bp_8 ?_
  refine ph_callSi (pc := 4) dX0_reduce_4 ph_mf_yX8_within ph_ml_RX0_47 ph_ms_yX8_within (c_X8_within Z (d - 1) (by omega) x1 (nI 8) h) (by omega) rfl rfl (Nat.le_of_ble_eq_true rfl) (fun v3 h4 => ?_)
  refine ph_join (α := Int64) 20 (fun x => [some (.ref (ph_a Z 42)), none, none]) (fun x => [.long x, .ref (ph_a Z 42)]) (fun x => h4) (fun x => ?_) (fun j5 hj5 => ?_)
  · revert x; intro x6
    refine ph_putJ (pc := 20) dX0_reduce_20 ph_pl_RX0_22 rfl rfl (fun h7 => ?_)
    refine ph_aload_n (i := 0) (pc := 23) dX0_reduce_23 rfl rfl ?_
    refine ph_aload_n (i := 0) (pc := 24) dX0_reduce_24 rfl rfl ?_
    refine ph_getJ (pc := 25) dX0_reduce_25 ph_fl_RX0_22 rfl rfl ?_
    refine ph_lconst (v := (lN 0)) (pc := 28) dX0_reduce_28 rfl ?_
    refine ph_lcmp (pc := 29) dX0_reduce_29 ?_
    refine ph_join (α := Int64) 41 (fun x => [some (.ref (ph_a Z 42)), none, none]) (fun x => [.long x, .ref (ph_a Z 42)]) (fun x => h7) (fun x => ?_) (fun j8 hj8 => ?_)
    · revert x; intro x9
      refine ph_putJ (pc := 41) dX0_reduce_41 ph_pl_RX0_25 rfl rfl (fun h10 => ?_)
      refine ph_iconst (v := (nI 0)) (pc := 44) dX0_reduce_44 ph_ic_0 ?_
      refine ph_istore_n (i := 2) (ls1 := [some (.ref (ph_a Z 42)), none, some (.int (nI 0))]) (pc := 45) dX0_reduce_45 rfl (by decide) rfl ?_
      refine ph_loop (α := Int32 × ph_Hp) 46 (fun x => [some (.ref (ph_a Z 42)), none, some (.int x.1)]) (fun x => []) (fun x => x.2) (fun j11 hj11 x => ?_) ph_fu ((nI 0), h10)
      obtain ⟨x12, h13⟩ := x
      dsimp only
      refine ph_iload_n (i := 2) (pc := 46) dX0_reduce_46 rfl rfl ?_
      refine ph_bipush (v := (nI 64)) (pc := 47) dX0_reduce_47 ph_bp_64 ?_
      refine ph_icmp_ge (tgt := 104) (pc := 49) dX0_reduce_49 (by decide) (fun c14 => ?_) (fun c14 => ?_)
      · exact ph_vret (pc := 104) dX0_reduce_104 rfl
      · refine ph_aload_n (i := 0) (pc := 52) dX0_reduce_52 rfl rfl ?_
        refine ph_getJ (pc := 53) dX0_reduce_53 ph_fl_RX0_22 rfl rfl ?_
        refine ph_lconst (v := (lN 1)) (pc := 56) dX0_reduce_56 rfl ?_
        refine ph_land (pc := 57) dX0_reduce_57 ?_
        refine ph_lconst (v := (lN 0)) (pc := 58) dX0_reduce_58 rfl ?_
        refine ph_lcmp (pc := 59) dX0_reduce_59 ?_
        refine ph_if_ne (tgt := 104) (pc := 60) dX0_reduce_60 (by decide) (fun c15 => ?_) (fun c15 => ?_)
        · exact ph_vret (pc := 104) dX0_reduce_104 rfl
        · refine ph_aload_n (i := 0) (pc := 63) dX0_reduce_63 rfl rfl ?_
          refine ph_getJ (pc := 64) dX0_reduce_64 ph_fl_RX0_25 rfl rfl ?_
          refine ph_lconst (v := (lN 1)) (pc := 67) dX0_reduce_67 rfl ?_
          refine ph_land (pc := 68) dX0_reduce_68 ?_
          refine ph_lconst (v := (lN 0)) (pc := 69) dX0_reduce_69 rfl ?_
          refine ph_lcmp (pc := 70) dX0_reduce_70 ?_
          refine ph_if_ne (tgt := 104) (pc := 71) dX0_reduce_71 (by decide) (fun c16 => ?_) (fun c16 => ?_)
          · exact ph_vret (pc := 104) dX0_reduce_104 rfl
          · refine ph_aload_n (i := 0) (pc := 74) dX0_reduce_74 rfl rfl ?_
            refine ph_dup (pc := 75) dX0_reduce_75 rfl ?_
            refine ph_getJ (pc := 76) dX0_reduce_76 ph_fl_RX0_22 rfl rfl ?_
            refine ph_ldc2 (v := (lN 2)) (pc := 79) dX0_reduce_79 ph_k_RX0_51 ?_
            refine ph_ldivK (pc := 82) dX0_reduce_82 (by decide) ?_
            refine ph_putJ (pc := 83) dX0_reduce_83 ph_pl_RX0_22 rfl rfl (fun h17 => ?_)
            refine ph_aload_n (i := 0) (pc := 86) dX0_reduce_86 rfl rfl ?_
            refine ph_dup (pc := 87) dX0_reduce_87 rfl ?_
            refine ph_getJ (pc := 88) dX0_reduce_88 ph_fl_RX0_25 rfl rfl ?_
            refine ph_ldc2 (v := (lN 2)) (pc := 91) dX0_reduce_91 ph_k_RX0_51 ?_
            refine ph_ldivK (pc := 94) dX0_reduce_94 (by decide) ?_
            refine ph_putJ (pc := 95) dX0_reduce_95 ph_pl_RX0_25 rfl rfl (fun h18 => ?_)
            refine ph_iinc (i := 2) (v := (nI 1)) (ls1 := [some (.ref (ph_a Z 42)), none, some (.int (x12 + (nI 1)))]) (pc := 98) dX0_reduce_98 rfl ph_ic_1 (by decide) rfl ?_
            refine ph_goto (tgt := 46) (pc := 101) dX0_reduce_101 (by decide) ?_
            exact hj11 (x12 + (nI 1), h18)
    · refine ph_if_ne (tgt := 37) (pc := 30) dX0_reduce_30 (by decide) (fun c19 => ?_) (fun c19 => ?_)
      · refine ph_aload_n (i := 0) (pc := 37) dX0_reduce_37 rfl rfl ?_
        refine ph_getJ (pc := 38) dX0_reduce_38 ph_fl_RX0_18 rfl rfl ?_
        exact hj8 (h7.2 42 2)
      · refine ph_lconst (v := (lN 1)) (pc := 33) dX0_reduce_33 rfl ?_
        refine ph_goto (tgt := 41) (pc := 34) dX0_reduce_34 (by decide) ?_
        exact hj8 (lN 1)
  · refine ph_if_eq (tgt := 19) (pc := 7) dX0_reduce_7 (by decide) (fun c20 => ?_) (fun c20 => ?_)
    · refine ph_lconst (v := (lN 0)) (pc := 19) dX0_reduce_19 rfl ?_
      refine ph_wk (ls1 := [some (.ref (ph_a Z 42)), none, none]) ⟨rfl, trivial⟩ ?_
      exact hj5 (lN 0)
    · refine ph_aload_n (i := 0) (pc := 10) dX0_reduce_10 rfl rfl ?_
      refine ph_getR (j := 43) (pc := 11) dX0_reduce_11 ph_fl_RX0_9 rfl rfl rfl ?_
      refine ph_iload_n (i := 1) (pc := 14) dX0_reduce_14 rfl rfl ?_
      refine ph_lald (pc := 15) dX0_reduce_15 rfl rfl (fun v21 => ?_)
      refine ph_goto (tgt := 20) (pc := 16) dX0_reduce_16 (by decide) ?_
      refine ph_wk (ls1 := [some (.ref (ph_a Z 42)), none, none]) ⟨rfl, trivial⟩ ?_
      exact hj5 v21
def f_X4_size (r0 : Nat) (h : ph_Hp) : Option (Int32 × ph_Hp) :=
  ph_isK r0 4 <|
  some (h.1 r0 1, h)
set_option maxRecDepth 100000 in
theorem c_X4_size (Z : ph_L) (d : Nat) (hdd : 0 ≤ d) (r0 : Nat) (h : ph_Hp) : ph_CM Z yX4_size cX4_size 1 (some .int) d [.ref (ph_a Z r0)] ph_vi h (f_X4_size r0 h) := by
  refine ph_begin (own := RX4) ph_mf_yX4_size rfl (ls := [some (.ref (ph_a Z r0))]) rfl (Nat.le_of_ble_eq_true rfl) ?_
  unfold f_X4_size
  refine ph_aload_n (i := 0) (pc := 0) dX4_size_0 rfl rfl ?_
  refine ph_isKr (fun hk2 => ?_)
  refine ph_getI (pc := 1) dX4_size_1 ph_fl_RX4_9 hk2 (by decide) ?_
  exact ph_iret (pc := 4) dX4_size_4 rfl
def f_X4_at (r0 : Nat) (x1 : Int32) (h : ph_Hp) : Option (Int32 × ph_Hp) :=
  if x1 < nI 0 then
    some ((-1), h)
  else
    ph_isK r0 4 <|
    ph_isK (ph_rf r0 0) 10 <|
    if (nI (ph_ln (ph_rf r0 0))) ≤ x1 then
      some ((-1), h)
    else
      ph_ldI h (ph_rf r0 0) (ph_ln (ph_rf r0 0)) x1 fun v7 =>
      some (v7, h)
set_option maxRecDepth 100000 in
theorem c_X4_at (Z : ph_L) (d : Nat) (hdd : 0 ≤ d) (r0 : Nat) (x1 : Int32) (h : ph_Hp) : ph_CM Z yX4_at cX4_at 2 (some .int) d [.ref (ph_a Z r0), .int x1] ph_vi h (f_X4_at r0 x1 h) := by
  refine ph_begin (own := RX4) ph_mf_yX4_at rfl (ls := [some (.ref (ph_a Z r0)), some (.int x1)]) rfl (Nat.le_of_ble_eq_true rfl) ?_
  unfold f_X4_at
  refine ph_iload_n (i := 1) (pc := 0) dX4_at_0 rfl rfl ?_
  refine ph_if_lt (tgt := 22) (pc := 1) dX4_at_1 (by decide) (fun c3 => ?_) (fun c3 => ?_)
  · refine ph_iconst (v := (-1)) (pc := 22) dX4_at_22 ph_ic_m1 ?_
    exact ph_iret (pc := 23) dX4_at_23 rfl
  · refine ph_iload_n (i := 1) (pc := 4) dX4_at_4 rfl rfl ?_
    refine ph_aload_n (i := 0) (pc := 5) dX4_at_5 rfl rfl ?_
    refine ph_isKr (fun hk4 => ?_)
    refine ph_getR (pc := 6) dX4_at_6 ph_fl_RX4_21 hk4 rfl rfl ?_
    refine ph_isKr (fun hk5 => ?_)
    refine ph_alen (pc := 9) dX4_at_9 hk5 rfl ?_
    refine ph_icmp_ge (tgt := 22) (pc := 10) dX4_at_10 (by decide) (fun c6 => ?_) (fun c6 => ?_)
    · refine ph_iconst (v := (-1)) (pc := 22) dX4_at_22 ph_ic_m1 ?_
      exact ph_iret (pc := 23) dX4_at_23 rfl
    · refine ph_aload_n (i := 0) (pc := 13) dX4_at_13 rfl rfl ?_
      refine ph_getR (pc := 14) dX4_at_14 ph_fl_RX4_21 hk4 rfl rfl ?_
      refine ph_iload_n (i := 1) (pc := 17) dX4_at_17 rfl rfl ?_
      refine ph_iald (pc := 18) dX4_at_18 hk5 rfl (fun v7 => ?_)
      refine ph_goto (tgt := 23) (pc := 19) dX4_at_19 (by decide) ?_
      exact ph_iret (pc := 23) dX4_at_23 rfl
def f_X1_habitBy (x1 : Int32) (h : ph_Hp) : Option (Int32 × ph_Hp) :=
  if x1 = (nI 108) then
    some ((nI 3), h)
  else
  if x1 = (nI 110) then
    some ((nI 0), h)
  else
  if x1 = (nI 114) then
    some ((nI 1), h)
  else
  if x1 = (nI 121) then
    some ((nI 2), h)
  else
  some ((-1), h)
set_option maxRecDepth 100000 in
theorem c_X1_habitBy (Z : ph_L) (d : Nat) (hdd : 0 ≤ d) (x1 : Int32) (h : ph_Hp) : ph_CM Z yX1_habitBy cX1_habitBy 1 (some .int) d [.int x1] ph_vi h (f_X1_habitBy x1 h) := by
  refine ph_begin (own := RX1) ph_mf_yX1_habitBy rfl (ls := [some (.int x1)]) rfl (Nat.le_of_ble_eq_true rfl) ?_
  unfold f_X1_habitBy
  refine ph_iload_n (i := 0) (pc := 0) dX1_habitBy_0 rfl rfl ?_
  refine ph_ite (fun c3 => ?_) (fun c3 => ?_)
  · refine ph_lsv (tgt := 50) (v := (nI 108)) (pc := 1) dX1_habitBy_1 c3 (by decide) rfl (by decide) ?_
    refine ph_iconst (v := (nI 3)) (pc := 50) dX1_habitBy_50 ph_ic_3 ?_
    exact ph_iret (pc := 51) dX1_habitBy_51 rfl
  refine ph_ite (fun c4 => ?_) (fun c4 => ?_)
  · refine ph_lsv (tgt := 44) (v := (nI 110)) (pc := 1) dX1_habitBy_1 c4 (by decide) rfl (by decide) ?_
    refine ph_iconst (v := (nI 0)) (pc := 44) dX1_habitBy_44 ph_ic_0 ?_
    exact ph_iret (pc := 45) dX1_habitBy_45 rfl
  refine ph_ite (fun c5 => ?_) (fun c5 => ?_)
  · refine ph_lsv (tgt := 46) (v := (nI 114)) (pc := 1) dX1_habitBy_1 c5 (by decide) rfl (by decide) ?_
    refine ph_iconst (v := (nI 1)) (pc := 46) dX1_habitBy_46 ph_ic_1 ?_
    exact ph_iret (pc := 47) dX1_habitBy_47 rfl
  refine ph_ite (fun c6 => ?_) (fun c6 => ?_)
  · refine ph_lsv (tgt := 48) (v := (nI 121)) (pc := 1) dX1_habitBy_1 c6 (by decide) rfl (by decide) ?_
    refine ph_iconst (v := (nI 2)) (pc := 48) dX1_habitBy_48 ph_ic_2 ?_
    exact ph_iret (pc := 49) dX1_habitBy_49 rfl
  refine ph_lsw (tgt := 52) (off := 51) (pc := 1) dX1_habitBy_1 (by decide) (by
    rw [lv_osw (a := 108) c3 (by decide)]
    rw [lv_osw (a := 110) c4 (by decide)]
    rw [lv_osw (a := 114) c5 (by decide)]
    rw [lv_osw (a := 121) c6 (by decide)]
    try rfl) (by decide) ?_
  refine ph_iconst (v := (-1)) (pc := 52) dX1_habitBy_52 ph_ic_m1 ?_
  exact ph_iret (pc := 53) dX1_habitBy_53 rfl
def f_X1_goesOn (x1 : Int32) (x2 : Int32) (h : ph_Hp) : Option (Int32 × ph_Hp) :=
  if x1 = (nI 0) then
    if x2 < (nI 97) then
      ph_rz (nI 0) h
    else
      if (nI 106) < x2 then
        ph_rz (nI 0) h
      else
        ph_rz (nI 1) h
  else
  if x1 = (nI 1) then
    if x2 < (nI 48) then
      ph_rz (nI 0) h
    else
      if (nI 57) < x2 then
        ph_rz (nI 0) h
      else
        ph_rz (nI 1) h
  else
  if x1 = (nI 2) then
    ph_cl (f_X1_habitBy x2 h) fun v11 h12 =>
    if v11 = (-1) then
      ph_rz (nI 0) h12
    else
      ph_rz (nI 1) h12
  else
  if x1 = (nI 3) then
    if x2 < (nI 97) then
      ph_rz (nI 0) h
    else
      if (nI 104) < x2 then
        ph_rz (nI 0) h
      else
        ph_rz (nI 1) h
  else
  if x2 = (nI 59) then
    ph_rz (nI 1) h
  else
    ph_rz (nI 0) h
set_option maxRecDepth 100000 in
theorem c_X1_goesOn (Z : ph_L) (d : Nat) (hdd : 1 ≤ d) (x1 : Int32) (x2 : Int32) (h : ph_Hp) : ph_CM Z yX1_goesOn cX1_goesOn 2 (some .boolean) d [.int x1, .int x2] ph_vi h (f_X1_goesOn x1 x2 h) := by
  refine ph_begin (own := RX1) ph_mf_yX1_goesOn rfl (ls := [some (.int x1), some (.int x2)]) rfl (Nat.le_of_ble_eq_true rfl) ?_
  unfold f_X1_goesOn
  refine ph_iload_n (i := 0) (pc := 0) dX1_goesOn_0 rfl rfl ?_
  refine ph_ite (fun c4 => ?_) (fun c4 => ?_)
  · refine ph_tin (tgt := 32) (v := (nI 0)) (pc := 1) dX1_goesOn_1 c4 (by decide) (by decide) rfl (by decide) ?_
    refine ph_iload_n (i := 1) (pc := 32) dX1_goesOn_32 rfl rfl ?_
    refine ph_bipush (v := (nI 97)) (pc := 33) dX1_goesOn_33 ph_bp_97 ?_
    refine ph_icmp_lt (tgt := 48) (pc := 35) dX1_goesOn_35 (by decide) (fun c5 => ?_) (fun c5 => ?_)
    · refine ph_iconst (v := (nI 0)) (pc := 48) dX1_goesOn_48 ph_ic_0 ?_
      exact ph_zret (pc := 49) dX1_goesOn_49 rfl
    · refine ph_iload_n (i := 1) (pc := 38) dX1_goesOn_38 rfl rfl ?_
      refine ph_bipush (v := (nI 106)) (pc := 39) dX1_goesOn_39 ph_bp_106 ?_
      refine ph_icmp_gt (tgt := 48) (pc := 41) dX1_goesOn_41 (by decide) (fun c6 => ?_) (fun c6 => ?_)
      · refine ph_iconst (v := (nI 0)) (pc := 48) dX1_goesOn_48 ph_ic_0 ?_
        exact ph_zret (pc := 49) dX1_goesOn_49 rfl
      · refine ph_iconst (v := (nI 1)) (pc := 44) dX1_goesOn_44 ph_ic_1 ?_
        refine ph_goto (tgt := 49) (pc := 45) dX1_goesOn_45 (by decide) ?_
        exact ph_zret (pc := 49) dX1_goesOn_49 rfl
  refine ph_ite (fun c7 => ?_) (fun c7 => ?_)
  · refine ph_tin (tgt := 50) (v := (nI 1)) (pc := 1) dX1_goesOn_1 c7 (by decide) (by decide) rfl (by decide) ?_
    refine ph_iload_n (i := 1) (pc := 50) dX1_goesOn_50 rfl rfl ?_
    refine ph_bipush (v := (nI 48)) (pc := 51) dX1_goesOn_51 ph_bp_48 ?_
    refine ph_icmp_lt (tgt := 66) (pc := 53) dX1_goesOn_53 (by decide) (fun c8 => ?_) (fun c8 => ?_)
    · refine ph_iconst (v := (nI 0)) (pc := 66) dX1_goesOn_66 ph_ic_0 ?_
      exact ph_zret (pc := 67) dX1_goesOn_67 rfl
    · refine ph_iload_n (i := 1) (pc := 56) dX1_goesOn_56 rfl rfl ?_
      refine ph_bipush (v := (nI 57)) (pc := 57) dX1_goesOn_57 ph_bp_57 ?_
      refine ph_icmp_gt (tgt := 66) (pc := 59) dX1_goesOn_59 (by decide) (fun c9 => ?_) (fun c9 => ?_)
      · refine ph_iconst (v := (nI 0)) (pc := 66) dX1_goesOn_66 ph_ic_0 ?_
        exact ph_zret (pc := 67) dX1_goesOn_67 rfl
      · refine ph_iconst (v := (nI 1)) (pc := 62) dX1_goesOn_62 ph_ic_1 ?_
        refine ph_goto (tgt := 67) (pc := 63) dX1_goesOn_63 (by decide) ?_
        exact ph_zret (pc := 67) dX1_goesOn_67 rfl
  refine ph_ite (fun c10 => ?_) (fun c10 => ?_)
  · refine ph_tin (tgt := 68) (v := (nI 2)) (pc := 1) dX1_goesOn_1 c10 (by decide) (by decide) rfl (by decide) ?_
    refine ph_iload_n (i := 1) (pc := 68) dX1_goesOn_68 rfl rfl ?_
    refine ph_callSi (pc := 69) dX1_goesOn_69 ph_mf_yX1_habitBy ph_ml_RX1_53 ph_ms_yX1_habitBy (c_X1_habitBy Z (d - 1) (by omega) x2 h) (by omega) rfl rfl (Nat.le_of_ble_eq_true rfl) (fun v11 h12 => ?_)
    refine ph_iconst (v := (-1)) (pc := 72) dX1_goesOn_72 ph_ic_m1 ?_
    refine ph_icmp_eq (tgt := 80) (pc := 73) dX1_goesOn_73 (by decide) (fun c13 => ?_) (fun c13 => ?_)
    · refine ph_iconst (v := (nI 0)) (pc := 80) dX1_goesOn_80 ph_ic_0 ?_
      exact ph_zret (pc := 81) dX1_goesOn_81 rfl
    · refine ph_iconst (v := (nI 1)) (pc := 76) dX1_goesOn_76 ph_ic_1 ?_
      refine ph_goto (tgt := 81) (pc := 77) dX1_goesOn_77 (by decide) ?_
      exact ph_zret (pc := 81) dX1_goesOn_81 rfl
  refine ph_ite (fun c14 => ?_) (fun c14 => ?_)
  · refine ph_tin (tgt := 82) (v := (nI 3)) (pc := 1) dX1_goesOn_1 c14 (by decide) (by decide) rfl (by decide) ?_
    refine ph_iload_n (i := 1) (pc := 82) dX1_goesOn_82 rfl rfl ?_
    refine ph_bipush (v := (nI 97)) (pc := 83) dX1_goesOn_83 ph_bp_97 ?_
    refine ph_icmp_lt (tgt := 98) (pc := 85) dX1_goesOn_85 (by decide) (fun c15 => ?_) (fun c15 => ?_)
    · refine ph_iconst (v := (nI 0)) (pc := 98) dX1_goesOn_98 ph_ic_0 ?_
      exact ph_zret (pc := 99) dX1_goesOn_99 rfl
    · refine ph_iload_n (i := 1) (pc := 88) dX1_goesOn_88 rfl rfl ?_
      refine ph_bipush (v := (nI 104)) (pc := 89) dX1_goesOn_89 ph_bp_104 ?_
      refine ph_icmp_gt (tgt := 98) (pc := 91) dX1_goesOn_91 (by decide) (fun c16 => ?_) (fun c16 => ?_)
      · refine ph_iconst (v := (nI 0)) (pc := 98) dX1_goesOn_98 ph_ic_0 ?_
        exact ph_zret (pc := 99) dX1_goesOn_99 rfl
      · refine ph_iconst (v := (nI 1)) (pc := 94) dX1_goesOn_94 ph_ic_1 ?_
        refine ph_goto (tgt := 99) (pc := 95) dX1_goesOn_95 (by decide) ?_
        exact ph_zret (pc := 99) dX1_goesOn_99 rfl
  refine ph_tout (tgt := 100) (pc := 1) dX1_goesOn_1 (by
    have := lv_neT (a := 0) c4 (by decide)
    have := lv_neT (a := 1) c7 (by decide)
    have := lv_neT (a := 2) c10 (by decide)
    have := lv_neT (a := 3) c14 (by decide)
    omega) (by decide) ?_
  refine ph_iload_n (i := 1) (pc := 100) dX1_goesOn_100 rfl rfl ?_
  refine ph_bipush (v := (nI 59)) (pc := 101) dX1_goesOn_101 ph_bp_59 ?_
  refine ph_icmp_ne (tgt := 110) (pc := 103) dX1_goesOn_103 (by decide) (fun c17 => ?_) (fun c17 => ?_)
  · refine ph_iconst (v := (nI 0)) (pc := 110) dX1_goesOn_110 ph_ic_0 ?_
    exact ph_zret (pc := 111) dX1_goesOn_111 rfl
  · refine ph_iconst (v := (nI 1)) (pc := 106) dX1_goesOn_106 ph_ic_1 ?_
    refine ph_goto (tgt := 111) (pc := 107) dX1_goesOn_107 (by decide) ?_
    exact ph_zret (pc := 111) dX1_goesOn_111 rfl
def f_X1_faultOf (h : ph_Hp) : Option (Int32 × ph_Hp) :=
  ph_cl (f_X4_size 3 h) fun v3 h4 =>
  ph_lp (α := Int32 × ph_Hp) (fun j5 (x6, h7) =>
    if v3 ≤ x6 then
      ph_jn (α := Unit) (fun _x =>
        some ((-1), h7)) (fun j9 =>
        if v3 = nI 0 then
          j9 ()
        else
          if (ph_irem v3 (nI 5)) = (nI 4) then
            j9 ()
          else
            some (v3, h7))
    else
      if (nI 45) ≤ x6 then
        some (x6, h7)
      else
        ph_cl (f_X4_at 3 x6 h7) fun v13 h14 =>
        ph_cl (f_X1_goesOn (ph_irem x6 (nI 5)) v13 h14) fun v15 h16 =>
        if v15 = nI 0 then
          some (x6, h16)
        else
          j5 (x6 + (nI 1), h16)) ph_fu ((nI 0), h4)
set_option maxRecDepth 100000 in
theorem c_X1_faultOf (Z : ph_L) (d : Nat) (hdd : 2 ≤ d) (h : ph_Hp) : ph_CM Z yX1_faultOf cX1_faultOf 3 (some .int) d [.ref (ph_a Z 3)] ph_vi h (f_X1_faultOf h) := by
  refine ph_begin (own := RX1) ph_mf_yX1_faultOf rfl (ls := [some (.ref (ph_a Z 3)), none, none]) rfl (Nat.le_of_ble_eq_true rfl) ?_
  unfold f_X1_faultOf
  refine ph_aload_n (i := 0) (pc := 0) dX1_faultOf_0 rfl rfl ?_
  refine ph_callVi (pc := 1) dX1_faultOf_1 ph_mf_yX4_size ph_ml_RX1_38 ph_mi_yX4_size ph_mv_yX4_size rfl rfl (c_X4_size Z (d - 1) (by omega) 3 h) (by omega) rfl rfl (Nat.le_of_ble_eq_true rfl) (fun v3 h4 => ?_)
  refine ph_istore_n (i := 1) (ls1 := [some (.ref (ph_a Z 3)), some (.int v3), none]) (pc := 4) dX1_faultOf_4 rfl (by decide) rfl ?_
  refine ph_iconst (v := (nI 0)) (pc := 5) dX1_faultOf_5 ph_ic_0 ?_
  refine ph_istore_n (i := 2) (ls1 := [some (.ref (ph_a Z 3)), some (.int v3), some (.int (nI 0))]) (pc := 6) dX1_faultOf_6 rfl (by decide) rfl ?_
  refine ph_loop (α := Int32 × ph_Hp) 7 (fun x => [some (.ref (ph_a Z 3)), some (.int v3), some (.int x.1)]) (fun x => []) (fun x => x.2) (fun j5 hj5 x => ?_) ph_fu ((nI 0), h4)
  obtain ⟨x6, h7⟩ := x
  dsimp only
  refine ph_iload_n (i := 2) (pc := 7) dX1_faultOf_7 rfl rfl ?_
  refine ph_iload_n (i := 1) (pc := 8) dX1_faultOf_8 rfl rfl ?_
  refine ph_icmp_ge (tgt := 40) (pc := 9) dX1_faultOf_9 (by decide) (fun c8 => ?_) (fun c8 => ?_)
  · refine ph_iload_n (i := 1) (pc := 40) dX1_faultOf_40 rfl rfl ?_
    refine ph_join (α := Unit) 51 (fun x => [none, none, none]) (fun x => []) (fun x => h7) (fun x => ?_) (fun j9 hj9 => ?_)
    · refine ph_iconst (v := (-1)) (pc := 51) dX1_faultOf_51 ph_ic_m1 ?_
      refine ph_goto (tgt := 56) (pc := 52) dX1_faultOf_52 (by decide) ?_
      exact ph_iret (pc := 56) dX1_faultOf_56 rfl
    · refine ph_if_eq (tgt := 51) (pc := 41) dX1_faultOf_41 (by decide) (fun c10 => ?_) (fun c10 => ?_)
      · refine ph_wk (ls1 := [none, none, none]) trivial ?_
        exact hj9 ()
      · refine ph_iload_n (i := 1) (pc := 44) dX1_faultOf_44 rfl rfl ?_
        refine ph_iconst (v := (nI 5)) (pc := 45) dX1_faultOf_45 ph_ic_5 ?_
        refine ph_iremK (pc := 46) dX1_faultOf_46 (by decide) ?_
        refine ph_iconst (v := (nI 4)) (pc := 47) dX1_faultOf_47 ph_ic_4 ?_
        refine ph_icmp_ne (tgt := 55) (pc := 48) dX1_faultOf_48 (by decide) (fun c11 => ?_) (fun c11 => ?_)
        · refine ph_iload_n (i := 1) (pc := 55) dX1_faultOf_55 rfl rfl ?_
          exact ph_iret (pc := 56) dX1_faultOf_56 rfl
        · refine ph_wk (ls1 := [none, none, none]) trivial ?_
          exact hj9 ()
  · refine ph_iload_n (i := 2) (pc := 12) dX1_faultOf_12 rfl rfl ?_
    refine ph_bipush (v := (nI 45)) (pc := 13) dX1_faultOf_13 ph_bp_45 ?_
    refine ph_icmp_ge (tgt := 32) (pc := 15) dX1_faultOf_15 (by decide) (fun c12 => ?_) (fun c12 => ?_)
    · refine ph_iload_n (i := 2) (pc := 32) dX1_faultOf_32 rfl rfl ?_
      exact ph_iret (pc := 33) dX1_faultOf_33 rfl
    · refine ph_iload_n (i := 2) (pc := 18) dX1_faultOf_18 rfl rfl ?_
      refine ph_iconst (v := (nI 5)) (pc := 19) dX1_faultOf_19 ph_ic_5 ?_
      refine ph_iremK (pc := 20) dX1_faultOf_20 (by decide) ?_
      refine ph_aload_n (i := 0) (pc := 21) dX1_faultOf_21 rfl rfl ?_
      refine ph_iload_n (i := 2) (pc := 22) dX1_faultOf_22 rfl rfl ?_
      refine ph_callVi (pc := 23) dX1_faultOf_23 ph_mf_yX4_at ph_ml_RX1_49 ph_mi_yX4_at ph_mv_yX4_at rfl rfl (c_X4_at Z (d - 1) (by omega) 3 x6 h7) (by omega) rfl rfl (Nat.le_of_ble_eq_true rfl) (fun v13 h14 => ?_)
      refine ph_callSi (pc := 26) dX1_faultOf_26 ph_mf_yX1_goesOn ph_ml_RX1_56 ph_ms_yX1_goesOn (c_X1_goesOn Z (d - 1) (by omega) (ph_irem x6 (nI 5)) v13 h14) (by omega) rfl rfl (Nat.le_of_ble_eq_true rfl) (fun v15 h16 => ?_)
      refine ph_if_ne (tgt := 34) (pc := 29) dX1_faultOf_29 (by decide) (fun c17 => ?_) (fun c17 => ?_)
      · refine ph_iinc (i := 2) (v := (nI 1)) (ls1 := [some (.ref (ph_a Z 3)), some (.int v3), some (.int (x6 + (nI 1)))]) (pc := 34) dX1_faultOf_34 rfl ph_ic_1 (by decide) rfl ?_
        refine ph_goto (tgt := 7) (pc := 37) dX1_faultOf_37 (by decide) ?_
        exact hj5 (x6 + (nI 1), h16)
      · refine ph_iload_n (i := 2) (pc := 32) dX1_faultOf_32 rfl rfl ?_
        exact ph_iret (pc := 33) dX1_faultOf_33 rfl
def f_X1_parse (h : ph_Hp) : Option (Unit × ph_Hp) :=
  ph_cl (f_X1_faultOf h) fun v3 h4 =>
  ph_pfI h4 30 6 v3 fun h5 =>
  ph_jn (α := Int32 × ph_Hp) (fun (x7, h8) =>
    ph_pfI h8 30 5 x7 fun h9 =>
    ph_lp (α := Int32 × ph_Hp) (fun j10 (x11, h12) =>
      if (h12.1 30 5) ≤ x11 then
        some ((), h12)
      else
        ph_cl (f_X4_at 3 (x11 * (nI 5)) h12) fun v14 h15 =>
        ph_stI h15 31 9 x11 (v14 - (nI 97)) fun h16 =>
        ph_cl (f_X4_at 3 ((x11 * (nI 5)) + (nI 1)) h16) fun v17 h18 =>
        ph_stI h18 32 9 x11 (v17 - (nI 48)) fun h19 =>
        ph_cl (f_X4_at 3 ((x11 * (nI 5)) + (nI 2)) h19) fun v20 h21 =>
        ph_cl (f_X1_habitBy v20 h21) fun v22 h23 =>
        ph_stI h23 33 9 x11 v22 fun h24 =>
        ph_cl (f_X4_at 3 ((x11 * (nI 5)) + (nI 3)) h24) fun v25 h26 =>
        ph_stI h26 34 9 x11 (v25 - (nI 97)) fun h27 =>
        j10 (x11 + (nI 1), h27)) ph_fu ((nI 0), h9)) (fun j6 =>
    if (h5.1 30 6) = (-1) then
      ph_cl (f_X4_size 3 h5) fun v29 h30 =>
      j6 ((if (nI 9) < ((v29 + (nI 1)) / (nI 5)) then (nI 9) else ((v29 + (nI 1)) / (nI 5))), h30)
    else
      j6 ((nI 0), h5))
set_option maxRecDepth 100000 in
theorem c_X1_parse (Z : ph_L) (d : Nat) (hdd : 3 ≤ d) (h : ph_Hp) : ph_CM Z yX1_parse cX1_parse 4 none d [.ref (ph_a Z 30), .ref (ph_a Z 3)] ph_vv h (f_X1_parse h) := by
  refine ph_begin (own := RX1) ph_mf_yX1_parse rfl (ls := [some (.ref (ph_a Z 30)), some (.ref (ph_a Z 3)), none, none]) rfl (Nat.le_of_ble_eq_true rfl) ?_
  unfold f_X1_parse
  refine ph_aload_n (i := 0) (pc := 0) dX1_parse_0 rfl rfl ?_
  refine ph_aload_n (i := 1) (pc := 1) dX1_parse_1 rfl rfl ?_
  refine ph_callSi (pc := 2) dX1_parse_2 ph_mf_yX1_faultOf ph_ml_RX1_34 ph_ms_yX1_faultOf (c_X1_faultOf Z (d - 1) (by omega) h) (by omega) rfl rfl (Nat.le_of_ble_eq_true rfl) (fun v3 h4 => ?_)
  refine ph_putI (pc := 5) dX1_parse_5 ph_pl_RX1_31 rfl (by decide) rfl rfl (fun h5 => ?_)
  refine ph_aload_n (i := 0) (pc := 8) dX1_parse_8 rfl rfl ?_
  refine ph_aload_n (i := 0) (pc := 9) dX1_parse_9 rfl rfl ?_
  refine ph_getI (pc := 10) dX1_parse_10 ph_fl_RX1_31 rfl (by decide) ?_
  refine ph_iconst (v := (-1)) (pc := 13) dX1_parse_13 ph_ic_m1 ?_
  refine ph_join (α := Int32 × ph_Hp) 34 (fun x => [some (.ref (ph_a Z 30)), some (.ref (ph_a Z 3)), none, none]) (fun x => [.int x.1, .ref (ph_a Z 30)]) (fun x => x.2) (fun x => ?_) (fun j6 hj6 => ?_)
  · obtain ⟨x7, h8⟩ := x
    dsimp only
    refine ph_putI (pc := 34) dX1_parse_34 ph_pl_RX1_27 rfl (by decide) rfl rfl (fun h9 => ?_)
    refine ph_iconst (v := (nI 0)) (pc := 37) dX1_parse_37 ph_ic_0 ?_
    refine ph_istore_n (i := 2) (ls1 := [some (.ref (ph_a Z 30)), some (.ref (ph_a Z 3)), some (.int (nI 0)), none]) (pc := 38) dX1_parse_38 rfl (by decide) rfl ?_
    refine ph_loop (α := Int32 × ph_Hp) 39 (fun x => [some (.ref (ph_a Z 30)), some (.ref (ph_a Z 3)), some (.int x.1), none]) (fun x => []) (fun x => x.2) (fun j10 hj10 x => ?_) ph_fu ((nI 0), h9)
    obtain ⟨x11, h12⟩ := x
    dsimp only
    refine ph_iload_n (i := 2) (pc := 39) dX1_parse_39 rfl rfl ?_
    refine ph_aload_n (i := 0) (pc := 40) dX1_parse_40 rfl rfl ?_
    refine ph_getI (pc := 41) dX1_parse_41 ph_fl_RX1_27 rfl (by decide) ?_
    refine ph_icmp_ge (tgt := 119) (pc := 44) dX1_parse_44 (by decide) (fun c13 => ?_) (fun c13 => ?_)
    · exact ph_vret (pc := 119) dX1_parse_119 rfl
    · refine ph_iload_n (i := 2) (pc := 47) dX1_parse_47 rfl rfl ?_
      refine ph_iconst (v := (nI 5)) (pc := 48) dX1_parse_48 ph_ic_5 ?_
      refine ph_imul (pc := 49) dX1_parse_49 ?_
      refine ph_istore_n (i := 3) (ls1 := [some (.ref (ph_a Z 30)), some (.ref (ph_a Z 3)), some (.int x11), some (.int (x11 * (nI 5)))]) (pc := 50) dX1_parse_50 rfl (by decide) rfl ?_
      refine ph_aload_n (i := 0) (pc := 51) dX1_parse_51 rfl rfl ?_
      refine ph_getR (j := 31) (pc := 52) dX1_parse_52 ph_fl_RX1_9 rfl rfl rfl ?_
      refine ph_iload_n (i := 2) (pc := 55) dX1_parse_55 rfl rfl ?_
      refine ph_aload_n (i := 1) (pc := 56) dX1_parse_56 rfl rfl ?_
      refine ph_iload_n (i := 3) (pc := 57) dX1_parse_57 rfl rfl ?_
      refine ph_callVi (pc := 58) dX1_parse_58 ph_mf_yX4_at ph_ml_RX1_49 ph_mi_yX4_at ph_mv_yX4_at rfl rfl (c_X4_at Z (d - 1) (by omega) 3 (x11 * (nI 5)) h12) (by omega) rfl rfl (Nat.le_of_ble_eq_true rfl) (fun v14 h15 => ?_)
      refine ph_bipush (v := (nI 97)) (pc := 61) dX1_parse_61 ph_bp_97 ?_
      refine ph_isub (pc := 63) dX1_parse_63 ?_
      refine ph_iast (pc := 64) dX1_parse_64 rfl rfl (fun h16 => ?_)
      refine ph_aload_n (i := 0) (pc := 65) dX1_parse_65 rfl rfl ?_
      refine ph_getR (j := 32) (pc := 66) dX1_parse_66 ph_fl_RX1_15 rfl rfl rfl ?_
      refine ph_iload_n (i := 2) (pc := 69) dX1_parse_69 rfl rfl ?_
      refine ph_aload_n (i := 1) (pc := 70) dX1_parse_70 rfl rfl ?_
      refine ph_iload_n (i := 3) (pc := 71) dX1_parse_71 rfl rfl ?_
      refine ph_iconst (v := (nI 1)) (pc := 72) dX1_parse_72 ph_ic_1 ?_
      refine ph_iadd (pc := 73) dX1_parse_73 ?_
      refine ph_callVi (pc := 74) dX1_parse_74 ph_mf_yX4_at ph_ml_RX1_49 ph_mi_yX4_at ph_mv_yX4_at rfl rfl (c_X4_at Z (d - 1) (by omega) 3 ((x11 * (nI 5)) + (nI 1)) h16) (by omega) rfl rfl (Nat.le_of_ble_eq_true rfl) (fun v17 h18 => ?_)
      refine ph_bipush (v := (nI 48)) (pc := 77) dX1_parse_77 ph_bp_48 ?_
      refine ph_isub (pc := 79) dX1_parse_79 ?_
      refine ph_iast (pc := 80) dX1_parse_80 rfl rfl (fun h19 => ?_)
      refine ph_aload_n (i := 0) (pc := 81) dX1_parse_81 rfl rfl ?_
      refine ph_getR (j := 33) (pc := 82) dX1_parse_82 ph_fl_RX1_18 rfl rfl rfl ?_
      refine ph_iload_n (i := 2) (pc := 85) dX1_parse_85 rfl rfl ?_
      refine ph_aload_n (i := 1) (pc := 86) dX1_parse_86 rfl rfl ?_
      refine ph_iload_n (i := 3) (pc := 87) dX1_parse_87 rfl rfl ?_
      refine ph_iconst (v := (nI 2)) (pc := 88) dX1_parse_88 ph_ic_2 ?_
      refine ph_iadd (pc := 89) dX1_parse_89 ?_
      refine ph_callVi (pc := 90) dX1_parse_90 ph_mf_yX4_at ph_ml_RX1_49 ph_mi_yX4_at ph_mv_yX4_at rfl rfl (c_X4_at Z (d - 1) (by omega) 3 ((x11 * (nI 5)) + (nI 2)) h19) (by omega) rfl rfl (Nat.le_of_ble_eq_true rfl) (fun v20 h21 => ?_)
      refine ph_callSi (pc := 93) dX1_parse_93 ph_mf_yX1_habitBy ph_ml_RX1_53 ph_ms_yX1_habitBy (c_X1_habitBy Z (d - 1) (by omega) v20 h21) (by omega) rfl rfl (Nat.le_of_ble_eq_true rfl) (fun v22 h23 => ?_)
      refine ph_iast (pc := 96) dX1_parse_96 rfl rfl (fun h24 => ?_)
      refine ph_aload_n (i := 0) (pc := 97) dX1_parse_97 rfl rfl ?_
      refine ph_getR (j := 34) (pc := 98) dX1_parse_98 ph_fl_RX1_21 rfl rfl rfl ?_
      refine ph_iload_n (i := 2) (pc := 101) dX1_parse_101 rfl rfl ?_
      refine ph_aload_n (i := 1) (pc := 102) dX1_parse_102 rfl rfl ?_
      refine ph_iload_n (i := 3) (pc := 103) dX1_parse_103 rfl rfl ?_
      refine ph_iconst (v := (nI 3)) (pc := 104) dX1_parse_104 ph_ic_3 ?_
      refine ph_iadd (pc := 105) dX1_parse_105 ?_
      refine ph_callVi (pc := 106) dX1_parse_106 ph_mf_yX4_at ph_ml_RX1_49 ph_mi_yX4_at ph_mv_yX4_at rfl rfl (c_X4_at Z (d - 1) (by omega) 3 ((x11 * (nI 5)) + (nI 3)) h24) (by omega) rfl rfl (Nat.le_of_ble_eq_true rfl) (fun v25 h26 => ?_)
      refine ph_bipush (v := (nI 97)) (pc := 109) dX1_parse_109 ph_bp_97 ?_
      refine ph_isub (pc := 111) dX1_parse_111 ?_
      refine ph_iast (pc := 112) dX1_parse_112 rfl rfl (fun h27 => ?_)
      refine ph_iinc (i := 2) (v := (nI 1)) (ls1 := [some (.ref (ph_a Z 30)), some (.ref (ph_a Z 3)), some (.int (x11 + (nI 1))), some (.int (x11 * (nI 5)))]) (pc := 113) dX1_parse_113 rfl ph_ic_1 (by decide) rfl ?_
      refine ph_goto (tgt := 39) (pc := 116) dX1_parse_116 (by decide) ?_
      refine ph_wk (ls1 := [some (.ref (ph_a Z 30)), some (.ref (ph_a Z 3)), some (.int (x11 + (nI 1))), none]) ⟨rfl, ⟨rfl, ⟨rfl, trivial⟩⟩⟩ ?_
      exact hj10 (x11 + (nI 1), h27)
  · refine ph_icmp_ne (tgt := 33) (pc := 14) dX1_parse_14 (by decide) (fun c28 => ?_) (fun c28 => ?_)
    · refine ph_iconst (v := (nI 0)) (pc := 33) dX1_parse_33 ph_ic_0 ?_
      exact hj6 ((nI 0), h5)
    · refine ph_aload_n (i := 1) (pc := 17) dX1_parse_17 rfl rfl ?_
      refine ph_callVi (pc := 18) dX1_parse_18 ph_mf_yX4_size ph_ml_RX1_38 ph_mi_yX4_size ph_mv_yX4_size rfl rfl (c_X4_size Z (d - 1) (by omega) 3 h5) (by omega) rfl rfl (Nat.le_of_ble_eq_true rfl) (fun v29 h30 => ?_)
      refine ph_iconst (v := (nI 1)) (pc := 21) dX1_parse_21 ph_ic_1 ?_
      refine ph_iadd (pc := 22) dX1_parse_22 ?_
      refine ph_iconst (v := (nI 5)) (pc := 23) dX1_parse_23 ph_ic_5 ?_
      refine ph_idivK (pc := 24) dX1_parse_24 (by decide) ?_
      refine ph_bipush (v := (nI 9)) (pc := 25) dX1_parse_25 ph_bp_9 ?_
      refine ph_mmin (pc := 27) dX1_parse_27 ph_ml_RX1_43 ph_mm_min (by omega) (Nat.le_of_ble_eq_true rfl) ?_
      refine ph_goto (tgt := 34) (pc := 30) dX1_parse_30 (by decide) ?_
      exact hj6 ((if (nI 9) < ((v29 + (nI 1)) / (nI 5)) then (nI 9) else ((v29 + (nI 1)) / (nI 5))), h30)
def f_X1_placeOf (x1 : Int32) (h : ph_Hp) : Option (Int32 × ph_Hp) :=
  if x1 < nI 0 then
    some ((-1), h)
  else
    if (nI 9) ≤ x1 then
      some ((-1), h)
    else
      ph_ldI h 31 9 x1 fun v5 =>
      some (v5, h)
set_option maxRecDepth 100000 in
theorem c_X1_placeOf (Z : ph_L) (d : Nat) (hdd : 0 ≤ d) (x1 : Int32) (h : ph_Hp) : ph_CM Z yX1_placeOf cX1_placeOf 2 (some .int) d [.ref (ph_a Z 30), .int x1] ph_vi h (f_X1_placeOf x1 h) := by
  refine ph_begin (own := RX1) ph_mf_yX1_placeOf rfl (ls := [some (.ref (ph_a Z 30)), some (.int x1)]) rfl (Nat.le_of_ble_eq_true rfl) ?_
  unfold f_X1_placeOf
  refine ph_iload_n (i := 1) (pc := 0) dX1_placeOf_0 rfl rfl ?_
  refine ph_if_lt (tgt := 19) (pc := 1) dX1_placeOf_1 (by decide) (fun c3 => ?_) (fun c3 => ?_)
  · refine ph_iconst (v := (-1)) (pc := 19) dX1_placeOf_19 ph_ic_m1 ?_
    exact ph_iret (pc := 20) dX1_placeOf_20 rfl
  · refine ph_iload_n (i := 1) (pc := 4) dX1_placeOf_4 rfl rfl ?_
    refine ph_bipush (v := (nI 9)) (pc := 5) dX1_placeOf_5 ph_bp_9 ?_
    refine ph_icmp_ge (tgt := 19) (pc := 7) dX1_placeOf_7 (by decide) (fun c4 => ?_) (fun c4 => ?_)
    · refine ph_iconst (v := (-1)) (pc := 19) dX1_placeOf_19 ph_ic_m1 ?_
      exact ph_iret (pc := 20) dX1_placeOf_20 rfl
    · refine ph_aload_n (i := 0) (pc := 10) dX1_placeOf_10 rfl rfl ?_
      refine ph_getR (j := 31) (pc := 11) dX1_placeOf_11 ph_fl_RX1_9 rfl rfl rfl ?_
      refine ph_iload_n (i := 1) (pc := 14) dX1_placeOf_14 rfl rfl ?_
      refine ph_iald (pc := 15) dX1_placeOf_15 rfl rfl (fun v5 => ?_)
      refine ph_goto (tgt := 20) (pc := 16) dX1_placeOf_16 (by decide) ?_
      exact ph_iret (pc := 20) dX1_placeOf_20 rfl
def f_X1_hearsOf (x1 : Int32) (h : ph_Hp) : Option (Int32 × ph_Hp) :=
  if x1 < nI 0 then
    some ((-1), h)
  else
    if (nI 9) ≤ x1 then
      some ((-1), h)
    else
      ph_ldI h 32 9 x1 fun v5 =>
      some (v5, h)
set_option maxRecDepth 100000 in
theorem c_X1_hearsOf (Z : ph_L) (d : Nat) (hdd : 0 ≤ d) (x1 : Int32) (h : ph_Hp) : ph_CM Z yX1_hearsOf cX1_hearsOf 2 (some .int) d [.ref (ph_a Z 30), .int x1] ph_vi h (f_X1_hearsOf x1 h) := by
  refine ph_begin (own := RX1) ph_mf_yX1_hearsOf rfl (ls := [some (.ref (ph_a Z 30)), some (.int x1)]) rfl (Nat.le_of_ble_eq_true rfl) ?_
  unfold f_X1_hearsOf
  refine ph_iload_n (i := 1) (pc := 0) dX1_hearsOf_0 rfl rfl ?_
  refine ph_if_lt (tgt := 19) (pc := 1) dX1_hearsOf_1 (by decide) (fun c3 => ?_) (fun c3 => ?_)
  · refine ph_iconst (v := (-1)) (pc := 19) dX1_hearsOf_19 ph_ic_m1 ?_
    exact ph_iret (pc := 20) dX1_hearsOf_20 rfl
  · refine ph_iload_n (i := 1) (pc := 4) dX1_hearsOf_4 rfl rfl ?_
    refine ph_bipush (v := (nI 9)) (pc := 5) dX1_hearsOf_5 ph_bp_9 ?_
    refine ph_icmp_ge (tgt := 19) (pc := 7) dX1_hearsOf_7 (by decide) (fun c4 => ?_) (fun c4 => ?_)
    · refine ph_iconst (v := (-1)) (pc := 19) dX1_hearsOf_19 ph_ic_m1 ?_
      exact ph_iret (pc := 20) dX1_hearsOf_20 rfl
    · refine ph_aload_n (i := 0) (pc := 10) dX1_hearsOf_10 rfl rfl ?_
      refine ph_getR (j := 32) (pc := 11) dX1_hearsOf_11 ph_fl_RX1_15 rfl rfl rfl ?_
      refine ph_iload_n (i := 1) (pc := 14) dX1_hearsOf_14 rfl rfl ?_
      refine ph_iald (pc := 15) dX1_hearsOf_15 rfl rfl (fun v5 => ?_)
      refine ph_goto (tgt := 20) (pc := 16) dX1_hearsOf_16 (by decide) ?_
      exact ph_iret (pc := 20) dX1_hearsOf_20 rfl
