def f_X9_reads (h : ph_Hp) : Option (Unit × ph_Hp) :=
  ph_cl (f_X9_readsPlay h) fun v2 h3 =>
  ph_cl (f_X9_readsHoles h3) fun v4 h5 =>
  some ((), h5)
set_option maxRecDepth 100000 in
theorem c_X9_reads (Z : ph_L) (d : Nat) (hdd : 4 ≤ d) (h : ph_Hp) : ph_CM Z yX9_reads cX9_reads 1 none d [.ref (ph_a Z 51)] ph_vv h (f_X9_reads h) := by
  refine ph_begin (own := RX9) ph_mf_yX9_reads rfl (ls := [some (.ref (ph_a Z 51))]) rfl (Nat.le_of_ble_eq_true rfl) ?_
  unfold f_X9_reads
  refine ph_aload_n (i := 0) (pc := 0) dX9_reads_0 rfl rfl ?_
  refine ph_callVi (pc := 1) dX9_reads_1 ph_mf_yX9_readsPlay ph_ml_RX9_119 ph_mi_yX9_readsPlay ph_mv_yX9_readsPlay rfl rfl (c_X9_readsPlay Z (d - 1) (by omega) h) (by omega) rfl rfl (Nat.le_of_ble_eq_true rfl) (fun v2 h3 => ?_)
  refine ph_pop (pc := 4) dX9_reads_4 rfl ?_
  refine ph_aload_n (i := 0) (pc := 5) dX9_reads_5 rfl rfl ?_
  refine ph_callVi (pc := 6) dX9_reads_6 ph_mf_yX9_readsHoles ph_ml_RX9_123 ph_mi_yX9_readsHoles ph_mv_yX9_readsHoles rfl rfl (c_X9_readsHoles Z (d - 1) (by omega) h3) (by omega) rfl rfl (Nat.le_of_ble_eq_true rfl) (fun v4 h5 => ?_)
  refine ph_pop (pc := 9) dX9_reads_9 rfl ?_
  exact ph_vret (pc := 10) dX9_reads_10 rfl
def f_X9_fault (x1 : Int32) (h : ph_Hp) : Option (Int32 × ph_Hp) :=
  ph_cl (f_X9_isTwo x1 h) fun v3 h4 =>
  if v3 = nI 0 then
    some ((-2), h4)
  else
    if x1 = nI 0 then
      ph_cl (f_X9_readsPlay h4) fun v9 h10 =>
      some (v9, h10)
    else
      ph_cl (f_X9_readsHoles h4) fun v7 h8 =>
      some (v7, h8)
set_option maxRecDepth 100000 in
theorem c_X9_fault (Z : ph_L) (d : Nat) (hdd : 4 ≤ d) (x1 : Int32) (h : ph_Hp) : ph_CM Z yX9_fault cX9_fault 2 (some .int) d [.ref (ph_a Z 51), .int x1] ph_vi h (f_X9_fault x1 h) := by
  refine ph_begin (own := RX9) ph_mf_yX9_fault rfl (ls := [some (.ref (ph_a Z 51)), some (.int x1)]) rfl (Nat.le_of_ble_eq_true rfl) ?_
  unfold f_X9_fault
  refine ph_iload_n (i := 1) (pc := 0) dX9_fault_0 rfl rfl ?_
  refine ph_callSi (pc := 1) dX9_fault_1 ph_mf_yX9_isTwo ph_ml_RX9_98 ph_ms_yX9_isTwo (c_X9_isTwo Z (d - 1) (by omega) x1 h) (by omega) rfl rfl (Nat.le_of_ble_eq_true rfl) (fun v3 h4 => ?_)
  refine ph_if_ne (tgt := 12) (pc := 4) dX9_fault_4 (by decide) (fun c5 => ?_) (fun c5 => ?_)
  · refine ph_iload_n (i := 1) (pc := 12) dX9_fault_12 rfl rfl ?_
    refine ph_if_ne (tgt := 23) (pc := 13) dX9_fault_13 (by decide) (fun c6 => ?_) (fun c6 => ?_)
    · refine ph_aload_n (i := 0) (pc := 23) dX9_fault_23 rfl rfl ?_
      refine ph_callVi (pc := 24) dX9_fault_24 ph_mf_yX9_readsHoles ph_ml_RX9_123 ph_mi_yX9_readsHoles ph_mv_yX9_readsHoles rfl rfl (c_X9_readsHoles Z (d - 1) (by omega) h4) (by omega) rfl rfl (Nat.le_of_ble_eq_true rfl) (fun v7 h8 => ?_)
      exact ph_iret (pc := 27) dX9_fault_27 rfl
    · refine ph_aload_n (i := 0) (pc := 16) dX9_fault_16 rfl rfl ?_
      refine ph_callVi (pc := 17) dX9_fault_17 ph_mf_yX9_readsPlay ph_ml_RX9_119 ph_mi_yX9_readsPlay ph_mv_yX9_readsPlay rfl rfl (c_X9_readsPlay Z (d - 1) (by omega) h4) (by omega) rfl rfl (Nat.le_of_ble_eq_true rfl) (fun v9 h10 => ?_)
      refine ph_goto (tgt := 27) (pc := 20) dX9_fault_20 (by decide) ?_
      exact ph_iret (pc := 27) dX9_fault_27 rfl
  · refine ph_bipush (v := (-2)) (pc := 7) dX9_fault_7 ph_bp_m2 ?_
    refine ph_goto (tgt := 27) (pc := 9) dX9_fault_9 (by decide) ?_
    exact ph_iret (pc := 27) dX9_fault_27 rfl
def f_X9_isHole (x1 : Int32) (h : ph_Hp) : Option (Int32 × ph_Hp) :=
  ph_cl (f_X9_in x1.toInt64 (lN 0) (((h.1 51 9) - (nI 1)).toInt64) h) fun v3 h4 =>
  ph_rz v3 h4
set_option maxRecDepth 100000 in
theorem c_X9_isHole (Z : ph_L) (d : Nat) (hdd : 1 ≤ d) (x1 : Int32) (h : ph_Hp) : ph_CM Z yX9_isHole cX9_isHole 2 (some .boolean) d [.ref (ph_a Z 51), .int x1] ph_vi h (f_X9_isHole x1 h) := by
  refine ph_begin (own := RX9) ph_mf_yX9_isHole rfl (ls := [some (.ref (ph_a Z 51)), some (.int x1)]) rfl (Nat.le_of_ble_eq_true rfl) ?_
  unfold f_X9_isHole
  refine ph_iload_n (i := 1) (pc := 0) dX9_isHole_0 rfl rfl ?_
  refine ph_i2l (pc := 1) dX9_isHole_1 ?_
  refine ph_lconst (v := (lN 0)) (pc := 2) dX9_isHole_2 rfl ?_
  refine ph_aload_n (i := 0) (pc := 3) dX9_isHole_3 rfl rfl ?_
  refine ph_getI (pc := 4) dX9_isHole_4 ph_fl_RX9_113 rfl (by decide) ?_
  refine ph_iconst (v := (nI 1)) (pc := 7) dX9_isHole_7 ph_ic_1 ?_
  refine ph_isub (pc := 8) dX9_isHole_8 ?_
  refine ph_i2l (pc := 9) dX9_isHole_9 ?_
  refine ph_callSi (pc := 10) dX9_isHole_10 ph_mf_yX9_in ph_ml_RX9_70 ph_ms_yX9_in (c_X9_in Z (d - 1) (by omega) x1.toInt64 (lN 0) (((h.1 51 9) - (nI 1)).toInt64) h) (by omega) rfl rfl (Nat.le_of_ble_eq_true rfl) (fun v3 h4 => ?_)
  exact ph_zret (pc := 13) dX9_isHole_13 rfl
def f_X9_isLine (x1 : Int32) (h : ph_Hp) : Option (Int32 × ph_Hp) :=
  ph_cl (f_X9_in x1.toInt64 (lN 0) (lN 7) h) fun v3 h4 =>
  ph_rz v3 h4
set_option maxRecDepth 100000 in
theorem c_X9_isLine (Z : ph_L) (d : Nat) (hdd : 1 ≤ d) (x1 : Int32) (h : ph_Hp) : ph_CM Z yX9_isLine cX9_isLine 1 (some .boolean) d [.int x1] ph_vi h (f_X9_isLine x1 h) := by
  refine ph_begin (own := RX9) ph_mf_yX9_isLine rfl (ls := [some (.int x1)]) rfl (Nat.le_of_ble_eq_true rfl) ?_
  unfold f_X9_isLine
  refine ph_iload_n (i := 0) (pc := 0) dX9_isLine_0 rfl rfl ?_
  refine ph_i2l (pc := 1) dX9_isLine_1 ?_
  refine ph_lconst (v := (lN 0)) (pc := 2) dX9_isLine_2 rfl ?_
  refine ph_ldc2 (v := (lN 7)) (pc := 3) dX9_isLine_3 ph_k_RX9_126 ?_
  refine ph_callSi (pc := 6) dX9_isLine_6 ph_mf_yX9_in ph_ml_RX9_70 ph_ms_yX9_in (c_X9_in Z (d - 1) (by omega) x1.toInt64 (lN 0) (lN 7) h) (by omega) rfl rfl (Nat.le_of_ble_eq_true rfl) (fun v3 h4 => ?_)
  exact ph_zret (pc := 9) dX9_isLine_9 rfl
def f_X9_isStep (x1 : Int32) (h : ph_Hp) : Option (Int32 × ph_Hp) :=
  ph_cl (f_X9_in x1.toInt64 (lN 0) (lN 39) h) fun v3 h4 =>
  ph_rz v3 h4
set_option maxRecDepth 100000 in
theorem c_X9_isStep (Z : ph_L) (d : Nat) (hdd : 1 ≤ d) (x1 : Int32) (h : ph_Hp) : ph_CM Z yX9_isStep cX9_isStep 1 (some .boolean) d [.int x1] ph_vi h (f_X9_isStep x1 h) := by
  refine ph_begin (own := RX9) ph_mf_yX9_isStep rfl (ls := [some (.int x1)]) rfl (Nat.le_of_ble_eq_true rfl) ?_
  unfold f_X9_isStep
  refine ph_iload_n (i := 0) (pc := 0) dX9_isStep_0 rfl rfl ?_
  refine ph_i2l (pc := 1) dX9_isStep_1 ?_
  refine ph_lconst (v := (lN 0)) (pc := 2) dX9_isStep_2 rfl ?_
  refine ph_ldc2 (v := (lN 39)) (pc := 3) dX9_isStep_3 ph_k_RX9_128 ?_
  refine ph_callSi (pc := 6) dX9_isStep_6 ph_mf_yX9_in ph_ml_RX9_70 ph_ms_yX9_in (c_X9_in Z (d - 1) (by omega) x1.toInt64 (lN 0) (lN 39) h) (by omega) rfl rfl (Nat.le_of_ble_eq_true rfl) (fun v3 h4 => ?_)
  exact ph_zret (pc := 9) dX9_isStep_9 rfl
def f_X9_line (x1 : Int32) (h : ph_Hp) : Option (Int32 × ph_Hp) :=
  ph_cl (f_X9_reads h) fun _ h4 =>
  ph_cl (f_X9_in x1.toInt64 (lN 0) (lN 23) h4) fun v5 h6 =>
  if v5 = nI 0 then
    some ((-2), h6)
  else
    if (h6.1 51 7) ≤ x1 then
      some ((-1), h6)
    else
      ph_ldI h6 58 24 x1 fun v9 =>
      some (v9, h6)
set_option maxRecDepth 100000 in
theorem c_X9_line (Z : ph_L) (d : Nat) (hdd : 5 ≤ d) (x1 : Int32) (h : ph_Hp) : ph_CM Z yX9_line cX9_line 2 (some .int) d [.ref (ph_a Z 51), .int x1] ph_vi h (f_X9_line x1 h) := by
  refine ph_begin (own := RX9) ph_mf_yX9_line rfl (ls := [some (.ref (ph_a Z 51)), some (.int x1)]) rfl (Nat.le_of_ble_eq_true rfl) ?_
  unfold f_X9_line
  refine ph_aload_n (i := 0) (pc := 0) dX9_line_0 rfl rfl ?_
  refine ph_callVv (pc := 1) dX9_line_1 ph_mf_yX9_reads ph_ml_RX9_130 ph_mi_yX9_reads ph_mv_yX9_reads rfl rfl (c_X9_reads Z (d - 1) (by omega) h) (by omega) rfl rfl (Nat.le_of_ble_eq_true rfl) (fun v3 h4 => ?_)
  refine ph_iload_n (i := 1) (pc := 4) dX9_line_4 rfl rfl ?_
  refine ph_i2l (pc := 5) dX9_line_5 ?_
  refine ph_lconst (v := (lN 0)) (pc := 6) dX9_line_6 rfl ?_
  refine ph_ldc2 (v := (lN 23)) (pc := 7) dX9_line_7 ph_k_RX9_133 ?_
  refine ph_callSi (pc := 10) dX9_line_10 ph_mf_yX9_in ph_ml_RX9_70 ph_ms_yX9_in (c_X9_in Z (d - 1) (by omega) x1.toInt64 (lN 0) (lN 23) h4) (by omega) rfl rfl (Nat.le_of_ble_eq_true rfl) (fun v5 h6 => ?_)
  refine ph_if_ne (tgt := 21) (pc := 13) dX9_line_13 (by decide) (fun c7 => ?_) (fun c7 => ?_)
  · refine ph_iload_n (i := 1) (pc := 21) dX9_line_21 rfl rfl ?_
    refine ph_aload_n (i := 0) (pc := 22) dX9_line_22 rfl rfl ?_
    refine ph_getI (pc := 23) dX9_line_23 ph_fl_RX9_103 rfl (by decide) ?_
    refine ph_icmp_ge (tgt := 38) (pc := 26) dX9_line_26 (by decide) (fun c8 => ?_) (fun c8 => ?_)
    · refine ph_iconst (v := (-1)) (pc := 38) dX9_line_38 ph_ic_m1 ?_
      exact ph_iret (pc := 39) dX9_line_39 rfl
    · refine ph_aload_n (i := 0) (pc := 29) dX9_line_29 rfl rfl ?_
      refine ph_getR (j := 58) (pc := 30) dX9_line_30 ph_fl_RX9_28 rfl rfl rfl ?_
      refine ph_iload_n (i := 1) (pc := 33) dX9_line_33 rfl rfl ?_
      refine ph_iald (pc := 34) dX9_line_34 rfl rfl (fun v9 => ?_)
      refine ph_goto (tgt := 39) (pc := 35) dX9_line_35 (by decide) ?_
      exact ph_iret (pc := 39) dX9_line_39 rfl
  · refine ph_bipush (v := (-2)) (pc := 16) dX9_line_16 ph_bp_m2 ?_
    refine ph_goto (tgt := 39) (pc := 18) dX9_line_18 (by decide) ?_
    exact ph_iret (pc := 39) dX9_line_39 rfl
def f_X9_hole (x1 : Int32) (x2 : Int32) (h : ph_Hp) : Option (Int32 × ph_Hp) :=
  ph_cl (f_X9_reads h) fun _ h5 =>
  ph_cl (f_X9_isHole x1 h5) fun v6 h7 =>
  if v6 = nI 0 then
    some ((-2), h7)
  else
    ph_cl (f_X9_in x2.toInt64 (lN 0) (lN 3) h7) fun v9 h10 =>
    if v9 = nI 0 then
      some ((-2), h10)
    else
      ph_ldI h10 59 36 (((nI 4) * x1) + x2) fun v12 =>
      some (v12, h10)
set_option maxRecDepth 100000 in
theorem c_X9_hole (Z : ph_L) (d : Nat) (hdd : 5 ≤ d) (x1 : Int32) (x2 : Int32) (h : ph_Hp) : ph_CM Z yX9_hole cX9_hole 3 (some .int) d [.ref (ph_a Z 51), .int x1, .int x2] ph_vi h (f_X9_hole x1 x2 h) := by
  refine ph_begin (own := RX9) ph_mf_yX9_hole rfl (ls := [some (.ref (ph_a Z 51)), some (.int x1), some (.int x2)]) rfl (Nat.le_of_ble_eq_true rfl) ?_
  unfold f_X9_hole
  refine ph_aload_n (i := 0) (pc := 0) dX9_hole_0 rfl rfl ?_
  refine ph_callVv (pc := 1) dX9_hole_1 ph_mf_yX9_reads ph_ml_RX9_130 ph_mi_yX9_reads ph_mv_yX9_reads rfl rfl (c_X9_reads Z (d - 1) (by omega) h) (by omega) rfl rfl (Nat.le_of_ble_eq_true rfl) (fun v4 h5 => ?_)
  refine ph_aload_n (i := 0) (pc := 4) dX9_hole_4 rfl rfl ?_
  refine ph_iload_n (i := 1) (pc := 5) dX9_hole_5 rfl rfl ?_
  refine ph_callVi (pc := 6) dX9_hole_6 ph_mf_yX9_isHole ph_ml_RX9_135 ph_mi_yX9_isHole ph_mv_yX9_isHole rfl rfl (c_X9_isHole Z (d - 1) (by omega) x1 h5) (by omega) rfl rfl (Nat.le_of_ble_eq_true rfl) (fun v6 h7 => ?_)
  refine ph_if_eq (tgt := 37) (pc := 9) dX9_hole_9 (by decide) (fun c8 => ?_) (fun c8 => ?_)
  · refine ph_bipush (v := (-2)) (pc := 37) dX9_hole_37 ph_bp_m2 ?_
    exact ph_iret (pc := 39) dX9_hole_39 rfl
  · refine ph_iload_n (i := 2) (pc := 12) dX9_hole_12 rfl rfl ?_
    refine ph_i2l (pc := 13) dX9_hole_13 ?_
    refine ph_lconst (v := (lN 0)) (pc := 14) dX9_hole_14 rfl ?_
    refine ph_ldc2 (v := (lN 3)) (pc := 15) dX9_hole_15 ph_k_RX9_77 ?_
    refine ph_callSi (pc := 18) dX9_hole_18 ph_mf_yX9_in ph_ml_RX9_70 ph_ms_yX9_in (c_X9_in Z (d - 1) (by omega) x2.toInt64 (lN 0) (lN 3) h7) (by omega) rfl rfl (Nat.le_of_ble_eq_true rfl) (fun v9 h10 => ?_)
    refine ph_if_eq (tgt := 37) (pc := 21) dX9_hole_21 (by decide) (fun c11 => ?_) (fun c11 => ?_)
    · refine ph_bipush (v := (-2)) (pc := 37) dX9_hole_37 ph_bp_m2 ?_
      exact ph_iret (pc := 39) dX9_hole_39 rfl
    · refine ph_aload_n (i := 0) (pc := 24) dX9_hole_24 rfl rfl ?_
      refine ph_getR (j := 59) (pc := 25) dX9_hole_25 ph_fl_RX9_31 rfl rfl rfl ?_
      refine ph_iconst (v := (nI 4)) (pc := 28) dX9_hole_28 ph_ic_4 ?_
      refine ph_iload_n (i := 1) (pc := 29) dX9_hole_29 rfl rfl ?_
      refine ph_imul (pc := 30) dX9_hole_30 ?_
      refine ph_iload_n (i := 2) (pc := 31) dX9_hole_31 rfl rfl ?_
      refine ph_iadd (pc := 32) dX9_hole_32 ?_
      refine ph_iald (pc := 33) dX9_hole_33 rfl rfl (fun v12 => ?_)
      refine ph_goto (tgt := 39) (pc := 34) dX9_hole_34 (by decide) ?_
      exact ph_iret (pc := 39) dX9_hole_39 rfl
def f_X9_printedBy (x1 : Int32) (x2 : Int32) (h : ph_Hp) : Option (Int32 × ph_Hp) :=
  if (h.1 51 7) = nI 0 then
    some ((-1), h)
  else
    ph_lp (α := Int32) (fun j5 x6 =>
      if (h.1 51 7) ≤ x6 then
        ph_ldI h 58 24 (nI 0) fun v8 =>
        some (v8, h)
      else
        ph_ldI h 58 24 x6 fun v9 =>
        if v9 = x1 then
          ph_rmI ((x6 + x2) + (h.1 51 7)) (h.1 51 7) fun v11 =>
          ph_ldI h 58 24 v11 fun v12 =>
          some (v12, h)
        else
          j5 (x6 + (nI 1))) ph_fu (nI 0)
set_option maxRecDepth 100000 in
theorem c_X9_printedBy (Z : ph_L) (d : Nat) (hdd : 0 ≤ d) (x1 : Int32) (x2 : Int32) (h : ph_Hp) : ph_CM Z yX9_printedBy cX9_printedBy 4 (some .int) d [.ref (ph_a Z 51), .int x1, .int x2] ph_vi h (f_X9_printedBy x1 x2 h) := by
  refine ph_begin (own := RX9) ph_mf_yX9_printedBy rfl (ls := [some (.ref (ph_a Z 51)), some (.int x1), some (.int x2), none]) rfl (Nat.le_of_ble_eq_true rfl) ?_
  unfold f_X9_printedBy
  refine ph_aload_n (i := 0) (pc := 0) dX9_printedBy_0 rfl rfl ?_
  refine ph_getI (pc := 1) dX9_printedBy_1 ph_fl_RX9_103 rfl (by decide) ?_
  refine ph_if_ne (tgt := 9) (pc := 4) dX9_printedBy_4 (by decide) (fun c4 => ?_) (fun c4 => ?_)
  · refine ph_iconst (v := (nI 0)) (pc := 9) dX9_printedBy_9 ph_ic_0 ?_
    refine ph_istore_n (i := 3) (ls1 := [some (.ref (ph_a Z 51)), some (.int x1), some (.int x2), some (.int (nI 0))]) (pc := 10) dX9_printedBy_10 rfl (by decide) rfl ?_
    refine ph_loop (α := Int32) 11 (fun x => [some (.ref (ph_a Z 51)), some (.int x1), some (.int x2), some (.int x)]) (fun x => []) (fun x => h) (fun j5 hj5 x => ?_) ph_fu (nI 0)
    revert x; intro x6
    refine ph_iload_n (i := 3) (pc := 11) dX9_printedBy_11 rfl rfl ?_
    refine ph_aload_n (i := 0) (pc := 12) dX9_printedBy_12 rfl rfl ?_
    refine ph_getI (pc := 13) dX9_printedBy_13 ph_fl_RX9_103 rfl (by decide) ?_
    refine ph_icmp_ge (tgt := 54) (pc := 16) dX9_printedBy_16 (by decide) (fun c7 => ?_) (fun c7 => ?_)
    · refine ph_aload_n (i := 0) (pc := 54) dX9_printedBy_54 rfl rfl ?_
      refine ph_getR (j := 58) (pc := 55) dX9_printedBy_55 ph_fl_RX9_28 rfl rfl rfl ?_
      refine ph_iconst (v := (nI 0)) (pc := 58) dX9_printedBy_58 ph_ic_0 ?_
      refine ph_iald (pc := 59) dX9_printedBy_59 rfl rfl (fun v8 => ?_)
      exact ph_iret (pc := 60) dX9_printedBy_60 rfl
    · refine ph_aload_n (i := 0) (pc := 19) dX9_printedBy_19 rfl rfl ?_
      refine ph_getR (j := 58) (pc := 20) dX9_printedBy_20 ph_fl_RX9_28 rfl rfl rfl ?_
      refine ph_iload_n (i := 3) (pc := 23) dX9_printedBy_23 rfl rfl ?_
      refine ph_iald (pc := 24) dX9_printedBy_24 rfl rfl (fun v9 => ?_)
      refine ph_iload_n (i := 1) (pc := 25) dX9_printedBy_25 rfl rfl ?_
      refine ph_icmp_ne (tgt := 48) (pc := 26) dX9_printedBy_26 (by decide) (fun c10 => ?_) (fun c10 => ?_)
      · refine ph_iinc (i := 3) (v := (nI 1)) (ls1 := [some (.ref (ph_a Z 51)), some (.int x1), some (.int x2), some (.int (x6 + (nI 1)))]) (pc := 48) dX9_printedBy_48 rfl ph_ic_1 (by decide) rfl ?_
        refine ph_goto (tgt := 11) (pc := 51) dX9_printedBy_51 (by decide) ?_
        exact hj5 (x6 + (nI 1))
      · refine ph_aload_n (i := 0) (pc := 29) dX9_printedBy_29 rfl rfl ?_
        refine ph_getR (j := 58) (pc := 30) dX9_printedBy_30 ph_fl_RX9_28 rfl rfl rfl ?_
        refine ph_iload_n (i := 3) (pc := 33) dX9_printedBy_33 rfl rfl ?_
        refine ph_iload_n (i := 2) (pc := 34) dX9_printedBy_34 rfl rfl ?_
        refine ph_iadd (pc := 35) dX9_printedBy_35 ?_
        refine ph_aload_n (i := 0) (pc := 36) dX9_printedBy_36 rfl rfl ?_
        refine ph_getI (pc := 37) dX9_printedBy_37 ph_fl_RX9_103 rfl (by decide) ?_
        refine ph_iadd (pc := 40) dX9_printedBy_40 ?_
        refine ph_aload_n (i := 0) (pc := 41) dX9_printedBy_41 rfl rfl ?_
        refine ph_getI (pc := 42) dX9_printedBy_42 ph_fl_RX9_103 rfl (by decide) ?_
        refine ph_iremX (pc := 45) dX9_printedBy_45 (fun v11 => ?_)
        refine ph_iald (pc := 46) dX9_printedBy_46 rfl rfl (fun v12 => ?_)
        exact ph_iret (pc := 47) dX9_printedBy_47 rfl
  · refine ph_iconst (v := (-1)) (pc := 7) dX9_printedBy_7 ph_ic_m1 ?_
    exact ph_iret (pc := 8) dX9_printedBy_8 rfl
def f_X9_printed (x1 : Int32) (x2 : Int32) (h : ph_Hp) : Option (Int32 × ph_Hp) :=
  ph_cl (f_X9_reads h) fun _ h5 =>
  ph_cl (f_X9_isLine x1 h5) fun v6 h7 =>
  if v6 = nI 0 then
    some ((-2), h7)
  else
    ph_cl (f_X9_isTwo x2 h7) fun v9 h10 =>
    if v9 = nI 0 then
      some ((-2), h10)
    else
      ph_jn (α := Int32) (fun x13 =>
        ph_cl (f_X9_printedBy x1 x13 h10) fun v14 h15 =>
        some (v14, h15)) (fun j12 =>
        if x2 = nI 0 then
          j12 (nI 1)
        else
          j12 (-1))
set_option maxRecDepth 100000 in
theorem c_X9_printed (Z : ph_L) (d : Nat) (hdd : 5 ≤ d) (x1 : Int32) (x2 : Int32) (h : ph_Hp) : ph_CM Z yX9_printed cX9_printed 3 (some .int) d [.ref (ph_a Z 51), .int x1, .int x2] ph_vi h (f_X9_printed x1 x2 h) := by
  refine ph_begin (own := RX9) ph_mf_yX9_printed rfl (ls := [some (.ref (ph_a Z 51)), some (.int x1), some (.int x2)]) rfl (Nat.le_of_ble_eq_true rfl) ?_
  unfold f_X9_printed
  refine ph_aload_n (i := 0) (pc := 0) dX9_printed_0 rfl rfl ?_
  refine ph_callVv (pc := 1) dX9_printed_1 ph_mf_yX9_reads ph_ml_RX9_130 ph_mi_yX9_reads ph_mv_yX9_reads rfl rfl (c_X9_reads Z (d - 1) (by omega) h) (by omega) rfl rfl (Nat.le_of_ble_eq_true rfl) (fun v4 h5 => ?_)
  refine ph_iload_n (i := 1) (pc := 4) dX9_printed_4 rfl rfl ?_
  refine ph_callSi (pc := 5) dX9_printed_5 ph_mf_yX9_isLine ph_ml_RX9_138 ph_ms_yX9_isLine (c_X9_isLine Z (d - 1) (by omega) x1 h5) (by omega) rfl rfl (Nat.le_of_ble_eq_true rfl) (fun v6 h7 => ?_)
  refine ph_if_eq (tgt := 35) (pc := 8) dX9_printed_8 (by decide) (fun c8 => ?_) (fun c8 => ?_)
  · refine ph_bipush (v := (-2)) (pc := 35) dX9_printed_35 ph_bp_m2 ?_
    exact ph_iret (pc := 37) dX9_printed_37 rfl
  · refine ph_iload_n (i := 2) (pc := 11) dX9_printed_11 rfl rfl ?_
    refine ph_callSi (pc := 12) dX9_printed_12 ph_mf_yX9_isTwo ph_ml_RX9_98 ph_ms_yX9_isTwo (c_X9_isTwo Z (d - 1) (by omega) x2 h7) (by omega) rfl rfl (Nat.le_of_ble_eq_true rfl) (fun v9 h10 => ?_)
    refine ph_if_eq (tgt := 35) (pc := 15) dX9_printed_15 (by decide) (fun c11 => ?_) (fun c11 => ?_)
    · refine ph_bipush (v := (-2)) (pc := 35) dX9_printed_35 ph_bp_m2 ?_
      exact ph_iret (pc := 37) dX9_printed_37 rfl
    · refine ph_aload_n (i := 0) (pc := 18) dX9_printed_18 rfl rfl ?_
      refine ph_iload_n (i := 1) (pc := 19) dX9_printed_19 rfl rfl ?_
      refine ph_iload_n (i := 2) (pc := 20) dX9_printed_20 rfl rfl ?_
      refine ph_join (α := Int32) 29 (fun x => [none, none, none]) (fun x => [.int x, .int x1, .ref (ph_a Z 51)]) (fun x => h10) (fun x => ?_) (fun j12 hj12 => ?_)
      · revert x; intro x13
        refine ph_callVi (pc := 29) dX9_printed_29 ph_mf_yX9_printedBy ph_ml_RX9_141 ph_mi_yX9_printedBy ph_mv_yX9_printedBy rfl rfl (c_X9_printedBy Z (d - 1) (by omega) x1 x13 h10) (by omega) rfl rfl (Nat.le_of_ble_eq_true rfl) (fun v14 h15 => ?_)
        refine ph_goto (tgt := 37) (pc := 32) dX9_printed_32 (by decide) ?_
        exact ph_iret (pc := 37) dX9_printed_37 rfl
      · refine ph_if_ne (tgt := 28) (pc := 21) dX9_printed_21 (by decide) (fun c16 => ?_) (fun c16 => ?_)
        · refine ph_iconst (v := (-1)) (pc := 28) dX9_printed_28 ph_ic_m1 ?_
          refine ph_wk (ls1 := [none, none, none]) trivial ?_
          exact hj12 (-1)
        · refine ph_iconst (v := (nI 1)) (pc := 24) dX9_printed_24 ph_ic_1 ?_
          refine ph_goto (tgt := 29) (pc := 25) dX9_printed_25 (by decide) ?_
          refine ph_wk (ls1 := [none, none, none]) trivial ?_
          exact hj12 (nI 1)
def f_X9_move (x1 : Int32) (x2 : Int32) (h : ph_Hp) : Option (Int32 × ph_Hp) :=
  ph_cl (f_X9_isStep x1 h) fun v4 h5 =>
  if v4 = nI 0 then
    some ((-2), h5)
  else
    ph_cl (f_X9_in x2.toInt64 (lN 0) (lN 9) h5) fun v7 h8 =>
    if v7 = nI 0 then
      some ((-2), h8)
    else
      if (h8.1 51 11) = (nI 12) then
        some ((-4), h8)
      else
        ph_stI h8 60 24 ((nI 2) * (h8.1 51 11)) x1 fun h11 =>
        ph_stI h11 60 24 (((nI 2) * (h11.1 51 11)) + (nI 1)) x2 fun h12 =>
        ph_pfI h12 51 11 ((h12.1 51 11) + (nI 1)) fun h13 =>
        some (h13.1 51 11, h13)
set_option maxRecDepth 100000 in
theorem c_X9_move (Z : ph_L) (d : Nat) (hdd : 2 ≤ d) (x1 : Int32) (x2 : Int32) (h : ph_Hp) : ph_CM Z yX9_move cX9_move 3 (some .int) d [.ref (ph_a Z 51), .int x1, .int x2] ph_vi h (f_X9_move x1 x2 h) := by
  refine ph_begin (own := RX9) ph_mf_yX9_move rfl (ls := [some (.ref (ph_a Z 51)), some (.int x1), some (.int x2)]) rfl (Nat.le_of_ble_eq_true rfl) ?_
  unfold f_X9_move
  refine ph_iload_n (i := 1) (pc := 0) dX9_move_0 rfl rfl ?_
  refine ph_callSi (pc := 1) dX9_move_1 ph_mf_yX9_isStep ph_ml_RX9_144 ph_ms_yX9_isStep (c_X9_isStep Z (d - 1) (by omega) x1 h) (by omega) rfl rfl (Nat.le_of_ble_eq_true rfl) (fun v4 h5 => ?_)
  refine ph_if_eq (tgt := 19) (pc := 4) dX9_move_4 (by decide) (fun c6 => ?_) (fun c6 => ?_)
  · refine ph_bipush (v := (-2)) (pc := 19) dX9_move_19 ph_bp_m2 ?_
    exact ph_iret (pc := 21) dX9_move_21 rfl
  · refine ph_iload_n (i := 2) (pc := 7) dX9_move_7 rfl rfl ?_
    refine ph_i2l (pc := 8) dX9_move_8 ?_
    refine ph_lconst (v := (lN 0)) (pc := 9) dX9_move_9 rfl ?_
    refine ph_ldc2 (v := (lN 9)) (pc := 10) dX9_move_10 ph_k_RX9_147 ?_
    refine ph_callSi (pc := 13) dX9_move_13 ph_mf_yX9_in ph_ml_RX9_70 ph_ms_yX9_in (c_X9_in Z (d - 1) (by omega) x2.toInt64 (lN 0) (lN 9) h5) (by omega) rfl rfl (Nat.le_of_ble_eq_true rfl) (fun v7 h8 => ?_)
    refine ph_if_ne (tgt := 22) (pc := 16) dX9_move_16 (by decide) (fun c9 => ?_) (fun c9 => ?_)
    · refine ph_aload_n (i := 0) (pc := 22) dX9_move_22 rfl rfl ?_
      refine ph_getI (pc := 23) dX9_move_23 ph_fl_RX9_149 rfl (by decide) ?_
      refine ph_bipush (v := (nI 12)) (pc := 26) dX9_move_26 ph_bp_12 ?_
      refine ph_icmp_ne (tgt := 34) (pc := 28) dX9_move_28 (by decide) (fun c10 => ?_) (fun c10 => ?_)
      · refine ph_aload_n (i := 0) (pc := 34) dX9_move_34 rfl rfl ?_
        refine ph_getR (j := 60) (pc := 35) dX9_move_35 ph_fl_RX9_34 rfl rfl rfl ?_
        refine ph_iconst (v := (nI 2)) (pc := 38) dX9_move_38 ph_ic_2 ?_
        refine ph_aload_n (i := 0) (pc := 39) dX9_move_39 rfl rfl ?_
        refine ph_getI (pc := 40) dX9_move_40 ph_fl_RX9_149 rfl (by decide) ?_
        refine ph_imul (pc := 43) dX9_move_43 ?_
        refine ph_iload_n (i := 1) (pc := 44) dX9_move_44 rfl rfl ?_
        refine ph_iast (pc := 45) dX9_move_45 rfl rfl (fun h11 => ?_)
        refine ph_aload_n (i := 0) (pc := 46) dX9_move_46 rfl rfl ?_
        refine ph_getR (j := 60) (pc := 47) dX9_move_47 ph_fl_RX9_34 rfl rfl rfl ?_
        refine ph_iconst (v := (nI 2)) (pc := 50) dX9_move_50 ph_ic_2 ?_
        refine ph_aload_n (i := 0) (pc := 51) dX9_move_51 rfl rfl ?_
        refine ph_getI (pc := 52) dX9_move_52 ph_fl_RX9_149 rfl (by decide) ?_
        refine ph_imul (pc := 55) dX9_move_55 ?_
        refine ph_iconst (v := (nI 1)) (pc := 56) dX9_move_56 ph_ic_1 ?_
        refine ph_iadd (pc := 57) dX9_move_57 ?_
        refine ph_iload_n (i := 2) (pc := 58) dX9_move_58 rfl rfl ?_
        refine ph_iast (pc := 59) dX9_move_59 rfl rfl (fun h12 => ?_)
        refine ph_aload_n (i := 0) (pc := 60) dX9_move_60 rfl rfl ?_
        refine ph_dup (pc := 61) dX9_move_61 rfl ?_
        refine ph_getI (pc := 62) dX9_move_62 ph_fl_RX9_149 rfl (by decide) ?_
        refine ph_iconst (v := (nI 1)) (pc := 65) dX9_move_65 ph_ic_1 ?_
        refine ph_iadd (pc := 66) dX9_move_66 ?_
        refine ph_putI (pc := 67) dX9_move_67 ph_pl_RX9_149 rfl (by decide) rfl rfl (fun h13 => ?_)
        refine ph_aload_n (i := 0) (pc := 70) dX9_move_70 rfl rfl ?_
        refine ph_getI (pc := 71) dX9_move_71 ph_fl_RX9_149 rfl (by decide) ?_
        exact ph_iret (pc := 74) dX9_move_74 rfl
      · refine ph_bipush (v := (-4)) (pc := 31) dX9_move_31 ph_bp_m4 ?_
        exact ph_iret (pc := 33) dX9_move_33 rfl
    · refine ph_bipush (v := (-2)) (pc := 19) dX9_move_19 ph_bp_m2 ?_
      exact ph_iret (pc := 21) dX9_move_21 rfl
def f_X9_cough (x1 : Int32) (x2 : Int32) (h : ph_Hp) : Option (Int32 × ph_Hp) :=
  ph_cl (f_X9_isStep x1 h) fun v4 h5 =>
  if v4 = nI 0 then
    some ((-2), h5)
  else
    ph_cl (f_X9_in x2.toInt64 (lN 0) (lN 8) h5) fun v7 h8 =>
    if v7 = nI 0 then
      some ((-2), h8)
    else
      if (h8.1 51 13) = (nI 12) then
        some ((-4), h8)
      else
        ph_stI h8 61 24 ((nI 2) * (h8.1 51 13)) x1 fun h11 =>
        ph_stI h11 61 24 (((nI 2) * (h11.1 51 13)) + (nI 1)) x2 fun h12 =>
        ph_pfI h12 51 13 ((h12.1 51 13) + (nI 1)) fun h13 =>
        some (h13.1 51 13, h13)
set_option maxRecDepth 100000 in
theorem c_X9_cough (Z : ph_L) (d : Nat) (hdd : 2 ≤ d) (x1 : Int32) (x2 : Int32) (h : ph_Hp) : ph_CM Z yX9_cough cX9_cough 3 (some .int) d [.ref (ph_a Z 51), .int x1, .int x2] ph_vi h (f_X9_cough x1 x2 h) := by
  refine ph_begin (own := RX9) ph_mf_yX9_cough rfl (ls := [some (.ref (ph_a Z 51)), some (.int x1), some (.int x2)]) rfl (Nat.le_of_ble_eq_true rfl) ?_
  unfold f_X9_cough
  refine ph_iload_n (i := 1) (pc := 0) dX9_cough_0 rfl rfl ?_
  refine ph_callSi (pc := 1) dX9_cough_1 ph_mf_yX9_isStep ph_ml_RX9_144 ph_ms_yX9_isStep (c_X9_isStep Z (d - 1) (by omega) x1 h) (by omega) rfl rfl (Nat.le_of_ble_eq_true rfl) (fun v4 h5 => ?_)
  refine ph_if_eq (tgt := 19) (pc := 4) dX9_cough_4 (by decide) (fun c6 => ?_) (fun c6 => ?_)
  · refine ph_bipush (v := (-2)) (pc := 19) dX9_cough_19 ph_bp_m2 ?_
    exact ph_iret (pc := 21) dX9_cough_21 rfl
  · refine ph_iload_n (i := 2) (pc := 7) dX9_cough_7 rfl rfl ?_
    refine ph_i2l (pc := 8) dX9_cough_8 ?_
    refine ph_lconst (v := (lN 0)) (pc := 9) dX9_cough_9 rfl ?_
    refine ph_ldc2 (v := (lN 8)) (pc := 10) dX9_cough_10 ph_k_RX9_152 ?_
    refine ph_callSi (pc := 13) dX9_cough_13 ph_mf_yX9_in ph_ml_RX9_70 ph_ms_yX9_in (c_X9_in Z (d - 1) (by omega) x2.toInt64 (lN 0) (lN 8) h5) (by omega) rfl rfl (Nat.le_of_ble_eq_true rfl) (fun v7 h8 => ?_)
    refine ph_if_ne (tgt := 22) (pc := 16) dX9_cough_16 (by decide) (fun c9 => ?_) (fun c9 => ?_)
    · refine ph_aload_n (i := 0) (pc := 22) dX9_cough_22 rfl rfl ?_
      refine ph_getI (pc := 23) dX9_cough_23 ph_fl_RX9_154 rfl (by decide) ?_
      refine ph_bipush (v := (nI 12)) (pc := 26) dX9_cough_26 ph_bp_12 ?_
      refine ph_icmp_ne (tgt := 34) (pc := 28) dX9_cough_28 (by decide) (fun c10 => ?_) (fun c10 => ?_)
      · refine ph_aload_n (i := 0) (pc := 34) dX9_cough_34 rfl rfl ?_
        refine ph_getR (j := 61) (pc := 35) dX9_cough_35 ph_fl_RX9_37 rfl rfl rfl ?_
        refine ph_iconst (v := (nI 2)) (pc := 38) dX9_cough_38 ph_ic_2 ?_
        refine ph_aload_n (i := 0) (pc := 39) dX9_cough_39 rfl rfl ?_
        refine ph_getI (pc := 40) dX9_cough_40 ph_fl_RX9_154 rfl (by decide) ?_
        refine ph_imul (pc := 43) dX9_cough_43 ?_
        refine ph_iload_n (i := 1) (pc := 44) dX9_cough_44 rfl rfl ?_
        refine ph_iast (pc := 45) dX9_cough_45 rfl rfl (fun h11 => ?_)
        refine ph_aload_n (i := 0) (pc := 46) dX9_cough_46 rfl rfl ?_
        refine ph_getR (j := 61) (pc := 47) dX9_cough_47 ph_fl_RX9_37 rfl rfl rfl ?_
        refine ph_iconst (v := (nI 2)) (pc := 50) dX9_cough_50 ph_ic_2 ?_
        refine ph_aload_n (i := 0) (pc := 51) dX9_cough_51 rfl rfl ?_
        refine ph_getI (pc := 52) dX9_cough_52 ph_fl_RX9_154 rfl (by decide) ?_
        refine ph_imul (pc := 55) dX9_cough_55 ?_
        refine ph_iconst (v := (nI 1)) (pc := 56) dX9_cough_56 ph_ic_1 ?_
        refine ph_iadd (pc := 57) dX9_cough_57 ?_
        refine ph_iload_n (i := 2) (pc := 58) dX9_cough_58 rfl rfl ?_
        refine ph_iast (pc := 59) dX9_cough_59 rfl rfl (fun h12 => ?_)
        refine ph_aload_n (i := 0) (pc := 60) dX9_cough_60 rfl rfl ?_
        refine ph_dup (pc := 61) dX9_cough_61 rfl ?_
        refine ph_getI (pc := 62) dX9_cough_62 ph_fl_RX9_154 rfl (by decide) ?_
        refine ph_iconst (v := (nI 1)) (pc := 65) dX9_cough_65 ph_ic_1 ?_
        refine ph_iadd (pc := 66) dX9_cough_66 ?_
        refine ph_putI (pc := 67) dX9_cough_67 ph_pl_RX9_154 rfl (by decide) rfl rfl (fun h13 => ?_)
        refine ph_aload_n (i := 0) (pc := 70) dX9_cough_70 rfl rfl ?_
        refine ph_getI (pc := 71) dX9_cough_71 ph_fl_RX9_154 rfl (by decide) ?_
        exact ph_iret (pc := 74) dX9_cough_74 rfl
      · refine ph_bipush (v := (-4)) (pc := 31) dX9_cough_31 ph_bp_m4 ?_
        exact ph_iret (pc := 33) dX9_cough_33 rfl
    · refine ph_bipush (v := (-2)) (pc := 19) dX9_cough_19 ph_bp_m2 ?_
      exact ph_iret (pc := 21) dX9_cough_21 rfl
def f_X9_dark (x1 : Int32) (h : ph_Hp) : Option (Int32 × ph_Hp) :=
  ph_cl (f_X9_isStep x1 h) fun v3 h4 =>
  if v3 = nI 0 then
    some ((-2), h4)
  else
    if (h4.1 51 15) = (nI 6) then
      some ((-4), h4)
    else
      ph_stI h4 62 6 (h4.1 51 15) x1 fun h7 =>
      ph_pfI h7 51 15 ((h7.1 51 15) + (nI 1)) fun h8 =>
      some (h8.1 51 15, h8)
set_option maxRecDepth 100000 in
theorem c_X9_dark (Z : ph_L) (d : Nat) (hdd : 2 ≤ d) (x1 : Int32) (h : ph_Hp) : ph_CM Z yX9_dark cX9_dark 2 (some .int) d [.ref (ph_a Z 51), .int x1] ph_vi h (f_X9_dark x1 h) := by
  refine ph_begin (own := RX9) ph_mf_yX9_dark rfl (ls := [some (.ref (ph_a Z 51)), some (.int x1)]) rfl (Nat.le_of_ble_eq_true rfl) ?_
  unfold f_X9_dark
  refine ph_iload_n (i := 1) (pc := 0) dX9_dark_0 rfl rfl ?_
  refine ph_callSi (pc := 1) dX9_dark_1 ph_mf_yX9_isStep ph_ml_RX9_144 ph_ms_yX9_isStep (c_X9_isStep Z (d - 1) (by omega) x1 h) (by omega) rfl rfl (Nat.le_of_ble_eq_true rfl) (fun v3 h4 => ?_)
  refine ph_if_ne (tgt := 10) (pc := 4) dX9_dark_4 (by decide) (fun c5 => ?_) (fun c5 => ?_)
  · refine ph_aload_n (i := 0) (pc := 10) dX9_dark_10 rfl rfl ?_
    refine ph_getI (pc := 11) dX9_dark_11 ph_fl_RX9_157 rfl (by decide) ?_
    refine ph_bipush (v := (nI 6)) (pc := 14) dX9_dark_14 ph_bp_6 ?_
    refine ph_icmp_ne (tgt := 22) (pc := 16) dX9_dark_16 (by decide) (fun c6 => ?_) (fun c6 => ?_)
    · refine ph_aload_n (i := 0) (pc := 22) dX9_dark_22 rfl rfl ?_
      refine ph_getR (j := 62) (pc := 23) dX9_dark_23 ph_fl_RX9_40 rfl rfl rfl ?_
      refine ph_aload_n (i := 0) (pc := 26) dX9_dark_26 rfl rfl ?_
      refine ph_getI (pc := 27) dX9_dark_27 ph_fl_RX9_157 rfl (by decide) ?_
      refine ph_iload_n (i := 1) (pc := 30) dX9_dark_30 rfl rfl ?_
      refine ph_iast (pc := 31) dX9_dark_31 rfl rfl (fun h7 => ?_)
      refine ph_aload_n (i := 0) (pc := 32) dX9_dark_32 rfl rfl ?_
      refine ph_dup (pc := 33) dX9_dark_33 rfl ?_
      refine ph_getI (pc := 34) dX9_dark_34 ph_fl_RX9_157 rfl (by decide) ?_
      refine ph_iconst (v := (nI 1)) (pc := 37) dX9_dark_37 ph_ic_1 ?_
      refine ph_iadd (pc := 38) dX9_dark_38 ?_
      refine ph_putI (pc := 39) dX9_dark_39 ph_pl_RX9_157 rfl (by decide) rfl rfl (fun h8 => ?_)
      refine ph_aload_n (i := 0) (pc := 42) dX9_dark_42 rfl rfl ?_
      refine ph_getI (pc := 43) dX9_dark_43 ph_fl_RX9_157 rfl (by decide) ?_
      exact ph_iret (pc := 46) dX9_dark_46 rfl
    · refine ph_bipush (v := (-4)) (pc := 19) dX9_dark_19 ph_bp_m4 ?_
      exact ph_iret (pc := 21) dX9_dark_21 rfl
  · refine ph_bipush (v := (-2)) (pc := 7) dX9_dark_7 ph_bp_m2 ?_
    exact ph_iret (pc := 9) dX9_dark_9 rfl
def f_X9_back (x1 : Int32) (h : ph_Hp) : Option (Int32 × ph_Hp) :=
  ph_cl (f_X9_in x1.toInt64 (lN 0) (lN 2) h) fun v3 h4 =>
  if v3 = nI 0 then
    some ((-2), h4)
  else
    ph_jn (α := Int32) (fun x7 =>
      if x7 = nI 0 then
        some ((-3), h4)
      else
        ph_jn (α := Int32) (fun x10 =>
          ph_pfI h4 51 11 ((h4.1 51 11) - x10) fun h11 =>
          ph_jn (α := Int32) (fun x13 =>
            ph_pfI h11 51 13 ((h11.1 51 13) - x13) fun h14 =>
            ph_jn (α := Int32) (fun x16 =>
              ph_pfI h14 51 15 ((h14.1 51 15) - x16) fun h17 =>
              some (x7 - (nI 1), h17)) (fun j15 =>
              if x1 = (nI 2) then
                j15 (nI 1)
              else
                j15 (nI 0))) (fun j12 =>
            if x1 = (nI 1) then
              j12 (nI 1)
            else
              j12 (nI 0))) (fun j9 =>
          if x1 = nI 0 then
            j9 (nI 1)
          else
            j9 (nI 0))) (fun j6 =>
      if x1 = nI 0 then
        j6 (h4.1 51 11)
      else
        if x1 = (nI 1) then
          j6 (h4.1 51 13)
        else
          j6 (h4.1 51 15))
set_option maxRecDepth 100000 in
theorem c_X9_back (Z : ph_L) (d : Nat) (hdd : 1 ≤ d) (x1 : Int32) (h : ph_Hp) : ph_CM Z yX9_back cX9_back 3 (some .int) d [.ref (ph_a Z 51), .int x1] ph_vi h (f_X9_back x1 h) := by
  refine ph_begin (own := RX9) ph_mf_yX9_back rfl (ls := [some (.ref (ph_a Z 51)), some (.int x1), none]) rfl (Nat.le_of_ble_eq_true rfl) ?_
  unfold f_X9_back
  refine ph_iload_n (i := 1) (pc := 0) dX9_back_0 rfl rfl ?_
  refine ph_i2l (pc := 1) dX9_back_1 ?_
  refine ph_lconst (v := (lN 0)) (pc := 2) dX9_back_2 rfl ?_
  refine ph_ldc2 (v := (lN 2)) (pc := 3) dX9_back_3 ph_k_RX9_83 ?_
  refine ph_callSi (pc := 6) dX9_back_6 ph_mf_yX9_in ph_ml_RX9_70 ph_ms_yX9_in (c_X9_in Z (d - 1) (by omega) x1.toInt64 (lN 0) (lN 2) h) (by omega) rfl rfl (Nat.le_of_ble_eq_true rfl) (fun v3 h4 => ?_)
  refine ph_if_ne (tgt := 15) (pc := 9) dX9_back_9 (by decide) (fun c5 => ?_) (fun c5 => ?_)
  · refine ph_iload_n (i := 1) (pc := 15) dX9_back_15 rfl rfl ?_
    refine ph_join (α := Int32) 42 (fun x => [some (.ref (ph_a Z 51)), some (.int x1), none]) (fun x => [.int x]) (fun x => h4) (fun x => ?_) (fun j6 hj6 => ?_)
    · revert x; intro x7
      refine ph_istore_n (i := 2) (ls1 := [some (.ref (ph_a Z 51)), some (.int x1), some (.int x7)]) (pc := 42) dX9_back_42 rfl (by decide) rfl ?_
      refine ph_iload_n (i := 2) (pc := 43) dX9_back_43 rfl rfl ?_
      refine ph_if_ne (tgt := 50) (pc := 44) dX9_back_44 (by decide) (fun c8 => ?_) (fun c8 => ?_)
      · refine ph_aload_n (i := 0) (pc := 50) dX9_back_50 rfl rfl ?_
        refine ph_dup (pc := 51) dX9_back_51 rfl ?_
        refine ph_getI (pc := 52) dX9_back_52 ph_fl_RX9_149 rfl (by decide) ?_
        refine ph_iload_n (i := 1) (pc := 55) dX9_back_55 rfl rfl ?_
        refine ph_join (α := Int32) 64 (fun x => [some (.ref (ph_a Z 51)), some (.int x1), some (.int x7)]) (fun x => [.int x, .int (h4.1 51 11), .ref (ph_a Z 51)]) (fun x => h4) (fun x => ?_) (fun j9 hj9 => ?_)
        · revert x; intro x10
          refine ph_isub (pc := 64) dX9_back_64 ?_
          refine ph_putI (pc := 65) dX9_back_65 ph_pl_RX9_149 rfl (by decide) rfl rfl (fun h11 => ?_)
          refine ph_aload_n (i := 0) (pc := 68) dX9_back_68 rfl rfl ?_
          refine ph_dup (pc := 69) dX9_back_69 rfl ?_
          refine ph_getI (pc := 70) dX9_back_70 ph_fl_RX9_154 rfl (by decide) ?_
          refine ph_iload_n (i := 1) (pc := 73) dX9_back_73 rfl rfl ?_
          refine ph_iconst (v := (nI 1)) (pc := 74) dX9_back_74 ph_ic_1 ?_
          refine ph_join (α := Int32) 83 (fun x => [some (.ref (ph_a Z 51)), some (.int x1), some (.int x7)]) (fun x => [.int x, .int (h11.1 51 13), .ref (ph_a Z 51)]) (fun x => h11) (fun x => ?_) (fun j12 hj12 => ?_)
          · revert x; intro x13
            refine ph_isub (pc := 83) dX9_back_83 ?_
            refine ph_putI (pc := 84) dX9_back_84 ph_pl_RX9_154 rfl (by decide) rfl rfl (fun h14 => ?_)
            refine ph_aload_n (i := 0) (pc := 87) dX9_back_87 rfl rfl ?_
            refine ph_dup (pc := 88) dX9_back_88 rfl ?_
            refine ph_getI (pc := 89) dX9_back_89 ph_fl_RX9_157 rfl (by decide) ?_
            refine ph_iload_n (i := 1) (pc := 92) dX9_back_92 rfl rfl ?_
            refine ph_iconst (v := (nI 2)) (pc := 93) dX9_back_93 ph_ic_2 ?_
            refine ph_join (α := Int32) 102 (fun x => [none, none, some (.int x7)]) (fun x => [.int x, .int (h14.1 51 15), .ref (ph_a Z 51)]) (fun x => h14) (fun x => ?_) (fun j15 hj15 => ?_)
            · revert x; intro x16
              refine ph_isub (pc := 102) dX9_back_102 ?_
              refine ph_putI (pc := 103) dX9_back_103 ph_pl_RX9_157 rfl (by decide) rfl rfl (fun h17 => ?_)
              refine ph_iload_n (i := 2) (pc := 106) dX9_back_106 rfl rfl ?_
              refine ph_iconst (v := (nI 1)) (pc := 107) dX9_back_107 ph_ic_1 ?_
              refine ph_isub (pc := 108) dX9_back_108 ?_
              exact ph_iret (pc := 109) dX9_back_109 rfl
            · refine ph_icmp_ne (tgt := 101) (pc := 94) dX9_back_94 (by decide) (fun c18 => ?_) (fun c18 => ?_)
              · refine ph_iconst (v := (nI 0)) (pc := 101) dX9_back_101 ph_ic_0 ?_
                refine ph_wk (ls1 := [none, none, some (.int x7)]) ⟨rfl, trivial⟩ ?_
                exact hj15 (nI 0)
              · refine ph_iconst (v := (nI 1)) (pc := 97) dX9_back_97 ph_ic_1 ?_
                refine ph_goto (tgt := 102) (pc := 98) dX9_back_98 (by decide) ?_
                refine ph_wk (ls1 := [none, none, some (.int x7)]) ⟨rfl, trivial⟩ ?_
                exact hj15 (nI 1)
          · refine ph_icmp_ne (tgt := 82) (pc := 75) dX9_back_75 (by decide) (fun c19 => ?_) (fun c19 => ?_)
            · refine ph_iconst (v := (nI 0)) (pc := 82) dX9_back_82 ph_ic_0 ?_
              exact hj12 (nI 0)
            · refine ph_iconst (v := (nI 1)) (pc := 78) dX9_back_78 ph_ic_1 ?_
              refine ph_goto (tgt := 83) (pc := 79) dX9_back_79 (by decide) ?_
              exact hj12 (nI 1)
        · refine ph_if_ne (tgt := 63) (pc := 56) dX9_back_56 (by decide) (fun c20 => ?_) (fun c20 => ?_)
          · refine ph_iconst (v := (nI 0)) (pc := 63) dX9_back_63 ph_ic_0 ?_
            exact hj9 (nI 0)
          · refine ph_iconst (v := (nI 1)) (pc := 59) dX9_back_59 ph_ic_1 ?_
            refine ph_goto (tgt := 64) (pc := 60) dX9_back_60 (by decide) ?_
            exact hj9 (nI 1)
      · refine ph_bipush (v := (-3)) (pc := 47) dX9_back_47 ph_bp_m3 ?_
        exact ph_iret (pc := 49) dX9_back_49 rfl
    · refine ph_if_ne (tgt := 26) (pc := 16) dX9_back_16 (by decide) (fun c21 => ?_) (fun c21 => ?_)
      · refine ph_iload_n (i := 1) (pc := 26) dX9_back_26 rfl rfl ?_
        refine ph_iconst (v := (nI 1)) (pc := 27) dX9_back_27 ph_ic_1 ?_
        refine ph_icmp_ne (tgt := 38) (pc := 28) dX9_back_28 (by decide) (fun c22 => ?_) (fun c22 => ?_)
        · refine ph_aload_n (i := 0) (pc := 38) dX9_back_38 rfl rfl ?_
          refine ph_getI (pc := 39) dX9_back_39 ph_fl_RX9_157 rfl (by decide) ?_
          exact hj6 (h4.1 51 15)
        · refine ph_aload_n (i := 0) (pc := 31) dX9_back_31 rfl rfl ?_
          refine ph_getI (pc := 32) dX9_back_32 ph_fl_RX9_154 rfl (by decide) ?_
          refine ph_goto (tgt := 42) (pc := 35) dX9_back_35 (by decide) ?_
          exact hj6 (h4.1 51 13)
      · refine ph_aload_n (i := 0) (pc := 19) dX9_back_19 rfl rfl ?_
        refine ph_getI (pc := 20) dX9_back_20 ph_fl_RX9_149 rfl (by decide) ?_
        refine ph_goto (tgt := 42) (pc := 23) dX9_back_23 (by decide) ?_
        exact hj6 (h4.1 51 11)
  · refine ph_bipush (v := (-2)) (pc := 12) dX9_back_12 ph_bp_m2 ?_
    exact ph_iret (pc := 14) dX9_back_14 rfl
def f_X9_read (x1 : Int32) (h : ph_Hp) : Option (Int32 × ph_Hp) :=
  ph_cl (f_X9_isSheet x1 h) fun v3 h4 =>
  if v3 = nI 0 then
    some ((-2), h4)
  else
    ph_ldI h4 52 4 x1 fun v6 =>
    if nI 0 ≤ v6 then
      ph_lp (α := Int32 × Int32 × ph_Hp) (fun j8 (x9, x10, h11) =>
        if x10 = nI 0 then
          some (x9, h11)
        else
          ph_ldI h11 53 4 x1 fun v13 =>
          if v13 < (((nI 2) * x9) + (nI 2)) then
            some (x9, h11)
          else
            ph_ldI h11 54 240 (((nI 60) * x1) + ((nI 2) * x9)) fun v15 =>
            ph_ldI h11 54 240 ((((nI 60) * x1) + ((nI 2) * x9)) + (nI 1)) fun v16 =>
            ph_cl (f_X9_move v15 v16 h11) fun v17 h18 =>
            ph_jn (α := Int32) (fun x20 =>
              ph_jn (α := Int32) (fun x22 =>
                j8 (x9 + x22, x20, h18)) (fun j21 =>
                if x20 = nI 0 then
                  j21 (nI 0)
                else
                  j21 (nI 1))) (fun j19 =>
              if v17 < nI 0 then
                j19 (nI 0)
              else
                j19 (nI 1))) ph_fu ((nI 0), (nI 1), h4)
    else
      ph_cl (f_X9_finds (nI 1) h4) fun v25 h26 =>
      some (v25, h26)
set_option maxRecDepth 100000 in
theorem c_X9_read (Z : ph_L) (d : Nat) (hdd : 3 ≤ d) (x1 : Int32) (h : ph_Hp) : ph_CM Z yX9_read cX9_read 4 (some .int) d [.ref (ph_a Z 51), .int x1] ph_vi h (f_X9_read x1 h) := by
  refine ph_begin (own := RX9) ph_mf_yX9_read rfl (ls := [some (.ref (ph_a Z 51)), some (.int x1), none, none]) rfl (Nat.le_of_ble_eq_true rfl) ?_
  unfold f_X9_read
  refine ph_iload_n (i := 1) (pc := 0) dX9_read_0 rfl rfl ?_
  refine ph_callSi (pc := 1) dX9_read_1 ph_mf_yX9_isSheet ph_ml_RX9_79 ph_ms_yX9_isSheet (c_X9_isSheet Z (d - 1) (by omega) x1 h) (by omega) rfl rfl (Nat.le_of_ble_eq_true rfl) (fun v3 h4 => ?_)
  refine ph_if_ne (tgt := 10) (pc := 4) dX9_read_4 (by decide) (fun c5 => ?_) (fun c5 => ?_)
  · refine ph_aload_n (i := 0) (pc := 10) dX9_read_10 rfl rfl ?_
    refine ph_getR (j := 52) (pc := 11) dX9_read_11 ph_fl_RX9_7 rfl rfl rfl ?_
    refine ph_iload_n (i := 1) (pc := 14) dX9_read_14 rfl rfl ?_
    refine ph_iald (pc := 15) dX9_read_15 rfl rfl (fun v6 => ?_)
    refine ph_if_ge (tgt := 25) (pc := 16) dX9_read_16 (by decide) (fun c7 => ?_) (fun c7 => ?_)
    · refine ph_iconst (v := (nI 0)) (pc := 25) dX9_read_25 ph_ic_0 ?_
      refine ph_istore_n (i := 2) (ls1 := [some (.ref (ph_a Z 51)), some (.int x1), some (.int (nI 0)), none]) (pc := 26) dX9_read_26 rfl (by decide) rfl ?_
      refine ph_iconst (v := (nI 1)) (pc := 27) dX9_read_27 ph_ic_1 ?_
      refine ph_istore_n (i := 3) (ls1 := [some (.ref (ph_a Z 51)), some (.int x1), some (.int (nI 0)), some (.int (nI 1))]) (pc := 28) dX9_read_28 rfl (by decide) rfl ?_
      refine ph_loop (α := Int32 × Int32 × ph_Hp) 29 (fun x => [some (.ref (ph_a Z 51)), some (.int x1), some (.int x.1), some (.int x.2.1)]) (fun x => []) (fun x => x.2.2) (fun j8 hj8 x => ?_) ph_fu ((nI 0), (nI 1), h4)
      obtain ⟨x9, x10, h11⟩ := x
      dsimp only
      refine ph_iload_n (i := 3) (pc := 29) dX9_read_29 rfl rfl ?_
      refine ph_if_eq (tgt := 103) (pc := 30) dX9_read_30 (by decide) (fun c12 => ?_) (fun c12 => ?_)
      · refine ph_iload_n (i := 2) (pc := 103) dX9_read_103 rfl rfl ?_
        exact ph_iret (pc := 104) dX9_read_104 rfl
      · refine ph_iconst (v := (nI 2)) (pc := 33) dX9_read_33 ph_ic_2 ?_
        refine ph_iload_n (i := 2) (pc := 34) dX9_read_34 rfl rfl ?_
        refine ph_imul (pc := 35) dX9_read_35 ?_
        refine ph_iconst (v := (nI 2)) (pc := 36) dX9_read_36 ph_ic_2 ?_
        refine ph_iadd (pc := 37) dX9_read_37 ?_
        refine ph_aload_n (i := 0) (pc := 38) dX9_read_38 rfl rfl ?_
        refine ph_getR (j := 53) (pc := 39) dX9_read_39 ph_fl_RX9_13 rfl rfl rfl ?_
        refine ph_iload_n (i := 1) (pc := 42) dX9_read_42 rfl rfl ?_
        refine ph_iald (pc := 43) dX9_read_43 rfl rfl (fun v13 => ?_)
        refine ph_icmp_gt (tgt := 103) (pc := 44) dX9_read_44 (by decide) (fun c14 => ?_) (fun c14 => ?_)
        · refine ph_iload_n (i := 2) (pc := 103) dX9_read_103 rfl rfl ?_
          exact ph_iret (pc := 104) dX9_read_104 rfl
        · refine ph_aload_n (i := 0) (pc := 47) dX9_read_47 rfl rfl ?_
          refine ph_aload_n (i := 0) (pc := 48) dX9_read_48 rfl rfl ?_
          refine ph_getR (j := 54) (pc := 49) dX9_read_49 ph_fl_RX9_16 rfl rfl rfl ?_
          refine ph_bipush (v := (nI 60)) (pc := 52) dX9_read_52 ph_bp_60 ?_
          refine ph_iload_n (i := 1) (pc := 54) dX9_read_54 rfl rfl ?_
          refine ph_imul (pc := 55) dX9_read_55 ?_
          refine ph_iconst (v := (nI 2)) (pc := 56) dX9_read_56 ph_ic_2 ?_
          refine ph_iload_n (i := 2) (pc := 57) dX9_read_57 rfl rfl ?_
          refine ph_imul (pc := 58) dX9_read_58 ?_
          refine ph_iadd (pc := 59) dX9_read_59 ?_
          refine ph_iald (pc := 60) dX9_read_60 rfl rfl (fun v15 => ?_)
          refine ph_aload_n (i := 0) (pc := 61) dX9_read_61 rfl rfl ?_
          refine ph_getR (j := 54) (pc := 62) dX9_read_62 ph_fl_RX9_16 rfl rfl rfl ?_
          refine ph_bipush (v := (nI 60)) (pc := 65) dX9_read_65 ph_bp_60 ?_
          refine ph_iload_n (i := 1) (pc := 67) dX9_read_67 rfl rfl ?_
          refine ph_imul (pc := 68) dX9_read_68 ?_
          refine ph_iconst (v := (nI 2)) (pc := 69) dX9_read_69 ph_ic_2 ?_
          refine ph_iload_n (i := 2) (pc := 70) dX9_read_70 rfl rfl ?_
          refine ph_imul (pc := 71) dX9_read_71 ?_
          refine ph_iadd (pc := 72) dX9_read_72 ?_
          refine ph_iconst (v := (nI 1)) (pc := 73) dX9_read_73 ph_ic_1 ?_
          refine ph_iadd (pc := 74) dX9_read_74 ?_
          refine ph_iald (pc := 75) dX9_read_75 rfl rfl (fun v16 => ?_)
          refine ph_callVi (pc := 76) dX9_read_76 ph_mf_yX9_move ph_ml_RX9_160 ph_mi_yX9_move ph_mv_yX9_move rfl rfl (c_X9_move Z (d - 1) (by omega) v15 v16 h11) (by omega) rfl rfl (Nat.le_of_ble_eq_true rfl) (fun v17 h18 => ?_)
          refine ph_join (α := Int32) 87 (fun x => [some (.ref (ph_a Z 51)), some (.int x1), some (.int x9), none]) (fun x => [.int x]) (fun x => h18) (fun x => ?_) (fun j19 hj19 => ?_)
          · revert x; intro x20
            refine ph_istore_n (i := 3) (ls1 := [some (.ref (ph_a Z 51)), some (.int x1), some (.int x9), some (.int x20)]) (pc := 87) dX9_read_87 rfl (by decide) rfl ?_
            refine ph_iload_n (i := 2) (pc := 88) dX9_read_88 rfl rfl ?_
            refine ph_iload_n (i := 3) (pc := 89) dX9_read_89 rfl rfl ?_
            refine ph_join (α := Int32) 98 (fun x => [some (.ref (ph_a Z 51)), some (.int x1), none, some (.int x20)]) (fun x => [.int x, .int x9]) (fun x => h18) (fun x => ?_) (fun j21 hj21 => ?_)
            · revert x; intro x22
              refine ph_iadd (pc := 98) dX9_read_98 ?_
              refine ph_istore_n (i := 2) (ls1 := [some (.ref (ph_a Z 51)), some (.int x1), some (.int (x9 + x22)), some (.int x20)]) (pc := 99) dX9_read_99 rfl (by decide) rfl ?_
              refine ph_goto (tgt := 29) (pc := 100) dX9_read_100 (by decide) ?_
              exact hj8 (x9 + x22, x20, h18)
            · refine ph_if_eq (tgt := 97) (pc := 90) dX9_read_90 (by decide) (fun c23 => ?_) (fun c23 => ?_)
              · refine ph_iconst (v := (nI 0)) (pc := 97) dX9_read_97 ph_ic_0 ?_
                refine ph_wk (ls1 := [some (.ref (ph_a Z 51)), some (.int x1), none, some (.int x20)]) ⟨rfl, ⟨rfl, ⟨rfl, trivial⟩⟩⟩ ?_
                exact hj21 (nI 0)
              · refine ph_iconst (v := (nI 1)) (pc := 93) dX9_read_93 ph_ic_1 ?_
                refine ph_goto (tgt := 98) (pc := 94) dX9_read_94 (by decide) ?_
                refine ph_wk (ls1 := [some (.ref (ph_a Z 51)), some (.int x1), none, some (.int x20)]) ⟨rfl, ⟨rfl, ⟨rfl, trivial⟩⟩⟩ ?_
                exact hj21 (nI 1)
          · refine ph_if_lt (tgt := 86) (pc := 79) dX9_read_79 (by decide) (fun c24 => ?_) (fun c24 => ?_)
            · refine ph_iconst (v := (nI 0)) (pc := 86) dX9_read_86 ph_ic_0 ?_
              refine ph_wk (ls1 := [some (.ref (ph_a Z 51)), some (.int x1), some (.int x9), none]) ⟨rfl, ⟨rfl, ⟨rfl, trivial⟩⟩⟩ ?_
              exact hj19 (nI 0)
            · refine ph_iconst (v := (nI 1)) (pc := 82) dX9_read_82 ph_ic_1 ?_
              refine ph_goto (tgt := 87) (pc := 83) dX9_read_83 (by decide) ?_
              refine ph_wk (ls1 := [some (.ref (ph_a Z 51)), some (.int x1), some (.int x9), none]) ⟨rfl, ⟨rfl, ⟨rfl, trivial⟩⟩⟩ ?_
              exact hj19 (nI 1)
    · refine ph_aload_n (i := 0) (pc := 19) dX9_read_19 rfl rfl ?_
      refine ph_iconst (v := (nI 1)) (pc := 20) dX9_read_20 ph_ic_1 ?_
      refine ph_callVi (pc := 21) dX9_read_21 ph_mf_yX9_finds ph_ml_RX9_85 ph_mi_yX9_finds ph_mv_yX9_finds rfl rfl (c_X9_finds Z (d - 1) (by omega) (nI 1) h4) (by omega) rfl rfl (Nat.le_of_ble_eq_true rfl) (fun v25 h26 => ?_)
      exact ph_iret (pc := 24) dX9_read_24 rfl
  · refine ph_bipush (v := (-2)) (pc := 7) dX9_read_7 ph_bp_m2 ?_
    exact ph_iret (pc := 9) dX9_read_9 rfl
def f_X9_isDark (x1 : Int32) (h : ph_Hp) : Option (Int32 × ph_Hp) :=
  ph_jn (α := Int32) (fun x4 =>
    ph_lp (α := Int32 × Int32) (fun j5 (x6, x7) =>
      if (h.1 51 15) ≤ x7 then
        ph_rz x6 h
      else
        ph_jn (α := Int32) (fun x10 =>
          j5 (x10, x7 + (nI 1))) (fun j9 =>
          ph_jn (α := Unit) (fun _x =>
            j9 (nI 1)) (fun j11 =>
            if x6 = nI 0 then
              ph_ldI h 62 6 x7 fun v13 =>
              if v13 = x1 then
                j11 ()
              else
                j9 (nI 0)
            else
              j11 ()))) ph_fu (x4, (nI 0))) (fun j3 =>
    if x1 = nI 0 then
      j3 (nI 1)
    else
      j3 (nI 0))
set_option maxRecDepth 100000 in
theorem c_X9_isDark (Z : ph_L) (d : Nat) (hdd : 0 ≤ d) (x1 : Int32) (h : ph_Hp) : ph_CM Z yX9_isDark cX9_isDark 4 (some .boolean) d [.ref (ph_a Z 51), .int x1] ph_vi h (f_X9_isDark x1 h) := by
  refine ph_begin (own := RX9) ph_mf_yX9_isDark rfl (ls := [some (.ref (ph_a Z 51)), some (.int x1), none, none]) rfl (Nat.le_of_ble_eq_true rfl) ?_
  unfold f_X9_isDark
  refine ph_iload_n (i := 1) (pc := 0) dX9_isDark_0 rfl rfl ?_
  refine ph_join (α := Int32) 9 (fun x => [some (.ref (ph_a Z 51)), some (.int x1), none, none]) (fun x => [.int x]) (fun x => h) (fun x => ?_) (fun j3 hj3 => ?_)
  · revert x; intro x4
    refine ph_istore_n (i := 2) (ls1 := [some (.ref (ph_a Z 51)), some (.int x1), some (.int x4), none]) (pc := 9) dX9_isDark_9 rfl (by decide) rfl ?_
    refine ph_iconst (v := (nI 0)) (pc := 10) dX9_isDark_10 ph_ic_0 ?_
    refine ph_istore_n (i := 3) (ls1 := [some (.ref (ph_a Z 51)), some (.int x1), some (.int x4), some (.int (nI 0))]) (pc := 11) dX9_isDark_11 rfl (by decide) rfl ?_
    refine ph_loop (α := Int32 × Int32) 12 (fun x => [some (.ref (ph_a Z 51)), some (.int x1), some (.int x.1), some (.int x.2)]) (fun x => []) (fun x => h) (fun j5 hj5 x => ?_) ph_fu (x4, (nI 0))
    obtain ⟨x6, x7⟩ := x
    dsimp only
    refine ph_iload_n (i := 3) (pc := 12) dX9_isDark_12 rfl rfl ?_
    refine ph_aload_n (i := 0) (pc := 13) dX9_isDark_13 rfl rfl ?_
    refine ph_getI (pc := 14) dX9_isDark_14 ph_fl_RX9_157 rfl (by decide) ?_
    refine ph_icmp_ge (tgt := 46) (pc := 17) dX9_isDark_17 (by decide) (fun c8 => ?_) (fun c8 => ?_)
    · refine ph_iload_n (i := 2) (pc := 46) dX9_isDark_46 rfl rfl ?_
      exact ph_zret (pc := 47) dX9_isDark_47 rfl
    · refine ph_iload_n (i := 2) (pc := 20) dX9_isDark_20 rfl rfl ?_
      refine ph_join (α := Int32) 39 (fun x => [some (.ref (ph_a Z 51)), some (.int x1), none, some (.int x7)]) (fun x => [.int x]) (fun x => h) (fun x => ?_) (fun j9 hj9 => ?_)
      · revert x; intro x10
        refine ph_istore_n (i := 2) (ls1 := [some (.ref (ph_a Z 51)), some (.int x1), some (.int x10), some (.int x7)]) (pc := 39) dX9_isDark_39 rfl (by decide) rfl ?_
        refine ph_iinc (i := 3) (v := (nI 1)) (ls1 := [some (.ref (ph_a Z 51)), some (.int x1), some (.int x10), some (.int (x7 + (nI 1)))]) (pc := 40) dX9_isDark_40 rfl ph_ic_1 (by decide) rfl ?_
        refine ph_goto (tgt := 12) (pc := 43) dX9_isDark_43 (by decide) ?_
        exact hj5 (x10, x7 + (nI 1))
      · refine ph_join (α := Unit) 34 (fun x => [some (.ref (ph_a Z 51)), some (.int x1), none, some (.int x7)]) (fun x => []) (fun x => h) (fun x => ?_) (fun j11 hj11 => ?_)
        · refine ph_iconst (v := (nI 1)) (pc := 34) dX9_isDark_34 ph_ic_1 ?_
          refine ph_goto (tgt := 39) (pc := 35) dX9_isDark_35 (by decide) ?_
          exact hj9 (nI 1)
        · refine ph_if_ne (tgt := 34) (pc := 21) dX9_isDark_21 (by decide) (fun c12 => ?_) (fun c12 => ?_)
          · refine ph_wk (ls1 := [some (.ref (ph_a Z 51)), some (.int x1), none, some (.int x7)]) ⟨rfl, ⟨rfl, ⟨rfl, trivial⟩⟩⟩ ?_
            exact hj11 ()
          · refine ph_aload_n (i := 0) (pc := 24) dX9_isDark_24 rfl rfl ?_
            refine ph_getR (j := 62) (pc := 25) dX9_isDark_25 ph_fl_RX9_40 rfl rfl rfl ?_
            refine ph_iload_n (i := 3) (pc := 28) dX9_isDark_28 rfl rfl ?_
            refine ph_iald (pc := 29) dX9_isDark_29 rfl rfl (fun v13 => ?_)
            refine ph_iload_n (i := 1) (pc := 30) dX9_isDark_30 rfl rfl ?_
            refine ph_icmp_ne (tgt := 38) (pc := 31) dX9_isDark_31 (by decide) (fun c14 => ?_) (fun c14 => ?_)
            · refine ph_iconst (v := (nI 0)) (pc := 38) dX9_isDark_38 ph_ic_0 ?_
              refine ph_wk (ls1 := [some (.ref (ph_a Z 51)), some (.int x1), none, some (.int x7)]) ⟨rfl, ⟨rfl, ⟨rfl, trivial⟩⟩⟩ ?_
              exact hj9 (nI 0)
            · refine ph_wk (ls1 := [some (.ref (ph_a Z 51)), some (.int x1), none, some (.int x7)]) ⟨rfl, ⟨rfl, ⟨rfl, trivial⟩⟩⟩ ?_
              exact hj11 ()
  · refine ph_if_ne (tgt := 8) (pc := 1) dX9_isDark_1 (by decide) (fun c15 => ?_) (fun c15 => ?_)
    · refine ph_iconst (v := (nI 0)) (pc := 8) dX9_isDark_8 ph_ic_0 ?_
      exact hj3 (nI 0)
    · refine ph_iconst (v := (nI 1)) (pc := 4) dX9_isDark_4 ph_ic_1 ?_
      refine ph_goto (tgt := 9) (pc := 5) dX9_isDark_5 (by decide) ?_
      exact hj3 (nI 1)
def f_X9_whereAt (x1 : Int32) (h : ph_Hp) : Option (Int32 × ph_Hp) :=
  ph_lp (α := Int32 × Int32 × Int32 × ph_Hp) (fun j3 (x4, x5, x6, h7) =>
    if (h7.1 51 11) ≤ x6 then
      some (x5, h7)
    else
      ph_ldI h7 60 24 ((nI 2) * x6) fun v9 =>
      ph_cl (f_X9_in v9.toInt64 x4.toInt64 x1.toInt64 h7) fun v10 h11 =>
      ph_jn (α := Int32 × Int32) (fun (x13, x14) =>
        j3 (x13, x14, x6 + (nI 1), h11)) (fun j12 =>
        if v10 = nI 0 then
          j12 (x4, x5)
        else
          ph_ldI h11 60 24 ((nI 2) * x6) fun v16 =>
          ph_ldI h11 60 24 (((nI 2) * x6) + (nI 1)) fun v17 =>
          j12 (v16, v17))) ph_fu ((-1), (nI 0), (nI 0), h)
set_option maxRecDepth 100000 in
theorem c_X9_whereAt (Z : ph_L) (d : Nat) (hdd : 1 ≤ d) (x1 : Int32) (h : ph_Hp) : ph_CM Z yX9_whereAt cX9_whereAt 5 (some .int) d [.ref (ph_a Z 51), .int x1] ph_vi h (f_X9_whereAt x1 h) := by
  refine ph_begin (own := RX9) ph_mf_yX9_whereAt rfl (ls := [some (.ref (ph_a Z 51)), some (.int x1), none, none, none]) rfl (Nat.le_of_ble_eq_true rfl) ?_
  unfold f_X9_whereAt
  refine ph_iconst (v := (-1)) (pc := 0) dX9_whereAt_0 ph_ic_m1 ?_
  refine ph_istore_n (i := 2) (ls1 := [some (.ref (ph_a Z 51)), some (.int x1), some (.int (-1)), none, none]) (pc := 1) dX9_whereAt_1 rfl (by decide) rfl ?_
  refine ph_iconst (v := (nI 0)) (pc := 2) dX9_whereAt_2 ph_ic_0 ?_
  refine ph_istore_n (i := 3) (ls1 := [some (.ref (ph_a Z 51)), some (.int x1), some (.int (-1)), some (.int (nI 0)), none]) (pc := 3) dX9_whereAt_3 rfl (by decide) rfl ?_
  refine ph_iconst (v := (nI 0)) (pc := 4) dX9_whereAt_4 ph_ic_0 ?_
  refine ph_istore (i := 4) (ls1 := [some (.ref (ph_a Z 51)), some (.int x1), some (.int (-1)), some (.int (nI 0)), some (.int (nI 0))]) (pc := 5) dX9_whereAt_5 (by decide) rfl ?_
  refine ph_loop (α := Int32 × Int32 × Int32 × ph_Hp) 7 (fun x => [some (.ref (ph_a Z 51)), some (.int x1), some (.int x.1), some (.int x.2.1), some (.int x.2.2.1)]) (fun x => []) (fun x => x.2.2.2) (fun j3 hj3 x => ?_) ph_fu ((-1), (nI 0), (nI 0), h)
  obtain ⟨x4, x5, x6, h7⟩ := x
  dsimp only
  refine ph_iload (i := 4) (pc := 7) dX9_whereAt_7 rfl ?_
  refine ph_aload_n (i := 0) (pc := 9) dX9_whereAt_9 rfl rfl ?_
  refine ph_getI (pc := 10) dX9_whereAt_10 ph_fl_RX9_149 rfl (by decide) ?_
  refine ph_icmp_ge (tgt := 64) (pc := 13) dX9_whereAt_13 (by decide) (fun c8 => ?_) (fun c8 => ?_)
  · refine ph_iload_n (i := 3) (pc := 64) dX9_whereAt_64 rfl rfl ?_
    exact ph_iret (pc := 65) dX9_whereAt_65 rfl
  · refine ph_aload_n (i := 0) (pc := 16) dX9_whereAt_16 rfl rfl ?_
    refine ph_getR (j := 60) (pc := 17) dX9_whereAt_17 ph_fl_RX9_34 rfl rfl rfl ?_
    refine ph_iconst (v := (nI 2)) (pc := 20) dX9_whereAt_20 ph_ic_2 ?_
    refine ph_iload (i := 4) (pc := 21) dX9_whereAt_21 rfl ?_
    refine ph_imul (pc := 23) dX9_whereAt_23 ?_
    refine ph_iald (pc := 24) dX9_whereAt_24 rfl rfl (fun v9 => ?_)
    refine ph_i2l (pc := 25) dX9_whereAt_25 ?_
    refine ph_iload_n (i := 2) (pc := 26) dX9_whereAt_26 rfl rfl ?_
    refine ph_i2l (pc := 27) dX9_whereAt_27 ?_
    refine ph_iload_n (i := 1) (pc := 28) dX9_whereAt_28 rfl rfl ?_
    refine ph_i2l (pc := 29) dX9_whereAt_29 ?_
    refine ph_callSi (pc := 30) dX9_whereAt_30 ph_mf_yX9_in ph_ml_RX9_70 ph_ms_yX9_in (c_X9_in Z (d - 1) (by omega) v9.toInt64 x4.toInt64 x1.toInt64 h7) (by omega) rfl rfl (Nat.le_of_ble_eq_true rfl) (fun v10 h11 => ?_)
    refine ph_join (α := Int32 × Int32) 58 (fun x => [some (.ref (ph_a Z 51)), some (.int x1), some (.int x.1), some (.int x.2), some (.int x6)]) (fun x => []) (fun x => h11) (fun x => ?_) (fun j12 hj12 => ?_)
    · obtain ⟨x13, x14⟩ := x
      dsimp only
      refine ph_iinc (i := 4) (v := (nI 1)) (ls1 := [some (.ref (ph_a Z 51)), some (.int x1), some (.int x13), some (.int x14), some (.int (x6 + (nI 1)))]) (pc := 58) dX9_whereAt_58 rfl ph_ic_1 (by decide) rfl ?_
      refine ph_goto (tgt := 7) (pc := 61) dX9_whereAt_61 (by decide) ?_
      exact hj3 (x13, x14, x6 + (nI 1), h11)
    · refine ph_if_eq (tgt := 58) (pc := 33) dX9_whereAt_33 (by decide) (fun c15 => ?_) (fun c15 => ?_)
      · exact hj12 (x4, x5)
      · refine ph_aload_n (i := 0) (pc := 36) dX9_whereAt_36 rfl rfl ?_
        refine ph_getR (j := 60) (pc := 37) dX9_whereAt_37 ph_fl_RX9_34 rfl rfl rfl ?_
        refine ph_iconst (v := (nI 2)) (pc := 40) dX9_whereAt_40 ph_ic_2 ?_
        refine ph_iload (i := 4) (pc := 41) dX9_whereAt_41 rfl ?_
        refine ph_imul (pc := 43) dX9_whereAt_43 ?_
        refine ph_iald (pc := 44) dX9_whereAt_44 rfl rfl (fun v16 => ?_)
        refine ph_istore_n (i := 2) (ls1 := [some (.ref (ph_a Z 51)), some (.int x1), some (.int v16), some (.int x5), some (.int x6)]) (pc := 45) dX9_whereAt_45 rfl (by decide) rfl ?_
        refine ph_aload_n (i := 0) (pc := 46) dX9_whereAt_46 rfl rfl ?_
        refine ph_getR (j := 60) (pc := 47) dX9_whereAt_47 ph_fl_RX9_34 rfl rfl rfl ?_
        refine ph_iconst (v := (nI 2)) (pc := 50) dX9_whereAt_50 ph_ic_2 ?_
        refine ph_iload (i := 4) (pc := 51) dX9_whereAt_51 rfl ?_
        refine ph_imul (pc := 53) dX9_whereAt_53 ?_
        refine ph_iconst (v := (nI 1)) (pc := 54) dX9_whereAt_54 ph_ic_1 ?_
        refine ph_iadd (pc := 55) dX9_whereAt_55 ?_
        refine ph_iald (pc := 56) dX9_whereAt_56 rfl rfl (fun v17 => ?_)
        refine ph_istore_n (i := 3) (ls1 := [some (.ref (ph_a Z 51)), some (.int x1), some (.int v16), some (.int v17), some (.int x6)]) (pc := 57) dX9_whereAt_57 rfl (by decide) rfl ?_
        exact hj12 (v16, v17)
def f_X9_plain (h : ph_Hp) : Option (Unit × ph_Hp) :=
  ph_cl (f_X9_reads h) fun _ h3 =>
  ph_lp (α := Int32 × ph_Hp) (fun j4 (x5, h6) =>
    if (nI 40) ≤ x5 then
      ph_lp (α := Int32 × ph_Hp) (fun j8 (x9, h10) =>
        if (h10.1 51 13) ≤ x9 then
          some ((), h10)
        else
          ph_ldI h10 61 24 ((nI 2) * x9) fun v12 =>
          ph_ldI h10 63 40 v12 fun v13 =>
          ph_ldI h10 61 24 (((nI 2) * x9) + (nI 1)) fun v14 =>
          ph_stI h10 63 40 v12 (v13 ||| (ph_shl (nI 1) v14)) fun h15 =>
          j8 (x9 + (nI 1), h15)) ph_fu ((nI 0), h6)
    else
      ph_stI h6 63 40 x5 (nI 0) fun h16 =>
      ph_cl (f_X9_whereAt x5 h16) fun v17 h18 =>
      ph_stI h18 64 40 x5 v17 fun h19 =>
      j4 (x5 + (nI 1), h19)) ph_fu ((nI 0), h3)
set_option maxRecDepth 100000 in
theorem c_X9_plain (Z : ph_L) (d : Nat) (hdd : 5 ≤ d) (h : ph_Hp) : ph_CM Z yX9_plain cX9_plain 2 none d [.ref (ph_a Z 51)] ph_vv h (f_X9_plain h) := by
  refine ph_begin (own := RX9) ph_mf_yX9_plain rfl (ls := [some (.ref (ph_a Z 51)), none]) rfl (Nat.le_of_ble_eq_true rfl) ?_
  unfold f_X9_plain
  refine ph_aload_n (i := 0) (pc := 0) dX9_plain_0 rfl rfl ?_
  refine ph_callVv (pc := 1) dX9_plain_1 ph_mf_yX9_reads ph_ml_RX9_130 ph_mi_yX9_reads ph_mv_yX9_reads rfl rfl (c_X9_reads Z (d - 1) (by omega) h) (by omega) rfl rfl (Nat.le_of_ble_eq_true rfl) (fun v2 h3 => ?_)
  refine ph_iconst (v := (nI 0)) (pc := 4) dX9_plain_4 ph_ic_0 ?_
  refine ph_istore_n (i := 1) (ls1 := [some (.ref (ph_a Z 51)), some (.int (nI 0))]) (pc := 5) dX9_plain_5 rfl (by decide) rfl ?_
  refine ph_loop (α := Int32 × ph_Hp) 6 (fun x => [some (.ref (ph_a Z 51)), some (.int x.1)]) (fun x => []) (fun x => x.2) (fun j4 hj4 x => ?_) ph_fu ((nI 0), h3)
  obtain ⟨x5, h6⟩ := x
  dsimp only
  refine ph_iload_n (i := 1) (pc := 6) dX9_plain_6 rfl rfl ?_
  refine ph_bipush (v := (nI 40)) (pc := 7) dX9_plain_7 ph_bp_40 ?_
  refine ph_icmp_ge (tgt := 36) (pc := 9) dX9_plain_9 (by decide) (fun c7 => ?_) (fun c7 => ?_)
  · refine ph_iconst (v := (nI 0)) (pc := 36) dX9_plain_36 ph_ic_0 ?_
    refine ph_istore_n (i := 1) (ls1 := [some (.ref (ph_a Z 51)), some (.int (nI 0))]) (pc := 37) dX9_plain_37 rfl (by decide) rfl ?_
    refine ph_loop (α := Int32 × ph_Hp) 38 (fun x => [some (.ref (ph_a Z 51)), some (.int x.1)]) (fun x => []) (fun x => x.2) (fun j8 hj8 x => ?_) ph_fu ((nI 0), h6)
    obtain ⟨x9, h10⟩ := x
    dsimp only
    refine ph_iload_n (i := 1) (pc := 38) dX9_plain_38 rfl rfl ?_
    refine ph_aload_n (i := 0) (pc := 39) dX9_plain_39 rfl rfl ?_
    refine ph_getI (pc := 40) dX9_plain_40 ph_fl_RX9_154 rfl (by decide) ?_
    refine ph_icmp_ge (tgt := 80) (pc := 43) dX9_plain_43 (by decide) (fun c11 => ?_) (fun c11 => ?_)
    · exact ph_vret (pc := 80) dX9_plain_80 rfl
    · refine ph_aload_n (i := 0) (pc := 46) dX9_plain_46 rfl rfl ?_
      refine ph_getR (j := 63) (pc := 47) dX9_plain_47 ph_fl_RX9_43 rfl rfl rfl ?_
      refine ph_aload_n (i := 0) (pc := 50) dX9_plain_50 rfl rfl ?_
      refine ph_getR (j := 61) (pc := 51) dX9_plain_51 ph_fl_RX9_37 rfl rfl rfl ?_
      refine ph_iconst (v := (nI 2)) (pc := 54) dX9_plain_54 ph_ic_2 ?_
      refine ph_iload_n (i := 1) (pc := 55) dX9_plain_55 rfl rfl ?_
      refine ph_imul (pc := 56) dX9_plain_56 ?_
      refine ph_iald (pc := 57) dX9_plain_57 rfl rfl (fun v12 => ?_)
      refine ph_dup2 (pc := 58) dX9_plain_58 rfl rfl ?_
      refine ph_iald (pc := 59) dX9_plain_59 rfl rfl (fun v13 => ?_)
      refine ph_iconst (v := (nI 1)) (pc := 60) dX9_plain_60 ph_ic_1 ?_
      refine ph_aload_n (i := 0) (pc := 61) dX9_plain_61 rfl rfl ?_
      refine ph_getR (j := 61) (pc := 62) dX9_plain_62 ph_fl_RX9_37 rfl rfl rfl ?_
      refine ph_iconst (v := (nI 2)) (pc := 65) dX9_plain_65 ph_ic_2 ?_
      refine ph_iload_n (i := 1) (pc := 66) dX9_plain_66 rfl rfl ?_
      refine ph_imul (pc := 67) dX9_plain_67 ?_
      refine ph_iconst (v := (nI 1)) (pc := 68) dX9_plain_68 ph_ic_1 ?_
      refine ph_iadd (pc := 69) dX9_plain_69 ?_
      refine ph_iald (pc := 70) dX9_plain_70 rfl rfl (fun v14 => ?_)
      refine ph_ishl (pc := 71) dX9_plain_71 ?_
      refine ph_ior (pc := 72) dX9_plain_72 ?_
      refine ph_iast (pc := 73) dX9_plain_73 rfl rfl (fun h15 => ?_)
      refine ph_iinc (i := 1) (v := (nI 1)) (ls1 := [some (.ref (ph_a Z 51)), some (.int (x9 + (nI 1)))]) (pc := 74) dX9_plain_74 rfl ph_ic_1 (by decide) rfl ?_
      refine ph_goto (tgt := 38) (pc := 77) dX9_plain_77 (by decide) ?_
      exact hj8 (x9 + (nI 1), h15)
  · refine ph_aload_n (i := 0) (pc := 12) dX9_plain_12 rfl rfl ?_
    refine ph_getR (j := 63) (pc := 13) dX9_plain_13 ph_fl_RX9_43 rfl rfl rfl ?_
    refine ph_iload_n (i := 1) (pc := 16) dX9_plain_16 rfl rfl ?_
    refine ph_iconst (v := (nI 0)) (pc := 17) dX9_plain_17 ph_ic_0 ?_
    refine ph_iast (pc := 18) dX9_plain_18 rfl rfl (fun h16 => ?_)
    refine ph_aload_n (i := 0) (pc := 19) dX9_plain_19 rfl rfl ?_
    refine ph_getR (j := 64) (pc := 20) dX9_plain_20 ph_fl_RX9_46 rfl rfl rfl ?_
    refine ph_iload_n (i := 1) (pc := 23) dX9_plain_23 rfl rfl ?_
    refine ph_aload_n (i := 0) (pc := 24) dX9_plain_24 rfl rfl ?_
    refine ph_iload_n (i := 1) (pc := 25) dX9_plain_25 rfl rfl ?_
    refine ph_callVi (pc := 26) dX9_plain_26 ph_mf_yX9_whereAt ph_ml_RX9_162 ph_mi_yX9_whereAt ph_mv_yX9_whereAt rfl rfl (c_X9_whereAt Z (d - 1) (by omega) x5 h16) (by omega) rfl rfl (Nat.le_of_ble_eq_true rfl) (fun v17 h18 => ?_)
    refine ph_iast (pc := 29) dX9_plain_29 rfl rfl (fun h19 => ?_)
    refine ph_iinc (i := 1) (v := (nI 1)) (ls1 := [some (.ref (ph_a Z 51)), some (.int (x5 + (nI 1)))]) (pc := 30) dX9_plain_30 rfl ph_ic_1 (by decide) rfl ?_
    refine ph_goto (tgt := 6) (pc := 33) dX9_plain_33 (by decide) ?_
    exact hj4 (x5 + (nI 1), h19)
def f_X9_habitOf (x1 : Int32) (x2 : Int32) (h : ph_Hp) : Option (Int32 × ph_Hp) :=
  ph_ldI h 59 36 (((nI 4) * x1) + (nI 3)) fun v4 =>
  ph_cl (f_X9_printedBy x2 (nI 1) h) fun v5 h6 =>
  ph_ldI h6 59 36 (((nI 4) * x1) + (nI 2)) fun v7 =>
  if v7 = (nI 0) then
    some (v5, h6)
  else
  if v7 = (nI 1) then
    some (x2, h6)
  else
  if v7 = (nI 2) then
    if x2 = v4 then
      some (v5, h6)
    else
      some (v4, h6)
  else
  ph_jn (α := ph_Hp) (fun h13 =>
    some (v4, h13)) (fun j12 =>
    if v5 = v4 then
      j12 h6
    else
      ph_cl (f_X9_printedBy x2 (-1) h6) fun v15 h16 =>
      if v15 = v4 then
        j12 h16
      else
        some (x2, h16))
set_option maxRecDepth 100000 in
theorem c_X9_habitOf (Z : ph_L) (d : Nat) (hdd : 1 ≤ d) (x1 : Int32) (x2 : Int32) (h : ph_Hp) : ph_CM Z yX9_habitOf cX9_habitOf 5 (some .int) d [.ref (ph_a Z 51), .int x1, .int x2] ph_vi h (f_X9_habitOf x1 x2 h) := by
  refine ph_begin (own := RX9) ph_mf_yX9_habitOf rfl (ls := [some (.ref (ph_a Z 51)), some (.int x1), some (.int x2), none, none]) rfl (Nat.le_of_ble_eq_true rfl) ?_
  unfold f_X9_habitOf
  refine ph_aload_n (i := 0) (pc := 0) dX9_habitOf_0 rfl rfl ?_
  refine ph_getR (j := 59) (pc := 1) dX9_habitOf_1 ph_fl_RX9_31 rfl rfl rfl ?_
  refine ph_iconst (v := (nI 4)) (pc := 4) dX9_habitOf_4 ph_ic_4 ?_
  refine ph_iload_n (i := 1) (pc := 5) dX9_habitOf_5 rfl rfl ?_
  refine ph_imul (pc := 6) dX9_habitOf_6 ?_
  refine ph_iconst (v := (nI 3)) (pc := 7) dX9_habitOf_7 ph_ic_3 ?_
  refine ph_iadd (pc := 8) dX9_habitOf_8 ?_
  refine ph_iald (pc := 9) dX9_habitOf_9 rfl rfl (fun v4 => ?_)
  refine ph_istore_n (i := 3) (ls1 := [some (.ref (ph_a Z 51)), some (.int x1), some (.int x2), some (.int v4), none]) (pc := 10) dX9_habitOf_10 rfl (by decide) rfl ?_
  refine ph_aload_n (i := 0) (pc := 11) dX9_habitOf_11 rfl rfl ?_
  refine ph_iload_n (i := 2) (pc := 12) dX9_habitOf_12 rfl rfl ?_
  refine ph_iconst (v := (nI 1)) (pc := 13) dX9_habitOf_13 ph_ic_1 ?_
  refine ph_callVi (pc := 14) dX9_habitOf_14 ph_mf_yX9_printedBy ph_ml_RX9_141 ph_mi_yX9_printedBy ph_mv_yX9_printedBy rfl rfl (c_X9_printedBy Z (d - 1) (by omega) x2 (nI 1) h) (by omega) rfl rfl (Nat.le_of_ble_eq_true rfl) (fun v5 h6 => ?_)
  refine ph_istore (i := 4) (ls1 := [some (.ref (ph_a Z 51)), some (.int x1), some (.int x2), some (.int v4), some (.int v5)]) (pc := 17) dX9_habitOf_17 (by decide) rfl ?_
  refine ph_aload_n (i := 0) (pc := 19) dX9_habitOf_19 rfl rfl ?_
  refine ph_getR (j := 59) (pc := 20) dX9_habitOf_20 ph_fl_RX9_31 rfl rfl rfl ?_
  refine ph_iconst (v := (nI 4)) (pc := 23) dX9_habitOf_23 ph_ic_4 ?_
  refine ph_iload_n (i := 1) (pc := 24) dX9_habitOf_24 rfl rfl ?_
  refine ph_imul (pc := 25) dX9_habitOf_25 ?_
  refine ph_iconst (v := (nI 2)) (pc := 26) dX9_habitOf_26 ph_ic_2 ?_
  refine ph_iadd (pc := 27) dX9_habitOf_27 ?_
  refine ph_iald (pc := 28) dX9_habitOf_28 rfl rfl (fun v7 => ?_)
  refine ph_ite (fun c8 => ?_) (fun c8 => ?_)
  · refine ph_tin (tgt := 56) (v := (nI 0)) (pc := 29) dX9_habitOf_29 c8 (by decide) (by decide) rfl (by decide) ?_
    refine ph_iload (i := 4) (pc := 56) dX9_habitOf_56 rfl ?_
    exact ph_iret (pc := 58) dX9_habitOf_58 rfl
  refine ph_ite (fun c9 => ?_) (fun c9 => ?_)
  · refine ph_tin (tgt := 59) (v := (nI 1)) (pc := 29) dX9_habitOf_29 c9 (by decide) (by decide) rfl (by decide) ?_
    refine ph_iload_n (i := 2) (pc := 59) dX9_habitOf_59 rfl rfl ?_
    exact ph_iret (pc := 60) dX9_habitOf_60 rfl
  refine ph_ite (fun c10 => ?_) (fun c10 => ?_)
  · refine ph_tin (tgt := 61) (v := (nI 2)) (pc := 29) dX9_habitOf_29 c10 (by decide) (by decide) rfl (by decide) ?_
    refine ph_iload_n (i := 2) (pc := 61) dX9_habitOf_61 rfl rfl ?_
    refine ph_iload_n (i := 3) (pc := 62) dX9_habitOf_62 rfl rfl ?_
    refine ph_icmp_ne (tgt := 71) (pc := 63) dX9_habitOf_63 (by decide) (fun c11 => ?_) (fun c11 => ?_)
    · refine ph_iload_n (i := 3) (pc := 71) dX9_habitOf_71 rfl rfl ?_
      exact ph_iret (pc := 72) dX9_habitOf_72 rfl
    · refine ph_iload (i := 4) (pc := 66) dX9_habitOf_66 rfl ?_
      refine ph_goto (tgt := 72) (pc := 68) dX9_habitOf_68 (by decide) ?_
      exact ph_iret (pc := 72) dX9_habitOf_72 rfl
  refine ph_tout (tgt := 73) (pc := 29) dX9_habitOf_29 (by
    have := lv_neT (a := 0) c8 (by decide)
    have := lv_neT (a := 1) c9 (by decide)
    have := lv_neT (a := 2) c10 (by decide)
    omega) (by decide) ?_
  refine ph_iload (i := 4) (pc := 73) dX9_habitOf_73 rfl ?_
  refine ph_iload_n (i := 3) (pc := 75) dX9_habitOf_75 rfl rfl ?_
  refine ph_join (α := ph_Hp) 89 (fun x => [none, none, none, some (.int v4), none]) (fun x => []) (fun x => x) (fun x => ?_) (fun j12 hj12 => ?_)
  · revert x; intro h13
    refine ph_iload_n (i := 3) (pc := 89) dX9_habitOf_89 rfl rfl ?_
    refine ph_goto (tgt := 94) (pc := 90) dX9_habitOf_90 (by decide) ?_
    exact ph_iret (pc := 94) dX9_habitOf_94 rfl
  · refine ph_icmp_eq (tgt := 89) (pc := 76) dX9_habitOf_76 (by decide) (fun c14 => ?_) (fun c14 => ?_)
    · refine ph_wk (ls1 := [none, none, none, some (.int v4), none]) ⟨rfl, trivial⟩ ?_
      exact hj12 h6
    · refine ph_aload_n (i := 0) (pc := 79) dX9_habitOf_79 rfl rfl ?_
      refine ph_iload_n (i := 2) (pc := 80) dX9_habitOf_80 rfl rfl ?_
      refine ph_iconst (v := (-1)) (pc := 81) dX9_habitOf_81 ph_ic_m1 ?_
      refine ph_callVi (pc := 82) dX9_habitOf_82 ph_mf_yX9_printedBy ph_ml_RX9_141 ph_mi_yX9_printedBy ph_mv_yX9_printedBy rfl rfl (c_X9_printedBy Z (d - 1) (by omega) x2 (-1) h6) (by omega) rfl rfl (Nat.le_of_ble_eq_true rfl) (fun v15 h16 => ?_)
      refine ph_iload_n (i := 3) (pc := 85) dX9_habitOf_85 rfl rfl ?_
      refine ph_icmp_ne (tgt := 93) (pc := 86) dX9_habitOf_86 (by decide) (fun c17 => ?_) (fun c17 => ?_)
      · refine ph_iload_n (i := 2) (pc := 93) dX9_habitOf_93 rfl rfl ?_
        exact ph_iret (pc := 94) dX9_habitOf_94 rfl
      · refine ph_wk (ls1 := [none, none, none, some (.int v4), none]) ⟨rfl, trivial⟩ ?_
        exact hj12 h16
