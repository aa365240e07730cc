def f_X9_evening (x1 : Int32) (x2 : Int32) (x3 : Int32) (h : ph_Hp) : Option (Int32 × ph_Hp) :=
  ph_cl (f_X9_find h) fun _ h6 =>
  ph_cl (f_X9_isStep x2 h6) fun v7 h8 =>
  if v7 = nI 0 then
    some ((-2), h8)
  else
    ph_cl (f_X9_isTwo x3 h8) fun v10 h11 =>
    if v10 = nI 0 then
      some ((-2), h11)
    else
      ph_cl (f_X9_eveningOf x1 x2 x3 h11) fun v13 h14 =>
      some (v13, h14)
set_option maxRecDepth 100000 in
theorem c_X9_evening (Z : ph_L) (d : Nat) (hdd : 8 ≤ d) (x1 : Int32) (x2 : Int32) (x3 : Int32) (h : ph_Hp) : ph_CM Z yX9_evening cX9_evening 4 (some .int) d [.ref (ph_a Z 51), .int x1, .int x2, .int x3] ph_vi h (f_X9_evening x1 x2 x3 h) := by
  refine ph_begin (own := RX9) ph_mf_yX9_evening rfl (ls := [some (.ref (ph_a Z 51)), some (.int x1), some (.int x2), some (.int x3)]) rfl (Nat.le_of_ble_eq_true rfl) ?_
  unfold f_X9_evening
  refine ph_aload_n (i := 0) (pc := 0) dX9_evening_0 rfl rfl ?_
  refine ph_callVv (pc := 1) dX9_evening_1 ph_mf_yX9_find ph_ml_RX9_198 ph_mi_yX9_find ph_mv_yX9_find rfl rfl (c_X9_find Z (d - 1) (by omega) h) (by omega) rfl rfl (Nat.le_of_ble_eq_true rfl) (fun v5 h6 => ?_)
  refine ph_iload_n (i := 2) (pc := 4) dX9_evening_4 rfl rfl ?_
  refine ph_callSi (pc := 5) dX9_evening_5 ph_mf_yX9_isStep ph_ml_RX9_144 ph_ms_yX9_isStep (c_X9_isStep Z (d - 1) (by omega) x2 h6) (by omega) rfl rfl (Nat.le_of_ble_eq_true rfl) (fun v7 h8 => ?_)
  refine ph_if_eq (tgt := 28) (pc := 8) dX9_evening_8 (by decide) (fun c9 => ?_) (fun c9 => ?_)
  · refine ph_bipush (v := (-2)) (pc := 28) dX9_evening_28 ph_bp_m2 ?_
    exact ph_iret (pc := 30) dX9_evening_30 rfl
  · refine ph_iload_n (i := 3) (pc := 11) dX9_evening_11 rfl rfl ?_
    refine ph_callSi (pc := 12) dX9_evening_12 ph_mf_yX9_isTwo ph_ml_RX9_98 ph_ms_yX9_isTwo (c_X9_isTwo Z (d - 1) (by omega) x3 h8) (by omega) rfl rfl (Nat.le_of_ble_eq_true rfl) (fun v10 h11 => ?_)
    refine ph_if_eq (tgt := 28) (pc := 15) dX9_evening_15 (by decide) (fun c12 => ?_) (fun c12 => ?_)
    · refine ph_bipush (v := (-2)) (pc := 28) dX9_evening_28 ph_bp_m2 ?_
      exact ph_iret (pc := 30) dX9_evening_30 rfl
    · refine ph_aload_n (i := 0) (pc := 18) dX9_evening_18 rfl rfl ?_
      refine ph_iload_n (i := 1) (pc := 19) dX9_evening_19 rfl rfl ?_
      refine ph_iload_n (i := 2) (pc := 20) dX9_evening_20 rfl rfl ?_
      refine ph_iload_n (i := 3) (pc := 21) dX9_evening_21 rfl rfl ?_
      refine ph_callVi (pc := 22) dX9_evening_22 ph_mf_yX9_eveningOf ph_ml_RX9_260 ph_mi_yX9_eveningOf ph_mv_yX9_eveningOf rfl rfl (c_X9_eveningOf Z (d - 1) (by omega) x1 x2 x3 h11) (by omega) rfl rfl (Nat.le_of_ble_eq_true rfl) (fun v13 h14 => ?_)
      refine ph_goto (tgt := 30) (pc := 25) dX9_evening_25 (by decide) ?_
      exact ph_iret (pc := 30) dX9_evening_30 rfl
def f_X9_write (x1 : Int32) (x2 : Int32) (h : ph_Hp) : Option (Int32 × ph_Hp) :=
  ph_cl (f_X9_isTwo x1 h) fun v4 h5 =>
  if v4 = nI 0 then
    some ((-2), h5)
  else
    ph_cl (f_X9_isSheet x2 h5) fun v7 h8 =>
    if v7 = nI 0 then
      some ((-2), h8)
    else
      ph_ldI h8 52 4 x2 fun v10 =>
      if nI 0 ≤ v10 then
        ph_cl (f_X9_find h8) fun _ h13 =>
        ph_ldI h13 53 4 x2 fun v14 =>
        ph_cl (f_X9_lesser v14 (nI 40) h13) fun v15 h16 =>
        ph_lp (α := Int32 × ph_Hp) (fun j17 (x18, h19) =>
          if v15 ≤ x18 then
            some (v15, h19)
          else
            ph_ldI h19 52 4 x2 fun v21 =>
            ph_cl (f_X9_stepOf x18 x1 h19) fun v22 h23 =>
            ph_cl (f_X9_cut v21 v22 h23) fun v24 h25 =>
            ph_stI h25 54 240 (((nI 60) * x2) + x18) v24 fun h26 =>
            j17 (x18 + (nI 1), h26)) ph_fu ((nI 0), h16)
      else
        ph_cl (f_X9_finds (nI 1) h8) fun v27 h28 =>
        some (v27, h28)
set_option maxRecDepth 100000 in
theorem c_X9_write (Z : ph_L) (d : Nat) (hdd : 7 ≤ d) (x1 : Int32) (x2 : Int32) (h : ph_Hp) : ph_CM Z yX9_write cX9_write 5 (some .int) d [.ref (ph_a Z 51), .int x1, .int x2] ph_vi h (f_X9_write x1 x2 h) := by
  refine ph_begin (own := RX9) ph_mf_yX9_write rfl (ls := [some (.ref (ph_a Z 51)), some (.int x1), some (.int x2), none, none]) rfl (Nat.le_of_ble_eq_true rfl) ?_
  unfold f_X9_write
  refine ph_iload_n (i := 1) (pc := 0) dX9_write_0 rfl rfl ?_
  refine ph_callSi (pc := 1) dX9_write_1 ph_mf_yX9_isTwo ph_ml_RX9_98 ph_ms_yX9_isTwo (c_X9_isTwo Z (d - 1) (by omega) x1 h) (by omega) rfl rfl (Nat.le_of_ble_eq_true rfl) (fun v4 h5 => ?_)
  refine ph_if_eq (tgt := 14) (pc := 4) dX9_write_4 (by decide) (fun c6 => ?_) (fun c6 => ?_)
  · refine ph_bipush (v := (-2)) (pc := 14) dX9_write_14 ph_bp_m2 ?_
    exact ph_iret (pc := 16) dX9_write_16 rfl
  · refine ph_iload_n (i := 2) (pc := 7) dX9_write_7 rfl rfl ?_
    refine ph_callSi (pc := 8) dX9_write_8 ph_mf_yX9_isSheet ph_ml_RX9_79 ph_ms_yX9_isSheet (c_X9_isSheet Z (d - 1) (by omega) x2 h5) (by omega) rfl rfl (Nat.le_of_ble_eq_true rfl) (fun v7 h8 => ?_)
    refine ph_if_ne (tgt := 17) (pc := 11) dX9_write_11 (by decide) (fun c9 => ?_) (fun c9 => ?_)
    · refine ph_aload_n (i := 0) (pc := 17) dX9_write_17 rfl rfl ?_
      refine ph_getR (j := 52) (pc := 18) dX9_write_18 ph_fl_RX9_7 rfl rfl rfl ?_
      refine ph_iload_n (i := 2) (pc := 21) dX9_write_21 rfl rfl ?_
      refine ph_iald (pc := 22) dX9_write_22 rfl rfl (fun v10 => ?_)
      refine ph_if_ge (tgt := 32) (pc := 23) dX9_write_23 (by decide) (fun c11 => ?_) (fun c11 => ?_)
      · refine ph_aload_n (i := 0) (pc := 32) dX9_write_32 rfl rfl ?_
        refine ph_callVv (pc := 33) dX9_write_33 ph_mf_yX9_find ph_ml_RX9_198 ph_mi_yX9_find ph_mv_yX9_find rfl rfl (c_X9_find Z (d - 1) (by omega) h8) (by omega) rfl rfl (Nat.le_of_ble_eq_true rfl) (fun v12 h13 => ?_)
        refine ph_aload_n (i := 0) (pc := 36) dX9_write_36 rfl rfl ?_
        refine ph_getR (j := 53) (pc := 37) dX9_write_37 ph_fl_RX9_13 rfl rfl rfl ?_
        refine ph_iload_n (i := 2) (pc := 40) dX9_write_40 rfl rfl ?_
        refine ph_iald (pc := 41) dX9_write_41 rfl rfl (fun v14 => ?_)
        refine ph_bipush (v := (nI 40)) (pc := 42) dX9_write_42 ph_bp_40 ?_
        refine ph_callSi (pc := 44) dX9_write_44 ph_mf_yX9_lesser ph_ml_RX9_263 ph_ms_yX9_lesser (c_X9_lesser Z (d - 1) (by omega) v14 (nI 40) h13) (by omega) rfl rfl (Nat.le_of_ble_eq_true rfl) (fun v15 h16 => ?_)
        refine ph_istore_n (i := 3) (ls1 := [some (.ref (ph_a Z 51)), some (.int x1), some (.int x2), some (.int v15), none]) (pc := 47) dX9_write_47 rfl (by decide) rfl ?_
        refine ph_iconst (v := (nI 0)) (pc := 48) dX9_write_48 ph_ic_0 ?_
        refine ph_istore (i := 4) (ls1 := [some (.ref (ph_a Z 51)), some (.int x1), some (.int x2), some (.int v15), some (.int (nI 0))]) (pc := 49) dX9_write_49 (by decide) rfl ?_
        refine ph_loop (α := Int32 × ph_Hp) 51 (fun x => [some (.ref (ph_a Z 51)), some (.int x1), some (.int x2), some (.int v15), some (.int x.1)]) (fun x => []) (fun x => x.2) (fun j17 hj17 x => ?_) ph_fu ((nI 0), h16)
        obtain ⟨x18, h19⟩ := x
        dsimp only
        refine ph_iload (i := 4) (pc := 51) dX9_write_51 rfl ?_
        refine ph_iload_n (i := 3) (pc := 53) dX9_write_53 rfl rfl ?_
        refine ph_icmp_ge (tgt := 91) (pc := 54) dX9_write_54 (by decide) (fun c20 => ?_) (fun c20 => ?_)
        · refine ph_iload_n (i := 3) (pc := 91) dX9_write_91 rfl rfl ?_
          exact ph_iret (pc := 92) dX9_write_92 rfl
        · refine ph_aload_n (i := 0) (pc := 57) dX9_write_57 rfl rfl ?_
          refine ph_getR (j := 54) (pc := 58) dX9_write_58 ph_fl_RX9_16 rfl rfl rfl ?_
          refine ph_bipush (v := (nI 60)) (pc := 61) dX9_write_61 ph_bp_60 ?_
          refine ph_iload_n (i := 2) (pc := 63) dX9_write_63 rfl rfl ?_
          refine ph_imul (pc := 64) dX9_write_64 ?_
          refine ph_iload (i := 4) (pc := 65) dX9_write_65 rfl ?_
          refine ph_iadd (pc := 67) dX9_write_67 ?_
          refine ph_aload_n (i := 0) (pc := 68) dX9_write_68 rfl rfl ?_
          refine ph_getR (j := 52) (pc := 69) dX9_write_69 ph_fl_RX9_7 rfl rfl rfl ?_
          refine ph_iload_n (i := 2) (pc := 72) dX9_write_72 rfl rfl ?_
          refine ph_iald (pc := 73) dX9_write_73 rfl rfl (fun v21 => ?_)
          refine ph_aload_n (i := 0) (pc := 74) dX9_write_74 rfl rfl ?_
          refine ph_iload (i := 4) (pc := 75) dX9_write_75 rfl ?_
          refine ph_iload_n (i := 1) (pc := 77) dX9_write_77 rfl rfl ?_
          refine ph_callVi (pc := 78) dX9_write_78 ph_mf_yX9_stepOf ph_ml_RX9_201 ph_mi_yX9_stepOf ph_mv_yX9_stepOf rfl rfl (c_X9_stepOf Z (d - 1) (by omega) x18 x1 h19) (by omega) rfl rfl (Nat.le_of_ble_eq_true rfl) (fun v22 h23 => ?_)
          refine ph_callSi (pc := 81) dX9_write_81 ph_mf_yX9_cut ph_ml_RX9_93 ph_ms_yX9_cut (c_X9_cut Z (d - 1) (by omega) v21 v22 h23) (by omega) rfl rfl (Nat.le_of_ble_eq_true rfl) (fun v24 h25 => ?_)
          refine ph_iast (pc := 84) dX9_write_84 rfl rfl (fun h26 => ?_)
          refine ph_iinc (i := 4) (v := (nI 1)) (ls1 := [some (.ref (ph_a Z 51)), some (.int x1), some (.int x2), some (.int v15), some (.int (x18 + (nI 1)))]) (pc := 85) dX9_write_85 rfl ph_ic_1 (by decide) rfl ?_
          refine ph_goto (tgt := 51) (pc := 88) dX9_write_88 (by decide) ?_
          exact hj17 (x18 + (nI 1), h26)
      · refine ph_aload_n (i := 0) (pc := 26) dX9_write_26 rfl rfl ?_
        refine ph_iconst (v := (nI 1)) (pc := 27) dX9_write_27 ph_ic_1 ?_
        refine ph_callVi (pc := 28) dX9_write_28 ph_mf_yX9_finds ph_ml_RX9_85 ph_mi_yX9_finds ph_mv_yX9_finds rfl rfl (c_X9_finds Z (d - 1) (by omega) (nI 1) h8) (by omega) rfl rfl (Nat.le_of_ble_eq_true rfl) (fun v27 h28 => ?_)
        exact ph_iret (pc := 31) dX9_write_31 rfl
    · refine ph_bipush (v := (-2)) (pc := 14) dX9_write_14 ph_bp_m2 ?_
      exact ph_iret (pc := 16) dX9_write_16 rfl
def f_X9_count (x1 : Int32) (h : ph_Hp) : Option (Int32 × ph_Hp) :=
  ph_cl (f_X9_reads h) fun _ h4 =>
  ph_jn (α := Unit) (fun _x =>
    ph_ldI h4 57 2 (x1 - (nI 2)) fun v6 =>
    some (v6, h4)) (fun j5 =>
    if x1 = (nI 0) then
      some (h4.1 51 7, h4)
    else
    if x1 = (nI 1) then
      some (h4.1 51 9, h4)
    else
    if x1 = (nI 2) then
      j5 ()
    else
    if x1 = (nI 3) then
      j5 ()
    else
    if x1 = (nI 4) then
      some (h4.1 51 11, h4)
    else
    if x1 = (nI 5) then
      some (h4.1 51 13, h4)
    else
    if x1 = (nI 6) then
      some (h4.1 51 15, h4)
    else
    if x1 = (nI 7) then
      some (h4.1 51 24, h4)
    else
    if x1 = (nI 8) then
      some (h4.1 51 4, h4)
    else
    some ((-2), h4))
set_option maxRecDepth 100000 in
theorem c_X9_count (Z : ph_L) (d : Nat) (hdd : 5 ≤ d) (x1 : Int32) (h : ph_Hp) : ph_CM Z yX9_count cX9_count 2 (some .int) d [.ref (ph_a Z 51), .int x1] ph_vi h (f_X9_count x1 h) := by
  refine ph_begin (own := RX9) ph_mf_yX9_count rfl (ls := [some (.ref (ph_a Z 51)), some (.int x1)]) rfl (Nat.le_of_ble_eq_true rfl) ?_
  unfold f_X9_count
  refine ph_aload_n (i := 0) (pc := 0) dX9_count_0 rfl rfl ?_
  refine ph_callVv (pc := 1) dX9_count_1 ph_mf_yX9_reads ph_ml_RX9_130 ph_mi_yX9_reads ph_mv_yX9_reads rfl rfl (c_X9_reads Z (d - 1) (by omega) h) (by omega) rfl rfl (Nat.le_of_ble_eq_true rfl) (fun v3 h4 => ?_)
  refine ph_iload_n (i := 1) (pc := 4) dX9_count_4 rfl rfl ?_
  refine ph_join (α := Unit) 66 (fun x => [some (.ref (ph_a Z 51)), some (.int x1)]) (fun x => []) (fun x => h4) (fun x => ?_) (fun j5 hj5 => ?_)
  · refine ph_aload_n (i := 0) (pc := 66) dX9_count_66 rfl rfl ?_
    refine ph_getR (j := 57) (pc := 67) dX9_count_67 ph_fl_RX9_25 rfl rfl rfl ?_
    refine ph_iload_n (i := 1) (pc := 70) dX9_count_70 rfl rfl ?_
    refine ph_iconst (v := (nI 2)) (pc := 71) dX9_count_71 ph_ic_2 ?_
    refine ph_isub (pc := 72) dX9_count_72 ?_
    refine ph_iald (pc := 73) dX9_count_73 rfl rfl (fun v6 => ?_)
    exact ph_iret (pc := 74) dX9_count_74 rfl
  · refine ph_ite (fun c7 => ?_) (fun c7 => ?_)
    · refine ph_tin (tgt := 56) (v := (nI 0)) (pc := 5) dX9_count_5 c7 (by decide) (by decide) rfl (by decide) ?_
      refine ph_aload_n (i := 0) (pc := 56) dX9_count_56 rfl rfl ?_
      refine ph_getI (pc := 57) dX9_count_57 ph_fl_RX9_103 rfl (by decide) ?_
      exact ph_iret (pc := 60) dX9_count_60 rfl
    refine ph_ite (fun c8 => ?_) (fun c8 => ?_)
    · refine ph_tin (tgt := 61) (v := (nI 1)) (pc := 5) dX9_count_5 c8 (by decide) (by decide) rfl (by decide) ?_
      refine ph_aload_n (i := 0) (pc := 61) dX9_count_61 rfl rfl ?_
      refine ph_getI (pc := 62) dX9_count_62 ph_fl_RX9_113 rfl (by decide) ?_
      exact ph_iret (pc := 65) dX9_count_65 rfl
    refine ph_ite (fun c9 => ?_) (fun c9 => ?_)
    · refine ph_tin (tgt := 66) (v := (nI 2)) (pc := 5) dX9_count_5 c9 (by decide) (by decide) rfl (by decide) ?_
      exact hj5 ()
    refine ph_ite (fun c10 => ?_) (fun c10 => ?_)
    · refine ph_tin (tgt := 66) (v := (nI 3)) (pc := 5) dX9_count_5 c10 (by decide) (by decide) rfl (by decide) ?_
      exact hj5 ()
    refine ph_ite (fun c11 => ?_) (fun c11 => ?_)
    · refine ph_tin (tgt := 75) (v := (nI 4)) (pc := 5) dX9_count_5 c11 (by decide) (by decide) rfl (by decide) ?_
      refine ph_aload_n (i := 0) (pc := 75) dX9_count_75 rfl rfl ?_
      refine ph_getI (pc := 76) dX9_count_76 ph_fl_RX9_149 rfl (by decide) ?_
      exact ph_iret (pc := 79) dX9_count_79 rfl
    refine ph_ite (fun c12 => ?_) (fun c12 => ?_)
    · refine ph_tin (tgt := 80) (v := (nI 5)) (pc := 5) dX9_count_5 c12 (by decide) (by decide) rfl (by decide) ?_
      refine ph_aload_n (i := 0) (pc := 80) dX9_count_80 rfl rfl ?_
      refine ph_getI (pc := 81) dX9_count_81 ph_fl_RX9_154 rfl (by decide) ?_
      exact ph_iret (pc := 84) dX9_count_84 rfl
    refine ph_ite (fun c13 => ?_) (fun c13 => ?_)
    · refine ph_tin (tgt := 85) (v := (nI 6)) (pc := 5) dX9_count_5 c13 (by decide) (by decide) rfl (by decide) ?_
      refine ph_aload_n (i := 0) (pc := 85) dX9_count_85 rfl rfl ?_
      refine ph_getI (pc := 86) dX9_count_86 ph_fl_RX9_157 rfl (by decide) ?_
      exact ph_iret (pc := 89) dX9_count_89 rfl
    refine ph_ite (fun c14 => ?_) (fun c14 => ?_)
    · refine ph_tin (tgt := 90) (v := (nI 7)) (pc := 5) dX9_count_5 c14 (by decide) (by decide) rfl (by decide) ?_
      refine ph_aload_n (i := 0) (pc := 90) dX9_count_90 rfl rfl ?_
      refine ph_getI (pc := 91) dX9_count_91 ph_fl_RX9_223 rfl (by decide) ?_
      exact ph_iret (pc := 94) dX9_count_94 rfl
    refine ph_ite (fun c15 => ?_) (fun c15 => ?_)
    · refine ph_tin (tgt := 95) (v := (nI 8)) (pc := 5) dX9_count_5 c15 (by decide) (by decide) rfl (by decide) ?_
      refine ph_aload_n (i := 0) (pc := 95) dX9_count_95 rfl rfl ?_
      refine ph_getI (pc := 96) dX9_count_96 ph_fl_RX9_74 rfl (by decide) ?_
      exact ph_iret (pc := 99) dX9_count_99 rfl
    refine ph_tout (tgt := 100) (pc := 5) dX9_count_5 (by
      have := lv_neT (a := 0) c7 (by decide)
      have := lv_neT (a := 1) c8 (by decide)
      have := lv_neT (a := 2) c9 (by decide)
      have := lv_neT (a := 3) c10 (by decide)
      have := lv_neT (a := 4) c11 (by decide)
      have := lv_neT (a := 5) c12 (by decide)
      have := lv_neT (a := 6) c13 (by decide)
      have := lv_neT (a := 7) c14 (by decide)
      have := lv_neT (a := 8) c15 (by decide)
      omega) (by decide) ?_
    refine ph_bipush (v := (-2)) (pc := 100) dX9_count_100 ph_bp_m2 ?_
    exact ph_iret (pc := 102) dX9_count_102 rfl
def f_X9_tellsLine (x1 : Int64) (x2 : Int32) (h : ph_Hp) : Option (Int64 × ph_Hp) :=
  ph_cl (f_X9_printedBy x2 (nI 1) h) fun v4 h5 =>
  ph_cl (f_X9_printedBy x2 (-1) h5) fun v6 h7 =>
  ph_cl (f_X9_oftenOf x2 (nI 0) h7) fun v8 h9 =>
  ph_cl (f_X9_oftenOf x2 (nI 1) h9) fun v10 h11 =>
  ph_cl (f_X9_slips (nI 5) (nI 0) x2 (nI 5) (nI 0) h11) fun v12 h13 =>
  ph_cl (f_X9_slips (nI 5) (nI 0) x2 (nI 5) (nI 1) h13) fun v14 h15 =>
  ph_lp (α := Int64 × Int32 × ph_Hp) (fun j16 (x17, x18, h19) =>
    if (nI 3) ≤ x18 then
      some (x17, h19)
    else
      ph_cl (f_X9_promptOf (nI 3) (nI 6) x2 x18 h19) fun v21 h22 =>
      j16 (((lN 31) * x17) + v21.toInt64, x18 + (nI 1), h22)) ph_fu (((lN 31) * (((lN 31) * (((lN 31) * (((lN 31) * (((lN 31) * (((lN 31) * x1) + v4.toInt64)) + v6.toInt64)) + v8.toInt64)) + v10.toInt64)) + v12)) + v14, (nI 0), h15)
set_option maxRecDepth 100000 in
theorem c_X9_tellsLine (Z : ph_L) (d : Nat) (hdd : 9 ≤ d) (x1 : Int64) (x2 : Int32) (h : ph_Hp) : ph_CM Z yX9_tellsLine cX9_tellsLine 7 (some .long) d [.ref (ph_a Z 51), .long x1, .int x2] ph_vl h (f_X9_tellsLine x1 x2 h) := by
  refine ph_begin (own := RX9) ph_mf_yX9_tellsLine rfl (ls := [some (.ref (ph_a Z 51)), some (.long x1), none, some (.int x2), none, none, none]) rfl (Nat.le_of_ble_eq_true rfl) ?_
  unfold f_X9_tellsLine
  refine ph_ldc2 (v := (lN 31)) (pc := 0) dX9_tellsLine_0 ph_k_RX9_266 ?_
  refine ph_lload_n (i := 1) (pc := 3) dX9_tellsLine_3 rfl rfl ?_
  refine ph_lmul (pc := 4) dX9_tellsLine_4 ?_
  refine ph_aload_n (i := 0) (pc := 5) dX9_tellsLine_5 rfl rfl ?_
  refine ph_iload_n (i := 3) (pc := 6) dX9_tellsLine_6 rfl rfl ?_
  refine ph_iconst (v := (nI 1)) (pc := 7) dX9_tellsLine_7 ph_ic_1 ?_
  refine ph_callVi (pc := 8) dX9_tellsLine_8 ph_mf_yX9_printedBy ph_ml_RX9_141 ph_mi_yX9_printedBy ph_mv_yX9_printedBy rfl rfl (c_X9_printedBy Z (d - 1) (by omega) x2 (nI 1) h) (by omega) rfl rfl (Nat.le_of_ble_eq_true rfl) (fun v4 h5 => ?_)
  refine ph_i2l (pc := 11) dX9_tellsLine_11 ?_
  refine ph_ladd (pc := 12) dX9_tellsLine_12 ?_
  refine ph_lstore (i := 4) (ls1 := [some (.ref (ph_a Z 51)), some (.long x1), none, some (.int x2), some (.long (((lN 31) * x1) + v4.toInt64)), none, none]) (pc := 13) dX9_tellsLine_13 (by decide) rfl ?_
  refine ph_ldc2 (v := (lN 31)) (pc := 15) dX9_tellsLine_15 ph_k_RX9_266 ?_
  refine ph_lload (i := 4) (pc := 18) dX9_tellsLine_18 rfl ?_
  refine ph_lmul (pc := 20) dX9_tellsLine_20 ?_
  refine ph_aload_n (i := 0) (pc := 21) dX9_tellsLine_21 rfl rfl ?_
  refine ph_iload_n (i := 3) (pc := 22) dX9_tellsLine_22 rfl rfl ?_
  refine ph_iconst (v := (-1)) (pc := 23) dX9_tellsLine_23 ph_ic_m1 ?_
  refine ph_callVi (pc := 24) dX9_tellsLine_24 ph_mf_yX9_printedBy ph_ml_RX9_141 ph_mi_yX9_printedBy ph_mv_yX9_printedBy rfl rfl (c_X9_printedBy Z (d - 1) (by omega) x2 (-1) h5) (by omega) rfl rfl (Nat.le_of_ble_eq_true rfl) (fun v6 h7 => ?_)
  refine ph_i2l (pc := 27) dX9_tellsLine_27 ?_
  refine ph_ladd (pc := 28) dX9_tellsLine_28 ?_
  refine ph_lstore (i := 4) (ls1 := [some (.ref (ph_a Z 51)), some (.long x1), none, some (.int x2), some (.long (((lN 31) * (((lN 31) * x1) + v4.toInt64)) + v6.toInt64)), none, none]) (pc := 29) dX9_tellsLine_29 (by decide) rfl ?_
  refine ph_ldc2 (v := (lN 31)) (pc := 31) dX9_tellsLine_31 ph_k_RX9_266 ?_
  refine ph_lload (i := 4) (pc := 34) dX9_tellsLine_34 rfl ?_
  refine ph_lmul (pc := 36) dX9_tellsLine_36 ?_
  refine ph_aload_n (i := 0) (pc := 37) dX9_tellsLine_37 rfl rfl ?_
  refine ph_iload_n (i := 3) (pc := 38) dX9_tellsLine_38 rfl rfl ?_
  refine ph_iconst (v := (nI 0)) (pc := 39) dX9_tellsLine_39 ph_ic_0 ?_
  refine ph_callVi (pc := 40) dX9_tellsLine_40 ph_mf_yX9_oftenOf ph_ml_RX9_213 ph_mi_yX9_oftenOf ph_mv_yX9_oftenOf rfl rfl (c_X9_oftenOf Z (d - 1) (by omega) x2 (nI 0) h7) (by omega) rfl rfl (Nat.le_of_ble_eq_true rfl) (fun v8 h9 => ?_)
  refine ph_i2l (pc := 43) dX9_tellsLine_43 ?_
  refine ph_ladd (pc := 44) dX9_tellsLine_44 ?_
  refine ph_lstore (i := 4) (ls1 := [some (.ref (ph_a Z 51)), some (.long x1), none, some (.int x2), some (.long (((lN 31) * (((lN 31) * (((lN 31) * x1) + v4.toInt64)) + v6.toInt64)) + v8.toInt64)), none, none]) (pc := 45) dX9_tellsLine_45 (by decide) rfl ?_
  refine ph_ldc2 (v := (lN 31)) (pc := 47) dX9_tellsLine_47 ph_k_RX9_266 ?_
  refine ph_lload (i := 4) (pc := 50) dX9_tellsLine_50 rfl ?_
  refine ph_lmul (pc := 52) dX9_tellsLine_52 ?_
  refine ph_aload_n (i := 0) (pc := 53) dX9_tellsLine_53 rfl rfl ?_
  refine ph_iload_n (i := 3) (pc := 54) dX9_tellsLine_54 rfl rfl ?_
  refine ph_iconst (v := (nI 1)) (pc := 55) dX9_tellsLine_55 ph_ic_1 ?_
  refine ph_callVi (pc := 56) dX9_tellsLine_56 ph_mf_yX9_oftenOf ph_ml_RX9_213 ph_mi_yX9_oftenOf ph_mv_yX9_oftenOf rfl rfl (c_X9_oftenOf Z (d - 1) (by omega) x2 (nI 1) h9) (by omega) rfl rfl (Nat.le_of_ble_eq_true rfl) (fun v10 h11 => ?_)
  refine ph_i2l (pc := 59) dX9_tellsLine_59 ?_
  refine ph_ladd (pc := 60) dX9_tellsLine_60 ?_
  refine ph_lstore (i := 4) (ls1 := [some (.ref (ph_a Z 51)), some (.long x1), none, some (.int x2), some (.long (((lN 31) * (((lN 31) * (((lN 31) * (((lN 31) * x1) + v4.toInt64)) + v6.toInt64)) + v8.toInt64)) + v10.toInt64)), none, none]) (pc := 61) dX9_tellsLine_61 (by decide) rfl ?_
  refine ph_ldc2 (v := (lN 31)) (pc := 63) dX9_tellsLine_63 ph_k_RX9_266 ?_
  refine ph_lload (i := 4) (pc := 66) dX9_tellsLine_66 rfl ?_
  refine ph_lmul (pc := 68) dX9_tellsLine_68 ?_
  refine ph_aload_n (i := 0) (pc := 69) dX9_tellsLine_69 rfl rfl ?_
  refine ph_iconst (v := (nI 5)) (pc := 70) dX9_tellsLine_70 ph_ic_5 ?_
  refine ph_iconst (v := (nI 0)) (pc := 71) dX9_tellsLine_71 ph_ic_0 ?_
  refine ph_iload_n (i := 3) (pc := 72) dX9_tellsLine_72 rfl rfl ?_
  refine ph_iconst (v := (nI 5)) (pc := 73) dX9_tellsLine_73 ph_ic_5 ?_
  refine ph_iconst (v := (nI 0)) (pc := 74) dX9_tellsLine_74 ph_ic_0 ?_
  refine ph_callVl (pc := 75) dX9_tellsLine_75 ph_mf_yX9_slips ph_ml_RX9_268 ph_mi_yX9_slips ph_mv_yX9_slips rfl rfl (c_X9_slips Z (d - 1) (by omega) (nI 5) (nI 0) x2 (nI 5) (nI 0) h11) (by omega) rfl rfl (Nat.le_of_ble_eq_true rfl) (fun v12 h13 => ?_)
  refine ph_ladd (pc := 78) dX9_tellsLine_78 ?_
  refine ph_lstore (i := 4) (ls1 := [some (.ref (ph_a Z 51)), some (.long x1), none, some (.int x2), some (.long (((lN 31) * (((lN 31) * (((lN 31) * (((lN 31) * (((lN 31) * x1) + v4.toInt64)) + v6.toInt64)) + v8.toInt64)) + v10.toInt64)) + v12)), none, none]) (pc := 79) dX9_tellsLine_79 (by decide) rfl ?_
  refine ph_ldc2 (v := (lN 31)) (pc := 81) dX9_tellsLine_81 ph_k_RX9_266 ?_
  refine ph_lload (i := 4) (pc := 84) dX9_tellsLine_84 rfl ?_
  refine ph_lmul (pc := 86) dX9_tellsLine_86 ?_
  refine ph_aload_n (i := 0) (pc := 87) dX9_tellsLine_87 rfl rfl ?_
  refine ph_iconst (v := (nI 5)) (pc := 88) dX9_tellsLine_88 ph_ic_5 ?_
  refine ph_iconst (v := (nI 0)) (pc := 89) dX9_tellsLine_89 ph_ic_0 ?_
  refine ph_iload_n (i := 3) (pc := 90) dX9_tellsLine_90 rfl rfl ?_
  refine ph_iconst (v := (nI 5)) (pc := 91) dX9_tellsLine_91 ph_ic_5 ?_
  refine ph_iconst (v := (nI 1)) (pc := 92) dX9_tellsLine_92 ph_ic_1 ?_
  refine ph_callVl (pc := 93) dX9_tellsLine_93 ph_mf_yX9_slips ph_ml_RX9_268 ph_mi_yX9_slips ph_mv_yX9_slips rfl rfl (c_X9_slips Z (d - 1) (by omega) (nI 5) (nI 0) x2 (nI 5) (nI 1) h13) (by omega) rfl rfl (Nat.le_of_ble_eq_true rfl) (fun v14 h15 => ?_)
  refine ph_ladd (pc := 96) dX9_tellsLine_96 ?_
  refine ph_lstore (i := 4) (ls1 := [some (.ref (ph_a Z 51)), some (.long x1), none, some (.int x2), some (.long (((lN 31) * (((lN 31) * (((lN 31) * (((lN 31) * (((lN 31) * (((lN 31) * x1) + v4.toInt64)) + v6.toInt64)) + v8.toInt64)) + v10.toInt64)) + v12)) + v14)), none, none]) (pc := 97) dX9_tellsLine_97 (by decide) rfl ?_
  refine ph_iconst (v := (nI 0)) (pc := 99) dX9_tellsLine_99 ph_ic_0 ?_
  refine ph_istore (i := 6) (ls1 := [some (.ref (ph_a Z 51)), some (.long x1), none, some (.int x2), some (.long (((lN 31) * (((lN 31) * (((lN 31) * (((lN 31) * (((lN 31) * (((lN 31) * x1) + v4.toInt64)) + v6.toInt64)) + v8.toInt64)) + v10.toInt64)) + v12)) + v14)), none, some (.int (nI 0))]) (pc := 100) dX9_tellsLine_100 (by decide) rfl ?_
  refine ph_wk (ls1 := [some (.ref (ph_a Z 51)), none, none, some (.int x2), some (.long (((lN 31) * (((lN 31) * (((lN 31) * (((lN 31) * (((lN 31) * (((lN 31) * x1) + v4.toInt64)) + v6.toInt64)) + v8.toInt64)) + v10.toInt64)) + v12)) + v14)), none, some (.int (nI 0))]) ⟨rfl, ⟨rfl, ⟨rfl, ⟨rfl, trivial⟩⟩⟩⟩ ?_
  refine ph_loop (α := Int64 × Int32 × ph_Hp) 102 (fun x => [some (.ref (ph_a Z 51)), none, none, some (.int x2), some (.long x.1), none, some (.int x.2.1)]) (fun x => []) (fun x => x.2.2) (fun j16 hj16 x => ?_) ph_fu (((lN 31) * (((lN 31) * (((lN 31) * (((lN 31) * (((lN 31) * (((lN 31) * x1) + v4.toInt64)) + v6.toInt64)) + v8.toInt64)) + v10.toInt64)) + v12)) + v14, (nI 0), h15)
  obtain ⟨x17, x18, h19⟩ := x
  dsimp only
  refine ph_iload (i := 6) (pc := 102) dX9_tellsLine_102 rfl ?_
  refine ph_iconst (v := (nI 3)) (pc := 104) dX9_tellsLine_104 ph_ic_3 ?_
  refine ph_icmp_ge (tgt := 134) (pc := 105) dX9_tellsLine_105 (by decide) (fun c20 => ?_) (fun c20 => ?_)
  · refine ph_lload (i := 4) (pc := 134) dX9_tellsLine_134 rfl ?_
    exact ph_lret (pc := 136) dX9_tellsLine_136 rfl
  · refine ph_ldc2 (v := (lN 31)) (pc := 108) dX9_tellsLine_108 ph_k_RX9_266 ?_
    refine ph_lload (i := 4) (pc := 111) dX9_tellsLine_111 rfl ?_
    refine ph_lmul (pc := 113) dX9_tellsLine_113 ?_
    refine ph_aload_n (i := 0) (pc := 114) dX9_tellsLine_114 rfl rfl ?_
    refine ph_iconst (v := (nI 3)) (pc := 115) dX9_tellsLine_115 ph_ic_3 ?_
    refine ph_bipush (v := (nI 6)) (pc := 116) dX9_tellsLine_116 ph_bp_6 ?_
    refine ph_iload_n (i := 3) (pc := 118) dX9_tellsLine_118 rfl rfl ?_
    refine ph_iload (i := 6) (pc := 119) dX9_tellsLine_119 rfl ?_
    refine ph_callVi (pc := 121) dX9_tellsLine_121 ph_mf_yX9_promptOf ph_ml_RX9_219 ph_mi_yX9_promptOf ph_mv_yX9_promptOf rfl rfl (c_X9_promptOf Z (d - 1) (by omega) (nI 3) (nI 6) x2 x18 h19) (by omega) rfl rfl (Nat.le_of_ble_eq_true rfl) (fun v21 h22 => ?_)
    refine ph_i2l (pc := 124) dX9_tellsLine_124 ?_
    refine ph_ladd (pc := 125) dX9_tellsLine_125 ?_
    refine ph_lstore (i := 4) (ls1 := [some (.ref (ph_a Z 51)), none, none, some (.int x2), some (.long (((lN 31) * x17) + v21.toInt64)), none, some (.int x18)]) (pc := 126) dX9_tellsLine_126 (by decide) rfl ?_
    refine ph_iinc (i := 6) (v := (nI 1)) (ls1 := [some (.ref (ph_a Z 51)), none, none, some (.int x2), some (.long (((lN 31) * x17) + v21.toInt64)), none, some (.int (x18 + (nI 1)))]) (pc := 128) dX9_tellsLine_128 rfl ph_ic_1 (by decide) rfl ?_
    refine ph_goto (tgt := 102) (pc := 131) dX9_tellsLine_131 (by decide) ?_
    exact hj16 (((lN 31) * x17) + v21.toInt64, x18 + (nI 1), h22)
def f_X9_digest (h : ph_Hp) : Option (Int64 × ph_Hp) :=
  ph_lp (α := Int64 × Int32 × ph_Hp) (fun j2 (x3, x4, h5) =>
    if (nI 8) ≤ x4 then
      ph_cl (f_X9_readsPlay h5) fun v7 h8 =>
      ph_cl (f_X9_readsHoles h8) fun v9 h10 =>
      ph_cl (f_X9_find h10) fun _ h12 =>
      ph_lp (α := Int64 × Int32 × ph_Hp) (fun j13 (x14, x15, h16) =>
        if (nI 8) ≤ x15 then
          ph_lp (α := Int64 × Int32 × ph_Hp) (fun j18 (x19, x20, h21) =>
            if (h21.1 51 9) ≤ x20 then
              ph_lp (α := Int64 × Int32 × ph_Hp) (fun j23 (x24, x25, h26) =>
                if (nI 5) ≤ x25 then
                  ph_cl (f_X9_driftOf (nI 0) h26) fun v28 h29 =>
                  ph_cl (f_X9_driftOf (nI 1) h29) fun v30 h31 =>
                  ph_cl (f_X9_roundNow h31) fun v32 h33 =>
                  ph_cl (f_X9_filedNow h33) fun v34 h35 =>
                  some (((lN 31) * (((lN 31) * (((lN 31) * (((lN 31) * x24) + v28.toInt64)) + v30.toInt64)) + v32.toInt64)) + v34.toInt64, h35)
                else
                  ph_jn (α := Int32) (fun x37 =>
                    ph_lp (α := Int64 × Int32 × ph_Hp) (fun j38 (x39, x40, h41) =>
                      if (nI 4) ≤ x40 then
                        ph_cl (f_X9_mayOf (nI 3) x37 h41) fun v43 h44 =>
                        ph_cl (f_X9_eveningOf (nI 7) x37 (nI 0) h44) fun v45 h46 =>
                        ph_cl (f_X9_eveningOf (nI 7) x37 (nI 1) h46) fun v47 h48 =>
                        j23 (((lN 31) * (((lN 31) * (((lN 31) * x39) + v43.toInt64)) + v45.toInt64)) + v47.toInt64, x25 + (nI 1), h48)
                      else
                        ph_cl (f_X9_stepOf x37 x40 h41) fun v49 h50 =>
                        j38 (((lN 31) * x39) + v49.toInt64, x40 + (nI 1), h50)) ph_fu (x24, (nI 0), h26)) (fun j36 =>
                    if (nI 3) ≤ x25 then
                      if x25 = (nI 3) then
                        j36 (nI 9)
                      else
                        j36 (nI 39)
                    else
                      j36 x25)) ph_fu (x19, (nI 0), h21)
            else
              ph_lp (α := Int64 × Int32) (fun j53 (x54, x55) =>
                if (nI 4) ≤ x55 then
                  ph_cl (f_X9_whispersNow (nI 3) x20 h21) fun v57 h58 =>
                  ph_cl (f_X9_coughedOf x20 h58) fun v59 h60 =>
                  ph_cl (f_X9_askOf x20 h60) fun v61 h62 =>
                  j18 (((lN 31) * (((lN 31) * (((lN 31) * x54) + v57.toInt64)) + v59.toInt64)) + v61.toInt64, x20 + (nI 1), h62)
                else
                  ph_ldI h21 59 36 (((nI 4) * x20) + x55) fun v63 =>
                  j53 (((lN 31) * x54) + v63.toInt64, x55 + (nI 1))) ph_fu (x19, (nI 0))) ph_fu (x14, (nI 0), h16)
        else
          ph_cl (f_X9_tellsLine x14 x15 h16) fun v64 h65 =>
          j13 (v64, x15 + (nI 1), h65)) ph_fu (((lN 31) * (((lN 31) * x3) + v7.toInt64)) + v9.toInt64, (nI 0), h12)
    else
      ph_cl (f_X9_count x4 h5) fun v66 h67 =>
      j2 (((lN 31) * x3) + v66.toInt64, x4 + (nI 1), h67)) ph_fu ((lN 17), (nI 0), h)
set_option maxRecDepth 100000 in
theorem c_X9_digest (Z : ph_L) (d : Nat) (hdd : 10 ≤ d) (h : ph_Hp) : ph_CM Z yX9_digest cX9_digest 6 (some .long) d [.ref (ph_a Z 51)] ph_vl h (f_X9_digest h) := by
  refine ph_begin (own := RX9) ph_mf_yX9_digest rfl (ls := [some (.ref (ph_a Z 51)), none, none, none, none, none]) rfl (Nat.le_of_ble_eq_true rfl) ?_
  unfold f_X9_digest
  refine ph_ldc2 (v := (lN 17)) (pc := 0) dX9_digest_0 ph_k_RX9_271 ?_
  refine ph_lstore_n (i := 1) (ls1 := [some (.ref (ph_a Z 51)), some (.long (lN 17)), none, none, none, none]) (pc := 3) dX9_digest_3 rfl (by decide) rfl ?_
  refine ph_iconst (v := (nI 0)) (pc := 4) dX9_digest_4 ph_ic_0 ?_
  refine ph_istore_n (i := 3) (ls1 := [some (.ref (ph_a Z 51)), some (.long (lN 17)), none, some (.int (nI 0)), none, none]) (pc := 5) dX9_digest_5 rfl (by decide) rfl ?_
  refine ph_loop (α := Int64 × Int32 × ph_Hp) 6 (fun x => [some (.ref (ph_a Z 51)), some (.long x.1), none, some (.int x.2.1), none, none]) (fun x => []) (fun x => x.2.2) (fun j2 hj2 x => ?_) ph_fu ((lN 17), (nI 0), h)
  obtain ⟨x3, x4, h5⟩ := x
  dsimp only
  refine ph_iload_n (i := 3) (pc := 6) dX9_digest_6 rfl rfl ?_
  refine ph_bipush (v := (nI 8)) (pc := 7) dX9_digest_7 ph_bp_8 ?_
  refine ph_icmp_ge (tgt := 31) (pc := 9) dX9_digest_9 (by decide) (fun c6 => ?_) (fun c6 => ?_)
  · refine ph_ldc2 (v := (lN 31)) (pc := 31) dX9_digest_31 ph_k_RX9_266 ?_
    refine ph_lload_n (i := 1) (pc := 34) dX9_digest_34 rfl rfl ?_
    refine ph_lmul (pc := 35) dX9_digest_35 ?_
    refine ph_aload_n (i := 0) (pc := 36) dX9_digest_36 rfl rfl ?_
    refine ph_callVi (pc := 37) dX9_digest_37 ph_mf_yX9_readsPlay ph_ml_RX9_119 ph_mi_yX9_readsPlay ph_mv_yX9_readsPlay rfl rfl (c_X9_readsPlay Z (d - 1) (by omega) h5) (by omega) rfl rfl (Nat.le_of_ble_eq_true rfl) (fun v7 h8 => ?_)
    refine ph_i2l (pc := 40) dX9_digest_40 ?_
    refine ph_ladd (pc := 41) dX9_digest_41 ?_
    refine ph_lstore_n (i := 1) (ls1 := [some (.ref (ph_a Z 51)), some (.long (((lN 31) * x3) + v7.toInt64)), none, some (.int x4), none, none]) (pc := 42) dX9_digest_42 rfl (by decide) rfl ?_
    refine ph_ldc2 (v := (lN 31)) (pc := 43) dX9_digest_43 ph_k_RX9_266 ?_
    refine ph_lload_n (i := 1) (pc := 46) dX9_digest_46 rfl rfl ?_
    refine ph_lmul (pc := 47) dX9_digest_47 ?_
    refine ph_aload_n (i := 0) (pc := 48) dX9_digest_48 rfl rfl ?_
    refine ph_callVi (pc := 49) dX9_digest_49 ph_mf_yX9_readsHoles ph_ml_RX9_123 ph_mi_yX9_readsHoles ph_mv_yX9_readsHoles rfl rfl (c_X9_readsHoles Z (d - 1) (by omega) h8) (by omega) rfl rfl (Nat.le_of_ble_eq_true rfl) (fun v9 h10 => ?_)
    refine ph_i2l (pc := 52) dX9_digest_52 ?_
    refine ph_ladd (pc := 53) dX9_digest_53 ?_
    refine ph_lstore_n (i := 1) (ls1 := [some (.ref (ph_a Z 51)), some (.long (((lN 31) * (((lN 31) * x3) + v7.toInt64)) + v9.toInt64)), none, some (.int x4), none, none]) (pc := 54) dX9_digest_54 rfl (by decide) rfl ?_
    refine ph_aload_n (i := 0) (pc := 55) dX9_digest_55 rfl rfl ?_
    refine ph_callVv (pc := 56) dX9_digest_56 ph_mf_yX9_find ph_ml_RX9_198 ph_mi_yX9_find ph_mv_yX9_find rfl rfl (c_X9_find Z (d - 1) (by omega) h10) (by omega) rfl rfl (Nat.le_of_ble_eq_true rfl) (fun v11 h12 => ?_)
    refine ph_iconst (v := (nI 0)) (pc := 59) dX9_digest_59 ph_ic_0 ?_
    refine ph_istore_n (i := 3) (ls1 := [some (.ref (ph_a Z 51)), some (.long (((lN 31) * (((lN 31) * x3) + v7.toInt64)) + v9.toInt64)), none, some (.int (nI 0)), none, none]) (pc := 60) dX9_digest_60 rfl (by decide) rfl ?_
    refine ph_loop (α := Int64 × Int32 × ph_Hp) 61 (fun x => [some (.ref (ph_a Z 51)), some (.long x.1), none, some (.int x.2.1), none, none]) (fun x => []) (fun x => x.2.2) (fun j13 hj13 x => ?_) ph_fu (((lN 31) * (((lN 31) * x3) + v7.toInt64)) + v9.toInt64, (nI 0), h12)
    obtain ⟨x14, x15, h16⟩ := x
    dsimp only
    refine ph_iload_n (i := 3) (pc := 61) dX9_digest_61 rfl rfl ?_
    refine ph_bipush (v := (nI 8)) (pc := 62) dX9_digest_62 ph_bp_8 ?_
    refine ph_icmp_ge (tgt := 80) (pc := 64) dX9_digest_64 (by decide) (fun c17 => ?_) (fun c17 => ?_)
    · refine ph_iconst (v := (nI 0)) (pc := 80) dX9_digest_80 ph_ic_0 ?_
      refine ph_istore_n (i := 3) (ls1 := [some (.ref (ph_a Z 51)), some (.long x14), none, some (.int (nI 0)), none, none]) (pc := 81) dX9_digest_81 rfl (by decide) rfl ?_
      refine ph_loop (α := Int64 × Int32 × ph_Hp) 82 (fun x => [some (.ref (ph_a Z 51)), some (.long x.1), none, some (.int x.2.1), none, none]) (fun x => []) (fun x => x.2.2) (fun j18 hj18 x => ?_) ph_fu (x14, (nI 0), h16)
      obtain ⟨x19, x20, h21⟩ := x
      dsimp only
      refine ph_iload_n (i := 3) (pc := 82) dX9_digest_82 rfl rfl ?_
      refine ph_aload_n (i := 0) (pc := 83) dX9_digest_83 rfl rfl ?_
      refine ph_getI (pc := 84) dX9_digest_84 ph_fl_RX9_113 rfl (by decide) ?_
      refine ph_icmp_ge (tgt := 170) (pc := 87) dX9_digest_87 (by decide) (fun c22 => ?_) (fun c22 => ?_)
      · refine ph_iconst (v := (nI 0)) (pc := 170) dX9_digest_170 ph_ic_0 ?_
        refine ph_istore_n (i := 3) (ls1 := [some (.ref (ph_a Z 51)), some (.long x19), none, some (.int (nI 0)), none, none]) (pc := 171) dX9_digest_171 rfl (by decide) rfl ?_
        refine ph_loop (α := Int64 × Int32 × ph_Hp) 172 (fun x => [some (.ref (ph_a Z 51)), some (.long x.1), none, some (.int x.2.1), none, none]) (fun x => []) (fun x => x.2.2) (fun j23 hj23 x => ?_) ph_fu (x19, (nI 0), h21)
        obtain ⟨x24, x25, h26⟩ := x
        dsimp only
        refine ph_iload_n (i := 3) (pc := 172) dX9_digest_172 rfl rfl ?_
        refine ph_iconst (v := (nI 5)) (pc := 173) dX9_digest_173 ph_ic_5 ?_
        refine ph_icmp_ge (tgt := 286) (pc := 174) dX9_digest_174 (by decide) (fun c27 => ?_) (fun c27 => ?_)
        · refine ph_ldc2 (v := (lN 31)) (pc := 286) dX9_digest_286 ph_k_RX9_266 ?_
          refine ph_lload_n (i := 1) (pc := 289) dX9_digest_289 rfl rfl ?_
          refine ph_lmul (pc := 290) dX9_digest_290 ?_
          refine ph_aload_n (i := 0) (pc := 291) dX9_digest_291 rfl rfl ?_
          refine ph_iconst (v := (nI 0)) (pc := 292) dX9_digest_292 ph_ic_0 ?_
          refine ph_callVi (pc := 293) dX9_digest_293 ph_mf_yX9_driftOf ph_ml_RX9_207 ph_mi_yX9_driftOf ph_mv_yX9_driftOf rfl rfl (c_X9_driftOf Z (d - 1) (by omega) (nI 0) h26) (by omega) rfl rfl (Nat.le_of_ble_eq_true rfl) (fun v28 h29 => ?_)
          refine ph_i2l (pc := 296) dX9_digest_296 ?_
          refine ph_ladd (pc := 297) dX9_digest_297 ?_
          refine ph_lstore_n (i := 1) (ls1 := [some (.ref (ph_a Z 51)), some (.long (((lN 31) * x24) + v28.toInt64)), none, some (.int x25), none, none]) (pc := 298) dX9_digest_298 rfl (by decide) rfl ?_
          refine ph_ldc2 (v := (lN 31)) (pc := 299) dX9_digest_299 ph_k_RX9_266 ?_
          refine ph_lload_n (i := 1) (pc := 302) dX9_digest_302 rfl rfl ?_
          refine ph_lmul (pc := 303) dX9_digest_303 ?_
          refine ph_aload_n (i := 0) (pc := 304) dX9_digest_304 rfl rfl ?_
          refine ph_iconst (v := (nI 1)) (pc := 305) dX9_digest_305 ph_ic_1 ?_
          refine ph_callVi (pc := 306) dX9_digest_306 ph_mf_yX9_driftOf ph_ml_RX9_207 ph_mi_yX9_driftOf ph_mv_yX9_driftOf rfl rfl (c_X9_driftOf Z (d - 1) (by omega) (nI 1) h29) (by omega) rfl rfl (Nat.le_of_ble_eq_true rfl) (fun v30 h31 => ?_)
          refine ph_i2l (pc := 309) dX9_digest_309 ?_
          refine ph_ladd (pc := 310) dX9_digest_310 ?_
          refine ph_lstore_n (i := 1) (ls1 := [some (.ref (ph_a Z 51)), some (.long (((lN 31) * (((lN 31) * x24) + v28.toInt64)) + v30.toInt64)), none, some (.int x25), none, none]) (pc := 311) dX9_digest_311 rfl (by decide) rfl ?_
          refine ph_ldc2 (v := (lN 31)) (pc := 312) dX9_digest_312 ph_k_RX9_266 ?_
          refine ph_lload_n (i := 1) (pc := 315) dX9_digest_315 rfl rfl ?_
          refine ph_lmul (pc := 316) dX9_digest_316 ?_
          refine ph_aload_n (i := 0) (pc := 317) dX9_digest_317 rfl rfl ?_
          refine ph_callVi (pc := 318) dX9_digest_318 ph_mf_yX9_roundNow ph_ml_RX9_210 ph_mi_yX9_roundNow ph_mv_yX9_roundNow rfl rfl (c_X9_roundNow Z (d - 1) (by omega) h31) (by omega) rfl rfl (Nat.le_of_ble_eq_true rfl) (fun v32 h33 => ?_)
          refine ph_i2l (pc := 321) dX9_digest_321 ?_
          refine ph_ladd (pc := 322) dX9_digest_322 ?_
          refine ph_lstore_n (i := 1) (ls1 := [some (.ref (ph_a Z 51)), some (.long (((lN 31) * (((lN 31) * (((lN 31) * x24) + v28.toInt64)) + v30.toInt64)) + v32.toInt64)), none, some (.int x25), none, none]) (pc := 323) dX9_digest_323 rfl (by decide) rfl ?_
          refine ph_ldc2 (v := (lN 31)) (pc := 324) dX9_digest_324 ph_k_RX9_266 ?_
          refine ph_lload_n (i := 1) (pc := 327) dX9_digest_327 rfl rfl ?_
          refine ph_lmul (pc := 328) dX9_digest_328 ?_
          refine ph_aload_n (i := 0) (pc := 329) dX9_digest_329 rfl rfl ?_
          refine ph_callVi (pc := 330) dX9_digest_330 ph_mf_yX9_filedNow ph_ml_RX9_230 ph_mi_yX9_filedNow ph_mv_yX9_filedNow rfl rfl (c_X9_filedNow Z (d - 1) (by omega) h33) (by omega) rfl rfl (Nat.le_of_ble_eq_true rfl) (fun v34 h35 => ?_)
          refine ph_i2l (pc := 333) dX9_digest_333 ?_
          refine ph_ladd (pc := 334) dX9_digest_334 ?_
          exact ph_lret (pc := 335) dX9_digest_335 rfl
        · refine ph_iload_n (i := 3) (pc := 177) dX9_digest_177 rfl rfl ?_
          refine ph_iconst (v := (nI 3)) (pc := 178) dX9_digest_178 ph_ic_3 ?_
          refine ph_join (α := Int32) 198 (fun x => [some (.ref (ph_a Z 51)), some (.long x24), none, some (.int x25), none, none]) (fun x => [.int x]) (fun x => h26) (fun x => ?_) (fun j36 hj36 => ?_)
          · revert x; intro x37
            refine ph_istore (i := 4) (ls1 := [some (.ref (ph_a Z 51)), some (.long x24), none, some (.int x25), some (.int x37), none]) (pc := 198) dX9_digest_198 (by decide) rfl ?_
            refine ph_iconst (v := (nI 0)) (pc := 200) dX9_digest_200 ph_ic_0 ?_
            refine ph_istore (i := 5) (ls1 := [some (.ref (ph_a Z 51)), some (.long x24), none, some (.int x25), some (.int x37), some (.int (nI 0))]) (pc := 201) dX9_digest_201 (by decide) rfl ?_
            refine ph_loop (α := Int64 × Int32 × ph_Hp) 203 (fun x => [some (.ref (ph_a Z 51)), some (.long x.1), none, some (.int x25), some (.int x37), some (.int x.2.1)]) (fun x => []) (fun x => x.2.2) (fun j38 hj38 x => ?_) ph_fu (x24, (nI 0), h26)
            obtain ⟨x39, x40, h41⟩ := x
            dsimp only
            refine ph_iload (i := 5) (pc := 203) dX9_digest_203 rfl ?_
            refine ph_iconst (v := (nI 4)) (pc := 205) dX9_digest_205 ph_ic_4 ?_
            refine ph_icmp_ge (tgt := 231) (pc := 206) dX9_digest_206 (by decide) (fun c42 => ?_) (fun c42 => ?_)
            · refine ph_ldc2 (v := (lN 31)) (pc := 231) dX9_digest_231 ph_k_RX9_266 ?_
              refine ph_lload_n (i := 1) (pc := 234) dX9_digest_234 rfl rfl ?_
              refine ph_lmul (pc := 235) dX9_digest_235 ?_
              refine ph_aload_n (i := 0) (pc := 236) dX9_digest_236 rfl rfl ?_
              refine ph_iconst (v := (nI 3)) (pc := 237) dX9_digest_237 ph_ic_3 ?_
              refine ph_iload (i := 4) (pc := 238) dX9_digest_238 rfl ?_
              refine ph_callVi (pc := 240) dX9_digest_240 ph_mf_yX9_mayOf ph_ml_RX9_216 ph_mi_yX9_mayOf ph_mv_yX9_mayOf rfl rfl (c_X9_mayOf Z (d - 1) (by omega) (nI 3) x37 h41) (by omega) rfl rfl (Nat.le_of_ble_eq_true rfl) (fun v43 h44 => ?_)
              refine ph_i2l (pc := 243) dX9_digest_243 ?_
              refine ph_ladd (pc := 244) dX9_digest_244 ?_
              refine ph_lstore_n (i := 1) (ls1 := [some (.ref (ph_a Z 51)), some (.long (((lN 31) * x39) + v43.toInt64)), none, some (.int x25), some (.int x37), some (.int x40)]) (pc := 245) dX9_digest_245 rfl (by decide) rfl ?_
              refine ph_ldc2 (v := (lN 31)) (pc := 246) dX9_digest_246 ph_k_RX9_266 ?_
              refine ph_lload_n (i := 1) (pc := 249) dX9_digest_249 rfl rfl ?_
              refine ph_lmul (pc := 250) dX9_digest_250 ?_
              refine ph_aload_n (i := 0) (pc := 251) dX9_digest_251 rfl rfl ?_
              refine ph_bipush (v := (nI 7)) (pc := 252) dX9_digest_252 ph_bp_7 ?_
              refine ph_iload (i := 4) (pc := 254) dX9_digest_254 rfl ?_
              refine ph_iconst (v := (nI 0)) (pc := 256) dX9_digest_256 ph_ic_0 ?_
              refine ph_callVi (pc := 257) dX9_digest_257 ph_mf_yX9_eveningOf ph_ml_RX9_260 ph_mi_yX9_eveningOf ph_mv_yX9_eveningOf rfl rfl (c_X9_eveningOf Z (d - 1) (by omega) (nI 7) x37 (nI 0) h44) (by omega) rfl rfl (Nat.le_of_ble_eq_true rfl) (fun v45 h46 => ?_)
              refine ph_i2l (pc := 260) dX9_digest_260 ?_
              refine ph_ladd (pc := 261) dX9_digest_261 ?_
              refine ph_lstore_n (i := 1) (ls1 := [some (.ref (ph_a Z 51)), some (.long (((lN 31) * (((lN 31) * x39) + v43.toInt64)) + v45.toInt64)), none, some (.int x25), some (.int x37), some (.int x40)]) (pc := 262) dX9_digest_262 rfl (by decide) rfl ?_
              refine ph_ldc2 (v := (lN 31)) (pc := 263) dX9_digest_263 ph_k_RX9_266 ?_
              refine ph_lload_n (i := 1) (pc := 266) dX9_digest_266 rfl rfl ?_
              refine ph_lmul (pc := 267) dX9_digest_267 ?_
              refine ph_aload_n (i := 0) (pc := 268) dX9_digest_268 rfl rfl ?_
              refine ph_bipush (v := (nI 7)) (pc := 269) dX9_digest_269 ph_bp_7 ?_
              refine ph_iload (i := 4) (pc := 271) dX9_digest_271 rfl ?_
              refine ph_iconst (v := (nI 1)) (pc := 273) dX9_digest_273 ph_ic_1 ?_
              refine ph_callVi (pc := 274) dX9_digest_274 ph_mf_yX9_eveningOf ph_ml_RX9_260 ph_mi_yX9_eveningOf ph_mv_yX9_eveningOf rfl rfl (c_X9_eveningOf Z (d - 1) (by omega) (nI 7) x37 (nI 1) h46) (by omega) rfl rfl (Nat.le_of_ble_eq_true rfl) (fun v47 h48 => ?_)
              refine ph_i2l (pc := 277) dX9_digest_277 ?_
              refine ph_ladd (pc := 278) dX9_digest_278 ?_
              refine ph_lstore_n (i := 1) (ls1 := [some (.ref (ph_a Z 51)), some (.long (((lN 31) * (((lN 31) * (((lN 31) * x39) + v43.toInt64)) + v45.toInt64)) + v47.toInt64)), none, some (.int x25), some (.int x37), some (.int x40)]) (pc := 279) dX9_digest_279 rfl (by decide) rfl ?_
              refine ph_iinc (i := 3) (v := (nI 1)) (ls1 := [some (.ref (ph_a Z 51)), some (.long (((lN 31) * (((lN 31) * (((lN 31) * x39) + v43.toInt64)) + v45.toInt64)) + v47.toInt64)), none, some (.int (x25 + (nI 1))), some (.int x37), some (.int x40)]) (pc := 280) dX9_digest_280 rfl ph_ic_1 (by decide) rfl ?_
              refine ph_goto (tgt := 172) (pc := 283) dX9_digest_283 (by decide) ?_
              refine ph_wk (ls1 := [some (.ref (ph_a Z 51)), some (.long (((lN 31) * (((lN 31) * (((lN 31) * x39) + v43.toInt64)) + v45.toInt64)) + v47.toInt64)), none, some (.int (x25 + (nI 1))), none, none]) ⟨rfl, ⟨rfl, ⟨rfl, trivial⟩⟩⟩ ?_
              exact hj23 (((lN 31) * (((lN 31) * (((lN 31) * x39) + v43.toInt64)) + v45.toInt64)) + v47.toInt64, x25 + (nI 1), h48)
            · refine ph_ldc2 (v := (lN 31)) (pc := 209) dX9_digest_209 ph_k_RX9_266 ?_
              refine ph_lload_n (i := 1) (pc := 212) dX9_digest_212 rfl rfl ?_
              refine ph_lmul (pc := 213) dX9_digest_213 ?_
              refine ph_aload_n (i := 0) (pc := 214) dX9_digest_214 rfl rfl ?_
              refine ph_iload (i := 4) (pc := 215) dX9_digest_215 rfl ?_
              refine ph_iload (i := 5) (pc := 217) dX9_digest_217 rfl ?_
              refine ph_callVi (pc := 219) dX9_digest_219 ph_mf_yX9_stepOf ph_ml_RX9_201 ph_mi_yX9_stepOf ph_mv_yX9_stepOf rfl rfl (c_X9_stepOf Z (d - 1) (by omega) x37 x40 h41) (by omega) rfl rfl (Nat.le_of_ble_eq_true rfl) (fun v49 h50 => ?_)
              refine ph_i2l (pc := 222) dX9_digest_222 ?_
              refine ph_ladd (pc := 223) dX9_digest_223 ?_
              refine ph_lstore_n (i := 1) (ls1 := [some (.ref (ph_a Z 51)), some (.long (((lN 31) * x39) + v49.toInt64)), none, some (.int x25), some (.int x37), some (.int x40)]) (pc := 224) dX9_digest_224 rfl (by decide) rfl ?_
              refine ph_iinc (i := 5) (v := (nI 1)) (ls1 := [some (.ref (ph_a Z 51)), some (.long (((lN 31) * x39) + v49.toInt64)), none, some (.int x25), some (.int x37), some (.int (x40 + (nI 1)))]) (pc := 225) dX9_digest_225 rfl ph_ic_1 (by decide) rfl ?_
              refine ph_goto (tgt := 203) (pc := 228) dX9_digest_228 (by decide) ?_
              exact hj38 (((lN 31) * x39) + v49.toInt64, x40 + (nI 1), h50)
          · refine ph_icmp_ge (tgt := 186) (pc := 179) dX9_digest_179 (by decide) (fun c51 => ?_) (fun c51 => ?_)
            · refine ph_iload_n (i := 3) (pc := 186) dX9_digest_186 rfl rfl ?_
              refine ph_iconst (v := (nI 3)) (pc := 187) dX9_digest_187 ph_ic_3 ?_
              refine ph_icmp_ne (tgt := 196) (pc := 188) dX9_digest_188 (by decide) (fun c52 => ?_) (fun c52 => ?_)
              · refine ph_bipush (v := (nI 39)) (pc := 196) dX9_digest_196 ph_bp_39 ?_
                exact hj36 (nI 39)
              · refine ph_bipush (v := (nI 9)) (pc := 191) dX9_digest_191 ph_bp_9 ?_
                refine ph_goto (tgt := 198) (pc := 193) dX9_digest_193 (by decide) ?_
                exact hj36 (nI 9)
            · refine ph_iload_n (i := 3) (pc := 182) dX9_digest_182 rfl rfl ?_
              refine ph_goto (tgt := 198) (pc := 183) dX9_digest_183 (by decide) ?_
              exact hj36 x25
      · refine ph_iconst (v := (nI 0)) (pc := 90) dX9_digest_90 ph_ic_0 ?_
        refine ph_istore (i := 4) (ls1 := [some (.ref (ph_a Z 51)), some (.long x19), none, some (.int x20), some (.int (nI 0)), none]) (pc := 91) dX9_digest_91 (by decide) rfl ?_
        refine ph_loop (α := Int64 × Int32) 93 (fun x => [some (.ref (ph_a Z 51)), some (.long x.1), none, some (.int x20), some (.int x.2), none]) (fun x => []) (fun x => h21) (fun j53 hj53 x => ?_) ph_fu (x19, (nI 0))
        obtain ⟨x54, x55⟩ := x
        dsimp only
        refine ph_iload (i := 4) (pc := 93) dX9_digest_93 rfl ?_
        refine ph_iconst (v := (nI 4)) (pc := 95) dX9_digest_95 ph_ic_4 ?_
        refine ph_icmp_ge (tgt := 124) (pc := 96) dX9_digest_96 (by decide) (fun c56 => ?_) (fun c56 => ?_)
        · refine ph_ldc2 (v := (lN 31)) (pc := 124) dX9_digest_124 ph_k_RX9_266 ?_
          refine ph_lload_n (i := 1) (pc := 127) dX9_digest_127 rfl rfl ?_
          refine ph_lmul (pc := 128) dX9_digest_128 ?_
          refine ph_aload_n (i := 0) (pc := 129) dX9_digest_129 rfl rfl ?_
          refine ph_iconst (v := (nI 3)) (pc := 130) dX9_digest_130 ph_ic_3 ?_
          refine ph_iload_n (i := 3) (pc := 131) dX9_digest_131 rfl rfl ?_
          refine ph_callVi (pc := 132) dX9_digest_132 ph_mf_yX9_whispersNow ph_ml_RX9_181 ph_mi_yX9_whispersNow ph_mv_yX9_whispersNow rfl rfl (c_X9_whispersNow Z (d - 1) (by omega) (nI 3) x20 h21) (by omega) rfl rfl (Nat.le_of_ble_eq_true rfl) (fun v57 h58 => ?_)
          refine ph_i2l (pc := 135) dX9_digest_135 ?_
          refine ph_ladd (pc := 136) dX9_digest_136 ?_
          refine ph_lstore_n (i := 1) (ls1 := [some (.ref (ph_a Z 51)), some (.long (((lN 31) * x54) + v57.toInt64)), none, some (.int x20), some (.int x55), none]) (pc := 137) dX9_digest_137 rfl (by decide) rfl ?_
          refine ph_ldc2 (v := (lN 31)) (pc := 138) dX9_digest_138 ph_k_RX9_266 ?_
          refine ph_lload_n (i := 1) (pc := 141) dX9_digest_141 rfl rfl ?_
          refine ph_lmul (pc := 142) dX9_digest_142 ?_
          refine ph_aload_n (i := 0) (pc := 143) dX9_digest_143 rfl rfl ?_
          refine ph_iload_n (i := 3) (pc := 144) dX9_digest_144 rfl rfl ?_
          refine ph_callVi (pc := 145) dX9_digest_145 ph_mf_yX9_coughedOf ph_ml_RX9_233 ph_mi_yX9_coughedOf ph_mv_yX9_coughedOf rfl rfl (c_X9_coughedOf Z (d - 1) (by omega) x20 h58) (by omega) rfl rfl (Nat.le_of_ble_eq_true rfl) (fun v59 h60 => ?_)
          refine ph_i2l (pc := 148) dX9_digest_148 ?_
          refine ph_ladd (pc := 149) dX9_digest_149 ?_
          refine ph_lstore_n (i := 1) (ls1 := [some (.ref (ph_a Z 51)), some (.long (((lN 31) * (((lN 31) * x54) + v57.toInt64)) + v59.toInt64)), none, some (.int x20), some (.int x55), none]) (pc := 150) dX9_digest_150 rfl (by decide) rfl ?_
          refine ph_ldc2 (v := (lN 31)) (pc := 151) dX9_digest_151 ph_k_RX9_266 ?_
          refine ph_lload_n (i := 1) (pc := 154) dX9_digest_154 rfl rfl ?_
          refine ph_lmul (pc := 155) dX9_digest_155 ?_
          refine ph_aload_n (i := 0) (pc := 156) dX9_digest_156 rfl rfl ?_
          refine ph_iload_n (i := 3) (pc := 157) dX9_digest_157 rfl rfl ?_
          refine ph_callVi (pc := 158) dX9_digest_158 ph_mf_yX9_askOf ph_ml_RX9_236 ph_mi_yX9_askOf ph_mv_yX9_askOf rfl rfl (c_X9_askOf Z (d - 1) (by omega) x20 h60) (by omega) rfl rfl (Nat.le_of_ble_eq_true rfl) (fun v61 h62 => ?_)
          refine ph_i2l (pc := 161) dX9_digest_161 ?_
          refine ph_ladd (pc := 162) dX9_digest_162 ?_
          refine ph_lstore_n (i := 1) (ls1 := [some (.ref (ph_a Z 51)), some (.long (((lN 31) * (((lN 31) * (((lN 31) * x54) + v57.toInt64)) + v59.toInt64)) + v61.toInt64)), none, some (.int x20), some (.int x55), none]) (pc := 163) dX9_digest_163 rfl (by decide) rfl ?_
          refine ph_iinc (i := 3) (v := (nI 1)) (ls1 := [some (.ref (ph_a Z 51)), some (.long (((lN 31) * (((lN 31) * (((lN 31) * x54) + v57.toInt64)) + v59.toInt64)) + v61.toInt64)), none, some (.int (x20 + (nI 1))), some (.int x55), none]) (pc := 164) dX9_digest_164 rfl ph_ic_1 (by decide) rfl ?_
          refine ph_goto (tgt := 82) (pc := 167) dX9_digest_167 (by decide) ?_
          refine ph_wk (ls1 := [some (.ref (ph_a Z 51)), some (.long (((lN 31) * (((lN 31) * (((lN 31) * x54) + v57.toInt64)) + v59.toInt64)) + v61.toInt64)), none, some (.int (x20 + (nI 1))), none, none]) ⟨rfl, ⟨rfl, ⟨rfl, trivial⟩⟩⟩ ?_
          exact hj18 (((lN 31) * (((lN 31) * (((lN 31) * x54) + v57.toInt64)) + v59.toInt64)) + v61.toInt64, x20 + (nI 1), h62)
        · refine ph_ldc2 (v := (lN 31)) (pc := 99) dX9_digest_99 ph_k_RX9_266 ?_
          refine ph_lload_n (i := 1) (pc := 102) dX9_digest_102 rfl rfl ?_
          refine ph_lmul (pc := 103) dX9_digest_103 ?_
          refine ph_aload_n (i := 0) (pc := 104) dX9_digest_104 rfl rfl ?_
          refine ph_getR (j := 59) (pc := 105) dX9_digest_105 ph_fl_RX9_31 rfl rfl rfl ?_
          refine ph_iconst (v := (nI 4)) (pc := 108) dX9_digest_108 ph_ic_4 ?_
          refine ph_iload_n (i := 3) (pc := 109) dX9_digest_109 rfl rfl ?_
          refine ph_imul (pc := 110) dX9_digest_110 ?_
          refine ph_iload (i := 4) (pc := 111) dX9_digest_111 rfl ?_
          refine ph_iadd (pc := 113) dX9_digest_113 ?_
          refine ph_iald (pc := 114) dX9_digest_114 rfl rfl (fun v63 => ?_)
          refine ph_i2l (pc := 115) dX9_digest_115 ?_
          refine ph_ladd (pc := 116) dX9_digest_116 ?_
          refine ph_lstore_n (i := 1) (ls1 := [some (.ref (ph_a Z 51)), some (.long (((lN 31) * x54) + v63.toInt64)), none, some (.int x20), some (.int x55), none]) (pc := 117) dX9_digest_117 rfl (by decide) rfl ?_
          refine ph_iinc (i := 4) (v := (nI 1)) (ls1 := [some (.ref (ph_a Z 51)), some (.long (((lN 31) * x54) + v63.toInt64)), none, some (.int x20), some (.int (x55 + (nI 1))), none]) (pc := 118) dX9_digest_118 rfl ph_ic_1 (by decide) rfl ?_
          refine ph_goto (tgt := 93) (pc := 121) dX9_digest_121 (by decide) ?_
          exact hj53 (((lN 31) * x54) + v63.toInt64, x55 + (nI 1))
    · refine ph_aload_n (i := 0) (pc := 67) dX9_digest_67 rfl rfl ?_
      refine ph_lload_n (i := 1) (pc := 68) dX9_digest_68 rfl rfl ?_
      refine ph_iload_n (i := 3) (pc := 69) dX9_digest_69 rfl rfl ?_
      refine ph_callVl (pc := 70) dX9_digest_70 ph_mf_yX9_tellsLine ph_ml_RX9_276 ph_mi_yX9_tellsLine ph_mv_yX9_tellsLine rfl rfl (c_X9_tellsLine Z (d - 1) (by omega) x14 x15 h16) (by omega) rfl rfl (Nat.le_of_ble_eq_true rfl) (fun v64 h65 => ?_)
      refine ph_lstore_n (i := 1) (ls1 := [some (.ref (ph_a Z 51)), some (.long v64), none, some (.int x15), none, none]) (pc := 73) dX9_digest_73 rfl (by decide) rfl ?_
      refine ph_iinc (i := 3) (v := (nI 1)) (ls1 := [some (.ref (ph_a Z 51)), some (.long v64), none, some (.int (x15 + (nI 1))), none, none]) (pc := 74) dX9_digest_74 rfl ph_ic_1 (by decide) rfl ?_
      refine ph_goto (tgt := 61) (pc := 77) dX9_digest_77 (by decide) ?_
      exact hj13 (v64, x15 + (nI 1), h65)
  · refine ph_ldc2 (v := (lN 31)) (pc := 12) dX9_digest_12 ph_k_RX9_266 ?_
    refine ph_lload_n (i := 1) (pc := 15) dX9_digest_15 rfl rfl ?_
    refine ph_lmul (pc := 16) dX9_digest_16 ?_
    refine ph_aload_n (i := 0) (pc := 17) dX9_digest_17 rfl rfl ?_
    refine ph_iload_n (i := 3) (pc := 18) dX9_digest_18 rfl rfl ?_
    refine ph_callVi (pc := 19) dX9_digest_19 ph_mf_yX9_count ph_ml_RX9_273 ph_mi_yX9_count ph_mv_yX9_count rfl rfl (c_X9_count Z (d - 1) (by omega) x4 h5) (by omega) rfl rfl (Nat.le_of_ble_eq_true rfl) (fun v66 h67 => ?_)
    refine ph_i2l (pc := 22) dX9_digest_22 ?_
    refine ph_ladd (pc := 23) dX9_digest_23 ?_
    refine ph_lstore_n (i := 1) (ls1 := [some (.ref (ph_a Z 51)), some (.long (((lN 31) * x3) + v66.toInt64)), none, some (.int x4), none, none]) (pc := 24) dX9_digest_24 rfl (by decide) rfl ?_
    refine ph_iinc (i := 3) (v := (nI 1)) (ls1 := [some (.ref (ph_a Z 51)), some (.long (((lN 31) * x3) + v66.toInt64)), none, some (.int (x4 + (nI 1))), none, none]) (pc := 25) dX9_digest_25 rfl ph_ic_1 (by decide) rfl ?_
    refine ph_goto (tgt := 6) (pc := 28) dX9_digest_28 (by decide) ?_
    exact hj2 (((lN 31) * x3) + v66.toInt64, x4 + (nI 1), h67)
