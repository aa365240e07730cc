def f_X8_wipe (x1 : Int32) (h : ph_Hp) : Option (Int32 × ph_Hp) :=
  ph_cl (f_X8_within x1 (nI 2) h) fun v3 h4 =>
  if v3 = nI 0 then
    some ((-2), h4)
  else
    ph_cl (f_X8_textOf x1 h4) fun v6 h7 =>
    ph_isK v6 4 <|
    ph_cl (f_X4_size v6 h7) fun v9 h10 =>
    ph_cl (f_X4_clear v6 h10) fun _ h12 =>
    ph_pfI h12 0 7 (nI 1) fun h13 =>
    some (v9, h13)
set_option maxRecDepth 100000 in
theorem c_X8_wipe (Z : ph_L) (d : Nat) (hdd : 1 ≤ d) (x1 : Int32) (h : ph_Hp) : ph_CM Z yX8_wipe cX8_wipe 4 (some .int) d [.ref (ph_a Z 0), .int x1] ph_vi h (f_X8_wipe x1 h) := by
  refine ph_begin (own := RX8) ph_mf_yX8_wipe rfl (ls := [some (.ref (ph_a Z 0)), some (.int x1), none, none]) rfl (Nat.le_of_ble_eq_true rfl) ?_
  unfold f_X8_wipe
  refine ph_iload_n (i := 1) (pc := 0) dX8_wipe_0 rfl rfl ?_
  refine ph_iconst (v := (nI 2)) (pc := 1) dX8_wipe_1 ph_ic_2 ?_
  refine ph_callSi (pc := 2) dX8_wipe_2 ph_mf_yX8_within ph_ml_RX8_80 ph_ms_yX8_within (c_X8_within Z (d - 1) (by omega) x1 (nI 2) h) (by omega) rfl rfl (Nat.le_of_ble_eq_true rfl) (fun v3 h4 => ?_)
  refine ph_if_ne (tgt := 11) (pc := 5) dX8_wipe_5 (by decide) (fun c5 => ?_) (fun c5 => ?_)
  · refine ph_aload_n (i := 0) (pc := 11) dX8_wipe_11 rfl rfl ?_
    refine ph_iload_n (i := 1) (pc := 12) dX8_wipe_12 rfl rfl ?_
    refine ph_callVr (pc := 13) dX8_wipe_13 ph_mf_yX8_textOf ph_ml_RX8_84 ph_mi_yX8_textOf ph_mv_yX8_textOf rfl rfl (c_X8_textOf Z (d - 1) (by omega) x1 h4) (by omega) rfl rfl (Nat.le_of_ble_eq_true rfl) (fun v6 h7 => ?_)
    refine ph_astore_n (i := 2) (ls1 := [some (.ref (ph_a Z 0)), some (.int x1), some (.ref (ph_a Z v6)), none]) (pc := 16) dX8_wipe_16 rfl (by decide) rfl ?_
    refine ph_aload_n (i := 2) (pc := 17) dX8_wipe_17 rfl rfl ?_
    refine ph_isKr (fun hk8 => ?_)
    refine ph_callVi (pc := 18) dX8_wipe_18 ph_mf_yX4_size ph_ml_RX8_95 ph_mi_yX4_size ph_mv_yX4_size rfl hk8 (c_X4_size Z (d - 1) (by omega) v6 h7) (by omega) rfl rfl (Nat.le_of_ble_eq_true rfl) (fun v9 h10 => ?_)
    refine ph_istore_n (i := 3) (ls1 := [some (.ref (ph_a Z 0)), some (.int x1), some (.ref (ph_a Z v6)), some (.int v9)]) (pc := 21) dX8_wipe_21 rfl (by decide) rfl ?_
    refine ph_aload_n (i := 2) (pc := 22) dX8_wipe_22 rfl rfl ?_
    refine ph_callVv (pc := 23) dX8_wipe_23 ph_mf_yX4_clear ph_ml_RX8_99 ph_mi_yX4_clear ph_mv_yX4_clear rfl hk8 (c_X4_clear Z (d - 1) (by omega) v6 h10) (by omega) rfl rfl (Nat.le_of_ble_eq_true rfl) (fun v11 h12 => ?_)
    refine ph_aload_n (i := 0) (pc := 26) dX8_wipe_26 rfl rfl ?_
    refine ph_iconst (v := (nI 1)) (pc := 27) dX8_wipe_27 ph_ic_1 ?_
    refine ph_putI (pc := 28) dX8_wipe_28 ph_pl_RX8_44 rfl (by decide) rfl rfl (fun h13 => ?_)
    refine ph_iload_n (i := 3) (pc := 31) dX8_wipe_31 rfl rfl ?_
    exact ph_iret (pc := 32) dX8_wipe_32 rfl
  · refine ph_bipush (v := (-2)) (pc := 8) dX8_wipe_8 ph_bp_m2 ?_
    exact ph_iret (pc := 10) dX8_wipe_10 rfl
def f_X8_undo (x1 : Int32) (h : ph_Hp) : Option (Int32 × ph_Hp) :=
  ph_cl (f_X8_within x1 (nI 2) h) fun v3 h4 =>
  if v3 = nI 0 then
    some ((-2), h4)
  else
    ph_cl (f_X8_textOf x1 h4) fun v6 h7 =>
    ph_isK v6 4 <|
    ph_cl (f_X4_size v6 h7) fun v9 h10 =>
    if v9 = nI 0 then
      some ((-3), h10)
    else
      ph_cl (f_X4_cut v6 h10) fun _ h13 =>
      ph_pfI h13 0 7 (nI 1) fun h14 =>
      ph_cl (f_X4_size v6 h14) fun v15 h16 =>
      some (v15, h16)
set_option maxRecDepth 100000 in
theorem c_X8_undo (Z : ph_L) (d : Nat) (hdd : 2 ≤ d) (x1 : Int32) (h : ph_Hp) : ph_CM Z yX8_undo cX8_undo 3 (some .int) d [.ref (ph_a Z 0), .int x1] ph_vi h (f_X8_undo x1 h) := by
  refine ph_begin (own := RX8) ph_mf_yX8_undo rfl (ls := [some (.ref (ph_a Z 0)), some (.int x1), none]) rfl (Nat.le_of_ble_eq_true rfl) ?_
  unfold f_X8_undo
  refine ph_iload_n (i := 1) (pc := 0) dX8_undo_0 rfl rfl ?_
  refine ph_iconst (v := (nI 2)) (pc := 1) dX8_undo_1 ph_ic_2 ?_
  refine ph_callSi (pc := 2) dX8_undo_2 ph_mf_yX8_within ph_ml_RX8_80 ph_ms_yX8_within (c_X8_within Z (d - 1) (by omega) x1 (nI 2) h) (by omega) rfl rfl (Nat.le_of_ble_eq_true rfl) (fun v3 h4 => ?_)
  refine ph_if_ne (tgt := 11) (pc := 5) dX8_undo_5 (by decide) (fun c5 => ?_) (fun c5 => ?_)
  · refine ph_aload_n (i := 0) (pc := 11) dX8_undo_11 rfl rfl ?_
    refine ph_iload_n (i := 1) (pc := 12) dX8_undo_12 rfl rfl ?_
    refine ph_callVr (pc := 13) dX8_undo_13 ph_mf_yX8_textOf ph_ml_RX8_84 ph_mi_yX8_textOf ph_mv_yX8_textOf rfl rfl (c_X8_textOf Z (d - 1) (by omega) x1 h4) (by omega) rfl rfl (Nat.le_of_ble_eq_true rfl) (fun v6 h7 => ?_)
    refine ph_astore_n (i := 2) (ls1 := [some (.ref (ph_a Z 0)), some (.int x1), some (.ref (ph_a Z v6))]) (pc := 16) dX8_undo_16 rfl (by decide) rfl ?_
    refine ph_aload_n (i := 2) (pc := 17) dX8_undo_17 rfl rfl ?_
    refine ph_isKr (fun hk8 => ?_)
    refine ph_callVi (pc := 18) dX8_undo_18 ph_mf_yX4_size ph_ml_RX8_95 ph_mi_yX4_size ph_mv_yX4_size rfl hk8 (c_X4_size Z (d - 1) (by omega) v6 h7) (by omega) rfl rfl (Nat.le_of_ble_eq_true rfl) (fun v9 h10 => ?_)
    refine ph_if_ne (tgt := 27) (pc := 21) dX8_undo_21 (by decide) (fun c11 => ?_) (fun c11 => ?_)
    · refine ph_aload_n (i := 2) (pc := 27) dX8_undo_27 rfl rfl ?_
      refine ph_callVv (pc := 28) dX8_undo_28 ph_mf_yX4_cut ph_ml_RX8_102 ph_mi_yX4_cut ph_mv_yX4_cut rfl hk8 (c_X4_cut Z (d - 1) (by omega) v6 h10) (by omega) rfl rfl (Nat.le_of_ble_eq_true rfl) (fun v12 h13 => ?_)
      refine ph_aload_n (i := 0) (pc := 31) dX8_undo_31 rfl rfl ?_
      refine ph_iconst (v := (nI 1)) (pc := 32) dX8_undo_32 ph_ic_1 ?_
      refine ph_putI (pc := 33) dX8_undo_33 ph_pl_RX8_44 rfl (by decide) rfl rfl (fun h14 => ?_)
      refine ph_aload_n (i := 2) (pc := 36) dX8_undo_36 rfl rfl ?_
      refine ph_callVi (pc := 37) dX8_undo_37 ph_mf_yX4_size ph_ml_RX8_95 ph_mi_yX4_size ph_mv_yX4_size rfl hk8 (c_X4_size Z (d - 1) (by omega) v6 h14) (by omega) rfl rfl (Nat.le_of_ble_eq_true rfl) (fun v15 h16 => ?_)
      exact ph_iret (pc := 40) dX8_undo_40 rfl
    · refine ph_bipush (v := (-3)) (pc := 24) dX8_undo_24 ph_bp_m3 ?_
      exact ph_iret (pc := 26) dX8_undo_26 rfl
  · refine ph_bipush (v := (-2)) (pc := 8) dX8_undo_8 ph_bp_m2 ?_
    exact ph_iret (pc := 10) dX8_undo_10 rfl
def f_X8_staged (h : ph_Hp) : Option (Unit × ph_Hp) :=
  if (h.1 0 7) = nI 0 then
    some ((), h)
  else
    ph_cl (f_X3_parse h) fun _ h4 =>
    ph_cl (f_X1_parse h4) fun _ h6 =>
    ph_cl (f_X1_think h6) fun _ h8 =>
    ph_cl (f_X6_set h8) fun _ h10 =>
    ph_cl (f_X6_perform h10) fun _ h12 =>
    ph_pfI h12 0 7 (nI 0) fun h13 =>
    some ((), h13)
set_option maxRecDepth 100000 in
theorem c_X8_staged (Z : ph_L) (d : Nat) (hdd : 4 ≤ d) (h : ph_Hp) : ph_CM Z yX8_staged cX8_staged 1 (some (.object "PromptHoles$Stage")) d [.ref (ph_a Z 0)] (ph_vk Z 25) h (f_X8_staged h) := by
  refine ph_begin (own := RX8) ph_mf_yX8_staged rfl (ls := [some (.ref (ph_a Z 0))]) rfl (Nat.le_of_ble_eq_true rfl) ?_
  unfold f_X8_staged
  refine ph_aload_n (i := 0) (pc := 0) dX8_staged_0 rfl rfl ?_
  refine ph_getI (pc := 1) dX8_staged_1 ph_fl_RX8_44 rfl (by decide) ?_
  refine ph_if_eq (tgt := 83) (pc := 4) dX8_staged_4 (by decide) (fun c2 => ?_) (fun c2 => ?_)
  · refine ph_aload_n (i := 0) (pc := 83) dX8_staged_83 rfl rfl ?_
    refine ph_getR (j := 25) (pc := 84) dX8_staged_84 ph_fl_RX8_40 rfl rfl rfl ?_
    exact ph_aretK (pc := 87) dX8_staged_87 rfl
  · refine ph_aload_n (i := 0) (pc := 7) dX8_staged_7 rfl rfl ?_
    refine ph_getR (j := 25) (pc := 8) dX8_staged_8 ph_fl_RX8_40 rfl rfl rfl ?_
    refine ph_getR (j := 26) (pc := 11) dX8_staged_11 ph_fl_RX8_109 rfl rfl rfl ?_
    refine ph_aload_n (i := 0) (pc := 14) dX8_staged_14 rfl rfl ?_
    refine ph_getR (j := 1) (pc := 15) dX8_staged_15 ph_fl_RX8_14 rfl rfl rfl ?_
    refine ph_callVv (pc := 18) dX8_staged_18 ph_mf_yX3_parse ph_ml_RX8_327 ph_mi_yX3_parse ph_mv_yX3_parse rfl rfl (c_X3_parse Z (d - 1) (by omega) h) (by omega) rfl rfl (Nat.le_of_ble_eq_true rfl) (fun v3 h4 => ?_)
    refine ph_aload_n (i := 0) (pc := 21) dX8_staged_21 rfl rfl ?_
    refine ph_getR (j := 25) (pc := 22) dX8_staged_22 ph_fl_RX8_40 rfl rfl rfl ?_
    refine ph_getR (j := 30) (pc := 25) dX8_staged_25 ph_fl_RX8_118 rfl rfl rfl ?_
    refine ph_aload_n (i := 0) (pc := 28) dX8_staged_28 rfl rfl ?_
    refine ph_getR (j := 3) (pc := 29) dX8_staged_29 ph_fl_RX8_18 rfl rfl rfl ?_
    refine ph_callVv (pc := 32) dX8_staged_32 ph_mf_yX1_parse ph_ml_RX8_331 ph_mi_yX1_parse ph_mv_yX1_parse rfl rfl (c_X1_parse Z (d - 1) (by omega) h4) (by omega) rfl rfl (Nat.le_of_ble_eq_true rfl) (fun v5 h6 => ?_)
    refine ph_aload_n (i := 0) (pc := 35) dX8_staged_35 rfl rfl ?_
    refine ph_getR (j := 25) (pc := 36) dX8_staged_36 ph_fl_RX8_40 rfl rfl rfl ?_
    refine ph_getR (j := 30) (pc := 39) dX8_staged_39 ph_fl_RX8_118 rfl rfl rfl ?_
    refine ph_aload_n (i := 0) (pc := 42) dX8_staged_42 rfl rfl ?_
    refine ph_getR (j := 25) (pc := 43) dX8_staged_43 ph_fl_RX8_40 rfl rfl rfl ?_
    refine ph_getR (j := 26) (pc := 46) dX8_staged_46 ph_fl_RX8_109 rfl rfl rfl ?_
    refine ph_callVv (pc := 49) dX8_staged_49 ph_mf_yX1_think ph_ml_RX8_332 ph_mi_yX1_think ph_mv_yX1_think rfl rfl (c_X1_think Z (d - 1) (by omega) h6) (by omega) rfl rfl (Nat.le_of_ble_eq_true rfl) (fun v7 h8 => ?_)
    refine ph_aload_n (i := 0) (pc := 52) dX8_staged_52 rfl rfl ?_
    refine ph_getR (j := 25) (pc := 53) dX8_staged_53 ph_fl_RX8_40 rfl rfl rfl ?_
    refine ph_aload_n (i := 0) (pc := 56) dX8_staged_56 rfl rfl ?_
    refine ph_getR (j := 5) (pc := 57) dX8_staged_57 ph_fl_RX8_24 rfl rfl rfl ?_
    refine ph_aload_n (i := 0) (pc := 60) dX8_staged_60 rfl rfl ?_
    refine ph_getR (j := 10) (pc := 61) dX8_staged_61 ph_fl_RX8_28 rfl rfl rfl ?_
    refine ph_aload_n (i := 0) (pc := 64) dX8_staged_64 rfl rfl ?_
    refine ph_getR (j := 15) (pc := 65) dX8_staged_65 ph_fl_RX8_31 rfl rfl rfl ?_
    refine ph_callVv (pc := 68) dX8_staged_68 ph_mf_yX6_set ph_ml_RX8_336 ph_mi_yX6_set ph_mv_yX6_set rfl rfl (c_X6_set Z (d - 1) (by omega) h8) (by omega) rfl rfl (Nat.le_of_ble_eq_true rfl) (fun v9 h10 => ?_)
    refine ph_aload_n (i := 0) (pc := 71) dX8_staged_71 rfl rfl ?_
    refine ph_getR (j := 25) (pc := 72) dX8_staged_72 ph_fl_RX8_40 rfl rfl rfl ?_
    refine ph_callVv (pc := 75) dX8_staged_75 ph_mf_yX6_perform ph_ml_RX8_340 ph_mi_yX6_perform ph_mv_yX6_perform rfl rfl (c_X6_perform Z (d - 1) (by omega) h10) (by omega) rfl rfl (Nat.le_of_ble_eq_true rfl) (fun v11 h12 => ?_)
    refine ph_aload_n (i := 0) (pc := 78) dX8_staged_78 rfl rfl ?_
    refine ph_iconst (v := (nI 0)) (pc := 79) dX8_staged_79 ph_ic_0 ?_
    refine ph_putI (pc := 80) dX8_staged_80 ph_pl_RX8_44 rfl (by decide) rfl rfl (fun h13 => ?_)
    refine ph_aload_n (i := 0) (pc := 83) dX8_staged_83 rfl rfl ?_
    refine ph_getR (j := 25) (pc := 84) dX8_staged_84 ph_fl_RX8_40 rfl rfl rfl ?_
    exact ph_aretK (pc := 87) dX8_staged_87 rfl
def f_X8_fault (x1 : Int32) (h : ph_Hp) : Option (Int32 × ph_Hp) :=
  ph_cl (f_X8_within x1 (nI 2) h) fun v3 h4 =>
  if v3 = nI 0 then
    some ((-2), h4)
  else
    ph_cl (f_X8_staged h4) fun _ h7 =>
    if x1 = nI 0 then
      some (h7.1 26 4, h7)
    else
      some (h7.1 30 6, h7)
set_option maxRecDepth 100000 in
theorem c_X8_fault (Z : ph_L) (d : Nat) (hdd : 5 ≤ d) (x1 : Int32) (h : ph_Hp) : ph_CM Z yX8_fault cX8_fault 3 (some .int) d [.ref (ph_a Z 0), .int x1] ph_vi h (f_X8_fault x1 h) := by
  refine ph_begin (own := RX8) ph_mf_yX8_fault rfl (ls := [some (.ref (ph_a Z 0)), some (.int x1), none]) rfl (Nat.le_of_ble_eq_true rfl) ?_
  unfold f_X8_fault
  refine ph_iload_n (i := 1) (pc := 0) dX8_fault_0 rfl rfl ?_
  refine ph_iconst (v := (nI 2)) (pc := 1) dX8_fault_1 ph_ic_2 ?_
  refine ph_callSi (pc := 2) dX8_fault_2 ph_mf_yX8_within ph_ml_RX8_80 ph_ms_yX8_within (c_X8_within Z (d - 1) (by omega) x1 (nI 2) h) (by omega) rfl rfl (Nat.le_of_ble_eq_true rfl) (fun v3 h4 => ?_)
  refine ph_if_ne (tgt := 11) (pc := 5) dX8_fault_5 (by decide) (fun c5 => ?_) (fun c5 => ?_)
  · refine ph_aload_n (i := 0) (pc := 11) dX8_fault_11 rfl rfl ?_
    refine ph_callVk (pc := 12) dX8_fault_12 ph_mf_yX8_staged ph_ml_RX8_105 ph_mi_yX8_staged ph_mv_yX8_staged rfl rfl (c_X8_staged Z (d - 1) (by omega) h4) (by omega) rfl rfl (Nat.le_of_ble_eq_true rfl) (fun v6 h7 => ?_)
    refine ph_astore_n (i := 2) (ls1 := [some (.ref (ph_a Z 0)), some (.int x1), some (.ref (ph_a Z 25))]) (pc := 15) dX8_fault_15 rfl (by decide) rfl ?_
    refine ph_iload_n (i := 1) (pc := 16) dX8_fault_16 rfl rfl ?_
    refine ph_if_ne (tgt := 30) (pc := 17) dX8_fault_17 (by decide) (fun c8 => ?_) (fun c8 => ?_)
    · refine ph_aload_n (i := 2) (pc := 30) dX8_fault_30 rfl rfl ?_
      refine ph_getR (j := 30) (pc := 31) dX8_fault_31 ph_fl_RX8_118 rfl rfl rfl ?_
      refine ph_getI (pc := 34) dX8_fault_34 ph_fl_RX8_122 rfl (by decide) ?_
      exact ph_iret (pc := 37) dX8_fault_37 rfl
    · refine ph_aload_n (i := 2) (pc := 20) dX8_fault_20 rfl rfl ?_
      refine ph_getR (j := 26) (pc := 21) dX8_fault_21 ph_fl_RX8_109 rfl rfl rfl ?_
      refine ph_getI (pc := 24) dX8_fault_24 ph_fl_RX8_113 rfl (by decide) ?_
      refine ph_goto (tgt := 37) (pc := 27) dX8_fault_27 (by decide) ?_
      exact ph_iret (pc := 37) dX8_fault_37 rfl
  · refine ph_bipush (v := (-2)) (pc := 8) dX8_fault_8 ph_bp_m2 ?_
    exact ph_iret (pc := 10) dX8_fault_10 rfl
def f_X8_line (x1 : Int32) (h : ph_Hp) : Option (Int32 × ph_Hp) :=
  ph_cl (f_X8_within x1 (nI 24) h) fun v3 h4 =>
  if v3 = nI 0 then
    some ((-2), h4)
  else
    ph_cl (f_X8_staged h4) fun _ h7 =>
    ph_cl (f_X3_lineIn x1 h7) fun v8 h9 =>
    some (v8, h9)
set_option maxRecDepth 100000 in
theorem c_X8_line (Z : ph_L) (d : Nat) (hdd : 5 ≤ d) (x1 : Int32) (h : ph_Hp) : ph_CM Z yX8_line cX8_line 2 (some .int) d [.ref (ph_a Z 0), .int x1] ph_vi h (f_X8_line x1 h) := by
  refine ph_begin (own := RX8) ph_mf_yX8_line rfl (ls := [some (.ref (ph_a Z 0)), some (.int x1)]) rfl (Nat.le_of_ble_eq_true rfl) ?_
  unfold f_X8_line
  refine ph_iload_n (i := 1) (pc := 0) dX8_line_0 rfl rfl ?_
  refine ph_bipush (v := (nI 24)) (pc := 1) dX8_line_1 ph_bp_24 ?_
  refine ph_callSi (pc := 3) dX8_line_3 ph_mf_yX8_within ph_ml_RX8_80 ph_ms_yX8_within (c_X8_within Z (d - 1) (by omega) x1 (nI 24) h) (by omega) rfl rfl (Nat.le_of_ble_eq_true rfl) (fun v3 h4 => ?_)
  refine ph_if_eq (tgt := 23) (pc := 6) dX8_line_6 (by decide) (fun c5 => ?_) (fun c5 => ?_)
  · refine ph_bipush (v := (-2)) (pc := 23) dX8_line_23 ph_bp_m2 ?_
    exact ph_iret (pc := 25) dX8_line_25 rfl
  · refine ph_aload_n (i := 0) (pc := 9) dX8_line_9 rfl rfl ?_
    refine ph_callVk (pc := 10) dX8_line_10 ph_mf_yX8_staged ph_ml_RX8_105 ph_mi_yX8_staged ph_mv_yX8_staged rfl rfl (c_X8_staged Z (d - 1) (by omega) h4) (by omega) rfl rfl (Nat.le_of_ble_eq_true rfl) (fun v6 h7 => ?_)
    refine ph_getR (j := 26) (pc := 13) dX8_line_13 ph_fl_RX8_109 rfl rfl rfl ?_
    refine ph_iload_n (i := 1) (pc := 16) dX8_line_16 rfl rfl ?_
    refine ph_callVi (pc := 17) dX8_line_17 ph_mf_yX3_lineIn ph_ml_RX8_125 ph_mi_yX3_lineIn ph_mv_yX3_lineIn rfl rfl (c_X3_lineIn Z (d - 1) (by omega) x1 h7) (by omega) rfl rfl (Nat.le_of_ble_eq_true rfl) (fun v8 h9 => ?_)
    refine ph_goto (tgt := 25) (pc := 20) dX8_line_20 (by decide) ?_
    exact ph_iret (pc := 25) dX8_line_25 rfl
def f_X8_hole (x1 : Int32) (x2 : Int32) (h : ph_Hp) : Option (Int32 × ph_Hp) :=
  ph_cl (f_X8_staged h) fun _ h5 =>
  ph_cl (f_X8_within x1 (h5.1 30 5) h5) fun v6 h7 =>
  if v6 = nI 0 then
    some ((-2), h7)
  else
    ph_cl (f_X8_within x2 (nI 4) h7) fun v9 h10 =>
    if v9 = nI 0 then
      some ((-2), h10)
    else
      if x2 = (nI 0) then
        ph_cl (f_X1_placeOf x1 h10) fun v13 h14 =>
        some (v13, h14)
      else
      if x2 = (nI 1) then
        ph_cl (f_X1_hearsOf x1 h10) fun v16 h17 =>
        some (v16, h17)
      else
      if x2 = (nI 2) then
        ph_cl (f_X1_habitOf x1 h10) fun v19 h20 =>
        some (v19, h20)
      else
      ph_cl (f_X1_lineOf x1 h10) fun v21 h22 =>
      some (v21, h22)
set_option maxRecDepth 100000 in
theorem c_X8_hole (Z : ph_L) (d : Nat) (hdd : 5 ≤ d) (x1 : Int32) (x2 : Int32) (h : ph_Hp) : ph_CM Z yX8_hole cX8_hole 4 (some .int) d [.ref (ph_a Z 0), .int x1, .int x2] ph_vi h (f_X8_hole x1 x2 h) := by
  refine ph_begin (own := RX8) ph_mf_yX8_hole rfl (ls := [some (.ref (ph_a Z 0)), some (.int x1), some (.int x2), none]) rfl (Nat.le_of_ble_eq_true rfl) ?_
  unfold f_X8_hole
  refine ph_aload_n (i := 0) (pc := 0) dX8_hole_0 rfl rfl ?_
  refine ph_callVk (pc := 1) dX8_hole_1 ph_mf_yX8_staged ph_ml_RX8_105 ph_mi_yX8_staged ph_mv_yX8_staged rfl rfl (c_X8_staged Z (d - 1) (by omega) h) (by omega) rfl rfl (Nat.le_of_ble_eq_true rfl) (fun v4 h5 => ?_)
  refine ph_getR (j := 30) (pc := 4) dX8_hole_4 ph_fl_RX8_118 rfl rfl rfl ?_
  refine ph_astore_n (i := 3) (ls1 := [some (.ref (ph_a Z 0)), some (.int x1), some (.int x2), some (.ref (ph_a Z 30))]) (pc := 7) dX8_hole_7 rfl (by decide) rfl ?_
  refine ph_iload_n (i := 1) (pc := 8) dX8_hole_8 rfl rfl ?_
  refine ph_aload_n (i := 3) (pc := 9) dX8_hole_9 rfl rfl ?_
  refine ph_getI (pc := 10) dX8_hole_10 ph_fl_RX8_129 rfl (by decide) ?_
  refine ph_callSi (pc := 13) dX8_hole_13 ph_mf_yX8_within ph_ml_RX8_80 ph_ms_yX8_within (c_X8_within Z (d - 1) (by omega) x1 (h5.1 30 5) h5) (by omega) rfl rfl (Nat.le_of_ble_eq_true rfl) (fun v6 h7 => ?_)
  refine ph_if_eq (tgt := 27) (pc := 16) dX8_hole_16 (by decide) (fun c8 => ?_) (fun c8 => ?_)
  · refine ph_bipush (v := (-2)) (pc := 27) dX8_hole_27 ph_bp_m2 ?_
    exact ph_iret (pc := 29) dX8_hole_29 rfl
  · refine ph_iload_n (i := 2) (pc := 19) dX8_hole_19 rfl rfl ?_
    refine ph_iconst (v := (nI 4)) (pc := 20) dX8_hole_20 ph_ic_4 ?_
    refine ph_callSi (pc := 21) dX8_hole_21 ph_mf_yX8_within ph_ml_RX8_80 ph_ms_yX8_within (c_X8_within Z (d - 1) (by omega) x2 (nI 4) h7) (by omega) rfl rfl (Nat.le_of_ble_eq_true rfl) (fun v9 h10 => ?_)
    refine ph_if_ne (tgt := 30) (pc := 24) dX8_hole_24 (by decide) (fun c11 => ?_) (fun c11 => ?_)
    · refine ph_iload_n (i := 2) (pc := 30) dX8_hole_30 rfl rfl ?_
      refine ph_ite (fun c12 => ?_) (fun c12 => ?_)
      · refine ph_tin (tgt := 56) (v := (nI 0)) (pc := 31) dX8_hole_31 c12 (by decide) (by decide) rfl (by decide) ?_
        refine ph_aload_n (i := 3) (pc := 56) dX8_hole_56 rfl rfl ?_
        refine ph_iload_n (i := 1) (pc := 57) dX8_hole_57 rfl rfl ?_
        refine ph_callVi (pc := 58) dX8_hole_58 ph_mf_yX1_placeOf ph_ml_RX8_131 ph_mi_yX1_placeOf ph_mv_yX1_placeOf rfl rfl (c_X1_placeOf Z (d - 1) (by omega) x1 h10) (by omega) rfl rfl (Nat.le_of_ble_eq_true rfl) (fun v13 h14 => ?_)
        exact ph_iret (pc := 61) dX8_hole_61 rfl
      refine ph_ite (fun c15 => ?_) (fun c15 => ?_)
      · refine ph_tin (tgt := 62) (v := (nI 1)) (pc := 31) dX8_hole_31 c15 (by decide) (by decide) rfl (by decide) ?_
        refine ph_aload_n (i := 3) (pc := 62) dX8_hole_62 rfl rfl ?_
        refine ph_iload_n (i := 1) (pc := 63) dX8_hole_63 rfl rfl ?_
        refine ph_callVi (pc := 64) dX8_hole_64 ph_mf_yX1_hearsOf ph_ml_RX8_134 ph_mi_yX1_hearsOf ph_mv_yX1_hearsOf rfl rfl (c_X1_hearsOf Z (d - 1) (by omega) x1 h10) (by omega) rfl rfl (Nat.le_of_ble_eq_true rfl) (fun v16 h17 => ?_)
        exact ph_iret (pc := 67) dX8_hole_67 rfl
      refine ph_ite (fun c18 => ?_) (fun c18 => ?_)
      · refine ph_tin (tgt := 68) (v := (nI 2)) (pc := 31) dX8_hole_31 c18 (by decide) (by decide) rfl (by decide) ?_
        refine ph_aload_n (i := 3) (pc := 68) dX8_hole_68 rfl rfl ?_
        refine ph_iload_n (i := 1) (pc := 69) dX8_hole_69 rfl rfl ?_
        refine ph_callVi (pc := 70) dX8_hole_70 ph_mf_yX1_habitOf ph_ml_RX8_137 ph_mi_yX1_habitOf ph_mv_yX1_habitOf rfl rfl (c_X1_habitOf Z (d - 1) (by omega) x1 h10) (by omega) rfl rfl (Nat.le_of_ble_eq_true rfl) (fun v19 h20 => ?_)
        exact ph_iret (pc := 73) dX8_hole_73 rfl
      refine ph_tout (tgt := 74) (pc := 31) dX8_hole_31 (by
        have := lv_neT (a := 0) c12 (by decide)
        have := lv_neT (a := 1) c15 (by decide)
        have := lv_neT (a := 2) c18 (by decide)
        omega) (by decide) ?_
      refine ph_aload_n (i := 3) (pc := 74) dX8_hole_74 rfl rfl ?_
      refine ph_iload_n (i := 1) (pc := 75) dX8_hole_75 rfl rfl ?_
      refine ph_callVi (pc := 76) dX8_hole_76 ph_mf_yX1_lineOf ph_ml_RX8_140 ph_mi_yX1_lineOf ph_mv_yX1_lineOf rfl rfl (c_X1_lineOf Z (d - 1) (by omega) x1 h10) (by omega) rfl rfl (Nat.le_of_ble_eq_true rfl) (fun v21 h22 => ?_)
      exact ph_iret (pc := 79) dX8_hole_79 rfl
    · refine ph_bipush (v := (-2)) (pc := 27) dX8_hole_27 ph_bp_m2 ?_
      exact ph_iret (pc := 29) dX8_hole_29 rfl
def f_X8_printed (x1 : Int32) (x2 : Int32) (h : ph_Hp) : Option (Int32 × ph_Hp) :=
  ph_cl (f_X8_within x1 (nI 8) h) fun v4 h5 =>
  if v4 = nI 0 then
    some ((-2), h5)
  else
    ph_cl (f_X8_within x2 (nI 2) h5) fun v7 h8 =>
    if v7 = nI 0 then
      some ((-2), h8)
    else
      ph_cl (f_X8_staged h8) fun _ h11 =>
      if x2 = nI 0 then
        ph_cl (f_X3_nextTo x1 h11) fun v15 h16 =>
        some (v15, h16)
      else
        ph_cl (f_X3_aheadOf x1 h11) fun v13 h14 =>
        some (v13, h14)
set_option maxRecDepth 100000 in
theorem c_X8_printed (Z : ph_L) (d : Nat) (hdd : 5 ≤ d) (x1 : Int32) (x2 : Int32) (h : ph_Hp) : ph_CM Z yX8_printed cX8_printed 4 (some .int) d [.ref (ph_a Z 0), .int x1, .int x2] ph_vi h (f_X8_printed x1 x2 h) := by
  refine ph_begin (own := RX8) ph_mf_yX8_printed rfl (ls := [some (.ref (ph_a Z 0)), some (.int x1), some (.int x2), none]) rfl (Nat.le_of_ble_eq_true rfl) ?_
  unfold f_X8_printed
  refine ph_iload_n (i := 1) (pc := 0) dX8_printed_0 rfl rfl ?_
  refine ph_bipush (v := (nI 8)) (pc := 1) dX8_printed_1 ph_bp_8 ?_
  refine ph_callSi (pc := 3) dX8_printed_3 ph_mf_yX8_within ph_ml_RX8_80 ph_ms_yX8_within (c_X8_within Z (d - 1) (by omega) x1 (nI 8) h) (by omega) rfl rfl (Nat.le_of_ble_eq_true rfl) (fun v4 h5 => ?_)
  refine ph_if_eq (tgt := 17) (pc := 6) dX8_printed_6 (by decide) (fun c6 => ?_) (fun c6 => ?_)
  · refine ph_bipush (v := (-2)) (pc := 17) dX8_printed_17 ph_bp_m2 ?_
    exact ph_iret (pc := 19) dX8_printed_19 rfl
  · refine ph_iload_n (i := 2) (pc := 9) dX8_printed_9 rfl rfl ?_
    refine ph_iconst (v := (nI 2)) (pc := 10) dX8_printed_10 ph_ic_2 ?_
    refine ph_callSi (pc := 11) dX8_printed_11 ph_mf_yX8_within ph_ml_RX8_80 ph_ms_yX8_within (c_X8_within Z (d - 1) (by omega) x2 (nI 2) h5) (by omega) rfl rfl (Nat.le_of_ble_eq_true rfl) (fun v7 h8 => ?_)
    refine ph_if_ne (tgt := 20) (pc := 14) dX8_printed_14 (by decide) (fun c9 => ?_) (fun c9 => ?_)
    · refine ph_aload_n (i := 0) (pc := 20) dX8_printed_20 rfl rfl ?_
      refine ph_callVk (pc := 21) dX8_printed_21 ph_mf_yX8_staged ph_ml_RX8_105 ph_mi_yX8_staged ph_mv_yX8_staged rfl rfl (c_X8_staged Z (d - 1) (by omega) h8) (by omega) rfl rfl (Nat.le_of_ble_eq_true rfl) (fun v10 h11 => ?_)
      refine ph_getR (j := 26) (pc := 24) dX8_printed_24 ph_fl_RX8_109 rfl rfl rfl ?_
      refine ph_astore_n (i := 3) (ls1 := [some (.ref (ph_a Z 0)), some (.int x1), some (.int x2), some (.ref (ph_a Z 26))]) (pc := 27) dX8_printed_27 rfl (by decide) rfl ?_
      refine ph_iload_n (i := 2) (pc := 28) dX8_printed_28 rfl rfl ?_
      refine ph_if_ne (tgt := 40) (pc := 29) dX8_printed_29 (by decide) (fun c12 => ?_) (fun c12 => ?_)
      · refine ph_aload_n (i := 3) (pc := 40) dX8_printed_40 rfl rfl ?_
        refine ph_iload_n (i := 1) (pc := 41) dX8_printed_41 rfl rfl ?_
        refine ph_callVi (pc := 42) dX8_printed_42 ph_mf_yX3_aheadOf ph_ml_RX8_146 ph_mi_yX3_aheadOf ph_mv_yX3_aheadOf rfl rfl (c_X3_aheadOf Z (d - 1) (by omega) x1 h11) (by omega) rfl rfl (Nat.le_of_ble_eq_true rfl) (fun v13 h14 => ?_)
        exact ph_iret (pc := 45) dX8_printed_45 rfl
      · refine ph_aload_n (i := 3) (pc := 32) dX8_printed_32 rfl rfl ?_
        refine ph_iload_n (i := 1) (pc := 33) dX8_printed_33 rfl rfl ?_
        refine ph_callVi (pc := 34) dX8_printed_34 ph_mf_yX3_nextTo ph_ml_RX8_143 ph_mi_yX3_nextTo ph_mv_yX3_nextTo rfl rfl (c_X3_nextTo Z (d - 1) (by omega) x1 h11) (by omega) rfl rfl (Nat.le_of_ble_eq_true rfl) (fun v15 h16 => ?_)
        refine ph_goto (tgt := 45) (pc := 37) dX8_printed_37 (by decide) ?_
        exact ph_iret (pc := 45) dX8_printed_45 rfl
    · refine ph_bipush (v := (-2)) (pc := 17) dX8_printed_17 ph_bp_m2 ?_
      exact ph_iret (pc := 19) dX8_printed_19 rfl
def f_X8_tell (r1 : Nat) (x2 : Int32) (x3 : Int32) (h : ph_Hp) : Option (Int32 × ph_Hp) :=
  ph_isK r1 7 <|
  ph_cl (f_X7_isFull r1 h) fun v6 h7 =>
  if v6 = nI 0 then
    ph_cl (f_X7_add r1 x2 x3 h7) fun _ h10 =>
    ph_cl (f_X7_size r1 h10) fun v11 h12 =>
    some (v11, h12)
  else
    some ((-4), h7)
set_option maxRecDepth 100000 in
theorem c_X8_tell (Z : ph_L) (d : Nat) (hdd : 2 ≤ d) (r1 : Nat) (x2 : Int32) (x3 : Int32) (h : ph_Hp) : ph_CM Z yX8_tell cX8_tell 3 (some .int) d [.ref (ph_a Z r1), .int x2, .int x3] ph_vi h (f_X8_tell r1 x2 x3 h) := by
  refine ph_begin (own := RX8) ph_mf_yX8_tell rfl (ls := [some (.ref (ph_a Z r1)), some (.int x2), some (.int x3)]) rfl (Nat.le_of_ble_eq_true rfl) ?_
  unfold f_X8_tell
  refine ph_aload_n (i := 0) (pc := 0) dX8_tell_0 rfl rfl ?_
  refine ph_isKr (fun hk5 => ?_)
  refine ph_callVi (pc := 1) dX8_tell_1 ph_mf_yX7_isFull ph_ml_RX8_343 ph_mi_yX7_isFull ph_mv_yX7_isFull rfl hk5 (c_X7_isFull Z (d - 1) (by omega) r1 h) (by omega) rfl rfl (Nat.le_of_ble_eq_true rfl) (fun v6 h7 => ?_)
  refine ph_if_eq (tgt := 10) (pc := 4) dX8_tell_4 (by decide) (fun c8 => ?_) (fun c8 => ?_)
  · refine ph_aload_n (i := 0) (pc := 10) dX8_tell_10 rfl rfl ?_
    refine ph_iload_n (i := 1) (pc := 11) dX8_tell_11 rfl rfl ?_
    refine ph_iload_n (i := 2) (pc := 12) dX8_tell_12 rfl rfl ?_
    refine ph_callVv (pc := 13) dX8_tell_13 ph_mf_yX7_add ph_ml_RX8_344 ph_mi_yX7_add ph_mv_yX7_add rfl hk5 (c_X7_add Z (d - 1) (by omega) r1 x2 x3 h7) (by omega) rfl rfl (Nat.le_of_ble_eq_true rfl) (fun v9 h10 => ?_)
    refine ph_aload_n (i := 0) (pc := 16) dX8_tell_16 rfl rfl ?_
    refine ph_callVi (pc := 17) dX8_tell_17 ph_mf_yX7_size ph_ml_RX8_153 ph_mi_yX7_size ph_mv_yX7_size rfl hk5 (c_X7_size Z (d - 1) (by omega) r1 h10) (by omega) rfl rfl (Nat.le_of_ble_eq_true rfl) (fun v11 h12 => ?_)
    exact ph_iret (pc := 20) dX8_tell_20 rfl
  · refine ph_bipush (v := (-4)) (pc := 7) dX8_tell_7 ph_bp_m4 ?_
    exact ph_iret (pc := 9) dX8_tell_9 rfl
def f_X8_move (x1 : Int32) (x2 : Int32) (h : ph_Hp) : Option (Int32 × ph_Hp) :=
  ph_cl (f_X8_within x1 (nI 40) h) fun v4 h5 =>
  if v4 = nI 0 then
    some ((-2), h5)
  else
    ph_cl (f_X8_within x2 (nI 10) h5) fun v7 h8 =>
    if v7 = nI 0 then
      some ((-2), h8)
    else
      ph_pfI h8 0 7 (nI 1) fun h10 =>
      ph_cl (f_X8_tell 5 x1 x2 h10) fun v11 h12 =>
      some (v11, h12)
set_option maxRecDepth 100000 in
theorem c_X8_move (Z : ph_L) (d : Nat) (hdd : 3 ≤ d) (x1 : Int32) (x2 : Int32) (h : ph_Hp) : ph_CM Z yX8_move cX8_move 3 (some .int) d [.ref (ph_a Z 0), .int x1, .int x2] ph_vi h (f_X8_move x1 x2 h) := by
  refine ph_begin (own := RX8) ph_mf_yX8_move rfl (ls := [some (.ref (ph_a Z 0)), some (.int x1), some (.int x2)]) rfl (Nat.le_of_ble_eq_true rfl) ?_
  unfold f_X8_move
  refine ph_iload_n (i := 1) (pc := 0) dX8_move_0 rfl rfl ?_
  refine ph_bipush (v := (nI 40)) (pc := 1) dX8_move_1 ph_bp_40 ?_
  refine ph_callSi (pc := 3) dX8_move_3 ph_mf_yX8_within ph_ml_RX8_80 ph_ms_yX8_within (c_X8_within Z (d - 1) (by omega) x1 (nI 40) h) (by omega) rfl rfl (Nat.le_of_ble_eq_true rfl) (fun v4 h5 => ?_)
  refine ph_if_eq (tgt := 18) (pc := 6) dX8_move_6 (by decide) (fun c6 => ?_) (fun c6 => ?_)
  · refine ph_bipush (v := (-2)) (pc := 18) dX8_move_18 ph_bp_m2 ?_
    exact ph_iret (pc := 20) dX8_move_20 rfl
  · refine ph_iload_n (i := 2) (pc := 9) dX8_move_9 rfl rfl ?_
    refine ph_bipush (v := (nI 10)) (pc := 10) dX8_move_10 ph_bp_10 ?_
    refine ph_callSi (pc := 12) dX8_move_12 ph_mf_yX8_within ph_ml_RX8_80 ph_ms_yX8_within (c_X8_within Z (d - 1) (by omega) x2 (nI 10) h5) (by omega) rfl rfl (Nat.le_of_ble_eq_true rfl) (fun v7 h8 => ?_)
    refine ph_if_ne (tgt := 21) (pc := 15) dX8_move_15 (by decide) (fun c9 => ?_) (fun c9 => ?_)
    · refine ph_aload_n (i := 0) (pc := 21) dX8_move_21 rfl rfl ?_
      refine ph_iconst (v := (nI 1)) (pc := 22) dX8_move_22 ph_ic_1 ?_
      refine ph_putI (pc := 23) dX8_move_23 ph_pl_RX8_44 rfl (by decide) rfl rfl (fun h10 => ?_)
      refine ph_aload_n (i := 0) (pc := 26) dX8_move_26 rfl rfl ?_
      refine ph_getR (j := 5) (pc := 27) dX8_move_27 ph_fl_RX8_24 rfl rfl rfl ?_
      refine ph_iload_n (i := 1) (pc := 30) dX8_move_30 rfl rfl ?_
      refine ph_iload_n (i := 2) (pc := 31) dX8_move_31 rfl rfl ?_
      refine ph_callSi (pc := 32) dX8_move_32 ph_mf_yX8_tell ph_ml_RX8_149 ph_ms_yX8_tell (c_X8_tell Z (d - 1) (by omega) 5 x1 x2 h10) (by omega) rfl rfl (Nat.le_of_ble_eq_true rfl) (fun v11 h12 => ?_)
      exact ph_iret (pc := 35) dX8_move_35 rfl
    · refine ph_bipush (v := (-2)) (pc := 18) dX8_move_18 ph_bp_m2 ?_
      exact ph_iret (pc := 20) dX8_move_20 rfl
def f_X8_cough (x1 : Int32) (x2 : Int32) (h : ph_Hp) : Option (Int32 × ph_Hp) :=
  ph_cl (f_X8_within x1 (nI 40) h) fun v4 h5 =>
  if v4 = nI 0 then
    some ((-2), h5)
  else
    ph_cl (f_X8_within x2 (nI 9) h5) fun v7 h8 =>
    if v7 = nI 0 then
      some ((-2), h8)
    else
      ph_pfI h8 0 7 (nI 1) fun h10 =>
      ph_cl (f_X8_tell 10 x1 x2 h10) fun v11 h12 =>
      some (v11, h12)
set_option maxRecDepth 100000 in
theorem c_X8_cough (Z : ph_L) (d : Nat) (hdd : 3 ≤ d) (x1 : Int32) (x2 : Int32) (h : ph_Hp) : ph_CM Z yX8_cough cX8_cough 3 (some .int) d [.ref (ph_a Z 0), .int x1, .int x2] ph_vi h (f_X8_cough x1 x2 h) := by
  refine ph_begin (own := RX8) ph_mf_yX8_cough rfl (ls := [some (.ref (ph_a Z 0)), some (.int x1), some (.int x2)]) rfl (Nat.le_of_ble_eq_true rfl) ?_
  unfold f_X8_cough
  refine ph_iload_n (i := 1) (pc := 0) dX8_cough_0 rfl rfl ?_
  refine ph_bipush (v := (nI 40)) (pc := 1) dX8_cough_1 ph_bp_40 ?_
  refine ph_callSi (pc := 3) dX8_cough_3 ph_mf_yX8_within ph_ml_RX8_80 ph_ms_yX8_within (c_X8_within Z (d - 1) (by omega) x1 (nI 40) h) (by omega) rfl rfl (Nat.le_of_ble_eq_true rfl) (fun v4 h5 => ?_)
  refine ph_if_eq (tgt := 18) (pc := 6) dX8_cough_6 (by decide) (fun c6 => ?_) (fun c6 => ?_)
  · refine ph_bipush (v := (-2)) (pc := 18) dX8_cough_18 ph_bp_m2 ?_
    exact ph_iret (pc := 20) dX8_cough_20 rfl
  · refine ph_iload_n (i := 2) (pc := 9) dX8_cough_9 rfl rfl ?_
    refine ph_bipush (v := (nI 9)) (pc := 10) dX8_cough_10 ph_bp_9 ?_
    refine ph_callSi (pc := 12) dX8_cough_12 ph_mf_yX8_within ph_ml_RX8_80 ph_ms_yX8_within (c_X8_within Z (d - 1) (by omega) x2 (nI 9) h5) (by omega) rfl rfl (Nat.le_of_ble_eq_true rfl) (fun v7 h8 => ?_)
    refine ph_if_ne (tgt := 21) (pc := 15) dX8_cough_15 (by decide) (fun c9 => ?_) (fun c9 => ?_)
    · refine ph_aload_n (i := 0) (pc := 21) dX8_cough_21 rfl rfl ?_
      refine ph_iconst (v := (nI 1)) (pc := 22) dX8_cough_22 ph_ic_1 ?_
      refine ph_putI (pc := 23) dX8_cough_23 ph_pl_RX8_44 rfl (by decide) rfl rfl (fun h10 => ?_)
      refine ph_aload_n (i := 0) (pc := 26) dX8_cough_26 rfl rfl ?_
      refine ph_getR (j := 10) (pc := 27) dX8_cough_27 ph_fl_RX8_28 rfl rfl rfl ?_
      refine ph_iload_n (i := 1) (pc := 30) dX8_cough_30 rfl rfl ?_
      refine ph_iload_n (i := 2) (pc := 31) dX8_cough_31 rfl rfl ?_
      refine ph_callSi (pc := 32) dX8_cough_32 ph_mf_yX8_tell ph_ml_RX8_149 ph_ms_yX8_tell (c_X8_tell Z (d - 1) (by omega) 10 x1 x2 h10) (by omega) rfl rfl (Nat.le_of_ble_eq_true rfl) (fun v11 h12 => ?_)
      exact ph_iret (pc := 35) dX8_cough_35 rfl
    · refine ph_bipush (v := (-2)) (pc := 18) dX8_cough_18 ph_bp_m2 ?_
      exact ph_iret (pc := 20) dX8_cough_20 rfl
def f_X8_dark (x1 : Int32) (h : ph_Hp) : Option (Int32 × ph_Hp) :=
  ph_cl (f_X8_within x1 (nI 40) h) fun v3 h4 =>
  if v3 = nI 0 then
    some ((-2), h4)
  else
    ph_pfI h4 0 7 (nI 1) fun h6 =>
    ph_cl (f_X8_tell 15 x1 (nI 0) h6) fun v7 h8 =>
    some (v7, h8)
set_option maxRecDepth 100000 in
theorem c_X8_dark (Z : ph_L) (d : Nat) (hdd : 3 ≤ d) (x1 : Int32) (h : ph_Hp) : ph_CM Z yX8_dark cX8_dark 2 (some .int) d [.ref (ph_a Z 0), .int x1] ph_vi h (f_X8_dark x1 h) := by
  refine ph_begin (own := RX8) ph_mf_yX8_dark rfl (ls := [some (.ref (ph_a Z 0)), some (.int x1)]) rfl (Nat.le_of_ble_eq_true rfl) ?_
  unfold f_X8_dark
  refine ph_iload_n (i := 1) (pc := 0) dX8_dark_0 rfl rfl ?_
  refine ph_bipush (v := (nI 40)) (pc := 1) dX8_dark_1 ph_bp_40 ?_
  refine ph_callSi (pc := 3) dX8_dark_3 ph_mf_yX8_within ph_ml_RX8_80 ph_ms_yX8_within (c_X8_within Z (d - 1) (by omega) x1 (nI 40) h) (by omega) rfl rfl (Nat.le_of_ble_eq_true rfl) (fun v3 h4 => ?_)
  refine ph_if_ne (tgt := 12) (pc := 6) dX8_dark_6 (by decide) (fun c5 => ?_) (fun c5 => ?_)
  · refine ph_aload_n (i := 0) (pc := 12) dX8_dark_12 rfl rfl ?_
    refine ph_iconst (v := (nI 1)) (pc := 13) dX8_dark_13 ph_ic_1 ?_
    refine ph_putI (pc := 14) dX8_dark_14 ph_pl_RX8_44 rfl (by decide) rfl rfl (fun h6 => ?_)
    refine ph_aload_n (i := 0) (pc := 17) dX8_dark_17 rfl rfl ?_
    refine ph_getR (j := 15) (pc := 18) dX8_dark_18 ph_fl_RX8_31 rfl rfl rfl ?_
    refine ph_iload_n (i := 1) (pc := 21) dX8_dark_21 rfl rfl ?_
    refine ph_iconst (v := (nI 0)) (pc := 22) dX8_dark_22 ph_ic_0 ?_
    refine ph_callSi (pc := 23) dX8_dark_23 ph_mf_yX8_tell ph_ml_RX8_149 ph_ms_yX8_tell (c_X8_tell Z (d - 1) (by omega) 15 x1 (nI 0) h6) (by omega) rfl rfl (Nat.le_of_ble_eq_true rfl) (fun v7 h8 => ?_)
    exact ph_iret (pc := 26) dX8_dark_26 rfl
  · refine ph_bipush (v := (-2)) (pc := 9) dX8_dark_9 ph_bp_m2 ?_
    exact ph_iret (pc := 11) dX8_dark_11 rfl
def f_X8_back (x1 : Int32) (h : ph_Hp) : Option (Int32 × ph_Hp) :=
  ph_cl (f_X8_within x1 (nI 3) h) fun v3 h4 =>
  if v3 = nI 0 then
    some ((-2), h4)
  else
    ph_jn (α := Nat) (fun r7 =>
      ph_isK r7 7 <|
      ph_cl (f_X7_size r7 h4) fun v9 h10 =>
      if v9 = nI 0 then
        some ((-3), h10)
      else
        ph_cl (f_X7_cut r7 h10) fun _ h13 =>
        ph_pfI h13 0 7 (nI 1) fun h14 =>
        ph_cl (f_X7_size r7 h14) fun v15 h16 =>
        some (v15, h16)) (fun j6 =>
      if x1 = nI 0 then
        j6 5
      else
        if x1 = (nI 1) then
          j6 10
        else
          j6 15)
set_option maxRecDepth 100000 in
theorem c_X8_back (Z : ph_L) (d : Nat) (hdd : 3 ≤ d) (x1 : Int32) (h : ph_Hp) : ph_CM Z yX8_back cX8_back 3 (some .int) d [.ref (ph_a Z 0), .int x1] ph_vi h (f_X8_back x1 h) := by
  refine ph_begin (own := RX8) ph_mf_yX8_back rfl (ls := [some (.ref (ph_a Z 0)), some (.int x1), none]) rfl (Nat.le_of_ble_eq_true rfl) ?_
  unfold f_X8_back
  refine ph_iload_n (i := 1) (pc := 0) dX8_back_0 rfl rfl ?_
  refine ph_iconst (v := (nI 3)) (pc := 1) dX8_back_1 ph_ic_3 ?_
  refine ph_callSi (pc := 2) dX8_back_2 ph_mf_yX8_within ph_ml_RX8_80 ph_ms_yX8_within (c_X8_within Z (d - 1) (by omega) x1 (nI 3) h) (by omega) rfl rfl (Nat.le_of_ble_eq_true rfl) (fun v3 h4 => ?_)
  refine ph_if_ne (tgt := 11) (pc := 5) dX8_back_5 (by decide) (fun c5 => ?_) (fun c5 => ?_)
  · refine ph_iload_n (i := 1) (pc := 11) dX8_back_11 rfl rfl ?_
    refine ph_join (α := Nat) 38 (fun x => [some (.ref (ph_a Z 0)), none, none]) (fun x => [.ref (ph_a Z x)]) (fun x => h4) (fun x => ?_) (fun j6 hj6 => ?_)
    · revert x; intro r7
      refine ph_astore_n (i := 2) (ls1 := [some (.ref (ph_a Z 0)), none, some (.ref (ph_a Z r7))]) (pc := 38) dX8_back_38 rfl (by decide) rfl ?_
      refine ph_aload_n (i := 2) (pc := 39) dX8_back_39 rfl rfl ?_
      refine ph_isKr (fun hk8 => ?_)
      refine ph_callVi (pc := 40) dX8_back_40 ph_mf_yX7_size ph_ml_RX8_153 ph_mi_yX7_size ph_mv_yX7_size rfl hk8 (c_X7_size Z (d - 1) (by omega) r7 h4) (by omega) rfl rfl (Nat.le_of_ble_eq_true rfl) (fun v9 h10 => ?_)
      refine ph_if_ne (tgt := 49) (pc := 43) dX8_back_43 (by decide) (fun c11 => ?_) (fun c11 => ?_)
      · refine ph_aload_n (i := 2) (pc := 49) dX8_back_49 rfl rfl ?_
        refine ph_callVv (pc := 50) dX8_back_50 ph_mf_yX7_cut ph_ml_RX8_154 ph_mi_yX7_cut ph_mv_yX7_cut rfl hk8 (c_X7_cut Z (d - 1) (by omega) r7 h10) (by omega) rfl rfl (Nat.le_of_ble_eq_true rfl) (fun v12 h13 => ?_)
        refine ph_aload_n (i := 0) (pc := 53) dX8_back_53 rfl rfl ?_
        refine ph_iconst (v := (nI 1)) (pc := 54) dX8_back_54 ph_ic_1 ?_
        refine ph_putI (pc := 55) dX8_back_55 ph_pl_RX8_44 rfl (by decide) rfl rfl (fun h14 => ?_)
        refine ph_aload_n (i := 2) (pc := 58) dX8_back_58 rfl rfl ?_
        refine ph_callVi (pc := 59) dX8_back_59 ph_mf_yX7_size ph_ml_RX8_153 ph_mi_yX7_size ph_mv_yX7_size rfl hk8 (c_X7_size Z (d - 1) (by omega) r7 h14) (by omega) rfl rfl (Nat.le_of_ble_eq_true rfl) (fun v15 h16 => ?_)
        exact ph_iret (pc := 62) dX8_back_62 rfl
      · refine ph_bipush (v := (-3)) (pc := 46) dX8_back_46 ph_bp_m3 ?_
        exact ph_iret (pc := 48) dX8_back_48 rfl
    · refine ph_if_ne (tgt := 22) (pc := 12) dX8_back_12 (by decide) (fun c17 => ?_) (fun c17 => ?_)
      · refine ph_iload_n (i := 1) (pc := 22) dX8_back_22 rfl rfl ?_
        refine ph_iconst (v := (nI 1)) (pc := 23) dX8_back_23 ph_ic_1 ?_
        refine ph_icmp_ne (tgt := 34) (pc := 24) dX8_back_24 (by decide) (fun c18 => ?_) (fun c18 => ?_)
        · refine ph_aload_n (i := 0) (pc := 34) dX8_back_34 rfl rfl ?_
          refine ph_getR (j := 15) (pc := 35) dX8_back_35 ph_fl_RX8_31 rfl rfl rfl ?_
          refine ph_wk (ls1 := [some (.ref (ph_a Z 0)), none, none]) ⟨rfl, trivial⟩ ?_
          exact hj6 15
        · refine ph_aload_n (i := 0) (pc := 27) dX8_back_27 rfl rfl ?_
          refine ph_getR (j := 10) (pc := 28) dX8_back_28 ph_fl_RX8_28 rfl rfl rfl ?_
          refine ph_goto (tgt := 38) (pc := 31) dX8_back_31 (by decide) ?_
          refine ph_wk (ls1 := [some (.ref (ph_a Z 0)), none, none]) ⟨rfl, trivial⟩ ?_
          exact hj6 10
      · refine ph_aload_n (i := 0) (pc := 15) dX8_back_15 rfl rfl ?_
        refine ph_getR (j := 5) (pc := 16) dX8_back_16 ph_fl_RX8_24 rfl rfl rfl ?_
        refine ph_goto (tgt := 38) (pc := 19) dX8_back_19 (by decide) ?_
        refine ph_wk (ls1 := [some (.ref (ph_a Z 0)), none, none]) ⟨rfl, trivial⟩ ?_
        exact hj6 5
  · refine ph_bipush (v := (-2)) (pc := 8) dX8_back_8 ph_bp_m2 ?_
    exact ph_iret (pc := 10) dX8_back_10 rfl
def f_X8_found (x1 : Int32) (h : ph_Hp) : Option (Int32 × ph_Hp) :=
  ph_pfI h 0 13 x1 fun h3 =>
  some ((-10) - x1, h3)
set_option maxRecDepth 100000 in
theorem c_X8_found (Z : ph_L) (d : Nat) (hdd : 0 ≤ d) (x1 : Int32) (h : ph_Hp) : ph_CM Z yX8_found cX8_found 2 (some .int) d [.ref (ph_a Z 0), .int x1] ph_vi h (f_X8_found x1 h) := by
  refine ph_begin (own := RX8) ph_mf_yX8_found rfl (ls := [some (.ref (ph_a Z 0)), some (.int x1)]) rfl (Nat.le_of_ble_eq_true rfl) ?_
  unfold f_X8_found
  refine ph_aload_n (i := 0) (pc := 0) dX8_found_0 rfl rfl ?_
  refine ph_iload_n (i := 1) (pc := 1) dX8_found_1 rfl rfl ?_
  refine ph_putI (pc := 2) dX8_found_2 ph_pl_RX8_76 rfl (by decide) rfl rfl (fun h3 => ?_)
  refine ph_bipush (v := (-10)) (pc := 5) dX8_found_5 ph_bp_m10 ?_
  refine ph_iload_n (i := 1) (pc := 7) dX8_found_7 rfl rfl ?_
  refine ph_isub (pc := 8) dX8_found_8 ?_
  exact ph_iret (pc := 9) dX8_found_9 rfl
def f_X8_read (x1 : Int32) (h : ph_Hp) : Option (Int32 × ph_Hp) :=
  ph_cl (f_X8_within x1 (nI 4) h) fun v3 h4 =>
  if v3 = nI 0 then
    some ((-2), h4)
  else
    ph_cl (f_X5_isLost x1 h4) fun v6 h7 =>
    if v6 = nI 0 then
      ph_lp (α := Int32 × Int32 × ph_Hp) (fun j9 (x10, x11, h12) =>
        ph_cl (f_X5_sizeOf x1 h12) fun v13 h14 =>
        if v13 ≤ (x11 + (nI 1)) then
          some (x10, h14)
        else
          ph_cl (f_X5_item x1 x11 h14) fun v16 h17 =>
          ph_cl (f_X5_item x1 (x11 + (nI 1)) h17) fun v18 h19 =>
          ph_cl (f_X8_move v16 v18 h19) fun v20 h21 =>
          if nI 0 ≤ v20 then
            j9 (x10 + (nI 1), x11 + (nI 2), h21)
          else
            some (x10, h21)) ph_fu ((nI 0), (nI 0), h7)
    else
      ph_cl (f_X8_found (nI 1) h7) fun v23 h24 =>
      some (v23, h24)
set_option maxRecDepth 100000 in
theorem c_X8_read (Z : ph_L) (d : Nat) (hdd : 4 ≤ d) (x1 : Int32) (h : ph_Hp) : ph_CM Z yX8_read cX8_read 4 (some .int) d [.ref (ph_a Z 0), .int x1] ph_vi h (f_X8_read x1 h) := by
  refine ph_begin (own := RX8) ph_mf_yX8_read rfl (ls := [some (.ref (ph_a Z 0)), some (.int x1), none, none]) rfl (Nat.le_of_ble_eq_true rfl) ?_
  unfold f_X8_read
  refine ph_iload_n (i := 1) (pc := 0) dX8_read_0 rfl rfl ?_
  refine ph_iconst (v := (nI 4)) (pc := 1) dX8_read_1 ph_ic_4 ?_
  refine ph_callSi (pc := 2) dX8_read_2 ph_mf_yX8_within ph_ml_RX8_80 ph_ms_yX8_within (c_X8_within Z (d - 1) (by omega) x1 (nI 4) h) (by omega) rfl rfl (Nat.le_of_ble_eq_true rfl) (fun v3 h4 => ?_)
  refine ph_if_ne (tgt := 11) (pc := 5) dX8_read_5 (by decide) (fun c5 => ?_) (fun c5 => ?_)
  · refine ph_aload_n (i := 0) (pc := 11) dX8_read_11 rfl rfl ?_
    refine ph_getR (j := 47) (pc := 12) dX8_read_12 ph_fl_RX8_72 rfl rfl rfl ?_
    refine ph_iload_n (i := 1) (pc := 15) dX8_read_15 rfl rfl ?_
    refine ph_callVi (pc := 16) dX8_read_16 ph_mf_yX5_isLost ph_ml_RX8_155 ph_mi_yX5_isLost ph_mv_yX5_isLost rfl rfl (c_X5_isLost Z (d - 1) (by omega) x1 h4) (by omega) rfl rfl (Nat.le_of_ble_eq_true rfl) (fun v6 h7 => ?_)
    refine ph_if_eq (tgt := 28) (pc := 19) dX8_read_19 (by decide) (fun c8 => ?_) (fun c8 => ?_)
    · refine ph_iconst (v := (nI 0)) (pc := 28) dX8_read_28 ph_ic_0 ?_
      refine ph_istore_n (i := 2) (ls1 := [some (.ref (ph_a Z 0)), some (.int x1), some (.int (nI 0)), none]) (pc := 29) dX8_read_29 rfl (by decide) rfl ?_
      refine ph_iconst (v := (nI 0)) (pc := 30) dX8_read_30 ph_ic_0 ?_
      refine ph_istore_n (i := 3) (ls1 := [some (.ref (ph_a Z 0)), some (.int x1), some (.int (nI 0)), some (.int (nI 0))]) (pc := 31) dX8_read_31 rfl (by decide) rfl ?_
      refine ph_loop (α := Int32 × Int32 × ph_Hp) 32 (fun x => [some (.ref (ph_a Z 0)), some (.int x1), some (.int x.1), some (.int x.2.1)]) (fun x => []) (fun x => x.2.2) (fun j9 hj9 x => ?_) ph_fu ((nI 0), (nI 0), h7)
      obtain ⟨x10, x11, h12⟩ := x
      dsimp only
      refine ph_iload_n (i := 3) (pc := 32) dX8_read_32 rfl rfl ?_
      refine ph_iconst (v := (nI 1)) (pc := 33) dX8_read_33 ph_ic_1 ?_
      refine ph_iadd (pc := 34) dX8_read_34 ?_
      refine ph_aload_n (i := 0) (pc := 35) dX8_read_35 rfl rfl ?_
      refine ph_getR (j := 47) (pc := 36) dX8_read_36 ph_fl_RX8_72 rfl rfl rfl ?_
      refine ph_iload_n (i := 1) (pc := 39) dX8_read_39 rfl rfl ?_
      refine ph_callVi (pc := 40) dX8_read_40 ph_mf_yX5_sizeOf ph_ml_RX8_162 ph_mi_yX5_sizeOf ph_mv_yX5_sizeOf rfl rfl (c_X5_sizeOf Z (d - 1) (by omega) x1 h12) (by omega) rfl rfl (Nat.le_of_ble_eq_true rfl) (fun v13 h14 => ?_)
      refine ph_icmp_ge (tgt := 85) (pc := 43) dX8_read_43 (by decide) (fun c15 => ?_) (fun c15 => ?_)
      · refine ph_iload_n (i := 2) (pc := 85) dX8_read_85 rfl rfl ?_
        exact ph_iret (pc := 86) dX8_read_86 rfl
      · refine ph_aload_n (i := 0) (pc := 46) dX8_read_46 rfl rfl ?_
        refine ph_aload_n (i := 0) (pc := 47) dX8_read_47 rfl rfl ?_
        refine ph_getR (j := 47) (pc := 48) dX8_read_48 ph_fl_RX8_72 rfl rfl rfl ?_
        refine ph_iload_n (i := 1) (pc := 51) dX8_read_51 rfl rfl ?_
        refine ph_iload_n (i := 3) (pc := 52) dX8_read_52 rfl rfl ?_
        refine ph_callVi (pc := 53) dX8_read_53 ph_mf_yX5_item ph_ml_RX8_165 ph_mi_yX5_item ph_mv_yX5_item rfl rfl (c_X5_item Z (d - 1) (by omega) x1 x11 h14) (by omega) rfl rfl (Nat.le_of_ble_eq_true rfl) (fun v16 h17 => ?_)
        refine ph_aload_n (i := 0) (pc := 56) dX8_read_56 rfl rfl ?_
        refine ph_getR (j := 47) (pc := 57) dX8_read_57 ph_fl_RX8_72 rfl rfl rfl ?_
        refine ph_iload_n (i := 1) (pc := 60) dX8_read_60 rfl rfl ?_
        refine ph_iload_n (i := 3) (pc := 61) dX8_read_61 rfl rfl ?_
        refine ph_iconst (v := (nI 1)) (pc := 62) dX8_read_62 ph_ic_1 ?_
        refine ph_iadd (pc := 63) dX8_read_63 ?_
        refine ph_callVi (pc := 64) dX8_read_64 ph_mf_yX5_item ph_ml_RX8_165 ph_mi_yX5_item ph_mv_yX5_item rfl rfl (c_X5_item Z (d - 1) (by omega) x1 (x11 + (nI 1)) h17) (by omega) rfl rfl (Nat.le_of_ble_eq_true rfl) (fun v18 h19 => ?_)
        refine ph_callVi (pc := 67) dX8_read_67 ph_mf_yX8_move ph_ml_RX8_169 ph_mi_yX8_move ph_mv_yX8_move rfl rfl (c_X8_move Z (d - 1) (by omega) v16 v18 h19) (by omega) rfl rfl (Nat.le_of_ble_eq_true rfl) (fun v20 h21 => ?_)
        refine ph_if_ge (tgt := 76) (pc := 70) dX8_read_70 (by decide) (fun c22 => ?_) (fun c22 => ?_)
        · refine ph_iinc (i := 2) (v := (nI 1)) (ls1 := [some (.ref (ph_a Z 0)), some (.int x1), some (.int (x10 + (nI 1))), some (.int x11)]) (pc := 76) dX8_read_76 rfl ph_ic_1 (by decide) rfl ?_
          refine ph_iinc (i := 3) (v := (nI 2)) (ls1 := [some (.ref (ph_a Z 0)), some (.int x1), some (.int (x10 + (nI 1))), some (.int (x11 + (nI 2)))]) (pc := 79) dX8_read_79 rfl ph_ic_2 (by decide) rfl ?_
          refine ph_goto (tgt := 32) (pc := 82) dX8_read_82 (by decide) ?_
          exact hj9 (x10 + (nI 1), x11 + (nI 2), h21)
        · refine ph_goto (tgt := 85) (pc := 73) dX8_read_73 (by decide) ?_
          refine ph_iload_n (i := 2) (pc := 85) dX8_read_85 rfl rfl ?_
          exact ph_iret (pc := 86) dX8_read_86 rfl
    · refine ph_aload_n (i := 0) (pc := 22) dX8_read_22 rfl rfl ?_
      refine ph_iconst (v := (nI 1)) (pc := 23) dX8_read_23 ph_ic_1 ?_
      refine ph_callVi (pc := 24) dX8_read_24 ph_mf_yX8_found ph_ml_RX8_159 ph_mi_yX8_found ph_mv_yX8_found rfl rfl (c_X8_found Z (d - 1) (by omega) (nI 1) h7) (by omega) rfl rfl (Nat.le_of_ble_eq_true rfl) (fun v23 h24 => ?_)
      exact ph_iret (pc := 27) dX8_read_27 rfl
  · refine ph_bipush (v := (-2)) (pc := 8) dX8_read_8 ph_bp_m2 ?_
    exact ph_iret (pc := 10) dX8_read_10 rfl
def f_X8_step (x1 : Int32) (x2 : Int32) (h : ph_Hp) : Option (Int32 × ph_Hp) :=
  ph_cl (f_X8_within x1 (nI 40) h) fun v4 h5 =>
  if v4 = nI 0 then
    some ((-2), h5)
  else
    ph_cl (f_X8_within x2 (nI 4) h5) fun v7 h8 =>
    if v7 = nI 0 then
      some ((-2), h8)
    else
      ph_cl (f_X8_staged h8) fun _ h11 =>
      if x2 = (nI 0) then
        ph_cl (f_X6_playedIn x1 h11) fun v13 h14 =>
        some (v13, h14)
      else
      if x2 = (nI 1) then
        ph_cl (f_X6_byIn x1 h11) fun v16 h17 =>
        some (v16, h17)
      else
      if x2 = (nI 2) then
        ph_cl (f_X6_whereIn x1 h11) fun v19 h20 =>
        some (v19, h20)
      else
      ph_cl (f_X3_printedIn x1 h11) fun v21 h22 =>
      some (v21, h22)
set_option maxRecDepth 100000 in
theorem c_X8_step (Z : ph_L) (d : Nat) (hdd : 5 ≤ d) (x1 : Int32) (x2 : Int32) (h : ph_Hp) : ph_CM Z yX8_step cX8_step 4 (some .int) d [.ref (ph_a Z 0), .int x1, .int x2] ph_vi h (f_X8_step x1 x2 h) := by
  refine ph_begin (own := RX8) ph_mf_yX8_step rfl (ls := [some (.ref (ph_a Z 0)), some (.int x1), some (.int x2), none]) rfl (Nat.le_of_ble_eq_true rfl) ?_
  unfold f_X8_step
  refine ph_iload_n (i := 1) (pc := 0) dX8_step_0 rfl rfl ?_
  refine ph_bipush (v := (nI 40)) (pc := 1) dX8_step_1 ph_bp_40 ?_
  refine ph_callSi (pc := 3) dX8_step_3 ph_mf_yX8_within ph_ml_RX8_80 ph_ms_yX8_within (c_X8_within Z (d - 1) (by omega) x1 (nI 40) h) (by omega) rfl rfl (Nat.le_of_ble_eq_true rfl) (fun v4 h5 => ?_)
  refine ph_if_eq (tgt := 17) (pc := 6) dX8_step_6 (by decide) (fun c6 => ?_) (fun c6 => ?_)
  · refine ph_bipush (v := (-2)) (pc := 17) dX8_step_17 ph_bp_m2 ?_
    exact ph_iret (pc := 19) dX8_step_19 rfl
  · refine ph_iload_n (i := 2) (pc := 9) dX8_step_9 rfl rfl ?_
    refine ph_iconst (v := (nI 4)) (pc := 10) dX8_step_10 ph_ic_4 ?_
    refine ph_callSi (pc := 11) dX8_step_11 ph_mf_yX8_within ph_ml_RX8_80 ph_ms_yX8_within (c_X8_within Z (d - 1) (by omega) x2 (nI 4) h5) (by omega) rfl rfl (Nat.le_of_ble_eq_true rfl) (fun v7 h8 => ?_)
    refine ph_if_ne (tgt := 20) (pc := 14) dX8_step_14 (by decide) (fun c9 => ?_) (fun c9 => ?_)
    · refine ph_aload_n (i := 0) (pc := 20) dX8_step_20 rfl rfl ?_
      refine ph_callVk (pc := 21) dX8_step_21 ph_mf_yX8_staged ph_ml_RX8_105 ph_mi_yX8_staged ph_mv_yX8_staged rfl rfl (c_X8_staged Z (d - 1) (by omega) h8) (by omega) rfl rfl (Nat.le_of_ble_eq_true rfl) (fun v10 h11 => ?_)
      refine ph_astore_n (i := 3) (ls1 := [some (.ref (ph_a Z 0)), some (.int x1), some (.int x2), some (.ref (ph_a Z 25))]) (pc := 24) dX8_step_24 rfl (by decide) rfl ?_
      refine ph_iload_n (i := 2) (pc := 25) dX8_step_25 rfl rfl ?_
      refine ph_ite (fun c12 => ?_) (fun c12 => ?_)
      · refine ph_tin (tgt := 52) (v := (nI 0)) (pc := 26) dX8_step_26 c12 (by decide) (by decide) rfl (by decide) ?_
        refine ph_aload_n (i := 3) (pc := 52) dX8_step_52 rfl rfl ?_
        refine ph_iload_n (i := 1) (pc := 53) dX8_step_53 rfl rfl ?_
        refine ph_callVi (pc := 54) dX8_step_54 ph_mf_yX6_playedIn ph_ml_RX8_172 ph_mi_yX6_playedIn ph_mv_yX6_playedIn rfl rfl (c_X6_playedIn Z (d - 1) (by omega) x1 h11) (by omega) rfl rfl (Nat.le_of_ble_eq_true rfl) (fun v13 h14 => ?_)
        exact ph_iret (pc := 57) dX8_step_57 rfl
      refine ph_ite (fun c15 => ?_) (fun c15 => ?_)
      · refine ph_tin (tgt := 58) (v := (nI 1)) (pc := 26) dX8_step_26 c15 (by decide) (by decide) rfl (by decide) ?_
        refine ph_aload_n (i := 3) (pc := 58) dX8_step_58 rfl rfl ?_
        refine ph_iload_n (i := 1) (pc := 59) dX8_step_59 rfl rfl ?_
        refine ph_callVi (pc := 60) dX8_step_60 ph_mf_yX6_byIn ph_ml_RX8_175 ph_mi_yX6_byIn ph_mv_yX6_byIn rfl rfl (c_X6_byIn Z (d - 1) (by omega) x1 h11) (by omega) rfl rfl (Nat.le_of_ble_eq_true rfl) (fun v16 h17 => ?_)
        exact ph_iret (pc := 63) dX8_step_63 rfl
      refine ph_ite (fun c18 => ?_) (fun c18 => ?_)
      · refine ph_tin (tgt := 64) (v := (nI 2)) (pc := 26) dX8_step_26 c18 (by decide) (by decide) rfl (by decide) ?_
        refine ph_aload_n (i := 3) (pc := 64) dX8_step_64 rfl rfl ?_
        refine ph_iload_n (i := 1) (pc := 65) dX8_step_65 rfl rfl ?_
        refine ph_callVi (pc := 66) dX8_step_66 ph_mf_yX6_whereIn ph_ml_RX8_178 ph_mi_yX6_whereIn ph_mv_yX6_whereIn rfl rfl (c_X6_whereIn Z (d - 1) (by omega) x1 h11) (by omega) rfl rfl (Nat.le_of_ble_eq_true rfl) (fun v19 h20 => ?_)
        exact ph_iret (pc := 69) dX8_step_69 rfl
      refine ph_tout (tgt := 70) (pc := 26) dX8_step_26 (by
        have := lv_neT (a := 0) c12 (by decide)
        have := lv_neT (a := 1) c15 (by decide)
        have := lv_neT (a := 2) c18 (by decide)
        omega) (by decide) ?_
      refine ph_aload_n (i := 3) (pc := 70) dX8_step_70 rfl rfl ?_
      refine ph_getR (j := 26) (pc := 71) dX8_step_71 ph_fl_RX8_109 rfl rfl rfl ?_
      refine ph_iload_n (i := 1) (pc := 74) dX8_step_74 rfl rfl ?_
      refine ph_callVi (pc := 75) dX8_step_75 ph_mf_yX3_printedIn ph_ml_RX8_181 ph_mi_yX3_printedIn ph_mv_yX3_printedIn rfl rfl (c_X3_printedIn Z (d - 1) (by omega) x1 h11) (by omega) rfl rfl (Nat.le_of_ble_eq_true rfl) (fun v21 h22 => ?_)
      exact ph_iret (pc := 78) dX8_step_78 rfl
    · refine ph_bipush (v := (-2)) (pc := 17) dX8_step_17 ph_bp_m2 ?_
      exact ph_iret (pc := 19) dX8_step_19 rfl
def f_X8_whispers (x1 : Int32) (x2 : Int32) (h : ph_Hp) : Option (Int32 × ph_Hp) :=
  ph_cl (f_X8_staged h) fun _ h5 =>
  ph_cl (f_X8_within x1 (nI 40) h5) fun v6 h7 =>
  if v6 = nI 0 then
    some ((-2), h7)
  else
    ph_cl (f_X8_within x2 (h7.1 30 5) h7) fun v9 h10 =>
    if v9 = nI 0 then
      some ((-2), h10)
    else
      ph_cl (f_X6_hears x2 x1 (nI 0) h10) fun v12 h13 =>
      if v12 = nI 0 then
        some ((-1), h13)
      else
        ph_cl (f_X6_playedIn (x1 - (nI 1)) h13) fun v15 h16 =>
        ph_cl (f_X6_coughsIn x1 h16) fun v17 h18 =>
        ph_cl (f_X6_whispered x2 v15 v17 h18) fun v19 h20 =>
        some (v19, h20)
set_option maxRecDepth 100000 in
theorem c_X8_whispers (Z : ph_L) (d : Nat) (hdd : 5 ≤ d) (x1 : Int32) (x2 : Int32) (h : ph_Hp) : ph_CM Z yX8_whispers cX8_whispers 4 (some .int) d [.ref (ph_a Z 0), .int x1, .int x2] ph_vi h (f_X8_whispers x1 x2 h) := by
  refine ph_begin (own := RX8) ph_mf_yX8_whispers rfl (ls := [some (.ref (ph_a Z 0)), some (.int x1), some (.int x2), none]) rfl (Nat.le_of_ble_eq_true rfl) ?_
  unfold f_X8_whispers
  refine ph_aload_n (i := 0) (pc := 0) dX8_whispers_0 rfl rfl ?_
  refine ph_callVk (pc := 1) dX8_whispers_1 ph_mf_yX8_staged ph_ml_RX8_105 ph_mi_yX8_staged ph_mv_yX8_staged rfl rfl (c_X8_staged Z (d - 1) (by omega) h) (by omega) rfl rfl (Nat.le_of_ble_eq_true rfl) (fun v4 h5 => ?_)
  refine ph_astore_n (i := 3) (ls1 := [some (.ref (ph_a Z 0)), some (.int x1), some (.int x2), some (.ref (ph_a Z 25))]) (pc := 4) dX8_whispers_4 rfl (by decide) rfl ?_
  refine ph_iload_n (i := 1) (pc := 5) dX8_whispers_5 rfl rfl ?_
  refine ph_bipush (v := (nI 40)) (pc := 6) dX8_whispers_6 ph_bp_40 ?_
  refine ph_callSi (pc := 8) dX8_whispers_8 ph_mf_yX8_within ph_ml_RX8_80 ph_ms_yX8_within (c_X8_within Z (d - 1) (by omega) x1 (nI 40) h5) (by omega) rfl rfl (Nat.le_of_ble_eq_true rfl) (fun v6 h7 => ?_)
  refine ph_if_eq (tgt := 28) (pc := 11) dX8_whispers_11 (by decide) (fun c8 => ?_) (fun c8 => ?_)
  · refine ph_bipush (v := (-2)) (pc := 28) dX8_whispers_28 ph_bp_m2 ?_
    exact ph_iret (pc := 30) dX8_whispers_30 rfl
  · refine ph_iload_n (i := 2) (pc := 14) dX8_whispers_14 rfl rfl ?_
    refine ph_aload_n (i := 3) (pc := 15) dX8_whispers_15 rfl rfl ?_
    refine ph_getR (j := 30) (pc := 16) dX8_whispers_16 ph_fl_RX8_118 rfl rfl rfl ?_
    refine ph_getI (pc := 19) dX8_whispers_19 ph_fl_RX8_129 rfl (by decide) ?_
    refine ph_callSi (pc := 22) dX8_whispers_22 ph_mf_yX8_within ph_ml_RX8_80 ph_ms_yX8_within (c_X8_within Z (d - 1) (by omega) x2 (h7.1 30 5) h7) (by omega) rfl rfl (Nat.le_of_ble_eq_true rfl) (fun v9 h10 => ?_)
    refine ph_if_ne (tgt := 31) (pc := 25) dX8_whispers_25 (by decide) (fun c11 => ?_) (fun c11 => ?_)
    · refine ph_aload_n (i := 3) (pc := 31) dX8_whispers_31 rfl rfl ?_
      refine ph_iload_n (i := 2) (pc := 32) dX8_whispers_32 rfl rfl ?_
      refine ph_iload_n (i := 1) (pc := 33) dX8_whispers_33 rfl rfl ?_
      refine ph_iconst (v := (nI 0)) (pc := 34) dX8_whispers_34 ph_ic_0 ?_
      refine ph_callVi (pc := 35) dX8_whispers_35 ph_mf_yX6_hears ph_ml_RX8_184 ph_mi_yX6_hears ph_mv_yX6_hears rfl rfl (c_X6_hears Z (d - 1) (by omega) x2 x1 (nI 0) h10) (by omega) rfl rfl (Nat.le_of_ble_eq_true rfl) (fun v12 h13 => ?_)
      refine ph_if_ne (tgt := 43) (pc := 38) dX8_whispers_38 (by decide) (fun c14 => ?_) (fun c14 => ?_)
      · refine ph_aload_n (i := 3) (pc := 43) dX8_whispers_43 rfl rfl ?_
        refine ph_iload_n (i := 2) (pc := 44) dX8_whispers_44 rfl rfl ?_
        refine ph_aload_n (i := 3) (pc := 45) dX8_whispers_45 rfl rfl ?_
        refine ph_iload_n (i := 1) (pc := 46) dX8_whispers_46 rfl rfl ?_
        refine ph_iconst (v := (nI 1)) (pc := 47) dX8_whispers_47 ph_ic_1 ?_
        refine ph_isub (pc := 48) dX8_whispers_48 ?_
        refine ph_callVi (pc := 49) dX8_whispers_49 ph_mf_yX6_playedIn ph_ml_RX8_172 ph_mi_yX6_playedIn ph_mv_yX6_playedIn rfl rfl (c_X6_playedIn Z (d - 1) (by omega) (x1 - (nI 1)) h13) (by omega) rfl rfl (Nat.le_of_ble_eq_true rfl) (fun v15 h16 => ?_)
        refine ph_aload_n (i := 3) (pc := 52) dX8_whispers_52 rfl rfl ?_
        refine ph_iload_n (i := 1) (pc := 53) dX8_whispers_53 rfl rfl ?_
        refine ph_callVi (pc := 54) dX8_whispers_54 ph_mf_yX6_coughsIn ph_ml_RX8_188 ph_mi_yX6_coughsIn ph_mv_yX6_coughsIn rfl rfl (c_X6_coughsIn Z (d - 1) (by omega) x1 h16) (by omega) rfl rfl (Nat.le_of_ble_eq_true rfl) (fun v17 h18 => ?_)
        refine ph_callVi (pc := 57) dX8_whispers_57 ph_mf_yX6_whispered ph_ml_RX8_191 ph_mi_yX6_whispered ph_mv_yX6_whispered rfl rfl (c_X6_whispered Z (d - 1) (by omega) x2 v15 v17 h18) (by omega) rfl rfl (Nat.le_of_ble_eq_true rfl) (fun v19 h20 => ?_)
        exact ph_iret (pc := 60) dX8_whispers_60 rfl
      · refine ph_iconst (v := (-1)) (pc := 41) dX8_whispers_41 ph_ic_m1 ?_
        exact ph_iret (pc := 42) dX8_whispers_42 rfl
    · refine ph_bipush (v := (-2)) (pc := 28) dX8_whispers_28 ph_bp_m2 ?_
      exact ph_iret (pc := 30) dX8_whispers_30 rfl
def f_X8_drift (x1 : Int32) (h : ph_Hp) : Option (Int32 × ph_Hp) :=
  ph_cl (f_X8_within x1 (nI 2) h) fun v3 h4 =>
  if v3 = nI 0 then
    some ((-2), h4)
  else
    ph_cl (f_X8_staged h4) fun _ h7 =>
    ph_lp (α := Int32 × Int32 × Int32 × ph_Hp) (fun j8 (x9, x10, x11, h12) =>
      if x11 < nI 0 then
        if x10 = nI 0 then
          some ((-1), h12)
        else
          if x1 = nI 0 then
            some (x9, h12)
          else
            some (x10, h12)
      else
        ph_cl (f_X6_playedIn x11 h12) fun v16 h17 =>
        ph_cl (f_X3_printedIn x11 h17) fun v18 h19 =>
        ph_jn (α := Int32 × Int32) (fun (x21, x22) =>
          j8 (x21, x22, x11 + (-1), h19)) (fun j20 =>
          if v16 = v18 then
            j20 (x9, x10)
          else
            j20 (x11, x10 + (nI 1)))) ph_fu ((-1), (nI 0), (nI 39), h7)
set_option maxRecDepth 100000 in
theorem c_X8_drift (Z : ph_L) (d : Nat) (hdd : 5 ≤ d) (x1 : Int32) (h : ph_Hp) : ph_CM Z yX8_drift cX8_drift 6 (some .int) d [.ref (ph_a Z 0), .int x1] ph_vi h (f_X8_drift x1 h) := by
  refine ph_begin (own := RX8) ph_mf_yX8_drift rfl (ls := [some (.ref (ph_a Z 0)), some (.int x1), none, none, none, none]) rfl (Nat.le_of_ble_eq_true rfl) ?_
  unfold f_X8_drift
  refine ph_iload_n (i := 1) (pc := 0) dX8_drift_0 rfl rfl ?_
  refine ph_iconst (v := (nI 2)) (pc := 1) dX8_drift_1 ph_ic_2 ?_
  refine ph_callSi (pc := 2) dX8_drift_2 ph_mf_yX8_within ph_ml_RX8_80 ph_ms_yX8_within (c_X8_within Z (d - 1) (by omega) x1 (nI 2) h) (by omega) rfl rfl (Nat.le_of_ble_eq_true rfl) (fun v3 h4 => ?_)
  refine ph_if_ne (tgt := 11) (pc := 5) dX8_drift_5 (by decide) (fun c5 => ?_) (fun c5 => ?_)
  · refine ph_aload_n (i := 0) (pc := 11) dX8_drift_11 rfl rfl ?_
    refine ph_callVk (pc := 12) dX8_drift_12 ph_mf_yX8_staged ph_ml_RX8_105 ph_mi_yX8_staged ph_mv_yX8_staged rfl rfl (c_X8_staged Z (d - 1) (by omega) h4) (by omega) rfl rfl (Nat.le_of_ble_eq_true rfl) (fun v6 h7 => ?_)
    refine ph_astore_n (i := 2) (ls1 := [some (.ref (ph_a Z 0)), some (.int x1), some (.ref (ph_a Z 25)), none, none, none]) (pc := 15) dX8_drift_15 rfl (by decide) rfl ?_
    refine ph_iconst (v := (-1)) (pc := 16) dX8_drift_16 ph_ic_m1 ?_
    refine ph_istore_n (i := 3) (ls1 := [some (.ref (ph_a Z 0)), some (.int x1), some (.ref (ph_a Z 25)), some (.int (-1)), none, none]) (pc := 17) dX8_drift_17 rfl (by decide) rfl ?_
    refine ph_iconst (v := (nI 0)) (pc := 18) dX8_drift_18 ph_ic_0 ?_
    refine ph_istore (i := 4) (ls1 := [some (.ref (ph_a Z 0)), some (.int x1), some (.ref (ph_a Z 25)), some (.int (-1)), some (.int (nI 0)), none]) (pc := 19) dX8_drift_19 (by decide) rfl ?_
    refine ph_bipush (v := (nI 39)) (pc := 21) dX8_drift_21 ph_bp_39 ?_
    refine ph_istore (i := 5) (ls1 := [some (.ref (ph_a Z 0)), some (.int x1), some (.ref (ph_a Z 25)), some (.int (-1)), some (.int (nI 0)), some (.int (nI 39))]) (pc := 23) dX8_drift_23 (by decide) rfl ?_
    refine ph_wk (ls1 := [none, some (.int x1), some (.ref (ph_a Z 25)), some (.int (-1)), some (.int (nI 0)), some (.int (nI 39))]) ⟨rfl, ⟨rfl, ⟨rfl, ⟨rfl, ⟨rfl, trivial⟩⟩⟩⟩⟩ ?_
    refine ph_loop (α := Int32 × Int32 × Int32 × ph_Hp) 25 (fun x => [none, some (.int x1), some (.ref (ph_a Z 25)), some (.int x.1), some (.int x.2.1), some (.int x.2.2.1)]) (fun x => []) (fun x => x.2.2.2) (fun j8 hj8 x => ?_) ph_fu ((-1), (nI 0), (nI 39), h7)
    obtain ⟨x9, x10, x11, h12⟩ := x
    dsimp only
    refine ph_iload (i := 5) (pc := 25) dX8_drift_25 rfl ?_
    refine ph_if_lt (tgt := 60) (pc := 27) dX8_drift_27 (by decide) (fun c13 => ?_) (fun c13 => ?_)
    · refine ph_iload (i := 4) (pc := 60) dX8_drift_60 rfl ?_
      refine ph_if_ne (tgt := 69) (pc := 62) dX8_drift_62 (by decide) (fun c14 => ?_) (fun c14 => ?_)
      · refine ph_iload_n (i := 1) (pc := 69) dX8_drift_69 rfl rfl ?_
        refine ph_if_ne (tgt := 77) (pc := 70) dX8_drift_70 (by decide) (fun c15 => ?_) (fun c15 => ?_)
        · refine ph_iload (i := 4) (pc := 77) dX8_drift_77 rfl ?_
          exact ph_iret (pc := 79) dX8_drift_79 rfl
        · refine ph_iload_n (i := 3) (pc := 73) dX8_drift_73 rfl rfl ?_
          refine ph_goto (tgt := 79) (pc := 74) dX8_drift_74 (by decide) ?_
          exact ph_iret (pc := 79) dX8_drift_79 rfl
      · refine ph_iconst (v := (-1)) (pc := 65) dX8_drift_65 ph_ic_m1 ?_
        refine ph_goto (tgt := 79) (pc := 66) dX8_drift_66 (by decide) ?_
        exact ph_iret (pc := 79) dX8_drift_79 rfl
    · refine ph_aload_n (i := 2) (pc := 30) dX8_drift_30 rfl rfl ?_
      refine ph_iload (i := 5) (pc := 31) dX8_drift_31 rfl ?_
      refine ph_callVi (pc := 33) dX8_drift_33 ph_mf_yX6_playedIn ph_ml_RX8_172 ph_mi_yX6_playedIn ph_mv_yX6_playedIn rfl rfl (c_X6_playedIn Z (d - 1) (by omega) x11 h12) (by omega) rfl rfl (Nat.le_of_ble_eq_true rfl) (fun v16 h17 => ?_)
      refine ph_aload_n (i := 2) (pc := 36) dX8_drift_36 rfl rfl ?_
      refine ph_getR (j := 26) (pc := 37) dX8_drift_37 ph_fl_RX8_109 rfl rfl rfl ?_
      refine ph_iload (i := 5) (pc := 40) dX8_drift_40 rfl ?_
      refine ph_callVi (pc := 42) dX8_drift_42 ph_mf_yX3_printedIn ph_ml_RX8_181 ph_mi_yX3_printedIn ph_mv_yX3_printedIn rfl rfl (c_X3_printedIn Z (d - 1) (by omega) x11 h17) (by omega) rfl rfl (Nat.le_of_ble_eq_true rfl) (fun v18 h19 => ?_)
      refine ph_join (α := Int32 × Int32) 54 (fun x => [none, some (.int x1), some (.ref (ph_a Z 25)), some (.int x.1), some (.int x.2), some (.int x11)]) (fun x => []) (fun x => h19) (fun x => ?_) (fun j20 hj20 => ?_)
      · obtain ⟨x21, x22⟩ := x
        dsimp only
        refine ph_iinc (i := 5) (v := (-1)) (ls1 := [none, some (.int x1), some (.ref (ph_a Z 25)), some (.int x21), some (.int x22), some (.int (x11 + (-1)))]) (pc := 54) dX8_drift_54 rfl ph_ic_m1 (by decide) rfl ?_
        refine ph_goto (tgt := 25) (pc := 57) dX8_drift_57 (by decide) ?_
        exact hj8 (x21, x22, x11 + (-1), h19)
      · refine ph_icmp_eq (tgt := 54) (pc := 45) dX8_drift_45 (by decide) (fun c23 => ?_) (fun c23 => ?_)
        · exact hj20 (x9, x10)
        · refine ph_iload (i := 5) (pc := 48) dX8_drift_48 rfl ?_
          refine ph_istore_n (i := 3) (ls1 := [none, some (.int x1), some (.ref (ph_a Z 25)), some (.int x11), some (.int x10), some (.int x11)]) (pc := 50) dX8_drift_50 rfl (by decide) rfl ?_
          refine ph_iinc (i := 4) (v := (nI 1)) (ls1 := [none, some (.int x1), some (.ref (ph_a Z 25)), some (.int x11), some (.int (x10 + (nI 1))), some (.int x11)]) (pc := 51) dX8_drift_51 rfl ph_ic_1 (by decide) rfl ?_
          exact hj20 (x11, x10 + (nI 1))
  · refine ph_bipush (v := (-2)) (pc := 8) dX8_drift_8 ph_bp_m2 ?_
    exact ph_iret (pc := 10) dX8_drift_10 rfl
def f_X8_goesRound (x2 : Int32) (h : ph_Hp) : Option (Int32 × ph_Hp) :=
  ph_lp (α := Int32 × ph_Hp) (fun j4 (x5, h6) =>
    if (nI 40) ≤ (x5 + x2) then
      ph_rz (nI 1) h6
    else
      ph_cl (f_X6_playedIn x5 h6) fun v8 h9 =>
      ph_cl (f_X6_playedIn (x5 + x2) h9) fun v10 h11 =>
      if v8 = v10 then
        j4 (x5 + (nI 1), h11)
      else
        ph_rz (nI 0) h11) ph_fu ((nI 16), h)
set_option maxRecDepth 100000 in
theorem c_X8_goesRound (Z : ph_L) (d : Nat) (hdd : 1 ≤ d) (x2 : Int32) (h : ph_Hp) : ph_CM Z yX8_goesRound cX8_goesRound 3 (some .boolean) d [.ref (ph_a Z 25), .int x2] ph_vi h (f_X8_goesRound x2 h) := by
  refine ph_begin (own := RX8) ph_mf_yX8_goesRound rfl (ls := [some (.ref (ph_a Z 25)), some (.int x2), none]) rfl (Nat.le_of_ble_eq_true rfl) ?_
  unfold f_X8_goesRound
  refine ph_bipush (v := (nI 16)) (pc := 0) dX8_goesRound_0 ph_bp_16 ?_
  refine ph_istore_n (i := 2) (ls1 := [some (.ref (ph_a Z 25)), some (.int x2), some (.int (nI 16))]) (pc := 2) dX8_goesRound_2 rfl (by decide) rfl ?_
  refine ph_loop (α := Int32 × ph_Hp) 3 (fun x => [some (.ref (ph_a Z 25)), some (.int x2), some (.int x.1)]) (fun x => []) (fun x => x.2) (fun j4 hj4 x => ?_) ph_fu ((nI 16), h)
  obtain ⟨x5, h6⟩ := x
  dsimp only
  refine ph_iload_n (i := 2) (pc := 3) dX8_goesRound_3 rfl rfl ?_
  refine ph_iload_n (i := 1) (pc := 4) dX8_goesRound_4 rfl rfl ?_
  refine ph_iadd (pc := 5) dX8_goesRound_5 ?_
  refine ph_bipush (v := (nI 40)) (pc := 6) dX8_goesRound_6 ph_bp_40 ?_
  refine ph_icmp_ge (tgt := 34) (pc := 8) dX8_goesRound_8 (by decide) (fun c7 => ?_) (fun c7 => ?_)
  · refine ph_iconst (v := (nI 1)) (pc := 34) dX8_goesRound_34 ph_ic_1 ?_
    exact ph_zret (pc := 35) dX8_goesRound_35 rfl
  · refine ph_aload_n (i := 0) (pc := 11) dX8_goesRound_11 rfl rfl ?_
    refine ph_iload_n (i := 2) (pc := 12) dX8_goesRound_12 rfl rfl ?_
    refine ph_callVi (pc := 13) dX8_goesRound_13 ph_mf_yX6_playedIn ph_ml_RX8_172 ph_mi_yX6_playedIn ph_mv_yX6_playedIn rfl rfl (c_X6_playedIn Z (d - 1) (by omega) x5 h6) (by omega) rfl rfl (Nat.le_of_ble_eq_true rfl) (fun v8 h9 => ?_)
    refine ph_aload_n (i := 0) (pc := 16) dX8_goesRound_16 rfl rfl ?_
    refine ph_iload_n (i := 2) (pc := 17) dX8_goesRound_17 rfl rfl ?_
    refine ph_iload_n (i := 1) (pc := 18) dX8_goesRound_18 rfl rfl ?_
    refine ph_iadd (pc := 19) dX8_goesRound_19 ?_
    refine ph_callVi (pc := 20) dX8_goesRound_20 ph_mf_yX6_playedIn ph_ml_RX8_172 ph_mi_yX6_playedIn ph_mv_yX6_playedIn rfl rfl (c_X6_playedIn Z (d - 1) (by omega) (x5 + x2) h9) (by omega) rfl rfl (Nat.le_of_ble_eq_true rfl) (fun v10 h11 => ?_)
    refine ph_icmp_eq (tgt := 28) (pc := 23) dX8_goesRound_23 (by decide) (fun c12 => ?_) (fun c12 => ?_)
    · refine ph_iinc (i := 2) (v := (nI 1)) (ls1 := [some (.ref (ph_a Z 25)), some (.int x2), some (.int (x5 + (nI 1)))]) (pc := 28) dX8_goesRound_28 rfl ph_ic_1 (by decide) rfl ?_
      refine ph_goto (tgt := 3) (pc := 31) dX8_goesRound_31 (by decide) ?_
      exact hj4 (x5 + (nI 1), h11)
    · refine ph_iconst (v := (nI 0)) (pc := 26) dX8_goesRound_26 ph_ic_0 ?_
      exact ph_zret (pc := 27) dX8_goesRound_27 rfl
def f_X8_round (h : ph_Hp) : Option (Int32 × ph_Hp) :=
  ph_cl (f_X8_staged h) fun _ h3 =>
  ph_lp (α := Int32 × ph_Hp) (fun j4 (x5, h6) =>
    if (nI 12) < x5 then
      some ((-1), h6)
    else
      ph_cl (f_X8_goesRound x5 h6) fun v8 h9 =>
      if v8 = nI 0 then
        j4 (x5 + (nI 1), h9)
      else
        some (x5, h9)) ph_fu ((nI 1), h3)
set_option maxRecDepth 100000 in
theorem c_X8_round (Z : ph_L) (d : Nat) (hdd : 5 ≤ d) (h : ph_Hp) : ph_CM Z yX8_round cX8_round 3 (some .int) d [.ref (ph_a Z 0)] ph_vi h (f_X8_round h) := by
  refine ph_begin (own := RX8) ph_mf_yX8_round rfl (ls := [some (.ref (ph_a Z 0)), none, none]) rfl (Nat.le_of_ble_eq_true rfl) ?_
  unfold f_X8_round
  refine ph_aload_n (i := 0) (pc := 0) dX8_round_0 rfl rfl ?_
  refine ph_callVk (pc := 1) dX8_round_1 ph_mf_yX8_staged ph_ml_RX8_105 ph_mi_yX8_staged ph_mv_yX8_staged rfl rfl (c_X8_staged Z (d - 1) (by omega) h) (by omega) rfl rfl (Nat.le_of_ble_eq_true rfl) (fun v2 h3 => ?_)
  refine ph_astore_n (i := 1) (ls1 := [some (.ref (ph_a Z 0)), some (.ref (ph_a Z 25)), none]) (pc := 4) dX8_round_4 rfl (by decide) rfl ?_
  refine ph_iconst (v := (nI 1)) (pc := 5) dX8_round_5 ph_ic_1 ?_
  refine ph_istore_n (i := 2) (ls1 := [some (.ref (ph_a Z 0)), some (.ref (ph_a Z 25)), some (.int (nI 1))]) (pc := 6) dX8_round_6 rfl (by decide) rfl ?_
  refine ph_wk (ls1 := [none, some (.ref (ph_a Z 25)), some (.int (nI 1))]) ⟨rfl, ⟨rfl, trivial⟩⟩ ?_
  refine ph_loop (α := Int32 × ph_Hp) 7 (fun x => [none, some (.ref (ph_a Z 25)), some (.int x.1)]) (fun x => []) (fun x => x.2) (fun j4 hj4 x => ?_) ph_fu ((nI 1), h3)
  obtain ⟨x5, h6⟩ := x
  dsimp only
  refine ph_iload_n (i := 2) (pc := 7) dX8_round_7 rfl rfl ?_
  refine ph_bipush (v := (nI 12)) (pc := 8) dX8_round_8 ph_bp_12 ?_
  refine ph_icmp_gt (tgt := 29) (pc := 10) dX8_round_10 (by decide) (fun c7 => ?_) (fun c7 => ?_)
  · refine ph_iconst (v := (-1)) (pc := 29) dX8_round_29 ph_ic_m1 ?_
    exact ph_iret (pc := 30) dX8_round_30 rfl
  · refine ph_aload_n (i := 1) (pc := 13) dX8_round_13 rfl rfl ?_
    refine ph_iload_n (i := 2) (pc := 14) dX8_round_14 rfl rfl ?_
    refine ph_callSi (pc := 15) dX8_round_15 ph_mf_yX8_goesRound ph_ml_RX8_195 ph_ms_yX8_goesRound (c_X8_goesRound Z (d - 1) (by omega) x5 h6) (by omega) rfl rfl (Nat.le_of_ble_eq_true rfl) (fun v8 h9 => ?_)
    refine ph_if_eq (tgt := 23) (pc := 18) dX8_round_18 (by decide) (fun c10 => ?_) (fun c10 => ?_)
    · refine ph_iinc (i := 2) (v := (nI 1)) (ls1 := [none, some (.ref (ph_a Z 25)), some (.int (x5 + (nI 1)))]) (pc := 23) dX8_round_23 rfl ph_ic_1 (by decide) rfl ?_
      refine ph_goto (tgt := 7) (pc := 26) dX8_round_26 (by decide) ?_
      exact hj4 (x5 + (nI 1), h9)
    · refine ph_iload_n (i := 2) (pc := 21) dX8_round_21 rfl rfl ?_
      exact ph_iret (pc := 22) dX8_round_22 rfl
def f_X8_often (x1 : Int32) (x2 : Int32) (h : ph_Hp) : Option (Int32 × ph_Hp) :=
  ph_cl (f_X8_within x1 (nI 8) h) fun v4 h5 =>
  if v4 = nI 0 then
    some ((-2), h5)
  else
    ph_cl (f_X8_within x2 (nI 2) h5) fun v7 h8 =>
    if v7 = nI 0 then
      some ((-2), h8)
    else
      ph_cl (f_X8_staged h8) fun _ h11 =>
      ph_lp (α := Int32 × Int32 × Int32 × ph_Hp) (fun j12 (x13, x14, x15, h16) =>
        if (nI 40) ≤ x15 then
          if x2 = nI 0 then
            some (x13, h16)
          else
            some (x14, h16)
        else
          ph_cl (f_X6_playedIn x15 h16) fun v19 h20 =>
          ph_jn (α := Int32 × Int32) (fun (x22, x23) =>
            j12 (x22, x23, x15 + (nI 1), h20)) (fun j21 =>
            if v19 = x1 then
              j21 (x13 + (nI 1), x15)
            else
              j21 (x13, x14))) ph_fu ((nI 0), (-1), (nI 0), h11)
set_option maxRecDepth 100000 in
theorem c_X8_often (Z : ph_L) (d : Nat) (hdd : 5 ≤ d) (x1 : Int32) (x2 : Int32) (h : ph_Hp) : ph_CM Z yX8_often cX8_often 7 (some .int) d [.ref (ph_a Z 0), .int x1, .int x2] ph_vi h (f_X8_often x1 x2 h) := by
  refine ph_begin (own := RX8) ph_mf_yX8_often rfl (ls := [some (.ref (ph_a Z 0)), some (.int x1), some (.int x2), none, none, none, none]) rfl (Nat.le_of_ble_eq_true rfl) ?_
  unfold f_X8_often
  refine ph_iload_n (i := 1) (pc := 0) dX8_often_0 rfl rfl ?_
  refine ph_bipush (v := (nI 8)) (pc := 1) dX8_often_1 ph_bp_8 ?_
  refine ph_callSi (pc := 3) dX8_often_3 ph_mf_yX8_within ph_ml_RX8_80 ph_ms_yX8_within (c_X8_within Z (d - 1) (by omega) x1 (nI 8) h) (by omega) rfl rfl (Nat.le_of_ble_eq_true rfl) (fun v4 h5 => ?_)
  refine ph_if_eq (tgt := 17) (pc := 6) dX8_often_6 (by decide) (fun c6 => ?_) (fun c6 => ?_)
  · refine ph_bipush (v := (-2)) (pc := 17) dX8_often_17 ph_bp_m2 ?_
    exact ph_iret (pc := 19) dX8_often_19 rfl
  · refine ph_iload_n (i := 2) (pc := 9) dX8_often_9 rfl rfl ?_
    refine ph_iconst (v := (nI 2)) (pc := 10) dX8_often_10 ph_ic_2 ?_
    refine ph_callSi (pc := 11) dX8_often_11 ph_mf_yX8_within ph_ml_RX8_80 ph_ms_yX8_within (c_X8_within Z (d - 1) (by omega) x2 (nI 2) h5) (by omega) rfl rfl (Nat.le_of_ble_eq_true rfl) (fun v7 h8 => ?_)
    refine ph_if_ne (tgt := 20) (pc := 14) dX8_often_14 (by decide) (fun c9 => ?_) (fun c9 => ?_)
    · refine ph_aload_n (i := 0) (pc := 20) dX8_often_20 rfl rfl ?_
      refine ph_callVk (pc := 21) dX8_often_21 ph_mf_yX8_staged ph_ml_RX8_105 ph_mi_yX8_staged ph_mv_yX8_staged rfl rfl (c_X8_staged Z (d - 1) (by omega) h8) (by omega) rfl rfl (Nat.le_of_ble_eq_true rfl) (fun v10 h11 => ?_)
      refine ph_astore_n (i := 3) (ls1 := [some (.ref (ph_a Z 0)), some (.int x1), some (.int x2), some (.ref (ph_a Z 25)), none, none, none]) (pc := 24) dX8_often_24 rfl (by decide) rfl ?_
      refine ph_iconst (v := (nI 0)) (pc := 25) dX8_often_25 ph_ic_0 ?_
      refine ph_istore (i := 4) (ls1 := [some (.ref (ph_a Z 0)), some (.int x1), some (.int x2), some (.ref (ph_a Z 25)), some (.int (nI 0)), none, none]) (pc := 26) dX8_often_26 (by decide) rfl ?_
      refine ph_iconst (v := (-1)) (pc := 28) dX8_often_28 ph_ic_m1 ?_
      refine ph_istore (i := 5) (ls1 := [some (.ref (ph_a Z 0)), some (.int x1), some (.int x2), some (.ref (ph_a Z 25)), some (.int (nI 0)), some (.int (-1)), none]) (pc := 29) dX8_often_29 (by decide) rfl ?_
      refine ph_iconst (v := (nI 0)) (pc := 31) dX8_often_31 ph_ic_0 ?_
      refine ph_istore (i := 6) (ls1 := [some (.ref (ph_a Z 0)), some (.int x1), some (.int x2), some (.ref (ph_a Z 25)), some (.int (nI 0)), some (.int (-1)), some (.int (nI 0))]) (pc := 32) dX8_often_32 (by decide) rfl ?_
      refine ph_wk (ls1 := [none, some (.int x1), some (.int x2), some (.ref (ph_a Z 25)), some (.int (nI 0)), some (.int (-1)), some (.int (nI 0))]) ⟨rfl, ⟨rfl, ⟨rfl, ⟨rfl, ⟨rfl, ⟨rfl, trivial⟩⟩⟩⟩⟩⟩ ?_
      refine ph_loop (α := Int32 × Int32 × Int32 × ph_Hp) 34 (fun x => [none, some (.int x1), some (.int x2), some (.ref (ph_a Z 25)), some (.int x.1), some (.int x.2.1), some (.int x.2.2.1)]) (fun x => []) (fun x => x.2.2.2) (fun j12 hj12 x => ?_) ph_fu ((nI 0), (-1), (nI 0), h11)
      obtain ⟨x13, x14, x15, h16⟩ := x
      dsimp only
      refine ph_iload (i := 6) (pc := 34) dX8_often_34 rfl ?_
      refine ph_bipush (v := (nI 40)) (pc := 36) dX8_often_36 ph_bp_40 ?_
      refine ph_icmp_ge (tgt := 64) (pc := 38) dX8_often_38 (by decide) (fun c17 => ?_) (fun c17 => ?_)
      · refine ph_iload_n (i := 2) (pc := 64) dX8_often_64 rfl rfl ?_
        refine ph_if_ne (tgt := 73) (pc := 65) dX8_often_65 (by decide) (fun c18 => ?_) (fun c18 => ?_)
        · refine ph_iload (i := 5) (pc := 73) dX8_often_73 rfl ?_
          exact ph_iret (pc := 75) dX8_often_75 rfl
        · refine ph_iload (i := 4) (pc := 68) dX8_often_68 rfl ?_
          refine ph_goto (tgt := 75) (pc := 70) dX8_often_70 (by decide) ?_
          exact ph_iret (pc := 75) dX8_often_75 rfl
      · refine ph_aload_n (i := 3) (pc := 41) dX8_often_41 rfl rfl ?_
        refine ph_iload (i := 6) (pc := 42) dX8_often_42 rfl ?_
        refine ph_callVi (pc := 44) dX8_often_44 ph_mf_yX6_playedIn ph_ml_RX8_172 ph_mi_yX6_playedIn ph_mv_yX6_playedIn rfl rfl (c_X6_playedIn Z (d - 1) (by omega) x15 h16) (by omega) rfl rfl (Nat.le_of_ble_eq_true rfl) (fun v19 h20 => ?_)
        refine ph_iload_n (i := 1) (pc := 47) dX8_often_47 rfl rfl ?_
        refine ph_join (α := Int32 × Int32) 58 (fun x => [none, some (.int x1), some (.int x2), some (.ref (ph_a Z 25)), some (.int x.1), some (.int x.2), some (.int x15)]) (fun x => []) (fun x => h20) (fun x => ?_) (fun j21 hj21 => ?_)
        · obtain ⟨x22, x23⟩ := x
          dsimp only
          refine ph_iinc (i := 6) (v := (nI 1)) (ls1 := [none, some (.int x1), some (.int x2), some (.ref (ph_a Z 25)), some (.int x22), some (.int x23), some (.int (x15 + (nI 1)))]) (pc := 58) dX8_often_58 rfl ph_ic_1 (by decide) rfl ?_
          refine ph_goto (tgt := 34) (pc := 61) dX8_often_61 (by decide) ?_
          exact hj12 (x22, x23, x15 + (nI 1), h20)
        · refine ph_icmp_ne (tgt := 58) (pc := 48) dX8_often_48 (by decide) (fun c24 => ?_) (fun c24 => ?_)
          · exact hj21 (x13, x14)
          · refine ph_iinc (i := 4) (v := (nI 1)) (ls1 := [none, some (.int x1), some (.int x2), some (.ref (ph_a Z 25)), some (.int (x13 + (nI 1))), some (.int x14), some (.int x15)]) (pc := 51) dX8_often_51 rfl ph_ic_1 (by decide) rfl ?_
            refine ph_iload (i := 6) (pc := 54) dX8_often_54 rfl ?_
            refine ph_istore (i := 5) (ls1 := [none, some (.int x1), some (.int x2), some (.ref (ph_a Z 25)), some (.int (x13 + (nI 1))), some (.int x15), some (.int x15)]) (pc := 56) dX8_often_56 (by decide) rfl ?_
            exact hj21 (x13 + (nI 1), x15)
    · refine ph_bipush (v := (-2)) (pc := 17) dX8_often_17 ph_bp_m2 ?_
      exact ph_iret (pc := 19) dX8_often_19 rfl
def f_X8_may (x1 : Int32) (x2 : Int32) (h : ph_Hp) : Option (Int32 × ph_Hp) :=
  ph_cl (f_X8_within x1 (nI 40) h) fun v4 h5 =>
  if v4 = nI 0 then
    some ((-2), h5)
  else
    ph_cl (f_X8_within x2 (nI 40) h5) fun v7 h8 =>
    if v7 = nI 0 then
      some ((-2), h8)
    else
      ph_cl (f_X8_staged h8) fun _ h11 =>
      ph_cl (f_X6_rehearse x1 (nI 511) h11) fun _ h13 =>
      ph_cl (f_X6_playedIn x2 h13) fun v14 h15 =>
      ph_cl (f_X8_bitOf v14 h15) fun v16 h17 =>
      ph_ldI h17 45 40 x2 fun v18 =>
      ph_cl (f_X8_bitOf v18 h17) fun v19 h20 =>
      some (v16 ||| v19, h20)
set_option maxRecDepth 100000 in
theorem c_X8_may (Z : ph_L) (d : Nat) (hdd : 5 ≤ d) (x1 : Int32) (x2 : Int32) (h : ph_Hp) : ph_CM Z yX8_may cX8_may 4 (some .int) d [.ref (ph_a Z 0), .int x1, .int x2] ph_vi h (f_X8_may x1 x2 h) := by
  refine ph_begin (own := RX8) ph_mf_yX8_may rfl (ls := [some (.ref (ph_a Z 0)), some (.int x1), some (.int x2), none]) rfl (Nat.le_of_ble_eq_true rfl) ?_
  unfold f_X8_may
  refine ph_iload_n (i := 1) (pc := 0) dX8_may_0 rfl rfl ?_
  refine ph_bipush (v := (nI 40)) (pc := 1) dX8_may_1 ph_bp_40 ?_
  refine ph_callSi (pc := 3) dX8_may_3 ph_mf_yX8_within ph_ml_RX8_80 ph_ms_yX8_within (c_X8_within Z (d - 1) (by omega) x1 (nI 40) h) (by omega) rfl rfl (Nat.le_of_ble_eq_true rfl) (fun v4 h5 => ?_)
  refine ph_if_eq (tgt := 18) (pc := 6) dX8_may_6 (by decide) (fun c6 => ?_) (fun c6 => ?_)
  · refine ph_bipush (v := (-2)) (pc := 18) dX8_may_18 ph_bp_m2 ?_
    exact ph_iret (pc := 20) dX8_may_20 rfl
  · refine ph_iload_n (i := 2) (pc := 9) dX8_may_9 rfl rfl ?_
    refine ph_bipush (v := (nI 40)) (pc := 10) dX8_may_10 ph_bp_40 ?_
    refine ph_callSi (pc := 12) dX8_may_12 ph_mf_yX8_within ph_ml_RX8_80 ph_ms_yX8_within (c_X8_within Z (d - 1) (by omega) x2 (nI 40) h5) (by omega) rfl rfl (Nat.le_of_ble_eq_true rfl) (fun v7 h8 => ?_)
    refine ph_if_ne (tgt := 21) (pc := 15) dX8_may_15 (by decide) (fun c9 => ?_) (fun c9 => ?_)
    · refine ph_aload_n (i := 0) (pc := 21) dX8_may_21 rfl rfl ?_
      refine ph_callVk (pc := 22) dX8_may_22 ph_mf_yX8_staged ph_ml_RX8_105 ph_mi_yX8_staged ph_mv_yX8_staged rfl rfl (c_X8_staged Z (d - 1) (by omega) h8) (by omega) rfl rfl (Nat.le_of_ble_eq_true rfl) (fun v10 h11 => ?_)
      refine ph_astore_n (i := 3) (ls1 := [some (.ref (ph_a Z 0)), some (.int x1), some (.int x2), some (.ref (ph_a Z 25))]) (pc := 25) dX8_may_25 rfl (by decide) rfl ?_
      refine ph_aload_n (i := 3) (pc := 26) dX8_may_26 rfl rfl ?_
      refine ph_iload_n (i := 1) (pc := 27) dX8_may_27 rfl rfl ?_
      refine ph_sipush (v := (nI 511)) (pc := 28) dX8_may_28 ph_sp_511 ?_
      refine ph_aload_n (i := 0) (pc := 31) dX8_may_31 rfl rfl ?_
      refine ph_getR (j := 45) (pc := 32) dX8_may_32 ph_fl_RX8_62 rfl rfl rfl ?_
      refine ph_callVv (pc := 35) dX8_may_35 ph_mf_yX6_rehearse ph_ml_RX8_199 ph_mi_yX6_rehearse ph_mv_yX6_rehearse rfl rfl (c_X6_rehearse Z (d - 1) (by omega) x1 (nI 511) h11) (by omega) rfl rfl (Nat.le_of_ble_eq_true rfl) (fun v12 h13 => ?_)
      refine ph_aload_n (i := 3) (pc := 38) dX8_may_38 rfl rfl ?_
      refine ph_iload_n (i := 2) (pc := 39) dX8_may_39 rfl rfl ?_
      refine ph_callVi (pc := 40) dX8_may_40 ph_mf_yX6_playedIn ph_ml_RX8_172 ph_mi_yX6_playedIn ph_mv_yX6_playedIn rfl rfl (c_X6_playedIn Z (d - 1) (by omega) x2 h13) (by omega) rfl rfl (Nat.le_of_ble_eq_true rfl) (fun v14 h15 => ?_)
      refine ph_callSi (pc := 43) dX8_may_43 ph_mf_yX8_bitOf ph_ml_RX8_203 ph_ms_yX8_bitOf (c_X8_bitOf Z (d - 1) (by omega) v14 h15) (by omega) rfl rfl (Nat.le_of_ble_eq_true rfl) (fun v16 h17 => ?_)
      refine ph_aload_n (i := 0) (pc := 46) dX8_may_46 rfl rfl ?_
      refine ph_getR (j := 45) (pc := 47) dX8_may_47 ph_fl_RX8_62 rfl rfl rfl ?_
      refine ph_iload_n (i := 2) (pc := 50) dX8_may_50 rfl rfl ?_
      refine ph_iald (pc := 51) dX8_may_51 rfl rfl (fun v18 => ?_)
      refine ph_callSi (pc := 52) dX8_may_52 ph_mf_yX8_bitOf ph_ml_RX8_203 ph_ms_yX8_bitOf (c_X8_bitOf Z (d - 1) (by omega) v18 h17) (by omega) rfl rfl (Nat.le_of_ble_eq_true rfl) (fun v19 h20 => ?_)
      refine ph_ior (pc := 55) dX8_may_55 ?_
      exact ph_iret (pc := 56) dX8_may_56 rfl
    · refine ph_bipush (v := (-2)) (pc := 18) dX8_may_18 ph_bp_m2 ?_
      exact ph_iret (pc := 20) dX8_may_20 rfl
