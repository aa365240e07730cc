def f_X9_finds (x1 : Int32) (h : ph_Hp) : Option (Int32 × ph_Hp) :=
  ph_pfI h 51 4 x1 fun h3 =>
  some ((-10) - x1, h3)
set_option maxRecDepth 100000 in
theorem c_X9_finds (Z : ph_L) (d : Nat) (hdd : 0 ≤ d) (x1 : Int32) (h : ph_Hp) : ph_CM Z yX9_finds cX9_finds 2 (some .int) d [.ref (ph_a Z 51), .int x1] ph_vi h (f_X9_finds x1 h) := by
  refine ph_begin (own := RX9) ph_mf_yX9_finds rfl (ls := [some (.ref (ph_a Z 51)), some (.int x1)]) rfl (Nat.le_of_ble_eq_true rfl) ?_
  unfold f_X9_finds
  refine ph_aload_n (i := 0) (pc := 0) dX9_finds_0 rfl rfl ?_
  refine ph_iload_n (i := 1) (pc := 1) dX9_finds_1 rfl rfl ?_
  refine ph_putI (pc := 2) dX9_finds_2 ph_pl_RX9_74 rfl (by decide) rfl rfl (fun h3 => ?_)
  refine ph_bipush (v := (-10)) (pc := 5) dX9_finds_5 ph_bp_m10 ?_
  refine ph_iload_n (i := 1) (pc := 7) dX9_finds_7 rfl rfl ?_
  refine ph_isub (pc := 8) dX9_finds_8 ?_
  exact ph_iret (pc := 9) dX9_finds_9 rfl
def f_X9_isSheet (x1 : Int32) (h : ph_Hp) : Option (Int32 × ph_Hp) :=
  ph_cl (f_X9_in x1.toInt64 (lN 0) (lN 3) h) fun v3 h4 =>
  ph_rz v3 h4
set_option maxRecDepth 100000 in
theorem c_X9_isSheet (Z : ph_L) (d : Nat) (hdd : 1 ≤ d) (x1 : Int32) (h : ph_Hp) : ph_CM Z yX9_isSheet cX9_isSheet 1 (some .boolean) d [.int x1] ph_vi h (f_X9_isSheet x1 h) := by
  refine ph_begin (own := RX9) ph_mf_yX9_isSheet rfl (ls := [some (.int x1)]) rfl (Nat.le_of_ble_eq_true rfl) ?_
  unfold f_X9_isSheet
  refine ph_iload_n (i := 0) (pc := 0) dX9_isSheet_0 rfl rfl ?_
  refine ph_i2l (pc := 1) dX9_isSheet_1 ?_
  refine ph_lconst (v := (lN 0)) (pc := 2) dX9_isSheet_2 rfl ?_
  refine ph_ldc2 (v := (lN 3)) (pc := 3) dX9_isSheet_3 ph_k_RX9_77 ?_
  refine ph_callSi (pc := 6) dX9_isSheet_6 ph_mf_yX9_in ph_ml_RX9_70 ph_ms_yX9_in (c_X9_in Z (d - 1) (by omega) x1.toInt64 (lN 0) (lN 3) h) (by omega) rfl rfl (Nat.le_of_ble_eq_true rfl) (fun v3 h4 => ?_)
  exact ph_zret (pc := 9) dX9_isSheet_9 rfl
def f_X9_sheet (x1 : Int32) (x2 : Int32) (x3 : Int32) (h : ph_Hp) : Option (Int32 × ph_Hp) :=
  ph_cl (f_X9_isSheet x1 h) fun v5 h6 =>
  if v5 = nI 0 then
    some ((-2), h6)
  else
    ph_cl (f_X9_in x2.toInt64 (lN 0) (lN 2) h6) fun v8 h9 =>
    if v8 = nI 0 then
      some ((-2), h9)
    else
      if x3 ≤ (nI 60) then
        if nI 0 ≤ x3 then
          ph_stI h9 52 4 x1 x2 fun h13 =>
          ph_stI h13 53 4 x1 x3 fun h14 =>
          ph_lp (α := Int32 × ph_Hp) (fun j15 (x16, h17) =>
            if x3 ≤ x16 then
              some (x3, h17)
            else
              ph_stI h17 54 240 (((nI 60) * x1) + x16) (nI 0) fun h19 =>
              j15 (x16 + (nI 1), h19)) ph_fu ((nI 0), h14)
        else
          ph_cl (f_X9_finds (nI 5) h9) fun v20 h21 =>
          some (v20, h21)
      else
        some ((-2), h9)
set_option maxRecDepth 100000 in
theorem c_X9_sheet (Z : ph_L) (d : Nat) (hdd : 2 ≤ d) (x1 : Int32) (x2 : Int32) (x3 : Int32) (h : ph_Hp) : ph_CM Z yX9_sheet cX9_sheet 5 (some .int) d [.ref (ph_a Z 51), .int x1, .int x2, .int x3] ph_vi h (f_X9_sheet x1 x2 x3 h) := by
  refine ph_begin (own := RX9) ph_mf_yX9_sheet rfl (ls := [some (.ref (ph_a Z 51)), some (.int x1), some (.int x2), some (.int x3), none]) rfl (Nat.le_of_ble_eq_true rfl) ?_
  unfold f_X9_sheet
  refine ph_iload_n (i := 1) (pc := 0) dX9_sheet_0 rfl rfl ?_
  refine ph_callSi (pc := 1) dX9_sheet_1 ph_mf_yX9_isSheet ph_ml_RX9_79 ph_ms_yX9_isSheet (c_X9_isSheet Z (d - 1) (by omega) x1 h) (by omega) rfl rfl (Nat.le_of_ble_eq_true rfl) (fun v5 h6 => ?_)
  refine ph_if_eq (tgt := 25) (pc := 4) dX9_sheet_4 (by decide) (fun c7 => ?_) (fun c7 => ?_)
  · refine ph_bipush (v := (-2)) (pc := 25) dX9_sheet_25 ph_bp_m2 ?_
    exact ph_iret (pc := 27) dX9_sheet_27 rfl
  · refine ph_iload_n (i := 2) (pc := 7) dX9_sheet_7 rfl rfl ?_
    refine ph_i2l (pc := 8) dX9_sheet_8 ?_
    refine ph_lconst (v := (lN 0)) (pc := 9) dX9_sheet_9 rfl ?_
    refine ph_ldc2 (v := (lN 2)) (pc := 10) dX9_sheet_10 ph_k_RX9_83 ?_
    refine ph_callSi (pc := 13) dX9_sheet_13 ph_mf_yX9_in ph_ml_RX9_70 ph_ms_yX9_in (c_X9_in Z (d - 1) (by omega) x2.toInt64 (lN 0) (lN 2) h6) (by omega) rfl rfl (Nat.le_of_ble_eq_true rfl) (fun v8 h9 => ?_)
    refine ph_if_eq (tgt := 25) (pc := 16) dX9_sheet_16 (by decide) (fun c10 => ?_) (fun c10 => ?_)
    · refine ph_bipush (v := (-2)) (pc := 25) dX9_sheet_25 ph_bp_m2 ?_
      exact ph_iret (pc := 27) dX9_sheet_27 rfl
    · refine ph_iload_n (i := 3) (pc := 19) dX9_sheet_19 rfl rfl ?_
      refine ph_bipush (v := (nI 60)) (pc := 20) dX9_sheet_20 ph_bp_60 ?_
      refine ph_icmp_le (tgt := 28) (pc := 22) dX9_sheet_22 (by decide) (fun c11 => ?_) (fun c11 => ?_)
      · refine ph_iload_n (i := 3) (pc := 28) dX9_sheet_28 rfl rfl ?_
        refine ph_if_ge (tgt := 38) (pc := 29) dX9_sheet_29 (by decide) (fun c12 => ?_) (fun c12 => ?_)
        · refine ph_aload_n (i := 0) (pc := 38) dX9_sheet_38 rfl rfl ?_
          refine ph_getR (j := 52) (pc := 39) dX9_sheet_39 ph_fl_RX9_7 rfl rfl rfl ?_
          refine ph_iload_n (i := 1) (pc := 42) dX9_sheet_42 rfl rfl ?_
          refine ph_iload_n (i := 2) (pc := 43) dX9_sheet_43 rfl rfl ?_
          refine ph_iast (pc := 44) dX9_sheet_44 rfl rfl (fun h13 => ?_)
          refine ph_aload_n (i := 0) (pc := 45) dX9_sheet_45 rfl rfl ?_
          refine ph_getR (j := 53) (pc := 46) dX9_sheet_46 ph_fl_RX9_13 rfl rfl rfl ?_
          refine ph_iload_n (i := 1) (pc := 49) dX9_sheet_49 rfl rfl ?_
          refine ph_iload_n (i := 3) (pc := 50) dX9_sheet_50 rfl rfl ?_
          refine ph_iast (pc := 51) dX9_sheet_51 rfl rfl (fun h14 => ?_)
          refine ph_iconst (v := (nI 0)) (pc := 52) dX9_sheet_52 ph_ic_0 ?_
          refine ph_istore (i := 4) (ls1 := [some (.ref (ph_a Z 51)), some (.int x1), some (.int x2), some (.int x3), some (.int (nI 0))]) (pc := 53) dX9_sheet_53 (by decide) rfl ?_
          refine ph_wk (ls1 := [some (.ref (ph_a Z 51)), some (.int x1), none, some (.int x3), some (.int (nI 0))]) ⟨rfl, ⟨rfl, ⟨rfl, ⟨rfl, trivial⟩⟩⟩⟩ ?_
          refine ph_loop (α := Int32 × ph_Hp) 55 (fun x => [some (.ref (ph_a Z 51)), some (.int x1), none, some (.int x3), some (.int x.1)]) (fun x => []) (fun x => x.2) (fun j15 hj15 x => ?_) ph_fu ((nI 0), h14)
          obtain ⟨x16, h17⟩ := x
          dsimp only
          refine ph_iload (i := 4) (pc := 55) dX9_sheet_55 rfl ?_
          refine ph_iload_n (i := 3) (pc := 57) dX9_sheet_57 rfl rfl ?_
          refine ph_icmp_ge (tgt := 80) (pc := 58) dX9_sheet_58 (by decide) (fun c18 => ?_) (fun c18 => ?_)
          · refine ph_iload_n (i := 3) (pc := 80) dX9_sheet_80 rfl rfl ?_
            exact ph_iret (pc := 81) dX9_sheet_81 rfl
          · refine ph_aload_n (i := 0) (pc := 61) dX9_sheet_61 rfl rfl ?_
            refine ph_getR (j := 54) (pc := 62) dX9_sheet_62 ph_fl_RX9_16 rfl rfl rfl ?_
            refine ph_bipush (v := (nI 60)) (pc := 65) dX9_sheet_65 ph_bp_60 ?_
            refine ph_iload_n (i := 1) (pc := 67) dX9_sheet_67 rfl rfl ?_
            refine ph_imul (pc := 68) dX9_sheet_68 ?_
            refine ph_iload (i := 4) (pc := 69) dX9_sheet_69 rfl ?_
            refine ph_iadd (pc := 71) dX9_sheet_71 ?_
            refine ph_iconst (v := (nI 0)) (pc := 72) dX9_sheet_72 ph_ic_0 ?_
            refine ph_iast (pc := 73) dX9_sheet_73 rfl rfl (fun h19 => ?_)
            refine ph_iinc (i := 4) (v := (nI 1)) (ls1 := [some (.ref (ph_a Z 51)), some (.int x1), none, some (.int x3), some (.int (x16 + (nI 1)))]) (pc := 74) dX9_sheet_74 rfl ph_ic_1 (by decide) rfl ?_
            refine ph_goto (tgt := 55) (pc := 77) dX9_sheet_77 (by decide) ?_
            exact hj15 (x16 + (nI 1), h19)
        · refine ph_aload_n (i := 0) (pc := 32) dX9_sheet_32 rfl rfl ?_
          refine ph_iconst (v := (nI 5)) (pc := 33) dX9_sheet_33 ph_ic_5 ?_
          refine ph_callVi (pc := 34) dX9_sheet_34 ph_mf_yX9_finds ph_ml_RX9_85 ph_mi_yX9_finds ph_mv_yX9_finds rfl rfl (c_X9_finds Z (d - 1) (by omega) (nI 5) h9) (by omega) rfl rfl (Nat.le_of_ble_eq_true rfl) (fun v20 h21 => ?_)
          exact ph_iret (pc := 37) dX9_sheet_37 rfl
      · refine ph_bipush (v := (-2)) (pc := 25) dX9_sheet_25 ph_bp_m2 ?_
        exact ph_iret (pc := 27) dX9_sheet_27 rfl
def f_X9_lose (x1 : Int32) (h : ph_Hp) : Option (Int32 × ph_Hp) :=
  ph_cl (f_X9_isSheet x1 h) fun v3 h4 =>
  if v3 = nI 0 then
    some ((-2), h4)
  else
    ph_ldI h4 52 4 x1 fun v6 =>
    if nI 0 ≤ v6 then
      ph_stI h4 52 4 x1 (-1) fun h8 =>
      ph_ldI h8 53 4 x1 fun v9 =>
      some (v9, h8)
    else
      ph_cl (f_X9_finds (nI 1) h4) fun v10 h11 =>
      some (v10, h11)
set_option maxRecDepth 100000 in
theorem c_X9_lose (Z : ph_L) (d : Nat) (hdd : 2 ≤ d) (x1 : Int32) (h : ph_Hp) : ph_CM Z yX9_lose cX9_lose 2 (some .int) d [.ref (ph_a Z 51), .int x1] ph_vi h (f_X9_lose x1 h) := by
  refine ph_begin (own := RX9) ph_mf_yX9_lose rfl (ls := [some (.ref (ph_a Z 51)), some (.int x1)]) rfl (Nat.le_of_ble_eq_true rfl) ?_
  unfold f_X9_lose
  refine ph_iload_n (i := 1) (pc := 0) dX9_lose_0 rfl rfl ?_
  refine ph_callSi (pc := 1) dX9_lose_1 ph_mf_yX9_isSheet ph_ml_RX9_79 ph_ms_yX9_isSheet (c_X9_isSheet Z (d - 1) (by omega) x1 h) (by omega) rfl rfl (Nat.le_of_ble_eq_true rfl) (fun v3 h4 => ?_)
  refine ph_if_ne (tgt := 10) (pc := 4) dX9_lose_4 (by decide) (fun c5 => ?_) (fun c5 => ?_)
  · refine ph_aload_n (i := 0) (pc := 10) dX9_lose_10 rfl rfl ?_
    refine ph_getR (j := 52) (pc := 11) dX9_lose_11 ph_fl_RX9_7 rfl rfl rfl ?_
    refine ph_iload_n (i := 1) (pc := 14) dX9_lose_14 rfl rfl ?_
    refine ph_iald (pc := 15) dX9_lose_15 rfl rfl (fun v6 => ?_)
    refine ph_if_ge (tgt := 25) (pc := 16) dX9_lose_16 (by decide) (fun c7 => ?_) (fun c7 => ?_)
    · refine ph_aload_n (i := 0) (pc := 25) dX9_lose_25 rfl rfl ?_
      refine ph_getR (j := 52) (pc := 26) dX9_lose_26 ph_fl_RX9_7 rfl rfl rfl ?_
      refine ph_iload_n (i := 1) (pc := 29) dX9_lose_29 rfl rfl ?_
      refine ph_iconst (v := (-1)) (pc := 30) dX9_lose_30 ph_ic_m1 ?_
      refine ph_iast (pc := 31) dX9_lose_31 rfl rfl (fun h8 => ?_)
      refine ph_aload_n (i := 0) (pc := 32) dX9_lose_32 rfl rfl ?_
      refine ph_getR (j := 53) (pc := 33) dX9_lose_33 ph_fl_RX9_13 rfl rfl rfl ?_
      refine ph_iload_n (i := 1) (pc := 36) dX9_lose_36 rfl rfl ?_
      refine ph_iald (pc := 37) dX9_lose_37 rfl rfl (fun v9 => ?_)
      exact ph_iret (pc := 38) dX9_lose_38 rfl
    · refine ph_aload_n (i := 0) (pc := 19) dX9_lose_19 rfl rfl ?_
      refine ph_iconst (v := (nI 1)) (pc := 20) dX9_lose_20 ph_ic_1 ?_
      refine ph_callVi (pc := 21) dX9_lose_21 ph_mf_yX9_finds ph_ml_RX9_85 ph_mi_yX9_finds ph_mv_yX9_finds rfl rfl (c_X9_finds Z (d - 1) (by omega) (nI 1) h4) (by omega) rfl rfl (Nat.le_of_ble_eq_true rfl) (fun v10 h11 => ?_)
      exact ph_iret (pc := 24) dX9_lose_24 rfl
  · refine ph_bipush (v := (-2)) (pc := 7) dX9_lose_7 ph_bp_m2 ?_
    exact ph_iret (pc := 9) dX9_lose_9 rfl
def f_X9_lacks (x1 : Int32) (x2 : Int32) (x3 : Int32) (h : ph_Hp) : Option (Int32 × ph_Hp) :=
  ph_ldI h 52 4 x1 fun v5 =>
  if nI 0 ≤ v5 then
    ph_ldI h 52 4 x1 fun v7 =>
    if v7 = x2 then
      ph_ldI h 53 4 x1 fun v9 =>
      ph_cl (f_X9_in x3.toInt64 (lN 0) ((v9 - (nI 1)).toInt64) h) fun v10 h11 =>
      if v10 = nI 0 then
        ph_cl (f_X9_finds (nI 2) h11) fun v13 h14 =>
        some (v13, h14)
      else
        some ((nI 0), h11)
    else
      ph_cl (f_X9_finds (nI 3) h) fun v15 h16 =>
      some (v15, h16)
  else
    ph_cl (f_X9_finds (nI 1) h) fun v17 h18 =>
    some (v17, h18)
set_option maxRecDepth 100000 in
theorem c_X9_lacks (Z : ph_L) (d : Nat) (hdd : 1 ≤ d) (x1 : Int32) (x2 : Int32) (x3 : Int32) (h : ph_Hp) : ph_CM Z yX9_lacks cX9_lacks 4 (some .int) d [.ref (ph_a Z 51), .int x1, .int x2, .int x3] ph_vi h (f_X9_lacks x1 x2 x3 h) := by
  refine ph_begin (own := RX9) ph_mf_yX9_lacks rfl (ls := [some (.ref (ph_a Z 51)), some (.int x1), some (.int x2), some (.int x3)]) rfl (Nat.le_of_ble_eq_true rfl) ?_
  unfold f_X9_lacks
  refine ph_aload_n (i := 0) (pc := 0) dX9_lacks_0 rfl rfl ?_
  refine ph_getR (j := 52) (pc := 1) dX9_lacks_1 ph_fl_RX9_7 rfl rfl rfl ?_
  refine ph_iload_n (i := 1) (pc := 4) dX9_lacks_4 rfl rfl ?_
  refine ph_iald (pc := 5) dX9_lacks_5 rfl rfl (fun v5 => ?_)
  refine ph_if_ge (tgt := 15) (pc := 6) dX9_lacks_6 (by decide) (fun c6 => ?_) (fun c6 => ?_)
  · refine ph_aload_n (i := 0) (pc := 15) dX9_lacks_15 rfl rfl ?_
    refine ph_getR (j := 52) (pc := 16) dX9_lacks_16 ph_fl_RX9_7 rfl rfl rfl ?_
    refine ph_iload_n (i := 1) (pc := 19) dX9_lacks_19 rfl rfl ?_
    refine ph_iald (pc := 20) dX9_lacks_20 rfl rfl (fun v7 => ?_)
    refine ph_iload_n (i := 2) (pc := 21) dX9_lacks_21 rfl rfl ?_
    refine ph_icmp_eq (tgt := 31) (pc := 22) dX9_lacks_22 (by decide) (fun c8 => ?_) (fun c8 => ?_)
    · refine ph_iload_n (i := 3) (pc := 31) dX9_lacks_31 rfl rfl ?_
      refine ph_i2l (pc := 32) dX9_lacks_32 ?_
      refine ph_lconst (v := (lN 0)) (pc := 33) dX9_lacks_33 rfl ?_
      refine ph_aload_n (i := 0) (pc := 34) dX9_lacks_34 rfl rfl ?_
      refine ph_getR (j := 53) (pc := 35) dX9_lacks_35 ph_fl_RX9_13 rfl rfl rfl ?_
      refine ph_iload_n (i := 1) (pc := 38) dX9_lacks_38 rfl rfl ?_
      refine ph_iald (pc := 39) dX9_lacks_39 rfl rfl (fun v9 => ?_)
      refine ph_iconst (v := (nI 1)) (pc := 40) dX9_lacks_40 ph_ic_1 ?_
      refine ph_isub (pc := 41) dX9_lacks_41 ?_
      refine ph_i2l (pc := 42) dX9_lacks_42 ?_
      refine ph_callSi (pc := 43) dX9_lacks_43 ph_mf_yX9_in ph_ml_RX9_70 ph_ms_yX9_in (c_X9_in Z (d - 1) (by omega) x3.toInt64 (lN 0) ((v9 - (nI 1)).toInt64) h) (by omega) rfl rfl (Nat.le_of_ble_eq_true rfl) (fun v10 h11 => ?_)
      refine ph_if_eq (tgt := 53) (pc := 46) dX9_lacks_46 (by decide) (fun c12 => ?_) (fun c12 => ?_)
      · refine ph_aload_n (i := 0) (pc := 53) dX9_lacks_53 rfl rfl ?_
        refine ph_iconst (v := (nI 2)) (pc := 54) dX9_lacks_54 ph_ic_2 ?_
        refine ph_callVi (pc := 55) dX9_lacks_55 ph_mf_yX9_finds ph_ml_RX9_85 ph_mi_yX9_finds ph_mv_yX9_finds rfl rfl (c_X9_finds Z (d - 1) (by omega) (nI 2) h11) (by omega) rfl rfl (Nat.le_of_ble_eq_true rfl) (fun v13 h14 => ?_)
        exact ph_iret (pc := 58) dX9_lacks_58 rfl
      · refine ph_iconst (v := (nI 0)) (pc := 49) dX9_lacks_49 ph_ic_0 ?_
        refine ph_goto (tgt := 58) (pc := 50) dX9_lacks_50 (by decide) ?_
        exact ph_iret (pc := 58) dX9_lacks_58 rfl
    · refine ph_aload_n (i := 0) (pc := 25) dX9_lacks_25 rfl rfl ?_
      refine ph_iconst (v := (nI 3)) (pc := 26) dX9_lacks_26 ph_ic_3 ?_
      refine ph_callVi (pc := 27) dX9_lacks_27 ph_mf_yX9_finds ph_ml_RX9_85 ph_mi_yX9_finds ph_mv_yX9_finds rfl rfl (c_X9_finds Z (d - 1) (by omega) (nI 3) h) (by omega) rfl rfl (Nat.le_of_ble_eq_true rfl) (fun v15 h16 => ?_)
      exact ph_iret (pc := 30) dX9_lacks_30 rfl
  · refine ph_aload_n (i := 0) (pc := 9) dX9_lacks_9 rfl rfl ?_
    refine ph_iconst (v := (nI 1)) (pc := 10) dX9_lacks_10 ph_ic_1 ?_
    refine ph_callVi (pc := 11) dX9_lacks_11 ph_mf_yX9_finds ph_ml_RX9_85 ph_mi_yX9_finds ph_mv_yX9_finds rfl rfl (c_X9_finds Z (d - 1) (by omega) (nI 1) h) (by omega) rfl rfl (Nat.le_of_ble_eq_true rfl) (fun v17 h18 => ?_)
    exact ph_iret (pc := 14) dX9_lacks_14 rfl
def f_X9_cut (x1 : Int32) (x2 : Int32) (h : ph_Hp) : Option (Int32 × ph_Hp) :=
  if x1 = nI 0 then
    some (x2.toInt8.toInt32, h)
  else
    if x1 = (nI 1) then
      some (x2.toInt16.toInt32, h)
    else
      some (x2, h)
set_option maxRecDepth 100000 in
theorem c_X9_cut (Z : ph_L) (d : Nat) (hdd : 0 ≤ d) (x1 : Int32) (x2 : Int32) (h : ph_Hp) : ph_CM Z yX9_cut cX9_cut 2 (some .int) d [.int x1, .int x2] ph_vi h (f_X9_cut x1 x2 h) := by
  refine ph_begin (own := RX9) ph_mf_yX9_cut rfl (ls := [some (.int x1), some (.int x2)]) rfl (Nat.le_of_ble_eq_true rfl) ?_
  unfold f_X9_cut
  refine ph_iload_n (i := 0) (pc := 0) dX9_cut_0 rfl rfl ?_
  refine ph_if_ne (tgt := 9) (pc := 1) dX9_cut_1 (by decide) (fun c4 => ?_) (fun c4 => ?_)
  · refine ph_iload_n (i := 0) (pc := 9) dX9_cut_9 rfl rfl ?_
    refine ph_iconst (v := (nI 1)) (pc := 10) dX9_cut_10 ph_ic_1 ?_
    refine ph_icmp_ne (tgt := 19) (pc := 11) dX9_cut_11 (by decide) (fun c5 => ?_) (fun c5 => ?_)
    · refine ph_iload_n (i := 1) (pc := 19) dX9_cut_19 rfl rfl ?_
      exact ph_iret (pc := 20) dX9_cut_20 rfl
    · refine ph_iload_n (i := 1) (pc := 14) dX9_cut_14 rfl rfl ?_
      refine ph_i2s (pc := 15) dX9_cut_15 ?_
      refine ph_goto (tgt := 20) (pc := 16) dX9_cut_16 (by decide) ?_
      exact ph_iret (pc := 20) dX9_cut_20 rfl
  · refine ph_iload_n (i := 1) (pc := 4) dX9_cut_4 rfl rfl ?_
    refine ph_i2b (pc := 5) dX9_cut_5 ?_
    refine ph_goto (tgt := 20) (pc := 6) dX9_cut_6 (by decide) ?_
    exact ph_iret (pc := 20) dX9_cut_20 rfl
def f_X9_lay (x1 : Int32) (x2 : Int32) (x3 : Int32) (x4 : Int32) (h : ph_Hp) : Option (Int32 × ph_Hp) :=
  ph_cl (f_X9_isSheet x1 h) fun v6 h7 =>
  if v6 = nI 0 then
    some ((-2), h7)
  else
    ph_cl (f_X9_in x2.toInt64 (lN 0) (lN 2) h7) fun v9 h10 =>
    if v9 = nI 0 then
      some ((-2), h10)
    else
      ph_cl (f_X9_lacks x1 x2 x3 h10) fun v12 h13 =>
      if v12 = nI 0 then
        ph_cl (f_X9_cut x2 x4 h13) fun v15 h16 =>
        ph_stI h16 54 240 (((nI 60) * x1) + x3) v15 fun h17 =>
        some ((nI 1), h17)
      else
        some (v12, h13)
set_option maxRecDepth 100000 in
theorem c_X9_lay (Z : ph_L) (d : Nat) (hdd : 2 ≤ d) (x1 : Int32) (x2 : Int32) (x3 : Int32) (x4 : Int32) (h : ph_Hp) : ph_CM Z yX9_lay cX9_lay 6 (some .int) d [.ref (ph_a Z 51), .int x1, .int x2, .int x3, .int x4] ph_vi h (f_X9_lay x1 x2 x3 x4 h) := by
  refine ph_begin (own := RX9) ph_mf_yX9_lay rfl (ls := [some (.ref (ph_a Z 51)), some (.int x1), some (.int x2), some (.int x3), some (.int x4), none]) rfl (Nat.le_of_ble_eq_true rfl) ?_
  unfold f_X9_lay
  refine ph_iload_n (i := 1) (pc := 0) dX9_lay_0 rfl rfl ?_
  refine ph_callSi (pc := 1) dX9_lay_1 ph_mf_yX9_isSheet ph_ml_RX9_79 ph_ms_yX9_isSheet (c_X9_isSheet Z (d - 1) (by omega) x1 h) (by omega) rfl rfl (Nat.le_of_ble_eq_true rfl) (fun v6 h7 => ?_)
  refine ph_if_eq (tgt := 19) (pc := 4) dX9_lay_4 (by decide) (fun c8 => ?_) (fun c8 => ?_)
  · refine ph_bipush (v := (-2)) (pc := 19) dX9_lay_19 ph_bp_m2 ?_
    exact ph_iret (pc := 21) dX9_lay_21 rfl
  · refine ph_iload_n (i := 2) (pc := 7) dX9_lay_7 rfl rfl ?_
    refine ph_i2l (pc := 8) dX9_lay_8 ?_
    refine ph_lconst (v := (lN 0)) (pc := 9) dX9_lay_9 rfl ?_
    refine ph_ldc2 (v := (lN 2)) (pc := 10) dX9_lay_10 ph_k_RX9_83 ?_
    refine ph_callSi (pc := 13) dX9_lay_13 ph_mf_yX9_in ph_ml_RX9_70 ph_ms_yX9_in (c_X9_in Z (d - 1) (by omega) x2.toInt64 (lN 0) (lN 2) h7) (by omega) rfl rfl (Nat.le_of_ble_eq_true rfl) (fun v9 h10 => ?_)
    refine ph_if_ne (tgt := 22) (pc := 16) dX9_lay_16 (by decide) (fun c11 => ?_) (fun c11 => ?_)
    · refine ph_aload_n (i := 0) (pc := 22) dX9_lay_22 rfl rfl ?_
      refine ph_iload_n (i := 1) (pc := 23) dX9_lay_23 rfl rfl ?_
      refine ph_iload_n (i := 2) (pc := 24) dX9_lay_24 rfl rfl ?_
      refine ph_iload_n (i := 3) (pc := 25) dX9_lay_25 rfl rfl ?_
      refine ph_callVi (pc := 26) dX9_lay_26 ph_mf_yX9_lacks ph_ml_RX9_89 ph_mi_yX9_lacks ph_mv_yX9_lacks rfl rfl (c_X9_lacks Z (d - 1) (by omega) x1 x2 x3 h10) (by omega) rfl rfl (Nat.le_of_ble_eq_true rfl) (fun v12 h13 => ?_)
      refine ph_istore (i := 5) (ls1 := [some (.ref (ph_a Z 51)), some (.int x1), some (.int x2), some (.int x3), some (.int x4), some (.int v12)]) (pc := 29) dX9_lay_29 (by decide) rfl ?_
      refine ph_iload (i := 5) (pc := 31) dX9_lay_31 rfl ?_
      refine ph_if_eq (tgt := 39) (pc := 33) dX9_lay_33 (by decide) (fun c14 => ?_) (fun c14 => ?_)
      · refine ph_aload_n (i := 0) (pc := 39) dX9_lay_39 rfl rfl ?_
        refine ph_getR (j := 54) (pc := 40) dX9_lay_40 ph_fl_RX9_16 rfl rfl rfl ?_
        refine ph_bipush (v := (nI 60)) (pc := 43) dX9_lay_43 ph_bp_60 ?_
        refine ph_iload_n (i := 1) (pc := 45) dX9_lay_45 rfl rfl ?_
        refine ph_imul (pc := 46) dX9_lay_46 ?_
        refine ph_iload_n (i := 3) (pc := 47) dX9_lay_47 rfl rfl ?_
        refine ph_iadd (pc := 48) dX9_lay_48 ?_
        refine ph_iload_n (i := 2) (pc := 49) dX9_lay_49 rfl rfl ?_
        refine ph_iload (i := 4) (pc := 50) dX9_lay_50 rfl ?_
        refine ph_callSi (pc := 52) dX9_lay_52 ph_mf_yX9_cut ph_ml_RX9_93 ph_ms_yX9_cut (c_X9_cut Z (d - 1) (by omega) x2 x4 h13) (by omega) rfl rfl (Nat.le_of_ble_eq_true rfl) (fun v15 h16 => ?_)
        refine ph_iast (pc := 55) dX9_lay_55 rfl rfl (fun h17 => ?_)
        refine ph_iconst (v := (nI 1)) (pc := 56) dX9_lay_56 ph_ic_1 ?_
        exact ph_iret (pc := 57) dX9_lay_57 rfl
      · refine ph_iload (i := 5) (pc := 36) dX9_lay_36 rfl ?_
        exact ph_iret (pc := 38) dX9_lay_38 rfl
    · refine ph_bipush (v := (-2)) (pc := 19) dX9_lay_19 ph_bp_m2 ?_
      exact ph_iret (pc := 21) dX9_lay_21 rfl
def f_X9_get (x1 : Int32) (x2 : Int32) (x3 : Int32) (h : ph_Hp) : Option (Int32 × ph_Hp) :=
  ph_cl (f_X9_isSheet x1 h) fun v5 h6 =>
  if v5 = nI 0 then
    some ((-2147483648), h6)
  else
    ph_cl (f_X9_in x2.toInt64 (lN 0) (lN 2) h6) fun v8 h9 =>
    if v8 = nI 0 then
      some ((-2147483648), h9)
    else
      ph_cl (f_X9_lacks x1 x2 x3 h9) fun v11 h12 =>
      if v11 = nI 0 then
        ph_ldI h12 54 240 (((nI 60) * x1) + x3) fun v14 =>
        some (v14, h12)
      else
        some ((-2147483648), h12)
set_option maxRecDepth 100000 in
theorem c_X9_get (Z : ph_L) (d : Nat) (hdd : 2 ≤ d) (x1 : Int32) (x2 : Int32) (x3 : Int32) (h : ph_Hp) : ph_CM Z yX9_get cX9_get 4 (some .int) d [.ref (ph_a Z 51), .int x1, .int x2, .int x3] ph_vi h (f_X9_get x1 x2 x3 h) := by
  refine ph_begin (own := RX9) ph_mf_yX9_get rfl (ls := [some (.ref (ph_a Z 51)), some (.int x1), some (.int x2), some (.int x3)]) rfl (Nat.le_of_ble_eq_true rfl) ?_
  unfold f_X9_get
  refine ph_iload_n (i := 1) (pc := 0) dX9_get_0 rfl rfl ?_
  refine ph_callSi (pc := 1) dX9_get_1 ph_mf_yX9_isSheet ph_ml_RX9_79 ph_ms_yX9_isSheet (c_X9_isSheet Z (d - 1) (by omega) x1 h) (by omega) rfl rfl (Nat.le_of_ble_eq_true rfl) (fun v5 h6 => ?_)
  refine ph_if_eq (tgt := 29) (pc := 4) dX9_get_4 (by decide) (fun c7 => ?_) (fun c7 => ?_)
  · refine ph_ldc (v := (-2147483648)) (pc := 29) dX9_get_29 ph_k_RX9_97 ?_
    exact ph_iret (pc := 31) dX9_get_31 rfl
  · refine ph_iload_n (i := 2) (pc := 7) dX9_get_7 rfl rfl ?_
    refine ph_i2l (pc := 8) dX9_get_8 ?_
    refine ph_lconst (v := (lN 0)) (pc := 9) dX9_get_9 rfl ?_
    refine ph_ldc2 (v := (lN 2)) (pc := 10) dX9_get_10 ph_k_RX9_83 ?_
    refine ph_callSi (pc := 13) dX9_get_13 ph_mf_yX9_in ph_ml_RX9_70 ph_ms_yX9_in (c_X9_in Z (d - 1) (by omega) x2.toInt64 (lN 0) (lN 2) h6) (by omega) rfl rfl (Nat.le_of_ble_eq_true rfl) (fun v8 h9 => ?_)
    refine ph_if_eq (tgt := 29) (pc := 16) dX9_get_16 (by decide) (fun c10 => ?_) (fun c10 => ?_)
    · refine ph_ldc (v := (-2147483648)) (pc := 29) dX9_get_29 ph_k_RX9_97 ?_
      exact ph_iret (pc := 31) dX9_get_31 rfl
    · refine ph_aload_n (i := 0) (pc := 19) dX9_get_19 rfl rfl ?_
      refine ph_iload_n (i := 1) (pc := 20) dX9_get_20 rfl rfl ?_
      refine ph_iload_n (i := 2) (pc := 21) dX9_get_21 rfl rfl ?_
      refine ph_iload_n (i := 3) (pc := 22) dX9_get_22 rfl rfl ?_
      refine ph_callVi (pc := 23) dX9_get_23 ph_mf_yX9_lacks ph_ml_RX9_89 ph_mi_yX9_lacks ph_mv_yX9_lacks rfl rfl (c_X9_lacks Z (d - 1) (by omega) x1 x2 x3 h9) (by omega) rfl rfl (Nat.le_of_ble_eq_true rfl) (fun v11 h12 => ?_)
      refine ph_if_eq (tgt := 32) (pc := 26) dX9_get_26 (by decide) (fun c13 => ?_) (fun c13 => ?_)
      · refine ph_aload_n (i := 0) (pc := 32) dX9_get_32 rfl rfl ?_
        refine ph_getR (j := 54) (pc := 33) dX9_get_33 ph_fl_RX9_16 rfl rfl rfl ?_
        refine ph_bipush (v := (nI 60)) (pc := 36) dX9_get_36 ph_bp_60 ?_
        refine ph_iload_n (i := 1) (pc := 38) dX9_get_38 rfl rfl ?_
        refine ph_imul (pc := 39) dX9_get_39 ?_
        refine ph_iload_n (i := 3) (pc := 40) dX9_get_40 rfl rfl ?_
        refine ph_iadd (pc := 41) dX9_get_41 ?_
        refine ph_iald (pc := 42) dX9_get_42 rfl rfl (fun v14 => ?_)
        exact ph_iret (pc := 43) dX9_get_43 rfl
      · refine ph_ldc (v := (-2147483648)) (pc := 29) dX9_get_29 ph_k_RX9_97 ?_
        exact ph_iret (pc := 31) dX9_get_31 rfl
def f_X9_copy (x1 : Int32) (x2 : Int32) (x3 : Int32) (x4 : Int32) (x5 : Int32) (h : ph_Hp) : Option (Int32 × ph_Hp) :=
  ph_cl (f_X9_isSheet x1 h) fun v7 h8 =>
  if v7 = nI 0 then
    some ((-2), h8)
  else
    ph_cl (f_X9_isSheet x3 h8) fun v10 h11 =>
    if v10 = nI 0 then
      some ((-2), h11)
    else
      ph_ldI h11 52 4 x1 fun v13 =>
      ph_jn (α := Unit) (fun _x =>
        ph_cl (f_X9_finds (nI 1) h11) fun v15 h16 =>
        some (v15, h16)) (fun j14 =>
        if v13 < nI 0 then
          j14 ()
        else
          ph_ldI h11 52 4 x3 fun v18 =>
          if nI 0 ≤ v18 then
            ph_ldI h11 52 4 x1 fun v20 =>
            ph_ldI h11 52 4 x3 fun v21 =>
            if v20 = v21 then
              ph_jn (α := Unit) (fun _x =>
                ph_cl (f_X9_finds (nI 2) h11) fun v24 h25 =>
                some (v24, h25)) (fun j23 =>
                if x2 < nI 0 then
                  j23 ()
                else
                  if x4 < nI 0 then
                    j23 ()
                  else
                    if x5 < nI 0 then
                      j23 ()
                    else
                      ph_ldI h11 53 4 x1 fun v29 =>
                      if nI 0 < (lg_cmp (x2.toInt64 + x5.toInt64) v29.toInt64) then
                        j23 ()
                      else
                        ph_ldI h11 53 4 x3 fun v31 =>
                        if (lg_cmp (x4.toInt64 + x5.toInt64) v31.toInt64) ≤ nI 0 then
                          ph_lp (α := Int32 × ph_Hp) (fun j33 (x34, h35) =>
                            if x5 ≤ x34 then
                              ph_lp (α := Int32 × ph_Hp) (fun j37 (x38, h39) =>
                                if x5 ≤ x38 then
                                  some ((nI 1), h39)
                                else
                                  ph_ldI h39 55 60 x38 fun v41 =>
                                  ph_stI h39 54 240 ((((nI 60) * x3) + x4) + x38) v41 fun h42 =>
                                  j37 (x38 + (nI 1), h42)) ph_fu ((nI 0), h35)
                            else
                              ph_ldI h35 54 240 ((((nI 60) * x1) + x2) + x34) fun v43 =>
                              ph_stI h35 55 60 x34 v43 fun h44 =>
                              j33 (x34 + (nI 1), h44)) ph_fu ((nI 0), h11)
                        else
                          j23 ())
            else
              ph_cl (f_X9_finds (nI 4) h11) fun v45 h46 =>
              some (v45, h46)
          else
            j14 ())
set_option maxRecDepth 100000 in
theorem c_X9_copy (Z : ph_L) (d : Nat) (hdd : 2 ≤ d) (x1 : Int32) (x2 : Int32) (x3 : Int32) (x4 : Int32) (x5 : Int32) (h : ph_Hp) : ph_CM Z yX9_copy cX9_copy 7 (some .int) d [.ref (ph_a Z 51), .int x1, .int x2, .int x3, .int x4, .int x5] ph_vi h (f_X9_copy x1 x2 x3 x4 x5 h) := by
  refine ph_begin (own := RX9) ph_mf_yX9_copy rfl (ls := [some (.ref (ph_a Z 51)), some (.int x1), some (.int x2), some (.int x3), some (.int x4), some (.int x5), none]) rfl (Nat.le_of_ble_eq_true rfl) ?_
  unfold f_X9_copy
  refine ph_iload_n (i := 1) (pc := 0) dX9_copy_0 rfl rfl ?_
  refine ph_callSi (pc := 1) dX9_copy_1 ph_mf_yX9_isSheet ph_ml_RX9_79 ph_ms_yX9_isSheet (c_X9_isSheet Z (d - 1) (by omega) x1 h) (by omega) rfl rfl (Nat.le_of_ble_eq_true rfl) (fun v7 h8 => ?_)
  refine ph_if_eq (tgt := 14) (pc := 4) dX9_copy_4 (by decide) (fun c9 => ?_) (fun c9 => ?_)
  · refine ph_bipush (v := (-2)) (pc := 14) dX9_copy_14 ph_bp_m2 ?_
    exact ph_iret (pc := 16) dX9_copy_16 rfl
  · refine ph_iload_n (i := 3) (pc := 7) dX9_copy_7 rfl rfl ?_
    refine ph_callSi (pc := 8) dX9_copy_8 ph_mf_yX9_isSheet ph_ml_RX9_79 ph_ms_yX9_isSheet (c_X9_isSheet Z (d - 1) (by omega) x3 h8) (by omega) rfl rfl (Nat.le_of_ble_eq_true rfl) (fun v10 h11 => ?_)
    refine ph_if_ne (tgt := 17) (pc := 11) dX9_copy_11 (by decide) (fun c12 => ?_) (fun c12 => ?_)
    · refine ph_aload_n (i := 0) (pc := 17) dX9_copy_17 rfl rfl ?_
      refine ph_getR (j := 52) (pc := 18) dX9_copy_18 ph_fl_RX9_7 rfl rfl rfl ?_
      refine ph_iload_n (i := 1) (pc := 21) dX9_copy_21 rfl rfl ?_
      refine ph_iald (pc := 22) dX9_copy_22 rfl rfl (fun v13 => ?_)
      refine ph_join (α := Unit) 35 (fun x => [some (.ref (ph_a Z 51)), none, none, none, none, none, none]) (fun x => []) (fun x => h11) (fun x => ?_) (fun j14 hj14 => ?_)
      · refine ph_aload_n (i := 0) (pc := 35) dX9_copy_35 rfl rfl ?_
        refine ph_iconst (v := (nI 1)) (pc := 36) dX9_copy_36 ph_ic_1 ?_
        refine ph_callVi (pc := 37) dX9_copy_37 ph_mf_yX9_finds ph_ml_RX9_85 ph_mi_yX9_finds ph_mv_yX9_finds rfl rfl (c_X9_finds Z (d - 1) (by omega) (nI 1) h11) (by omega) rfl rfl (Nat.le_of_ble_eq_true rfl) (fun v15 h16 => ?_)
        exact ph_iret (pc := 40) dX9_copy_40 rfl
      · refine ph_if_lt (tgt := 35) (pc := 23) dX9_copy_23 (by decide) (fun c17 => ?_) (fun c17 => ?_)
        · refine ph_wk (ls1 := [some (.ref (ph_a Z 51)), none, none, none, none, none, none]) ⟨rfl, trivial⟩ ?_
          exact hj14 ()
        · refine ph_aload_n (i := 0) (pc := 26) dX9_copy_26 rfl rfl ?_
          refine ph_getR (j := 52) (pc := 27) dX9_copy_27 ph_fl_RX9_7 rfl rfl rfl ?_
          refine ph_iload_n (i := 3) (pc := 30) dX9_copy_30 rfl rfl ?_
          refine ph_iald (pc := 31) dX9_copy_31 rfl rfl (fun v18 => ?_)
          refine ph_if_ge (tgt := 41) (pc := 32) dX9_copy_32 (by decide) (fun c19 => ?_) (fun c19 => ?_)
          · refine ph_aload_n (i := 0) (pc := 41) dX9_copy_41 rfl rfl ?_
            refine ph_getR (j := 52) (pc := 42) dX9_copy_42 ph_fl_RX9_7 rfl rfl rfl ?_
            refine ph_iload_n (i := 1) (pc := 45) dX9_copy_45 rfl rfl ?_
            refine ph_iald (pc := 46) dX9_copy_46 rfl rfl (fun v20 => ?_)
            refine ph_aload_n (i := 0) (pc := 47) dX9_copy_47 rfl rfl ?_
            refine ph_getR (j := 52) (pc := 48) dX9_copy_48 ph_fl_RX9_7 rfl rfl rfl ?_
            refine ph_iload_n (i := 3) (pc := 51) dX9_copy_51 rfl rfl ?_
            refine ph_iald (pc := 52) dX9_copy_52 rfl rfl (fun v21 => ?_)
            refine ph_icmp_eq (tgt := 62) (pc := 53) dX9_copy_53 (by decide) (fun c22 => ?_) (fun c22 => ?_)
            · refine ph_iload_n (i := 2) (pc := 62) dX9_copy_62 rfl rfl ?_
              refine ph_join (α := Unit) 111 (fun x => [some (.ref (ph_a Z 51)), none, none, none, none, none, none]) (fun x => []) (fun x => h11) (fun x => ?_) (fun j23 hj23 => ?_)
              · refine ph_aload_n (i := 0) (pc := 111) dX9_copy_111 rfl rfl ?_
                refine ph_iconst (v := (nI 2)) (pc := 112) dX9_copy_112 ph_ic_2 ?_
                refine ph_callVi (pc := 113) dX9_copy_113 ph_mf_yX9_finds ph_ml_RX9_85 ph_mi_yX9_finds ph_mv_yX9_finds rfl rfl (c_X9_finds Z (d - 1) (by omega) (nI 2) h11) (by omega) rfl rfl (Nat.le_of_ble_eq_true rfl) (fun v24 h25 => ?_)
                exact ph_iret (pc := 116) dX9_copy_116 rfl
              · refine ph_if_lt (tgt := 111) (pc := 63) dX9_copy_63 (by decide) (fun c26 => ?_) (fun c26 => ?_)
                · refine ph_wk (ls1 := [some (.ref (ph_a Z 51)), none, none, none, none, none, none]) ⟨rfl, trivial⟩ ?_
                  exact hj23 ()
                · refine ph_iload (i := 4) (pc := 66) dX9_copy_66 rfl ?_
                  refine ph_if_lt (tgt := 111) (pc := 68) dX9_copy_68 (by decide) (fun c27 => ?_) (fun c27 => ?_)
                  · refine ph_wk (ls1 := [some (.ref (ph_a Z 51)), none, none, none, none, none, none]) ⟨rfl, trivial⟩ ?_
                    exact hj23 ()
                  · refine ph_iload (i := 5) (pc := 71) dX9_copy_71 rfl ?_
                    refine ph_if_lt (tgt := 111) (pc := 73) dX9_copy_73 (by decide) (fun c28 => ?_) (fun c28 => ?_)
                    · refine ph_wk (ls1 := [some (.ref (ph_a Z 51)), none, none, none, none, none, none]) ⟨rfl, trivial⟩ ?_
                      exact hj23 ()
                    · refine ph_iload_n (i := 2) (pc := 76) dX9_copy_76 rfl rfl ?_
                      refine ph_i2l (pc := 77) dX9_copy_77 ?_
                      refine ph_iload (i := 5) (pc := 78) dX9_copy_78 rfl ?_
                      refine ph_i2l (pc := 80) dX9_copy_80 ?_
                      refine ph_ladd (pc := 81) dX9_copy_81 ?_
                      refine ph_aload_n (i := 0) (pc := 82) dX9_copy_82 rfl rfl ?_
                      refine ph_getR (j := 53) (pc := 83) dX9_copy_83 ph_fl_RX9_13 rfl rfl rfl ?_
                      refine ph_iload_n (i := 1) (pc := 86) dX9_copy_86 rfl rfl ?_
                      refine ph_iald (pc := 87) dX9_copy_87 rfl rfl (fun v29 => ?_)
                      refine ph_i2l (pc := 88) dX9_copy_88 ?_
                      refine ph_lcmp (pc := 89) dX9_copy_89 ?_
                      refine ph_if_gt (tgt := 111) (pc := 90) dX9_copy_90 (by decide) (fun c30 => ?_) (fun c30 => ?_)
                      · refine ph_wk (ls1 := [some (.ref (ph_a Z 51)), none, none, none, none, none, none]) ⟨rfl, trivial⟩ ?_
                        exact hj23 ()
                      · refine ph_iload (i := 4) (pc := 93) dX9_copy_93 rfl ?_
                        refine ph_i2l (pc := 95) dX9_copy_95 ?_
                        refine ph_iload (i := 5) (pc := 96) dX9_copy_96 rfl ?_
                        refine ph_i2l (pc := 98) dX9_copy_98 ?_
                        refine ph_ladd (pc := 99) dX9_copy_99 ?_
                        refine ph_aload_n (i := 0) (pc := 100) dX9_copy_100 rfl rfl ?_
                        refine ph_getR (j := 53) (pc := 101) dX9_copy_101 ph_fl_RX9_13 rfl rfl rfl ?_
                        refine ph_iload_n (i := 3) (pc := 104) dX9_copy_104 rfl rfl ?_
                        refine ph_iald (pc := 105) dX9_copy_105 rfl rfl (fun v31 => ?_)
                        refine ph_i2l (pc := 106) dX9_copy_106 ?_
                        refine ph_lcmp (pc := 107) dX9_copy_107 ?_
                        refine ph_if_le (tgt := 117) (pc := 108) dX9_copy_108 (by decide) (fun c32 => ?_) (fun c32 => ?_)
                        · refine ph_iconst (v := (nI 0)) (pc := 117) dX9_copy_117 ph_ic_0 ?_
                          refine ph_istore (i := 6) (ls1 := [some (.ref (ph_a Z 51)), some (.int x1), some (.int x2), some (.int x3), some (.int x4), some (.int x5), some (.int (nI 0))]) (pc := 118) dX9_copy_118 (by decide) rfl ?_
                          refine ph_loop (α := Int32 × ph_Hp) 120 (fun x => [some (.ref (ph_a Z 51)), some (.int x1), some (.int x2), some (.int x3), some (.int x4), some (.int x5), some (.int x.1)]) (fun x => []) (fun x => x.2) (fun j33 hj33 x => ?_) ph_fu ((nI 0), h11)
                          obtain ⟨x34, h35⟩ := x
                          dsimp only
                          refine ph_iload (i := 6) (pc := 120) dX9_copy_120 rfl ?_
                          refine ph_iload (i := 5) (pc := 122) dX9_copy_122 rfl ?_
                          refine ph_icmp_ge (tgt := 154) (pc := 124) dX9_copy_124 (by decide) (fun c36 => ?_) (fun c36 => ?_)
                          · refine ph_iconst (v := (nI 0)) (pc := 154) dX9_copy_154 ph_ic_0 ?_
                            refine ph_istore (i := 6) (ls1 := [some (.ref (ph_a Z 51)), some (.int x1), some (.int x2), some (.int x3), some (.int x4), some (.int x5), some (.int (nI 0))]) (pc := 155) dX9_copy_155 (by decide) rfl ?_
                            refine ph_wk (ls1 := [some (.ref (ph_a Z 51)), none, none, some (.int x3), some (.int x4), some (.int x5), some (.int (nI 0))]) ⟨rfl, ⟨rfl, ⟨rfl, ⟨rfl, ⟨rfl, trivial⟩⟩⟩⟩⟩ ?_
                            refine ph_loop (α := Int32 × ph_Hp) 157 (fun x => [some (.ref (ph_a Z 51)), none, none, some (.int x3), some (.int x4), some (.int x5), some (.int x.1)]) (fun x => []) (fun x => x.2) (fun j37 hj37 x => ?_) ph_fu ((nI 0), h35)
                            obtain ⟨x38, h39⟩ := x
                            dsimp only
                            refine ph_iload (i := 6) (pc := 157) dX9_copy_157 rfl ?_
                            refine ph_iload (i := 5) (pc := 159) dX9_copy_159 rfl ?_
                            refine ph_icmp_ge (tgt := 192) (pc := 161) dX9_copy_161 (by decide) (fun c40 => ?_) (fun c40 => ?_)
                            · refine ph_iconst (v := (nI 1)) (pc := 192) dX9_copy_192 ph_ic_1 ?_
                              exact ph_iret (pc := 193) dX9_copy_193 rfl
                            · refine ph_aload_n (i := 0) (pc := 164) dX9_copy_164 rfl rfl ?_
                              refine ph_getR (j := 54) (pc := 165) dX9_copy_165 ph_fl_RX9_16 rfl rfl rfl ?_
                              refine ph_bipush (v := (nI 60)) (pc := 168) dX9_copy_168 ph_bp_60 ?_
                              refine ph_iload_n (i := 3) (pc := 170) dX9_copy_170 rfl rfl ?_
                              refine ph_imul (pc := 171) dX9_copy_171 ?_
                              refine ph_iload (i := 4) (pc := 172) dX9_copy_172 rfl ?_
                              refine ph_iadd (pc := 174) dX9_copy_174 ?_
                              refine ph_iload (i := 6) (pc := 175) dX9_copy_175 rfl ?_
                              refine ph_iadd (pc := 177) dX9_copy_177 ?_
                              refine ph_aload_n (i := 0) (pc := 178) dX9_copy_178 rfl rfl ?_
                              refine ph_getR (j := 55) (pc := 179) dX9_copy_179 ph_fl_RX9_19 rfl rfl rfl ?_
                              refine ph_iload (i := 6) (pc := 182) dX9_copy_182 rfl ?_
                              refine ph_iald (pc := 184) dX9_copy_184 rfl rfl (fun v41 => ?_)
                              refine ph_iast (pc := 185) dX9_copy_185 rfl rfl (fun h42 => ?_)
                              refine ph_iinc (i := 6) (v := (nI 1)) (ls1 := [some (.ref (ph_a Z 51)), none, none, some (.int x3), some (.int x4), some (.int x5), some (.int (x38 + (nI 1)))]) (pc := 186) dX9_copy_186 rfl ph_ic_1 (by decide) rfl ?_
                              refine ph_goto (tgt := 157) (pc := 189) dX9_copy_189 (by decide) ?_
                              exact hj37 (x38 + (nI 1), h42)
                          · refine ph_aload_n (i := 0) (pc := 127) dX9_copy_127 rfl rfl ?_
                            refine ph_getR (j := 55) (pc := 128) dX9_copy_128 ph_fl_RX9_19 rfl rfl rfl ?_
                            refine ph_iload (i := 6) (pc := 131) dX9_copy_131 rfl ?_
                            refine ph_aload_n (i := 0) (pc := 133) dX9_copy_133 rfl rfl ?_
                            refine ph_getR (j := 54) (pc := 134) dX9_copy_134 ph_fl_RX9_16 rfl rfl rfl ?_
                            refine ph_bipush (v := (nI 60)) (pc := 137) dX9_copy_137 ph_bp_60 ?_
                            refine ph_iload_n (i := 1) (pc := 139) dX9_copy_139 rfl rfl ?_
                            refine ph_imul (pc := 140) dX9_copy_140 ?_
                            refine ph_iload_n (i := 2) (pc := 141) dX9_copy_141 rfl rfl ?_
                            refine ph_iadd (pc := 142) dX9_copy_142 ?_
                            refine ph_iload (i := 6) (pc := 143) dX9_copy_143 rfl ?_
                            refine ph_iadd (pc := 145) dX9_copy_145 ?_
                            refine ph_iald (pc := 146) dX9_copy_146 rfl rfl (fun v43 => ?_)
                            refine ph_iast (pc := 147) dX9_copy_147 rfl rfl (fun h44 => ?_)
                            refine ph_iinc (i := 6) (v := (nI 1)) (ls1 := [some (.ref (ph_a Z 51)), some (.int x1), some (.int x2), some (.int x3), some (.int x4), some (.int x5), some (.int (x34 + (nI 1)))]) (pc := 148) dX9_copy_148 rfl ph_ic_1 (by decide) rfl ?_
                            refine ph_goto (tgt := 120) (pc := 151) dX9_copy_151 (by decide) ?_
                            exact hj33 (x34 + (nI 1), h44)
                        · refine ph_wk (ls1 := [some (.ref (ph_a Z 51)), none, none, none, none, none, none]) ⟨rfl, trivial⟩ ?_
                          exact hj23 ()
            · refine ph_aload_n (i := 0) (pc := 56) dX9_copy_56 rfl rfl ?_
              refine ph_iconst (v := (nI 4)) (pc := 57) dX9_copy_57 ph_ic_4 ?_
              refine ph_callVi (pc := 58) dX9_copy_58 ph_mf_yX9_finds ph_ml_RX9_85 ph_mi_yX9_finds ph_mv_yX9_finds rfl rfl (c_X9_finds Z (d - 1) (by omega) (nI 4) h11) (by omega) rfl rfl (Nat.le_of_ble_eq_true rfl) (fun v45 h46 => ?_)
              exact ph_iret (pc := 61) dX9_copy_61 rfl
          · refine ph_wk (ls1 := [some (.ref (ph_a Z 51)), none, none, none, none, none, none]) ⟨rfl, trivial⟩ ?_
            exact hj14 ()
    · refine ph_bipush (v := (-2)) (pc := 14) dX9_copy_14 ph_bp_m2 ?_
      exact ph_iret (pc := 16) dX9_copy_16 rfl
def f_X9_type (x1 : Int32) (x2 : Int32) (h : ph_Hp) : Option (Int32 × ph_Hp) :=
  ph_cl (f_X9_isTwo x1 h) fun v4 h5 =>
  if v4 = nI 0 then
    some ((-2), h5)
  else
    ph_cl (f_X9_in x2.toInt64 (lN 0) (lN 255) h5) fun v7 h8 =>
    if v7 = nI 0 then
      some ((-2), h8)
    else
      ph_ldI h8 57 2 x1 fun v10 =>
      ph_jn (α := Int32) (fun x12 =>
        if v10 = x12 then
          some ((-4), h8)
        else
          ph_ldI h8 57 2 x1 fun v14 =>
          ph_stI h8 56 88 (((nI 44) * x1) + v14) x2 fun h15 =>
          ph_ldI h15 57 2 x1 fun v16 =>
          ph_stI h15 57 2 x1 (v16 + (nI 1)) fun h17 =>
          ph_ldI h17 57 2 x1 fun v18 =>
          some (v18, h17)) (fun j11 =>
        if x1 = nI 0 then
          j11 (nI 24)
        else
          j11 (nI 44))
set_option maxRecDepth 100000 in
theorem c_X9_type (Z : ph_L) (d : Nat) (hdd : 2 ≤ d) (x1 : Int32) (x2 : Int32) (h : ph_Hp) : ph_CM Z yX9_type cX9_type 3 (some .int) d [.ref (ph_a Z 51), .int x1, .int x2] ph_vi h (f_X9_type x1 x2 h) := by
  refine ph_begin (own := RX9) ph_mf_yX9_type rfl (ls := [some (.ref (ph_a Z 51)), some (.int x1), some (.int x2)]) rfl (Nat.le_of_ble_eq_true rfl) ?_
  unfold f_X9_type
  refine ph_iload_n (i := 1) (pc := 0) dX9_type_0 rfl rfl ?_
  refine ph_callSi (pc := 1) dX9_type_1 ph_mf_yX9_isTwo ph_ml_RX9_98 ph_ms_yX9_isTwo (c_X9_isTwo Z (d - 1) (by omega) x1 h) (by omega) rfl rfl (Nat.le_of_ble_eq_true rfl) (fun v4 h5 => ?_)
  refine ph_if_eq (tgt := 19) (pc := 4) dX9_type_4 (by decide) (fun c6 => ?_) (fun c6 => ?_)
  · refine ph_bipush (v := (-2)) (pc := 19) dX9_type_19 ph_bp_m2 ?_
    exact ph_iret (pc := 21) dX9_type_21 rfl
  · refine ph_iload_n (i := 2) (pc := 7) dX9_type_7 rfl rfl ?_
    refine ph_i2l (pc := 8) dX9_type_8 ?_
    refine ph_lconst (v := (lN 0)) (pc := 9) dX9_type_9 rfl ?_
    refine ph_ldc2 (v := (lN 255)) (pc := 10) dX9_type_10 ph_k_RX9_101 ?_
    refine ph_callSi (pc := 13) dX9_type_13 ph_mf_yX9_in ph_ml_RX9_70 ph_ms_yX9_in (c_X9_in Z (d - 1) (by omega) x2.toInt64 (lN 0) (lN 255) h5) (by omega) rfl rfl (Nat.le_of_ble_eq_true rfl) (fun v7 h8 => ?_)
    refine ph_if_ne (tgt := 22) (pc := 16) dX9_type_16 (by decide) (fun c9 => ?_) (fun c9 => ?_)
    · refine ph_aload_n (i := 0) (pc := 22) dX9_type_22 rfl rfl ?_
      refine ph_getR (j := 57) (pc := 23) dX9_type_23 ph_fl_RX9_25 rfl rfl rfl ?_
      refine ph_iload_n (i := 1) (pc := 26) dX9_type_26 rfl rfl ?_
      refine ph_iald (pc := 27) dX9_type_27 rfl rfl (fun v10 => ?_)
      refine ph_iload_n (i := 1) (pc := 28) dX9_type_28 rfl rfl ?_
      refine ph_join (α := Int32) 39 (fun x => [some (.ref (ph_a Z 51)), some (.int x1), some (.int x2)]) (fun x => [.int x, .int v10]) (fun x => h8) (fun x => ?_) (fun j11 hj11 => ?_)
      · revert x; intro x12
        refine ph_icmp_ne (tgt := 45) (pc := 39) dX9_type_39 (by decide) (fun c13 => ?_) (fun c13 => ?_)
        · refine ph_aload_n (i := 0) (pc := 45) dX9_type_45 rfl rfl ?_
          refine ph_getR (j := 56) (pc := 46) dX9_type_46 ph_fl_RX9_22 rfl rfl rfl ?_
          refine ph_bipush (v := (nI 44)) (pc := 49) dX9_type_49 ph_bp_44 ?_
          refine ph_iload_n (i := 1) (pc := 51) dX9_type_51 rfl rfl ?_
          refine ph_imul (pc := 52) dX9_type_52 ?_
          refine ph_aload_n (i := 0) (pc := 53) dX9_type_53 rfl rfl ?_
          refine ph_getR (j := 57) (pc := 54) dX9_type_54 ph_fl_RX9_25 rfl rfl rfl ?_
          refine ph_iload_n (i := 1) (pc := 57) dX9_type_57 rfl rfl ?_
          refine ph_iald (pc := 58) dX9_type_58 rfl rfl (fun v14 => ?_)
          refine ph_iadd (pc := 59) dX9_type_59 ?_
          refine ph_iload_n (i := 2) (pc := 60) dX9_type_60 rfl rfl ?_
          refine ph_iast (pc := 61) dX9_type_61 rfl rfl (fun h15 => ?_)
          refine ph_aload_n (i := 0) (pc := 62) dX9_type_62 rfl rfl ?_
          refine ph_getR (j := 57) (pc := 63) dX9_type_63 ph_fl_RX9_25 rfl rfl rfl ?_
          refine ph_iload_n (i := 1) (pc := 66) dX9_type_66 rfl rfl ?_
          refine ph_dup2 (pc := 67) dX9_type_67 rfl rfl ?_
          refine ph_iald (pc := 68) dX9_type_68 rfl rfl (fun v16 => ?_)
          refine ph_iconst (v := (nI 1)) (pc := 69) dX9_type_69 ph_ic_1 ?_
          refine ph_iadd (pc := 70) dX9_type_70 ?_
          refine ph_iast (pc := 71) dX9_type_71 rfl rfl (fun h17 => ?_)
          refine ph_aload_n (i := 0) (pc := 72) dX9_type_72 rfl rfl ?_
          refine ph_getR (j := 57) (pc := 73) dX9_type_73 ph_fl_RX9_25 rfl rfl rfl ?_
          refine ph_iload_n (i := 1) (pc := 76) dX9_type_76 rfl rfl ?_
          refine ph_iald (pc := 77) dX9_type_77 rfl rfl (fun v18 => ?_)
          exact ph_iret (pc := 78) dX9_type_78 rfl
        · refine ph_bipush (v := (-4)) (pc := 42) dX9_type_42 ph_bp_m4 ?_
          exact ph_iret (pc := 44) dX9_type_44 rfl
      · refine ph_if_ne (tgt := 37) (pc := 29) dX9_type_29 (by decide) (fun c19 => ?_) (fun c19 => ?_)
        · refine ph_bipush (v := (nI 44)) (pc := 37) dX9_type_37 ph_bp_44 ?_
          exact hj11 (nI 44)
        · refine ph_bipush (v := (nI 24)) (pc := 32) dX9_type_32 ph_bp_24 ?_
          refine ph_goto (tgt := 39) (pc := 34) dX9_type_34 (by decide) ?_
          exact hj11 (nI 24)
    · refine ph_bipush (v := (-2)) (pc := 19) dX9_type_19 ph_bp_m2 ?_
      exact ph_iret (pc := 21) dX9_type_21 rfl
def f_X9_wipe (x1 : Int32) (h : ph_Hp) : Option (Int32 × ph_Hp) :=
  ph_cl (f_X9_isTwo x1 h) fun v3 h4 =>
  if v3 = nI 0 then
    some ((-2), h4)
  else
    ph_ldI h4 57 2 x1 fun v6 =>
    ph_stI h4 57 2 x1 (nI 0) fun h7 =>
    some (v6, h7)
set_option maxRecDepth 100000 in
theorem c_X9_wipe (Z : ph_L) (d : Nat) (hdd : 2 ≤ d) (x1 : Int32) (h : ph_Hp) : ph_CM Z yX9_wipe cX9_wipe 3 (some .int) d [.ref (ph_a Z 51), .int x1] ph_vi h (f_X9_wipe x1 h) := by
  refine ph_begin (own := RX9) ph_mf_yX9_wipe rfl (ls := [some (.ref (ph_a Z 51)), some (.int x1), none]) rfl (Nat.le_of_ble_eq_true rfl) ?_
  unfold f_X9_wipe
  refine ph_iload_n (i := 1) (pc := 0) dX9_wipe_0 rfl rfl ?_
  refine ph_callSi (pc := 1) dX9_wipe_1 ph_mf_yX9_isTwo ph_ml_RX9_98 ph_ms_yX9_isTwo (c_X9_isTwo Z (d - 1) (by omega) x1 h) (by omega) rfl rfl (Nat.le_of_ble_eq_true rfl) (fun v3 h4 => ?_)
  refine ph_if_ne (tgt := 10) (pc := 4) dX9_wipe_4 (by decide) (fun c5 => ?_) (fun c5 => ?_)
  · refine ph_aload_n (i := 0) (pc := 10) dX9_wipe_10 rfl rfl ?_
    refine ph_getR (j := 57) (pc := 11) dX9_wipe_11 ph_fl_RX9_25 rfl rfl rfl ?_
    refine ph_iload_n (i := 1) (pc := 14) dX9_wipe_14 rfl rfl ?_
    refine ph_iald (pc := 15) dX9_wipe_15 rfl rfl (fun v6 => ?_)
    refine ph_istore_n (i := 2) (ls1 := [some (.ref (ph_a Z 51)), some (.int x1), some (.int v6)]) (pc := 16) dX9_wipe_16 rfl (by decide) rfl ?_
    refine ph_aload_n (i := 0) (pc := 17) dX9_wipe_17 rfl rfl ?_
    refine ph_getR (j := 57) (pc := 18) dX9_wipe_18 ph_fl_RX9_25 rfl rfl rfl ?_
    refine ph_iload_n (i := 1) (pc := 21) dX9_wipe_21 rfl rfl ?_
    refine ph_iconst (v := (nI 0)) (pc := 22) dX9_wipe_22 ph_ic_0 ?_
    refine ph_iast (pc := 23) dX9_wipe_23 rfl rfl (fun h7 => ?_)
    refine ph_iload_n (i := 2) (pc := 24) dX9_wipe_24 rfl rfl ?_
    exact ph_iret (pc := 25) dX9_wipe_25 rfl
  · refine ph_bipush (v := (-2)) (pc := 7) dX9_wipe_7 ph_bp_m2 ?_
    exact ph_iret (pc := 9) dX9_wipe_9 rfl
def f_X9_undo (x1 : Int32) (h : ph_Hp) : Option (Int32 × ph_Hp) :=
  ph_cl (f_X9_isTwo x1 h) fun v3 h4 =>
  if v3 = nI 0 then
    some ((-2), h4)
  else
    ph_ldI h4 57 2 x1 fun v6 =>
    if v6 = nI 0 then
      some ((-3), h4)
    else
      ph_ldI h4 57 2 x1 fun v8 =>
      ph_stI h4 57 2 x1 (v8 - (nI 1)) fun h9 =>
      ph_ldI h9 57 2 x1 fun v10 =>
      some (v10, h9)
set_option maxRecDepth 100000 in
theorem c_X9_undo (Z : ph_L) (d : Nat) (hdd : 2 ≤ d) (x1 : Int32) (h : ph_Hp) : ph_CM Z yX9_undo cX9_undo 2 (some .int) d [.ref (ph_a Z 51), .int x1] ph_vi h (f_X9_undo x1 h) := by
  refine ph_begin (own := RX9) ph_mf_yX9_undo rfl (ls := [some (.ref (ph_a Z 51)), some (.int x1)]) rfl (Nat.le_of_ble_eq_true rfl) ?_
  unfold f_X9_undo
  refine ph_iload_n (i := 1) (pc := 0) dX9_undo_0 rfl rfl ?_
  refine ph_callSi (pc := 1) dX9_undo_1 ph_mf_yX9_isTwo ph_ml_RX9_98 ph_ms_yX9_isTwo (c_X9_isTwo Z (d - 1) (by omega) x1 h) (by omega) rfl rfl (Nat.le_of_ble_eq_true rfl) (fun v3 h4 => ?_)
  refine ph_if_ne (tgt := 10) (pc := 4) dX9_undo_4 (by decide) (fun c5 => ?_) (fun c5 => ?_)
  · refine ph_aload_n (i := 0) (pc := 10) dX9_undo_10 rfl rfl ?_
    refine ph_getR (j := 57) (pc := 11) dX9_undo_11 ph_fl_RX9_25 rfl rfl rfl ?_
    refine ph_iload_n (i := 1) (pc := 14) dX9_undo_14 rfl rfl ?_
    refine ph_iald (pc := 15) dX9_undo_15 rfl rfl (fun v6 => ?_)
    refine ph_if_ne (tgt := 22) (pc := 16) dX9_undo_16 (by decide) (fun c7 => ?_) (fun c7 => ?_)
    · refine ph_aload_n (i := 0) (pc := 22) dX9_undo_22 rfl rfl ?_
      refine ph_getR (j := 57) (pc := 23) dX9_undo_23 ph_fl_RX9_25 rfl rfl rfl ?_
      refine ph_iload_n (i := 1) (pc := 26) dX9_undo_26 rfl rfl ?_
      refine ph_dup2 (pc := 27) dX9_undo_27 rfl rfl ?_
      refine ph_iald (pc := 28) dX9_undo_28 rfl rfl (fun v8 => ?_)
      refine ph_iconst (v := (nI 1)) (pc := 29) dX9_undo_29 ph_ic_1 ?_
      refine ph_isub (pc := 30) dX9_undo_30 ?_
      refine ph_iast (pc := 31) dX9_undo_31 rfl rfl (fun h9 => ?_)
      refine ph_aload_n (i := 0) (pc := 32) dX9_undo_32 rfl rfl ?_
      refine ph_getR (j := 57) (pc := 33) dX9_undo_33 ph_fl_RX9_25 rfl rfl rfl ?_
      refine ph_iload_n (i := 1) (pc := 36) dX9_undo_36 rfl rfl ?_
      refine ph_iald (pc := 37) dX9_undo_37 rfl rfl (fun v10 => ?_)
      exact ph_iret (pc := 38) dX9_undo_38 rfl
    · refine ph_bipush (v := (-3)) (pc := 19) dX9_undo_19 ph_bp_m3 ?_
      exact ph_iret (pc := 21) dX9_undo_21 rfl
  · refine ph_bipush (v := (-2)) (pc := 7) dX9_undo_7 ph_bp_m2 ?_
    exact ph_iret (pc := 9) dX9_undo_9 rfl
def f_X9_readsPlay (h : ph_Hp) : Option (Int32 × ph_Hp) :=
  ph_pfI h 51 7 (nI 0) fun h2 =>
  ph_lp (α := Int32 × ph_Hp) (fun j3 (x4, h5) =>
    ph_ldI h5 57 2 (nI 0) fun v6 =>
    if v6 ≤ x4 then
      some ((-1), h5)
    else
      ph_ldI h5 56 88 x4 fun v8 =>
      ph_cl (f_X9_in v8.toInt64 (lN 97) (lN 104) h5) fun v9 h10 =>
      if v9 = nI 0 then
        ph_pfI h10 51 7 (nI 0) fun h15 =>
        some (x4, h15)
      else
        ph_ldI h10 56 88 x4 fun v12 =>
        ph_stI h10 58 24 x4 (v12 - (nI 97)) fun h13 =>
        ph_pfI h13 51 7 ((h13.1 51 7) + (nI 1)) fun h14 =>
        j3 (x4 + (nI 1), h14)) ph_fu ((nI 0), h2)
set_option maxRecDepth 100000 in
theorem c_X9_readsPlay (Z : ph_L) (d : Nat) (hdd : 1 ≤ d) (h : ph_Hp) : ph_CM Z yX9_readsPlay cX9_readsPlay 2 (some .int) d [.ref (ph_a Z 51)] ph_vi h (f_X9_readsPlay h) := by
  refine ph_begin (own := RX9) ph_mf_yX9_readsPlay rfl (ls := [some (.ref (ph_a Z 51)), none]) rfl (Nat.le_of_ble_eq_true rfl) ?_
  unfold f_X9_readsPlay
  refine ph_aload_n (i := 0) (pc := 0) dX9_readsPlay_0 rfl rfl ?_
  refine ph_iconst (v := (nI 0)) (pc := 1) dX9_readsPlay_1 ph_ic_0 ?_
  refine ph_putI (pc := 2) dX9_readsPlay_2 ph_pl_RX9_103 rfl (by decide) rfl rfl (fun h2 => ?_)
  refine ph_iconst (v := (nI 0)) (pc := 5) dX9_readsPlay_5 ph_ic_0 ?_
  refine ph_istore_n (i := 1) (ls1 := [some (.ref (ph_a Z 51)), some (.int (nI 0))]) (pc := 6) dX9_readsPlay_6 rfl (by decide) rfl ?_
  refine ph_loop (α := Int32 × ph_Hp) 7 (fun x => [some (.ref (ph_a Z 51)), some (.int x.1)]) (fun x => []) (fun x => x.2) (fun j3 hj3 x => ?_) ph_fu ((nI 0), h2)
  obtain ⟨x4, h5⟩ := x
  dsimp only
  refine ph_iload_n (i := 1) (pc := 7) dX9_readsPlay_7 rfl rfl ?_
  refine ph_aload_n (i := 0) (pc := 8) dX9_readsPlay_8 rfl rfl ?_
  refine ph_getR (j := 57) (pc := 9) dX9_readsPlay_9 ph_fl_RX9_25 rfl rfl rfl ?_
  refine ph_iconst (v := (nI 0)) (pc := 12) dX9_readsPlay_12 ph_ic_0 ?_
  refine ph_iald (pc := 13) dX9_readsPlay_13 rfl rfl (fun v6 => ?_)
  refine ph_icmp_ge (tgt := 74) (pc := 14) dX9_readsPlay_14 (by decide) (fun c7 => ?_) (fun c7 => ?_)
  · refine ph_iconst (v := (-1)) (pc := 74) dX9_readsPlay_74 ph_ic_m1 ?_
    exact ph_iret (pc := 75) dX9_readsPlay_75 rfl
  · refine ph_aload_n (i := 0) (pc := 17) dX9_readsPlay_17 rfl rfl ?_
    refine ph_getR (j := 56) (pc := 18) dX9_readsPlay_18 ph_fl_RX9_22 rfl rfl rfl ?_
    refine ph_iload_n (i := 1) (pc := 21) dX9_readsPlay_21 rfl rfl ?_
    refine ph_iald (pc := 22) dX9_readsPlay_22 rfl rfl (fun v8 => ?_)
    refine ph_i2l (pc := 23) dX9_readsPlay_23 ?_
    refine ph_ldc2 (v := (lN 97)) (pc := 24) dX9_readsPlay_24 ph_k_RX9_106 ?_
    refine ph_ldc2 (v := (lN 104)) (pc := 27) dX9_readsPlay_27 ph_k_RX9_108 ?_
    refine ph_callSi (pc := 30) dX9_readsPlay_30 ph_mf_yX9_in ph_ml_RX9_70 ph_ms_yX9_in (c_X9_in Z (d - 1) (by omega) v8.toInt64 (lN 97) (lN 104) h5) (by omega) rfl rfl (Nat.le_of_ble_eq_true rfl) (fun v9 h10 => ?_)
    refine ph_if_ne (tgt := 43) (pc := 33) dX9_readsPlay_33 (by decide) (fun c11 => ?_) (fun c11 => ?_)
    · refine ph_aload_n (i := 0) (pc := 43) dX9_readsPlay_43 rfl rfl ?_
      refine ph_getR (j := 58) (pc := 44) dX9_readsPlay_44 ph_fl_RX9_28 rfl rfl rfl ?_
      refine ph_iload_n (i := 1) (pc := 47) dX9_readsPlay_47 rfl rfl ?_
      refine ph_aload_n (i := 0) (pc := 48) dX9_readsPlay_48 rfl rfl ?_
      refine ph_getR (j := 56) (pc := 49) dX9_readsPlay_49 ph_fl_RX9_22 rfl rfl rfl ?_
      refine ph_iload_n (i := 1) (pc := 52) dX9_readsPlay_52 rfl rfl ?_
      refine ph_iald (pc := 53) dX9_readsPlay_53 rfl rfl (fun v12 => ?_)
      refine ph_bipush (v := (nI 97)) (pc := 54) dX9_readsPlay_54 ph_bp_97 ?_
      refine ph_isub (pc := 56) dX9_readsPlay_56 ?_
      refine ph_iast (pc := 57) dX9_readsPlay_57 rfl rfl (fun h13 => ?_)
      refine ph_aload_n (i := 0) (pc := 58) dX9_readsPlay_58 rfl rfl ?_
      refine ph_dup (pc := 59) dX9_readsPlay_59 rfl ?_
      refine ph_getI (pc := 60) dX9_readsPlay_60 ph_fl_RX9_103 rfl (by decide) ?_
      refine ph_iconst (v := (nI 1)) (pc := 63) dX9_readsPlay_63 ph_ic_1 ?_
      refine ph_iadd (pc := 64) dX9_readsPlay_64 ?_
      refine ph_putI (pc := 65) dX9_readsPlay_65 ph_pl_RX9_103 rfl (by decide) rfl rfl (fun h14 => ?_)
      refine ph_iinc (i := 1) (v := (nI 1)) (ls1 := [some (.ref (ph_a Z 51)), some (.int (x4 + (nI 1)))]) (pc := 68) dX9_readsPlay_68 rfl ph_ic_1 (by decide) rfl ?_
      refine ph_goto (tgt := 7) (pc := 71) dX9_readsPlay_71 (by decide) ?_
      exact hj3 (x4 + (nI 1), h14)
    · refine ph_aload_n (i := 0) (pc := 36) dX9_readsPlay_36 rfl rfl ?_
      refine ph_iconst (v := (nI 0)) (pc := 37) dX9_readsPlay_37 ph_ic_0 ?_
      refine ph_putI (pc := 38) dX9_readsPlay_38 ph_pl_RX9_103 rfl (by decide) rfl rfl (fun h15 => ?_)
      refine ph_iload_n (i := 1) (pc := 41) dX9_readsPlay_41 rfl rfl ?_
      exact ph_iret (pc := 42) dX9_readsPlay_42 rfl
def f_X9_within (x1 : Int32) (x2 : Int32) (x3 : Int32) (h : ph_Hp) : Option (Int32 × ph_Hp) :=
  ph_cl (f_X9_in x1.toInt64 x2.toInt64 x3.toInt64 h) fun v5 h6 =>
  if v5 = nI 0 then
    some ((-1), h6)
  else
    some (x1 - x2, h6)
set_option maxRecDepth 100000 in
theorem c_X9_within (Z : ph_L) (d : Nat) (hdd : 1 ≤ d) (x1 : Int32) (x2 : Int32) (x3 : Int32) (h : ph_Hp) : ph_CM Z yX9_within cX9_within 3 (some .int) d [.int x1, .int x2, .int x3] ph_vi h (f_X9_within x1 x2 x3 h) := by
  refine ph_begin (own := RX9) ph_mf_yX9_within rfl (ls := [some (.int x1), some (.int x2), some (.int x3)]) rfl (Nat.le_of_ble_eq_true rfl) ?_
  unfold f_X9_within
  refine ph_iload_n (i := 0) (pc := 0) dX9_within_0 rfl rfl ?_
  refine ph_i2l (pc := 1) dX9_within_1 ?_
  refine ph_iload_n (i := 1) (pc := 2) dX9_within_2 rfl rfl ?_
  refine ph_i2l (pc := 3) dX9_within_3 ?_
  refine ph_iload_n (i := 2) (pc := 4) dX9_within_4 rfl rfl ?_
  refine ph_i2l (pc := 5) dX9_within_5 ?_
  refine ph_callSi (pc := 6) dX9_within_6 ph_mf_yX9_in ph_ml_RX9_70 ph_ms_yX9_in (c_X9_in Z (d - 1) (by omega) x1.toInt64 x2.toInt64 x3.toInt64 h) (by omega) rfl rfl (Nat.le_of_ble_eq_true rfl) (fun v5 h6 => ?_)
  refine ph_if_eq (tgt := 18) (pc := 9) dX9_within_9 (by decide) (fun c7 => ?_) (fun c7 => ?_)
  · refine ph_iconst (v := (-1)) (pc := 18) dX9_within_18 ph_ic_m1 ?_
    exact ph_iret (pc := 19) dX9_within_19 rfl
  · refine ph_iload_n (i := 0) (pc := 12) dX9_within_12 rfl rfl ?_
    refine ph_iload_n (i := 1) (pc := 13) dX9_within_13 rfl rfl ?_
    refine ph_isub (pc := 14) dX9_within_14 ?_
    refine ph_goto (tgt := 19) (pc := 15) dX9_within_15 (by decide) ?_
    exact ph_iret (pc := 19) dX9_within_19 rfl
def f_X9_tellsOf (x1 : Int32) (x2 : Int32) (h : ph_Hp) : Option (Int32 × ph_Hp) :=
  if x1 = (nI 0) then
    ph_cl (f_X9_within x2 (nI 97) (nI 106) h) fun v5 h6 =>
    some (v5, h6)
  else
  if x1 = (nI 1) then
    ph_cl (f_X9_within x2 (nI 48) (nI 57) h) fun v8 h9 =>
    some (v8, h9)
  else
  if x1 = (nI 2) then
    if x2 = (nI 110) then
      some ((nI 0), h)
    else
      if x2 = (nI 114) then
        some ((nI 1), h)
      else
        if x2 = (nI 121) then
          some ((nI 2), h)
        else
          if x2 = (nI 108) then
            some ((nI 3), h)
          else
            some ((-1), h)
  else
  if x1 = (nI 3) then
    ph_cl (f_X9_within x2 (nI 97) (nI 104) h) fun v16 h17 =>
    some (v16, h17)
  else
  if x2 = (nI 59) then
    some ((nI 0), h)
  else
    some ((-1), h)
set_option maxRecDepth 100000 in
theorem c_X9_tellsOf (Z : ph_L) (d : Nat) (hdd : 2 ≤ d) (x1 : Int32) (x2 : Int32) (h : ph_Hp) : ph_CM Z yX9_tellsOf cX9_tellsOf 2 (some .int) d [.int x1, .int x2] ph_vi h (f_X9_tellsOf x1 x2 h) := by
  refine ph_begin (own := RX9) ph_mf_yX9_tellsOf rfl (ls := [some (.int x1), some (.int x2)]) rfl (Nat.le_of_ble_eq_true rfl) ?_
  unfold f_X9_tellsOf
  refine ph_iload_n (i := 0) (pc := 0) dX9_tellsOf_0 rfl rfl ?_
  refine ph_ite (fun c4 => ?_) (fun c4 => ?_)
  · refine ph_tin (tgt := 32) (v := (nI 0)) (pc := 1) dX9_tellsOf_1 c4 (by decide) (by decide) rfl (by decide) ?_
    refine ph_iload_n (i := 1) (pc := 32) dX9_tellsOf_32 rfl rfl ?_
    refine ph_bipush (v := (nI 97)) (pc := 33) dX9_tellsOf_33 ph_bp_97 ?_
    refine ph_bipush (v := (nI 106)) (pc := 35) dX9_tellsOf_35 ph_bp_106 ?_
    refine ph_callSi (pc := 37) dX9_tellsOf_37 ph_mf_yX9_within ph_ml_RX9_110 ph_ms_yX9_within (c_X9_within Z (d - 1) (by omega) x2 (nI 97) (nI 106) h) (by omega) rfl rfl (Nat.le_of_ble_eq_true rfl) (fun v5 h6 => ?_)
    exact ph_iret (pc := 40) dX9_tellsOf_40 rfl
  refine ph_ite (fun c7 => ?_) (fun c7 => ?_)
  · refine ph_tin (tgt := 41) (v := (nI 1)) (pc := 1) dX9_tellsOf_1 c7 (by decide) (by decide) rfl (by decide) ?_
    refine ph_iload_n (i := 1) (pc := 41) dX9_tellsOf_41 rfl rfl ?_
    refine ph_bipush (v := (nI 48)) (pc := 42) dX9_tellsOf_42 ph_bp_48 ?_
    refine ph_bipush (v := (nI 57)) (pc := 44) dX9_tellsOf_44 ph_bp_57 ?_
    refine ph_callSi (pc := 46) dX9_tellsOf_46 ph_mf_yX9_within ph_ml_RX9_110 ph_ms_yX9_within (c_X9_within Z (d - 1) (by omega) x2 (nI 48) (nI 57) h) (by omega) rfl rfl (Nat.le_of_ble_eq_true rfl) (fun v8 h9 => ?_)
    exact ph_iret (pc := 49) dX9_tellsOf_49 rfl
  refine ph_ite (fun c10 => ?_) (fun c10 => ?_)
  · refine ph_tin (tgt := 50) (v := (nI 2)) (pc := 1) dX9_tellsOf_1 c10 (by decide) (by decide) rfl (by decide) ?_
    refine ph_iload_n (i := 1) (pc := 50) dX9_tellsOf_50 rfl rfl ?_
    refine ph_bipush (v := (nI 110)) (pc := 51) dX9_tellsOf_51 ph_bp_110 ?_
    refine ph_icmp_ne (tgt := 60) (pc := 53) dX9_tellsOf_53 (by decide) (fun c11 => ?_) (fun c11 => ?_)
    · refine ph_iload_n (i := 1) (pc := 60) dX9_tellsOf_60 rfl rfl ?_
      refine ph_bipush (v := (nI 114)) (pc := 61) dX9_tellsOf_61 ph_bp_114 ?_
      refine ph_icmp_ne (tgt := 70) (pc := 63) dX9_tellsOf_63 (by decide) (fun c12 => ?_) (fun c12 => ?_)
      · refine ph_iload_n (i := 1) (pc := 70) dX9_tellsOf_70 rfl rfl ?_
        refine ph_bipush (v := (nI 121)) (pc := 71) dX9_tellsOf_71 ph_bp_121 ?_
        refine ph_icmp_ne (tgt := 80) (pc := 73) dX9_tellsOf_73 (by decide) (fun c13 => ?_) (fun c13 => ?_)
        · refine ph_iload_n (i := 1) (pc := 80) dX9_tellsOf_80 rfl rfl ?_
          refine ph_bipush (v := (nI 108)) (pc := 81) dX9_tellsOf_81 ph_bp_108 ?_
          refine ph_icmp_ne (tgt := 90) (pc := 83) dX9_tellsOf_83 (by decide) (fun c14 => ?_) (fun c14 => ?_)
          · refine ph_iconst (v := (-1)) (pc := 90) dX9_tellsOf_90 ph_ic_m1 ?_
            exact ph_iret (pc := 91) dX9_tellsOf_91 rfl
          · refine ph_iconst (v := (nI 3)) (pc := 86) dX9_tellsOf_86 ph_ic_3 ?_
            refine ph_goto (tgt := 91) (pc := 87) dX9_tellsOf_87 (by decide) ?_
            exact ph_iret (pc := 91) dX9_tellsOf_91 rfl
        · refine ph_iconst (v := (nI 2)) (pc := 76) dX9_tellsOf_76 ph_ic_2 ?_
          refine ph_goto (tgt := 91) (pc := 77) dX9_tellsOf_77 (by decide) ?_
          exact ph_iret (pc := 91) dX9_tellsOf_91 rfl
      · refine ph_iconst (v := (nI 1)) (pc := 66) dX9_tellsOf_66 ph_ic_1 ?_
        refine ph_goto (tgt := 91) (pc := 67) dX9_tellsOf_67 (by decide) ?_
        exact ph_iret (pc := 91) dX9_tellsOf_91 rfl
    · refine ph_iconst (v := (nI 0)) (pc := 56) dX9_tellsOf_56 ph_ic_0 ?_
      refine ph_goto (tgt := 91) (pc := 57) dX9_tellsOf_57 (by decide) ?_
      exact ph_iret (pc := 91) dX9_tellsOf_91 rfl
  refine ph_ite (fun c15 => ?_) (fun c15 => ?_)
  · refine ph_tin (tgt := 92) (v := (nI 3)) (pc := 1) dX9_tellsOf_1 c15 (by decide) (by decide) rfl (by decide) ?_
    refine ph_iload_n (i := 1) (pc := 92) dX9_tellsOf_92 rfl rfl ?_
    refine ph_bipush (v := (nI 97)) (pc := 93) dX9_tellsOf_93 ph_bp_97 ?_
    refine ph_bipush (v := (nI 104)) (pc := 95) dX9_tellsOf_95 ph_bp_104 ?_
    refine ph_callSi (pc := 97) dX9_tellsOf_97 ph_mf_yX9_within ph_ml_RX9_110 ph_ms_yX9_within (c_X9_within Z (d - 1) (by omega) x2 (nI 97) (nI 104) h) (by omega) rfl rfl (Nat.le_of_ble_eq_true rfl) (fun v16 h17 => ?_)
    exact ph_iret (pc := 100) dX9_tellsOf_100 rfl
  refine ph_tout (tgt := 101) (pc := 1) dX9_tellsOf_1 (by
    have := lv_neT (a := 0) c4 (by decide)
    have := lv_neT (a := 1) c7 (by decide)
    have := lv_neT (a := 2) c10 (by decide)
    have := lv_neT (a := 3) c15 (by decide)
    omega) (by decide) ?_
  refine ph_iload_n (i := 1) (pc := 101) dX9_tellsOf_101 rfl rfl ?_
  refine ph_bipush (v := (nI 59)) (pc := 102) dX9_tellsOf_102 ph_bp_59 ?_
  refine ph_icmp_ne (tgt := 111) (pc := 104) dX9_tellsOf_104 (by decide) (fun c18 => ?_) (fun c18 => ?_)
  · refine ph_iconst (v := (-1)) (pc := 111) dX9_tellsOf_111 ph_ic_m1 ?_
    exact ph_iret (pc := 112) dX9_tellsOf_112 rfl
  · refine ph_iconst (v := (nI 0)) (pc := 107) dX9_tellsOf_107 ph_ic_0 ?_
    refine ph_goto (tgt := 112) (pc := 108) dX9_tellsOf_108 (by decide) ?_
    exact ph_iret (pc := 112) dX9_tellsOf_112 rfl
def f_X9_readsHoles (h : ph_Hp) : Option (Int32 × ph_Hp) :=
  ph_pfI h 51 9 (nI 0) fun h2 =>
  ph_ldI h2 57 2 (nI 1) fun v3 =>
  ph_lp (α := Int32 × ph_Hp) (fun j4 (x5, h6) =>
    if v3 ≤ x5 then
      if v3 ≤ nI 0 then
        some ((-1), h6)
      else
        if (ph_irem v3 (nI 5)) = (nI 4) then
          some ((-1), h6)
        else
          ph_pfI h6 51 9 (nI 0) fun h10 =>
          some (v3, h10)
    else
      ph_jn (α := Int32 × ph_Hp) (fun (x12, h13) =>
        if x12 = (-1) then
          ph_pfI h13 51 9 (nI 0) fun h23 =>
          some (x5, h23)
        else
          ph_jn (α := ph_Hp) (fun h16 =>
            ph_jn (α := Int32) (fun x18 =>
              ph_pfI h16 51 9 ((h16.1 51 9) + x18) fun h19 =>
              j4 (x5 + (nI 1), h19)) (fun j17 =>
              if (ph_irem x5 (nI 5)) = (nI 3) then
                j17 (nI 1)
              else
                j17 (nI 0))) (fun j15 =>
            if (nI 4) ≤ (ph_irem x5 (nI 5)) then
              j15 h13
            else
              ph_stI h13 59 36 (((nI 4) * (x5 / (nI 5))) + (ph_irem x5 (nI 5))) x12 fun h22 =>
              j15 h22)) (fun j11 =>
        if (x5 / (nI 5)) = (nI 9) then
          j11 ((-1), h6)
        else
          ph_ldI h6 56 88 ((nI 44) + x5) fun v25 =>
          ph_cl (f_X9_tellsOf (ph_irem x5 (nI 5)) v25 h6) fun v26 h27 =>
          j11 (v26, h27))) ph_fu ((nI 0), h2)
set_option maxRecDepth 100000 in
theorem c_X9_readsHoles (Z : ph_L) (d : Nat) (hdd : 3 ≤ d) (h : ph_Hp) : ph_CM Z yX9_readsHoles cX9_readsHoles 5 (some .int) d [.ref (ph_a Z 51)] ph_vi h (f_X9_readsHoles h) := by
  refine ph_begin (own := RX9) ph_mf_yX9_readsHoles rfl (ls := [some (.ref (ph_a Z 51)), none, none, none, none]) rfl (Nat.le_of_ble_eq_true rfl) ?_
  unfold f_X9_readsHoles
  refine ph_aload_n (i := 0) (pc := 0) dX9_readsHoles_0 rfl rfl ?_
  refine ph_iconst (v := (nI 0)) (pc := 1) dX9_readsHoles_1 ph_ic_0 ?_
  refine ph_putI (pc := 2) dX9_readsHoles_2 ph_pl_RX9_113 rfl (by decide) rfl rfl (fun h2 => ?_)
  refine ph_aload_n (i := 0) (pc := 5) dX9_readsHoles_5 rfl rfl ?_
  refine ph_getR (j := 57) (pc := 6) dX9_readsHoles_6 ph_fl_RX9_25 rfl rfl rfl ?_
  refine ph_iconst (v := (nI 1)) (pc := 9) dX9_readsHoles_9 ph_ic_1 ?_
  refine ph_iald (pc := 10) dX9_readsHoles_10 rfl rfl (fun v3 => ?_)
  refine ph_istore_n (i := 1) (ls1 := [some (.ref (ph_a Z 51)), some (.int v3), none, none, none]) (pc := 11) dX9_readsHoles_11 rfl (by decide) rfl ?_
  refine ph_iconst (v := (nI 0)) (pc := 12) dX9_readsHoles_12 ph_ic_0 ?_
  refine ph_istore_n (i := 2) (ls1 := [some (.ref (ph_a Z 51)), some (.int v3), some (.int (nI 0)), none, none]) (pc := 13) dX9_readsHoles_13 rfl (by decide) rfl ?_
  refine ph_loop (α := Int32 × ph_Hp) 14 (fun x => [some (.ref (ph_a Z 51)), some (.int v3), some (.int x.1), none, none]) (fun x => []) (fun x => x.2) (fun j4 hj4 x => ?_) ph_fu ((nI 0), h2)
  obtain ⟨x5, h6⟩ := x
  dsimp only
  refine ph_iload_n (i := 2) (pc := 14) dX9_readsHoles_14 rfl rfl ?_
  refine ph_iload_n (i := 1) (pc := 15) dX9_readsHoles_15 rfl rfl ?_
  refine ph_icmp_ge (tgt := 107) (pc := 16) dX9_readsHoles_16 (by decide) (fun c7 => ?_) (fun c7 => ?_)
  · refine ph_iload_n (i := 1) (pc := 107) dX9_readsHoles_107 rfl rfl ?_
    refine ph_if_le (tgt := 125) (pc := 108) dX9_readsHoles_108 (by decide) (fun c8 => ?_) (fun c8 => ?_)
    · refine ph_iconst (v := (-1)) (pc := 125) dX9_readsHoles_125 ph_ic_m1 ?_
      exact ph_iret (pc := 126) dX9_readsHoles_126 rfl
    · refine ph_iload_n (i := 1) (pc := 111) dX9_readsHoles_111 rfl rfl ?_
      refine ph_iconst (v := (nI 5)) (pc := 112) dX9_readsHoles_112 ph_ic_5 ?_
      refine ph_iremK (pc := 113) dX9_readsHoles_113 (by decide) ?_
      refine ph_iconst (v := (nI 4)) (pc := 114) dX9_readsHoles_114 ph_ic_4 ?_
      refine ph_icmp_eq (tgt := 125) (pc := 115) dX9_readsHoles_115 (by decide) (fun c9 => ?_) (fun c9 => ?_)
      · refine ph_iconst (v := (-1)) (pc := 125) dX9_readsHoles_125 ph_ic_m1 ?_
        exact ph_iret (pc := 126) dX9_readsHoles_126 rfl
      · refine ph_aload_n (i := 0) (pc := 118) dX9_readsHoles_118 rfl rfl ?_
        refine ph_iconst (v := (nI 0)) (pc := 119) dX9_readsHoles_119 ph_ic_0 ?_
        refine ph_putI (pc := 120) dX9_readsHoles_120 ph_pl_RX9_113 rfl (by decide) rfl rfl (fun h10 => ?_)
        refine ph_iload_n (i := 1) (pc := 123) dX9_readsHoles_123 rfl rfl ?_
        exact ph_iret (pc := 124) dX9_readsHoles_124 rfl
  · refine ph_iload_n (i := 2) (pc := 19) dX9_readsHoles_19 rfl rfl ?_
    refine ph_iconst (v := (nI 5)) (pc := 20) dX9_readsHoles_20 ph_ic_5 ?_
    refine ph_iremK (pc := 21) dX9_readsHoles_21 (by decide) ?_
    refine ph_istore_n (i := 3) (ls1 := [some (.ref (ph_a Z 51)), some (.int v3), some (.int x5), some (.int (ph_irem x5 (nI 5))), none]) (pc := 22) dX9_readsHoles_22 rfl (by decide) rfl ?_
    refine ph_iload_n (i := 2) (pc := 23) dX9_readsHoles_23 rfl rfl ?_
    refine ph_iconst (v := (nI 5)) (pc := 24) dX9_readsHoles_24 ph_ic_5 ?_
    refine ph_idivK (pc := 25) dX9_readsHoles_25 (by decide) ?_
    refine ph_bipush (v := (nI 9)) (pc := 26) dX9_readsHoles_26 ph_bp_9 ?_
    refine ph_join (α := Int32 × ph_Hp) 48 (fun x => [some (.ref (ph_a Z 51)), some (.int v3), some (.int x5), some (.int (ph_irem x5 (nI 5))), none]) (fun x => [.int x.1]) (fun x => x.2) (fun x => ?_) (fun j11 hj11 => ?_)
    · obtain ⟨x12, h13⟩ := x
      dsimp only
      refine ph_istore (i := 4) (ls1 := [some (.ref (ph_a Z 51)), some (.int v3), some (.int x5), some (.int (ph_irem x5 (nI 5))), some (.int x12)]) (pc := 48) dX9_readsHoles_48 (by decide) rfl ?_
      refine ph_iload (i := 4) (pc := 50) dX9_readsHoles_50 rfl ?_
      refine ph_iconst (v := (-1)) (pc := 52) dX9_readsHoles_52 ph_ic_m1 ?_
      refine ph_icmp_ne (tgt := 63) (pc := 53) dX9_readsHoles_53 (by decide) (fun c14 => ?_) (fun c14 => ?_)
      · refine ph_iload_n (i := 3) (pc := 63) dX9_readsHoles_63 rfl rfl ?_
        refine ph_iconst (v := (nI 4)) (pc := 64) dX9_readsHoles_64 ph_ic_4 ?_
        refine ph_join (α := ph_Hp) 82 (fun x => [some (.ref (ph_a Z 51)), some (.int v3), some (.int x5), some (.int (ph_irem x5 (nI 5))), none]) (fun x => []) (fun x => x) (fun x => ?_) (fun j15 hj15 => ?_)
        · revert x; intro h16
          refine ph_aload_n (i := 0) (pc := 82) dX9_readsHoles_82 rfl rfl ?_
          refine ph_dup (pc := 83) dX9_readsHoles_83 rfl ?_
          refine ph_getI (pc := 84) dX9_readsHoles_84 ph_fl_RX9_113 rfl (by decide) ?_
          refine ph_iload_n (i := 3) (pc := 87) dX9_readsHoles_87 rfl rfl ?_
          refine ph_iconst (v := (nI 3)) (pc := 88) dX9_readsHoles_88 ph_ic_3 ?_
          refine ph_join (α := Int32) 97 (fun x => [some (.ref (ph_a Z 51)), some (.int v3), some (.int x5), none, none]) (fun x => [.int x, .int (h16.1 51 9), .ref (ph_a Z 51)]) (fun x => h16) (fun x => ?_) (fun j17 hj17 => ?_)
          · revert x; intro x18
            refine ph_iadd (pc := 97) dX9_readsHoles_97 ?_
            refine ph_putI (pc := 98) dX9_readsHoles_98 ph_pl_RX9_113 rfl (by decide) rfl rfl (fun h19 => ?_)
            refine ph_iinc (i := 2) (v := (nI 1)) (ls1 := [some (.ref (ph_a Z 51)), some (.int v3), some (.int (x5 + (nI 1))), none, none]) (pc := 101) dX9_readsHoles_101 rfl ph_ic_1 (by decide) rfl ?_
            refine ph_goto (tgt := 14) (pc := 104) dX9_readsHoles_104 (by decide) ?_
            exact hj4 (x5 + (nI 1), h19)
          · refine ph_icmp_ne (tgt := 96) (pc := 89) dX9_readsHoles_89 (by decide) (fun c20 => ?_) (fun c20 => ?_)
            · refine ph_iconst (v := (nI 0)) (pc := 96) dX9_readsHoles_96 ph_ic_0 ?_
              refine ph_wk (ls1 := [some (.ref (ph_a Z 51)), some (.int v3), some (.int x5), none, none]) ⟨rfl, ⟨rfl, ⟨rfl, trivial⟩⟩⟩ ?_
              exact hj17 (nI 0)
            · refine ph_iconst (v := (nI 1)) (pc := 92) dX9_readsHoles_92 ph_ic_1 ?_
              refine ph_goto (tgt := 97) (pc := 93) dX9_readsHoles_93 (by decide) ?_
              refine ph_wk (ls1 := [some (.ref (ph_a Z 51)), some (.int v3), some (.int x5), none, none]) ⟨rfl, ⟨rfl, ⟨rfl, trivial⟩⟩⟩ ?_
              exact hj17 (nI 1)
        · refine ph_icmp_ge (tgt := 82) (pc := 65) dX9_readsHoles_65 (by decide) (fun c21 => ?_) (fun c21 => ?_)
          · refine ph_wk (ls1 := [some (.ref (ph_a Z 51)), some (.int v3), some (.int x5), some (.int (ph_irem x5 (nI 5))), none]) ⟨rfl, ⟨rfl, ⟨rfl, ⟨rfl, trivial⟩⟩⟩⟩ ?_
            exact hj15 h13
          · refine ph_aload_n (i := 0) (pc := 68) dX9_readsHoles_68 rfl rfl ?_
            refine ph_getR (j := 59) (pc := 69) dX9_readsHoles_69 ph_fl_RX9_31 rfl rfl rfl ?_
            refine ph_iconst (v := (nI 4)) (pc := 72) dX9_readsHoles_72 ph_ic_4 ?_
            refine ph_iload_n (i := 2) (pc := 73) dX9_readsHoles_73 rfl rfl ?_
            refine ph_iconst (v := (nI 5)) (pc := 74) dX9_readsHoles_74 ph_ic_5 ?_
            refine ph_idivK (pc := 75) dX9_readsHoles_75 (by decide) ?_
            refine ph_imul (pc := 76) dX9_readsHoles_76 ?_
            refine ph_iload_n (i := 3) (pc := 77) dX9_readsHoles_77 rfl rfl ?_
            refine ph_iadd (pc := 78) dX9_readsHoles_78 ?_
            refine ph_iload (i := 4) (pc := 79) dX9_readsHoles_79 rfl ?_
            refine ph_iast (pc := 81) dX9_readsHoles_81 rfl rfl (fun h22 => ?_)
            refine ph_wk (ls1 := [some (.ref (ph_a Z 51)), some (.int v3), some (.int x5), some (.int (ph_irem x5 (nI 5))), none]) ⟨rfl, ⟨rfl, ⟨rfl, ⟨rfl, trivial⟩⟩⟩⟩ ?_
            exact hj15 h22
      · refine ph_aload_n (i := 0) (pc := 56) dX9_readsHoles_56 rfl rfl ?_
        refine ph_iconst (v := (nI 0)) (pc := 57) dX9_readsHoles_57 ph_ic_0 ?_
        refine ph_putI (pc := 58) dX9_readsHoles_58 ph_pl_RX9_113 rfl (by decide) rfl rfl (fun h23 => ?_)
        refine ph_iload_n (i := 2) (pc := 61) dX9_readsHoles_61 rfl rfl ?_
        exact ph_iret (pc := 62) dX9_readsHoles_62 rfl
    · refine ph_icmp_ne (tgt := 35) (pc := 28) dX9_readsHoles_28 (by decide) (fun c24 => ?_) (fun c24 => ?_)
      · refine ph_iload_n (i := 3) (pc := 35) dX9_readsHoles_35 rfl rfl ?_
        refine ph_aload_n (i := 0) (pc := 36) dX9_readsHoles_36 rfl rfl ?_
        refine ph_getR (j := 56) (pc := 37) dX9_readsHoles_37 ph_fl_RX9_22 rfl rfl rfl ?_
        refine ph_bipush (v := (nI 44)) (pc := 40) dX9_readsHoles_40 ph_bp_44 ?_
        refine ph_iload_n (i := 2) (pc := 42) dX9_readsHoles_42 rfl rfl ?_
        refine ph_iadd (pc := 43) dX9_readsHoles_43 ?_
        refine ph_iald (pc := 44) dX9_readsHoles_44 rfl rfl (fun v25 => ?_)
        refine ph_callSi (pc := 45) dX9_readsHoles_45 ph_mf_yX9_tellsOf ph_ml_RX9_116 ph_ms_yX9_tellsOf (c_X9_tellsOf Z (d - 1) (by omega) (ph_irem x5 (nI 5)) v25 h6) (by omega) rfl rfl (Nat.le_of_ble_eq_true rfl) (fun v26 h27 => ?_)
        exact hj11 (v26, h27)
      · refine ph_iconst (v := (-1)) (pc := 31) dX9_readsHoles_31 ph_ic_m1 ?_
        refine ph_goto (tgt := 48) (pc := 32) dX9_readsHoles_32 (by decide) ?_
        exact hj11 ((-1), h6)
