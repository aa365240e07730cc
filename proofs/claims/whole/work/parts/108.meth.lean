def f_X9_whispersNow (x1 : Int32) (x2 : Int32) (h : ph_Hp) : Option (Int32 × ph_Hp) :=
  ph_cl (f_X9_isDark x1 h) fun v4 h5 =>
  if v4 = nI 0 then
    if (h5.1 51 7) = nI 0 then
      some ((-1), h5)
    else
      ph_ldI h5 59 36 (((nI 4) * x2) + (nI 1)) fun v8 =>
      ph_jn (α := Int32) (fun x10 =>
        ph_ldI h5 64 40 (x1 - (nI 1)) fun v11 =>
        ph_ldI h5 59 36 ((nI 4) * x2) fun v12 =>
        ph_cl (f_X9_amount (v11 - v12) h5) fun v13 h14 =>
        if v13 ≤ (v8 + x10) then
          ph_ldI h14 65 40 (x1 - (nI 1)) fun v16 =>
          ph_cl (f_X9_habitOf x2 v16 h14) fun v17 h18 =>
          ph_ldI h18 63 40 x1 fun v19 =>
          ph_cl (f_X9_isIn v19 x2 h18) fun v20 h21 =>
          if v20 = nI 0 then
            some (v17, h21)
          else
            some (ph_irem (v17 + (nI 1)) (nI 8), h21)
        else
          some ((-1), h14)) (fun j9 =>
        if x2 = (h5.1 51 21) then
          j9 (nI 1)
        else
          j9 (nI 0))
  else
    some ((-1), h5)
set_option maxRecDepth 100000 in
theorem c_X9_whispersNow (Z : ph_L) (d : Nat) (hdd : 2 ≤ d) (x1 : Int32) (x2 : Int32) (h : ph_Hp) : ph_CM Z yX9_whispersNow cX9_whispersNow 5 (some .int) d [.ref (ph_a Z 51), .int x1, .int x2] ph_vi h (f_X9_whispersNow x1 x2 h) := by
  refine ph_begin (own := RX9) ph_mf_yX9_whispersNow rfl (ls := [some (.ref (ph_a Z 51)), some (.int x1), some (.int x2), none, none]) rfl (Nat.le_of_ble_eq_true rfl) ?_
  unfold f_X9_whispersNow
  refine ph_aload_n (i := 0) (pc := 0) dX9_whispersNow_0 rfl rfl ?_
  refine ph_iload_n (i := 1) (pc := 1) dX9_whispersNow_1 rfl rfl ?_
  refine ph_callVi (pc := 2) dX9_whispersNow_2 ph_mf_yX9_isDark ph_ml_RX9_165 ph_mi_yX9_isDark ph_mv_yX9_isDark rfl rfl (c_X9_isDark Z (d - 1) (by omega) x1 h) (by omega) rfl rfl (Nat.le_of_ble_eq_true rfl) (fun v4 h5 => ?_)
  refine ph_if_ne (tgt := 15) (pc := 5) dX9_whispersNow_5 (by decide) (fun c6 => ?_) (fun c6 => ?_)
  · refine ph_iconst (v := (-1)) (pc := 15) dX9_whispersNow_15 ph_ic_m1 ?_
    exact ph_iret (pc := 16) dX9_whispersNow_16 rfl
  · refine ph_aload_n (i := 0) (pc := 8) dX9_whispersNow_8 rfl rfl ?_
    refine ph_getI (pc := 9) dX9_whispersNow_9 ph_fl_RX9_103 rfl (by decide) ?_
    refine ph_if_ne (tgt := 17) (pc := 12) dX9_whispersNow_12 (by decide) (fun c7 => ?_) (fun c7 => ?_)
    · refine ph_aload_n (i := 0) (pc := 17) dX9_whispersNow_17 rfl rfl ?_
      refine ph_getR (j := 59) (pc := 18) dX9_whispersNow_18 ph_fl_RX9_31 rfl rfl rfl ?_
      refine ph_iconst (v := (nI 4)) (pc := 21) dX9_whispersNow_21 ph_ic_4 ?_
      refine ph_iload_n (i := 2) (pc := 22) dX9_whispersNow_22 rfl rfl ?_
      refine ph_imul (pc := 23) dX9_whispersNow_23 ?_
      refine ph_iconst (v := (nI 1)) (pc := 24) dX9_whispersNow_24 ph_ic_1 ?_
      refine ph_iadd (pc := 25) dX9_whispersNow_25 ?_
      refine ph_iald (pc := 26) dX9_whispersNow_26 rfl rfl (fun v8 => ?_)
      refine ph_iload_n (i := 2) (pc := 27) dX9_whispersNow_27 rfl rfl ?_
      refine ph_aload_n (i := 0) (pc := 28) dX9_whispersNow_28 rfl rfl ?_
      refine ph_getI (pc := 29) dX9_whispersNow_29 ph_fl_RX9_61 rfl (by decide) ?_
      refine ph_join (α := Int32) 40 (fun x => [some (.ref (ph_a Z 51)), some (.int x1), some (.int x2), none, none]) (fun x => [.int x, .int v8]) (fun x => h5) (fun x => ?_) (fun j9 hj9 => ?_)
      · revert x; intro x10
        refine ph_iadd (pc := 40) dX9_whispersNow_40 ?_
        refine ph_istore_n (i := 3) (ls1 := [some (.ref (ph_a Z 51)), some (.int x1), some (.int x2), some (.int (v8 + x10)), none]) (pc := 41) dX9_whispersNow_41 rfl (by decide) rfl ?_
        refine ph_aload_n (i := 0) (pc := 42) dX9_whispersNow_42 rfl rfl ?_
        refine ph_getR (j := 64) (pc := 43) dX9_whispersNow_43 ph_fl_RX9_46 rfl rfl rfl ?_
        refine ph_iload_n (i := 1) (pc := 46) dX9_whispersNow_46 rfl rfl ?_
        refine ph_iconst (v := (nI 1)) (pc := 47) dX9_whispersNow_47 ph_ic_1 ?_
        refine ph_isub (pc := 48) dX9_whispersNow_48 ?_
        refine ph_iald (pc := 49) dX9_whispersNow_49 rfl rfl (fun v11 => ?_)
        refine ph_aload_n (i := 0) (pc := 50) dX9_whispersNow_50 rfl rfl ?_
        refine ph_getR (j := 59) (pc := 51) dX9_whispersNow_51 ph_fl_RX9_31 rfl rfl rfl ?_
        refine ph_iconst (v := (nI 4)) (pc := 54) dX9_whispersNow_54 ph_ic_4 ?_
        refine ph_iload_n (i := 2) (pc := 55) dX9_whispersNow_55 rfl rfl ?_
        refine ph_imul (pc := 56) dX9_whispersNow_56 ?_
        refine ph_iald (pc := 57) dX9_whispersNow_57 rfl rfl (fun v12 => ?_)
        refine ph_isub (pc := 58) dX9_whispersNow_58 ?_
        refine ph_callSi (pc := 59) dX9_whispersNow_59 ph_mf_yX9_amount ph_ml_RX9_168 ph_ms_yX9_amount (c_X9_amount Z (d - 1) (by omega) (v11 - v12) h5) (by omega) rfl rfl (Nat.le_of_ble_eq_true rfl) (fun v13 h14 => ?_)
        refine ph_iload_n (i := 3) (pc := 62) dX9_whispersNow_62 rfl rfl ?_
        refine ph_icmp_le (tgt := 68) (pc := 63) dX9_whispersNow_63 (by decide) (fun c15 => ?_) (fun c15 => ?_)
        · refine ph_aload_n (i := 0) (pc := 68) dX9_whispersNow_68 rfl rfl ?_
          refine ph_iload_n (i := 2) (pc := 69) dX9_whispersNow_69 rfl rfl ?_
          refine ph_aload_n (i := 0) (pc := 70) dX9_whispersNow_70 rfl rfl ?_
          refine ph_getR (j := 65) (pc := 71) dX9_whispersNow_71 ph_fl_RX9_49 rfl rfl rfl ?_
          refine ph_iload_n (i := 1) (pc := 74) dX9_whispersNow_74 rfl rfl ?_
          refine ph_iconst (v := (nI 1)) (pc := 75) dX9_whispersNow_75 ph_ic_1 ?_
          refine ph_isub (pc := 76) dX9_whispersNow_76 ?_
          refine ph_iald (pc := 77) dX9_whispersNow_77 rfl rfl (fun v16 => ?_)
          refine ph_callVi (pc := 78) dX9_whispersNow_78 ph_mf_yX9_habitOf ph_ml_RX9_171 ph_mi_yX9_habitOf ph_mv_yX9_habitOf rfl rfl (c_X9_habitOf Z (d - 1) (by omega) x2 v16 h14) (by omega) rfl rfl (Nat.le_of_ble_eq_true rfl) (fun v17 h18 => ?_)
          refine ph_istore (i := 4) (ls1 := [some (.ref (ph_a Z 51)), some (.int x1), some (.int x2), some (.int (v8 + x10)), some (.int v17)]) (pc := 81) dX9_whispersNow_81 (by decide) rfl ?_
          refine ph_aload_n (i := 0) (pc := 83) dX9_whispersNow_83 rfl rfl ?_
          refine ph_getR (j := 63) (pc := 84) dX9_whispersNow_84 ph_fl_RX9_43 rfl rfl rfl ?_
          refine ph_iload_n (i := 1) (pc := 87) dX9_whispersNow_87 rfl rfl ?_
          refine ph_iald (pc := 88) dX9_whispersNow_88 rfl rfl (fun v19 => ?_)
          refine ph_iload_n (i := 2) (pc := 89) dX9_whispersNow_89 rfl rfl ?_
          refine ph_callSi (pc := 90) dX9_whispersNow_90 ph_mf_yX9_isIn ph_ml_RX9_174 ph_ms_yX9_isIn (c_X9_isIn Z (d - 1) (by omega) v19 x2 h18) (by omega) rfl rfl (Nat.le_of_ble_eq_true rfl) (fun v20 h21 => ?_)
          refine ph_if_eq (tgt := 106) (pc := 93) dX9_whispersNow_93 (by decide) (fun c22 => ?_) (fun c22 => ?_)
          · refine ph_iload (i := 4) (pc := 106) dX9_whispersNow_106 rfl ?_
            exact ph_iret (pc := 108) dX9_whispersNow_108 rfl
          · refine ph_iload (i := 4) (pc := 96) dX9_whispersNow_96 rfl ?_
            refine ph_iconst (v := (nI 1)) (pc := 98) dX9_whispersNow_98 ph_ic_1 ?_
            refine ph_iadd (pc := 99) dX9_whispersNow_99 ?_
            refine ph_bipush (v := (nI 8)) (pc := 100) dX9_whispersNow_100 ph_bp_8 ?_
            refine ph_iremK (pc := 102) dX9_whispersNow_102 (by decide) ?_
            refine ph_goto (tgt := 108) (pc := 103) dX9_whispersNow_103 (by decide) ?_
            exact ph_iret (pc := 108) dX9_whispersNow_108 rfl
        · refine ph_iconst (v := (-1)) (pc := 66) dX9_whispersNow_66 ph_ic_m1 ?_
          exact ph_iret (pc := 67) dX9_whispersNow_67 rfl
      · refine ph_icmp_ne (tgt := 39) (pc := 32) dX9_whispersNow_32 (by decide) (fun c23 => ?_) (fun c23 => ?_)
        · refine ph_iconst (v := (nI 0)) (pc := 39) dX9_whispersNow_39 ph_ic_0 ?_
          exact hj9 (nI 0)
        · refine ph_iconst (v := (nI 1)) (pc := 35) dX9_whispersNow_35 ph_ic_1 ?_
          refine ph_goto (tgt := 40) (pc := 36) dX9_whispersNow_36 (by decide) ?_
          exact hj9 (nI 1)
    · refine ph_iconst (v := (-1)) (pc := 15) dX9_whispersNow_15 ph_ic_m1 ?_
      exact ph_iret (pc := 16) dX9_whispersNow_16 rfl
def f_X9_plays (x1 : Int32) (h : ph_Hp) : Option (Unit × ph_Hp) :=
  ph_stI h 66 40 x1 (-1) fun h3 =>
  if (h3.1 51 7) = nI 0 then
    ph_stI h3 65 40 x1 (-1) fun h34 =>
    some ((), h34)
  else
    if x1 = (h3.1 51 22) then
      ph_stI h3 65 40 x1 (h3.1 51 23) fun h33 =>
      some ((), h33)
    else
      ph_cl (f_X9_isDark x1 h3) fun v6 h7 =>
      if v6 = nI 0 then
        ph_ldI h7 65 40 (x1 - (nI 1)) fun v9 =>
        ph_cl (f_X9_printedBy v9 (nI 1) h7) fun v10 h11 =>
        ph_stI h11 65 40 x1 v10 fun h12 =>
        ph_lp (α := Int32 × Int32 × ph_Hp) (fun j13 (x14, x15, h16) =>
          if (h16.1 51 9) ≤ x15 then
            some ((), h16)
          else
            ph_cl (f_X9_whispersNow x1 x15 h16) fun v18 h19 =>
            ph_ldI h19 64 40 x1 fun v20 =>
            ph_ldI h19 59 36 ((nI 4) * x15) fun v21 =>
            ph_cl (f_X9_amount (v20 - v21) h19) fun v22 h23 =>
            ph_jn (α := Int32 × ph_Hp) (fun (x25, h26) =>
              j13 (x25, x15 + (nI 1), h26)) (fun j24 =>
              if v18 = (-1) then
                j24 (x14, h23)
              else
                if x14 ≤ v22 then
                  j24 (x14, h23)
                else
                  ph_stI h23 65 40 x1 v18 fun h29 =>
                  ph_stI h29 66 40 x1 x15 fun h30 =>
                  j24 (v22, h30))) ph_fu ((nI 99), (nI 0), h12)
      else
        ph_ldI h7 58 24 (nI 0) fun v31 =>
        ph_stI h7 65 40 x1 v31 fun h32 =>
        some ((), h32)
set_option maxRecDepth 100000 in
theorem c_X9_plays (Z : ph_L) (d : Nat) (hdd : 3 ≤ d) (x1 : Int32) (h : ph_Hp) : ph_CM Z yX9_plays cX9_plays 6 none d [.ref (ph_a Z 51), .int x1] ph_vv h (f_X9_plays x1 h) := by
  refine ph_begin (own := RX9) ph_mf_yX9_plays rfl (ls := [some (.ref (ph_a Z 51)), some (.int x1), none, none, none, none]) rfl (Nat.le_of_ble_eq_true rfl) ?_
  unfold f_X9_plays
  refine ph_aload_n (i := 0) (pc := 0) dX9_plays_0 rfl rfl ?_
  refine ph_getR (j := 66) (pc := 1) dX9_plays_1 ph_fl_RX9_52 rfl rfl rfl ?_
  refine ph_iload_n (i := 1) (pc := 4) dX9_plays_4 rfl rfl ?_
  refine ph_iconst (v := (-1)) (pc := 5) dX9_plays_5 ph_ic_m1 ?_
  refine ph_iast (pc := 6) dX9_plays_6 rfl rfl (fun h3 => ?_)
  refine ph_aload_n (i := 0) (pc := 7) dX9_plays_7 rfl rfl ?_
  refine ph_getI (pc := 8) dX9_plays_8 ph_fl_RX9_103 rfl (by decide) ?_
  refine ph_if_ne (tgt := 24) (pc := 11) dX9_plays_11 (by decide) (fun c4 => ?_) (fun c4 => ?_)
  · refine ph_iload_n (i := 1) (pc := 24) dX9_plays_24 rfl rfl ?_
    refine ph_aload_n (i := 0) (pc := 25) dX9_plays_25 rfl rfl ?_
    refine ph_getI (pc := 26) dX9_plays_26 ph_fl_RX9_65 rfl (by decide) ?_
    refine ph_icmp_ne (tgt := 45) (pc := 29) dX9_plays_29 (by decide) (fun c5 => ?_) (fun c5 => ?_)
    · refine ph_aload_n (i := 0) (pc := 45) dX9_plays_45 rfl rfl ?_
      refine ph_iload_n (i := 1) (pc := 46) dX9_plays_46 rfl rfl ?_
      refine ph_callVi (pc := 47) dX9_plays_47 ph_mf_yX9_isDark ph_ml_RX9_165 ph_mi_yX9_isDark ph_mv_yX9_isDark rfl rfl (c_X9_isDark Z (d - 1) (by omega) x1 h3) (by omega) rfl rfl (Nat.le_of_ble_eq_true rfl) (fun v6 h7 => ?_)
      refine ph_if_eq (tgt := 68) (pc := 50) dX9_plays_50 (by decide) (fun c8 => ?_) (fun c8 => ?_)
      · refine ph_aload_n (i := 0) (pc := 68) dX9_plays_68 rfl rfl ?_
        refine ph_getR (j := 65) (pc := 69) dX9_plays_69 ph_fl_RX9_49 rfl rfl rfl ?_
        refine ph_iload_n (i := 1) (pc := 72) dX9_plays_72 rfl rfl ?_
        refine ph_aload_n (i := 0) (pc := 73) dX9_plays_73 rfl rfl ?_
        refine ph_aload_n (i := 0) (pc := 74) dX9_plays_74 rfl rfl ?_
        refine ph_getR (j := 65) (pc := 75) dX9_plays_75 ph_fl_RX9_49 rfl rfl rfl ?_
        refine ph_iload_n (i := 1) (pc := 78) dX9_plays_78 rfl rfl ?_
        refine ph_iconst (v := (nI 1)) (pc := 79) dX9_plays_79 ph_ic_1 ?_
        refine ph_isub (pc := 80) dX9_plays_80 ?_
        refine ph_iald (pc := 81) dX9_plays_81 rfl rfl (fun v9 => ?_)
        refine ph_iconst (v := (nI 1)) (pc := 82) dX9_plays_82 ph_ic_1 ?_
        refine ph_callVi (pc := 83) dX9_plays_83 ph_mf_yX9_printedBy ph_ml_RX9_141 ph_mi_yX9_printedBy ph_mv_yX9_printedBy rfl rfl (c_X9_printedBy Z (d - 1) (by omega) v9 (nI 1) h7) (by omega) rfl rfl (Nat.le_of_ble_eq_true rfl) (fun v10 h11 => ?_)
        refine ph_iast (pc := 86) dX9_plays_86 rfl rfl (fun h12 => ?_)
        refine ph_bipush (v := (nI 99)) (pc := 87) dX9_plays_87 ph_bp_99 ?_
        refine ph_istore_n (i := 2) (ls1 := [some (.ref (ph_a Z 51)), some (.int x1), some (.int (nI 99)), none, none, none]) (pc := 89) dX9_plays_89 rfl (by decide) rfl ?_
        refine ph_iconst (v := (nI 0)) (pc := 90) dX9_plays_90 ph_ic_0 ?_
        refine ph_istore_n (i := 3) (ls1 := [some (.ref (ph_a Z 51)), some (.int x1), some (.int (nI 99)), some (.int (nI 0)), none, none]) (pc := 91) dX9_plays_91 rfl (by decide) rfl ?_
        refine ph_loop (α := Int32 × Int32 × ph_Hp) 92 (fun x => [some (.ref (ph_a Z 51)), some (.int x1), some (.int x.1), some (.int x.2.1), none, none]) (fun x => []) (fun x => x.2.2) (fun j13 hj13 x => ?_) ph_fu ((nI 99), (nI 0), h12)
        obtain ⟨x14, x15, h16⟩ := x
        dsimp only
        refine ph_iload_n (i := 3) (pc := 92) dX9_plays_92 rfl rfl ?_
        refine ph_aload_n (i := 0) (pc := 93) dX9_plays_93 rfl rfl ?_
        refine ph_getI (pc := 94) dX9_plays_94 ph_fl_RX9_113 rfl (by decide) ?_
        refine ph_icmp_ge (tgt := 164) (pc := 97) dX9_plays_97 (by decide) (fun c17 => ?_) (fun c17 => ?_)
        · exact ph_vret (pc := 164) dX9_plays_164 rfl
        · refine ph_aload_n (i := 0) (pc := 100) dX9_plays_100 rfl rfl ?_
          refine ph_iload_n (i := 1) (pc := 101) dX9_plays_101 rfl rfl ?_
          refine ph_iload_n (i := 3) (pc := 102) dX9_plays_102 rfl rfl ?_
          refine ph_callVi (pc := 103) dX9_plays_103 ph_mf_yX9_whispersNow ph_ml_RX9_181 ph_mi_yX9_whispersNow ph_mv_yX9_whispersNow rfl rfl (c_X9_whispersNow Z (d - 1) (by omega) x1 x15 h16) (by omega) rfl rfl (Nat.le_of_ble_eq_true rfl) (fun v18 h19 => ?_)
          refine ph_istore (i := 4) (ls1 := [some (.ref (ph_a Z 51)), some (.int x1), some (.int x14), some (.int x15), some (.int v18), none]) (pc := 106) dX9_plays_106 (by decide) rfl ?_
          refine ph_aload_n (i := 0) (pc := 108) dX9_plays_108 rfl rfl ?_
          refine ph_getR (j := 64) (pc := 109) dX9_plays_109 ph_fl_RX9_46 rfl rfl rfl ?_
          refine ph_iload_n (i := 1) (pc := 112) dX9_plays_112 rfl rfl ?_
          refine ph_iald (pc := 113) dX9_plays_113 rfl rfl (fun v20 => ?_)
          refine ph_aload_n (i := 0) (pc := 114) dX9_plays_114 rfl rfl ?_
          refine ph_getR (j := 59) (pc := 115) dX9_plays_115 ph_fl_RX9_31 rfl rfl rfl ?_
          refine ph_iconst (v := (nI 4)) (pc := 118) dX9_plays_118 ph_ic_4 ?_
          refine ph_iload_n (i := 3) (pc := 119) dX9_plays_119 rfl rfl ?_
          refine ph_imul (pc := 120) dX9_plays_120 ?_
          refine ph_iald (pc := 121) dX9_plays_121 rfl rfl (fun v21 => ?_)
          refine ph_isub (pc := 122) dX9_plays_122 ?_
          refine ph_callSi (pc := 123) dX9_plays_123 ph_mf_yX9_amount ph_ml_RX9_168 ph_ms_yX9_amount (c_X9_amount Z (d - 1) (by omega) (v20 - v21) h19) (by omega) rfl rfl (Nat.le_of_ble_eq_true rfl) (fun v22 h23 => ?_)
          refine ph_istore (i := 5) (ls1 := [some (.ref (ph_a Z 51)), some (.int x1), some (.int x14), some (.int x15), some (.int v18), some (.int v22)]) (pc := 126) dX9_plays_126 (by decide) rfl ?_
          refine ph_iload (i := 4) (pc := 128) dX9_plays_128 rfl ?_
          refine ph_iconst (v := (-1)) (pc := 130) dX9_plays_130 ph_ic_m1 ?_
          refine ph_join (α := Int32 × ph_Hp) 158 (fun x => [some (.ref (ph_a Z 51)), some (.int x1), some (.int x.1), some (.int x15), none, none]) (fun x => []) (fun x => x.2) (fun x => ?_) (fun j24 hj24 => ?_)
          · obtain ⟨x25, h26⟩ := x
            dsimp only
            refine ph_iinc (i := 3) (v := (nI 1)) (ls1 := [some (.ref (ph_a Z 51)), some (.int x1), some (.int x25), some (.int (x15 + (nI 1))), none, none]) (pc := 158) dX9_plays_158 rfl ph_ic_1 (by decide) rfl ?_
            refine ph_goto (tgt := 92) (pc := 161) dX9_plays_161 (by decide) ?_
            exact hj13 (x25, x15 + (nI 1), h26)
          · refine ph_icmp_eq (tgt := 158) (pc := 131) dX9_plays_131 (by decide) (fun c27 => ?_) (fun c27 => ?_)
            · refine ph_wk (ls1 := [some (.ref (ph_a Z 51)), some (.int x1), some (.int x14), some (.int x15), none, none]) ⟨rfl, ⟨rfl, ⟨rfl, ⟨rfl, trivial⟩⟩⟩⟩ ?_
              exact hj24 (x14, h23)
            · refine ph_iload (i := 5) (pc := 134) dX9_plays_134 rfl ?_
              refine ph_iload_n (i := 2) (pc := 136) dX9_plays_136 rfl rfl ?_
              refine ph_icmp_ge (tgt := 158) (pc := 137) dX9_plays_137 (by decide) (fun c28 => ?_) (fun c28 => ?_)
              · refine ph_wk (ls1 := [some (.ref (ph_a Z 51)), some (.int x1), some (.int x14), some (.int x15), none, none]) ⟨rfl, ⟨rfl, ⟨rfl, ⟨rfl, trivial⟩⟩⟩⟩ ?_
                exact hj24 (x14, h23)
              · refine ph_iload (i := 5) (pc := 140) dX9_plays_140 rfl ?_
                refine ph_istore_n (i := 2) (ls1 := [some (.ref (ph_a Z 51)), some (.int x1), some (.int v22), some (.int x15), some (.int v18), some (.int v22)]) (pc := 142) dX9_plays_142 rfl (by decide) rfl ?_
                refine ph_aload_n (i := 0) (pc := 143) dX9_plays_143 rfl rfl ?_
                refine ph_getR (j := 65) (pc := 144) dX9_plays_144 ph_fl_RX9_49 rfl rfl rfl ?_
                refine ph_iload_n (i := 1) (pc := 147) dX9_plays_147 rfl rfl ?_
                refine ph_iload (i := 4) (pc := 148) dX9_plays_148 rfl ?_
                refine ph_iast (pc := 150) dX9_plays_150 rfl rfl (fun h29 => ?_)
                refine ph_aload_n (i := 0) (pc := 151) dX9_plays_151 rfl rfl ?_
                refine ph_getR (j := 66) (pc := 152) dX9_plays_152 ph_fl_RX9_52 rfl rfl rfl ?_
                refine ph_iload_n (i := 1) (pc := 155) dX9_plays_155 rfl rfl ?_
                refine ph_iload_n (i := 3) (pc := 156) dX9_plays_156 rfl rfl ?_
                refine ph_iast (pc := 157) dX9_plays_157 rfl rfl (fun h30 => ?_)
                refine ph_wk (ls1 := [some (.ref (ph_a Z 51)), some (.int x1), some (.int v22), some (.int x15), none, none]) ⟨rfl, ⟨rfl, ⟨rfl, ⟨rfl, trivial⟩⟩⟩⟩ ?_
                exact hj24 (v22, h30)
      · refine ph_aload_n (i := 0) (pc := 53) dX9_plays_53 rfl rfl ?_
        refine ph_getR (j := 65) (pc := 54) dX9_plays_54 ph_fl_RX9_49 rfl rfl rfl ?_
        refine ph_iload_n (i := 1) (pc := 57) dX9_plays_57 rfl rfl ?_
        refine ph_aload_n (i := 0) (pc := 58) dX9_plays_58 rfl rfl ?_
        refine ph_getR (j := 58) (pc := 59) dX9_plays_59 ph_fl_RX9_28 rfl rfl rfl ?_
        refine ph_iconst (v := (nI 0)) (pc := 62) dX9_plays_62 ph_ic_0 ?_
        refine ph_iald (pc := 63) dX9_plays_63 rfl rfl (fun v31 => ?_)
        refine ph_iast (pc := 64) dX9_plays_64 rfl rfl (fun h32 => ?_)
        refine ph_goto (tgt := 164) (pc := 65) dX9_plays_65 (by decide) ?_
        exact ph_vret (pc := 164) dX9_plays_164 rfl
    · refine ph_aload_n (i := 0) (pc := 32) dX9_plays_32 rfl rfl ?_
      refine ph_getR (j := 65) (pc := 33) dX9_plays_33 ph_fl_RX9_49 rfl rfl rfl ?_
      refine ph_iload_n (i := 1) (pc := 36) dX9_plays_36 rfl rfl ?_
      refine ph_aload_n (i := 0) (pc := 37) dX9_plays_37 rfl rfl ?_
      refine ph_getI (pc := 38) dX9_plays_38 ph_fl_RX9_178 rfl (by decide) ?_
      refine ph_iast (pc := 41) dX9_plays_41 rfl rfl (fun h33 => ?_)
      refine ph_goto (tgt := 164) (pc := 42) dX9_plays_42 (by decide) ?_
      exact ph_vret (pc := 164) dX9_plays_164 rfl
  · refine ph_aload_n (i := 0) (pc := 14) dX9_plays_14 rfl rfl ?_
    refine ph_getR (j := 65) (pc := 15) dX9_plays_15 ph_fl_RX9_49 rfl rfl rfl ?_
    refine ph_iload_n (i := 1) (pc := 18) dX9_plays_18 rfl rfl ?_
    refine ph_iconst (v := (-1)) (pc := 19) dX9_plays_19 ph_ic_m1 ?_
    refine ph_iast (pc := 20) dX9_plays_20 rfl rfl (fun h34 => ?_)
    refine ph_goto (tgt := 164) (pc := 21) dX9_plays_21 (by decide) ?_
    exact ph_vret (pc := 164) dX9_plays_164 rfl
def f_X9_lives (x1 : Int32) (x2 : Int32) (h : ph_Hp) : Option (Unit × ph_Hp) :=
  ph_lp (α := Int32 × ph_Hp) (fun j4 (x5, h6) =>
    if x2 < x5 then
      some ((), h6)
    else
      ph_cl (f_X9_plays x5 h6) fun _ h9 =>
      j4 (x5 + (nI 1), h9)) ph_fu (x1, h)
set_option maxRecDepth 100000 in
theorem c_X9_lives (Z : ph_L) (d : Nat) (hdd : 4 ≤ d) (x1 : Int32) (x2 : Int32) (h : ph_Hp) : ph_CM Z yX9_lives cX9_lives 4 none d [.ref (ph_a Z 51), .int x1, .int x2] ph_vv h (f_X9_lives x1 x2 h) := by
  refine ph_begin (own := RX9) ph_mf_yX9_lives rfl (ls := [some (.ref (ph_a Z 51)), some (.int x1), some (.int x2), none]) rfl (Nat.le_of_ble_eq_true rfl) ?_
  unfold f_X9_lives
  refine ph_iload_n (i := 1) (pc := 0) dX9_lives_0 rfl rfl ?_
  refine ph_istore_n (i := 3) (ls1 := [some (.ref (ph_a Z 51)), some (.int x1), some (.int x2), some (.int x1)]) (pc := 1) dX9_lives_1 rfl (by decide) rfl ?_
  refine ph_wk (ls1 := [some (.ref (ph_a Z 51)), none, some (.int x2), some (.int x1)]) ⟨rfl, ⟨rfl, ⟨rfl, trivial⟩⟩⟩ ?_
  refine ph_loop (α := Int32 × ph_Hp) 2 (fun x => [some (.ref (ph_a Z 51)), none, some (.int x2), some (.int x.1)]) (fun x => []) (fun x => x.2) (fun j4 hj4 x => ?_) ph_fu (x1, h)
  obtain ⟨x5, h6⟩ := x
  dsimp only
  refine ph_iload_n (i := 3) (pc := 2) dX9_lives_2 rfl rfl ?_
  refine ph_iload_n (i := 2) (pc := 3) dX9_lives_3 rfl rfl ?_
  refine ph_icmp_gt (tgt := 18) (pc := 4) dX9_lives_4 (by decide) (fun c7 => ?_) (fun c7 => ?_)
  · exact ph_vret (pc := 18) dX9_lives_18 rfl
  · refine ph_aload_n (i := 0) (pc := 7) dX9_lives_7 rfl rfl ?_
    refine ph_iload_n (i := 3) (pc := 8) dX9_lives_8 rfl rfl ?_
    refine ph_callVv (pc := 9) dX9_lives_9 ph_mf_yX9_plays ph_ml_RX9_184 ph_mi_yX9_plays ph_mv_yX9_plays rfl rfl (c_X9_plays Z (d - 1) (by omega) x5 h6) (by omega) rfl rfl (Nat.le_of_ble_eq_true rfl) (fun v8 h9 => ?_)
    refine ph_iinc (i := 3) (v := (nI 1)) (ls1 := [some (.ref (ph_a Z 51)), none, some (.int x2), some (.int (x5 + (nI 1)))]) (pc := 12) dX9_lives_12 rfl ph_ic_1 (by decide) rfl ?_
    refine ph_goto (tgt := 2) (pc := 15) dX9_lives_15 (by decide) ?_
    exact hj4 (x5 + (nI 1), h9)
def f_X9_find (h : ph_Hp) : Option (Unit × ph_Hp) :=
  ph_cl (f_X9_plain h) fun _ h3 =>
  ph_cl (f_X9_lives (nI 0) (nI 39) h3) fun _ h5 =>
  some ((), h5)
set_option maxRecDepth 100000 in
theorem c_X9_find (Z : ph_L) (d : Nat) (hdd : 6 ≤ d) (h : ph_Hp) : ph_CM Z yX9_find cX9_find 1 none d [.ref (ph_a Z 51)] ph_vv h (f_X9_find h) := by
  refine ph_begin (own := RX9) ph_mf_yX9_find rfl (ls := [some (.ref (ph_a Z 51))]) rfl (Nat.le_of_ble_eq_true rfl) ?_
  unfold f_X9_find
  refine ph_aload_n (i := 0) (pc := 0) dX9_find_0 rfl rfl ?_
  refine ph_callVv (pc := 1) dX9_find_1 ph_mf_yX9_plain ph_ml_RX9_188 ph_mi_yX9_plain ph_mv_yX9_plain rfl rfl (c_X9_plain Z (d - 1) (by omega) h) (by omega) rfl rfl (Nat.le_of_ble_eq_true rfl) (fun v2 h3 => ?_)
  refine ph_aload_n (i := 0) (pc := 4) dX9_find_4 rfl rfl ?_
  refine ph_iconst (v := (nI 0)) (pc := 5) dX9_find_5 ph_ic_0 ?_
  refine ph_bipush (v := (nI 39)) (pc := 6) dX9_find_6 ph_bp_39 ?_
  refine ph_callVv (pc := 8) dX9_find_8 ph_mf_yX9_lives ph_ml_RX9_191 ph_mi_yX9_lives ph_mv_yX9_lives rfl rfl (c_X9_lives Z (d - 1) (by omega) (nI 0) (nI 39) h3) (by omega) rfl rfl (Nat.le_of_ble_eq_true rfl) (fun v4 h5 => ?_)
  exact ph_vret (pc := 11) dX9_find_11 rfl
def f_X9_printedIn (x1 : Int32) (h : ph_Hp) : Option (Int32 × ph_Hp) :=
  if (h.1 51 7) = nI 0 then
    some ((-1), h)
  else
    ph_rmI x1 (h.1 51 7) fun v4 =>
    ph_ldI h 58 24 v4 fun v5 =>
    some (v5, h)
set_option maxRecDepth 100000 in
theorem c_X9_printedIn (Z : ph_L) (d : Nat) (hdd : 0 ≤ d) (x1 : Int32) (h : ph_Hp) : ph_CM Z yX9_printedIn cX9_printedIn 2 (some .int) d [.ref (ph_a Z 51), .int x1] ph_vi h (f_X9_printedIn x1 h) := by
  refine ph_begin (own := RX9) ph_mf_yX9_printedIn rfl (ls := [some (.ref (ph_a Z 51)), some (.int x1)]) rfl (Nat.le_of_ble_eq_true rfl) ?_
  unfold f_X9_printedIn
  refine ph_aload_n (i := 0) (pc := 0) dX9_printedIn_0 rfl rfl ?_
  refine ph_getI (pc := 1) dX9_printedIn_1 ph_fl_RX9_103 rfl (by decide) ?_
  refine ph_if_ne (tgt := 11) (pc := 4) dX9_printedIn_4 (by decide) (fun c3 => ?_) (fun c3 => ?_)
  · refine ph_aload_n (i := 0) (pc := 11) dX9_printedIn_11 rfl rfl ?_
    refine ph_getR (j := 58) (pc := 12) dX9_printedIn_12 ph_fl_RX9_28 rfl rfl rfl ?_
    refine ph_iload_n (i := 1) (pc := 15) dX9_printedIn_15 rfl rfl ?_
    refine ph_aload_n (i := 0) (pc := 16) dX9_printedIn_16 rfl rfl ?_
    refine ph_getI (pc := 17) dX9_printedIn_17 ph_fl_RX9_103 rfl (by decide) ?_
    refine ph_iremX (pc := 20) dX9_printedIn_20 (fun v4 => ?_)
    refine ph_iald (pc := 21) dX9_printedIn_21 rfl rfl (fun v5 => ?_)
    exact ph_iret (pc := 22) dX9_printedIn_22 rfl
  · refine ph_iconst (v := (-1)) (pc := 7) dX9_printedIn_7 ph_ic_m1 ?_
    refine ph_goto (tgt := 22) (pc := 8) dX9_printedIn_8 (by decide) ?_
    exact ph_iret (pc := 22) dX9_printedIn_22 rfl
def f_X9_stepOf (x1 : Int32) (x2 : Int32) (h : ph_Hp) : Option (Int32 × ph_Hp) :=
  if x2 = nI 0 then
    ph_ldI h 65 40 x1 fun v11 =>
    some (v11, h)
  else
    if x2 = (nI 1) then
      ph_ldI h 66 40 x1 fun v10 =>
      some (v10, h)
    else
      if x2 = (nI 2) then
        ph_ldI h 64 40 x1 fun v9 =>
        some (v9, h)
      else
        ph_cl (f_X9_printedIn x1 h) fun v7 h8 =>
        some (v7, h8)
set_option maxRecDepth 100000 in
theorem c_X9_stepOf (Z : ph_L) (d : Nat) (hdd : 1 ≤ d) (x1 : Int32) (x2 : Int32) (h : ph_Hp) : ph_CM Z yX9_stepOf cX9_stepOf 3 (some .int) d [.ref (ph_a Z 51), .int x1, .int x2] ph_vi h (f_X9_stepOf x1 x2 h) := by
  refine ph_begin (own := RX9) ph_mf_yX9_stepOf rfl (ls := [some (.ref (ph_a Z 51)), some (.int x1), some (.int x2)]) rfl (Nat.le_of_ble_eq_true rfl) ?_
  unfold f_X9_stepOf
  refine ph_iload_n (i := 2) (pc := 0) dX9_stepOf_0 rfl rfl ?_
  refine ph_if_ne (tgt := 13) (pc := 1) dX9_stepOf_1 (by decide) (fun c4 => ?_) (fun c4 => ?_)
  · refine ph_iload_n (i := 2) (pc := 13) dX9_stepOf_13 rfl rfl ?_
    refine ph_iconst (v := (nI 1)) (pc := 14) dX9_stepOf_14 ph_ic_1 ?_
    refine ph_icmp_ne (tgt := 27) (pc := 15) dX9_stepOf_15 (by decide) (fun c5 => ?_) (fun c5 => ?_)
    · refine ph_iload_n (i := 2) (pc := 27) dX9_stepOf_27 rfl rfl ?_
      refine ph_iconst (v := (nI 2)) (pc := 28) dX9_stepOf_28 ph_ic_2 ?_
      refine ph_icmp_ne (tgt := 41) (pc := 29) dX9_stepOf_29 (by decide) (fun c6 => ?_) (fun c6 => ?_)
      · refine ph_aload_n (i := 0) (pc := 41) dX9_stepOf_41 rfl rfl ?_
        refine ph_iload_n (i := 1) (pc := 42) dX9_stepOf_42 rfl rfl ?_
        refine ph_callVi (pc := 43) dX9_stepOf_43 ph_mf_yX9_printedIn ph_ml_RX9_195 ph_mi_yX9_printedIn ph_mv_yX9_printedIn rfl rfl (c_X9_printedIn Z (d - 1) (by omega) x1 h) (by omega) rfl rfl (Nat.le_of_ble_eq_true rfl) (fun v7 h8 => ?_)
        exact ph_iret (pc := 46) dX9_stepOf_46 rfl
      · refine ph_aload_n (i := 0) (pc := 32) dX9_stepOf_32 rfl rfl ?_
        refine ph_getR (j := 64) (pc := 33) dX9_stepOf_33 ph_fl_RX9_46 rfl rfl rfl ?_
        refine ph_iload_n (i := 1) (pc := 36) dX9_stepOf_36 rfl rfl ?_
        refine ph_iald (pc := 37) dX9_stepOf_37 rfl rfl (fun v9 => ?_)
        refine ph_goto (tgt := 46) (pc := 38) dX9_stepOf_38 (by decide) ?_
        exact ph_iret (pc := 46) dX9_stepOf_46 rfl
    · refine ph_aload_n (i := 0) (pc := 18) dX9_stepOf_18 rfl rfl ?_
      refine ph_getR (j := 66) (pc := 19) dX9_stepOf_19 ph_fl_RX9_52 rfl rfl rfl ?_
      refine ph_iload_n (i := 1) (pc := 22) dX9_stepOf_22 rfl rfl ?_
      refine ph_iald (pc := 23) dX9_stepOf_23 rfl rfl (fun v10 => ?_)
      refine ph_goto (tgt := 46) (pc := 24) dX9_stepOf_24 (by decide) ?_
      exact ph_iret (pc := 46) dX9_stepOf_46 rfl
  · refine ph_aload_n (i := 0) (pc := 4) dX9_stepOf_4 rfl rfl ?_
    refine ph_getR (j := 65) (pc := 5) dX9_stepOf_5 ph_fl_RX9_49 rfl rfl rfl ?_
    refine ph_iload_n (i := 1) (pc := 8) dX9_stepOf_8 rfl rfl ?_
    refine ph_iald (pc := 9) dX9_stepOf_9 rfl rfl (fun v11 => ?_)
    refine ph_goto (tgt := 46) (pc := 10) dX9_stepOf_10 (by decide) ?_
    exact ph_iret (pc := 46) dX9_stepOf_46 rfl
def f_X9_step (x1 : Int32) (x2 : Int32) (h : ph_Hp) : Option (Int32 × ph_Hp) :=
  ph_cl (f_X9_find h) fun _ h5 =>
  ph_cl (f_X9_isStep x1 h5) fun v6 h7 =>
  if v6 = nI 0 then
    some ((-2), h7)
  else
    ph_cl (f_X9_in x2.toInt64 (lN 0) (lN 3) h7) fun v9 h10 =>
    if v9 = nI 0 then
      some ((-2), h10)
    else
      ph_cl (f_X9_stepOf x1 x2 h10) fun v12 h13 =>
      some (v12, h13)
set_option maxRecDepth 100000 in
theorem c_X9_step (Z : ph_L) (d : Nat) (hdd : 7 ≤ d) (x1 : Int32) (x2 : Int32) (h : ph_Hp) : ph_CM Z yX9_step cX9_step 3 (some .int) d [.ref (ph_a Z 51), .int x1, .int x2] ph_vi h (f_X9_step x1 x2 h) := by
  refine ph_begin (own := RX9) ph_mf_yX9_step rfl (ls := [some (.ref (ph_a Z 51)), some (.int x1), some (.int x2)]) rfl (Nat.le_of_ble_eq_true rfl) ?_
  unfold f_X9_step
  refine ph_aload_n (i := 0) (pc := 0) dX9_step_0 rfl rfl ?_
  refine ph_callVv (pc := 1) dX9_step_1 ph_mf_yX9_find ph_ml_RX9_198 ph_mi_yX9_find ph_mv_yX9_find rfl rfl (c_X9_find Z (d - 1) (by omega) h) (by omega) rfl rfl (Nat.le_of_ble_eq_true rfl) (fun v4 h5 => ?_)
  refine ph_iload_n (i := 1) (pc := 4) dX9_step_4 rfl rfl ?_
  refine ph_callSi (pc := 5) dX9_step_5 ph_mf_yX9_isStep ph_ml_RX9_144 ph_ms_yX9_isStep (c_X9_isStep Z (d - 1) (by omega) x1 h5) (by omega) rfl rfl (Nat.le_of_ble_eq_true rfl) (fun v6 h7 => ?_)
  refine ph_if_eq (tgt := 32) (pc := 8) dX9_step_8 (by decide) (fun c8 => ?_) (fun c8 => ?_)
  · refine ph_bipush (v := (-2)) (pc := 32) dX9_step_32 ph_bp_m2 ?_
    exact ph_iret (pc := 34) dX9_step_34 rfl
  · refine ph_iload_n (i := 2) (pc := 11) dX9_step_11 rfl rfl ?_
    refine ph_i2l (pc := 12) dX9_step_12 ?_
    refine ph_lconst (v := (lN 0)) (pc := 13) dX9_step_13 rfl ?_
    refine ph_ldc2 (v := (lN 3)) (pc := 14) dX9_step_14 ph_k_RX9_77 ?_
    refine ph_callSi (pc := 17) dX9_step_17 ph_mf_yX9_in ph_ml_RX9_70 ph_ms_yX9_in (c_X9_in Z (d - 1) (by omega) x2.toInt64 (lN 0) (lN 3) h7) (by omega) rfl rfl (Nat.le_of_ble_eq_true rfl) (fun v9 h10 => ?_)
    refine ph_if_eq (tgt := 32) (pc := 20) dX9_step_20 (by decide) (fun c11 => ?_) (fun c11 => ?_)
    · refine ph_bipush (v := (-2)) (pc := 32) dX9_step_32 ph_bp_m2 ?_
      exact ph_iret (pc := 34) dX9_step_34 rfl
    · refine ph_aload_n (i := 0) (pc := 23) dX9_step_23 rfl rfl ?_
      refine ph_iload_n (i := 1) (pc := 24) dX9_step_24 rfl rfl ?_
      refine ph_iload_n (i := 2) (pc := 25) dX9_step_25 rfl rfl ?_
      refine ph_callVi (pc := 26) dX9_step_26 ph_mf_yX9_stepOf ph_ml_RX9_201 ph_mi_yX9_stepOf ph_mv_yX9_stepOf rfl rfl (c_X9_stepOf Z (d - 1) (by omega) x1 x2 h10) (by omega) rfl rfl (Nat.le_of_ble_eq_true rfl) (fun v12 h13 => ?_)
      refine ph_goto (tgt := 34) (pc := 29) dX9_step_29 (by decide) ?_
      exact ph_iret (pc := 34) dX9_step_34 rfl
def f_X9_whispers (x1 : Int32) (x2 : Int32) (h : ph_Hp) : Option (Int32 × ph_Hp) :=
  ph_cl (f_X9_find h) fun _ h5 =>
  ph_cl (f_X9_isStep x1 h5) fun v6 h7 =>
  if v6 = nI 0 then
    some ((-2), h7)
  else
    ph_cl (f_X9_isHole x2 h7) fun v9 h10 =>
    if v9 = nI 0 then
      some ((-2), h10)
    else
      ph_cl (f_X9_whispersNow x1 x2 h10) fun v12 h13 =>
      some (v12, h13)
set_option maxRecDepth 100000 in
theorem c_X9_whispers (Z : ph_L) (d : Nat) (hdd : 7 ≤ d) (x1 : Int32) (x2 : Int32) (h : ph_Hp) : ph_CM Z yX9_whispers cX9_whispers 3 (some .int) d [.ref (ph_a Z 51), .int x1, .int x2] ph_vi h (f_X9_whispers x1 x2 h) := by
  refine ph_begin (own := RX9) ph_mf_yX9_whispers rfl (ls := [some (.ref (ph_a Z 51)), some (.int x1), some (.int x2)]) rfl (Nat.le_of_ble_eq_true rfl) ?_
  unfold f_X9_whispers
  refine ph_aload_n (i := 0) (pc := 0) dX9_whispers_0 rfl rfl ?_
  refine ph_callVv (pc := 1) dX9_whispers_1 ph_mf_yX9_find ph_ml_RX9_198 ph_mi_yX9_find ph_mv_yX9_find rfl rfl (c_X9_find Z (d - 1) (by omega) h) (by omega) rfl rfl (Nat.le_of_ble_eq_true rfl) (fun v4 h5 => ?_)
  refine ph_iload_n (i := 1) (pc := 4) dX9_whispers_4 rfl rfl ?_
  refine ph_callSi (pc := 5) dX9_whispers_5 ph_mf_yX9_isStep ph_ml_RX9_144 ph_ms_yX9_isStep (c_X9_isStep Z (d - 1) (by omega) x1 h5) (by omega) rfl rfl (Nat.le_of_ble_eq_true rfl) (fun v6 h7 => ?_)
  refine ph_if_eq (tgt := 28) (pc := 8) dX9_whispers_8 (by decide) (fun c8 => ?_) (fun c8 => ?_)
  · refine ph_bipush (v := (-2)) (pc := 28) dX9_whispers_28 ph_bp_m2 ?_
    exact ph_iret (pc := 30) dX9_whispers_30 rfl
  · refine ph_aload_n (i := 0) (pc := 11) dX9_whispers_11 rfl rfl ?_
    refine ph_iload_n (i := 2) (pc := 12) dX9_whispers_12 rfl rfl ?_
    refine ph_callVi (pc := 13) dX9_whispers_13 ph_mf_yX9_isHole ph_ml_RX9_135 ph_mi_yX9_isHole ph_mv_yX9_isHole rfl rfl (c_X9_isHole Z (d - 1) (by omega) x2 h7) (by omega) rfl rfl (Nat.le_of_ble_eq_true rfl) (fun v9 h10 => ?_)
    refine ph_if_eq (tgt := 28) (pc := 16) dX9_whispers_16 (by decide) (fun c11 => ?_) (fun c11 => ?_)
    · refine ph_bipush (v := (-2)) (pc := 28) dX9_whispers_28 ph_bp_m2 ?_
      exact ph_iret (pc := 30) dX9_whispers_30 rfl
    · refine ph_aload_n (i := 0) (pc := 19) dX9_whispers_19 rfl rfl ?_
      refine ph_iload_n (i := 1) (pc := 20) dX9_whispers_20 rfl rfl ?_
      refine ph_iload_n (i := 2) (pc := 21) dX9_whispers_21 rfl rfl ?_
      refine ph_callVi (pc := 22) dX9_whispers_22 ph_mf_yX9_whispersNow ph_ml_RX9_181 ph_mi_yX9_whispersNow ph_mv_yX9_whispersNow rfl rfl (c_X9_whispersNow Z (d - 1) (by omega) x1 x2 h10) (by omega) rfl rfl (Nat.le_of_ble_eq_true rfl) (fun v12 h13 => ?_)
      refine ph_goto (tgt := 30) (pc := 25) dX9_whispers_25 (by decide) ?_
      exact ph_iret (pc := 30) dX9_whispers_30 rfl
def f_X9_driftTo (x1 : Int32) (h : ph_Hp) : Option (Int32 × ph_Hp) :=
  ph_lp (α := Int32 × Int32 × ph_Hp) (fun j3 (x4, x5, h6) =>
    if x1 < x5 then
      some (x4, h6)
    else
      ph_ldI h6 65 40 x5 fun v8 =>
      ph_cl (f_X9_printedIn x5 h6) fun v9 h10 =>
      ph_jn (α := Int32) (fun x12 =>
        j3 (x4 + x12, x5 + (nI 1), h10)) (fun j11 =>
        if v8 = v9 then
          j11 (nI 0)
        else
          j11 (nI 1))) ph_fu ((nI 0), (nI 0), h)
set_option maxRecDepth 100000 in
theorem c_X9_driftTo (Z : ph_L) (d : Nat) (hdd : 1 ≤ d) (x1 : Int32) (h : ph_Hp) : ph_CM Z yX9_driftTo cX9_driftTo 4 (some .int) d [.ref (ph_a Z 51), .int x1] ph_vi h (f_X9_driftTo x1 h) := by
  refine ph_begin (own := RX9) ph_mf_yX9_driftTo rfl (ls := [some (.ref (ph_a Z 51)), some (.int x1), none, none]) rfl (Nat.le_of_ble_eq_true rfl) ?_
  unfold f_X9_driftTo
  refine ph_iconst (v := (nI 0)) (pc := 0) dX9_driftTo_0 ph_ic_0 ?_
  refine ph_istore_n (i := 2) (ls1 := [some (.ref (ph_a Z 51)), some (.int x1), some (.int (nI 0)), none]) (pc := 1) dX9_driftTo_1 rfl (by decide) rfl ?_
  refine ph_iconst (v := (nI 0)) (pc := 2) dX9_driftTo_2 ph_ic_0 ?_
  refine ph_istore_n (i := 3) (ls1 := [some (.ref (ph_a Z 51)), some (.int x1), some (.int (nI 0)), some (.int (nI 0))]) (pc := 3) dX9_driftTo_3 rfl (by decide) rfl ?_
  refine ph_loop (α := Int32 × Int32 × ph_Hp) 4 (fun x => [some (.ref (ph_a Z 51)), some (.int x1), some (.int x.1), some (.int x.2.1)]) (fun x => []) (fun x => x.2.2) (fun j3 hj3 x => ?_) ph_fu ((nI 0), (nI 0), h)
  obtain ⟨x4, x5, h6⟩ := x
  dsimp only
  refine ph_iload_n (i := 3) (pc := 4) dX9_driftTo_4 rfl rfl ?_
  refine ph_iload_n (i := 1) (pc := 5) dX9_driftTo_5 rfl rfl ?_
  refine ph_icmp_gt (tgt := 37) (pc := 6) dX9_driftTo_6 (by decide) (fun c7 => ?_) (fun c7 => ?_)
  · refine ph_iload_n (i := 2) (pc := 37) dX9_driftTo_37 rfl rfl ?_
    exact ph_iret (pc := 38) dX9_driftTo_38 rfl
  · refine ph_iload_n (i := 2) (pc := 9) dX9_driftTo_9 rfl rfl ?_
    refine ph_aload_n (i := 0) (pc := 10) dX9_driftTo_10 rfl rfl ?_
    refine ph_getR (j := 65) (pc := 11) dX9_driftTo_11 ph_fl_RX9_49 rfl rfl rfl ?_
    refine ph_iload_n (i := 3) (pc := 14) dX9_driftTo_14 rfl rfl ?_
    refine ph_iald (pc := 15) dX9_driftTo_15 rfl rfl (fun v8 => ?_)
    refine ph_aload_n (i := 0) (pc := 16) dX9_driftTo_16 rfl rfl ?_
    refine ph_iload_n (i := 3) (pc := 17) dX9_driftTo_17 rfl rfl ?_
    refine ph_callVi (pc := 18) dX9_driftTo_18 ph_mf_yX9_printedIn ph_ml_RX9_195 ph_mi_yX9_printedIn ph_mv_yX9_printedIn rfl rfl (c_X9_printedIn Z (d - 1) (by omega) x5 h6) (by omega) rfl rfl (Nat.le_of_ble_eq_true rfl) (fun v9 h10 => ?_)
    refine ph_join (α := Int32) 29 (fun x => [some (.ref (ph_a Z 51)), some (.int x1), none, some (.int x5)]) (fun x => [.int x, .int x4]) (fun x => h10) (fun x => ?_) (fun j11 hj11 => ?_)
    · revert x; intro x12
      refine ph_iadd (pc := 29) dX9_driftTo_29 ?_
      refine ph_istore_n (i := 2) (ls1 := [some (.ref (ph_a Z 51)), some (.int x1), some (.int (x4 + x12)), some (.int x5)]) (pc := 30) dX9_driftTo_30 rfl (by decide) rfl ?_
      refine ph_iinc (i := 3) (v := (nI 1)) (ls1 := [some (.ref (ph_a Z 51)), some (.int x1), some (.int (x4 + x12)), some (.int (x5 + (nI 1)))]) (pc := 31) dX9_driftTo_31 rfl ph_ic_1 (by decide) rfl ?_
      refine ph_goto (tgt := 4) (pc := 34) dX9_driftTo_34 (by decide) ?_
      exact hj3 (x4 + x12, x5 + (nI 1), h10)
    · refine ph_icmp_eq (tgt := 28) (pc := 21) dX9_driftTo_21 (by decide) (fun c13 => ?_) (fun c13 => ?_)
      · refine ph_iconst (v := (nI 0)) (pc := 28) dX9_driftTo_28 ph_ic_0 ?_
        refine ph_wk (ls1 := [some (.ref (ph_a Z 51)), some (.int x1), none, some (.int x5)]) ⟨rfl, ⟨rfl, ⟨rfl, trivial⟩⟩⟩ ?_
        exact hj11 (nI 0)
      · refine ph_iconst (v := (nI 1)) (pc := 24) dX9_driftTo_24 ph_ic_1 ?_
        refine ph_goto (tgt := 29) (pc := 25) dX9_driftTo_25 (by decide) ?_
        refine ph_wk (ls1 := [some (.ref (ph_a Z 51)), some (.int x1), none, some (.int x5)]) ⟨rfl, ⟨rfl, ⟨rfl, trivial⟩⟩⟩ ?_
        exact hj11 (nI 1)
def f_X9_driftOf (x1 : Int32) (h : ph_Hp) : Option (Int32 × ph_Hp) :=
  ph_lp (α := Int32 × ph_Hp) (fun j3 (x4, h5) =>
    if (nI 40) ≤ x4 then
      some ((-1), h5)
    else
      ph_ldI h5 65 40 x4 fun v7 =>
      ph_cl (f_X9_printedIn x4 h5) fun v8 h9 =>
      if v7 = v8 then
        j3 (x4 + (nI 1), h9)
      else
        if x1 = nI 0 then
          some (x4, h9)
        else
          ph_cl (f_X9_driftTo (nI 39) h9) fun v12 h13 =>
          some (v12, h13)) ph_fu ((nI 0), h)
set_option maxRecDepth 100000 in
theorem c_X9_driftOf (Z : ph_L) (d : Nat) (hdd : 2 ≤ d) (x1 : Int32) (h : ph_Hp) : ph_CM Z yX9_driftOf cX9_driftOf 3 (some .int) d [.ref (ph_a Z 51), .int x1] ph_vi h (f_X9_driftOf x1 h) := by
  refine ph_begin (own := RX9) ph_mf_yX9_driftOf rfl (ls := [some (.ref (ph_a Z 51)), some (.int x1), none]) rfl (Nat.le_of_ble_eq_true rfl) ?_
  unfold f_X9_driftOf
  refine ph_iconst (v := (nI 0)) (pc := 0) dX9_driftOf_0 ph_ic_0 ?_
  refine ph_istore_n (i := 2) (ls1 := [some (.ref (ph_a Z 51)), some (.int x1), some (.int (nI 0))]) (pc := 1) dX9_driftOf_1 rfl (by decide) rfl ?_
  refine ph_loop (α := Int32 × ph_Hp) 2 (fun x => [some (.ref (ph_a Z 51)), some (.int x1), some (.int x.1)]) (fun x => []) (fun x => x.2) (fun j3 hj3 x => ?_) ph_fu ((nI 0), h)
  obtain ⟨x4, h5⟩ := x
  dsimp only
  refine ph_iload_n (i := 2) (pc := 2) dX9_driftOf_2 rfl rfl ?_
  refine ph_bipush (v := (nI 40)) (pc := 3) dX9_driftOf_3 ph_bp_40 ?_
  refine ph_icmp_ge (tgt := 43) (pc := 5) dX9_driftOf_5 (by decide) (fun c6 => ?_) (fun c6 => ?_)
  · refine ph_iconst (v := (-1)) (pc := 43) dX9_driftOf_43 ph_ic_m1 ?_
    exact ph_iret (pc := 44) dX9_driftOf_44 rfl
  · refine ph_aload_n (i := 0) (pc := 8) dX9_driftOf_8 rfl rfl ?_
    refine ph_getR (j := 65) (pc := 9) dX9_driftOf_9 ph_fl_RX9_49 rfl rfl rfl ?_
    refine ph_iload_n (i := 2) (pc := 12) dX9_driftOf_12 rfl rfl ?_
    refine ph_iald (pc := 13) dX9_driftOf_13 rfl rfl (fun v7 => ?_)
    refine ph_aload_n (i := 0) (pc := 14) dX9_driftOf_14 rfl rfl ?_
    refine ph_iload_n (i := 2) (pc := 15) dX9_driftOf_15 rfl rfl ?_
    refine ph_callVi (pc := 16) dX9_driftOf_16 ph_mf_yX9_printedIn ph_ml_RX9_195 ph_mi_yX9_printedIn ph_mv_yX9_printedIn rfl rfl (c_X9_printedIn Z (d - 1) (by omega) x4 h5) (by omega) rfl rfl (Nat.le_of_ble_eq_true rfl) (fun v8 h9 => ?_)
    refine ph_icmp_eq (tgt := 37) (pc := 19) dX9_driftOf_19 (by decide) (fun c10 => ?_) (fun c10 => ?_)
    · refine ph_iinc (i := 2) (v := (nI 1)) (ls1 := [some (.ref (ph_a Z 51)), some (.int x1), some (.int (x4 + (nI 1)))]) (pc := 37) dX9_driftOf_37 rfl ph_ic_1 (by decide) rfl ?_
      refine ph_goto (tgt := 2) (pc := 40) dX9_driftOf_40 (by decide) ?_
      exact hj3 (x4 + (nI 1), h9)
    · refine ph_iload_n (i := 1) (pc := 22) dX9_driftOf_22 rfl rfl ?_
      refine ph_if_ne (tgt := 30) (pc := 23) dX9_driftOf_23 (by decide) (fun c11 => ?_) (fun c11 => ?_)
      · refine ph_aload_n (i := 0) (pc := 30) dX9_driftOf_30 rfl rfl ?_
        refine ph_bipush (v := (nI 39)) (pc := 31) dX9_driftOf_31 ph_bp_39 ?_
        refine ph_callVi (pc := 33) dX9_driftOf_33 ph_mf_yX9_driftTo ph_ml_RX9_204 ph_mi_yX9_driftTo ph_mv_yX9_driftTo rfl rfl (c_X9_driftTo Z (d - 1) (by omega) (nI 39) h9) (by omega) rfl rfl (Nat.le_of_ble_eq_true rfl) (fun v12 h13 => ?_)
        exact ph_iret (pc := 36) dX9_driftOf_36 rfl
      · refine ph_iload_n (i := 2) (pc := 26) dX9_driftOf_26 rfl rfl ?_
        refine ph_goto (tgt := 36) (pc := 27) dX9_driftOf_27 (by decide) ?_
        exact ph_iret (pc := 36) dX9_driftOf_36 rfl
def f_X9_drift (x1 : Int32) (h : ph_Hp) : Option (Int32 × ph_Hp) :=
  ph_cl (f_X9_find h) fun _ h4 =>
  ph_cl (f_X9_isTwo x1 h4) fun v5 h6 =>
  if v5 = nI 0 then
    some ((-2), h6)
  else
    ph_cl (f_X9_driftOf x1 h6) fun v8 h9 =>
    some (v8, h9)
set_option maxRecDepth 100000 in
theorem c_X9_drift (Z : ph_L) (d : Nat) (hdd : 7 ≤ d) (x1 : Int32) (h : ph_Hp) : ph_CM Z yX9_drift cX9_drift 2 (some .int) d [.ref (ph_a Z 51), .int x1] ph_vi h (f_X9_drift x1 h) := by
  refine ph_begin (own := RX9) ph_mf_yX9_drift rfl (ls := [some (.ref (ph_a Z 51)), some (.int x1)]) rfl (Nat.le_of_ble_eq_true rfl) ?_
  unfold f_X9_drift
  refine ph_aload_n (i := 0) (pc := 0) dX9_drift_0 rfl rfl ?_
  refine ph_callVv (pc := 1) dX9_drift_1 ph_mf_yX9_find ph_ml_RX9_198 ph_mi_yX9_find ph_mv_yX9_find rfl rfl (c_X9_find Z (d - 1) (by omega) h) (by omega) rfl rfl (Nat.le_of_ble_eq_true rfl) (fun v3 h4 => ?_)
  refine ph_iload_n (i := 1) (pc := 4) dX9_drift_4 rfl rfl ?_
  refine ph_callSi (pc := 5) dX9_drift_5 ph_mf_yX9_isTwo ph_ml_RX9_98 ph_ms_yX9_isTwo (c_X9_isTwo Z (d - 1) (by omega) x1 h4) (by omega) rfl rfl (Nat.le_of_ble_eq_true rfl) (fun v5 h6 => ?_)
  refine ph_if_eq (tgt := 19) (pc := 8) dX9_drift_8 (by decide) (fun c7 => ?_) (fun c7 => ?_)
  · refine ph_bipush (v := (-2)) (pc := 19) dX9_drift_19 ph_bp_m2 ?_
    exact ph_iret (pc := 21) dX9_drift_21 rfl
  · refine ph_aload_n (i := 0) (pc := 11) dX9_drift_11 rfl rfl ?_
    refine ph_iload_n (i := 1) (pc := 12) dX9_drift_12 rfl rfl ?_
    refine ph_callVi (pc := 13) dX9_drift_13 ph_mf_yX9_driftOf ph_ml_RX9_207 ph_mi_yX9_driftOf ph_mv_yX9_driftOf rfl rfl (c_X9_driftOf Z (d - 1) (by omega) x1 h6) (by omega) rfl rfl (Nat.le_of_ble_eq_true rfl) (fun v8 h9 => ?_)
    refine ph_goto (tgt := 21) (pc := 16) dX9_drift_16 (by decide) ?_
    exact ph_iret (pc := 21) dX9_drift_21 rfl
def f_X9_roundNow (h : ph_Hp) : Option (Int32 × ph_Hp) :=
  ph_lp (α := Int32) (fun j2 x3 =>
    if (nI 13) ≤ x3 then
      some ((-1), h)
    else
      ph_lp (α := Int32 × Int32) (fun j5 (x6, x7) =>
        if (nI 40) ≤ (x7 + x3) then
          if x6 = nI 0 then
            j2 (x3 + (nI 1))
          else
            some (x3, h)
        else
          ph_jn (α := Int32) (fun x11 =>
            j5 (x11, x7 + (nI 1))) (fun j10 =>
            ph_jn (α := Unit) (fun _x =>
              j10 (nI 0)) (fun j12 =>
              if x6 = nI 0 then
                j12 ()
              else
                ph_ldI h 65 40 x7 fun v14 =>
                ph_ldI h 65 40 (x7 + x3) fun v15 =>
                if v14 = v15 then
                  j10 (nI 1)
                else
                  j12 ()))) ph_fu ((nI 1), (nI 16))) ph_fu (nI 1)
set_option maxRecDepth 100000 in
theorem c_X9_roundNow (Z : ph_L) (d : Nat) (hdd : 0 ≤ d) (h : ph_Hp) : ph_CM Z yX9_roundNow cX9_roundNow 4 (some .int) d [.ref (ph_a Z 51)] ph_vi h (f_X9_roundNow h) := by
  refine ph_begin (own := RX9) ph_mf_yX9_roundNow rfl (ls := [some (.ref (ph_a Z 51)), none, none, none]) rfl (Nat.le_of_ble_eq_true rfl) ?_
  unfold f_X9_roundNow
  refine ph_iconst (v := (nI 1)) (pc := 0) dX9_roundNow_0 ph_ic_1 ?_
  refine ph_istore_n (i := 1) (ls1 := [some (.ref (ph_a Z 51)), some (.int (nI 1)), none, none]) (pc := 1) dX9_roundNow_1 rfl (by decide) rfl ?_
  refine ph_loop (α := Int32) 2 (fun x => [some (.ref (ph_a Z 51)), some (.int x), none, none]) (fun x => []) (fun x => h) (fun j2 hj2 x => ?_) ph_fu (nI 1)
  revert x; intro x3
  refine ph_iload_n (i := 1) (pc := 2) dX9_roundNow_2 rfl rfl ?_
  refine ph_bipush (v := (nI 13)) (pc := 3) dX9_roundNow_3 ph_bp_13 ?_
  refine ph_icmp_ge (tgt := 66) (pc := 5) dX9_roundNow_5 (by decide) (fun c4 => ?_) (fun c4 => ?_)
  · refine ph_iconst (v := (-1)) (pc := 66) dX9_roundNow_66 ph_ic_m1 ?_
    exact ph_iret (pc := 67) dX9_roundNow_67 rfl
  · refine ph_iconst (v := (nI 1)) (pc := 8) dX9_roundNow_8 ph_ic_1 ?_
    refine ph_istore_n (i := 2) (ls1 := [some (.ref (ph_a Z 51)), some (.int x3), some (.int (nI 1)), none]) (pc := 9) dX9_roundNow_9 rfl (by decide) rfl ?_
    refine ph_bipush (v := (nI 16)) (pc := 10) dX9_roundNow_10 ph_bp_16 ?_
    refine ph_istore_n (i := 3) (ls1 := [some (.ref (ph_a Z 51)), some (.int x3), some (.int (nI 1)), some (.int (nI 16))]) (pc := 12) dX9_roundNow_12 rfl (by decide) rfl ?_
    refine ph_loop (α := Int32 × Int32) 13 (fun x => [some (.ref (ph_a Z 51)), some (.int x3), some (.int x.1), some (.int x.2)]) (fun x => []) (fun x => h) (fun j5 hj5 x => ?_) ph_fu ((nI 1), (nI 16))
    obtain ⟨x6, x7⟩ := x
    dsimp only
    refine ph_iload_n (i := 3) (pc := 13) dX9_roundNow_13 rfl rfl ?_
    refine ph_iload_n (i := 1) (pc := 14) dX9_roundNow_14 rfl rfl ?_
    refine ph_iadd (pc := 15) dX9_roundNow_15 ?_
    refine ph_bipush (v := (nI 40)) (pc := 16) dX9_roundNow_16 ph_bp_40 ?_
    refine ph_icmp_ge (tgt := 54) (pc := 18) dX9_roundNow_18 (by decide) (fun c8 => ?_) (fun c8 => ?_)
    · refine ph_iload_n (i := 2) (pc := 54) dX9_roundNow_54 rfl rfl ?_
      refine ph_if_eq (tgt := 60) (pc := 55) dX9_roundNow_55 (by decide) (fun c9 => ?_) (fun c9 => ?_)
      · refine ph_iinc (i := 1) (v := (nI 1)) (ls1 := [some (.ref (ph_a Z 51)), some (.int (x3 + (nI 1))), some (.int x6), some (.int x7)]) (pc := 60) dX9_roundNow_60 rfl ph_ic_1 (by decide) rfl ?_
        refine ph_goto (tgt := 2) (pc := 63) dX9_roundNow_63 (by decide) ?_
        refine ph_wk (ls1 := [some (.ref (ph_a Z 51)), some (.int (x3 + (nI 1))), none, none]) ⟨rfl, ⟨rfl, trivial⟩⟩ ?_
        exact hj2 (x3 + (nI 1))
      · refine ph_iload_n (i := 1) (pc := 58) dX9_roundNow_58 rfl rfl ?_
        exact ph_iret (pc := 59) dX9_roundNow_59 rfl
    · refine ph_iload_n (i := 2) (pc := 21) dX9_roundNow_21 rfl rfl ?_
      refine ph_join (α := Int32) 47 (fun x => [some (.ref (ph_a Z 51)), some (.int x3), none, some (.int x7)]) (fun x => [.int x]) (fun x => h) (fun x => ?_) (fun j10 hj10 => ?_)
      · revert x; intro x11
        refine ph_istore_n (i := 2) (ls1 := [some (.ref (ph_a Z 51)), some (.int x3), some (.int x11), some (.int x7)]) (pc := 47) dX9_roundNow_47 rfl (by decide) rfl ?_
        refine ph_iinc (i := 3) (v := (nI 1)) (ls1 := [some (.ref (ph_a Z 51)), some (.int x3), some (.int x11), some (.int (x7 + (nI 1)))]) (pc := 48) dX9_roundNow_48 rfl ph_ic_1 (by decide) rfl ?_
        refine ph_goto (tgt := 13) (pc := 51) dX9_roundNow_51 (by decide) ?_
        exact hj5 (x11, x7 + (nI 1))
      · refine ph_join (α := Unit) 46 (fun x => [some (.ref (ph_a Z 51)), some (.int x3), none, some (.int x7)]) (fun x => []) (fun x => h) (fun x => ?_) (fun j12 hj12 => ?_)
        · refine ph_iconst (v := (nI 0)) (pc := 46) dX9_roundNow_46 ph_ic_0 ?_
          exact hj10 (nI 0)
        · refine ph_if_eq (tgt := 46) (pc := 22) dX9_roundNow_22 (by decide) (fun c13 => ?_) (fun c13 => ?_)
          · refine ph_wk (ls1 := [some (.ref (ph_a Z 51)), some (.int x3), none, some (.int x7)]) ⟨rfl, ⟨rfl, ⟨rfl, trivial⟩⟩⟩ ?_
            exact hj12 ()
          · refine ph_aload_n (i := 0) (pc := 25) dX9_roundNow_25 rfl rfl ?_
            refine ph_getR (j := 65) (pc := 26) dX9_roundNow_26 ph_fl_RX9_49 rfl rfl rfl ?_
            refine ph_iload_n (i := 3) (pc := 29) dX9_roundNow_29 rfl rfl ?_
            refine ph_iald (pc := 30) dX9_roundNow_30 rfl rfl (fun v14 => ?_)
            refine ph_aload_n (i := 0) (pc := 31) dX9_roundNow_31 rfl rfl ?_
            refine ph_getR (j := 65) (pc := 32) dX9_roundNow_32 ph_fl_RX9_49 rfl rfl rfl ?_
            refine ph_iload_n (i := 3) (pc := 35) dX9_roundNow_35 rfl rfl ?_
            refine ph_iload_n (i := 1) (pc := 36) dX9_roundNow_36 rfl rfl ?_
            refine ph_iadd (pc := 37) dX9_roundNow_37 ?_
            refine ph_iald (pc := 38) dX9_roundNow_38 rfl rfl (fun v15 => ?_)
            refine ph_icmp_ne (tgt := 46) (pc := 39) dX9_roundNow_39 (by decide) (fun c16 => ?_) (fun c16 => ?_)
            · refine ph_wk (ls1 := [some (.ref (ph_a Z 51)), some (.int x3), none, some (.int x7)]) ⟨rfl, ⟨rfl, ⟨rfl, trivial⟩⟩⟩ ?_
              exact hj12 ()
            · refine ph_iconst (v := (nI 1)) (pc := 42) dX9_roundNow_42 ph_ic_1 ?_
              refine ph_goto (tgt := 47) (pc := 43) dX9_roundNow_43 (by decide) ?_
              refine ph_wk (ls1 := [some (.ref (ph_a Z 51)), some (.int x3), none, some (.int x7)]) ⟨rfl, ⟨rfl, ⟨rfl, trivial⟩⟩⟩ ?_
              exact hj10 (nI 1)
def f_X9_round (h : ph_Hp) : Option (Int32 × ph_Hp) :=
  ph_cl (f_X9_find h) fun _ h3 =>
  ph_cl (f_X9_roundNow h3) fun v4 h5 =>
  some (v4, h5)
set_option maxRecDepth 100000 in
theorem c_X9_round (Z : ph_L) (d : Nat) (hdd : 7 ≤ d) (h : ph_Hp) : ph_CM Z yX9_round cX9_round 1 (some .int) d [.ref (ph_a Z 51)] ph_vi h (f_X9_round h) := by
  refine ph_begin (own := RX9) ph_mf_yX9_round rfl (ls := [some (.ref (ph_a Z 51))]) rfl (Nat.le_of_ble_eq_true rfl) ?_
  unfold f_X9_round
  refine ph_aload_n (i := 0) (pc := 0) dX9_round_0 rfl rfl ?_
  refine ph_callVv (pc := 1) dX9_round_1 ph_mf_yX9_find ph_ml_RX9_198 ph_mi_yX9_find ph_mv_yX9_find rfl rfl (c_X9_find Z (d - 1) (by omega) h) (by omega) rfl rfl (Nat.le_of_ble_eq_true rfl) (fun v2 h3 => ?_)
  refine ph_aload_n (i := 0) (pc := 4) dX9_round_4 rfl rfl ?_
  refine ph_callVi (pc := 5) dX9_round_5 ph_mf_yX9_roundNow ph_ml_RX9_210 ph_mi_yX9_roundNow ph_mv_yX9_roundNow rfl rfl (c_X9_roundNow Z (d - 1) (by omega) h3) (by omega) rfl rfl (Nat.le_of_ble_eq_true rfl) (fun v4 h5 => ?_)
  exact ph_iret (pc := 8) dX9_round_8 rfl
def f_X9_oftenOf (x1 : Int32) (x2 : Int32) (h : ph_Hp) : Option (Int32 × ph_Hp) :=
  ph_lp (α := Int32 × Int32 × Int32) (fun j4 (x5, x6, x7) =>
    if (nI 40) ≤ x7 then
      if x2 = nI 0 then
        some (x5, h)
      else
        some (x6, h)
    else
      ph_ldI h 65 40 x7 fun v10 =>
      ph_jn (α := Int32) (fun x12 =>
        ph_ldI h 65 40 x7 fun v13 =>
        ph_jn (α := Int32) (fun x15 =>
          j4 (x5 + x12, x15, x7 + (nI 1))) (fun j14 =>
          if v13 = x1 then
            j14 x7
          else
            j14 x6)) (fun j11 =>
        if v10 = x1 then
          j11 (nI 1)
        else
          j11 (nI 0))) ph_fu ((nI 0), (-1), (nI 0))
set_option maxRecDepth 100000 in
theorem c_X9_oftenOf (Z : ph_L) (d : Nat) (hdd : 0 ≤ d) (x1 : Int32) (x2 : Int32) (h : ph_Hp) : ph_CM Z yX9_oftenOf cX9_oftenOf 6 (some .int) d [.ref (ph_a Z 51), .int x1, .int x2] ph_vi h (f_X9_oftenOf x1 x2 h) := by
  refine ph_begin (own := RX9) ph_mf_yX9_oftenOf rfl (ls := [some (.ref (ph_a Z 51)), some (.int x1), some (.int x2), none, none, none]) rfl (Nat.le_of_ble_eq_true rfl) ?_
  unfold f_X9_oftenOf
  refine ph_iconst (v := (nI 0)) (pc := 0) dX9_oftenOf_0 ph_ic_0 ?_
  refine ph_istore_n (i := 3) (ls1 := [some (.ref (ph_a Z 51)), some (.int x1), some (.int x2), some (.int (nI 0)), none, none]) (pc := 1) dX9_oftenOf_1 rfl (by decide) rfl ?_
  refine ph_iconst (v := (-1)) (pc := 2) dX9_oftenOf_2 ph_ic_m1 ?_
  refine ph_istore (i := 4) (ls1 := [some (.ref (ph_a Z 51)), some (.int x1), some (.int x2), some (.int (nI 0)), some (.int (-1)), none]) (pc := 3) dX9_oftenOf_3 (by decide) rfl ?_
  refine ph_iconst (v := (nI 0)) (pc := 5) dX9_oftenOf_5 ph_ic_0 ?_
  refine ph_istore (i := 5) (ls1 := [some (.ref (ph_a Z 51)), some (.int x1), some (.int x2), some (.int (nI 0)), some (.int (-1)), some (.int (nI 0))]) (pc := 6) dX9_oftenOf_6 (by decide) rfl ?_
  refine ph_loop (α := Int32 × Int32 × Int32) 8 (fun x => [some (.ref (ph_a Z 51)), some (.int x1), some (.int x2), some (.int x.1), some (.int x.2.1), some (.int x.2.2)]) (fun x => []) (fun x => h) (fun j4 hj4 x => ?_) ph_fu ((nI 0), (-1), (nI 0))
  obtain ⟨x5, x6, x7⟩ := x
  dsimp only
  refine ph_iload (i := 5) (pc := 8) dX9_oftenOf_8 rfl ?_
  refine ph_bipush (v := (nI 40)) (pc := 10) dX9_oftenOf_10 ph_bp_40 ?_
  refine ph_icmp_ge (tgt := 60) (pc := 12) dX9_oftenOf_12 (by decide) (fun c8 => ?_) (fun c8 => ?_)
  · refine ph_iload_n (i := 2) (pc := 60) dX9_oftenOf_60 rfl rfl ?_
    refine ph_if_ne (tgt := 68) (pc := 61) dX9_oftenOf_61 (by decide) (fun c9 => ?_) (fun c9 => ?_)
    · refine ph_iload (i := 4) (pc := 68) dX9_oftenOf_68 rfl ?_
      exact ph_iret (pc := 70) dX9_oftenOf_70 rfl
    · refine ph_iload_n (i := 3) (pc := 64) dX9_oftenOf_64 rfl rfl ?_
      refine ph_goto (tgt := 70) (pc := 65) dX9_oftenOf_65 (by decide) ?_
      exact ph_iret (pc := 70) dX9_oftenOf_70 rfl
  · refine ph_iload_n (i := 3) (pc := 15) dX9_oftenOf_15 rfl rfl ?_
    refine ph_aload_n (i := 0) (pc := 16) dX9_oftenOf_16 rfl rfl ?_
    refine ph_getR (j := 65) (pc := 17) dX9_oftenOf_17 ph_fl_RX9_49 rfl rfl rfl ?_
    refine ph_iload (i := 5) (pc := 20) dX9_oftenOf_20 rfl ?_
    refine ph_iald (pc := 22) dX9_oftenOf_22 rfl rfl (fun v10 => ?_)
    refine ph_iload_n (i := 1) (pc := 23) dX9_oftenOf_23 rfl rfl ?_
    refine ph_join (α := Int32) 32 (fun x => [some (.ref (ph_a Z 51)), some (.int x1), some (.int x2), none, some (.int x6), some (.int x7)]) (fun x => [.int x, .int x5]) (fun x => h) (fun x => ?_) (fun j11 hj11 => ?_)
    · revert x; intro x12
      refine ph_iadd (pc := 32) dX9_oftenOf_32 ?_
      refine ph_istore_n (i := 3) (ls1 := [some (.ref (ph_a Z 51)), some (.int x1), some (.int x2), some (.int (x5 + x12)), some (.int x6), some (.int x7)]) (pc := 33) dX9_oftenOf_33 rfl (by decide) rfl ?_
      refine ph_aload_n (i := 0) (pc := 34) dX9_oftenOf_34 rfl rfl ?_
      refine ph_getR (j := 65) (pc := 35) dX9_oftenOf_35 ph_fl_RX9_49 rfl rfl rfl ?_
      refine ph_iload (i := 5) (pc := 38) dX9_oftenOf_38 rfl ?_
      refine ph_iald (pc := 40) dX9_oftenOf_40 rfl rfl (fun v13 => ?_)
      refine ph_iload_n (i := 1) (pc := 41) dX9_oftenOf_41 rfl rfl ?_
      refine ph_join (α := Int32) 52 (fun x => [some (.ref (ph_a Z 51)), some (.int x1), some (.int x2), some (.int (x5 + x12)), none, some (.int x7)]) (fun x => [.int x]) (fun x => h) (fun x => ?_) (fun j14 hj14 => ?_)
      · revert x; intro x15
        refine ph_istore (i := 4) (ls1 := [some (.ref (ph_a Z 51)), some (.int x1), some (.int x2), some (.int (x5 + x12)), some (.int x15), some (.int x7)]) (pc := 52) dX9_oftenOf_52 (by decide) rfl ?_
        refine ph_iinc (i := 5) (v := (nI 1)) (ls1 := [some (.ref (ph_a Z 51)), some (.int x1), some (.int x2), some (.int (x5 + x12)), some (.int x15), some (.int (x7 + (nI 1)))]) (pc := 54) dX9_oftenOf_54 rfl ph_ic_1 (by decide) rfl ?_
        refine ph_goto (tgt := 8) (pc := 57) dX9_oftenOf_57 (by decide) ?_
        exact hj4 (x5 + x12, x15, x7 + (nI 1))
      · refine ph_icmp_ne (tgt := 50) (pc := 42) dX9_oftenOf_42 (by decide) (fun c16 => ?_) (fun c16 => ?_)
        · refine ph_iload (i := 4) (pc := 50) dX9_oftenOf_50 rfl ?_
          refine ph_wk (ls1 := [some (.ref (ph_a Z 51)), some (.int x1), some (.int x2), some (.int (x5 + x12)), none, some (.int x7)]) ⟨rfl, ⟨rfl, ⟨rfl, ⟨rfl, ⟨rfl, trivial⟩⟩⟩⟩⟩ ?_
          exact hj14 x6
        · refine ph_iload (i := 5) (pc := 45) dX9_oftenOf_45 rfl ?_
          refine ph_goto (tgt := 52) (pc := 47) dX9_oftenOf_47 (by decide) ?_
          refine ph_wk (ls1 := [some (.ref (ph_a Z 51)), some (.int x1), some (.int x2), some (.int (x5 + x12)), none, some (.int x7)]) ⟨rfl, ⟨rfl, ⟨rfl, ⟨rfl, ⟨rfl, trivial⟩⟩⟩⟩⟩ ?_
          exact hj14 x7
    · refine ph_icmp_ne (tgt := 31) (pc := 24) dX9_oftenOf_24 (by decide) (fun c17 => ?_) (fun c17 => ?_)
      · refine ph_iconst (v := (nI 0)) (pc := 31) dX9_oftenOf_31 ph_ic_0 ?_
        refine ph_wk (ls1 := [some (.ref (ph_a Z 51)), some (.int x1), some (.int x2), none, some (.int x6), some (.int x7)]) ⟨rfl, ⟨rfl, ⟨rfl, ⟨rfl, ⟨rfl, trivial⟩⟩⟩⟩⟩ ?_
        exact hj11 (nI 0)
      · refine ph_iconst (v := (nI 1)) (pc := 27) dX9_oftenOf_27 ph_ic_1 ?_
        refine ph_goto (tgt := 32) (pc := 28) dX9_oftenOf_28 (by decide) ?_
        refine ph_wk (ls1 := [some (.ref (ph_a Z 51)), some (.int x1), some (.int x2), none, some (.int x6), some (.int x7)]) ⟨rfl, ⟨rfl, ⟨rfl, ⟨rfl, ⟨rfl, trivial⟩⟩⟩⟩⟩ ?_
        exact hj11 (nI 1)
def f_X9_often (x1 : Int32) (x2 : Int32) (h : ph_Hp) : Option (Int32 × ph_Hp) :=
  ph_cl (f_X9_find h) fun _ h5 =>
  ph_cl (f_X9_isLine x1 h5) fun v6 h7 =>
  if v6 = nI 0 then
    some ((-2), h7)
  else
    ph_cl (f_X9_isTwo x2 h7) fun v9 h10 =>
    if v9 = nI 0 then
      some ((-2), h10)
    else
      ph_cl (f_X9_oftenOf x1 x2 h10) fun v12 h13 =>
      some (v12, h13)
set_option maxRecDepth 100000 in
theorem c_X9_often (Z : ph_L) (d : Nat) (hdd : 7 ≤ d) (x1 : Int32) (x2 : Int32) (h : ph_Hp) : ph_CM Z yX9_often cX9_often 3 (some .int) d [.ref (ph_a Z 51), .int x1, .int x2] ph_vi h (f_X9_often x1 x2 h) := by
  refine ph_begin (own := RX9) ph_mf_yX9_often rfl (ls := [some (.ref (ph_a Z 51)), some (.int x1), some (.int x2)]) rfl (Nat.le_of_ble_eq_true rfl) ?_
  unfold f_X9_often
  refine ph_aload_n (i := 0) (pc := 0) dX9_often_0 rfl rfl ?_
  refine ph_callVv (pc := 1) dX9_often_1 ph_mf_yX9_find ph_ml_RX9_198 ph_mi_yX9_find ph_mv_yX9_find rfl rfl (c_X9_find Z (d - 1) (by omega) h) (by omega) rfl rfl (Nat.le_of_ble_eq_true rfl) (fun v4 h5 => ?_)
  refine ph_iload_n (i := 1) (pc := 4) dX9_often_4 rfl rfl ?_
  refine ph_callSi (pc := 5) dX9_often_5 ph_mf_yX9_isLine ph_ml_RX9_138 ph_ms_yX9_isLine (c_X9_isLine Z (d - 1) (by omega) x1 h5) (by omega) rfl rfl (Nat.le_of_ble_eq_true rfl) (fun v6 h7 => ?_)
  refine ph_if_eq (tgt := 27) (pc := 8) dX9_often_8 (by decide) (fun c8 => ?_) (fun c8 => ?_)
  · refine ph_bipush (v := (-2)) (pc := 27) dX9_often_27 ph_bp_m2 ?_
    exact ph_iret (pc := 29) dX9_often_29 rfl
  · refine ph_iload_n (i := 2) (pc := 11) dX9_often_11 rfl rfl ?_
    refine ph_callSi (pc := 12) dX9_often_12 ph_mf_yX9_isTwo ph_ml_RX9_98 ph_ms_yX9_isTwo (c_X9_isTwo Z (d - 1) (by omega) x2 h7) (by omega) rfl rfl (Nat.le_of_ble_eq_true rfl) (fun v9 h10 => ?_)
    refine ph_if_eq (tgt := 27) (pc := 15) dX9_often_15 (by decide) (fun c11 => ?_) (fun c11 => ?_)
    · refine ph_bipush (v := (-2)) (pc := 27) dX9_often_27 ph_bp_m2 ?_
      exact ph_iret (pc := 29) dX9_often_29 rfl
    · refine ph_aload_n (i := 0) (pc := 18) dX9_often_18 rfl rfl ?_
      refine ph_iload_n (i := 1) (pc := 19) dX9_often_19 rfl rfl ?_
      refine ph_iload_n (i := 2) (pc := 20) dX9_often_20 rfl rfl ?_
      refine ph_callVi (pc := 21) dX9_often_21 ph_mf_yX9_oftenOf ph_ml_RX9_213 ph_mi_yX9_oftenOf ph_mv_yX9_oftenOf rfl rfl (c_X9_oftenOf Z (d - 1) (by omega) x1 x2 h10) (by omega) rfl rfl (Nat.le_of_ble_eq_true rfl) (fun v12 h13 => ?_)
      refine ph_goto (tgt := 29) (pc := 24) dX9_often_24 (by decide) ?_
      exact ph_iret (pc := 29) dX9_often_29 rfl
def f_X9_mayOf (x1 : Int32) (x2 : Int32) (h : ph_Hp) : Option (Int32 × ph_Hp) :=
  ph_ldI h 63 40 x1 fun v4 =>
  ph_lp (α := Int32 × Int32 × ph_Hp) (fun j5 (x6, x7, h8) =>
    if (ph_shl (nI 1) (h8.1 51 9)) ≤ x7 then
      ph_stI h8 63 40 x1 v4 fun h10 =>
      ph_cl (f_X9_lives (nI 0) (nI 39) h10) fun _ h12 =>
      some (x6, h12)
    else
      ph_stI h8 63 40 x1 (v4 ||| x7) fun h13 =>
      ph_cl (f_X9_lives (nI 0) x2 h13) fun _ h15 =>
      ph_jn (α := Int32) (fun x17 =>
        j5 (x6 ||| x17, x7 + (nI 1), h15)) (fun j16 =>
        if (h15.1 51 7) = nI 0 then
          j16 (nI 0)
        else
          ph_ldI h15 65 40 x2 fun v19 =>
          j16 (ph_shl (nI 1) v19))) ph_fu ((nI 0), (nI 0), h)
set_option maxRecDepth 100000 in
theorem c_X9_mayOf (Z : ph_L) (d : Nat) (hdd : 5 ≤ d) (x1 : Int32) (x2 : Int32) (h : ph_Hp) : ph_CM Z yX9_mayOf cX9_mayOf 6 (some .int) d [.ref (ph_a Z 51), .int x1, .int x2] ph_vi h (f_X9_mayOf x1 x2 h) := by
  refine ph_begin (own := RX9) ph_mf_yX9_mayOf rfl (ls := [some (.ref (ph_a Z 51)), some (.int x1), some (.int x2), none, none, none]) rfl (Nat.le_of_ble_eq_true rfl) ?_
  unfold f_X9_mayOf
  refine ph_aload_n (i := 0) (pc := 0) dX9_mayOf_0 rfl rfl ?_
  refine ph_getR (j := 63) (pc := 1) dX9_mayOf_1 ph_fl_RX9_43 rfl rfl rfl ?_
  refine ph_iload_n (i := 1) (pc := 4) dX9_mayOf_4 rfl rfl ?_
  refine ph_iald (pc := 5) dX9_mayOf_5 rfl rfl (fun v4 => ?_)
  refine ph_istore_n (i := 3) (ls1 := [some (.ref (ph_a Z 51)), some (.int x1), some (.int x2), some (.int v4), none, none]) (pc := 6) dX9_mayOf_6 rfl (by decide) rfl ?_
  refine ph_iconst (v := (nI 0)) (pc := 7) dX9_mayOf_7 ph_ic_0 ?_
  refine ph_istore (i := 4) (ls1 := [some (.ref (ph_a Z 51)), some (.int x1), some (.int x2), some (.int v4), some (.int (nI 0)), none]) (pc := 8) dX9_mayOf_8 (by decide) rfl ?_
  refine ph_iconst (v := (nI 0)) (pc := 10) dX9_mayOf_10 ph_ic_0 ?_
  refine ph_istore (i := 5) (ls1 := [some (.ref (ph_a Z 51)), some (.int x1), some (.int x2), some (.int v4), some (.int (nI 0)), some (.int (nI 0))]) (pc := 11) dX9_mayOf_11 (by decide) rfl ?_
  refine ph_loop (α := Int32 × Int32 × ph_Hp) 13 (fun x => [some (.ref (ph_a Z 51)), some (.int x1), some (.int x2), some (.int v4), some (.int x.1), some (.int x.2.1)]) (fun x => []) (fun x => x.2.2) (fun j5 hj5 x => ?_) ph_fu ((nI 0), (nI 0), h)
  obtain ⟨x6, x7, h8⟩ := x
  dsimp only
  refine ph_iload (i := 5) (pc := 13) dX9_mayOf_13 rfl ?_
  refine ph_iconst (v := (nI 1)) (pc := 15) dX9_mayOf_15 ph_ic_1 ?_
  refine ph_aload_n (i := 0) (pc := 16) dX9_mayOf_16 rfl rfl ?_
  refine ph_getI (pc := 17) dX9_mayOf_17 ph_fl_RX9_113 rfl (by decide) ?_
  refine ph_ishl (pc := 20) dX9_mayOf_20 ?_
  refine ph_icmp_ge (tgt := 70) (pc := 21) dX9_mayOf_21 (by decide) (fun c9 => ?_) (fun c9 => ?_)
  · refine ph_aload_n (i := 0) (pc := 70) dX9_mayOf_70 rfl rfl ?_
    refine ph_getR (j := 63) (pc := 71) dX9_mayOf_71 ph_fl_RX9_43 rfl rfl rfl ?_
    refine ph_iload_n (i := 1) (pc := 74) dX9_mayOf_74 rfl rfl ?_
    refine ph_iload_n (i := 3) (pc := 75) dX9_mayOf_75 rfl rfl ?_
    refine ph_iast (pc := 76) dX9_mayOf_76 rfl rfl (fun h10 => ?_)
    refine ph_aload_n (i := 0) (pc := 77) dX9_mayOf_77 rfl rfl ?_
    refine ph_iconst (v := (nI 0)) (pc := 78) dX9_mayOf_78 ph_ic_0 ?_
    refine ph_bipush (v := (nI 39)) (pc := 79) dX9_mayOf_79 ph_bp_39 ?_
    refine ph_callVv (pc := 81) dX9_mayOf_81 ph_mf_yX9_lives ph_ml_RX9_191 ph_mi_yX9_lives ph_mv_yX9_lives rfl rfl (c_X9_lives Z (d - 1) (by omega) (nI 0) (nI 39) h10) (by omega) rfl rfl (Nat.le_of_ble_eq_true rfl) (fun v11 h12 => ?_)
    refine ph_iload (i := 4) (pc := 84) dX9_mayOf_84 rfl ?_
    exact ph_iret (pc := 86) dX9_mayOf_86 rfl
  · refine ph_aload_n (i := 0) (pc := 24) dX9_mayOf_24 rfl rfl ?_
    refine ph_getR (j := 63) (pc := 25) dX9_mayOf_25 ph_fl_RX9_43 rfl rfl rfl ?_
    refine ph_iload_n (i := 1) (pc := 28) dX9_mayOf_28 rfl rfl ?_
    refine ph_iload_n (i := 3) (pc := 29) dX9_mayOf_29 rfl rfl ?_
    refine ph_iload (i := 5) (pc := 30) dX9_mayOf_30 rfl ?_
    refine ph_ior (pc := 32) dX9_mayOf_32 ?_
    refine ph_iast (pc := 33) dX9_mayOf_33 rfl rfl (fun h13 => ?_)
    refine ph_aload_n (i := 0) (pc := 34) dX9_mayOf_34 rfl rfl ?_
    refine ph_iconst (v := (nI 0)) (pc := 35) dX9_mayOf_35 ph_ic_0 ?_
    refine ph_iload_n (i := 2) (pc := 36) dX9_mayOf_36 rfl rfl ?_
    refine ph_callVv (pc := 37) dX9_mayOf_37 ph_mf_yX9_lives ph_ml_RX9_191 ph_mi_yX9_lives ph_mv_yX9_lives rfl rfl (c_X9_lives Z (d - 1) (by omega) (nI 0) x2 h13) (by omega) rfl rfl (Nat.le_of_ble_eq_true rfl) (fun v14 h15 => ?_)
    refine ph_iload (i := 4) (pc := 40) dX9_mayOf_40 rfl ?_
    refine ph_aload_n (i := 0) (pc := 42) dX9_mayOf_42 rfl rfl ?_
    refine ph_getI (pc := 43) dX9_mayOf_43 ph_fl_RX9_103 rfl (by decide) ?_
    refine ph_join (α := Int32) 61 (fun x => [some (.ref (ph_a Z 51)), some (.int x1), some (.int x2), some (.int v4), none, some (.int x7)]) (fun x => [.int x, .int x6]) (fun x => h15) (fun x => ?_) (fun j16 hj16 => ?_)
    · revert x; intro x17
      refine ph_ior (pc := 61) dX9_mayOf_61 ?_
      refine ph_istore (i := 4) (ls1 := [some (.ref (ph_a Z 51)), some (.int x1), some (.int x2), some (.int v4), some (.int (x6 ||| x17)), some (.int x7)]) (pc := 62) dX9_mayOf_62 (by decide) rfl ?_
      refine ph_iinc (i := 5) (v := (nI 1)) (ls1 := [some (.ref (ph_a Z 51)), some (.int x1), some (.int x2), some (.int v4), some (.int (x6 ||| x17)), some (.int (x7 + (nI 1)))]) (pc := 64) dX9_mayOf_64 rfl ph_ic_1 (by decide) rfl ?_
      refine ph_goto (tgt := 13) (pc := 67) dX9_mayOf_67 (by decide) ?_
      exact hj5 (x6 ||| x17, x7 + (nI 1), h15)
    · refine ph_if_ne (tgt := 53) (pc := 46) dX9_mayOf_46 (by decide) (fun c18 => ?_) (fun c18 => ?_)
      · refine ph_iconst (v := (nI 1)) (pc := 53) dX9_mayOf_53 ph_ic_1 ?_
        refine ph_aload_n (i := 0) (pc := 54) dX9_mayOf_54 rfl rfl ?_
        refine ph_getR (j := 65) (pc := 55) dX9_mayOf_55 ph_fl_RX9_49 rfl rfl rfl ?_
        refine ph_iload_n (i := 2) (pc := 58) dX9_mayOf_58 rfl rfl ?_
        refine ph_iald (pc := 59) dX9_mayOf_59 rfl rfl (fun v19 => ?_)
        refine ph_ishl (pc := 60) dX9_mayOf_60 ?_
        refine ph_wk (ls1 := [some (.ref (ph_a Z 51)), some (.int x1), some (.int x2), some (.int v4), none, some (.int x7)]) ⟨rfl, ⟨rfl, ⟨rfl, ⟨rfl, ⟨rfl, trivial⟩⟩⟩⟩⟩ ?_
        exact hj16 (ph_shl (nI 1) v19)
      · refine ph_iconst (v := (nI 0)) (pc := 49) dX9_mayOf_49 ph_ic_0 ?_
        refine ph_goto (tgt := 61) (pc := 50) dX9_mayOf_50 (by decide) ?_
        refine ph_wk (ls1 := [some (.ref (ph_a Z 51)), some (.int x1), some (.int x2), some (.int v4), none, some (.int x7)]) ⟨rfl, ⟨rfl, ⟨rfl, ⟨rfl, ⟨rfl, trivial⟩⟩⟩⟩⟩ ?_
        exact hj16 (nI 0)
def f_X9_may (x1 : Int32) (x2 : Int32) (h : ph_Hp) : Option (Int32 × ph_Hp) :=
  ph_cl (f_X9_find h) fun _ h5 =>
  ph_cl (f_X9_isStep x1 h5) fun v6 h7 =>
  if v6 = nI 0 then
    some ((-2), h7)
  else
    ph_cl (f_X9_isStep x2 h7) fun v9 h10 =>
    if v9 = nI 0 then
      some ((-2), h10)
    else
      ph_cl (f_X9_mayOf x1 x2 h10) fun v12 h13 =>
      some (v12, h13)
set_option maxRecDepth 100000 in
theorem c_X9_may (Z : ph_L) (d : Nat) (hdd : 7 ≤ d) (x1 : Int32) (x2 : Int32) (h : ph_Hp) : ph_CM Z yX9_may cX9_may 3 (some .int) d [.ref (ph_a Z 51), .int x1, .int x2] ph_vi h (f_X9_may x1 x2 h) := by
  refine ph_begin (own := RX9) ph_mf_yX9_may rfl (ls := [some (.ref (ph_a Z 51)), some (.int x1), some (.int x2)]) rfl (Nat.le_of_ble_eq_true rfl) ?_
  unfold f_X9_may
  refine ph_aload_n (i := 0) (pc := 0) dX9_may_0 rfl rfl ?_
  refine ph_callVv (pc := 1) dX9_may_1 ph_mf_yX9_find ph_ml_RX9_198 ph_mi_yX9_find ph_mv_yX9_find rfl rfl (c_X9_find Z (d - 1) (by omega) h) (by omega) rfl rfl (Nat.le_of_ble_eq_true rfl) (fun v4 h5 => ?_)
  refine ph_iload_n (i := 1) (pc := 4) dX9_may_4 rfl rfl ?_
  refine ph_callSi (pc := 5) dX9_may_5 ph_mf_yX9_isStep ph_ml_RX9_144 ph_ms_yX9_isStep (c_X9_isStep Z (d - 1) (by omega) x1 h5) (by omega) rfl rfl (Nat.le_of_ble_eq_true rfl) (fun v6 h7 => ?_)
  refine ph_if_eq (tgt := 27) (pc := 8) dX9_may_8 (by decide) (fun c8 => ?_) (fun c8 => ?_)
  · refine ph_bipush (v := (-2)) (pc := 27) dX9_may_27 ph_bp_m2 ?_
    exact ph_iret (pc := 29) dX9_may_29 rfl
  · refine ph_iload_n (i := 2) (pc := 11) dX9_may_11 rfl rfl ?_
    refine ph_callSi (pc := 12) dX9_may_12 ph_mf_yX9_isStep ph_ml_RX9_144 ph_ms_yX9_isStep (c_X9_isStep Z (d - 1) (by omega) x2 h7) (by omega) rfl rfl (Nat.le_of_ble_eq_true rfl) (fun v9 h10 => ?_)
    refine ph_if_eq (tgt := 27) (pc := 15) dX9_may_15 (by decide) (fun c11 => ?_) (fun c11 => ?_)
    · refine ph_bipush (v := (-2)) (pc := 27) dX9_may_27 ph_bp_m2 ?_
      exact ph_iret (pc := 29) dX9_may_29 rfl
    · refine ph_aload_n (i := 0) (pc := 18) dX9_may_18 rfl rfl ?_
      refine ph_iload_n (i := 1) (pc := 19) dX9_may_19 rfl rfl ?_
      refine ph_iload_n (i := 2) (pc := 20) dX9_may_20 rfl rfl ?_
      refine ph_callVi (pc := 21) dX9_may_21 ph_mf_yX9_mayOf ph_ml_RX9_216 ph_mi_yX9_mayOf ph_mv_yX9_mayOf rfl rfl (c_X9_mayOf Z (d - 1) (by omega) x1 x2 h10) (by omega) rfl rfl (Nat.le_of_ble_eq_true rfl) (fun v12 h13 => ?_)
      refine ph_goto (tgt := 29) (pc := 24) dX9_may_24 (by decide) ?_
      exact ph_iret (pc := 29) dX9_may_29 rfl
def f_X9_promptOf (x1 : Int32) (x2 : Int32) (x3 : Int32) (x4 : Int32) (h : ph_Hp) : Option (Int32 × ph_Hp) :=
  ph_lp (α := Int32 × Int32 × Int32 × Int32 × ph_Hp) (fun j6 (x7, x8, x9, x10, h11) =>
    ph_jn (α := Unit) (fun _x =>
      ph_pfI h11 51 22 (-1) fun h13 =>
      ph_cl (f_X9_lives (nI 0) (nI 39) h13) fun _ h15 =>
      if x4 = nI 0 then
        some (x7, h15)
      else
        if x4 = (nI 1) then
          some (x8, h15)
        else
          some (x9, h15)) (fun j12 =>
      if x2 ≤ x10 then
        j12 ()
      else
        if (h11.1 51 7) ≤ nI 0 then
          j12 ()
        else
          ph_lp (α := Int32 × Int32 × Int32 × Int32 × ph_Hp) (fun j20 (x21, x22, x23, x24, h25) =>
            if (nI 8) ≤ x24 then
              ph_pfI h25 51 22 (-1) fun h27 =>
              ph_cl (f_X9_lives x10 x2 h27) fun _ h29 =>
              j6 (x21, x22, x23, x10 + (nI 1), h29)
            else
              ph_pfI h25 51 22 x10 fun h30 =>
              ph_pfI h30 51 23 x24 fun h31 =>
              ph_cl (f_X9_lives x10 x2 h31) fun _ h33 =>
              ph_ldI h33 65 40 x2 fun v34 =>
              ph_jn (α := Int32 × Int32 × Int32) (fun (x36, x37, x38) =>
                j20 (x36, x37, x38, x24 + (nI 1), h33)) (fun j35 =>
                if v34 = x3 then
                  ph_jn (α := Int32) (fun x41 =>
                    j35 (x41, x10, x23 + (nI 1))) (fun j40 =>
                    if x23 = nI 0 then
                      j40 (((nI 8) * x10) + x24)
                    else
                      j40 x21)
                else
                  j35 (x21, x22, x23))) ph_fu (x7, x8, x9, (nI 0), h11))) ph_fu ((-1), (-1), (nI 0), x1, h)
set_option maxRecDepth 100000 in
theorem c_X9_promptOf (Z : ph_L) (d : Nat) (hdd : 5 ≤ d) (x1 : Int32) (x2 : Int32) (x3 : Int32) (x4 : Int32) (h : ph_Hp) : ph_CM Z yX9_promptOf cX9_promptOf 10 (some .int) d [.ref (ph_a Z 51), .int x1, .int x2, .int x3, .int x4] ph_vi h (f_X9_promptOf x1 x2 x3 x4 h) := by
  refine ph_begin (own := RX9) ph_mf_yX9_promptOf rfl (ls := [some (.ref (ph_a Z 51)), some (.int x1), some (.int x2), some (.int x3), some (.int x4), none, none, none, none, none]) rfl (Nat.le_of_ble_eq_true rfl) ?_
  unfold f_X9_promptOf
  refine ph_iconst (v := (-1)) (pc := 0) dX9_promptOf_0 ph_ic_m1 ?_
  refine ph_istore (i := 5) (ls1 := [some (.ref (ph_a Z 51)), some (.int x1), some (.int x2), some (.int x3), some (.int x4), some (.int (-1)), none, none, none, none]) (pc := 1) dX9_promptOf_1 (by decide) rfl ?_
  refine ph_iconst (v := (-1)) (pc := 3) dX9_promptOf_3 ph_ic_m1 ?_
  refine ph_istore (i := 6) (ls1 := [some (.ref (ph_a Z 51)), some (.int x1), some (.int x2), some (.int x3), some (.int x4), some (.int (-1)), some (.int (-1)), none, none, none]) (pc := 4) dX9_promptOf_4 (by decide) rfl ?_
  refine ph_iconst (v := (nI 0)) (pc := 6) dX9_promptOf_6 ph_ic_0 ?_
  refine ph_istore (i := 7) (ls1 := [some (.ref (ph_a Z 51)), some (.int x1), some (.int x2), some (.int x3), some (.int x4), some (.int (-1)), some (.int (-1)), some (.int (nI 0)), none, none]) (pc := 7) dX9_promptOf_7 (by decide) rfl ?_
  refine ph_iload_n (i := 1) (pc := 9) dX9_promptOf_9 rfl rfl ?_
  refine ph_istore (i := 8) (ls1 := [some (.ref (ph_a Z 51)), some (.int x1), some (.int x2), some (.int x3), some (.int x4), some (.int (-1)), some (.int (-1)), some (.int (nI 0)), some (.int x1), none]) (pc := 10) dX9_promptOf_10 (by decide) rfl ?_
  refine ph_wk (ls1 := [some (.ref (ph_a Z 51)), none, some (.int x2), some (.int x3), some (.int x4), some (.int (-1)), some (.int (-1)), some (.int (nI 0)), some (.int x1), none]) ⟨rfl, ⟨rfl, ⟨rfl, ⟨rfl, ⟨rfl, ⟨rfl, ⟨rfl, ⟨rfl, trivial⟩⟩⟩⟩⟩⟩⟩⟩ ?_
  refine ph_loop (α := Int32 × Int32 × Int32 × Int32 × ph_Hp) 12 (fun x => [some (.ref (ph_a Z 51)), none, some (.int x2), some (.int x3), some (.int x4), some (.int x.1), some (.int x.2.1), some (.int x.2.2.1), some (.int x.2.2.2.1), none]) (fun x => []) (fun x => x.2.2.2.2) (fun j6 hj6 x => ?_) ph_fu ((-1), (-1), (nI 0), x1, h)
  obtain ⟨x7, x8, x9, x10, h11⟩ := x
  dsimp only
  refine ph_iload (i := 8) (pc := 12) dX9_promptOf_12 rfl ?_
  refine ph_iload_n (i := 2) (pc := 14) dX9_promptOf_14 rfl rfl ?_
  refine ph_join (α := Unit) 115 (fun x => [some (.ref (ph_a Z 51)), none, none, none, some (.int x4), some (.int x7), some (.int x8), some (.int x9), none, none]) (fun x => []) (fun x => h11) (fun x => ?_) (fun j12 hj12 => ?_)
  · refine ph_aload_n (i := 0) (pc := 115) dX9_promptOf_115 rfl rfl ?_
    refine ph_iconst (v := (-1)) (pc := 116) dX9_promptOf_116 ph_ic_m1 ?_
    refine ph_putI (pc := 117) dX9_promptOf_117 ph_pl_RX9_65 rfl (by decide) rfl rfl (fun h13 => ?_)
    refine ph_aload_n (i := 0) (pc := 120) dX9_promptOf_120 rfl rfl ?_
    refine ph_iconst (v := (nI 0)) (pc := 121) dX9_promptOf_121 ph_ic_0 ?_
    refine ph_bipush (v := (nI 39)) (pc := 122) dX9_promptOf_122 ph_bp_39 ?_
    refine ph_callVv (pc := 124) dX9_promptOf_124 ph_mf_yX9_lives ph_ml_RX9_191 ph_mi_yX9_lives ph_mv_yX9_lives rfl rfl (c_X9_lives Z (d - 1) (by omega) (nI 0) (nI 39) h13) (by omega) rfl rfl (Nat.le_of_ble_eq_true rfl) (fun v14 h15 => ?_)
    refine ph_iload (i := 4) (pc := 127) dX9_promptOf_127 rfl ?_
    refine ph_if_ne (tgt := 137) (pc := 129) dX9_promptOf_129 (by decide) (fun c16 => ?_) (fun c16 => ?_)
    · refine ph_iload (i := 4) (pc := 137) dX9_promptOf_137 rfl ?_
      refine ph_iconst (v := (nI 1)) (pc := 139) dX9_promptOf_139 ph_ic_1 ?_
      refine ph_icmp_ne (tgt := 148) (pc := 140) dX9_promptOf_140 (by decide) (fun c17 => ?_) (fun c17 => ?_)
      · refine ph_iload (i := 7) (pc := 148) dX9_promptOf_148 rfl ?_
        exact ph_iret (pc := 150) dX9_promptOf_150 rfl
      · refine ph_iload (i := 6) (pc := 143) dX9_promptOf_143 rfl ?_
        refine ph_goto (tgt := 150) (pc := 145) dX9_promptOf_145 (by decide) ?_
        exact ph_iret (pc := 150) dX9_promptOf_150 rfl
    · refine ph_iload (i := 5) (pc := 132) dX9_promptOf_132 rfl ?_
      refine ph_goto (tgt := 150) (pc := 134) dX9_promptOf_134 (by decide) ?_
      exact ph_iret (pc := 150) dX9_promptOf_150 rfl
  · refine ph_icmp_ge (tgt := 115) (pc := 15) dX9_promptOf_15 (by decide) (fun c18 => ?_) (fun c18 => ?_)
    · refine ph_wk (ls1 := [some (.ref (ph_a Z 51)), none, none, none, some (.int x4), some (.int x7), some (.int x8), some (.int x9), none, none]) ⟨rfl, ⟨rfl, ⟨rfl, ⟨rfl, ⟨rfl, trivial⟩⟩⟩⟩⟩ ?_
      exact hj12 ()
    · refine ph_aload_n (i := 0) (pc := 18) dX9_promptOf_18 rfl rfl ?_
      refine ph_getI (pc := 19) dX9_promptOf_19 ph_fl_RX9_103 rfl (by decide) ?_
      refine ph_if_le (tgt := 115) (pc := 22) dX9_promptOf_22 (by decide) (fun c19 => ?_) (fun c19 => ?_)
      · refine ph_wk (ls1 := [some (.ref (ph_a Z 51)), none, none, none, some (.int x4), some (.int x7), some (.int x8), some (.int x9), none, none]) ⟨rfl, ⟨rfl, ⟨rfl, ⟨rfl, ⟨rfl, trivial⟩⟩⟩⟩⟩ ?_
        exact hj12 ()
      · refine ph_iconst (v := (nI 0)) (pc := 25) dX9_promptOf_25 ph_ic_0 ?_
        refine ph_istore (i := 9) (ls1 := [some (.ref (ph_a Z 51)), none, some (.int x2), some (.int x3), some (.int x4), some (.int x7), some (.int x8), some (.int x9), some (.int x10), some (.int (nI 0))]) (pc := 26) dX9_promptOf_26 (by decide) rfl ?_
        refine ph_loop (α := Int32 × Int32 × Int32 × Int32 × ph_Hp) 28 (fun x => [some (.ref (ph_a Z 51)), none, some (.int x2), some (.int x3), some (.int x4), some (.int x.1), some (.int x.2.1), some (.int x.2.2.1), some (.int x10), some (.int x.2.2.2.1)]) (fun x => []) (fun x => x.2.2.2.2) (fun j20 hj20 x => ?_) ph_fu (x7, x8, x9, (nI 0), h11)
        obtain ⟨x21, x22, x23, x24, h25⟩ := x
        dsimp only
        refine ph_iload (i := 9) (pc := 28) dX9_promptOf_28 rfl ?_
        refine ph_bipush (v := (nI 8)) (pc := 30) dX9_promptOf_30 ph_bp_8 ?_
        refine ph_icmp_ge (tgt := 97) (pc := 32) dX9_promptOf_32 (by decide) (fun c26 => ?_) (fun c26 => ?_)
        · refine ph_aload_n (i := 0) (pc := 97) dX9_promptOf_97 rfl rfl ?_
          refine ph_iconst (v := (-1)) (pc := 98) dX9_promptOf_98 ph_ic_m1 ?_
          refine ph_putI (pc := 99) dX9_promptOf_99 ph_pl_RX9_65 rfl (by decide) rfl rfl (fun h27 => ?_)
          refine ph_aload_n (i := 0) (pc := 102) dX9_promptOf_102 rfl rfl ?_
          refine ph_iload (i := 8) (pc := 103) dX9_promptOf_103 rfl ?_
          refine ph_iload_n (i := 2) (pc := 105) dX9_promptOf_105 rfl rfl ?_
          refine ph_callVv (pc := 106) dX9_promptOf_106 ph_mf_yX9_lives ph_ml_RX9_191 ph_mi_yX9_lives ph_mv_yX9_lives rfl rfl (c_X9_lives Z (d - 1) (by omega) x10 x2 h27) (by omega) rfl rfl (Nat.le_of_ble_eq_true rfl) (fun v28 h29 => ?_)
          refine ph_iinc (i := 8) (v := (nI 1)) (ls1 := [some (.ref (ph_a Z 51)), none, some (.int x2), some (.int x3), some (.int x4), some (.int x21), some (.int x22), some (.int x23), some (.int (x10 + (nI 1))), some (.int x24)]) (pc := 109) dX9_promptOf_109 rfl ph_ic_1 (by decide) rfl ?_
          refine ph_goto (tgt := 12) (pc := 112) dX9_promptOf_112 (by decide) ?_
          refine ph_wk (ls1 := [some (.ref (ph_a Z 51)), none, some (.int x2), some (.int x3), some (.int x4), some (.int x21), some (.int x22), some (.int x23), some (.int (x10 + (nI 1))), none]) ⟨rfl, ⟨rfl, ⟨rfl, ⟨rfl, ⟨rfl, ⟨rfl, ⟨rfl, ⟨rfl, trivial⟩⟩⟩⟩⟩⟩⟩⟩ ?_
          exact hj6 (x21, x22, x23, x10 + (nI 1), h29)
        · refine ph_aload_n (i := 0) (pc := 35) dX9_promptOf_35 rfl rfl ?_
          refine ph_iload (i := 8) (pc := 36) dX9_promptOf_36 rfl ?_
          refine ph_putI (pc := 38) dX9_promptOf_38 ph_pl_RX9_65 rfl (by decide) rfl rfl (fun h30 => ?_)
          refine ph_aload_n (i := 0) (pc := 41) dX9_promptOf_41 rfl rfl ?_
          refine ph_iload (i := 9) (pc := 42) dX9_promptOf_42 rfl ?_
          refine ph_putI (pc := 44) dX9_promptOf_44 ph_pl_RX9_178 rfl (by decide) rfl rfl (fun h31 => ?_)
          refine ph_aload_n (i := 0) (pc := 47) dX9_promptOf_47 rfl rfl ?_
          refine ph_iload (i := 8) (pc := 48) dX9_promptOf_48 rfl ?_
          refine ph_iload_n (i := 2) (pc := 50) dX9_promptOf_50 rfl rfl ?_
          refine ph_callVv (pc := 51) dX9_promptOf_51 ph_mf_yX9_lives ph_ml_RX9_191 ph_mi_yX9_lives ph_mv_yX9_lives rfl rfl (c_X9_lives Z (d - 1) (by omega) x10 x2 h31) (by omega) rfl rfl (Nat.le_of_ble_eq_true rfl) (fun v32 h33 => ?_)
          refine ph_aload_n (i := 0) (pc := 54) dX9_promptOf_54 rfl rfl ?_
          refine ph_getR (j := 65) (pc := 55) dX9_promptOf_55 ph_fl_RX9_49 rfl rfl rfl ?_
          refine ph_iload_n (i := 2) (pc := 58) dX9_promptOf_58 rfl rfl ?_
          refine ph_iald (pc := 59) dX9_promptOf_59 rfl rfl (fun v34 => ?_)
          refine ph_iload_n (i := 3) (pc := 60) dX9_promptOf_60 rfl rfl ?_
          refine ph_join (α := Int32 × Int32 × Int32) 91 (fun x => [some (.ref (ph_a Z 51)), none, some (.int x2), some (.int x3), some (.int x4), some (.int x.1), some (.int x.2.1), some (.int x.2.2), some (.int x10), some (.int x24)]) (fun x => []) (fun x => h33) (fun x => ?_) (fun j35 hj35 => ?_)
          · obtain ⟨x36, x37, x38⟩ := x
            dsimp only
            refine ph_iinc (i := 9) (v := (nI 1)) (ls1 := [some (.ref (ph_a Z 51)), none, some (.int x2), some (.int x3), some (.int x4), some (.int x36), some (.int x37), some (.int x38), some (.int x10), some (.int (x24 + (nI 1)))]) (pc := 91) dX9_promptOf_91 rfl ph_ic_1 (by decide) rfl ?_
            refine ph_goto (tgt := 28) (pc := 94) dX9_promptOf_94 (by decide) ?_
            exact hj20 (x36, x37, x38, x24 + (nI 1), h33)
          · refine ph_icmp_ne (tgt := 91) (pc := 61) dX9_promptOf_61 (by decide) (fun c39 => ?_) (fun c39 => ?_)
            · exact hj35 (x21, x22, x23)
            · refine ph_iload (i := 7) (pc := 64) dX9_promptOf_64 rfl ?_
              refine ph_join (α := Int32) 82 (fun x => [some (.ref (ph_a Z 51)), none, some (.int x2), some (.int x3), some (.int x4), none, none, some (.int x23), some (.int x10), some (.int x24)]) (fun x => [.int x]) (fun x => h33) (fun x => ?_) (fun j40 hj40 => ?_)
              · revert x; intro x41
                refine ph_istore (i := 5) (ls1 := [some (.ref (ph_a Z 51)), none, some (.int x2), some (.int x3), some (.int x4), some (.int x41), none, some (.int x23), some (.int x10), some (.int x24)]) (pc := 82) dX9_promptOf_82 (by decide) rfl ?_
                refine ph_iload (i := 8) (pc := 84) dX9_promptOf_84 rfl ?_
                refine ph_istore (i := 6) (ls1 := [some (.ref (ph_a Z 51)), none, some (.int x2), some (.int x3), some (.int x4), some (.int x41), some (.int x10), some (.int x23), some (.int x10), some (.int x24)]) (pc := 86) dX9_promptOf_86 (by decide) rfl ?_
                refine ph_iinc (i := 7) (v := (nI 1)) (ls1 := [some (.ref (ph_a Z 51)), none, some (.int x2), some (.int x3), some (.int x4), some (.int x41), some (.int x10), some (.int (x23 + (nI 1))), some (.int x10), some (.int x24)]) (pc := 88) dX9_promptOf_88 rfl ph_ic_1 (by decide) rfl ?_
                exact hj35 (x41, x10, x23 + (nI 1))
              · refine ph_if_ne (tgt := 80) (pc := 66) dX9_promptOf_66 (by decide) (fun c42 => ?_) (fun c42 => ?_)
                · refine ph_iload (i := 5) (pc := 80) dX9_promptOf_80 rfl ?_
                  refine ph_wk (ls1 := [some (.ref (ph_a Z 51)), none, some (.int x2), some (.int x3), some (.int x4), none, none, some (.int x23), some (.int x10), some (.int x24)]) ⟨rfl, ⟨rfl, ⟨rfl, ⟨rfl, ⟨rfl, ⟨rfl, ⟨rfl, trivial⟩⟩⟩⟩⟩⟩⟩ ?_
                  exact hj40 x21
                · refine ph_bipush (v := (nI 8)) (pc := 69) dX9_promptOf_69 ph_bp_8 ?_
                  refine ph_iload (i := 8) (pc := 71) dX9_promptOf_71 rfl ?_
                  refine ph_imul (pc := 73) dX9_promptOf_73 ?_
                  refine ph_iload (i := 9) (pc := 74) dX9_promptOf_74 rfl ?_
                  refine ph_iadd (pc := 76) dX9_promptOf_76 ?_
                  refine ph_goto (tgt := 82) (pc := 77) dX9_promptOf_77 (by decide) ?_
                  refine ph_wk (ls1 := [some (.ref (ph_a Z 51)), none, some (.int x2), some (.int x3), some (.int x4), none, none, some (.int x23), some (.int x10), some (.int x24)]) ⟨rfl, ⟨rfl, ⟨rfl, ⟨rfl, ⟨rfl, ⟨rfl, ⟨rfl, trivial⟩⟩⟩⟩⟩⟩⟩ ?_
                  exact hj40 (((nI 8) * x10) + x24)
