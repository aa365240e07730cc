def f_X8_lay (x1 : Int32) (x2 : Int32) (x3 : Int32) (x4 : Int32) (h : ph_Hp) : Option (Int32 × ph_Hp) :=
  ph_cl (f_X8_within x1 (nI 4) h) fun v6 h7 =>
  if v6 = nI 0 then
    some ((-2), h7)
  else
    ph_cl (f_X8_within x2 (nI 3) h7) fun v9 h10 =>
    if v9 = nI 0 then
      some ((-2), h10)
    else
      ph_cl (f_X5_wrongWith x1 x2 x3 h10) fun v12 h13 =>
      if v12 = nI 0 then
        ph_cl (f_X5_put x1 x3 x4 h13) fun _ h16 =>
        some ((nI 1), h16)
      else
        ph_cl (f_X8_found v12 h13) fun v17 h18 =>
        some (v17, h18)
set_option maxRecDepth 100000 in
theorem c_X8_lay (Z : ph_L) (d : Nat) (hdd : 4 ≤ d) (x1 : Int32) (x2 : Int32) (x3 : Int32) (x4 : Int32) (h : ph_Hp) : ph_CM Z yX8_lay cX8_lay 6 (some .int) d [.ref (ph_a Z 0), .int x1, .int x2, .int x3, .int x4] ph_vi h (f_X8_lay x1 x2 x3 x4 h) := by
  refine ph_begin (own := RX8) ph_mf_yX8_lay rfl (ls := [some (.ref (ph_a Z 0)), some (.int x1), some (.int x2), some (.int x3), some (.int x4), none]) rfl (Nat.le_of_ble_eq_true rfl) ?_
  unfold f_X8_lay
  refine ph_iload_n (i := 1) (pc := 0) dX8_lay_0 rfl rfl ?_
  refine ph_iconst (v := (nI 4)) (pc := 1) dX8_lay_1 ph_ic_4 ?_
  refine ph_callSi (pc := 2) dX8_lay_2 ph_mf_yX8_within ph_ml_RX8_80 ph_ms_yX8_within (c_X8_within Z (d - 1) (by omega) x1 (nI 4) h) (by omega) rfl rfl (Nat.le_of_ble_eq_true rfl) (fun v6 h7 => ?_)
  refine ph_if_eq (tgt := 16) (pc := 5) dX8_lay_5 (by decide) (fun c8 => ?_) (fun c8 => ?_)
  · refine ph_bipush (v := (-2)) (pc := 16) dX8_lay_16 ph_bp_m2 ?_
    exact ph_iret (pc := 18) dX8_lay_18 rfl
  · refine ph_iload_n (i := 2) (pc := 8) dX8_lay_8 rfl rfl ?_
    refine ph_iconst (v := (nI 3)) (pc := 9) dX8_lay_9 ph_ic_3 ?_
    refine ph_callSi (pc := 10) dX8_lay_10 ph_mf_yX8_within ph_ml_RX8_80 ph_ms_yX8_within (c_X8_within Z (d - 1) (by omega) x2 (nI 3) h7) (by omega) rfl rfl (Nat.le_of_ble_eq_true rfl) (fun v9 h10 => ?_)
    refine ph_if_ne (tgt := 19) (pc := 13) dX8_lay_13 (by decide) (fun c11 => ?_) (fun c11 => ?_)
    · refine ph_aload_n (i := 0) (pc := 19) dX8_lay_19 rfl rfl ?_
      refine ph_getR (j := 47) (pc := 20) dX8_lay_20 ph_fl_RX8_72 rfl rfl rfl ?_
      refine ph_iload_n (i := 1) (pc := 23) dX8_lay_23 rfl rfl ?_
      refine ph_iload_n (i := 2) (pc := 24) dX8_lay_24 rfl rfl ?_
      refine ph_iload_n (i := 3) (pc := 25) dX8_lay_25 rfl rfl ?_
      refine ph_callVi (pc := 26) dX8_lay_26 ph_mf_yX5_wrongWith ph_ml_RX8_273 ph_mi_yX5_wrongWith ph_mv_yX5_wrongWith rfl rfl (c_X5_wrongWith Z (d - 1) (by omega) x1 x2 x3 h10) (by omega) rfl rfl (Nat.le_of_ble_eq_true rfl) (fun v12 h13 => ?_)
      refine ph_istore (i := 5) (ls1 := [some (.ref (ph_a Z 0)), some (.int x1), some (.int x2), some (.int x3), some (.int x4), some (.int v12)]) (pc := 29) dX8_lay_29 (by decide) rfl ?_
      refine ph_iload (i := 5) (pc := 31) dX8_lay_31 rfl ?_
      refine ph_if_eq (tgt := 43) (pc := 33) dX8_lay_33 (by decide) (fun c14 => ?_) (fun c14 => ?_)
      · refine ph_aload_n (i := 0) (pc := 43) dX8_lay_43 rfl rfl ?_
        refine ph_getR (j := 47) (pc := 44) dX8_lay_44 ph_fl_RX8_72 rfl rfl rfl ?_
        refine ph_iload_n (i := 1) (pc := 47) dX8_lay_47 rfl rfl ?_
        refine ph_iload_n (i := 3) (pc := 48) dX8_lay_48 rfl rfl ?_
        refine ph_iload (i := 4) (pc := 49) dX8_lay_49 rfl ?_
        refine ph_callVv (pc := 51) dX8_lay_51 ph_mf_yX5_put ph_ml_RX8_276 ph_mi_yX5_put ph_mv_yX5_put rfl rfl (c_X5_put Z (d - 1) (by omega) x1 x3 x4 h13) (by omega) rfl rfl (Nat.le_of_ble_eq_true rfl) (fun v15 h16 => ?_)
        refine ph_iconst (v := (nI 1)) (pc := 54) dX8_lay_54 ph_ic_1 ?_
        exact ph_iret (pc := 55) dX8_lay_55 rfl
      · refine ph_aload_n (i := 0) (pc := 36) dX8_lay_36 rfl rfl ?_
        refine ph_iload (i := 5) (pc := 37) dX8_lay_37 rfl ?_
        refine ph_callVi (pc := 39) dX8_lay_39 ph_mf_yX8_found ph_ml_RX8_159 ph_mi_yX8_found ph_mv_yX8_found rfl rfl (c_X8_found Z (d - 1) (by omega) v12 h13) (by omega) rfl rfl (Nat.le_of_ble_eq_true rfl) (fun v17 h18 => ?_)
        exact ph_iret (pc := 42) dX8_lay_42 rfl
    · refine ph_bipush (v := (-2)) (pc := 16) dX8_lay_16 ph_bp_m2 ?_
      exact ph_iret (pc := 18) dX8_lay_18 rfl
def f_X8_get (x1 : Int32) (x2 : Int32) (x3 : Int32) (h : ph_Hp) : Option (Int32 × ph_Hp) :=
  ph_cl (f_X8_within x1 (nI 4) h) fun v5 h6 =>
  if v5 = nI 0 then
    some ((-2147483648), h6)
  else
    ph_cl (f_X8_within x2 (nI 3) h6) fun v8 h9 =>
    if v8 = nI 0 then
      some ((-2147483648), h9)
    else
      ph_cl (f_X5_wrongWith x1 x2 x3 h9) fun v11 h12 =>
      if v11 = nI 0 then
        ph_cl (f_X5_item x1 x3 h12) fun v14 h15 =>
        some (v14, h15)
      else
        ph_pfI h12 0 13 v11 fun h16 =>
        some ((-2147483648), h16)
set_option maxRecDepth 100000 in
theorem c_X8_get (Z : ph_L) (d : Nat) (hdd : 4 ≤ d) (x1 : Int32) (x2 : Int32) (x3 : Int32) (h : ph_Hp) : ph_CM Z yX8_get cX8_get 5 (some .int) d [.ref (ph_a Z 0), .int x1, .int x2, .int x3] ph_vi h (f_X8_get x1 x2 x3 h) := by
  refine ph_begin (own := RX8) ph_mf_yX8_get rfl (ls := [some (.ref (ph_a Z 0)), some (.int x1), some (.int x2), some (.int x3), none]) rfl (Nat.le_of_ble_eq_true rfl) ?_
  unfold f_X8_get
  refine ph_iload_n (i := 1) (pc := 0) dX8_get_0 rfl rfl ?_
  refine ph_iconst (v := (nI 4)) (pc := 1) dX8_get_1 ph_ic_4 ?_
  refine ph_callSi (pc := 2) dX8_get_2 ph_mf_yX8_within ph_ml_RX8_80 ph_ms_yX8_within (c_X8_within Z (d - 1) (by omega) x1 (nI 4) h) (by omega) rfl rfl (Nat.le_of_ble_eq_true rfl) (fun v5 h6 => ?_)
  refine ph_if_eq (tgt := 16) (pc := 5) dX8_get_5 (by decide) (fun c7 => ?_) (fun c7 => ?_)
  · refine ph_ldcw (v := (-2147483648)) (pc := 16) dX8_get_16 ph_k_RX8_279 ?_
    exact ph_iret (pc := 19) dX8_get_19 rfl
  · refine ph_iload_n (i := 2) (pc := 8) dX8_get_8 rfl rfl ?_
    refine ph_iconst (v := (nI 3)) (pc := 9) dX8_get_9 ph_ic_3 ?_
    refine ph_callSi (pc := 10) dX8_get_10 ph_mf_yX8_within ph_ml_RX8_80 ph_ms_yX8_within (c_X8_within Z (d - 1) (by omega) x2 (nI 3) h6) (by omega) rfl rfl (Nat.le_of_ble_eq_true rfl) (fun v8 h9 => ?_)
    refine ph_if_ne (tgt := 20) (pc := 13) dX8_get_13 (by decide) (fun c10 => ?_) (fun c10 => ?_)
    · refine ph_aload_n (i := 0) (pc := 20) dX8_get_20 rfl rfl ?_
      refine ph_getR (j := 47) (pc := 21) dX8_get_21 ph_fl_RX8_72 rfl rfl rfl ?_
      refine ph_iload_n (i := 1) (pc := 24) dX8_get_24 rfl rfl ?_
      refine ph_iload_n (i := 2) (pc := 25) dX8_get_25 rfl rfl ?_
      refine ph_iload_n (i := 3) (pc := 26) dX8_get_26 rfl rfl ?_
      refine ph_callVi (pc := 27) dX8_get_27 ph_mf_yX5_wrongWith ph_ml_RX8_273 ph_mi_yX5_wrongWith ph_mv_yX5_wrongWith rfl rfl (c_X5_wrongWith Z (d - 1) (by omega) x1 x2 x3 h9) (by omega) rfl rfl (Nat.le_of_ble_eq_true rfl) (fun v11 h12 => ?_)
      refine ph_istore (i := 4) (ls1 := [some (.ref (ph_a Z 0)), some (.int x1), some (.int x2), some (.int x3), some (.int v11)]) (pc := 30) dX8_get_30 (by decide) rfl ?_
      refine ph_iload (i := 4) (pc := 32) dX8_get_32 rfl ?_
      refine ph_if_eq (tgt := 47) (pc := 34) dX8_get_34 (by decide) (fun c13 => ?_) (fun c13 => ?_)
      · refine ph_aload_n (i := 0) (pc := 47) dX8_get_47 rfl rfl ?_
        refine ph_getR (j := 47) (pc := 48) dX8_get_48 ph_fl_RX8_72 rfl rfl rfl ?_
        refine ph_iload_n (i := 1) (pc := 51) dX8_get_51 rfl rfl ?_
        refine ph_iload_n (i := 3) (pc := 52) dX8_get_52 rfl rfl ?_
        refine ph_callVi (pc := 53) dX8_get_53 ph_mf_yX5_item ph_ml_RX8_165 ph_mi_yX5_item ph_mv_yX5_item rfl rfl (c_X5_item Z (d - 1) (by omega) x1 x3 h12) (by omega) rfl rfl (Nat.le_of_ble_eq_true rfl) (fun v14 h15 => ?_)
        exact ph_iret (pc := 56) dX8_get_56 rfl
      · refine ph_aload_n (i := 0) (pc := 37) dX8_get_37 rfl rfl ?_
        refine ph_iload (i := 4) (pc := 38) dX8_get_38 rfl ?_
        refine ph_putI (pc := 40) dX8_get_40 ph_pl_RX8_76 rfl (by decide) rfl rfl (fun h16 => ?_)
        refine ph_ldcw (v := (-2147483648)) (pc := 43) dX8_get_43 ph_k_RX8_279 ?_
        exact ph_iret (pc := 46) dX8_get_46 rfl
    · refine ph_ldcw (v := (-2147483648)) (pc := 16) dX8_get_16 ph_k_RX8_279 ?_
      exact ph_iret (pc := 19) dX8_get_19 rfl
def f_X8_copy (x1 : Int32) (x2 : Int32) (x3 : Int32) (x4 : Int32) (x5 : Int32) (h : ph_Hp) : Option (Int32 × ph_Hp) :=
  ph_cl (f_X8_within x1 (nI 4) h) fun v7 h8 =>
  if v7 = nI 0 then
    some ((-2), h8)
  else
    ph_cl (f_X8_within x3 (nI 4) h8) fun v10 h11 =>
    if v10 = nI 0 then
      some ((-2), h11)
    else
      ph_cl (f_X5_isLost x1 h11) fun v13 h14 =>
      ph_jn (α := ph_Hp) (fun h16 =>
        ph_cl (f_X8_found (nI 1) h16) fun v17 h18 =>
        some (v17, h18)) (fun j15 =>
        if v13 = nI 0 then
          ph_cl (f_X5_isLost x3 h14) fun v20 h21 =>
          if v20 = nI 0 then
            ph_cl (f_X5_formOf x1 h21) fun v23 h24 =>
            ph_cl (f_X5_formOf x3 h24) fun v25 h26 =>
            if v23 = v25 then
              ph_cl (f_X5_hasRun x1 x2 x5 h26) fun v28 h29 =>
              ph_jn (α := ph_Hp) (fun h31 =>
                ph_cl (f_X8_found (nI 2) h31) fun v32 h33 =>
                some (v32, h33)) (fun j30 =>
                if v28 = nI 0 then
                  j30 h29
                else
                  ph_cl (f_X5_hasRun x3 x4 x5 h29) fun v35 h36 =>
                  if v35 = nI 0 then
                    j30 h36
                  else
                    ph_cl (f_X5_carry x1 x2 x3 x4 x5 h36) fun _ h39 =>
                    some ((nI 1), h39))
            else
              ph_cl (f_X8_found (nI 4) h26) fun v40 h41 =>
              some (v40, h41)
          else
            j15 h21
        else
          j15 h14)
set_option maxRecDepth 100000 in
theorem c_X8_copy (Z : ph_L) (d : Nat) (hdd : 3 ≤ d) (x1 : Int32) (x2 : Int32) (x3 : Int32) (x4 : Int32) (x5 : Int32) (h : ph_Hp) : ph_CM Z yX8_copy cX8_copy 6 (some .int) d [.ref (ph_a Z 0), .int x1, .int x2, .int x3, .int x4, .int x5] ph_vi h (f_X8_copy x1 x2 x3 x4 x5 h) := by
  refine ph_begin (own := RX8) ph_mf_yX8_copy rfl (ls := [some (.ref (ph_a Z 0)), some (.int x1), some (.int x2), some (.int x3), some (.int x4), some (.int x5)]) rfl (Nat.le_of_ble_eq_true rfl) ?_
  unfold f_X8_copy
  refine ph_iload_n (i := 1) (pc := 0) dX8_copy_0 rfl rfl ?_
  refine ph_iconst (v := (nI 4)) (pc := 1) dX8_copy_1 ph_ic_4 ?_
  refine ph_callSi (pc := 2) dX8_copy_2 ph_mf_yX8_within ph_ml_RX8_80 ph_ms_yX8_within (c_X8_within Z (d - 1) (by omega) x1 (nI 4) h) (by omega) rfl rfl (Nat.le_of_ble_eq_true rfl) (fun v7 h8 => ?_)
  refine ph_if_eq (tgt := 16) (pc := 5) dX8_copy_5 (by decide) (fun c9 => ?_) (fun c9 => ?_)
  · refine ph_bipush (v := (-2)) (pc := 16) dX8_copy_16 ph_bp_m2 ?_
    exact ph_iret (pc := 18) dX8_copy_18 rfl
  · refine ph_iload_n (i := 3) (pc := 8) dX8_copy_8 rfl rfl ?_
    refine ph_iconst (v := (nI 4)) (pc := 9) dX8_copy_9 ph_ic_4 ?_
    refine ph_callSi (pc := 10) dX8_copy_10 ph_mf_yX8_within ph_ml_RX8_80 ph_ms_yX8_within (c_X8_within Z (d - 1) (by omega) x3 (nI 4) h8) (by omega) rfl rfl (Nat.le_of_ble_eq_true rfl) (fun v10 h11 => ?_)
    refine ph_if_ne (tgt := 19) (pc := 13) dX8_copy_13 (by decide) (fun c12 => ?_) (fun c12 => ?_)
    · refine ph_aload_n (i := 0) (pc := 19) dX8_copy_19 rfl rfl ?_
      refine ph_getR (j := 47) (pc := 20) dX8_copy_20 ph_fl_RX8_72 rfl rfl rfl ?_
      refine ph_iload_n (i := 1) (pc := 23) dX8_copy_23 rfl rfl ?_
      refine ph_callVi (pc := 24) dX8_copy_24 ph_mf_yX5_isLost ph_ml_RX8_155 ph_mi_yX5_isLost ph_mv_yX5_isLost rfl rfl (c_X5_isLost Z (d - 1) (by omega) x1 h11) (by omega) rfl rfl (Nat.le_of_ble_eq_true rfl) (fun v13 h14 => ?_)
      refine ph_join (α := ph_Hp) 41 (fun x => [some (.ref (ph_a Z 0)), none, none, none, none, none]) (fun x => []) (fun x => x) (fun x => ?_) (fun j15 hj15 => ?_)
      · revert x; intro h16
        refine ph_aload_n (i := 0) (pc := 41) dX8_copy_41 rfl rfl ?_
        refine ph_iconst (v := (nI 1)) (pc := 42) dX8_copy_42 ph_ic_1 ?_
        refine ph_callVi (pc := 43) dX8_copy_43 ph_mf_yX8_found ph_ml_RX8_159 ph_mi_yX8_found ph_mv_yX8_found rfl rfl (c_X8_found Z (d - 1) (by omega) (nI 1) h16) (by omega) rfl rfl (Nat.le_of_ble_eq_true rfl) (fun v17 h18 => ?_)
        exact ph_iret (pc := 46) dX8_copy_46 rfl
      · refine ph_if_ne (tgt := 41) (pc := 27) dX8_copy_27 (by decide) (fun c19 => ?_) (fun c19 => ?_)
        · refine ph_wk (ls1 := [some (.ref (ph_a Z 0)), none, none, none, none, none]) ⟨rfl, trivial⟩ ?_
          exact hj15 h14
        · refine ph_aload_n (i := 0) (pc := 30) dX8_copy_30 rfl rfl ?_
          refine ph_getR (j := 47) (pc := 31) dX8_copy_31 ph_fl_RX8_72 rfl rfl rfl ?_
          refine ph_iload_n (i := 3) (pc := 34) dX8_copy_34 rfl rfl ?_
          refine ph_callVi (pc := 35) dX8_copy_35 ph_mf_yX5_isLost ph_ml_RX8_155 ph_mi_yX5_isLost ph_mv_yX5_isLost rfl rfl (c_X5_isLost Z (d - 1) (by omega) x3 h14) (by omega) rfl rfl (Nat.le_of_ble_eq_true rfl) (fun v20 h21 => ?_)
          refine ph_if_eq (tgt := 47) (pc := 38) dX8_copy_38 (by decide) (fun c22 => ?_) (fun c22 => ?_)
          · refine ph_aload_n (i := 0) (pc := 47) dX8_copy_47 rfl rfl ?_
            refine ph_getR (j := 47) (pc := 48) dX8_copy_48 ph_fl_RX8_72 rfl rfl rfl ?_
            refine ph_iload_n (i := 1) (pc := 51) dX8_copy_51 rfl rfl ?_
            refine ph_callVi (pc := 52) dX8_copy_52 ph_mf_yX5_formOf ph_ml_RX8_280 ph_mi_yX5_formOf ph_mv_yX5_formOf rfl rfl (c_X5_formOf Z (d - 1) (by omega) x1 h21) (by omega) rfl rfl (Nat.le_of_ble_eq_true rfl) (fun v23 h24 => ?_)
            refine ph_aload_n (i := 0) (pc := 55) dX8_copy_55 rfl rfl ?_
            refine ph_getR (j := 47) (pc := 56) dX8_copy_56 ph_fl_RX8_72 rfl rfl rfl ?_
            refine ph_iload_n (i := 3) (pc := 59) dX8_copy_59 rfl rfl ?_
            refine ph_callVi (pc := 60) dX8_copy_60 ph_mf_yX5_formOf ph_ml_RX8_280 ph_mi_yX5_formOf ph_mv_yX5_formOf rfl rfl (c_X5_formOf Z (d - 1) (by omega) x3 h24) (by omega) rfl rfl (Nat.le_of_ble_eq_true rfl) (fun v25 h26 => ?_)
            refine ph_icmp_eq (tgt := 72) (pc := 63) dX8_copy_63 (by decide) (fun c27 => ?_) (fun c27 => ?_)
            · refine ph_aload_n (i := 0) (pc := 72) dX8_copy_72 rfl rfl ?_
              refine ph_getR (j := 47) (pc := 73) dX8_copy_73 ph_fl_RX8_72 rfl rfl rfl ?_
              refine ph_iload_n (i := 1) (pc := 76) dX8_copy_76 rfl rfl ?_
              refine ph_iload_n (i := 2) (pc := 77) dX8_copy_77 rfl rfl ?_
              refine ph_iload (i := 5) (pc := 78) dX8_copy_78 rfl ?_
              refine ph_callVi (pc := 80) dX8_copy_80 ph_mf_yX5_hasRun ph_ml_RX8_283 ph_mi_yX5_hasRun ph_mv_yX5_hasRun rfl rfl (c_X5_hasRun Z (d - 1) (by omega) x1 x2 x5 h26) (by omega) rfl rfl (Nat.le_of_ble_eq_true rfl) (fun v28 h29 => ?_)
              refine ph_join (α := ph_Hp) 101 (fun x => [some (.ref (ph_a Z 0)), none, none, none, none, none]) (fun x => []) (fun x => x) (fun x => ?_) (fun j30 hj30 => ?_)
              · revert x; intro h31
                refine ph_aload_n (i := 0) (pc := 101) dX8_copy_101 rfl rfl ?_
                refine ph_iconst (v := (nI 2)) (pc := 102) dX8_copy_102 ph_ic_2 ?_
                refine ph_callVi (pc := 103) dX8_copy_103 ph_mf_yX8_found ph_ml_RX8_159 ph_mi_yX8_found ph_mv_yX8_found rfl rfl (c_X8_found Z (d - 1) (by omega) (nI 2) h31) (by omega) rfl rfl (Nat.le_of_ble_eq_true rfl) (fun v32 h33 => ?_)
                exact ph_iret (pc := 106) dX8_copy_106 rfl
              · refine ph_if_eq (tgt := 101) (pc := 83) dX8_copy_83 (by decide) (fun c34 => ?_) (fun c34 => ?_)
                · refine ph_wk (ls1 := [some (.ref (ph_a Z 0)), none, none, none, none, none]) ⟨rfl, trivial⟩ ?_
                  exact hj30 h29
                · refine ph_aload_n (i := 0) (pc := 86) dX8_copy_86 rfl rfl ?_
                  refine ph_getR (j := 47) (pc := 87) dX8_copy_87 ph_fl_RX8_72 rfl rfl rfl ?_
                  refine ph_iload_n (i := 3) (pc := 90) dX8_copy_90 rfl rfl ?_
                  refine ph_iload (i := 4) (pc := 91) dX8_copy_91 rfl ?_
                  refine ph_iload (i := 5) (pc := 93) dX8_copy_93 rfl ?_
                  refine ph_callVi (pc := 95) dX8_copy_95 ph_mf_yX5_hasRun ph_ml_RX8_283 ph_mi_yX5_hasRun ph_mv_yX5_hasRun rfl rfl (c_X5_hasRun Z (d - 1) (by omega) x3 x4 x5 h29) (by omega) rfl rfl (Nat.le_of_ble_eq_true rfl) (fun v35 h36 => ?_)
                  refine ph_if_ne (tgt := 107) (pc := 98) dX8_copy_98 (by decide) (fun c37 => ?_) (fun c37 => ?_)
                  · refine ph_aload_n (i := 0) (pc := 107) dX8_copy_107 rfl rfl ?_
                    refine ph_getR (j := 47) (pc := 108) dX8_copy_108 ph_fl_RX8_72 rfl rfl rfl ?_
                    refine ph_iload_n (i := 1) (pc := 111) dX8_copy_111 rfl rfl ?_
                    refine ph_iload_n (i := 2) (pc := 112) dX8_copy_112 rfl rfl ?_
                    refine ph_iload_n (i := 3) (pc := 113) dX8_copy_113 rfl rfl ?_
                    refine ph_iload (i := 4) (pc := 114) dX8_copy_114 rfl ?_
                    refine ph_iload (i := 5) (pc := 116) dX8_copy_116 rfl ?_
                    refine ph_callVv (pc := 118) dX8_copy_118 ph_mf_yX5_carry ph_ml_RX8_286 ph_mi_yX5_carry ph_mv_yX5_carry rfl rfl (c_X5_carry Z (d - 1) (by omega) x1 x2 x3 x4 x5 h36) (by omega) rfl rfl (Nat.le_of_ble_eq_true rfl) (fun v38 h39 => ?_)
                    refine ph_iconst (v := (nI 1)) (pc := 121) dX8_copy_121 ph_ic_1 ?_
                    exact ph_iret (pc := 122) dX8_copy_122 rfl
                  · refine ph_wk (ls1 := [some (.ref (ph_a Z 0)), none, none, none, none, none]) ⟨rfl, trivial⟩ ?_
                    exact hj30 h36
            · refine ph_aload_n (i := 0) (pc := 66) dX8_copy_66 rfl rfl ?_
              refine ph_iconst (v := (nI 4)) (pc := 67) dX8_copy_67 ph_ic_4 ?_
              refine ph_callVi (pc := 68) dX8_copy_68 ph_mf_yX8_found ph_ml_RX8_159 ph_mi_yX8_found ph_mv_yX8_found rfl rfl (c_X8_found Z (d - 1) (by omega) (nI 4) h26) (by omega) rfl rfl (Nat.le_of_ble_eq_true rfl) (fun v40 h41 => ?_)
              exact ph_iret (pc := 71) dX8_copy_71 rfl
          · refine ph_wk (ls1 := [some (.ref (ph_a Z 0)), none, none, none, none, none]) ⟨rfl, trivial⟩ ?_
            exact hj15 h21
    · refine ph_bipush (v := (-2)) (pc := 16) dX8_copy_16 ph_bp_m2 ?_
      exact ph_iret (pc := 18) dX8_copy_18 rfl
def f_X8_write (x1 : Int32) (x2 : Int32) (h : ph_Hp) : Option (Int32 × ph_Hp) :=
  ph_cl (f_X8_within x1 (nI 2) h) fun v4 h5 =>
  if v4 = nI 0 then
    some ((-2), h5)
  else
    ph_cl (f_X8_within x2 (nI 4) h5) fun v7 h8 =>
    if v7 = nI 0 then
      some ((-2), h8)
    else
      ph_cl (f_X5_isLost x2 h8) fun v10 h11 =>
      if v10 = nI 0 then
        ph_cl (f_X8_staged h11) fun _ h14 =>
        ph_cl (f_X5_sizeOf x2 h14) fun v15 h16 =>
        ph_lp (α := Int32 × ph_Hp) (fun j17 (x18, h19) =>
          if (if (nI 40) < v15 then (nI 40) else v15) ≤ x18 then
            some ((if (nI 40) < v15 then (nI 40) else v15), h19)
          else
            ph_jn (α := Int32 × ph_Hp) (fun (x22, h23) =>
              ph_cl (f_X5_put x2 x18 x22 h23) fun _ h25 =>
              j17 (x18 + (nI 1), h25)) (fun j21 =>
              if x1 = nI 0 then
                ph_cl (f_X6_playedIn x18 h19) fun v29 h30 =>
                j21 (v29, h30)
              else
                ph_cl (f_X6_byIn x18 h19) fun v27 h28 =>
                j21 (v27, h28))) ph_fu ((nI 0), h16)
      else
        ph_cl (f_X8_found (nI 1) h11) fun v31 h32 =>
        some (v31, h32)
set_option maxRecDepth 100000 in
theorem c_X8_write (Z : ph_L) (d : Nat) (hdd : 5 ≤ d) (x1 : Int32) (x2 : Int32) (h : ph_Hp) : ph_CM Z yX8_write cX8_write 6 (some .int) d [.ref (ph_a Z 0), .int x1, .int x2] ph_vi h (f_X8_write x1 x2 h) := by
  refine ph_begin (own := RX8) ph_mf_yX8_write rfl (ls := [some (.ref (ph_a Z 0)), some (.int x1), some (.int x2), none, none, none]) rfl (Nat.le_of_ble_eq_true rfl) ?_
  unfold f_X8_write
  refine ph_iload_n (i := 1) (pc := 0) dX8_write_0 rfl rfl ?_
  refine ph_iconst (v := (nI 2)) (pc := 1) dX8_write_1 ph_ic_2 ?_
  refine ph_callSi (pc := 2) dX8_write_2 ph_mf_yX8_within ph_ml_RX8_80 ph_ms_yX8_within (c_X8_within Z (d - 1) (by omega) x1 (nI 2) h) (by omega) rfl rfl (Nat.le_of_ble_eq_true rfl) (fun v4 h5 => ?_)
  refine ph_if_eq (tgt := 16) (pc := 5) dX8_write_5 (by decide) (fun c6 => ?_) (fun c6 => ?_)
  · refine ph_bipush (v := (-2)) (pc := 16) dX8_write_16 ph_bp_m2 ?_
    exact ph_iret (pc := 18) dX8_write_18 rfl
  · refine ph_iload_n (i := 2) (pc := 8) dX8_write_8 rfl rfl ?_
    refine ph_iconst (v := (nI 4)) (pc := 9) dX8_write_9 ph_ic_4 ?_
    refine ph_callSi (pc := 10) dX8_write_10 ph_mf_yX8_within ph_ml_RX8_80 ph_ms_yX8_within (c_X8_within Z (d - 1) (by omega) x2 (nI 4) h5) (by omega) rfl rfl (Nat.le_of_ble_eq_true rfl) (fun v7 h8 => ?_)
    refine ph_if_ne (tgt := 19) (pc := 13) dX8_write_13 (by decide) (fun c9 => ?_) (fun c9 => ?_)
    · refine ph_aload_n (i := 0) (pc := 19) dX8_write_19 rfl rfl ?_
      refine ph_getR (j := 47) (pc := 20) dX8_write_20 ph_fl_RX8_72 rfl rfl rfl ?_
      refine ph_iload_n (i := 2) (pc := 23) dX8_write_23 rfl rfl ?_
      refine ph_callVi (pc := 24) dX8_write_24 ph_mf_yX5_isLost ph_ml_RX8_155 ph_mi_yX5_isLost ph_mv_yX5_isLost rfl rfl (c_X5_isLost Z (d - 1) (by omega) x2 h8) (by omega) rfl rfl (Nat.le_of_ble_eq_true rfl) (fun v10 h11 => ?_)
      refine ph_if_eq (tgt := 36) (pc := 27) dX8_write_27 (by decide) (fun c12 => ?_) (fun c12 => ?_)
      · refine ph_aload_n (i := 0) (pc := 36) dX8_write_36 rfl rfl ?_
        refine ph_callVk (pc := 37) dX8_write_37 ph_mf_yX8_staged ph_ml_RX8_105 ph_mi_yX8_staged ph_mv_yX8_staged rfl rfl (c_X8_staged Z (d - 1) (by omega) h11) (by omega) rfl rfl (Nat.le_of_ble_eq_true rfl) (fun v13 h14 => ?_)
        refine ph_astore_n (i := 3) (ls1 := [some (.ref (ph_a Z 0)), some (.int x1), some (.int x2), some (.ref (ph_a Z 25)), none, none]) (pc := 40) dX8_write_40 rfl (by decide) rfl ?_
        refine ph_aload_n (i := 0) (pc := 41) dX8_write_41 rfl rfl ?_
        refine ph_getR (j := 47) (pc := 42) dX8_write_42 ph_fl_RX8_72 rfl rfl rfl ?_
        refine ph_iload_n (i := 2) (pc := 45) dX8_write_45 rfl rfl ?_
        refine ph_callVi (pc := 46) dX8_write_46 ph_mf_yX5_sizeOf ph_ml_RX8_162 ph_mi_yX5_sizeOf ph_mv_yX5_sizeOf rfl rfl (c_X5_sizeOf Z (d - 1) (by omega) x2 h14) (by omega) rfl rfl (Nat.le_of_ble_eq_true rfl) (fun v15 h16 => ?_)
        refine ph_bipush (v := (nI 40)) (pc := 49) dX8_write_49 ph_bp_40 ?_
        refine ph_mmin (pc := 51) dX8_write_51 ph_ml_RX8_290 ph_mm_min (by omega) (Nat.le_of_ble_eq_true rfl) ?_
        refine ph_istore (i := 4) (ls1 := [some (.ref (ph_a Z 0)), some (.int x1), some (.int x2), some (.ref (ph_a Z 25)), some (.int (if (nI 40) < v15 then (nI 40) else v15)), none]) (pc := 54) dX8_write_54 (by decide) rfl ?_
        refine ph_iconst (v := (nI 0)) (pc := 56) dX8_write_56 ph_ic_0 ?_
        refine ph_istore (i := 5) (ls1 := [some (.ref (ph_a Z 0)), some (.int x1), some (.int x2), some (.ref (ph_a Z 25)), some (.int (if (nI 40) < v15 then (nI 40) else v15)), some (.int (nI 0))]) (pc := 57) dX8_write_57 (by decide) rfl ?_
        refine ph_loop (α := Int32 × ph_Hp) 59 (fun x => [some (.ref (ph_a Z 0)), some (.int x1), some (.int x2), some (.ref (ph_a Z 25)), some (.int (if (nI 40) < v15 then (nI 40) else v15)), some (.int x.1)]) (fun x => []) (fun x => x.2) (fun j17 hj17 x => ?_) ph_fu ((nI 0), h16)
        obtain ⟨x18, h19⟩ := x
        dsimp only
        refine ph_iload (i := 5) (pc := 59) dX8_write_59 rfl ?_
        refine ph_iload (i := 4) (pc := 61) dX8_write_61 rfl ?_
        refine ph_icmp_ge (tgt := 101) (pc := 63) dX8_write_63 (by decide) (fun c20 => ?_) (fun c20 => ?_)
        · refine ph_iload (i := 4) (pc := 101) dX8_write_101 rfl ?_
          exact ph_iret (pc := 103) dX8_write_103 rfl
        · refine ph_aload_n (i := 0) (pc := 66) dX8_write_66 rfl rfl ?_
          refine ph_getR (j := 47) (pc := 67) dX8_write_67 ph_fl_RX8_72 rfl rfl rfl ?_
          refine ph_iload_n (i := 2) (pc := 70) dX8_write_70 rfl rfl ?_
          refine ph_iload (i := 5) (pc := 71) dX8_write_71 rfl ?_
          refine ph_iload_n (i := 1) (pc := 73) dX8_write_73 rfl rfl ?_
          refine ph_join (α := Int32 × ph_Hp) 92 (fun x => [some (.ref (ph_a Z 0)), some (.int x1), some (.int x2), some (.ref (ph_a Z 25)), some (.int (if (nI 40) < v15 then (nI 40) else v15)), some (.int x18)]) (fun x => [.int x.1, .int x18, .int x2, .ref (ph_a Z 47)]) (fun x => x.2) (fun x => ?_) (fun j21 hj21 => ?_)
          · obtain ⟨x22, h23⟩ := x
            dsimp only
            refine ph_callVv (pc := 92) dX8_write_92 ph_mf_yX5_put ph_ml_RX8_276 ph_mi_yX5_put ph_mv_yX5_put rfl rfl (c_X5_put Z (d - 1) (by omega) x2 x18 x22 h23) (by omega) rfl rfl (Nat.le_of_ble_eq_true rfl) (fun v24 h25 => ?_)
            refine ph_iinc (i := 5) (v := (nI 1)) (ls1 := [some (.ref (ph_a Z 0)), some (.int x1), some (.int x2), some (.ref (ph_a Z 25)), some (.int (if (nI 40) < v15 then (nI 40) else v15)), some (.int (x18 + (nI 1)))]) (pc := 95) dX8_write_95 rfl ph_ic_1 (by decide) rfl ?_
            refine ph_goto (tgt := 59) (pc := 98) dX8_write_98 (by decide) ?_
            exact hj17 (x18 + (nI 1), h25)
          · refine ph_if_ne (tgt := 86) (pc := 74) dX8_write_74 (by decide) (fun c26 => ?_) (fun c26 => ?_)
            · refine ph_aload_n (i := 3) (pc := 86) dX8_write_86 rfl rfl ?_
              refine ph_iload (i := 5) (pc := 87) dX8_write_87 rfl ?_
              refine ph_callVi (pc := 89) dX8_write_89 ph_mf_yX6_byIn ph_ml_RX8_175 ph_mi_yX6_byIn ph_mv_yX6_byIn rfl rfl (c_X6_byIn Z (d - 1) (by omega) x18 h19) (by omega) rfl rfl (Nat.le_of_ble_eq_true rfl) (fun v27 h28 => ?_)
              exact hj21 (v27, h28)
            · refine ph_aload_n (i := 3) (pc := 77) dX8_write_77 rfl rfl ?_
              refine ph_iload (i := 5) (pc := 78) dX8_write_78 rfl ?_
              refine ph_callVi (pc := 80) dX8_write_80 ph_mf_yX6_playedIn ph_ml_RX8_172 ph_mi_yX6_playedIn ph_mv_yX6_playedIn rfl rfl (c_X6_playedIn Z (d - 1) (by omega) x18 h19) (by omega) rfl rfl (Nat.le_of_ble_eq_true rfl) (fun v29 h30 => ?_)
              refine ph_goto (tgt := 92) (pc := 83) dX8_write_83 (by decide) ?_
              exact hj21 (v29, h30)
      · refine ph_aload_n (i := 0) (pc := 30) dX8_write_30 rfl rfl ?_
        refine ph_iconst (v := (nI 1)) (pc := 31) dX8_write_31 ph_ic_1 ?_
        refine ph_callVi (pc := 32) dX8_write_32 ph_mf_yX8_found ph_ml_RX8_159 ph_mi_yX8_found ph_mv_yX8_found rfl rfl (c_X8_found Z (d - 1) (by omega) (nI 1) h11) (by omega) rfl rfl (Nat.le_of_ble_eq_true rfl) (fun v31 h32 => ?_)
        exact ph_iret (pc := 35) dX8_write_35 rfl
    · refine ph_bipush (v := (-2)) (pc := 16) dX8_write_16 ph_bp_m2 ?_
      exact ph_iret (pc := 18) dX8_write_18 rfl
def f_X8_count (x1 : Int32) (h : ph_Hp) : Option (Int32 × ph_Hp) :=
  if x1 = (nI 0) then
    ph_cl (f_X8_staged h) fun _ h5 =>
    some (h5.1 26 3, h5)
  else
  if x1 = (nI 1) then
    ph_cl (f_X8_staged h) fun _ h8 =>
    some (h8.1 30 5, h8)
  else
  if x1 = (nI 2) then
    ph_cl (f_X4_size 1 h) fun v10 h11 =>
    some (v10, h11)
  else
  if x1 = (nI 3) then
    ph_cl (f_X4_size 3 h) fun v13 h14 =>
    some (v13, h14)
  else
  if x1 = (nI 4) then
    ph_cl (f_X7_size 5 h) fun v16 h17 =>
    some (v16, h17)
  else
  if x1 = (nI 5) then
    ph_cl (f_X7_size 10 h) fun v19 h20 =>
    some (v19, h20)
  else
  if x1 = (nI 6) then
    ph_cl (f_X7_size 15 h) fun v22 h23 =>
    some (v22, h23)
  else
  if x1 = (nI 7) then
    ph_cl (f_X7_size 20 h) fun v25 h26 =>
    some (v25, h26)
  else
  if x1 = (nI 8) then
    some (h.1 0 13, h)
  else
  some ((-2), h)
set_option maxRecDepth 100000 in
theorem c_X8_count (Z : ph_L) (d : Nat) (hdd : 5 ≤ d) (x1 : Int32) (h : ph_Hp) : ph_CM Z yX8_count cX8_count 2 (some .int) d [.ref (ph_a Z 0), .int x1] ph_vi h (f_X8_count x1 h) := by
  refine ph_begin (own := RX8) ph_mf_yX8_count rfl (ls := [some (.ref (ph_a Z 0)), some (.int x1)]) rfl (Nat.le_of_ble_eq_true rfl) ?_
  unfold f_X8_count
  refine ph_iload_n (i := 1) (pc := 0) dX8_count_0 rfl rfl ?_
  refine ph_ite (fun c3 => ?_) (fun c3 => ?_)
  · refine ph_tin (tgt := 52) (v := (nI 0)) (pc := 1) dX8_count_1 c3 (by decide) (by decide) rfl (by decide) ?_
    refine ph_aload_n (i := 0) (pc := 52) dX8_count_52 rfl rfl ?_
    refine ph_callVk (pc := 53) dX8_count_53 ph_mf_yX8_staged ph_ml_RX8_105 ph_mi_yX8_staged ph_mv_yX8_staged rfl rfl (c_X8_staged Z (d - 1) (by omega) h) (by omega) rfl rfl (Nat.le_of_ble_eq_true rfl) (fun v4 h5 => ?_)
    refine ph_getR (j := 26) (pc := 56) dX8_count_56 ph_fl_RX8_109 rfl rfl rfl ?_
    refine ph_getI (pc := 59) dX8_count_59 ph_fl_RX8_293 rfl (by decide) ?_
    exact ph_iret (pc := 62) dX8_count_62 rfl
  refine ph_ite (fun c6 => ?_) (fun c6 => ?_)
  · refine ph_tin (tgt := 63) (v := (nI 1)) (pc := 1) dX8_count_1 c6 (by decide) (by decide) rfl (by decide) ?_
    refine ph_aload_n (i := 0) (pc := 63) dX8_count_63 rfl rfl ?_
    refine ph_callVk (pc := 64) dX8_count_64 ph_mf_yX8_staged ph_ml_RX8_105 ph_mi_yX8_staged ph_mv_yX8_staged rfl rfl (c_X8_staged Z (d - 1) (by omega) h) (by omega) rfl rfl (Nat.le_of_ble_eq_true rfl) (fun v7 h8 => ?_)
    refine ph_getR (j := 30) (pc := 67) dX8_count_67 ph_fl_RX8_118 rfl rfl rfl ?_
    refine ph_getI (pc := 70) dX8_count_70 ph_fl_RX8_129 rfl (by decide) ?_
    exact ph_iret (pc := 73) dX8_count_73 rfl
  refine ph_ite (fun c9 => ?_) (fun c9 => ?_)
  · refine ph_tin (tgt := 74) (v := (nI 2)) (pc := 1) dX8_count_1 c9 (by decide) (by decide) rfl (by decide) ?_
    refine ph_aload_n (i := 0) (pc := 74) dX8_count_74 rfl rfl ?_
    refine ph_getR (j := 1) (pc := 75) dX8_count_75 ph_fl_RX8_14 rfl rfl rfl ?_
    refine ph_callVi (pc := 78) dX8_count_78 ph_mf_yX4_size ph_ml_RX8_95 ph_mi_yX4_size ph_mv_yX4_size rfl rfl (c_X4_size Z (d - 1) (by omega) 1 h) (by omega) rfl rfl (Nat.le_of_ble_eq_true rfl) (fun v10 h11 => ?_)
    exact ph_iret (pc := 81) dX8_count_81 rfl
  refine ph_ite (fun c12 => ?_) (fun c12 => ?_)
  · refine ph_tin (tgt := 82) (v := (nI 3)) (pc := 1) dX8_count_1 c12 (by decide) (by decide) rfl (by decide) ?_
    refine ph_aload_n (i := 0) (pc := 82) dX8_count_82 rfl rfl ?_
    refine ph_getR (j := 3) (pc := 83) dX8_count_83 ph_fl_RX8_18 rfl rfl rfl ?_
    refine ph_callVi (pc := 86) dX8_count_86 ph_mf_yX4_size ph_ml_RX8_95 ph_mi_yX4_size ph_mv_yX4_size rfl rfl (c_X4_size Z (d - 1) (by omega) 3 h) (by omega) rfl rfl (Nat.le_of_ble_eq_true rfl) (fun v13 h14 => ?_)
    exact ph_iret (pc := 89) dX8_count_89 rfl
  refine ph_ite (fun c15 => ?_) (fun c15 => ?_)
  · refine ph_tin (tgt := 90) (v := (nI 4)) (pc := 1) dX8_count_1 c15 (by decide) (by decide) rfl (by decide) ?_
    refine ph_aload_n (i := 0) (pc := 90) dX8_count_90 rfl rfl ?_
    refine ph_getR (j := 5) (pc := 91) dX8_count_91 ph_fl_RX8_24 rfl rfl rfl ?_
    refine ph_callVi (pc := 94) dX8_count_94 ph_mf_yX7_size ph_ml_RX8_153 ph_mi_yX7_size ph_mv_yX7_size rfl rfl (c_X7_size Z (d - 1) (by omega) 5 h) (by omega) rfl rfl (Nat.le_of_ble_eq_true rfl) (fun v16 h17 => ?_)
    exact ph_iret (pc := 97) dX8_count_97 rfl
  refine ph_ite (fun c18 => ?_) (fun c18 => ?_)
  · refine ph_tin (tgt := 98) (v := (nI 5)) (pc := 1) dX8_count_1 c18 (by decide) (by decide) rfl (by decide) ?_
    refine ph_aload_n (i := 0) (pc := 98) dX8_count_98 rfl rfl ?_
    refine ph_getR (j := 10) (pc := 99) dX8_count_99 ph_fl_RX8_28 rfl rfl rfl ?_
    refine ph_callVi (pc := 102) dX8_count_102 ph_mf_yX7_size ph_ml_RX8_153 ph_mi_yX7_size ph_mv_yX7_size rfl rfl (c_X7_size Z (d - 1) (by omega) 10 h) (by omega) rfl rfl (Nat.le_of_ble_eq_true rfl) (fun v19 h20 => ?_)
    exact ph_iret (pc := 105) dX8_count_105 rfl
  refine ph_ite (fun c21 => ?_) (fun c21 => ?_)
  · refine ph_tin (tgt := 106) (v := (nI 6)) (pc := 1) dX8_count_1 c21 (by decide) (by decide) rfl (by decide) ?_
    refine ph_aload_n (i := 0) (pc := 106) dX8_count_106 rfl rfl ?_
    refine ph_getR (j := 15) (pc := 107) dX8_count_107 ph_fl_RX8_31 rfl rfl rfl ?_
    refine ph_callVi (pc := 110) dX8_count_110 ph_mf_yX7_size ph_ml_RX8_153 ph_mi_yX7_size ph_mv_yX7_size rfl rfl (c_X7_size Z (d - 1) (by omega) 15 h) (by omega) rfl rfl (Nat.le_of_ble_eq_true rfl) (fun v22 h23 => ?_)
    exact ph_iret (pc := 113) dX8_count_113 rfl
  refine ph_ite (fun c24 => ?_) (fun c24 => ?_)
  · refine ph_tin (tgt := 114) (v := (nI 7)) (pc := 1) dX8_count_1 c24 (by decide) (by decide) rfl (by decide) ?_
    refine ph_aload_n (i := 0) (pc := 114) dX8_count_114 rfl rfl ?_
    refine ph_getR (j := 20) (pc := 115) dX8_count_115 ph_fl_RX8_34 rfl rfl rfl ?_
    refine ph_callVi (pc := 118) dX8_count_118 ph_mf_yX7_size ph_ml_RX8_153 ph_mi_yX7_size ph_mv_yX7_size rfl rfl (c_X7_size Z (d - 1) (by omega) 20 h) (by omega) rfl rfl (Nat.le_of_ble_eq_true rfl) (fun v25 h26 => ?_)
    exact ph_iret (pc := 121) dX8_count_121 rfl
  refine ph_ite (fun c27 => ?_) (fun c27 => ?_)
  · refine ph_tin (tgt := 122) (v := (nI 8)) (pc := 1) dX8_count_1 c27 (by decide) (by decide) rfl (by decide) ?_
    refine ph_aload_n (i := 0) (pc := 122) dX8_count_122 rfl rfl ?_
    refine ph_getI (pc := 123) dX8_count_123 ph_fl_RX8_76 rfl (by decide) ?_
    exact ph_iret (pc := 126) dX8_count_126 rfl
  refine ph_tout (tgt := 127) (pc := 1) dX8_count_1 (by
    have := lv_neT (a := 0) c3 (by decide)
    have := lv_neT (a := 1) c6 (by decide)
    have := lv_neT (a := 2) c9 (by decide)
    have := lv_neT (a := 3) c12 (by decide)
    have := lv_neT (a := 4) c15 (by decide)
    have := lv_neT (a := 5) c18 (by decide)
    have := lv_neT (a := 6) c21 (by decide)
    have := lv_neT (a := 7) c24 (by decide)
    have := lv_neT (a := 8) c27 (by decide)
    omega) (by decide) ?_
  refine ph_bipush (v := (-2)) (pc := 127) dX8_count_127 ph_bp_m2 ?_
  exact ph_iret (pc := 129) dX8_count_129 rfl
def f_X8_mixLine (x1 : Int64) (x2 : Int32) (h : ph_Hp) : Option (Int64 × ph_Hp) :=
  ph_cl (f_X8_printed x2 (nI 0) h) fun v4 h5 =>
  ph_cl (f_X8_printed x2 (nI 1) h5) fun v6 h7 =>
  ph_cl (f_X8_often x2 (nI 0) h7) fun v8 h9 =>
  ph_cl (f_X8_often x2 (nI 1) h9) fun v10 h11 =>
  ph_cl (f_X8_slips (nI 5) (nI 0) x2 (nI 5) (nI 0) h11) fun v12 h13 =>
  ph_cl (f_X8_slips (nI 5) (nI 0) x2 (nI 5) (nI 1) h13) fun v14 h15 =>
  ph_lp (α := Int64 × Int32 × ph_Hp) (fun j16 (x17, x18, h19) =>
    if (nI 3) ≤ x18 then
      some (x17, h19)
    else
      ph_cl (f_X8_prompt (nI 3) (nI 6) x2 x18 h19) fun v21 h22 =>
      j16 (((lN 31) * x17) + v21.toInt64, x18 + (nI 1), h22)) ph_fu (((lN 31) * (((lN 31) * (((lN 31) * (((lN 31) * (((lN 31) * (((lN 31) * x1) + v4.toInt64)) + v6.toInt64)) + v8.toInt64)) + v10.toInt64)) + v12)) + v14, (nI 0), h15)
set_option maxRecDepth 100000 in
theorem c_X8_mixLine (Z : ph_L) (d : Nat) (hdd : 6 ≤ d) (x1 : Int64) (x2 : Int32) (h : ph_Hp) : ph_CM Z yX8_mixLine cX8_mixLine 7 (some .long) d [.ref (ph_a Z 0), .long x1, .int x2] ph_vl h (f_X8_mixLine x1 x2 h) := by
  refine ph_begin (own := RX8) ph_mf_yX8_mixLine rfl (ls := [some (.ref (ph_a Z 0)), some (.long x1), none, some (.int x2), none, none, none]) rfl (Nat.le_of_ble_eq_true rfl) ?_
  unfold f_X8_mixLine
  refine ph_lload_n (i := 1) (pc := 0) dX8_mixLine_0 rfl rfl ?_
  refine ph_lstore (i := 4) (ls1 := [some (.ref (ph_a Z 0)), some (.long x1), none, some (.int x2), some (.long x1), none, none]) (pc := 1) dX8_mixLine_1 (by decide) rfl ?_
  refine ph_ldc2 (v := (lN 31)) (pc := 3) dX8_mixLine_3 ph_k_RX8_298 ?_
  refine ph_lload (i := 4) (pc := 6) dX8_mixLine_6 rfl ?_
  refine ph_lmul (pc := 8) dX8_mixLine_8 ?_
  refine ph_aload_n (i := 0) (pc := 9) dX8_mixLine_9 rfl rfl ?_
  refine ph_iload_n (i := 3) (pc := 10) dX8_mixLine_10 rfl rfl ?_
  refine ph_iconst (v := (nI 0)) (pc := 11) dX8_mixLine_11 ph_ic_0 ?_
  refine ph_callVi (pc := 12) dX8_mixLine_12 ph_mf_yX8_printed ph_ml_RX8_353 ph_mi_yX8_printed ph_mv_yX8_printed rfl rfl (c_X8_printed Z (d - 1) (by omega) x2 (nI 0) h) (by omega) rfl rfl (Nat.le_of_ble_eq_true rfl) (fun v4 h5 => ?_)
  refine ph_i2l (pc := 15) dX8_mixLine_15 ?_
  refine ph_ladd (pc := 16) dX8_mixLine_16 ?_
  refine ph_lstore (i := 4) (ls1 := [some (.ref (ph_a Z 0)), some (.long x1), none, some (.int x2), some (.long (((lN 31) * x1) + v4.toInt64)), none, none]) (pc := 17) dX8_mixLine_17 (by decide) rfl ?_
  refine ph_ldc2 (v := (lN 31)) (pc := 19) dX8_mixLine_19 ph_k_RX8_298 ?_
  refine ph_lload (i := 4) (pc := 22) dX8_mixLine_22 rfl ?_
  refine ph_lmul (pc := 24) dX8_mixLine_24 ?_
  refine ph_aload_n (i := 0) (pc := 25) dX8_mixLine_25 rfl rfl ?_
  refine ph_iload_n (i := 3) (pc := 26) dX8_mixLine_26 rfl rfl ?_
  refine ph_iconst (v := (nI 1)) (pc := 27) dX8_mixLine_27 ph_ic_1 ?_
  refine ph_callVi (pc := 28) dX8_mixLine_28 ph_mf_yX8_printed ph_ml_RX8_353 ph_mi_yX8_printed ph_mv_yX8_printed rfl rfl (c_X8_printed Z (d - 1) (by omega) x2 (nI 1) h5) (by omega) rfl rfl (Nat.le_of_ble_eq_true rfl) (fun v6 h7 => ?_)
  refine ph_i2l (pc := 31) dX8_mixLine_31 ?_
  refine ph_ladd (pc := 32) dX8_mixLine_32 ?_
  refine ph_lstore (i := 4) (ls1 := [some (.ref (ph_a Z 0)), some (.long x1), none, some (.int x2), some (.long (((lN 31) * (((lN 31) * x1) + v4.toInt64)) + v6.toInt64)), none, none]) (pc := 33) dX8_mixLine_33 (by decide) rfl ?_
  refine ph_ldc2 (v := (lN 31)) (pc := 35) dX8_mixLine_35 ph_k_RX8_298 ?_
  refine ph_lload (i := 4) (pc := 38) dX8_mixLine_38 rfl ?_
  refine ph_lmul (pc := 40) dX8_mixLine_40 ?_
  refine ph_aload_n (i := 0) (pc := 41) dX8_mixLine_41 rfl rfl ?_
  refine ph_iload_n (i := 3) (pc := 42) dX8_mixLine_42 rfl rfl ?_
  refine ph_iconst (v := (nI 0)) (pc := 43) dX8_mixLine_43 ph_ic_0 ?_
  refine ph_callVi (pc := 44) dX8_mixLine_44 ph_mf_yX8_often ph_ml_RX8_356 ph_mi_yX8_often ph_mv_yX8_often rfl rfl (c_X8_often Z (d - 1) (by omega) x2 (nI 0) h7) (by omega) rfl rfl (Nat.le_of_ble_eq_true rfl) (fun v8 h9 => ?_)
  refine ph_i2l (pc := 47) dX8_mixLine_47 ?_
  refine ph_ladd (pc := 48) dX8_mixLine_48 ?_
  refine ph_lstore (i := 4) (ls1 := [some (.ref (ph_a Z 0)), some (.long x1), none, some (.int x2), some (.long (((lN 31) * (((lN 31) * (((lN 31) * x1) + v4.toInt64)) + v6.toInt64)) + v8.toInt64)), none, none]) (pc := 49) dX8_mixLine_49 (by decide) rfl ?_
  refine ph_ldc2 (v := (lN 31)) (pc := 51) dX8_mixLine_51 ph_k_RX8_298 ?_
  refine ph_lload (i := 4) (pc := 54) dX8_mixLine_54 rfl ?_
  refine ph_lmul (pc := 56) dX8_mixLine_56 ?_
  refine ph_aload_n (i := 0) (pc := 57) dX8_mixLine_57 rfl rfl ?_
  refine ph_iload_n (i := 3) (pc := 58) dX8_mixLine_58 rfl rfl ?_
  refine ph_iconst (v := (nI 1)) (pc := 59) dX8_mixLine_59 ph_ic_1 ?_
  refine ph_callVi (pc := 60) dX8_mixLine_60 ph_mf_yX8_often ph_ml_RX8_356 ph_mi_yX8_often ph_mv_yX8_often rfl rfl (c_X8_often Z (d - 1) (by omega) x2 (nI 1) h9) (by omega) rfl rfl (Nat.le_of_ble_eq_true rfl) (fun v10 h11 => ?_)
  refine ph_i2l (pc := 63) dX8_mixLine_63 ?_
  refine ph_ladd (pc := 64) dX8_mixLine_64 ?_
  refine ph_lstore (i := 4) (ls1 := [some (.ref (ph_a Z 0)), some (.long x1), none, some (.int x2), some (.long (((lN 31) * (((lN 31) * (((lN 31) * (((lN 31) * x1) + v4.toInt64)) + v6.toInt64)) + v8.toInt64)) + v10.toInt64)), none, none]) (pc := 65) dX8_mixLine_65 (by decide) rfl ?_
  refine ph_ldc2 (v := (lN 31)) (pc := 67) dX8_mixLine_67 ph_k_RX8_298 ?_
  refine ph_lload (i := 4) (pc := 70) dX8_mixLine_70 rfl ?_
  refine ph_lmul (pc := 72) dX8_mixLine_72 ?_
  refine ph_aload_n (i := 0) (pc := 73) dX8_mixLine_73 rfl rfl ?_
  refine ph_iconst (v := (nI 5)) (pc := 74) dX8_mixLine_74 ph_ic_5 ?_
  refine ph_iconst (v := (nI 0)) (pc := 75) dX8_mixLine_75 ph_ic_0 ?_
  refine ph_iload_n (i := 3) (pc := 76) dX8_mixLine_76 rfl rfl ?_
  refine ph_iconst (v := (nI 5)) (pc := 77) dX8_mixLine_77 ph_ic_5 ?_
  refine ph_iconst (v := (nI 0)) (pc := 78) dX8_mixLine_78 ph_ic_0 ?_
  refine ph_callVl (pc := 79) dX8_mixLine_79 ph_mf_yX8_slips ph_ml_RX8_359 ph_mi_yX8_slips ph_mv_yX8_slips rfl rfl (c_X8_slips Z (d - 1) (by omega) (nI 5) (nI 0) x2 (nI 5) (nI 0) h11) (by omega) rfl rfl (Nat.le_of_ble_eq_true rfl) (fun v12 h13 => ?_)
  refine ph_ladd (pc := 82) dX8_mixLine_82 ?_
  refine ph_lstore (i := 4) (ls1 := [some (.ref (ph_a Z 0)), some (.long x1), none, some (.int x2), some (.long (((lN 31) * (((lN 31) * (((lN 31) * (((lN 31) * (((lN 31) * x1) + v4.toInt64)) + v6.toInt64)) + v8.toInt64)) + v10.toInt64)) + v12)), none, none]) (pc := 83) dX8_mixLine_83 (by decide) rfl ?_
  refine ph_ldc2 (v := (lN 31)) (pc := 85) dX8_mixLine_85 ph_k_RX8_298 ?_
  refine ph_lload (i := 4) (pc := 88) dX8_mixLine_88 rfl ?_
  refine ph_lmul (pc := 90) dX8_mixLine_90 ?_
  refine ph_aload_n (i := 0) (pc := 91) dX8_mixLine_91 rfl rfl ?_
  refine ph_iconst (v := (nI 5)) (pc := 92) dX8_mixLine_92 ph_ic_5 ?_
  refine ph_iconst (v := (nI 0)) (pc := 93) dX8_mixLine_93 ph_ic_0 ?_
  refine ph_iload_n (i := 3) (pc := 94) dX8_mixLine_94 rfl rfl ?_
  refine ph_iconst (v := (nI 5)) (pc := 95) dX8_mixLine_95 ph_ic_5 ?_
  refine ph_iconst (v := (nI 1)) (pc := 96) dX8_mixLine_96 ph_ic_1 ?_
  refine ph_callVl (pc := 97) dX8_mixLine_97 ph_mf_yX8_slips ph_ml_RX8_359 ph_mi_yX8_slips ph_mv_yX8_slips rfl rfl (c_X8_slips Z (d - 1) (by omega) (nI 5) (nI 0) x2 (nI 5) (nI 1) h13) (by omega) rfl rfl (Nat.le_of_ble_eq_true rfl) (fun v14 h15 => ?_)
  refine ph_ladd (pc := 100) dX8_mixLine_100 ?_
  refine ph_lstore (i := 4) (ls1 := [some (.ref (ph_a Z 0)), some (.long x1), none, some (.int x2), some (.long (((lN 31) * (((lN 31) * (((lN 31) * (((lN 31) * (((lN 31) * (((lN 31) * x1) + v4.toInt64)) + v6.toInt64)) + v8.toInt64)) + v10.toInt64)) + v12)) + v14)), none, none]) (pc := 101) dX8_mixLine_101 (by decide) rfl ?_
  refine ph_iconst (v := (nI 0)) (pc := 103) dX8_mixLine_103 ph_ic_0 ?_
  refine ph_istore (i := 6) (ls1 := [some (.ref (ph_a Z 0)), some (.long x1), none, some (.int x2), some (.long (((lN 31) * (((lN 31) * (((lN 31) * (((lN 31) * (((lN 31) * (((lN 31) * x1) + v4.toInt64)) + v6.toInt64)) + v8.toInt64)) + v10.toInt64)) + v12)) + v14)), none, some (.int (nI 0))]) (pc := 104) dX8_mixLine_104 (by decide) rfl ?_
  refine ph_wk (ls1 := [some (.ref (ph_a Z 0)), none, none, some (.int x2), some (.long (((lN 31) * (((lN 31) * (((lN 31) * (((lN 31) * (((lN 31) * (((lN 31) * x1) + v4.toInt64)) + v6.toInt64)) + v8.toInt64)) + v10.toInt64)) + v12)) + v14)), none, some (.int (nI 0))]) ⟨rfl, ⟨rfl, ⟨rfl, ⟨rfl, trivial⟩⟩⟩⟩ ?_
  refine ph_loop (α := Int64 × Int32 × ph_Hp) 106 (fun x => [some (.ref (ph_a Z 0)), none, none, some (.int x2), some (.long x.1), none, some (.int x.2.1)]) (fun x => []) (fun x => x.2.2) (fun j16 hj16 x => ?_) ph_fu (((lN 31) * (((lN 31) * (((lN 31) * (((lN 31) * (((lN 31) * (((lN 31) * x1) + v4.toInt64)) + v6.toInt64)) + v8.toInt64)) + v10.toInt64)) + v12)) + v14, (nI 0), h15)
  obtain ⟨x17, x18, h19⟩ := x
  dsimp only
  refine ph_iload (i := 6) (pc := 106) dX8_mixLine_106 rfl ?_
  refine ph_iconst (v := (nI 3)) (pc := 108) dX8_mixLine_108 ph_ic_3 ?_
  refine ph_icmp_ge (tgt := 138) (pc := 109) dX8_mixLine_109 (by decide) (fun c20 => ?_) (fun c20 => ?_)
  · refine ph_lload (i := 4) (pc := 138) dX8_mixLine_138 rfl ?_
    exact ph_lret (pc := 140) dX8_mixLine_140 rfl
  · refine ph_ldc2 (v := (lN 31)) (pc := 112) dX8_mixLine_112 ph_k_RX8_298 ?_
    refine ph_lload (i := 4) (pc := 115) dX8_mixLine_115 rfl ?_
    refine ph_lmul (pc := 117) dX8_mixLine_117 ?_
    refine ph_aload_n (i := 0) (pc := 118) dX8_mixLine_118 rfl rfl ?_
    refine ph_iconst (v := (nI 3)) (pc := 119) dX8_mixLine_119 ph_ic_3 ?_
    refine ph_bipush (v := (nI 6)) (pc := 120) dX8_mixLine_120 ph_bp_6 ?_
    refine ph_iload_n (i := 3) (pc := 122) dX8_mixLine_122 rfl rfl ?_
    refine ph_iload (i := 6) (pc := 123) dX8_mixLine_123 rfl ?_
    refine ph_callVi (pc := 125) dX8_mixLine_125 ph_mf_yX8_prompt ph_ml_RX8_363 ph_mi_yX8_prompt ph_mv_yX8_prompt rfl rfl (c_X8_prompt Z (d - 1) (by omega) (nI 3) (nI 6) x2 x18 h19) (by omega) rfl rfl (Nat.le_of_ble_eq_true rfl) (fun v21 h22 => ?_)
    refine ph_i2l (pc := 128) dX8_mixLine_128 ?_
    refine ph_ladd (pc := 129) dX8_mixLine_129 ?_
    refine ph_lstore (i := 4) (ls1 := [some (.ref (ph_a Z 0)), none, none, some (.int x2), some (.long (((lN 31) * x17) + v21.toInt64)), none, some (.int x18)]) (pc := 130) dX8_mixLine_130 (by decide) rfl ?_
    refine ph_iinc (i := 6) (v := (nI 1)) (ls1 := [some (.ref (ph_a Z 0)), none, none, some (.int x2), some (.long (((lN 31) * x17) + v21.toInt64)), none, some (.int (x18 + (nI 1)))]) (pc := 132) dX8_mixLine_132 rfl ph_ic_1 (by decide) rfl ?_
    refine ph_goto (tgt := 106) (pc := 135) dX8_mixLine_135 (by decide) ?_
    exact hj16 (((lN 31) * x17) + v21.toInt64, x18 + (nI 1), h22)
def f_X8_mixHole (x1 : Int64) (x2 : Int32) (h : ph_Hp) : Option (Int64 × ph_Hp) :=
  ph_lp (α := Int64 × Int32 × ph_Hp) (fun j4 (x5, x6, h7) =>
    if (nI 4) ≤ x6 then
      ph_cl (f_X8_whispers (nI 3) x2 h7) fun v9 h10 =>
      ph_cl (f_X8_coughed x2 h10) fun v11 h12 =>
      ph_cl (f_X8_ask x2 h12) fun v13 h14 =>
      some (((lN 31) * (((lN 31) * (((lN 31) * x5) + v9.toInt64)) + v11.toInt64)) + v13.toInt64, h14)
    else
      ph_cl (f_X8_hole x2 x6 h7) fun v15 h16 =>
      j4 (((lN 31) * x5) + v15.toInt64, x6 + (nI 1), h16)) ph_fu (x1, (nI 0), h)
set_option maxRecDepth 100000 in
theorem c_X8_mixHole (Z : ph_L) (d : Nat) (hdd : 6 ≤ d) (x1 : Int64) (x2 : Int32) (h : ph_Hp) : ph_CM Z yX8_mixHole cX8_mixHole 7 (some .long) d [.ref (ph_a Z 0), .long x1, .int x2] ph_vl h (f_X8_mixHole x1 x2 h) := by
  refine ph_begin (own := RX8) ph_mf_yX8_mixHole rfl (ls := [some (.ref (ph_a Z 0)), some (.long x1), none, some (.int x2), none, none, none]) rfl (Nat.le_of_ble_eq_true rfl) ?_
  unfold f_X8_mixHole
  refine ph_lload_n (i := 1) (pc := 0) dX8_mixHole_0 rfl rfl ?_
  refine ph_lstore (i := 4) (ls1 := [some (.ref (ph_a Z 0)), some (.long x1), none, some (.int x2), some (.long x1), none, none]) (pc := 1) dX8_mixHole_1 (by decide) rfl ?_
  refine ph_iconst (v := (nI 0)) (pc := 3) dX8_mixHole_3 ph_ic_0 ?_
  refine ph_istore (i := 6) (ls1 := [some (.ref (ph_a Z 0)), some (.long x1), none, some (.int x2), some (.long x1), none, some (.int (nI 0))]) (pc := 4) dX8_mixHole_4 (by decide) rfl ?_
  refine ph_wk (ls1 := [some (.ref (ph_a Z 0)), none, none, some (.int x2), some (.long x1), none, some (.int (nI 0))]) ⟨rfl, ⟨rfl, ⟨rfl, ⟨rfl, trivial⟩⟩⟩⟩ ?_
  refine ph_loop (α := Int64 × Int32 × ph_Hp) 6 (fun x => [some (.ref (ph_a Z 0)), none, none, some (.int x2), some (.long x.1), none, some (.int x.2.1)]) (fun x => []) (fun x => x.2.2) (fun j4 hj4 x => ?_) ph_fu (x1, (nI 0), h)
  obtain ⟨x5, x6, h7⟩ := x
  dsimp only
  refine ph_iload (i := 6) (pc := 6) dX8_mixHole_6 rfl ?_
  refine ph_iconst (v := (nI 4)) (pc := 8) dX8_mixHole_8 ph_ic_4 ?_
  refine ph_icmp_ge (tgt := 35) (pc := 9) dX8_mixHole_9 (by decide) (fun c8 => ?_) (fun c8 => ?_)
  · refine ph_ldc2 (v := (lN 31)) (pc := 35) dX8_mixHole_35 ph_k_RX8_298 ?_
    refine ph_lload (i := 4) (pc := 38) dX8_mixHole_38 rfl ?_
    refine ph_lmul (pc := 40) dX8_mixHole_40 ?_
    refine ph_aload_n (i := 0) (pc := 41) dX8_mixHole_41 rfl rfl ?_
    refine ph_iconst (v := (nI 3)) (pc := 42) dX8_mixHole_42 ph_ic_3 ?_
    refine ph_iload_n (i := 3) (pc := 43) dX8_mixHole_43 rfl rfl ?_
    refine ph_callVi (pc := 44) dX8_mixHole_44 ph_mf_yX8_whispers ph_ml_RX8_369 ph_mi_yX8_whispers ph_mv_yX8_whispers rfl rfl (c_X8_whispers Z (d - 1) (by omega) (nI 3) x2 h7) (by omega) rfl rfl (Nat.le_of_ble_eq_true rfl) (fun v9 h10 => ?_)
    refine ph_i2l (pc := 47) dX8_mixHole_47 ?_
    refine ph_ladd (pc := 48) dX8_mixHole_48 ?_
    refine ph_lstore (i := 4) (ls1 := [some (.ref (ph_a Z 0)), none, none, some (.int x2), some (.long (((lN 31) * x5) + v9.toInt64)), none, some (.int x6)]) (pc := 49) dX8_mixHole_49 (by decide) rfl ?_
    refine ph_ldc2 (v := (lN 31)) (pc := 51) dX8_mixHole_51 ph_k_RX8_298 ?_
    refine ph_lload (i := 4) (pc := 54) dX8_mixHole_54 rfl ?_
    refine ph_lmul (pc := 56) dX8_mixHole_56 ?_
    refine ph_aload_n (i := 0) (pc := 57) dX8_mixHole_57 rfl rfl ?_
    refine ph_iload_n (i := 3) (pc := 58) dX8_mixHole_58 rfl rfl ?_
    refine ph_callVi (pc := 59) dX8_mixHole_59 ph_mf_yX8_coughed ph_ml_RX8_372 ph_mi_yX8_coughed ph_mv_yX8_coughed rfl rfl (c_X8_coughed Z (d - 1) (by omega) x2 h10) (by omega) rfl rfl (Nat.le_of_ble_eq_true rfl) (fun v11 h12 => ?_)
    refine ph_i2l (pc := 62) dX8_mixHole_62 ?_
    refine ph_ladd (pc := 63) dX8_mixHole_63 ?_
    refine ph_lstore (i := 4) (ls1 := [some (.ref (ph_a Z 0)), none, none, some (.int x2), some (.long (((lN 31) * (((lN 31) * x5) + v9.toInt64)) + v11.toInt64)), none, some (.int x6)]) (pc := 64) dX8_mixHole_64 (by decide) rfl ?_
    refine ph_ldc2 (v := (lN 31)) (pc := 66) dX8_mixHole_66 ph_k_RX8_298 ?_
    refine ph_lload (i := 4) (pc := 69) dX8_mixHole_69 rfl ?_
    refine ph_lmul (pc := 71) dX8_mixHole_71 ?_
    refine ph_aload_n (i := 0) (pc := 72) dX8_mixHole_72 rfl rfl ?_
    refine ph_iload_n (i := 3) (pc := 73) dX8_mixHole_73 rfl rfl ?_
    refine ph_callVi (pc := 74) dX8_mixHole_74 ph_mf_yX8_ask ph_ml_RX8_375 ph_mi_yX8_ask ph_mv_yX8_ask rfl rfl (c_X8_ask Z (d - 1) (by omega) x2 h12) (by omega) rfl rfl (Nat.le_of_ble_eq_true rfl) (fun v13 h14 => ?_)
    refine ph_i2l (pc := 77) dX8_mixHole_77 ?_
    refine ph_ladd (pc := 78) dX8_mixHole_78 ?_
    exact ph_lret (pc := 79) dX8_mixHole_79 rfl
  · refine ph_ldc2 (v := (lN 31)) (pc := 12) dX8_mixHole_12 ph_k_RX8_298 ?_
    refine ph_lload (i := 4) (pc := 15) dX8_mixHole_15 rfl ?_
    refine ph_lmul (pc := 17) dX8_mixHole_17 ?_
    refine ph_aload_n (i := 0) (pc := 18) dX8_mixHole_18 rfl rfl ?_
    refine ph_iload_n (i := 3) (pc := 19) dX8_mixHole_19 rfl rfl ?_
    refine ph_iload (i := 6) (pc := 20) dX8_mixHole_20 rfl ?_
    refine ph_callVi (pc := 22) dX8_mixHole_22 ph_mf_yX8_hole ph_ml_RX8_366 ph_mi_yX8_hole ph_mv_yX8_hole rfl rfl (c_X8_hole Z (d - 1) (by omega) x2 x6 h7) (by omega) rfl rfl (Nat.le_of_ble_eq_true rfl) (fun v15 h16 => ?_)
    refine ph_i2l (pc := 25) dX8_mixHole_25 ?_
    refine ph_ladd (pc := 26) dX8_mixHole_26 ?_
    refine ph_lstore (i := 4) (ls1 := [some (.ref (ph_a Z 0)), none, none, some (.int x2), some (.long (((lN 31) * x5) + v15.toInt64)), none, some (.int x6)]) (pc := 27) dX8_mixHole_27 (by decide) rfl ?_
    refine ph_iinc (i := 6) (v := (nI 1)) (ls1 := [some (.ref (ph_a Z 0)), none, none, some (.int x2), some (.long (((lN 31) * x5) + v15.toInt64)), none, some (.int (x6 + (nI 1)))]) (pc := 29) dX8_mixHole_29 rfl ph_ic_1 (by decide) rfl ?_
    refine ph_goto (tgt := 6) (pc := 32) dX8_mixHole_32 (by decide) ?_
    exact hj4 (((lN 31) * x5) + v15.toInt64, x6 + (nI 1), h16)
def f_X8_mixStep (x1 : Int64) (x2 : Int32) (h : ph_Hp) : Option (Int64 × ph_Hp) :=
  ph_lp (α := Int64 × Int32 × ph_Hp) (fun j4 (x5, x6, h7) =>
    if (nI 4) ≤ x6 then
      ph_cl (f_X8_may (nI 3) x2 h7) fun v9 h10 =>
      ph_cl (f_X8_evening (nI 7) x2 (nI 0) h10) fun v11 h12 =>
      ph_cl (f_X8_evening (nI 7) x2 (nI 1) h12) fun v13 h14 =>
      some (((lN 31) * (((lN 31) * (((lN 31) * x5) + v9.toInt64)) + v11.toInt64)) + v13.toInt64, h14)
    else
      ph_cl (f_X8_step x2 x6 h7) fun v15 h16 =>
      j4 (((lN 31) * x5) + v15.toInt64, x6 + (nI 1), h16)) ph_fu (x1, (nI 0), h)
set_option maxRecDepth 100000 in
theorem c_X8_mixStep (Z : ph_L) (d : Nat) (hdd : 6 ≤ d) (x1 : Int64) (x2 : Int32) (h : ph_Hp) : ph_CM Z yX8_mixStep cX8_mixStep 7 (some .long) d [.ref (ph_a Z 0), .long x1, .int x2] ph_vl h (f_X8_mixStep x1 x2 h) := by
  refine ph_begin (own := RX8) ph_mf_yX8_mixStep rfl (ls := [some (.ref (ph_a Z 0)), some (.long x1), none, some (.int x2), none, none, none]) rfl (Nat.le_of_ble_eq_true rfl) ?_
  unfold f_X8_mixStep
  refine ph_lload_n (i := 1) (pc := 0) dX8_mixStep_0 rfl rfl ?_
  refine ph_lstore (i := 4) (ls1 := [some (.ref (ph_a Z 0)), some (.long x1), none, some (.int x2), some (.long x1), none, none]) (pc := 1) dX8_mixStep_1 (by decide) rfl ?_
  refine ph_iconst (v := (nI 0)) (pc := 3) dX8_mixStep_3 ph_ic_0 ?_
  refine ph_istore (i := 6) (ls1 := [some (.ref (ph_a Z 0)), some (.long x1), none, some (.int x2), some (.long x1), none, some (.int (nI 0))]) (pc := 4) dX8_mixStep_4 (by decide) rfl ?_
  refine ph_wk (ls1 := [some (.ref (ph_a Z 0)), none, none, some (.int x2), some (.long x1), none, some (.int (nI 0))]) ⟨rfl, ⟨rfl, ⟨rfl, ⟨rfl, trivial⟩⟩⟩⟩ ?_
  refine ph_loop (α := Int64 × Int32 × ph_Hp) 6 (fun x => [some (.ref (ph_a Z 0)), none, none, some (.int x2), some (.long x.1), none, some (.int x.2.1)]) (fun x => []) (fun x => x.2.2) (fun j4 hj4 x => ?_) ph_fu (x1, (nI 0), h)
  obtain ⟨x5, x6, h7⟩ := x
  dsimp only
  refine ph_iload (i := 6) (pc := 6) dX8_mixStep_6 rfl ?_
  refine ph_iconst (v := (nI 4)) (pc := 8) dX8_mixStep_8 ph_ic_4 ?_
  refine ph_icmp_ge (tgt := 35) (pc := 9) dX8_mixStep_9 (by decide) (fun c8 => ?_) (fun c8 => ?_)
  · refine ph_ldc2 (v := (lN 31)) (pc := 35) dX8_mixStep_35 ph_k_RX8_298 ?_
    refine ph_lload (i := 4) (pc := 38) dX8_mixStep_38 rfl ?_
    refine ph_lmul (pc := 40) dX8_mixStep_40 ?_
    refine ph_aload_n (i := 0) (pc := 41) dX8_mixStep_41 rfl rfl ?_
    refine ph_iconst (v := (nI 3)) (pc := 42) dX8_mixStep_42 ph_ic_3 ?_
    refine ph_iload_n (i := 3) (pc := 43) dX8_mixStep_43 rfl rfl ?_
    refine ph_callVi (pc := 44) dX8_mixStep_44 ph_mf_yX8_may ph_ml_RX8_381 ph_mi_yX8_may ph_mv_yX8_may rfl rfl (c_X8_may Z (d - 1) (by omega) (nI 3) x2 h7) (by omega) rfl rfl (Nat.le_of_ble_eq_true rfl) (fun v9 h10 => ?_)
    refine ph_i2l (pc := 47) dX8_mixStep_47 ?_
    refine ph_ladd (pc := 48) dX8_mixStep_48 ?_
    refine ph_lstore (i := 4) (ls1 := [some (.ref (ph_a Z 0)), none, none, some (.int x2), some (.long (((lN 31) * x5) + v9.toInt64)), none, some (.int x6)]) (pc := 49) dX8_mixStep_49 (by decide) rfl ?_
    refine ph_ldc2 (v := (lN 31)) (pc := 51) dX8_mixStep_51 ph_k_RX8_298 ?_
    refine ph_lload (i := 4) (pc := 54) dX8_mixStep_54 rfl ?_
    refine ph_lmul (pc := 56) dX8_mixStep_56 ?_
    refine ph_aload_n (i := 0) (pc := 57) dX8_mixStep_57 rfl rfl ?_
    refine ph_bipush (v := (nI 7)) (pc := 58) dX8_mixStep_58 ph_bp_7 ?_
    refine ph_iload_n (i := 3) (pc := 60) dX8_mixStep_60 rfl rfl ?_
    refine ph_iconst (v := (nI 0)) (pc := 61) dX8_mixStep_61 ph_ic_0 ?_
    refine ph_callVi (pc := 62) dX8_mixStep_62 ph_mf_yX8_evening ph_ml_RX8_384 ph_mi_yX8_evening ph_mv_yX8_evening rfl rfl (c_X8_evening Z (d - 1) (by omega) (nI 7) x2 (nI 0) h10) (by omega) rfl rfl (Nat.le_of_ble_eq_true rfl) (fun v11 h12 => ?_)
    refine ph_i2l (pc := 65) dX8_mixStep_65 ?_
    refine ph_ladd (pc := 66) dX8_mixStep_66 ?_
    refine ph_lstore (i := 4) (ls1 := [some (.ref (ph_a Z 0)), none, none, some (.int x2), some (.long (((lN 31) * (((lN 31) * x5) + v9.toInt64)) + v11.toInt64)), none, some (.int x6)]) (pc := 67) dX8_mixStep_67 (by decide) rfl ?_
    refine ph_ldc2 (v := (lN 31)) (pc := 69) dX8_mixStep_69 ph_k_RX8_298 ?_
    refine ph_lload (i := 4) (pc := 72) dX8_mixStep_72 rfl ?_
    refine ph_lmul (pc := 74) dX8_mixStep_74 ?_
    refine ph_aload_n (i := 0) (pc := 75) dX8_mixStep_75 rfl rfl ?_
    refine ph_bipush (v := (nI 7)) (pc := 76) dX8_mixStep_76 ph_bp_7 ?_
    refine ph_iload_n (i := 3) (pc := 78) dX8_mixStep_78 rfl rfl ?_
    refine ph_iconst (v := (nI 1)) (pc := 79) dX8_mixStep_79 ph_ic_1 ?_
    refine ph_callVi (pc := 80) dX8_mixStep_80 ph_mf_yX8_evening ph_ml_RX8_384 ph_mi_yX8_evening ph_mv_yX8_evening rfl rfl (c_X8_evening Z (d - 1) (by omega) (nI 7) x2 (nI 1) h12) (by omega) rfl rfl (Nat.le_of_ble_eq_true rfl) (fun v13 h14 => ?_)
    refine ph_i2l (pc := 83) dX8_mixStep_83 ?_
    refine ph_ladd (pc := 84) dX8_mixStep_84 ?_
    exact ph_lret (pc := 85) dX8_mixStep_85 rfl
  · refine ph_ldc2 (v := (lN 31)) (pc := 12) dX8_mixStep_12 ph_k_RX8_298 ?_
    refine ph_lload (i := 4) (pc := 15) dX8_mixStep_15 rfl ?_
    refine ph_lmul (pc := 17) dX8_mixStep_17 ?_
    refine ph_aload_n (i := 0) (pc := 18) dX8_mixStep_18 rfl rfl ?_
    refine ph_iload_n (i := 3) (pc := 19) dX8_mixStep_19 rfl rfl ?_
    refine ph_iload (i := 6) (pc := 20) dX8_mixStep_20 rfl ?_
    refine ph_callVi (pc := 22) dX8_mixStep_22 ph_mf_yX8_step ph_ml_RX8_378 ph_mi_yX8_step ph_mv_yX8_step rfl rfl (c_X8_step Z (d - 1) (by omega) x2 x6 h7) (by omega) rfl rfl (Nat.le_of_ble_eq_true rfl) (fun v15 h16 => ?_)
    refine ph_i2l (pc := 25) dX8_mixStep_25 ?_
    refine ph_ladd (pc := 26) dX8_mixStep_26 ?_
    refine ph_lstore (i := 4) (ls1 := [some (.ref (ph_a Z 0)), none, none, some (.int x2), some (.long (((lN 31) * x5) + v15.toInt64)), none, some (.int x6)]) (pc := 27) dX8_mixStep_27 (by decide) rfl ?_
    refine ph_iinc (i := 6) (v := (nI 1)) (ls1 := [some (.ref (ph_a Z 0)), none, none, some (.int x2), some (.long (((lN 31) * x5) + v15.toInt64)), none, some (.int (x6 + (nI 1)))]) (pc := 29) dX8_mixStep_29 rfl ph_ic_1 (by decide) rfl ?_
    refine ph_goto (tgt := 6) (pc := 32) dX8_mixStep_32 (by decide) ?_
    exact hj4 (((lN 31) * x5) + v15.toInt64, x6 + (nI 1), h16)
def f_X8_digest (h : ph_Hp) : Option (Int64 × ph_Hp) :=
  ph_lp (α := Int64 × Int32 × ph_Hp) (fun j2 (x3, x4, h5) =>
    if (nI 8) ≤ x4 then
      ph_cl (f_X8_fault (nI 0) h5) fun v7 h8 =>
      ph_cl (f_X8_fault (nI 1) h8) fun v9 h10 =>
      ph_lp (α := Int64 × Int32 × ph_Hp) (fun j11 (x12, x13, h14) =>
        if (nI 8) ≤ x13 then
          ph_cl (f_X8_count (nI 1) h14) fun v16 h17 =>
          ph_lp (α := Int64 × Int32 × ph_Hp) (fun j18 (x19, x20, h21) =>
            if v16 ≤ x20 then
              ph_lp (α := Int64 × Int32 × ph_Hp) (fun j23 (x24, x25, h26) =>
                if (nI 5) ≤ x25 then
                  ph_cl (f_X8_drift (nI 0) h26) fun v28 h29 =>
                  ph_cl (f_X8_drift (nI 1) h29) fun v30 h31 =>
                  ph_cl (f_X8_round h31) fun v32 h33 =>
                  ph_cl (f_X8_filed h33) fun v34 h35 =>
                  some (((lN 31) * (((lN 31) * (((lN 31) * (((lN 31) * x24) + v28.toInt64)) + v30.toInt64)) + v32.toInt64)) + v34.toInt64, h35)
                else
                  ph_ldT x25 fun v36 =>
                  ph_cl (f_X8_mixStep x24 v36 h26) fun v37 h38 =>
                  j23 (v37, x25 + (nI 1), h38)) ph_fu (x19, (nI 0), h21)
            else
              ph_cl (f_X8_mixHole x19 x20 h21) fun v39 h40 =>
              j18 (v39, x20 + (nI 1), h40)) ph_fu (x12, (nI 0), h17)
        else
          ph_cl (f_X8_mixLine x12 x13 h14) fun v41 h42 =>
          j11 (v41, x13 + (nI 1), h42)) ph_fu (((lN 31) * (((lN 31) * x3) + v7.toInt64)) + v9.toInt64, (nI 0), h10)
    else
      ph_cl (f_X8_count x4 h5) fun v43 h44 =>
      j2 (((lN 31) * x3) + v43.toInt64, x4 + (nI 1), h44)) ph_fu ((lN 17), (nI 0), h)
set_option maxRecDepth 100000 in
theorem c_X8_digest (Z : ph_L) (d : Nat) (hdd : 7 ≤ d) (h : ph_Hp) : ph_CM Z yX8_digest cX8_digest 5 (some .long) d [.ref (ph_a Z 0)] ph_vl h (f_X8_digest h) := by
  refine ph_begin (own := RX8) ph_mf_yX8_digest rfl (ls := [some (.ref (ph_a Z 0)), none, none, none, none]) rfl (Nat.le_of_ble_eq_true rfl) ?_
  unfold f_X8_digest
  refine ph_ldc2 (v := (lN 17)) (pc := 0) dX8_digest_0 ph_k_RX8_296 ?_
  refine ph_lstore_n (i := 1) (ls1 := [some (.ref (ph_a Z 0)), some (.long (lN 17)), none, none, none]) (pc := 3) dX8_digest_3 rfl (by decide) rfl ?_
  refine ph_iconst (v := (nI 0)) (pc := 4) dX8_digest_4 ph_ic_0 ?_
  refine ph_istore_n (i := 3) (ls1 := [some (.ref (ph_a Z 0)), some (.long (lN 17)), none, some (.int (nI 0)), none]) (pc := 5) dX8_digest_5 rfl (by decide) rfl ?_
  refine ph_loop (α := Int64 × Int32 × ph_Hp) 6 (fun x => [some (.ref (ph_a Z 0)), some (.long x.1), none, some (.int x.2.1), none]) (fun x => []) (fun x => x.2.2) (fun j2 hj2 x => ?_) ph_fu ((lN 17), (nI 0), h)
  obtain ⟨x3, x4, h5⟩ := x
  dsimp only
  refine ph_iload_n (i := 3) (pc := 6) dX8_digest_6 rfl rfl ?_
  refine ph_bipush (v := (nI 8)) (pc := 7) dX8_digest_7 ph_bp_8 ?_
  refine ph_icmp_ge (tgt := 31) (pc := 9) dX8_digest_9 (by decide) (fun c6 => ?_) (fun c6 => ?_)
  · refine ph_ldc2 (v := (lN 31)) (pc := 31) dX8_digest_31 ph_k_RX8_298 ?_
    refine ph_lload_n (i := 1) (pc := 34) dX8_digest_34 rfl rfl ?_
    refine ph_lmul (pc := 35) dX8_digest_35 ?_
    refine ph_aload_n (i := 0) (pc := 36) dX8_digest_36 rfl rfl ?_
    refine ph_iconst (v := (nI 0)) (pc := 37) dX8_digest_37 ph_ic_0 ?_
    refine ph_callVi (pc := 38) dX8_digest_38 ph_mf_yX8_fault ph_ml_RX8_303 ph_mi_yX8_fault ph_mv_yX8_fault rfl rfl (c_X8_fault Z (d - 1) (by omega) (nI 0) h5) (by omega) rfl rfl (Nat.le_of_ble_eq_true rfl) (fun v7 h8 => ?_)
    refine ph_i2l (pc := 41) dX8_digest_41 ?_
    refine ph_ladd (pc := 42) dX8_digest_42 ?_
    refine ph_lstore_n (i := 1) (ls1 := [some (.ref (ph_a Z 0)), some (.long (((lN 31) * x3) + v7.toInt64)), none, some (.int x4), none]) (pc := 43) dX8_digest_43 rfl (by decide) rfl ?_
    refine ph_ldc2 (v := (lN 31)) (pc := 44) dX8_digest_44 ph_k_RX8_298 ?_
    refine ph_lload_n (i := 1) (pc := 47) dX8_digest_47 rfl rfl ?_
    refine ph_lmul (pc := 48) dX8_digest_48 ?_
    refine ph_aload_n (i := 0) (pc := 49) dX8_digest_49 rfl rfl ?_
    refine ph_iconst (v := (nI 1)) (pc := 50) dX8_digest_50 ph_ic_1 ?_
    refine ph_callVi (pc := 51) dX8_digest_51 ph_mf_yX8_fault ph_ml_RX8_303 ph_mi_yX8_fault ph_mv_yX8_fault rfl rfl (c_X8_fault Z (d - 1) (by omega) (nI 1) h8) (by omega) rfl rfl (Nat.le_of_ble_eq_true rfl) (fun v9 h10 => ?_)
    refine ph_i2l (pc := 54) dX8_digest_54 ?_
    refine ph_ladd (pc := 55) dX8_digest_55 ?_
    refine ph_lstore_n (i := 1) (ls1 := [some (.ref (ph_a Z 0)), some (.long (((lN 31) * (((lN 31) * x3) + v7.toInt64)) + v9.toInt64)), none, some (.int x4), none]) (pc := 56) dX8_digest_56 rfl (by decide) rfl ?_
    refine ph_iconst (v := (nI 0)) (pc := 57) dX8_digest_57 ph_ic_0 ?_
    refine ph_istore_n (i := 3) (ls1 := [some (.ref (ph_a Z 0)), some (.long (((lN 31) * (((lN 31) * x3) + v7.toInt64)) + v9.toInt64)), none, some (.int (nI 0)), none]) (pc := 58) dX8_digest_58 rfl (by decide) rfl ?_
    refine ph_loop (α := Int64 × Int32 × ph_Hp) 59 (fun x => [some (.ref (ph_a Z 0)), some (.long x.1), none, some (.int x.2.1), none]) (fun x => []) (fun x => x.2.2) (fun j11 hj11 x => ?_) ph_fu (((lN 31) * (((lN 31) * x3) + v7.toInt64)) + v9.toInt64, (nI 0), h10)
    obtain ⟨x12, x13, h14⟩ := x
    dsimp only
    refine ph_iload_n (i := 3) (pc := 59) dX8_digest_59 rfl rfl ?_
    refine ph_bipush (v := (nI 8)) (pc := 60) dX8_digest_60 ph_bp_8 ?_
    refine ph_icmp_ge (tgt := 78) (pc := 62) dX8_digest_62 (by decide) (fun c15 => ?_) (fun c15 => ?_)
    · refine ph_aload_n (i := 0) (pc := 78) dX8_digest_78 rfl rfl ?_
      refine ph_iconst (v := (nI 1)) (pc := 79) dX8_digest_79 ph_ic_1 ?_
      refine ph_callVi (pc := 80) dX8_digest_80 ph_mf_yX8_count ph_ml_RX8_300 ph_mi_yX8_count ph_mv_yX8_count rfl rfl (c_X8_count Z (d - 1) (by omega) (nI 1) h14) (by omega) rfl rfl (Nat.le_of_ble_eq_true rfl) (fun v16 h17 => ?_)
      refine ph_istore_n (i := 3) (ls1 := [some (.ref (ph_a Z 0)), some (.long x12), none, some (.int v16), none]) (pc := 83) dX8_digest_83 rfl (by decide) rfl ?_
      refine ph_iconst (v := (nI 0)) (pc := 84) dX8_digest_84 ph_ic_0 ?_
      refine ph_istore (i := 4) (ls1 := [some (.ref (ph_a Z 0)), some (.long x12), none, some (.int v16), some (.int (nI 0))]) (pc := 85) dX8_digest_85 (by decide) rfl ?_
      refine ph_loop (α := Int64 × Int32 × ph_Hp) 87 (fun x => [some (.ref (ph_a Z 0)), some (.long x.1), none, some (.int v16), some (.int x.2.1)]) (fun x => []) (fun x => x.2.2) (fun j18 hj18 x => ?_) ph_fu (x12, (nI 0), h17)
      obtain ⟨x19, x20, h21⟩ := x
      dsimp only
      refine ph_iload (i := 4) (pc := 87) dX8_digest_87 rfl ?_
      refine ph_iload_n (i := 3) (pc := 89) dX8_digest_89 rfl rfl ?_
      refine ph_icmp_ge (tgt := 107) (pc := 90) dX8_digest_90 (by decide) (fun c22 => ?_) (fun c22 => ?_)
      · refine ph_iconst (v := (nI 0)) (pc := 107) dX8_digest_107 ph_ic_0 ?_
        refine ph_istore (i := 4) (ls1 := [some (.ref (ph_a Z 0)), some (.long x19), none, some (.int v16), some (.int (nI 0))]) (pc := 108) dX8_digest_108 (by decide) rfl ?_
        refine ph_wk (ls1 := [some (.ref (ph_a Z 0)), some (.long x19), none, none, some (.int (nI 0))]) ⟨rfl, ⟨rfl, ⟨rfl, trivial⟩⟩⟩ ?_
        refine ph_loop (α := Int64 × Int32 × ph_Hp) 110 (fun x => [some (.ref (ph_a Z 0)), some (.long x.1), none, none, some (.int x.2.1)]) (fun x => []) (fun x => x.2.2) (fun j23 hj23 x => ?_) ph_fu (x19, (nI 0), h21)
        obtain ⟨x24, x25, h26⟩ := x
        dsimp only
        refine ph_iload (i := 4) (pc := 110) dX8_digest_110 rfl ?_
        refine ph_gets (pc := 112) dX8_digest_112 ph_fs_RX8_312 ?_
        refine ph_tlen (pc := 115) dX8_digest_115 ?_
        refine ph_icmp_ge (tgt := 137) (pc := 116) dX8_digest_116 (by decide) (fun c27 => ?_) (fun c27 => ?_)
        · refine ph_ldc2 (v := (lN 31)) (pc := 137) dX8_digest_137 ph_k_RX8_298 ?_
          refine ph_lload_n (i := 1) (pc := 140) dX8_digest_140 rfl rfl ?_
          refine ph_lmul (pc := 141) dX8_digest_141 ?_
          refine ph_aload_n (i := 0) (pc := 142) dX8_digest_142 rfl rfl ?_
          refine ph_iconst (v := (nI 0)) (pc := 143) dX8_digest_143 ph_ic_0 ?_
          refine ph_callVi (pc := 144) dX8_digest_144 ph_mf_yX8_drift ph_ml_RX8_318 ph_mi_yX8_drift ph_mv_yX8_drift rfl rfl (c_X8_drift Z (d - 1) (by omega) (nI 0) h26) (by omega) rfl rfl (Nat.le_of_ble_eq_true rfl) (fun v28 h29 => ?_)
          refine ph_i2l (pc := 147) dX8_digest_147 ?_
          refine ph_ladd (pc := 148) dX8_digest_148 ?_
          refine ph_lstore_n (i := 1) (ls1 := [some (.ref (ph_a Z 0)), some (.long (((lN 31) * x24) + v28.toInt64)), none, none, some (.int x25)]) (pc := 149) dX8_digest_149 rfl (by decide) rfl ?_
          refine ph_ldc2 (v := (lN 31)) (pc := 150) dX8_digest_150 ph_k_RX8_298 ?_
          refine ph_lload_n (i := 1) (pc := 153) dX8_digest_153 rfl rfl ?_
          refine ph_lmul (pc := 154) dX8_digest_154 ?_
          refine ph_aload_n (i := 0) (pc := 155) dX8_digest_155 rfl rfl ?_
          refine ph_iconst (v := (nI 1)) (pc := 156) dX8_digest_156 ph_ic_1 ?_
          refine ph_callVi (pc := 157) dX8_digest_157 ph_mf_yX8_drift ph_ml_RX8_318 ph_mi_yX8_drift ph_mv_yX8_drift rfl rfl (c_X8_drift Z (d - 1) (by omega) (nI 1) h29) (by omega) rfl rfl (Nat.le_of_ble_eq_true rfl) (fun v30 h31 => ?_)
          refine ph_i2l (pc := 160) dX8_digest_160 ?_
          refine ph_ladd (pc := 161) dX8_digest_161 ?_
          refine ph_lstore_n (i := 1) (ls1 := [some (.ref (ph_a Z 0)), some (.long (((lN 31) * (((lN 31) * x24) + v28.toInt64)) + v30.toInt64)), none, none, some (.int x25)]) (pc := 162) dX8_digest_162 rfl (by decide) rfl ?_
          refine ph_ldc2 (v := (lN 31)) (pc := 163) dX8_digest_163 ph_k_RX8_298 ?_
          refine ph_lload_n (i := 1) (pc := 166) dX8_digest_166 rfl rfl ?_
          refine ph_lmul (pc := 167) dX8_digest_167 ?_
          refine ph_aload_n (i := 0) (pc := 168) dX8_digest_168 rfl rfl ?_
          refine ph_callVi (pc := 169) dX8_digest_169 ph_mf_yX8_round ph_ml_RX8_321 ph_mi_yX8_round ph_mv_yX8_round rfl rfl (c_X8_round Z (d - 1) (by omega) h31) (by omega) rfl rfl (Nat.le_of_ble_eq_true rfl) (fun v32 h33 => ?_)
          refine ph_i2l (pc := 172) dX8_digest_172 ?_
          refine ph_ladd (pc := 173) dX8_digest_173 ?_
          refine ph_lstore_n (i := 1) (ls1 := [some (.ref (ph_a Z 0)), some (.long (((lN 31) * (((lN 31) * (((lN 31) * x24) + v28.toInt64)) + v30.toInt64)) + v32.toInt64)), none, none, some (.int x25)]) (pc := 174) dX8_digest_174 rfl (by decide) rfl ?_
          refine ph_ldc2 (v := (lN 31)) (pc := 175) dX8_digest_175 ph_k_RX8_298 ?_
          refine ph_lload_n (i := 1) (pc := 178) dX8_digest_178 rfl rfl ?_
          refine ph_lmul (pc := 179) dX8_digest_179 ?_
          refine ph_aload_n (i := 0) (pc := 180) dX8_digest_180 rfl rfl ?_
          refine ph_callVi (pc := 181) dX8_digest_181 ph_mf_yX8_filed ph_ml_RX8_324 ph_mi_yX8_filed ph_mv_yX8_filed rfl rfl (c_X8_filed Z (d - 1) (by omega) h33) (by omega) rfl rfl (Nat.le_of_ble_eq_true rfl) (fun v34 h35 => ?_)
          refine ph_i2l (pc := 184) dX8_digest_184 ?_
          refine ph_ladd (pc := 185) dX8_digest_185 ?_
          exact ph_lret (pc := 186) dX8_digest_186 rfl
        · refine ph_aload_n (i := 0) (pc := 119) dX8_digest_119 rfl rfl ?_
          refine ph_lload_n (i := 1) (pc := 120) dX8_digest_120 rfl rfl ?_
          refine ph_gets (pc := 121) dX8_digest_121 ph_fs_RX8_312 ?_
          refine ph_iload (i := 4) (pc := 124) dX8_digest_124 rfl ?_
          refine ph_tald (pc := 126) dX8_digest_126 (fun v36 => ?_)
          refine ph_callVl (pc := 127) dX8_digest_127 ph_mf_yX8_mixStep ph_ml_RX8_315 ph_mi_yX8_mixStep ph_mv_yX8_mixStep rfl rfl (c_X8_mixStep Z (d - 1) (by omega) x24 v36 h26) (by omega) rfl rfl (Nat.le_of_ble_eq_true rfl) (fun v37 h38 => ?_)
          refine ph_lstore_n (i := 1) (ls1 := [some (.ref (ph_a Z 0)), some (.long v37), none, none, some (.int x25)]) (pc := 130) dX8_digest_130 rfl (by decide) rfl ?_
          refine ph_iinc (i := 4) (v := (nI 1)) (ls1 := [some (.ref (ph_a Z 0)), some (.long v37), none, none, some (.int (x25 + (nI 1)))]) (pc := 131) dX8_digest_131 rfl ph_ic_1 (by decide) rfl ?_
          refine ph_goto (tgt := 110) (pc := 134) dX8_digest_134 (by decide) ?_
          exact hj23 (v37, x25 + (nI 1), h38)
      · refine ph_aload_n (i := 0) (pc := 93) dX8_digest_93 rfl rfl ?_
        refine ph_lload_n (i := 1) (pc := 94) dX8_digest_94 rfl rfl ?_
        refine ph_iload (i := 4) (pc := 95) dX8_digest_95 rfl ?_
        refine ph_callVl (pc := 97) dX8_digest_97 ph_mf_yX8_mixHole ph_ml_RX8_309 ph_mi_yX8_mixHole ph_mv_yX8_mixHole rfl rfl (c_X8_mixHole Z (d - 1) (by omega) x19 x20 h21) (by omega) rfl rfl (Nat.le_of_ble_eq_true rfl) (fun v39 h40 => ?_)
        refine ph_lstore_n (i := 1) (ls1 := [some (.ref (ph_a Z 0)), some (.long v39), none, some (.int v16), some (.int x20)]) (pc := 100) dX8_digest_100 rfl (by decide) rfl ?_
        refine ph_iinc (i := 4) (v := (nI 1)) (ls1 := [some (.ref (ph_a Z 0)), some (.long v39), none, some (.int v16), some (.int (x20 + (nI 1)))]) (pc := 101) dX8_digest_101 rfl ph_ic_1 (by decide) rfl ?_
        refine ph_goto (tgt := 87) (pc := 104) dX8_digest_104 (by decide) ?_
        exact hj18 (v39, x20 + (nI 1), h40)
    · refine ph_aload_n (i := 0) (pc := 65) dX8_digest_65 rfl rfl ?_
      refine ph_lload_n (i := 1) (pc := 66) dX8_digest_66 rfl rfl ?_
      refine ph_iload_n (i := 3) (pc := 67) dX8_digest_67 rfl rfl ?_
      refine ph_callVl (pc := 68) dX8_digest_68 ph_mf_yX8_mixLine ph_ml_RX8_305 ph_mi_yX8_mixLine ph_mv_yX8_mixLine rfl rfl (c_X8_mixLine Z (d - 1) (by omega) x12 x13 h14) (by omega) rfl rfl (Nat.le_of_ble_eq_true rfl) (fun v41 h42 => ?_)
      refine ph_lstore_n (i := 1) (ls1 := [some (.ref (ph_a Z 0)), some (.long v41), none, some (.int x13), none]) (pc := 71) dX8_digest_71 rfl (by decide) rfl ?_
      refine ph_iinc (i := 3) (v := (nI 1)) (ls1 := [some (.ref (ph_a Z 0)), some (.long v41), none, some (.int (x13 + (nI 1))), none]) (pc := 72) dX8_digest_72 rfl ph_ic_1 (by decide) rfl ?_
      refine ph_goto (tgt := 59) (pc := 75) dX8_digest_75 (by decide) ?_
      exact hj11 (v41, x13 + (nI 1), h42)
  · refine ph_ldc2 (v := (lN 31)) (pc := 12) dX8_digest_12 ph_k_RX8_298 ?_
    refine ph_lload_n (i := 1) (pc := 15) dX8_digest_15 rfl rfl ?_
    refine ph_lmul (pc := 16) dX8_digest_16 ?_
    refine ph_aload_n (i := 0) (pc := 17) dX8_digest_17 rfl rfl ?_
    refine ph_iload_n (i := 3) (pc := 18) dX8_digest_18 rfl rfl ?_
    refine ph_callVi (pc := 19) dX8_digest_19 ph_mf_yX8_count ph_ml_RX8_300 ph_mi_yX8_count ph_mv_yX8_count rfl rfl (c_X8_count Z (d - 1) (by omega) x4 h5) (by omega) rfl rfl (Nat.le_of_ble_eq_true rfl) (fun v43 h44 => ?_)
    refine ph_i2l (pc := 22) dX8_digest_22 ?_
    refine ph_ladd (pc := 23) dX8_digest_23 ?_
    refine ph_lstore_n (i := 1) (ls1 := [some (.ref (ph_a Z 0)), some (.long (((lN 31) * x3) + v43.toInt64)), none, some (.int x4), none]) (pc := 24) dX8_digest_24 rfl (by decide) rfl ?_
    refine ph_iinc (i := 3) (v := (nI 1)) (ls1 := [some (.ref (ph_a Z 0)), some (.long (((lN 31) * x3) + v43.toInt64)), none, some (.int (x4 + (nI 1))), none]) (pc := 25) dX8_digest_25 rfl ph_ic_1 (by decide) rfl ?_
    refine ph_goto (tgt := 6) (pc := 28) dX8_digest_28 (by decide) ?_
    exact hj2 (((lN 31) * x3) + v43.toInt64, x4 + (nI 1), h44)
def f_X9_in (x1 : Int64) (x2 : Int64) (x3 : Int64) (h : ph_Hp) : Option (Int32 × ph_Hp) :=
  if (lg_cmp x1 x2) < nI 0 then
    ph_rz (nI 0) h
  else
    if nI 0 < (lg_cmp x1 x3) then
      ph_rz (nI 0) h
    else
      ph_rz (nI 1) h
set_option maxRecDepth 100000 in
theorem c_X9_in (Z : ph_L) (d : Nat) (hdd : 0 ≤ d) (x1 : Int64) (x2 : Int64) (x3 : Int64) (h : ph_Hp) : ph_CM Z yX9_in cX9_in 6 (some .boolean) d [.long x1, .long x2, .long x3] ph_vi h (f_X9_in x1 x2 x3 h) := by
  refine ph_begin (own := RX9) ph_mf_yX9_in rfl (ls := [some (.long x1), none, some (.long x2), none, some (.long x3), none]) rfl (Nat.le_of_ble_eq_true rfl) ?_
  unfold f_X9_in
  refine ph_lload_n (i := 0) (pc := 0) dX9_in_0 rfl rfl ?_
  refine ph_lload_n (i := 2) (pc := 1) dX9_in_1 rfl rfl ?_
  refine ph_lcmp (pc := 2) dX9_in_2 ?_
  refine ph_if_lt (tgt := 17) (pc := 3) dX9_in_3 (by decide) (fun c5 => ?_) (fun c5 => ?_)
  · refine ph_iconst (v := (nI 0)) (pc := 17) dX9_in_17 ph_ic_0 ?_
    exact ph_zret (pc := 18) dX9_in_18 rfl
  · refine ph_lload_n (i := 0) (pc := 6) dX9_in_6 rfl rfl ?_
    refine ph_lload (i := 4) (pc := 7) dX9_in_7 rfl ?_
    refine ph_lcmp (pc := 9) dX9_in_9 ?_
    refine ph_if_gt (tgt := 17) (pc := 10) dX9_in_10 (by decide) (fun c6 => ?_) (fun c6 => ?_)
    · refine ph_iconst (v := (nI 0)) (pc := 17) dX9_in_17 ph_ic_0 ?_
      exact ph_zret (pc := 18) dX9_in_18 rfl
    · refine ph_iconst (v := (nI 1)) (pc := 13) dX9_in_13 ph_ic_1 ?_
      refine ph_goto (tgt := 18) (pc := 14) dX9_in_14 (by decide) ?_
      exact ph_zret (pc := 18) dX9_in_18 rfl
def f_X9_no (x1 : Int32) (h : ph_Hp) : Option (Int64 × ph_Hp) :=
  some ((-9223372036854775808) - x1.toInt64, h)
set_option maxRecDepth 100000 in
theorem c_X9_no (Z : ph_L) (d : Nat) (hdd : 0 ≤ d) (x1 : Int32) (h : ph_Hp) : ph_CM Z yX9_no cX9_no 1 (some .long) d [.int x1] ph_vl h (f_X9_no x1 h) := by
  refine ph_begin (own := RX9) ph_mf_yX9_no rfl (ls := [some (.int x1)]) rfl (Nat.le_of_ble_eq_true rfl) ?_
  unfold f_X9_no
  refine ph_ldc2 (v := (-9223372036854775808)) (pc := 0) dX9_no_0 ph_k_RX9_68 ?_
  refine ph_iload_n (i := 0) (pc := 3) dX9_no_3 rfl rfl ?_
  refine ph_i2l (pc := 4) dX9_no_4 ?_
  refine ph_lsub (pc := 5) dX9_no_5 ?_
  exact ph_lret (pc := 6) dX9_no_6 rfl
def f_X9_isTwo (x1 : Int32) (h : ph_Hp) : Option (Int32 × ph_Hp) :=
  ph_cl (f_X9_in x1.toInt64 (lN 0) (lN 1) h) fun v3 h4 =>
  ph_rz v3 h4
set_option maxRecDepth 100000 in
theorem c_X9_isTwo (Z : ph_L) (d : Nat) (hdd : 1 ≤ d) (x1 : Int32) (h : ph_Hp) : ph_CM Z yX9_isTwo cX9_isTwo 1 (some .boolean) d [.int x1] ph_vi h (f_X9_isTwo x1 h) := by
  refine ph_begin (own := RX9) ph_mf_yX9_isTwo rfl (ls := [some (.int x1)]) rfl (Nat.le_of_ble_eq_true rfl) ?_
  unfold f_X9_isTwo
  refine ph_iload_n (i := 0) (pc := 0) dX9_isTwo_0 rfl rfl ?_
  refine ph_i2l (pc := 1) dX9_isTwo_1 ?_
  refine ph_lconst (v := (lN 0)) (pc := 2) dX9_isTwo_2 rfl ?_
  refine ph_lconst (v := (lN 1)) (pc := 3) dX9_isTwo_3 rfl ?_
  refine ph_callSi (pc := 4) dX9_isTwo_4 ph_mf_yX9_in ph_ml_RX9_70 ph_ms_yX9_in (c_X9_in Z (d - 1) (by omega) x1.toInt64 (lN 0) (lN 1) h) (by omega) rfl rfl (Nat.le_of_ble_eq_true rfl) (fun v3 h4 => ?_)
  exact ph_zret (pc := 7) dX9_isTwo_7 rfl
def f_X9_isIn (x1 : Int32) (x2 : Int32) (h : ph_Hp) : Option (Int32 × ph_Hp) :=
  if ((ph_shr x1 x2) &&& (nI 1)) = (nI 1) then
    ph_rz (nI 1) h
  else
    ph_rz (nI 0) h
set_option maxRecDepth 100000 in
theorem c_X9_isIn (Z : ph_L) (d : Nat) (hdd : 0 ≤ d) (x1 : Int32) (x2 : Int32) (h : ph_Hp) : ph_CM Z yX9_isIn cX9_isIn 2 (some .boolean) d [.int x1, .int x2] ph_vi h (f_X9_isIn x1 x2 h) := by
  refine ph_begin (own := RX9) ph_mf_yX9_isIn rfl (ls := [some (.int x1), some (.int x2)]) rfl (Nat.le_of_ble_eq_true rfl) ?_
  unfold f_X9_isIn
  refine ph_iload_n (i := 0) (pc := 0) dX9_isIn_0 rfl rfl ?_
  refine ph_iload_n (i := 1) (pc := 1) dX9_isIn_1 rfl rfl ?_
  refine ph_ishr (pc := 2) dX9_isIn_2 ?_
  refine ph_iconst (v := (nI 1)) (pc := 3) dX9_isIn_3 ph_ic_1 ?_
  refine ph_iand (pc := 4) dX9_isIn_4 ?_
  refine ph_iconst (v := (nI 1)) (pc := 5) dX9_isIn_5 ph_ic_1 ?_
  refine ph_icmp_ne (tgt := 13) (pc := 6) dX9_isIn_6 (by decide) (fun c4 => ?_) (fun c4 => ?_)
  · refine ph_iconst (v := (nI 0)) (pc := 13) dX9_isIn_13 ph_ic_0 ?_
    exact ph_zret (pc := 14) dX9_isIn_14 rfl
  · refine ph_iconst (v := (nI 1)) (pc := 9) dX9_isIn_9 ph_ic_1 ?_
    refine ph_goto (tgt := 14) (pc := 10) dX9_isIn_10 (by decide) ?_
    exact ph_zret (pc := 14) dX9_isIn_14 rfl
def f_X9_lesser (x1 : Int32) (x2 : Int32) (h : ph_Hp) : Option (Int32 × ph_Hp) :=
  if x2 ≤ x1 then
    some (x2, h)
  else
    some (x1, h)
set_option maxRecDepth 100000 in
theorem c_X9_lesser (Z : ph_L) (d : Nat) (hdd : 0 ≤ d) (x1 : Int32) (x2 : Int32) (h : ph_Hp) : ph_CM Z yX9_lesser cX9_lesser 2 (some .int) d [.int x1, .int x2] ph_vi h (f_X9_lesser x1 x2 h) := by
  refine ph_begin (own := RX9) ph_mf_yX9_lesser rfl (ls := [some (.int x1), some (.int x2)]) rfl (Nat.le_of_ble_eq_true rfl) ?_
  unfold f_X9_lesser
  refine ph_iload_n (i := 0) (pc := 0) dX9_lesser_0 rfl rfl ?_
  refine ph_iload_n (i := 1) (pc := 1) dX9_lesser_1 rfl rfl ?_
  refine ph_icmp_ge (tgt := 9) (pc := 2) dX9_lesser_2 (by decide) (fun c4 => ?_) (fun c4 => ?_)
  · refine ph_iload_n (i := 1) (pc := 9) dX9_lesser_9 rfl rfl ?_
    exact ph_iret (pc := 10) dX9_lesser_10 rfl
  · refine ph_iload_n (i := 0) (pc := 5) dX9_lesser_5 rfl rfl ?_
    refine ph_goto (tgt := 10) (pc := 6) dX9_lesser_6 (by decide) ?_
    exact ph_iret (pc := 10) dX9_lesser_10 rfl
def f_X9_amount (x1 : Int32) (h : ph_Hp) : Option (Int32 × ph_Hp) :=
  if nI 0 ≤ x1 then
    some (x1, h)
  else
    some (-x1, h)
set_option maxRecDepth 100000 in
theorem c_X9_amount (Z : ph_L) (d : Nat) (hdd : 0 ≤ d) (x1 : Int32) (h : ph_Hp) : ph_CM Z yX9_amount cX9_amount 1 (some .int) d [.int x1] ph_vi h (f_X9_amount x1 h) := by
  refine ph_begin (own := RX9) ph_mf_yX9_amount rfl (ls := [some (.int x1)]) rfl (Nat.le_of_ble_eq_true rfl) ?_
  unfold f_X9_amount
  refine ph_iload_n (i := 0) (pc := 0) dX9_amount_0 rfl rfl ?_
  refine ph_if_ge (tgt := 9) (pc := 1) dX9_amount_1 (by decide) (fun c3 => ?_) (fun c3 => ?_)
  · refine ph_iload_n (i := 0) (pc := 9) dX9_amount_9 rfl rfl ?_
    exact ph_iret (pc := 10) dX9_amount_10 rfl
  · refine ph_iload_n (i := 0) (pc := 4) dX9_amount_4 rfl rfl ?_
    refine ph_ineg (pc := 5) dX9_amount_5 ?_
    refine ph_goto (tgt := 10) (pc := 6) dX9_amount_6 (by decide) ?_
    exact ph_iret (pc := 10) dX9_amount_10 rfl
def f_X9_part (x1 : Int64) (x2 : Int64) (x3 : Int32) (h : ph_Hp) : Option (Int64 × ph_Hp) :=
  ph_lp (α := Int64 × Int64) (fun j5 (x6, x7) =>
    if (lg_cmp x7 (lN 0)) = nI 0 then
      ph_jn (α := Int64) (fun x10 =>
        ph_dvJ x10 x6 fun v11 =>
        some (v11, h)) (fun j9 =>
        if x3 = nI 0 then
          j9 x1
        else
          j9 x2)
    else
      ph_rmJ x6 x7 fun v13 =>
      j5 (x7, v13)) ph_fu (x1, x2)
set_option maxRecDepth 100000 in
theorem c_X9_part (Z : ph_L) (d : Nat) (hdd : 0 ≤ d) (x1 : Int64) (x2 : Int64) (x3 : Int32) (h : ph_Hp) : ph_CM Z yX9_part cX9_part 11 (some .long) d [.long x1, .long x2, .int x3] ph_vl h (f_X9_part x1 x2 x3 h) := by
  refine ph_begin (own := RX9) ph_mf_yX9_part rfl (ls := [some (.long x1), none, some (.long x2), none, some (.int x3), none, none, none, none, none, none]) rfl (Nat.le_of_ble_eq_true rfl) ?_
  unfold f_X9_part
  refine ph_lload_n (i := 0) (pc := 0) dX9_part_0 rfl rfl ?_
  refine ph_lstore (i := 5) (ls1 := [some (.long x1), none, some (.long x2), none, some (.int x3), some (.long x1), none, none, none, none, none]) (pc := 1) dX9_part_1 (by decide) rfl ?_
  refine ph_lload_n (i := 2) (pc := 3) dX9_part_3 rfl rfl ?_
  refine ph_lstore (i := 7) (ls1 := [some (.long x1), none, some (.long x2), none, some (.int x3), some (.long x1), none, some (.long x2), none, none, none]) (pc := 4) dX9_part_4 (by decide) rfl ?_
  refine ph_loop (α := Int64 × Int64) 6 (fun x => [some (.long x1), none, some (.long x2), none, some (.int x3), some (.long x.1), none, some (.long x.2), none, none, none]) (fun x => []) (fun x => h) (fun j5 hj5 x => ?_) ph_fu (x1, x2)
  obtain ⟨x6, x7⟩ := x
  dsimp only
  refine ph_lload (i := 7) (pc := 6) dX9_part_6 rfl ?_
  refine ph_lconst (v := (lN 0)) (pc := 8) dX9_part_8 rfl ?_
  refine ph_lcmp (pc := 9) dX9_part_9 ?_
  refine ph_if_eq (tgt := 31) (pc := 10) dX9_part_10 (by decide) (fun c8 => ?_) (fun c8 => ?_)
  · refine ph_iload (i := 4) (pc := 31) dX9_part_31 rfl ?_
    refine ph_join (α := Int64) 41 (fun x => [none, none, none, none, none, some (.long x6), none, none, none, none, none]) (fun x => [.long x]) (fun x => h) (fun x => ?_) (fun j9 hj9 => ?_)
    · revert x; intro x10
      refine ph_lload (i := 5) (pc := 41) dX9_part_41 rfl ?_
      refine ph_ldivX (pc := 43) dX9_part_43 (fun v11 => ?_)
      exact ph_lret (pc := 44) dX9_part_44 rfl
    · refine ph_if_ne (tgt := 40) (pc := 33) dX9_part_33 (by decide) (fun c12 => ?_) (fun c12 => ?_)
      · refine ph_lload_n (i := 2) (pc := 40) dX9_part_40 rfl rfl ?_
        refine ph_wk (ls1 := [none, none, none, none, none, some (.long x6), none, none, none, none, none]) ⟨rfl, trivial⟩ ?_
        exact hj9 x2
      · refine ph_lload_n (i := 0) (pc := 36) dX9_part_36 rfl rfl ?_
        refine ph_goto (tgt := 41) (pc := 37) dX9_part_37 (by decide) ?_
        refine ph_wk (ls1 := [none, none, none, none, none, some (.long x6), none, none, none, none, none]) ⟨rfl, trivial⟩ ?_
        exact hj9 x1
  · refine ph_lload (i := 5) (pc := 13) dX9_part_13 rfl ?_
    refine ph_lload (i := 7) (pc := 15) dX9_part_15 rfl ?_
    refine ph_lremX (pc := 17) dX9_part_17 (fun v13 => ?_)
    refine ph_lstore (i := 9) (ls1 := [some (.long x1), none, some (.long x2), none, some (.int x3), some (.long x6), none, some (.long x7), none, some (.long v13), none]) (pc := 18) dX9_part_18 (by decide) rfl ?_
    refine ph_lload (i := 7) (pc := 20) dX9_part_20 rfl ?_
    refine ph_lstore (i := 5) (ls1 := [some (.long x1), none, some (.long x2), none, some (.int x3), some (.long x7), none, some (.long x7), none, some (.long v13), none]) (pc := 22) dX9_part_22 (by decide) rfl ?_
    refine ph_lload (i := 9) (pc := 24) dX9_part_24 rfl ?_
    refine ph_lstore (i := 7) (ls1 := [some (.long x1), none, some (.long x2), none, some (.int x3), some (.long x7), none, some (.long v13), none, some (.long v13), none]) (pc := 26) dX9_part_26 (by decide) rfl ?_
    refine ph_goto (tgt := 6) (pc := 28) dX9_part_28 (by decide) ?_
    refine ph_wk (ls1 := [some (.long x1), none, some (.long x2), none, some (.int x3), some (.long x7), none, some (.long v13), none, none, none]) ⟨rfl, ⟨rfl, ⟨rfl, ⟨rfl, ⟨rfl, trivial⟩⟩⟩⟩⟩ ?_
    exact hj5 (x7, v13)
