def f_X8_lowestBit (x1 : Int32) (h : ph_Hp) : Option (Int32 × ph_Hp) :=
  ph_lp (α := Int32 × ph_Hp) (fun j3 (x4, h5) =>
    if (nI 8) ≤ x4 then
      some ((-1), h5)
    else
      ph_cl (f_X8_bitOf x4 h5) fun v7 h8 =>
      if (x1 &&& v7) = nI 0 then
        j3 (x4 + (nI 1), h8)
      else
        some (x4, h8)) ph_fu ((nI 0), h)
set_option maxRecDepth 100000 in
theorem c_X8_lowestBit (Z : ph_L) (d : Nat) (hdd : 2 ≤ d) (x1 : Int32) (h : ph_Hp) : ph_CM Z yX8_lowestBit cX8_lowestBit 2 (some .int) d [.int x1] ph_vi h (f_X8_lowestBit x1 h) := by
  refine ph_begin (own := RX8) ph_mf_yX8_lowestBit rfl (ls := [some (.int x1), none]) rfl (Nat.le_of_ble_eq_true rfl) ?_
  unfold f_X8_lowestBit
  refine ph_iconst (v := (nI 0)) (pc := 0) dX8_lowestBit_0 ph_ic_0 ?_
  refine ph_istore_n (i := 1) (ls1 := [some (.int x1), some (.int (nI 0))]) (pc := 1) dX8_lowestBit_1 rfl (by decide) rfl ?_
  refine ph_loop (α := Int32 × ph_Hp) 2 (fun x => [some (.int x1), some (.int x.1)]) (fun x => []) (fun x => x.2) (fun j3 hj3 x => ?_) ph_fu ((nI 0), h)
  obtain ⟨x4, h5⟩ := x
  dsimp only
  refine ph_iload_n (i := 1) (pc := 2) dX8_lowestBit_2 rfl rfl ?_
  refine ph_bipush (v := (nI 8)) (pc := 3) dX8_lowestBit_3 ph_bp_8 ?_
  refine ph_icmp_ge (tgt := 25) (pc := 5) dX8_lowestBit_5 (by decide) (fun c6 => ?_) (fun c6 => ?_)
  · refine ph_iconst (v := (-1)) (pc := 25) dX8_lowestBit_25 ph_ic_m1 ?_
    exact ph_iret (pc := 26) dX8_lowestBit_26 rfl
  · refine ph_iload_n (i := 0) (pc := 8) dX8_lowestBit_8 rfl rfl ?_
    refine ph_iload_n (i := 1) (pc := 9) dX8_lowestBit_9 rfl rfl ?_
    refine ph_callSi (pc := 10) dX8_lowestBit_10 ph_mf_yX8_bitOf ph_ml_RX8_203 ph_ms_yX8_bitOf (c_X8_bitOf Z (d - 1) (by omega) x4 h5) (by omega) rfl rfl (Nat.le_of_ble_eq_true rfl) (fun v7 h8 => ?_)
    refine ph_iand (pc := 13) dX8_lowestBit_13 ?_
    refine ph_if_eq (tgt := 19) (pc := 14) dX8_lowestBit_14 (by decide) (fun c9 => ?_) (fun c9 => ?_)
    · refine ph_iinc (i := 1) (v := (nI 1)) (ls1 := [some (.int x1), some (.int (x4 + (nI 1)))]) (pc := 19) dX8_lowestBit_19 rfl ph_ic_1 (by decide) rfl ?_
      refine ph_goto (tgt := 2) (pc := 22) dX8_lowestBit_22 (by decide) ?_
      exact hj3 (x4 + (nI 1), h8)
    · refine ph_iload_n (i := 1) (pc := 17) dX8_lowestBit_17 rfl rfl ?_
      exact ph_iret (pc := 18) dX8_lowestBit_18 rfl
def f_J6_bitCount_0f7a4 (x1 : Int32) (h : ph_Hp) : Option (Int32 × ph_Hp) :=
  some ((((((((x1 - ((ph_ushr x1 (nI 1)) &&& (nI 1431655765))) &&& (nI 858993459)) + ((ph_ushr (x1 - ((ph_ushr x1 (nI 1)) &&& (nI 1431655765))) (nI 2)) &&& (nI 858993459))) + (ph_ushr (((x1 - ((ph_ushr x1 (nI 1)) &&& (nI 1431655765))) &&& (nI 858993459)) + ((ph_ushr (x1 - ((ph_ushr x1 (nI 1)) &&& (nI 1431655765))) (nI 2)) &&& (nI 858993459))) (nI 4))) &&& (nI 252645135)) + (ph_ushr (((((x1 - ((ph_ushr x1 (nI 1)) &&& (nI 1431655765))) &&& (nI 858993459)) + ((ph_ushr (x1 - ((ph_ushr x1 (nI 1)) &&& (nI 1431655765))) (nI 2)) &&& (nI 858993459))) + (ph_ushr (((x1 - ((ph_ushr x1 (nI 1)) &&& (nI 1431655765))) &&& (nI 858993459)) + ((ph_ushr (x1 - ((ph_ushr x1 (nI 1)) &&& (nI 1431655765))) (nI 2)) &&& (nI 858993459))) (nI 4))) &&& (nI 252645135)) (nI 8))) + (ph_ushr ((((((x1 - ((ph_ushr x1 (nI 1)) &&& (nI 1431655765))) &&& (nI 858993459)) + ((ph_ushr (x1 - ((ph_ushr x1 (nI 1)) &&& (nI 1431655765))) (nI 2)) &&& (nI 858993459))) + (ph_ushr (((x1 - ((ph_ushr x1 (nI 1)) &&& (nI 1431655765))) &&& (nI 858993459)) + ((ph_ushr (x1 - ((ph_ushr x1 (nI 1)) &&& (nI 1431655765))) (nI 2)) &&& (nI 858993459))) (nI 4))) &&& (nI 252645135)) + (ph_ushr (((((x1 - ((ph_ushr x1 (nI 1)) &&& (nI 1431655765))) &&& (nI 858993459)) + ((ph_ushr (x1 - ((ph_ushr x1 (nI 1)) &&& (nI 1431655765))) (nI 2)) &&& (nI 858993459))) + (ph_ushr (((x1 - ((ph_ushr x1 (nI 1)) &&& (nI 1431655765))) &&& (nI 858993459)) + ((ph_ushr (x1 - ((ph_ushr x1 (nI 1)) &&& (nI 1431655765))) (nI 2)) &&& (nI 858993459))) (nI 4))) &&& (nI 252645135)) (nI 8))) (nI 16))) &&& (nI 63), h)
set_option maxRecDepth 100000 in
theorem c_J6_bitCount_0f7a4 (Z : ph_L) (d : Nat) (hdd : 0 ≤ d) (x1 : Int32) (h : ph_Hp) : ph_CM Z yJ6_bitCount_0f7a4 cJ6_bitCount_0f7a4 1 (some .int) d [.int x1] ph_vi h (f_J6_bitCount_0f7a4 x1 h) := by
  refine ph_begin (own := RJ6) ph_mf_yJ6_bitCount_0f7a4 rfl (ls := [some (.int x1)]) rfl (Nat.le_of_ble_eq_true rfl) ?_
  unfold f_J6_bitCount_0f7a4
  refine ph_iload_n (i := 0) (pc := 0) dJ6_bitCount_0f7a4_0 rfl rfl ?_
  refine ph_iload_n (i := 0) (pc := 1) dJ6_bitCount_0f7a4_1 rfl rfl ?_
  refine ph_iconst (v := (nI 1)) (pc := 2) dJ6_bitCount_0f7a4_2 ph_ic_1 ?_
  refine ph_iushr (pc := 3) dJ6_bitCount_0f7a4_3 ?_
  refine ph_ldcw (v := (nI 1431655765)) (pc := 4) dJ6_bitCount_0f7a4_4 ph_k_RJ6_265 ?_
  refine ph_iand (pc := 7) dJ6_bitCount_0f7a4_7 ?_
  refine ph_isub (pc := 8) dJ6_bitCount_0f7a4_8 ?_
  refine ph_istore_n (i := 0) (ls1 := [some (.int (x1 - ((ph_ushr x1 (nI 1)) &&& (nI 1431655765))))]) (pc := 9) dJ6_bitCount_0f7a4_9 rfl (by decide) rfl ?_
  refine ph_iload_n (i := 0) (pc := 10) dJ6_bitCount_0f7a4_10 rfl rfl ?_
  refine ph_ldcw (v := (nI 858993459)) (pc := 11) dJ6_bitCount_0f7a4_11 ph_k_RJ6_266 ?_
  refine ph_iand (pc := 14) dJ6_bitCount_0f7a4_14 ?_
  refine ph_iload_n (i := 0) (pc := 15) dJ6_bitCount_0f7a4_15 rfl rfl ?_
  refine ph_iconst (v := (nI 2)) (pc := 16) dJ6_bitCount_0f7a4_16 ph_ic_2 ?_
  refine ph_iushr (pc := 17) dJ6_bitCount_0f7a4_17 ?_
  refine ph_ldcw (v := (nI 858993459)) (pc := 18) dJ6_bitCount_0f7a4_18 ph_k_RJ6_266 ?_
  refine ph_iand (pc := 21) dJ6_bitCount_0f7a4_21 ?_
  refine ph_iadd (pc := 22) dJ6_bitCount_0f7a4_22 ?_
  refine ph_istore_n (i := 0) (ls1 := [some (.int (((x1 - ((ph_ushr x1 (nI 1)) &&& (nI 1431655765))) &&& (nI 858993459)) + ((ph_ushr (x1 - ((ph_ushr x1 (nI 1)) &&& (nI 1431655765))) (nI 2)) &&& (nI 858993459))))]) (pc := 23) dJ6_bitCount_0f7a4_23 rfl (by decide) rfl ?_
  refine ph_iload_n (i := 0) (pc := 24) dJ6_bitCount_0f7a4_24 rfl rfl ?_
  refine ph_iload_n (i := 0) (pc := 25) dJ6_bitCount_0f7a4_25 rfl rfl ?_
  refine ph_iconst (v := (nI 4)) (pc := 26) dJ6_bitCount_0f7a4_26 ph_ic_4 ?_
  refine ph_iushr (pc := 27) dJ6_bitCount_0f7a4_27 ?_
  refine ph_iadd (pc := 28) dJ6_bitCount_0f7a4_28 ?_
  refine ph_ldcw (v := (nI 252645135)) (pc := 29) dJ6_bitCount_0f7a4_29 ph_k_RJ6_267 ?_
  refine ph_iand (pc := 32) dJ6_bitCount_0f7a4_32 ?_
  refine ph_istore_n (i := 0) (ls1 := [some (.int (((((x1 - ((ph_ushr x1 (nI 1)) &&& (nI 1431655765))) &&& (nI 858993459)) + ((ph_ushr (x1 - ((ph_ushr x1 (nI 1)) &&& (nI 1431655765))) (nI 2)) &&& (nI 858993459))) + (ph_ushr (((x1 - ((ph_ushr x1 (nI 1)) &&& (nI 1431655765))) &&& (nI 858993459)) + ((ph_ushr (x1 - ((ph_ushr x1 (nI 1)) &&& (nI 1431655765))) (nI 2)) &&& (nI 858993459))) (nI 4))) &&& (nI 252645135)))]) (pc := 33) dJ6_bitCount_0f7a4_33 rfl (by decide) rfl ?_
  refine ph_iload_n (i := 0) (pc := 34) dJ6_bitCount_0f7a4_34 rfl rfl ?_
  refine ph_iload_n (i := 0) (pc := 35) dJ6_bitCount_0f7a4_35 rfl rfl ?_
  refine ph_bipush (v := (nI 8)) (pc := 36) dJ6_bitCount_0f7a4_36 ph_bp_8 ?_
  refine ph_iushr (pc := 38) dJ6_bitCount_0f7a4_38 ?_
  refine ph_iadd (pc := 39) dJ6_bitCount_0f7a4_39 ?_
  refine ph_istore_n (i := 0) (ls1 := [some (.int ((((((x1 - ((ph_ushr x1 (nI 1)) &&& (nI 1431655765))) &&& (nI 858993459)) + ((ph_ushr (x1 - ((ph_ushr x1 (nI 1)) &&& (nI 1431655765))) (nI 2)) &&& (nI 858993459))) + (ph_ushr (((x1 - ((ph_ushr x1 (nI 1)) &&& (nI 1431655765))) &&& (nI 858993459)) + ((ph_ushr (x1 - ((ph_ushr x1 (nI 1)) &&& (nI 1431655765))) (nI 2)) &&& (nI 858993459))) (nI 4))) &&& (nI 252645135)) + (ph_ushr (((((x1 - ((ph_ushr x1 (nI 1)) &&& (nI 1431655765))) &&& (nI 858993459)) + ((ph_ushr (x1 - ((ph_ushr x1 (nI 1)) &&& (nI 1431655765))) (nI 2)) &&& (nI 858993459))) + (ph_ushr (((x1 - ((ph_ushr x1 (nI 1)) &&& (nI 1431655765))) &&& (nI 858993459)) + ((ph_ushr (x1 - ((ph_ushr x1 (nI 1)) &&& (nI 1431655765))) (nI 2)) &&& (nI 858993459))) (nI 4))) &&& (nI 252645135)) (nI 8))))]) (pc := 40) dJ6_bitCount_0f7a4_40 rfl (by decide) rfl ?_
  refine ph_iload_n (i := 0) (pc := 41) dJ6_bitCount_0f7a4_41 rfl rfl ?_
  refine ph_iload_n (i := 0) (pc := 42) dJ6_bitCount_0f7a4_42 rfl rfl ?_
  refine ph_bipush (v := (nI 16)) (pc := 43) dJ6_bitCount_0f7a4_43 ph_bp_16 ?_
  refine ph_iushr (pc := 45) dJ6_bitCount_0f7a4_45 ?_
  refine ph_iadd (pc := 46) dJ6_bitCount_0f7a4_46 ?_
  refine ph_istore_n (i := 0) (ls1 := [some (.int (((((((x1 - ((ph_ushr x1 (nI 1)) &&& (nI 1431655765))) &&& (nI 858993459)) + ((ph_ushr (x1 - ((ph_ushr x1 (nI 1)) &&& (nI 1431655765))) (nI 2)) &&& (nI 858993459))) + (ph_ushr (((x1 - ((ph_ushr x1 (nI 1)) &&& (nI 1431655765))) &&& (nI 858993459)) + ((ph_ushr (x1 - ((ph_ushr x1 (nI 1)) &&& (nI 1431655765))) (nI 2)) &&& (nI 858993459))) (nI 4))) &&& (nI 252645135)) + (ph_ushr (((((x1 - ((ph_ushr x1 (nI 1)) &&& (nI 1431655765))) &&& (nI 858993459)) + ((ph_ushr (x1 - ((ph_ushr x1 (nI 1)) &&& (nI 1431655765))) (nI 2)) &&& (nI 858993459))) + (ph_ushr (((x1 - ((ph_ushr x1 (nI 1)) &&& (nI 1431655765))) &&& (nI 858993459)) + ((ph_ushr (x1 - ((ph_ushr x1 (nI 1)) &&& (nI 1431655765))) (nI 2)) &&& (nI 858993459))) (nI 4))) &&& (nI 252645135)) (nI 8))) + (ph_ushr ((((((x1 - ((ph_ushr x1 (nI 1)) &&& (nI 1431655765))) &&& (nI 858993459)) + ((ph_ushr (x1 - ((ph_ushr x1 (nI 1)) &&& (nI 1431655765))) (nI 2)) &&& (nI 858993459))) + (ph_ushr (((x1 - ((ph_ushr x1 (nI 1)) &&& (nI 1431655765))) &&& (nI 858993459)) + ((ph_ushr (x1 - ((ph_ushr x1 (nI 1)) &&& (nI 1431655765))) (nI 2)) &&& (nI 858993459))) (nI 4))) &&& (nI 252645135)) + (ph_ushr (((((x1 - ((ph_ushr x1 (nI 1)) &&& (nI 1431655765))) &&& (nI 858993459)) + ((ph_ushr (x1 - ((ph_ushr x1 (nI 1)) &&& (nI 1431655765))) (nI 2)) &&& (nI 858993459))) + (ph_ushr (((x1 - ((ph_ushr x1 (nI 1)) &&& (nI 1431655765))) &&& (nI 858993459)) + ((ph_ushr (x1 - ((ph_ushr x1 (nI 1)) &&& (nI 1431655765))) (nI 2)) &&& (nI 858993459))) (nI 4))) &&& (nI 252645135)) (nI 8))) (nI 16))))]) (pc := 47) dJ6_bitCount_0f7a4_47 rfl (by decide) rfl ?_
  refine ph_iload_n (i := 0) (pc := 48) dJ6_bitCount_0f7a4_48 rfl rfl ?_
  refine ph_bipush (v := (nI 63)) (pc := 49) dJ6_bitCount_0f7a4_49 ph_bp_63 ?_
  refine ph_iand (pc := 51) dJ6_bitCount_0f7a4_51 ?_
  exact ph_iret (pc := 52) dJ6_bitCount_0f7a4_52 rfl
def f_X8_prompt (x1 : Int32) (x2 : Int32) (x3 : Int32) (x4 : Int32) (h : ph_Hp) : Option (Int32 × ph_Hp) :=
  if x1 < (nI 1) then
    some ((-2), h)
  else
    ph_cl (f_X8_within x2 (nI 40) h) fun v7 h8 =>
    if v7 = nI 0 then
      some ((-2), h8)
    else
      if x1 < x2 then
        ph_cl (f_X8_within x3 (nI 8) h8) fun v11 h12 =>
        if v11 = nI 0 then
          some ((-2), h12)
        else
          ph_cl (f_X8_within x4 (nI 3) h12) fun v14 h15 =>
          if v14 = nI 0 then
            some ((-2), h15)
          else
            ph_cl (f_X8_staged h15) fun _ h18 =>
            ph_cl (f_X8_bitOf x3 h18) fun v19 h20 =>
            ph_lp (α := Int32 × Int32 × Int32 × Int32 × Int32 × ph_Hp) (fun j21 (x22, x23, x24, x25, x26, h27) =>
              if x26 < x1 then
                if x4 = nI 0 then
                  some (x22, h27)
                else
                  if x4 = (nI 1) then
                    some (x23, h27)
                  else
                    some (x24, h27)
              else
                ph_cl (f_X6_leadingInto (x26 + (nI 1)) x25 h27) fun v31 h32 =>
                ph_jn (α := Int32 × Int32 × Int32 × ph_Hp) (fun (x34, x35, x36, h37) =>
                  j21 (x34, x35, x36, v31, x26 + (-1), h37)) (fun j33 =>
                  if v31 = nI 0 then
                    j33 (x22, x23, x24, h32)
                  else
                    ph_cl (f_X8_lowestBit v31 h32) fun v39 h40 =>
                    ph_cl (f_J6_bitCount_0f7a4 v31 h40) fun v41 h42 =>
                    j33 (((nI 8) * x26) + v39, (if x23 < x26 then x26 else x23), x24 + v41, h42))) ph_fu ((-1), (-1), (nI 0), v19, x2 - (nI 1), h20)
      else
        some ((-2), h8)
set_option maxRecDepth 100000 in
theorem c_X8_prompt (Z : ph_L) (d : Nat) (hdd : 5 ≤ d) (x1 : Int32) (x2 : Int32) (x3 : Int32) (x4 : Int32) (h : ph_Hp) : ph_CM Z yX8_prompt cX8_prompt 11 (some .int) d [.ref (ph_a Z 0), .int x1, .int x2, .int x3, .int x4] ph_vi h (f_X8_prompt x1 x2 x3 x4 h) := by
  refine ph_begin (own := RX8) ph_mf_yX8_prompt rfl (ls := [some (.ref (ph_a Z 0)), some (.int x1), some (.int x2), some (.int x3), some (.int x4), none, none, none, none, none, none]) rfl (Nat.le_of_ble_eq_true rfl) ?_
  unfold f_X8_prompt
  refine ph_iload_n (i := 1) (pc := 0) dX8_prompt_0 rfl rfl ?_
  refine ph_iconst (v := (nI 1)) (pc := 1) dX8_prompt_1 ph_ic_1 ?_
  refine ph_icmp_lt (tgt := 19) (pc := 2) dX8_prompt_2 (by decide) (fun c6 => ?_) (fun c6 => ?_)
  · refine ph_bipush (v := (-2)) (pc := 19) dX8_prompt_19 ph_bp_m2 ?_
    exact ph_iret (pc := 21) dX8_prompt_21 rfl
  · refine ph_iload_n (i := 2) (pc := 5) dX8_prompt_5 rfl rfl ?_
    refine ph_bipush (v := (nI 40)) (pc := 6) dX8_prompt_6 ph_bp_40 ?_
    refine ph_callSi (pc := 8) dX8_prompt_8 ph_mf_yX8_within ph_ml_RX8_80 ph_ms_yX8_within (c_X8_within Z (d - 1) (by omega) x2 (nI 40) h) (by omega) rfl rfl (Nat.le_of_ble_eq_true rfl) (fun v7 h8 => ?_)
    refine ph_if_eq (tgt := 19) (pc := 11) dX8_prompt_11 (by decide) (fun c9 => ?_) (fun c9 => ?_)
    · refine ph_bipush (v := (-2)) (pc := 19) dX8_prompt_19 ph_bp_m2 ?_
      exact ph_iret (pc := 21) dX8_prompt_21 rfl
    · refine ph_iload_n (i := 1) (pc := 14) dX8_prompt_14 rfl rfl ?_
      refine ph_iload_n (i := 2) (pc := 15) dX8_prompt_15 rfl rfl ?_
      refine ph_icmp_lt (tgt := 22) (pc := 16) dX8_prompt_16 (by decide) (fun c10 => ?_) (fun c10 => ?_)
      · refine ph_iload_n (i := 3) (pc := 22) dX8_prompt_22 rfl rfl ?_
        refine ph_bipush (v := (nI 8)) (pc := 23) dX8_prompt_23 ph_bp_8 ?_
        refine ph_callSi (pc := 25) dX8_prompt_25 ph_mf_yX8_within ph_ml_RX8_80 ph_ms_yX8_within (c_X8_within Z (d - 1) (by omega) x3 (nI 8) h8) (by omega) rfl rfl (Nat.le_of_ble_eq_true rfl) (fun v11 h12 => ?_)
        refine ph_if_eq (tgt := 40) (pc := 28) dX8_prompt_28 (by decide) (fun c13 => ?_) (fun c13 => ?_)
        · refine ph_bipush (v := (-2)) (pc := 40) dX8_prompt_40 ph_bp_m2 ?_
          exact ph_iret (pc := 42) dX8_prompt_42 rfl
        · refine ph_iload (i := 4) (pc := 31) dX8_prompt_31 rfl ?_
          refine ph_iconst (v := (nI 3)) (pc := 33) dX8_prompt_33 ph_ic_3 ?_
          refine ph_callSi (pc := 34) dX8_prompt_34 ph_mf_yX8_within ph_ml_RX8_80 ph_ms_yX8_within (c_X8_within Z (d - 1) (by omega) x4 (nI 3) h12) (by omega) rfl rfl (Nat.le_of_ble_eq_true rfl) (fun v14 h15 => ?_)
          refine ph_if_ne (tgt := 43) (pc := 37) dX8_prompt_37 (by decide) (fun c16 => ?_) (fun c16 => ?_)
          · refine ph_aload_n (i := 0) (pc := 43) dX8_prompt_43 rfl rfl ?_
            refine ph_callVk (pc := 44) dX8_prompt_44 ph_mf_yX8_staged ph_ml_RX8_105 ph_mi_yX8_staged ph_mv_yX8_staged rfl rfl (c_X8_staged Z (d - 1) (by omega) h15) (by omega) rfl rfl (Nat.le_of_ble_eq_true rfl) (fun v17 h18 => ?_)
            refine ph_astore (i := 5) (ls1 := [some (.ref (ph_a Z 0)), some (.int x1), some (.int x2), some (.int x3), some (.int x4), some (.ref (ph_a Z 25)), none, none, none, none, none]) (pc := 47) dX8_prompt_47 (by decide) rfl ?_
            refine ph_iconst (v := (-1)) (pc := 49) dX8_prompt_49 ph_ic_m1 ?_
            refine ph_istore (i := 6) (ls1 := [some (.ref (ph_a Z 0)), some (.int x1), some (.int x2), some (.int x3), some (.int x4), some (.ref (ph_a Z 25)), some (.int (-1)), none, none, none, none]) (pc := 50) dX8_prompt_50 (by decide) rfl ?_
            refine ph_iconst (v := (-1)) (pc := 52) dX8_prompt_52 ph_ic_m1 ?_
            refine ph_istore (i := 7) (ls1 := [some (.ref (ph_a Z 0)), some (.int x1), some (.int x2), some (.int x3), some (.int x4), some (.ref (ph_a Z 25)), some (.int (-1)), some (.int (-1)), none, none, none]) (pc := 53) dX8_prompt_53 (by decide) rfl ?_
            refine ph_iconst (v := (nI 0)) (pc := 55) dX8_prompt_55 ph_ic_0 ?_
            refine ph_istore (i := 8) (ls1 := [some (.ref (ph_a Z 0)), some (.int x1), some (.int x2), some (.int x3), some (.int x4), some (.ref (ph_a Z 25)), some (.int (-1)), some (.int (-1)), some (.int (nI 0)), none, none]) (pc := 56) dX8_prompt_56 (by decide) rfl ?_
            refine ph_iload_n (i := 3) (pc := 58) dX8_prompt_58 rfl rfl ?_
            refine ph_callSi (pc := 59) dX8_prompt_59 ph_mf_yX8_bitOf ph_ml_RX8_203 ph_ms_yX8_bitOf (c_X8_bitOf Z (d - 1) (by omega) x3 h18) (by omega) rfl rfl (Nat.le_of_ble_eq_true rfl) (fun v19 h20 => ?_)
            refine ph_istore (i := 9) (ls1 := [some (.ref (ph_a Z 0)), some (.int x1), some (.int x2), some (.int x3), some (.int x4), some (.ref (ph_a Z 25)), some (.int (-1)), some (.int (-1)), some (.int (nI 0)), some (.int v19), none]) (pc := 62) dX8_prompt_62 (by decide) rfl ?_
            refine ph_iload_n (i := 2) (pc := 64) dX8_prompt_64 rfl rfl ?_
            refine ph_iconst (v := (nI 1)) (pc := 65) dX8_prompt_65 ph_ic_1 ?_
            refine ph_isub (pc := 66) dX8_prompt_66 ?_
            refine ph_istore (i := 10) (ls1 := [some (.ref (ph_a Z 0)), some (.int x1), some (.int x2), some (.int x3), some (.int x4), some (.ref (ph_a Z 25)), some (.int (-1)), some (.int (-1)), some (.int (nI 0)), some (.int v19), some (.int (x2 - (nI 1)))]) (pc := 67) dX8_prompt_67 (by decide) rfl ?_
            refine ph_wk (ls1 := [none, some (.int x1), none, none, some (.int x4), some (.ref (ph_a Z 25)), some (.int (-1)), some (.int (-1)), some (.int (nI 0)), some (.int v19), some (.int (x2 - (nI 1)))]) ⟨rfl, ⟨rfl, ⟨rfl, ⟨rfl, ⟨rfl, ⟨rfl, ⟨rfl, ⟨rfl, trivial⟩⟩⟩⟩⟩⟩⟩⟩ ?_
            refine ph_loop (α := Int32 × Int32 × Int32 × Int32 × Int32 × ph_Hp) 69 (fun x => [none, some (.int x1), none, none, some (.int x4), some (.ref (ph_a Z 25)), some (.int x.1), some (.int x.2.1), some (.int x.2.2.1), some (.int x.2.2.2.1), some (.int x.2.2.2.2.1)]) (fun x => []) (fun x => x.2.2.2.2.2) (fun j21 hj21 x => ?_) ph_fu ((-1), (-1), (nI 0), v19, x2 - (nI 1), h20)
            obtain ⟨x22, x23, x24, x25, x26, h27⟩ := x
            dsimp only
            refine ph_iload (i := 10) (pc := 69) dX8_prompt_69 rfl ?_
            refine ph_iload_n (i := 1) (pc := 71) dX8_prompt_71 rfl rfl ?_
            refine ph_icmp_lt (tgt := 131) (pc := 72) dX8_prompt_72 (by decide) (fun c28 => ?_) (fun c28 => ?_)
            · refine ph_iload (i := 4) (pc := 131) dX8_prompt_131 rfl ?_
              refine ph_if_ne (tgt := 141) (pc := 133) dX8_prompt_133 (by decide) (fun c29 => ?_) (fun c29 => ?_)
              · refine ph_iload (i := 4) (pc := 141) dX8_prompt_141 rfl ?_
                refine ph_iconst (v := (nI 1)) (pc := 143) dX8_prompt_143 ph_ic_1 ?_
                refine ph_icmp_ne (tgt := 152) (pc := 144) dX8_prompt_144 (by decide) (fun c30 => ?_) (fun c30 => ?_)
                · refine ph_iload (i := 8) (pc := 152) dX8_prompt_152 rfl ?_
                  exact ph_iret (pc := 154) dX8_prompt_154 rfl
                · refine ph_iload (i := 7) (pc := 147) dX8_prompt_147 rfl ?_
                  refine ph_goto (tgt := 154) (pc := 149) dX8_prompt_149 (by decide) ?_
                  exact ph_iret (pc := 154) dX8_prompt_154 rfl
              · refine ph_iload (i := 6) (pc := 136) dX8_prompt_136 rfl ?_
                refine ph_goto (tgt := 154) (pc := 138) dX8_prompt_138 (by decide) ?_
                exact ph_iret (pc := 154) dX8_prompt_154 rfl
            · refine ph_aload (i := 5) (pc := 75) dX8_prompt_75 rfl ?_
              refine ph_iload (i := 10) (pc := 77) dX8_prompt_77 rfl ?_
              refine ph_iconst (v := (nI 1)) (pc := 79) dX8_prompt_79 ph_ic_1 ?_
              refine ph_iadd (pc := 80) dX8_prompt_80 ?_
              refine ph_iload (i := 9) (pc := 81) dX8_prompt_81 rfl ?_
              refine ph_callVi (pc := 83) dX8_prompt_83 ph_mf_yX6_leadingInto ph_ml_RX8_206 ph_mi_yX6_leadingInto ph_mv_yX6_leadingInto rfl rfl (c_X6_leadingInto Z (d - 1) (by omega) (x26 + (nI 1)) x25 h27) (by omega) rfl rfl (Nat.le_of_ble_eq_true rfl) (fun v31 h32 => ?_)
              refine ph_istore (i := 9) (ls1 := [none, some (.int x1), none, none, some (.int x4), some (.ref (ph_a Z 25)), some (.int x22), some (.int x23), some (.int x24), some (.int v31), some (.int x26)]) (pc := 86) dX8_prompt_86 (by decide) rfl ?_
              refine ph_iload (i := 9) (pc := 88) dX8_prompt_88 rfl ?_
              refine ph_join (α := Int32 × Int32 × Int32 × ph_Hp) 125 (fun x => [none, some (.int x1), none, none, some (.int x4), some (.ref (ph_a Z 25)), some (.int x.1), some (.int x.2.1), some (.int x.2.2.1), some (.int v31), some (.int x26)]) (fun x => []) (fun x => x.2.2.2) (fun x => ?_) (fun j33 hj33 => ?_)
              · obtain ⟨x34, x35, x36, h37⟩ := x
                dsimp only
                refine ph_iinc (i := 10) (v := (-1)) (ls1 := [none, some (.int x1), none, none, some (.int x4), some (.ref (ph_a Z 25)), some (.int x34), some (.int x35), some (.int x36), some (.int v31), some (.int (x26 + (-1)))]) (pc := 125) dX8_prompt_125 rfl ph_ic_m1 (by decide) rfl ?_
                refine ph_goto (tgt := 69) (pc := 128) dX8_prompt_128 (by decide) ?_
                exact hj21 (x34, x35, x36, v31, x26 + (-1), h37)
              · refine ph_if_eq (tgt := 125) (pc := 90) dX8_prompt_90 (by decide) (fun c38 => ?_) (fun c38 => ?_)
                · exact hj33 (x22, x23, x24, h32)
                · refine ph_bipush (v := (nI 8)) (pc := 93) dX8_prompt_93 ph_bp_8 ?_
                  refine ph_iload (i := 10) (pc := 95) dX8_prompt_95 rfl ?_
                  refine ph_imul (pc := 97) dX8_prompt_97 ?_
                  refine ph_iload (i := 9) (pc := 98) dX8_prompt_98 rfl ?_
                  refine ph_callSi (pc := 100) dX8_prompt_100 ph_mf_yX8_lowestBit ph_ml_RX8_209 ph_ms_yX8_lowestBit (c_X8_lowestBit Z (d - 1) (by omega) v31 h32) (by omega) rfl rfl (Nat.le_of_ble_eq_true rfl) (fun v39 h40 => ?_)
                  refine ph_iadd (pc := 103) dX8_prompt_103 ?_
                  refine ph_istore (i := 6) (ls1 := [none, some (.int x1), none, none, some (.int x4), some (.ref (ph_a Z 25)), some (.int (((nI 8) * x26) + v39)), some (.int x23), some (.int x24), some (.int v31), some (.int x26)]) (pc := 104) dX8_prompt_104 (by decide) rfl ?_
                  refine ph_iload (i := 7) (pc := 106) dX8_prompt_106 rfl ?_
                  refine ph_iload (i := 10) (pc := 108) dX8_prompt_108 rfl ?_
                  refine ph_mmax (pc := 110) dX8_prompt_110 ph_ml_RX8_212 ph_mm_max (by omega) (Nat.le_of_ble_eq_true rfl) ?_
                  refine ph_istore (i := 7) (ls1 := [none, some (.int x1), none, none, some (.int x4), some (.ref (ph_a Z 25)), some (.int (((nI 8) * x26) + v39)), some (.int (if x23 < x26 then x26 else x23)), some (.int x24), some (.int v31), some (.int x26)]) (pc := 113) dX8_prompt_113 (by decide) rfl ?_
                  refine ph_iload (i := 8) (pc := 115) dX8_prompt_115 rfl ?_
                  refine ph_iload (i := 9) (pc := 117) dX8_prompt_117 rfl ?_
                  refine ph_callSi (pc := 119) dX8_prompt_119 ph_mf_yJ6_bitCount_0f7a4 ph_ml_RX8_217 ph_ms_yJ6_bitCount_0f7a4 (c_J6_bitCount_0f7a4 Z (d - 1) (by omega) v31 h40) (by omega) rfl rfl (Nat.le_of_ble_eq_true rfl) (fun v41 h42 => ?_)
                  refine ph_iadd (pc := 122) dX8_prompt_122 ?_
                  refine ph_istore (i := 8) (ls1 := [none, some (.int x1), none, none, some (.int x4), some (.ref (ph_a Z 25)), some (.int (((nI 8) * x26) + v39)), some (.int (if x23 < x26 then x26 else x23)), some (.int (x24 + v41)), some (.int v31), some (.int x26)]) (pc := 123) dX8_prompt_123 (by decide) rfl ?_
                  exact hj33 (((nI 8) * x26) + v39, (if x23 < x26 then x26 else x23), x24 + v41, h42)
          · refine ph_bipush (v := (-2)) (pc := 40) dX8_prompt_40 ph_bp_m2 ?_
            exact ph_iret (pc := 42) dX8_prompt_42 rfl
      · refine ph_bipush (v := (-2)) (pc := 19) dX8_prompt_19 ph_bp_m2 ?_
        exact ph_iret (pc := 21) dX8_prompt_21 rfl
def f_X8_seen (x1 : Int32) (x2 : Int32) (h : ph_Hp) : Option (Int32 × ph_Hp) :=
  ph_cl (f_X8_within x1 (nI 40) h) fun v4 h5 =>
  if v4 = nI 0 then
    some ((-2), h5)
  else
    ph_cl (f_X8_within x2 (nI 8) h5) fun v7 h8 =>
    if v7 = nI 0 then
      some ((-2), h8)
    else
      ph_cl (f_X8_tell 20 x1 x2 h8) fun v10 h11 =>
      some (v10, h11)
set_option maxRecDepth 100000 in
theorem c_X8_seen (Z : ph_L) (d : Nat) (hdd : 3 ≤ d) (x1 : Int32) (x2 : Int32) (h : ph_Hp) : ph_CM Z yX8_seen cX8_seen 3 (some .int) d [.ref (ph_a Z 0), .int x1, .int x2] ph_vi h (f_X8_seen x1 x2 h) := by
  refine ph_begin (own := RX8) ph_mf_yX8_seen rfl (ls := [some (.ref (ph_a Z 0)), some (.int x1), some (.int x2)]) rfl (Nat.le_of_ble_eq_true rfl) ?_
  unfold f_X8_seen
  refine ph_iload_n (i := 1) (pc := 0) dX8_seen_0 rfl rfl ?_
  refine ph_bipush (v := (nI 40)) (pc := 1) dX8_seen_1 ph_bp_40 ?_
  refine ph_callSi (pc := 3) dX8_seen_3 ph_mf_yX8_within ph_ml_RX8_80 ph_ms_yX8_within (c_X8_within Z (d - 1) (by omega) x1 (nI 40) h) (by omega) rfl rfl (Nat.le_of_ble_eq_true rfl) (fun v4 h5 => ?_)
  refine ph_if_eq (tgt := 18) (pc := 6) dX8_seen_6 (by decide) (fun c6 => ?_) (fun c6 => ?_)
  · refine ph_bipush (v := (-2)) (pc := 18) dX8_seen_18 ph_bp_m2 ?_
    exact ph_iret (pc := 20) dX8_seen_20 rfl
  · refine ph_iload_n (i := 2) (pc := 9) dX8_seen_9 rfl rfl ?_
    refine ph_bipush (v := (nI 8)) (pc := 10) dX8_seen_10 ph_bp_8 ?_
    refine ph_callSi (pc := 12) dX8_seen_12 ph_mf_yX8_within ph_ml_RX8_80 ph_ms_yX8_within (c_X8_within Z (d - 1) (by omega) x2 (nI 8) h5) (by omega) rfl rfl (Nat.le_of_ble_eq_true rfl) (fun v7 h8 => ?_)
    refine ph_if_ne (tgt := 21) (pc := 15) dX8_seen_15 (by decide) (fun c9 => ?_) (fun c9 => ?_)
    · refine ph_aload_n (i := 0) (pc := 21) dX8_seen_21 rfl rfl ?_
      refine ph_getR (j := 20) (pc := 22) dX8_seen_22 ph_fl_RX8_34 rfl rfl rfl ?_
      refine ph_iload_n (i := 1) (pc := 25) dX8_seen_25 rfl rfl ?_
      refine ph_iload_n (i := 2) (pc := 26) dX8_seen_26 rfl rfl ?_
      refine ph_callSi (pc := 27) dX8_seen_27 ph_mf_yX8_tell ph_ml_RX8_149 ph_ms_yX8_tell (c_X8_tell Z (d - 1) (by omega) 20 x1 x2 h8) (by omega) rfl rfl (Nat.le_of_ble_eq_true rfl) (fun v10 h11 => ?_)
      exact ph_iret (pc := 30) dX8_seen_30 rfl
    · refine ph_bipush (v := (-2)) (pc := 18) dX8_seen_18 ph_bp_m2 ?_
      exact ph_iret (pc := 20) dX8_seen_20 rfl
def f_X8_forget (h : ph_Hp) : Option (Int32 × ph_Hp) :=
  ph_cl (f_X7_size 20 h) fun v2 h3 =>
  ph_cl (f_X7_clear 20 h3) fun _ h5 =>
  some (v2, h5)
set_option maxRecDepth 100000 in
theorem c_X8_forget (Z : ph_L) (d : Nat) (hdd : 2 ≤ d) (h : ph_Hp) : ph_CM Z yX8_forget cX8_forget 2 (some .int) d [.ref (ph_a Z 0)] ph_vi h (f_X8_forget h) := by
  refine ph_begin (own := RX8) ph_mf_yX8_forget rfl (ls := [some (.ref (ph_a Z 0)), none]) rfl (Nat.le_of_ble_eq_true rfl) ?_
  unfold f_X8_forget
  refine ph_aload_n (i := 0) (pc := 0) dX8_forget_0 rfl rfl ?_
  refine ph_getR (j := 20) (pc := 1) dX8_forget_1 ph_fl_RX8_34 rfl rfl rfl ?_
  refine ph_callVi (pc := 4) dX8_forget_4 ph_mf_yX7_size ph_ml_RX8_153 ph_mi_yX7_size ph_mv_yX7_size rfl rfl (c_X7_size Z (d - 1) (by omega) 20 h) (by omega) rfl rfl (Nat.le_of_ble_eq_true rfl) (fun v2 h3 => ?_)
  refine ph_istore_n (i := 1) (ls1 := [some (.ref (ph_a Z 0)), some (.int v2)]) (pc := 7) dX8_forget_7 rfl (by decide) rfl ?_
  refine ph_aload_n (i := 0) (pc := 8) dX8_forget_8 rfl rfl ?_
  refine ph_getR (j := 20) (pc := 9) dX8_forget_9 ph_fl_RX8_34 rfl rfl rfl ?_
  refine ph_callVv (pc := 12) dX8_forget_12 ph_mf_yX7_clear ph_ml_RX8_222 ph_mi_yX7_clear ph_mv_yX7_clear rfl rfl (c_X7_clear Z (d - 1) (by omega) 20 h3) (by omega) rfl rfl (Nat.le_of_ble_eq_true rfl) (fun v4 h5 => ?_)
  refine ph_iload_n (i := 1) (pc := 15) dX8_forget_15 rfl rfl ?_
  exact ph_iret (pc := 16) dX8_forget_16 rfl
def f_X8_allSeenIn (h : ph_Hp) : Option (Int32 × ph_Hp) :=
  ph_lp (α := Int32 × ph_Hp) (fun j3 (x4, h5) =>
    ph_cl (f_X7_size 20 h5) fun v6 h7 =>
    if v6 ≤ x4 then
      ph_rz (nI 1) h7
    else
      ph_cl (f_X7_stepAt 20 x4 h7) fun v9 h10 =>
      ph_cl (f_X8_within v9 (nI 40) h10) fun v11 h12 =>
      if v11 = nI 0 then
        ph_rz (nI 0) h12
      else
        ph_ldI h12 45 40 v9 fun v14 =>
        ph_cl (f_X7_valueAt 20 x4 h12) fun v15 h16 =>
        if v14 = v15 then
          j3 (x4 + (nI 1), h16)
        else
          ph_rz (nI 0) h16) ph_fu ((nI 0), h)
set_option maxRecDepth 100000 in
theorem c_X8_allSeenIn (Z : ph_L) (d : Nat) (hdd : 2 ≤ d) (h : ph_Hp) : ph_CM Z yX8_allSeenIn cX8_allSeenIn 4 (some .boolean) d [.ref (ph_a Z 0), .ref (ph_a Z 45)] ph_vi h (f_X8_allSeenIn h) := by
  refine ph_begin (own := RX8) ph_mf_yX8_allSeenIn rfl (ls := [some (.ref (ph_a Z 0)), some (.ref (ph_a Z 45)), none, none]) rfl (Nat.le_of_ble_eq_true rfl) ?_
  unfold f_X8_allSeenIn
  refine ph_iconst (v := (nI 0)) (pc := 0) dX8_allSeenIn_0 ph_ic_0 ?_
  refine ph_istore_n (i := 2) (ls1 := [some (.ref (ph_a Z 0)), some (.ref (ph_a Z 45)), some (.int (nI 0)), none]) (pc := 1) dX8_allSeenIn_1 rfl (by decide) rfl ?_
  refine ph_loop (α := Int32 × ph_Hp) 2 (fun x => [some (.ref (ph_a Z 0)), some (.ref (ph_a Z 45)), some (.int x.1), none]) (fun x => []) (fun x => x.2) (fun j3 hj3 x => ?_) ph_fu ((nI 0), h)
  obtain ⟨x4, h5⟩ := x
  dsimp only
  refine ph_iload_n (i := 2) (pc := 2) dX8_allSeenIn_2 rfl rfl ?_
  refine ph_aload_n (i := 0) (pc := 3) dX8_allSeenIn_3 rfl rfl ?_
  refine ph_getR (j := 20) (pc := 4) dX8_allSeenIn_4 ph_fl_RX8_34 rfl rfl rfl ?_
  refine ph_callVi (pc := 7) dX8_allSeenIn_7 ph_mf_yX7_size ph_ml_RX8_153 ph_mi_yX7_size ph_mv_yX7_size rfl rfl (c_X7_size Z (d - 1) (by omega) 20 h5) (by omega) rfl rfl (Nat.le_of_ble_eq_true rfl) (fun v6 h7 => ?_)
  refine ph_icmp_ge (tgt := 53) (pc := 10) dX8_allSeenIn_10 (by decide) (fun c8 => ?_) (fun c8 => ?_)
  · refine ph_iconst (v := (nI 1)) (pc := 53) dX8_allSeenIn_53 ph_ic_1 ?_
    exact ph_zret (pc := 54) dX8_allSeenIn_54 rfl
  · refine ph_aload_n (i := 0) (pc := 13) dX8_allSeenIn_13 rfl rfl ?_
    refine ph_getR (j := 20) (pc := 14) dX8_allSeenIn_14 ph_fl_RX8_34 rfl rfl rfl ?_
    refine ph_iload_n (i := 2) (pc := 17) dX8_allSeenIn_17 rfl rfl ?_
    refine ph_callVi (pc := 18) dX8_allSeenIn_18 ph_mf_yX7_stepAt ph_ml_RX8_347 ph_mi_yX7_stepAt ph_mv_yX7_stepAt rfl rfl (c_X7_stepAt Z (d - 1) (by omega) 20 x4 h7) (by omega) rfl rfl (Nat.le_of_ble_eq_true rfl) (fun v9 h10 => ?_)
    refine ph_istore_n (i := 3) (ls1 := [some (.ref (ph_a Z 0)), some (.ref (ph_a Z 45)), some (.int x4), some (.int v9)]) (pc := 21) dX8_allSeenIn_21 rfl (by decide) rfl ?_
    refine ph_iload_n (i := 3) (pc := 22) dX8_allSeenIn_22 rfl rfl ?_
    refine ph_aload_n (i := 1) (pc := 23) dX8_allSeenIn_23 rfl rfl ?_
    refine ph_alen (v := nI 40) (pc := 24) dX8_allSeenIn_24 rfl rfl ?_
    refine ph_callSi (pc := 25) dX8_allSeenIn_25 ph_mf_yX8_within ph_ml_RX8_80 ph_ms_yX8_within (c_X8_within Z (d - 1) (by omega) v9 (nI 40) h10) (by omega) rfl rfl (Nat.le_of_ble_eq_true rfl) (fun v11 h12 => ?_)
    refine ph_if_eq (tgt := 45) (pc := 28) dX8_allSeenIn_28 (by decide) (fun c13 => ?_) (fun c13 => ?_)
    · refine ph_iconst (v := (nI 0)) (pc := 45) dX8_allSeenIn_45 ph_ic_0 ?_
      exact ph_zret (pc := 46) dX8_allSeenIn_46 rfl
    · refine ph_aload_n (i := 1) (pc := 31) dX8_allSeenIn_31 rfl rfl ?_
      refine ph_iload_n (i := 3) (pc := 32) dX8_allSeenIn_32 rfl rfl ?_
      refine ph_iald (pc := 33) dX8_allSeenIn_33 rfl rfl (fun v14 => ?_)
      refine ph_aload_n (i := 0) (pc := 34) dX8_allSeenIn_34 rfl rfl ?_
      refine ph_getR (j := 20) (pc := 35) dX8_allSeenIn_35 ph_fl_RX8_34 rfl rfl rfl ?_
      refine ph_iload_n (i := 2) (pc := 38) dX8_allSeenIn_38 rfl rfl ?_
      refine ph_callVi (pc := 39) dX8_allSeenIn_39 ph_mf_yX7_valueAt ph_ml_RX8_350 ph_mi_yX7_valueAt ph_mv_yX7_valueAt rfl rfl (c_X7_valueAt Z (d - 1) (by omega) 20 x4 h12) (by omega) rfl rfl (Nat.le_of_ble_eq_true rfl) (fun v15 h16 => ?_)
      refine ph_icmp_eq (tgt := 47) (pc := 42) dX8_allSeenIn_42 (by decide) (fun c17 => ?_) (fun c17 => ?_)
      · refine ph_iinc (i := 2) (v := (nI 1)) (ls1 := [some (.ref (ph_a Z 0)), some (.ref (ph_a Z 45)), some (.int (x4 + (nI 1))), some (.int v9)]) (pc := 47) dX8_allSeenIn_47 rfl ph_ic_1 (by decide) rfl ?_
        refine ph_goto (tgt := 2) (pc := 50) dX8_allSeenIn_50 (by decide) ?_
        refine ph_wk (ls1 := [some (.ref (ph_a Z 0)), some (.ref (ph_a Z 45)), some (.int (x4 + (nI 1))), none]) ⟨rfl, ⟨rfl, ⟨rfl, trivial⟩⟩⟩ ?_
        exact hj3 (x4 + (nI 1), h16)
      · refine ph_iconst (v := (nI 0)) (pc := 45) dX8_allSeenIn_45 ph_ic_0 ?_
        exact ph_zret (pc := 46) dX8_allSeenIn_46 rfl
def f_X8_filed (h : ph_Hp) : Option (Int32 × ph_Hp) :=
  ph_cl (f_X8_staged h) fun _ h3 =>
  ph_lp (α := Int32 × Int32 × ph_Hp) (fun j4 (x5, x6, h7) =>
    if (h7.1 30 5) ≤ x6 then
      some (x5, h7)
    else
      ph_cl (f_X6_rehearseFiled x6 h7) fun _ h10 =>
      ph_cl (f_X8_allSeenIn h10) fun v11 h12 =>
      ph_jn (α := Int32) (fun x14 =>
        j4 (x14, x6 + (nI 1), h12)) (fun j13 =>
        if v11 = nI 0 then
          j13 x5
        else
          j13 (x5 ||| (ph_shl (nI 1) x6)))) ph_fu ((nI 0), (nI 0), h3)
set_option maxRecDepth 100000 in
theorem c_X8_filed (Z : ph_L) (d : Nat) (hdd : 5 ≤ d) (h : ph_Hp) : ph_CM Z yX8_filed cX8_filed 4 (some .int) d [.ref (ph_a Z 0)] ph_vi h (f_X8_filed h) := by
  refine ph_begin (own := RX8) ph_mf_yX8_filed rfl (ls := [some (.ref (ph_a Z 0)), none, none, none]) rfl (Nat.le_of_ble_eq_true rfl) ?_
  unfold f_X8_filed
  refine ph_aload_n (i := 0) (pc := 0) dX8_filed_0 rfl rfl ?_
  refine ph_callVk (pc := 1) dX8_filed_1 ph_mf_yX8_staged ph_ml_RX8_105 ph_mi_yX8_staged ph_mv_yX8_staged rfl rfl (c_X8_staged Z (d - 1) (by omega) h) (by omega) rfl rfl (Nat.le_of_ble_eq_true rfl) (fun v2 h3 => ?_)
  refine ph_astore_n (i := 1) (ls1 := [some (.ref (ph_a Z 0)), some (.ref (ph_a Z 25)), none, none]) (pc := 4) dX8_filed_4 rfl (by decide) rfl ?_
  refine ph_iconst (v := (nI 0)) (pc := 5) dX8_filed_5 ph_ic_0 ?_
  refine ph_istore_n (i := 2) (ls1 := [some (.ref (ph_a Z 0)), some (.ref (ph_a Z 25)), some (.int (nI 0)), none]) (pc := 6) dX8_filed_6 rfl (by decide) rfl ?_
  refine ph_iconst (v := (nI 0)) (pc := 7) dX8_filed_7 ph_ic_0 ?_
  refine ph_istore_n (i := 3) (ls1 := [some (.ref (ph_a Z 0)), some (.ref (ph_a Z 25)), some (.int (nI 0)), some (.int (nI 0))]) (pc := 8) dX8_filed_8 rfl (by decide) rfl ?_
  refine ph_loop (α := Int32 × Int32 × ph_Hp) 9 (fun x => [some (.ref (ph_a Z 0)), some (.ref (ph_a Z 25)), some (.int x.1), some (.int x.2.1)]) (fun x => []) (fun x => x.2.2) (fun j4 hj4 x => ?_) ph_fu ((nI 0), (nI 0), h3)
  obtain ⟨x5, x6, h7⟩ := x
  dsimp only
  refine ph_iload_n (i := 3) (pc := 9) dX8_filed_9 rfl rfl ?_
  refine ph_aload_n (i := 1) (pc := 10) dX8_filed_10 rfl rfl ?_
  refine ph_getR (j := 30) (pc := 11) dX8_filed_11 ph_fl_RX8_118 rfl rfl rfl ?_
  refine ph_getI (pc := 14) dX8_filed_14 ph_fl_RX8_129 rfl (by decide) ?_
  refine ph_icmp_ge (tgt := 52) (pc := 17) dX8_filed_17 (by decide) (fun c8 => ?_) (fun c8 => ?_)
  · refine ph_iload_n (i := 2) (pc := 52) dX8_filed_52 rfl rfl ?_
    exact ph_iret (pc := 53) dX8_filed_53 rfl
  · refine ph_aload_n (i := 1) (pc := 20) dX8_filed_20 rfl rfl ?_
    refine ph_iload_n (i := 3) (pc := 21) dX8_filed_21 rfl rfl ?_
    refine ph_aload_n (i := 0) (pc := 22) dX8_filed_22 rfl rfl ?_
    refine ph_getR (j := 45) (pc := 23) dX8_filed_23 ph_fl_RX8_62 rfl rfl rfl ?_
    refine ph_callVv (pc := 26) dX8_filed_26 ph_mf_yX6_rehearseFiled ph_ml_RX8_223 ph_mi_yX6_rehearseFiled ph_mv_yX6_rehearseFiled rfl rfl (c_X6_rehearseFiled Z (d - 1) (by omega) x6 h7) (by omega) rfl rfl (Nat.le_of_ble_eq_true rfl) (fun v9 h10 => ?_)
    refine ph_aload_n (i := 0) (pc := 29) dX8_filed_29 rfl rfl ?_
    refine ph_aload_n (i := 0) (pc := 30) dX8_filed_30 rfl rfl ?_
    refine ph_getR (j := 45) (pc := 31) dX8_filed_31 ph_fl_RX8_62 rfl rfl rfl ?_
    refine ph_callVi (pc := 34) dX8_filed_34 ph_mf_yX8_allSeenIn ph_ml_RX8_227 ph_mi_yX8_allSeenIn ph_mv_yX8_allSeenIn rfl rfl (c_X8_allSeenIn Z (d - 1) (by omega) h10) (by omega) rfl rfl (Nat.le_of_ble_eq_true rfl) (fun v11 h12 => ?_)
    refine ph_join (α := Int32) 46 (fun x => [some (.ref (ph_a Z 0)), some (.ref (ph_a Z 25)), some (.int x), some (.int x6)]) (fun x => []) (fun x => h12) (fun x => ?_) (fun j13 hj13 => ?_)
    · revert x; intro x14
      refine ph_iinc (i := 3) (v := (nI 1)) (ls1 := [some (.ref (ph_a Z 0)), some (.ref (ph_a Z 25)), some (.int x14), some (.int (x6 + (nI 1)))]) (pc := 46) dX8_filed_46 rfl ph_ic_1 (by decide) rfl ?_
      refine ph_goto (tgt := 9) (pc := 49) dX8_filed_49 (by decide) ?_
      exact hj4 (x14, x6 + (nI 1), h12)
    · refine ph_if_eq (tgt := 46) (pc := 37) dX8_filed_37 (by decide) (fun c15 => ?_) (fun c15 => ?_)
      · exact hj13 x5
      · refine ph_iload_n (i := 2) (pc := 40) dX8_filed_40 rfl rfl ?_
        refine ph_iconst (v := (nI 1)) (pc := 41) dX8_filed_41 ph_ic_1 ?_
        refine ph_iload_n (i := 3) (pc := 42) dX8_filed_42 rfl rfl ?_
        refine ph_ishl (pc := 43) dX8_filed_43 ?_
        refine ph_ior (pc := 44) dX8_filed_44 ?_
        refine ph_istore_n (i := 2) (ls1 := [some (.ref (ph_a Z 0)), some (.ref (ph_a Z 25)), some (.int (x5 ||| (ph_shl (nI 1) x6))), some (.int x6)]) (pc := 45) dX8_filed_45 rfl (by decide) rfl ?_
        exact hj13 (x5 ||| (ph_shl (nI 1) x6))
def f_X8_coughed (x1 : Int32) (h : ph_Hp) : Option (Int32 × ph_Hp) :=
  ph_cl (f_X8_staged h) fun _ h4 =>
  ph_cl (f_X8_within x1 (h4.1 30 5) h4) fun v5 h6 =>
  if v5 = nI 0 then
    some ((-2), h6)
  else
    ph_lp (α := Int32 × Int32 × ph_Hp) (fun j8 (x9, x10, h11) =>
      if (nI 31) ≤ x10 then
        some (x9, h11)
      else
        ph_cl (f_X6_rehearse x10 (ph_shl (nI 1) x1) h11) fun _ h14 =>
        ph_cl (f_X8_allSeenIn h14) fun v15 h16 =>
        ph_jn (α := Int32) (fun x18 =>
          j8 (x18, x10 + (nI 1), h16)) (fun j17 =>
          if v15 = nI 0 then
            j17 x9
          else
            j17 (x9 ||| (ph_shl (nI 1) x10)))) ph_fu ((nI 0), (nI 0), h6)
set_option maxRecDepth 100000 in
theorem c_X8_coughed (Z : ph_L) (d : Nat) (hdd : 5 ≤ d) (x1 : Int32) (h : ph_Hp) : ph_CM Z yX8_coughed cX8_coughed 5 (some .int) d [.ref (ph_a Z 0), .int x1] ph_vi h (f_X8_coughed x1 h) := by
  refine ph_begin (own := RX8) ph_mf_yX8_coughed rfl (ls := [some (.ref (ph_a Z 0)), some (.int x1), none, none, none]) rfl (Nat.le_of_ble_eq_true rfl) ?_
  unfold f_X8_coughed
  refine ph_aload_n (i := 0) (pc := 0) dX8_coughed_0 rfl rfl ?_
  refine ph_callVk (pc := 1) dX8_coughed_1 ph_mf_yX8_staged ph_ml_RX8_105 ph_mi_yX8_staged ph_mv_yX8_staged rfl rfl (c_X8_staged Z (d - 1) (by omega) h) (by omega) rfl rfl (Nat.le_of_ble_eq_true rfl) (fun v3 h4 => ?_)
  refine ph_astore_n (i := 2) (ls1 := [some (.ref (ph_a Z 0)), some (.int x1), some (.ref (ph_a Z 25)), none, none]) (pc := 4) dX8_coughed_4 rfl (by decide) rfl ?_
  refine ph_iload_n (i := 1) (pc := 5) dX8_coughed_5 rfl rfl ?_
  refine ph_aload_n (i := 2) (pc := 6) dX8_coughed_6 rfl rfl ?_
  refine ph_getR (j := 30) (pc := 7) dX8_coughed_7 ph_fl_RX8_118 rfl rfl rfl ?_
  refine ph_getI (pc := 10) dX8_coughed_10 ph_fl_RX8_129 rfl (by decide) ?_
  refine ph_callSi (pc := 13) dX8_coughed_13 ph_mf_yX8_within ph_ml_RX8_80 ph_ms_yX8_within (c_X8_within Z (d - 1) (by omega) x1 (h4.1 30 5) h4) (by omega) rfl rfl (Nat.le_of_ble_eq_true rfl) (fun v5 h6 => ?_)
  refine ph_if_ne (tgt := 22) (pc := 16) dX8_coughed_16 (by decide) (fun c7 => ?_) (fun c7 => ?_)
  · refine ph_iconst (v := (nI 0)) (pc := 22) dX8_coughed_22 ph_ic_0 ?_
    refine ph_istore_n (i := 3) (ls1 := [some (.ref (ph_a Z 0)), some (.int x1), some (.ref (ph_a Z 25)), some (.int (nI 0)), none]) (pc := 23) dX8_coughed_23 rfl (by decide) rfl ?_
    refine ph_iconst (v := (nI 0)) (pc := 24) dX8_coughed_24 ph_ic_0 ?_
    refine ph_istore (i := 4) (ls1 := [some (.ref (ph_a Z 0)), some (.int x1), some (.ref (ph_a Z 25)), some (.int (nI 0)), some (.int (nI 0))]) (pc := 25) dX8_coughed_25 (by decide) rfl ?_
    refine ph_loop (α := Int32 × Int32 × ph_Hp) 27 (fun x => [some (.ref (ph_a Z 0)), some (.int x1), some (.ref (ph_a Z 25)), some (.int x.1), some (.int x.2.1)]) (fun x => []) (fun x => x.2.2) (fun j8 hj8 x => ?_) ph_fu ((nI 0), (nI 0), h6)
    obtain ⟨x9, x10, h11⟩ := x
    dsimp only
    refine ph_iload (i := 4) (pc := 27) dX8_coughed_27 rfl ?_
    refine ph_bipush (v := (nI 31)) (pc := 29) dX8_coughed_29 ph_bp_31 ?_
    refine ph_icmp_ge (tgt := 71) (pc := 31) dX8_coughed_31 (by decide) (fun c12 => ?_) (fun c12 => ?_)
    · refine ph_iload_n (i := 3) (pc := 71) dX8_coughed_71 rfl rfl ?_
      exact ph_iret (pc := 72) dX8_coughed_72 rfl
    · refine ph_aload_n (i := 2) (pc := 34) dX8_coughed_34 rfl rfl ?_
      refine ph_iload (i := 4) (pc := 35) dX8_coughed_35 rfl ?_
      refine ph_iconst (v := (nI 1)) (pc := 37) dX8_coughed_37 ph_ic_1 ?_
      refine ph_iload_n (i := 1) (pc := 38) dX8_coughed_38 rfl rfl ?_
      refine ph_ishl (pc := 39) dX8_coughed_39 ?_
      refine ph_aload_n (i := 0) (pc := 40) dX8_coughed_40 rfl rfl ?_
      refine ph_getR (j := 45) (pc := 41) dX8_coughed_41 ph_fl_RX8_62 rfl rfl rfl ?_
      refine ph_callVv (pc := 44) dX8_coughed_44 ph_mf_yX6_rehearse ph_ml_RX8_199 ph_mi_yX6_rehearse ph_mv_yX6_rehearse rfl rfl (c_X6_rehearse Z (d - 1) (by omega) x10 (ph_shl (nI 1) x1) h11) (by omega) rfl rfl (Nat.le_of_ble_eq_true rfl) (fun v13 h14 => ?_)
      refine ph_aload_n (i := 0) (pc := 47) dX8_coughed_47 rfl rfl ?_
      refine ph_aload_n (i := 0) (pc := 48) dX8_coughed_48 rfl rfl ?_
      refine ph_getR (j := 45) (pc := 49) dX8_coughed_49 ph_fl_RX8_62 rfl rfl rfl ?_
      refine ph_callVi (pc := 52) dX8_coughed_52 ph_mf_yX8_allSeenIn ph_ml_RX8_227 ph_mi_yX8_allSeenIn ph_mv_yX8_allSeenIn rfl rfl (c_X8_allSeenIn Z (d - 1) (by omega) h14) (by omega) rfl rfl (Nat.le_of_ble_eq_true rfl) (fun v15 h16 => ?_)
      refine ph_join (α := Int32) 65 (fun x => [some (.ref (ph_a Z 0)), some (.int x1), some (.ref (ph_a Z 25)), some (.int x), some (.int x10)]) (fun x => []) (fun x => h16) (fun x => ?_) (fun j17 hj17 => ?_)
      · revert x; intro x18
        refine ph_iinc (i := 4) (v := (nI 1)) (ls1 := [some (.ref (ph_a Z 0)), some (.int x1), some (.ref (ph_a Z 25)), some (.int x18), some (.int (x10 + (nI 1)))]) (pc := 65) dX8_coughed_65 rfl ph_ic_1 (by decide) rfl ?_
        refine ph_goto (tgt := 27) (pc := 68) dX8_coughed_68 (by decide) ?_
        exact hj8 (x18, x10 + (nI 1), h16)
      · refine ph_if_eq (tgt := 65) (pc := 55) dX8_coughed_55 (by decide) (fun c19 => ?_) (fun c19 => ?_)
        · exact hj17 x9
        · refine ph_iload_n (i := 3) (pc := 58) dX8_coughed_58 rfl rfl ?_
          refine ph_iconst (v := (nI 1)) (pc := 59) dX8_coughed_59 ph_ic_1 ?_
          refine ph_iload (i := 4) (pc := 60) dX8_coughed_60 rfl ?_
          refine ph_ishl (pc := 62) dX8_coughed_62 ?_
          refine ph_ior (pc := 63) dX8_coughed_63 ?_
          refine ph_istore_n (i := 3) (ls1 := [some (.ref (ph_a Z 0)), some (.int x1), some (.ref (ph_a Z 25)), some (.int (x9 ||| (ph_shl (nI 1) x10))), some (.int x10)]) (pc := 64) dX8_coughed_64 rfl (by decide) rfl ?_
          exact hj17 (x9 ||| (ph_shl (nI 1) x10))
  · refine ph_bipush (v := (-2)) (pc := 19) dX8_coughed_19 ph_bp_m2 ?_
    exact ph_iret (pc := 21) dX8_coughed_21 rfl
def f_X8_tallyRehearsal (h : ph_Hp) : Option (Unit × ph_Hp) :=
  ph_lp (α := Int32 × ph_Hp) (fun j2 (x3, h4) =>
    if (nI 40) ≤ x3 then
      some ((), h4)
    else
      ph_ldI h4 45 40 x3 fun v6 =>
      ph_cl (f_X8_within v6 (nI 8) h4) fun v7 h8 =>
      ph_jn (α := ph_Hp) (fun h10 =>
        j2 (x3 + (nI 1), h10)) (fun j9 =>
        if v7 = nI 0 then
          j9 h8
        else
          ph_ldI h8 46 320 ((x3 * (nI 8)) + v6) fun v12 =>
          ph_stI h8 46 320 ((x3 * (nI 8)) + v6) (v12 + (nI 1)) fun h13 =>
          j9 h13)) ph_fu ((nI 0), h)
set_option maxRecDepth 100000 in
theorem c_X8_tallyRehearsal (Z : ph_L) (d : Nat) (hdd : 1 ≤ d) (h : ph_Hp) : ph_CM Z yX8_tallyRehearsal cX8_tallyRehearsal 3 none d [.ref (ph_a Z 0)] ph_vv h (f_X8_tallyRehearsal h) := by
  refine ph_begin (own := RX8) ph_mf_yX8_tallyRehearsal rfl (ls := [some (.ref (ph_a Z 0)), none, none]) rfl (Nat.le_of_ble_eq_true rfl) ?_
  unfold f_X8_tallyRehearsal
  refine ph_iconst (v := (nI 0)) (pc := 0) dX8_tallyRehearsal_0 ph_ic_0 ?_
  refine ph_istore_n (i := 1) (ls1 := [some (.ref (ph_a Z 0)), some (.int (nI 0)), none]) (pc := 1) dX8_tallyRehearsal_1 rfl (by decide) rfl ?_
  refine ph_loop (α := Int32 × ph_Hp) 2 (fun x => [some (.ref (ph_a Z 0)), some (.int x.1), none]) (fun x => []) (fun x => x.2) (fun j2 hj2 x => ?_) ph_fu ((nI 0), h)
  obtain ⟨x3, h4⟩ := x
  dsimp only
  refine ph_iload_n (i := 1) (pc := 2) dX8_tallyRehearsal_2 rfl rfl ?_
  refine ph_bipush (v := (nI 40)) (pc := 3) dX8_tallyRehearsal_3 ph_bp_40 ?_
  refine ph_icmp_ge (tgt := 45) (pc := 5) dX8_tallyRehearsal_5 (by decide) (fun c5 => ?_) (fun c5 => ?_)
  · exact ph_vret (pc := 45) dX8_tallyRehearsal_45 rfl
  · refine ph_aload_n (i := 0) (pc := 8) dX8_tallyRehearsal_8 rfl rfl ?_
    refine ph_getR (j := 45) (pc := 9) dX8_tallyRehearsal_9 ph_fl_RX8_62 rfl rfl rfl ?_
    refine ph_iload_n (i := 1) (pc := 12) dX8_tallyRehearsal_12 rfl rfl ?_
    refine ph_iald (pc := 13) dX8_tallyRehearsal_13 rfl rfl (fun v6 => ?_)
    refine ph_istore_n (i := 2) (ls1 := [some (.ref (ph_a Z 0)), some (.int x3), some (.int v6)]) (pc := 14) dX8_tallyRehearsal_14 rfl (by decide) rfl ?_
    refine ph_iload_n (i := 2) (pc := 15) dX8_tallyRehearsal_15 rfl rfl ?_
    refine ph_bipush (v := (nI 8)) (pc := 16) dX8_tallyRehearsal_16 ph_bp_8 ?_
    refine ph_callSi (pc := 18) dX8_tallyRehearsal_18 ph_mf_yX8_within ph_ml_RX8_80 ph_ms_yX8_within (c_X8_within Z (d - 1) (by omega) v6 (nI 8) h4) (by omega) rfl rfl (Nat.le_of_ble_eq_true rfl) (fun v7 h8 => ?_)
    refine ph_join (α := ph_Hp) 39 (fun x => [some (.ref (ph_a Z 0)), some (.int x3), none]) (fun x => []) (fun x => x) (fun x => ?_) (fun j9 hj9 => ?_)
    · revert x; intro h10
      refine ph_iinc (i := 1) (v := (nI 1)) (ls1 := [some (.ref (ph_a Z 0)), some (.int (x3 + (nI 1))), none]) (pc := 39) dX8_tallyRehearsal_39 rfl ph_ic_1 (by decide) rfl ?_
      refine ph_goto (tgt := 2) (pc := 42) dX8_tallyRehearsal_42 (by decide) ?_
      exact hj2 (x3 + (nI 1), h10)
    · refine ph_if_eq (tgt := 39) (pc := 21) dX8_tallyRehearsal_21 (by decide) (fun c11 => ?_) (fun c11 => ?_)
      · refine ph_wk (ls1 := [some (.ref (ph_a Z 0)), some (.int x3), none]) ⟨rfl, ⟨rfl, trivial⟩⟩ ?_
        exact hj9 h8
      · refine ph_aload_n (i := 0) (pc := 24) dX8_tallyRehearsal_24 rfl rfl ?_
        refine ph_getR (j := 46) (pc := 25) dX8_tallyRehearsal_25 ph_fl_RX8_66 rfl rfl rfl ?_
        refine ph_iload_n (i := 1) (pc := 28) dX8_tallyRehearsal_28 rfl rfl ?_
        refine ph_bipush (v := (nI 8)) (pc := 29) dX8_tallyRehearsal_29 ph_bp_8 ?_
        refine ph_imul (pc := 31) dX8_tallyRehearsal_31 ?_
        refine ph_iload_n (i := 2) (pc := 32) dX8_tallyRehearsal_32 rfl rfl ?_
        refine ph_iadd (pc := 33) dX8_tallyRehearsal_33 ?_
        refine ph_dup2 (pc := 34) dX8_tallyRehearsal_34 rfl rfl ?_
        refine ph_iald (pc := 35) dX8_tallyRehearsal_35 rfl rfl (fun v12 => ?_)
        refine ph_iconst (v := (nI 1)) (pc := 36) dX8_tallyRehearsal_36 ph_ic_1 ?_
        refine ph_iadd (pc := 37) dX8_tallyRehearsal_37 ?_
        refine ph_iast (pc := 38) dX8_tallyRehearsal_38 rfl rfl (fun h13 => ?_)
        refine ph_wk (ls1 := [some (.ref (ph_a Z 0)), some (.int x3), none]) ⟨rfl, ⟨rfl, trivial⟩⟩ ?_
        exact hj9 h13
def f_X8_greatestTally (x1 : Int32) (h : ph_Hp) : Option (Int32 × ph_Hp) :=
  ph_lp (α := Int32 × Int32) (fun j3 (x4, x5) =>
    if (nI 8) ≤ x5 then
      some (x4, h)
    else
      ph_ldI h 46 320 ((x1 * (nI 8)) + x5) fun v7 =>
      j3 ((if x4 < v7 then v7 else x4), x5 + (nI 1))) ph_fu ((nI 0), (nI 0))
set_option maxRecDepth 100000 in
theorem c_X8_greatestTally (Z : ph_L) (d : Nat) (hdd : 1 ≤ d) (x1 : Int32) (h : ph_Hp) : ph_CM Z yX8_greatestTally cX8_greatestTally 4 (some .int) d [.ref (ph_a Z 0), .int x1] ph_vi h (f_X8_greatestTally x1 h) := by
  refine ph_begin (own := RX8) ph_mf_yX8_greatestTally rfl (ls := [some (.ref (ph_a Z 0)), some (.int x1), none, none]) rfl (Nat.le_of_ble_eq_true rfl) ?_
  unfold f_X8_greatestTally
  refine ph_iconst (v := (nI 0)) (pc := 0) dX8_greatestTally_0 ph_ic_0 ?_
  refine ph_istore_n (i := 2) (ls1 := [some (.ref (ph_a Z 0)), some (.int x1), some (.int (nI 0)), none]) (pc := 1) dX8_greatestTally_1 rfl (by decide) rfl ?_
  refine ph_iconst (v := (nI 0)) (pc := 2) dX8_greatestTally_2 ph_ic_0 ?_
  refine ph_istore_n (i := 3) (ls1 := [some (.ref (ph_a Z 0)), some (.int x1), some (.int (nI 0)), some (.int (nI 0))]) (pc := 3) dX8_greatestTally_3 rfl (by decide) rfl ?_
  refine ph_loop (α := Int32 × Int32) 4 (fun x => [some (.ref (ph_a Z 0)), some (.int x1), some (.int x.1), some (.int x.2)]) (fun x => []) (fun x => h) (fun j3 hj3 x => ?_) ph_fu ((nI 0), (nI 0))
  obtain ⟨x4, x5⟩ := x
  dsimp only
  refine ph_iload_n (i := 3) (pc := 4) dX8_greatestTally_4 rfl rfl ?_
  refine ph_bipush (v := (nI 8)) (pc := 5) dX8_greatestTally_5 ph_bp_8 ?_
  refine ph_icmp_ge (tgt := 32) (pc := 7) dX8_greatestTally_7 (by decide) (fun c6 => ?_) (fun c6 => ?_)
  · refine ph_iload_n (i := 2) (pc := 32) dX8_greatestTally_32 rfl rfl ?_
    exact ph_iret (pc := 33) dX8_greatestTally_33 rfl
  · refine ph_iload_n (i := 2) (pc := 10) dX8_greatestTally_10 rfl rfl ?_
    refine ph_aload_n (i := 0) (pc := 11) dX8_greatestTally_11 rfl rfl ?_
    refine ph_getR (j := 46) (pc := 12) dX8_greatestTally_12 ph_fl_RX8_66 rfl rfl rfl ?_
    refine ph_iload_n (i := 1) (pc := 15) dX8_greatestTally_15 rfl rfl ?_
    refine ph_bipush (v := (nI 8)) (pc := 16) dX8_greatestTally_16 ph_bp_8 ?_
    refine ph_imul (pc := 18) dX8_greatestTally_18 ?_
    refine ph_iload_n (i := 3) (pc := 19) dX8_greatestTally_19 rfl rfl ?_
    refine ph_iadd (pc := 20) dX8_greatestTally_20 ?_
    refine ph_iald (pc := 21) dX8_greatestTally_21 rfl rfl (fun v7 => ?_)
    refine ph_mmax (pc := 22) dX8_greatestTally_22 ph_ml_RX8_212 ph_mm_max (by omega) (Nat.le_of_ble_eq_true rfl) ?_
    refine ph_istore_n (i := 2) (ls1 := [some (.ref (ph_a Z 0)), some (.int x1), some (.int (if x4 < v7 then v7 else x4)), some (.int x5)]) (pc := 25) dX8_greatestTally_25 rfl (by decide) rfl ?_
    refine ph_iinc (i := 3) (v := (nI 1)) (ls1 := [some (.ref (ph_a Z 0)), some (.int x1), some (.int (if x4 < v7 then v7 else x4)), some (.int (x5 + (nI 1)))]) (pc := 26) dX8_greatestTally_26 rfl ph_ic_1 (by decide) rfl ?_
    refine ph_goto (tgt := 4) (pc := 29) dX8_greatestTally_29 (by decide) ?_
    exact hj3 ((if x4 < v7 then v7 else x4), x5 + (nI 1))
def f_X8_ask (x1 : Int32) (h : ph_Hp) : Option (Int32 × ph_Hp) :=
  ph_cl (f_X8_staged h) fun _ h4 =>
  ph_cl (f_X8_within x1 (h4.1 30 5) h4) fun v5 h6 =>
  if v5 = nI 0 then
    some ((-2), h6)
  else
    ph_lp (α := Int32 × ph_Hp) (fun j8 (x9, h10) =>
      if (nI 320) ≤ x9 then
        ph_lp (α := Int32 × ph_Hp) (fun j12 (x13, h14) =>
          if (nI 31) ≤ x13 then
            ph_lp (α := Int32 × Int32 × ph_Hp) (fun j16 (x17, x18, h19) =>
              if (nI 40) ≤ x18 then
                some (x17, h19)
              else
                ph_cl (f_X8_greatestTally x18 h19) fun v21 h22 =>
                ph_cl (f_X8_greatestTally x17 h22) fun v23 h24 =>
                ph_jn (α := Int32) (fun x26 =>
                  j16 (x26, x18 + (nI 1), h24)) (fun j25 =>
                  if v23 ≤ v21 then
                    j25 x17
                  else
                    j25 x18)) ph_fu ((nI 0), (nI 1), h14)
          else
            ph_cl (f_X6_rehearse x13 (ph_shl (nI 1) x1) h14) fun _ h29 =>
            ph_cl (f_X8_allSeenIn h29) fun v30 h31 =>
            ph_jn (α := ph_Hp) (fun h33 =>
              j12 (x13 + (nI 1), h33)) (fun j32 =>
              if v30 = nI 0 then
                j32 h31
              else
                ph_cl (f_X8_tallyRehearsal h31) fun _ h36 =>
                j32 h36)) ph_fu ((nI 0), h10)
      else
        ph_stI h10 46 320 x9 (nI 0) fun h37 =>
        j8 (x9 + (nI 1), h37)) ph_fu ((nI 0), h6)
set_option maxRecDepth 100000 in
theorem c_X8_ask (Z : ph_L) (d : Nat) (hdd : 5 ≤ d) (x1 : Int32) (h : ph_Hp) : ph_CM Z yX8_ask cX8_ask 5 (some .int) d [.ref (ph_a Z 0), .int x1] ph_vi h (f_X8_ask x1 h) := by
  refine ph_begin (own := RX8) ph_mf_yX8_ask rfl (ls := [some (.ref (ph_a Z 0)), some (.int x1), none, none, none]) rfl (Nat.le_of_ble_eq_true rfl) ?_
  unfold f_X8_ask
  refine ph_aload_n (i := 0) (pc := 0) dX8_ask_0 rfl rfl ?_
  refine ph_callVk (pc := 1) dX8_ask_1 ph_mf_yX8_staged ph_ml_RX8_105 ph_mi_yX8_staged ph_mv_yX8_staged rfl rfl (c_X8_staged Z (d - 1) (by omega) h) (by omega) rfl rfl (Nat.le_of_ble_eq_true rfl) (fun v3 h4 => ?_)
  refine ph_astore_n (i := 2) (ls1 := [some (.ref (ph_a Z 0)), some (.int x1), some (.ref (ph_a Z 25)), none, none]) (pc := 4) dX8_ask_4 rfl (by decide) rfl ?_
  refine ph_iload_n (i := 1) (pc := 5) dX8_ask_5 rfl rfl ?_
  refine ph_aload_n (i := 2) (pc := 6) dX8_ask_6 rfl rfl ?_
  refine ph_getR (j := 30) (pc := 7) dX8_ask_7 ph_fl_RX8_118 rfl rfl rfl ?_
  refine ph_getI (pc := 10) dX8_ask_10 ph_fl_RX8_129 rfl (by decide) ?_
  refine ph_callSi (pc := 13) dX8_ask_13 ph_mf_yX8_within ph_ml_RX8_80 ph_ms_yX8_within (c_X8_within Z (d - 1) (by omega) x1 (h4.1 30 5) h4) (by omega) rfl rfl (Nat.le_of_ble_eq_true rfl) (fun v5 h6 => ?_)
  refine ph_if_ne (tgt := 22) (pc := 16) dX8_ask_16 (by decide) (fun c7 => ?_) (fun c7 => ?_)
  · refine ph_iconst (v := (nI 0)) (pc := 22) dX8_ask_22 ph_ic_0 ?_
    refine ph_istore_n (i := 3) (ls1 := [some (.ref (ph_a Z 0)), some (.int x1), some (.ref (ph_a Z 25)), some (.int (nI 0)), none]) (pc := 23) dX8_ask_23 rfl (by decide) rfl ?_
    refine ph_loop (α := Int32 × ph_Hp) 24 (fun x => [some (.ref (ph_a Z 0)), some (.int x1), some (.ref (ph_a Z 25)), some (.int x.1), none]) (fun x => []) (fun x => x.2) (fun j8 hj8 x => ?_) ph_fu ((nI 0), h6)
    obtain ⟨x9, h10⟩ := x
    dsimp only
    refine ph_iload_n (i := 3) (pc := 24) dX8_ask_24 rfl rfl ?_
    refine ph_aload_n (i := 0) (pc := 25) dX8_ask_25 rfl rfl ?_
    refine ph_getR (j := 46) (pc := 26) dX8_ask_26 ph_fl_RX8_66 rfl rfl rfl ?_
    refine ph_alen (v := nI 320) (pc := 29) dX8_ask_29 rfl rfl ?_
    refine ph_icmp_ge (tgt := 46) (pc := 30) dX8_ask_30 (by decide) (fun c11 => ?_) (fun c11 => ?_)
    · refine ph_iconst (v := (nI 0)) (pc := 46) dX8_ask_46 ph_ic_0 ?_
      refine ph_istore_n (i := 3) (ls1 := [some (.ref (ph_a Z 0)), some (.int x1), some (.ref (ph_a Z 25)), some (.int (nI 0)), none]) (pc := 47) dX8_ask_47 rfl (by decide) rfl ?_
      refine ph_loop (α := Int32 × ph_Hp) 48 (fun x => [some (.ref (ph_a Z 0)), some (.int x1), some (.ref (ph_a Z 25)), some (.int x.1), none]) (fun x => []) (fun x => x.2) (fun j12 hj12 x => ?_) ph_fu ((nI 0), h10)
      obtain ⟨x13, h14⟩ := x
      dsimp only
      refine ph_iload_n (i := 3) (pc := 48) dX8_ask_48 rfl rfl ?_
      refine ph_bipush (v := (nI 31)) (pc := 49) dX8_ask_49 ph_bp_31 ?_
      refine ph_icmp_ge (tgt := 87) (pc := 51) dX8_ask_51 (by decide) (fun c15 => ?_) (fun c15 => ?_)
      · refine ph_iconst (v := (nI 0)) (pc := 87) dX8_ask_87 ph_ic_0 ?_
        refine ph_istore_n (i := 3) (ls1 := [some (.ref (ph_a Z 0)), some (.int x1), some (.ref (ph_a Z 25)), some (.int (nI 0)), none]) (pc := 88) dX8_ask_88 rfl (by decide) rfl ?_
        refine ph_iconst (v := (nI 1)) (pc := 89) dX8_ask_89 ph_ic_1 ?_
        refine ph_istore (i := 4) (ls1 := [some (.ref (ph_a Z 0)), some (.int x1), some (.ref (ph_a Z 25)), some (.int (nI 0)), some (.int (nI 1))]) (pc := 90) dX8_ask_90 (by decide) rfl ?_
        refine ph_wk (ls1 := [some (.ref (ph_a Z 0)), none, none, some (.int (nI 0)), some (.int (nI 1))]) ⟨rfl, ⟨rfl, ⟨rfl, trivial⟩⟩⟩ ?_
        refine ph_loop (α := Int32 × Int32 × ph_Hp) 92 (fun x => [some (.ref (ph_a Z 0)), none, none, some (.int x.1), some (.int x.2.1)]) (fun x => []) (fun x => x.2.2) (fun j16 hj16 x => ?_) ph_fu ((nI 0), (nI 1), h14)
        obtain ⟨x17, x18, h19⟩ := x
        dsimp only
        refine ph_iload (i := 4) (pc := 92) dX8_ask_92 rfl ?_
        refine ph_bipush (v := (nI 40)) (pc := 94) dX8_ask_94 ph_bp_40 ?_
        refine ph_icmp_ge (tgt := 122) (pc := 96) dX8_ask_96 (by decide) (fun c20 => ?_) (fun c20 => ?_)
        · refine ph_iload_n (i := 3) (pc := 122) dX8_ask_122 rfl rfl ?_
          exact ph_iret (pc := 123) dX8_ask_123 rfl
        · refine ph_aload_n (i := 0) (pc := 99) dX8_ask_99 rfl rfl ?_
          refine ph_iload (i := 4) (pc := 100) dX8_ask_100 rfl ?_
          refine ph_callVi (pc := 102) dX8_ask_102 ph_mf_yX8_greatestTally ph_ml_RX8_234 ph_mi_yX8_greatestTally ph_mv_yX8_greatestTally rfl rfl (c_X8_greatestTally Z (d - 1) (by omega) x18 h19) (by omega) rfl rfl (Nat.le_of_ble_eq_true rfl) (fun v21 h22 => ?_)
          refine ph_aload_n (i := 0) (pc := 105) dX8_ask_105 rfl rfl ?_
          refine ph_iload_n (i := 3) (pc := 106) dX8_ask_106 rfl rfl ?_
          refine ph_callVi (pc := 107) dX8_ask_107 ph_mf_yX8_greatestTally ph_ml_RX8_234 ph_mi_yX8_greatestTally ph_mv_yX8_greatestTally rfl rfl (c_X8_greatestTally Z (d - 1) (by omega) x17 h22) (by omega) rfl rfl (Nat.le_of_ble_eq_true rfl) (fun v23 h24 => ?_)
          refine ph_join (α := Int32) 116 (fun x => [some (.ref (ph_a Z 0)), none, none, some (.int x), some (.int x18)]) (fun x => []) (fun x => h24) (fun x => ?_) (fun j25 hj25 => ?_)
          · revert x; intro x26
            refine ph_iinc (i := 4) (v := (nI 1)) (ls1 := [some (.ref (ph_a Z 0)), none, none, some (.int x26), some (.int (x18 + (nI 1)))]) (pc := 116) dX8_ask_116 rfl ph_ic_1 (by decide) rfl ?_
            refine ph_goto (tgt := 92) (pc := 119) dX8_ask_119 (by decide) ?_
            exact hj16 (x26, x18 + (nI 1), h24)
          · refine ph_icmp_ge (tgt := 116) (pc := 110) dX8_ask_110 (by decide) (fun c27 => ?_) (fun c27 => ?_)
            · exact hj25 x17
            · refine ph_iload (i := 4) (pc := 113) dX8_ask_113 rfl ?_
              refine ph_istore_n (i := 3) (ls1 := [some (.ref (ph_a Z 0)), none, none, some (.int x18), some (.int x18)]) (pc := 115) dX8_ask_115 rfl (by decide) rfl ?_
              exact hj25 x18
      · refine ph_aload_n (i := 2) (pc := 54) dX8_ask_54 rfl rfl ?_
        refine ph_iload_n (i := 3) (pc := 55) dX8_ask_55 rfl rfl ?_
        refine ph_iconst (v := (nI 1)) (pc := 56) dX8_ask_56 ph_ic_1 ?_
        refine ph_iload_n (i := 1) (pc := 57) dX8_ask_57 rfl rfl ?_
        refine ph_ishl (pc := 58) dX8_ask_58 ?_
        refine ph_aload_n (i := 0) (pc := 59) dX8_ask_59 rfl rfl ?_
        refine ph_getR (j := 45) (pc := 60) dX8_ask_60 ph_fl_RX8_62 rfl rfl rfl ?_
        refine ph_callVv (pc := 63) dX8_ask_63 ph_mf_yX6_rehearse ph_ml_RX8_199 ph_mi_yX6_rehearse ph_mv_yX6_rehearse rfl rfl (c_X6_rehearse Z (d - 1) (by omega) x13 (ph_shl (nI 1) x1) h14) (by omega) rfl rfl (Nat.le_of_ble_eq_true rfl) (fun v28 h29 => ?_)
        refine ph_aload_n (i := 0) (pc := 66) dX8_ask_66 rfl rfl ?_
        refine ph_aload_n (i := 0) (pc := 67) dX8_ask_67 rfl rfl ?_
        refine ph_getR (j := 45) (pc := 68) dX8_ask_68 ph_fl_RX8_62 rfl rfl rfl ?_
        refine ph_callVi (pc := 71) dX8_ask_71 ph_mf_yX8_allSeenIn ph_ml_RX8_227 ph_mi_yX8_allSeenIn ph_mv_yX8_allSeenIn rfl rfl (c_X8_allSeenIn Z (d - 1) (by omega) h29) (by omega) rfl rfl (Nat.le_of_ble_eq_true rfl) (fun v30 h31 => ?_)
        refine ph_join (α := ph_Hp) 81 (fun x => [some (.ref (ph_a Z 0)), some (.int x1), some (.ref (ph_a Z 25)), some (.int x13), none]) (fun x => []) (fun x => x) (fun x => ?_) (fun j32 hj32 => ?_)
        · revert x; intro h33
          refine ph_iinc (i := 3) (v := (nI 1)) (ls1 := [some (.ref (ph_a Z 0)), some (.int x1), some (.ref (ph_a Z 25)), some (.int (x13 + (nI 1))), none]) (pc := 81) dX8_ask_81 rfl ph_ic_1 (by decide) rfl ?_
          refine ph_goto (tgt := 48) (pc := 84) dX8_ask_84 (by decide) ?_
          exact hj12 (x13 + (nI 1), h33)
        · refine ph_if_eq (tgt := 81) (pc := 74) dX8_ask_74 (by decide) (fun c34 => ?_) (fun c34 => ?_)
          · exact hj32 h31
          · refine ph_aload_n (i := 0) (pc := 77) dX8_ask_77 rfl rfl ?_
            refine ph_callVv (pc := 78) dX8_ask_78 ph_mf_yX8_tallyRehearsal ph_ml_RX8_231 ph_mi_yX8_tallyRehearsal ph_mv_yX8_tallyRehearsal rfl rfl (c_X8_tallyRehearsal Z (d - 1) (by omega) h31) (by omega) rfl rfl (Nat.le_of_ble_eq_true rfl) (fun v35 h36 => ?_)
            exact hj32 h36
    · refine ph_aload_n (i := 0) (pc := 33) dX8_ask_33 rfl rfl ?_
      refine ph_getR (j := 46) (pc := 34) dX8_ask_34 ph_fl_RX8_66 rfl rfl rfl ?_
      refine ph_iload_n (i := 3) (pc := 37) dX8_ask_37 rfl rfl ?_
      refine ph_iconst (v := (nI 0)) (pc := 38) dX8_ask_38 ph_ic_0 ?_
      refine ph_iast (pc := 39) dX8_ask_39 rfl rfl (fun h37 => ?_)
      refine ph_iinc (i := 3) (v := (nI 1)) (ls1 := [some (.ref (ph_a Z 0)), some (.int x1), some (.ref (ph_a Z 25)), some (.int (x9 + (nI 1))), none]) (pc := 40) dX8_ask_40 rfl ph_ic_1 (by decide) rfl ?_
      refine ph_goto (tgt := 24) (pc := 43) dX8_ask_43 (by decide) ?_
      exact hj8 (x9 + (nI 1), h37)
  · refine ph_bipush (v := (-2)) (pc := 19) dX8_ask_19 ph_bp_m2 ?_
    exact ph_iret (pc := 21) dX8_ask_21 rfl
def f_X8_slips (x1 : Int32) (x2 : Int32) (x3 : Int32) (x4 : Int32) (x5 : Int32) (h : ph_Hp) : Option (Int64 × ph_Hp) :=
  ph_cl (f_X8_staged h) fun _ h8 =>
  ph_cl (f_X8_within x1 (nI 17) h8) fun v9 h10 =>
  if v9 = nI 0 then
    some ((-9223372036854775806), h10)
  else
    ph_cl (f_X8_within x2 (h10.1 30 5) h10) fun v12 h13 =>
    if v12 = nI 0 then
      some ((-9223372036854775806), h13)
    else
      ph_cl (f_X8_within x3 (nI 8) h13) fun v15 h16 =>
      if v15 = nI 0 then
        some ((-9223372036854775806), h16)
      else
        if x4 < (nI 1) then
          some ((-9223372036854775806), h16)
        else
          if (nI 9) < x4 then
            some ((-9223372036854775806), h16)
          else
            ph_cl (f_X8_within x5 (nI 2) h16) fun v20 h21 =>
            if v20 = nI 0 then
              some ((-9223372036854775806), h21)
            else
              ph_cl (f_X6_playedIn (nI 0) h21) fun v23 h24 =>
              ph_cl (f_X0_begin v23 h24) fun _ h26 =>
              ph_lp (α := Int32 × ph_Hp) (fun j27 (x28, h29) =>
                if x4 < x28 then
                  ph_cl (f_X0_reduce x3 h29) fun _ h32 =>
                  if x5 = nI 0 then
                    some (h32.2 42 3, h32)
                  else
                    some (h32.2 42 4, h32)
                else
                  ph_cl (f_X0_goOn x28 x2 x1 h29) fun _ h35 =>
                  j27 (x28 + (nI 1), h35)) ph_fu ((nI 1), h26)
set_option maxRecDepth 100000 in
theorem c_X8_slips (Z : ph_L) (d : Nat) (hdd : 5 ≤ d) (x1 : Int32) (x2 : Int32) (x3 : Int32) (x4 : Int32) (x5 : Int32) (h : ph_Hp) : ph_CM Z yX8_slips cX8_slips 8 (some .long) d [.ref (ph_a Z 0), .int x1, .int x2, .int x3, .int x4, .int x5] ph_vl h (f_X8_slips x1 x2 x3 x4 x5 h) := by
  refine ph_begin (own := RX8) ph_mf_yX8_slips rfl (ls := [some (.ref (ph_a Z 0)), some (.int x1), some (.int x2), some (.int x3), some (.int x4), some (.int x5), none, none]) rfl (Nat.le_of_ble_eq_true rfl) ?_
  unfold f_X8_slips
  refine ph_aload_n (i := 0) (pc := 0) dX8_slips_0 rfl rfl ?_
  refine ph_callVk (pc := 1) dX8_slips_1 ph_mf_yX8_staged ph_ml_RX8_105 ph_mi_yX8_staged ph_mv_yX8_staged rfl rfl (c_X8_staged Z (d - 1) (by omega) h) (by omega) rfl rfl (Nat.le_of_ble_eq_true rfl) (fun v7 h8 => ?_)
  refine ph_astore (i := 6) (ls1 := [some (.ref (ph_a Z 0)), some (.int x1), some (.int x2), some (.int x3), some (.int x4), some (.int x5), some (.ref (ph_a Z 25)), none]) (pc := 4) dX8_slips_4 (by decide) rfl ?_
  refine ph_iload_n (i := 1) (pc := 6) dX8_slips_6 rfl rfl ?_
  refine ph_bipush (v := (nI 17)) (pc := 7) dX8_slips_7 ph_bp_17 ?_
  refine ph_callSi (pc := 9) dX8_slips_9 ph_mf_yX8_within ph_ml_RX8_80 ph_ms_yX8_within (c_X8_within Z (d - 1) (by omega) x1 (nI 17) h8) (by omega) rfl rfl (Nat.le_of_ble_eq_true rfl) (fun v9 h10 => ?_)
  refine ph_if_eq (tgt := 39) (pc := 12) dX8_slips_12 (by decide) (fun c11 => ?_) (fun c11 => ?_)
  · refine ph_ldc2 (v := (-9223372036854775806)) (pc := 39) dX8_slips_39 ph_k_RX8_239 ?_
    exact ph_lret (pc := 42) dX8_slips_42 rfl
  · refine ph_iload_n (i := 2) (pc := 15) dX8_slips_15 rfl rfl ?_
    refine ph_aload (i := 6) (pc := 16) dX8_slips_16 rfl ?_
    refine ph_getR (j := 30) (pc := 18) dX8_slips_18 ph_fl_RX8_118 rfl rfl rfl ?_
    refine ph_getI (pc := 21) dX8_slips_21 ph_fl_RX8_129 rfl (by decide) ?_
    refine ph_callSi (pc := 24) dX8_slips_24 ph_mf_yX8_within ph_ml_RX8_80 ph_ms_yX8_within (c_X8_within Z (d - 1) (by omega) x2 (h10.1 30 5) h10) (by omega) rfl rfl (Nat.le_of_ble_eq_true rfl) (fun v12 h13 => ?_)
    refine ph_if_eq (tgt := 39) (pc := 27) dX8_slips_27 (by decide) (fun c14 => ?_) (fun c14 => ?_)
    · refine ph_ldc2 (v := (-9223372036854775806)) (pc := 39) dX8_slips_39 ph_k_RX8_239 ?_
      exact ph_lret (pc := 42) dX8_slips_42 rfl
    · refine ph_iload_n (i := 3) (pc := 30) dX8_slips_30 rfl rfl ?_
      refine ph_bipush (v := (nI 8)) (pc := 31) dX8_slips_31 ph_bp_8 ?_
      refine ph_callSi (pc := 33) dX8_slips_33 ph_mf_yX8_within ph_ml_RX8_80 ph_ms_yX8_within (c_X8_within Z (d - 1) (by omega) x3 (nI 8) h13) (by omega) rfl rfl (Nat.le_of_ble_eq_true rfl) (fun v15 h16 => ?_)
      refine ph_if_ne (tgt := 43) (pc := 36) dX8_slips_36 (by decide) (fun c17 => ?_) (fun c17 => ?_)
      · refine ph_iload (i := 4) (pc := 43) dX8_slips_43 rfl ?_
        refine ph_iconst (v := (nI 1)) (pc := 45) dX8_slips_45 ph_ic_1 ?_
        refine ph_icmp_lt (tgt := 65) (pc := 46) dX8_slips_46 (by decide) (fun c18 => ?_) (fun c18 => ?_)
        · refine ph_ldc2 (v := (-9223372036854775806)) (pc := 65) dX8_slips_65 ph_k_RX8_239 ?_
          exact ph_lret (pc := 68) dX8_slips_68 rfl
        · refine ph_iload (i := 4) (pc := 49) dX8_slips_49 rfl ?_
          refine ph_bipush (v := (nI 9)) (pc := 51) dX8_slips_51 ph_bp_9 ?_
          refine ph_icmp_gt (tgt := 65) (pc := 53) dX8_slips_53 (by decide) (fun c19 => ?_) (fun c19 => ?_)
          · refine ph_ldc2 (v := (-9223372036854775806)) (pc := 65) dX8_slips_65 ph_k_RX8_239 ?_
            exact ph_lret (pc := 68) dX8_slips_68 rfl
          · refine ph_iload (i := 5) (pc := 56) dX8_slips_56 rfl ?_
            refine ph_iconst (v := (nI 2)) (pc := 58) dX8_slips_58 ph_ic_2 ?_
            refine ph_callSi (pc := 59) dX8_slips_59 ph_mf_yX8_within ph_ml_RX8_80 ph_ms_yX8_within (c_X8_within Z (d - 1) (by omega) x5 (nI 2) h16) (by omega) rfl rfl (Nat.le_of_ble_eq_true rfl) (fun v20 h21 => ?_)
            refine ph_if_ne (tgt := 69) (pc := 62) dX8_slips_62 (by decide) (fun c22 => ?_) (fun c22 => ?_)
            · refine ph_aload_n (i := 0) (pc := 69) dX8_slips_69 rfl rfl ?_
              refine ph_getR (j := 42) (pc := 70) dX8_slips_70 ph_fl_RX8_58 rfl rfl rfl ?_
              refine ph_aload (i := 6) (pc := 73) dX8_slips_73 rfl ?_
              refine ph_iconst (v := (nI 0)) (pc := 75) dX8_slips_75 ph_ic_0 ?_
              refine ph_callVi (pc := 76) dX8_slips_76 ph_mf_yX6_playedIn ph_ml_RX8_172 ph_mi_yX6_playedIn ph_mv_yX6_playedIn rfl rfl (c_X6_playedIn Z (d - 1) (by omega) (nI 0) h21) (by omega) rfl rfl (Nat.le_of_ble_eq_true rfl) (fun v23 h24 => ?_)
              refine ph_callVv (pc := 79) dX8_slips_79 ph_mf_yX0_begin ph_ml_RX8_241 ph_mi_yX0_begin ph_mv_yX0_begin rfl rfl (c_X0_begin Z (d - 1) (by omega) v23 h24) (by omega) rfl rfl (Nat.le_of_ble_eq_true rfl) (fun v25 h26 => ?_)
              refine ph_iconst (v := (nI 1)) (pc := 82) dX8_slips_82 ph_ic_1 ?_
              refine ph_istore (i := 7) (ls1 := [some (.ref (ph_a Z 0)), some (.int x1), some (.int x2), some (.int x3), some (.int x4), some (.int x5), some (.ref (ph_a Z 25)), some (.int (nI 1))]) (pc := 83) dX8_slips_83 (by decide) rfl ?_
              refine ph_loop (α := Int32 × ph_Hp) 85 (fun x => [some (.ref (ph_a Z 0)), some (.int x1), some (.int x2), some (.int x3), some (.int x4), some (.int x5), some (.ref (ph_a Z 25)), some (.int x.1)]) (fun x => []) (fun x => x.2) (fun j27 hj27 x => ?_) ph_fu ((nI 1), h26)
              obtain ⟨x28, h29⟩ := x
              dsimp only
              refine ph_iload (i := 7) (pc := 85) dX8_slips_85 rfl ?_
              refine ph_iload (i := 4) (pc := 87) dX8_slips_87 rfl ?_
              refine ph_icmp_gt (tgt := 111) (pc := 89) dX8_slips_89 (by decide) (fun c30 => ?_) (fun c30 => ?_)
              · refine ph_aload_n (i := 0) (pc := 111) dX8_slips_111 rfl rfl ?_
                refine ph_getR (j := 42) (pc := 112) dX8_slips_112 ph_fl_RX8_58 rfl rfl rfl ?_
                refine ph_iload_n (i := 3) (pc := 115) dX8_slips_115 rfl rfl ?_
                refine ph_callVv (pc := 116) dX8_slips_116 ph_mf_yX0_reduce ph_ml_RX8_248 ph_mi_yX0_reduce ph_mv_yX0_reduce rfl rfl (c_X0_reduce Z (d - 1) (by omega) x3 h29) (by omega) rfl rfl (Nat.le_of_ble_eq_true rfl) (fun v31 h32 => ?_)
                refine ph_iload (i := 5) (pc := 119) dX8_slips_119 rfl ?_
                refine ph_if_ne (tgt := 134) (pc := 121) dX8_slips_121 (by decide) (fun c33 => ?_) (fun c33 => ?_)
                · refine ph_aload_n (i := 0) (pc := 134) dX8_slips_134 rfl rfl ?_
                  refine ph_getR (j := 42) (pc := 135) dX8_slips_135 ph_fl_RX8_58 rfl rfl rfl ?_
                  refine ph_getJ (pc := 138) dX8_slips_138 ph_fl_RX8_255 rfl rfl ?_
                  exact ph_lret (pc := 141) dX8_slips_141 rfl
                · refine ph_aload_n (i := 0) (pc := 124) dX8_slips_124 rfl rfl ?_
                  refine ph_getR (j := 42) (pc := 125) dX8_slips_125 ph_fl_RX8_58 rfl rfl rfl ?_
                  refine ph_getJ (pc := 128) dX8_slips_128 ph_fl_RX8_251 rfl rfl ?_
                  refine ph_goto (tgt := 141) (pc := 131) dX8_slips_131 (by decide) ?_
                  exact ph_lret (pc := 141) dX8_slips_141 rfl
              · refine ph_aload_n (i := 0) (pc := 92) dX8_slips_92 rfl rfl ?_
                refine ph_getR (j := 42) (pc := 93) dX8_slips_93 ph_fl_RX8_58 rfl rfl rfl ?_
                refine ph_aload (i := 6) (pc := 96) dX8_slips_96 rfl ?_
                refine ph_iload (i := 7) (pc := 98) dX8_slips_98 rfl ?_
                refine ph_iload_n (i := 2) (pc := 100) dX8_slips_100 rfl rfl ?_
                refine ph_iload_n (i := 1) (pc := 101) dX8_slips_101 rfl rfl ?_
                refine ph_callVv (pc := 102) dX8_slips_102 ph_mf_yX0_goOn ph_ml_RX8_244 ph_mi_yX0_goOn ph_mv_yX0_goOn rfl rfl (c_X0_goOn Z (d - 1) (by omega) x28 x2 x1 h29) (by omega) rfl rfl (Nat.le_of_ble_eq_true rfl) (fun v34 h35 => ?_)
                refine ph_iinc (i := 7) (v := (nI 1)) (ls1 := [some (.ref (ph_a Z 0)), some (.int x1), some (.int x2), some (.int x3), some (.int x4), some (.int x5), some (.ref (ph_a Z 25)), some (.int (x28 + (nI 1)))]) (pc := 105) dX8_slips_105 rfl ph_ic_1 (by decide) rfl ?_
                refine ph_goto (tgt := 85) (pc := 108) dX8_slips_108 (by decide) ?_
                exact hj27 (x28 + (nI 1), h35)
            · refine ph_ldc2 (v := (-9223372036854775806)) (pc := 65) dX8_slips_65 ph_k_RX8_239 ?_
              exact ph_lret (pc := 68) dX8_slips_68 rfl
      · refine ph_ldc2 (v := (-9223372036854775806)) (pc := 39) dX8_slips_39 ph_k_RX8_239 ?_
        exact ph_lret (pc := 42) dX8_slips_42 rfl
def f_X8_evening (x1 : Int32) (x2 : Int32) (x3 : Int32) (h : ph_Hp) : Option (Int32 × ph_Hp) :=
  ph_cl (f_X8_within x2 (nI 40) h) fun v5 h6 =>
  if v5 = nI 0 then
    some ((-2), h6)
  else
    ph_cl (f_X8_within x3 (nI 2) h6) fun v8 h9 =>
    if v8 = nI 0 then
      some ((-2), h9)
    else
      ph_cl (f_X8_staged h9) fun _ h12 =>
      ph_cl (f_X2_begin x1 h12) fun _ h14 =>
      ph_cl (f_X6_playedIn (nI 0) h14) fun v15 h16 =>
      ph_lp (α := Int32 × Int32 × Int32 × ph_Hp) (fun j17 (x18, x19, x20, h21) =>
        if x2 < x20 then
          if x3 = nI 0 then
            some (x18, h21)
          else
            some (x19, h21)
        else
          ph_cl (f_X6_coughsIn x20 h21) fun v24 h25 =>
          ph_cl (f_X2_drawCough (h25.1 30 5) h25) fun v26 h27 =>
          ph_cl (f_X6_byIn x20 h27) fun v28 h29 =>
          ph_cl (f_X6_follow x20 v28 x18 (v24 ||| v26) h29) fun v30 h31 =>
          ph_cl (f_X3_printedIn x20 h31) fun v32 h33 =>
          ph_jn (α := Int32) (fun x35 =>
            j17 (v30, x35, x20 + (nI 1), h33)) (fun j34 =>
            if v30 = v32 then
              j34 x19
            else
              j34 (x19 + (nI 1)))) ph_fu (v15, (nI 0), (nI 1), h16)
set_option maxRecDepth 100000 in
theorem c_X8_evening (Z : ph_L) (d : Nat) (hdd : 5 ≤ d) (x1 : Int32) (x2 : Int32) (x3 : Int32) (h : ph_Hp) : ph_CM Z yX8_evening cX8_evening 9 (some .int) d [.ref (ph_a Z 0), .int x1, .int x2, .int x3] ph_vi h (f_X8_evening x1 x2 x3 h) := by
  refine ph_begin (own := RX8) ph_mf_yX8_evening rfl (ls := [some (.ref (ph_a Z 0)), some (.int x1), some (.int x2), some (.int x3), none, none, none, none, none]) rfl (Nat.le_of_ble_eq_true rfl) ?_
  unfold f_X8_evening
  refine ph_iload_n (i := 2) (pc := 0) dX8_evening_0 rfl rfl ?_
  refine ph_bipush (v := (nI 40)) (pc := 1) dX8_evening_1 ph_bp_40 ?_
  refine ph_callSi (pc := 3) dX8_evening_3 ph_mf_yX8_within ph_ml_RX8_80 ph_ms_yX8_within (c_X8_within Z (d - 1) (by omega) x2 (nI 40) h) (by omega) rfl rfl (Nat.le_of_ble_eq_true rfl) (fun v5 h6 => ?_)
  refine ph_if_eq (tgt := 17) (pc := 6) dX8_evening_6 (by decide) (fun c7 => ?_) (fun c7 => ?_)
  · refine ph_bipush (v := (-2)) (pc := 17) dX8_evening_17 ph_bp_m2 ?_
    exact ph_iret (pc := 19) dX8_evening_19 rfl
  · refine ph_iload_n (i := 3) (pc := 9) dX8_evening_9 rfl rfl ?_
    refine ph_iconst (v := (nI 2)) (pc := 10) dX8_evening_10 ph_ic_2 ?_
    refine ph_callSi (pc := 11) dX8_evening_11 ph_mf_yX8_within ph_ml_RX8_80 ph_ms_yX8_within (c_X8_within Z (d - 1) (by omega) x3 (nI 2) h6) (by omega) rfl rfl (Nat.le_of_ble_eq_true rfl) (fun v8 h9 => ?_)
    refine ph_if_ne (tgt := 20) (pc := 14) dX8_evening_14 (by decide) (fun c10 => ?_) (fun c10 => ?_)
    · refine ph_aload_n (i := 0) (pc := 20) dX8_evening_20 rfl rfl ?_
      refine ph_callVk (pc := 21) dX8_evening_21 ph_mf_yX8_staged ph_ml_RX8_105 ph_mi_yX8_staged ph_mv_yX8_staged rfl rfl (c_X8_staged Z (d - 1) (by omega) h9) (by omega) rfl rfl (Nat.le_of_ble_eq_true rfl) (fun v11 h12 => ?_)
      refine ph_astore (i := 4) (ls1 := [some (.ref (ph_a Z 0)), some (.int x1), some (.int x2), some (.int x3), some (.ref (ph_a Z 25)), none, none, none, none]) (pc := 24) dX8_evening_24 (by decide) rfl ?_
      refine ph_aload_n (i := 0) (pc := 26) dX8_evening_26 rfl rfl ?_
      refine ph_getR (j := 41) (pc := 27) dX8_evening_27 ph_fl_RX8_51 rfl rfl rfl ?_
      refine ph_iload_n (i := 1) (pc := 30) dX8_evening_30 rfl rfl ?_
      refine ph_callVv (pc := 31) dX8_evening_31 ph_mf_yX2_begin ph_ml_RX8_258 ph_mi_yX2_begin ph_mv_yX2_begin rfl rfl (c_X2_begin Z (d - 1) (by omega) x1 h12) (by omega) rfl rfl (Nat.le_of_ble_eq_true rfl) (fun v13 h14 => ?_)
      refine ph_aload (i := 4) (pc := 34) dX8_evening_34 rfl ?_
      refine ph_iconst (v := (nI 0)) (pc := 36) dX8_evening_36 ph_ic_0 ?_
      refine ph_callVi (pc := 37) dX8_evening_37 ph_mf_yX6_playedIn ph_ml_RX8_172 ph_mi_yX6_playedIn ph_mv_yX6_playedIn rfl rfl (c_X6_playedIn Z (d - 1) (by omega) (nI 0) h14) (by omega) rfl rfl (Nat.le_of_ble_eq_true rfl) (fun v15 h16 => ?_)
      refine ph_istore (i := 5) (ls1 := [some (.ref (ph_a Z 0)), some (.int x1), some (.int x2), some (.int x3), some (.ref (ph_a Z 25)), some (.int v15), none, none, none]) (pc := 40) dX8_evening_40 (by decide) rfl ?_
      refine ph_iconst (v := (nI 0)) (pc := 42) dX8_evening_42 ph_ic_0 ?_
      refine ph_istore (i := 6) (ls1 := [some (.ref (ph_a Z 0)), some (.int x1), some (.int x2), some (.int x3), some (.ref (ph_a Z 25)), some (.int v15), some (.int (nI 0)), none, none]) (pc := 43) dX8_evening_43 (by decide) rfl ?_
      refine ph_iconst (v := (nI 1)) (pc := 45) dX8_evening_45 ph_ic_1 ?_
      refine ph_istore (i := 7) (ls1 := [some (.ref (ph_a Z 0)), some (.int x1), some (.int x2), some (.int x3), some (.ref (ph_a Z 25)), some (.int v15), some (.int (nI 0)), some (.int (nI 1)), none]) (pc := 46) dX8_evening_46 (by decide) rfl ?_
      refine ph_wk (ls1 := [some (.ref (ph_a Z 0)), none, some (.int x2), some (.int x3), some (.ref (ph_a Z 25)), some (.int v15), some (.int (nI 0)), some (.int (nI 1)), none]) ⟨rfl, ⟨rfl, ⟨rfl, ⟨rfl, ⟨rfl, ⟨rfl, ⟨rfl, trivial⟩⟩⟩⟩⟩⟩⟩ ?_
      refine ph_loop (α := Int32 × Int32 × Int32 × ph_Hp) 48 (fun x => [some (.ref (ph_a Z 0)), none, some (.int x2), some (.int x3), some (.ref (ph_a Z 25)), some (.int x.1), some (.int x.2.1), some (.int x.2.2.1), none]) (fun x => []) (fun x => x.2.2.2) (fun j17 hj17 x => ?_) ph_fu (v15, (nI 0), (nI 1), h16)
      obtain ⟨x18, x19, x20, h21⟩ := x
      dsimp only
      refine ph_iload (i := 7) (pc := 48) dX8_evening_48 rfl ?_
      refine ph_iload_n (i := 2) (pc := 50) dX8_evening_50 rfl rfl ?_
      refine ph_icmp_gt (tgt := 123) (pc := 51) dX8_evening_51 (by decide) (fun c22 => ?_) (fun c22 => ?_)
      · refine ph_iload_n (i := 3) (pc := 123) dX8_evening_123 rfl rfl ?_
        refine ph_if_ne (tgt := 132) (pc := 124) dX8_evening_124 (by decide) (fun c23 => ?_) (fun c23 => ?_)
        · refine ph_iload (i := 6) (pc := 132) dX8_evening_132 rfl ?_
          exact ph_iret (pc := 134) dX8_evening_134 rfl
        · refine ph_iload (i := 5) (pc := 127) dX8_evening_127 rfl ?_
          refine ph_goto (tgt := 134) (pc := 129) dX8_evening_129 (by decide) ?_
          exact ph_iret (pc := 134) dX8_evening_134 rfl
      · refine ph_aload (i := 4) (pc := 54) dX8_evening_54 rfl ?_
        refine ph_iload (i := 7) (pc := 56) dX8_evening_56 rfl ?_
        refine ph_callVi (pc := 58) dX8_evening_58 ph_mf_yX6_coughsIn ph_ml_RX8_188 ph_mi_yX6_coughsIn ph_mv_yX6_coughsIn rfl rfl (c_X6_coughsIn Z (d - 1) (by omega) x20 h21) (by omega) rfl rfl (Nat.le_of_ble_eq_true rfl) (fun v24 h25 => ?_)
        refine ph_aload_n (i := 0) (pc := 61) dX8_evening_61 rfl rfl ?_
        refine ph_getR (j := 41) (pc := 62) dX8_evening_62 ph_fl_RX8_51 rfl rfl rfl ?_
        refine ph_aload (i := 4) (pc := 65) dX8_evening_65 rfl ?_
        refine ph_getR (j := 30) (pc := 67) dX8_evening_67 ph_fl_RX8_118 rfl rfl rfl ?_
        refine ph_getI (pc := 70) dX8_evening_70 ph_fl_RX8_129 rfl (by decide) ?_
        refine ph_callVi (pc := 73) dX8_evening_73 ph_mf_yX2_drawCough ph_ml_RX8_259 ph_mi_yX2_drawCough ph_mv_yX2_drawCough rfl rfl (c_X2_drawCough Z (d - 1) (by omega) (h25.1 30 5) h25) (by omega) rfl rfl (Nat.le_of_ble_eq_true rfl) (fun v26 h27 => ?_)
        refine ph_ior (pc := 76) dX8_evening_76 ?_
        refine ph_istore (i := 8) (ls1 := [some (.ref (ph_a Z 0)), none, some (.int x2), some (.int x3), some (.ref (ph_a Z 25)), some (.int x18), some (.int x19), some (.int x20), some (.int (v24 ||| v26))]) (pc := 77) dX8_evening_77 (by decide) rfl ?_
        refine ph_aload (i := 4) (pc := 79) dX8_evening_79 rfl ?_
        refine ph_iload (i := 7) (pc := 81) dX8_evening_81 rfl ?_
        refine ph_aload (i := 4) (pc := 83) dX8_evening_83 rfl ?_
        refine ph_iload (i := 7) (pc := 85) dX8_evening_85 rfl ?_
        refine ph_callVi (pc := 87) dX8_evening_87 ph_mf_yX6_byIn ph_ml_RX8_175 ph_mi_yX6_byIn ph_mv_yX6_byIn rfl rfl (c_X6_byIn Z (d - 1) (by omega) x20 h27) (by omega) rfl rfl (Nat.le_of_ble_eq_true rfl) (fun v28 h29 => ?_)
        refine ph_iload (i := 5) (pc := 90) dX8_evening_90 rfl ?_
        refine ph_iload (i := 8) (pc := 92) dX8_evening_92 rfl ?_
        refine ph_callVi (pc := 94) dX8_evening_94 ph_mf_yX6_follow ph_ml_RX8_262 ph_mi_yX6_follow ph_mv_yX6_follow rfl rfl (c_X6_follow Z (d - 1) (by omega) x20 v28 x18 (v24 ||| v26) h29) (by omega) rfl rfl (Nat.le_of_ble_eq_true rfl) (fun v30 h31 => ?_)
        refine ph_istore (i := 5) (ls1 := [some (.ref (ph_a Z 0)), none, some (.int x2), some (.int x3), some (.ref (ph_a Z 25)), some (.int v30), some (.int x19), some (.int x20), some (.int (v24 ||| v26))]) (pc := 97) dX8_evening_97 (by decide) rfl ?_
        refine ph_iload (i := 5) (pc := 99) dX8_evening_99 rfl ?_
        refine ph_aload (i := 4) (pc := 101) dX8_evening_101 rfl ?_
        refine ph_getR (j := 26) (pc := 103) dX8_evening_103 ph_fl_RX8_109 rfl rfl rfl ?_
        refine ph_iload (i := 7) (pc := 106) dX8_evening_106 rfl ?_
        refine ph_callVi (pc := 108) dX8_evening_108 ph_mf_yX3_printedIn ph_ml_RX8_181 ph_mi_yX3_printedIn ph_mv_yX3_printedIn rfl rfl (c_X3_printedIn Z (d - 1) (by omega) x20 h31) (by omega) rfl rfl (Nat.le_of_ble_eq_true rfl) (fun v32 h33 => ?_)
        refine ph_join (α := Int32) 117 (fun x => [some (.ref (ph_a Z 0)), none, some (.int x2), some (.int x3), some (.ref (ph_a Z 25)), some (.int v30), some (.int x), some (.int x20), none]) (fun x => []) (fun x => h33) (fun x => ?_) (fun j34 hj34 => ?_)
        · revert x; intro x35
          refine ph_iinc (i := 7) (v := (nI 1)) (ls1 := [some (.ref (ph_a Z 0)), none, some (.int x2), some (.int x3), some (.ref (ph_a Z 25)), some (.int v30), some (.int x35), some (.int (x20 + (nI 1))), none]) (pc := 117) dX8_evening_117 rfl ph_ic_1 (by decide) rfl ?_
          refine ph_goto (tgt := 48) (pc := 120) dX8_evening_120 (by decide) ?_
          exact hj17 (v30, x35, x20 + (nI 1), h33)
        · refine ph_icmp_eq (tgt := 117) (pc := 111) dX8_evening_111 (by decide) (fun c36 => ?_) (fun c36 => ?_)
          · refine ph_wk (ls1 := [some (.ref (ph_a Z 0)), none, some (.int x2), some (.int x3), some (.ref (ph_a Z 25)), some (.int v30), some (.int x19), some (.int x20), none]) ⟨rfl, ⟨rfl, ⟨rfl, ⟨rfl, ⟨rfl, ⟨rfl, ⟨rfl, trivial⟩⟩⟩⟩⟩⟩⟩ ?_
            exact hj34 x19
          · refine ph_iinc (i := 6) (v := (nI 1)) (ls1 := [some (.ref (ph_a Z 0)), none, some (.int x2), some (.int x3), some (.ref (ph_a Z 25)), some (.int v30), some (.int (x19 + (nI 1))), some (.int x20), some (.int (v24 ||| v26))]) (pc := 114) dX8_evening_114 rfl ph_ic_1 (by decide) rfl ?_
            refine ph_wk (ls1 := [some (.ref (ph_a Z 0)), none, some (.int x2), some (.int x3), some (.ref (ph_a Z 25)), some (.int v30), some (.int (x19 + (nI 1))), some (.int x20), none]) ⟨rfl, ⟨rfl, ⟨rfl, ⟨rfl, ⟨rfl, ⟨rfl, ⟨rfl, trivial⟩⟩⟩⟩⟩⟩⟩ ?_
            exact hj34 (x19 + (nI 1))
    · refine ph_bipush (v := (-2)) (pc := 17) dX8_evening_17 ph_bp_m2 ?_
      exact ph_iret (pc := 19) dX8_evening_19 rfl
def f_X8_sheet (x1 : Int32) (x2 : Int32) (x3 : Int32) (h : ph_Hp) : Option (Int32 × ph_Hp) :=
  ph_cl (f_X8_within x1 (nI 4) h) fun v5 h6 =>
  if v5 = nI 0 then
    some ((-2), h6)
  else
    ph_cl (f_X8_within x2 (nI 3) h6) fun v8 h9 =>
    if v8 = nI 0 then
      some ((-2), h9)
    else
      if x3 ≤ (nI 60) then
        if nI 0 ≤ x3 then
          ph_cl (f_X5_renew x1 x2 x3 h9) fun _ h14 =>
          some (x3, h14)
        else
          ph_cl (f_X8_found (nI 5) h9) fun v15 h16 =>
          some (v15, h16)
      else
        some ((-2), h9)
set_option maxRecDepth 100000 in
theorem c_X8_sheet (Z : ph_L) (d : Nat) (hdd : 2 ≤ d) (x1 : Int32) (x2 : Int32) (x3 : Int32) (h : ph_Hp) : ph_CM Z yX8_sheet cX8_sheet 4 (some .int) d [.ref (ph_a Z 0), .int x1, .int x2, .int x3] ph_vi h (f_X8_sheet x1 x2 x3 h) := by
  refine ph_begin (own := RX8) ph_mf_yX8_sheet rfl (ls := [some (.ref (ph_a Z 0)), some (.int x1), some (.int x2), some (.int x3)]) rfl (Nat.le_of_ble_eq_true rfl) ?_
  unfold f_X8_sheet
  refine ph_iload_n (i := 1) (pc := 0) dX8_sheet_0 rfl rfl ?_
  refine ph_iconst (v := (nI 4)) (pc := 1) dX8_sheet_1 ph_ic_4 ?_
  refine ph_callSi (pc := 2) dX8_sheet_2 ph_mf_yX8_within ph_ml_RX8_80 ph_ms_yX8_within (c_X8_within Z (d - 1) (by omega) x1 (nI 4) h) (by omega) rfl rfl (Nat.le_of_ble_eq_true rfl) (fun v5 h6 => ?_)
  refine ph_if_eq (tgt := 22) (pc := 5) dX8_sheet_5 (by decide) (fun c7 => ?_) (fun c7 => ?_)
  · refine ph_bipush (v := (-2)) (pc := 22) dX8_sheet_22 ph_bp_m2 ?_
    exact ph_iret (pc := 24) dX8_sheet_24 rfl
  · refine ph_iload_n (i := 2) (pc := 8) dX8_sheet_8 rfl rfl ?_
    refine ph_iconst (v := (nI 3)) (pc := 9) dX8_sheet_9 ph_ic_3 ?_
    refine ph_callSi (pc := 10) dX8_sheet_10 ph_mf_yX8_within ph_ml_RX8_80 ph_ms_yX8_within (c_X8_within Z (d - 1) (by omega) x2 (nI 3) h6) (by omega) rfl rfl (Nat.le_of_ble_eq_true rfl) (fun v8 h9 => ?_)
    refine ph_if_eq (tgt := 22) (pc := 13) dX8_sheet_13 (by decide) (fun c10 => ?_) (fun c10 => ?_)
    · refine ph_bipush (v := (-2)) (pc := 22) dX8_sheet_22 ph_bp_m2 ?_
      exact ph_iret (pc := 24) dX8_sheet_24 rfl
    · refine ph_iload_n (i := 3) (pc := 16) dX8_sheet_16 rfl rfl ?_
      refine ph_bipush (v := (nI 60)) (pc := 17) dX8_sheet_17 ph_bp_60 ?_
      refine ph_icmp_le (tgt := 25) (pc := 19) dX8_sheet_19 (by decide) (fun c11 => ?_) (fun c11 => ?_)
      · refine ph_iload_n (i := 3) (pc := 25) dX8_sheet_25 rfl rfl ?_
        refine ph_if_ge (tgt := 35) (pc := 26) dX8_sheet_26 (by decide) (fun c12 => ?_) (fun c12 => ?_)
        · refine ph_aload_n (i := 0) (pc := 35) dX8_sheet_35 rfl rfl ?_
          refine ph_getR (j := 47) (pc := 36) dX8_sheet_36 ph_fl_RX8_72 rfl rfl rfl ?_
          refine ph_iload_n (i := 1) (pc := 39) dX8_sheet_39 rfl rfl ?_
          refine ph_iload_n (i := 2) (pc := 40) dX8_sheet_40 rfl rfl ?_
          refine ph_iload_n (i := 3) (pc := 41) dX8_sheet_41 rfl rfl ?_
          refine ph_callVv (pc := 42) dX8_sheet_42 ph_mf_yX5_renew ph_ml_RX8_266 ph_mi_yX5_renew ph_mv_yX5_renew rfl rfl (c_X5_renew Z (d - 1) (by omega) x1 x2 x3 h9) (by omega) rfl rfl (Nat.le_of_ble_eq_true rfl) (fun v13 h14 => ?_)
          refine ph_iload_n (i := 3) (pc := 45) dX8_sheet_45 rfl rfl ?_
          exact ph_iret (pc := 46) dX8_sheet_46 rfl
        · refine ph_aload_n (i := 0) (pc := 29) dX8_sheet_29 rfl rfl ?_
          refine ph_iconst (v := (nI 5)) (pc := 30) dX8_sheet_30 ph_ic_5 ?_
          refine ph_callVi (pc := 31) dX8_sheet_31 ph_mf_yX8_found ph_ml_RX8_159 ph_mi_yX8_found ph_mv_yX8_found rfl rfl (c_X8_found Z (d - 1) (by omega) (nI 5) h9) (by omega) rfl rfl (Nat.le_of_ble_eq_true rfl) (fun v15 h16 => ?_)
          exact ph_iret (pc := 34) dX8_sheet_34 rfl
      · refine ph_bipush (v := (-2)) (pc := 22) dX8_sheet_22 ph_bp_m2 ?_
        exact ph_iret (pc := 24) dX8_sheet_24 rfl
def f_X8_lose (x1 : Int32) (h : ph_Hp) : Option (Int32 × ph_Hp) :=
  ph_cl (f_X8_within x1 (nI 4) h) fun v3 h4 =>
  if v3 = nI 0 then
    some ((-2), h4)
  else
    ph_cl (f_X5_isLost x1 h4) fun v6 h7 =>
    if v6 = nI 0 then
      ph_cl (f_X5_sizeOf x1 h7) fun v9 h10 =>
      ph_cl (f_X5_tear x1 h10) fun _ h12 =>
      some (v9, h12)
    else
      ph_cl (f_X8_found (nI 1) h7) fun v13 h14 =>
      some (v13, h14)
set_option maxRecDepth 100000 in
theorem c_X8_lose (Z : ph_L) (d : Nat) (hdd : 3 ≤ d) (x1 : Int32) (h : ph_Hp) : ph_CM Z yX8_lose cX8_lose 3 (some .int) d [.ref (ph_a Z 0), .int x1] ph_vi h (f_X8_lose x1 h) := by
  refine ph_begin (own := RX8) ph_mf_yX8_lose rfl (ls := [some (.ref (ph_a Z 0)), some (.int x1), none]) rfl (Nat.le_of_ble_eq_true rfl) ?_
  unfold f_X8_lose
  refine ph_iload_n (i := 1) (pc := 0) dX8_lose_0 rfl rfl ?_
  refine ph_iconst (v := (nI 4)) (pc := 1) dX8_lose_1 ph_ic_4 ?_
  refine ph_callSi (pc := 2) dX8_lose_2 ph_mf_yX8_within ph_ml_RX8_80 ph_ms_yX8_within (c_X8_within Z (d - 1) (by omega) x1 (nI 4) h) (by omega) rfl rfl (Nat.le_of_ble_eq_true rfl) (fun v3 h4 => ?_)
  refine ph_if_ne (tgt := 11) (pc := 5) dX8_lose_5 (by decide) (fun c5 => ?_) (fun c5 => ?_)
  · refine ph_aload_n (i := 0) (pc := 11) dX8_lose_11 rfl rfl ?_
    refine ph_getR (j := 47) (pc := 12) dX8_lose_12 ph_fl_RX8_72 rfl rfl rfl ?_
    refine ph_iload_n (i := 1) (pc := 15) dX8_lose_15 rfl rfl ?_
    refine ph_callVi (pc := 16) dX8_lose_16 ph_mf_yX5_isLost ph_ml_RX8_155 ph_mi_yX5_isLost ph_mv_yX5_isLost rfl rfl (c_X5_isLost Z (d - 1) (by omega) x1 h4) (by omega) rfl rfl (Nat.le_of_ble_eq_true rfl) (fun v6 h7 => ?_)
    refine ph_if_eq (tgt := 28) (pc := 19) dX8_lose_19 (by decide) (fun c8 => ?_) (fun c8 => ?_)
    · refine ph_aload_n (i := 0) (pc := 28) dX8_lose_28 rfl rfl ?_
      refine ph_getR (j := 47) (pc := 29) dX8_lose_29 ph_fl_RX8_72 rfl rfl rfl ?_
      refine ph_iload_n (i := 1) (pc := 32) dX8_lose_32 rfl rfl ?_
      refine ph_callVi (pc := 33) dX8_lose_33 ph_mf_yX5_sizeOf ph_ml_RX8_162 ph_mi_yX5_sizeOf ph_mv_yX5_sizeOf rfl rfl (c_X5_sizeOf Z (d - 1) (by omega) x1 h7) (by omega) rfl rfl (Nat.le_of_ble_eq_true rfl) (fun v9 h10 => ?_)
      refine ph_istore_n (i := 2) (ls1 := [some (.ref (ph_a Z 0)), some (.int x1), some (.int v9)]) (pc := 36) dX8_lose_36 rfl (by decide) rfl ?_
      refine ph_aload_n (i := 0) (pc := 37) dX8_lose_37 rfl rfl ?_
      refine ph_getR (j := 47) (pc := 38) dX8_lose_38 ph_fl_RX8_72 rfl rfl rfl ?_
      refine ph_iload_n (i := 1) (pc := 41) dX8_lose_41 rfl rfl ?_
      refine ph_callVv (pc := 42) dX8_lose_42 ph_mf_yX5_tear ph_ml_RX8_270 ph_mi_yX5_tear ph_mv_yX5_tear rfl rfl (c_X5_tear Z (d - 1) (by omega) x1 h10) (by omega) rfl rfl (Nat.le_of_ble_eq_true rfl) (fun v11 h12 => ?_)
      refine ph_iload_n (i := 2) (pc := 45) dX8_lose_45 rfl rfl ?_
      exact ph_iret (pc := 46) dX8_lose_46 rfl
    · refine ph_aload_n (i := 0) (pc := 22) dX8_lose_22 rfl rfl ?_
      refine ph_iconst (v := (nI 1)) (pc := 23) dX8_lose_23 ph_ic_1 ?_
      refine ph_callVi (pc := 24) dX8_lose_24 ph_mf_yX8_found ph_ml_RX8_159 ph_mi_yX8_found ph_mv_yX8_found rfl rfl (c_X8_found Z (d - 1) (by omega) (nI 1) h7) (by omega) rfl rfl (Nat.le_of_ble_eq_true rfl) (fun v13 h14 => ?_)
      exact ph_iret (pc := 27) dX8_lose_27 rfl
  · refine ph_bipush (v := (-2)) (pc := 8) dX8_lose_8 ph_bp_m2 ?_
    exact ph_iret (pc := 10) dX8_lose_10 rfl
