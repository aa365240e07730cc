def f_X9_prompt (x1 : Int32) (x2 : Int32) (x3 : Int32) (x4 : Int32) (h : ph_Hp) : Option (Int32 × ph_Hp) :=
  ph_cl (f_X9_find h) fun _ h7 =>
  if x1 ≤ nI 0 then
    some ((-2), h7)
  else
    ph_cl (f_X9_isStep x2 h7) fun v9 h10 =>
    if v9 = nI 0 then
      some ((-2), h10)
    else
      if x2 ≤ x1 then
        some ((-2), h10)
      else
        ph_cl (f_X9_isLine x3 h10) fun v13 h14 =>
        if v13 = nI 0 then
          some ((-2), h14)
        else
          ph_cl (f_X9_in x4.toInt64 (lN 0) (lN 2) h14) fun v16 h17 =>
          if v16 = nI 0 then
            some ((-2), h17)
          else
            ph_cl (f_X9_promptOf x1 x2 x3 x4 h17) fun v19 h20 =>
            some (v19, h20)
set_option maxRecDepth 100000 in
theorem c_X9_prompt (Z : ph_L) (d : Nat) (hdd : 7 ≤ d) (x1 : Int32) (x2 : Int32) (x3 : Int32) (x4 : Int32) (h : ph_Hp) : ph_CM Z yX9_prompt cX9_prompt 5 (some .int) d [.ref (ph_a Z 51), .int x1, .int x2, .int x3, .int x4] ph_vi h (f_X9_prompt x1 x2 x3 x4 h) := by
  refine ph_begin (own := RX9) ph_mf_yX9_prompt rfl (ls := [some (.ref (ph_a Z 51)), some (.int x1), some (.int x2), some (.int x3), some (.int x4)]) rfl (Nat.le_of_ble_eq_true rfl) ?_
  unfold f_X9_prompt
  refine ph_aload_n (i := 0) (pc := 0) dX9_prompt_0 rfl rfl ?_
  refine ph_callVv (pc := 1) dX9_prompt_1 ph_mf_yX9_find ph_ml_RX9_198 ph_mi_yX9_find ph_mv_yX9_find rfl rfl (c_X9_find Z (d - 1) (by omega) h) (by omega) rfl rfl (Nat.le_of_ble_eq_true rfl) (fun v6 h7 => ?_)
  refine ph_iload_n (i := 1) (pc := 4) dX9_prompt_4 rfl rfl ?_
  refine ph_if_le (tgt := 52) (pc := 5) dX9_prompt_5 (by decide) (fun c8 => ?_) (fun c8 => ?_)
  · refine ph_bipush (v := (-2)) (pc := 52) dX9_prompt_52 ph_bp_m2 ?_
    exact ph_iret (pc := 54) dX9_prompt_54 rfl
  · refine ph_iload_n (i := 2) (pc := 8) dX9_prompt_8 rfl rfl ?_
    refine ph_callSi (pc := 9) dX9_prompt_9 ph_mf_yX9_isStep ph_ml_RX9_144 ph_ms_yX9_isStep (c_X9_isStep Z (d - 1) (by omega) x2 h7) (by omega) rfl rfl (Nat.le_of_ble_eq_true rfl) (fun v9 h10 => ?_)
    refine ph_if_eq (tgt := 52) (pc := 12) dX9_prompt_12 (by decide) (fun c11 => ?_) (fun c11 => ?_)
    · refine ph_bipush (v := (-2)) (pc := 52) dX9_prompt_52 ph_bp_m2 ?_
      exact ph_iret (pc := 54) dX9_prompt_54 rfl
    · refine ph_iload_n (i := 2) (pc := 15) dX9_prompt_15 rfl rfl ?_
      refine ph_iload_n (i := 1) (pc := 16) dX9_prompt_16 rfl rfl ?_
      refine ph_icmp_le (tgt := 52) (pc := 17) dX9_prompt_17 (by decide) (fun c12 => ?_) (fun c12 => ?_)
      · refine ph_bipush (v := (-2)) (pc := 52) dX9_prompt_52 ph_bp_m2 ?_
        exact ph_iret (pc := 54) dX9_prompt_54 rfl
      · refine ph_iload_n (i := 3) (pc := 20) dX9_prompt_20 rfl rfl ?_
        refine ph_callSi (pc := 21) dX9_prompt_21 ph_mf_yX9_isLine ph_ml_RX9_138 ph_ms_yX9_isLine (c_X9_isLine Z (d - 1) (by omega) x3 h10) (by omega) rfl rfl (Nat.le_of_ble_eq_true rfl) (fun v13 h14 => ?_)
        refine ph_if_eq (tgt := 52) (pc := 24) dX9_prompt_24 (by decide) (fun c15 => ?_) (fun c15 => ?_)
        · refine ph_bipush (v := (-2)) (pc := 52) dX9_prompt_52 ph_bp_m2 ?_
          exact ph_iret (pc := 54) dX9_prompt_54 rfl
        · refine ph_iload (i := 4) (pc := 27) dX9_prompt_27 rfl ?_
          refine ph_i2l (pc := 29) dX9_prompt_29 ?_
          refine ph_lconst (v := (lN 0)) (pc := 30) dX9_prompt_30 rfl ?_
          refine ph_ldc2 (v := (lN 2)) (pc := 31) dX9_prompt_31 ph_k_RX9_83 ?_
          refine ph_callSi (pc := 34) dX9_prompt_34 ph_mf_yX9_in ph_ml_RX9_70 ph_ms_yX9_in (c_X9_in Z (d - 1) (by omega) x4.toInt64 (lN 0) (lN 2) h14) (by omega) rfl rfl (Nat.le_of_ble_eq_true rfl) (fun v16 h17 => ?_)
          refine ph_if_eq (tgt := 52) (pc := 37) dX9_prompt_37 (by decide) (fun c18 => ?_) (fun c18 => ?_)
          · refine ph_bipush (v := (-2)) (pc := 52) dX9_prompt_52 ph_bp_m2 ?_
            exact ph_iret (pc := 54) dX9_prompt_54 rfl
          · refine ph_aload_n (i := 0) (pc := 40) dX9_prompt_40 rfl rfl ?_
            refine ph_iload_n (i := 1) (pc := 41) dX9_prompt_41 rfl rfl ?_
            refine ph_iload_n (i := 2) (pc := 42) dX9_prompt_42 rfl rfl ?_
            refine ph_iload_n (i := 3) (pc := 43) dX9_prompt_43 rfl rfl ?_
            refine ph_iload (i := 4) (pc := 44) dX9_prompt_44 rfl ?_
            refine ph_callVi (pc := 46) dX9_prompt_46 ph_mf_yX9_promptOf ph_ml_RX9_219 ph_mi_yX9_promptOf ph_mv_yX9_promptOf rfl rfl (c_X9_promptOf Z (d - 1) (by omega) x1 x2 x3 x4 h17) (by omega) rfl rfl (Nat.le_of_ble_eq_true rfl) (fun v19 h20 => ?_)
            refine ph_goto (tgt := 54) (pc := 49) dX9_prompt_49 (by decide) ?_
            exact ph_iret (pc := 54) dX9_prompt_54 rfl
def f_X9_seen (x1 : Int32) (x2 : Int32) (h : ph_Hp) : Option (Int32 × ph_Hp) :=
  ph_cl (f_X9_isStep x1 h) fun v4 h5 =>
  if v4 = nI 0 then
    some ((-2), h5)
  else
    ph_cl (f_X9_isLine x2 h5) fun v7 h8 =>
    if v7 = nI 0 then
      some ((-2), h8)
    else
      if (h8.1 51 24) = (nI 8) then
        some ((-4), h8)
      else
        ph_stI h8 67 16 ((nI 2) * (h8.1 51 24)) x1 fun h11 =>
        ph_stI h11 67 16 (((nI 2) * (h11.1 51 24)) + (nI 1)) x2 fun h12 =>
        ph_pfI h12 51 24 ((h12.1 51 24) + (nI 1)) fun h13 =>
        some (h13.1 51 24, h13)
set_option maxRecDepth 100000 in
theorem c_X9_seen (Z : ph_L) (d : Nat) (hdd : 2 ≤ d) (x1 : Int32) (x2 : Int32) (h : ph_Hp) : ph_CM Z yX9_seen cX9_seen 3 (some .int) d [.ref (ph_a Z 51), .int x1, .int x2] ph_vi h (f_X9_seen x1 x2 h) := by
  refine ph_begin (own := RX9) ph_mf_yX9_seen rfl (ls := [some (.ref (ph_a Z 51)), some (.int x1), some (.int x2)]) rfl (Nat.le_of_ble_eq_true rfl) ?_
  unfold f_X9_seen
  refine ph_iload_n (i := 1) (pc := 0) dX9_seen_0 rfl rfl ?_
  refine ph_callSi (pc := 1) dX9_seen_1 ph_mf_yX9_isStep ph_ml_RX9_144 ph_ms_yX9_isStep (c_X9_isStep Z (d - 1) (by omega) x1 h) (by omega) rfl rfl (Nat.le_of_ble_eq_true rfl) (fun v4 h5 => ?_)
  refine ph_if_eq (tgt := 14) (pc := 4) dX9_seen_4 (by decide) (fun c6 => ?_) (fun c6 => ?_)
  · refine ph_bipush (v := (-2)) (pc := 14) dX9_seen_14 ph_bp_m2 ?_
    exact ph_iret (pc := 16) dX9_seen_16 rfl
  · refine ph_iload_n (i := 2) (pc := 7) dX9_seen_7 rfl rfl ?_
    refine ph_callSi (pc := 8) dX9_seen_8 ph_mf_yX9_isLine ph_ml_RX9_138 ph_ms_yX9_isLine (c_X9_isLine Z (d - 1) (by omega) x2 h5) (by omega) rfl rfl (Nat.le_of_ble_eq_true rfl) (fun v7 h8 => ?_)
    refine ph_if_ne (tgt := 17) (pc := 11) dX9_seen_11 (by decide) (fun c9 => ?_) (fun c9 => ?_)
    · refine ph_aload_n (i := 0) (pc := 17) dX9_seen_17 rfl rfl ?_
      refine ph_getI (pc := 18) dX9_seen_18 ph_fl_RX9_223 rfl (by decide) ?_
      refine ph_bipush (v := (nI 8)) (pc := 21) dX9_seen_21 ph_bp_8 ?_
      refine ph_icmp_ne (tgt := 29) (pc := 23) dX9_seen_23 (by decide) (fun c10 => ?_) (fun c10 => ?_)
      · refine ph_aload_n (i := 0) (pc := 29) dX9_seen_29 rfl rfl ?_
        refine ph_getR (j := 67) (pc := 30) dX9_seen_30 ph_fl_RX9_55 rfl rfl rfl ?_
        refine ph_iconst (v := (nI 2)) (pc := 33) dX9_seen_33 ph_ic_2 ?_
        refine ph_aload_n (i := 0) (pc := 34) dX9_seen_34 rfl rfl ?_
        refine ph_getI (pc := 35) dX9_seen_35 ph_fl_RX9_223 rfl (by decide) ?_
        refine ph_imul (pc := 38) dX9_seen_38 ?_
        refine ph_iload_n (i := 1) (pc := 39) dX9_seen_39 rfl rfl ?_
        refine ph_iast (pc := 40) dX9_seen_40 rfl rfl (fun h11 => ?_)
        refine ph_aload_n (i := 0) (pc := 41) dX9_seen_41 rfl rfl ?_
        refine ph_getR (j := 67) (pc := 42) dX9_seen_42 ph_fl_RX9_55 rfl rfl rfl ?_
        refine ph_iconst (v := (nI 2)) (pc := 45) dX9_seen_45 ph_ic_2 ?_
        refine ph_aload_n (i := 0) (pc := 46) dX9_seen_46 rfl rfl ?_
        refine ph_getI (pc := 47) dX9_seen_47 ph_fl_RX9_223 rfl (by decide) ?_
        refine ph_imul (pc := 50) dX9_seen_50 ?_
        refine ph_iconst (v := (nI 1)) (pc := 51) dX9_seen_51 ph_ic_1 ?_
        refine ph_iadd (pc := 52) dX9_seen_52 ?_
        refine ph_iload_n (i := 2) (pc := 53) dX9_seen_53 rfl rfl ?_
        refine ph_iast (pc := 54) dX9_seen_54 rfl rfl (fun h12 => ?_)
        refine ph_aload_n (i := 0) (pc := 55) dX9_seen_55 rfl rfl ?_
        refine ph_dup (pc := 56) dX9_seen_56 rfl ?_
        refine ph_getI (pc := 57) dX9_seen_57 ph_fl_RX9_223 rfl (by decide) ?_
        refine ph_iconst (v := (nI 1)) (pc := 60) dX9_seen_60 ph_ic_1 ?_
        refine ph_iadd (pc := 61) dX9_seen_61 ?_
        refine ph_putI (pc := 62) dX9_seen_62 ph_pl_RX9_223 rfl (by decide) rfl rfl (fun h13 => ?_)
        refine ph_aload_n (i := 0) (pc := 65) dX9_seen_65 rfl rfl ?_
        refine ph_getI (pc := 66) dX9_seen_66 ph_fl_RX9_223 rfl (by decide) ?_
        exact ph_iret (pc := 69) dX9_seen_69 rfl
      · refine ph_bipush (v := (-4)) (pc := 26) dX9_seen_26 ph_bp_m4 ?_
        exact ph_iret (pc := 28) dX9_seen_28 rfl
    · refine ph_bipush (v := (-2)) (pc := 14) dX9_seen_14 ph_bp_m2 ?_
      exact ph_iret (pc := 16) dX9_seen_16 rfl
def f_X9_forget (h : ph_Hp) : Option (Int32 × ph_Hp) :=
  ph_pfI h 51 24 (nI 0) fun h2 =>
  some (h.1 51 24, h2)
set_option maxRecDepth 100000 in
theorem c_X9_forget (Z : ph_L) (d : Nat) (hdd : 0 ≤ d) (h : ph_Hp) : ph_CM Z yX9_forget cX9_forget 2 (some .int) d [.ref (ph_a Z 51)] ph_vi h (f_X9_forget h) := by
  refine ph_begin (own := RX9) ph_mf_yX9_forget rfl (ls := [some (.ref (ph_a Z 51)), none]) rfl (Nat.le_of_ble_eq_true rfl) ?_
  unfold f_X9_forget
  refine ph_aload_n (i := 0) (pc := 0) dX9_forget_0 rfl rfl ?_
  refine ph_getI (pc := 1) dX9_forget_1 ph_fl_RX9_223 rfl (by decide) ?_
  refine ph_istore_n (i := 1) (ls1 := [some (.ref (ph_a Z 51)), some (.int (h.1 51 24))]) (pc := 4) dX9_forget_4 rfl (by decide) rfl ?_
  refine ph_aload_n (i := 0) (pc := 5) dX9_forget_5 rfl rfl ?_
  refine ph_iconst (v := (nI 0)) (pc := 6) dX9_forget_6 ph_ic_0 ?_
  refine ph_putI (pc := 7) dX9_forget_7 ph_pl_RX9_223 rfl (by decide) rfl rfl (fun h2 => ?_)
  refine ph_iload_n (i := 1) (pc := 10) dX9_forget_10 rfl rfl ?_
  exact ph_iret (pc := 11) dX9_forget_11 rfl
def f_X9_isSeen (h : ph_Hp) : Option (Int32 × ph_Hp) :=
  ph_cl (f_X9_lives (nI 0) (nI 39) h) fun _ h3 =>
  ph_lp (α := Int32 × Int32) (fun j4 (x5, x6) =>
    if (h3.1 51 24) ≤ x6 then
      ph_rz x5 h3
    else
      ph_jn (α := Int32) (fun x9 =>
        j4 (x9, x6 + (nI 1))) (fun j8 =>
        ph_jn (α := Unit) (fun _x =>
          j8 (nI 0)) (fun j10 =>
          if x5 = nI 0 then
            j10 ()
          else
            ph_ldI h3 67 16 ((nI 2) * x6) fun v12 =>
            ph_ldI h3 65 40 v12 fun v13 =>
            ph_ldI h3 67 16 (((nI 2) * x6) + (nI 1)) fun v14 =>
            if v13 = v14 then
              j8 (nI 1)
            else
              j10 ()))) ph_fu ((nI 1), (nI 0))
set_option maxRecDepth 100000 in
theorem c_X9_isSeen (Z : ph_L) (d : Nat) (hdd : 5 ≤ d) (h : ph_Hp) : ph_CM Z yX9_isSeen cX9_isSeen 3 (some .boolean) d [.ref (ph_a Z 51)] ph_vi h (f_X9_isSeen h) := by
  refine ph_begin (own := RX9) ph_mf_yX9_isSeen rfl (ls := [some (.ref (ph_a Z 51)), none, none]) rfl (Nat.le_of_ble_eq_true rfl) ?_
  unfold f_X9_isSeen
  refine ph_aload_n (i := 0) (pc := 0) dX9_isSeen_0 rfl rfl ?_
  refine ph_iconst (v := (nI 0)) (pc := 1) dX9_isSeen_1 ph_ic_0 ?_
  refine ph_bipush (v := (nI 39)) (pc := 2) dX9_isSeen_2 ph_bp_39 ?_
  refine ph_callVv (pc := 4) dX9_isSeen_4 ph_mf_yX9_lives ph_ml_RX9_191 ph_mi_yX9_lives ph_mv_yX9_lives rfl rfl (c_X9_lives Z (d - 1) (by omega) (nI 0) (nI 39) h) (by omega) rfl rfl (Nat.le_of_ble_eq_true rfl) (fun v2 h3 => ?_)
  refine ph_iconst (v := (nI 1)) (pc := 7) dX9_isSeen_7 ph_ic_1 ?_
  refine ph_istore_n (i := 1) (ls1 := [some (.ref (ph_a Z 51)), some (.int (nI 1)), none]) (pc := 8) dX9_isSeen_8 rfl (by decide) rfl ?_
  refine ph_iconst (v := (nI 0)) (pc := 9) dX9_isSeen_9 ph_ic_0 ?_
  refine ph_istore_n (i := 2) (ls1 := [some (.ref (ph_a Z 51)), some (.int (nI 1)), some (.int (nI 0))]) (pc := 10) dX9_isSeen_10 rfl (by decide) rfl ?_
  refine ph_loop (α := Int32 × Int32) 11 (fun x => [some (.ref (ph_a Z 51)), some (.int x.1), some (.int x.2)]) (fun x => []) (fun x => h3) (fun j4 hj4 x => ?_) ph_fu ((nI 1), (nI 0))
  obtain ⟨x5, x6⟩ := x
  dsimp only
  refine ph_iload_n (i := 2) (pc := 11) dX9_isSeen_11 rfl rfl ?_
  refine ph_aload_n (i := 0) (pc := 12) dX9_isSeen_12 rfl rfl ?_
  refine ph_getI (pc := 13) dX9_isSeen_13 ph_fl_RX9_223 rfl (by decide) ?_
  refine ph_icmp_ge (tgt := 61) (pc := 16) dX9_isSeen_16 (by decide) (fun c7 => ?_) (fun c7 => ?_)
  · refine ph_iload_n (i := 1) (pc := 61) dX9_isSeen_61 rfl rfl ?_
    exact ph_zret (pc := 62) dX9_isSeen_62 rfl
  · refine ph_iload_n (i := 1) (pc := 19) dX9_isSeen_19 rfl rfl ?_
    refine ph_join (α := Int32) 54 (fun x => [some (.ref (ph_a Z 51)), none, some (.int x6)]) (fun x => [.int x]) (fun x => h3) (fun x => ?_) (fun j8 hj8 => ?_)
    · revert x; intro x9
      refine ph_istore_n (i := 1) (ls1 := [some (.ref (ph_a Z 51)), some (.int x9), some (.int x6)]) (pc := 54) dX9_isSeen_54 rfl (by decide) rfl ?_
      refine ph_iinc (i := 2) (v := (nI 1)) (ls1 := [some (.ref (ph_a Z 51)), some (.int x9), some (.int (x6 + (nI 1)))]) (pc := 55) dX9_isSeen_55 rfl ph_ic_1 (by decide) rfl ?_
      refine ph_goto (tgt := 11) (pc := 58) dX9_isSeen_58 (by decide) ?_
      exact hj4 (x9, x6 + (nI 1))
    · refine ph_join (α := Unit) 53 (fun x => [some (.ref (ph_a Z 51)), none, some (.int x6)]) (fun x => []) (fun x => h3) (fun x => ?_) (fun j10 hj10 => ?_)
      · refine ph_iconst (v := (nI 0)) (pc := 53) dX9_isSeen_53 ph_ic_0 ?_
        exact hj8 (nI 0)
      · refine ph_if_eq (tgt := 53) (pc := 20) dX9_isSeen_20 (by decide) (fun c11 => ?_) (fun c11 => ?_)
        · refine ph_wk (ls1 := [some (.ref (ph_a Z 51)), none, some (.int x6)]) ⟨rfl, ⟨rfl, trivial⟩⟩ ?_
          exact hj10 ()
        · refine ph_aload_n (i := 0) (pc := 23) dX9_isSeen_23 rfl rfl ?_
          refine ph_getR (j := 65) (pc := 24) dX9_isSeen_24 ph_fl_RX9_49 rfl rfl rfl ?_
          refine ph_aload_n (i := 0) (pc := 27) dX9_isSeen_27 rfl rfl ?_
          refine ph_getR (j := 67) (pc := 28) dX9_isSeen_28 ph_fl_RX9_55 rfl rfl rfl ?_
          refine ph_iconst (v := (nI 2)) (pc := 31) dX9_isSeen_31 ph_ic_2 ?_
          refine ph_iload_n (i := 2) (pc := 32) dX9_isSeen_32 rfl rfl ?_
          refine ph_imul (pc := 33) dX9_isSeen_33 ?_
          refine ph_iald (pc := 34) dX9_isSeen_34 rfl rfl (fun v12 => ?_)
          refine ph_iald (pc := 35) dX9_isSeen_35 rfl rfl (fun v13 => ?_)
          refine ph_aload_n (i := 0) (pc := 36) dX9_isSeen_36 rfl rfl ?_
          refine ph_getR (j := 67) (pc := 37) dX9_isSeen_37 ph_fl_RX9_55 rfl rfl rfl ?_
          refine ph_iconst (v := (nI 2)) (pc := 40) dX9_isSeen_40 ph_ic_2 ?_
          refine ph_iload_n (i := 2) (pc := 41) dX9_isSeen_41 rfl rfl ?_
          refine ph_imul (pc := 42) dX9_isSeen_42 ?_
          refine ph_iconst (v := (nI 1)) (pc := 43) dX9_isSeen_43 ph_ic_1 ?_
          refine ph_iadd (pc := 44) dX9_isSeen_44 ?_
          refine ph_iald (pc := 45) dX9_isSeen_45 rfl rfl (fun v14 => ?_)
          refine ph_icmp_ne (tgt := 53) (pc := 46) dX9_isSeen_46 (by decide) (fun c15 => ?_) (fun c15 => ?_)
          · refine ph_wk (ls1 := [some (.ref (ph_a Z 51)), none, some (.int x6)]) ⟨rfl, ⟨rfl, trivial⟩⟩ ?_
            exact hj10 ()
          · refine ph_iconst (v := (nI 1)) (pc := 49) dX9_isSeen_49 ph_ic_1 ?_
            refine ph_goto (tgt := 54) (pc := 50) dX9_isSeen_50 (by decide) ?_
            refine ph_wk (ls1 := [some (.ref (ph_a Z 51)), none, some (.int x6)]) ⟨rfl, ⟨rfl, trivial⟩⟩ ?_
            exact hj8 (nI 1)
def f_X9_filedNow (h : ph_Hp) : Option (Int32 × ph_Hp) :=
  ph_lp (α := Int32 × Int32 × ph_Hp) (fun j2 (x3, x4, h5) =>
    if (h5.1 51 9) ≤ x4 then
      ph_pfI h5 51 21 (-1) fun h7 =>
      ph_cl (f_X9_lives (nI 0) (nI 39) h7) fun _ h9 =>
      some (x3, h9)
    else
      ph_pfI h5 51 21 x4 fun h10 =>
      ph_cl (f_X9_isSeen h10) fun v11 h12 =>
      ph_jn (α := Int32) (fun x14 =>
        j2 (x3 ||| x14, x4 + (nI 1), h12)) (fun j13 =>
        if v11 = nI 0 then
          j13 (nI 0)
        else
          j13 (ph_shl (nI 1) x4))) ph_fu ((nI 0), (nI 0), h)
set_option maxRecDepth 100000 in
theorem c_X9_filedNow (Z : ph_L) (d : Nat) (hdd : 6 ≤ d) (h : ph_Hp) : ph_CM Z yX9_filedNow cX9_filedNow 3 (some .int) d [.ref (ph_a Z 51)] ph_vi h (f_X9_filedNow h) := by
  refine ph_begin (own := RX9) ph_mf_yX9_filedNow rfl (ls := [some (.ref (ph_a Z 51)), none, none]) rfl (Nat.le_of_ble_eq_true rfl) ?_
  unfold f_X9_filedNow
  refine ph_iconst (v := (nI 0)) (pc := 0) dX9_filedNow_0 ph_ic_0 ?_
  refine ph_istore_n (i := 1) (ls1 := [some (.ref (ph_a Z 51)), some (.int (nI 0)), none]) (pc := 1) dX9_filedNow_1 rfl (by decide) rfl ?_
  refine ph_iconst (v := (nI 0)) (pc := 2) dX9_filedNow_2 ph_ic_0 ?_
  refine ph_istore_n (i := 2) (ls1 := [some (.ref (ph_a Z 51)), some (.int (nI 0)), some (.int (nI 0))]) (pc := 3) dX9_filedNow_3 rfl (by decide) rfl ?_
  refine ph_loop (α := Int32 × Int32 × ph_Hp) 4 (fun x => [some (.ref (ph_a Z 51)), some (.int x.1), some (.int x.2.1)]) (fun x => []) (fun x => x.2.2) (fun j2 hj2 x => ?_) ph_fu ((nI 0), (nI 0), h)
  obtain ⟨x3, x4, h5⟩ := x
  dsimp only
  refine ph_iload_n (i := 2) (pc := 4) dX9_filedNow_4 rfl rfl ?_
  refine ph_aload_n (i := 0) (pc := 5) dX9_filedNow_5 rfl rfl ?_
  refine ph_getI (pc := 6) dX9_filedNow_6 ph_fl_RX9_113 rfl (by decide) ?_
  refine ph_icmp_ge (tgt := 40) (pc := 9) dX9_filedNow_9 (by decide) (fun c6 => ?_) (fun c6 => ?_)
  · refine ph_aload_n (i := 0) (pc := 40) dX9_filedNow_40 rfl rfl ?_
    refine ph_iconst (v := (-1)) (pc := 41) dX9_filedNow_41 ph_ic_m1 ?_
    refine ph_putI (pc := 42) dX9_filedNow_42 ph_pl_RX9_61 rfl (by decide) rfl rfl (fun h7 => ?_)
    refine ph_aload_n (i := 0) (pc := 45) dX9_filedNow_45 rfl rfl ?_
    refine ph_iconst (v := (nI 0)) (pc := 46) dX9_filedNow_46 ph_ic_0 ?_
    refine ph_bipush (v := (nI 39)) (pc := 47) dX9_filedNow_47 ph_bp_39 ?_
    refine ph_callVv (pc := 49) dX9_filedNow_49 ph_mf_yX9_lives ph_ml_RX9_191 ph_mi_yX9_lives ph_mv_yX9_lives rfl rfl (c_X9_lives Z (d - 1) (by omega) (nI 0) (nI 39) h7) (by omega) rfl rfl (Nat.le_of_ble_eq_true rfl) (fun v8 h9 => ?_)
    refine ph_iload_n (i := 1) (pc := 52) dX9_filedNow_52 rfl rfl ?_
    exact ph_iret (pc := 53) dX9_filedNow_53 rfl
  · refine ph_aload_n (i := 0) (pc := 12) dX9_filedNow_12 rfl rfl ?_
    refine ph_iload_n (i := 2) (pc := 13) dX9_filedNow_13 rfl rfl ?_
    refine ph_putI (pc := 14) dX9_filedNow_14 ph_pl_RX9_61 rfl (by decide) rfl rfl (fun h10 => ?_)
    refine ph_iload_n (i := 1) (pc := 17) dX9_filedNow_17 rfl rfl ?_
    refine ph_aload_n (i := 0) (pc := 18) dX9_filedNow_18 rfl rfl ?_
    refine ph_callVi (pc := 19) dX9_filedNow_19 ph_mf_yX9_isSeen ph_ml_RX9_226 ph_mi_yX9_isSeen ph_mv_yX9_isSeen rfl rfl (c_X9_isSeen Z (d - 1) (by omega) h10) (by omega) rfl rfl (Nat.le_of_ble_eq_true rfl) (fun v11 h12 => ?_)
    refine ph_join (α := Int32) 32 (fun x => [some (.ref (ph_a Z 51)), none, some (.int x4)]) (fun x => [.int x, .int x3]) (fun x => h12) (fun x => ?_) (fun j13 hj13 => ?_)
    · revert x; intro x14
      refine ph_ior (pc := 32) dX9_filedNow_32 ?_
      refine ph_istore_n (i := 1) (ls1 := [some (.ref (ph_a Z 51)), some (.int (x3 ||| x14)), some (.int x4)]) (pc := 33) dX9_filedNow_33 rfl (by decide) rfl ?_
      refine ph_iinc (i := 2) (v := (nI 1)) (ls1 := [some (.ref (ph_a Z 51)), some (.int (x3 ||| x14)), some (.int (x4 + (nI 1)))]) (pc := 34) dX9_filedNow_34 rfl ph_ic_1 (by decide) rfl ?_
      refine ph_goto (tgt := 4) (pc := 37) dX9_filedNow_37 (by decide) ?_
      exact hj2 (x3 ||| x14, x4 + (nI 1), h12)
    · refine ph_if_eq (tgt := 31) (pc := 22) dX9_filedNow_22 (by decide) (fun c15 => ?_) (fun c15 => ?_)
      · refine ph_iconst (v := (nI 0)) (pc := 31) dX9_filedNow_31 ph_ic_0 ?_
        refine ph_wk (ls1 := [some (.ref (ph_a Z 51)), none, some (.int x4)]) ⟨rfl, ⟨rfl, trivial⟩⟩ ?_
        exact hj13 (nI 0)
      · refine ph_iconst (v := (nI 1)) (pc := 25) dX9_filedNow_25 ph_ic_1 ?_
        refine ph_iload_n (i := 2) (pc := 26) dX9_filedNow_26 rfl rfl ?_
        refine ph_ishl (pc := 27) dX9_filedNow_27 ?_
        refine ph_goto (tgt := 32) (pc := 28) dX9_filedNow_28 (by decide) ?_
        refine ph_wk (ls1 := [some (.ref (ph_a Z 51)), none, some (.int x4)]) ⟨rfl, ⟨rfl, trivial⟩⟩ ?_
        exact hj13 (ph_shl (nI 1) x4)
def f_X9_filed (h : ph_Hp) : Option (Int32 × ph_Hp) :=
  ph_cl (f_X9_find h) fun _ h3 =>
  ph_cl (f_X9_filedNow h3) fun v4 h5 =>
  some (v4, h5)
set_option maxRecDepth 100000 in
theorem c_X9_filed (Z : ph_L) (d : Nat) (hdd : 7 ≤ d) (h : ph_Hp) : ph_CM Z yX9_filed cX9_filed 1 (some .int) d [.ref (ph_a Z 51)] ph_vi h (f_X9_filed h) := by
  refine ph_begin (own := RX9) ph_mf_yX9_filed rfl (ls := [some (.ref (ph_a Z 51))]) rfl (Nat.le_of_ble_eq_true rfl) ?_
  unfold f_X9_filed
  refine ph_aload_n (i := 0) (pc := 0) dX9_filed_0 rfl rfl ?_
  refine ph_callVv (pc := 1) dX9_filed_1 ph_mf_yX9_find ph_ml_RX9_198 ph_mi_yX9_find ph_mv_yX9_find rfl rfl (c_X9_find Z (d - 1) (by omega) h) (by omega) rfl rfl (Nat.le_of_ble_eq_true rfl) (fun v2 h3 => ?_)
  refine ph_aload_n (i := 0) (pc := 4) dX9_filed_4 rfl rfl ?_
  refine ph_callVi (pc := 5) dX9_filed_5 ph_mf_yX9_filedNow ph_ml_RX9_230 ph_mi_yX9_filedNow ph_mv_yX9_filedNow rfl rfl (c_X9_filedNow Z (d - 1) (by omega) h3) (by omega) rfl rfl (Nat.le_of_ble_eq_true rfl) (fun v4 h5 => ?_)
  exact ph_iret (pc := 8) dX9_filed_8 rfl
def f_X9_coughedOf (x1 : Int32) (h : ph_Hp) : Option (Int32 × ph_Hp) :=
  ph_lp (α := Int32 × Int32 × ph_Hp) (fun j3 (x4, x5, h6) =>
    if (nI 31) ≤ x5 then
      ph_cl (f_X9_lives (nI 0) (nI 39) h6) fun _ h9 =>
      some (x4, h9)
    else
      ph_ldI h6 63 40 x5 fun v10 =>
      ph_ldI h6 63 40 x5 fun v11 =>
      ph_stI h6 63 40 x5 (v11 ||| (ph_shl (nI 1) x1)) fun h12 =>
      ph_cl (f_X9_isSeen h12) fun v13 h14 =>
      ph_jn (α := Int32) (fun x16 =>
        ph_stI h14 63 40 x5 v10 fun h17 =>
        j3 (x4 ||| x16, x5 + (nI 1), h17)) (fun j15 =>
        if v13 = nI 0 then
          j15 (nI 0)
        else
          j15 (ph_shl (nI 1) x5))) ph_fu ((nI 0), (nI 0), h)
set_option maxRecDepth 100000 in
theorem c_X9_coughedOf (Z : ph_L) (d : Nat) (hdd : 6 ≤ d) (x1 : Int32) (h : ph_Hp) : ph_CM Z yX9_coughedOf cX9_coughedOf 5 (some .int) d [.ref (ph_a Z 51), .int x1] ph_vi h (f_X9_coughedOf x1 h) := by
  refine ph_begin (own := RX9) ph_mf_yX9_coughedOf rfl (ls := [some (.ref (ph_a Z 51)), some (.int x1), none, none, none]) rfl (Nat.le_of_ble_eq_true rfl) ?_
  unfold f_X9_coughedOf
  refine ph_iconst (v := (nI 0)) (pc := 0) dX9_coughedOf_0 ph_ic_0 ?_
  refine ph_istore_n (i := 2) (ls1 := [some (.ref (ph_a Z 51)), some (.int x1), some (.int (nI 0)), none, none]) (pc := 1) dX9_coughedOf_1 rfl (by decide) rfl ?_
  refine ph_iconst (v := (nI 0)) (pc := 2) dX9_coughedOf_2 ph_ic_0 ?_
  refine ph_istore_n (i := 3) (ls1 := [some (.ref (ph_a Z 51)), some (.int x1), some (.int (nI 0)), some (.int (nI 0)), none]) (pc := 3) dX9_coughedOf_3 rfl (by decide) rfl ?_
  refine ph_loop (α := Int32 × Int32 × ph_Hp) 4 (fun x => [some (.ref (ph_a Z 51)), some (.int x1), some (.int x.1), some (.int x.2.1), none]) (fun x => []) (fun x => x.2.2) (fun j3 hj3 x => ?_) ph_fu ((nI 0), (nI 0), h)
  obtain ⟨x4, x5, h6⟩ := x
  dsimp only
  refine ph_iload_n (i := 3) (pc := 4) dX9_coughedOf_4 rfl rfl ?_
  refine ph_bipush (v := (nI 31)) (pc := 5) dX9_coughedOf_5 ph_bp_31 ?_
  refine ph_icmp_ge (tgt := 61) (pc := 7) dX9_coughedOf_7 (by decide) (fun c7 => ?_) (fun c7 => ?_)
  · refine ph_aload_n (i := 0) (pc := 61) dX9_coughedOf_61 rfl rfl ?_
    refine ph_iconst (v := (nI 0)) (pc := 62) dX9_coughedOf_62 ph_ic_0 ?_
    refine ph_bipush (v := (nI 39)) (pc := 63) dX9_coughedOf_63 ph_bp_39 ?_
    refine ph_callVv (pc := 65) dX9_coughedOf_65 ph_mf_yX9_lives ph_ml_RX9_191 ph_mi_yX9_lives ph_mv_yX9_lives rfl rfl (c_X9_lives Z (d - 1) (by omega) (nI 0) (nI 39) h6) (by omega) rfl rfl (Nat.le_of_ble_eq_true rfl) (fun v8 h9 => ?_)
    refine ph_iload_n (i := 2) (pc := 68) dX9_coughedOf_68 rfl rfl ?_
    exact ph_iret (pc := 69) dX9_coughedOf_69 rfl
  · refine ph_aload_n (i := 0) (pc := 10) dX9_coughedOf_10 rfl rfl ?_
    refine ph_getR (j := 63) (pc := 11) dX9_coughedOf_11 ph_fl_RX9_43 rfl rfl rfl ?_
    refine ph_iload_n (i := 3) (pc := 14) dX9_coughedOf_14 rfl rfl ?_
    refine ph_iald (pc := 15) dX9_coughedOf_15 rfl rfl (fun v10 => ?_)
    refine ph_istore (i := 4) (ls1 := [some (.ref (ph_a Z 51)), some (.int x1), some (.int x4), some (.int x5), some (.int v10)]) (pc := 16) dX9_coughedOf_16 (by decide) rfl ?_
    refine ph_aload_n (i := 0) (pc := 18) dX9_coughedOf_18 rfl rfl ?_
    refine ph_getR (j := 63) (pc := 19) dX9_coughedOf_19 ph_fl_RX9_43 rfl rfl rfl ?_
    refine ph_iload_n (i := 3) (pc := 22) dX9_coughedOf_22 rfl rfl ?_
    refine ph_dup2 (pc := 23) dX9_coughedOf_23 rfl rfl ?_
    refine ph_iald (pc := 24) dX9_coughedOf_24 rfl rfl (fun v11 => ?_)
    refine ph_iconst (v := (nI 1)) (pc := 25) dX9_coughedOf_25 ph_ic_1 ?_
    refine ph_iload_n (i := 1) (pc := 26) dX9_coughedOf_26 rfl rfl ?_
    refine ph_ishl (pc := 27) dX9_coughedOf_27 ?_
    refine ph_ior (pc := 28) dX9_coughedOf_28 ?_
    refine ph_iast (pc := 29) dX9_coughedOf_29 rfl rfl (fun h12 => ?_)
    refine ph_iload_n (i := 2) (pc := 30) dX9_coughedOf_30 rfl rfl ?_
    refine ph_aload_n (i := 0) (pc := 31) dX9_coughedOf_31 rfl rfl ?_
    refine ph_callVi (pc := 32) dX9_coughedOf_32 ph_mf_yX9_isSeen ph_ml_RX9_226 ph_mi_yX9_isSeen ph_mv_yX9_isSeen rfl rfl (c_X9_isSeen Z (d - 1) (by omega) h12) (by omega) rfl rfl (Nat.le_of_ble_eq_true rfl) (fun v13 h14 => ?_)
    refine ph_join (α := Int32) 45 (fun x => [some (.ref (ph_a Z 51)), some (.int x1), none, some (.int x5), some (.int v10)]) (fun x => [.int x, .int x4]) (fun x => h14) (fun x => ?_) (fun j15 hj15 => ?_)
    · revert x; intro x16
      refine ph_ior (pc := 45) dX9_coughedOf_45 ?_
      refine ph_istore_n (i := 2) (ls1 := [some (.ref (ph_a Z 51)), some (.int x1), some (.int (x4 ||| x16)), some (.int x5), some (.int v10)]) (pc := 46) dX9_coughedOf_46 rfl (by decide) rfl ?_
      refine ph_aload_n (i := 0) (pc := 47) dX9_coughedOf_47 rfl rfl ?_
      refine ph_getR (j := 63) (pc := 48) dX9_coughedOf_48 ph_fl_RX9_43 rfl rfl rfl ?_
      refine ph_iload_n (i := 3) (pc := 51) dX9_coughedOf_51 rfl rfl ?_
      refine ph_iload (i := 4) (pc := 52) dX9_coughedOf_52 rfl ?_
      refine ph_iast (pc := 54) dX9_coughedOf_54 rfl rfl (fun h17 => ?_)
      refine ph_iinc (i := 3) (v := (nI 1)) (ls1 := [some (.ref (ph_a Z 51)), some (.int x1), some (.int (x4 ||| x16)), some (.int (x5 + (nI 1))), some (.int v10)]) (pc := 55) dX9_coughedOf_55 rfl ph_ic_1 (by decide) rfl ?_
      refine ph_goto (tgt := 4) (pc := 58) dX9_coughedOf_58 (by decide) ?_
      refine ph_wk (ls1 := [some (.ref (ph_a Z 51)), some (.int x1), some (.int (x4 ||| x16)), some (.int (x5 + (nI 1))), none]) ⟨rfl, ⟨rfl, ⟨rfl, ⟨rfl, trivial⟩⟩⟩⟩ ?_
      exact hj3 (x4 ||| x16, x5 + (nI 1), h17)
    · refine ph_if_eq (tgt := 44) (pc := 35) dX9_coughedOf_35 (by decide) (fun c18 => ?_) (fun c18 => ?_)
      · refine ph_iconst (v := (nI 0)) (pc := 44) dX9_coughedOf_44 ph_ic_0 ?_
        refine ph_wk (ls1 := [some (.ref (ph_a Z 51)), some (.int x1), none, some (.int x5), some (.int v10)]) ⟨rfl, ⟨rfl, ⟨rfl, ⟨rfl, trivial⟩⟩⟩⟩ ?_
        exact hj15 (nI 0)
      · refine ph_iconst (v := (nI 1)) (pc := 38) dX9_coughedOf_38 ph_ic_1 ?_
        refine ph_iload_n (i := 3) (pc := 39) dX9_coughedOf_39 rfl rfl ?_
        refine ph_ishl (pc := 40) dX9_coughedOf_40 ?_
        refine ph_goto (tgt := 45) (pc := 41) dX9_coughedOf_41 (by decide) ?_
        refine ph_wk (ls1 := [some (.ref (ph_a Z 51)), some (.int x1), none, some (.int x5), some (.int v10)]) ⟨rfl, ⟨rfl, ⟨rfl, ⟨rfl, trivial⟩⟩⟩⟩ ?_
        exact hj15 (ph_shl (nI 1) x5)
def f_X9_coughed (x1 : Int32) (h : ph_Hp) : Option (Int32 × ph_Hp) :=
  ph_cl (f_X9_find h) fun _ h4 =>
  ph_cl (f_X9_isHole x1 h4) fun v5 h6 =>
  if v5 = nI 0 then
    some ((-2), h6)
  else
    ph_cl (f_X9_coughedOf x1 h6) fun v8 h9 =>
    some (v8, h9)
set_option maxRecDepth 100000 in
theorem c_X9_coughed (Z : ph_L) (d : Nat) (hdd : 7 ≤ d) (x1 : Int32) (h : ph_Hp) : ph_CM Z yX9_coughed cX9_coughed 2 (some .int) d [.ref (ph_a Z 51), .int x1] ph_vi h (f_X9_coughed x1 h) := by
  refine ph_begin (own := RX9) ph_mf_yX9_coughed rfl (ls := [some (.ref (ph_a Z 51)), some (.int x1)]) rfl (Nat.le_of_ble_eq_true rfl) ?_
  unfold f_X9_coughed
  refine ph_aload_n (i := 0) (pc := 0) dX9_coughed_0 rfl rfl ?_
  refine ph_callVv (pc := 1) dX9_coughed_1 ph_mf_yX9_find ph_ml_RX9_198 ph_mi_yX9_find ph_mv_yX9_find rfl rfl (c_X9_find Z (d - 1) (by omega) h) (by omega) rfl rfl (Nat.le_of_ble_eq_true rfl) (fun v3 h4 => ?_)
  refine ph_aload_n (i := 0) (pc := 4) dX9_coughed_4 rfl rfl ?_
  refine ph_iload_n (i := 1) (pc := 5) dX9_coughed_5 rfl rfl ?_
  refine ph_callVi (pc := 6) dX9_coughed_6 ph_mf_yX9_isHole ph_ml_RX9_135 ph_mi_yX9_isHole ph_mv_yX9_isHole rfl rfl (c_X9_isHole Z (d - 1) (by omega) x1 h4) (by omega) rfl rfl (Nat.le_of_ble_eq_true rfl) (fun v5 h6 => ?_)
  refine ph_if_eq (tgt := 20) (pc := 9) dX9_coughed_9 (by decide) (fun c7 => ?_) (fun c7 => ?_)
  · refine ph_bipush (v := (-2)) (pc := 20) dX9_coughed_20 ph_bp_m2 ?_
    exact ph_iret (pc := 22) dX9_coughed_22 rfl
  · refine ph_aload_n (i := 0) (pc := 12) dX9_coughed_12 rfl rfl ?_
    refine ph_iload_n (i := 1) (pc := 13) dX9_coughed_13 rfl rfl ?_
    refine ph_callVi (pc := 14) dX9_coughed_14 ph_mf_yX9_coughedOf ph_ml_RX9_233 ph_mi_yX9_coughedOf ph_mv_yX9_coughedOf rfl rfl (c_X9_coughedOf Z (d - 1) (by omega) x1 h6) (by omega) rfl rfl (Nat.le_of_ble_eq_true rfl) (fun v8 h9 => ?_)
    refine ph_goto (tgt := 22) (pc := 17) dX9_coughed_17 (by decide) ?_
    exact ph_iret (pc := 22) dX9_coughed_22 rfl
def f_X9_askOf (x1 : Int32) (h : ph_Hp) : Option (Int32 × ph_Hp) :=
  ph_cl (f_X9_coughedOf x1 h) fun v3 h4 =>
  ph_lp (α := Int32 × ph_Hp) (fun j5 (x6, h7) =>
    if (nI 360) ≤ x6 then
      ph_lp (α := Int32 × ph_Hp) (fun j9 (x10, h11) =>
        if (nI 31) ≤ x10 then
          ph_cl (f_X9_lives (nI 0) (nI 39) h11) fun _ h14 =>
          ph_lp (α := Int32 × Int32 × Int32) (fun j15 (x16, x17, x18) =>
            if (nI 40) ≤ x18 then
              some (x16, h14)
            else
              ph_lp (α := Int32 × Int32) (fun j20 (x21, x22) =>
                if (nI 9) ≤ x22 then
                  ph_jn (α := Int32) (fun x25 =>
                    ph_jn (α := Int32) (fun x27 =>
                      ph_jn (α := Int32) (fun x29 =>
                        j15 (x27, x29, x18 + (nI 1))) (fun j28 =>
                        if x25 = nI 0 then
                          j28 x17
                        else
                          j28 x21)) (fun j26 =>
                      if x25 = nI 0 then
                        j26 x16
                      else
                        j26 x18)) (fun j24 =>
                    ph_jn (α := Unit) (fun _x =>
                      j24 (nI 1)) (fun j32 =>
                      if x17 = (-1) then
                        j32 ()
                      else
                        if x17 ≤ x21 then
                          j24 (nI 0)
                        else
                          j32 ()))
                else
                  ph_ldI h14 68 360 (((nI 9) * x18) + x22) fun v35 =>
                  ph_jn (α := Int32) (fun x37 =>
                    j20 (x37, x22 + (nI 1))) (fun j36 =>
                    if v35 ≤ x21 then
                      j36 x21
                    else
                      ph_ldI h14 68 360 (((nI 9) * x18) + x22) fun v39 =>
                      j36 v39)) ph_fu ((nI 0), (nI 0))) ph_fu ((nI 0), (-1), (nI 0))
        else
          ph_cl (f_X9_isIn v3 x10 h11) fun v40 h41 =>
          ph_jn (α := ph_Hp) (fun h43 =>
            j9 (x10 + (nI 1), h43)) (fun j42 =>
            if v40 = nI 0 then
              j42 h41
            else
              ph_ldI h41 63 40 x10 fun v45 =>
              ph_ldI h41 63 40 x10 fun v46 =>
              ph_stI h41 63 40 x10 (v46 ||| (ph_shl (nI 1) x1)) fun h47 =>
              ph_cl (f_X9_lives (nI 0) (nI 39) h47) fun _ h49 =>
              ph_stI h49 63 40 x10 v45 fun h50 =>
              ph_lp (α := Int32 × ph_Hp) (fun j51 (x52, h53) =>
                if (nI 40) ≤ x52 then
                  j42 h53
                else
                  ph_ldI h53 65 40 x52 fun v55 =>
                  ph_ldI h53 68 360 ((((nI 9) * x52) + v55) + (nI 1)) fun v56 =>
                  ph_stI h53 68 360 ((((nI 9) * x52) + v55) + (nI 1)) (v56 + (nI 1)) fun h57 =>
                  j51 (x52 + (nI 1), h57)) ph_fu ((nI 0), h50))) ph_fu ((nI 0), h7)
    else
      ph_stI h7 68 360 x6 (nI 0) fun h58 =>
      j5 (x6 + (nI 1), h58)) ph_fu ((nI 0), h4)
set_option maxRecDepth 100000 in
theorem c_X9_askOf (Z : ph_L) (d : Nat) (hdd : 7 ≤ d) (x1 : Int32) (h : ph_Hp) : ph_CM Z yX9_askOf cX9_askOf 8 (some .int) d [.ref (ph_a Z 51), .int x1] ph_vi h (f_X9_askOf x1 h) := by
  refine ph_begin (own := RX9) ph_mf_yX9_askOf rfl (ls := [some (.ref (ph_a Z 51)), some (.int x1), none, none, none, none, none, none]) rfl (Nat.le_of_ble_eq_true rfl) ?_
  unfold f_X9_askOf
  refine ph_aload_n (i := 0) (pc := 0) dX9_askOf_0 rfl rfl ?_
  refine ph_iload_n (i := 1) (pc := 1) dX9_askOf_1 rfl rfl ?_
  refine ph_callVi (pc := 2) dX9_askOf_2 ph_mf_yX9_coughedOf ph_ml_RX9_233 ph_mi_yX9_coughedOf ph_mv_yX9_coughedOf rfl rfl (c_X9_coughedOf Z (d - 1) (by omega) x1 h) (by omega) rfl rfl (Nat.le_of_ble_eq_true rfl) (fun v3 h4 => ?_)
  refine ph_istore_n (i := 2) (ls1 := [some (.ref (ph_a Z 51)), some (.int x1), some (.int v3), none, none, none, none, none]) (pc := 5) dX9_askOf_5 rfl (by decide) rfl ?_
  refine ph_iconst (v := (nI 0)) (pc := 6) dX9_askOf_6 ph_ic_0 ?_
  refine ph_istore_n (i := 3) (ls1 := [some (.ref (ph_a Z 51)), some (.int x1), some (.int v3), some (.int (nI 0)), none, none, none, none]) (pc := 7) dX9_askOf_7 rfl (by decide) rfl ?_
  refine ph_loop (α := Int32 × ph_Hp) 8 (fun x => [some (.ref (ph_a Z 51)), some (.int x1), some (.int v3), some (.int x.1), none, none, none, none]) (fun x => []) (fun x => x.2) (fun j5 hj5 x => ?_) ph_fu ((nI 0), h4)
  obtain ⟨x6, h7⟩ := x
  dsimp only
  refine ph_iload_n (i := 3) (pc := 8) dX9_askOf_8 rfl rfl ?_
  refine ph_sipush (v := (nI 360)) (pc := 9) dX9_askOf_9 ph_sp_360 ?_
  refine ph_icmp_ge (tgt := 28) (pc := 12) dX9_askOf_12 (by decide) (fun c8 => ?_) (fun c8 => ?_)
  · refine ph_iconst (v := (nI 0)) (pc := 28) dX9_askOf_28 ph_ic_0 ?_
    refine ph_istore_n (i := 3) (ls1 := [some (.ref (ph_a Z 51)), some (.int x1), some (.int v3), some (.int (nI 0)), none, none, none, none]) (pc := 29) dX9_askOf_29 rfl (by decide) rfl ?_
    refine ph_loop (α := Int32 × ph_Hp) 30 (fun x => [some (.ref (ph_a Z 51)), some (.int x1), some (.int v3), some (.int x.1), none, none, none, none]) (fun x => []) (fun x => x.2) (fun j9 hj9 x => ?_) ph_fu ((nI 0), h7)
    obtain ⟨x10, h11⟩ := x
    dsimp only
    refine ph_iload_n (i := 3) (pc := 30) dX9_askOf_30 rfl rfl ?_
    refine ph_bipush (v := (nI 31)) (pc := 31) dX9_askOf_31 ph_bp_31 ?_
    refine ph_icmp_ge (tgt := 125) (pc := 33) dX9_askOf_33 (by decide) (fun c12 => ?_) (fun c12 => ?_)
    · refine ph_aload_n (i := 0) (pc := 125) dX9_askOf_125 rfl rfl ?_
      refine ph_iconst (v := (nI 0)) (pc := 126) dX9_askOf_126 ph_ic_0 ?_
      refine ph_bipush (v := (nI 39)) (pc := 127) dX9_askOf_127 ph_bp_39 ?_
      refine ph_callVv (pc := 129) dX9_askOf_129 ph_mf_yX9_lives ph_ml_RX9_191 ph_mi_yX9_lives ph_mv_yX9_lives rfl rfl (c_X9_lives Z (d - 1) (by omega) (nI 0) (nI 39) h11) (by omega) rfl rfl (Nat.le_of_ble_eq_true rfl) (fun v13 h14 => ?_)
      refine ph_iconst (v := (nI 0)) (pc := 132) dX9_askOf_132 ph_ic_0 ?_
      refine ph_istore_n (i := 3) (ls1 := [some (.ref (ph_a Z 51)), some (.int x1), some (.int v3), some (.int (nI 0)), none, none, none, none]) (pc := 133) dX9_askOf_133 rfl (by decide) rfl ?_
      refine ph_iconst (v := (-1)) (pc := 134) dX9_askOf_134 ph_ic_m1 ?_
      refine ph_istore (i := 4) (ls1 := [some (.ref (ph_a Z 51)), some (.int x1), some (.int v3), some (.int (nI 0)), some (.int (-1)), none, none, none]) (pc := 135) dX9_askOf_135 (by decide) rfl ?_
      refine ph_iconst (v := (nI 0)) (pc := 137) dX9_askOf_137 ph_ic_0 ?_
      refine ph_istore (i := 5) (ls1 := [some (.ref (ph_a Z 51)), some (.int x1), some (.int v3), some (.int (nI 0)), some (.int (-1)), some (.int (nI 0)), none, none]) (pc := 138) dX9_askOf_138 (by decide) rfl ?_
      refine ph_wk (ls1 := [some (.ref (ph_a Z 51)), none, none, some (.int (nI 0)), some (.int (-1)), some (.int (nI 0)), none, none]) ⟨rfl, ⟨rfl, ⟨rfl, ⟨rfl, trivial⟩⟩⟩⟩ ?_
      refine ph_loop (α := Int32 × Int32 × Int32) 140 (fun x => [some (.ref (ph_a Z 51)), none, none, some (.int x.1), some (.int x.2.1), some (.int x.2.2), none, none]) (fun x => []) (fun x => h14) (fun j15 hj15 x => ?_) ph_fu ((nI 0), (-1), (nI 0))
      obtain ⟨x16, x17, x18⟩ := x
      dsimp only
      refine ph_iload (i := 5) (pc := 140) dX9_askOf_140 rfl ?_
      refine ph_bipush (v := (nI 40)) (pc := 142) dX9_askOf_142 ph_bp_40 ?_
      refine ph_icmp_ge (tgt := 256) (pc := 144) dX9_askOf_144 (by decide) (fun c19 => ?_) (fun c19 => ?_)
      · refine ph_iload_n (i := 3) (pc := 256) dX9_askOf_256 rfl rfl ?_
        exact ph_iret (pc := 257) dX9_askOf_257 rfl
      · refine ph_iconst (v := (nI 0)) (pc := 147) dX9_askOf_147 ph_ic_0 ?_
        refine ph_istore (i := 6) (ls1 := [some (.ref (ph_a Z 51)), none, none, some (.int x16), some (.int x17), some (.int x18), some (.int (nI 0)), none]) (pc := 148) dX9_askOf_148 (by decide) rfl ?_
        refine ph_iconst (v := (nI 0)) (pc := 150) dX9_askOf_150 ph_ic_0 ?_
        refine ph_istore (i := 7) (ls1 := [some (.ref (ph_a Z 51)), none, none, some (.int x16), some (.int x17), some (.int x18), some (.int (nI 0)), some (.int (nI 0))]) (pc := 151) dX9_askOf_151 (by decide) rfl ?_
        refine ph_loop (α := Int32 × Int32) 153 (fun x => [some (.ref (ph_a Z 51)), none, none, some (.int x16), some (.int x17), some (.int x18), some (.int x.1), some (.int x.2)]) (fun x => []) (fun x => h14) (fun j20 hj20 x => ?_) ph_fu ((nI 0), (nI 0))
        obtain ⟨x21, x22⟩ := x
        dsimp only
        refine ph_iload (i := 7) (pc := 153) dX9_askOf_153 rfl ?_
        refine ph_bipush (v := (nI 9)) (pc := 155) dX9_askOf_155 ph_bp_9 ?_
        refine ph_icmp_ge (tgt := 204) (pc := 157) dX9_askOf_157 (by decide) (fun c23 => ?_) (fun c23 => ?_)
        · refine ph_iload (i := 4) (pc := 204) dX9_askOf_204 rfl ?_
          refine ph_iconst (v := (-1)) (pc := 206) dX9_askOf_206 ph_ic_m1 ?_
          refine ph_join (α := Int32) 222 (fun x => [some (.ref (ph_a Z 51)), none, none, some (.int x16), some (.int x17), some (.int x18), some (.int x21), none]) (fun x => [.int x]) (fun x => h14) (fun x => ?_) (fun j24 hj24 => ?_)
          · revert x; intro x25
            refine ph_istore (i := 7) (ls1 := [some (.ref (ph_a Z 51)), none, none, some (.int x16), some (.int x17), some (.int x18), some (.int x21), some (.int x25)]) (pc := 222) dX9_askOf_222 (by decide) rfl ?_
            refine ph_iload (i := 7) (pc := 224) dX9_askOf_224 rfl ?_
            refine ph_join (α := Int32) 235 (fun x => [some (.ref (ph_a Z 51)), none, none, none, some (.int x17), some (.int x18), some (.int x21), some (.int x25)]) (fun x => [.int x]) (fun x => h14) (fun x => ?_) (fun j26 hj26 => ?_)
            · revert x; intro x27
              refine ph_istore_n (i := 3) (ls1 := [some (.ref (ph_a Z 51)), none, none, some (.int x27), some (.int x17), some (.int x18), some (.int x21), some (.int x25)]) (pc := 235) dX9_askOf_235 rfl (by decide) rfl ?_
              refine ph_iload (i := 7) (pc := 236) dX9_askOf_236 rfl ?_
              refine ph_join (α := Int32) 248 (fun x => [some (.ref (ph_a Z 51)), none, none, some (.int x27), none, some (.int x18), none, none]) (fun x => [.int x]) (fun x => h14) (fun x => ?_) (fun j28 hj28 => ?_)
              · revert x; intro x29
                refine ph_istore (i := 4) (ls1 := [some (.ref (ph_a Z 51)), none, none, some (.int x27), some (.int x29), some (.int x18), none, none]) (pc := 248) dX9_askOf_248 (by decide) rfl ?_
                refine ph_iinc (i := 5) (v := (nI 1)) (ls1 := [some (.ref (ph_a Z 51)), none, none, some (.int x27), some (.int x29), some (.int (x18 + (nI 1))), none, none]) (pc := 250) dX9_askOf_250 rfl ph_ic_1 (by decide) rfl ?_
                refine ph_goto (tgt := 140) (pc := 253) dX9_askOf_253 (by decide) ?_
                exact hj15 (x27, x29, x18 + (nI 1))
              · refine ph_if_eq (tgt := 246) (pc := 238) dX9_askOf_238 (by decide) (fun c30 => ?_) (fun c30 => ?_)
                · refine ph_iload (i := 4) (pc := 246) dX9_askOf_246 rfl ?_
                  refine ph_wk (ls1 := [some (.ref (ph_a Z 51)), none, none, some (.int x27), none, some (.int x18), none, none]) ⟨rfl, ⟨rfl, ⟨rfl, trivial⟩⟩⟩ ?_
                  exact hj28 x17
                · refine ph_iload (i := 6) (pc := 241) dX9_askOf_241 rfl ?_
                  refine ph_goto (tgt := 248) (pc := 243) dX9_askOf_243 (by decide) ?_
                  refine ph_wk (ls1 := [some (.ref (ph_a Z 51)), none, none, some (.int x27), none, some (.int x18), none, none]) ⟨rfl, ⟨rfl, ⟨rfl, trivial⟩⟩⟩ ?_
                  exact hj28 x21
            · refine ph_if_eq (tgt := 234) (pc := 226) dX9_askOf_226 (by decide) (fun c31 => ?_) (fun c31 => ?_)
              · refine ph_iload_n (i := 3) (pc := 234) dX9_askOf_234 rfl rfl ?_
                refine ph_wk (ls1 := [some (.ref (ph_a Z 51)), none, none, none, some (.int x17), some (.int x18), some (.int x21), some (.int x25)]) ⟨rfl, ⟨rfl, ⟨rfl, ⟨rfl, ⟨rfl, trivial⟩⟩⟩⟩⟩ ?_
                exact hj26 x16
              · refine ph_iload (i := 5) (pc := 229) dX9_askOf_229 rfl ?_
                refine ph_goto (tgt := 235) (pc := 231) dX9_askOf_231 (by decide) ?_
                refine ph_wk (ls1 := [some (.ref (ph_a Z 51)), none, none, none, some (.int x17), some (.int x18), some (.int x21), some (.int x25)]) ⟨rfl, ⟨rfl, ⟨rfl, ⟨rfl, ⟨rfl, trivial⟩⟩⟩⟩⟩ ?_
                exact hj26 x18
          · refine ph_join (α := Unit) 217 (fun x => [some (.ref (ph_a Z 51)), none, none, some (.int x16), some (.int x17), some (.int x18), some (.int x21), none]) (fun x => []) (fun x => h14) (fun x => ?_) (fun j32 hj32 => ?_)
            · refine ph_iconst (v := (nI 1)) (pc := 217) dX9_askOf_217 ph_ic_1 ?_
              refine ph_goto (tgt := 222) (pc := 218) dX9_askOf_218 (by decide) ?_
              exact hj24 (nI 1)
            · refine ph_icmp_eq (tgt := 217) (pc := 207) dX9_askOf_207 (by decide) (fun c33 => ?_) (fun c33 => ?_)
              · refine ph_wk (ls1 := [some (.ref (ph_a Z 51)), none, none, some (.int x16), some (.int x17), some (.int x18), some (.int x21), none]) ⟨rfl, ⟨rfl, ⟨rfl, ⟨rfl, ⟨rfl, trivial⟩⟩⟩⟩⟩ ?_
                exact hj32 ()
              · refine ph_iload (i := 6) (pc := 210) dX9_askOf_210 rfl ?_
                refine ph_iload (i := 4) (pc := 212) dX9_askOf_212 rfl ?_
                refine ph_icmp_ge (tgt := 221) (pc := 214) dX9_askOf_214 (by decide) (fun c34 => ?_) (fun c34 => ?_)
                · refine ph_iconst (v := (nI 0)) (pc := 221) dX9_askOf_221 ph_ic_0 ?_
                  refine ph_wk (ls1 := [some (.ref (ph_a Z 51)), none, none, some (.int x16), some (.int x17), some (.int x18), some (.int x21), none]) ⟨rfl, ⟨rfl, ⟨rfl, ⟨rfl, ⟨rfl, trivial⟩⟩⟩⟩⟩ ?_
                  exact hj24 (nI 0)
                · refine ph_wk (ls1 := [some (.ref (ph_a Z 51)), none, none, some (.int x16), some (.int x17), some (.int x18), some (.int x21), none]) ⟨rfl, ⟨rfl, ⟨rfl, ⟨rfl, ⟨rfl, trivial⟩⟩⟩⟩⟩ ?_
                  exact hj32 ()
        · refine ph_aload_n (i := 0) (pc := 160) dX9_askOf_160 rfl rfl ?_
          refine ph_getR (j := 68) (pc := 161) dX9_askOf_161 ph_fl_RX9_58 rfl rfl rfl ?_
          refine ph_bipush (v := (nI 9)) (pc := 164) dX9_askOf_164 ph_bp_9 ?_
          refine ph_iload (i := 5) (pc := 166) dX9_askOf_166 rfl ?_
          refine ph_imul (pc := 168) dX9_askOf_168 ?_
          refine ph_iload (i := 7) (pc := 169) dX9_askOf_169 rfl ?_
          refine ph_iadd (pc := 171) dX9_askOf_171 ?_
          refine ph_iald (pc := 172) dX9_askOf_172 rfl rfl (fun v35 => ?_)
          refine ph_iload (i := 6) (pc := 173) dX9_askOf_173 rfl ?_
          refine ph_join (α := Int32) 196 (fun x => [some (.ref (ph_a Z 51)), none, none, some (.int x16), some (.int x17), some (.int x18), none, some (.int x22)]) (fun x => [.int x]) (fun x => h14) (fun x => ?_) (fun j36 hj36 => ?_)
          · revert x; intro x37
            refine ph_istore (i := 6) (ls1 := [some (.ref (ph_a Z 51)), none, none, some (.int x16), some (.int x17), some (.int x18), some (.int x37), some (.int x22)]) (pc := 196) dX9_askOf_196 (by decide) rfl ?_
            refine ph_iinc (i := 7) (v := (nI 1)) (ls1 := [some (.ref (ph_a Z 51)), none, none, some (.int x16), some (.int x17), some (.int x18), some (.int x37), some (.int (x22 + (nI 1)))]) (pc := 198) dX9_askOf_198 rfl ph_ic_1 (by decide) rfl ?_
            refine ph_goto (tgt := 153) (pc := 201) dX9_askOf_201 (by decide) ?_
            exact hj20 (x37, x22 + (nI 1))
          · refine ph_icmp_le (tgt := 194) (pc := 175) dX9_askOf_175 (by decide) (fun c38 => ?_) (fun c38 => ?_)
            · refine ph_iload (i := 6) (pc := 194) dX9_askOf_194 rfl ?_
              refine ph_wk (ls1 := [some (.ref (ph_a Z 51)), none, none, some (.int x16), some (.int x17), some (.int x18), none, some (.int x22)]) ⟨rfl, ⟨rfl, ⟨rfl, ⟨rfl, ⟨rfl, trivial⟩⟩⟩⟩⟩ ?_
              exact hj36 x21
            · refine ph_aload_n (i := 0) (pc := 178) dX9_askOf_178 rfl rfl ?_
              refine ph_getR (j := 68) (pc := 179) dX9_askOf_179 ph_fl_RX9_58 rfl rfl rfl ?_
              refine ph_bipush (v := (nI 9)) (pc := 182) dX9_askOf_182 ph_bp_9 ?_
              refine ph_iload (i := 5) (pc := 184) dX9_askOf_184 rfl ?_
              refine ph_imul (pc := 186) dX9_askOf_186 ?_
              refine ph_iload (i := 7) (pc := 187) dX9_askOf_187 rfl ?_
              refine ph_iadd (pc := 189) dX9_askOf_189 ?_
              refine ph_iald (pc := 190) dX9_askOf_190 rfl rfl (fun v39 => ?_)
              refine ph_goto (tgt := 196) (pc := 191) dX9_askOf_191 (by decide) ?_
              refine ph_wk (ls1 := [some (.ref (ph_a Z 51)), none, none, some (.int x16), some (.int x17), some (.int x18), none, some (.int x22)]) ⟨rfl, ⟨rfl, ⟨rfl, ⟨rfl, ⟨rfl, trivial⟩⟩⟩⟩⟩ ?_
              exact hj36 v39
    · refine ph_iload_n (i := 2) (pc := 36) dX9_askOf_36 rfl rfl ?_
      refine ph_iload_n (i := 3) (pc := 37) dX9_askOf_37 rfl rfl ?_
      refine ph_callSi (pc := 38) dX9_askOf_38 ph_mf_yX9_isIn ph_ml_RX9_174 ph_ms_yX9_isIn (c_X9_isIn Z (d - 1) (by omega) v3 x10 h11) (by omega) rfl rfl (Nat.le_of_ble_eq_true rfl) (fun v40 h41 => ?_)
      refine ph_join (α := ph_Hp) 119 (fun x => [some (.ref (ph_a Z 51)), some (.int x1), some (.int v3), some (.int x10), none, none, none, none]) (fun x => []) (fun x => x) (fun x => ?_) (fun j42 hj42 => ?_)
      · revert x; intro h43
        refine ph_iinc (i := 3) (v := (nI 1)) (ls1 := [some (.ref (ph_a Z 51)), some (.int x1), some (.int v3), some (.int (x10 + (nI 1))), none, none, none, none]) (pc := 119) dX9_askOf_119 rfl ph_ic_1 (by decide) rfl ?_
        refine ph_goto (tgt := 30) (pc := 122) dX9_askOf_122 (by decide) ?_
        exact hj9 (x10 + (nI 1), h43)
      · refine ph_if_eq (tgt := 119) (pc := 41) dX9_askOf_41 (by decide) (fun c44 => ?_) (fun c44 => ?_)
        · exact hj42 h41
        · refine ph_aload_n (i := 0) (pc := 44) dX9_askOf_44 rfl rfl ?_
          refine ph_getR (j := 63) (pc := 45) dX9_askOf_45 ph_fl_RX9_43 rfl rfl rfl ?_
          refine ph_iload_n (i := 3) (pc := 48) dX9_askOf_48 rfl rfl ?_
          refine ph_iald (pc := 49) dX9_askOf_49 rfl rfl (fun v45 => ?_)
          refine ph_istore (i := 4) (ls1 := [some (.ref (ph_a Z 51)), some (.int x1), some (.int v3), some (.int x10), some (.int v45), none, none, none]) (pc := 50) dX9_askOf_50 (by decide) rfl ?_
          refine ph_aload_n (i := 0) (pc := 52) dX9_askOf_52 rfl rfl ?_
          refine ph_getR (j := 63) (pc := 53) dX9_askOf_53 ph_fl_RX9_43 rfl rfl rfl ?_
          refine ph_iload_n (i := 3) (pc := 56) dX9_askOf_56 rfl rfl ?_
          refine ph_dup2 (pc := 57) dX9_askOf_57 rfl rfl ?_
          refine ph_iald (pc := 58) dX9_askOf_58 rfl rfl (fun v46 => ?_)
          refine ph_iconst (v := (nI 1)) (pc := 59) dX9_askOf_59 ph_ic_1 ?_
          refine ph_iload_n (i := 1) (pc := 60) dX9_askOf_60 rfl rfl ?_
          refine ph_ishl (pc := 61) dX9_askOf_61 ?_
          refine ph_ior (pc := 62) dX9_askOf_62 ?_
          refine ph_iast (pc := 63) dX9_askOf_63 rfl rfl (fun h47 => ?_)
          refine ph_aload_n (i := 0) (pc := 64) dX9_askOf_64 rfl rfl ?_
          refine ph_iconst (v := (nI 0)) (pc := 65) dX9_askOf_65 ph_ic_0 ?_
          refine ph_bipush (v := (nI 39)) (pc := 66) dX9_askOf_66 ph_bp_39 ?_
          refine ph_callVv (pc := 68) dX9_askOf_68 ph_mf_yX9_lives ph_ml_RX9_191 ph_mi_yX9_lives ph_mv_yX9_lives rfl rfl (c_X9_lives Z (d - 1) (by omega) (nI 0) (nI 39) h47) (by omega) rfl rfl (Nat.le_of_ble_eq_true rfl) (fun v48 h49 => ?_)
          refine ph_aload_n (i := 0) (pc := 71) dX9_askOf_71 rfl rfl ?_
          refine ph_getR (j := 63) (pc := 72) dX9_askOf_72 ph_fl_RX9_43 rfl rfl rfl ?_
          refine ph_iload_n (i := 3) (pc := 75) dX9_askOf_75 rfl rfl ?_
          refine ph_iload (i := 4) (pc := 76) dX9_askOf_76 rfl ?_
          refine ph_iast (pc := 78) dX9_askOf_78 rfl rfl (fun h50 => ?_)
          refine ph_iconst (v := (nI 0)) (pc := 79) dX9_askOf_79 ph_ic_0 ?_
          refine ph_istore (i := 5) (ls1 := [some (.ref (ph_a Z 51)), some (.int x1), some (.int v3), some (.int x10), some (.int v45), some (.int (nI 0)), none, none]) (pc := 80) dX9_askOf_80 (by decide) rfl ?_
          refine ph_wk (ls1 := [some (.ref (ph_a Z 51)), some (.int x1), some (.int v3), some (.int x10), none, some (.int (nI 0)), none, none]) ⟨rfl, ⟨rfl, ⟨rfl, ⟨rfl, ⟨rfl, trivial⟩⟩⟩⟩⟩ ?_
          refine ph_loop (α := Int32 × ph_Hp) 82 (fun x => [some (.ref (ph_a Z 51)), some (.int x1), some (.int v3), some (.int x10), none, some (.int x.1), none, none]) (fun x => []) (fun x => x.2) (fun j51 hj51 x => ?_) ph_fu ((nI 0), h50)
          obtain ⟨x52, h53⟩ := x
          dsimp only
          refine ph_iload (i := 5) (pc := 82) dX9_askOf_82 rfl ?_
          refine ph_bipush (v := (nI 40)) (pc := 84) dX9_askOf_84 ph_bp_40 ?_
          refine ph_icmp_ge (tgt := 119) (pc := 86) dX9_askOf_86 (by decide) (fun c54 => ?_) (fun c54 => ?_)
          · refine ph_wk (ls1 := [some (.ref (ph_a Z 51)), some (.int x1), some (.int v3), some (.int x10), none, none, none, none]) ⟨rfl, ⟨rfl, ⟨rfl, ⟨rfl, trivial⟩⟩⟩⟩ ?_
            exact hj42 h53
          · refine ph_aload_n (i := 0) (pc := 89) dX9_askOf_89 rfl rfl ?_
            refine ph_getR (j := 68) (pc := 90) dX9_askOf_90 ph_fl_RX9_58 rfl rfl rfl ?_
            refine ph_bipush (v := (nI 9)) (pc := 93) dX9_askOf_93 ph_bp_9 ?_
            refine ph_iload (i := 5) (pc := 95) dX9_askOf_95 rfl ?_
            refine ph_imul (pc := 97) dX9_askOf_97 ?_
            refine ph_aload_n (i := 0) (pc := 98) dX9_askOf_98 rfl rfl ?_
            refine ph_getR (j := 65) (pc := 99) dX9_askOf_99 ph_fl_RX9_49 rfl rfl rfl ?_
            refine ph_iload (i := 5) (pc := 102) dX9_askOf_102 rfl ?_
            refine ph_iald (pc := 104) dX9_askOf_104 rfl rfl (fun v55 => ?_)
            refine ph_iadd (pc := 105) dX9_askOf_105 ?_
            refine ph_iconst (v := (nI 1)) (pc := 106) dX9_askOf_106 ph_ic_1 ?_
            refine ph_iadd (pc := 107) dX9_askOf_107 ?_
            refine ph_dup2 (pc := 108) dX9_askOf_108 rfl rfl ?_
            refine ph_iald (pc := 109) dX9_askOf_109 rfl rfl (fun v56 => ?_)
            refine ph_iconst (v := (nI 1)) (pc := 110) dX9_askOf_110 ph_ic_1 ?_
            refine ph_iadd (pc := 111) dX9_askOf_111 ?_
            refine ph_iast (pc := 112) dX9_askOf_112 rfl rfl (fun h57 => ?_)
            refine ph_iinc (i := 5) (v := (nI 1)) (ls1 := [some (.ref (ph_a Z 51)), some (.int x1), some (.int v3), some (.int x10), none, some (.int (x52 + (nI 1))), none, none]) (pc := 113) dX9_askOf_113 rfl ph_ic_1 (by decide) rfl ?_
            refine ph_goto (tgt := 82) (pc := 116) dX9_askOf_116 (by decide) ?_
            exact hj51 (x52 + (nI 1), h57)
  · refine ph_aload_n (i := 0) (pc := 15) dX9_askOf_15 rfl rfl ?_
    refine ph_getR (j := 68) (pc := 16) dX9_askOf_16 ph_fl_RX9_58 rfl rfl rfl ?_
    refine ph_iload_n (i := 3) (pc := 19) dX9_askOf_19 rfl rfl ?_
    refine ph_iconst (v := (nI 0)) (pc := 20) dX9_askOf_20 ph_ic_0 ?_
    refine ph_iast (pc := 21) dX9_askOf_21 rfl rfl (fun h58 => ?_)
    refine ph_iinc (i := 3) (v := (nI 1)) (ls1 := [some (.ref (ph_a Z 51)), some (.int x1), some (.int v3), some (.int (x6 + (nI 1))), none, none, none, none]) (pc := 22) dX9_askOf_22 rfl ph_ic_1 (by decide) rfl ?_
    refine ph_goto (tgt := 8) (pc := 25) dX9_askOf_25 (by decide) ?_
    exact hj5 (x6 + (nI 1), h58)
def f_X9_ask (x1 : Int32) (h : ph_Hp) : Option (Int32 × ph_Hp) :=
  ph_cl (f_X9_find h) fun _ h4 =>
  ph_cl (f_X9_isHole x1 h4) fun v5 h6 =>
  if v5 = nI 0 then
    some ((-2), h6)
  else
    ph_cl (f_X9_askOf x1 h6) fun v8 h9 =>
    some (v8, h9)
set_option maxRecDepth 100000 in
theorem c_X9_ask (Z : ph_L) (d : Nat) (hdd : 8 ≤ d) (x1 : Int32) (h : ph_Hp) : ph_CM Z yX9_ask cX9_ask 2 (some .int) d [.ref (ph_a Z 51), .int x1] ph_vi h (f_X9_ask x1 h) := by
  refine ph_begin (own := RX9) ph_mf_yX9_ask rfl (ls := [some (.ref (ph_a Z 51)), some (.int x1)]) rfl (Nat.le_of_ble_eq_true rfl) ?_
  unfold f_X9_ask
  refine ph_aload_n (i := 0) (pc := 0) dX9_ask_0 rfl rfl ?_
  refine ph_callVv (pc := 1) dX9_ask_1 ph_mf_yX9_find ph_ml_RX9_198 ph_mi_yX9_find ph_mv_yX9_find rfl rfl (c_X9_find Z (d - 1) (by omega) h) (by omega) rfl rfl (Nat.le_of_ble_eq_true rfl) (fun v3 h4 => ?_)
  refine ph_aload_n (i := 0) (pc := 4) dX9_ask_4 rfl rfl ?_
  refine ph_iload_n (i := 1) (pc := 5) dX9_ask_5 rfl rfl ?_
  refine ph_callVi (pc := 6) dX9_ask_6 ph_mf_yX9_isHole ph_ml_RX9_135 ph_mi_yX9_isHole ph_mv_yX9_isHole rfl rfl (c_X9_isHole Z (d - 1) (by omega) x1 h4) (by omega) rfl rfl (Nat.le_of_ble_eq_true rfl) (fun v5 h6 => ?_)
  refine ph_if_eq (tgt := 20) (pc := 9) dX9_ask_9 (by decide) (fun c7 => ?_) (fun c7 => ?_)
  · refine ph_bipush (v := (-2)) (pc := 20) dX9_ask_20 ph_bp_m2 ?_
    exact ph_iret (pc := 22) dX9_ask_22 rfl
  · refine ph_aload_n (i := 0) (pc := 12) dX9_ask_12 rfl rfl ?_
    refine ph_iload_n (i := 1) (pc := 13) dX9_ask_13 rfl rfl ?_
    refine ph_callVi (pc := 14) dX9_ask_14 ph_mf_yX9_askOf ph_ml_RX9_236 ph_mi_yX9_askOf ph_mv_yX9_askOf rfl rfl (c_X9_askOf Z (d - 1) (by omega) x1 h6) (by omega) rfl rfl (Nat.le_of_ble_eq_true rfl) (fun v8 h9 => ?_)
    refine ph_goto (tgt := 22) (pc := 17) dX9_ask_17 (by decide) ?_
    exact ph_iret (pc := 22) dX9_ask_22 rfl
def f_X9_slipsOf (x1 : Int32) (x2 : Int32) (x3 : Int32) (x4 : Int32) (x5 : Int32) (h : ph_Hp) : Option (Int64 × ph_Hp) :=
  ph_lp (α := Int64 × Int32) (fun j7 (x8, x9) =>
    if x4 ≤ x9 then
      ph_lp (α := Int64 × Int32 × ph_Hp) (fun j11 (x12, x13, h14) =>
        if (ph_shl (nI 1) x4) ≤ x13 then
          ph_cl (f_X9_find h14) fun _ h17 =>
          ph_cl (f_X9_part x12 x8 x5 h17) fun v18 h19 =>
          some (v18, h19)
        else
          ph_lp (α := Int64 × Int32 × ph_Hp) (fun j20 (x21, x22, h23) =>
            if x4 < x22 then
              ph_cl (f_X9_lives (nI 0) x4 h23) fun _ h26 =>
              ph_ldI h26 65 40 x4 fun v27 =>
              ph_jn (α := Int64) (fun x29 =>
                j11 (x12 + x29, x13 + (nI 1), h26)) (fun j28 =>
                if v27 = x3 then
                  j28 x21
                else
                  j28 (lN 0))
            else
              ph_cl (f_X9_isIn x13 (x22 - (nI 1)) h23) fun v31 h32 =>
              ph_jn (α := Int64) (fun x34 =>
                ph_ldI h32 63 40 x22 fun v35 =>
                ph_jn (α := Int32) (fun x37 =>
                  ph_stI h32 63 40 x22 ((v35 &&& ((ph_shl (nI 1) x2) ^^^ (-1))) ||| x37) fun h38 =>
                  j20 (x21 * x34, x22 + (nI 1), h38)) (fun j36 =>
                  if v31 = nI 0 then
                    j36 (nI 0)
                  else
                    j36 (ph_shl (nI 1) x2))) (fun j33 =>
                if v31 = nI 0 then
                  j33 (((nI 16) - x1).toInt64)
                else
                  j33 x1.toInt64)) ph_fu ((lN 1), (nI 1), h14)) ph_fu ((lN 0), (nI 0), h)
    else
      j7 (x8 * (lN 16), x9 + (nI 1))) ph_fu ((lN 1), (nI 0))
set_option maxRecDepth 100000 in
theorem c_X9_slipsOf (Z : ph_L) (d : Nat) (hdd : 7 ≤ d) (x1 : Int32) (x2 : Int32) (x3 : Int32) (x4 : Int32) (x5 : Int32) (h : ph_Hp) : ph_CM Z yX9_slipsOf cX9_slipsOf 15 (some .long) d [.ref (ph_a Z 51), .int x1, .int x2, .int x3, .int x4, .int x5] ph_vl h (f_X9_slipsOf x1 x2 x3 x4 x5 h) := by
  refine ph_begin (own := RX9) ph_mf_yX9_slipsOf rfl (ls := [some (.ref (ph_a Z 51)), some (.int x1), some (.int x2), some (.int x3), some (.int x4), some (.int x5), none, none, none, none, none, none, none, none, none]) rfl (Nat.le_of_ble_eq_true rfl) ?_
  unfold f_X9_slipsOf
  refine ph_lconst (v := (lN 0)) (pc := 0) dX9_slipsOf_0 rfl ?_
  refine ph_lstore (i := 6) (ls1 := [some (.ref (ph_a Z 51)), some (.int x1), some (.int x2), some (.int x3), some (.int x4), some (.int x5), some (.long (lN 0)), none, none, none, none, none, none, none, none]) (pc := 1) dX9_slipsOf_1 (by decide) rfl ?_
  refine ph_lconst (v := (lN 1)) (pc := 3) dX9_slipsOf_3 rfl ?_
  refine ph_lstore (i := 8) (ls1 := [some (.ref (ph_a Z 51)), some (.int x1), some (.int x2), some (.int x3), some (.int x4), some (.int x5), some (.long (lN 0)), none, some (.long (lN 1)), none, none, none, none, none, none]) (pc := 4) dX9_slipsOf_4 (by decide) rfl ?_
  refine ph_iconst (v := (nI 0)) (pc := 6) dX9_slipsOf_6 ph_ic_0 ?_
  refine ph_istore (i := 10) (ls1 := [some (.ref (ph_a Z 51)), some (.int x1), some (.int x2), some (.int x3), some (.int x4), some (.int x5), some (.long (lN 0)), none, some (.long (lN 1)), none, some (.int (nI 0)), none, none, none, none]) (pc := 7) dX9_slipsOf_7 (by decide) rfl ?_
  refine ph_loop (α := Int64 × Int32) 9 (fun x => [some (.ref (ph_a Z 51)), some (.int x1), some (.int x2), some (.int x3), some (.int x4), some (.int x5), some (.long (lN 0)), none, some (.long x.1), none, some (.int x.2), none, none, none, none]) (fun x => []) (fun x => h) (fun j7 hj7 x => ?_) ph_fu ((lN 1), (nI 0))
  obtain ⟨x8, x9⟩ := x
  dsimp only
  refine ph_iload (i := 10) (pc := 9) dX9_slipsOf_9 rfl ?_
  refine ph_iload (i := 4) (pc := 11) dX9_slipsOf_11 rfl ?_
  refine ph_icmp_ge (tgt := 30) (pc := 13) dX9_slipsOf_13 (by decide) (fun c10 => ?_) (fun c10 => ?_)
  · refine ph_iconst (v := (nI 0)) (pc := 30) dX9_slipsOf_30 ph_ic_0 ?_
    refine ph_istore (i := 10) (ls1 := [some (.ref (ph_a Z 51)), some (.int x1), some (.int x2), some (.int x3), some (.int x4), some (.int x5), some (.long (lN 0)), none, some (.long x8), none, some (.int (nI 0)), none, none, none, none]) (pc := 31) dX9_slipsOf_31 (by decide) rfl ?_
    refine ph_loop (α := Int64 × Int32 × ph_Hp) 33 (fun x => [some (.ref (ph_a Z 51)), some (.int x1), some (.int x2), some (.int x3), some (.int x4), some (.int x5), some (.long x.1), none, some (.long x8), none, some (.int x.2.1), none, none, none, none]) (fun x => []) (fun x => x.2.2) (fun j11 hj11 x => ?_) ph_fu ((lN 0), (nI 0), h)
    obtain ⟨x12, x13, h14⟩ := x
    dsimp only
    refine ph_iload (i := 10) (pc := 33) dX9_slipsOf_33 rfl ?_
    refine ph_iconst (v := (nI 1)) (pc := 35) dX9_slipsOf_35 ph_ic_1 ?_
    refine ph_iload (i := 4) (pc := 36) dX9_slipsOf_36 rfl ?_
    refine ph_ishl (pc := 38) dX9_slipsOf_38 ?_
    refine ph_icmp_ge (tgt := 160) (pc := 39) dX9_slipsOf_39 (by decide) (fun c15 => ?_) (fun c15 => ?_)
    · refine ph_aload_n (i := 0) (pc := 160) dX9_slipsOf_160 rfl rfl ?_
      refine ph_callVv (pc := 161) dX9_slipsOf_161 ph_mf_yX9_find ph_ml_RX9_198 ph_mi_yX9_find ph_mv_yX9_find rfl rfl (c_X9_find Z (d - 1) (by omega) h14) (by omega) rfl rfl (Nat.le_of_ble_eq_true rfl) (fun v16 h17 => ?_)
      refine ph_lload (i := 6) (pc := 164) dX9_slipsOf_164 rfl ?_
      refine ph_lload (i := 8) (pc := 166) dX9_slipsOf_166 rfl ?_
      refine ph_iload (i := 5) (pc := 168) dX9_slipsOf_168 rfl ?_
      refine ph_callSl (pc := 170) dX9_slipsOf_170 ph_mf_yX9_part ph_ml_RX9_241 ph_ms_yX9_part (c_X9_part Z (d - 1) (by omega) x12 x8 x5 h17) (by omega) rfl rfl (Nat.le_of_ble_eq_true rfl) (fun v18 h19 => ?_)
      exact ph_lret (pc := 173) dX9_slipsOf_173 rfl
    · refine ph_lconst (v := (lN 1)) (pc := 42) dX9_slipsOf_42 rfl ?_
      refine ph_lstore (i := 11) (ls1 := [some (.ref (ph_a Z 51)), some (.int x1), some (.int x2), some (.int x3), some (.int x4), some (.int x5), some (.long x12), none, some (.long x8), none, some (.int x13), some (.long (lN 1)), none, none, none]) (pc := 43) dX9_slipsOf_43 (by decide) rfl ?_
      refine ph_iconst (v := (nI 1)) (pc := 45) dX9_slipsOf_45 ph_ic_1 ?_
      refine ph_istore (i := 13) (ls1 := [some (.ref (ph_a Z 51)), some (.int x1), some (.int x2), some (.int x3), some (.int x4), some (.int x5), some (.long x12), none, some (.long x8), none, some (.int x13), some (.long (lN 1)), none, some (.int (nI 1)), none]) (pc := 46) dX9_slipsOf_46 (by decide) rfl ?_
      refine ph_loop (α := Int64 × Int32 × ph_Hp) 48 (fun x => [some (.ref (ph_a Z 51)), some (.int x1), some (.int x2), some (.int x3), some (.int x4), some (.int x5), some (.long x12), none, some (.long x8), none, some (.int x13), some (.long x.1), none, some (.int x.2.1), none]) (fun x => []) (fun x => x.2.2) (fun j20 hj20 x => ?_) ph_fu ((lN 1), (nI 1), h14)
      obtain ⟨x21, x22, h23⟩ := x
      dsimp only
      refine ph_iload (i := 13) (pc := 48) dX9_slipsOf_48 rfl ?_
      refine ph_iload (i := 4) (pc := 50) dX9_slipsOf_50 rfl ?_
      refine ph_icmp_gt (tgt := 125) (pc := 52) dX9_slipsOf_52 (by decide) (fun c24 => ?_) (fun c24 => ?_)
      · refine ph_aload_n (i := 0) (pc := 125) dX9_slipsOf_125 rfl rfl ?_
        refine ph_iconst (v := (nI 0)) (pc := 126) dX9_slipsOf_126 ph_ic_0 ?_
        refine ph_iload (i := 4) (pc := 127) dX9_slipsOf_127 rfl ?_
        refine ph_callVv (pc := 129) dX9_slipsOf_129 ph_mf_yX9_lives ph_ml_RX9_191 ph_mi_yX9_lives ph_mv_yX9_lives rfl rfl (c_X9_lives Z (d - 1) (by omega) (nI 0) x4 h23) (by omega) rfl rfl (Nat.le_of_ble_eq_true rfl) (fun v25 h26 => ?_)
        refine ph_lload (i := 6) (pc := 132) dX9_slipsOf_132 rfl ?_
        refine ph_aload_n (i := 0) (pc := 134) dX9_slipsOf_134 rfl rfl ?_
        refine ph_getR (j := 65) (pc := 135) dX9_slipsOf_135 ph_fl_RX9_49 rfl rfl rfl ?_
        refine ph_iload (i := 4) (pc := 138) dX9_slipsOf_138 rfl ?_
        refine ph_iald (pc := 140) dX9_slipsOf_140 rfl rfl (fun v27 => ?_)
        refine ph_iload_n (i := 3) (pc := 141) dX9_slipsOf_141 rfl rfl ?_
        refine ph_join (α := Int64) 151 (fun x => [some (.ref (ph_a Z 51)), some (.int x1), some (.int x2), some (.int x3), some (.int x4), some (.int x5), none, none, some (.long x8), none, some (.int x13), none, none, none, none]) (fun x => [.long x, .long x12]) (fun x => h26) (fun x => ?_) (fun j28 hj28 => ?_)
        · revert x; intro x29
          refine ph_ladd (pc := 151) dX9_slipsOf_151 ?_
          refine ph_lstore (i := 6) (ls1 := [some (.ref (ph_a Z 51)), some (.int x1), some (.int x2), some (.int x3), some (.int x4), some (.int x5), some (.long (x12 + x29)), none, some (.long x8), none, some (.int x13), none, none, none, none]) (pc := 152) dX9_slipsOf_152 (by decide) rfl ?_
          refine ph_iinc (i := 10) (v := (nI 1)) (ls1 := [some (.ref (ph_a Z 51)), some (.int x1), some (.int x2), some (.int x3), some (.int x4), some (.int x5), some (.long (x12 + x29)), none, some (.long x8), none, some (.int (x13 + (nI 1))), none, none, none, none]) (pc := 154) dX9_slipsOf_154 rfl ph_ic_1 (by decide) rfl ?_
          refine ph_goto (tgt := 33) (pc := 157) dX9_slipsOf_157 (by decide) ?_
          exact hj11 (x12 + x29, x13 + (nI 1), h26)
        · refine ph_icmp_ne (tgt := 150) (pc := 142) dX9_slipsOf_142 (by decide) (fun c30 => ?_) (fun c30 => ?_)
          · refine ph_lconst (v := (lN 0)) (pc := 150) dX9_slipsOf_150 rfl ?_
            refine ph_wk (ls1 := [some (.ref (ph_a Z 51)), some (.int x1), some (.int x2), some (.int x3), some (.int x4), some (.int x5), none, none, some (.long x8), none, some (.int x13), none, none, none, none]) ⟨rfl, ⟨rfl, ⟨rfl, ⟨rfl, ⟨rfl, ⟨rfl, ⟨rfl, ⟨rfl, trivial⟩⟩⟩⟩⟩⟩⟩⟩ ?_
            exact hj28 (lN 0)
          · refine ph_lload (i := 11) (pc := 145) dX9_slipsOf_145 rfl ?_
            refine ph_goto (tgt := 151) (pc := 147) dX9_slipsOf_147 (by decide) ?_
            refine ph_wk (ls1 := [some (.ref (ph_a Z 51)), some (.int x1), some (.int x2), some (.int x3), some (.int x4), some (.int x5), none, none, some (.long x8), none, some (.int x13), none, none, none, none]) ⟨rfl, ⟨rfl, ⟨rfl, ⟨rfl, ⟨rfl, ⟨rfl, ⟨rfl, ⟨rfl, trivial⟩⟩⟩⟩⟩⟩⟩⟩ ?_
            exact hj28 x21
      · refine ph_iload (i := 10) (pc := 55) dX9_slipsOf_55 rfl ?_
        refine ph_iload (i := 13) (pc := 57) dX9_slipsOf_57 rfl ?_
        refine ph_iconst (v := (nI 1)) (pc := 59) dX9_slipsOf_59 ph_ic_1 ?_
        refine ph_isub (pc := 60) dX9_slipsOf_60 ?_
        refine ph_callSi (pc := 61) dX9_slipsOf_61 ph_mf_yX9_isIn ph_ml_RX9_174 ph_ms_yX9_isIn (c_X9_isIn Z (d - 1) (by omega) x13 (x22 - (nI 1)) h23) (by omega) rfl rfl (Nat.le_of_ble_eq_true rfl) (fun v31 h32 => ?_)
        refine ph_istore (i := 14) (ls1 := [some (.ref (ph_a Z 51)), some (.int x1), some (.int x2), some (.int x3), some (.int x4), some (.int x5), some (.long x12), none, some (.long x8), none, some (.int x13), some (.long x21), none, some (.int x22), some (.int v31)]) (pc := 64) dX9_slipsOf_64 (by decide) rfl ?_
        refine ph_lload (i := 11) (pc := 66) dX9_slipsOf_66 rfl ?_
        refine ph_iload (i := 14) (pc := 68) dX9_slipsOf_68 rfl ?_
        refine ph_join (α := Int64) 83 (fun x => [some (.ref (ph_a Z 51)), some (.int x1), some (.int x2), some (.int x3), some (.int x4), some (.int x5), some (.long x12), none, some (.long x8), none, some (.int x13), none, none, some (.int x22), some (.int v31)]) (fun x => [.long x, .long x21]) (fun x => h32) (fun x => ?_) (fun j33 hj33 => ?_)
        · revert x; intro x34
          refine ph_lmul (pc := 83) dX9_slipsOf_83 ?_
          refine ph_lstore (i := 11) (ls1 := [some (.ref (ph_a Z 51)), some (.int x1), some (.int x2), some (.int x3), some (.int x4), some (.int x5), some (.long x12), none, some (.long x8), none, some (.int x13), some (.long (x21 * x34)), none, some (.int x22), some (.int v31)]) (pc := 84) dX9_slipsOf_84 (by decide) rfl ?_
          refine ph_aload_n (i := 0) (pc := 86) dX9_slipsOf_86 rfl rfl ?_
          refine ph_getR (j := 63) (pc := 87) dX9_slipsOf_87 ph_fl_RX9_43 rfl rfl rfl ?_
          refine ph_iload (i := 13) (pc := 90) dX9_slipsOf_90 rfl ?_
          refine ph_aload_n (i := 0) (pc := 92) dX9_slipsOf_92 rfl rfl ?_
          refine ph_getR (j := 63) (pc := 93) dX9_slipsOf_93 ph_fl_RX9_43 rfl rfl rfl ?_
          refine ph_iload (i := 13) (pc := 96) dX9_slipsOf_96 rfl ?_
          refine ph_iald (pc := 98) dX9_slipsOf_98 rfl rfl (fun v35 => ?_)
          refine ph_iconst (v := (nI 1)) (pc := 99) dX9_slipsOf_99 ph_ic_1 ?_
          refine ph_iload_n (i := 2) (pc := 100) dX9_slipsOf_100 rfl rfl ?_
          refine ph_ishl (pc := 101) dX9_slipsOf_101 ?_
          refine ph_iconst (v := (-1)) (pc := 102) dX9_slipsOf_102 ph_ic_m1 ?_
          refine ph_ixor (pc := 103) dX9_slipsOf_103 ?_
          refine ph_iand (pc := 104) dX9_slipsOf_104 ?_
          refine ph_iload (i := 14) (pc := 105) dX9_slipsOf_105 rfl ?_
          refine ph_join (α := Int32) 117 (fun x => [some (.ref (ph_a Z 51)), some (.int x1), some (.int x2), some (.int x3), some (.int x4), some (.int x5), some (.long x12), none, some (.long x8), none, some (.int x13), some (.long (x21 * x34)), none, some (.int x22), none]) (fun x => [.int x, .int (v35 &&& ((ph_shl (nI 1) x2) ^^^ (-1))), .int x22, .ref (ph_a Z 63)]) (fun x => h32) (fun x => ?_) (fun j36 hj36 => ?_)
          · revert x; intro x37
            refine ph_ior (pc := 117) dX9_slipsOf_117 ?_
            refine ph_iast (pc := 118) dX9_slipsOf_118 rfl rfl (fun h38 => ?_)
            refine ph_iinc (i := 13) (v := (nI 1)) (ls1 := [some (.ref (ph_a Z 51)), some (.int x1), some (.int x2), some (.int x3), some (.int x4), some (.int x5), some (.long x12), none, some (.long x8), none, some (.int x13), some (.long (x21 * x34)), none, some (.int (x22 + (nI 1))), none]) (pc := 119) dX9_slipsOf_119 rfl ph_ic_1 (by decide) rfl ?_
            refine ph_goto (tgt := 48) (pc := 122) dX9_slipsOf_122 (by decide) ?_
            exact hj20 (x21 * x34, x22 + (nI 1), h38)
          · refine ph_if_eq (tgt := 116) (pc := 107) dX9_slipsOf_107 (by decide) (fun c39 => ?_) (fun c39 => ?_)
            · refine ph_iconst (v := (nI 0)) (pc := 116) dX9_slipsOf_116 ph_ic_0 ?_
              refine ph_wk (ls1 := [some (.ref (ph_a Z 51)), some (.int x1), some (.int x2), some (.int x3), some (.int x4), some (.int x5), some (.long x12), none, some (.long x8), none, some (.int x13), some (.long (x21 * x34)), none, some (.int x22), none]) ⟨rfl, ⟨rfl, ⟨rfl, ⟨rfl, ⟨rfl, ⟨rfl, ⟨rfl, ⟨rfl, ⟨rfl, ⟨rfl, ⟨rfl, trivial⟩⟩⟩⟩⟩⟩⟩⟩⟩⟩⟩ ?_
              exact hj36 (nI 0)
            · refine ph_iconst (v := (nI 1)) (pc := 110) dX9_slipsOf_110 ph_ic_1 ?_
              refine ph_iload_n (i := 2) (pc := 111) dX9_slipsOf_111 rfl rfl ?_
              refine ph_ishl (pc := 112) dX9_slipsOf_112 ?_
              refine ph_goto (tgt := 117) (pc := 113) dX9_slipsOf_113 (by decide) ?_
              refine ph_wk (ls1 := [some (.ref (ph_a Z 51)), some (.int x1), some (.int x2), some (.int x3), some (.int x4), some (.int x5), some (.long x12), none, some (.long x8), none, some (.int x13), some (.long (x21 * x34)), none, some (.int x22), none]) ⟨rfl, ⟨rfl, ⟨rfl, ⟨rfl, ⟨rfl, ⟨rfl, ⟨rfl, ⟨rfl, ⟨rfl, ⟨rfl, ⟨rfl, trivial⟩⟩⟩⟩⟩⟩⟩⟩⟩⟩⟩ ?_
              exact hj36 (ph_shl (nI 1) x2)
        · refine ph_if_eq (tgt := 78) (pc := 70) dX9_slipsOf_70 (by decide) (fun c40 => ?_) (fun c40 => ?_)
          · refine ph_bipush (v := (nI 16)) (pc := 78) dX9_slipsOf_78 ph_bp_16 ?_
            refine ph_iload_n (i := 1) (pc := 80) dX9_slipsOf_80 rfl rfl ?_
            refine ph_isub (pc := 81) dX9_slipsOf_81 ?_
            refine ph_i2l (pc := 82) dX9_slipsOf_82 ?_
            refine ph_wk (ls1 := [some (.ref (ph_a Z 51)), some (.int x1), some (.int x2), some (.int x3), some (.int x4), some (.int x5), some (.long x12), none, some (.long x8), none, some (.int x13), none, none, some (.int x22), some (.int v31)]) ⟨rfl, ⟨rfl, ⟨rfl, ⟨rfl, ⟨rfl, ⟨rfl, ⟨rfl, ⟨rfl, ⟨rfl, ⟨rfl, ⟨rfl, trivial⟩⟩⟩⟩⟩⟩⟩⟩⟩⟩⟩ ?_
            exact hj33 (((nI 16) - x1).toInt64)
          · refine ph_iload_n (i := 1) (pc := 73) dX9_slipsOf_73 rfl rfl ?_
            refine ph_i2l (pc := 74) dX9_slipsOf_74 ?_
            refine ph_goto (tgt := 83) (pc := 75) dX9_slipsOf_75 (by decide) ?_
            refine ph_wk (ls1 := [some (.ref (ph_a Z 51)), some (.int x1), some (.int x2), some (.int x3), some (.int x4), some (.int x5), some (.long x12), none, some (.long x8), none, some (.int x13), none, none, some (.int x22), some (.int v31)]) ⟨rfl, ⟨rfl, ⟨rfl, ⟨rfl, ⟨rfl, ⟨rfl, ⟨rfl, ⟨rfl, ⟨rfl, ⟨rfl, ⟨rfl, trivial⟩⟩⟩⟩⟩⟩⟩⟩⟩⟩⟩ ?_
            exact hj33 x1.toInt64
  · refine ph_lload (i := 8) (pc := 16) dX9_slipsOf_16 rfl ?_
    refine ph_ldc2 (v := (lN 16)) (pc := 18) dX9_slipsOf_18 ph_k_RX9_239 ?_
    refine ph_lmul (pc := 21) dX9_slipsOf_21 ?_
    refine ph_lstore (i := 8) (ls1 := [some (.ref (ph_a Z 51)), some (.int x1), some (.int x2), some (.int x3), some (.int x4), some (.int x5), some (.long (lN 0)), none, some (.long (x8 * (lN 16))), none, some (.int x9), none, none, none, none]) (pc := 22) dX9_slipsOf_22 (by decide) rfl ?_
    refine ph_iinc (i := 10) (v := (nI 1)) (ls1 := [some (.ref (ph_a Z 51)), some (.int x1), some (.int x2), some (.int x3), some (.int x4), some (.int x5), some (.long (lN 0)), none, some (.long (x8 * (lN 16))), none, some (.int (x9 + (nI 1))), none, none, none, none]) (pc := 24) dX9_slipsOf_24 rfl ph_ic_1 (by decide) rfl ?_
    refine ph_goto (tgt := 9) (pc := 27) dX9_slipsOf_27 (by decide) ?_
    exact hj7 (x8 * (lN 16), x9 + (nI 1))
def f_X9_slips (x1 : Int32) (x2 : Int32) (x3 : Int32) (x4 : Int32) (x5 : Int32) (h : ph_Hp) : Option (Int64 × ph_Hp) :=
  ph_cl (f_X9_find h) fun _ h8 =>
  ph_cl (f_X9_in x1.toInt64 (lN 0) (lN 16) h8) fun v9 h10 =>
  ph_jn (α := Int32 × ph_Hp) (fun (x12, h13) =>
    if x12 = nI 0 then
      ph_cl (f_X9_no (-2) h13) fun v15 h16 =>
      some (v15, h16)
    else
      ph_cl (f_X9_slipsOf x1 x2 x3 x4 x5 h13) fun v17 h18 =>
      some (v17, h18)) (fun j11 =>
    ph_jn (α := ph_Hp) (fun h20 =>
      j11 ((nI 0), h20)) (fun j19 =>
      if v9 = nI 0 then
        j19 h10
      else
        ph_cl (f_X9_isHole x2 h10) fun v22 h23 =>
        if v22 = nI 0 then
          j19 h23
        else
          ph_cl (f_X9_isLine x3 h23) fun v25 h26 =>
          if v25 = nI 0 then
            j19 h26
          else
            ph_cl (f_X9_in x4.toInt64 (lN 1) (lN 9) h26) fun v28 h29 =>
            if v28 = nI 0 then
              j19 h29
            else
              ph_cl (f_X9_isTwo x5 h29) fun v31 h32 =>
              if v31 = nI 0 then
                j19 h32
              else
                j11 ((nI 1), h32)))
set_option maxRecDepth 100000 in
theorem c_X9_slips (Z : ph_L) (d : Nat) (hdd : 8 ≤ d) (x1 : Int32) (x2 : Int32) (x3 : Int32) (x4 : Int32) (x5 : Int32) (h : ph_Hp) : ph_CM Z yX9_slips cX9_slips 7 (some .long) d [.ref (ph_a Z 51), .int x1, .int x2, .int x3, .int x4, .int x5] ph_vl h (f_X9_slips x1 x2 x3 x4 x5 h) := by
  refine ph_begin (own := RX9) ph_mf_yX9_slips rfl (ls := [some (.ref (ph_a Z 51)), some (.int x1), some (.int x2), some (.int x3), some (.int x4), some (.int x5), none]) rfl (Nat.le_of_ble_eq_true rfl) ?_
  unfold f_X9_slips
  refine ph_aload_n (i := 0) (pc := 0) dX9_slips_0 rfl rfl ?_
  refine ph_callVv (pc := 1) dX9_slips_1 ph_mf_yX9_find ph_ml_RX9_198 ph_mi_yX9_find ph_mv_yX9_find rfl rfl (c_X9_find Z (d - 1) (by omega) h) (by omega) rfl rfl (Nat.le_of_ble_eq_true rfl) (fun v7 h8 => ?_)
  refine ph_iload_n (i := 1) (pc := 4) dX9_slips_4 rfl rfl ?_
  refine ph_i2l (pc := 5) dX9_slips_5 ?_
  refine ph_lconst (v := (lN 0)) (pc := 6) dX9_slips_6 rfl ?_
  refine ph_ldc2 (v := (lN 16)) (pc := 7) dX9_slips_7 ph_k_RX9_239 ?_
  refine ph_callSi (pc := 10) dX9_slips_10 ph_mf_yX9_in ph_ml_RX9_70 ph_ms_yX9_in (c_X9_in Z (d - 1) (by omega) x1.toInt64 (lN 0) (lN 16) h8) (by omega) rfl rfl (Nat.le_of_ble_eq_true rfl) (fun v9 h10 => ?_)
  refine ph_join (α := Int32 × ph_Hp) 57 (fun x => [some (.ref (ph_a Z 51)), some (.int x1), some (.int x2), some (.int x3), some (.int x4), some (.int x5), none]) (fun x => [.int x.1]) (fun x => x.2) (fun x => ?_) (fun j11 hj11 => ?_)
  · obtain ⟨x12, h13⟩ := x
    dsimp only
    refine ph_istore (i := 6) (ls1 := [some (.ref (ph_a Z 51)), some (.int x1), some (.int x2), some (.int x3), some (.int x4), some (.int x5), some (.int x12)]) (pc := 57) dX9_slips_57 (by decide) rfl ?_
    refine ph_iload (i := 6) (pc := 59) dX9_slips_59 rfl ?_
    refine ph_if_eq (tgt := 78) (pc := 61) dX9_slips_61 (by decide) (fun c14 => ?_) (fun c14 => ?_)
    · refine ph_bipush (v := (-2)) (pc := 78) dX9_slips_78 ph_bp_m2 ?_
      refine ph_callSl (pc := 80) dX9_slips_80 ph_mf_yX9_no ph_ml_RX9_249 ph_ms_yX9_no (c_X9_no Z (d - 1) (by omega) (-2) h13) (by omega) rfl rfl (Nat.le_of_ble_eq_true rfl) (fun v15 h16 => ?_)
      exact ph_lret (pc := 83) dX9_slips_83 rfl
    · refine ph_aload_n (i := 0) (pc := 64) dX9_slips_64 rfl rfl ?_
      refine ph_iload_n (i := 1) (pc := 65) dX9_slips_65 rfl rfl ?_
      refine ph_iload_n (i := 2) (pc := 66) dX9_slips_66 rfl rfl ?_
      refine ph_iload_n (i := 3) (pc := 67) dX9_slips_67 rfl rfl ?_
      refine ph_iload (i := 4) (pc := 68) dX9_slips_68 rfl ?_
      refine ph_iload (i := 5) (pc := 70) dX9_slips_70 rfl ?_
      refine ph_callVl (pc := 72) dX9_slips_72 ph_mf_yX9_slipsOf ph_ml_RX9_245 ph_mi_yX9_slipsOf ph_mv_yX9_slipsOf rfl rfl (c_X9_slipsOf Z (d - 1) (by omega) x1 x2 x3 x4 x5 h13) (by omega) rfl rfl (Nat.le_of_ble_eq_true rfl) (fun v17 h18 => ?_)
      refine ph_goto (tgt := 83) (pc := 75) dX9_slips_75 (by decide) ?_
      exact ph_lret (pc := 83) dX9_slips_83 rfl
  · refine ph_join (α := ph_Hp) 56 (fun x => [some (.ref (ph_a Z 51)), some (.int x1), some (.int x2), some (.int x3), some (.int x4), some (.int x5), none]) (fun x => []) (fun x => x) (fun x => ?_) (fun j19 hj19 => ?_)
    · revert x; intro h20
      refine ph_iconst (v := (nI 0)) (pc := 56) dX9_slips_56 ph_ic_0 ?_
      exact hj11 ((nI 0), h20)
    · refine ph_if_eq (tgt := 56) (pc := 13) dX9_slips_13 (by decide) (fun c21 => ?_) (fun c21 => ?_)
      · exact hj19 h10
      · refine ph_aload_n (i := 0) (pc := 16) dX9_slips_16 rfl rfl ?_
        refine ph_iload_n (i := 2) (pc := 17) dX9_slips_17 rfl rfl ?_
        refine ph_callVi (pc := 18) dX9_slips_18 ph_mf_yX9_isHole ph_ml_RX9_135 ph_mi_yX9_isHole ph_mv_yX9_isHole rfl rfl (c_X9_isHole Z (d - 1) (by omega) x2 h10) (by omega) rfl rfl (Nat.le_of_ble_eq_true rfl) (fun v22 h23 => ?_)
        refine ph_if_eq (tgt := 56) (pc := 21) dX9_slips_21 (by decide) (fun c24 => ?_) (fun c24 => ?_)
        · exact hj19 h23
        · refine ph_iload_n (i := 3) (pc := 24) dX9_slips_24 rfl rfl ?_
          refine ph_callSi (pc := 25) dX9_slips_25 ph_mf_yX9_isLine ph_ml_RX9_138 ph_ms_yX9_isLine (c_X9_isLine Z (d - 1) (by omega) x3 h23) (by omega) rfl rfl (Nat.le_of_ble_eq_true rfl) (fun v25 h26 => ?_)
          refine ph_if_eq (tgt := 56) (pc := 28) dX9_slips_28 (by decide) (fun c27 => ?_) (fun c27 => ?_)
          · exact hj19 h26
          · refine ph_iload (i := 4) (pc := 31) dX9_slips_31 rfl ?_
            refine ph_i2l (pc := 33) dX9_slips_33 ?_
            refine ph_lconst (v := (lN 1)) (pc := 34) dX9_slips_34 rfl ?_
            refine ph_ldc2 (v := (lN 9)) (pc := 35) dX9_slips_35 ph_k_RX9_147 ?_
            refine ph_callSi (pc := 38) dX9_slips_38 ph_mf_yX9_in ph_ml_RX9_70 ph_ms_yX9_in (c_X9_in Z (d - 1) (by omega) x4.toInt64 (lN 1) (lN 9) h26) (by omega) rfl rfl (Nat.le_of_ble_eq_true rfl) (fun v28 h29 => ?_)
            refine ph_if_eq (tgt := 56) (pc := 41) dX9_slips_41 (by decide) (fun c30 => ?_) (fun c30 => ?_)
            · exact hj19 h29
            · refine ph_iload (i := 5) (pc := 44) dX9_slips_44 rfl ?_
              refine ph_callSi (pc := 46) dX9_slips_46 ph_mf_yX9_isTwo ph_ml_RX9_98 ph_ms_yX9_isTwo (c_X9_isTwo Z (d - 1) (by omega) x5 h29) (by omega) rfl rfl (Nat.le_of_ble_eq_true rfl) (fun v31 h32 => ?_)
              refine ph_if_eq (tgt := 56) (pc := 49) dX9_slips_49 (by decide) (fun c33 => ?_) (fun c33 => ?_)
              · exact hj19 h32
              · refine ph_iconst (v := (nI 1)) (pc := 52) dX9_slips_52 ph_ic_1 ?_
                refine ph_goto (tgt := 57) (pc := 53) dX9_slips_53 (by decide) ?_
                exact hj11 ((nI 1), h32)
def f_X9_lot (x1 : Int32) (h : ph_Hp) : Option (Int32 × ph_Hp) :=
  ph_pfI h 51 27 (((nI 1103515245) * (h.1 51 27)) + (nI 12345)) fun h3 =>
  ph_rmI (ph_ushr (h3.1 51 27) (nI 16)) x1 fun v4 =>
  some (v4, h3)
set_option maxRecDepth 100000 in
theorem c_X9_lot (Z : ph_L) (d : Nat) (hdd : 0 ≤ d) (x1 : Int32) (h : ph_Hp) : ph_CM Z yX9_lot cX9_lot 2 (some .int) d [.ref (ph_a Z 51), .int x1] ph_vi h (f_X9_lot x1 h) := by
  refine ph_begin (own := RX9) ph_mf_yX9_lot rfl (ls := [some (.ref (ph_a Z 51)), some (.int x1)]) rfl (Nat.le_of_ble_eq_true rfl) ?_
  unfold f_X9_lot
  refine ph_aload_n (i := 0) (pc := 0) dX9_lot_0 rfl rfl ?_
  refine ph_ldc (v := (nI 1103515245)) (pc := 1) dX9_lot_1 ph_k_RX9_253 ?_
  refine ph_aload_n (i := 0) (pc := 3) dX9_lot_3 rfl rfl ?_
  refine ph_getI (pc := 4) dX9_lot_4 ph_fl_RX9_254 rfl (by decide) ?_
  refine ph_imul (pc := 7) dX9_lot_7 ?_
  refine ph_sipush (v := (nI 12345)) (pc := 8) dX9_lot_8 ph_sp_12345 ?_
  refine ph_iadd (pc := 11) dX9_lot_11 ?_
  refine ph_putI (pc := 12) dX9_lot_12 ph_pl_RX9_254 rfl (by decide) rfl rfl (fun h3 => ?_)
  refine ph_aload_n (i := 0) (pc := 15) dX9_lot_15 rfl rfl ?_
  refine ph_getI (pc := 16) dX9_lot_16 ph_fl_RX9_254 rfl (by decide) ?_
  refine ph_bipush (v := (nI 16)) (pc := 19) dX9_lot_19 ph_bp_16 ?_
  refine ph_iushr (pc := 21) dX9_lot_21 ?_
  refine ph_iload_n (i := 1) (pc := 22) dX9_lot_22 rfl rfl ?_
  refine ph_iremX (pc := 23) dX9_lot_23 (fun v4 => ?_)
  exact ph_iret (pc := 24) dX9_lot_24 rfl
def f_X9_eveningOf (x1 : Int32) (x2 : Int32) (x3 : Int32) (h : ph_Hp) : Option (Int32 × ph_Hp) :=
  ph_pfI h 51 27 x1 fun h5 =>
  ph_lp (α := Int32 × ph_Hp) (fun j6 (x7, h8) =>
    ph_jn (α := Unit) (fun _x =>
      ph_cl (f_X9_lives (nI 0) x2 h8) fun _ h11 =>
      ph_jn (α := Int32 × ph_Hp) (fun (x13, h14) =>
        ph_cl (f_X9_find h14) fun _ h16 =>
        some (x13, h16)) (fun j12 =>
        if x3 = nI 0 then
          ph_ldI h11 65 40 x2 fun v20 =>
          j12 (v20, h11)
        else
          ph_cl (f_X9_driftTo x2 h11) fun v18 h19 =>
          j12 (v18, h19))) (fun j9 =>
      if x2 < x7 then
        j9 ()
      else
        if (h8.1 51 9) ≤ nI 0 then
          j9 ()
        else
          ph_cl (f_X9_lot (h8.1 51 9) h8) fun v23 h24 =>
          ph_ldI h24 63 40 x7 fun v25 =>
          ph_cl (f_X9_lot (nI 4) h24) fun v26 h27 =>
          ph_jn (α := Int32) (fun x29 =>
            ph_stI h27 63 40 x7 (v25 ||| x29) fun h30 =>
            j6 (x7 + (nI 1), h30)) (fun j28 =>
            if v26 = nI 0 then
              j28 (ph_shl (nI 1) v23)
            else
              j28 (nI 0)))) ph_fu ((nI 1), h5)
set_option maxRecDepth 100000 in
theorem c_X9_eveningOf (Z : ph_L) (d : Nat) (hdd : 7 ≤ d) (x1 : Int32) (x2 : Int32) (x3 : Int32) (h : ph_Hp) : ph_CM Z yX9_eveningOf cX9_eveningOf 6 (some .int) d [.ref (ph_a Z 51), .int x1, .int x2, .int x3] ph_vi h (f_X9_eveningOf x1 x2 x3 h) := by
  refine ph_begin (own := RX9) ph_mf_yX9_eveningOf rfl (ls := [some (.ref (ph_a Z 51)), some (.int x1), some (.int x2), some (.int x3), none, none]) rfl (Nat.le_of_ble_eq_true rfl) ?_
  unfold f_X9_eveningOf
  refine ph_aload_n (i := 0) (pc := 0) dX9_eveningOf_0 rfl rfl ?_
  refine ph_iload_n (i := 1) (pc := 1) dX9_eveningOf_1 rfl rfl ?_
  refine ph_putI (pc := 2) dX9_eveningOf_2 ph_pl_RX9_254 rfl (by decide) rfl rfl (fun h5 => ?_)
  refine ph_iconst (v := (nI 1)) (pc := 5) dX9_eveningOf_5 ph_ic_1 ?_
  refine ph_istore (i := 4) (ls1 := [some (.ref (ph_a Z 51)), some (.int x1), some (.int x2), some (.int x3), some (.int (nI 1)), none]) (pc := 6) dX9_eveningOf_6 (by decide) rfl ?_
  refine ph_wk (ls1 := [some (.ref (ph_a Z 51)), none, some (.int x2), some (.int x3), some (.int (nI 1)), none]) ⟨rfl, ⟨rfl, ⟨rfl, ⟨rfl, trivial⟩⟩⟩⟩ ?_
  refine ph_loop (α := Int32 × ph_Hp) 8 (fun x => [some (.ref (ph_a Z 51)), none, some (.int x2), some (.int x3), some (.int x.1), none]) (fun x => []) (fun x => x.2) (fun j6 hj6 x => ?_) ph_fu ((nI 1), h5)
  obtain ⟨x7, h8⟩ := x
  dsimp only
  refine ph_iload (i := 4) (pc := 8) dX9_eveningOf_8 rfl ?_
  refine ph_iload_n (i := 2) (pc := 10) dX9_eveningOf_10 rfl rfl ?_
  refine ph_join (α := Unit) 63 (fun x => [some (.ref (ph_a Z 51)), none, some (.int x2), some (.int x3), none, none]) (fun x => []) (fun x => h8) (fun x => ?_) (fun j9 hj9 => ?_)
  · refine ph_aload_n (i := 0) (pc := 63) dX9_eveningOf_63 rfl rfl ?_
    refine ph_iconst (v := (nI 0)) (pc := 64) dX9_eveningOf_64 ph_ic_0 ?_
    refine ph_iload_n (i := 2) (pc := 65) dX9_eveningOf_65 rfl rfl ?_
    refine ph_callVv (pc := 66) dX9_eveningOf_66 ph_mf_yX9_lives ph_ml_RX9_191 ph_mi_yX9_lives ph_mv_yX9_lives rfl rfl (c_X9_lives Z (d - 1) (by omega) (nI 0) x2 h8) (by omega) rfl rfl (Nat.le_of_ble_eq_true rfl) (fun v10 h11 => ?_)
    refine ph_iload_n (i := 3) (pc := 69) dX9_eveningOf_69 rfl rfl ?_
    refine ph_join (α := Int32 × ph_Hp) 87 (fun x => [some (.ref (ph_a Z 51)), none, none, none, none, none]) (fun x => [.int x.1]) (fun x => x.2) (fun x => ?_) (fun j12 hj12 => ?_)
    · obtain ⟨x13, h14⟩ := x
      dsimp only
      refine ph_istore (i := 4) (ls1 := [some (.ref (ph_a Z 51)), none, none, none, some (.int x13), none]) (pc := 87) dX9_eveningOf_87 (by decide) rfl ?_
      refine ph_aload_n (i := 0) (pc := 89) dX9_eveningOf_89 rfl rfl ?_
      refine ph_callVv (pc := 90) dX9_eveningOf_90 ph_mf_yX9_find ph_ml_RX9_198 ph_mi_yX9_find ph_mv_yX9_find rfl rfl (c_X9_find Z (d - 1) (by omega) h14) (by omega) rfl rfl (Nat.le_of_ble_eq_true rfl) (fun v15 h16 => ?_)
      refine ph_iload (i := 4) (pc := 93) dX9_eveningOf_93 rfl ?_
      exact ph_iret (pc := 95) dX9_eveningOf_95 rfl
    · refine ph_if_ne (tgt := 82) (pc := 70) dX9_eveningOf_70 (by decide) (fun c17 => ?_) (fun c17 => ?_)
      · refine ph_aload_n (i := 0) (pc := 82) dX9_eveningOf_82 rfl rfl ?_
        refine ph_iload_n (i := 2) (pc := 83) dX9_eveningOf_83 rfl rfl ?_
        refine ph_callVi (pc := 84) dX9_eveningOf_84 ph_mf_yX9_driftTo ph_ml_RX9_204 ph_mi_yX9_driftTo ph_mv_yX9_driftTo rfl rfl (c_X9_driftTo Z (d - 1) (by omega) x2 h11) (by omega) rfl rfl (Nat.le_of_ble_eq_true rfl) (fun v18 h19 => ?_)
        refine ph_wk (ls1 := [some (.ref (ph_a Z 51)), none, none, none, none, none]) ⟨rfl, trivial⟩ ?_
        exact hj12 (v18, h19)
      · refine ph_aload_n (i := 0) (pc := 73) dX9_eveningOf_73 rfl rfl ?_
        refine ph_getR (j := 65) (pc := 74) dX9_eveningOf_74 ph_fl_RX9_49 rfl rfl rfl ?_
        refine ph_iload_n (i := 2) (pc := 77) dX9_eveningOf_77 rfl rfl ?_
        refine ph_iald (pc := 78) dX9_eveningOf_78 rfl rfl (fun v20 => ?_)
        refine ph_goto (tgt := 87) (pc := 79) dX9_eveningOf_79 (by decide) ?_
        refine ph_wk (ls1 := [some (.ref (ph_a Z 51)), none, none, none, none, none]) ⟨rfl, trivial⟩ ?_
        exact hj12 (v20, h11)
  · refine ph_icmp_gt (tgt := 63) (pc := 11) dX9_eveningOf_11 (by decide) (fun c21 => ?_) (fun c21 => ?_)
    · refine ph_wk (ls1 := [some (.ref (ph_a Z 51)), none, some (.int x2), some (.int x3), none, none]) ⟨rfl, ⟨rfl, ⟨rfl, trivial⟩⟩⟩ ?_
      exact hj9 ()
    · refine ph_aload_n (i := 0) (pc := 14) dX9_eveningOf_14 rfl rfl ?_
      refine ph_getI (pc := 15) dX9_eveningOf_15 ph_fl_RX9_113 rfl (by decide) ?_
      refine ph_if_le (tgt := 63) (pc := 18) dX9_eveningOf_18 (by decide) (fun c22 => ?_) (fun c22 => ?_)
      · refine ph_wk (ls1 := [some (.ref (ph_a Z 51)), none, some (.int x2), some (.int x3), none, none]) ⟨rfl, ⟨rfl, ⟨rfl, trivial⟩⟩⟩ ?_
        exact hj9 ()
      · refine ph_aload_n (i := 0) (pc := 21) dX9_eveningOf_21 rfl rfl ?_
        refine ph_aload_n (i := 0) (pc := 22) dX9_eveningOf_22 rfl rfl ?_
        refine ph_getI (pc := 23) dX9_eveningOf_23 ph_fl_RX9_113 rfl (by decide) ?_
        refine ph_callVi (pc := 26) dX9_eveningOf_26 ph_mf_yX9_lot ph_ml_RX9_257 ph_mi_yX9_lot ph_mv_yX9_lot rfl rfl (c_X9_lot Z (d - 1) (by omega) (h8.1 51 9) h8) (by omega) rfl rfl (Nat.le_of_ble_eq_true rfl) (fun v23 h24 => ?_)
        refine ph_istore (i := 5) (ls1 := [some (.ref (ph_a Z 51)), none, some (.int x2), some (.int x3), some (.int x7), some (.int v23)]) (pc := 29) dX9_eveningOf_29 (by decide) rfl ?_
        refine ph_aload_n (i := 0) (pc := 31) dX9_eveningOf_31 rfl rfl ?_
        refine ph_getR (j := 63) (pc := 32) dX9_eveningOf_32 ph_fl_RX9_43 rfl rfl rfl ?_
        refine ph_iload (i := 4) (pc := 35) dX9_eveningOf_35 rfl ?_
        refine ph_dup2 (pc := 37) dX9_eveningOf_37 rfl rfl ?_
        refine ph_iald (pc := 38) dX9_eveningOf_38 rfl rfl (fun v25 => ?_)
        refine ph_aload_n (i := 0) (pc := 39) dX9_eveningOf_39 rfl rfl ?_
        refine ph_iconst (v := (nI 4)) (pc := 40) dX9_eveningOf_40 ph_ic_4 ?_
        refine ph_callVi (pc := 41) dX9_eveningOf_41 ph_mf_yX9_lot ph_ml_RX9_257 ph_mi_yX9_lot ph_mv_yX9_lot rfl rfl (c_X9_lot Z (d - 1) (by omega) (nI 4) h24) (by omega) rfl rfl (Nat.le_of_ble_eq_true rfl) (fun v26 h27 => ?_)
        refine ph_join (α := Int32) 55 (fun x => [some (.ref (ph_a Z 51)), none, some (.int x2), some (.int x3), some (.int x7), none]) (fun x => [.int x, .int v25, .int x7, .ref (ph_a Z 63)]) (fun x => h27) (fun x => ?_) (fun j28 hj28 => ?_)
        · revert x; intro x29
          refine ph_ior (pc := 55) dX9_eveningOf_55 ?_
          refine ph_iast (pc := 56) dX9_eveningOf_56 rfl rfl (fun h30 => ?_)
          refine ph_iinc (i := 4) (v := (nI 1)) (ls1 := [some (.ref (ph_a Z 51)), none, some (.int x2), some (.int x3), some (.int (x7 + (nI 1))), none]) (pc := 57) dX9_eveningOf_57 rfl ph_ic_1 (by decide) rfl ?_
          refine ph_goto (tgt := 8) (pc := 60) dX9_eveningOf_60 (by decide) ?_
          exact hj6 (x7 + (nI 1), h30)
        · refine ph_if_ne (tgt := 54) (pc := 44) dX9_eveningOf_44 (by decide) (fun c31 => ?_) (fun c31 => ?_)
          · refine ph_iconst (v := (nI 0)) (pc := 54) dX9_eveningOf_54 ph_ic_0 ?_
            refine ph_wk (ls1 := [some (.ref (ph_a Z 51)), none, some (.int x2), some (.int x3), some (.int x7), none]) ⟨rfl, ⟨rfl, ⟨rfl, ⟨rfl, trivial⟩⟩⟩⟩ ?_
            exact hj28 (nI 0)
          · refine ph_iconst (v := (nI 1)) (pc := 47) dX9_eveningOf_47 ph_ic_1 ?_
            refine ph_iload (i := 5) (pc := 48) dX9_eveningOf_48 rfl ?_
            refine ph_ishl (pc := 50) dX9_eveningOf_50 ?_
            refine ph_goto (tgt := 55) (pc := 51) dX9_eveningOf_51 (by decide) ?_
            refine ph_wk (ls1 := [some (.ref (ph_a Z 51)), none, some (.int x2), some (.int x3), some (.int x7), none]) ⟨rfl, ⟨rfl, ⟨rfl, ⟨rfl, trivial⟩⟩⟩⟩ ?_
            exact hj28 (ph_shl (nI 1) v23)
