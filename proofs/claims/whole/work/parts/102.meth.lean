def f_X7_size (r0 : Nat) (h : ph_Hp) : Option (Int32 × ph_Hp) :=
  ph_isK r0 7 <|
  ph_isK (ph_rf r0 0) 4 <|
  ph_cl (f_X4_size (ph_rf r0 0) h) fun v4 h5 =>
  some (v4, h5)
set_option maxRecDepth 100000 in
theorem c_X7_size (Z : ph_L) (d : Nat) (hdd : 1 ≤ d) (r0 : Nat) (h : ph_Hp) : ph_CM Z yX7_size cX7_size 1 (some .int) d [.ref (ph_a Z r0)] ph_vi h (f_X7_size r0 h) := by
  refine ph_begin (own := RX7) ph_mf_yX7_size rfl (ls := [some (.ref (ph_a Z r0))]) rfl (Nat.le_of_ble_eq_true rfl) ?_
  unfold f_X7_size
  refine ph_aload_n (i := 0) (pc := 0) dX7_size_0 rfl rfl ?_
  refine ph_isKr (fun hk2 => ?_)
  refine ph_getR (pc := 1) dX7_size_1 ph_fl_RX7_12 hk2 rfl rfl ?_
  refine ph_isKr (fun hk3 => ?_)
  refine ph_callVi (pc := 4) dX7_size_4 ph_mf_yX4_size ph_ml_RX7_21 ph_mi_yX4_size ph_mv_yX4_size rfl hk3 (c_X4_size Z (d - 1) (by omega) (ph_rf r0 0) h) (by omega) rfl rfl (Nat.le_of_ble_eq_true rfl) (fun v4 h5 => ?_)
  exact ph_iret (pc := 7) dX7_size_7 rfl
def f_X7_stepAt (r0 : Nat) (x1 : Int32) (h : ph_Hp) : Option (Int32 × ph_Hp) :=
  ph_isK r0 7 <|
  ph_isK (ph_rf r0 0) 4 <|
  ph_cl (f_X4_at (ph_rf r0 0) x1 h) fun v5 h6 =>
  some (v5, h6)
set_option maxRecDepth 100000 in
theorem c_X7_stepAt (Z : ph_L) (d : Nat) (hdd : 1 ≤ d) (r0 : Nat) (x1 : Int32) (h : ph_Hp) : ph_CM Z yX7_stepAt cX7_stepAt 2 (some .int) d [.ref (ph_a Z r0), .int x1] ph_vi h (f_X7_stepAt r0 x1 h) := by
  refine ph_begin (own := RX7) ph_mf_yX7_stepAt rfl (ls := [some (.ref (ph_a Z r0)), some (.int x1)]) rfl (Nat.le_of_ble_eq_true rfl) ?_
  unfold f_X7_stepAt
  refine ph_aload_n (i := 0) (pc := 0) dX7_stepAt_0 rfl rfl ?_
  refine ph_isKr (fun hk3 => ?_)
  refine ph_getR (pc := 1) dX7_stepAt_1 ph_fl_RX7_12 hk3 rfl rfl ?_
  refine ph_iload_n (i := 1) (pc := 4) dX7_stepAt_4 rfl rfl ?_
  refine ph_isKr (fun hk4 => ?_)
  refine ph_callVi (pc := 5) dX7_stepAt_5 ph_mf_yX4_at ph_ml_RX7_29 ph_mi_yX4_at ph_mv_yX4_at rfl hk4 (c_X4_at Z (d - 1) (by omega) (ph_rf r0 0) x1 h) (by omega) rfl rfl (Nat.le_of_ble_eq_true rfl) (fun v5 h6 => ?_)
  exact ph_iret (pc := 8) dX7_stepAt_8 rfl
def f_X7_valueAt (r0 : Nat) (x1 : Int32) (h : ph_Hp) : Option (Int32 × ph_Hp) :=
  ph_isK r0 7 <|
  ph_isK (ph_rf r0 1) 4 <|
  ph_cl (f_X4_at (ph_rf r0 1) x1 h) fun v5 h6 =>
  some (v5, h6)
set_option maxRecDepth 100000 in
theorem c_X7_valueAt (Z : ph_L) (d : Nat) (hdd : 1 ≤ d) (r0 : Nat) (x1 : Int32) (h : ph_Hp) : ph_CM Z yX7_valueAt cX7_valueAt 2 (some .int) d [.ref (ph_a Z r0), .int x1] ph_vi h (f_X7_valueAt r0 x1 h) := by
  refine ph_begin (own := RX7) ph_mf_yX7_valueAt rfl (ls := [some (.ref (ph_a Z r0)), some (.int x1)]) rfl (Nat.le_of_ble_eq_true rfl) ?_
  unfold f_X7_valueAt
  refine ph_aload_n (i := 0) (pc := 0) dX7_valueAt_0 rfl rfl ?_
  refine ph_isKr (fun hk3 => ?_)
  refine ph_getR (pc := 1) dX7_valueAt_1 ph_fl_RX7_18 hk3 rfl rfl ?_
  refine ph_iload_n (i := 1) (pc := 4) dX7_valueAt_4 rfl rfl ?_
  refine ph_isKr (fun hk4 => ?_)
  refine ph_callVi (pc := 5) dX7_valueAt_5 ph_mf_yX4_at ph_ml_RX7_29 ph_mi_yX4_at ph_mv_yX4_at rfl hk4 (c_X4_at Z (d - 1) (by omega) (ph_rf r0 1) x1 h) (by omega) rfl rfl (Nat.le_of_ble_eq_true rfl) (fun v5 h6 => ?_)
  exact ph_iret (pc := 8) dX7_valueAt_8 rfl
def f_X6_set (h : ph_Hp) : Option (Unit × ph_Hp) :=
  ph_lp (α := Int32 × ph_Hp) (fun j5 (x6, h7) =>
    if (nI 40) ≤ x6 then
      ph_lp (α := Int32 × ph_Hp) (fun j9 (x10, h11) =>
        ph_cl (f_X7_size 5 h11) fun v12 h13 =>
        if v12 ≤ x10 then
          ph_lp (α := Int32 × ph_Hp) (fun j15 (x16, h17) =>
            ph_cl (f_X7_size 10 h17) fun v18 h19 =>
            if v18 ≤ x16 then
              ph_lp (α := Int32 × ph_Hp) (fun j21 (x22, h23) =>
                ph_cl (f_X7_size 15 h23) fun v24 h25 =>
                if v24 ≤ x22 then
                  some ((), h25)
                else
                  ph_cl (f_X7_stepAt 15 x22 h25) fun v27 h28 =>
                  ph_cl (f_X8_within v27 (nI 40) h28) fun v29 h30 =>
                  ph_jn (α := ph_Hp) (fun h32 =>
                    j21 (x22 + (nI 1), h32)) (fun j31 =>
                    if v29 = nI 0 then
                      j31 h30
                    else
                      ph_stZ h30 38 40 v27 (nI 1) fun h34 =>
                      j31 h34)) ph_fu ((nI 0), h19)
            else
              ph_cl (f_X7_stepAt 10 x16 h19) fun v35 h36 =>
              ph_cl (f_X8_within v35 (nI 40) h36) fun v37 h38 =>
              ph_jn (α := ph_Hp) (fun h40 =>
                j15 (x16 + (nI 1), h40)) (fun j39 =>
                if v37 = nI 0 then
                  j39 h38
                else
                  ph_ldI h38 37 40 v35 fun v42 =>
                  ph_cl (f_X7_valueAt 10 x16 h38) fun v43 h44 =>
                  ph_stI h44 37 40 v35 (v42 ||| (ph_shl (nI 1) v43)) fun h45 =>
                  j39 h45)) ph_fu ((nI 0), h13)
        else
          ph_cl (f_X7_stepAt 5 x10 h13) fun v46 h47 =>
          ph_cl (f_X8_within v46 (nI 40) h47) fun v48 h49 =>
          ph_jn (α := ph_Hp) (fun h51 =>
            j9 (x10 + (nI 1), h51)) (fun j50 =>
            if v48 = nI 0 then
              j50 h49
            else
              ph_cl (f_X7_valueAt 5 x10 h49) fun v53 h54 =>
              ph_stI h54 36 40 v46 v53 fun h55 =>
              j50 h55)) ph_fu ((nI 0), h7)
    else
      ph_stI h7 36 40 x6 (-1) fun h56 =>
      ph_stI h56 37 40 x6 (nI 0) fun h57 =>
      ph_jn (α := Int32) (fun x59 =>
        ph_stZ h57 38 40 x6 x59 fun h60 =>
        j5 (x6 + (nI 1), h60)) (fun j58 =>
        if x6 = nI 0 then
          j58 (nI 1)
        else
          j58 (nI 0))) ph_fu ((nI 0), h)
set_option maxRecDepth 100000 in
theorem c_X6_set (Z : ph_L) (d : Nat) (hdd : 2 ≤ d) (h : ph_Hp) : ph_CM Z yX6_set cX6_set 6 none d [.ref (ph_a Z 25), .ref (ph_a Z 5), .ref (ph_a Z 10), .ref (ph_a Z 15)] ph_vv h (f_X6_set h) := by
  refine ph_begin (own := RX6) ph_mf_yX6_set rfl (ls := [some (.ref (ph_a Z 25)), some (.ref (ph_a Z 5)), some (.ref (ph_a Z 10)), some (.ref (ph_a Z 15)), none, none]) rfl (Nat.le_of_ble_eq_true rfl) ?_
  unfold f_X6_set
  refine ph_iconst (v := (nI 0)) (pc := 0) dX6_set_0 ph_ic_0 ?_
  refine ph_istore (i := 4) (ls1 := [some (.ref (ph_a Z 25)), some (.ref (ph_a Z 5)), some (.ref (ph_a Z 10)), some (.ref (ph_a Z 15)), some (.int (nI 0)), none]) (pc := 1) dX6_set_1 (by decide) rfl ?_
  refine ph_loop (α := Int32 × ph_Hp) 3 (fun x => [some (.ref (ph_a Z 25)), some (.ref (ph_a Z 5)), some (.ref (ph_a Z 10)), some (.ref (ph_a Z 15)), some (.int x.1), none]) (fun x => []) (fun x => x.2) (fun j5 hj5 x => ?_) ph_fu ((nI 0), h)
  obtain ⟨x6, h7⟩ := x
  dsimp only
  refine ph_iload (i := 4) (pc := 3) dX6_set_3 rfl ?_
  refine ph_bipush (v := (nI 40)) (pc := 5) dX6_set_5 ph_bp_40 ?_
  refine ph_icmp_ge (tgt := 49) (pc := 7) dX6_set_7 (by decide) (fun c8 => ?_) (fun c8 => ?_)
  · refine ph_iconst (v := (nI 0)) (pc := 49) dX6_set_49 ph_ic_0 ?_
    refine ph_istore (i := 4) (ls1 := [some (.ref (ph_a Z 25)), some (.ref (ph_a Z 5)), some (.ref (ph_a Z 10)), some (.ref (ph_a Z 15)), some (.int (nI 0)), none]) (pc := 50) dX6_set_50 (by decide) rfl ?_
    refine ph_loop (α := Int32 × ph_Hp) 52 (fun x => [some (.ref (ph_a Z 25)), some (.ref (ph_a Z 5)), some (.ref (ph_a Z 10)), some (.ref (ph_a Z 15)), some (.int x.1), none]) (fun x => []) (fun x => x.2) (fun j9 hj9 x => ?_) ph_fu ((nI 0), h7)
    obtain ⟨x10, h11⟩ := x
    dsimp only
    refine ph_iload (i := 4) (pc := 52) dX6_set_52 rfl ?_
    refine ph_aload_n (i := 1) (pc := 54) dX6_set_54 rfl rfl ?_
    refine ph_callVi (pc := 55) dX6_set_55 ph_mf_yX7_size ph_ml_RX6_42 ph_mi_yX7_size ph_mv_yX7_size rfl rfl (c_X7_size Z (d - 1) (by omega) 5 h11) (by omega) rfl rfl (Nat.le_of_ble_eq_true rfl) (fun v12 h13 => ?_)
    refine ph_icmp_ge (tgt := 98) (pc := 58) dX6_set_58 (by decide) (fun c14 => ?_) (fun c14 => ?_)
    · refine ph_iconst (v := (nI 0)) (pc := 98) dX6_set_98 ph_ic_0 ?_
      refine ph_istore (i := 4) (ls1 := [some (.ref (ph_a Z 25)), some (.ref (ph_a Z 5)), some (.ref (ph_a Z 10)), some (.ref (ph_a Z 15)), some (.int (nI 0)), none]) (pc := 99) dX6_set_99 (by decide) rfl ?_
      refine ph_wk (ls1 := [some (.ref (ph_a Z 25)), none, some (.ref (ph_a Z 10)), some (.ref (ph_a Z 15)), some (.int (nI 0)), none]) ⟨rfl, ⟨rfl, ⟨rfl, ⟨rfl, trivial⟩⟩⟩⟩ ?_
      refine ph_loop (α := Int32 × ph_Hp) 101 (fun x => [some (.ref (ph_a Z 25)), none, some (.ref (ph_a Z 10)), some (.ref (ph_a Z 15)), some (.int x.1), none]) (fun x => []) (fun x => x.2) (fun j15 hj15 x => ?_) ph_fu ((nI 0), h13)
      obtain ⟨x16, h17⟩ := x
      dsimp only
      refine ph_iload (i := 4) (pc := 101) dX6_set_101 rfl ?_
      refine ph_aload_n (i := 2) (pc := 103) dX6_set_103 rfl rfl ?_
      refine ph_callVi (pc := 104) dX6_set_104 ph_mf_yX7_size ph_ml_RX6_42 ph_mi_yX7_size ph_mv_yX7_size rfl rfl (c_X7_size Z (d - 1) (by omega) 10 h17) (by omega) rfl rfl (Nat.le_of_ble_eq_true rfl) (fun v18 h19 => ?_)
      refine ph_icmp_ge (tgt := 152) (pc := 107) dX6_set_107 (by decide) (fun c20 => ?_) (fun c20 => ?_)
      · refine ph_iconst (v := (nI 0)) (pc := 152) dX6_set_152 ph_ic_0 ?_
        refine ph_istore (i := 4) (ls1 := [some (.ref (ph_a Z 25)), none, some (.ref (ph_a Z 10)), some (.ref (ph_a Z 15)), some (.int (nI 0)), none]) (pc := 153) dX6_set_153 (by decide) rfl ?_
        refine ph_wk (ls1 := [some (.ref (ph_a Z 25)), none, none, some (.ref (ph_a Z 15)), some (.int (nI 0)), none]) ⟨rfl, ⟨rfl, ⟨rfl, trivial⟩⟩⟩ ?_
        refine ph_loop (α := Int32 × ph_Hp) 155 (fun x => [some (.ref (ph_a Z 25)), none, none, some (.ref (ph_a Z 15)), some (.int x.1), none]) (fun x => []) (fun x => x.2) (fun j21 hj21 x => ?_) ph_fu ((nI 0), h19)
        obtain ⟨x22, h23⟩ := x
        dsimp only
        refine ph_iload (i := 4) (pc := 155) dX6_set_155 rfl ?_
        refine ph_aload_n (i := 3) (pc := 157) dX6_set_157 rfl rfl ?_
        refine ph_callVi (pc := 158) dX6_set_158 ph_mf_yX7_size ph_ml_RX6_42 ph_mi_yX7_size ph_mv_yX7_size rfl rfl (c_X7_size Z (d - 1) (by omega) 15 h23) (by omega) rfl rfl (Nat.le_of_ble_eq_true rfl) (fun v24 h25 => ?_)
        refine ph_icmp_ge (tgt := 196) (pc := 161) dX6_set_161 (by decide) (fun c26 => ?_) (fun c26 => ?_)
        · exact ph_vret (pc := 196) dX6_set_196 rfl
        · refine ph_aload_n (i := 3) (pc := 164) dX6_set_164 rfl rfl ?_
          refine ph_iload (i := 4) (pc := 165) dX6_set_165 rfl ?_
          refine ph_callVi (pc := 167) dX6_set_167 ph_mf_yX7_stepAt ph_ml_RX6_48 ph_mi_yX7_stepAt ph_mv_yX7_stepAt rfl rfl (c_X7_stepAt Z (d - 1) (by omega) 15 x22 h25) (by omega) rfl rfl (Nat.le_of_ble_eq_true rfl) (fun v27 h28 => ?_)
          refine ph_istore (i := 5) (ls1 := [some (.ref (ph_a Z 25)), none, none, some (.ref (ph_a Z 15)), some (.int x22), some (.int v27)]) (pc := 170) dX6_set_170 (by decide) rfl ?_
          refine ph_iload (i := 5) (pc := 172) dX6_set_172 rfl ?_
          refine ph_bipush (v := (nI 40)) (pc := 174) dX6_set_174 ph_bp_40 ?_
          refine ph_callSi (pc := 176) dX6_set_176 ph_mf_yX8_within ph_ml_RX6_52 ph_ms_yX8_within (c_X8_within Z (d - 1) (by omega) v27 (nI 40) h28) (by omega) rfl rfl (Nat.le_of_ble_eq_true rfl) (fun v29 h30 => ?_)
          refine ph_join (α := ph_Hp) 190 (fun x => [some (.ref (ph_a Z 25)), none, none, some (.ref (ph_a Z 15)), some (.int x22), none]) (fun x => []) (fun x => x) (fun x => ?_) (fun j31 hj31 => ?_)
          · revert x; intro h32
            refine ph_iinc (i := 4) (v := (nI 1)) (ls1 := [some (.ref (ph_a Z 25)), none, none, some (.ref (ph_a Z 15)), some (.int (x22 + (nI 1))), none]) (pc := 190) dX6_set_190 rfl ph_ic_1 (by decide) rfl ?_
            refine ph_goto (tgt := 155) (pc := 193) dX6_set_193 (by decide) ?_
            exact hj21 (x22 + (nI 1), h32)
          · refine ph_if_eq (tgt := 190) (pc := 179) dX6_set_179 (by decide) (fun c33 => ?_) (fun c33 => ?_)
            · refine ph_wk (ls1 := [some (.ref (ph_a Z 25)), none, none, some (.ref (ph_a Z 15)), some (.int x22), none]) ⟨rfl, ⟨rfl, ⟨rfl, trivial⟩⟩⟩ ?_
              exact hj31 h30
            · refine ph_aload_n (i := 0) (pc := 182) dX6_set_182 rfl rfl ?_
              refine ph_getR (j := 38) (pc := 183) dX6_set_183 ph_fl_RX6_32 rfl rfl rfl ?_
              refine ph_iload (i := 5) (pc := 186) dX6_set_186 rfl ?_
              refine ph_iconst (v := (nI 1)) (pc := 188) dX6_set_188 ph_ic_1 ?_
              refine ph_zast (pc := 189) dX6_set_189 rfl rfl (fun h34 => ?_)
              refine ph_wk (ls1 := [some (.ref (ph_a Z 25)), none, none, some (.ref (ph_a Z 15)), some (.int x22), none]) ⟨rfl, ⟨rfl, ⟨rfl, trivial⟩⟩⟩ ?_
              exact hj31 h34
      · refine ph_aload_n (i := 2) (pc := 110) dX6_set_110 rfl rfl ?_
        refine ph_iload (i := 4) (pc := 111) dX6_set_111 rfl ?_
        refine ph_callVi (pc := 113) dX6_set_113 ph_mf_yX7_stepAt ph_ml_RX6_48 ph_mi_yX7_stepAt ph_mv_yX7_stepAt rfl rfl (c_X7_stepAt Z (d - 1) (by omega) 10 x16 h19) (by omega) rfl rfl (Nat.le_of_ble_eq_true rfl) (fun v35 h36 => ?_)
        refine ph_istore (i := 5) (ls1 := [some (.ref (ph_a Z 25)), none, some (.ref (ph_a Z 10)), some (.ref (ph_a Z 15)), some (.int x16), some (.int v35)]) (pc := 116) dX6_set_116 (by decide) rfl ?_
        refine ph_iload (i := 5) (pc := 118) dX6_set_118 rfl ?_
        refine ph_bipush (v := (nI 40)) (pc := 120) dX6_set_120 ph_bp_40 ?_
        refine ph_callSi (pc := 122) dX6_set_122 ph_mf_yX8_within ph_ml_RX6_52 ph_ms_yX8_within (c_X8_within Z (d - 1) (by omega) v35 (nI 40) h36) (by omega) rfl rfl (Nat.le_of_ble_eq_true rfl) (fun v37 h38 => ?_)
        refine ph_join (α := ph_Hp) 146 (fun x => [some (.ref (ph_a Z 25)), none, some (.ref (ph_a Z 10)), some (.ref (ph_a Z 15)), some (.int x16), none]) (fun x => []) (fun x => x) (fun x => ?_) (fun j39 hj39 => ?_)
        · revert x; intro h40
          refine ph_iinc (i := 4) (v := (nI 1)) (ls1 := [some (.ref (ph_a Z 25)), none, some (.ref (ph_a Z 10)), some (.ref (ph_a Z 15)), some (.int (x16 + (nI 1))), none]) (pc := 146) dX6_set_146 rfl ph_ic_1 (by decide) rfl ?_
          refine ph_goto (tgt := 101) (pc := 149) dX6_set_149 (by decide) ?_
          exact hj15 (x16 + (nI 1), h40)
        · refine ph_if_eq (tgt := 146) (pc := 125) dX6_set_125 (by decide) (fun c41 => ?_) (fun c41 => ?_)
          · refine ph_wk (ls1 := [some (.ref (ph_a Z 25)), none, some (.ref (ph_a Z 10)), some (.ref (ph_a Z 15)), some (.int x16), none]) ⟨rfl, ⟨rfl, ⟨rfl, ⟨rfl, trivial⟩⟩⟩⟩ ?_
            exact hj39 h38
          · refine ph_aload_n (i := 0) (pc := 128) dX6_set_128 rfl rfl ?_
            refine ph_getR (j := 37) (pc := 129) dX6_set_129 ph_fl_RX6_29 rfl rfl rfl ?_
            refine ph_iload (i := 5) (pc := 132) dX6_set_132 rfl ?_
            refine ph_dup2 (pc := 134) dX6_set_134 rfl rfl ?_
            refine ph_iald (pc := 135) dX6_set_135 rfl rfl (fun v42 => ?_)
            refine ph_iconst (v := (nI 1)) (pc := 136) dX6_set_136 ph_ic_1 ?_
            refine ph_aload_n (i := 2) (pc := 137) dX6_set_137 rfl rfl ?_
            refine ph_iload (i := 4) (pc := 138) dX6_set_138 rfl ?_
            refine ph_callVi (pc := 140) dX6_set_140 ph_mf_yX7_valueAt ph_ml_RX6_56 ph_mi_yX7_valueAt ph_mv_yX7_valueAt rfl rfl (c_X7_valueAt Z (d - 1) (by omega) 10 x16 h38) (by omega) rfl rfl (Nat.le_of_ble_eq_true rfl) (fun v43 h44 => ?_)
            refine ph_ishl (pc := 143) dX6_set_143 ?_
            refine ph_ior (pc := 144) dX6_set_144 ?_
            refine ph_iast (pc := 145) dX6_set_145 rfl rfl (fun h45 => ?_)
            refine ph_wk (ls1 := [some (.ref (ph_a Z 25)), none, some (.ref (ph_a Z 10)), some (.ref (ph_a Z 15)), some (.int x16), none]) ⟨rfl, ⟨rfl, ⟨rfl, ⟨rfl, trivial⟩⟩⟩⟩ ?_
            exact hj39 h45
    · refine ph_aload_n (i := 1) (pc := 61) dX6_set_61 rfl rfl ?_
      refine ph_iload (i := 4) (pc := 62) dX6_set_62 rfl ?_
      refine ph_callVi (pc := 64) dX6_set_64 ph_mf_yX7_stepAt ph_ml_RX6_48 ph_mi_yX7_stepAt ph_mv_yX7_stepAt rfl rfl (c_X7_stepAt Z (d - 1) (by omega) 5 x10 h13) (by omega) rfl rfl (Nat.le_of_ble_eq_true rfl) (fun v46 h47 => ?_)
      refine ph_istore (i := 5) (ls1 := [some (.ref (ph_a Z 25)), some (.ref (ph_a Z 5)), some (.ref (ph_a Z 10)), some (.ref (ph_a Z 15)), some (.int x10), some (.int v46)]) (pc := 67) dX6_set_67 (by decide) rfl ?_
      refine ph_iload (i := 5) (pc := 69) dX6_set_69 rfl ?_
      refine ph_bipush (v := (nI 40)) (pc := 71) dX6_set_71 ph_bp_40 ?_
      refine ph_callSi (pc := 73) dX6_set_73 ph_mf_yX8_within ph_ml_RX6_52 ph_ms_yX8_within (c_X8_within Z (d - 1) (by omega) v46 (nI 40) h47) (by omega) rfl rfl (Nat.le_of_ble_eq_true rfl) (fun v48 h49 => ?_)
      refine ph_join (α := ph_Hp) 92 (fun x => [some (.ref (ph_a Z 25)), some (.ref (ph_a Z 5)), some (.ref (ph_a Z 10)), some (.ref (ph_a Z 15)), some (.int x10), none]) (fun x => []) (fun x => x) (fun x => ?_) (fun j50 hj50 => ?_)
      · revert x; intro h51
        refine ph_iinc (i := 4) (v := (nI 1)) (ls1 := [some (.ref (ph_a Z 25)), some (.ref (ph_a Z 5)), some (.ref (ph_a Z 10)), some (.ref (ph_a Z 15)), some (.int (x10 + (nI 1))), none]) (pc := 92) dX6_set_92 rfl ph_ic_1 (by decide) rfl ?_
        refine ph_goto (tgt := 52) (pc := 95) dX6_set_95 (by decide) ?_
        exact hj9 (x10 + (nI 1), h51)
      · refine ph_if_eq (tgt := 92) (pc := 76) dX6_set_76 (by decide) (fun c52 => ?_) (fun c52 => ?_)
        · refine ph_wk (ls1 := [some (.ref (ph_a Z 25)), some (.ref (ph_a Z 5)), some (.ref (ph_a Z 10)), some (.ref (ph_a Z 15)), some (.int x10), none]) ⟨rfl, ⟨rfl, ⟨rfl, ⟨rfl, ⟨rfl, trivial⟩⟩⟩⟩⟩ ?_
          exact hj50 h49
        · refine ph_aload_n (i := 0) (pc := 79) dX6_set_79 rfl rfl ?_
          refine ph_getR (j := 36) (pc := 80) dX6_set_80 ph_fl_RX6_25 rfl rfl rfl ?_
          refine ph_iload (i := 5) (pc := 83) dX6_set_83 rfl ?_
          refine ph_aload_n (i := 1) (pc := 85) dX6_set_85 rfl rfl ?_
          refine ph_iload (i := 4) (pc := 86) dX6_set_86 rfl ?_
          refine ph_callVi (pc := 88) dX6_set_88 ph_mf_yX7_valueAt ph_ml_RX6_56 ph_mi_yX7_valueAt ph_mv_yX7_valueAt rfl rfl (c_X7_valueAt Z (d - 1) (by omega) 5 x10 h49) (by omega) rfl rfl (Nat.le_of_ble_eq_true rfl) (fun v53 h54 => ?_)
          refine ph_iast (pc := 91) dX6_set_91 rfl rfl (fun h55 => ?_)
          refine ph_wk (ls1 := [some (.ref (ph_a Z 25)), some (.ref (ph_a Z 5)), some (.ref (ph_a Z 10)), some (.ref (ph_a Z 15)), some (.int x10), none]) ⟨rfl, ⟨rfl, ⟨rfl, ⟨rfl, ⟨rfl, trivial⟩⟩⟩⟩⟩ ?_
          exact hj50 h55
  · refine ph_aload_n (i := 0) (pc := 10) dX6_set_10 rfl rfl ?_
    refine ph_getR (j := 36) (pc := 11) dX6_set_11 ph_fl_RX6_25 rfl rfl rfl ?_
    refine ph_iload (i := 4) (pc := 14) dX6_set_14 rfl ?_
    refine ph_iconst (v := (-1)) (pc := 16) dX6_set_16 ph_ic_m1 ?_
    refine ph_iast (pc := 17) dX6_set_17 rfl rfl (fun h56 => ?_)
    refine ph_aload_n (i := 0) (pc := 18) dX6_set_18 rfl rfl ?_
    refine ph_getR (j := 37) (pc := 19) dX6_set_19 ph_fl_RX6_29 rfl rfl rfl ?_
    refine ph_iload (i := 4) (pc := 22) dX6_set_22 rfl ?_
    refine ph_iconst (v := (nI 0)) (pc := 24) dX6_set_24 ph_ic_0 ?_
    refine ph_iast (pc := 25) dX6_set_25 rfl rfl (fun h57 => ?_)
    refine ph_aload_n (i := 0) (pc := 26) dX6_set_26 rfl rfl ?_
    refine ph_getR (j := 38) (pc := 27) dX6_set_27 ph_fl_RX6_32 rfl rfl rfl ?_
    refine ph_iload (i := 4) (pc := 30) dX6_set_30 rfl ?_
    refine ph_iload (i := 4) (pc := 32) dX6_set_32 rfl ?_
    refine ph_join (α := Int32) 42 (fun x => [some (.ref (ph_a Z 25)), some (.ref (ph_a Z 5)), some (.ref (ph_a Z 10)), some (.ref (ph_a Z 15)), some (.int x6), none]) (fun x => [.int x, .int x6, .ref (ph_a Z 38)]) (fun x => h57) (fun x => ?_) (fun j58 hj58 => ?_)
    · revert x; intro x59
      refine ph_zast (pc := 42) dX6_set_42 rfl rfl (fun h60 => ?_)
      refine ph_iinc (i := 4) (v := (nI 1)) (ls1 := [some (.ref (ph_a Z 25)), some (.ref (ph_a Z 5)), some (.ref (ph_a Z 10)), some (.ref (ph_a Z 15)), some (.int (x6 + (nI 1))), none]) (pc := 43) dX6_set_43 rfl ph_ic_1 (by decide) rfl ?_
      refine ph_goto (tgt := 3) (pc := 46) dX6_set_46 (by decide) ?_
      exact hj5 (x6 + (nI 1), h60)
    · refine ph_if_ne (tgt := 41) (pc := 34) dX6_set_34 (by decide) (fun c61 => ?_) (fun c61 => ?_)
      · refine ph_iconst (v := (nI 0)) (pc := 41) dX6_set_41 ph_ic_0 ?_
        exact hj58 (nI 0)
      · refine ph_iconst (v := (nI 1)) (pc := 37) dX6_set_37 ph_ic_1 ?_
        refine ph_goto (tgt := 42) (pc := 38) dX6_set_38 (by decide) ?_
        exact hj58 (nI 1)
def f_X6_whereIn (x1 : Int32) (h : ph_Hp) : Option (Int32 × ph_Hp) :=
  if x1 < nI 0 then
    some ((-1), h)
  else
    if (nI 40) ≤ x1 then
      some ((-1), h)
    else
      ph_ldI h 36 40 x1 fun v5 =>
      some (v5, h)
set_option maxRecDepth 100000 in
theorem c_X6_whereIn (Z : ph_L) (d : Nat) (hdd : 0 ≤ d) (x1 : Int32) (h : ph_Hp) : ph_CM Z yX6_whereIn cX6_whereIn 2 (some .int) d [.ref (ph_a Z 25), .int x1] ph_vi h (f_X6_whereIn x1 h) := by
  refine ph_begin (own := RX6) ph_mf_yX6_whereIn rfl (ls := [some (.ref (ph_a Z 25)), some (.int x1)]) rfl (Nat.le_of_ble_eq_true rfl) ?_
  unfold f_X6_whereIn
  refine ph_iload_n (i := 1) (pc := 0) dX6_whereIn_0 rfl rfl ?_
  refine ph_if_lt (tgt := 19) (pc := 1) dX6_whereIn_1 (by decide) (fun c3 => ?_) (fun c3 => ?_)
  · refine ph_iconst (v := (-1)) (pc := 19) dX6_whereIn_19 ph_ic_m1 ?_
    exact ph_iret (pc := 20) dX6_whereIn_20 rfl
  · refine ph_iload_n (i := 1) (pc := 4) dX6_whereIn_4 rfl rfl ?_
    refine ph_bipush (v := (nI 40)) (pc := 5) dX6_whereIn_5 ph_bp_40 ?_
    refine ph_icmp_ge (tgt := 19) (pc := 7) dX6_whereIn_7 (by decide) (fun c4 => ?_) (fun c4 => ?_)
    · refine ph_iconst (v := (-1)) (pc := 19) dX6_whereIn_19 ph_ic_m1 ?_
      exact ph_iret (pc := 20) dX6_whereIn_20 rfl
    · refine ph_aload_n (i := 0) (pc := 10) dX6_whereIn_10 rfl rfl ?_
      refine ph_getR (j := 36) (pc := 11) dX6_whereIn_11 ph_fl_RX6_25 rfl rfl rfl ?_
      refine ph_iload_n (i := 1) (pc := 14) dX6_whereIn_14 rfl rfl ?_
      refine ph_iald (pc := 15) dX6_whereIn_15 rfl rfl (fun v5 => ?_)
      refine ph_goto (tgt := 20) (pc := 16) dX6_whereIn_16 (by decide) ?_
      exact ph_iret (pc := 20) dX6_whereIn_20 rfl
def f_X6_hears (x1 : Int32) (x2 : Int32) (x3 : Int32) (h : ph_Hp) : Option (Int32 × ph_Hp) :=
  if x2 < (nI 1) then
    ph_rz (nI 0) h
  else
    if (nI 40) ≤ x2 then
      ph_rz (nI 0) h
    else
      ph_ldI h 38 40 x2 fun v7 =>
      if v7 = nI 0 then
        if (h.1 26 3) = nI 0 then
          ph_rz (nI 0) h
        else
          if x1 < nI 0 then
            ph_rz (nI 0) h
          else
            if x1 < (nI 9) then
              ph_ldI h 31 9 x1 fun v12 =>
              ph_ldI h 36 40 (x2 - (nI 1)) fun v13 =>
              ph_ldI h 32 9 x1 fun v14 =>
              if (v14 + x3) < (if nI 0 ≤ (v12 - v13) then (v12 - v13) else nI 0 - (v12 - v13)) then
                ph_rz (nI 0) h
              else
                ph_rz (nI 1) h
            else
              ph_rz (nI 0) h
      else
        ph_rz (nI 0) h
set_option maxRecDepth 100000 in
theorem c_X6_hears (Z : ph_L) (d : Nat) (hdd : 1 ≤ d) (x1 : Int32) (x2 : Int32) (x3 : Int32) (h : ph_Hp) : ph_CM Z yX6_hears cX6_hears 5 (some .boolean) d [.ref (ph_a Z 25), .int x1, .int x2, .int x3] ph_vi h (f_X6_hears x1 x2 x3 h) := by
  refine ph_begin (own := RX6) ph_mf_yX6_hears rfl (ls := [some (.ref (ph_a Z 25)), some (.int x1), some (.int x2), some (.int x3), none]) rfl (Nat.le_of_ble_eq_true rfl) ?_
  unfold f_X6_hears
  refine ph_iload_n (i := 2) (pc := 0) dX6_hears_0 rfl rfl ?_
  refine ph_iconst (v := (nI 1)) (pc := 1) dX6_hears_1 ph_ic_1 ?_
  refine ph_icmp_lt (tgt := 30) (pc := 2) dX6_hears_2 (by decide) (fun c5 => ?_) (fun c5 => ?_)
  · refine ph_iconst (v := (nI 0)) (pc := 30) dX6_hears_30 ph_ic_0 ?_
    exact ph_zret (pc := 31) dX6_hears_31 rfl
  · refine ph_iload_n (i := 2) (pc := 5) dX6_hears_5 rfl rfl ?_
    refine ph_bipush (v := (nI 40)) (pc := 6) dX6_hears_6 ph_bp_40 ?_
    refine ph_icmp_ge (tgt := 30) (pc := 8) dX6_hears_8 (by decide) (fun c6 => ?_) (fun c6 => ?_)
    · refine ph_iconst (v := (nI 0)) (pc := 30) dX6_hears_30 ph_ic_0 ?_
      exact ph_zret (pc := 31) dX6_hears_31 rfl
    · refine ph_aload_n (i := 0) (pc := 11) dX6_hears_11 rfl rfl ?_
      refine ph_getR (j := 38) (pc := 12) dX6_hears_12 ph_fl_RX6_32 rfl rfl rfl ?_
      refine ph_iload_n (i := 2) (pc := 15) dX6_hears_15 rfl rfl ?_
      refine ph_zald (pc := 16) dX6_hears_16 rfl rfl (fun v7 => ?_)
      refine ph_if_ne (tgt := 30) (pc := 17) dX6_hears_17 (by decide) (fun c8 => ?_) (fun c8 => ?_)
      · refine ph_iconst (v := (nI 0)) (pc := 30) dX6_hears_30 ph_ic_0 ?_
        exact ph_zret (pc := 31) dX6_hears_31 rfl
      · refine ph_aload_n (i := 0) (pc := 20) dX6_hears_20 rfl rfl ?_
        refine ph_getR (j := 26) (pc := 21) dX6_hears_21 ph_fl_RX6_12 rfl rfl rfl ?_
        refine ph_getI (pc := 24) dX6_hears_24 ph_fl_RX6_67 rfl (by decide) ?_
        refine ph_if_ne (tgt := 32) (pc := 27) dX6_hears_27 (by decide) (fun c9 => ?_) (fun c9 => ?_)
        · refine ph_iload_n (i := 1) (pc := 32) dX6_hears_32 rfl rfl ?_
          refine ph_if_lt (tgt := 42) (pc := 33) dX6_hears_33 (by decide) (fun c10 => ?_) (fun c10 => ?_)
          · refine ph_iconst (v := (nI 0)) (pc := 42) dX6_hears_42 ph_ic_0 ?_
            exact ph_zret (pc := 43) dX6_hears_43 rfl
          · refine ph_iload_n (i := 1) (pc := 36) dX6_hears_36 rfl rfl ?_
            refine ph_bipush (v := (nI 9)) (pc := 37) dX6_hears_37 ph_bp_9 ?_
            refine ph_icmp_lt (tgt := 44) (pc := 39) dX6_hears_39 (by decide) (fun c11 => ?_) (fun c11 => ?_)
            · refine ph_aload_n (i := 0) (pc := 44) dX6_hears_44 rfl rfl ?_
              refine ph_getR (j := 30) (pc := 45) dX6_hears_45 ph_fl_RX6_21 rfl rfl rfl ?_
              refine ph_getR (j := 31) (pc := 48) dX6_hears_48 ph_fl_RX6_71 rfl rfl rfl ?_
              refine ph_iload_n (i := 1) (pc := 51) dX6_hears_51 rfl rfl ?_
              refine ph_iald (pc := 52) dX6_hears_52 rfl rfl (fun v12 => ?_)
              refine ph_aload_n (i := 0) (pc := 53) dX6_hears_53 rfl rfl ?_
              refine ph_getR (j := 36) (pc := 54) dX6_hears_54 ph_fl_RX6_25 rfl rfl rfl ?_
              refine ph_iload_n (i := 2) (pc := 57) dX6_hears_57 rfl rfl ?_
              refine ph_iconst (v := (nI 1)) (pc := 58) dX6_hears_58 ph_ic_1 ?_
              refine ph_isub (pc := 59) dX6_hears_59 ?_
              refine ph_iald (pc := 60) dX6_hears_60 rfl rfl (fun v13 => ?_)
              refine ph_isub (pc := 61) dX6_hears_61 ?_
              refine ph_mabs (pc := 62) dX6_hears_62 ph_ml_RX6_74 ph_mm_abs (by omega) (Nat.le_of_ble_eq_true rfl) ?_
              refine ph_istore (i := 4) (ls1 := [some (.ref (ph_a Z 25)), some (.int x1), some (.int x2), some (.int x3), some (.int (if nI 0 ≤ (v12 - v13) then (v12 - v13) else nI 0 - (v12 - v13)))]) (pc := 65) dX6_hears_65 (by decide) rfl ?_
              refine ph_iload (i := 4) (pc := 67) dX6_hears_67 rfl ?_
              refine ph_aload_n (i := 0) (pc := 69) dX6_hears_69 rfl rfl ?_
              refine ph_getR (j := 30) (pc := 70) dX6_hears_70 ph_fl_RX6_21 rfl rfl rfl ?_
              refine ph_getR (j := 32) (pc := 73) dX6_hears_73 ph_fl_RX6_79 rfl rfl rfl ?_
              refine ph_iload_n (i := 1) (pc := 76) dX6_hears_76 rfl rfl ?_
              refine ph_iald (pc := 77) dX6_hears_77 rfl rfl (fun v14 => ?_)
              refine ph_iload_n (i := 3) (pc := 78) dX6_hears_78 rfl rfl ?_
              refine ph_iadd (pc := 79) dX6_hears_79 ?_
              refine ph_icmp_gt (tgt := 87) (pc := 80) dX6_hears_80 (by decide) (fun c15 => ?_) (fun c15 => ?_)
              · refine ph_iconst (v := (nI 0)) (pc := 87) dX6_hears_87 ph_ic_0 ?_
                exact ph_zret (pc := 88) dX6_hears_88 rfl
              · refine ph_iconst (v := (nI 1)) (pc := 83) dX6_hears_83 ph_ic_1 ?_
                refine ph_goto (tgt := 88) (pc := 84) dX6_hears_84 (by decide) ?_
                exact ph_zret (pc := 88) dX6_hears_88 rfl
            · refine ph_iconst (v := (nI 0)) (pc := 42) dX6_hears_42 ph_ic_0 ?_
              exact ph_zret (pc := 43) dX6_hears_43 rfl
        · refine ph_iconst (v := (nI 0)) (pc := 30) dX6_hears_30 ph_ic_0 ?_
          exact ph_zret (pc := 31) dX6_hears_31 rfl
def f_X6_nearest (x1 : Int32) (x2 : Int32) (h : ph_Hp) : Option (Int32 × ph_Hp) :=
  ph_cl (f_X6_whereIn x1 h) fun v4 h5 =>
  ph_lp (α := Int32 × Int32 × Int32 × ph_Hp) (fun j6 (x7, x8, x9, h10) =>
    if (h10.1 30 5) ≤ x9 then
      some (x7, h10)
    else
      ph_cl (f_X1_placeOf x9 h10) fun v12 h13 =>
      ph_jn (α := Int32 × Int32 × ph_Hp) (fun (x15, x16, h17) =>
        j6 (x15, x16, x9 + (nI 1), h17)) (fun j14 =>
        if x8 ≤ (if nI 0 ≤ (v12 - v4) then (v12 - v4) else nI 0 - (v12 - v4)) then
          j14 (x7, x8, h13)
        else
          ph_jn (α := Int32) (fun x20 =>
            ph_cl (f_X6_hears x9 x1 x20 h13) fun v21 h22 =>
            if v21 = nI 0 then
              j14 (x7, x8, h22)
            else
              j14 (x9, (if nI 0 ≤ (v12 - v4) then (v12 - v4) else nI 0 - (v12 - v4)), h22)) (fun j19 =>
            if x9 = x2 then
              j19 (nI 1)
            else
              j19 (nI 0)))) ph_fu ((-1), (nI 10), (nI 0), h5)
set_option maxRecDepth 100000 in
theorem c_X6_nearest (Z : ph_L) (d : Nat) (hdd : 2 ≤ d) (x1 : Int32) (x2 : Int32) (h : ph_Hp) : ph_CM Z yX6_nearest cX6_nearest 8 (some .int) d [.ref (ph_a Z 25), .int x1, .int x2] ph_vi h (f_X6_nearest x1 x2 h) := by
  refine ph_begin (own := RX6) ph_mf_yX6_nearest rfl (ls := [some (.ref (ph_a Z 25)), some (.int x1), some (.int x2), none, none, none, none, none]) rfl (Nat.le_of_ble_eq_true rfl) ?_
  unfold f_X6_nearest
  refine ph_iconst (v := (-1)) (pc := 0) dX6_nearest_0 ph_ic_m1 ?_
  refine ph_istore_n (i := 3) (ls1 := [some (.ref (ph_a Z 25)), some (.int x1), some (.int x2), some (.int (-1)), none, none, none, none]) (pc := 1) dX6_nearest_1 rfl (by decide) rfl ?_
  refine ph_bipush (v := (nI 10)) (pc := 2) dX6_nearest_2 ph_bp_10 ?_
  refine ph_istore (i := 4) (ls1 := [some (.ref (ph_a Z 25)), some (.int x1), some (.int x2), some (.int (-1)), some (.int (nI 10)), none, none, none]) (pc := 4) dX6_nearest_4 (by decide) rfl ?_
  refine ph_aload_n (i := 0) (pc := 6) dX6_nearest_6 rfl rfl ?_
  refine ph_iload_n (i := 1) (pc := 7) dX6_nearest_7 rfl rfl ?_
  refine ph_callVi (pc := 8) dX6_nearest_8 ph_mf_yX6_whereIn ph_ml_RX6_82 ph_mi_yX6_whereIn ph_mv_yX6_whereIn rfl rfl (c_X6_whereIn Z (d - 1) (by omega) x1 h) (by omega) rfl rfl (Nat.le_of_ble_eq_true rfl) (fun v4 h5 => ?_)
  refine ph_istore (i := 5) (ls1 := [some (.ref (ph_a Z 25)), some (.int x1), some (.int x2), some (.int (-1)), some (.int (nI 10)), some (.int v4), none, none]) (pc := 11) dX6_nearest_11 (by decide) rfl ?_
  refine ph_iconst (v := (nI 0)) (pc := 13) dX6_nearest_13 ph_ic_0 ?_
  refine ph_istore (i := 6) (ls1 := [some (.ref (ph_a Z 25)), some (.int x1), some (.int x2), some (.int (-1)), some (.int (nI 10)), some (.int v4), some (.int (nI 0)), none]) (pc := 14) dX6_nearest_14 (by decide) rfl ?_
  refine ph_loop (α := Int32 × Int32 × Int32 × ph_Hp) 16 (fun x => [some (.ref (ph_a Z 25)), some (.int x1), some (.int x2), some (.int x.1), some (.int x.2.1), some (.int v4), some (.int x.2.2.1), none]) (fun x => []) (fun x => x.2.2.2) (fun j6 hj6 x => ?_) ph_fu ((-1), (nI 10), (nI 0), h5)
  obtain ⟨x7, x8, x9, h10⟩ := x
  dsimp only
  refine ph_iload (i := 6) (pc := 16) dX6_nearest_16 rfl ?_
  refine ph_aload_n (i := 0) (pc := 18) dX6_nearest_18 rfl rfl ?_
  refine ph_getR (j := 30) (pc := 19) dX6_nearest_19 ph_fl_RX6_21 rfl rfl rfl ?_
  refine ph_getI (pc := 22) dX6_nearest_22 ph_fl_RX6_85 rfl (by decide) ?_
  refine ph_icmp_ge (tgt := 86) (pc := 25) dX6_nearest_25 (by decide) (fun c11 => ?_) (fun c11 => ?_)
  · refine ph_iload_n (i := 3) (pc := 86) dX6_nearest_86 rfl rfl ?_
    exact ph_iret (pc := 87) dX6_nearest_87 rfl
  · refine ph_aload_n (i := 0) (pc := 28) dX6_nearest_28 rfl rfl ?_
    refine ph_getR (j := 30) (pc := 29) dX6_nearest_29 ph_fl_RX6_21 rfl rfl rfl ?_
    refine ph_iload (i := 6) (pc := 32) dX6_nearest_32 rfl ?_
    refine ph_callVi (pc := 34) dX6_nearest_34 ph_mf_yX1_placeOf ph_ml_RX6_87 ph_mi_yX1_placeOf ph_mv_yX1_placeOf rfl rfl (c_X1_placeOf Z (d - 1) (by omega) x9 h10) (by omega) rfl rfl (Nat.le_of_ble_eq_true rfl) (fun v12 h13 => ?_)
    refine ph_iload (i := 5) (pc := 37) dX6_nearest_37 rfl ?_
    refine ph_isub (pc := 39) dX6_nearest_39 ?_
    refine ph_mabs (pc := 40) dX6_nearest_40 ph_ml_RX6_74 ph_mm_abs (by omega) (Nat.le_of_ble_eq_true rfl) ?_
    refine ph_istore (i := 7) (ls1 := [some (.ref (ph_a Z 25)), some (.int x1), some (.int x2), some (.int x7), some (.int x8), some (.int v4), some (.int x9), some (.int (if nI 0 ≤ (v12 - v4) then (v12 - v4) else nI 0 - (v12 - v4)))]) (pc := 43) dX6_nearest_43 (by decide) rfl ?_
    refine ph_iload (i := 7) (pc := 45) dX6_nearest_45 rfl ?_
    refine ph_iload (i := 4) (pc := 47) dX6_nearest_47 rfl ?_
    refine ph_join (α := Int32 × Int32 × ph_Hp) 80 (fun x => [some (.ref (ph_a Z 25)), some (.int x1), some (.int x2), some (.int x.1), some (.int x.2.1), some (.int v4), some (.int x9), none]) (fun x => []) (fun x => x.2.2) (fun x => ?_) (fun j14 hj14 => ?_)
    · obtain ⟨x15, x16, h17⟩ := x
      dsimp only
      refine ph_iinc (i := 6) (v := (nI 1)) (ls1 := [some (.ref (ph_a Z 25)), some (.int x1), some (.int x2), some (.int x15), some (.int x16), some (.int v4), some (.int (x9 + (nI 1))), none]) (pc := 80) dX6_nearest_80 rfl ph_ic_1 (by decide) rfl ?_
      refine ph_goto (tgt := 16) (pc := 83) dX6_nearest_83 (by decide) ?_
      exact hj6 (x15, x16, x9 + (nI 1), h17)
    · refine ph_icmp_ge (tgt := 80) (pc := 49) dX6_nearest_49 (by decide) (fun c18 => ?_) (fun c18 => ?_)
      · refine ph_wk (ls1 := [some (.ref (ph_a Z 25)), some (.int x1), some (.int x2), some (.int x7), some (.int x8), some (.int v4), some (.int x9), none]) ⟨rfl, ⟨rfl, ⟨rfl, ⟨rfl, ⟨rfl, ⟨rfl, ⟨rfl, trivial⟩⟩⟩⟩⟩⟩⟩ ?_
        exact hj14 (x7, x8, h13)
      · refine ph_aload_n (i := 0) (pc := 52) dX6_nearest_52 rfl rfl ?_
        refine ph_iload (i := 6) (pc := 53) dX6_nearest_53 rfl ?_
        refine ph_iload_n (i := 1) (pc := 55) dX6_nearest_55 rfl rfl ?_
        refine ph_iload (i := 6) (pc := 56) dX6_nearest_56 rfl ?_
        refine ph_iload_n (i := 2) (pc := 58) dX6_nearest_58 rfl rfl ?_
        refine ph_join (α := Int32) 67 (fun x => [some (.ref (ph_a Z 25)), some (.int x1), some (.int x2), some (.int x7), some (.int x8), some (.int v4), some (.int x9), some (.int (if nI 0 ≤ (v12 - v4) then (v12 - v4) else nI 0 - (v12 - v4)))]) (fun x => [.int x, .int x1, .int x9, .ref (ph_a Z 25)]) (fun x => h13) (fun x => ?_) (fun j19 hj19 => ?_)
        · revert x; intro x20
          refine ph_callVi (pc := 67) dX6_nearest_67 ph_mf_yX6_hears ph_ml_RX6_90 ph_mi_yX6_hears ph_mv_yX6_hears rfl rfl (c_X6_hears Z (d - 1) (by omega) x9 x1 x20 h13) (by omega) rfl rfl (Nat.le_of_ble_eq_true rfl) (fun v21 h22 => ?_)
          refine ph_if_eq (tgt := 80) (pc := 70) dX6_nearest_70 (by decide) (fun c23 => ?_) (fun c23 => ?_)
          · refine ph_wk (ls1 := [some (.ref (ph_a Z 25)), some (.int x1), some (.int x2), some (.int x7), some (.int x8), some (.int v4), some (.int x9), none]) ⟨rfl, ⟨rfl, ⟨rfl, ⟨rfl, ⟨rfl, ⟨rfl, ⟨rfl, trivial⟩⟩⟩⟩⟩⟩⟩ ?_
            exact hj14 (x7, x8, h22)
          · refine ph_iload (i := 6) (pc := 73) dX6_nearest_73 rfl ?_
            refine ph_istore_n (i := 3) (ls1 := [some (.ref (ph_a Z 25)), some (.int x1), some (.int x2), some (.int x9), some (.int x8), some (.int v4), some (.int x9), some (.int (if nI 0 ≤ (v12 - v4) then (v12 - v4) else nI 0 - (v12 - v4)))]) (pc := 75) dX6_nearest_75 rfl (by decide) rfl ?_
            refine ph_iload (i := 7) (pc := 76) dX6_nearest_76 rfl ?_
            refine ph_istore (i := 4) (ls1 := [some (.ref (ph_a Z 25)), some (.int x1), some (.int x2), some (.int x9), some (.int (if nI 0 ≤ (v12 - v4) then (v12 - v4) else nI 0 - (v12 - v4))), some (.int v4), some (.int x9), some (.int (if nI 0 ≤ (v12 - v4) then (v12 - v4) else nI 0 - (v12 - v4)))]) (pc := 78) dX6_nearest_78 (by decide) rfl ?_
            refine ph_wk (ls1 := [some (.ref (ph_a Z 25)), some (.int x1), some (.int x2), some (.int x9), some (.int (if nI 0 ≤ (v12 - v4) then (v12 - v4) else nI 0 - (v12 - v4))), some (.int v4), some (.int x9), none]) ⟨rfl, ⟨rfl, ⟨rfl, ⟨rfl, ⟨rfl, ⟨rfl, ⟨rfl, trivial⟩⟩⟩⟩⟩⟩⟩ ?_
            exact hj14 (x9, (if nI 0 ≤ (v12 - v4) then (v12 - v4) else nI 0 - (v12 - v4)), h22)
        · refine ph_icmp_ne (tgt := 66) (pc := 59) dX6_nearest_59 (by decide) (fun c24 => ?_) (fun c24 => ?_)
          · refine ph_iconst (v := (nI 0)) (pc := 66) dX6_nearest_66 ph_ic_0 ?_
            exact hj19 (nI 0)
          · refine ph_iconst (v := (nI 1)) (pc := 62) dX6_nearest_62 ph_ic_1 ?_
            refine ph_goto (tgt := 67) (pc := 63) dX6_nearest_63 (by decide) ?_
            exact hj19 (nI 1)
def f_X6_perform (h : ph_Hp) : Option (Unit × ph_Hp) :=
  ph_lp (α := Int32 × Int32 × ph_Hp) (fun j2 (x3, x4, h5) =>
    if (nI 40) ≤ x4 then
      ph_lp (α := Int32 × Int32 × ph_Hp) (fun j7 (x8, x9, h10) =>
        if (nI 40) ≤ x9 then
          some ((), h10)
        else
          ph_cl (f_X6_nearest x9 (-1) h10) fun v12 h13 =>
          ph_stI h13 39 40 x9 v12 fun h14 =>
          ph_ldI h14 39 40 x9 fun v15 =>
          ph_ldI h14 37 40 x9 fun v16 =>
          ph_cl (f_X6_follow x9 v15 x8 v16 h14) fun v17 h18 =>
          ph_stI h18 40 40 x9 v17 fun h19 =>
          j7 (v17, x9 + (nI 1), h19)) ph_fu ((-1), (nI 0), h5)
    else
      ph_ldI h5 36 40 x4 fun v20 =>
      ph_jn (α := Int32) (fun x22 =>
        ph_stI h5 36 40 x4 x22 fun h23 =>
        j2 (x22, x4 + (nI 1), h23)) (fun j21 =>
        if v20 = (-1) then
          j21 x3
        else
          ph_ldI h5 36 40 x4 fun v25 =>
          j21 v25)) ph_fu ((nI 0), (nI 0), h)
set_option maxRecDepth 100000 in
theorem c_X6_perform (Z : ph_L) (d : Nat) (hdd : 3 ≤ d) (h : ph_Hp) : ph_CM Z yX6_perform cX6_perform 4 none d [.ref (ph_a Z 25)] ph_vv h (f_X6_perform h) := by
  refine ph_begin (own := RX6) ph_mf_yX6_perform rfl (ls := [some (.ref (ph_a Z 25)), none, none, none]) rfl (Nat.le_of_ble_eq_true rfl) ?_
  unfold f_X6_perform
  refine ph_iconst (v := (nI 0)) (pc := 0) dX6_perform_0 ph_ic_0 ?_
  refine ph_istore_n (i := 1) (ls1 := [some (.ref (ph_a Z 25)), some (.int (nI 0)), none, none]) (pc := 1) dX6_perform_1 rfl (by decide) rfl ?_
  refine ph_iconst (v := (nI 0)) (pc := 2) dX6_perform_2 ph_ic_0 ?_
  refine ph_istore_n (i := 2) (ls1 := [some (.ref (ph_a Z 25)), some (.int (nI 0)), some (.int (nI 0)), none]) (pc := 3) dX6_perform_3 rfl (by decide) rfl ?_
  refine ph_loop (α := Int32 × Int32 × ph_Hp) 4 (fun x => [some (.ref (ph_a Z 25)), some (.int x.1), some (.int x.2.1), none]) (fun x => []) (fun x => x.2.2) (fun j2 hj2 x => ?_) ph_fu ((nI 0), (nI 0), h)
  obtain ⟨x3, x4, h5⟩ := x
  dsimp only
  refine ph_iload_n (i := 2) (pc := 4) dX6_perform_4 rfl rfl ?_
  refine ph_bipush (v := (nI 40)) (pc := 5) dX6_perform_5 ph_bp_40 ?_
  refine ph_icmp_ge (tgt := 40) (pc := 7) dX6_perform_7 (by decide) (fun c6 => ?_) (fun c6 => ?_)
  · refine ph_iconst (v := (-1)) (pc := 40) dX6_perform_40 ph_ic_m1 ?_
    refine ph_istore_n (i := 2) (ls1 := [some (.ref (ph_a Z 25)), some (.int x3), some (.int (-1)), none]) (pc := 41) dX6_perform_41 rfl (by decide) rfl ?_
    refine ph_iconst (v := (nI 0)) (pc := 42) dX6_perform_42 ph_ic_0 ?_
    refine ph_istore_n (i := 3) (ls1 := [some (.ref (ph_a Z 25)), some (.int x3), some (.int (-1)), some (.int (nI 0))]) (pc := 43) dX6_perform_43 rfl (by decide) rfl ?_
    refine ph_wk (ls1 := [some (.ref (ph_a Z 25)), none, some (.int (-1)), some (.int (nI 0))]) ⟨rfl, ⟨rfl, ⟨rfl, trivial⟩⟩⟩ ?_
    refine ph_loop (α := Int32 × Int32 × ph_Hp) 44 (fun x => [some (.ref (ph_a Z 25)), none, some (.int x.1), some (.int x.2.1)]) (fun x => []) (fun x => x.2.2) (fun j7 hj7 x => ?_) ph_fu ((-1), (nI 0), h5)
    obtain ⟨x8, x9, h10⟩ := x
    dsimp only
    refine ph_iload_n (i := 3) (pc := 44) dX6_perform_44 rfl rfl ?_
    refine ph_bipush (v := (nI 40)) (pc := 45) dX6_perform_45 ph_bp_40 ?_
    refine ph_icmp_ge (tgt := 94) (pc := 47) dX6_perform_47 (by decide) (fun c11 => ?_) (fun c11 => ?_)
    · exact ph_vret (pc := 94) dX6_perform_94 rfl
    · refine ph_aload_n (i := 0) (pc := 50) dX6_perform_50 rfl rfl ?_
      refine ph_getR (j := 39) (pc := 51) dX6_perform_51 ph_fl_RX6_36 rfl rfl rfl ?_
      refine ph_iload_n (i := 3) (pc := 54) dX6_perform_54 rfl rfl ?_
      refine ph_aload_n (i := 0) (pc := 55) dX6_perform_55 rfl rfl ?_
      refine ph_iload_n (i := 3) (pc := 56) dX6_perform_56 rfl rfl ?_
      refine ph_iconst (v := (-1)) (pc := 57) dX6_perform_57 ph_ic_m1 ?_
      refine ph_callVi (pc := 58) dX6_perform_58 ph_mf_yX6_nearest ph_ml_RX6_59 ph_mi_yX6_nearest ph_mv_yX6_nearest rfl rfl (c_X6_nearest Z (d - 1) (by omega) x9 (-1) h10) (by omega) rfl rfl (Nat.le_of_ble_eq_true rfl) (fun v12 h13 => ?_)
      refine ph_iast (pc := 61) dX6_perform_61 rfl rfl (fun h14 => ?_)
      refine ph_aload_n (i := 0) (pc := 62) dX6_perform_62 rfl rfl ?_
      refine ph_iload_n (i := 3) (pc := 63) dX6_perform_63 rfl rfl ?_
      refine ph_aload_n (i := 0) (pc := 64) dX6_perform_64 rfl rfl ?_
      refine ph_getR (j := 39) (pc := 65) dX6_perform_65 ph_fl_RX6_36 rfl rfl rfl ?_
      refine ph_iload_n (i := 3) (pc := 68) dX6_perform_68 rfl rfl ?_
      refine ph_iald (pc := 69) dX6_perform_69 rfl rfl (fun v15 => ?_)
      refine ph_iload_n (i := 2) (pc := 70) dX6_perform_70 rfl rfl ?_
      refine ph_aload_n (i := 0) (pc := 71) dX6_perform_71 rfl rfl ?_
      refine ph_getR (j := 37) (pc := 72) dX6_perform_72 ph_fl_RX6_29 rfl rfl rfl ?_
      refine ph_iload_n (i := 3) (pc := 75) dX6_perform_75 rfl rfl ?_
      refine ph_iald (pc := 76) dX6_perform_76 rfl rfl (fun v16 => ?_)
      refine ph_callVi (pc := 77) dX6_perform_77 ph_mf_yX6_follow ph_ml_RX6_63 ph_mi_yX6_follow ph_mv_yX6_follow rfl rfl (c_X6_follow Z (d - 1) (by omega) x9 v15 x8 v16 h14) (by omega) rfl rfl (Nat.le_of_ble_eq_true rfl) (fun v17 h18 => ?_)
      refine ph_istore_n (i := 2) (ls1 := [some (.ref (ph_a Z 25)), none, some (.int v17), some (.int x9)]) (pc := 80) dX6_perform_80 rfl (by decide) rfl ?_
      refine ph_aload_n (i := 0) (pc := 81) dX6_perform_81 rfl rfl ?_
      refine ph_getR (j := 40) (pc := 82) dX6_perform_82 ph_fl_RX6_39 rfl rfl rfl ?_
      refine ph_iload_n (i := 3) (pc := 85) dX6_perform_85 rfl rfl ?_
      refine ph_iload_n (i := 2) (pc := 86) dX6_perform_86 rfl rfl ?_
      refine ph_iast (pc := 87) dX6_perform_87 rfl rfl (fun h19 => ?_)
      refine ph_iinc (i := 3) (v := (nI 1)) (ls1 := [some (.ref (ph_a Z 25)), none, some (.int v17), some (.int (x9 + (nI 1)))]) (pc := 88) dX6_perform_88 rfl ph_ic_1 (by decide) rfl ?_
      refine ph_goto (tgt := 44) (pc := 91) dX6_perform_91 (by decide) ?_
      exact hj7 (v17, x9 + (nI 1), h19)
  · refine ph_aload_n (i := 0) (pc := 10) dX6_perform_10 rfl rfl ?_
    refine ph_getR (j := 36) (pc := 11) dX6_perform_11 ph_fl_RX6_25 rfl rfl rfl ?_
    refine ph_iload_n (i := 2) (pc := 14) dX6_perform_14 rfl rfl ?_
    refine ph_iald (pc := 15) dX6_perform_15 rfl rfl (fun v20 => ?_)
    refine ph_iconst (v := (-1)) (pc := 16) dX6_perform_16 ph_ic_m1 ?_
    refine ph_join (α := Int32) 27 (fun x => [some (.ref (ph_a Z 25)), some (.int x), some (.int x4), none]) (fun x => []) (fun x => h5) (fun x => ?_) (fun j21 hj21 => ?_)
    · revert x; intro x22
      refine ph_aload_n (i := 0) (pc := 27) dX6_perform_27 rfl rfl ?_
      refine ph_getR (j := 36) (pc := 28) dX6_perform_28 ph_fl_RX6_25 rfl rfl rfl ?_
      refine ph_iload_n (i := 2) (pc := 31) dX6_perform_31 rfl rfl ?_
      refine ph_iload_n (i := 1) (pc := 32) dX6_perform_32 rfl rfl ?_
      refine ph_iast (pc := 33) dX6_perform_33 rfl rfl (fun h23 => ?_)
      refine ph_iinc (i := 2) (v := (nI 1)) (ls1 := [some (.ref (ph_a Z 25)), some (.int x22), some (.int (x4 + (nI 1))), none]) (pc := 34) dX6_perform_34 rfl ph_ic_1 (by decide) rfl ?_
      refine ph_goto (tgt := 4) (pc := 37) dX6_perform_37 (by decide) ?_
      exact hj2 (x22, x4 + (nI 1), h23)
    · refine ph_icmp_eq (tgt := 27) (pc := 17) dX6_perform_17 (by decide) (fun c24 => ?_) (fun c24 => ?_)
      · exact hj21 x3
      · refine ph_aload_n (i := 0) (pc := 20) dX6_perform_20 rfl rfl ?_
        refine ph_getR (j := 36) (pc := 21) dX6_perform_21 ph_fl_RX6_25 rfl rfl rfl ?_
        refine ph_iload_n (i := 2) (pc := 24) dX6_perform_24 rfl rfl ?_
        refine ph_iald (pc := 25) dX6_perform_25 rfl rfl (fun v25 => ?_)
        refine ph_istore_n (i := 1) (ls1 := [some (.ref (ph_a Z 25)), some (.int v25), some (.int x4), none]) (pc := 26) dX6_perform_26 rfl (by decide) rfl ?_
        exact hj21 v25
def f_X6_playedIn (x1 : Int32) (h : ph_Hp) : Option (Int32 × ph_Hp) :=
  if x1 < nI 0 then
    some ((-1), h)
  else
    if (nI 40) ≤ x1 then
      some ((-1), h)
    else
      ph_ldI h 40 40 x1 fun v5 =>
      some (v5, h)
set_option maxRecDepth 100000 in
theorem c_X6_playedIn (Z : ph_L) (d : Nat) (hdd : 0 ≤ d) (x1 : Int32) (h : ph_Hp) : ph_CM Z yX6_playedIn cX6_playedIn 2 (some .int) d [.ref (ph_a Z 25), .int x1] ph_vi h (f_X6_playedIn x1 h) := by
  refine ph_begin (own := RX6) ph_mf_yX6_playedIn rfl (ls := [some (.ref (ph_a Z 25)), some (.int x1)]) rfl (Nat.le_of_ble_eq_true rfl) ?_
  unfold f_X6_playedIn
  refine ph_iload_n (i := 1) (pc := 0) dX6_playedIn_0 rfl rfl ?_
  refine ph_if_lt (tgt := 19) (pc := 1) dX6_playedIn_1 (by decide) (fun c3 => ?_) (fun c3 => ?_)
  · refine ph_iconst (v := (-1)) (pc := 19) dX6_playedIn_19 ph_ic_m1 ?_
    exact ph_iret (pc := 20) dX6_playedIn_20 rfl
  · refine ph_iload_n (i := 1) (pc := 4) dX6_playedIn_4 rfl rfl ?_
    refine ph_bipush (v := (nI 40)) (pc := 5) dX6_playedIn_5 ph_bp_40 ?_
    refine ph_icmp_ge (tgt := 19) (pc := 7) dX6_playedIn_7 (by decide) (fun c4 => ?_) (fun c4 => ?_)
    · refine ph_iconst (v := (-1)) (pc := 19) dX6_playedIn_19 ph_ic_m1 ?_
      exact ph_iret (pc := 20) dX6_playedIn_20 rfl
    · refine ph_aload_n (i := 0) (pc := 10) dX6_playedIn_10 rfl rfl ?_
      refine ph_getR (j := 40) (pc := 11) dX6_playedIn_11 ph_fl_RX6_39 rfl rfl rfl ?_
      refine ph_iload_n (i := 1) (pc := 14) dX6_playedIn_14 rfl rfl ?_
      refine ph_iald (pc := 15) dX6_playedIn_15 rfl rfl (fun v5 => ?_)
      refine ph_goto (tgt := 20) (pc := 16) dX6_playedIn_16 (by decide) ?_
      exact ph_iret (pc := 20) dX6_playedIn_20 rfl
def f_X6_rehearse (x1 : Int32) (x2 : Int32) (h : ph_Hp) : Option (Unit × ph_Hp) :=
  ph_cl (f_X6_byIn x1 h) fun v5 h6 =>
  ph_cl (f_X6_coughsIn x1 h6) fun v7 h8 =>
  ph_jn (α := Int32) (fun x10 =>
    ph_lp (α := Int32 × Int32 × ph_Hp) (fun j11 (x12, x13, h14) =>
      if (nI 40) ≤ x13 then
        some ((), h14)
      else
        if (nI 40) ≤ x13 then
          some ((), h14)
        else
          ph_jn (α := Int32) (fun x18 =>
            ph_jn (α := Int32 × ph_Hp) (fun (x20, h21) =>
              ph_stI h21 45 40 x13 x20 fun h22 =>
              j11 (x20, x13 + (nI 1), h22)) (fun j19 =>
              if x10 ≤ x13 then
                ph_ldI h14 39 40 x13 fun v24 =>
                ph_cl (f_X6_follow x13 v24 x12 x18 h14) fun v25 h26 =>
                j19 (v25, h26)
              else
                ph_ldI h14 40 40 x13 fun v27 =>
                j19 (v27, h14))) (fun j17 =>
            if x13 = x10 then
              ph_ldI h14 37 40 x13 fun v30 =>
              j17 (v30 ||| x2)
            else
              ph_ldI h14 37 40 x13 fun v29 =>
              j17 v29)) ph_fu ((-1), (nI 0), h8)) (fun j9 =>
    ph_jn (α := Unit) (fun _x =>
      j9 (nI 40)) (fun j31 =>
      if v5 = (-1) then
        j31 ()
      else
        if ((ph_shr (x2 &&& (v7 ^^^ (-1))) v5) &&& (nI 1)) = nI 0 then
          j31 ()
        else
          j9 x1))
set_option maxRecDepth 100000 in
theorem c_X6_rehearse (Z : ph_L) (d : Nat) (hdd : 2 ≤ d) (x1 : Int32) (x2 : Int32) (h : ph_Hp) : ph_CM Z yX6_rehearse cX6_rehearse 10 none d [.ref (ph_a Z 25), .int x1, .int x2, .ref (ph_a Z 45)] ph_vv h (f_X6_rehearse x1 x2 h) := by
  refine ph_begin (own := RX6) ph_mf_yX6_rehearse rfl (ls := [some (.ref (ph_a Z 25)), some (.int x1), some (.int x2), some (.ref (ph_a Z 45)), none, none, none, none, none, none]) rfl (Nat.le_of_ble_eq_true rfl) ?_
  unfold f_X6_rehearse
  refine ph_aload_n (i := 0) (pc := 0) dX6_rehearse_0 rfl rfl ?_
  refine ph_iload_n (i := 1) (pc := 1) dX6_rehearse_1 rfl rfl ?_
  refine ph_callVi (pc := 2) dX6_rehearse_2 ph_mf_yX6_byIn ph_ml_RX6_107 ph_mi_yX6_byIn ph_mv_yX6_byIn rfl rfl (c_X6_byIn Z (d - 1) (by omega) x1 h) (by omega) rfl rfl (Nat.le_of_ble_eq_true rfl) (fun v5 h6 => ?_)
  refine ph_istore (i := 4) (ls1 := [some (.ref (ph_a Z 25)), some (.int x1), some (.int x2), some (.ref (ph_a Z 45)), some (.int v5), none, none, none, none, none]) (pc := 5) dX6_rehearse_5 (by decide) rfl ?_
  refine ph_iload_n (i := 2) (pc := 7) dX6_rehearse_7 rfl rfl ?_
  refine ph_aload_n (i := 0) (pc := 8) dX6_rehearse_8 rfl rfl ?_
  refine ph_iload_n (i := 1) (pc := 9) dX6_rehearse_9 rfl rfl ?_
  refine ph_callVi (pc := 10) dX6_rehearse_10 ph_mf_yX6_coughsIn ph_ml_RX6_110 ph_mi_yX6_coughsIn ph_mv_yX6_coughsIn rfl rfl (c_X6_coughsIn Z (d - 1) (by omega) x1 h6) (by omega) rfl rfl (Nat.le_of_ble_eq_true rfl) (fun v7 h8 => ?_)
  refine ph_iconst (v := (-1)) (pc := 13) dX6_rehearse_13 ph_ic_m1 ?_
  refine ph_ixor (pc := 14) dX6_rehearse_14 ?_
  refine ph_iand (pc := 15) dX6_rehearse_15 ?_
  refine ph_istore (i := 5) (ls1 := [some (.ref (ph_a Z 25)), some (.int x1), some (.int x2), some (.ref (ph_a Z 45)), some (.int v5), some (.int (x2 &&& (v7 ^^^ (-1)))), none, none, none, none]) (pc := 16) dX6_rehearse_16 (by decide) rfl ?_
  refine ph_iload (i := 4) (pc := 18) dX6_rehearse_18 rfl ?_
  refine ph_iconst (v := (-1)) (pc := 20) dX6_rehearse_20 ph_ic_m1 ?_
  refine ph_join (α := Int32) 40 (fun x => [some (.ref (ph_a Z 25)), none, some (.int x2), some (.ref (ph_a Z 45)), none, none, none, none, none, none]) (fun x => [.int x]) (fun x => h8) (fun x => ?_) (fun j9 hj9 => ?_)
  · revert x; intro x10
    refine ph_istore (i := 6) (ls1 := [some (.ref (ph_a Z 25)), none, some (.int x2), some (.ref (ph_a Z 45)), none, none, some (.int x10), none, none, none]) (pc := 40) dX6_rehearse_40 (by decide) rfl ?_
    refine ph_iconst (v := (-1)) (pc := 42) dX6_rehearse_42 ph_ic_m1 ?_
    refine ph_istore (i := 7) (ls1 := [some (.ref (ph_a Z 25)), none, some (.int x2), some (.ref (ph_a Z 45)), none, none, some (.int x10), some (.int (-1)), none, none]) (pc := 43) dX6_rehearse_43 (by decide) rfl ?_
    refine ph_iconst (v := (nI 0)) (pc := 45) dX6_rehearse_45 ph_ic_0 ?_
    refine ph_istore (i := 8) (ls1 := [some (.ref (ph_a Z 25)), none, some (.int x2), some (.ref (ph_a Z 45)), none, none, some (.int x10), some (.int (-1)), some (.int (nI 0)), none]) (pc := 46) dX6_rehearse_46 (by decide) rfl ?_
    refine ph_loop (α := Int32 × Int32 × ph_Hp) 48 (fun x => [some (.ref (ph_a Z 25)), none, some (.int x2), some (.ref (ph_a Z 45)), none, none, some (.int x10), some (.int x.1), some (.int x.2.1), none]) (fun x => []) (fun x => x.2.2) (fun j11 hj11 x => ?_) ph_fu ((-1), (nI 0), h8)
    obtain ⟨x12, x13, h14⟩ := x
    dsimp only
    refine ph_iload (i := 8) (pc := 48) dX6_rehearse_48 rfl ?_
    refine ph_bipush (v := (nI 40)) (pc := 50) dX6_rehearse_50 ph_bp_40 ?_
    refine ph_icmp_ge (tgt := 138) (pc := 52) dX6_rehearse_52 (by decide) (fun c15 => ?_) (fun c15 => ?_)
    · exact ph_vret (pc := 138) dX6_rehearse_138 rfl
    · refine ph_iload (i := 8) (pc := 55) dX6_rehearse_55 rfl ?_
      refine ph_aload_n (i := 3) (pc := 57) dX6_rehearse_57 rfl rfl ?_
      refine ph_alen (v := nI 40) (pc := 58) dX6_rehearse_58 rfl rfl ?_
      refine ph_icmp_ge (tgt := 138) (pc := 59) dX6_rehearse_59 (by decide) (fun c16 => ?_) (fun c16 => ?_)
      · exact ph_vret (pc := 138) dX6_rehearse_138 rfl
      · refine ph_iload (i := 8) (pc := 62) dX6_rehearse_62 rfl ?_
        refine ph_iload (i := 6) (pc := 64) dX6_rehearse_64 rfl ?_
        refine ph_join (α := Int32) 88 (fun x => [some (.ref (ph_a Z 25)), none, some (.int x2), some (.ref (ph_a Z 45)), none, none, some (.int x10), some (.int x12), some (.int x13), none]) (fun x => [.int x]) (fun x => h14) (fun x => ?_) (fun j17 hj17 => ?_)
        · revert x; intro x18
          refine ph_istore (i := 9) (ls1 := [some (.ref (ph_a Z 25)), none, some (.int x2), some (.ref (ph_a Z 45)), none, none, some (.int x10), some (.int x12), some (.int x13), some (.int x18)]) (pc := 88) dX6_rehearse_88 (by decide) rfl ?_
          refine ph_iload (i := 8) (pc := 90) dX6_rehearse_90 rfl ?_
          refine ph_iload (i := 6) (pc := 92) dX6_rehearse_92 rfl ?_
          refine ph_join (α := Int32 × ph_Hp) 124 (fun x => [some (.ref (ph_a Z 25)), none, some (.int x2), some (.ref (ph_a Z 45)), none, none, some (.int x10), none, some (.int x13), none]) (fun x => [.int x.1]) (fun x => x.2) (fun x => ?_) (fun j19 hj19 => ?_)
          · obtain ⟨x20, h21⟩ := x
            dsimp only
            refine ph_istore (i := 7) (ls1 := [some (.ref (ph_a Z 25)), none, some (.int x2), some (.ref (ph_a Z 45)), none, none, some (.int x10), some (.int x20), some (.int x13), none]) (pc := 124) dX6_rehearse_124 (by decide) rfl ?_
            refine ph_aload_n (i := 3) (pc := 126) dX6_rehearse_126 rfl rfl ?_
            refine ph_iload (i := 8) (pc := 127) dX6_rehearse_127 rfl ?_
            refine ph_iload (i := 7) (pc := 129) dX6_rehearse_129 rfl ?_
            refine ph_iast (pc := 131) dX6_rehearse_131 rfl rfl (fun h22 => ?_)
            refine ph_iinc (i := 8) (v := (nI 1)) (ls1 := [some (.ref (ph_a Z 25)), none, some (.int x2), some (.ref (ph_a Z 45)), none, none, some (.int x10), some (.int x20), some (.int (x13 + (nI 1))), none]) (pc := 132) dX6_rehearse_132 rfl ph_ic_1 (by decide) rfl ?_
            refine ph_goto (tgt := 48) (pc := 135) dX6_rehearse_135 (by decide) ?_
            exact hj11 (x20, x13 + (nI 1), h22)
          · refine ph_icmp_ge (tgt := 107) (pc := 94) dX6_rehearse_94 (by decide) (fun c23 => ?_) (fun c23 => ?_)
            · refine ph_aload_n (i := 0) (pc := 107) dX6_rehearse_107 rfl rfl ?_
              refine ph_iload (i := 8) (pc := 108) dX6_rehearse_108 rfl ?_
              refine ph_aload_n (i := 0) (pc := 110) dX6_rehearse_110 rfl rfl ?_
              refine ph_getR (j := 39) (pc := 111) dX6_rehearse_111 ph_fl_RX6_36 rfl rfl rfl ?_
              refine ph_iload (i := 8) (pc := 114) dX6_rehearse_114 rfl ?_
              refine ph_iald (pc := 116) dX6_rehearse_116 rfl rfl (fun v24 => ?_)
              refine ph_iload (i := 7) (pc := 117) dX6_rehearse_117 rfl ?_
              refine ph_iload (i := 9) (pc := 119) dX6_rehearse_119 rfl ?_
              refine ph_callVi (pc := 121) dX6_rehearse_121 ph_mf_yX6_follow ph_ml_RX6_63 ph_mi_yX6_follow ph_mv_yX6_follow rfl rfl (c_X6_follow Z (d - 1) (by omega) x13 v24 x12 x18 h14) (by omega) rfl rfl (Nat.le_of_ble_eq_true rfl) (fun v25 h26 => ?_)
              refine ph_wk (ls1 := [some (.ref (ph_a Z 25)), none, some (.int x2), some (.ref (ph_a Z 45)), none, none, some (.int x10), none, some (.int x13), none]) ⟨rfl, ⟨rfl, ⟨rfl, ⟨rfl, ⟨rfl, trivial⟩⟩⟩⟩⟩ ?_
              exact hj19 (v25, h26)
            · refine ph_aload_n (i := 0) (pc := 97) dX6_rehearse_97 rfl rfl ?_
              refine ph_getR (j := 40) (pc := 98) dX6_rehearse_98 ph_fl_RX6_39 rfl rfl rfl ?_
              refine ph_iload (i := 8) (pc := 101) dX6_rehearse_101 rfl ?_
              refine ph_iald (pc := 103) dX6_rehearse_103 rfl rfl (fun v27 => ?_)
              refine ph_goto (tgt := 124) (pc := 104) dX6_rehearse_104 (by decide) ?_
              refine ph_wk (ls1 := [some (.ref (ph_a Z 25)), none, some (.int x2), some (.ref (ph_a Z 45)), none, none, some (.int x10), none, some (.int x13), none]) ⟨rfl, ⟨rfl, ⟨rfl, ⟨rfl, ⟨rfl, trivial⟩⟩⟩⟩⟩ ?_
              exact hj19 (v27, h14)
        · refine ph_icmp_ne (tgt := 81) (pc := 66) dX6_rehearse_66 (by decide) (fun c28 => ?_) (fun c28 => ?_)
          · refine ph_aload_n (i := 0) (pc := 81) dX6_rehearse_81 rfl rfl ?_
            refine ph_getR (j := 37) (pc := 82) dX6_rehearse_82 ph_fl_RX6_29 rfl rfl rfl ?_
            refine ph_iload (i := 8) (pc := 85) dX6_rehearse_85 rfl ?_
            refine ph_iald (pc := 87) dX6_rehearse_87 rfl rfl (fun v29 => ?_)
            exact hj17 v29
          · refine ph_aload_n (i := 0) (pc := 69) dX6_rehearse_69 rfl rfl ?_
            refine ph_getR (j := 37) (pc := 70) dX6_rehearse_70 ph_fl_RX6_29 rfl rfl rfl ?_
            refine ph_iload (i := 8) (pc := 73) dX6_rehearse_73 rfl ?_
            refine ph_iald (pc := 75) dX6_rehearse_75 rfl rfl (fun v30 => ?_)
            refine ph_iload_n (i := 2) (pc := 76) dX6_rehearse_76 rfl rfl ?_
            refine ph_ior (pc := 77) dX6_rehearse_77 ?_
            refine ph_goto (tgt := 88) (pc := 78) dX6_rehearse_78 (by decide) ?_
            exact hj17 (v30 ||| x2)
  · refine ph_join (α := Unit) 38 (fun x => [some (.ref (ph_a Z 25)), none, some (.int x2), some (.ref (ph_a Z 45)), none, none, none, none, none, none]) (fun x => []) (fun x => h8) (fun x => ?_) (fun j31 hj31 => ?_)
    · refine ph_bipush (v := (nI 40)) (pc := 38) dX6_rehearse_38 ph_bp_40 ?_
      exact hj9 (nI 40)
    · refine ph_icmp_eq (tgt := 38) (pc := 21) dX6_rehearse_21 (by decide) (fun c32 => ?_) (fun c32 => ?_)
      · refine ph_wk (ls1 := [some (.ref (ph_a Z 25)), none, some (.int x2), some (.ref (ph_a Z 45)), none, none, none, none, none, none]) ⟨rfl, ⟨rfl, ⟨rfl, trivial⟩⟩⟩ ?_
        exact hj31 ()
      · refine ph_iload (i := 5) (pc := 24) dX6_rehearse_24 rfl ?_
        refine ph_iload (i := 4) (pc := 26) dX6_rehearse_26 rfl ?_
        refine ph_ishr (pc := 28) dX6_rehearse_28 ?_
        refine ph_iconst (v := (nI 1)) (pc := 29) dX6_rehearse_29 ph_ic_1 ?_
        refine ph_iand (pc := 30) dX6_rehearse_30 ?_
        refine ph_if_eq (tgt := 38) (pc := 31) dX6_rehearse_31 (by decide) (fun c33 => ?_) (fun c33 => ?_)
        · refine ph_wk (ls1 := [some (.ref (ph_a Z 25)), none, some (.int x2), some (.ref (ph_a Z 45)), none, none, none, none, none, none]) ⟨rfl, ⟨rfl, ⟨rfl, trivial⟩⟩⟩ ?_
          exact hj31 ()
        · refine ph_iload_n (i := 1) (pc := 34) dX6_rehearse_34 rfl rfl ?_
          refine ph_goto (tgt := 40) (pc := 35) dX6_rehearse_35 (by decide) ?_
          refine ph_wk (ls1 := [some (.ref (ph_a Z 25)), none, some (.int x2), some (.ref (ph_a Z 45)), none, none, none, none, none, none]) ⟨rfl, ⟨rfl, ⟨rfl, trivial⟩⟩⟩ ?_
          exact hj9 x1
def f_X6_rehearseFiled (x1 : Int32) (h : ph_Hp) : Option (Unit × ph_Hp) :=
  ph_lp (α := Int32 × Int32 × ph_Hp) (fun j4 (x5, x6, h7) =>
    if (nI 40) ≤ x6 then
      some ((), h7)
    else
      if (nI 40) ≤ x6 then
        some ((), h7)
      else
        ph_cl (f_X6_nearest x6 x1 h7) fun v10 h11 =>
        ph_ldI h11 37 40 x6 fun v12 =>
        ph_cl (f_X6_follow x6 v10 x5 v12 h11) fun v13 h14 =>
        ph_stI h14 45 40 x6 v13 fun h15 =>
        j4 (v13, x6 + (nI 1), h15)) ph_fu ((-1), (nI 0), h)
set_option maxRecDepth 100000 in
theorem c_X6_rehearseFiled (Z : ph_L) (d : Nat) (hdd : 3 ≤ d) (x1 : Int32) (h : ph_Hp) : ph_CM Z yX6_rehearseFiled cX6_rehearseFiled 5 none d [.ref (ph_a Z 25), .int x1, .ref (ph_a Z 45)] ph_vv h (f_X6_rehearseFiled x1 h) := by
  refine ph_begin (own := RX6) ph_mf_yX6_rehearseFiled rfl (ls := [some (.ref (ph_a Z 25)), some (.int x1), some (.ref (ph_a Z 45)), none, none]) rfl (Nat.le_of_ble_eq_true rfl) ?_
  unfold f_X6_rehearseFiled
  refine ph_iconst (v := (-1)) (pc := 0) dX6_rehearseFiled_0 ph_ic_m1 ?_
  refine ph_istore_n (i := 3) (ls1 := [some (.ref (ph_a Z 25)), some (.int x1), some (.ref (ph_a Z 45)), some (.int (-1)), none]) (pc := 1) dX6_rehearseFiled_1 rfl (by decide) rfl ?_
  refine ph_iconst (v := (nI 0)) (pc := 2) dX6_rehearseFiled_2 ph_ic_0 ?_
  refine ph_istore (i := 4) (ls1 := [some (.ref (ph_a Z 25)), some (.int x1), some (.ref (ph_a Z 45)), some (.int (-1)), some (.int (nI 0))]) (pc := 3) dX6_rehearseFiled_3 (by decide) rfl ?_
  refine ph_loop (α := Int32 × Int32 × ph_Hp) 5 (fun x => [some (.ref (ph_a Z 25)), some (.int x1), some (.ref (ph_a Z 45)), some (.int x.1), some (.int x.2.1)]) (fun x => []) (fun x => x.2.2) (fun j4 hj4 x => ?_) ph_fu ((-1), (nI 0), h)
  obtain ⟨x5, x6, h7⟩ := x
  dsimp only
  refine ph_iload (i := 4) (pc := 5) dX6_rehearseFiled_5 rfl ?_
  refine ph_bipush (v := (nI 40)) (pc := 7) dX6_rehearseFiled_7 ph_bp_40 ?_
  refine ph_icmp_ge (tgt := 52) (pc := 9) dX6_rehearseFiled_9 (by decide) (fun c8 => ?_) (fun c8 => ?_)
  · exact ph_vret (pc := 52) dX6_rehearseFiled_52 rfl
  · refine ph_iload (i := 4) (pc := 12) dX6_rehearseFiled_12 rfl ?_
    refine ph_aload_n (i := 2) (pc := 14) dX6_rehearseFiled_14 rfl rfl ?_
    refine ph_alen (v := nI 40) (pc := 15) dX6_rehearseFiled_15 rfl rfl ?_
    refine ph_icmp_ge (tgt := 52) (pc := 16) dX6_rehearseFiled_16 (by decide) (fun c9 => ?_) (fun c9 => ?_)
    · exact ph_vret (pc := 52) dX6_rehearseFiled_52 rfl
    · refine ph_aload_n (i := 0) (pc := 19) dX6_rehearseFiled_19 rfl rfl ?_
      refine ph_iload (i := 4) (pc := 20) dX6_rehearseFiled_20 rfl ?_
      refine ph_aload_n (i := 0) (pc := 22) dX6_rehearseFiled_22 rfl rfl ?_
      refine ph_iload (i := 4) (pc := 23) dX6_rehearseFiled_23 rfl ?_
      refine ph_iload_n (i := 1) (pc := 25) dX6_rehearseFiled_25 rfl rfl ?_
      refine ph_callVi (pc := 26) dX6_rehearseFiled_26 ph_mf_yX6_nearest ph_ml_RX6_59 ph_mi_yX6_nearest ph_mv_yX6_nearest rfl rfl (c_X6_nearest Z (d - 1) (by omega) x6 x1 h7) (by omega) rfl rfl (Nat.le_of_ble_eq_true rfl) (fun v10 h11 => ?_)
      refine ph_iload_n (i := 3) (pc := 29) dX6_rehearseFiled_29 rfl rfl ?_
      refine ph_aload_n (i := 0) (pc := 30) dX6_rehearseFiled_30 rfl rfl ?_
      refine ph_getR (j := 37) (pc := 31) dX6_rehearseFiled_31 ph_fl_RX6_29 rfl rfl rfl ?_
      refine ph_iload (i := 4) (pc := 34) dX6_rehearseFiled_34 rfl ?_
      refine ph_iald (pc := 36) dX6_rehearseFiled_36 rfl rfl (fun v12 => ?_)
      refine ph_callVi (pc := 37) dX6_rehearseFiled_37 ph_mf_yX6_follow ph_ml_RX6_63 ph_mi_yX6_follow ph_mv_yX6_follow rfl rfl (c_X6_follow Z (d - 1) (by omega) x6 v10 x5 v12 h11) (by omega) rfl rfl (Nat.le_of_ble_eq_true rfl) (fun v13 h14 => ?_)
      refine ph_istore_n (i := 3) (ls1 := [some (.ref (ph_a Z 25)), some (.int x1), some (.ref (ph_a Z 45)), some (.int v13), some (.int x6)]) (pc := 40) dX6_rehearseFiled_40 rfl (by decide) rfl ?_
      refine ph_aload_n (i := 2) (pc := 41) dX6_rehearseFiled_41 rfl rfl ?_
      refine ph_iload (i := 4) (pc := 42) dX6_rehearseFiled_42 rfl ?_
      refine ph_iload_n (i := 3) (pc := 44) dX6_rehearseFiled_44 rfl rfl ?_
      refine ph_iast (pc := 45) dX6_rehearseFiled_45 rfl rfl (fun h15 => ?_)
      refine ph_iinc (i := 4) (v := (nI 1)) (ls1 := [some (.ref (ph_a Z 25)), some (.int x1), some (.ref (ph_a Z 45)), some (.int v13), some (.int (x6 + (nI 1)))]) (pc := 46) dX6_rehearseFiled_46 rfl ph_ic_1 (by decide) rfl ?_
      refine ph_goto (tgt := 5) (pc := 49) dX6_rehearseFiled_49 (by decide) ?_
      exact hj4 (v13, x6 + (nI 1), h15)
def f_X8_bitOf (x1 : Int32) (h : ph_Hp) : Option (Int32 × ph_Hp) :=
  ph_cl (f_X8_within x1 (nI 8) h) fun v3 h4 =>
  if v3 = nI 0 then
    some ((nI 0), h4)
  else
    some (ph_shl (nI 1) x1, h4)
set_option maxRecDepth 100000 in
theorem c_X8_bitOf (Z : ph_L) (d : Nat) (hdd : 1 ≤ d) (x1 : Int32) (h : ph_Hp) : ph_CM Z yX8_bitOf cX8_bitOf 1 (some .int) d [.int x1] ph_vi h (f_X8_bitOf x1 h) := by
  refine ph_begin (own := RX8) ph_mf_yX8_bitOf rfl (ls := [some (.int x1)]) rfl (Nat.le_of_ble_eq_true rfl) ?_
  unfold f_X8_bitOf
  refine ph_iload_n (i := 0) (pc := 0) dX8_bitOf_0 rfl rfl ?_
  refine ph_bipush (v := (nI 8)) (pc := 1) dX8_bitOf_1 ph_bp_8 ?_
  refine ph_callSi (pc := 3) dX8_bitOf_3 ph_mf_yX8_within ph_ml_RX8_80 ph_ms_yX8_within (c_X8_within Z (d - 1) (by omega) x1 (nI 8) h) (by omega) rfl rfl (Nat.le_of_ble_eq_true rfl) (fun v3 h4 => ?_)
  refine ph_if_eq (tgt := 15) (pc := 6) dX8_bitOf_6 (by decide) (fun c5 => ?_) (fun c5 => ?_)
  · refine ph_iconst (v := (nI 0)) (pc := 15) dX8_bitOf_15 ph_ic_0 ?_
    exact ph_iret (pc := 16) dX8_bitOf_16 rfl
  · refine ph_iconst (v := (nI 1)) (pc := 9) dX8_bitOf_9 ph_ic_1 ?_
    refine ph_iload_n (i := 0) (pc := 10) dX8_bitOf_10 rfl rfl ?_
    refine ph_ishl (pc := 11) dX8_bitOf_11 ?_
    refine ph_goto (tgt := 16) (pc := 12) dX8_bitOf_12 (by decide) ?_
    exact ph_iret (pc := 16) dX8_bitOf_16 rfl
def f_X6_leadingInto (x1 : Int32) (x2 : Int32) (h : ph_Hp) : Option (Int32 × ph_Hp) :=
  ph_cl (f_X6_byIn x1 h) fun v4 h5 =>
  ph_cl (f_X6_coughsIn x1 h5) fun v6 h7 =>
  ph_lp (α := Int32 × Int32 × ph_Hp) (fun j8 (x9, x10, h11) =>
    if (nI 8) ≤ x10 then
      some (x9, h11)
    else
      ph_cl (f_X6_follow x1 v4 x10 v6 h11) fun v13 h14 =>
      ph_cl (f_X8_bitOf v13 h14) fun v15 h16 =>
      ph_jn (α := Int32) (fun x18 =>
        j8 (x18, x10 + (nI 1), h16)) (fun j17 =>
        if (v15 &&& x2) = nI 0 then
          j17 x9
        else
          j17 (x9 ||| (ph_shl (nI 1) x10)))) ph_fu ((nI 0), (nI 0), h7)
set_option maxRecDepth 100000 in
theorem c_X6_leadingInto (Z : ph_L) (d : Nat) (hdd : 2 ≤ d) (x1 : Int32) (x2 : Int32) (h : ph_Hp) : ph_CM Z yX6_leadingInto cX6_leadingInto 7 (some .int) d [.ref (ph_a Z 25), .int x1, .int x2] ph_vi h (f_X6_leadingInto x1 x2 h) := by
  refine ph_begin (own := RX6) ph_mf_yX6_leadingInto rfl (ls := [some (.ref (ph_a Z 25)), some (.int x1), some (.int x2), none, none, none, none]) rfl (Nat.le_of_ble_eq_true rfl) ?_
  unfold f_X6_leadingInto
  refine ph_aload_n (i := 0) (pc := 0) dX6_leadingInto_0 rfl rfl ?_
  refine ph_iload_n (i := 1) (pc := 1) dX6_leadingInto_1 rfl rfl ?_
  refine ph_callVi (pc := 2) dX6_leadingInto_2 ph_mf_yX6_byIn ph_ml_RX6_107 ph_mi_yX6_byIn ph_mv_yX6_byIn rfl rfl (c_X6_byIn Z (d - 1) (by omega) x1 h) (by omega) rfl rfl (Nat.le_of_ble_eq_true rfl) (fun v4 h5 => ?_)
  refine ph_istore_n (i := 3) (ls1 := [some (.ref (ph_a Z 25)), some (.int x1), some (.int x2), some (.int v4), none, none, none]) (pc := 5) dX6_leadingInto_5 rfl (by decide) rfl ?_
  refine ph_aload_n (i := 0) (pc := 6) dX6_leadingInto_6 rfl rfl ?_
  refine ph_iload_n (i := 1) (pc := 7) dX6_leadingInto_7 rfl rfl ?_
  refine ph_callVi (pc := 8) dX6_leadingInto_8 ph_mf_yX6_coughsIn ph_ml_RX6_110 ph_mi_yX6_coughsIn ph_mv_yX6_coughsIn rfl rfl (c_X6_coughsIn Z (d - 1) (by omega) x1 h5) (by omega) rfl rfl (Nat.le_of_ble_eq_true rfl) (fun v6 h7 => ?_)
  refine ph_istore (i := 4) (ls1 := [some (.ref (ph_a Z 25)), some (.int x1), some (.int x2), some (.int v4), some (.int v6), none, none]) (pc := 11) dX6_leadingInto_11 (by decide) rfl ?_
  refine ph_iconst (v := (nI 0)) (pc := 13) dX6_leadingInto_13 ph_ic_0 ?_
  refine ph_istore (i := 5) (ls1 := [some (.ref (ph_a Z 25)), some (.int x1), some (.int x2), some (.int v4), some (.int v6), some (.int (nI 0)), none]) (pc := 14) dX6_leadingInto_14 (by decide) rfl ?_
  refine ph_iconst (v := (nI 0)) (pc := 16) dX6_leadingInto_16 ph_ic_0 ?_
  refine ph_istore (i := 6) (ls1 := [some (.ref (ph_a Z 25)), some (.int x1), some (.int x2), some (.int v4), some (.int v6), some (.int (nI 0)), some (.int (nI 0))]) (pc := 17) dX6_leadingInto_17 (by decide) rfl ?_
  refine ph_loop (α := Int32 × Int32 × ph_Hp) 19 (fun x => [some (.ref (ph_a Z 25)), some (.int x1), some (.int x2), some (.int v4), some (.int v6), some (.int x.1), some (.int x.2.1)]) (fun x => []) (fun x => x.2.2) (fun j8 hj8 x => ?_) ph_fu ((nI 0), (nI 0), h7)
  obtain ⟨x9, x10, h11⟩ := x
  dsimp only
  refine ph_iload (i := 6) (pc := 19) dX6_leadingInto_19 rfl ?_
  refine ph_bipush (v := (nI 8)) (pc := 21) dX6_leadingInto_21 ph_bp_8 ?_
  refine ph_icmp_ge (tgt := 59) (pc := 23) dX6_leadingInto_23 (by decide) (fun c12 => ?_) (fun c12 => ?_)
  · refine ph_iload (i := 5) (pc := 59) dX6_leadingInto_59 rfl ?_
    exact ph_iret (pc := 61) dX6_leadingInto_61 rfl
  · refine ph_aload_n (i := 0) (pc := 26) dX6_leadingInto_26 rfl rfl ?_
    refine ph_iload_n (i := 1) (pc := 27) dX6_leadingInto_27 rfl rfl ?_
    refine ph_iload_n (i := 3) (pc := 28) dX6_leadingInto_28 rfl rfl ?_
    refine ph_iload (i := 6) (pc := 29) dX6_leadingInto_29 rfl ?_
    refine ph_iload (i := 4) (pc := 31) dX6_leadingInto_31 rfl ?_
    refine ph_callVi (pc := 33) dX6_leadingInto_33 ph_mf_yX6_follow ph_ml_RX6_63 ph_mi_yX6_follow ph_mv_yX6_follow rfl rfl (c_X6_follow Z (d - 1) (by omega) x1 v4 x10 v6 h11) (by omega) rfl rfl (Nat.le_of_ble_eq_true rfl) (fun v13 h14 => ?_)
    refine ph_callSi (pc := 36) dX6_leadingInto_36 ph_mf_yX8_bitOf ph_ml_RX6_113 ph_ms_yX8_bitOf (c_X8_bitOf Z (d - 1) (by omega) v13 h14) (by omega) rfl rfl (Nat.le_of_ble_eq_true rfl) (fun v15 h16 => ?_)
    refine ph_iload_n (i := 2) (pc := 39) dX6_leadingInto_39 rfl rfl ?_
    refine ph_iand (pc := 40) dX6_leadingInto_40 ?_
    refine ph_join (α := Int32) 53 (fun x => [some (.ref (ph_a Z 25)), some (.int x1), some (.int x2), some (.int v4), some (.int v6), some (.int x), some (.int x10)]) (fun x => []) (fun x => h16) (fun x => ?_) (fun j17 hj17 => ?_)
    · revert x; intro x18
      refine ph_iinc (i := 6) (v := (nI 1)) (ls1 := [some (.ref (ph_a Z 25)), some (.int x1), some (.int x2), some (.int v4), some (.int v6), some (.int x18), some (.int (x10 + (nI 1)))]) (pc := 53) dX6_leadingInto_53 rfl ph_ic_1 (by decide) rfl ?_
      refine ph_goto (tgt := 19) (pc := 56) dX6_leadingInto_56 (by decide) ?_
      exact hj8 (x18, x10 + (nI 1), h16)
    · refine ph_if_eq (tgt := 53) (pc := 41) dX6_leadingInto_41 (by decide) (fun c19 => ?_) (fun c19 => ?_)
      · exact hj17 x9
      · refine ph_iload (i := 5) (pc := 44) dX6_leadingInto_44 rfl ?_
        refine ph_iconst (v := (nI 1)) (pc := 46) dX6_leadingInto_46 ph_ic_1 ?_
        refine ph_iload (i := 6) (pc := 47) dX6_leadingInto_47 rfl ?_
        refine ph_ishl (pc := 49) dX6_leadingInto_49 ?_
        refine ph_ior (pc := 50) dX6_leadingInto_50 ?_
        refine ph_istore (i := 5) (ls1 := [some (.ref (ph_a Z 25)), some (.int x1), some (.int x2), some (.int v4), some (.int v6), some (.int (x9 ||| (ph_shl (nI 1) x10))), some (.int x10)]) (pc := 51) dX6_leadingInto_51 (by decide) rfl ?_
        exact hj17 (x9 ||| (ph_shl (nI 1) x10))
def f_X7_isFull (r0 : Nat) (h : ph_Hp) : Option (Int32 × ph_Hp) :=
  ph_isK r0 7 <|
  ph_isK (ph_rf r0 0) 4 <|
  ph_cl (f_X4_isFull (ph_rf r0 0) h) fun v4 h5 =>
  ph_rz v4 h5
set_option maxRecDepth 100000 in
theorem c_X7_isFull (Z : ph_L) (d : Nat) (hdd : 1 ≤ d) (r0 : Nat) (h : ph_Hp) : ph_CM Z yX7_isFull cX7_isFull 1 (some .boolean) d [.ref (ph_a Z r0)] ph_vi h (f_X7_isFull r0 h) := by
  refine ph_begin (own := RX7) ph_mf_yX7_isFull rfl (ls := [some (.ref (ph_a Z r0))]) rfl (Nat.le_of_ble_eq_true rfl) ?_
  unfold f_X7_isFull
  refine ph_aload_n (i := 0) (pc := 0) dX7_isFull_0 rfl rfl ?_
  refine ph_isKr (fun hk2 => ?_)
  refine ph_getR (pc := 1) dX7_isFull_1 ph_fl_RX7_12 hk2 rfl rfl ?_
  refine ph_isKr (fun hk3 => ?_)
  refine ph_callVi (pc := 4) dX7_isFull_4 ph_mf_yX4_isFull ph_ml_RX7_25 ph_mi_yX4_isFull ph_mv_yX4_isFull rfl hk3 (c_X4_isFull Z (d - 1) (by omega) (ph_rf r0 0) h) (by omega) rfl rfl (Nat.le_of_ble_eq_true rfl) (fun v4 h5 => ?_)
  exact ph_zret (pc := 7) dX7_isFull_7 rfl
def f_X7_add (r0 : Nat) (x1 : Int32) (x2 : Int32) (h : ph_Hp) : Option (Unit × ph_Hp) :=
  ph_isK r0 7 <|
  ph_isK (ph_rf r0 0) 4 <|
  ph_cl (f_X4_add (ph_rf r0 0) x1 h) fun _ h7 =>
  ph_isK (ph_rf r0 1) 4 <|
  ph_cl (f_X4_add (ph_rf r0 1) x2 h7) fun _ h10 =>
  some ((), h10)
set_option maxRecDepth 100000 in
theorem c_X7_add (Z : ph_L) (d : Nat) (hdd : 1 ≤ d) (r0 : Nat) (x1 : Int32) (x2 : Int32) (h : ph_Hp) : ph_CM Z yX7_add cX7_add 3 none d [.ref (ph_a Z r0), .int x1, .int x2] ph_vv h (f_X7_add r0 x1 x2 h) := by
  refine ph_begin (own := RX7) ph_mf_yX7_add rfl (ls := [some (.ref (ph_a Z r0)), some (.int x1), some (.int x2)]) rfl (Nat.le_of_ble_eq_true rfl) ?_
  unfold f_X7_add
  refine ph_aload_n (i := 0) (pc := 0) dX7_add_0 rfl rfl ?_
  refine ph_isKr (fun hk4 => ?_)
  refine ph_getR (pc := 1) dX7_add_1 ph_fl_RX7_12 hk4 rfl rfl ?_
  refine ph_iload_n (i := 1) (pc := 4) dX7_add_4 rfl rfl ?_
  refine ph_isKr (fun hk5 => ?_)
  refine ph_callVv (pc := 5) dX7_add_5 ph_mf_yX4_add ph_ml_RX7_33 ph_mi_yX4_add ph_mv_yX4_add rfl hk5 (c_X4_add Z (d - 1) (by omega) (ph_rf r0 0) x1 h) (by omega) rfl rfl (Nat.le_of_ble_eq_true rfl) (fun v6 h7 => ?_)
  refine ph_aload_n (i := 0) (pc := 8) dX7_add_8 rfl rfl ?_
  refine ph_getR (pc := 9) dX7_add_9 ph_fl_RX7_18 hk4 rfl rfl ?_
  refine ph_iload_n (i := 2) (pc := 12) dX7_add_12 rfl rfl ?_
  refine ph_isKr (fun hk8 => ?_)
  refine ph_callVv (pc := 13) dX7_add_13 ph_mf_yX4_add ph_ml_RX7_33 ph_mi_yX4_add ph_mv_yX4_add rfl hk8 (c_X4_add Z (d - 1) (by omega) (ph_rf r0 1) x2 h7) (by omega) rfl rfl (Nat.le_of_ble_eq_true rfl) (fun v9 h10 => ?_)
  exact ph_vret (pc := 16) dX7_add_16 rfl
def f_X7_cut (r0 : Nat) (h : ph_Hp) : Option (Unit × ph_Hp) :=
  ph_isK r0 7 <|
  ph_isK (ph_rf r0 0) 4 <|
  ph_cl (f_X4_cut (ph_rf r0 0) h) fun _ h5 =>
  ph_isK (ph_rf r0 1) 4 <|
  ph_cl (f_X4_cut (ph_rf r0 1) h5) fun _ h8 =>
  some ((), h8)
set_option maxRecDepth 100000 in
theorem c_X7_cut (Z : ph_L) (d : Nat) (hdd : 2 ≤ d) (r0 : Nat) (h : ph_Hp) : ph_CM Z yX7_cut cX7_cut 1 none d [.ref (ph_a Z r0)] ph_vv h (f_X7_cut r0 h) := by
  refine ph_begin (own := RX7) ph_mf_yX7_cut rfl (ls := [some (.ref (ph_a Z r0))]) rfl (Nat.le_of_ble_eq_true rfl) ?_
  unfold f_X7_cut
  refine ph_aload_n (i := 0) (pc := 0) dX7_cut_0 rfl rfl ?_
  refine ph_isKr (fun hk2 => ?_)
  refine ph_getR (pc := 1) dX7_cut_1 ph_fl_RX7_12 hk2 rfl rfl ?_
  refine ph_isKr (fun hk3 => ?_)
  refine ph_callVv (pc := 4) dX7_cut_4 ph_mf_yX4_cut ph_ml_RX7_36 ph_mi_yX4_cut ph_mv_yX4_cut rfl hk3 (c_X4_cut Z (d - 1) (by omega) (ph_rf r0 0) h) (by omega) rfl rfl (Nat.le_of_ble_eq_true rfl) (fun v4 h5 => ?_)
  refine ph_aload_n (i := 0) (pc := 7) dX7_cut_7 rfl rfl ?_
  refine ph_getR (pc := 8) dX7_cut_8 ph_fl_RX7_18 hk2 rfl rfl ?_
  refine ph_isKr (fun hk6 => ?_)
  refine ph_callVv (pc := 11) dX7_cut_11 ph_mf_yX4_cut ph_ml_RX7_36 ph_mi_yX4_cut ph_mv_yX4_cut rfl hk6 (c_X4_cut Z (d - 1) (by omega) (ph_rf r0 1) h5) (by omega) rfl rfl (Nat.le_of_ble_eq_true rfl) (fun v7 h8 => ?_)
  exact ph_vret (pc := 14) dX7_cut_14 rfl
def f_X7_clear (r0 : Nat) (h : ph_Hp) : Option (Unit × ph_Hp) :=
  ph_isK r0 7 <|
  ph_isK (ph_rf r0 0) 4 <|
  ph_cl (f_X4_clear (ph_rf r0 0) h) fun _ h5 =>
  ph_isK (ph_rf r0 1) 4 <|
  ph_cl (f_X4_clear (ph_rf r0 1) h5) fun _ h8 =>
  some ((), h8)
set_option maxRecDepth 100000 in
theorem c_X7_clear (Z : ph_L) (d : Nat) (hdd : 1 ≤ d) (r0 : Nat) (h : ph_Hp) : ph_CM Z yX7_clear cX7_clear 1 none d [.ref (ph_a Z r0)] ph_vv h (f_X7_clear r0 h) := by
  refine ph_begin (own := RX7) ph_mf_yX7_clear rfl (ls := [some (.ref (ph_a Z r0))]) rfl (Nat.le_of_ble_eq_true rfl) ?_
  unfold f_X7_clear
  refine ph_aload_n (i := 0) (pc := 0) dX7_clear_0 rfl rfl ?_
  refine ph_isKr (fun hk2 => ?_)
  refine ph_getR (pc := 1) dX7_clear_1 ph_fl_RX7_12 hk2 rfl rfl ?_
  refine ph_isKr (fun hk3 => ?_)
  refine ph_callVv (pc := 4) dX7_clear_4 ph_mf_yX4_clear ph_ml_RX7_39 ph_mi_yX4_clear ph_mv_yX4_clear rfl hk3 (c_X4_clear Z (d - 1) (by omega) (ph_rf r0 0) h) (by omega) rfl rfl (Nat.le_of_ble_eq_true rfl) (fun v4 h5 => ?_)
  refine ph_aload_n (i := 0) (pc := 7) dX7_clear_7 rfl rfl ?_
  refine ph_getR (pc := 8) dX7_clear_8 ph_fl_RX7_18 hk2 rfl rfl ?_
  refine ph_isKr (fun hk6 => ?_)
  refine ph_callVv (pc := 11) dX7_clear_11 ph_mf_yX4_clear ph_ml_RX7_39 ph_mi_yX4_clear ph_mv_yX4_clear rfl hk6 (c_X4_clear Z (d - 1) (by omega) (ph_rf r0 1) h5) (by omega) rfl rfl (Nat.le_of_ble_eq_true rfl) (fun v7 h8 => ?_)
  exact ph_vret (pc := 14) dX7_clear_14 rfl
def f_X8_textOf (x1 : Int32) (h : ph_Hp) : Option (Nat × ph_Hp) :=
  if x1 = nI 0 then
    some (1, h)
  else
    some (3, h)
set_option maxRecDepth 100000 in
theorem c_X8_textOf (Z : ph_L) (d : Nat) (hdd : 0 ≤ d) (x1 : Int32) (h : ph_Hp) : ph_CM Z yX8_textOf cX8_textOf 2 (some (.object "PromptHoles$Row")) d [.ref (ph_a Z 0), .int x1] (ph_vr Z) h (f_X8_textOf x1 h) := by
  refine ph_begin (own := RX8) ph_mf_yX8_textOf rfl (ls := [some (.ref (ph_a Z 0)), some (.int x1)]) rfl (Nat.le_of_ble_eq_true rfl) ?_
  unfold f_X8_textOf
  refine ph_iload_n (i := 1) (pc := 0) dX8_textOf_0 rfl rfl ?_
  refine ph_if_ne (tgt := 11) (pc := 1) dX8_textOf_1 (by decide) (fun c3 => ?_) (fun c3 => ?_)
  · refine ph_aload_n (i := 0) (pc := 11) dX8_textOf_11 rfl rfl ?_
    refine ph_getR (j := 3) (pc := 12) dX8_textOf_12 ph_fl_RX8_18 rfl rfl rfl ?_
    exact ph_aret (pc := 15) dX8_textOf_15 rfl
  · refine ph_aload_n (i := 0) (pc := 4) dX8_textOf_4 rfl rfl ?_
    refine ph_getR (j := 1) (pc := 5) dX8_textOf_5 ph_fl_RX8_14 rfl rfl rfl ?_
    refine ph_goto (tgt := 15) (pc := 8) dX8_textOf_8 (by decide) ?_
    exact ph_aret (pc := 15) dX8_textOf_15 rfl
def f_X8_type (x1 : Int32) (x2 : Int32) (h : ph_Hp) : Option (Int32 × ph_Hp) :=
  ph_cl (f_X8_within x1 (nI 2) h) fun v4 h5 =>
  if v4 = nI 0 then
    some ((-2), h5)
  else
    ph_cl (f_X8_within x2 (nI 256) h5) fun v7 h8 =>
    if v7 = nI 0 then
      some ((-2), h8)
    else
      ph_cl (f_X8_textOf x1 h8) fun v10 h11 =>
      ph_isK v10 4 <|
      ph_cl (f_X4_isFull v10 h11) fun v13 h14 =>
      if v13 = nI 0 then
        ph_cl (f_X4_add v10 x2 h14) fun _ h17 =>
        ph_pfI h17 0 7 (nI 1) fun h18 =>
        ph_cl (f_X4_size v10 h18) fun v19 h20 =>
        some (v19, h20)
      else
        some ((-4), h14)
set_option maxRecDepth 100000 in
theorem c_X8_type (Z : ph_L) (d : Nat) (hdd : 1 ≤ d) (x1 : Int32) (x2 : Int32) (h : ph_Hp) : ph_CM Z yX8_type cX8_type 4 (some .int) d [.ref (ph_a Z 0), .int x1, .int x2] ph_vi h (f_X8_type x1 x2 h) := by
  refine ph_begin (own := RX8) ph_mf_yX8_type rfl (ls := [some (.ref (ph_a Z 0)), some (.int x1), some (.int x2), none]) rfl (Nat.le_of_ble_eq_true rfl) ?_
  unfold f_X8_type
  refine ph_iload_n (i := 1) (pc := 0) dX8_type_0 rfl rfl ?_
  refine ph_iconst (v := (nI 2)) (pc := 1) dX8_type_1 ph_ic_2 ?_
  refine ph_callSi (pc := 2) dX8_type_2 ph_mf_yX8_within ph_ml_RX8_80 ph_ms_yX8_within (c_X8_within Z (d - 1) (by omega) x1 (nI 2) h) (by omega) rfl rfl (Nat.le_of_ble_eq_true rfl) (fun v4 h5 => ?_)
  refine ph_if_eq (tgt := 18) (pc := 5) dX8_type_5 (by decide) (fun c6 => ?_) (fun c6 => ?_)
  · refine ph_bipush (v := (-2)) (pc := 18) dX8_type_18 ph_bp_m2 ?_
    exact ph_iret (pc := 20) dX8_type_20 rfl
  · refine ph_iload_n (i := 2) (pc := 8) dX8_type_8 rfl rfl ?_
    refine ph_sipush (v := (nI 256)) (pc := 9) dX8_type_9 ph_sp_256 ?_
    refine ph_callSi (pc := 12) dX8_type_12 ph_mf_yX8_within ph_ml_RX8_80 ph_ms_yX8_within (c_X8_within Z (d - 1) (by omega) x2 (nI 256) h5) (by omega) rfl rfl (Nat.le_of_ble_eq_true rfl) (fun v7 h8 => ?_)
    refine ph_if_ne (tgt := 21) (pc := 15) dX8_type_15 (by decide) (fun c9 => ?_) (fun c9 => ?_)
    · refine ph_aload_n (i := 0) (pc := 21) dX8_type_21 rfl rfl ?_
      refine ph_iload_n (i := 1) (pc := 22) dX8_type_22 rfl rfl ?_
      refine ph_callVr (pc := 23) dX8_type_23 ph_mf_yX8_textOf ph_ml_RX8_84 ph_mi_yX8_textOf ph_mv_yX8_textOf rfl rfl (c_X8_textOf Z (d - 1) (by omega) x1 h8) (by omega) rfl rfl (Nat.le_of_ble_eq_true rfl) (fun v10 h11 => ?_)
      refine ph_astore_n (i := 3) (ls1 := [some (.ref (ph_a Z 0)), some (.int x1), some (.int x2), some (.ref (ph_a Z v10))]) (pc := 26) dX8_type_26 rfl (by decide) rfl ?_
      refine ph_aload_n (i := 3) (pc := 27) dX8_type_27 rfl rfl ?_
      refine ph_isKr (fun hk12 => ?_)
      refine ph_callVi (pc := 28) dX8_type_28 ph_mf_yX4_isFull ph_ml_RX8_88 ph_mi_yX4_isFull ph_mv_yX4_isFull rfl hk12 (c_X4_isFull Z (d - 1) (by omega) v10 h11) (by omega) rfl rfl (Nat.le_of_ble_eq_true rfl) (fun v13 h14 => ?_)
      refine ph_if_eq (tgt := 37) (pc := 31) dX8_type_31 (by decide) (fun c15 => ?_) (fun c15 => ?_)
      · refine ph_aload_n (i := 3) (pc := 37) dX8_type_37 rfl rfl ?_
        refine ph_iload_n (i := 2) (pc := 38) dX8_type_38 rfl rfl ?_
        refine ph_callVv (pc := 39) dX8_type_39 ph_mf_yX4_add ph_ml_RX8_92 ph_mi_yX4_add ph_mv_yX4_add rfl hk12 (c_X4_add Z (d - 1) (by omega) v10 x2 h14) (by omega) rfl rfl (Nat.le_of_ble_eq_true rfl) (fun v16 h17 => ?_)
        refine ph_aload_n (i := 0) (pc := 42) dX8_type_42 rfl rfl ?_
        refine ph_iconst (v := (nI 1)) (pc := 43) dX8_type_43 ph_ic_1 ?_
        refine ph_putI (pc := 44) dX8_type_44 ph_pl_RX8_44 rfl (by decide) rfl rfl (fun h18 => ?_)
        refine ph_aload_n (i := 3) (pc := 47) dX8_type_47 rfl rfl ?_
        refine ph_callVi (pc := 48) dX8_type_48 ph_mf_yX4_size ph_ml_RX8_95 ph_mi_yX4_size ph_mv_yX4_size rfl hk12 (c_X4_size Z (d - 1) (by omega) v10 h18) (by omega) rfl rfl (Nat.le_of_ble_eq_true rfl) (fun v19 h20 => ?_)
        exact ph_iret (pc := 51) dX8_type_51 rfl
      · refine ph_bipush (v := (-4)) (pc := 34) dX8_type_34 ph_bp_m4 ?_
        exact ph_iret (pc := 36) dX8_type_36 rfl
    · refine ph_bipush (v := (-2)) (pc := 18) dX8_type_18 ph_bp_m2 ?_
      exact ph_iret (pc := 20) dX8_type_20 rfl
