theorem ph_in0 : ∀ w ∈ u_ws RX0 TX0 5, w ∈ ph_tb := by
  intro w hw
  have e : u_ws RX0 TX0 5 = [210, 212, 214, 216, 218].filterMap (fun i => lw_tbl[i]?) := by decide +kernel
  have g : (u_ws RX0 TX0 5).all goodWord = true := by decide +kernel
  refine List.mem_filter.mpr ⟨?_, List.all_eq_true.mp g w hw⟩
  rw [e] at hw
  obtain ⟨i, -, hi⟩ := List.mem_filterMap.mp hw
  exact List.mem_of_getElem? hi
theorem ph_in1 : ∀ w ∈ u_ws RX1 TX1 7, w ∈ ph_tb := by
  intro w hw
  have e : u_ws RX1 TX1 7 = [147, 149, 151, 153, 155, 157, 159].filterMap (fun i => lw_tbl[i]?) := by decide +kernel
  have g : (u_ws RX1 TX1 7).all goodWord = true := by decide +kernel
  refine List.mem_filter.mpr ⟨?_, List.all_eq_true.mp g w hw⟩
  rw [e] at hw
  obtain ⟨i, -, hi⟩ := List.mem_filterMap.mp hw
  exact List.mem_of_getElem? hi
theorem ph_in2 : ∀ w ∈ u_ws RX2 TX2 1, w ∈ ph_tb := by
  intro w hw
  have e : u_ws RX2 TX2 1 = [194].filterMap (fun i => lw_tbl[i]?) := by decide +kernel
  have g : (u_ws RX2 TX2 1).all goodWord = true := by decide +kernel
  refine List.mem_filter.mpr ⟨?_, List.all_eq_true.mp g w hw⟩
  rw [e] at hw
  obtain ⟨i, -, hi⟩ := List.mem_filterMap.mp hw
  exact List.mem_of_getElem? hi
theorem ph_in3 : ∀ w ∈ u_ws RX3 TX3 5, w ∈ ph_tb := by
  intro w hw
  have e : u_ws RX3 TX3 5 = [117, 119, 121, 123, 125].filterMap (fun i => lw_tbl[i]?) := by decide +kernel
  have g : (u_ws RX3 TX3 5).all goodWord = true := by decide +kernel
  refine List.mem_filter.mpr ⟨?_, List.all_eq_true.mp g w hw⟩
  rw [e] at hw
  obtain ⟨i, -, hi⟩ := List.mem_filterMap.mp hw
  exact List.mem_of_getElem? hi
theorem ph_in4 : ∀ w ∈ u_ws RX4 TX4 2, w ∈ ph_tb := by
  intro w hw
  have e : u_ws RX4 TX4 2 = [76, 78].filterMap (fun i => lw_tbl[i]?) := by decide +kernel
  have g : (u_ws RX4 TX4 2).all goodWord = true := by decide +kernel
  refine List.mem_filter.mpr ⟨?_, List.all_eq_true.mp g w hw⟩
  rw [e] at hw
  obtain ⟨i, -, hi⟩ := List.mem_filterMap.mp hw
  exact List.mem_of_getElem? hi
theorem ph_in5 : ∀ w ∈ u_ws RX5 TX5 3, w ∈ ph_tb := by
  intro w hw
  have e : u_ws RX5 TX5 3 = [231, 233, 235].filterMap (fun i => lw_tbl[i]?) := by decide +kernel
  have g : (u_ws RX5 TX5 3).all goodWord = true := by decide +kernel
  refine List.mem_filter.mpr ⟨?_, List.all_eq_true.mp g w hw⟩
  rw [e] at hw
  obtain ⟨i, -, hi⟩ := List.mem_filterMap.mp hw
  exact List.mem_of_getElem? hi
theorem ph_in6 : ∀ w ∈ u_ws RX6 TX6 7, w ∈ ph_tb := by
  intro w hw
  have e : u_ws RX6 TX6 7 = [171, 173, 175, 177, 179, 181, 183].filterMap (fun i => lw_tbl[i]?) := by decide +kernel
  have g : (u_ws RX6 TX6 7).all goodWord = true := by decide +kernel
  refine List.mem_filter.mpr ⟨?_, List.all_eq_true.mp g w hw⟩
  rw [e] at hw
  obtain ⟨i, -, hi⟩ := List.mem_filterMap.mp hw
  exact List.mem_of_getElem? hi
theorem ph_in7 : ∀ w ∈ u_ws RX7 TX7 2, w ∈ ph_tb := by
  intro w hw
  have e : u_ws RX7 TX7 2 = [92, 94].filterMap (fun i => lw_tbl[i]?) := by decide +kernel
  have g : (u_ws RX7 TX7 2).all goodWord = true := by decide +kernel
  refine List.mem_filter.mpr ⟨?_, List.all_eq_true.mp g w hw⟩
  rw [e] at hw
  obtain ⟨i, -, hi⟩ := List.mem_filterMap.mp hw
  exact List.mem_of_getElem? hi
theorem ph_in8 : ∀ w ∈ u_ws RX8 TX8 14, w ∈ ph_tb := by
  intro w hw
  have e : u_ws RX8 TX8 14 = [252, 254, 256, 258, 260, 262, 264, 266, 268, 270, 272, 274, 276, 278].filterMap (fun i => lw_tbl[i]?) := by decide +kernel
  have g : (u_ws RX8 TX8 14).all goodWord = true := by decide +kernel
  refine List.mem_filter.mpr ⟨?_, List.all_eq_true.mp g w hw⟩
  rw [e] at hw
  obtain ⟨i, -, hi⟩ := List.mem_filterMap.mp hw
  exact List.mem_of_getElem? hi
theorem ph_in9 : ∀ w ∈ u_ws RX9 TX9 28, w ∈ ph_tb := by
  intro w hw
  have e : u_ws RX9 TX9 28 = [814, 816, 818, 820, 822, 824, 826, 828, 830, 832, 834, 836, 838, 840, 842, 844, 846, 848, 850, 852, 854, 856, 858, 860, 862, 864, 866, 868].filterMap (fun i => lw_tbl[i]?) := by decide +kernel
  have g : (u_ws RX9 TX9 28).all goodWord = true := by decide +kernel
  refine List.mem_filter.mpr ⟨?_, List.all_eq_true.mp g w hw⟩
  rw [e] at hw
  obtain ⟨i, -, hi⟩ := List.mem_filterMap.mp hw
  exact List.mem_of_getElem? hi
theorem ph_cf : ph_Cf := by
  intro ci C T N h
  match ci, h with
  | 0, h => cases h; exact ⟨by decide, ph_in0, ⟨tyX0, tyX0_ok⟩, nmX0⟩
  | 1, h => cases h; exact ⟨by decide, ph_in1, ⟨tyX1, tyX1_ok⟩, nmX1⟩
  | 2, h => cases h; exact ⟨by decide, ph_in2, ⟨tyX2, tyX2_ok⟩, nmX2⟩
  | 3, h => cases h; exact ⟨by decide, ph_in3, ⟨tyX3, tyX3_ok⟩, nmX3⟩
  | 4, h => cases h; exact ⟨by decide, ph_in4, ⟨tyX4, tyX4_ok⟩, nmX4⟩
  | 5, h => cases h; exact ⟨by decide, ph_in5, ⟨tyX5, tyX5_ok⟩, nmX5⟩
  | 6, h => cases h; exact ⟨by decide, ph_in6, ⟨tyX6, tyX6_ok⟩, nmX6⟩
  | 7, h => cases h; exact ⟨by decide, ph_in7, ⟨tyX7, tyX7_ok⟩, nmX7⟩
  | 8, h => cases h; exact ⟨by decide, ph_in8, ⟨tyX8, tyX8_ok⟩, nmX8⟩
  | 9, h => cases h; exact ⟨by decide, ph_in9, ⟨tyX9, tyX9_ok⟩, nmX9⟩
  | k + 10, h => simp [vwCl] at h
theorem ph_fl_RX4_21 : ph_FL RX4 21 4 0 := ⟨RX4, TX4, 2, rfl, by decide, by decide, Or.inl (ph_tb_of 74 (by decide +kernel) rfl)⟩
theorem ph_fl_RX4_9 : ph_FL RX4 9 4 1 := ⟨RX4, TX4, 2, rfl, by decide, by decide, Or.inl (ph_tb_of 75 (by decide +kernel) rfl)⟩
theorem ph_pl_RX4_9 : ph_PL RX4 9 4 1 .int := ⟨RX4, TX4, 2, rfl, by decide, by decide, ph_tb_of 75 (by decide +kernel) rfl, rfl, by decide +kernel⟩
theorem ph_fl_RX7_12 : ph_FL RX7 12 7 0 := ⟨RX7, TX7, 2, rfl, by decide, by decide, Or.inl (ph_tb_of 90 (by decide +kernel) rfl)⟩
theorem ph_fl_RX7_18 : ph_FL RX7 18 7 1 := ⟨RX7, TX7, 2, rfl, by decide, by decide, Or.inl (ph_tb_of 91 (by decide +kernel) rfl)⟩
theorem ph_fl_RX3_9 : ph_FL RX3 9 3 0 := ⟨RX3, TX3, 5, rfl, by decide, by decide, Or.inl (ph_tb_of 109 (by decide +kernel) rfl)⟩
theorem ph_fl_RX3_15 : ph_FL RX3 15 3 1 := ⟨RX3, TX3, 5, rfl, by decide, by decide, Or.inl (ph_tb_of 110 (by decide +kernel) rfl)⟩
theorem ph_fl_RX3_18 : ph_FL RX3 18 3 2 := ⟨RX3, TX3, 5, rfl, by decide, by decide, Or.inl (ph_tb_of 111 (by decide +kernel) rfl)⟩
theorem ph_fl_RX3_21 : ph_FL RX3 21 3 3 := ⟨RX3, TX3, 5, rfl, by decide, by decide, Or.inl (ph_tb_of 112 (by decide +kernel) rfl)⟩
theorem ph_pl_RX3_21 : ph_PL RX3 21 3 3 .int := ⟨RX3, TX3, 5, rfl, by decide, by decide, ph_tb_of 112 (by decide +kernel) rfl, rfl, by decide +kernel⟩
theorem ph_fl_RX6_67 : ph_FL RX6 67 3 3 := ⟨RX3, TX3, 5, rfl, by decide, by decide, Or.inr ⟨"PromptHoles", ph_ns_of 69 (by decide +kernel) rfl⟩⟩
theorem ph_fl_RX8_293 : ph_FL RX8 293 3 3 := ⟨RX3, TX3, 5, rfl, by decide, by decide, Or.inr ⟨"PromptHoles", ph_ns_of 70 (by decide +kernel) rfl⟩⟩
theorem ph_fl_RX3_25 : ph_FL RX3 25 3 4 := ⟨RX3, TX3, 5, rfl, by decide, by decide, Or.inl (ph_tb_of 115 (by decide +kernel) rfl)⟩
theorem ph_pl_RX3_25 : ph_PL RX3 25 3 4 .int := ⟨RX3, TX3, 5, rfl, by decide, by decide, ph_tb_of 115 (by decide +kernel) rfl, rfl, by decide +kernel⟩
theorem ph_fl_RX8_113 : ph_FL RX8 113 3 4 := ⟨RX3, TX3, 5, rfl, by decide, by decide, Or.inr ⟨"PromptHoles", ph_ns_of 72 (by decide +kernel) rfl⟩⟩
theorem ph_fl_RX1_9 : ph_FL RX1 9 1 0 := ⟨RX1, TX1, 7, rfl, by decide, by decide, Or.inl (ph_tb_of 134 (by decide +kernel) rfl)⟩
theorem ph_fl_RX6_71 : ph_FL RX6 71 1 0 := ⟨RX1, TX1, 7, rfl, by decide, by decide, Or.inr ⟨"PromptHoles", ph_ns_of 91 (by decide +kernel) rfl⟩⟩
theorem ph_fl_RX1_15 : ph_FL RX1 15 1 1 := ⟨RX1, TX1, 7, rfl, by decide, by decide, Or.inl (ph_tb_of 136 (by decide +kernel) rfl)⟩
theorem ph_fl_RX6_79 : ph_FL RX6 79 1 1 := ⟨RX1, TX1, 7, rfl, by decide, by decide, Or.inr ⟨"PromptHoles", ph_ns_of 93 (by decide +kernel) rfl⟩⟩
theorem ph_fl_RX1_18 : ph_FL RX1 18 1 2 := ⟨RX1, TX1, 7, rfl, by decide, by decide, Or.inl (ph_tb_of 138 (by decide +kernel) rfl)⟩
theorem ph_fl_RX1_21 : ph_FL RX1 21 1 3 := ⟨RX1, TX1, 7, rfl, by decide, by decide, Or.inl (ph_tb_of 139 (by decide +kernel) rfl)⟩
theorem ph_fl_RX1_24 : ph_FL RX1 24 1 4 := ⟨RX1, TX1, 7, rfl, by decide, by decide, Or.inl (ph_tb_of 140 (by decide +kernel) rfl)⟩
theorem ph_fl_RX6_94 : ph_FL RX6 94 1 4 := ⟨RX1, TX1, 7, rfl, by decide, by decide, Or.inr ⟨"PromptHoles", ph_ns_of 97 (by decide +kernel) rfl⟩⟩
theorem ph_fl_RX1_27 : ph_FL RX1 27 1 5 := ⟨RX1, TX1, 7, rfl, by decide, by decide, Or.inl (ph_tb_of 142 (by decide +kernel) rfl)⟩
theorem ph_pl_RX1_27 : ph_PL RX1 27 1 5 .int := ⟨RX1, TX1, 7, rfl, by decide, by decide, ph_tb_of 142 (by decide +kernel) rfl, rfl, by decide +kernel⟩
theorem ph_fl_RX8_129 : ph_FL RX8 129 1 5 := ⟨RX1, TX1, 7, rfl, by decide, by decide, Or.inr ⟨"PromptHoles", ph_ns_of 99 (by decide +kernel) rfl⟩⟩
theorem ph_fl_RX6_85 : ph_FL RX6 85 1 5 := ⟨RX1, TX1, 7, rfl, by decide, by decide, Or.inr ⟨"PromptHoles", ph_ns_of 100 (by decide +kernel) rfl⟩⟩
theorem ph_fl_RX1_31 : ph_FL RX1 31 1 6 := ⟨RX1, TX1, 7, rfl, by decide, by decide, Or.inl (ph_tb_of 145 (by decide +kernel) rfl)⟩
theorem ph_pl_RX1_31 : ph_PL RX1 31 1 6 .int := ⟨RX1, TX1, 7, rfl, by decide, by decide, ph_tb_of 145 (by decide +kernel) rfl, rfl, by decide +kernel⟩
theorem ph_fl_RX8_122 : ph_FL RX8 122 1 6 := ⟨RX1, TX1, 7, rfl, by decide, by decide, Or.inr ⟨"PromptHoles", ph_ns_of 102 (by decide +kernel) rfl⟩⟩
theorem ph_fl_RX6_12 : ph_FL RX6 12 6 0 := ⟨RX6, TX6, 7, rfl, by decide, by decide, Or.inl (ph_tb_of 162 (by decide +kernel) rfl)⟩
theorem ph_fl_RX8_109 : ph_FL RX8 109 6 0 := ⟨RX6, TX6, 7, rfl, by decide, by decide, Or.inr ⟨"PromptHoles", ph_ns_of 119 (by decide +kernel) rfl⟩⟩
theorem ph_fl_RX6_21 : ph_FL RX6 21 6 1 := ⟨RX6, TX6, 7, rfl, by decide, by decide, Or.inl (ph_tb_of 164 (by decide +kernel) rfl)⟩
theorem ph_fl_RX8_118 : ph_FL RX8 118 6 1 := ⟨RX6, TX6, 7, rfl, by decide, by decide, Or.inr ⟨"PromptHoles", ph_ns_of 121 (by decide +kernel) rfl⟩⟩
theorem ph_fl_RX6_25 : ph_FL RX6 25 6 2 := ⟨RX6, TX6, 7, rfl, by decide, by decide, Or.inl (ph_tb_of 166 (by decide +kernel) rfl)⟩
theorem ph_fl_RX6_29 : ph_FL RX6 29 6 3 := ⟨RX6, TX6, 7, rfl, by decide, by decide, Or.inl (ph_tb_of 167 (by decide +kernel) rfl)⟩
theorem ph_fl_RX6_32 : ph_FL RX6 32 6 4 := ⟨RX6, TX6, 7, rfl, by decide, by decide, Or.inl (ph_tb_of 168 (by decide +kernel) rfl)⟩
theorem ph_fl_RX6_36 : ph_FL RX6 36 6 5 := ⟨RX6, TX6, 7, rfl, by decide, by decide, Or.inl (ph_tb_of 169 (by decide +kernel) rfl)⟩
theorem ph_fl_RX6_39 : ph_FL RX6 39 6 6 := ⟨RX6, TX6, 7, rfl, by decide, by decide, Or.inl (ph_tb_of 170 (by decide +kernel) rfl)⟩
theorem ph_fl_RX2_7 : ph_FL RX2 7 2 0 := ⟨RX2, TX2, 1, rfl, by decide, by decide, Or.inl (ph_tb_of 193 (by decide +kernel) rfl)⟩
theorem ph_pl_RX2_7 : ph_PL RX2 7 2 0 .int := ⟨RX2, TX2, 1, rfl, by decide, by decide, ph_tb_of 193 (by decide +kernel) rfl, rfl, by decide +kernel⟩
theorem ph_fl_RX0_9 : ph_FL RX0 9 0 0 := ⟨RX0, TX0, 5, rfl, by decide, by decide, Or.inl (ph_tb_of 203 (by decide +kernel) rfl)⟩
theorem ph_fl_RX0_15 : ph_FL RX0 15 0 1 := ⟨RX0, TX0, 5, rfl, by decide, by decide, Or.inl (ph_tb_of 204 (by decide +kernel) rfl)⟩
theorem ph_fl_RX0_18 : ph_FL RX0 18 0 2 := ⟨RX0, TX0, 5, rfl, by decide, by decide, Or.inl (ph_tb_of 205 (by decide +kernel) rfl)⟩
theorem ph_pl_RX0_18 : ph_PL RX0 18 0 2 .long := ⟨RX0, TX0, 5, rfl, by decide, by decide, ph_tb_of 205 (by decide +kernel) rfl, rfl, by decide +kernel⟩
theorem ph_fl_RX0_22 : ph_FL RX0 22 0 3 := ⟨RX0, TX0, 5, rfl, by decide, by decide, Or.inl (ph_tb_of 206 (by decide +kernel) rfl)⟩
theorem ph_pl_RX0_22 : ph_PL RX0 22 0 3 .long := ⟨RX0, TX0, 5, rfl, by decide, by decide, ph_tb_of 206 (by decide +kernel) rfl, rfl, by decide +kernel⟩
theorem ph_fl_RX8_251 : ph_FL RX8 251 0 3 := ⟨RX0, TX0, 5, rfl, by decide, by decide, Or.inr ⟨"PromptHoles", ph_ns_of 163 (by decide +kernel) rfl⟩⟩
theorem ph_fl_RX0_25 : ph_FL RX0 25 0 4 := ⟨RX0, TX0, 5, rfl, by decide, by decide, Or.inl (ph_tb_of 208 (by decide +kernel) rfl)⟩
theorem ph_pl_RX0_25 : ph_PL RX0 25 0 4 .long := ⟨RX0, TX0, 5, rfl, by decide, by decide, ph_tb_of 208 (by decide +kernel) rfl, rfl, by decide +kernel⟩
theorem ph_fl_RX8_255 : ph_FL RX8 255 0 4 := ⟨RX0, TX0, 5, rfl, by decide, by decide, Or.inr ⟨"PromptHoles", ph_ns_of 165 (by decide +kernel) rfl⟩⟩
theorem ph_fl_RX5_11 : ph_FL RX5 11 5 0 := ⟨RX5, TX5, 3, rfl, by decide, by decide, Or.inl (ph_tb_of 228 (by decide +kernel) rfl)⟩
theorem ph_fl_RX5_15 : ph_FL RX5 15 5 1 := ⟨RX5, TX5, 3, rfl, by decide, by decide, Or.inl (ph_tb_of 229 (by decide +kernel) rfl)⟩
theorem ph_fl_RX5_18 : ph_FL RX5 18 5 2 := ⟨RX5, TX5, 3, rfl, by decide, by decide, Or.inl (ph_tb_of 230 (by decide +kernel) rfl)⟩
theorem ph_fl_RX8_14 : ph_FL RX8 14 8 0 := ⟨RX8, TX8, 14, rfl, by decide, by decide, Or.inl (ph_tb_of 238 (by decide +kernel) rfl)⟩
theorem ph_fl_RX8_18 : ph_FL RX8 18 8 1 := ⟨RX8, TX8, 14, rfl, by decide, by decide, Or.inl (ph_tb_of 239 (by decide +kernel) rfl)⟩
theorem ph_fl_RX8_24 : ph_FL RX8 24 8 2 := ⟨RX8, TX8, 14, rfl, by decide, by decide, Or.inl (ph_tb_of 240 (by decide +kernel) rfl)⟩
theorem ph_fl_RX8_28 : ph_FL RX8 28 8 3 := ⟨RX8, TX8, 14, rfl, by decide, by decide, Or.inl (ph_tb_of 241 (by decide +kernel) rfl)⟩
theorem ph_fl_RX8_31 : ph_FL RX8 31 8 4 := ⟨RX8, TX8, 14, rfl, by decide, by decide, Or.inl (ph_tb_of 242 (by decide +kernel) rfl)⟩
theorem ph_fl_RX8_34 : ph_FL RX8 34 8 5 := ⟨RX8, TX8, 14, rfl, by decide, by decide, Or.inl (ph_tb_of 243 (by decide +kernel) rfl)⟩
theorem ph_fl_RX8_40 : ph_FL RX8 40 8 6 := ⟨RX8, TX8, 14, rfl, by decide, by decide, Or.inl (ph_tb_of 244 (by decide +kernel) rfl)⟩
theorem ph_fl_RX8_44 : ph_FL RX8 44 8 7 := ⟨RX8, TX8, 14, rfl, by decide, by decide, Or.inl (ph_tb_of 245 (by decide +kernel) rfl)⟩
theorem ph_pl_RX8_44 : ph_PL RX8 44 8 7 .boolean := ⟨RX8, TX8, 14, rfl, by decide, by decide, ph_tb_of 245 (by decide +kernel) rfl, rfl, by decide +kernel⟩
theorem ph_fl_RX8_51 : ph_FL RX8 51 8 8 := ⟨RX8, TX8, 14, rfl, by decide, by decide, Or.inl (ph_tb_of 246 (by decide +kernel) rfl)⟩
theorem ph_fl_RX8_58 : ph_FL RX8 58 8 9 := ⟨RX8, TX8, 14, rfl, by decide, by decide, Or.inl (ph_tb_of 247 (by decide +kernel) rfl)⟩
theorem ph_fl_RX8_62 : ph_FL RX8 62 8 10 := ⟨RX8, TX8, 14, rfl, by decide, by decide, Or.inl (ph_tb_of 248 (by decide +kernel) rfl)⟩
theorem ph_fl_RX8_66 : ph_FL RX8 66 8 11 := ⟨RX8, TX8, 14, rfl, by decide, by decide, Or.inl (ph_tb_of 249 (by decide +kernel) rfl)⟩
theorem ph_fl_RX8_72 : ph_FL RX8 72 8 12 := ⟨RX8, TX8, 14, rfl, by decide, by decide, Or.inl (ph_tb_of 250 (by decide +kernel) rfl)⟩
theorem ph_fl_RX8_76 : ph_FL RX8 76 8 13 := ⟨RX8, TX8, 14, rfl, by decide, by decide, Or.inl (ph_tb_of 251 (by decide +kernel) rfl)⟩
theorem ph_pl_RX8_76 : ph_PL RX8 76 8 13 .int := ⟨RX8, TX8, 14, rfl, by decide, by decide, ph_tb_of 251 (by decide +kernel) rfl, rfl, by decide +kernel⟩
theorem ph_k_RJ6_265 : Cond.constant RJ6 265 (1431655765) ∈ ph_tb := ph_tb_of 594 (by decide +kernel) rfl
theorem ph_k_RJ6_266 : Cond.constant RJ6 266 (858993459) ∈ ph_tb := ph_tb_of 595 (by decide +kernel) rfl
theorem ph_k_RJ6_267 : Cond.constant RJ6 267 (252645135) ∈ ph_tb := ph_tb_of 596 (by decide +kernel) rfl
theorem ph_k_RX8_239 : Cond.constantLong RX8 239 (-9223372036854775806) ∈ ph_tb := ph_tb_of 644 (by decide +kernel) rfl
theorem ph_k_RX0_45 : Cond.constantLong RX0 45 (16) ∈ ph_tb := ph_tb_of 661 (by decide +kernel) rfl
theorem ph_k_RX0_51 : Cond.constantLong RX0 51 (2) ∈ ph_tb := ph_tb_of 666 (by decide +kernel) rfl
theorem ph_k_RX2_13 : Cond.constant RX2 13 (1103515245) ∈ ph_tb := ph_tb_of 683 (by decide +kernel) rfl
theorem ph_k_RX8_279 : Cond.constant RX8 279 (-2147483648) ∈ ph_tb := ph_tb_of 719 (by decide +kernel) rfl
theorem ph_k_RX8_296 : Cond.constantLong RX8 296 (17) ∈ ph_tb := ph_tb_of 748 (by decide +kernel) rfl
theorem ph_k_RX8_298 : Cond.constantLong RX8 298 (31) ∈ ph_tb := ph_tb_of 749 (by decide +kernel) rfl
theorem ph_fs_RX8_312 : Cond.fieldLink RX8 312 "PromptHoles" "DIGEST_STEPS" "[I" ∈ ph_tb := ph_tb_of 768 (by decide +kernel) rfl
theorem ph_fl_RX9_7 : ph_FL RX9 7 9 0 := ⟨RX9, TX9, 28, rfl, by decide, by decide, Or.inl (ph_tb_of 786 (by decide +kernel) rfl)⟩
theorem ph_fl_RX9_13 : ph_FL RX9 13 9 1 := ⟨RX9, TX9, 28, rfl, by decide, by decide, Or.inl (ph_tb_of 787 (by decide +kernel) rfl)⟩
theorem ph_fl_RX9_16 : ph_FL RX9 16 9 2 := ⟨RX9, TX9, 28, rfl, by decide, by decide, Or.inl (ph_tb_of 788 (by decide +kernel) rfl)⟩
theorem ph_fl_RX9_19 : ph_FL RX9 19 9 3 := ⟨RX9, TX9, 28, rfl, by decide, by decide, Or.inl (ph_tb_of 789 (by decide +kernel) rfl)⟩
theorem ph_fl_RX9_74 : ph_FL RX9 74 9 4 := ⟨RX9, TX9, 28, rfl, by decide, by decide, Or.inl (ph_tb_of 790 (by decide +kernel) rfl)⟩
theorem ph_pl_RX9_74 : ph_PL RX9 74 9 4 .int := ⟨RX9, TX9, 28, rfl, by decide, by decide, ph_tb_of 790 (by decide +kernel) rfl, rfl, by decide +kernel⟩
theorem ph_fl_RX9_22 : ph_FL RX9 22 9 5 := ⟨RX9, TX9, 28, rfl, by decide, by decide, Or.inl (ph_tb_of 791 (by decide +kernel) rfl)⟩
theorem ph_fl_RX9_25 : ph_FL RX9 25 9 6 := ⟨RX9, TX9, 28, rfl, by decide, by decide, Or.inl (ph_tb_of 792 (by decide +kernel) rfl)⟩
theorem ph_fl_RX9_103 : ph_FL RX9 103 9 7 := ⟨RX9, TX9, 28, rfl, by decide, by decide, Or.inl (ph_tb_of 793 (by decide +kernel) rfl)⟩
theorem ph_pl_RX9_103 : ph_PL RX9 103 9 7 .int := ⟨RX9, TX9, 28, rfl, by decide, by decide, ph_tb_of 793 (by decide +kernel) rfl, rfl, by decide +kernel⟩
theorem ph_fl_RX9_28 : ph_FL RX9 28 9 8 := ⟨RX9, TX9, 28, rfl, by decide, by decide, Or.inl (ph_tb_of 794 (by decide +kernel) rfl)⟩
theorem ph_fl_RX9_113 : ph_FL RX9 113 9 9 := ⟨RX9, TX9, 28, rfl, by decide, by decide, Or.inl (ph_tb_of 795 (by decide +kernel) rfl)⟩
theorem ph_pl_RX9_113 : ph_PL RX9 113 9 9 .int := ⟨RX9, TX9, 28, rfl, by decide, by decide, ph_tb_of 795 (by decide +kernel) rfl, rfl, by decide +kernel⟩
theorem ph_fl_RX9_31 : ph_FL RX9 31 9 10 := ⟨RX9, TX9, 28, rfl, by decide, by decide, Or.inl (ph_tb_of 796 (by decide +kernel) rfl)⟩
theorem ph_fl_RX9_149 : ph_FL RX9 149 9 11 := ⟨RX9, TX9, 28, rfl, by decide, by decide, Or.inl (ph_tb_of 797 (by decide +kernel) rfl)⟩
theorem ph_pl_RX9_149 : ph_PL RX9 149 9 11 .int := ⟨RX9, TX9, 28, rfl, by decide, by decide, ph_tb_of 797 (by decide +kernel) rfl, rfl, by decide +kernel⟩
theorem ph_fl_RX9_34 : ph_FL RX9 34 9 12 := ⟨RX9, TX9, 28, rfl, by decide, by decide, Or.inl (ph_tb_of 798 (by decide +kernel) rfl)⟩
theorem ph_fl_RX9_154 : ph_FL RX9 154 9 13 := ⟨RX9, TX9, 28, rfl, by decide, by decide, Or.inl (ph_tb_of 799 (by decide +kernel) rfl)⟩
theorem ph_pl_RX9_154 : ph_PL RX9 154 9 13 .int := ⟨RX9, TX9, 28, rfl, by decide, by decide, ph_tb_of 799 (by decide +kernel) rfl, rfl, by decide +kernel⟩
theorem ph_fl_RX9_37 : ph_FL RX9 37 9 14 := ⟨RX9, TX9, 28, rfl, by decide, by decide, Or.inl (ph_tb_of 800 (by decide +kernel) rfl)⟩
theorem ph_fl_RX9_157 : ph_FL RX9 157 9 15 := ⟨RX9, TX9, 28, rfl, by decide, by decide, Or.inl (ph_tb_of 801 (by decide +kernel) rfl)⟩
theorem ph_pl_RX9_157 : ph_PL RX9 157 9 15 .int := ⟨RX9, TX9, 28, rfl, by decide, by decide, ph_tb_of 801 (by decide +kernel) rfl, rfl, by decide +kernel⟩
theorem ph_fl_RX9_40 : ph_FL RX9 40 9 16 := ⟨RX9, TX9, 28, rfl, by decide, by decide, Or.inl (ph_tb_of 802 (by decide +kernel) rfl)⟩
theorem ph_fl_RX9_43 : ph_FL RX9 43 9 17 := ⟨RX9, TX9, 28, rfl, by decide, by decide, Or.inl (ph_tb_of 803 (by decide +kernel) rfl)⟩
theorem ph_fl_RX9_46 : ph_FL RX9 46 9 18 := ⟨RX9, TX9, 28, rfl, by decide, by decide, Or.inl (ph_tb_of 804 (by decide +kernel) rfl)⟩
theorem ph_fl_RX9_49 : ph_FL RX9 49 9 19 := ⟨RX9, TX9, 28, rfl, by decide, by decide, Or.inl (ph_tb_of 805 (by decide +kernel) rfl)⟩
theorem ph_fl_RX9_52 : ph_FL RX9 52 9 20 := ⟨RX9, TX9, 28, rfl, by decide, by decide, Or.inl (ph_tb_of 806 (by decide +kernel) rfl)⟩
theorem ph_fl_RX9_61 : ph_FL RX9 61 9 21 := ⟨RX9, TX9, 28, rfl, by decide, by decide, Or.inl (ph_tb_of 807 (by decide +kernel) rfl)⟩
theorem ph_pl_RX9_61 : ph_PL RX9 61 9 21 .int := ⟨RX9, TX9, 28, rfl, by decide, by decide, ph_tb_of 807 (by decide +kernel) rfl, rfl, by decide +kernel⟩
theorem ph_fl_RX9_65 : ph_FL RX9 65 9 22 := ⟨RX9, TX9, 28, rfl, by decide, by decide, Or.inl (ph_tb_of 808 (by decide +kernel) rfl)⟩
theorem ph_pl_RX9_65 : ph_PL RX9 65 9 22 .int := ⟨RX9, TX9, 28, rfl, by decide, by decide, ph_tb_of 808 (by decide +kernel) rfl, rfl, by decide +kernel⟩
theorem ph_fl_RX9_178 : ph_FL RX9 178 9 23 := ⟨RX9, TX9, 28, rfl, by decide, by decide, Or.inl (ph_tb_of 809 (by decide +kernel) rfl)⟩
theorem ph_pl_RX9_178 : ph_PL RX9 178 9 23 .int := ⟨RX9, TX9, 28, rfl, by decide, by decide, ph_tb_of 809 (by decide +kernel) rfl, rfl, by decide +kernel⟩
theorem ph_fl_RX9_223 : ph_FL RX9 223 9 24 := ⟨RX9, TX9, 28, rfl, by decide, by decide, Or.inl (ph_tb_of 810 (by decide +kernel) rfl)⟩
theorem ph_pl_RX9_223 : ph_PL RX9 223 9 24 .int := ⟨RX9, TX9, 28, rfl, by decide, by decide, ph_tb_of 810 (by decide +kernel) rfl, rfl, by decide +kernel⟩
theorem ph_fl_RX9_55 : ph_FL RX9 55 9 25 := ⟨RX9, TX9, 28, rfl, by decide, by decide, Or.inl (ph_tb_of 811 (by decide +kernel) rfl)⟩
theorem ph_fl_RX9_58 : ph_FL RX9 58 9 26 := ⟨RX9, TX9, 28, rfl, by decide, by decide, Or.inl (ph_tb_of 812 (by decide +kernel) rfl)⟩
theorem ph_fl_RX9_254 : ph_FL RX9 254 9 27 := ⟨RX9, TX9, 28, rfl, by decide, by decide, Or.inl (ph_tb_of 813 (by decide +kernel) rfl)⟩
theorem ph_pl_RX9_254 : ph_PL RX9 254 9 27 .int := ⟨RX9, TX9, 28, rfl, by decide, by decide, ph_tb_of 813 (by decide +kernel) rfl, rfl, by decide +kernel⟩
theorem ph_k_RX9_77 : Cond.constantLong RX9 77 (3) ∈ ph_tb := ph_tb_of 878 (by decide +kernel) rfl
theorem ph_k_RX9_83 : Cond.constantLong RX9 83 (2) ∈ ph_tb := ph_tb_of 882 (by decide +kernel) rfl
theorem ph_k_RX9_97 : Cond.constant RX9 97 (-2147483648) ∈ ph_tb := ph_tb_of 906 (by decide +kernel) rfl
theorem ph_k_RX9_101 : Cond.constantLong RX9 101 (255) ∈ ph_tb := ph_tb_of 918 (by decide +kernel) rfl
theorem ph_k_RX9_106 : Cond.constantLong RX9 106 (97) ∈ ph_tb := ph_tb_of 935 (by decide +kernel) rfl
theorem ph_k_RX9_108 : Cond.constantLong RX9 108 (104) ∈ ph_tb := ph_tb_of 936 (by decide +kernel) rfl
theorem ph_k_RX9_133 : Cond.constantLong RX9 133 (23) ∈ ph_tb := ph_tb_of 955 (by decide +kernel) rfl
theorem ph_k_RX9_126 : Cond.constantLong RX9 126 (7) ∈ ph_tb := ph_tb_of 971 (by decide +kernel) rfl
theorem ph_k_RX9_128 : Cond.constantLong RX9 128 (39) ∈ ph_tb := ph_tb_of 983 (by decide +kernel) rfl
theorem ph_k_RX9_147 : Cond.constantLong RX9 147 (9) ∈ ph_tb := ph_tb_of 984 (by decide +kernel) rfl
theorem ph_k_RX9_152 : Cond.constantLong RX9 152 (8) ∈ ph_tb := ph_tb_of 989 (by decide +kernel) rfl
theorem ph_k_RX9_239 : Cond.constantLong RX9 239 (16) ∈ ph_tb := ph_tb_of 1141 (by decide +kernel) rfl
theorem ph_k_RX9_68 : Cond.constantLong RX9 68 (-9223372036854775808) ∈ ph_tb := ph_tb_of 1152 (by decide +kernel) rfl
theorem ph_k_RX9_253 : Cond.constant RX9 253 (1103515245) ∈ ph_tb := ph_tb_of 1165 (by decide +kernel) rfl
theorem ph_k_RX9_271 : Cond.constantLong RX9 271 (17) ∈ ph_tb := ph_tb_of 1181 (by decide +kernel) rfl
theorem ph_k_RX9_266 : Cond.constantLong RX9 266 (31) ∈ ph_tb := ph_tb_of 1182 (by decide +kernel) rfl
