/-! classes, cells, methods: what the tables say of each -/
def am_Pi (r : Int32 × am_St) (Q : am_AQ) : Prop := Q (some (.int r.1)) r.2
def am_Pl (r : Int64 × am_St) (Q : am_AQ) : Prop := Q (some (.long r.1)) r.2
def am_Pa (r : Nat × am_St) (Q : am_AQ) : Prop := Q (some (.ref r.1)) r.2
def am_Pv (r : am_St) (Q : am_AQ) : Prop := Q none r
theorem am_lay_0 : ∀ k, k < 0 → am_in (u_lay RX0 TX0 k) := fun k h => absurd h (by omega)
theorem am_CL_0 : am_CL 0 RX0 TX0 0 tyX0 := by
  refine ⟨rfl, fun w hw => ?_, tyX0_ok, nmX0⟩
  obtain ⟨k, hk, rfl⟩ := List.mem_map.mp hw
  exact am_lay_0 k (List.mem_range.mp hk)
theorem am_lay_1 : ∀ k, k < 0 → am_in (u_lay RX1 TX1 k) := fun k h => absurd h (by omega)
theorem am_CL_1 : am_CL 1 RX1 TX1 0 tyX1 := by
  refine ⟨rfl, fun w hw => ?_, tyX1_ok, nmX1⟩
  obtain ⟨k, hk, rfl⟩ := List.mem_map.mp hw
  exact am_lay_1 k (List.mem_range.mp hk)
theorem am_lay_2 : ∀ k, k < 0 → am_in (u_lay RX2 TX2 k) := fun k h => absurd h (by omega)
theorem am_CL_2 : am_CL 2 RX2 TX2 0 tyX2 := by
  refine ⟨rfl, fun w hw => ?_, tyX2_ok, nmX2⟩
  obtain ⟨k, hk, rfl⟩ := List.mem_map.mp hw
  exact am_lay_2 k (List.mem_range.mp hk)
theorem am_lay_3 : ∀ k, k < 17 → am_in (u_lay RX3 TX3 k) := fun k h => match k, h with
  | 0, _ => tw_117
  | 1, _ => tw_119
  | 2, _ => tw_121
  | 3, _ => tw_123
  | 4, _ => tw_125
  | 5, _ => tw_127
  | 6, _ => tw_129
  | 7, _ => tw_131
  | 8, _ => tw_133
  | 9, _ => tw_135
  | 10, _ => tw_137
  | 11, _ => tw_139
  | 12, _ => tw_141
  | 13, _ => tw_143
  | 14, _ => tw_145
  | 15, _ => tw_147
  | 16, _ => tw_149
  | n + 17, h => absurd h (by omega)
theorem am_CL_3 : am_CL 3 RX3 TX3 17 tyX3 := by
  refine ⟨rfl, fun w hw => ?_, tyX3_ok, nmX3⟩
  obtain ⟨k, hk, rfl⟩ := List.mem_map.mp hw
  exact am_lay_3 k (List.mem_range.mp hk)
theorem am_lay_4 : ∀ k, k < 3 → am_in (u_lay RX4 TX4 k) := fun k h => match k, h with
  | 0, _ => tw_163
  | 1, _ => tw_165
  | 2, _ => tw_167
  | n + 3, h => absurd h (by omega)
theorem am_CL_4 : am_CL 4 RX4 TX4 3 tyX4 := by
  refine ⟨rfl, fun w hw => ?_, tyX4_ok, nmX4⟩
  obtain ⟨k, hk, rfl⟩ := List.mem_map.mp hw
  exact am_lay_4 k (List.mem_range.mp hk)
theorem am_lay_5 : ∀ k, k < 0 → am_in (u_lay RX5 TX5 k) := fun k h => absurd h (by omega)
theorem am_CL_5 : am_CL 5 RX5 TX5 0 tyX5 := by
  refine ⟨rfl, fun w hw => ?_, tyX5_ok, nmX5⟩
  obtain ⟨k, hk, rfl⟩ := List.mem_map.mp hw
  exact am_lay_5 k (List.mem_range.mp hk)
theorem am_lay_6 : ∀ k, k < 4 → am_in (u_lay RX6 TX6 k) := fun k h => match k, h with
  | 0, _ => tw_209
  | 1, _ => tw_211
  | 2, _ => tw_213
  | 3, _ => tw_215
  | n + 4, h => absurd h (by omega)
theorem am_CL_6 : am_CL 6 RX6 TX6 4 tyX6 := by
  refine ⟨rfl, fun w hw => ?_, tyX6_ok, nmX6⟩
  obtain ⟨k, hk, rfl⟩ := List.mem_map.mp hw
  exact am_lay_6 k (List.mem_range.mp hk)
theorem am_lay_7 : ∀ k, k < 0 → am_in (u_lay RX8 TX8 k) := fun k h => absurd h (by omega)
theorem am_CL_7 : am_CL 7 RX8 TX8 0 tyX8 := by
  refine ⟨rfl, fun w hw => ?_, tyX8_ok, nmX8⟩
  obtain ⟨k, hk, rfl⟩ := List.mem_map.mp hw
  exact am_lay_7 k (List.mem_range.mp hk)
theorem am_lay_8 : ∀ k, k < 0 → am_in (u_lay RX9 TX9 k) := fun k h => absurd h (by omega)
theorem am_CL_8 : am_CL 8 RX9 TX9 0 tyX9 := by
  refine ⟨rfl, fun w hw => ?_, tyX9_ok, nmX9⟩
  obtain ⟨k, hk, rfl⟩ := List.mem_map.mp hw
  exact am_lay_8 k (List.mem_range.mp hk)
theorem am_lay_9 : ∀ k, k < 7 → am_in (u_lay RX10 TX10 k) := fun k h => match k, h with
  | 0, _ => tw_183
  | 1, _ => tw_185
  | 2, _ => tw_187
  | 3, _ => tw_189
  | 4, _ => tw_191
  | 5, _ => tw_193
  | 6, _ => tw_195
  | n + 7, h => absurd h (by omega)
theorem am_CL_9 : am_CL 9 RX10 TX10 7 tyX10 := by
  refine ⟨rfl, fun w hw => ?_, tyX10_ok, nmX10⟩
  obtain ⟨k, hk, rfl⟩ := List.mem_map.mp hw
  exact am_lay_9 k (List.mem_range.mp hk)
theorem am_lay_10 : ∀ k, k < 9 → am_in (u_lay RX11 TX11 k) := fun k h => match k, h with
  | 0, _ => tw_228
  | 1, _ => tw_230
  | 2, _ => tw_232
  | 3, _ => tw_234
  | 4, _ => tw_236
  | 5, _ => tw_238
  | 6, _ => tw_240
  | 7, _ => tw_242
  | 8, _ => tw_244
  | n + 9, h => absurd h (by omega)
theorem am_CL_10 : am_CL 10 RX11 TX11 9 tyX11 := by
  refine ⟨rfl, fun w hw => ?_, tyX11_ok, nmX11⟩
  obtain ⟨k, hk, rfl⟩ := List.mem_map.mp hw
  exact am_lay_10 k (List.mem_range.mp hk)
theorem am_lay_11 : ∀ k, k < 48 → am_in (u_lay RX12 TX12 k) := fun k h => match k, h with
  | 0, _ => tw_989
  | 1, _ => tw_991
  | 2, _ => tw_993
  | 3, _ => tw_995
  | 4, _ => tw_997
  | 5, _ => tw_999
  | 6, _ => tw_1001
  | 7, _ => tw_1003
  | 8, _ => tw_1005
  | 9, _ => tw_1007
  | 10, _ => tw_1009
  | 11, _ => tw_1011
  | 12, _ => tw_1013
  | 13, _ => tw_1015
  | 14, _ => tw_1017
  | 15, _ => tw_1019
  | 16, _ => tw_1021
  | 17, _ => tw_1023
  | 18, _ => tw_1025
  | 19, _ => tw_1027
  | 20, _ => tw_1029
  | 21, _ => tw_1031
  | 22, _ => tw_1033
  | 23, _ => tw_1035
  | 24, _ => tw_1037
  | 25, _ => tw_1039
  | 26, _ => tw_1041
  | 27, _ => tw_1043
  | 28, _ => tw_1045
  | 29, _ => tw_1047
  | 30, _ => tw_1049
  | 31, _ => tw_1051
  | 32, _ => tw_1053
  | 33, _ => tw_1055
  | 34, _ => tw_1057
  | 35, _ => tw_1059
  | 36, _ => tw_1061
  | 37, _ => tw_1063
  | 38, _ => tw_1065
  | 39, _ => tw_1067
  | 40, _ => tw_1069
  | 41, _ => tw_1071
  | 42, _ => tw_1073
  | 43, _ => tw_1075
  | 44, _ => tw_1077
  | 45, _ => tw_1079
  | 46, _ => tw_1081
  | 47, _ => tw_1083
  | n + 48, h => absurd h (by omega)
theorem am_CL_11 : am_CL 11 RX12 TX12 48 tyX12 := by
  refine ⟨rfl, fun w hw => ?_, tyX12_ok, nmX12⟩
  obtain ⟨k, hk, rfl⟩ := List.mem_map.mp hw
  exact am_lay_11 k (List.mem_range.mp hk)
theorem sh_0 : am_shapes[0]? = some (.inr (10, [4, 21, 0, 38, 57, 63, 67, 0, 68])) := rfl
theorem sh_1 : am_shapes[1]? = some (.inr (3, [0, 0, 0, 0, 0, 0, 0, 5, 6, 7, 8, 9, 10, 11, 12, 13, 14])) := rfl
theorem sh_2 : am_shapes[2]? = some (.inl (0, 4)) := rfl
theorem sh_3 : am_shapes[3]? = some (.inl (0, 4)) := rfl
theorem sh_4 : am_shapes[4]? = some (.inl (0, 4)) := rfl
theorem sh_5 : am_shapes[5]? = some (.inl (0, 4)) := rfl
theorem sh_6 : am_shapes[6]? = some (.inl (0, 4)) := rfl
theorem sh_7 : am_shapes[7]? = some (.inl (0, 24)) := rfl
theorem sh_8 : am_shapes[8]? = some (.inl (0, 3)) := rfl
theorem sh_9 : am_shapes[9]? = some (.inl (0, 16)) := rfl
theorem sh_10 : am_shapes[10]? = some (.inl (0, 8)) := rfl
theorem sh_11 : am_shapes[11]? = some (.inl (3, 6)) := rfl
theorem sh_12 : am_shapes[12]? = some (.inr (2, [])) := rfl
theorem sh_13 : am_shapes[13]? = some (.inr (8, [])) := rfl
theorem sh_14 : am_shapes[14]? = some (.inr (5, [])) := rfl
theorem sh_15 : am_shapes[15]? = some (.inr (1, [])) := rfl
theorem sh_16 : am_shapes[16]? = some (.inr (0, [])) := rfl
theorem sh_17 : am_shapes[17]? = some (.inr (7, [])) := rfl
theorem sh_18 : am_shapes[18]? = some (.inr (3, [0, 0, 0, 0, 0, 0, 0, 22, 23, 24, 25, 26, 27, 28, 29, 30, 31])) := rfl
theorem sh_19 : am_shapes[19]? = some (.inl (0, 4)) := rfl
theorem sh_20 : am_shapes[20]? = some (.inl (0, 4)) := rfl
theorem sh_21 : am_shapes[21]? = some (.inl (0, 4)) := rfl
theorem sh_22 : am_shapes[22]? = some (.inl (0, 4)) := rfl
theorem sh_23 : am_shapes[23]? = some (.inl (0, 4)) := rfl
theorem sh_24 : am_shapes[24]? = some (.inl (0, 24)) := rfl
theorem sh_25 : am_shapes[25]? = some (.inl (0, 3)) := rfl
theorem sh_26 : am_shapes[26]? = some (.inl (0, 16)) := rfl
theorem sh_27 : am_shapes[27]? = some (.inl (0, 8)) := rfl
theorem sh_28 : am_shapes[28]? = some (.inl (3, 6)) := rfl
theorem sh_29 : am_shapes[29]? = some (.inr (2, [])) := rfl
theorem sh_30 : am_shapes[30]? = some (.inr (8, [])) := rfl
theorem sh_31 : am_shapes[31]? = some (.inr (5, [])) := rfl
theorem sh_32 : am_shapes[32]? = some (.inr (1, [])) := rfl
theorem sh_33 : am_shapes[33]? = some (.inr (0, [])) := rfl
theorem sh_34 : am_shapes[34]? = some (.inr (7, [])) := rfl
theorem sh_35 : am_shapes[35]? = some (.inr (4, [39, 0, 40])) := rfl
theorem sh_36 : am_shapes[36]? = some (.inl (0, 96)) := rfl
theorem sh_37 : am_shapes[37]? = some (.inr (3, [0, 0, 0, 0, 0, 0, 0, 41, 42, 43, 44, 45, 46, 47, 48, 49, 50])) := rfl
theorem sh_38 : am_shapes[38]? = some (.inl (0, 4)) := rfl
theorem sh_39 : am_shapes[39]? = some (.inl (0, 4)) := rfl
theorem sh_40 : am_shapes[40]? = some (.inl (0, 4)) := rfl
theorem sh_41 : am_shapes[41]? = some (.inl (0, 4)) := rfl
theorem sh_42 : am_shapes[42]? = some (.inl (0, 4)) := rfl
theorem sh_43 : am_shapes[43]? = some (.inl (0, 24)) := rfl
theorem sh_44 : am_shapes[44]? = some (.inl (0, 3)) := rfl
theorem sh_45 : am_shapes[45]? = some (.inl (0, 16)) := rfl
theorem sh_46 : am_shapes[46]? = some (.inl (0, 8)) := rfl
theorem sh_47 : am_shapes[47]? = some (.inl (3, 6)) := rfl
theorem sh_48 : am_shapes[48]? = some (.inr (2, [])) := rfl
theorem sh_49 : am_shapes[49]? = some (.inr (8, [])) := rfl
theorem sh_50 : am_shapes[50]? = some (.inr (5, [])) := rfl
theorem sh_51 : am_shapes[51]? = some (.inr (1, [])) := rfl
theorem sh_52 : am_shapes[52]? = some (.inr (0, [])) := rfl
theorem sh_53 : am_shapes[53]? = some (.inr (7, [])) := rfl
theorem sh_54 : am_shapes[54]? = some (.inr (9, [58, 59, 60, 61, 62, 0, 0])) := rfl
theorem sh_55 : am_shapes[55]? = some (.inl (0, 6)) := rfl
theorem sh_56 : am_shapes[56]? = some (.inl (0, 4)) := rfl
theorem sh_57 : am_shapes[57]? = some (.inl (0, 24)) := rfl
theorem sh_58 : am_shapes[58]? = some (.inl (0, 24)) := rfl
theorem sh_59 : am_shapes[59]? = some (.inl (1, 256)) := rfl
theorem sh_60 : am_shapes[60]? = some (.inr (6, [64, 65, 66, 1])) := rfl
theorem sh_61 : am_shapes[61]? = some (.inl (2, 7)) := rfl
theorem sh_62 : am_shapes[62]? = some (.inl (0, 4)) := rfl
theorem sh_63 : am_shapes[63]? = some (.inl (0, 4)) := rfl
theorem sh_64 : am_shapes[64]? = some (.inl (0, 12)) := rfl
theorem sh_65 : am_shapes[65]? = some (.inl (0, 7)) := rfl
theorem sh_66 : am_shapes[66]? = some (.inr (11, [0, 0, 0, 0, 0, 0, 0, 70, 71, 72, 73, 74, 75, 76, 77, 78, 79, 80, 81, 82, 83, 84, 0, 85, 86, 87, 88, 89, 0, 0, 0, 0, 0, 90, 91, 92, 93, 94, 0, 0, 0, 2, 95, 1, 96, 97, 0, 0])) := rfl
theorem sh_67 : am_shapes[67]? = some (.inl (0, 4)) := rfl
theorem sh_68 : am_shapes[68]? = some (.inl (0, 4)) := rfl
theorem sh_69 : am_shapes[69]? = some (.inl (0, 4)) := rfl
theorem sh_70 : am_shapes[70]? = some (.inl (0, 4)) := rfl
theorem sh_71 : am_shapes[71]? = some (.inl (0, 4)) := rfl
theorem sh_72 : am_shapes[72]? = some (.inl (0, 24)) := rfl
theorem sh_73 : am_shapes[73]? = some (.inl (0, 17)) := rfl
theorem sh_74 : am_shapes[74]? = some (.inl (0, 17)) := rfl
theorem sh_75 : am_shapes[75]? = some (.inl (0, 17)) := rfl
theorem sh_76 : am_shapes[76]? = some (.inl (0, 17)) := rfl
theorem sh_77 : am_shapes[77]? = some (.inl (0, 3)) := rfl
theorem sh_78 : am_shapes[78]? = some (.inl (0, 8)) := rfl
theorem sh_79 : am_shapes[79]? = some (.inl (0, 8)) := rfl
theorem sh_80 : am_shapes[80]? = some (.inl (0, 8)) := rfl
theorem sh_81 : am_shapes[81]? = some (.inl (0, 8)) := rfl
theorem sh_82 : am_shapes[82]? = some (.inl (0, 7)) := rfl
theorem sh_83 : am_shapes[83]? = some (.inl (0, 6)) := rfl
theorem sh_84 : am_shapes[84]? = some (.inl (0, 4)) := rfl
theorem sh_85 : am_shapes[85]? = some (.inl (0, 4)) := rfl
theorem sh_86 : am_shapes[86]? = some (.inl (0, 96)) := rfl
theorem sh_87 : am_shapes[87]? = some (.inl (0, 33)) := rfl
theorem sh_88 : am_shapes[88]? = some (.inl (0, 33)) := rfl
theorem sh_89 : am_shapes[89]? = some (.inl (0, 231)) := rfl
theorem sh_90 : am_shapes[90]? = some (.inl (0, 154)) := rfl
theorem sh_91 : am_shapes[91]? = some (.inl (0, 154)) := rfl
theorem sh_92 : am_shapes[92]? = some (.inl (2, 7)) := rfl
theorem sh_93 : am_shapes[93]? = some (.inl (0, 4)) := rfl
theorem sh_94 : am_shapes[94]? = some (.inl (0, 12)) := rfl
theorem sh_66_one0 : ∀ j, j < 48 → j ≠ 41 → ([0, 0, 0, 0, 0, 0, 0, 70, 71, 72, 73, 74, 75, 76, 77, 78, 79, 80, 81, 82, 83, 84, 0, 85, 86, 87, 88, 89, 0, 0, 0, 0, 0, 90, 91, 92, 93, 94, 0, 0, 0, 2, 95, 1, 96, 97, 0, 0] : List Nat)[j]? ≠ some 2 := by decide +kernel
theorem sh_66_one : ∀ j gk, j ≠ 41 → ([0, 0, 0, 0, 0, 0, 0, 70, 71, 72, 73, 74, 75, 76, 77, 78, 79, 80, 81, 82, 83, 84, 0, 85, 86, 87, 88, 89, 0, 0, 0, 0, 0, 90, 91, 92, 93, 94, 0, 0, 0, 2, 95, 1, 96, 97, 0, 0] : List Nat)[j]? = some gk → gk ≠ 2 := fun j gk hj hg h2 => sh_66_one0 j (List.getElem?_eq_some_iff.mp hg).1 hj (by rw [hg, h2])
theorem dsc_X11_ask : am_dsc yX11_ask 4 := ⟨by decide +kernel, by decide +kernel, by decide +kernel⟩
theorem dsc_X11_bit : am_dsc yX11_bit 1 := ⟨by decide +kernel, by decide +kernel, by decide +kernel⟩
theorem dsc_X11_byLaws : am_dsc yX11_byLaws 2 := ⟨by decide +kernel, by decide +kernel, by decide +kernel⟩
theorem dsc_X11_can : am_dsc yX11_can 1 := ⟨by decide +kernel, by decide +kernel, by decide +kernel⟩
theorem dsc_X11_canBeInRow : am_dsc yX11_canBeInRow 1 := ⟨by decide +kernel, by decide +kernel, by decide +kernel⟩
theorem dsc_X11_chance : am_dsc yX11_chance 2 := ⟨by decide +kernel, by decide +kernel, by decide +kernel⟩
theorem dsc_X11_child : am_dsc yX11_child 2 := ⟨by decide +kernel, by decide +kernel, by decide +kernel⟩
theorem dsc_X11_count : am_dsc yX11_count 1 := ⟨by decide +kernel, by decide +kernel, by decide +kernel⟩
theorem dsc_X11_deed : am_dsc yX11_deed 2 := ⟨by decide +kernel, by decide +kernel, by decide +kernel⟩
theorem dsc_X11_door : am_dsc yX11_door 2 := ⟨by decide +kernel, by decide +kernel, by decide +kernel⟩
theorem dsc_X11_fact : am_dsc yX11_fact 4 := ⟨by decide +kernel, by decide +kernel, by decide +kernel⟩
theorem dsc_X11_feed : am_dsc yX11_feed 1 := ⟨by decide +kernel, by decide +kernel, by decide +kernel⟩
theorem dsc_X11_first : am_dsc yX11_first 0 := ⟨by decide +kernel, by decide +kernel, by decide +kernel⟩
theorem dsc_X11_half : am_dsc yX11_half 0 := ⟨by decide +kernel, by decide +kernel, by decide +kernel⟩
theorem dsc_X11_holds : am_dsc yX11_holds 1 := ⟨by decide +kernel, by decide +kernel, by decide +kernel⟩
theorem dsc_X11_house : am_dsc yX11_house 0 := ⟨by decide +kernel, by decide +kernel, by decide +kernel⟩
theorem dsc_X11_hush : am_dsc yX11_hush 0 := ⟨by decide +kernel, by decide +kernel, by decide +kernel⟩
theorem dsc_X11_image : am_dsc yX11_image 0 := ⟨by decide +kernel, by decide +kernel, by decide +kernel⟩
theorem dsc_X11_isLaw : am_dsc yX11_isLaw 1 := ⟨by decide +kernel, by decide +kernel, by decide +kernel⟩
theorem dsc_X11_isPoint : am_dsc yX11_isPoint 2 := ⟨by decide +kernel, by decide +kernel, by decide +kernel⟩
theorem dsc_X11_isZeroOrOne : am_dsc yX11_isZeroOrOne 1 := ⟨by decide +kernel, by decide +kernel, by decide +kernel⟩
theorem dsc_X11_judge : am_dsc yX11_judge 0 := ⟨by decide +kernel, by decide +kernel, by decide +kernel⟩
theorem dsc_X11_lasts : am_dsc yX11_lasts 2 := ⟨by decide +kernel, by decide +kernel, by decide +kernel⟩
theorem dsc_X11_law : am_dsc yX11_law 4 := ⟨by decide +kernel, by decide +kernel, by decide +kernel⟩
theorem dsc_X11_learn : am_dsc yX11_learn 3 := ⟨by decide +kernel, by decide +kernel, by decide +kernel⟩
theorem dsc_X11_likeliest : am_dsc yX11_likeliest 0 := ⟨by decide +kernel, by decide +kernel, by decide +kernel⟩
theorem dsc_X11_missed : am_dsc yX11_missed 2 := ⟨by decide +kernel, by decide +kernel, by decide +kernel⟩
theorem dsc_X11_most : am_dsc yX11_most 1 := ⟨by decide +kernel, by decide +kernel, by decide +kernel⟩
theorem dsc_X11_old : am_dsc yX11_old 4 := ⟨by decide +kernel, by decide +kernel, by decide +kernel⟩
theorem dsc_X11_punish : am_dsc yX11_punish 1 := ⟨by decide +kernel, by decide +kernel, by decide +kernel⟩
theorem dsc_X11_refuse : am_dsc yX11_refuse 1 := ⟨by decide +kernel, by decide +kernel, by decide +kernel⟩
theorem dsc_X11_refuseLong : am_dsc yX11_refuseLong 1 := ⟨by decide +kernel, by decide +kernel, by decide +kernel⟩
theorem dsc_X11_restore : am_dsc yX11_restore 0 := ⟨by decide +kernel, by decide +kernel, by decide +kernel⟩
theorem dsc_X11_row : am_dsc yX11_row 1 := ⟨by decide +kernel, by decide +kernel, by decide +kernel⟩
theorem dsc_X11_says : am_dsc yX11_says 4 := ⟨by decide +kernel, by decide +kernel, by decide +kernel⟩
theorem dsc_X11_seeds : am_dsc yX11_seeds 3 := ⟨by decide +kernel, by decide +kernel, by decide +kernel⟩
theorem dsc_X11_tale : am_dsc yX11_tale 2 := ⟨by decide +kernel, by decide +kernel, by decide +kernel⟩
theorem dsc_X11_together : am_dsc yX11_together 1 := ⟨by decide +kernel, by decide +kernel, by decide +kernel⟩
theorem dsc_X11_unfact : am_dsc yX11_unfact 0 := ⟨by decide +kernel, by decide +kernel, by decide +kernel⟩
theorem dsc_X11_was : am_dsc yX11_was 2 := ⟨by decide +kernel, by decide +kernel, by decide +kernel⟩
theorem dsc_X11_ways : am_dsc yX11_ways 2 := ⟨by decide +kernel, by decide +kernel, by decide +kernel⟩
theorem dsc_X11_where : am_dsc yX11_where 2 := ⟨by decide +kernel, by decide +kernel, by decide +kernel⟩
theorem dsc_X11_who : am_dsc yX11_who 2 := ⟨by decide +kernel, by decide +kernel, by decide +kernel⟩
theorem dsc_X0_covers : am_dsc yX0_covers 3 := ⟨by decide +kernel, by decide +kernel, by decide +kernel⟩
theorem dsc_X0_guilt : am_dsc yX0_guilt 0 := ⟨by decide +kernel, by decide +kernel, by decide +kernel⟩
theorem dsc_X0_slipsBy : am_dsc yX0_slipsBy 1 := ⟨by decide +kernel, by decide +kernel, by decide +kernel⟩
theorem dsc_X0_tells : am_dsc yX0_tells 4 := ⟨by decide +kernel, by decide +kernel, by decide +kernel⟩
theorem dsc_X1_slipsBy : am_dsc yX1_slipsBy 1 := ⟨by decide +kernel, by decide +kernel, by decide +kernel⟩
theorem dsc_X1_tells : am_dsc yX1_tells 4 := ⟨by decide +kernel, by decide +kernel, by decide +kernel⟩
theorem dsc_X2_covers : am_dsc yX2_covers 3 := ⟨by decide +kernel, by decide +kernel, by decide +kernel⟩
theorem dsc_X2_guilt : am_dsc yX2_guilt 0 := ⟨by decide +kernel, by decide +kernel, by decide +kernel⟩
theorem dsc_X2_slipsBy : am_dsc yX2_slipsBy 1 := ⟨by decide +kernel, by decide +kernel, by decide +kernel⟩
theorem dsc_X2_tells : am_dsc yX2_tells 4 := ⟨by decide +kernel, by decide +kernel, by decide +kernel⟩
theorem dsc_X3_addChild : am_dsc yX3_addChild 3 := ⟨by decide +kernel, by decide +kernel, by decide +kernel⟩
theorem dsc_X3_addFact : am_dsc yX3_addFact 4 := ⟨by decide +kernel, by decide +kernel, by decide +kernel⟩
theorem dsc_X3_addSaying : am_dsc yX3_addSaying 4 := ⟨by decide +kernel, by decide +kernel, by decide +kernel⟩
theorem dsc_X3_build : am_dsc yX3_build 2 := ⟨by decide +kernel, by decide +kernel, by decide +kernel⟩
theorem dsc_X3_canBuild : am_dsc yX3_canBuild 2 := ⟨by decide +kernel, by decide +kernel, by decide +kernel⟩
theorem dsc_X3_chanceOf : am_dsc yX3_chanceOf 1 := ⟨by decide +kernel, by decide +kernel, by decide +kernel⟩
theorem dsc_X3_childIn : am_dsc yX3_childIn 1 := ⟨by decide +kernel, by decide +kernel, by decide +kernel⟩
theorem dsc_X3_copyFrom : am_dsc yX3_copyFrom 1 := ⟨by decide +kernel, by decide +kernel, by decide +kernel⟩
theorem dsc_X3_deedInOne : am_dsc yX3_deedInOne 0 := ⟨by decide +kernel, by decide +kernel, by decide +kernel⟩
theorem dsc_X3_doorsInAll : am_dsc yX3_doorsInAll 0 := ⟨by decide +kernel, by decide +kernel, by decide +kernel⟩
theorem dsc_X3_doorsOf : am_dsc yX3_doorsOf 1 := ⟨by decide +kernel, by decide +kernel, by decide +kernel⟩
theorem dsc_X3_dropFact : am_dsc yX3_dropFact 0 := ⟨by decide +kernel, by decide +kernel, by decide +kernel⟩
theorem dsc_X3_factAt : am_dsc yX3_factAt 1 := ⟨by decide +kernel, by decide +kernel, by decide +kernel⟩
theorem dsc_X3_figureOf : am_dsc yX3_figureOf 1 := ⟨by decide +kernel, by decide +kernel, by decide +kernel⟩
theorem dsc_X3_guiltOf : am_dsc yX3_guiltOf 1 := ⟨by decide +kernel, by decide +kernel, by decide +kernel⟩
theorem dsc_X3_hasChild : am_dsc yX3_hasChild 1 := ⟨by decide +kernel, by decide +kernel, by decide +kernel⟩
theorem dsc_X3_hasMinute : am_dsc yX3_hasMinute 1 := ⟨by decide +kernel, by decide +kernel, by decide +kernel⟩
theorem dsc_X3_hasRoom : am_dsc yX3_hasRoom 1 := ⟨by decide +kernel, by decide +kernel, by decide +kernel⟩
theorem dsc_X3_isDeed : am_dsc yX3_isDeed 2 := ⟨by decide +kernel, by decide +kernel, by decide +kernel⟩
theorem dsc_X3_isStep : am_dsc yX3_isStep 2 := ⟨by decide +kernel, by decide +kernel, by decide +kernel⟩
theorem dsc_X3_kindOf : am_dsc yX3_kindOf 1 := ⟨by decide +kernel, by decide +kernel, by decide +kernel⟩
theorem dsc_X3_mark : am_dsc yX3_mark 4 := ⟨by decide +kernel, by decide +kernel, by decide +kernel⟩
theorem dsc_X3_minuteIn : am_dsc yX3_minuteIn 1 := ⟨by decide +kernel, by decide +kernel, by decide +kernel⟩
theorem dsc_X3_moreIn : am_dsc yX3_moreIn 1 := ⟨by decide +kernel, by decide +kernel, by decide +kernel⟩
theorem dsc_X3_namersOf : am_dsc yX3_namersOf 1 := ⟨by decide +kernel, by decide +kernel, by decide +kernel⟩
theorem dsc_X3_natureOf : am_dsc yX3_natureOf 1 := ⟨by decide +kernel, by decide +kernel, by decide +kernel⟩
theorem dsc_X3_placeOf : am_dsc yX3_placeOf 2 := ⟨by decide +kernel, by decide +kernel, by decide +kernel⟩
theorem dsc_X3_putChance : am_dsc yX3_putChance 2 := ⟨by decide +kernel, by decide +kernel, by decide +kernel⟩
theorem dsc_X3_putDeed : am_dsc yX3_putDeed 2 := ⟨by decide +kernel, by decide +kernel, by decide +kernel⟩
theorem dsc_X3_putPlace : am_dsc yX3_putPlace 3 := ⟨by decide +kernel, by decide +kernel, by decide +kernel⟩
theorem dsc_X3_roomAfter : am_dsc yX3_roomAfter 2 := ⟨by decide +kernel, by decide +kernel, by decide +kernel⟩
theorem dsc_X3_roomBehind : am_dsc yX3_roomBehind 1 := ⟨by decide +kernel, by decide +kernel, by decide +kernel⟩
theorem dsc_X3_roomIn : am_dsc yX3_roomIn 1 := ⟨by decide +kernel, by decide +kernel, by decide +kernel⟩
theorem dsc_X3_sayingAt : am_dsc yX3_sayingAt 1 := ⟨by decide +kernel, by decide +kernel, by decide +kernel⟩
theorem dsc_X3_skillOf : am_dsc yX3_skillOf 1 := ⟨by decide +kernel, by decide +kernel, by decide +kernel⟩
theorem dsc_X3_skillsInAll : am_dsc yX3_skillsInAll 0 := ⟨by decide +kernel, by decide +kernel, by decide +kernel⟩
theorem dsc_X3_slipsOf : am_dsc yX3_slipsOf 1 := ⟨by decide +kernel, by decide +kernel, by decide +kernel⟩
theorem dsc_X3_stepsOf : am_dsc yX3_stepsOf 1 := ⟨by decide +kernel, by decide +kernel, by decide +kernel⟩
theorem dsc_X3_tieOf : am_dsc yX3_tieOf 1 := ⟨by decide +kernel, by decide +kernel, by decide +kernel⟩
theorem dsc_X3_told : am_dsc yX3_told 3 := ⟨by decide +kernel, by decide +kernel, by decide +kernel⟩
theorem dsc_X3_turnDoor : am_dsc yX3_turnDoor 2 := ⟨by decide +kernel, by decide +kernel, by decide +kernel⟩
theorem dsc_X4_add : am_dsc yX4_add 1 := ⟨by decide +kernel, by decide +kernel, by decide +kernel⟩
theorem dsc_X4_breaks : am_dsc yX4_breaks 2 := ⟨by decide +kernel, by decide +kernel, by decide +kernel⟩
theorem dsc_X4_builds : am_dsc yX4_builds 2 := ⟨by decide +kernel, by decide +kernel, by decide +kernel⟩
theorem dsc_X4_clear : am_dsc yX4_clear 0 := ⟨by decide +kernel, by decide +kernel, by decide +kernel⟩
theorem dsc_X4_comes : am_dsc yX4_comes 2 := ⟨by decide +kernel, by decide +kernel, by decide +kernel⟩
theorem dsc_X4_digitAt : am_dsc yX4_digitAt 1 := ⟨by decide +kernel, by decide +kernel, by decide +kernel⟩
theorem dsc_X4_firstWrongLetter : am_dsc yX4_firstWrongLetter 1 := ⟨by decide +kernel, by decide +kernel, by decide +kernel⟩
theorem dsc_X4_goes : am_dsc yX4_goes 2 := ⟨by decide +kernel, by decide +kernel, by decide +kernel⟩
theorem dsc_X4_howMany : am_dsc yX4_howMany 0 := ⟨by decide +kernel, by decide +kernel, by decide +kernel⟩
theorem dsc_X4_isFull : am_dsc yX4_isFull 0 := ⟨by decide +kernel, by decide +kernel, by decide +kernel⟩
theorem dsc_X4_knows : am_dsc yX4_knows 2 := ⟨by decide +kernel, by decide +kernel, by decide +kernel⟩
theorem dsc_X4_lengthOf : am_dsc yX4_lengthOf 2 := ⟨by decide +kernel, by decide +kernel, by decide +kernel⟩
theorem dsc_X4_letterAt : am_dsc yX4_letterAt 1 := ⟨by decide +kernel, by decide +kernel, by decide +kernel⟩
theorem dsc_X4_mayStand : am_dsc yX4_mayStand 4 := ⟨by decide +kernel, by decide +kernel, by decide +kernel⟩
theorem dsc_X4_minutesBehind : am_dsc yX4_minutesBehind 2 := ⟨by decide +kernel, by decide +kernel, by decide +kernel⟩
theorem dsc_X4_read : am_dsc yX4_read 0 := ⟨by decide +kernel, by decide +kernel, by decide +kernel⟩
theorem dsc_X4_readOnto : am_dsc yX4_readOnto 2 := ⟨by decide +kernel, by decide +kernel, by decide +kernel⟩
theorem dsc_X4_turnsDoor : am_dsc yX4_turnsDoor 3 := ⟨by decide +kernel, by decide +kernel, by decide +kernel⟩
theorem dsc_X5_covers : am_dsc yX5_covers 3 := ⟨by decide +kernel, by decide +kernel, by decide +kernel⟩
theorem dsc_X5_guilt : am_dsc yX5_guilt 0 := ⟨by decide +kernel, by decide +kernel, by decide +kernel⟩
theorem dsc_X5_slipsBy : am_dsc yX5_slipsBy 1 := ⟨by decide +kernel, by decide +kernel, by decide +kernel⟩
theorem dsc_X6_heaviest : am_dsc yX6_heaviest 0 := ⟨by decide +kernel, by decide +kernel, by decide +kernel⟩
theorem dsc_X6_inLeastTerms : am_dsc yX6_inLeastTerms 3 := ⟨by decide +kernel, by decide +kernel, by decide +kernel⟩
theorem dsc_X6_punishedFrom : am_dsc yX6_punishedFrom 2 := ⟨by decide +kernel, by decide +kernel, by decide +kernel⟩
theorem dsc_X6_shareBeside : am_dsc yX6_shareBeside 2 := ⟨by decide +kernel, by decide +kernel, by decide +kernel⟩
theorem dsc_X6_shareOf : am_dsc yX6_shareOf 2 := ⟨by decide +kernel, by decide +kernel, by decide +kernel⟩
theorem dsc_X6_weigh : am_dsc yX6_weigh 2 := ⟨by decide +kernel, by decide +kernel, by decide +kernel⟩
theorem dsc_X6_weightOf : am_dsc yX6_weightOf 3 := ⟨by decide +kernel, by decide +kernel, by decide +kernel⟩
theorem dsc_X7_agreed : am_dsc yX7_agreed 3 := ⟨by decide +kernel, by decide +kernel, by decide +kernel⟩
theorem dsc_X7_denying : am_dsc yX7_denying 4 := ⟨by decide +kernel, by decide +kernel, by decide +kernel⟩
theorem dsc_X7_othersPay : am_dsc yX7_othersPay 4 := ⟨by decide +kernel, by decide +kernel, by decide +kernel⟩
theorem dsc_X7_owningUp : am_dsc yX7_owningUp 2 := ⟨by decide +kernel, by decide +kernel, by decide +kernel⟩
theorem dsc_X7_ownsUp : am_dsc yX7_ownsUp 4 := ⟨by decide +kernel, by decide +kernel, by decide +kernel⟩
theorem dsc_X7_sharedBy : am_dsc yX7_sharedBy 2 := ⟨by decide +kernel, by decide +kernel, by decide +kernel⟩
theorem dsc_X7_skillBehind : am_dsc yX7_skillBehind 3 := ⟨by decide +kernel, by decide +kernel, by decide +kernel⟩
theorem dsc_X7_unbroken : am_dsc yX7_unbroken 3 := ⟨by decide +kernel, by decide +kernel, by decide +kernel⟩
theorem dsc_X7_weeksToHalf : am_dsc yX7_weeksToHalf 1 := ⟨by decide +kernel, by decide +kernel, by decide +kernel⟩
theorem dsc_X8_slipsBy : am_dsc yX8_slipsBy 1 := ⟨by decide +kernel, by decide +kernel, by decide +kernel⟩
theorem dsc_X8_tells : am_dsc yX8_tells 4 := ⟨by decide +kernel, by decide +kernel, by decide +kernel⟩
theorem dsc_X9_covers : am_dsc yX9_covers 3 := ⟨by decide +kernel, by decide +kernel, by decide +kernel⟩
theorem dsc_X9_guilt : am_dsc yX9_guilt 0 := ⟨by decide +kernel, by decide +kernel, by decide +kernel⟩
theorem dsc_X9_slipsBy : am_dsc yX9_slipsBy 1 := ⟨by decide +kernel, by decide +kernel, by decide +kernel⟩
theorem dsc_X10_agree : am_dsc yX10_agree 3 := ⟨by decide +kernel, by decide +kernel, by decide +kernel⟩
theorem dsc_X10_all : am_dsc yX10_all 0 := ⟨by decide +kernel, by decide +kernel, by decide +kernel⟩
theorem dsc_X10_allAgree : am_dsc yX10_allAgree 2 := ⟨by decide +kernel, by decide +kernel, by decide +kernel⟩
theorem dsc_X10_drawBelow : am_dsc yX10_drawBelow 2 := ⟨by decide +kernel, by decide +kernel, by decide +kernel⟩
theorem dsc_X10_drawn : am_dsc yX10_drawn 4 := ⟨by decide +kernel, by decide +kernel, by decide +kernel⟩
theorem dsc_X10_largestSet : am_dsc yX10_largestSet 1 := ⟨by decide +kernel, by decide +kernel, by decide +kernel⟩
theorem dsc_X10_leftBy : am_dsc yX10_leftBy 2 := ⟨by decide +kernel, by decide +kernel, by decide +kernel⟩
theorem dsc_X10_liars : am_dsc yX10_liars 1 := ⟨by decide +kernel, by decide +kernel, by decide +kernel⟩
theorem dsc_X10_look : am_dsc yX10_look 2 := ⟨by decide +kernel, by decide +kernel, by decide +kernel⟩
theorem dsc_X10_mostLeftAt : am_dsc yX10_mostLeftAt 1 := ⟨by decide +kernel, by decide +kernel, by decide +kernel⟩
theorem dsc_X10_mustLie : am_dsc yX10_mustLie 1 := ⟨by decide +kernel, by decide +kernel, by decide +kernel⟩
theorem dsc_X10_narrow : am_dsc yX10_narrow 2 := ⟨by decide +kernel, by decide +kernel, by decide +kernel⟩
theorem dsc_X10_openByFacts : am_dsc yX10_openByFacts 2 := ⟨by decide +kernel, by decide +kernel, by decide +kernel⟩
theorem dsc_X10_openBySayings : am_dsc yX10_openBySayings 3 := ⟨by decide +kernel, by decide +kernel, by decide +kernel⟩
theorem dsc_X10_someFor : am_dsc yX10_someFor 2 := ⟨by decide +kernel, by decide +kernel, by decide +kernel⟩
theorem dsc_X10_sortSets : am_dsc yX10_sortSets 1 := ⟨by decide +kernel, by decide +kernel, by decide +kernel⟩
theorem dsc_X10_sum : am_dsc yX10_sum 3 := ⟨by decide +kernel, by decide +kernel, by decide +kernel⟩
theorem dsc_X10_sumNextTo : am_dsc yX10_sumNextTo 3 := ⟨by decide +kernel, by decide +kernel, by decide +kernel⟩
theorem dsc_X10_through : am_dsc yX10_through 2 := ⟨by decide +kernel, by decide +kernel, by decide +kernel⟩
theorem dsc_X12_areTogether : am_dsc yX12_areTogether 1 := ⟨by decide +kernel, by decide +kernel, by decide +kernel⟩
theorem dsc_X12_ask : am_dsc yX12_ask 4 := ⟨by decide +kernel, by decide +kernel, by decide +kernel⟩
theorem dsc_X12_byLaws : am_dsc yX12_byLaws 2 := ⟨by decide +kernel, by decide +kernel, by decide +kernel⟩
theorem dsc_X12_can : am_dsc yX12_can 1 := ⟨by decide +kernel, by decide +kernel, by decide +kernel⟩
theorem dsc_X12_carry : am_dsc yX12_carry 1 := ⟨by decide +kernel, by decide +kernel, by decide +kernel⟩
theorem dsc_X12_carryAll : am_dsc yX12_carryAll 2 := ⟨by decide +kernel, by decide +kernel, by decide +kernel⟩
theorem dsc_X12_carrySays : am_dsc yX12_carrySays 0 := ⟨by decide +kernel, by decide +kernel, by decide +kernel⟩
theorem dsc_X12_chance : am_dsc yX12_chance 2 := ⟨by decide +kernel, by decide +kernel, by decide +kernel⟩
theorem dsc_X12_child : am_dsc yX12_child 2 := ⟨by decide +kernel, by decide +kernel, by decide +kernel⟩
theorem dsc_X12_childComes : am_dsc yX12_childComes 3 := ⟨by decide +kernel, by decide +kernel, by decide +kernel⟩
theorem dsc_X12_comes : am_dsc yX12_comes 1 := ⟨by decide +kernel, by decide +kernel, by decide +kernel⟩
theorem dsc_X12_count : am_dsc yX12_count 1 := ⟨by decide +kernel, by decide +kernel, by decide +kernel⟩
theorem dsc_X12_countWays : am_dsc yX12_countWays 0 := ⟨by decide +kernel, by decide +kernel, by decide +kernel⟩
theorem dsc_X12_deed : am_dsc yX12_deed 2 := ⟨by decide +kernel, by decide +kernel, by decide +kernel⟩
theorem dsc_X12_deedComes : am_dsc yX12_deedComes 2 := ⟨by decide +kernel, by decide +kernel, by decide +kernel⟩
theorem dsc_X12_digitsFor : am_dsc yX12_digitsFor 1 := ⟨by decide +kernel, by decide +kernel, by decide +kernel⟩
theorem dsc_X12_divisor : am_dsc yX12_divisor 2 := ⟨by decide +kernel, by decide +kernel, by decide +kernel⟩
theorem dsc_X12_door : am_dsc yX12_door 2 := ⟨by decide +kernel, by decide +kernel, by decide +kernel⟩
theorem dsc_X12_doorComes : am_dsc yX12_doorComes 2 := ⟨by decide +kernel, by decide +kernel, by decide +kernel⟩
theorem dsc_X12_draw : am_dsc yX12_draw 1 := ⟨by decide +kernel, by decide +kernel, by decide +kernel⟩
theorem dsc_X12_fact : am_dsc yX12_fact 4 := ⟨by decide +kernel, by decide +kernel, by decide +kernel⟩
theorem dsc_X12_factComes : am_dsc yX12_factComes 4 := ⟨by decide +kernel, by decide +kernel, by decide +kernel⟩
theorem dsc_X12_feed : am_dsc yX12_feed 1 := ⟨by decide +kernel, by decide +kernel, by decide +kernel⟩
theorem dsc_X12_first : am_dsc yX12_first 0 := ⟨by decide +kernel, by decide +kernel, by decide +kernel⟩
theorem dsc_X12_firstOfMany : am_dsc yX12_firstOfMany 1 := ⟨by decide +kernel, by decide +kernel, by decide +kernel⟩
theorem dsc_X12_goesThere : am_dsc yX12_goesThere 0 := ⟨by decide +kernel, by decide +kernel, by decide +kernel⟩
theorem dsc_X12_greatestMany : am_dsc yX12_greatestMany 0 := ⟨by decide +kernel, by decide +kernel, by decide +kernel⟩
theorem dsc_X12_guiltOf : am_dsc yX12_guiltOf 1 := ⟨by decide +kernel, by decide +kernel, by decide +kernel⟩
theorem dsc_X12_half : am_dsc yX12_half 0 := ⟨by decide +kernel, by decide +kernel, by decide +kernel⟩
theorem dsc_X12_has : am_dsc yX12_has 2 := ⟨by decide +kernel, by decide +kernel, by decide +kernel⟩
theorem dsc_X12_haveAllWays : am_dsc yX12_haveAllWays 0 := ⟨by decide +kernel, by decide +kernel, by decide +kernel⟩
theorem dsc_X12_here : am_dsc yX12_here 0 := ⟨by decide +kernel, by decide +kernel, by decide +kernel⟩
theorem dsc_X12_holds : am_dsc yX12_holds 1 := ⟨by decide +kernel, by decide +kernel, by decide +kernel⟩
theorem dsc_X12_holdsOf : am_dsc yX12_holdsOf 1 := ⟨by decide +kernel, by decide +kernel, by decide +kernel⟩
theorem dsc_X12_house : am_dsc yX12_house 0 := ⟨by decide +kernel, by decide +kernel, by decide +kernel⟩
theorem dsc_X12_houseComes : am_dsc yX12_houseComes 2 := ⟨by decide +kernel, by decide +kernel, by decide +kernel⟩
theorem dsc_X12_hush : am_dsc yX12_hush 0 := ⟨by decide +kernel, by decide +kernel, by decide +kernel⟩
theorem dsc_X12_image : am_dsc yX12_image 0 := ⟨by decide +kernel, by decide +kernel, by decide +kernel⟩
theorem dsc_X12_in : am_dsc yX12_in 3 := ⟨by decide +kernel, by decide +kernel, by decide +kernel⟩
theorem dsc_X12_inSomeOf : am_dsc yX12_inSomeOf 1 := ⟨by decide +kernel, by decide +kernel, by decide +kernel⟩
theorem dsc_X12_isChild : am_dsc yX12_isChild 1 := ⟨by decide +kernel, by decide +kernel, by decide +kernel⟩
theorem dsc_X12_isMinute : am_dsc yX12_isMinute 1 := ⟨by decide +kernel, by decide +kernel, by decide +kernel⟩
theorem dsc_X12_isNamed : am_dsc yX12_isNamed 1 := ⟨by decide +kernel, by decide +kernel, by decide +kernel⟩
theorem dsc_X12_isRoom : am_dsc yX12_isRoom 1 := ⟨by decide +kernel, by decide +kernel, by decide +kernel⟩
theorem dsc_X12_judge : am_dsc yX12_judge 0 := ⟨by decide +kernel, by decide +kernel, by decide +kernel⟩
theorem dsc_X12_lasts : am_dsc yX12_lasts 2 := ⟨by decide +kernel, by decide +kernel, by decide +kernel⟩
theorem dsc_X12_law : am_dsc yX12_law 4 := ⟨by decide +kernel, by decide +kernel, by decide +kernel⟩
theorem dsc_X12_layMay : am_dsc yX12_layMay 1 := ⟨by decide +kernel, by decide +kernel, by decide +kernel⟩
theorem dsc_X12_layWeights : am_dsc yX12_layWeights 0 := ⟨by decide +kernel, by decide +kernel, by decide +kernel⟩
theorem dsc_X12_learn : am_dsc yX12_learn 3 := ⟨by decide +kernel, by decide +kernel, by decide +kernel⟩
theorem dsc_X12_likeliest : am_dsc yX12_likeliest 0 := ⟨by decide +kernel, by decide +kernel, by decide +kernel⟩
theorem dsc_X12_minuteBy : am_dsc yX12_minuteBy 1 := ⟨by decide +kernel, by decide +kernel, by decide +kernel⟩
theorem dsc_X12_missed : am_dsc yX12_missed 2 := ⟨by decide +kernel, by decide +kernel, by decide +kernel⟩
theorem dsc_X12_most : am_dsc yX12_most 1 := ⟨by decide +kernel, by decide +kernel, by decide +kernel⟩
theorem dsc_X12_mostLeft : am_dsc yX12_mostLeft 2 := ⟨by decide +kernel, by decide +kernel, by decide +kernel⟩
theorem dsc_X12_nextTo : am_dsc yX12_nextTo 2 := ⟨by decide +kernel, by decide +kernel, by decide +kernel⟩
theorem dsc_X12_notAlone : am_dsc yX12_notAlone 0 := ⟨by decide +kernel, by decide +kernel, by decide +kernel⟩
theorem dsc_X12_notCosts : am_dsc yX12_notCosts 3 := ⟨by decide +kernel, by decide +kernel, by decide +kernel⟩
theorem dsc_X12_old : am_dsc yX12_old 4 := ⟨by decide +kernel, by decide +kernel, by decide +kernel⟩
theorem dsc_X12_ones : am_dsc yX12_ones 1 := ⟨by decide +kernel, by decide +kernel, by decide +kernel⟩
theorem dsc_X12_othersPay : am_dsc yX12_othersPay 3 := ⟨by decide +kernel, by decide +kernel, by decide +kernel⟩
theorem dsc_X12_owningCosts : am_dsc yX12_owningCosts 2 := ⟨by decide +kernel, by decide +kernel, by decide +kernel⟩
theorem dsc_X12_ownsUp : am_dsc yX12_ownsUp 3 := ⟨by decide +kernel, by decide +kernel, by decide +kernel⟩
theorem dsc_X12_partOf : am_dsc yX12_partOf 3 := ⟨by decide +kernel, by decide +kernel, by decide +kernel⟩
theorem dsc_X12_plainSlips : am_dsc yX12_plainSlips 1 := ⟨by decide +kernel, by decide +kernel, by decide +kernel⟩
theorem dsc_X12_punish : am_dsc yX12_punish 1 := ⟨by decide +kernel, by decide +kernel, by decide +kernel⟩
theorem dsc_X12_punished : am_dsc yX12_punished 1 := ⟨by decide +kernel, by decide +kernel, by decide +kernel⟩
theorem dsc_X12_readDigit : am_dsc yX12_readDigit 0 := ⟨by decide +kernel, by decide +kernel, by decide +kernel⟩
theorem dsc_X12_readSign : am_dsc yX12_readSign 0 := ⟨by decide +kernel, by decide +kernel, by decide +kernel⟩
theorem dsc_X12_readStatement : am_dsc yX12_readStatement 0 := ⟨by decide +kernel, by decide +kernel, by decide +kernel⟩
theorem dsc_X12_refuse : am_dsc yX12_refuse 1 := ⟨by decide +kernel, by decide +kernel, by decide +kernel⟩
theorem dsc_X12_restore : am_dsc yX12_restore 0 := ⟨by decide +kernel, by decide +kernel, by decide +kernel⟩
theorem dsc_X12_row : am_dsc yX12_row 1 := ⟨by decide +kernel, by decide +kernel, by decide +kernel⟩
theorem dsc_X12_says : am_dsc yX12_says 4 := ⟨by decide +kernel, by decide +kernel, by decide +kernel⟩
theorem dsc_X12_saysLoyally : am_dsc yX12_saysLoyally 3 := ⟨by decide +kernel, by decide +kernel, by decide +kernel⟩
theorem dsc_X12_saysOf : am_dsc yX12_saysOf 3 := ⟨by decide +kernel, by decide +kernel, by decide +kernel⟩
theorem dsc_X12_saysOfOwn : am_dsc yX12_saysOfOwn 2 := ⟨by decide +kernel, by decide +kernel, by decide +kernel⟩
theorem dsc_X12_seeds : am_dsc yX12_seeds 3 := ⟨by decide +kernel, by decide +kernel, by decide +kernel⟩
theorem dsc_X12_slipsOf : am_dsc yX12_slipsOf 1 := ⟨by decide +kernel, by decide +kernel, by decide +kernel⟩
theorem dsc_X12_speakersOf : am_dsc yX12_speakersOf 1 := ⟨by decide +kernel, by decide +kernel, by decide +kernel⟩
theorem dsc_X12_tale : am_dsc yX12_tale 2 := ⟨by decide +kernel, by decide +kernel, by decide +kernel⟩
theorem dsc_X12_thereOf : am_dsc yX12_thereOf 1 := ⟨by decide +kernel, by decide +kernel, by decide +kernel⟩
theorem dsc_X12_together : am_dsc yX12_together 1 := ⟨by decide +kernel, by decide +kernel, by decide +kernel⟩
theorem dsc_X12_trulyAt : am_dsc yX12_trulyAt 2 := ⟨by decide +kernel, by decide +kernel, by decide +kernel⟩
theorem dsc_X12_trulyComes : am_dsc yX12_trulyComes 1 := ⟨by decide +kernel, by decide +kernel, by decide +kernel⟩
theorem dsc_X12_unfact : am_dsc yX12_unfact 0 := ⟨by decide +kernel, by decide +kernel, by decide +kernel⟩
theorem dsc_X12_was : am_dsc yX12_was 2 := ⟨by decide +kernel, by decide +kernel, by decide +kernel⟩
theorem dsc_X12_ways : am_dsc yX12_ways 2 := ⟨by decide +kernel, by decide +kernel, by decide +kernel⟩
theorem dsc_X12_waysAt : am_dsc yX12_waysAt 3 := ⟨by decide +kernel, by decide +kernel, by decide +kernel⟩
theorem dsc_X12_waysOf : am_dsc yX12_waysOf 1 := ⟨by decide +kernel, by decide +kernel, by decide +kernel⟩
theorem dsc_X12_where : am_dsc yX12_where 2 := ⟨by decide +kernel, by decide +kernel, by decide +kernel⟩
theorem dsc_X12_who : am_dsc yX12_who 2 := ⟨by decide +kernel, by decide +kernel, by decide +kernel⟩
theorem dsc_X12_wrongNumber : am_dsc yX12_wrongNumber 3 := ⟨by decide +kernel, by decide +kernel, by decide +kernel⟩
theorem dsc_J6_bitCount_0f7a4 : am_dsc yJ6_bitCount_0f7a4 1 := ⟨by decide +kernel, by decide +kernel, by decide +kernel⟩
theorem dsc_J6_numberOfLeadingZeros_0f7a4 : am_dsc yJ6_numberOfLeadingZeros_0f7a4 1 := ⟨by decide +kernel, by decide +kernel, by decide +kernel⟩
theorem dsc_J9_max_7cf53 : am_dsc yJ9_max_7cf53 2 := ⟨by decide +kernel, by decide +kernel, by decide +kernel⟩
theorem dsc_J9_max_f86c9 : am_dsc yJ9_max_f86c9 2 := ⟨by decide +kernel, by decide +kernel, by decide +kernel⟩
theorem dsc_J9_min_7cf53 : am_dsc yJ9_min_7cf53 2 := ⟨by decide +kernel, by decide +kernel, by decide +kernel⟩
