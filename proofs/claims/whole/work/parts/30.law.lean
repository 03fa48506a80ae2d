theorem tw_247 : am_in (.methodLink RL 13 yX11_feed) := am_in2 7 rfl rfl
theorem tw_248 : am_in (.instanceMethod yX11_feed) := am_in2 8 rfl rfl
theorem tw_249 : am_in (.selects RX11 yX11_feed yX11_feed) := am_in2 9 rfl rfl
theorem tw_250 : am_in (.code yX11_feed cX11_feed 2 (some .int)) := am_in2 10 rfl rfl
theorem tw_263 : am_in (.methodLink RL 18 yX11_house) := am_in2 23 rfl rfl
theorem tw_264 : am_in (.instanceMethod yX11_house) := am_in2 24 rfl rfl
theorem tw_265 : am_in (.selects RX11 yX11_house yX11_house) := am_in2 25 rfl rfl
theorem tw_266 : am_in (.code yX11_house cX11_house 2 (some .int)) := am_in2 26 rfl rfl
theorem tw_430 : am_in (.methodLink RL 23 yX11_child) := am_in2 190 rfl rfl
theorem tw_431 : am_in (.instanceMethod yX11_child) := am_in2 191 rfl rfl
theorem tw_432 : am_in (.selects RX11 yX11_child yX11_child) := am_in2 192 rfl rfl
theorem tw_433 : am_in (.code yX11_child cX11_child 3 (some .int)) := am_in2 193 rfl rfl
theorem tw_516 : am_in (.methodLink RL 28 yX11_was) := am_in3 36 rfl rfl
theorem tw_517 : am_in (.instanceMethod yX11_was) := am_in3 37 rfl rfl
theorem tw_518 : am_in (.selects RX11 yX11_was yX11_was) := am_in3 38 rfl rfl
theorem tw_519 : am_in (.code yX11_was cX11_was 3 (some .int)) := am_in3 39 rfl rfl
theorem tw_525 : am_in (.methodLink RL 32 yX11_door) := am_in3 45 rfl rfl
theorem tw_526 : am_in (.instanceMethod yX11_door) := am_in3 46 rfl rfl
theorem tw_527 : am_in (.selects RX11 yX11_door yX11_door) := am_in3 47 rfl rfl
theorem tw_528 : am_in (.code yX11_door cX11_door 3 (some .int)) := am_in3 48 rfl rfl
theorem tw_532 : am_in (.methodLink RL 36 yX11_deed) := am_in3 52 rfl rfl
theorem tw_533 : am_in (.instanceMethod yX11_deed) := am_in3 53 rfl rfl
theorem tw_534 : am_in (.selects RX11 yX11_deed yX11_deed) := am_in3 54 rfl rfl
theorem tw_535 : am_in (.code yX11_deed cX11_deed 4 (some .int)) := am_in3 55 rfl rfl
theorem tw_541 : am_in (.methodLink RL 40 yX11_fact) := am_in3 61 rfl rfl
theorem tw_542 : am_in (.instanceMethod yX11_fact) := am_in3 62 rfl rfl
theorem tw_543 : am_in (.selects RX11 yX11_fact yX11_fact) := am_in3 63 rfl rfl
theorem tw_544 : am_in (.code yX11_fact cX11_fact 5 (some .int)) := am_in3 64 rfl rfl
theorem tw_558 : am_in (.methodLink RL 45 yX11_unfact) := am_in3 78 rfl rfl
theorem tw_559 : am_in (.instanceMethod yX11_unfact) := am_in3 79 rfl rfl
theorem tw_560 : am_in (.selects RX11 yX11_unfact yX11_unfact) := am_in3 80 rfl rfl
theorem tw_561 : am_in (.code yX11_unfact cX11_unfact 1 (some .int)) := am_in3 81 rfl rfl
theorem tw_562 : am_in (.methodLink RL 49 yX11_chance) := am_in3 82 rfl rfl
theorem tw_563 : am_in (.instanceMethod yX11_chance) := am_in3 83 rfl rfl
theorem tw_564 : am_in (.selects RX11 yX11_chance yX11_chance) := am_in3 84 rfl rfl
theorem tw_565 : am_in (.code yX11_chance cX11_chance 4 (some .int)) := am_in3 85 rfl rfl
theorem tw_574 : am_in (.methodLink RL 53 yX11_ways) := am_in3 94 rfl rfl
theorem tw_575 : am_in (.instanceMethod yX11_ways) := am_in3 95 rfl rfl
theorem tw_576 : am_in (.selects RX11 yX11_ways yX11_ways) := am_in3 96 rfl rfl
theorem tw_577 : am_in (.code yX11_ways cX11_ways 3 (some .int)) := am_in3 97 rfl rfl
theorem tw_587 : am_in (.methodLink RL 57 yX11_can) := am_in3 107 rfl rfl
theorem tw_588 : am_in (.instanceMethod yX11_can) := am_in3 108 rfl rfl
theorem tw_589 : am_in (.selects RX11 yX11_can yX11_can) := am_in3 109 rfl rfl
theorem tw_590 : am_in (.code yX11_can cX11_can 5 (some .int)) := am_in3 110 rfl rfl
theorem tw_591 : am_in (.methodLink RL 61 yX11_where) := am_in3 111 rfl rfl
theorem tw_592 : am_in (.instanceMethod yX11_where) := am_in3 112 rfl rfl
theorem tw_593 : am_in (.selects RX11 yX11_where yX11_where) := am_in3 113 rfl rfl
theorem tw_594 : am_in (.code yX11_where cX11_where 5 (some .int)) := am_in3 114 rfl rfl
theorem tw_595 : am_in (.methodLink RL 65 yX11_who) := am_in3 115 rfl rfl
theorem tw_596 : am_in (.instanceMethod yX11_who) := am_in3 116 rfl rfl
theorem tw_597 : am_in (.selects RX11 yX11_who yX11_who) := am_in3 117 rfl rfl
theorem tw_598 : am_in (.code yX11_who cX11_who 3 (some .long)) := am_in3 118 rfl rfl
theorem tw_626 : am_in (.methodLink RL 70 yX11_likeliest) := am_in3 146 rfl rfl
theorem tw_627 : am_in (.instanceMethod yX11_likeliest) := am_in3 147 rfl rfl
theorem tw_628 : am_in (.selects RX11 yX11_likeliest yX11_likeliest) := am_in3 148 rfl rfl
theorem tw_629 : am_in (.code yX11_likeliest cX11_likeliest 1 (some .int)) := am_in3 149 rfl rfl
theorem tw_634 : am_in (.methodLink RL 74 yX11_says) := am_in3 154 rfl rfl
theorem tw_635 : am_in (.instanceMethod yX11_says) := am_in3 155 rfl rfl
theorem tw_636 : am_in (.selects RX11 yX11_says yX11_says) := am_in3 156 rfl rfl
theorem tw_637 : am_in (.code yX11_says cX11_says 5 (some .int)) := am_in3 157 rfl rfl
theorem tw_642 : am_in (.methodLink RL 78 yX11_hush) := am_in3 162 rfl rfl
theorem tw_643 : am_in (.instanceMethod yX11_hush) := am_in3 163 rfl rfl
theorem tw_644 : am_in (.selects RX11 yX11_hush yX11_hush) := am_in3 164 rfl rfl
theorem tw_645 : am_in (.code yX11_hush cX11_hush 2 (some .int)) := am_in3 165 rfl rfl
theorem tw_646 : am_in (.methodLink RL 82 yX11_holds) := am_in3 166 rfl rfl
theorem tw_647 : am_in (.instanceMethod yX11_holds) := am_in3 167 rfl rfl
theorem tw_648 : am_in (.selects RX11 yX11_holds yX11_holds) := am_in3 168 rfl rfl
theorem tw_649 : am_in (.code yX11_holds cX11_holds 2 (some .int)) := am_in3 169 rfl rfl
theorem tw_660 : am_in (.methodLink RL 86 yX11_together) := am_in3 180 rfl rfl
theorem tw_661 : am_in (.instanceMethod yX11_together) := am_in3 181 rfl rfl
theorem tw_662 : am_in (.selects RX11 yX11_together yX11_together) := am_in3 182 rfl rfl
theorem tw_663 : am_in (.code yX11_together cX11_together 2 (some .int)) := am_in3 183 rfl rfl
theorem tw_676 : am_in (.methodLink RL 90 yX11_most) := am_in3 196 rfl rfl
theorem tw_677 : am_in (.instanceMethod yX11_most) := am_in3 197 rfl rfl
theorem tw_678 : am_in (.selects RX11 yX11_most yX11_most) := am_in3 198 rfl rfl
theorem tw_679 : am_in (.code yX11_most cX11_most 2 (some .int)) := am_in3 199 rfl rfl
theorem tw_710 : am_in (.methodLink RL 94 yX11_ask) := am_in3 230 rfl rfl
theorem tw_711 : am_in (.instanceMethod yX11_ask) := am_in3 231 rfl rfl
theorem tw_712 : am_in (.selects RX11 yX11_ask yX11_ask) := am_in3 232 rfl rfl
theorem tw_713 : am_in (.code yX11_ask cX11_ask 6 (some .int)) := am_in3 233 rfl rfl
theorem tw_772 : am_in (.methodLink RL 98 yX11_first) := am_in4 52 rfl rfl
theorem tw_773 : am_in (.instanceMethod yX11_first) := am_in4 53 rfl rfl
theorem tw_774 : am_in (.selects RX11 yX11_first yX11_first) := am_in4 54 rfl rfl
theorem tw_775 : am_in (.code yX11_first cX11_first 8 (some .int)) := am_in4 55 rfl rfl
theorem tw_781 : am_in (.methodLink RL 102 yX11_tale) := am_in4 61 rfl rfl
theorem tw_782 : am_in (.instanceMethod yX11_tale) := am_in4 62 rfl rfl
theorem tw_783 : am_in (.selects RX11 yX11_tale yX11_tale) := am_in4 63 rfl rfl
theorem tw_784 : am_in (.code yX11_tale cX11_tale 3 (some .int)) := am_in4 64 rfl rfl
theorem tw_788 : am_in (.methodLink RL 106 yX11_lasts) := am_in4 68 rfl rfl
theorem tw_789 : am_in (.instanceMethod yX11_lasts) := am_in4 69 rfl rfl
theorem tw_790 : am_in (.selects RX11 yX11_lasts yX11_lasts) := am_in4 70 rfl rfl
theorem tw_791 : am_in (.code yX11_lasts cX11_lasts 3 (some .long)) := am_in4 71 rfl rfl
theorem tw_798 : am_in (.methodLink RL 110 yX11_half) := am_in4 78 rfl rfl
theorem tw_799 : am_in (.instanceMethod yX11_half) := am_in4 79 rfl rfl
theorem tw_800 : am_in (.selects RX11 yX11_half yX11_half) := am_in4 80 rfl rfl
theorem tw_801 : am_in (.code yX11_half cX11_half 1 (some .int)) := am_in4 81 rfl rfl
theorem tw_805 : am_in (.methodLink RL 114 yX11_law) := am_in4 85 rfl rfl
theorem tw_806 : am_in (.instanceMethod yX11_law) := am_in4 86 rfl rfl
theorem tw_807 : am_in (.selects RX11 yX11_law yX11_law) := am_in4 87 rfl rfl
theorem tw_808 : am_in (.code yX11_law cX11_law 6 (some .int)) := am_in4 88 rfl rfl
theorem tw_835 : am_in (.methodLink RL 118 yX11_byLaws) := am_in4 115 rfl rfl
theorem tw_836 : am_in (.instanceMethod yX11_byLaws) := am_in4 116 rfl rfl
theorem tw_837 : am_in (.selects RX11 yX11_byLaws yX11_byLaws) := am_in4 117 rfl rfl
theorem tw_838 : am_in (.code yX11_byLaws cX11_byLaws 6 (some .int)) := am_in4 118 rfl rfl
theorem tw_839 : am_in (.methodLink RL 122 yX11_old) := am_in4 119 rfl rfl
theorem tw_840 : am_in (.instanceMethod yX11_old) := am_in4 120 rfl rfl
theorem tw_841 : am_in (.selects RX11 yX11_old yX11_old) := am_in4 121 rfl rfl
theorem tw_842 : am_in (.code yX11_old cX11_old 5 (some .int)) := am_in4 122 rfl rfl
theorem tw_844 : am_in (.methodLink RL 126 yX11_punish) := am_in4 124 rfl rfl
theorem tw_845 : am_in (.instanceMethod yX11_punish) := am_in4 125 rfl rfl
theorem tw_846 : am_in (.selects RX11 yX11_punish yX11_punish) := am_in4 126 rfl rfl
theorem tw_847 : am_in (.code yX11_punish cX11_punish 2 (some .int)) := am_in4 127 rfl rfl
theorem tw_856 : am_in (.methodLink RL 130 yX11_missed) := am_in4 136 rfl rfl
theorem tw_857 : am_in (.instanceMethod yX11_missed) := am_in4 137 rfl rfl
theorem tw_858 : am_in (.selects RX11 yX11_missed yX11_missed) := am_in4 138 rfl rfl
theorem tw_859 : am_in (.code yX11_missed cX11_missed 3 (some .long)) := am_in4 139 rfl rfl
theorem tw_864 : am_in (.methodLink RL 134 yX11_learn) := am_in4 144 rfl rfl
theorem tw_865 : am_in (.instanceMethod yX11_learn) := am_in4 145 rfl rfl
theorem tw_866 : am_in (.selects RX11 yX11_learn yX11_learn) := am_in4 146 rfl rfl
theorem tw_867 : am_in (.code yX11_learn cX11_learn 7 (some .int)) := am_in4 147 rfl rfl
theorem tw_873 : am_in (.methodLink RL 139 yX11_row) := am_in4 153 rfl rfl
theorem tw_874 : am_in (.instanceMethod yX11_row) := am_in4 154 rfl rfl
theorem tw_875 : am_in (.selects RX11 yX11_row yX11_row) := am_in4 155 rfl rfl
theorem tw_876 : am_in (.code yX11_row cX11_row 2 (some .int)) := am_in4 156 rfl rfl
theorem tw_877 : am_in (.methodLink RL 143 yX11_judge) := am_in4 157 rfl rfl
theorem tw_878 : am_in (.instanceMethod yX11_judge) := am_in4 158 rfl rfl
theorem tw_879 : am_in (.selects RX11 yX11_judge yX11_judge) := am_in4 159 rfl rfl
theorem tw_880 : am_in (.code yX11_judge cX11_judge 4 (some .int)) := am_in4 160 rfl rfl
theorem tw_885 : am_in (.methodLink RL 147 yX11_seeds) := am_in4 165 rfl rfl
theorem tw_886 : am_in (.instanceMethod yX11_seeds) := am_in4 166 rfl rfl
theorem tw_887 : am_in (.selects RX11 yX11_seeds yX11_seeds) := am_in4 167 rfl rfl
theorem tw_888 : am_in (.code yX11_seeds cX11_seeds 4 (some .int)) := am_in4 168 rfl rfl
theorem tw_910 : am_in (.methodLink RL 151 yX11_image) := am_in4 190 rfl rfl
theorem tw_911 : am_in (.instanceMethod yX11_image) := am_in4 191 rfl rfl
theorem tw_912 : am_in (.selects RX11 yX11_image yX11_image) := am_in4 192 rfl rfl
theorem tw_913 : am_in (.code yX11_image cX11_image 1 (some .int)) := am_in4 193 rfl rfl
theorem tw_914 : am_in (.methodLink RL 155 yX11_restore) := am_in4 194 rfl rfl
theorem tw_915 : am_in (.instanceMethod yX11_restore) := am_in4 195 rfl rfl
theorem tw_916 : am_in (.selects RX11 yX11_restore yX11_restore) := am_in4 196 rfl rfl
theorem tw_917 : am_in (.code yX11_restore cX11_restore 1 (some .int)) := am_in4 197 rfl rfl
theorem tw_918 : am_in (.methodLink RL 159 yX11_count) := am_in4 198 rfl rfl
theorem tw_919 : am_in (.instanceMethod yX11_count) := am_in4 199 rfl rfl
theorem tw_920 : am_in (.selects RX11 yX11_count yX11_count) := am_in4 200 rfl rfl
theorem tw_921 : am_in (.code yX11_count cX11_count 2 (some .int)) := am_in4 201 rfl rfl
theorem tw_1086 : am_in (.methodLink RL 17 yX12_feed) := am_in5 126 rfl rfl
theorem tw_1087 : am_in (.instanceMethod yX12_feed) := am_in5 127 rfl rfl
theorem tw_1088 : am_in (.selects RX12 yX12_feed yX12_feed) := am_in5 128 rfl rfl
theorem tw_1089 : am_in (.code yX12_feed cX12_feed 2 (some .int)) := am_in5 129 rfl rfl
theorem tw_1094 : am_in (.methodLink RL 22 yX12_house) := am_in5 134 rfl rfl
theorem tw_1095 : am_in (.instanceMethod yX12_house) := am_in5 135 rfl rfl
theorem tw_1096 : am_in (.selects RX12 yX12_house yX12_house) := am_in5 136 rfl rfl
theorem tw_1097 : am_in (.code yX12_house cX12_house 2 (some .int)) := am_in5 137 rfl rfl
theorem tw_1197 : am_in (.methodLink RL 154 yX12_image) := am_in5 237 rfl rfl
theorem tw_1198 : am_in (.instanceMethod yX12_image) := am_in5 238 rfl rfl
theorem tw_1199 : am_in (.selects RX12 yX12_image yX12_image) := am_in5 239 rfl rfl
theorem tw_1200 : am_in (.code yX12_image cX12_image 1 (some .int)) := am_in6 0 rfl rfl
theorem tw_1201 : am_in (.methodLink RL 158 yX12_restore) := am_in6 1 rfl rfl
theorem tw_1202 : am_in (.instanceMethod yX12_restore) := am_in6 2 rfl rfl
theorem tw_1203 : am_in (.selects RX12 yX12_restore yX12_restore) := am_in6 3 rfl rfl
theorem tw_1204 : am_in (.code yX12_restore cX12_restore 1 (some .int)) := am_in6 4 rfl rfl
theorem tw_1205 : am_in (.methodLink RL 27 yX12_child) := am_in6 5 rfl rfl
theorem tw_1206 : am_in (.instanceMethod yX12_child) := am_in6 6 rfl rfl
theorem tw_1207 : am_in (.selects RX12 yX12_child yX12_child) := am_in6 7 rfl rfl
theorem tw_1208 : am_in (.code yX12_child cX12_child 3 (some .int)) := am_in6 8 rfl rfl
theorem tw_1222 : am_in (.methodLink RL 31 yX12_was) := am_in6 22 rfl rfl
theorem tw_1223 : am_in (.instanceMethod yX12_was) := am_in6 23 rfl rfl
theorem tw_1224 : am_in (.selects RX12 yX12_was yX12_was) := am_in6 24 rfl rfl
theorem tw_1225 : am_in (.code yX12_was cX12_was 3 (some .int)) := am_in6 25 rfl rfl
theorem tw_1230 : am_in (.methodLink RL 35 yX12_door) := am_in6 30 rfl rfl
theorem tw_1231 : am_in (.instanceMethod yX12_door) := am_in6 31 rfl rfl
theorem tw_1232 : am_in (.selects RX12 yX12_door yX12_door) := am_in6 32 rfl rfl
theorem tw_1233 : am_in (.code yX12_door cX12_door 3 (some .int)) := am_in6 33 rfl rfl
theorem tw_1234 : am_in (.methodLink RL 39 yX12_deed) := am_in6 34 rfl rfl
theorem tw_1235 : am_in (.instanceMethod yX12_deed) := am_in6 35 rfl rfl
theorem tw_1236 : am_in (.selects RX12 yX12_deed yX12_deed) := am_in6 36 rfl rfl
theorem tw_1237 : am_in (.code yX12_deed cX12_deed 4 (some .int)) := am_in6 37 rfl rfl
theorem tw_1238 : am_in (.methodLink RL 44 yX12_fact) := am_in6 38 rfl rfl
theorem tw_1239 : am_in (.instanceMethod yX12_fact) := am_in6 39 rfl rfl
theorem tw_1240 : am_in (.selects RX12 yX12_fact yX12_fact) := am_in6 40 rfl rfl
theorem tw_1241 : am_in (.code yX12_fact cX12_fact 5 (some .int)) := am_in6 41 rfl rfl
theorem tw_1242 : am_in (.methodLink RL 48 yX12_unfact) := am_in6 42 rfl rfl
theorem tw_1243 : am_in (.instanceMethod yX12_unfact) := am_in6 43 rfl rfl
theorem tw_1244 : am_in (.selects RX12 yX12_unfact yX12_unfact) := am_in6 44 rfl rfl
theorem tw_1245 : am_in (.code yX12_unfact cX12_unfact 1 (some .int)) := am_in6 45 rfl rfl
theorem tw_1246 : am_in (.methodLink RL 52 yX12_chance) := am_in6 46 rfl rfl
theorem tw_1247 : am_in (.instanceMethod yX12_chance) := am_in6 47 rfl rfl
theorem tw_1248 : am_in (.selects RX12 yX12_chance yX12_chance) := am_in6 48 rfl rfl
theorem tw_1249 : am_in (.code yX12_chance cX12_chance 5 (some .int)) := am_in6 49 rfl rfl
theorem tw_1253 : am_in (.methodLink RL 56 yX12_ways) := am_in6 53 rfl rfl
theorem tw_1254 : am_in (.instanceMethod yX12_ways) := am_in6 54 rfl rfl
theorem tw_1255 : am_in (.selects RX12 yX12_ways yX12_ways) := am_in6 55 rfl rfl
theorem tw_1256 : am_in (.code yX12_ways cX12_ways 3 (some .int)) := am_in6 56 rfl rfl
theorem tw_1265 : am_in (.methodLink RL 60 yX12_can) := am_in6 65 rfl rfl
theorem tw_1266 : am_in (.instanceMethod yX12_can) := am_in6 66 rfl rfl
theorem tw_1267 : am_in (.selects RX12 yX12_can yX12_can) := am_in6 67 rfl rfl
theorem tw_1268 : am_in (.code yX12_can cX12_can 5 (some .int)) := am_in6 68 rfl rfl
theorem tw_1269 : am_in (.methodLink RL 64 yX12_where) := am_in6 69 rfl rfl
theorem tw_1270 : am_in (.instanceMethod yX12_where) := am_in6 70 rfl rfl
theorem tw_1271 : am_in (.selects RX12 yX12_where yX12_where) := am_in6 71 rfl rfl
theorem tw_1272 : am_in (.code yX12_where cX12_where 5 (some .int)) := am_in6 72 rfl rfl
theorem tw_1273 : am_in (.methodLink RL 69 yX12_who) := am_in6 73 rfl rfl
theorem tw_1274 : am_in (.instanceMethod yX12_who) := am_in6 74 rfl rfl
theorem tw_1275 : am_in (.selects RX12 yX12_who yX12_who) := am_in6 75 rfl rfl
theorem tw_1276 : am_in (.code yX12_who cX12_who 3 (some .long)) := am_in6 76 rfl rfl
theorem tw_1288 : am_in (.methodLink RL 73 yX12_likeliest) := am_in6 88 rfl rfl
theorem tw_1289 : am_in (.instanceMethod yX12_likeliest) := am_in6 89 rfl rfl
theorem tw_1290 : am_in (.selects RX12 yX12_likeliest yX12_likeliest) := am_in6 90 rfl rfl
theorem tw_1291 : am_in (.code yX12_likeliest cX12_likeliest 3 (some .int)) := am_in6 91 rfl rfl
theorem tw_1292 : am_in (.methodLink RL 77 yX12_says) := am_in6 92 rfl rfl
theorem tw_1293 : am_in (.instanceMethod yX12_says) := am_in6 93 rfl rfl
theorem tw_1294 : am_in (.selects RX12 yX12_says yX12_says) := am_in6 94 rfl rfl
theorem tw_1295 : am_in (.code yX12_says cX12_says 5 (some .int)) := am_in6 95 rfl rfl
theorem tw_1296 : am_in (.methodLink RL 81 yX12_hush) := am_in6 96 rfl rfl
theorem tw_1297 : am_in (.instanceMethod yX12_hush) := am_in6 97 rfl rfl
theorem tw_1298 : am_in (.selects RX12 yX12_hush yX12_hush) := am_in6 98 rfl rfl
theorem tw_1299 : am_in (.code yX12_hush cX12_hush 2 (some .int)) := am_in6 99 rfl rfl
theorem tw_1300 : am_in (.methodLink RL 85 yX12_holds) := am_in6 100 rfl rfl
theorem tw_1301 : am_in (.instanceMethod yX12_holds) := am_in6 101 rfl rfl
theorem tw_1302 : am_in (.selects RX12 yX12_holds yX12_holds) := am_in6 102 rfl rfl
theorem tw_1303 : am_in (.code yX12_holds cX12_holds 2 (some .int)) := am_in6 103 rfl rfl
theorem tw_1308 : am_in (.methodLink RL 89 yX12_together) := am_in6 108 rfl rfl
theorem tw_1309 : am_in (.instanceMethod yX12_together) := am_in6 109 rfl rfl
theorem tw_1310 : am_in (.selects RX12 yX12_together yX12_together) := am_in6 110 rfl rfl
theorem tw_1311 : am_in (.code yX12_together cX12_together 2 (some .int)) := am_in6 111 rfl rfl
theorem tw_1316 : am_in (.methodLink RL 93 yX12_most) := am_in6 116 rfl rfl
theorem tw_1317 : am_in (.instanceMethod yX12_most) := am_in6 117 rfl rfl
theorem tw_1318 : am_in (.selects RX12 yX12_most yX12_most) := am_in6 118 rfl rfl
theorem tw_1319 : am_in (.code yX12_most cX12_most 3 (some .int)) := am_in6 119 rfl rfl
theorem tw_1344 : am_in (.methodLink RL 97 yX12_ask) := am_in6 144 rfl rfl
theorem tw_1345 : am_in (.instanceMethod yX12_ask) := am_in6 145 rfl rfl
theorem tw_1346 : am_in (.selects RX12 yX12_ask yX12_ask) := am_in6 146 rfl rfl
theorem tw_1347 : am_in (.code yX12_ask cX12_ask 7 (some .int)) := am_in6 147 rfl rfl
theorem tw_1360 : am_in (.methodLink RL 101 yX12_first) := am_in6 160 rfl rfl
theorem tw_1361 : am_in (.instanceMethod yX12_first) := am_in6 161 rfl rfl
theorem tw_1362 : am_in (.selects RX12 yX12_first yX12_first) := am_in6 162 rfl rfl
theorem tw_1363 : am_in (.code yX12_first cX12_first 13 (some .int)) := am_in6 163 rfl rfl
theorem tw_1368 : am_in (.methodLink RL 105 yX12_tale) := am_in6 168 rfl rfl
theorem tw_1369 : am_in (.instanceMethod yX12_tale) := am_in6 169 rfl rfl
theorem tw_1370 : am_in (.selects RX12 yX12_tale yX12_tale) := am_in6 170 rfl rfl
theorem tw_1371 : am_in (.code yX12_tale cX12_tale 8 (some .int)) := am_in6 171 rfl rfl
theorem tw_1376 : am_in (.methodLink RL 109 yX12_lasts) := am_in6 176 rfl rfl
theorem tw_1377 : am_in (.instanceMethod yX12_lasts) := am_in6 177 rfl rfl
theorem tw_1378 : am_in (.selects RX12 yX12_lasts yX12_lasts) := am_in6 178 rfl rfl
theorem tw_1379 : am_in (.code yX12_lasts cX12_lasts 10 (some .long)) := am_in6 179 rfl rfl
theorem tw_1381 : am_in (.methodLink RL 113 yX12_half) := am_in6 181 rfl rfl
theorem tw_1382 : am_in (.instanceMethod yX12_half) := am_in6 182 rfl rfl
theorem tw_1383 : am_in (.selects RX12 yX12_half yX12_half) := am_in6 183 rfl rfl
theorem tw_1384 : am_in (.code yX12_half cX12_half 4 (some .int)) := am_in6 184 rfl rfl
theorem tw_1385 : am_in (.methodLink RL 117 yX12_law) := am_in6 185 rfl rfl
theorem tw_1386 : am_in (.instanceMethod yX12_law) := am_in6 186 rfl rfl
theorem tw_1387 : am_in (.selects RX12 yX12_law yX12_law) := am_in6 187 rfl rfl
theorem tw_1388 : am_in (.code yX12_law cX12_law 6 (some .int)) := am_in6 188 rfl rfl
theorem tw_1408 : am_in (.methodLink RL 121 yX12_byLaws) := am_in6 208 rfl rfl
theorem tw_1409 : am_in (.instanceMethod yX12_byLaws) := am_in6 209 rfl rfl
theorem tw_1410 : am_in (.selects RX12 yX12_byLaws yX12_byLaws) := am_in6 210 rfl rfl
theorem tw_1411 : am_in (.code yX12_byLaws cX12_byLaws 6 (some .int)) := am_in6 211 rfl rfl
theorem tw_1412 : am_in (.methodLink RL 125 yX12_old) := am_in6 212 rfl rfl
theorem tw_1413 : am_in (.instanceMethod yX12_old) := am_in6 213 rfl rfl
theorem tw_1414 : am_in (.selects RX12 yX12_old yX12_old) := am_in6 214 rfl rfl
theorem tw_1415 : am_in (.code yX12_old cX12_old 6 (some .int)) := am_in6 215 rfl rfl
theorem tw_1416 : am_in (.methodLink RL 129 yX12_punish) := am_in6 216 rfl rfl
theorem tw_1417 : am_in (.instanceMethod yX12_punish) := am_in6 217 rfl rfl
theorem tw_1418 : am_in (.selects RX12 yX12_punish yX12_punish) := am_in6 218 rfl rfl
theorem tw_1419 : am_in (.code yX12_punish cX12_punish 2 (some .int)) := am_in6 219 rfl rfl
theorem tw_1424 : am_in (.methodLink RL 133 yX12_missed) := am_in6 224 rfl rfl
theorem tw_1425 : am_in (.instanceMethod yX12_missed) := am_in6 225 rfl rfl
theorem tw_1426 : am_in (.selects RX12 yX12_missed yX12_missed) := am_in6 226 rfl rfl
theorem tw_1427 : am_in (.code yX12_missed cX12_missed 8 (some .long)) := am_in6 227 rfl rfl
theorem tw_1428 : am_in (.methodLink RL 138 yX12_learn) := am_in6 228 rfl rfl
theorem tw_1429 : am_in (.instanceMethod yX12_learn) := am_in6 229 rfl rfl
theorem tw_1430 : am_in (.selects RX12 yX12_learn yX12_learn) := am_in6 230 rfl rfl
theorem tw_1431 : am_in (.code yX12_learn cX12_learn 10 (some .int)) := am_in6 231 rfl rfl
theorem tw_1432 : am_in (.methodLink RL 142 yX12_row) := am_in6 232 rfl rfl
theorem tw_1433 : am_in (.instanceMethod yX12_row) := am_in6 233 rfl rfl
theorem tw_1434 : am_in (.selects RX12 yX12_row yX12_row) := am_in6 234 rfl rfl
theorem tw_1435 : am_in (.code yX12_row cX12_row 2 (some .int)) := am_in6 235 rfl rfl
theorem tw_1436 : am_in (.methodLink RL 146 yX12_judge) := am_in6 236 rfl rfl
theorem tw_1437 : am_in (.instanceMethod yX12_judge) := am_in6 237 rfl rfl
theorem tw_1438 : am_in (.selects RX12 yX12_judge yX12_judge) := am_in6 238 rfl rfl
theorem tw_1439 : am_in (.code yX12_judge cX12_judge 4 (some .int)) := am_in6 239 rfl rfl
theorem tw_1440 : am_in (.methodLink RL 150 yX12_seeds) := am_in7 0 rfl rfl
theorem tw_1441 : am_in (.instanceMethod yX12_seeds) := am_in7 1 rfl rfl
theorem tw_1442 : am_in (.selects RX12 yX12_seeds yX12_seeds) := am_in7 2 rfl rfl
theorem tw_1443 : am_in (.code yX12_seeds cX12_seeds 10 (some .int)) := am_in7 3 rfl rfl
theorem tw_1459 : am_in (.methodLink RL 162 yX12_count) := am_in7 19 rfl rfl
theorem tw_1460 : am_in (.instanceMethod yX12_count) := am_in7 20 rfl rfl
theorem tw_1461 : am_in (.selects RX12 yX12_count yX12_count) := am_in7 21 rfl rfl
theorem tw_1462 : am_in (.code yX12_count cX12_count 5 (some .int)) := am_in7 22 rfl rfl
def R_law : String := "ItWasLikeThatLaw"
def lw_P (b : Addr) (xs : List Int32) (args : Array Value) (s : State) : Prop := args = #[.ref b] ∧ s.IntsAt b xs ∧ xs.length ≤ 2560 ∧ (Jvm.Cond.and given_1 narrow_1).before args s = true
def lw_Q (_ : Array Value) (s : State) (o : Outcome) (t : State) : Prop := o = .returned (some (.int 1)) ∧ Framed s o t [] 95 1689
def lw_Z (below : List Frame) (a : Array Value) (s : State) : State → Prop := fun t => ∃ o, t.status = .running ∧ Ended t below o ∧ lw_Q a s o t
/-- the law's own end, with 1 on the stack, nothing written that was there before, its room as the claim has it -/
theorem lw_ret {p : Program} {l : Launch} {e : Env} {s : State} {m : MethodId} {below : List Frame} {meth : Method} {c : Code} {b : Nat} (hx : p.tables.exec = Jvm.exec) (hb : c.code = code) (hr : meth.sig.returnType = ret) (hlocks : meth.locks = false) {pc : Nat} {H : Heap} {ls : Array Slot} (hdg : decode code pc = .ok (.ireturn, 1)) : W p l e room_1 s m #[Value.ref b] below meth c H [] 95 1689 (lw_Z below #[Value.ref b] s) (F0 m pc ls [.int 1]) := by
  intro T hT X
  obtain ⟨fs, hret, hrun, hended, hW, hframe⟩ := X.leave (v := some (.int 1)) (hlocks := hlocks) (fun h => by rw [hr] at h; cases h)
  have hmeth' : T.vm.method? m = some meth := X.method'
  refine ⟨T.setFrames fs, ?_, .returned (some (.int 1)), hrun, hended, rfl, ⟨_, rfl⟩, hW, hframe⟩
  jvm_step X.here [X.here.top, hx, hb, hdg, hmeth', hr, ret, narrow_b1]
  (try refine ⟨rfl, ?_⟩); (try refine ⟨rfl, ?_⟩)
  first | (intro acts; rw [hret _ acts rfl rfl rfl]) | rw [hret _ _ rfl rfl rfl]
  exact Steps.refl _
/-- what holds at the law's entry: the machine, the code, the tables' words (any of lw_tbl by 'hts w (by decide +kernel)'), the script of L ints xs at the cell b, what the Statement gives of the start (any of its parts by flat_of_before) -/
def lw_At (p : Program) (s : State) (m : MethodId) (meth : Method) (c : Code) (b L : Nat) (xs : Nat → Int32) : Prop :=
  p.tables.exec = Jvm.exec ∧ c.code = code ∧ meth.sig.returnType = ret ∧ c.maxLocals = 4 ∧ s.vm.findClass R_law = some m.cls ∧ (∀ w ∈ lw_tbl, w.before #[Value.ref b] s = true) ∧ va_X b L xs s s.heap ∧ b < s.heap.size ∧ meth.locks = false ∧ (Jvm.Cond.and given_1 narrow_1).before #[Value.ref b] s = true

theorem dL_law_0 : decode code 0 = .ok (.new 7, 3) := by decide +kernel
theorem dL_law_3 : decode code 3 = .ok (.dup, 1) := by decide +kernel
theorem dL_law_4 : decode code 4 = .ok (.invokespecial 9, 3) := by decide +kernel
theorem dL_law_7 : decode code 7 = .ok (.astore_n 1, 1) := by decide +kernel
theorem dL_law_8 : decode code 8 = .ok (.new 10, 3) := by decide +kernel
theorem dL_law_11 : decode code 11 = .ok (.dup, 1) := by decide +kernel
theorem dL_law_12 : decode code 12 = .ok (.invokespecial 12, 3) := by decide +kernel
theorem dL_law_15 : decode code 15 = .ok (.astore_n 2, 1) := by decide +kernel
theorem dL_law_16 : decode code 16 = .ok (.iconst 0, 1) := by decide +kernel
theorem dL_law_17 : decode code 17 = .ok (.istore_n 3, 1) := by decide +kernel
theorem dL_law_18 : decode code 18 = .ok (.iload_n 3, 1) := by decide +kernel
theorem dL_law_19 : decode code 19 = .ok (.aload_n 0, 1) := by decide +kernel
theorem dL_law_20 : decode code 20 = .ok (.arraylength, 1) := by decide +kernel
theorem dL_law_21 : decode code 21 = .ok (.iconst 5, 1) := by decide +kernel
theorem dL_law_22 : decode code 22 = .ok (.isub, 1) := by decide +kernel
theorem dL_law_23 : decode code 23 = .ok (.if_icmp .gt 1226, 3) := by decide +kernel
theorem dL_law_26 : decode code 26 = .ok (.aload_n 0, 1) := by decide +kernel
theorem dL_law_27 : decode code 27 = .ok (.iload_n 3, 1) := by decide +kernel
theorem dL_law_28 : decode code 28 = .ok (.iaload, 1) := by decide +kernel
theorem dL_law_29 : decode code 29 = .ok (.bipush 63, 2) := by decide +kernel
theorem dL_law_31 : decode code 31 = .ok (.iand, 1) := by decide +kernel
theorem dL_law_32 : decode code 32 = .ok (.tableswitch 1211 0 35 #[160, 183, 196, 229, 262, 295, 328, 381, 394, 427, 460, 483, 516, 550, 563, 616, 629, 652, 675, 698, 751, 764, 797, 831, 844, 897, 930, 983, 1006, 1040, 1083, 1106, 1119, 1162, 1175, 1188], 160) := by decide +kernel
theorem dL_law_192 : decode code 192 = .ok (.aload_n 1, 1) := by decide +kernel
theorem dL_law_193 : decode code 193 = .ok (.aload_n 0, 1) := by decide +kernel
theorem dL_law_194 : decode code 194 = .ok (.iload_n 3, 1) := by decide +kernel
theorem dL_law_195 : decode code 195 = .ok (.iconst 1, 1) := by decide +kernel
theorem dL_law_196 : decode code 196 = .ok (.iadd, 1) := by decide +kernel
theorem dL_law_197 : decode code 197 = .ok (.iaload, 1) := by decide +kernel
theorem dL_law_198 : decode code 198 = .ok (.invokevirtual 13, 3) := by decide +kernel
theorem dL_law_201 : decode code 201 = .ok (.aload_n 2, 1) := by decide +kernel
theorem dL_law_202 : decode code 202 = .ok (.aload_n 0, 1) := by decide +kernel
theorem dL_law_203 : decode code 203 = .ok (.iload_n 3, 1) := by decide +kernel
theorem dL_law_204 : decode code 204 = .ok (.iconst 1, 1) := by decide +kernel
theorem dL_law_205 : decode code 205 = .ok (.iadd, 1) := by decide +kernel
theorem dL_law_206 : decode code 206 = .ok (.iaload, 1) := by decide +kernel
theorem dL_law_207 : decode code 207 = .ok (.invokevirtual 17, 3) := by decide +kernel
theorem dL_law_210 : decode code 210 = .ok (.if_icmp .eq 1033, 3) := by decide +kernel
theorem dL_law_213 : decode code 213 = .ok (.iconst 0, 1) := by decide +kernel
theorem dL_law_214 : decode code 214 = .ok (.ireturn, 1) := by decide +kernel
theorem dL_law_215 : decode code 215 = .ok (.aload_n 1, 1) := by decide +kernel
theorem dL_law_216 : decode code 216 = .ok (.invokevirtual 18, 3) := by decide +kernel
theorem dL_law_219 : decode code 219 = .ok (.aload_n 2, 1) := by decide +kernel
theorem dL_law_220 : decode code 220 = .ok (.invokevirtual 22, 3) := by decide +kernel
theorem dL_law_223 : decode code 223 = .ok (.if_icmp .eq 1020, 3) := by decide +kernel
theorem dL_law_226 : decode code 226 = .ok (.iconst 0, 1) := by decide +kernel
theorem dL_law_227 : decode code 227 = .ok (.ireturn, 1) := by decide +kernel
theorem dL_law_228 : decode code 228 = .ok (.aload_n 1, 1) := by decide +kernel
theorem dL_law_229 : decode code 229 = .ok (.aload_n 0, 1) := by decide +kernel
theorem dL_law_230 : decode code 230 = .ok (.iload_n 3, 1) := by decide +kernel
theorem dL_law_231 : decode code 231 = .ok (.iconst 1, 1) := by decide +kernel
theorem dL_law_232 : decode code 232 = .ok (.iadd, 1) := by decide +kernel
theorem dL_law_233 : decode code 233 = .ok (.iaload, 1) := by decide +kernel
theorem dL_law_234 : decode code 234 = .ok (.aload_n 0, 1) := by decide +kernel
theorem dL_law_235 : decode code 235 = .ok (.iload_n 3, 1) := by decide +kernel
theorem dL_law_236 : decode code 236 = .ok (.iconst 2, 1) := by decide +kernel
theorem dL_law_237 : decode code 237 = .ok (.iadd, 1) := by decide +kernel
theorem dL_law_238 : decode code 238 = .ok (.iaload, 1) := by decide +kernel
theorem dL_law_239 : decode code 239 = .ok (.invokevirtual 23, 3) := by decide +kernel
theorem dL_law_242 : decode code 242 = .ok (.aload_n 2, 1) := by decide +kernel
theorem dL_law_243 : decode code 243 = .ok (.aload_n 0, 1) := by decide +kernel
theorem dL_law_244 : decode code 244 = .ok (.iload_n 3, 1) := by decide +kernel
theorem dL_law_245 : decode code 245 = .ok (.iconst 1, 1) := by decide +kernel
theorem dL_law_246 : decode code 246 = .ok (.iadd, 1) := by decide +kernel
theorem dL_law_247 : decode code 247 = .ok (.iaload, 1) := by decide +kernel
theorem dL_law_248 : decode code 248 = .ok (.aload_n 0, 1) := by decide +kernel
theorem dL_law_249 : decode code 249 = .ok (.iload_n 3, 1) := by decide +kernel
theorem dL_law_250 : decode code 250 = .ok (.iconst 2, 1) := by decide +kernel
theorem dL_law_251 : decode code 251 = .ok (.iadd, 1) := by decide +kernel
theorem dL_law_252 : decode code 252 = .ok (.iaload, 1) := by decide +kernel
theorem dL_law_253 : decode code 253 = .ok (.invokevirtual 27, 3) := by decide +kernel
theorem dL_law_256 : decode code 256 = .ok (.if_icmp .eq 987, 3) := by decide +kernel
theorem dL_law_259 : decode code 259 = .ok (.iconst 0, 1) := by decide +kernel
theorem dL_law_260 : decode code 260 = .ok (.ireturn, 1) := by decide +kernel
theorem dL_law_261 : decode code 261 = .ok (.aload_n 1, 1) := by decide +kernel
theorem dL_law_262 : decode code 262 = .ok (.aload_n 0, 1) := by decide +kernel
theorem dL_law_263 : decode code 263 = .ok (.iload_n 3, 1) := by decide +kernel
theorem dL_law_264 : decode code 264 = .ok (.iconst 1, 1) := by decide +kernel
theorem dL_law_265 : decode code 265 = .ok (.iadd, 1) := by decide +kernel
theorem dL_law_266 : decode code 266 = .ok (.iaload, 1) := by decide +kernel
theorem dL_law_267 : decode code 267 = .ok (.aload_n 0, 1) := by decide +kernel
theorem dL_law_268 : decode code 268 = .ok (.iload_n 3, 1) := by decide +kernel
theorem dL_law_269 : decode code 269 = .ok (.iconst 2, 1) := by decide +kernel
theorem dL_law_270 : decode code 270 = .ok (.iadd, 1) := by decide +kernel
theorem dL_law_271 : decode code 271 = .ok (.iaload, 1) := by decide +kernel
theorem dL_law_272 : decode code 272 = .ok (.invokevirtual 28, 3) := by decide +kernel
theorem dL_law_275 : decode code 275 = .ok (.aload_n 2, 1) := by decide +kernel
theorem dL_law_276 : decode code 276 = .ok (.aload_n 0, 1) := by decide +kernel
theorem dL_law_277 : decode code 277 = .ok (.iload_n 3, 1) := by decide +kernel
theorem dL_law_278 : decode code 278 = .ok (.iconst 1, 1) := by decide +kernel
theorem dL_law_279 : decode code 279 = .ok (.iadd, 1) := by decide +kernel
theorem dL_law_280 : decode code 280 = .ok (.iaload, 1) := by decide +kernel
theorem dL_law_281 : decode code 281 = .ok (.aload_n 0, 1) := by decide +kernel
theorem dL_law_282 : decode code 282 = .ok (.iload_n 3, 1) := by decide +kernel
theorem dL_law_283 : decode code 283 = .ok (.iconst 2, 1) := by decide +kernel
theorem dL_law_284 : decode code 284 = .ok (.iadd, 1) := by decide +kernel
theorem dL_law_285 : decode code 285 = .ok (.iaload, 1) := by decide +kernel
theorem dL_law_286 : decode code 286 = .ok (.invokevirtual 31, 3) := by decide +kernel
theorem dL_law_289 : decode code 289 = .ok (.if_icmp .eq 954, 3) := by decide +kernel
theorem dL_law_292 : decode code 292 = .ok (.iconst 0, 1) := by decide +kernel
theorem dL_law_293 : decode code 293 = .ok (.ireturn, 1) := by decide +kernel
theorem dL_law_294 : decode code 294 = .ok (.aload_n 1, 1) := by decide +kernel
theorem dL_law_295 : decode code 295 = .ok (.aload_n 0, 1) := by decide +kernel
theorem dL_law_296 : decode code 296 = .ok (.iload_n 3, 1) := by decide +kernel
theorem dL_law_297 : decode code 297 = .ok (.iconst 1, 1) := by decide +kernel
theorem dL_law_298 : decode code 298 = .ok (.iadd, 1) := by decide +kernel
theorem dL_law_299 : decode code 299 = .ok (.iaload, 1) := by decide +kernel
theorem dL_law_300 : decode code 300 = .ok (.aload_n 0, 1) := by decide +kernel
theorem dL_law_301 : decode code 301 = .ok (.iload_n 3, 1) := by decide +kernel
theorem dL_law_302 : decode code 302 = .ok (.iconst 2, 1) := by decide +kernel
theorem dL_law_303 : decode code 303 = .ok (.iadd, 1) := by decide +kernel
theorem dL_law_304 : decode code 304 = .ok (.iaload, 1) := by decide +kernel
theorem dL_law_305 : decode code 305 = .ok (.invokevirtual 32, 3) := by decide +kernel
theorem dL_law_308 : decode code 308 = .ok (.aload_n 2, 1) := by decide +kernel
theorem dL_law_309 : decode code 309 = .ok (.aload_n 0, 1) := by decide +kernel
theorem dL_law_310 : decode code 310 = .ok (.iload_n 3, 1) := by decide +kernel
theorem dL_law_311 : decode code 311 = .ok (.iconst 1, 1) := by decide +kernel
theorem dL_law_312 : decode code 312 = .ok (.iadd, 1) := by decide +kernel
theorem dL_law_313 : decode code 313 = .ok (.iaload, 1) := by decide +kernel
theorem dL_law_314 : decode code 314 = .ok (.aload_n 0, 1) := by decide +kernel
theorem dL_law_315 : decode code 315 = .ok (.iload_n 3, 1) := by decide +kernel
theorem dL_law_316 : decode code 316 = .ok (.iconst 2, 1) := by decide +kernel
theorem dL_law_317 : decode code 317 = .ok (.iadd, 1) := by decide +kernel
theorem dL_law_318 : decode code 318 = .ok (.iaload, 1) := by decide +kernel
theorem dL_law_319 : decode code 319 = .ok (.invokevirtual 35, 3) := by decide +kernel
theorem dL_law_322 : decode code 322 = .ok (.if_icmp .eq 921, 3) := by decide +kernel
theorem dL_law_325 : decode code 325 = .ok (.iconst 0, 1) := by decide +kernel
theorem dL_law_326 : decode code 326 = .ok (.ireturn, 1) := by decide +kernel
theorem dL_law_327 : decode code 327 = .ok (.aload_n 1, 1) := by decide +kernel
theorem dL_law_328 : decode code 328 = .ok (.aload_n 0, 1) := by decide +kernel
theorem dL_law_329 : decode code 329 = .ok (.iload_n 3, 1) := by decide +kernel
theorem dL_law_330 : decode code 330 = .ok (.iconst 1, 1) := by decide +kernel
theorem dL_law_331 : decode code 331 = .ok (.iadd, 1) := by decide +kernel
theorem dL_law_332 : decode code 332 = .ok (.iaload, 1) := by decide +kernel
theorem dL_law_333 : decode code 333 = .ok (.aload_n 0, 1) := by decide +kernel
theorem dL_law_334 : decode code 334 = .ok (.iload_n 3, 1) := by decide +kernel
theorem dL_law_335 : decode code 335 = .ok (.iconst 2, 1) := by decide +kernel
theorem dL_law_336 : decode code 336 = .ok (.iadd, 1) := by decide +kernel
theorem dL_law_337 : decode code 337 = .ok (.iaload, 1) := by decide +kernel
theorem dL_law_338 : decode code 338 = .ok (.invokevirtual 36, 3) := by decide +kernel
theorem dL_law_341 : decode code 341 = .ok (.aload_n 2, 1) := by decide +kernel
theorem dL_law_342 : decode code 342 = .ok (.aload_n 0, 1) := by decide +kernel
theorem dL_law_343 : decode code 343 = .ok (.iload_n 3, 1) := by decide +kernel
theorem dL_law_344 : decode code 344 = .ok (.iconst 1, 1) := by decide +kernel
theorem dL_law_345 : decode code 345 = .ok (.iadd, 1) := by decide +kernel
theorem dL_law_346 : decode code 346 = .ok (.iaload, 1) := by decide +kernel
theorem dL_law_347 : decode code 347 = .ok (.aload_n 0, 1) := by decide +kernel
theorem dL_law_348 : decode code 348 = .ok (.iload_n 3, 1) := by decide +kernel
theorem dL_law_349 : decode code 349 = .ok (.iconst 2, 1) := by decide +kernel
theorem dL_law_350 : decode code 350 = .ok (.iadd, 1) := by decide +kernel
theorem dL_law_351 : decode code 351 = .ok (.iaload, 1) := by decide +kernel
theorem dL_law_352 : decode code 352 = .ok (.invokevirtual 39, 3) := by decide +kernel
theorem dL_law_355 : decode code 355 = .ok (.if_icmp .eq 888, 3) := by decide +kernel
theorem dL_law_358 : decode code 358 = .ok (.iconst 0, 1) := by decide +kernel
theorem dL_law_359 : decode code 359 = .ok (.ireturn, 1) := by decide +kernel
theorem dL_law_360 : decode code 360 = .ok (.aload_n 1, 1) := by decide +kernel
theorem dL_law_361 : decode code 361 = .ok (.aload_n 0, 1) := by decide +kernel
theorem dL_law_362 : decode code 362 = .ok (.iload_n 3, 1) := by decide +kernel
theorem dL_law_363 : decode code 363 = .ok (.iconst 1, 1) := by decide +kernel
theorem dL_law_364 : decode code 364 = .ok (.iadd, 1) := by decide +kernel
theorem dL_law_365 : decode code 365 = .ok (.iaload, 1) := by decide +kernel
theorem dL_law_366 : decode code 366 = .ok (.aload_n 0, 1) := by decide +kernel
theorem dL_law_367 : decode code 367 = .ok (.iload_n 3, 1) := by decide +kernel
theorem dL_law_368 : decode code 368 = .ok (.iconst 2, 1) := by decide +kernel
theorem dL_law_369 : decode code 369 = .ok (.iadd, 1) := by decide +kernel
theorem dL_law_370 : decode code 370 = .ok (.iaload, 1) := by decide +kernel
theorem dL_law_371 : decode code 371 = .ok (.aload_n 0, 1) := by decide +kernel
theorem dL_law_372 : decode code 372 = .ok (.iload_n 3, 1) := by decide +kernel
theorem dL_law_373 : decode code 373 = .ok (.iconst 3, 1) := by decide +kernel
theorem dL_law_374 : decode code 374 = .ok (.iadd, 1) := by decide +kernel
theorem dL_law_375 : decode code 375 = .ok (.iaload, 1) := by decide +kernel
theorem dL_law_376 : decode code 376 = .ok (.aload_n 0, 1) := by decide +kernel
theorem dL_law_377 : decode code 377 = .ok (.iload_n 3, 1) := by decide +kernel
theorem dL_law_378 : decode code 378 = .ok (.iconst 4, 1) := by decide +kernel
theorem dL_law_379 : decode code 379 = .ok (.iadd, 1) := by decide +kernel
theorem dL_law_380 : decode code 380 = .ok (.iaload, 1) := by decide +kernel
theorem dL_law_381 : decode code 381 = .ok (.invokevirtual 40, 3) := by decide +kernel
theorem dL_law_384 : decode code 384 = .ok (.aload_n 2, 1) := by decide +kernel
theorem dL_law_385 : decode code 385 = .ok (.aload_n 0, 1) := by decide +kernel
theorem dL_law_386 : decode code 386 = .ok (.iload_n 3, 1) := by decide +kernel
theorem dL_law_387 : decode code 387 = .ok (.iconst 1, 1) := by decide +kernel
theorem dL_law_388 : decode code 388 = .ok (.iadd, 1) := by decide +kernel
theorem dL_law_389 : decode code 389 = .ok (.iaload, 1) := by decide +kernel
theorem dL_law_390 : decode code 390 = .ok (.aload_n 0, 1) := by decide +kernel
theorem dL_law_391 : decode code 391 = .ok (.iload_n 3, 1) := by decide +kernel
theorem dL_law_392 : decode code 392 = .ok (.iconst 2, 1) := by decide +kernel
theorem dL_law_393 : decode code 393 = .ok (.iadd, 1) := by decide +kernel
theorem dL_law_394 : decode code 394 = .ok (.iaload, 1) := by decide +kernel
theorem dL_law_395 : decode code 395 = .ok (.aload_n 0, 1) := by decide +kernel
theorem dL_law_396 : decode code 396 = .ok (.iload_n 3, 1) := by decide +kernel
theorem dL_law_397 : decode code 397 = .ok (.iconst 3, 1) := by decide +kernel
theorem dL_law_398 : decode code 398 = .ok (.iadd, 1) := by decide +kernel
theorem dL_law_399 : decode code 399 = .ok (.iaload, 1) := by decide +kernel
theorem dL_law_400 : decode code 400 = .ok (.aload_n 0, 1) := by decide +kernel
theorem dL_law_401 : decode code 401 = .ok (.iload_n 3, 1) := by decide +kernel
theorem dL_law_402 : decode code 402 = .ok (.iconst 4, 1) := by decide +kernel
theorem dL_law_403 : decode code 403 = .ok (.iadd, 1) := by decide +kernel
theorem dL_law_404 : decode code 404 = .ok (.iaload, 1) := by decide +kernel
theorem dL_law_405 : decode code 405 = .ok (.invokevirtual 44, 3) := by decide +kernel
theorem dL_law_408 : decode code 408 = .ok (.if_icmp .eq 835, 3) := by decide +kernel
theorem dL_law_411 : decode code 411 = .ok (.iconst 0, 1) := by decide +kernel
theorem dL_law_412 : decode code 412 = .ok (.ireturn, 1) := by decide +kernel
theorem dL_law_413 : decode code 413 = .ok (.aload_n 1, 1) := by decide +kernel
theorem dL_law_414 : decode code 414 = .ok (.invokevirtual 45, 3) := by decide +kernel
theorem dL_law_417 : decode code 417 = .ok (.aload_n 2, 1) := by decide +kernel
theorem dL_law_418 : decode code 418 = .ok (.invokevirtual 48, 3) := by decide +kernel
theorem dL_law_421 : decode code 421 = .ok (.if_icmp .eq 822, 3) := by decide +kernel
theorem dL_law_424 : decode code 424 = .ok (.iconst 0, 1) := by decide +kernel
theorem dL_law_425 : decode code 425 = .ok (.ireturn, 1) := by decide +kernel
theorem dL_law_426 : decode code 426 = .ok (.aload_n 1, 1) := by decide +kernel
theorem dL_law_427 : decode code 427 = .ok (.aload_n 0, 1) := by decide +kernel
theorem dL_law_428 : decode code 428 = .ok (.iload_n 3, 1) := by decide +kernel
theorem dL_law_429 : decode code 429 = .ok (.iconst 1, 1) := by decide +kernel
theorem dL_law_430 : decode code 430 = .ok (.iadd, 1) := by decide +kernel
theorem dL_law_431 : decode code 431 = .ok (.iaload, 1) := by decide +kernel
theorem dL_law_432 : decode code 432 = .ok (.aload_n 0, 1) := by decide +kernel
theorem dL_law_433 : decode code 433 = .ok (.iload_n 3, 1) := by decide +kernel
theorem dL_law_434 : decode code 434 = .ok (.iconst 2, 1) := by decide +kernel
theorem dL_law_435 : decode code 435 = .ok (.iadd, 1) := by decide +kernel
theorem dL_law_436 : decode code 436 = .ok (.iaload, 1) := by decide +kernel
theorem dL_law_437 : decode code 437 = .ok (.invokevirtual 49, 3) := by decide +kernel
theorem dL_law_440 : decode code 440 = .ok (.aload_n 2, 1) := by decide +kernel
theorem dL_law_441 : decode code 441 = .ok (.aload_n 0, 1) := by decide +kernel
theorem dL_law_442 : decode code 442 = .ok (.iload_n 3, 1) := by decide +kernel
theorem dL_law_443 : decode code 443 = .ok (.iconst 1, 1) := by decide +kernel
theorem dL_law_444 : decode code 444 = .ok (.iadd, 1) := by decide +kernel
theorem dL_law_445 : decode code 445 = .ok (.iaload, 1) := by decide +kernel
theorem dL_law_446 : decode code 446 = .ok (.aload_n 0, 1) := by decide +kernel
theorem dL_law_447 : decode code 447 = .ok (.iload_n 3, 1) := by decide +kernel
theorem dL_law_448 : decode code 448 = .ok (.iconst 2, 1) := by decide +kernel
theorem dL_law_449 : decode code 449 = .ok (.iadd, 1) := by decide +kernel
theorem dL_law_450 : decode code 450 = .ok (.iaload, 1) := by decide +kernel
theorem dL_law_451 : decode code 451 = .ok (.invokevirtual 52, 3) := by decide +kernel
theorem dL_law_454 : decode code 454 = .ok (.if_icmp .eq 789, 3) := by decide +kernel
theorem dL_law_457 : decode code 457 = .ok (.iconst 0, 1) := by decide +kernel
theorem dL_law_458 : decode code 458 = .ok (.ireturn, 1) := by decide +kernel
theorem dL_law_459 : decode code 459 = .ok (.aload_n 1, 1) := by decide +kernel
theorem dL_law_460 : decode code 460 = .ok (.aload_n 0, 1) := by decide +kernel
theorem dL_law_461 : decode code 461 = .ok (.iload_n 3, 1) := by decide +kernel
theorem dL_law_462 : decode code 462 = .ok (.iconst 1, 1) := by decide +kernel
theorem dL_law_463 : decode code 463 = .ok (.iadd, 1) := by decide +kernel
theorem dL_law_464 : decode code 464 = .ok (.iaload, 1) := by decide +kernel
theorem dL_law_465 : decode code 465 = .ok (.aload_n 0, 1) := by decide +kernel
theorem dL_law_466 : decode code 466 = .ok (.iload_n 3, 1) := by decide +kernel
theorem dL_law_467 : decode code 467 = .ok (.iconst 2, 1) := by decide +kernel
theorem dL_law_468 : decode code 468 = .ok (.iadd, 1) := by decide +kernel
theorem dL_law_469 : decode code 469 = .ok (.iaload, 1) := by decide +kernel
theorem dL_law_470 : decode code 470 = .ok (.invokevirtual 53, 3) := by decide +kernel
theorem dL_law_473 : decode code 473 = .ok (.aload_n 2, 1) := by decide +kernel
theorem dL_law_474 : decode code 474 = .ok (.aload_n 0, 1) := by decide +kernel
theorem dL_law_475 : decode code 475 = .ok (.iload_n 3, 1) := by decide +kernel
theorem dL_law_476 : decode code 476 = .ok (.iconst 1, 1) := by decide +kernel
theorem dL_law_477 : decode code 477 = .ok (.iadd, 1) := by decide +kernel
theorem dL_law_478 : decode code 478 = .ok (.iaload, 1) := by decide +kernel
theorem dL_law_479 : decode code 479 = .ok (.aload_n 0, 1) := by decide +kernel
theorem dL_law_480 : decode code 480 = .ok (.iload_n 3, 1) := by decide +kernel
theorem dL_law_481 : decode code 481 = .ok (.iconst 2, 1) := by decide +kernel
theorem dL_law_482 : decode code 482 = .ok (.iadd, 1) := by decide +kernel
theorem dL_law_483 : decode code 483 = .ok (.iaload, 1) := by decide +kernel
theorem dL_law_484 : decode code 484 = .ok (.invokevirtual 56, 3) := by decide +kernel
theorem dL_law_487 : decode code 487 = .ok (.if_icmp .eq 756, 3) := by decide +kernel
theorem dL_law_490 : decode code 490 = .ok (.iconst 0, 1) := by decide +kernel
theorem dL_law_491 : decode code 491 = .ok (.ireturn, 1) := by decide +kernel
theorem dL_law_492 : decode code 492 = .ok (.aload_n 1, 1) := by decide +kernel
theorem dL_law_493 : decode code 493 = .ok (.aload_n 0, 1) := by decide +kernel
theorem dL_law_494 : decode code 494 = .ok (.iload_n 3, 1) := by decide +kernel
theorem dL_law_495 : decode code 495 = .ok (.iconst 1, 1) := by decide +kernel
theorem dL_law_496 : decode code 496 = .ok (.iadd, 1) := by decide +kernel
theorem dL_law_497 : decode code 497 = .ok (.iaload, 1) := by decide +kernel
theorem dL_law_498 : decode code 498 = .ok (.invokevirtual 57, 3) := by decide +kernel
theorem dL_law_501 : decode code 501 = .ok (.aload_n 2, 1) := by decide +kernel
theorem dL_law_502 : decode code 502 = .ok (.aload_n 0, 1) := by decide +kernel
theorem dL_law_503 : decode code 503 = .ok (.iload_n 3, 1) := by decide +kernel
theorem dL_law_504 : decode code 504 = .ok (.iconst 1, 1) := by decide +kernel
theorem dL_law_505 : decode code 505 = .ok (.iadd, 1) := by decide +kernel
theorem dL_law_506 : decode code 506 = .ok (.iaload, 1) := by decide +kernel
theorem dL_law_507 : decode code 507 = .ok (.invokevirtual 60, 3) := by decide +kernel
theorem dL_law_510 : decode code 510 = .ok (.if_icmp .eq 733, 3) := by decide +kernel
theorem dL_law_513 : decode code 513 = .ok (.iconst 0, 1) := by decide +kernel
theorem dL_law_514 : decode code 514 = .ok (.ireturn, 1) := by decide +kernel
theorem dL_law_515 : decode code 515 = .ok (.aload_n 1, 1) := by decide +kernel
theorem dL_law_516 : decode code 516 = .ok (.aload_n 0, 1) := by decide +kernel
theorem dL_law_517 : decode code 517 = .ok (.iload_n 3, 1) := by decide +kernel
theorem dL_law_518 : decode code 518 = .ok (.iconst 1, 1) := by decide +kernel
theorem dL_law_519 : decode code 519 = .ok (.iadd, 1) := by decide +kernel
theorem dL_law_520 : decode code 520 = .ok (.iaload, 1) := by decide +kernel
theorem dL_law_521 : decode code 521 = .ok (.aload_n 0, 1) := by decide +kernel
theorem dL_law_522 : decode code 522 = .ok (.iload_n 3, 1) := by decide +kernel
theorem dL_law_523 : decode code 523 = .ok (.iconst 2, 1) := by decide +kernel
theorem dL_law_524 : decode code 524 = .ok (.iadd, 1) := by decide +kernel
theorem dL_law_525 : decode code 525 = .ok (.iaload, 1) := by decide +kernel
theorem dL_law_526 : decode code 526 = .ok (.invokevirtual 61, 3) := by decide +kernel
theorem dL_law_529 : decode code 529 = .ok (.aload_n 2, 1) := by decide +kernel
theorem dL_law_530 : decode code 530 = .ok (.aload_n 0, 1) := by decide +kernel
theorem dL_law_531 : decode code 531 = .ok (.iload_n 3, 1) := by decide +kernel
theorem dL_law_532 : decode code 532 = .ok (.iconst 1, 1) := by decide +kernel
theorem dL_law_533 : decode code 533 = .ok (.iadd, 1) := by decide +kernel
theorem dL_law_534 : decode code 534 = .ok (.iaload, 1) := by decide +kernel
theorem dL_law_535 : decode code 535 = .ok (.aload_n 0, 1) := by decide +kernel
theorem dL_law_536 : decode code 536 = .ok (.iload_n 3, 1) := by decide +kernel
theorem dL_law_537 : decode code 537 = .ok (.iconst 2, 1) := by decide +kernel
theorem dL_law_538 : decode code 538 = .ok (.iadd, 1) := by decide +kernel
theorem dL_law_539 : decode code 539 = .ok (.iaload, 1) := by decide +kernel
theorem dL_law_540 : decode code 540 = .ok (.invokevirtual 64, 3) := by decide +kernel
theorem dL_law_543 : decode code 543 = .ok (.if_icmp .eq 700, 3) := by decide +kernel
theorem dL_law_546 : decode code 546 = .ok (.iconst 0, 1) := by decide +kernel
theorem dL_law_547 : decode code 547 = .ok (.ireturn, 1) := by decide +kernel
theorem dL_law_548 : decode code 548 = .ok (.aload_n 1, 1) := by decide +kernel
theorem dL_law_549 : decode code 549 = .ok (.aload_n 0, 1) := by decide +kernel
theorem dL_law_550 : decode code 550 = .ok (.iload_n 3, 1) := by decide +kernel
theorem dL_law_551 : decode code 551 = .ok (.iconst 1, 1) := by decide +kernel
theorem dL_law_552 : decode code 552 = .ok (.iadd, 1) := by decide +kernel
theorem dL_law_553 : decode code 553 = .ok (.iaload, 1) := by decide +kernel
theorem dL_law_554 : decode code 554 = .ok (.aload_n 0, 1) := by decide +kernel
theorem dL_law_555 : decode code 555 = .ok (.iload_n 3, 1) := by decide +kernel
theorem dL_law_556 : decode code 556 = .ok (.iconst 2, 1) := by decide +kernel
theorem dL_law_557 : decode code 557 = .ok (.iadd, 1) := by decide +kernel
theorem dL_law_558 : decode code 558 = .ok (.iaload, 1) := by decide +kernel
theorem dL_law_559 : decode code 559 = .ok (.invokevirtual 65, 3) := by decide +kernel
theorem dL_law_562 : decode code 562 = .ok (.aload_n 2, 1) := by decide +kernel
theorem dL_law_563 : decode code 563 = .ok (.aload_n 0, 1) := by decide +kernel
theorem dL_law_564 : decode code 564 = .ok (.iload_n 3, 1) := by decide +kernel
theorem dL_law_565 : decode code 565 = .ok (.iconst 1, 1) := by decide +kernel
theorem dL_law_566 : decode code 566 = .ok (.iadd, 1) := by decide +kernel
theorem dL_law_567 : decode code 567 = .ok (.iaload, 1) := by decide +kernel
theorem dL_law_568 : decode code 568 = .ok (.aload_n 0, 1) := by decide +kernel
theorem dL_law_569 : decode code 569 = .ok (.iload_n 3, 1) := by decide +kernel
theorem dL_law_570 : decode code 570 = .ok (.iconst 2, 1) := by decide +kernel
theorem dL_law_571 : decode code 571 = .ok (.iadd, 1) := by decide +kernel
theorem dL_law_572 : decode code 572 = .ok (.iaload, 1) := by decide +kernel
theorem dL_law_573 : decode code 573 = .ok (.invokevirtual 69, 3) := by decide +kernel
theorem dL_law_576 : decode code 576 = .ok (.lcmp, 1) := by decide +kernel
theorem dL_law_577 : decode code 577 = .ok (.ifCond .eq 666, 3) := by decide +kernel
theorem dL_law_580 : decode code 580 = .ok (.iconst 0, 1) := by decide +kernel
theorem dL_law_581 : decode code 581 = .ok (.ireturn, 1) := by decide +kernel
theorem dL_law_582 : decode code 582 = .ok (.aload_n 1, 1) := by decide +kernel
theorem dL_law_583 : decode code 583 = .ok (.invokevirtual 70, 3) := by decide +kernel
theorem dL_law_586 : decode code 586 = .ok (.aload_n 2, 1) := by decide +kernel
theorem dL_law_587 : decode code 587 = .ok (.invokevirtual 73, 3) := by decide +kernel
theorem dL_law_590 : decode code 590 = .ok (.if_icmp .eq 653, 3) := by decide +kernel
theorem dL_law_593 : decode code 593 = .ok (.iconst 0, 1) := by decide +kernel
theorem dL_law_594 : decode code 594 = .ok (.ireturn, 1) := by decide +kernel
theorem dL_law_595 : decode code 595 = .ok (.aload_n 1, 1) := by decide +kernel
theorem dL_law_596 : decode code 596 = .ok (.aload_n 0, 1) := by decide +kernel
theorem dL_law_597 : decode code 597 = .ok (.iload_n 3, 1) := by decide +kernel
theorem dL_law_598 : decode code 598 = .ok (.iconst 1, 1) := by decide +kernel
theorem dL_law_599 : decode code 599 = .ok (.iadd, 1) := by decide +kernel
theorem dL_law_600 : decode code 600 = .ok (.iaload, 1) := by decide +kernel
theorem dL_law_601 : decode code 601 = .ok (.aload_n 0, 1) := by decide +kernel
theorem dL_law_602 : decode code 602 = .ok (.iload_n 3, 1) := by decide +kernel
theorem dL_law_603 : decode code 603 = .ok (.iconst 2, 1) := by decide +kernel
theorem dL_law_604 : decode code 604 = .ok (.iadd, 1) := by decide +kernel
theorem dL_law_605 : decode code 605 = .ok (.iaload, 1) := by decide +kernel
theorem dL_law_606 : decode code 606 = .ok (.aload_n 0, 1) := by decide +kernel
theorem dL_law_607 : decode code 607 = .ok (.iload_n 3, 1) := by decide +kernel
theorem dL_law_608 : decode code 608 = .ok (.iconst 3, 1) := by decide +kernel
theorem dL_law_609 : decode code 609 = .ok (.iadd, 1) := by decide +kernel
theorem dL_law_610 : decode code 610 = .ok (.iaload, 1) := by decide +kernel
theorem dL_law_611 : decode code 611 = .ok (.aload_n 0, 1) := by decide +kernel
theorem dL_law_612 : decode code 612 = .ok (.iload_n 3, 1) := by decide +kernel
theorem dL_law_613 : decode code 613 = .ok (.iconst 4, 1) := by decide +kernel
theorem dL_law_614 : decode code 614 = .ok (.iadd, 1) := by decide +kernel
theorem dL_law_615 : decode code 615 = .ok (.iaload, 1) := by decide +kernel
theorem dL_law_616 : decode code 616 = .ok (.invokevirtual 74, 3) := by decide +kernel
theorem dL_law_619 : decode code 619 = .ok (.aload_n 2, 1) := by decide +kernel
theorem dL_law_620 : decode code 620 = .ok (.aload_n 0, 1) := by decide +kernel
theorem dL_law_621 : decode code 621 = .ok (.iload_n 3, 1) := by decide +kernel
theorem dL_law_622 : decode code 622 = .ok (.iconst 1, 1) := by decide +kernel
theorem dL_law_623 : decode code 623 = .ok (.iadd, 1) := by decide +kernel
theorem dL_law_624 : decode code 624 = .ok (.iaload, 1) := by decide +kernel
theorem dL_law_625 : decode code 625 = .ok (.aload_n 0, 1) := by decide +kernel
theorem dL_law_626 : decode code 626 = .ok (.iload_n 3, 1) := by decide +kernel
theorem dL_law_627 : decode code 627 = .ok (.iconst 2, 1) := by decide +kernel
theorem dL_law_628 : decode code 628 = .ok (.iadd, 1) := by decide +kernel
theorem dL_law_629 : decode code 629 = .ok (.iaload, 1) := by decide +kernel
theorem dL_law_630 : decode code 630 = .ok (.aload_n 0, 1) := by decide +kernel
theorem dL_law_631 : decode code 631 = .ok (.iload_n 3, 1) := by decide +kernel
theorem dL_law_632 : decode code 632 = .ok (.iconst 3, 1) := by decide +kernel
theorem dL_law_633 : decode code 633 = .ok (.iadd, 1) := by decide +kernel
theorem dL_law_634 : decode code 634 = .ok (.iaload, 1) := by decide +kernel
theorem dL_law_635 : decode code 635 = .ok (.aload_n 0, 1) := by decide +kernel
theorem dL_law_636 : decode code 636 = .ok (.iload_n 3, 1) := by decide +kernel
theorem dL_law_637 : decode code 637 = .ok (.iconst 4, 1) := by decide +kernel
theorem dL_law_638 : decode code 638 = .ok (.iadd, 1) := by decide +kernel
theorem dL_law_639 : decode code 639 = .ok (.iaload, 1) := by decide +kernel
theorem dL_law_640 : decode code 640 = .ok (.invokevirtual 77, 3) := by decide +kernel
theorem dL_law_643 : decode code 643 = .ok (.if_icmp .eq 600, 3) := by decide +kernel
theorem dL_law_646 : decode code 646 = .ok (.iconst 0, 1) := by decide +kernel
theorem dL_law_647 : decode code 647 = .ok (.ireturn, 1) := by decide +kernel
theorem dL_law_648 : decode code 648 = .ok (.aload_n 1, 1) := by decide +kernel
theorem dL_law_649 : decode code 649 = .ok (.invokevirtual 78, 3) := by decide +kernel
theorem dL_law_652 : decode code 652 = .ok (.aload_n 2, 1) := by decide +kernel
theorem dL_law_653 : decode code 653 = .ok (.invokevirtual 81, 3) := by decide +kernel
theorem dL_law_656 : decode code 656 = .ok (.if_icmp .eq 587, 3) := by decide +kernel
theorem dL_law_659 : decode code 659 = .ok (.iconst 0, 1) := by decide +kernel
theorem dL_law_660 : decode code 660 = .ok (.ireturn, 1) := by decide +kernel
theorem dL_law_661 : decode code 661 = .ok (.aload_n 1, 1) := by decide +kernel
theorem dL_law_662 : decode code 662 = .ok (.aload_n 0, 1) := by decide +kernel
theorem dL_law_663 : decode code 663 = .ok (.iload_n 3, 1) := by decide +kernel
theorem dL_law_664 : decode code 664 = .ok (.iconst 1, 1) := by decide +kernel
theorem dL_law_665 : decode code 665 = .ok (.iadd, 1) := by decide +kernel
theorem dL_law_666 : decode code 666 = .ok (.iaload, 1) := by decide +kernel
theorem dL_law_667 : decode code 667 = .ok (.invokevirtual 82, 3) := by decide +kernel
theorem dL_law_670 : decode code 670 = .ok (.aload_n 2, 1) := by decide +kernel
theorem dL_law_671 : decode code 671 = .ok (.aload_n 0, 1) := by decide +kernel
theorem dL_law_672 : decode code 672 = .ok (.iload_n 3, 1) := by decide +kernel
theorem dL_law_673 : decode code 673 = .ok (.iconst 1, 1) := by decide +kernel
theorem dL_law_674 : decode code 674 = .ok (.iadd, 1) := by decide +kernel
theorem dL_law_675 : decode code 675 = .ok (.iaload, 1) := by decide +kernel
theorem dL_law_676 : decode code 676 = .ok (.invokevirtual 85, 3) := by decide +kernel
theorem dL_law_679 : decode code 679 = .ok (.if_icmp .eq 564, 3) := by decide +kernel
theorem dL_law_682 : decode code 682 = .ok (.iconst 0, 1) := by decide +kernel
theorem dL_law_683 : decode code 683 = .ok (.ireturn, 1) := by decide +kernel
theorem dL_law_684 : decode code 684 = .ok (.aload_n 1, 1) := by decide +kernel
theorem dL_law_685 : decode code 685 = .ok (.aload_n 0, 1) := by decide +kernel
theorem dL_law_686 : decode code 686 = .ok (.iload_n 3, 1) := by decide +kernel
theorem dL_law_687 : decode code 687 = .ok (.iconst 1, 1) := by decide +kernel
theorem dL_law_688 : decode code 688 = .ok (.iadd, 1) := by decide +kernel
theorem dL_law_689 : decode code 689 = .ok (.iaload, 1) := by decide +kernel
theorem dL_law_690 : decode code 690 = .ok (.invokevirtual 86, 3) := by decide +kernel
theorem dL_law_693 : decode code 693 = .ok (.aload_n 2, 1) := by decide +kernel
theorem dL_law_694 : decode code 694 = .ok (.aload_n 0, 1) := by decide +kernel
theorem dL_law_695 : decode code 695 = .ok (.iload_n 3, 1) := by decide +kernel
theorem dL_law_696 : decode code 696 = .ok (.iconst 1, 1) := by decide +kernel
theorem dL_law_697 : decode code 697 = .ok (.iadd, 1) := by decide +kernel
theorem dL_law_698 : decode code 698 = .ok (.iaload, 1) := by decide +kernel
theorem dL_law_699 : decode code 699 = .ok (.invokevirtual 89, 3) := by decide +kernel
theorem dL_law_702 : decode code 702 = .ok (.if_icmp .eq 541, 3) := by decide +kernel
theorem dL_law_705 : decode code 705 = .ok (.iconst 0, 1) := by decide +kernel
theorem dL_law_706 : decode code 706 = .ok (.ireturn, 1) := by decide +kernel
theorem dL_law_707 : decode code 707 = .ok (.aload_n 1, 1) := by decide +kernel
theorem dL_law_708 : decode code 708 = .ok (.aload_n 0, 1) := by decide +kernel
theorem dL_law_709 : decode code 709 = .ok (.iload_n 3, 1) := by decide +kernel
theorem dL_law_710 : decode code 710 = .ok (.iconst 1, 1) := by decide +kernel
theorem dL_law_711 : decode code 711 = .ok (.iadd, 1) := by decide +kernel
theorem dL_law_712 : decode code 712 = .ok (.iaload, 1) := by decide +kernel
theorem dL_law_713 : decode code 713 = .ok (.invokevirtual 90, 3) := by decide +kernel
theorem dL_law_716 : decode code 716 = .ok (.aload_n 2, 1) := by decide +kernel
theorem dL_law_717 : decode code 717 = .ok (.aload_n 0, 1) := by decide +kernel
theorem dL_law_718 : decode code 718 = .ok (.iload_n 3, 1) := by decide +kernel
theorem dL_law_719 : decode code 719 = .ok (.iconst 1, 1) := by decide +kernel
theorem dL_law_720 : decode code 720 = .ok (.iadd, 1) := by decide +kernel
theorem dL_law_721 : decode code 721 = .ok (.iaload, 1) := by decide +kernel
theorem dL_law_722 : decode code 722 = .ok (.invokevirtual 93, 3) := by decide +kernel
theorem dL_law_725 : decode code 725 = .ok (.if_icmp .eq 518, 3) := by decide +kernel
theorem dL_law_728 : decode code 728 = .ok (.iconst 0, 1) := by decide +kernel
theorem dL_law_729 : decode code 729 = .ok (.ireturn, 1) := by decide +kernel
theorem dL_law_730 : decode code 730 = .ok (.aload_n 1, 1) := by decide +kernel
theorem dL_law_731 : decode code 731 = .ok (.aload_n 0, 1) := by decide +kernel
theorem dL_law_732 : decode code 732 = .ok (.iload_n 3, 1) := by decide +kernel
theorem dL_law_733 : decode code 733 = .ok (.iconst 1, 1) := by decide +kernel
theorem dL_law_734 : decode code 734 = .ok (.iadd, 1) := by decide +kernel
theorem dL_law_735 : decode code 735 = .ok (.iaload, 1) := by decide +kernel
theorem dL_law_736 : decode code 736 = .ok (.aload_n 0, 1) := by decide +kernel
theorem dL_law_737 : decode code 737 = .ok (.iload_n 3, 1) := by decide +kernel
theorem dL_law_738 : decode code 738 = .ok (.iconst 2, 1) := by decide +kernel
theorem dL_law_739 : decode code 739 = .ok (.iadd, 1) := by decide +kernel
theorem dL_law_740 : decode code 740 = .ok (.iaload, 1) := by decide +kernel
theorem dL_law_741 : decode code 741 = .ok (.aload_n 0, 1) := by decide +kernel
theorem dL_law_742 : decode code 742 = .ok (.iload_n 3, 1) := by decide +kernel
theorem dL_law_743 : decode code 743 = .ok (.iconst 3, 1) := by decide +kernel
theorem dL_law_744 : decode code 744 = .ok (.iadd, 1) := by decide +kernel
theorem dL_law_745 : decode code 745 = .ok (.iaload, 1) := by decide +kernel
theorem dL_law_746 : decode code 746 = .ok (.aload_n 0, 1) := by decide +kernel
theorem dL_law_747 : decode code 747 = .ok (.iload_n 3, 1) := by decide +kernel
theorem dL_law_748 : decode code 748 = .ok (.iconst 4, 1) := by decide +kernel
theorem dL_law_749 : decode code 749 = .ok (.iadd, 1) := by decide +kernel
theorem dL_law_750 : decode code 750 = .ok (.iaload, 1) := by decide +kernel
theorem dL_law_751 : decode code 751 = .ok (.invokevirtual 94, 3) := by decide +kernel
theorem dL_law_754 : decode code 754 = .ok (.aload_n 2, 1) := by decide +kernel
theorem dL_law_755 : decode code 755 = .ok (.aload_n 0, 1) := by decide +kernel
theorem dL_law_756 : decode code 756 = .ok (.iload_n 3, 1) := by decide +kernel
theorem dL_law_757 : decode code 757 = .ok (.iconst 1, 1) := by decide +kernel
theorem dL_law_758 : decode code 758 = .ok (.iadd, 1) := by decide +kernel
theorem dL_law_759 : decode code 759 = .ok (.iaload, 1) := by decide +kernel
theorem dL_law_760 : decode code 760 = .ok (.aload_n 0, 1) := by decide +kernel
theorem dL_law_761 : decode code 761 = .ok (.iload_n 3, 1) := by decide +kernel
theorem dL_law_762 : decode code 762 = .ok (.iconst 2, 1) := by decide +kernel
theorem dL_law_763 : decode code 763 = .ok (.iadd, 1) := by decide +kernel
theorem dL_law_764 : decode code 764 = .ok (.iaload, 1) := by decide +kernel
theorem dL_law_765 : decode code 765 = .ok (.aload_n 0, 1) := by decide +kernel
theorem dL_law_766 : decode code 766 = .ok (.iload_n 3, 1) := by decide +kernel
theorem dL_law_767 : decode code 767 = .ok (.iconst 3, 1) := by decide +kernel
theorem dL_law_768 : decode code 768 = .ok (.iadd, 1) := by decide +kernel
theorem dL_law_769 : decode code 769 = .ok (.iaload, 1) := by decide +kernel
theorem dL_law_770 : decode code 770 = .ok (.aload_n 0, 1) := by decide +kernel
theorem dL_law_771 : decode code 771 = .ok (.iload_n 3, 1) := by decide +kernel
theorem dL_law_772 : decode code 772 = .ok (.iconst 4, 1) := by decide +kernel
theorem dL_law_773 : decode code 773 = .ok (.iadd, 1) := by decide +kernel
theorem dL_law_774 : decode code 774 = .ok (.iaload, 1) := by decide +kernel
theorem dL_law_775 : decode code 775 = .ok (.invokevirtual 97, 3) := by decide +kernel
theorem dL_law_778 : decode code 778 = .ok (.if_icmp .eq 465, 3) := by decide +kernel
theorem dL_law_781 : decode code 781 = .ok (.iconst 0, 1) := by decide +kernel
theorem dL_law_782 : decode code 782 = .ok (.ireturn, 1) := by decide +kernel
theorem dL_law_783 : decode code 783 = .ok (.aload_n 1, 1) := by decide +kernel
theorem dL_law_784 : decode code 784 = .ok (.invokevirtual 98, 3) := by decide +kernel
theorem dL_law_787 : decode code 787 = .ok (.aload_n 2, 1) := by decide +kernel
theorem dL_law_788 : decode code 788 = .ok (.invokevirtual 101, 3) := by decide +kernel
theorem dL_law_791 : decode code 791 = .ok (.if_icmp .eq 452, 3) := by decide +kernel
theorem dL_law_794 : decode code 794 = .ok (.iconst 0, 1) := by decide +kernel
theorem dL_law_795 : decode code 795 = .ok (.ireturn, 1) := by decide +kernel
theorem dL_law_796 : decode code 796 = .ok (.aload_n 1, 1) := by decide +kernel
theorem dL_law_797 : decode code 797 = .ok (.aload_n 0, 1) := by decide +kernel
theorem dL_law_798 : decode code 798 = .ok (.iload_n 3, 1) := by decide +kernel
theorem dL_law_799 : decode code 799 = .ok (.iconst 1, 1) := by decide +kernel
theorem dL_law_800 : decode code 800 = .ok (.iadd, 1) := by decide +kernel
theorem dL_law_801 : decode code 801 = .ok (.iaload, 1) := by decide +kernel
theorem dL_law_802 : decode code 802 = .ok (.aload_n 0, 1) := by decide +kernel
theorem dL_law_803 : decode code 803 = .ok (.iload_n 3, 1) := by decide +kernel
theorem dL_law_804 : decode code 804 = .ok (.iconst 2, 1) := by decide +kernel
theorem dL_law_805 : decode code 805 = .ok (.iadd, 1) := by decide +kernel
theorem dL_law_806 : decode code 806 = .ok (.iaload, 1) := by decide +kernel
theorem dL_law_807 : decode code 807 = .ok (.invokevirtual 102, 3) := by decide +kernel
theorem dL_law_810 : decode code 810 = .ok (.aload_n 2, 1) := by decide +kernel
theorem dL_law_811 : decode code 811 = .ok (.aload_n 0, 1) := by decide +kernel
theorem dL_law_812 : decode code 812 = .ok (.iload_n 3, 1) := by decide +kernel
theorem dL_law_813 : decode code 813 = .ok (.iconst 1, 1) := by decide +kernel
theorem dL_law_814 : decode code 814 = .ok (.iadd, 1) := by decide +kernel
theorem dL_law_815 : decode code 815 = .ok (.iaload, 1) := by decide +kernel
theorem dL_law_816 : decode code 816 = .ok (.aload_n 0, 1) := by decide +kernel
theorem dL_law_817 : decode code 817 = .ok (.iload_n 3, 1) := by decide +kernel
theorem dL_law_818 : decode code 818 = .ok (.iconst 2, 1) := by decide +kernel
theorem dL_law_819 : decode code 819 = .ok (.iadd, 1) := by decide +kernel
theorem dL_law_820 : decode code 820 = .ok (.iaload, 1) := by decide +kernel
theorem dL_law_821 : decode code 821 = .ok (.invokevirtual 105, 3) := by decide +kernel
theorem dL_law_824 : decode code 824 = .ok (.if_icmp .eq 419, 3) := by decide +kernel
theorem dL_law_827 : decode code 827 = .ok (.iconst 0, 1) := by decide +kernel
theorem dL_law_828 : decode code 828 = .ok (.ireturn, 1) := by decide +kernel
theorem dL_law_829 : decode code 829 = .ok (.aload_n 1, 1) := by decide +kernel
theorem dL_law_830 : decode code 830 = .ok (.aload_n 0, 1) := by decide +kernel
theorem dL_law_831 : decode code 831 = .ok (.iload_n 3, 1) := by decide +kernel
theorem dL_law_832 : decode code 832 = .ok (.iconst 1, 1) := by decide +kernel
theorem dL_law_833 : decode code 833 = .ok (.iadd, 1) := by decide +kernel
theorem dL_law_834 : decode code 834 = .ok (.iaload, 1) := by decide +kernel
theorem dL_law_835 : decode code 835 = .ok (.aload_n 0, 1) := by decide +kernel
theorem dL_law_836 : decode code 836 = .ok (.iload_n 3, 1) := by decide +kernel
theorem dL_law_837 : decode code 837 = .ok (.iconst 2, 1) := by decide +kernel
theorem dL_law_838 : decode code 838 = .ok (.iadd, 1) := by decide +kernel
theorem dL_law_839 : decode code 839 = .ok (.iaload, 1) := by decide +kernel
theorem dL_law_840 : decode code 840 = .ok (.invokevirtual 106, 3) := by decide +kernel
theorem dL_law_843 : decode code 843 = .ok (.aload_n 2, 1) := by decide +kernel
theorem dL_law_844 : decode code 844 = .ok (.aload_n 0, 1) := by decide +kernel
theorem dL_law_845 : decode code 845 = .ok (.iload_n 3, 1) := by decide +kernel
theorem dL_law_846 : decode code 846 = .ok (.iconst 1, 1) := by decide +kernel
theorem dL_law_847 : decode code 847 = .ok (.iadd, 1) := by decide +kernel
theorem dL_law_848 : decode code 848 = .ok (.iaload, 1) := by decide +kernel
theorem dL_law_849 : decode code 849 = .ok (.aload_n 0, 1) := by decide +kernel
theorem dL_law_850 : decode code 850 = .ok (.iload_n 3, 1) := by decide +kernel
theorem dL_law_851 : decode code 851 = .ok (.iconst 2, 1) := by decide +kernel
theorem dL_law_852 : decode code 852 = .ok (.iadd, 1) := by decide +kernel
theorem dL_law_853 : decode code 853 = .ok (.iaload, 1) := by decide +kernel
theorem dL_law_854 : decode code 854 = .ok (.invokevirtual 109, 3) := by decide +kernel
theorem dL_law_857 : decode code 857 = .ok (.lcmp, 1) := by decide +kernel
theorem dL_law_858 : decode code 858 = .ok (.ifCond .eq 385, 3) := by decide +kernel
theorem dL_law_861 : decode code 861 = .ok (.iconst 0, 1) := by decide +kernel
theorem dL_law_862 : decode code 862 = .ok (.ireturn, 1) := by decide +kernel
theorem dL_law_863 : decode code 863 = .ok (.aload_n 1, 1) := by decide +kernel
theorem dL_law_864 : decode code 864 = .ok (.invokevirtual 110, 3) := by decide +kernel
theorem dL_law_867 : decode code 867 = .ok (.aload_n 2, 1) := by decide +kernel
theorem dL_law_868 : decode code 868 = .ok (.invokevirtual 113, 3) := by decide +kernel
theorem dL_law_871 : decode code 871 = .ok (.if_icmp .eq 372, 3) := by decide +kernel
theorem dL_law_874 : decode code 874 = .ok (.iconst 0, 1) := by decide +kernel
theorem dL_law_875 : decode code 875 = .ok (.ireturn, 1) := by decide +kernel
theorem dL_law_876 : decode code 876 = .ok (.aload_n 1, 1) := by decide +kernel
theorem dL_law_877 : decode code 877 = .ok (.aload_n 0, 1) := by decide +kernel
theorem dL_law_878 : decode code 878 = .ok (.iload_n 3, 1) := by decide +kernel
theorem dL_law_879 : decode code 879 = .ok (.iconst 1, 1) := by decide +kernel
theorem dL_law_880 : decode code 880 = .ok (.iadd, 1) := by decide +kernel
theorem dL_law_881 : decode code 881 = .ok (.iaload, 1) := by decide +kernel
theorem dL_law_882 : decode code 882 = .ok (.aload_n 0, 1) := by decide +kernel
theorem dL_law_883 : decode code 883 = .ok (.iload_n 3, 1) := by decide +kernel
theorem dL_law_884 : decode code 884 = .ok (.iconst 2, 1) := by decide +kernel
theorem dL_law_885 : decode code 885 = .ok (.iadd, 1) := by decide +kernel
theorem dL_law_886 : decode code 886 = .ok (.iaload, 1) := by decide +kernel
theorem dL_law_887 : decode code 887 = .ok (.aload_n 0, 1) := by decide +kernel
theorem dL_law_888 : decode code 888 = .ok (.iload_n 3, 1) := by decide +kernel
theorem dL_law_889 : decode code 889 = .ok (.iconst 3, 1) := by decide +kernel
theorem dL_law_890 : decode code 890 = .ok (.iadd, 1) := by decide +kernel
theorem dL_law_891 : decode code 891 = .ok (.iaload, 1) := by decide +kernel
theorem dL_law_892 : decode code 892 = .ok (.aload_n 0, 1) := by decide +kernel
theorem dL_law_893 : decode code 893 = .ok (.iload_n 3, 1) := by decide +kernel
theorem dL_law_894 : decode code 894 = .ok (.iconst 4, 1) := by decide +kernel
theorem dL_law_895 : decode code 895 = .ok (.iadd, 1) := by decide +kernel
theorem dL_law_896 : decode code 896 = .ok (.iaload, 1) := by decide +kernel
theorem dL_law_897 : decode code 897 = .ok (.invokevirtual 114, 3) := by decide +kernel
theorem dL_law_900 : decode code 900 = .ok (.aload_n 2, 1) := by decide +kernel
theorem dL_law_901 : decode code 901 = .ok (.aload_n 0, 1) := by decide +kernel
theorem dL_law_902 : decode code 902 = .ok (.iload_n 3, 1) := by decide +kernel
theorem dL_law_903 : decode code 903 = .ok (.iconst 1, 1) := by decide +kernel
theorem dL_law_904 : decode code 904 = .ok (.iadd, 1) := by decide +kernel
theorem dL_law_905 : decode code 905 = .ok (.iaload, 1) := by decide +kernel
theorem dL_law_906 : decode code 906 = .ok (.aload_n 0, 1) := by decide +kernel
theorem dL_law_907 : decode code 907 = .ok (.iload_n 3, 1) := by decide +kernel
theorem dL_law_908 : decode code 908 = .ok (.iconst 2, 1) := by decide +kernel
theorem dL_law_909 : decode code 909 = .ok (.iadd, 1) := by decide +kernel
theorem dL_law_910 : decode code 910 = .ok (.iaload, 1) := by decide +kernel
theorem dL_law_911 : decode code 911 = .ok (.aload_n 0, 1) := by decide +kernel
theorem dL_law_912 : decode code 912 = .ok (.iload_n 3, 1) := by decide +kernel
theorem dL_law_913 : decode code 913 = .ok (.iconst 3, 1) := by decide +kernel
theorem dL_law_914 : decode code 914 = .ok (.iadd, 1) := by decide +kernel
theorem dL_law_915 : decode code 915 = .ok (.iaload, 1) := by decide +kernel
theorem dL_law_916 : decode code 916 = .ok (.aload_n 0, 1) := by decide +kernel
theorem dL_law_917 : decode code 917 = .ok (.iload_n 3, 1) := by decide +kernel
theorem dL_law_918 : decode code 918 = .ok (.iconst 4, 1) := by decide +kernel
theorem dL_law_919 : decode code 919 = .ok (.iadd, 1) := by decide +kernel
theorem dL_law_920 : decode code 920 = .ok (.iaload, 1) := by decide +kernel
theorem dL_law_921 : decode code 921 = .ok (.invokevirtual 117, 3) := by decide +kernel
theorem dL_law_924 : decode code 924 = .ok (.if_icmp .eq 319, 3) := by decide +kernel
theorem dL_law_927 : decode code 927 = .ok (.iconst 0, 1) := by decide +kernel
theorem dL_law_928 : decode code 928 = .ok (.ireturn, 1) := by decide +kernel
theorem dL_law_929 : decode code 929 = .ok (.aload_n 1, 1) := by decide +kernel
theorem dL_law_930 : decode code 930 = .ok (.aload_n 0, 1) := by decide +kernel
theorem dL_law_931 : decode code 931 = .ok (.iload_n 3, 1) := by decide +kernel
theorem dL_law_932 : decode code 932 = .ok (.iconst 1, 1) := by decide +kernel
theorem dL_law_933 : decode code 933 = .ok (.iadd, 1) := by decide +kernel
theorem dL_law_934 : decode code 934 = .ok (.iaload, 1) := by decide +kernel
theorem dL_law_935 : decode code 935 = .ok (.aload_n 0, 1) := by decide +kernel
theorem dL_law_936 : decode code 936 = .ok (.iload_n 3, 1) := by decide +kernel
theorem dL_law_937 : decode code 937 = .ok (.iconst 2, 1) := by decide +kernel
theorem dL_law_938 : decode code 938 = .ok (.iadd, 1) := by decide +kernel
theorem dL_law_939 : decode code 939 = .ok (.iaload, 1) := by decide +kernel
theorem dL_law_940 : decode code 940 = .ok (.invokevirtual 118, 3) := by decide +kernel
theorem dL_law_943 : decode code 943 = .ok (.aload_n 2, 1) := by decide +kernel
theorem dL_law_944 : decode code 944 = .ok (.aload_n 0, 1) := by decide +kernel
theorem dL_law_945 : decode code 945 = .ok (.iload_n 3, 1) := by decide +kernel
theorem dL_law_946 : decode code 946 = .ok (.iconst 1, 1) := by decide +kernel
theorem dL_law_947 : decode code 947 = .ok (.iadd, 1) := by decide +kernel
theorem dL_law_948 : decode code 948 = .ok (.iaload, 1) := by decide +kernel
theorem dL_law_949 : decode code 949 = .ok (.aload_n 0, 1) := by decide +kernel
theorem dL_law_950 : decode code 950 = .ok (.iload_n 3, 1) := by decide +kernel
theorem dL_law_951 : decode code 951 = .ok (.iconst 2, 1) := by decide +kernel
theorem dL_law_952 : decode code 952 = .ok (.iadd, 1) := by decide +kernel
theorem dL_law_953 : decode code 953 = .ok (.iaload, 1) := by decide +kernel
theorem dL_law_954 : decode code 954 = .ok (.invokevirtual 121, 3) := by decide +kernel
theorem dL_law_957 : decode code 957 = .ok (.if_icmp .eq 286, 3) := by decide +kernel
theorem dL_law_960 : decode code 960 = .ok (.iconst 0, 1) := by decide +kernel
theorem dL_law_961 : decode code 961 = .ok (.ireturn, 1) := by decide +kernel
theorem dL_law_962 : decode code 962 = .ok (.aload_n 1, 1) := by decide +kernel
theorem dL_law_963 : decode code 963 = .ok (.aload_n 0, 1) := by decide +kernel
theorem dL_law_964 : decode code 964 = .ok (.iload_n 3, 1) := by decide +kernel
theorem dL_law_965 : decode code 965 = .ok (.iconst 1, 1) := by decide +kernel
theorem dL_law_966 : decode code 966 = .ok (.iadd, 1) := by decide +kernel
theorem dL_law_967 : decode code 967 = .ok (.iaload, 1) := by decide +kernel
theorem dL_law_968 : decode code 968 = .ok (.aload_n 0, 1) := by decide +kernel
theorem dL_law_969 : decode code 969 = .ok (.iload_n 3, 1) := by decide +kernel
theorem dL_law_970 : decode code 970 = .ok (.iconst 2, 1) := by decide +kernel
theorem dL_law_971 : decode code 971 = .ok (.iadd, 1) := by decide +kernel
theorem dL_law_972 : decode code 972 = .ok (.iaload, 1) := by decide +kernel
theorem dL_law_973 : decode code 973 = .ok (.aload_n 0, 1) := by decide +kernel
theorem dL_law_974 : decode code 974 = .ok (.iload_n 3, 1) := by decide +kernel
theorem dL_law_975 : decode code 975 = .ok (.iconst 3, 1) := by decide +kernel
theorem dL_law_976 : decode code 976 = .ok (.iadd, 1) := by decide +kernel
theorem dL_law_977 : decode code 977 = .ok (.iaload, 1) := by decide +kernel
theorem dL_law_978 : decode code 978 = .ok (.aload_n 0, 1) := by decide +kernel
theorem dL_law_979 : decode code 979 = .ok (.iload_n 3, 1) := by decide +kernel
theorem dL_law_980 : decode code 980 = .ok (.iconst 4, 1) := by decide +kernel
theorem dL_law_981 : decode code 981 = .ok (.iadd, 1) := by decide +kernel
theorem dL_law_982 : decode code 982 = .ok (.iaload, 1) := by decide +kernel
theorem dL_law_983 : decode code 983 = .ok (.invokevirtual 122, 3) := by decide +kernel
theorem dL_law_986 : decode code 986 = .ok (.aload_n 2, 1) := by decide +kernel
theorem dL_law_987 : decode code 987 = .ok (.aload_n 0, 1) := by decide +kernel
theorem dL_law_988 : decode code 988 = .ok (.iload_n 3, 1) := by decide +kernel
theorem dL_law_989 : decode code 989 = .ok (.iconst 1, 1) := by decide +kernel
theorem dL_law_990 : decode code 990 = .ok (.iadd, 1) := by decide +kernel
theorem dL_law_991 : decode code 991 = .ok (.iaload, 1) := by decide +kernel
theorem dL_law_992 : decode code 992 = .ok (.aload_n 0, 1) := by decide +kernel
theorem dL_law_993 : decode code 993 = .ok (.iload_n 3, 1) := by decide +kernel
theorem dL_law_994 : decode code 994 = .ok (.iconst 2, 1) := by decide +kernel
theorem dL_law_995 : decode code 995 = .ok (.iadd, 1) := by decide +kernel
theorem dL_law_996 : decode code 996 = .ok (.iaload, 1) := by decide +kernel
theorem dL_law_997 : decode code 997 = .ok (.aload_n 0, 1) := by decide +kernel
theorem dL_law_998 : decode code 998 = .ok (.iload_n 3, 1) := by decide +kernel
theorem dL_law_999 : decode code 999 = .ok (.iconst 3, 1) := by decide +kernel
theorem dL_law_1000 : decode code 1000 = .ok (.iadd, 1) := by decide +kernel
theorem dL_law_1001 : decode code 1001 = .ok (.iaload, 1) := by decide +kernel
theorem dL_law_1002 : decode code 1002 = .ok (.aload_n 0, 1) := by decide +kernel
theorem dL_law_1003 : decode code 1003 = .ok (.iload_n 3, 1) := by decide +kernel
theorem dL_law_1004 : decode code 1004 = .ok (.iconst 4, 1) := by decide +kernel
theorem dL_law_1005 : decode code 1005 = .ok (.iadd, 1) := by decide +kernel
theorem dL_law_1006 : decode code 1006 = .ok (.iaload, 1) := by decide +kernel
theorem dL_law_1007 : decode code 1007 = .ok (.invokevirtual 125, 3) := by decide +kernel
theorem dL_law_1010 : decode code 1010 = .ok (.if_icmp .eq 233, 3) := by decide +kernel
theorem dL_law_1013 : decode code 1013 = .ok (.iconst 0, 1) := by decide +kernel
theorem dL_law_1014 : decode code 1014 = .ok (.ireturn, 1) := by decide +kernel
theorem dL_law_1015 : decode code 1015 = .ok (.aload_n 1, 1) := by decide +kernel
theorem dL_law_1016 : decode code 1016 = .ok (.aload_n 0, 1) := by decide +kernel
theorem dL_law_1017 : decode code 1017 = .ok (.iload_n 3, 1) := by decide +kernel
theorem dL_law_1018 : decode code 1018 = .ok (.iconst 1, 1) := by decide +kernel
theorem dL_law_1019 : decode code 1019 = .ok (.iadd, 1) := by decide +kernel
theorem dL_law_1020 : decode code 1020 = .ok (.iaload, 1) := by decide +kernel
theorem dL_law_1021 : decode code 1021 = .ok (.invokevirtual 126, 3) := by decide +kernel
theorem dL_law_1024 : decode code 1024 = .ok (.aload_n 2, 1) := by decide +kernel
theorem dL_law_1025 : decode code 1025 = .ok (.aload_n 0, 1) := by decide +kernel
theorem dL_law_1026 : decode code 1026 = .ok (.iload_n 3, 1) := by decide +kernel
theorem dL_law_1027 : decode code 1027 = .ok (.iconst 1, 1) := by decide +kernel
theorem dL_law_1028 : decode code 1028 = .ok (.iadd, 1) := by decide +kernel
theorem dL_law_1029 : decode code 1029 = .ok (.iaload, 1) := by decide +kernel
theorem dL_law_1030 : decode code 1030 = .ok (.invokevirtual 129, 3) := by decide +kernel
theorem dL_law_1033 : decode code 1033 = .ok (.if_icmp .eq 210, 3) := by decide +kernel
theorem dL_law_1036 : decode code 1036 = .ok (.iconst 0, 1) := by decide +kernel
theorem dL_law_1037 : decode code 1037 = .ok (.ireturn, 1) := by decide +kernel
theorem dL_law_1038 : decode code 1038 = .ok (.aload_n 1, 1) := by decide +kernel
theorem dL_law_1039 : decode code 1039 = .ok (.aload_n 0, 1) := by decide +kernel
theorem dL_law_1040 : decode code 1040 = .ok (.iload_n 3, 1) := by decide +kernel
theorem dL_law_1041 : decode code 1041 = .ok (.iconst 1, 1) := by decide +kernel
theorem dL_law_1042 : decode code 1042 = .ok (.iadd, 1) := by decide +kernel
theorem dL_law_1043 : decode code 1043 = .ok (.iaload, 1) := by decide +kernel
theorem dL_law_1044 : decode code 1044 = .ok (.aload_n 0, 1) := by decide +kernel
theorem dL_law_1045 : decode code 1045 = .ok (.iload_n 3, 1) := by decide +kernel
theorem dL_law_1046 : decode code 1046 = .ok (.iconst 2, 1) := by decide +kernel
theorem dL_law_1047 : decode code 1047 = .ok (.iadd, 1) := by decide +kernel
theorem dL_law_1048 : decode code 1048 = .ok (.iaload, 1) := by decide +kernel
theorem dL_law_1049 : decode code 1049 = .ok (.invokevirtual 130, 3) := by decide +kernel
theorem dL_law_1052 : decode code 1052 = .ok (.aload_n 2, 1) := by decide +kernel
theorem dL_law_1053 : decode code 1053 = .ok (.aload_n 0, 1) := by decide +kernel
theorem dL_law_1054 : decode code 1054 = .ok (.iload_n 3, 1) := by decide +kernel
theorem dL_law_1055 : decode code 1055 = .ok (.iconst 1, 1) := by decide +kernel
theorem dL_law_1056 : decode code 1056 = .ok (.iadd, 1) := by decide +kernel
theorem dL_law_1057 : decode code 1057 = .ok (.iaload, 1) := by decide +kernel
theorem dL_law_1058 : decode code 1058 = .ok (.aload_n 0, 1) := by decide +kernel
theorem dL_law_1059 : decode code 1059 = .ok (.iload_n 3, 1) := by decide +kernel
theorem dL_law_1060 : decode code 1060 = .ok (.iconst 2, 1) := by decide +kernel
theorem dL_law_1061 : decode code 1061 = .ok (.iadd, 1) := by decide +kernel
theorem dL_law_1062 : decode code 1062 = .ok (.iaload, 1) := by decide +kernel
theorem dL_law_1063 : decode code 1063 = .ok (.invokevirtual 133, 3) := by decide +kernel
theorem dL_law_1066 : decode code 1066 = .ok (.lcmp, 1) := by decide +kernel
theorem dL_law_1067 : decode code 1067 = .ok (.ifCond .eq 176, 3) := by decide +kernel
theorem dL_law_1070 : decode code 1070 = .ok (.iconst 0, 1) := by decide +kernel
theorem dL_law_1071 : decode code 1071 = .ok (.ireturn, 1) := by decide +kernel
theorem dL_law_1072 : decode code 1072 = .ok (.aload_n 1, 1) := by decide +kernel
theorem dL_law_1073 : decode code 1073 = .ok (.aload_n 0, 1) := by decide +kernel
theorem dL_law_1074 : decode code 1074 = .ok (.iload_n 3, 1) := by decide +kernel
theorem dL_law_1075 : decode code 1075 = .ok (.iconst 1, 1) := by decide +kernel
theorem dL_law_1076 : decode code 1076 = .ok (.iadd, 1) := by decide +kernel
theorem dL_law_1077 : decode code 1077 = .ok (.iaload, 1) := by decide +kernel
theorem dL_law_1078 : decode code 1078 = .ok (.aload_n 0, 1) := by decide +kernel
theorem dL_law_1079 : decode code 1079 = .ok (.iload_n 3, 1) := by decide +kernel
theorem dL_law_1080 : decode code 1080 = .ok (.iconst 2, 1) := by decide +kernel
theorem dL_law_1081 : decode code 1081 = .ok (.iadd, 1) := by decide +kernel
theorem dL_law_1082 : decode code 1082 = .ok (.iaload, 1) := by decide +kernel
theorem dL_law_1083 : decode code 1083 = .ok (.aload_n 0, 1) := by decide +kernel
theorem dL_law_1084 : decode code 1084 = .ok (.iload_n 3, 1) := by decide +kernel
theorem dL_law_1085 : decode code 1085 = .ok (.iconst 3, 1) := by decide +kernel
theorem dL_law_1086 : decode code 1086 = .ok (.iadd, 1) := by decide +kernel
theorem dL_law_1087 : decode code 1087 = .ok (.iaload, 1) := by decide +kernel
theorem dL_law_1088 : decode code 1088 = .ok (.invokevirtual 134, 3) := by decide +kernel
theorem dL_law_1091 : decode code 1091 = .ok (.aload_n 2, 1) := by decide +kernel
theorem dL_law_1092 : decode code 1092 = .ok (.aload_n 0, 1) := by decide +kernel
theorem dL_law_1093 : decode code 1093 = .ok (.iload_n 3, 1) := by decide +kernel
theorem dL_law_1094 : decode code 1094 = .ok (.iconst 1, 1) := by decide +kernel
theorem dL_law_1095 : decode code 1095 = .ok (.iadd, 1) := by decide +kernel
theorem dL_law_1096 : decode code 1096 = .ok (.iaload, 1) := by decide +kernel
theorem dL_law_1097 : decode code 1097 = .ok (.aload_n 0, 1) := by decide +kernel
theorem dL_law_1098 : decode code 1098 = .ok (.iload_n 3, 1) := by decide +kernel
theorem dL_law_1099 : decode code 1099 = .ok (.iconst 2, 1) := by decide +kernel
theorem dL_law_1100 : decode code 1100 = .ok (.iadd, 1) := by decide +kernel
theorem dL_law_1101 : decode code 1101 = .ok (.iaload, 1) := by decide +kernel
theorem dL_law_1102 : decode code 1102 = .ok (.aload_n 0, 1) := by decide +kernel
theorem dL_law_1103 : decode code 1103 = .ok (.iload_n 3, 1) := by decide +kernel
theorem dL_law_1104 : decode code 1104 = .ok (.iconst 3, 1) := by decide +kernel
theorem dL_law_1105 : decode code 1105 = .ok (.iadd, 1) := by decide +kernel
theorem dL_law_1106 : decode code 1106 = .ok (.iaload, 1) := by decide +kernel
theorem dL_law_1107 : decode code 1107 = .ok (.invokevirtual 138, 3) := by decide +kernel
theorem dL_law_1110 : decode code 1110 = .ok (.if_icmp .eq 133, 3) := by decide +kernel
theorem dL_law_1113 : decode code 1113 = .ok (.iconst 0, 1) := by decide +kernel
theorem dL_law_1114 : decode code 1114 = .ok (.ireturn, 1) := by decide +kernel
theorem dL_law_1115 : decode code 1115 = .ok (.aload_n 1, 1) := by decide +kernel
theorem dL_law_1116 : decode code 1116 = .ok (.aload_n 0, 1) := by decide +kernel
theorem dL_law_1117 : decode code 1117 = .ok (.iload_n 3, 1) := by decide +kernel
theorem dL_law_1118 : decode code 1118 = .ok (.iconst 1, 1) := by decide +kernel
theorem dL_law_1119 : decode code 1119 = .ok (.iadd, 1) := by decide +kernel
theorem dL_law_1120 : decode code 1120 = .ok (.iaload, 1) := by decide +kernel
theorem dL_law_1121 : decode code 1121 = .ok (.invokevirtual 139, 3) := by decide +kernel
theorem dL_law_1124 : decode code 1124 = .ok (.aload_n 2, 1) := by decide +kernel
theorem dL_law_1125 : decode code 1125 = .ok (.aload_n 0, 1) := by decide +kernel
theorem dL_law_1126 : decode code 1126 = .ok (.iload_n 3, 1) := by decide +kernel
theorem dL_law_1127 : decode code 1127 = .ok (.iconst 1, 1) := by decide +kernel
theorem dL_law_1128 : decode code 1128 = .ok (.iadd, 1) := by decide +kernel
theorem dL_law_1129 : decode code 1129 = .ok (.iaload, 1) := by decide +kernel
theorem dL_law_1130 : decode code 1130 = .ok (.invokevirtual 142, 3) := by decide +kernel
theorem dL_law_1133 : decode code 1133 = .ok (.if_icmp .eq 110, 3) := by decide +kernel
theorem dL_law_1136 : decode code 1136 = .ok (.iconst 0, 1) := by decide +kernel
theorem dL_law_1137 : decode code 1137 = .ok (.ireturn, 1) := by decide +kernel
theorem dL_law_1138 : decode code 1138 = .ok (.aload_n 1, 1) := by decide +kernel
theorem dL_law_1139 : decode code 1139 = .ok (.invokevirtual 143, 3) := by decide +kernel
theorem dL_law_1142 : decode code 1142 = .ok (.aload_n 2, 1) := by decide +kernel
theorem dL_law_1143 : decode code 1143 = .ok (.invokevirtual 146, 3) := by decide +kernel
theorem dL_law_1146 : decode code 1146 = .ok (.if_icmp .eq 97, 3) := by decide +kernel
theorem dL_law_1149 : decode code 1149 = .ok (.iconst 0, 1) := by decide +kernel
theorem dL_law_1150 : decode code 1150 = .ok (.ireturn, 1) := by decide +kernel
theorem dL_law_1151 : decode code 1151 = .ok (.aload_n 1, 1) := by decide +kernel
theorem dL_law_1152 : decode code 1152 = .ok (.aload_n 0, 1) := by decide +kernel
theorem dL_law_1153 : decode code 1153 = .ok (.iload_n 3, 1) := by decide +kernel
theorem dL_law_1154 : decode code 1154 = .ok (.iconst 1, 1) := by decide +kernel
theorem dL_law_1155 : decode code 1155 = .ok (.iadd, 1) := by decide +kernel
theorem dL_law_1156 : decode code 1156 = .ok (.iaload, 1) := by decide +kernel
theorem dL_law_1157 : decode code 1157 = .ok (.aload_n 0, 1) := by decide +kernel
theorem dL_law_1158 : decode code 1158 = .ok (.iload_n 3, 1) := by decide +kernel
theorem dL_law_1159 : decode code 1159 = .ok (.iconst 2, 1) := by decide +kernel
theorem dL_law_1160 : decode code 1160 = .ok (.iadd, 1) := by decide +kernel
theorem dL_law_1161 : decode code 1161 = .ok (.iaload, 1) := by decide +kernel
theorem dL_law_1162 : decode code 1162 = .ok (.aload_n 0, 1) := by decide +kernel
theorem dL_law_1163 : decode code 1163 = .ok (.iload_n 3, 1) := by decide +kernel
theorem dL_law_1164 : decode code 1164 = .ok (.iconst 3, 1) := by decide +kernel
theorem dL_law_1165 : decode code 1165 = .ok (.iadd, 1) := by decide +kernel
theorem dL_law_1166 : decode code 1166 = .ok (.iaload, 1) := by decide +kernel
theorem dL_law_1167 : decode code 1167 = .ok (.invokevirtual 147, 3) := by decide +kernel
theorem dL_law_1170 : decode code 1170 = .ok (.aload_n 2, 1) := by decide +kernel
theorem dL_law_1171 : decode code 1171 = .ok (.aload_n 0, 1) := by decide +kernel
theorem dL_law_1172 : decode code 1172 = .ok (.iload_n 3, 1) := by decide +kernel
theorem dL_law_1173 : decode code 1173 = .ok (.iconst 1, 1) := by decide +kernel
theorem dL_law_1174 : decode code 1174 = .ok (.iadd, 1) := by decide +kernel
theorem dL_law_1175 : decode code 1175 = .ok (.iaload, 1) := by decide +kernel
theorem dL_law_1176 : decode code 1176 = .ok (.aload_n 0, 1) := by decide +kernel
theorem dL_law_1177 : decode code 1177 = .ok (.iload_n 3, 1) := by decide +kernel
theorem dL_law_1178 : decode code 1178 = .ok (.iconst 2, 1) := by decide +kernel
theorem dL_law_1179 : decode code 1179 = .ok (.iadd, 1) := by decide +kernel
theorem dL_law_1180 : decode code 1180 = .ok (.iaload, 1) := by decide +kernel
theorem dL_law_1181 : decode code 1181 = .ok (.aload_n 0, 1) := by decide +kernel
theorem dL_law_1182 : decode code 1182 = .ok (.iload_n 3, 1) := by decide +kernel
theorem dL_law_1183 : decode code 1183 = .ok (.iconst 3, 1) := by decide +kernel
theorem dL_law_1184 : decode code 1184 = .ok (.iadd, 1) := by decide +kernel
theorem dL_law_1185 : decode code 1185 = .ok (.iaload, 1) := by decide +kernel
theorem dL_law_1186 : decode code 1186 = .ok (.invokevirtual 150, 3) := by decide +kernel
theorem dL_law_1189 : decode code 1189 = .ok (.if_icmp .eq 54, 3) := by decide +kernel
theorem dL_law_1192 : decode code 1192 = .ok (.iconst 0, 1) := by decide +kernel
theorem dL_law_1193 : decode code 1193 = .ok (.ireturn, 1) := by decide +kernel
theorem dL_law_1194 : decode code 1194 = .ok (.aload_n 1, 1) := by decide +kernel
theorem dL_law_1195 : decode code 1195 = .ok (.invokevirtual 151, 3) := by decide +kernel
theorem dL_law_1198 : decode code 1198 = .ok (.aload_n 2, 1) := by decide +kernel
theorem dL_law_1199 : decode code 1199 = .ok (.invokevirtual 154, 3) := by decide +kernel
theorem dL_law_1202 : decode code 1202 = .ok (.if_icmp .eq 41, 3) := by decide +kernel
theorem dL_law_1205 : decode code 1205 = .ok (.iconst 0, 1) := by decide +kernel
theorem dL_law_1206 : decode code 1206 = .ok (.ireturn, 1) := by decide +kernel
theorem dL_law_1207 : decode code 1207 = .ok (.aload_n 1, 1) := by decide +kernel
theorem dL_law_1208 : decode code 1208 = .ok (.invokevirtual 155, 3) := by decide +kernel
theorem dL_law_1211 : decode code 1211 = .ok (.aload_n 2, 1) := by decide +kernel
theorem dL_law_1212 : decode code 1212 = .ok (.invokevirtual 158, 3) := by decide +kernel
theorem dL_law_1215 : decode code 1215 = .ok (.if_icmp .eq 28, 3) := by decide +kernel
theorem dL_law_1218 : decode code 1218 = .ok (.iconst 0, 1) := by decide +kernel
theorem dL_law_1219 : decode code 1219 = .ok (.ireturn, 1) := by decide +kernel
theorem dL_law_1220 : decode code 1220 = .ok (.aload_n 1, 1) := by decide +kernel
theorem dL_law_1221 : decode code 1221 = .ok (.aload_n 0, 1) := by decide +kernel
theorem dL_law_1222 : decode code 1222 = .ok (.iload_n 3, 1) := by decide +kernel
theorem dL_law_1223 : decode code 1223 = .ok (.iconst 1, 1) := by decide +kernel
theorem dL_law_1224 : decode code 1224 = .ok (.iadd, 1) := by decide +kernel
theorem dL_law_1225 : decode code 1225 = .ok (.iaload, 1) := by decide +kernel
theorem dL_law_1226 : decode code 1226 = .ok (.invokevirtual 159, 3) := by decide +kernel
theorem dL_law_1229 : decode code 1229 = .ok (.aload_n 2, 1) := by decide +kernel
theorem dL_law_1230 : decode code 1230 = .ok (.aload_n 0, 1) := by decide +kernel
theorem dL_law_1231 : decode code 1231 = .ok (.iload_n 3, 1) := by decide +kernel
theorem dL_law_1232 : decode code 1232 = .ok (.iconst 1, 1) := by decide +kernel
theorem dL_law_1233 : decode code 1233 = .ok (.iadd, 1) := by decide +kernel
theorem dL_law_1234 : decode code 1234 = .ok (.iaload, 1) := by decide +kernel
theorem dL_law_1235 : decode code 1235 = .ok (.invokevirtual 162, 3) := by decide +kernel
theorem dL_law_1238 : decode code 1238 = .ok (.if_icmp .eq 5, 3) := by decide +kernel
theorem dL_law_1241 : decode code 1241 = .ok (.iconst 0, 1) := by decide +kernel
theorem dL_law_1242 : decode code 1242 = .ok (.ireturn, 1) := by decide +kernel
theorem dL_law_1243 : decode code 1243 = .ok (.iinc 3 5, 3) := by decide +kernel
theorem dL_law_1246 : decode code 1246 = .ok (.goto (-1228), 3) := by decide +kernel
theorem dL_law_1249 : decode code 1249 = .ok (.iconst 1, 1) := by decide +kernel
theorem dL_law_1250 : decode code 1250 = .ok (.ireturn, 1) := by decide +kernel
theorem am_met_of {G : am_G} {N : am_MD} {F : am_Fn} {args : List Value} {σ τ : am_St} {v : Option Value} (hF : am_Cal G N F) (e : F (Option Value × am_St) args σ (fun v τ => some (v, τ)) = some (v, τ)) : am_Met G N args σ (fun w ω => w = v ∧ ω = τ) := by
  obtain ⟨v1, τ1, hM, hK⟩ := hF _ _ _ _ _ e
  cases hK
  exact hM
/-- the law at a place of its body: i ints read, this stack, this state -/
def lw_W (G : am_G) (p : Program) (e : Env) (s : State) (m : MethodId) (below : List Frame) (meth : Method) (c : Code) (b : Nat) (i : Int32) (pc : Nat) (st : List Value) (σ : am_St) : Prop :=
  ∀ (H : Heap) (locs : List Loc) (ls : Array Slot), va_P G.2.1 am_cl (am_wd G σ) H → va_D (fun q : Nat => s.heap.size ≤ q) (am_wd G σ) → va_S (fun q : Nat => s.heap.size ≤ q) s.heap H locs → lv_has ls 4 [(0, .ref b), (1, .ref (G.2.2.2 0)), (2, .ref (G.2.2.2 66)), (3, .int i)] →
  W p G.1 e room_1 s m #[Value.ref b] below meth c H locs 95 1689 (lw_Z below #[Value.ref b] s) (F0 m pc ls st)
def lw_Cx (G : am_G) (p : Program) (s : State) (m : MethodId) (meth : Method) (c : Code) (b L : Nat) (xs : Nat → Int32) : Prop := lw_At p s m meth c b L xs ∧ L ≤ 2560 ∧ va_K G.2.1 am_cl (am_tys G.2.2.1) s ∧ am_NW s
section LWR
variable {G : am_G} {p : Program} {e : Env} {s : State} {m : MethodId} {below : List Frame} {meth : Method} {c : Code} {b L : Nat} {xs : Nat → Int32} {i : Int32} {pc : Nat} {st : List Value} {σ : am_St} {N : am_MD}
theorem lw_x (C0 : lw_Cx G p s m meth c b L xs) (d : decode code pc = .ok (.aload_n 1, 1)) (kk : lw_W G p e s m below meth c b i (pc + 1) (.ref (G.2.2.2 0) :: st) σ) : lw_W G p e s m below meth c b i pc st σ := by
  intro H locs ls hP hD hS hl
  obtain ⟨⟨hx, hb, -⟩, -⟩ := C0
  exact lv_aload_n hx hb d rfl (lv_at hl 1 rfl) (kk H locs ls hP hD hS hl)
theorem lw_m (C0 : lw_Cx G p s m meth c b L xs) (d : decode code pc = .ok (.aload_n 2, 1)) (kk : lw_W G p e s m below meth c b i (pc + 1) (.ref (G.2.2.2 66) :: st) σ) : lw_W G p e s m below meth c b i pc st σ := by
  intro H locs ls hP hD hS hl
  obtain ⟨⟨hx, hb, -⟩, -⟩ := C0
  exact lv_aload_n hx hb d rfl (lv_at hl 2 rfl) (kk H locs ls hP hD hS hl)
theorem lw_arg {j k : Nat} (C0 : lw_Cx G p s m meth c b L xs) (hj : j + 5 ≤ L) (hk : k < 5) (hi : i = nI j) (d1 : decode code pc = .ok (.aload_n 0, 1)) (d2 : decode code (pc + 1) = .ok (.iload_n 3, 1)) {kz : Int} (hkz : Int32.ofInt kz = nI k) (d3 : decode code (pc + 2) = .ok (.iconst kz, 1)) (d4 : decode code (pc + 3) = .ok (.iadd, 1)) (d5 : decode code (pc + 4) = .ok (.iaload, 1))
    (kk : lw_W G p e s m below meth c b i (pc + 5) (.int (xs (j + k)) :: st) σ) : lw_W G p e s m below meth c b i pc st σ := by
  intro H locs ls hP hD hS hl
  obtain ⟨⟨hx, hb, hr, hml, hown, hts, hX, hbl, hlocks, hgv⟩, hL, hK, hN⟩ := C0
  have hbA : ¬ (fun q : Nat => s.heap.size ≤ q) b := Nat.not_le.mpr hbl
  refine lv_aload_n hx hb d1 rfl (lv_at hl 0 rfl) ?_
  refine lv_iload_n hx hb d2 rfl (lv_at hl 3 rfl) ?_
  refine lv_iconst (v := nI k) hx hb d3 hkz ?_
  refine lv_iadd hx hb d4 ?_
  have e1 : i + nI k = nI (j + k) := by rw [hi, nI_add]
  rw [e1]
  refine va_sld hx hb hX hbl hbA hS (vp_in_nI (by omega) (by omega)) d5 ?_
  rw [nI_clamp (by omega)]
  exact kk H locs ls hP hD hS hl
theorem lw_good (h : am_in (.code N.1 N.2.1 N.2.2.1 N.2.2.2.1)) : GoodIn lw_tbl (am_LT N) := by
  intro w hw
  rcases List.mem_cons.mp hw with rfl | hw
  · exact ⟨h.1, good_of_word h.2⟩
  · have h2 := List.mem_filter.mp hw
    exact ⟨h2.1, good_of_word h2.2⟩
theorem am_callN {cells slots : Nat} {args : Array Value} {H : Heap} {locs : List Loc} {A : Nat → Prop} {R : Room} {st0 rest : List Value} {lr : Array Slot} {Qx : am_AQ} {a : Array Value} {Qs : State → Prop} (hr : va_Run p G.1 e R s m args below meth c H locs cells slots 0 0 (F0 m pc lr st0) rest (am_Qc G (va_A (am_wd G σ) H.size) Qx a) (va_A (am_wd G σ) H.size)) (hS : va_S A s.heap H locs) (hA : ∀ q : Nat, s.heap.size ≤ q → A q) (hD : va_D A (am_wd G σ))
    (kk : ∀ (v : Option Value) (τ : am_St) (H1 : Heap) (locs1 : List Loc), Qx v τ → va_P G.2.1 am_cl (am_wd G τ) H1 → va_D A (am_wd G τ) → va_S A s.heap H1 locs1 → W p G.1 e R s m args below meth c H1 locs1 cells slots Qs (F0 m (pc + 3) lr ((v.map (am_cv G.2.2.2)).toList ++ rest))) : W p G.1 e R s m args below meth c H locs cells slots Qs (F0 m pc lr st0) := by
  have hf : ∀ q : Nat, va_A (am_wd G σ) H.size q → A q := by
    intro q h
    rcases h with ⟨i, x, h⟩ | h
    · exact hD.2 i _ h
    · exact hA q (Nat.le_trans hS.1 h)
  intro T hT X
  obtain ⟨v, st₀, t, T', L, h0, X', hL, e1, e2, ⟨⟨w, τ, hv, hq, hP1, hK1, hD1⟩, hz, hk⟩, st⟩ := hr T hT X
  cases hv
  rw [h0] at hz hk
  obtain ⟨t2, a1, b1⟩ := kk w τ T'.heap (locs ++ L) hq (by rw [e1]; exact hP1) (hD1.weaken (fun _ q _ h => hf q.1 h))
    ⟨Nat.le_trans hS.1 (by rw [e1]; exact hz), fun q h1 h2 => by rw [e1, hk q (Nat.lt_of_lt_of_le h1 hS.1) (fun z => h2 (hf q z))]; exact hS.2.1 q h1 h2, fun q hq => by
      rcases List.mem_append.mp hq with h | h
      · exact hS.2.2 q h
      · exact hf _ (hL q h)⟩ T' rfl X'
  exact ⟨t2, st t2 a1, b1⟩
theorem lw_call {h ci idx n NN : Nat} {As rest : List Value} {ks : List Nat} {T : u_T} {v : Option Value} {τ : am_St} (C0 : lw_Cx G p s m meth c b L xs) (d : decode code pc = .ok (.invokevirtual idx, 3)) (hM : am_Met G N (.ref h :: As) σ (fun w ω => w = v ∧ ω = τ)) (hs : am_shapes[h]? = some (.inr (ci, ks))) (hc : am_cl[ci]? = some (N.1.cls, T, NN))
    (w1 : am_in (.methodLink R_law idx N.1)) (w2 : am_in (.instanceMethod N.1)) (w3 : am_in (.selects N.1.cls N.1 N.1)) (w4 : am_in (.initialized N.1.cls)) (w5 : am_in (.code N.1 N.2.1 N.2.2.1 N.2.2.2.1)) (hd : am_dsc N.1 n) (hR : (am_rm N).frames + 1 ≤ room_1.frames ∧ 8 + (N.2.2.1 + 11) + (am_rm N).locals ≤ room_1.locals) (hn : As.length = n) (hcv : As.map (am_cv G.2.2.2) = As) (hW : (rest.map fun v => v.category).sum ≤ 8)
    (kk : lw_W G p e s m below meth c b i (pc + 3) ((v.map (am_cv G.2.2.2)).toList ++ rest) τ) : lw_W G p e s m below meth c b i pc (As.reverse ++ .ref (G.2.2.2 h) :: rest) σ := by
  intro H locs ls hP hD hS hl
  obtain ⟨⟨hx, hb, hr, hml, hown, hts, hX, hbl, hlocks, hgv⟩, hL, hK, hN⟩ := C0
  have hG : GoodIn lw_tbl (wsV R_law idx N.1.cls N.1 (am_LT N)) := by
    intro w hw
    simp only [wsV, List.cons_append, List.nil_append, List.mem_cons] at hw
    rcases hw with rfl | rfl | rfl | rfl | hw
    · exact ⟨w1.1, good_of_word w1.2⟩
    · exact ⟨w2.1, good_of_word w2.2⟩
    · exact ⟨w3.1, good_of_word w3.2⟩
    · exact ⟨w4.1, good_of_word w4.2⟩
    · exact lw_good w5 w hw
  refine am_callN (va_runV (As := As.map (am_cv G.2.2.2)) (rest := rest) (b := G.2.2.2 h) ⟨hx, hb, hml, hown, hts⟩ (hM H.size) (cwV n hts hG rfl rfl rfl ⟨rfl, hd⟩ hR) ⟨am_blind, va_recv hK hP hc (am_ws_at hs), fun U hU hW2 => ⟨rfl, by rw [hU], by rw [hU]; exact hP, va_K.moved hW2.alike hK, hD.weaken (fun _ _ _ _ => trivial), hN.warm hW2⟩⟩ rfl (by rw [List.length_map]; exact hn) hl.1 (by rw [hcv]) (by exact Nat.le_trans (Nat.le_of_eq (Nat.zero_add _)) hW) d ⟨Nat.le_of_ble_eq_true rfl, Nat.le_of_ble_eq_true rfl⟩) hS (fun _ h => h) hD ?_
  rintro w ω H1 locs1 ⟨rfl, rfl⟩ hP1 hD1 hS1
  exact kk H1 locs1 ls hP1 hD1 hS1 hl
theorem lw_eqI {x : Int32} {off : Int} {tgt : Nat} (C0 : lw_Cx G p s m meth c b L xs) (d : decode code pc = .ok (.if_icmp .eq off, 3)) (ht : (pc : Int) + off = (tgt : Int)) (kk : lw_W G p e s m below meth c b i tgt [] σ) : lw_W G p e s m below meth c b i pc [.int x, .int x] σ := by
  intro H locs ls hP hD hS hl
  obtain ⟨⟨hx, hb, -⟩, -⟩ := C0
  exact lv_icmp_eq hx hb d ht (fun _ => kk H locs ls hP hD hS hl) (fun q => absurd rfl q)
theorem lw_eqL {x : Int64} {off : Int} {tgt : Nat} (C0 : lw_Cx G p s m meth c b L xs) (d0 : decode code pc = .ok (.lcmp, 1)) (d : decode code (pc + 1) = .ok (.ifCond .eq off, 3)) (ht : ((pc + 1 : Nat) : Int) + off = (tgt : Int)) (kk : lw_W G p e s m below meth c b i tgt [] σ) : lw_W G p e s m below meth c b i pc [.long x, .long x] σ := by
  intro H locs ls hP hD hS hl
  obtain ⟨⟨hx, hb, -⟩, -⟩ := C0
  refine W.lcmp hx hb d0 ?_
  exact lv_if_eq hx hb d ht (fun _ => kk H locs ls hP hD hS hl) (fun q => absurd (by simp [lg_cmp]) q)
end LWR
set_option maxRecDepth 100000 in
set_option maxHeartbeats 4000000 in
theorem lw_c_feed {G : am_G} {p : Program} {e : Env} {s : State} {m : MethodId} {below : List Frame} {meth : Method} {c : Code} {b L : Nat} {xs : Nat → Int32} {σ τ1 τ2 : am_St} {j : Nat} {r : Int32} (C0 : lw_Cx G p s m meth c b L xs) (hj : j + 5 ≤ L) (h1 : f_X_feed (xs (j + 1)) σ = some (r, τ1)) (h2 : f_M_feed (xs (j + 1)) τ1 = some (r, τ2)) (kk : lw_W G p e s m below meth c b (nI j) 1243 [] τ2) : lw_W G p e s m below meth c b (nI j) 192 [] σ := by
  refine lw_x C0 dL_law_192 ?_
  refine lw_arg (k := 1) C0 hj (by omega) rfl dL_law_193 dL_law_194 rfl dL_law_195 dL_law_196 dL_law_197 ?_
  refine lw_call (N := M_X_feed) (h := 0) (As := [.int (xs (j + 1))]) (rest := []) (v := some (.int r)) (τ := τ1) C0 dL_law_198 (am_met_of (v := some (.int r)) (τ := τ1) (cal_X_feed G) (by show (f_X_feed (xs (j + 1)) σ).bind (fun p => some (some (Value.int p.1), p.2)) = _; rw [h1]; rfl)) sh_0 rfl tw_247 tw_248 tw_249 tw_1 tw_250 dsc_X11_feed ⟨Nat.le_of_ble_eq_true rfl, Nat.le_of_ble_eq_true rfl⟩ rfl rfl (Nat.le_of_ble_eq_true rfl) ?_
  refine lw_m C0 dL_law_201 ?_
  refine lw_arg (k := 1) C0 hj (by omega) rfl dL_law_202 dL_law_203 rfl dL_law_204 dL_law_205 dL_law_206 ?_
  refine lw_call (N := M_M_feed) (h := 66) (As := [.int (xs (j + 1))]) (rest := [.int r]) (v := some (.int r)) (τ := τ2) C0 dL_law_207 (am_met_of (v := some (.int r)) (τ := τ2) (cal_M_feed G) (by show (f_M_feed (xs (j + 1)) τ1).bind (fun p => some (some (Value.int p.1), p.2)) = _; rw [h2]; rfl)) sh_66 rfl tw_1086 tw_1087 tw_1088 tw_12 tw_1089 dsc_X12_feed ⟨Nat.le_of_ble_eq_true rfl, Nat.le_of_ble_eq_true rfl⟩ rfl rfl (Nat.le_of_ble_eq_true rfl) ?_
  exact lw_eqI (tgt := 1243) C0 dL_law_210 rfl kk
def st_feed (Inv : am_St → Prop) : Prop := ∀ σ, Inv σ → ∀ a0 : Int32, ∃ (r : Int32) (τ1 τ2 : am_St), f_X_feed a0 σ = some (r, τ1) ∧ f_M_feed a0 τ1 = some (r, τ2) ∧ Inv τ2
set_option maxRecDepth 100000 in
set_option maxHeartbeats 4000000 in
theorem lw_c_house {G : am_G} {p : Program} {e : Env} {s : State} {m : MethodId} {below : List Frame} {meth : Method} {c : Code} {b L : Nat} {xs : Nat → Int32} {σ τ1 τ2 : am_St} {j : Nat} {r : Int32} (C0 : lw_Cx G p s m meth c b L xs) (hj : j + 5 ≤ L) (h1 : f_X_house  σ = some (r, τ1)) (h2 : f_M_house  τ1 = some (r, τ2)) (kk : lw_W G p e s m below meth c b (nI j) 1243 [] τ2) : lw_W G p e s m below meth c b (nI j) 215 [] σ := by
  refine lw_x C0 dL_law_215 ?_
  refine lw_call (N := M_X_house) (h := 0) (As := []) (rest := []) (v := some (.int r)) (τ := τ1) C0 dL_law_216 (am_met_of (v := some (.int r)) (τ := τ1) (cal_X_house G) (by show (f_X_house  σ).bind (fun p => some (some (Value.int p.1), p.2)) = _; rw [h1]; rfl)) sh_0 rfl tw_263 tw_264 tw_265 tw_1 tw_266 dsc_X11_house ⟨Nat.le_of_ble_eq_true rfl, Nat.le_of_ble_eq_true rfl⟩ rfl rfl (Nat.le_of_ble_eq_true rfl) ?_
  refine lw_m C0 dL_law_219 ?_
  refine lw_call (N := M_M_house) (h := 66) (As := []) (rest := [.int r]) (v := some (.int r)) (τ := τ2) C0 dL_law_220 (am_met_of (v := some (.int r)) (τ := τ2) (cal_M_house G) (by show (f_M_house  τ1).bind (fun p => some (some (Value.int p.1), p.2)) = _; rw [h2]; rfl)) sh_66 rfl tw_1094 tw_1095 tw_1096 tw_12 tw_1097 dsc_X12_house ⟨Nat.le_of_ble_eq_true rfl, Nat.le_of_ble_eq_true rfl⟩ rfl rfl (Nat.le_of_ble_eq_true rfl) ?_
  exact lw_eqI (tgt := 1243) C0 dL_law_223 rfl kk
def st_house (Inv : am_St → Prop) : Prop := ∀ σ, Inv σ → ∃ (r : Int32) (τ1 τ2 : am_St), f_X_house  σ = some (r, τ1) ∧ f_M_house  τ1 = some (r, τ2) ∧ Inv τ2
set_option maxRecDepth 100000 in
set_option maxHeartbeats 4000000 in
theorem lw_c_child {G : am_G} {p : Program} {e : Env} {s : State} {m : MethodId} {below : List Frame} {meth : Method} {c : Code} {b L : Nat} {xs : Nat → Int32} {σ τ1 τ2 : am_St} {j : Nat} {r : Int32} (C0 : lw_Cx G p s m meth c b L xs) (hj : j + 5 ≤ L) (h1 : f_X_child (xs (j + 1)) (xs (j + 2)) σ = some (r, τ1)) (h2 : f_M_child (xs (j + 1)) (xs (j + 2)) τ1 = some (r, τ2)) (kk : lw_W G p e s m below meth c b (nI j) 1243 [] τ2) : lw_W G p e s m below meth c b (nI j) 228 [] σ := by
  refine lw_x C0 dL_law_228 ?_
  refine lw_arg (k := 1) C0 hj (by omega) rfl dL_law_229 dL_law_230 rfl dL_law_231 dL_law_232 dL_law_233 ?_
  refine lw_arg (k := 2) C0 hj (by omega) rfl dL_law_234 dL_law_235 rfl dL_law_236 dL_law_237 dL_law_238 ?_
  refine lw_call (N := M_X_child) (h := 0) (As := [.int (xs (j + 1)), .int (xs (j + 2))]) (rest := []) (v := some (.int r)) (τ := τ1) C0 dL_law_239 (am_met_of (v := some (.int r)) (τ := τ1) (cal_X_child G) (by show (f_X_child (xs (j + 1)) (xs (j + 2)) σ).bind (fun p => some (some (Value.int p.1), p.2)) = _; rw [h1]; rfl)) sh_0 rfl tw_430 tw_431 tw_432 tw_1 tw_433 dsc_X11_child ⟨Nat.le_of_ble_eq_true rfl, Nat.le_of_ble_eq_true rfl⟩ rfl rfl (Nat.le_of_ble_eq_true rfl) ?_
  refine lw_m C0 dL_law_242 ?_
  refine lw_arg (k := 1) C0 hj (by omega) rfl dL_law_243 dL_law_244 rfl dL_law_245 dL_law_246 dL_law_247 ?_
  refine lw_arg (k := 2) C0 hj (by omega) rfl dL_law_248 dL_law_249 rfl dL_law_250 dL_law_251 dL_law_252 ?_
  refine lw_call (N := M_M_child) (h := 66) (As := [.int (xs (j + 1)), .int (xs (j + 2))]) (rest := [.int r]) (v := some (.int r)) (τ := τ2) C0 dL_law_253 (am_met_of (v := some (.int r)) (τ := τ2) (cal_M_child G) (by show (f_M_child (xs (j + 1)) (xs (j + 2)) τ1).bind (fun p => some (some (Value.int p.1), p.2)) = _; rw [h2]; rfl)) sh_66 rfl tw_1205 tw_1206 tw_1207 tw_12 tw_1208 dsc_X12_child ⟨Nat.le_of_ble_eq_true rfl, Nat.le_of_ble_eq_true rfl⟩ rfl rfl (Nat.le_of_ble_eq_true rfl) ?_
  exact lw_eqI (tgt := 1243) C0 dL_law_256 rfl kk
def st_child (Inv : am_St → Prop) : Prop := ∀ σ, Inv σ → ∀ a0 a1 : Int32, ∃ (r : Int32) (τ1 τ2 : am_St), f_X_child a0 a1 σ = some (r, τ1) ∧ f_M_child a0 a1 τ1 = some (r, τ2) ∧ Inv τ2
set_option maxRecDepth 100000 in
set_option maxHeartbeats 4000000 in
theorem lw_c_was {G : am_G} {p : Program} {e : Env} {s : State} {m : MethodId} {below : List Frame} {meth : Method} {c : Code} {b L : Nat} {xs : Nat → Int32} {σ τ1 τ2 : am_St} {j : Nat} {r : Int32} (C0 : lw_Cx G p s m meth c b L xs) (hj : j + 5 ≤ L) (h1 : f_X_was (xs (j + 1)) (xs (j + 2)) σ = some (r, τ1)) (h2 : f_M_was (xs (j + 1)) (xs (j + 2)) τ1 = some (r, τ2)) (kk : lw_W G p e s m below meth c b (nI j) 1243 [] τ2) : lw_W G p e s m below meth c b (nI j) 261 [] σ := by
  refine lw_x C0 dL_law_261 ?_
  refine lw_arg (k := 1) C0 hj (by omega) rfl dL_law_262 dL_law_263 rfl dL_law_264 dL_law_265 dL_law_266 ?_
  refine lw_arg (k := 2) C0 hj (by omega) rfl dL_law_267 dL_law_268 rfl dL_law_269 dL_law_270 dL_law_271 ?_
  refine lw_call (N := M_X_was) (h := 0) (As := [.int (xs (j + 1)), .int (xs (j + 2))]) (rest := []) (v := some (.int r)) (τ := τ1) C0 dL_law_272 (am_met_of (v := some (.int r)) (τ := τ1) (cal_X_was G) (by show (f_X_was (xs (j + 1)) (xs (j + 2)) σ).bind (fun p => some (some (Value.int p.1), p.2)) = _; rw [h1]; rfl)) sh_0 rfl tw_516 tw_517 tw_518 tw_1 tw_519 dsc_X11_was ⟨Nat.le_of_ble_eq_true rfl, Nat.le_of_ble_eq_true rfl⟩ rfl rfl (Nat.le_of_ble_eq_true rfl) ?_
  refine lw_m C0 dL_law_275 ?_
  refine lw_arg (k := 1) C0 hj (by omega) rfl dL_law_276 dL_law_277 rfl dL_law_278 dL_law_279 dL_law_280 ?_
  refine lw_arg (k := 2) C0 hj (by omega) rfl dL_law_281 dL_law_282 rfl dL_law_283 dL_law_284 dL_law_285 ?_
  refine lw_call (N := M_M_was) (h := 66) (As := [.int (xs (j + 1)), .int (xs (j + 2))]) (rest := [.int r]) (v := some (.int r)) (τ := τ2) C0 dL_law_286 (am_met_of (v := some (.int r)) (τ := τ2) (cal_M_was G) (by show (f_M_was (xs (j + 1)) (xs (j + 2)) τ1).bind (fun p => some (some (Value.int p.1), p.2)) = _; rw [h2]; rfl)) sh_66 rfl tw_1222 tw_1223 tw_1224 tw_12 tw_1225 dsc_X12_was ⟨Nat.le_of_ble_eq_true rfl, Nat.le_of_ble_eq_true rfl⟩ rfl rfl (Nat.le_of_ble_eq_true rfl) ?_
  exact lw_eqI (tgt := 1243) C0 dL_law_289 rfl kk
def st_was (Inv : am_St → Prop) : Prop := ∀ σ, Inv σ → ∀ a0 a1 : Int32, ∃ (r : Int32) (τ1 τ2 : am_St), f_X_was a0 a1 σ = some (r, τ1) ∧ f_M_was a0 a1 τ1 = some (r, τ2) ∧ Inv τ2
set_option maxRecDepth 100000 in
set_option maxHeartbeats 4000000 in
theorem lw_c_door {G : am_G} {p : Program} {e : Env} {s : State} {m : MethodId} {below : List Frame} {meth : Method} {c : Code} {b L : Nat} {xs : Nat → Int32} {σ τ1 τ2 : am_St} {j : Nat} {r : Int32} (C0 : lw_Cx G p s m meth c b L xs) (hj : j + 5 ≤ L) (h1 : f_X_door (xs (j + 1)) (xs (j + 2)) σ = some (r, τ1)) (h2 : f_M_door (xs (j + 1)) (xs (j + 2)) τ1 = some (r, τ2)) (kk : lw_W G p e s m below meth c b (nI j) 1243 [] τ2) : lw_W G p e s m below meth c b (nI j) 294 [] σ := by
  refine lw_x C0 dL_law_294 ?_
  refine lw_arg (k := 1) C0 hj (by omega) rfl dL_law_295 dL_law_296 rfl dL_law_297 dL_law_298 dL_law_299 ?_
  refine lw_arg (k := 2) C0 hj (by omega) rfl dL_law_300 dL_law_301 rfl dL_law_302 dL_law_303 dL_law_304 ?_
  refine lw_call (N := M_X_door) (h := 0) (As := [.int (xs (j + 1)), .int (xs (j + 2))]) (rest := []) (v := some (.int r)) (τ := τ1) C0 dL_law_305 (am_met_of (v := some (.int r)) (τ := τ1) (cal_X_door G) (by show (f_X_door (xs (j + 1)) (xs (j + 2)) σ).bind (fun p => some (some (Value.int p.1), p.2)) = _; rw [h1]; rfl)) sh_0 rfl tw_525 tw_526 tw_527 tw_1 tw_528 dsc_X11_door ⟨Nat.le_of_ble_eq_true rfl, Nat.le_of_ble_eq_true rfl⟩ rfl rfl (Nat.le_of_ble_eq_true rfl) ?_
  refine lw_m C0 dL_law_308 ?_
  refine lw_arg (k := 1) C0 hj (by omega) rfl dL_law_309 dL_law_310 rfl dL_law_311 dL_law_312 dL_law_313 ?_
  refine lw_arg (k := 2) C0 hj (by omega) rfl dL_law_314 dL_law_315 rfl dL_law_316 dL_law_317 dL_law_318 ?_
  refine lw_call (N := M_M_door) (h := 66) (As := [.int (xs (j + 1)), .int (xs (j + 2))]) (rest := [.int r]) (v := some (.int r)) (τ := τ2) C0 dL_law_319 (am_met_of (v := some (.int r)) (τ := τ2) (cal_M_door G) (by show (f_M_door (xs (j + 1)) (xs (j + 2)) τ1).bind (fun p => some (some (Value.int p.1), p.2)) = _; rw [h2]; rfl)) sh_66 rfl tw_1230 tw_1231 tw_1232 tw_12 tw_1233 dsc_X12_door ⟨Nat.le_of_ble_eq_true rfl, Nat.le_of_ble_eq_true rfl⟩ rfl rfl (Nat.le_of_ble_eq_true rfl) ?_
  exact lw_eqI (tgt := 1243) C0 dL_law_322 rfl kk
def st_door (Inv : am_St → Prop) : Prop := ∀ σ, Inv σ → ∀ a0 a1 : Int32, ∃ (r : Int32) (τ1 τ2 : am_St), f_X_door a0 a1 σ = some (r, τ1) ∧ f_M_door a0 a1 τ1 = some (r, τ2) ∧ Inv τ2
set_option maxRecDepth 100000 in
set_option maxHeartbeats 4000000 in
theorem lw_c_deed {G : am_G} {p : Program} {e : Env} {s : State} {m : MethodId} {below : List Frame} {meth : Method} {c : Code} {b L : Nat} {xs : Nat → Int32} {σ τ1 τ2 : am_St} {j : Nat} {r : Int32} (C0 : lw_Cx G p s m meth c b L xs) (hj : j + 5 ≤ L) (h1 : f_X_deed (xs (j + 1)) (xs (j + 2)) σ = some (r, τ1)) (h2 : f_M_deed (xs (j + 1)) (xs (j + 2)) τ1 = some (r, τ2)) (kk : lw_W G p e s m below meth c b (nI j) 1243 [] τ2) : lw_W G p e s m below meth c b (nI j) 327 [] σ := by
  refine lw_x C0 dL_law_327 ?_
  refine lw_arg (k := 1) C0 hj (by omega) rfl dL_law_328 dL_law_329 rfl dL_law_330 dL_law_331 dL_law_332 ?_
  refine lw_arg (k := 2) C0 hj (by omega) rfl dL_law_333 dL_law_334 rfl dL_law_335 dL_law_336 dL_law_337 ?_
  refine lw_call (N := M_X_deed) (h := 0) (As := [.int (xs (j + 1)), .int (xs (j + 2))]) (rest := []) (v := some (.int r)) (τ := τ1) C0 dL_law_338 (am_met_of (v := some (.int r)) (τ := τ1) (cal_X_deed G) (by show (f_X_deed (xs (j + 1)) (xs (j + 2)) σ).bind (fun p => some (some (Value.int p.1), p.2)) = _; rw [h1]; rfl)) sh_0 rfl tw_532 tw_533 tw_534 tw_1 tw_535 dsc_X11_deed ⟨Nat.le_of_ble_eq_true rfl, Nat.le_of_ble_eq_true rfl⟩ rfl rfl (Nat.le_of_ble_eq_true rfl) ?_
  refine lw_m C0 dL_law_341 ?_
  refine lw_arg (k := 1) C0 hj (by omega) rfl dL_law_342 dL_law_343 rfl dL_law_344 dL_law_345 dL_law_346 ?_
  refine lw_arg (k := 2) C0 hj (by omega) rfl dL_law_347 dL_law_348 rfl dL_law_349 dL_law_350 dL_law_351 ?_
  refine lw_call (N := M_M_deed) (h := 66) (As := [.int (xs (j + 1)), .int (xs (j + 2))]) (rest := [.int r]) (v := some (.int r)) (τ := τ2) C0 dL_law_352 (am_met_of (v := some (.int r)) (τ := τ2) (cal_M_deed G) (by show (f_M_deed (xs (j + 1)) (xs (j + 2)) τ1).bind (fun p => some (some (Value.int p.1), p.2)) = _; rw [h2]; rfl)) sh_66 rfl tw_1234 tw_1235 tw_1236 tw_12 tw_1237 dsc_X12_deed ⟨Nat.le_of_ble_eq_true rfl, Nat.le_of_ble_eq_true rfl⟩ rfl rfl (Nat.le_of_ble_eq_true rfl) ?_
  exact lw_eqI (tgt := 1243) C0 dL_law_355 rfl kk
def st_deed (Inv : am_St → Prop) : Prop := ∀ σ, Inv σ → ∀ a0 a1 : Int32, ∃ (r : Int32) (τ1 τ2 : am_St), f_X_deed a0 a1 σ = some (r, τ1) ∧ f_M_deed a0 a1 τ1 = some (r, τ2) ∧ Inv τ2
set_option maxRecDepth 100000 in
set_option maxHeartbeats 4000000 in
theorem lw_c_fact {G : am_G} {p : Program} {e : Env} {s : State} {m : MethodId} {below : List Frame} {meth : Method} {c : Code} {b L : Nat} {xs : Nat → Int32} {σ τ1 τ2 : am_St} {j : Nat} {r : Int32} (C0 : lw_Cx G p s m meth c b L xs) (hj : j + 5 ≤ L) (h1 : f_X_fact (xs (j + 1)) (xs (j + 2)) (xs (j + 3)) (xs (j + 4)) σ = some (r, τ1)) (h2 : f_M_fact (xs (j + 1)) (xs (j + 2)) (xs (j + 3)) (xs (j + 4)) τ1 = some (r, τ2)) (kk : lw_W G p e s m below meth c b (nI j) 1243 [] τ2) : lw_W G p e s m below meth c b (nI j) 360 [] σ := by
  refine lw_x C0 dL_law_360 ?_
  refine lw_arg (k := 1) C0 hj (by omega) rfl dL_law_361 dL_law_362 rfl dL_law_363 dL_law_364 dL_law_365 ?_
  refine lw_arg (k := 2) C0 hj (by omega) rfl dL_law_366 dL_law_367 rfl dL_law_368 dL_law_369 dL_law_370 ?_
  refine lw_arg (k := 3) C0 hj (by omega) rfl dL_law_371 dL_law_372 rfl dL_law_373 dL_law_374 dL_law_375 ?_
  refine lw_arg (k := 4) C0 hj (by omega) rfl dL_law_376 dL_law_377 rfl dL_law_378 dL_law_379 dL_law_380 ?_
  refine lw_call (N := M_X_fact) (h := 0) (As := [.int (xs (j + 1)), .int (xs (j + 2)), .int (xs (j + 3)), .int (xs (j + 4))]) (rest := []) (v := some (.int r)) (τ := τ1) C0 dL_law_381 (am_met_of (v := some (.int r)) (τ := τ1) (cal_X_fact G) (by show (f_X_fact (xs (j + 1)) (xs (j + 2)) (xs (j + 3)) (xs (j + 4)) σ).bind (fun p => some (some (Value.int p.1), p.2)) = _; rw [h1]; rfl)) sh_0 rfl tw_541 tw_542 tw_543 tw_1 tw_544 dsc_X11_fact ⟨Nat.le_of_ble_eq_true rfl, Nat.le_of_ble_eq_true rfl⟩ rfl rfl (Nat.le_of_ble_eq_true rfl) ?_
  refine lw_m C0 dL_law_384 ?_
  refine lw_arg (k := 1) C0 hj (by omega) rfl dL_law_385 dL_law_386 rfl dL_law_387 dL_law_388 dL_law_389 ?_
  refine lw_arg (k := 2) C0 hj (by omega) rfl dL_law_390 dL_law_391 rfl dL_law_392 dL_law_393 dL_law_394 ?_
  refine lw_arg (k := 3) C0 hj (by omega) rfl dL_law_395 dL_law_396 rfl dL_law_397 dL_law_398 dL_law_399 ?_
  refine lw_arg (k := 4) C0 hj (by omega) rfl dL_law_400 dL_law_401 rfl dL_law_402 dL_law_403 dL_law_404 ?_
  refine lw_call (N := M_M_fact) (h := 66) (As := [.int (xs (j + 1)), .int (xs (j + 2)), .int (xs (j + 3)), .int (xs (j + 4))]) (rest := [.int r]) (v := some (.int r)) (τ := τ2) C0 dL_law_405 (am_met_of (v := some (.int r)) (τ := τ2) (cal_M_fact G) (by show (f_M_fact (xs (j + 1)) (xs (j + 2)) (xs (j + 3)) (xs (j + 4)) τ1).bind (fun p => some (some (Value.int p.1), p.2)) = _; rw [h2]; rfl)) sh_66 rfl tw_1238 tw_1239 tw_1240 tw_12 tw_1241 dsc_X12_fact ⟨Nat.le_of_ble_eq_true rfl, Nat.le_of_ble_eq_true rfl⟩ rfl rfl (Nat.le_of_ble_eq_true rfl) ?_
  exact lw_eqI (tgt := 1243) C0 dL_law_408 rfl kk
def st_fact (Inv : am_St → Prop) : Prop := ∀ σ, Inv σ → ∀ a0 a1 a2 a3 : Int32, ∃ (r : Int32) (τ1 τ2 : am_St), f_X_fact a0 a1 a2 a3 σ = some (r, τ1) ∧ f_M_fact a0 a1 a2 a3 τ1 = some (r, τ2) ∧ Inv τ2
set_option maxRecDepth 100000 in
set_option maxHeartbeats 4000000 in
theorem lw_c_unfact {G : am_G} {p : Program} {e : Env} {s : State} {m : MethodId} {below : List Frame} {meth : Method} {c : Code} {b L : Nat} {xs : Nat → Int32} {σ τ1 τ2 : am_St} {j : Nat} {r : Int32} (C0 : lw_Cx G p s m meth c b L xs) (hj : j + 5 ≤ L) (h1 : f_X_unfact  σ = some (r, τ1)) (h2 : f_M_unfact  τ1 = some (r, τ2)) (kk : lw_W G p e s m below meth c b (nI j) 1243 [] τ2) : lw_W G p e s m below meth c b (nI j) 413 [] σ := by
  refine lw_x C0 dL_law_413 ?_
  refine lw_call (N := M_X_unfact) (h := 0) (As := []) (rest := []) (v := some (.int r)) (τ := τ1) C0 dL_law_414 (am_met_of (v := some (.int r)) (τ := τ1) (cal_X_unfact G) (by show (f_X_unfact  σ).bind (fun p => some (some (Value.int p.1), p.2)) = _; rw [h1]; rfl)) sh_0 rfl tw_558 tw_559 tw_560 tw_1 tw_561 dsc_X11_unfact ⟨Nat.le_of_ble_eq_true rfl, Nat.le_of_ble_eq_true rfl⟩ rfl rfl (Nat.le_of_ble_eq_true rfl) ?_
  refine lw_m C0 dL_law_417 ?_
  refine lw_call (N := M_M_unfact) (h := 66) (As := []) (rest := [.int r]) (v := some (.int r)) (τ := τ2) C0 dL_law_418 (am_met_of (v := some (.int r)) (τ := τ2) (cal_M_unfact G) (by show (f_M_unfact  τ1).bind (fun p => some (some (Value.int p.1), p.2)) = _; rw [h2]; rfl)) sh_66 rfl tw_1242 tw_1243 tw_1244 tw_12 tw_1245 dsc_X12_unfact ⟨Nat.le_of_ble_eq_true rfl, Nat.le_of_ble_eq_true rfl⟩ rfl rfl (Nat.le_of_ble_eq_true rfl) ?_
  exact lw_eqI (tgt := 1243) C0 dL_law_421 rfl kk
def st_unfact (Inv : am_St → Prop) : Prop := ∀ σ, Inv σ → ∃ (r : Int32) (τ1 τ2 : am_St), f_X_unfact  σ = some (r, τ1) ∧ f_M_unfact  τ1 = some (r, τ2) ∧ Inv τ2
set_option maxRecDepth 100000 in
set_option maxHeartbeats 4000000 in
theorem lw_c_chance {G : am_G} {p : Program} {e : Env} {s : State} {m : MethodId} {below : List Frame} {meth : Method} {c : Code} {b L : Nat} {xs : Nat → Int32} {σ τ1 τ2 : am_St} {j : Nat} {r : Int32} (C0 : lw_Cx G p s m meth c b L xs) (hj : j + 5 ≤ L) (h1 : f_X_chance (xs (j + 1)) (xs (j + 2)) σ = some (r, τ1)) (h2 : f_M_chance (xs (j + 1)) (xs (j + 2)) τ1 = some (r, τ2)) (kk : lw_W G p e s m below meth c b (nI j) 1243 [] τ2) : lw_W G p e s m below meth c b (nI j) 426 [] σ := by
  refine lw_x C0 dL_law_426 ?_
  refine lw_arg (k := 1) C0 hj (by omega) rfl dL_law_427 dL_law_428 rfl dL_law_429 dL_law_430 dL_law_431 ?_
  refine lw_arg (k := 2) C0 hj (by omega) rfl dL_law_432 dL_law_433 rfl dL_law_434 dL_law_435 dL_law_436 ?_
  refine lw_call (N := M_X_chance) (h := 0) (As := [.int (xs (j + 1)), .int (xs (j + 2))]) (rest := []) (v := some (.int r)) (τ := τ1) C0 dL_law_437 (am_met_of (v := some (.int r)) (τ := τ1) (cal_X_chance G) (by show (f_X_chance (xs (j + 1)) (xs (j + 2)) σ).bind (fun p => some (some (Value.int p.1), p.2)) = _; rw [h1]; rfl)) sh_0 rfl tw_562 tw_563 tw_564 tw_1 tw_565 dsc_X11_chance ⟨Nat.le_of_ble_eq_true rfl, Nat.le_of_ble_eq_true rfl⟩ rfl rfl (Nat.le_of_ble_eq_true rfl) ?_
  refine lw_m C0 dL_law_440 ?_
  refine lw_arg (k := 1) C0 hj (by omega) rfl dL_law_441 dL_law_442 rfl dL_law_443 dL_law_444 dL_law_445 ?_
  refine lw_arg (k := 2) C0 hj (by omega) rfl dL_law_446 dL_law_447 rfl dL_law_448 dL_law_449 dL_law_450 ?_
  refine lw_call (N := M_M_chance) (h := 66) (As := [.int (xs (j + 1)), .int (xs (j + 2))]) (rest := [.int r]) (v := some (.int r)) (τ := τ2) C0 dL_law_451 (am_met_of (v := some (.int r)) (τ := τ2) (cal_M_chance G) (by show (f_M_chance (xs (j + 1)) (xs (j + 2)) τ1).bind (fun p => some (some (Value.int p.1), p.2)) = _; rw [h2]; rfl)) sh_66 rfl tw_1246 tw_1247 tw_1248 tw_12 tw_1249 dsc_X12_chance ⟨Nat.le_of_ble_eq_true rfl, Nat.le_of_ble_eq_true rfl⟩ rfl rfl (Nat.le_of_ble_eq_true rfl) ?_
  exact lw_eqI (tgt := 1243) C0 dL_law_454 rfl kk
def st_chance (Inv : am_St → Prop) : Prop := ∀ σ, Inv σ → ∀ a0 a1 : Int32, ∃ (r : Int32) (τ1 τ2 : am_St), f_X_chance a0 a1 σ = some (r, τ1) ∧ f_M_chance a0 a1 τ1 = some (r, τ2) ∧ Inv τ2
set_option maxRecDepth 100000 in
set_option maxHeartbeats 4000000 in
theorem lw_c_ways {G : am_G} {p : Program} {e : Env} {s : State} {m : MethodId} {below : List Frame} {meth : Method} {c : Code} {b L : Nat} {xs : Nat → Int32} {σ τ1 τ2 : am_St} {j : Nat} {r : Int32} (C0 : lw_Cx G p s m meth c b L xs) (hj : j + 5 ≤ L) (h1 : f_X_ways (xs (j + 1)) (xs (j + 2)) σ = some (r, τ1)) (h2 : f_M_ways (xs (j + 1)) (xs (j + 2)) τ1 = some (r, τ2)) (kk : lw_W G p e s m below meth c b (nI j) 1243 [] τ2) : lw_W G p e s m below meth c b (nI j) 459 [] σ := by
  refine lw_x C0 dL_law_459 ?_
  refine lw_arg (k := 1) C0 hj (by omega) rfl dL_law_460 dL_law_461 rfl dL_law_462 dL_law_463 dL_law_464 ?_
  refine lw_arg (k := 2) C0 hj (by omega) rfl dL_law_465 dL_law_466 rfl dL_law_467 dL_law_468 dL_law_469 ?_
  refine lw_call (N := M_X_ways) (h := 0) (As := [.int (xs (j + 1)), .int (xs (j + 2))]) (rest := []) (v := some (.int r)) (τ := τ1) C0 dL_law_470 (am_met_of (v := some (.int r)) (τ := τ1) (cal_X_ways G) (by show (f_X_ways (xs (j + 1)) (xs (j + 2)) σ).bind (fun p => some (some (Value.int p.1), p.2)) = _; rw [h1]; rfl)) sh_0 rfl tw_574 tw_575 tw_576 tw_1 tw_577 dsc_X11_ways ⟨Nat.le_of_ble_eq_true rfl, Nat.le_of_ble_eq_true rfl⟩ rfl rfl (Nat.le_of_ble_eq_true rfl) ?_
  refine lw_m C0 dL_law_473 ?_
  refine lw_arg (k := 1) C0 hj (by omega) rfl dL_law_474 dL_law_475 rfl dL_law_476 dL_law_477 dL_law_478 ?_
  refine lw_arg (k := 2) C0 hj (by omega) rfl dL_law_479 dL_law_480 rfl dL_law_481 dL_law_482 dL_law_483 ?_
  refine lw_call (N := M_M_ways) (h := 66) (As := [.int (xs (j + 1)), .int (xs (j + 2))]) (rest := [.int r]) (v := some (.int r)) (τ := τ2) C0 dL_law_484 (am_met_of (v := some (.int r)) (τ := τ2) (cal_M_ways G) (by show (f_M_ways (xs (j + 1)) (xs (j + 2)) τ1).bind (fun p => some (some (Value.int p.1), p.2)) = _; rw [h2]; rfl)) sh_66 rfl tw_1253 tw_1254 tw_1255 tw_12 tw_1256 dsc_X12_ways ⟨Nat.le_of_ble_eq_true rfl, Nat.le_of_ble_eq_true rfl⟩ rfl rfl (Nat.le_of_ble_eq_true rfl) ?_
  exact lw_eqI (tgt := 1243) C0 dL_law_487 rfl kk
def st_ways (Inv : am_St → Prop) : Prop := ∀ σ, Inv σ → ∀ a0 a1 : Int32, ∃ (r : Int32) (τ1 τ2 : am_St), f_X_ways a0 a1 σ = some (r, τ1) ∧ f_M_ways a0 a1 τ1 = some (r, τ2) ∧ Inv τ2
set_option maxRecDepth 100000 in
set_option maxHeartbeats 4000000 in
theorem lw_c_can {G : am_G} {p : Program} {e : Env} {s : State} {m : MethodId} {below : List Frame} {meth : Method} {c : Code} {b L : Nat} {xs : Nat → Int32} {σ τ1 τ2 : am_St} {j : Nat} {r : Int32} (C0 : lw_Cx G p s m meth c b L xs) (hj : j + 5 ≤ L) (h1 : f_X_can (xs (j + 1)) σ = some (r, τ1)) (h2 : f_M_can (xs (j + 1)) τ1 = some (r, τ2)) (kk : lw_W G p e s m below meth c b (nI j) 1243 [] τ2) : lw_W G p e s m below meth c b (nI j) 492 [] σ := by
  refine lw_x C0 dL_law_492 ?_
  refine lw_arg (k := 1) C0 hj (by omega) rfl dL_law_493 dL_law_494 rfl dL_law_495 dL_law_496 dL_law_497 ?_
  refine lw_call (N := M_X_can) (h := 0) (As := [.int (xs (j + 1))]) (rest := []) (v := some (.int r)) (τ := τ1) C0 dL_law_498 (am_met_of (v := some (.int r)) (τ := τ1) (cal_X_can G) (by show (f_X_can (xs (j + 1)) σ).bind (fun p => some (some (Value.int p.1), p.2)) = _; rw [h1]; rfl)) sh_0 rfl tw_587 tw_588 tw_589 tw_1 tw_590 dsc_X11_can ⟨Nat.le_of_ble_eq_true rfl, Nat.le_of_ble_eq_true rfl⟩ rfl rfl (Nat.le_of_ble_eq_true rfl) ?_
  refine lw_m C0 dL_law_501 ?_
  refine lw_arg (k := 1) C0 hj (by omega) rfl dL_law_502 dL_law_503 rfl dL_law_504 dL_law_505 dL_law_506 ?_
  refine lw_call (N := M_M_can) (h := 66) (As := [.int (xs (j + 1))]) (rest := [.int r]) (v := some (.int r)) (τ := τ2) C0 dL_law_507 (am_met_of (v := some (.int r)) (τ := τ2) (cal_M_can G) (by show (f_M_can (xs (j + 1)) τ1).bind (fun p => some (some (Value.int p.1), p.2)) = _; rw [h2]; rfl)) sh_66 rfl tw_1265 tw_1266 tw_1267 tw_12 tw_1268 dsc_X12_can ⟨Nat.le_of_ble_eq_true rfl, Nat.le_of_ble_eq_true rfl⟩ rfl rfl (Nat.le_of_ble_eq_true rfl) ?_
  exact lw_eqI (tgt := 1243) C0 dL_law_510 rfl kk
def st_can (Inv : am_St → Prop) : Prop := ∀ σ, Inv σ → ∀ a0 : Int32, ∃ (r : Int32) (τ1 τ2 : am_St), f_X_can a0 σ = some (r, τ1) ∧ f_M_can a0 τ1 = some (r, τ2) ∧ Inv τ2
set_option maxRecDepth 100000 in
set_option maxHeartbeats 4000000 in
theorem lw_c_where {G : am_G} {p : Program} {e : Env} {s : State} {m : MethodId} {below : List Frame} {meth : Method} {c : Code} {b L : Nat} {xs : Nat → Int32} {σ τ1 τ2 : am_St} {j : Nat} {r : Int32} (C0 : lw_Cx G p s m meth c b L xs) (hj : j + 5 ≤ L) (h1 : f_X_where (xs (j + 1)) (xs (j + 2)) σ = some (r, τ1)) (h2 : f_M_where (xs (j + 1)) (xs (j + 2)) τ1 = some (r, τ2)) (kk : lw_W G p e s m below meth c b (nI j) 1243 [] τ2) : lw_W G p e s m below meth c b (nI j) 515 [] σ := by
  refine lw_x C0 dL_law_515 ?_
  refine lw_arg (k := 1) C0 hj (by omega) rfl dL_law_516 dL_law_517 rfl dL_law_518 dL_law_519 dL_law_520 ?_
  refine lw_arg (k := 2) C0 hj (by omega) rfl dL_law_521 dL_law_522 rfl dL_law_523 dL_law_524 dL_law_525 ?_
  refine lw_call (N := M_X_where) (h := 0) (As := [.int (xs (j + 1)), .int (xs (j + 2))]) (rest := []) (v := some (.int r)) (τ := τ1) C0 dL_law_526 (am_met_of (v := some (.int r)) (τ := τ1) (cal_X_where G) (by show (f_X_where (xs (j + 1)) (xs (j + 2)) σ).bind (fun p => some (some (Value.int p.1), p.2)) = _; rw [h1]; rfl)) sh_0 rfl tw_591 tw_592 tw_593 tw_1 tw_594 dsc_X11_where ⟨Nat.le_of_ble_eq_true rfl, Nat.le_of_ble_eq_true rfl⟩ rfl rfl (Nat.le_of_ble_eq_true rfl) ?_
  refine lw_m C0 dL_law_529 ?_
  refine lw_arg (k := 1) C0 hj (by omega) rfl dL_law_530 dL_law_531 rfl dL_law_532 dL_law_533 dL_law_534 ?_
  refine lw_arg (k := 2) C0 hj (by omega) rfl dL_law_535 dL_law_536 rfl dL_law_537 dL_law_538 dL_law_539 ?_
  refine lw_call (N := M_M_where) (h := 66) (As := [.int (xs (j + 1)), .int (xs (j + 2))]) (rest := [.int r]) (v := some (.int r)) (τ := τ2) C0 dL_law_540 (am_met_of (v := some (.int r)) (τ := τ2) (cal_M_where G) (by show (f_M_where (xs (j + 1)) (xs (j + 2)) τ1).bind (fun p => some (some (Value.int p.1), p.2)) = _; rw [h2]; rfl)) sh_66 rfl tw_1269 tw_1270 tw_1271 tw_12 tw_1272 dsc_X12_where ⟨Nat.le_of_ble_eq_true rfl, Nat.le_of_ble_eq_true rfl⟩ rfl rfl (Nat.le_of_ble_eq_true rfl) ?_
  exact lw_eqI (tgt := 1243) C0 dL_law_543 rfl kk
def st_where (Inv : am_St → Prop) : Prop := ∀ σ, Inv σ → ∀ a0 a1 : Int32, ∃ (r : Int32) (τ1 τ2 : am_St), f_X_where a0 a1 σ = some (r, τ1) ∧ f_M_where a0 a1 τ1 = some (r, τ2) ∧ Inv τ2
set_option maxRecDepth 100000 in
set_option maxHeartbeats 4000000 in
theorem lw_c_who {G : am_G} {p : Program} {e : Env} {s : State} {m : MethodId} {below : List Frame} {meth : Method} {c : Code} {b L : Nat} {xs : Nat → Int32} {σ τ1 τ2 : am_St} {j : Nat} {r : Int64} (C0 : lw_Cx G p s m meth c b L xs) (hj : j + 5 ≤ L) (h1 : f_X_who (xs (j + 1)) (xs (j + 2)) σ = some (r, τ1)) (h2 : f_M_who (xs (j + 1)) (xs (j + 2)) τ1 = some (r, τ2)) (kk : lw_W G p e s m below meth c b (nI j) 1243 [] τ2) : lw_W G p e s m below meth c b (nI j) 548 [] σ := by
  refine lw_x C0 dL_law_548 ?_
  refine lw_arg (k := 1) C0 hj (by omega) rfl dL_law_549 dL_law_550 rfl dL_law_551 dL_law_552 dL_law_553 ?_
  refine lw_arg (k := 2) C0 hj (by omega) rfl dL_law_554 dL_law_555 rfl dL_law_556 dL_law_557 dL_law_558 ?_
  refine lw_call (N := M_X_who) (h := 0) (As := [.int (xs (j + 1)), .int (xs (j + 2))]) (rest := []) (v := some (.long r)) (τ := τ1) C0 dL_law_559 (am_met_of (v := some (.long r)) (τ := τ1) (cal_X_who G) (by show (f_X_who (xs (j + 1)) (xs (j + 2)) σ).bind (fun p => some (some (Value.long p.1), p.2)) = _; rw [h1]; rfl)) sh_0 rfl tw_595 tw_596 tw_597 tw_1 tw_598 dsc_X11_who ⟨Nat.le_of_ble_eq_true rfl, Nat.le_of_ble_eq_true rfl⟩ rfl rfl (Nat.le_of_ble_eq_true rfl) ?_
  refine lw_m C0 dL_law_562 ?_
  refine lw_arg (k := 1) C0 hj (by omega) rfl dL_law_563 dL_law_564 rfl dL_law_565 dL_law_566 dL_law_567 ?_
  refine lw_arg (k := 2) C0 hj (by omega) rfl dL_law_568 dL_law_569 rfl dL_law_570 dL_law_571 dL_law_572 ?_
  refine lw_call (N := M_M_who) (h := 66) (As := [.int (xs (j + 1)), .int (xs (j + 2))]) (rest := [.long r]) (v := some (.long r)) (τ := τ2) C0 dL_law_573 (am_met_of (v := some (.long r)) (τ := τ2) (cal_M_who G) (by show (f_M_who (xs (j + 1)) (xs (j + 2)) τ1).bind (fun p => some (some (Value.long p.1), p.2)) = _; rw [h2]; rfl)) sh_66 rfl tw_1273 tw_1274 tw_1275 tw_12 tw_1276 dsc_X12_who ⟨Nat.le_of_ble_eq_true rfl, Nat.le_of_ble_eq_true rfl⟩ rfl rfl (Nat.le_of_ble_eq_true rfl) ?_
  exact lw_eqL (tgt := 1243) C0 dL_law_576 dL_law_577 rfl kk
def st_who (Inv : am_St → Prop) : Prop := ∀ σ, Inv σ → ∀ a0 a1 : Int32, ∃ (r : Int64) (τ1 τ2 : am_St), f_X_who a0 a1 σ = some (r, τ1) ∧ f_M_who a0 a1 τ1 = some (r, τ2) ∧ Inv τ2
set_option maxRecDepth 100000 in
set_option maxHeartbeats 4000000 in
theorem lw_c_likeliest {G : am_G} {p : Program} {e : Env} {s : State} {m : MethodId} {below : List Frame} {meth : Method} {c : Code} {b L : Nat} {xs : Nat → Int32} {σ τ1 τ2 : am_St} {j : Nat} {r : Int32} (C0 : lw_Cx G p s m meth c b L xs) (hj : j + 5 ≤ L) (h1 : f_X_likeliest  σ = some (r, τ1)) (h2 : f_M_likeliest  τ1 = some (r, τ2)) (kk : lw_W G p e s m below meth c b (nI j) 1243 [] τ2) : lw_W G p e s m below meth c b (nI j) 582 [] σ := by
  refine lw_x C0 dL_law_582 ?_
  refine lw_call (N := M_X_likeliest) (h := 0) (As := []) (rest := []) (v := some (.int r)) (τ := τ1) C0 dL_law_583 (am_met_of (v := some (.int r)) (τ := τ1) (cal_X_likeliest G) (by show (f_X_likeliest  σ).bind (fun p => some (some (Value.int p.1), p.2)) = _; rw [h1]; rfl)) sh_0 rfl tw_626 tw_627 tw_628 tw_1 tw_629 dsc_X11_likeliest ⟨Nat.le_of_ble_eq_true rfl, Nat.le_of_ble_eq_true rfl⟩ rfl rfl (Nat.le_of_ble_eq_true rfl) ?_
  refine lw_m C0 dL_law_586 ?_
  refine lw_call (N := M_M_likeliest) (h := 66) (As := []) (rest := [.int r]) (v := some (.int r)) (τ := τ2) C0 dL_law_587 (am_met_of (v := some (.int r)) (τ := τ2) (cal_M_likeliest G) (by show (f_M_likeliest  τ1).bind (fun p => some (some (Value.int p.1), p.2)) = _; rw [h2]; rfl)) sh_66 rfl tw_1288 tw_1289 tw_1290 tw_12 tw_1291 dsc_X12_likeliest ⟨Nat.le_of_ble_eq_true rfl, Nat.le_of_ble_eq_true rfl⟩ rfl rfl (Nat.le_of_ble_eq_true rfl) ?_
  exact lw_eqI (tgt := 1243) C0 dL_law_590 rfl kk
def st_likeliest (Inv : am_St → Prop) : Prop := ∀ σ, Inv σ → ∃ (r : Int32) (τ1 τ2 : am_St), f_X_likeliest  σ = some (r, τ1) ∧ f_M_likeliest  τ1 = some (r, τ2) ∧ Inv τ2
set_option maxRecDepth 100000 in
set_option maxHeartbeats 4000000 in
theorem lw_c_says {G : am_G} {p : Program} {e : Env} {s : State} {m : MethodId} {below : List Frame} {meth : Method} {c : Code} {b L : Nat} {xs : Nat → Int32} {σ τ1 τ2 : am_St} {j : Nat} {r : Int32} (C0 : lw_Cx G p s m meth c b L xs) (hj : j + 5 ≤ L) (h1 : f_X_says (xs (j + 1)) (xs (j + 2)) (xs (j + 3)) (xs (j + 4)) σ = some (r, τ1)) (h2 : f_M_says (xs (j + 1)) (xs (j + 2)) (xs (j + 3)) (xs (j + 4)) τ1 = some (r, τ2)) (kk : lw_W G p e s m below meth c b (nI j) 1243 [] τ2) : lw_W G p e s m below meth c b (nI j) 595 [] σ := by
  refine lw_x C0 dL_law_595 ?_
  refine lw_arg (k := 1) C0 hj (by omega) rfl dL_law_596 dL_law_597 rfl dL_law_598 dL_law_599 dL_law_600 ?_
  refine lw_arg (k := 2) C0 hj (by omega) rfl dL_law_601 dL_law_602 rfl dL_law_603 dL_law_604 dL_law_605 ?_
  refine lw_arg (k := 3) C0 hj (by omega) rfl dL_law_606 dL_law_607 rfl dL_law_608 dL_law_609 dL_law_610 ?_
  refine lw_arg (k := 4) C0 hj (by omega) rfl dL_law_611 dL_law_612 rfl dL_law_613 dL_law_614 dL_law_615 ?_
  refine lw_call (N := M_X_says) (h := 0) (As := [.int (xs (j + 1)), .int (xs (j + 2)), .int (xs (j + 3)), .int (xs (j + 4))]) (rest := []) (v := some (.int r)) (τ := τ1) C0 dL_law_616 (am_met_of (v := some (.int r)) (τ := τ1) (cal_X_says G) (by show (f_X_says (xs (j + 1)) (xs (j + 2)) (xs (j + 3)) (xs (j + 4)) σ).bind (fun p => some (some (Value.int p.1), p.2)) = _; rw [h1]; rfl)) sh_0 rfl tw_634 tw_635 tw_636 tw_1 tw_637 dsc_X11_says ⟨Nat.le_of_ble_eq_true rfl, Nat.le_of_ble_eq_true rfl⟩ rfl rfl (Nat.le_of_ble_eq_true rfl) ?_
  refine lw_m C0 dL_law_619 ?_
  refine lw_arg (k := 1) C0 hj (by omega) rfl dL_law_620 dL_law_621 rfl dL_law_622 dL_law_623 dL_law_624 ?_
  refine lw_arg (k := 2) C0 hj (by omega) rfl dL_law_625 dL_law_626 rfl dL_law_627 dL_law_628 dL_law_629 ?_
  refine lw_arg (k := 3) C0 hj (by omega) rfl dL_law_630 dL_law_631 rfl dL_law_632 dL_law_633 dL_law_634 ?_
  refine lw_arg (k := 4) C0 hj (by omega) rfl dL_law_635 dL_law_636 rfl dL_law_637 dL_law_638 dL_law_639 ?_
  refine lw_call (N := M_M_says) (h := 66) (As := [.int (xs (j + 1)), .int (xs (j + 2)), .int (xs (j + 3)), .int (xs (j + 4))]) (rest := [.int r]) (v := some (.int r)) (τ := τ2) C0 dL_law_640 (am_met_of (v := some (.int r)) (τ := τ2) (cal_M_says G) (by show (f_M_says (xs (j + 1)) (xs (j + 2)) (xs (j + 3)) (xs (j + 4)) τ1).bind (fun p => some (some (Value.int p.1), p.2)) = _; rw [h2]; rfl)) sh_66 rfl tw_1292 tw_1293 tw_1294 tw_12 tw_1295 dsc_X12_says ⟨Nat.le_of_ble_eq_true rfl, Nat.le_of_ble_eq_true rfl⟩ rfl rfl (Nat.le_of_ble_eq_true rfl) ?_
  exact lw_eqI (tgt := 1243) C0 dL_law_643 rfl kk
def st_says (Inv : am_St → Prop) : Prop := ∀ σ, Inv σ → ∀ a0 a1 a2 a3 : Int32, ∃ (r : Int32) (τ1 τ2 : am_St), f_X_says a0 a1 a2 a3 σ = some (r, τ1) ∧ f_M_says a0 a1 a2 a3 τ1 = some (r, τ2) ∧ Inv τ2
set_option maxRecDepth 100000 in
set_option maxHeartbeats 4000000 in
theorem lw_c_hush {G : am_G} {p : Program} {e : Env} {s : State} {m : MethodId} {below : List Frame} {meth : Method} {c : Code} {b L : Nat} {xs : Nat → Int32} {σ τ1 τ2 : am_St} {j : Nat} {r : Int32} (C0 : lw_Cx G p s m meth c b L xs) (hj : j + 5 ≤ L) (h1 : f_X_hush  σ = some (r, τ1)) (h2 : f_M_hush  τ1 = some (r, τ2)) (kk : lw_W G p e s m below meth c b (nI j) 1243 [] τ2) : lw_W G p e s m below meth c b (nI j) 648 [] σ := by
  refine lw_x C0 dL_law_648 ?_
  refine lw_call (N := M_X_hush) (h := 0) (As := []) (rest := []) (v := some (.int r)) (τ := τ1) C0 dL_law_649 (am_met_of (v := some (.int r)) (τ := τ1) (cal_X_hush G) (by show (f_X_hush  σ).bind (fun p => some (some (Value.int p.1), p.2)) = _; rw [h1]; rfl)) sh_0 rfl tw_642 tw_643 tw_644 tw_1 tw_645 dsc_X11_hush ⟨Nat.le_of_ble_eq_true rfl, Nat.le_of_ble_eq_true rfl⟩ rfl rfl (Nat.le_of_ble_eq_true rfl) ?_
  refine lw_m C0 dL_law_652 ?_
  refine lw_call (N := M_M_hush) (h := 66) (As := []) (rest := [.int r]) (v := some (.int r)) (τ := τ2) C0 dL_law_653 (am_met_of (v := some (.int r)) (τ := τ2) (cal_M_hush G) (by show (f_M_hush  τ1).bind (fun p => some (some (Value.int p.1), p.2)) = _; rw [h2]; rfl)) sh_66 rfl tw_1296 tw_1297 tw_1298 tw_12 tw_1299 dsc_X12_hush ⟨Nat.le_of_ble_eq_true rfl, Nat.le_of_ble_eq_true rfl⟩ rfl rfl (Nat.le_of_ble_eq_true rfl) ?_
  exact lw_eqI (tgt := 1243) C0 dL_law_656 rfl kk
def st_hush (Inv : am_St → Prop) : Prop := ∀ σ, Inv σ → ∃ (r : Int32) (τ1 τ2 : am_St), f_X_hush  σ = some (r, τ1) ∧ f_M_hush  τ1 = some (r, τ2) ∧ Inv τ2
set_option maxRecDepth 100000 in
set_option maxHeartbeats 4000000 in
theorem lw_c_holds {G : am_G} {p : Program} {e : Env} {s : State} {m : MethodId} {below : List Frame} {meth : Method} {c : Code} {b L : Nat} {xs : Nat → Int32} {σ τ1 τ2 : am_St} {j : Nat} {r : Int32} (C0 : lw_Cx G p s m meth c b L xs) (hj : j + 5 ≤ L) (h1 : f_X_holds (xs (j + 1)) σ = some (r, τ1)) (h2 : f_M_holds (xs (j + 1)) τ1 = some (r, τ2)) (kk : lw_W G p e s m below meth c b (nI j) 1243 [] τ2) : lw_W G p e s m below meth c b (nI j) 661 [] σ := by
  refine lw_x C0 dL_law_661 ?_
  refine lw_arg (k := 1) C0 hj (by omega) rfl dL_law_662 dL_law_663 rfl dL_law_664 dL_law_665 dL_law_666 ?_
  refine lw_call (N := M_X_holds) (h := 0) (As := [.int (xs (j + 1))]) (rest := []) (v := some (.int r)) (τ := τ1) C0 dL_law_667 (am_met_of (v := some (.int r)) (τ := τ1) (cal_X_holds G) (by show (f_X_holds (xs (j + 1)) σ).bind (fun p => some (some (Value.int p.1), p.2)) = _; rw [h1]; rfl)) sh_0 rfl tw_646 tw_647 tw_648 tw_1 tw_649 dsc_X11_holds ⟨Nat.le_of_ble_eq_true rfl, Nat.le_of_ble_eq_true rfl⟩ rfl rfl (Nat.le_of_ble_eq_true rfl) ?_
  refine lw_m C0 dL_law_670 ?_
  refine lw_arg (k := 1) C0 hj (by omega) rfl dL_law_671 dL_law_672 rfl dL_law_673 dL_law_674 dL_law_675 ?_
  refine lw_call (N := M_M_holds) (h := 66) (As := [.int (xs (j + 1))]) (rest := [.int r]) (v := some (.int r)) (τ := τ2) C0 dL_law_676 (am_met_of (v := some (.int r)) (τ := τ2) (cal_M_holds G) (by show (f_M_holds (xs (j + 1)) τ1).bind (fun p => some (some (Value.int p.1), p.2)) = _; rw [h2]; rfl)) sh_66 rfl tw_1300 tw_1301 tw_1302 tw_12 tw_1303 dsc_X12_holds ⟨Nat.le_of_ble_eq_true rfl, Nat.le_of_ble_eq_true rfl⟩ rfl rfl (Nat.le_of_ble_eq_true rfl) ?_
  exact lw_eqI (tgt := 1243) C0 dL_law_679 rfl kk
def st_holds (Inv : am_St → Prop) : Prop := ∀ σ, Inv σ → ∀ a0 : Int32, ∃ (r : Int32) (τ1 τ2 : am_St), f_X_holds a0 σ = some (r, τ1) ∧ f_M_holds a0 τ1 = some (r, τ2) ∧ Inv τ2
set_option maxRecDepth 100000 in
set_option maxHeartbeats 4000000 in
theorem lw_c_together {G : am_G} {p : Program} {e : Env} {s : State} {m : MethodId} {below : List Frame} {meth : Method} {c : Code} {b L : Nat} {xs : Nat → Int32} {σ τ1 τ2 : am_St} {j : Nat} {r : Int32} (C0 : lw_Cx G p s m meth c b L xs) (hj : j + 5 ≤ L) (h1 : f_X_together (xs (j + 1)) σ = some (r, τ1)) (h2 : f_M_together (xs (j + 1)) τ1 = some (r, τ2)) (kk : lw_W G p e s m below meth c b (nI j) 1243 [] τ2) : lw_W G p e s m below meth c b (nI j) 684 [] σ := by
  refine lw_x C0 dL_law_684 ?_
  refine lw_arg (k := 1) C0 hj (by omega) rfl dL_law_685 dL_law_686 rfl dL_law_687 dL_law_688 dL_law_689 ?_
  refine lw_call (N := M_X_together) (h := 0) (As := [.int (xs (j + 1))]) (rest := []) (v := some (.int r)) (τ := τ1) C0 dL_law_690 (am_met_of (v := some (.int r)) (τ := τ1) (cal_X_together G) (by show (f_X_together (xs (j + 1)) σ).bind (fun p => some (some (Value.int p.1), p.2)) = _; rw [h1]; rfl)) sh_0 rfl tw_660 tw_661 tw_662 tw_1 tw_663 dsc_X11_together ⟨Nat.le_of_ble_eq_true rfl, Nat.le_of_ble_eq_true rfl⟩ rfl rfl (Nat.le_of_ble_eq_true rfl) ?_
  refine lw_m C0 dL_law_693 ?_
  refine lw_arg (k := 1) C0 hj (by omega) rfl dL_law_694 dL_law_695 rfl dL_law_696 dL_law_697 dL_law_698 ?_
  refine lw_call (N := M_M_together) (h := 66) (As := [.int (xs (j + 1))]) (rest := [.int r]) (v := some (.int r)) (τ := τ2) C0 dL_law_699 (am_met_of (v := some (.int r)) (τ := τ2) (cal_M_together G) (by show (f_M_together (xs (j + 1)) τ1).bind (fun p => some (some (Value.int p.1), p.2)) = _; rw [h2]; rfl)) sh_66 rfl tw_1308 tw_1309 tw_1310 tw_12 tw_1311 dsc_X12_together ⟨Nat.le_of_ble_eq_true rfl, Nat.le_of_ble_eq_true rfl⟩ rfl rfl (Nat.le_of_ble_eq_true rfl) ?_
  exact lw_eqI (tgt := 1243) C0 dL_law_702 rfl kk
def st_together (Inv : am_St → Prop) : Prop := ∀ σ, Inv σ → ∀ a0 : Int32, ∃ (r : Int32) (τ1 τ2 : am_St), f_X_together a0 σ = some (r, τ1) ∧ f_M_together a0 τ1 = some (r, τ2) ∧ Inv τ2
set_option maxRecDepth 100000 in
set_option maxHeartbeats 4000000 in
theorem lw_c_most {G : am_G} {p : Program} {e : Env} {s : State} {m : MethodId} {below : List Frame} {meth : Method} {c : Code} {b L : Nat} {xs : Nat → Int32} {σ τ1 τ2 : am_St} {j : Nat} {r : Int32} (C0 : lw_Cx G p s m meth c b L xs) (hj : j + 5 ≤ L) (h1 : f_X_most (xs (j + 1)) σ = some (r, τ1)) (h2 : f_M_most (xs (j + 1)) τ1 = some (r, τ2)) (kk : lw_W G p e s m below meth c b (nI j) 1243 [] τ2) : lw_W G p e s m below meth c b (nI j) 707 [] σ := by
  refine lw_x C0 dL_law_707 ?_
  refine lw_arg (k := 1) C0 hj (by omega) rfl dL_law_708 dL_law_709 rfl dL_law_710 dL_law_711 dL_law_712 ?_
  refine lw_call (N := M_X_most) (h := 0) (As := [.int (xs (j + 1))]) (rest := []) (v := some (.int r)) (τ := τ1) C0 dL_law_713 (am_met_of (v := some (.int r)) (τ := τ1) (cal_X_most G) (by show (f_X_most (xs (j + 1)) σ).bind (fun p => some (some (Value.int p.1), p.2)) = _; rw [h1]; rfl)) sh_0 rfl tw_676 tw_677 tw_678 tw_1 tw_679 dsc_X11_most ⟨Nat.le_of_ble_eq_true rfl, Nat.le_of_ble_eq_true rfl⟩ rfl rfl (Nat.le_of_ble_eq_true rfl) ?_
  refine lw_m C0 dL_law_716 ?_
  refine lw_arg (k := 1) C0 hj (by omega) rfl dL_law_717 dL_law_718 rfl dL_law_719 dL_law_720 dL_law_721 ?_
  refine lw_call (N := M_M_most) (h := 66) (As := [.int (xs (j + 1))]) (rest := [.int r]) (v := some (.int r)) (τ := τ2) C0 dL_law_722 (am_met_of (v := some (.int r)) (τ := τ2) (cal_M_most G) (by show (f_M_most (xs (j + 1)) τ1).bind (fun p => some (some (Value.int p.1), p.2)) = _; rw [h2]; rfl)) sh_66 rfl tw_1316 tw_1317 tw_1318 tw_12 tw_1319 dsc_X12_most ⟨Nat.le_of_ble_eq_true rfl, Nat.le_of_ble_eq_true rfl⟩ rfl rfl (Nat.le_of_ble_eq_true rfl) ?_
  exact lw_eqI (tgt := 1243) C0 dL_law_725 rfl kk
def st_most (Inv : am_St → Prop) : Prop := ∀ σ, Inv σ → ∀ a0 : Int32, ∃ (r : Int32) (τ1 τ2 : am_St), f_X_most a0 σ = some (r, τ1) ∧ f_M_most a0 τ1 = some (r, τ2) ∧ Inv τ2
set_option maxRecDepth 100000 in
set_option maxHeartbeats 4000000 in
theorem lw_c_ask {G : am_G} {p : Program} {e : Env} {s : State} {m : MethodId} {below : List Frame} {meth : Method} {c : Code} {b L : Nat} {xs : Nat → Int32} {σ τ1 τ2 : am_St} {j : Nat} {r : Int32} (C0 : lw_Cx G p s m meth c b L xs) (hj : j + 5 ≤ L) (h1 : f_X_ask (xs (j + 1)) (xs (j + 2)) (xs (j + 3)) (xs (j + 4)) σ = some (r, τ1)) (h2 : f_M_ask (xs (j + 1)) (xs (j + 2)) (xs (j + 3)) (xs (j + 4)) τ1 = some (r, τ2)) (kk : lw_W G p e s m below meth c b (nI j) 1243 [] τ2) : lw_W G p e s m below meth c b (nI j) 730 [] σ := by
  refine lw_x C0 dL_law_730 ?_
  refine lw_arg (k := 1) C0 hj (by omega) rfl dL_law_731 dL_law_732 rfl dL_law_733 dL_law_734 dL_law_735 ?_
  refine lw_arg (k := 2) C0 hj (by omega) rfl dL_law_736 dL_law_737 rfl dL_law_738 dL_law_739 dL_law_740 ?_
  refine lw_arg (k := 3) C0 hj (by omega) rfl dL_law_741 dL_law_742 rfl dL_law_743 dL_law_744 dL_law_745 ?_
  refine lw_arg (k := 4) C0 hj (by omega) rfl dL_law_746 dL_law_747 rfl dL_law_748 dL_law_749 dL_law_750 ?_
  refine lw_call (N := M_X_ask) (h := 0) (As := [.int (xs (j + 1)), .int (xs (j + 2)), .int (xs (j + 3)), .int (xs (j + 4))]) (rest := []) (v := some (.int r)) (τ := τ1) C0 dL_law_751 (am_met_of (v := some (.int r)) (τ := τ1) (cal_X_ask G) (by show (f_X_ask (xs (j + 1)) (xs (j + 2)) (xs (j + 3)) (xs (j + 4)) σ).bind (fun p => some (some (Value.int p.1), p.2)) = _; rw [h1]; rfl)) sh_0 rfl tw_710 tw_711 tw_712 tw_1 tw_713 dsc_X11_ask ⟨Nat.le_of_ble_eq_true rfl, Nat.le_of_ble_eq_true rfl⟩ rfl rfl (Nat.le_of_ble_eq_true rfl) ?_
  refine lw_m C0 dL_law_754 ?_
  refine lw_arg (k := 1) C0 hj (by omega) rfl dL_law_755 dL_law_756 rfl dL_law_757 dL_law_758 dL_law_759 ?_
  refine lw_arg (k := 2) C0 hj (by omega) rfl dL_law_760 dL_law_761 rfl dL_law_762 dL_law_763 dL_law_764 ?_
  refine lw_arg (k := 3) C0 hj (by omega) rfl dL_law_765 dL_law_766 rfl dL_law_767 dL_law_768 dL_law_769 ?_
  refine lw_arg (k := 4) C0 hj (by omega) rfl dL_law_770 dL_law_771 rfl dL_law_772 dL_law_773 dL_law_774 ?_
  refine lw_call (N := M_M_ask) (h := 66) (As := [.int (xs (j + 1)), .int (xs (j + 2)), .int (xs (j + 3)), .int (xs (j + 4))]) (rest := [.int r]) (v := some (.int r)) (τ := τ2) C0 dL_law_775 (am_met_of (v := some (.int r)) (τ := τ2) (cal_M_ask G) (by show (f_M_ask (xs (j + 1)) (xs (j + 2)) (xs (j + 3)) (xs (j + 4)) τ1).bind (fun p => some (some (Value.int p.1), p.2)) = _; rw [h2]; rfl)) sh_66 rfl tw_1344 tw_1345 tw_1346 tw_12 tw_1347 dsc_X12_ask ⟨Nat.le_of_ble_eq_true rfl, Nat.le_of_ble_eq_true rfl⟩ rfl rfl (Nat.le_of_ble_eq_true rfl) ?_
  exact lw_eqI (tgt := 1243) C0 dL_law_778 rfl kk
def st_ask (Inv : am_St → Prop) : Prop := ∀ σ, Inv σ → ∀ a0 a1 a2 a3 : Int32, ∃ (r : Int32) (τ1 τ2 : am_St), f_X_ask a0 a1 a2 a3 σ = some (r, τ1) ∧ f_M_ask a0 a1 a2 a3 τ1 = some (r, τ2) ∧ Inv τ2
set_option maxRecDepth 100000 in
set_option maxHeartbeats 4000000 in
theorem lw_c_first {G : am_G} {p : Program} {e : Env} {s : State} {m : MethodId} {below : List Frame} {meth : Method} {c : Code} {b L : Nat} {xs : Nat → Int32} {σ τ1 τ2 : am_St} {j : Nat} {r : Int32} (C0 : lw_Cx G p s m meth c b L xs) (hj : j + 5 ≤ L) (h1 : f_X_first  σ = some (r, τ1)) (h2 : f_M_first  τ1 = some (r, τ2)) (kk : lw_W G p e s m below meth c b (nI j) 1243 [] τ2) : lw_W G p e s m below meth c b (nI j) 783 [] σ := by
  refine lw_x C0 dL_law_783 ?_
  refine lw_call (N := M_X_first) (h := 0) (As := []) (rest := []) (v := some (.int r)) (τ := τ1) C0 dL_law_784 (am_met_of (v := some (.int r)) (τ := τ1) (cal_X_first G) (by show (f_X_first  σ).bind (fun p => some (some (Value.int p.1), p.2)) = _; rw [h1]; rfl)) sh_0 rfl tw_772 tw_773 tw_774 tw_1 tw_775 dsc_X11_first ⟨Nat.le_of_ble_eq_true rfl, Nat.le_of_ble_eq_true rfl⟩ rfl rfl (Nat.le_of_ble_eq_true rfl) ?_
  refine lw_m C0 dL_law_787 ?_
  refine lw_call (N := M_M_first) (h := 66) (As := []) (rest := [.int r]) (v := some (.int r)) (τ := τ2) C0 dL_law_788 (am_met_of (v := some (.int r)) (τ := τ2) (cal_M_first G) (by show (f_M_first  τ1).bind (fun p => some (some (Value.int p.1), p.2)) = _; rw [h2]; rfl)) sh_66 rfl tw_1360 tw_1361 tw_1362 tw_12 tw_1363 dsc_X12_first ⟨Nat.le_of_ble_eq_true rfl, Nat.le_of_ble_eq_true rfl⟩ rfl rfl (Nat.le_of_ble_eq_true rfl) ?_
  exact lw_eqI (tgt := 1243) C0 dL_law_791 rfl kk
def st_first (Inv : am_St → Prop) : Prop := ∀ σ, Inv σ → ∃ (r : Int32) (τ1 τ2 : am_St), f_X_first  σ = some (r, τ1) ∧ f_M_first  τ1 = some (r, τ2) ∧ Inv τ2
set_option maxRecDepth 100000 in
set_option maxHeartbeats 4000000 in
theorem lw_c_tale {G : am_G} {p : Program} {e : Env} {s : State} {m : MethodId} {below : List Frame} {meth : Method} {c : Code} {b L : Nat} {xs : Nat → Int32} {σ τ1 τ2 : am_St} {j : Nat} {r : Int32} (C0 : lw_Cx G p s m meth c b L xs) (hj : j + 5 ≤ L) (h1 : f_X_tale (xs (j + 1)) (xs (j + 2)) σ = some (r, τ1)) (h2 : f_M_tale (xs (j + 1)) (xs (j + 2)) τ1 = some (r, τ2)) (kk : lw_W G p e s m below meth c b (nI j) 1243 [] τ2) : lw_W G p e s m below meth c b (nI j) 796 [] σ := by
  refine lw_x C0 dL_law_796 ?_
  refine lw_arg (k := 1) C0 hj (by omega) rfl dL_law_797 dL_law_798 rfl dL_law_799 dL_law_800 dL_law_801 ?_
  refine lw_arg (k := 2) C0 hj (by omega) rfl dL_law_802 dL_law_803 rfl dL_law_804 dL_law_805 dL_law_806 ?_
  refine lw_call (N := M_X_tale) (h := 0) (As := [.int (xs (j + 1)), .int (xs (j + 2))]) (rest := []) (v := some (.int r)) (τ := τ1) C0 dL_law_807 (am_met_of (v := some (.int r)) (τ := τ1) (cal_X_tale G) (by show (f_X_tale (xs (j + 1)) (xs (j + 2)) σ).bind (fun p => some (some (Value.int p.1), p.2)) = _; rw [h1]; rfl)) sh_0 rfl tw_781 tw_782 tw_783 tw_1 tw_784 dsc_X11_tale ⟨Nat.le_of_ble_eq_true rfl, Nat.le_of_ble_eq_true rfl⟩ rfl rfl (Nat.le_of_ble_eq_true rfl) ?_
  refine lw_m C0 dL_law_810 ?_
  refine lw_arg (k := 1) C0 hj (by omega) rfl dL_law_811 dL_law_812 rfl dL_law_813 dL_law_814 dL_law_815 ?_
  refine lw_arg (k := 2) C0 hj (by omega) rfl dL_law_816 dL_law_817 rfl dL_law_818 dL_law_819 dL_law_820 ?_
  refine lw_call (N := M_M_tale) (h := 66) (As := [.int (xs (j + 1)), .int (xs (j + 2))]) (rest := [.int r]) (v := some (.int r)) (τ := τ2) C0 dL_law_821 (am_met_of (v := some (.int r)) (τ := τ2) (cal_M_tale G) (by show (f_M_tale (xs (j + 1)) (xs (j + 2)) τ1).bind (fun p => some (some (Value.int p.1), p.2)) = _; rw [h2]; rfl)) sh_66 rfl tw_1368 tw_1369 tw_1370 tw_12 tw_1371 dsc_X12_tale ⟨Nat.le_of_ble_eq_true rfl, Nat.le_of_ble_eq_true rfl⟩ rfl rfl (Nat.le_of_ble_eq_true rfl) ?_
  exact lw_eqI (tgt := 1243) C0 dL_law_824 rfl kk
def st_tale (Inv : am_St → Prop) : Prop := ∀ σ, Inv σ → ∀ a0 a1 : Int32, ∃ (r : Int32) (τ1 τ2 : am_St), f_X_tale a0 a1 σ = some (r, τ1) ∧ f_M_tale a0 a1 τ1 = some (r, τ2) ∧ Inv τ2
set_option maxRecDepth 100000 in
set_option maxHeartbeats 4000000 in
theorem lw_c_lasts {G : am_G} {p : Program} {e : Env} {s : State} {m : MethodId} {below : List Frame} {meth : Method} {c : Code} {b L : Nat} {xs : Nat → Int32} {σ τ1 τ2 : am_St} {j : Nat} {r : Int64} (C0 : lw_Cx G p s m meth c b L xs) (hj : j + 5 ≤ L) (h1 : f_X_lasts (xs (j + 1)) (xs (j + 2)) σ = some (r, τ1)) (h2 : f_M_lasts (xs (j + 1)) (xs (j + 2)) τ1 = some (r, τ2)) (kk : lw_W G p e s m below meth c b (nI j) 1243 [] τ2) : lw_W G p e s m below meth c b (nI j) 829 [] σ := by
  refine lw_x C0 dL_law_829 ?_
  refine lw_arg (k := 1) C0 hj (by omega) rfl dL_law_830 dL_law_831 rfl dL_law_832 dL_law_833 dL_law_834 ?_
  refine lw_arg (k := 2) C0 hj (by omega) rfl dL_law_835 dL_law_836 rfl dL_law_837 dL_law_838 dL_law_839 ?_
  refine lw_call (N := M_X_lasts) (h := 0) (As := [.int (xs (j + 1)), .int (xs (j + 2))]) (rest := []) (v := some (.long r)) (τ := τ1) C0 dL_law_840 (am_met_of (v := some (.long r)) (τ := τ1) (cal_X_lasts G) (by show (f_X_lasts (xs (j + 1)) (xs (j + 2)) σ).bind (fun p => some (some (Value.long p.1), p.2)) = _; rw [h1]; rfl)) sh_0 rfl tw_788 tw_789 tw_790 tw_1 tw_791 dsc_X11_lasts ⟨Nat.le_of_ble_eq_true rfl, Nat.le_of_ble_eq_true rfl⟩ rfl rfl (Nat.le_of_ble_eq_true rfl) ?_
  refine lw_m C0 dL_law_843 ?_
  refine lw_arg (k := 1) C0 hj (by omega) rfl dL_law_844 dL_law_845 rfl dL_law_846 dL_law_847 dL_law_848 ?_
  refine lw_arg (k := 2) C0 hj (by omega) rfl dL_law_849 dL_law_850 rfl dL_law_851 dL_law_852 dL_law_853 ?_
  refine lw_call (N := M_M_lasts) (h := 66) (As := [.int (xs (j + 1)), .int (xs (j + 2))]) (rest := [.long r]) (v := some (.long r)) (τ := τ2) C0 dL_law_854 (am_met_of (v := some (.long r)) (τ := τ2) (cal_M_lasts G) (by show (f_M_lasts (xs (j + 1)) (xs (j + 2)) τ1).bind (fun p => some (some (Value.long p.1), p.2)) = _; rw [h2]; rfl)) sh_66 rfl tw_1376 tw_1377 tw_1378 tw_12 tw_1379 dsc_X12_lasts ⟨Nat.le_of_ble_eq_true rfl, Nat.le_of_ble_eq_true rfl⟩ rfl rfl (Nat.le_of_ble_eq_true rfl) ?_
  exact lw_eqL (tgt := 1243) C0 dL_law_857 dL_law_858 rfl kk
def st_lasts (Inv : am_St → Prop) : Prop := ∀ σ, Inv σ → ∀ a0 a1 : Int32, ∃ (r : Int64) (τ1 τ2 : am_St), f_X_lasts a0 a1 σ = some (r, τ1) ∧ f_M_lasts a0 a1 τ1 = some (r, τ2) ∧ Inv τ2
set_option maxRecDepth 100000 in
set_option maxHeartbeats 4000000 in
theorem lw_c_half {G : am_G} {p : Program} {e : Env} {s : State} {m : MethodId} {below : List Frame} {meth : Method} {c : Code} {b L : Nat} {xs : Nat → Int32} {σ τ1 τ2 : am_St} {j : Nat} {r : Int32} (C0 : lw_Cx G p s m meth c b L xs) (hj : j + 5 ≤ L) (h1 : f_X_half  σ = some (r, τ1)) (h2 : f_M_half  τ1 = some (r, τ2)) (kk : lw_W G p e s m below meth c b (nI j) 1243 [] τ2) : lw_W G p e s m below meth c b (nI j) 863 [] σ := by
  refine lw_x C0 dL_law_863 ?_
  refine lw_call (N := M_X_half) (h := 0) (As := []) (rest := []) (v := some (.int r)) (τ := τ1) C0 dL_law_864 (am_met_of (v := some (.int r)) (τ := τ1) (cal_X_half G) (by show (f_X_half  σ).bind (fun p => some (some (Value.int p.1), p.2)) = _; rw [h1]; rfl)) sh_0 rfl tw_798 tw_799 tw_800 tw_1 tw_801 dsc_X11_half ⟨Nat.le_of_ble_eq_true rfl, Nat.le_of_ble_eq_true rfl⟩ rfl rfl (Nat.le_of_ble_eq_true rfl) ?_
  refine lw_m C0 dL_law_867 ?_
  refine lw_call (N := M_M_half) (h := 66) (As := []) (rest := [.int r]) (v := some (.int r)) (τ := τ2) C0 dL_law_868 (am_met_of (v := some (.int r)) (τ := τ2) (cal_M_half G) (by show (f_M_half  τ1).bind (fun p => some (some (Value.int p.1), p.2)) = _; rw [h2]; rfl)) sh_66 rfl tw_1381 tw_1382 tw_1383 tw_12 tw_1384 dsc_X12_half ⟨Nat.le_of_ble_eq_true rfl, Nat.le_of_ble_eq_true rfl⟩ rfl rfl (Nat.le_of_ble_eq_true rfl) ?_
  exact lw_eqI (tgt := 1243) C0 dL_law_871 rfl kk
def st_half (Inv : am_St → Prop) : Prop := ∀ σ, Inv σ → ∃ (r : Int32) (τ1 τ2 : am_St), f_X_half  σ = some (r, τ1) ∧ f_M_half  τ1 = some (r, τ2) ∧ Inv τ2
set_option maxRecDepth 100000 in
set_option maxHeartbeats 4000000 in
theorem lw_c_law {G : am_G} {p : Program} {e : Env} {s : State} {m : MethodId} {below : List Frame} {meth : Method} {c : Code} {b L : Nat} {xs : Nat → Int32} {σ τ1 τ2 : am_St} {j : Nat} {r : Int32} (C0 : lw_Cx G p s m meth c b L xs) (hj : j + 5 ≤ L) (h1 : f_X_law (xs (j + 1)) (xs (j + 2)) (xs (j + 3)) (xs (j + 4)) σ = some (r, τ1)) (h2 : f_M_law (xs (j + 1)) (xs (j + 2)) (xs (j + 3)) (xs (j + 4)) τ1 = some (r, τ2)) (kk : lw_W G p e s m below meth c b (nI j) 1243 [] τ2) : lw_W G p e s m below meth c b (nI j) 876 [] σ := by
  refine lw_x C0 dL_law_876 ?_
  refine lw_arg (k := 1) C0 hj (by omega) rfl dL_law_877 dL_law_878 rfl dL_law_879 dL_law_880 dL_law_881 ?_
  refine lw_arg (k := 2) C0 hj (by omega) rfl dL_law_882 dL_law_883 rfl dL_law_884 dL_law_885 dL_law_886 ?_
  refine lw_arg (k := 3) C0 hj (by omega) rfl dL_law_887 dL_law_888 rfl dL_law_889 dL_law_890 dL_law_891 ?_
  refine lw_arg (k := 4) C0 hj (by omega) rfl dL_law_892 dL_law_893 rfl dL_law_894 dL_law_895 dL_law_896 ?_
  refine lw_call (N := M_X_law) (h := 0) (As := [.int (xs (j + 1)), .int (xs (j + 2)), .int (xs (j + 3)), .int (xs (j + 4))]) (rest := []) (v := some (.int r)) (τ := τ1) C0 dL_law_897 (am_met_of (v := some (.int r)) (τ := τ1) (cal_X_law G) (by show (f_X_law (xs (j + 1)) (xs (j + 2)) (xs (j + 3)) (xs (j + 4)) σ).bind (fun p => some (some (Value.int p.1), p.2)) = _; rw [h1]; rfl)) sh_0 rfl tw_805 tw_806 tw_807 tw_1 tw_808 dsc_X11_law ⟨Nat.le_of_ble_eq_true rfl, Nat.le_of_ble_eq_true rfl⟩ rfl rfl (Nat.le_of_ble_eq_true rfl) ?_
  refine lw_m C0 dL_law_900 ?_
  refine lw_arg (k := 1) C0 hj (by omega) rfl dL_law_901 dL_law_902 rfl dL_law_903 dL_law_904 dL_law_905 ?_
  refine lw_arg (k := 2) C0 hj (by omega) rfl dL_law_906 dL_law_907 rfl dL_law_908 dL_law_909 dL_law_910 ?_
  refine lw_arg (k := 3) C0 hj (by omega) rfl dL_law_911 dL_law_912 rfl dL_law_913 dL_law_914 dL_law_915 ?_
  refine lw_arg (k := 4) C0 hj (by omega) rfl dL_law_916 dL_law_917 rfl dL_law_918 dL_law_919 dL_law_920 ?_
  refine lw_call (N := M_M_law) (h := 66) (As := [.int (xs (j + 1)), .int (xs (j + 2)), .int (xs (j + 3)), .int (xs (j + 4))]) (rest := [.int r]) (v := some (.int r)) (τ := τ2) C0 dL_law_921 (am_met_of (v := some (.int r)) (τ := τ2) (cal_M_law G) (by show (f_M_law (xs (j + 1)) (xs (j + 2)) (xs (j + 3)) (xs (j + 4)) τ1).bind (fun p => some (some (Value.int p.1), p.2)) = _; rw [h2]; rfl)) sh_66 rfl tw_1385 tw_1386 tw_1387 tw_12 tw_1388 dsc_X12_law ⟨Nat.le_of_ble_eq_true rfl, Nat.le_of_ble_eq_true rfl⟩ rfl rfl (Nat.le_of_ble_eq_true rfl) ?_
  exact lw_eqI (tgt := 1243) C0 dL_law_924 rfl kk
def st_law (Inv : am_St → Prop) : Prop := ∀ σ, Inv σ → ∀ a0 a1 a2 a3 : Int32, ∃ (r : Int32) (τ1 τ2 : am_St), f_X_law a0 a1 a2 a3 σ = some (r, τ1) ∧ f_M_law a0 a1 a2 a3 τ1 = some (r, τ2) ∧ Inv τ2
set_option maxRecDepth 100000 in
set_option maxHeartbeats 4000000 in
theorem lw_c_byLaws {G : am_G} {p : Program} {e : Env} {s : State} {m : MethodId} {below : List Frame} {meth : Method} {c : Code} {b L : Nat} {xs : Nat → Int32} {σ τ1 τ2 : am_St} {j : Nat} {r : Int32} (C0 : lw_Cx G p s m meth c b L xs) (hj : j + 5 ≤ L) (h1 : f_X_byLaws (xs (j + 1)) (xs (j + 2)) σ = some (r, τ1)) (h2 : f_M_byLaws (xs (j + 1)) (xs (j + 2)) τ1 = some (r, τ2)) (kk : lw_W G p e s m below meth c b (nI j) 1243 [] τ2) : lw_W G p e s m below meth c b (nI j) 929 [] σ := by
  refine lw_x C0 dL_law_929 ?_
  refine lw_arg (k := 1) C0 hj (by omega) rfl dL_law_930 dL_law_931 rfl dL_law_932 dL_law_933 dL_law_934 ?_
  refine lw_arg (k := 2) C0 hj (by omega) rfl dL_law_935 dL_law_936 rfl dL_law_937 dL_law_938 dL_law_939 ?_
  refine lw_call (N := M_X_byLaws) (h := 0) (As := [.int (xs (j + 1)), .int (xs (j + 2))]) (rest := []) (v := some (.int r)) (τ := τ1) C0 dL_law_940 (am_met_of (v := some (.int r)) (τ := τ1) (cal_X_byLaws G) (by show (f_X_byLaws (xs (j + 1)) (xs (j + 2)) σ).bind (fun p => some (some (Value.int p.1), p.2)) = _; rw [h1]; rfl)) sh_0 rfl tw_835 tw_836 tw_837 tw_1 tw_838 dsc_X11_byLaws ⟨Nat.le_of_ble_eq_true rfl, Nat.le_of_ble_eq_true rfl⟩ rfl rfl (Nat.le_of_ble_eq_true rfl) ?_
  refine lw_m C0 dL_law_943 ?_
  refine lw_arg (k := 1) C0 hj (by omega) rfl dL_law_944 dL_law_945 rfl dL_law_946 dL_law_947 dL_law_948 ?_
  refine lw_arg (k := 2) C0 hj (by omega) rfl dL_law_949 dL_law_950 rfl dL_law_951 dL_law_952 dL_law_953 ?_
  refine lw_call (N := M_M_byLaws) (h := 66) (As := [.int (xs (j + 1)), .int (xs (j + 2))]) (rest := [.int r]) (v := some (.int r)) (τ := τ2) C0 dL_law_954 (am_met_of (v := some (.int r)) (τ := τ2) (cal_M_byLaws G) (by show (f_M_byLaws (xs (j + 1)) (xs (j + 2)) τ1).bind (fun p => some (some (Value.int p.1), p.2)) = _; rw [h2]; rfl)) sh_66 rfl tw_1408 tw_1409 tw_1410 tw_12 tw_1411 dsc_X12_byLaws ⟨Nat.le_of_ble_eq_true rfl, Nat.le_of_ble_eq_true rfl⟩ rfl rfl (Nat.le_of_ble_eq_true rfl) ?_
  exact lw_eqI (tgt := 1243) C0 dL_law_957 rfl kk
def st_byLaws (Inv : am_St → Prop) : Prop := ∀ σ, Inv σ → ∀ a0 a1 : Int32, ∃ (r : Int32) (τ1 τ2 : am_St), f_X_byLaws a0 a1 σ = some (r, τ1) ∧ f_M_byLaws a0 a1 τ1 = some (r, τ2) ∧ Inv τ2
set_option maxRecDepth 100000 in
set_option maxHeartbeats 4000000 in
theorem lw_c_old {G : am_G} {p : Program} {e : Env} {s : State} {m : MethodId} {below : List Frame} {meth : Method} {c : Code} {b L : Nat} {xs : Nat → Int32} {σ τ1 τ2 : am_St} {j : Nat} {r : Int32} (C0 : lw_Cx G p s m meth c b L xs) (hj : j + 5 ≤ L) (h1 : f_X_old (xs (j + 1)) (xs (j + 2)) (xs (j + 3)) (xs (j + 4)) σ = some (r, τ1)) (h2 : f_M_old (xs (j + 1)) (xs (j + 2)) (xs (j + 3)) (xs (j + 4)) τ1 = some (r, τ2)) (kk : lw_W G p e s m below meth c b (nI j) 1243 [] τ2) : lw_W G p e s m below meth c b (nI j) 962 [] σ := by
  refine lw_x C0 dL_law_962 ?_
  refine lw_arg (k := 1) C0 hj (by omega) rfl dL_law_963 dL_law_964 rfl dL_law_965 dL_law_966 dL_law_967 ?_
  refine lw_arg (k := 2) C0 hj (by omega) rfl dL_law_968 dL_law_969 rfl dL_law_970 dL_law_971 dL_law_972 ?_
  refine lw_arg (k := 3) C0 hj (by omega) rfl dL_law_973 dL_law_974 rfl dL_law_975 dL_law_976 dL_law_977 ?_
  refine lw_arg (k := 4) C0 hj (by omega) rfl dL_law_978 dL_law_979 rfl dL_law_980 dL_law_981 dL_law_982 ?_
  refine lw_call (N := M_X_old) (h := 0) (As := [.int (xs (j + 1)), .int (xs (j + 2)), .int (xs (j + 3)), .int (xs (j + 4))]) (rest := []) (v := some (.int r)) (τ := τ1) C0 dL_law_983 (am_met_of (v := some (.int r)) (τ := τ1) (cal_X_old G) (by show (f_X_old (xs (j + 1)) (xs (j + 2)) (xs (j + 3)) (xs (j + 4)) σ).bind (fun p => some (some (Value.int p.1), p.2)) = _; rw [h1]; rfl)) sh_0 rfl tw_839 tw_840 tw_841 tw_1 tw_842 dsc_X11_old ⟨Nat.le_of_ble_eq_true rfl, Nat.le_of_ble_eq_true rfl⟩ rfl rfl (Nat.le_of_ble_eq_true rfl) ?_
  refine lw_m C0 dL_law_986 ?_
  refine lw_arg (k := 1) C0 hj (by omega) rfl dL_law_987 dL_law_988 rfl dL_law_989 dL_law_990 dL_law_991 ?_
  refine lw_arg (k := 2) C0 hj (by omega) rfl dL_law_992 dL_law_993 rfl dL_law_994 dL_law_995 dL_law_996 ?_
  refine lw_arg (k := 3) C0 hj (by omega) rfl dL_law_997 dL_law_998 rfl dL_law_999 dL_law_1000 dL_law_1001 ?_
  refine lw_arg (k := 4) C0 hj (by omega) rfl dL_law_1002 dL_law_1003 rfl dL_law_1004 dL_law_1005 dL_law_1006 ?_
  refine lw_call (N := M_M_old) (h := 66) (As := [.int (xs (j + 1)), .int (xs (j + 2)), .int (xs (j + 3)), .int (xs (j + 4))]) (rest := [.int r]) (v := some (.int r)) (τ := τ2) C0 dL_law_1007 (am_met_of (v := some (.int r)) (τ := τ2) (cal_M_old G) (by show (f_M_old (xs (j + 1)) (xs (j + 2)) (xs (j + 3)) (xs (j + 4)) τ1).bind (fun p => some (some (Value.int p.1), p.2)) = _; rw [h2]; rfl)) sh_66 rfl tw_1412 tw_1413 tw_1414 tw_12 tw_1415 dsc_X12_old ⟨Nat.le_of_ble_eq_true rfl, Nat.le_of_ble_eq_true rfl⟩ rfl rfl (Nat.le_of_ble_eq_true rfl) ?_
  exact lw_eqI (tgt := 1243) C0 dL_law_1010 rfl kk
def st_old (Inv : am_St → Prop) : Prop := ∀ σ, Inv σ → ∀ a0 a1 a2 a3 : Int32, ∃ (r : Int32) (τ1 τ2 : am_St), f_X_old a0 a1 a2 a3 σ = some (r, τ1) ∧ f_M_old a0 a1 a2 a3 τ1 = some (r, τ2) ∧ Inv τ2
set_option maxRecDepth 100000 in
set_option maxHeartbeats 4000000 in
theorem lw_c_punish {G : am_G} {p : Program} {e : Env} {s : State} {m : MethodId} {below : List Frame} {meth : Method} {c : Code} {b L : Nat} {xs : Nat → Int32} {σ τ1 τ2 : am_St} {j : Nat} {r : Int32} (C0 : lw_Cx G p s m meth c b L xs) (hj : j + 5 ≤ L) (h1 : f_X_punish (xs (j + 1)) σ = some (r, τ1)) (h2 : f_M_punish (xs (j + 1)) τ1 = some (r, τ2)) (kk : lw_W G p e s m below meth c b (nI j) 1243 [] τ2) : lw_W G p e s m below meth c b (nI j) 1015 [] σ := by
  refine lw_x C0 dL_law_1015 ?_
  refine lw_arg (k := 1) C0 hj (by omega) rfl dL_law_1016 dL_law_1017 rfl dL_law_1018 dL_law_1019 dL_law_1020 ?_
  refine lw_call (N := M_X_punish) (h := 0) (As := [.int (xs (j + 1))]) (rest := []) (v := some (.int r)) (τ := τ1) C0 dL_law_1021 (am_met_of (v := some (.int r)) (τ := τ1) (cal_X_punish G) (by show (f_X_punish (xs (j + 1)) σ).bind (fun p => some (some (Value.int p.1), p.2)) = _; rw [h1]; rfl)) sh_0 rfl tw_844 tw_845 tw_846 tw_1 tw_847 dsc_X11_punish ⟨Nat.le_of_ble_eq_true rfl, Nat.le_of_ble_eq_true rfl⟩ rfl rfl (Nat.le_of_ble_eq_true rfl) ?_
  refine lw_m C0 dL_law_1024 ?_
  refine lw_arg (k := 1) C0 hj (by omega) rfl dL_law_1025 dL_law_1026 rfl dL_law_1027 dL_law_1028 dL_law_1029 ?_
  refine lw_call (N := M_M_punish) (h := 66) (As := [.int (xs (j + 1))]) (rest := [.int r]) (v := some (.int r)) (τ := τ2) C0 dL_law_1030 (am_met_of (v := some (.int r)) (τ := τ2) (cal_M_punish G) (by show (f_M_punish (xs (j + 1)) τ1).bind (fun p => some (some (Value.int p.1), p.2)) = _; rw [h2]; rfl)) sh_66 rfl tw_1416 tw_1417 tw_1418 tw_12 tw_1419 dsc_X12_punish ⟨Nat.le_of_ble_eq_true rfl, Nat.le_of_ble_eq_true rfl⟩ rfl rfl (Nat.le_of_ble_eq_true rfl) ?_
  exact lw_eqI (tgt := 1243) C0 dL_law_1033 rfl kk
def st_punish (Inv : am_St → Prop) : Prop := ∀ σ, Inv σ → ∀ a0 : Int32, ∃ (r : Int32) (τ1 τ2 : am_St), f_X_punish a0 σ = some (r, τ1) ∧ f_M_punish a0 τ1 = some (r, τ2) ∧ Inv τ2
set_option maxRecDepth 100000 in
set_option maxHeartbeats 4000000 in
theorem lw_c_missed {G : am_G} {p : Program} {e : Env} {s : State} {m : MethodId} {below : List Frame} {meth : Method} {c : Code} {b L : Nat} {xs : Nat → Int32} {σ τ1 τ2 : am_St} {j : Nat} {r : Int64} (C0 : lw_Cx G p s m meth c b L xs) (hj : j + 5 ≤ L) (h1 : f_X_missed (xs (j + 1)) (xs (j + 2)) σ = some (r, τ1)) (h2 : f_M_missed (xs (j + 1)) (xs (j + 2)) τ1 = some (r, τ2)) (kk : lw_W G p e s m below meth c b (nI j) 1243 [] τ2) : lw_W G p e s m below meth c b (nI j) 1038 [] σ := by
  refine lw_x C0 dL_law_1038 ?_
  refine lw_arg (k := 1) C0 hj (by omega) rfl dL_law_1039 dL_law_1040 rfl dL_law_1041 dL_law_1042 dL_law_1043 ?_
  refine lw_arg (k := 2) C0 hj (by omega) rfl dL_law_1044 dL_law_1045 rfl dL_law_1046 dL_law_1047 dL_law_1048 ?_
  refine lw_call (N := M_X_missed) (h := 0) (As := [.int (xs (j + 1)), .int (xs (j + 2))]) (rest := []) (v := some (.long r)) (τ := τ1) C0 dL_law_1049 (am_met_of (v := some (.long r)) (τ := τ1) (cal_X_missed G) (by show (f_X_missed (xs (j + 1)) (xs (j + 2)) σ).bind (fun p => some (some (Value.long p.1), p.2)) = _; rw [h1]; rfl)) sh_0 rfl tw_856 tw_857 tw_858 tw_1 tw_859 dsc_X11_missed ⟨Nat.le_of_ble_eq_true rfl, Nat.le_of_ble_eq_true rfl⟩ rfl rfl (Nat.le_of_ble_eq_true rfl) ?_
  refine lw_m C0 dL_law_1052 ?_
  refine lw_arg (k := 1) C0 hj (by omega) rfl dL_law_1053 dL_law_1054 rfl dL_law_1055 dL_law_1056 dL_law_1057 ?_
  refine lw_arg (k := 2) C0 hj (by omega) rfl dL_law_1058 dL_law_1059 rfl dL_law_1060 dL_law_1061 dL_law_1062 ?_
  refine lw_call (N := M_M_missed) (h := 66) (As := [.int (xs (j + 1)), .int (xs (j + 2))]) (rest := [.long r]) (v := some (.long r)) (τ := τ2) C0 dL_law_1063 (am_met_of (v := some (.long r)) (τ := τ2) (cal_M_missed G) (by show (f_M_missed (xs (j + 1)) (xs (j + 2)) τ1).bind (fun p => some (some (Value.long p.1), p.2)) = _; rw [h2]; rfl)) sh_66 rfl tw_1424 tw_1425 tw_1426 tw_12 tw_1427 dsc_X12_missed ⟨Nat.le_of_ble_eq_true rfl, Nat.le_of_ble_eq_true rfl⟩ rfl rfl (Nat.le_of_ble_eq_true rfl) ?_
  exact lw_eqL (tgt := 1243) C0 dL_law_1066 dL_law_1067 rfl kk
def st_missed (Inv : am_St → Prop) : Prop := ∀ σ, Inv σ → ∀ a0 a1 : Int32, ∃ (r : Int64) (τ1 τ2 : am_St), f_X_missed a0 a1 σ = some (r, τ1) ∧ f_M_missed a0 a1 τ1 = some (r, τ2) ∧ Inv τ2
set_option maxRecDepth 100000 in
set_option maxHeartbeats 4000000 in
theorem lw_c_learn {G : am_G} {p : Program} {e : Env} {s : State} {m : MethodId} {below : List Frame} {meth : Method} {c : Code} {b L : Nat} {xs : Nat → Int32} {σ τ1 τ2 : am_St} {j : Nat} {r : Int32} (C0 : lw_Cx G p s m meth c b L xs) (hj : j + 5 ≤ L) (h1 : f_X_learn (xs (j + 1)) (xs (j + 2)) (xs (j + 3)) σ = some (r, τ1)) (h2 : f_M_learn (xs (j + 1)) (xs (j + 2)) (xs (j + 3)) τ1 = some (r, τ2)) (kk : lw_W G p e s m below meth c b (nI j) 1243 [] τ2) : lw_W G p e s m below meth c b (nI j) 1072 [] σ := by
  refine lw_x C0 dL_law_1072 ?_
  refine lw_arg (k := 1) C0 hj (by omega) rfl dL_law_1073 dL_law_1074 rfl dL_law_1075 dL_law_1076 dL_law_1077 ?_
  refine lw_arg (k := 2) C0 hj (by omega) rfl dL_law_1078 dL_law_1079 rfl dL_law_1080 dL_law_1081 dL_law_1082 ?_
  refine lw_arg (k := 3) C0 hj (by omega) rfl dL_law_1083 dL_law_1084 rfl dL_law_1085 dL_law_1086 dL_law_1087 ?_
  refine lw_call (N := M_X_learn) (h := 0) (As := [.int (xs (j + 1)), .int (xs (j + 2)), .int (xs (j + 3))]) (rest := []) (v := some (.int r)) (τ := τ1) C0 dL_law_1088 (am_met_of (v := some (.int r)) (τ := τ1) (cal_X_learn G) (by show (f_X_learn (xs (j + 1)) (xs (j + 2)) (xs (j + 3)) σ).bind (fun p => some (some (Value.int p.1), p.2)) = _; rw [h1]; rfl)) sh_0 rfl tw_864 tw_865 tw_866 tw_1 tw_867 dsc_X11_learn ⟨Nat.le_of_ble_eq_true rfl, Nat.le_of_ble_eq_true rfl⟩ rfl rfl (Nat.le_of_ble_eq_true rfl) ?_
  refine lw_m C0 dL_law_1091 ?_
  refine lw_arg (k := 1) C0 hj (by omega) rfl dL_law_1092 dL_law_1093 rfl dL_law_1094 dL_law_1095 dL_law_1096 ?_
  refine lw_arg (k := 2) C0 hj (by omega) rfl dL_law_1097 dL_law_1098 rfl dL_law_1099 dL_law_1100 dL_law_1101 ?_
  refine lw_arg (k := 3) C0 hj (by omega) rfl dL_law_1102 dL_law_1103 rfl dL_law_1104 dL_law_1105 dL_law_1106 ?_
  refine lw_call (N := M_M_learn) (h := 66) (As := [.int (xs (j + 1)), .int (xs (j + 2)), .int (xs (j + 3))]) (rest := [.int r]) (v := some (.int r)) (τ := τ2) C0 dL_law_1107 (am_met_of (v := some (.int r)) (τ := τ2) (cal_M_learn G) (by show (f_M_learn (xs (j + 1)) (xs (j + 2)) (xs (j + 3)) τ1).bind (fun p => some (some (Value.int p.1), p.2)) = _; rw [h2]; rfl)) sh_66 rfl tw_1428 tw_1429 tw_1430 tw_12 tw_1431 dsc_X12_learn ⟨Nat.le_of_ble_eq_true rfl, Nat.le_of_ble_eq_true rfl⟩ rfl rfl (Nat.le_of_ble_eq_true rfl) ?_
  exact lw_eqI (tgt := 1243) C0 dL_law_1110 rfl kk
def st_learn (Inv : am_St → Prop) : Prop := ∀ σ, Inv σ → ∀ a0 a1 a2 : Int32, ∃ (r : Int32) (τ1 τ2 : am_St), f_X_learn a0 a1 a2 σ = some (r, τ1) ∧ f_M_learn a0 a1 a2 τ1 = some (r, τ2) ∧ Inv τ2
set_option maxRecDepth 100000 in
set_option maxHeartbeats 4000000 in
theorem lw_c_row {G : am_G} {p : Program} {e : Env} {s : State} {m : MethodId} {below : List Frame} {meth : Method} {c : Code} {b L : Nat} {xs : Nat → Int32} {σ τ1 τ2 : am_St} {j : Nat} {r : Int32} (C0 : lw_Cx G p s m meth c b L xs) (hj : j + 5 ≤ L) (h1 : f_X_row (xs (j + 1)) σ = some (r, τ1)) (h2 : f_M_row (xs (j + 1)) τ1 = some (r, τ2)) (kk : lw_W G p e s m below meth c b (nI j) 1243 [] τ2) : lw_W G p e s m below meth c b (nI j) 1115 [] σ := by
  refine lw_x C0 dL_law_1115 ?_
  refine lw_arg (k := 1) C0 hj (by omega) rfl dL_law_1116 dL_law_1117 rfl dL_law_1118 dL_law_1119 dL_law_1120 ?_
  refine lw_call (N := M_X_row) (h := 0) (As := [.int (xs (j + 1))]) (rest := []) (v := some (.int r)) (τ := τ1) C0 dL_law_1121 (am_met_of (v := some (.int r)) (τ := τ1) (cal_X_row G) (by show (f_X_row (xs (j + 1)) σ).bind (fun p => some (some (Value.int p.1), p.2)) = _; rw [h1]; rfl)) sh_0 rfl tw_873 tw_874 tw_875 tw_1 tw_876 dsc_X11_row ⟨Nat.le_of_ble_eq_true rfl, Nat.le_of_ble_eq_true rfl⟩ rfl rfl (Nat.le_of_ble_eq_true rfl) ?_
  refine lw_m C0 dL_law_1124 ?_
  refine lw_arg (k := 1) C0 hj (by omega) rfl dL_law_1125 dL_law_1126 rfl dL_law_1127 dL_law_1128 dL_law_1129 ?_
  refine lw_call (N := M_M_row) (h := 66) (As := [.int (xs (j + 1))]) (rest := [.int r]) (v := some (.int r)) (τ := τ2) C0 dL_law_1130 (am_met_of (v := some (.int r)) (τ := τ2) (cal_M_row G) (by show (f_M_row (xs (j + 1)) τ1).bind (fun p => some (some (Value.int p.1), p.2)) = _; rw [h2]; rfl)) sh_66 rfl tw_1432 tw_1433 tw_1434 tw_12 tw_1435 dsc_X12_row ⟨Nat.le_of_ble_eq_true rfl, Nat.le_of_ble_eq_true rfl⟩ rfl rfl (Nat.le_of_ble_eq_true rfl) ?_
  exact lw_eqI (tgt := 1243) C0 dL_law_1133 rfl kk
def st_row (Inv : am_St → Prop) : Prop := ∀ σ, Inv σ → ∀ a0 : Int32, ∃ (r : Int32) (τ1 τ2 : am_St), f_X_row a0 σ = some (r, τ1) ∧ f_M_row a0 τ1 = some (r, τ2) ∧ Inv τ2
set_option maxRecDepth 100000 in
set_option maxHeartbeats 4000000 in
theorem lw_c_judge {G : am_G} {p : Program} {e : Env} {s : State} {m : MethodId} {below : List Frame} {meth : Method} {c : Code} {b L : Nat} {xs : Nat → Int32} {σ τ1 τ2 : am_St} {j : Nat} {r : Int32} (C0 : lw_Cx G p s m meth c b L xs) (hj : j + 5 ≤ L) (h1 : f_X_judge  σ = some (r, τ1)) (h2 : f_M_judge  τ1 = some (r, τ2)) (kk : lw_W G p e s m below meth c b (nI j) 1243 [] τ2) : lw_W G p e s m below meth c b (nI j) 1138 [] σ := by
  refine lw_x C0 dL_law_1138 ?_
  refine lw_call (N := M_X_judge) (h := 0) (As := []) (rest := []) (v := some (.int r)) (τ := τ1) C0 dL_law_1139 (am_met_of (v := some (.int r)) (τ := τ1) (cal_X_judge G) (by show (f_X_judge  σ).bind (fun p => some (some (Value.int p.1), p.2)) = _; rw [h1]; rfl)) sh_0 rfl tw_877 tw_878 tw_879 tw_1 tw_880 dsc_X11_judge ⟨Nat.le_of_ble_eq_true rfl, Nat.le_of_ble_eq_true rfl⟩ rfl rfl (Nat.le_of_ble_eq_true rfl) ?_
  refine lw_m C0 dL_law_1142 ?_
  refine lw_call (N := M_M_judge) (h := 66) (As := []) (rest := [.int r]) (v := some (.int r)) (τ := τ2) C0 dL_law_1143 (am_met_of (v := some (.int r)) (τ := τ2) (cal_M_judge G) (by show (f_M_judge  τ1).bind (fun p => some (some (Value.int p.1), p.2)) = _; rw [h2]; rfl)) sh_66 rfl tw_1436 tw_1437 tw_1438 tw_12 tw_1439 dsc_X12_judge ⟨Nat.le_of_ble_eq_true rfl, Nat.le_of_ble_eq_true rfl⟩ rfl rfl (Nat.le_of_ble_eq_true rfl) ?_
  exact lw_eqI (tgt := 1243) C0 dL_law_1146 rfl kk
def st_judge (Inv : am_St → Prop) : Prop := ∀ σ, Inv σ → ∃ (r : Int32) (τ1 τ2 : am_St), f_X_judge  σ = some (r, τ1) ∧ f_M_judge  τ1 = some (r, τ2) ∧ Inv τ2
set_option maxRecDepth 100000 in
set_option maxHeartbeats 4000000 in
theorem lw_c_seeds {G : am_G} {p : Program} {e : Env} {s : State} {m : MethodId} {below : List Frame} {meth : Method} {c : Code} {b L : Nat} {xs : Nat → Int32} {σ τ1 τ2 : am_St} {j : Nat} {r : Int32} (C0 : lw_Cx G p s m meth c b L xs) (hj : j + 5 ≤ L) (h1 : f_X_seeds (xs (j + 1)) (xs (j + 2)) (xs (j + 3)) σ = some (r, τ1)) (h2 : f_M_seeds (xs (j + 1)) (xs (j + 2)) (xs (j + 3)) τ1 = some (r, τ2)) (kk : lw_W G p e s m below meth c b (nI j) 1243 [] τ2) : lw_W G p e s m below meth c b (nI j) 1151 [] σ := by
  refine lw_x C0 dL_law_1151 ?_
  refine lw_arg (k := 1) C0 hj (by omega) rfl dL_law_1152 dL_law_1153 rfl dL_law_1154 dL_law_1155 dL_law_1156 ?_
  refine lw_arg (k := 2) C0 hj (by omega) rfl dL_law_1157 dL_law_1158 rfl dL_law_1159 dL_law_1160 dL_law_1161 ?_
  refine lw_arg (k := 3) C0 hj (by omega) rfl dL_law_1162 dL_law_1163 rfl dL_law_1164 dL_law_1165 dL_law_1166 ?_
  refine lw_call (N := M_X_seeds) (h := 0) (As := [.int (xs (j + 1)), .int (xs (j + 2)), .int (xs (j + 3))]) (rest := []) (v := some (.int r)) (τ := τ1) C0 dL_law_1167 (am_met_of (v := some (.int r)) (τ := τ1) (cal_X_seeds G) (by show (f_X_seeds (xs (j + 1)) (xs (j + 2)) (xs (j + 3)) σ).bind (fun p => some (some (Value.int p.1), p.2)) = _; rw [h1]; rfl)) sh_0 rfl tw_885 tw_886 tw_887 tw_1 tw_888 dsc_X11_seeds ⟨Nat.le_of_ble_eq_true rfl, Nat.le_of_ble_eq_true rfl⟩ rfl rfl (Nat.le_of_ble_eq_true rfl) ?_
  refine lw_m C0 dL_law_1170 ?_
  refine lw_arg (k := 1) C0 hj (by omega) rfl dL_law_1171 dL_law_1172 rfl dL_law_1173 dL_law_1174 dL_law_1175 ?_
  refine lw_arg (k := 2) C0 hj (by omega) rfl dL_law_1176 dL_law_1177 rfl dL_law_1178 dL_law_1179 dL_law_1180 ?_
  refine lw_arg (k := 3) C0 hj (by omega) rfl dL_law_1181 dL_law_1182 rfl dL_law_1183 dL_law_1184 dL_law_1185 ?_
  refine lw_call (N := M_M_seeds) (h := 66) (As := [.int (xs (j + 1)), .int (xs (j + 2)), .int (xs (j + 3))]) (rest := [.int r]) (v := some (.int r)) (τ := τ2) C0 dL_law_1186 (am_met_of (v := some (.int r)) (τ := τ2) (cal_M_seeds G) (by show (f_M_seeds (xs (j + 1)) (xs (j + 2)) (xs (j + 3)) τ1).bind (fun p => some (some (Value.int p.1), p.2)) = _; rw [h2]; rfl)) sh_66 rfl tw_1440 tw_1441 tw_1442 tw_12 tw_1443 dsc_X12_seeds ⟨Nat.le_of_ble_eq_true rfl, Nat.le_of_ble_eq_true rfl⟩ rfl rfl (Nat.le_of_ble_eq_true rfl) ?_
  exact lw_eqI (tgt := 1243) C0 dL_law_1189 rfl kk
def st_seeds (Inv : am_St → Prop) : Prop := ∀ σ, Inv σ → ∀ a0 a1 a2 : Int32, ∃ (r : Int32) (τ1 τ2 : am_St), f_X_seeds a0 a1 a2 σ = some (r, τ1) ∧ f_M_seeds a0 a1 a2 τ1 = some (r, τ2) ∧ Inv τ2
set_option maxRecDepth 100000 in
set_option maxHeartbeats 4000000 in
theorem lw_c_image {G : am_G} {p : Program} {e : Env} {s : State} {m : MethodId} {below : List Frame} {meth : Method} {c : Code} {b L : Nat} {xs : Nat → Int32} {σ τ1 τ2 : am_St} {j : Nat} {r : Int32} (C0 : lw_Cx G p s m meth c b L xs) (hj : j + 5 ≤ L) (h1 : f_X_image  σ = some (r, τ1)) (h2 : f_M_image  τ1 = some (r, τ2)) (kk : lw_W G p e s m below meth c b (nI j) 1243 [] τ2) : lw_W G p e s m below meth c b (nI j) 1194 [] σ := by
  refine lw_x C0 dL_law_1194 ?_
  refine lw_call (N := M_X_image) (h := 0) (As := []) (rest := []) (v := some (.int r)) (τ := τ1) C0 dL_law_1195 (am_met_of (v := some (.int r)) (τ := τ1) (cal_X_image G) (by show (f_X_image  σ).bind (fun p => some (some (Value.int p.1), p.2)) = _; rw [h1]; rfl)) sh_0 rfl tw_910 tw_911 tw_912 tw_1 tw_913 dsc_X11_image ⟨Nat.le_of_ble_eq_true rfl, Nat.le_of_ble_eq_true rfl⟩ rfl rfl (Nat.le_of_ble_eq_true rfl) ?_
  refine lw_m C0 dL_law_1198 ?_
  refine lw_call (N := M_M_image) (h := 66) (As := []) (rest := [.int r]) (v := some (.int r)) (τ := τ2) C0 dL_law_1199 (am_met_of (v := some (.int r)) (τ := τ2) (cal_M_image G) (by show (f_M_image  τ1).bind (fun p => some (some (Value.int p.1), p.2)) = _; rw [h2]; rfl)) sh_66 rfl tw_1197 tw_1198 tw_1199 tw_12 tw_1200 dsc_X12_image ⟨Nat.le_of_ble_eq_true rfl, Nat.le_of_ble_eq_true rfl⟩ rfl rfl (Nat.le_of_ble_eq_true rfl) ?_
  exact lw_eqI (tgt := 1243) C0 dL_law_1202 rfl kk
def st_image (Inv : am_St → Prop) : Prop := ∀ σ, Inv σ → ∃ (r : Int32) (τ1 τ2 : am_St), f_X_image  σ = some (r, τ1) ∧ f_M_image  τ1 = some (r, τ2) ∧ Inv τ2
set_option maxRecDepth 100000 in
set_option maxHeartbeats 4000000 in
theorem lw_c_restore {G : am_G} {p : Program} {e : Env} {s : State} {m : MethodId} {below : List Frame} {meth : Method} {c : Code} {b L : Nat} {xs : Nat → Int32} {σ τ1 τ2 : am_St} {j : Nat} {r : Int32} (C0 : lw_Cx G p s m meth c b L xs) (hj : j + 5 ≤ L) (h1 : f_X_restore  σ = some (r, τ1)) (h2 : f_M_restore  τ1 = some (r, τ2)) (kk : lw_W G p e s m below meth c b (nI j) 1243 [] τ2) : lw_W G p e s m below meth c b (nI j) 1207 [] σ := by
  refine lw_x C0 dL_law_1207 ?_
  refine lw_call (N := M_X_restore) (h := 0) (As := []) (rest := []) (v := some (.int r)) (τ := τ1) C0 dL_law_1208 (am_met_of (v := some (.int r)) (τ := τ1) (cal_X_restore G) (by show (f_X_restore  σ).bind (fun p => some (some (Value.int p.1), p.2)) = _; rw [h1]; rfl)) sh_0 rfl tw_914 tw_915 tw_916 tw_1 tw_917 dsc_X11_restore ⟨Nat.le_of_ble_eq_true rfl, Nat.le_of_ble_eq_true rfl⟩ rfl rfl (Nat.le_of_ble_eq_true rfl) ?_
  refine lw_m C0 dL_law_1211 ?_
  refine lw_call (N := M_M_restore) (h := 66) (As := []) (rest := [.int r]) (v := some (.int r)) (τ := τ2) C0 dL_law_1212 (am_met_of (v := some (.int r)) (τ := τ2) (cal_M_restore G) (by show (f_M_restore  τ1).bind (fun p => some (some (Value.int p.1), p.2)) = _; rw [h2]; rfl)) sh_66 rfl tw_1201 tw_1202 tw_1203 tw_12 tw_1204 dsc_X12_restore ⟨Nat.le_of_ble_eq_true rfl, Nat.le_of_ble_eq_true rfl⟩ rfl rfl (Nat.le_of_ble_eq_true rfl) ?_
  exact lw_eqI (tgt := 1243) C0 dL_law_1215 rfl kk
def st_restore (Inv : am_St → Prop) : Prop := ∀ σ, Inv σ → ∃ (r : Int32) (τ1 τ2 : am_St), f_X_restore  σ = some (r, τ1) ∧ f_M_restore  τ1 = some (r, τ2) ∧ Inv τ2
set_option maxRecDepth 100000 in
set_option maxHeartbeats 4000000 in
theorem lw_c_count {G : am_G} {p : Program} {e : Env} {s : State} {m : MethodId} {below : List Frame} {meth : Method} {c : Code} {b L : Nat} {xs : Nat → Int32} {σ τ1 τ2 : am_St} {j : Nat} {r : Int32} (C0 : lw_Cx G p s m meth c b L xs) (hj : j + 5 ≤ L) (h1 : f_X_count (xs (j + 1)) σ = some (r, τ1)) (h2 : f_M_count (xs (j + 1)) τ1 = some (r, τ2)) (kk : lw_W G p e s m below meth c b (nI j) 1243 [] τ2) : lw_W G p e s m below meth c b (nI j) 1220 [] σ := by
  refine lw_x C0 dL_law_1220 ?_
  refine lw_arg (k := 1) C0 hj (by omega) rfl dL_law_1221 dL_law_1222 rfl dL_law_1223 dL_law_1224 dL_law_1225 ?_
  refine lw_call (N := M_X_count) (h := 0) (As := [.int (xs (j + 1))]) (rest := []) (v := some (.int r)) (τ := τ1) C0 dL_law_1226 (am_met_of (v := some (.int r)) (τ := τ1) (cal_X_count G) (by show (f_X_count (xs (j + 1)) σ).bind (fun p => some (some (Value.int p.1), p.2)) = _; rw [h1]; rfl)) sh_0 rfl tw_918 tw_919 tw_920 tw_1 tw_921 dsc_X11_count ⟨Nat.le_of_ble_eq_true rfl, Nat.le_of_ble_eq_true rfl⟩ rfl rfl (Nat.le_of_ble_eq_true rfl) ?_
  refine lw_m C0 dL_law_1229 ?_
  refine lw_arg (k := 1) C0 hj (by omega) rfl dL_law_1230 dL_law_1231 rfl dL_law_1232 dL_law_1233 dL_law_1234 ?_
  refine lw_call (N := M_M_count) (h := 66) (As := [.int (xs (j + 1))]) (rest := [.int r]) (v := some (.int r)) (τ := τ2) C0 dL_law_1235 (am_met_of (v := some (.int r)) (τ := τ2) (cal_M_count G) (by show (f_M_count (xs (j + 1)) τ1).bind (fun p => some (some (Value.int p.1), p.2)) = _; rw [h2]; rfl)) sh_66 rfl tw_1459 tw_1460 tw_1461 tw_12 tw_1462 dsc_X12_count ⟨Nat.le_of_ble_eq_true rfl, Nat.le_of_ble_eq_true rfl⟩ rfl rfl (Nat.le_of_ble_eq_true rfl) ?_
  exact lw_eqI (tgt := 1243) C0 dL_law_1238 rfl kk
def st_count (Inv : am_St → Prop) : Prop := ∀ σ, Inv σ → ∀ a0 : Int32, ∃ (r : Int32) (τ1 τ2 : am_St), f_X_count a0 σ = some (r, τ1) ∧ f_M_count a0 τ1 = some (r, τ2) ∧ Inv τ2
def lw_steps (Inv : am_St → Prop) : Prop := st_feed Inv ∧ st_house Inv ∧ st_child Inv ∧ st_was Inv ∧ st_door Inv ∧ st_deed Inv ∧ st_fact Inv ∧ st_unfact Inv ∧ st_chance Inv ∧ st_ways Inv ∧ st_can Inv ∧ st_where Inv ∧ st_who Inv ∧ st_likeliest Inv ∧ st_says Inv ∧ st_hush Inv ∧ st_holds Inv ∧ st_together Inv ∧ st_most Inv ∧ st_ask Inv ∧ st_first Inv ∧ st_tale Inv ∧ st_lasts Inv ∧ st_half Inv ∧ st_law Inv ∧ st_byLaws Inv ∧ st_old Inv ∧ st_punish Inv ∧ st_missed Inv ∧ st_learn Inv ∧ st_row Inv ∧ st_judge Inv ∧ st_seeds Inv ∧ st_image Inv ∧ st_restore Inv ∧ st_count Inv
set_option maxRecDepth 100000 in
set_option maxHeartbeats 4000000 in
/-- THE LAW'S LOOP, out of the steps -/
theorem law_loop {G : am_G} {p : Program} {e : Env} {s : State} {m : MethodId} {below : List Frame} {meth : Method} {c : Code} {b L : Nat} {xs : Nat → Int32} {Inv : am_St → Prop} (steps : lw_steps Inv) (C0 : lw_Cx G p s m meth c b L xs) : ∀ (n j : Nat) (σ : am_St), Inv σ → j ≤ L → L + 1 ≤ j + n → lw_W G p e s m below meth c b (nI j) 18 [] σ := by
  obtain ⟨h0, h1, h2, h3, h4, h5, h6, h7, h8, h9, h10, h11, h12, h13, h14, h15, h16, h17, h18, h19, h20, h21, h22, h23, h24, h25, h26, h27, h28, h29, h30, h31, h32, h33, h34, h35⟩ := steps
  obtain ⟨⟨hx, hb, hr, hml, hown, hts, hX, hbl, hlocks, hgv⟩, hL, hK, hN⟩ := id C0
  have hbA : ¬ (fun q : Nat => s.heap.size ≤ q) b := Nat.not_le.mpr hbl
  intro n
  induction n with
  | zero =>
    intro j σ hI h1 h2
    exact absurd h2 (by omega)
  | succ n ih =>
    intro j σ hI hjL hn H locs ls hP hD hS hl
    refine lv_iload_n hx hb dL_law_18 rfl (lv_at hl 3 rfl) ?_
    refine lv_aload_n hx hb dL_law_19 rfl (lv_at hl 0 rfl) ?_
    refine va_slen hx hb hX hbl hbA hS dL_law_20 ?_
    refine lv_iconst (v := nI 5) hx hb dL_law_21 rfl ?_
    refine lv_isub hx hb dL_law_22 ?_
    have e0 : (Int32.ofNat L - nI 5).toInt = (L : Int) - (5 : Nat) := pk_sub_toInt (by omega) (by decide)
    refine lv_icmp_gt (tgt := 1249) hx hb dL_law_23 rfl (fun q => ?_) (fun q => ?_)
    · refine lv_iconst (v := 1) hx hb dL_law_1249 rfl ?_
      refine va_forget (fun q hq => hS.2.2 q hq) ?_
      exact lw_ret hx hb hr hlocks dL_law_1250
    · have hj : j + 5 ≤ L := by
        rw [Int32.lt_iff_toInt_lt, e0, nI_toInt (by omega)] at q
        omega
      refine lv_aload_n hx hb dL_law_26 rfl (lv_at hl 0 rfl) ?_
      refine lv_iload_n hx hb dL_law_27 rfl (lv_at hl 3 rfl) ?_
      refine va_sld hx hb hX hbl hbA hS (vp_in_nI (by omega) (by omega)) dL_law_28 ?_
      refine lv_bipush (v := 63) hx hb dL_law_29 rfl ?_
      refine lv_iand hx hb dL_law_31 ?_
      have go : ∀ τ, Inv τ → lw_W G p e s m below meth c b (nI j) 1243 [] τ := by
        intro τ hτ H locs ls hP hD hS hl
        refine lv_iinc (v := nI (j + 5)) (lv' := [(3, .int (nI (j + 5))), (0, .ref b), (1, .ref (G.2.2.2 0)), (2, .ref (G.2.2.2 66))]) hx hb dL_law_1243 hl (k := 3) rfl (by rw [← nI_add]; rfl) (by decide) rfl (fun ls hl => ?_)
        refine lv_goto (tgt := 18) hx hb dL_law_1246 rfl ?_
        exact ih (j + 5) τ hτ hj (by omega) H locs ls hP hD hS (lv_sub hl [1, 2, 3, 0] rfl)
      obtain ⟨t, ht, et⟩ := pk_andE (xs (nI j).toNatClampNeg) (m := 63) 6 (by decide)
      rw [et]
      match t, ht with
      | 0, _ =>
        refine lv_tableIn hx hb dL_law_32 (by decide) (by decide) (off := 160) rfl (tgt := 192) rfl ?_
        obtain ⟨r, τ1, τ2, g1, g2, g3⟩ := h0 σ hI (xs (j + 1))
        exact lw_c_feed C0 hj g1 g2 (go τ2 g3) H locs ls hP hD hS hl
      | 1, _ =>
        refine lv_tableIn hx hb dL_law_32 (by decide) (by decide) (off := 183) rfl (tgt := 215) rfl ?_
        obtain ⟨r, τ1, τ2, g1, g2, g3⟩ := h1 σ hI 
        exact lw_c_house C0 hj g1 g2 (go τ2 g3) H locs ls hP hD hS hl
      | 2, _ =>
        refine lv_tableIn hx hb dL_law_32 (by decide) (by decide) (off := 196) rfl (tgt := 228) rfl ?_
        obtain ⟨r, τ1, τ2, g1, g2, g3⟩ := h2 σ hI (xs (j + 1)) (xs (j + 2))
        exact lw_c_child C0 hj g1 g2 (go τ2 g3) H locs ls hP hD hS hl
      | 3, _ =>
        refine lv_tableIn hx hb dL_law_32 (by decide) (by decide) (off := 229) rfl (tgt := 261) rfl ?_
        obtain ⟨r, τ1, τ2, g1, g2, g3⟩ := h3 σ hI (xs (j + 1)) (xs (j + 2))
        exact lw_c_was C0 hj g1 g2 (go τ2 g3) H locs ls hP hD hS hl
      | 4, _ =>
        refine lv_tableIn hx hb dL_law_32 (by decide) (by decide) (off := 262) rfl (tgt := 294) rfl ?_
        obtain ⟨r, τ1, τ2, g1, g2, g3⟩ := h4 σ hI (xs (j + 1)) (xs (j + 2))
        exact lw_c_door C0 hj g1 g2 (go τ2 g3) H locs ls hP hD hS hl
      | 5, _ =>
        refine lv_tableIn hx hb dL_law_32 (by decide) (by decide) (off := 295) rfl (tgt := 327) rfl ?_
        obtain ⟨r, τ1, τ2, g1, g2, g3⟩ := h5 σ hI (xs (j + 1)) (xs (j + 2))
        exact lw_c_deed C0 hj g1 g2 (go τ2 g3) H locs ls hP hD hS hl
      | 6, _ =>
        refine lv_tableIn hx hb dL_law_32 (by decide) (by decide) (off := 328) rfl (tgt := 360) rfl ?_
        obtain ⟨r, τ1, τ2, g1, g2, g3⟩ := h6 σ hI (xs (j + 1)) (xs (j + 2)) (xs (j + 3)) (xs (j + 4))
        exact lw_c_fact C0 hj g1 g2 (go τ2 g3) H locs ls hP hD hS hl
      | 7, _ =>
        refine lv_tableIn hx hb dL_law_32 (by decide) (by decide) (off := 381) rfl (tgt := 413) rfl ?_
        obtain ⟨r, τ1, τ2, g1, g2, g3⟩ := h7 σ hI 
        exact lw_c_unfact C0 hj g1 g2 (go τ2 g3) H locs ls hP hD hS hl
      | 8, _ =>
        refine lv_tableIn hx hb dL_law_32 (by decide) (by decide) (off := 394) rfl (tgt := 426) rfl ?_
        obtain ⟨r, τ1, τ2, g1, g2, g3⟩ := h8 σ hI (xs (j + 1)) (xs (j + 2))
        exact lw_c_chance C0 hj g1 g2 (go τ2 g3) H locs ls hP hD hS hl
      | 9, _ =>
        refine lv_tableIn hx hb dL_law_32 (by decide) (by decide) (off := 427) rfl (tgt := 459) rfl ?_
        obtain ⟨r, τ1, τ2, g1, g2, g3⟩ := h9 σ hI (xs (j + 1)) (xs (j + 2))
        exact lw_c_ways C0 hj g1 g2 (go τ2 g3) H locs ls hP hD hS hl
      | 10, _ =>
        refine lv_tableIn hx hb dL_law_32 (by decide) (by decide) (off := 460) rfl (tgt := 492) rfl ?_
        obtain ⟨r, τ1, τ2, g1, g2, g3⟩ := h10 σ hI (xs (j + 1))
        exact lw_c_can C0 hj g1 g2 (go τ2 g3) H locs ls hP hD hS hl
      | 11, _ =>
        refine lv_tableIn hx hb dL_law_32 (by decide) (by decide) (off := 483) rfl (tgt := 515) rfl ?_
        obtain ⟨r, τ1, τ2, g1, g2, g3⟩ := h11 σ hI (xs (j + 1)) (xs (j + 2))
        exact lw_c_where C0 hj g1 g2 (go τ2 g3) H locs ls hP hD hS hl
      | 12, _ =>
        refine lv_tableIn hx hb dL_law_32 (by decide) (by decide) (off := 516) rfl (tgt := 548) rfl ?_
        obtain ⟨r, τ1, τ2, g1, g2, g3⟩ := h12 σ hI (xs (j + 1)) (xs (j + 2))
        exact lw_c_who C0 hj g1 g2 (go τ2 g3) H locs ls hP hD hS hl
      | 13, _ =>
        refine lv_tableIn hx hb dL_law_32 (by decide) (by decide) (off := 550) rfl (tgt := 582) rfl ?_
        obtain ⟨r, τ1, τ2, g1, g2, g3⟩ := h13 σ hI 
        exact lw_c_likeliest C0 hj g1 g2 (go τ2 g3) H locs ls hP hD hS hl
      | 14, _ =>
        refine lv_tableIn hx hb dL_law_32 (by decide) (by decide) (off := 563) rfl (tgt := 595) rfl ?_
        obtain ⟨r, τ1, τ2, g1, g2, g3⟩ := h14 σ hI (xs (j + 1)) (xs (j + 2)) (xs (j + 3)) (xs (j + 4))
        exact lw_c_says C0 hj g1 g2 (go τ2 g3) H locs ls hP hD hS hl
      | 15, _ =>
        refine lv_tableIn hx hb dL_law_32 (by decide) (by decide) (off := 616) rfl (tgt := 648) rfl ?_
        obtain ⟨r, τ1, τ2, g1, g2, g3⟩ := h15 σ hI 
        exact lw_c_hush C0 hj g1 g2 (go τ2 g3) H locs ls hP hD hS hl
      | 16, _ =>
        refine lv_tableIn hx hb dL_law_32 (by decide) (by decide) (off := 629) rfl (tgt := 661) rfl ?_
        obtain ⟨r, τ1, τ2, g1, g2, g3⟩ := h16 σ hI (xs (j + 1))
        exact lw_c_holds C0 hj g1 g2 (go τ2 g3) H locs ls hP hD hS hl
      | 17, _ =>
        refine lv_tableIn hx hb dL_law_32 (by decide) (by decide) (off := 652) rfl (tgt := 684) rfl ?_
        obtain ⟨r, τ1, τ2, g1, g2, g3⟩ := h17 σ hI (xs (j + 1))
        exact lw_c_together C0 hj g1 g2 (go τ2 g3) H locs ls hP hD hS hl
      | 18, _ =>
        refine lv_tableIn hx hb dL_law_32 (by decide) (by decide) (off := 675) rfl (tgt := 707) rfl ?_
        obtain ⟨r, τ1, τ2, g1, g2, g3⟩ := h18 σ hI (xs (j + 1))
        exact lw_c_most C0 hj g1 g2 (go τ2 g3) H locs ls hP hD hS hl
      | 19, _ =>
        refine lv_tableIn hx hb dL_law_32 (by decide) (by decide) (off := 698) rfl (tgt := 730) rfl ?_
        obtain ⟨r, τ1, τ2, g1, g2, g3⟩ := h19 σ hI (xs (j + 1)) (xs (j + 2)) (xs (j + 3)) (xs (j + 4))
        exact lw_c_ask C0 hj g1 g2 (go τ2 g3) H locs ls hP hD hS hl
      | 20, _ =>
        refine lv_tableIn hx hb dL_law_32 (by decide) (by decide) (off := 751) rfl (tgt := 783) rfl ?_
        obtain ⟨r, τ1, τ2, g1, g2, g3⟩ := h20 σ hI 
        exact lw_c_first C0 hj g1 g2 (go τ2 g3) H locs ls hP hD hS hl
      | 21, _ =>
        refine lv_tableIn hx hb dL_law_32 (by decide) (by decide) (off := 764) rfl (tgt := 796) rfl ?_
        obtain ⟨r, τ1, τ2, g1, g2, g3⟩ := h21 σ hI (xs (j + 1)) (xs (j + 2))
        exact lw_c_tale C0 hj g1 g2 (go τ2 g3) H locs ls hP hD hS hl
      | 22, _ =>
        refine lv_tableIn hx hb dL_law_32 (by decide) (by decide) (off := 797) rfl (tgt := 829) rfl ?_
        obtain ⟨r, τ1, τ2, g1, g2, g3⟩ := h22 σ hI (xs (j + 1)) (xs (j + 2))
        exact lw_c_lasts C0 hj g1 g2 (go τ2 g3) H locs ls hP hD hS hl
      | 23, _ =>
        refine lv_tableIn hx hb dL_law_32 (by decide) (by decide) (off := 831) rfl (tgt := 863) rfl ?_
        obtain ⟨r, τ1, τ2, g1, g2, g3⟩ := h23 σ hI 
        exact lw_c_half C0 hj g1 g2 (go τ2 g3) H locs ls hP hD hS hl
      | 24, _ =>
        refine lv_tableIn hx hb dL_law_32 (by decide) (by decide) (off := 844) rfl (tgt := 876) rfl ?_
        obtain ⟨r, τ1, τ2, g1, g2, g3⟩ := h24 σ hI (xs (j + 1)) (xs (j + 2)) (xs (j + 3)) (xs (j + 4))
        exact lw_c_law C0 hj g1 g2 (go τ2 g3) H locs ls hP hD hS hl
      | 25, _ =>
        refine lv_tableIn hx hb dL_law_32 (by decide) (by decide) (off := 897) rfl (tgt := 929) rfl ?_
        obtain ⟨r, τ1, τ2, g1, g2, g3⟩ := h25 σ hI (xs (j + 1)) (xs (j + 2))
        exact lw_c_byLaws C0 hj g1 g2 (go τ2 g3) H locs ls hP hD hS hl
      | 26, _ =>
        refine lv_tableIn hx hb dL_law_32 (by decide) (by decide) (off := 930) rfl (tgt := 962) rfl ?_
        obtain ⟨r, τ1, τ2, g1, g2, g3⟩ := h26 σ hI (xs (j + 1)) (xs (j + 2)) (xs (j + 3)) (xs (j + 4))
        exact lw_c_old C0 hj g1 g2 (go τ2 g3) H locs ls hP hD hS hl
      | 27, _ =>
        refine lv_tableIn hx hb dL_law_32 (by decide) (by decide) (off := 983) rfl (tgt := 1015) rfl ?_
        obtain ⟨r, τ1, τ2, g1, g2, g3⟩ := h27 σ hI (xs (j + 1))
        exact lw_c_punish C0 hj g1 g2 (go τ2 g3) H locs ls hP hD hS hl
      | 28, _ =>
        refine lv_tableIn hx hb dL_law_32 (by decide) (by decide) (off := 1006) rfl (tgt := 1038) rfl ?_
        obtain ⟨r, τ1, τ2, g1, g2, g3⟩ := h28 σ hI (xs (j + 1)) (xs (j + 2))
        exact lw_c_missed C0 hj g1 g2 (go τ2 g3) H locs ls hP hD hS hl
      | 29, _ =>
        refine lv_tableIn hx hb dL_law_32 (by decide) (by decide) (off := 1040) rfl (tgt := 1072) rfl ?_
        obtain ⟨r, τ1, τ2, g1, g2, g3⟩ := h29 σ hI (xs (j + 1)) (xs (j + 2)) (xs (j + 3))
        exact lw_c_learn C0 hj g1 g2 (go τ2 g3) H locs ls hP hD hS hl
      | 30, _ =>
        refine lv_tableIn hx hb dL_law_32 (by decide) (by decide) (off := 1083) rfl (tgt := 1115) rfl ?_
        obtain ⟨r, τ1, τ2, g1, g2, g3⟩ := h30 σ hI (xs (j + 1))
        exact lw_c_row C0 hj g1 g2 (go τ2 g3) H locs ls hP hD hS hl
      | 31, _ =>
        refine lv_tableIn hx hb dL_law_32 (by decide) (by decide) (off := 1106) rfl (tgt := 1138) rfl ?_
        obtain ⟨r, τ1, τ2, g1, g2, g3⟩ := h31 σ hI 
        exact lw_c_judge C0 hj g1 g2 (go τ2 g3) H locs ls hP hD hS hl
      | 32, _ =>
        refine lv_tableIn hx hb dL_law_32 (by decide) (by decide) (off := 1119) rfl (tgt := 1151) rfl ?_
        obtain ⟨r, τ1, τ2, g1, g2, g3⟩ := h32 σ hI (xs (j + 1)) (xs (j + 2)) (xs (j + 3))
        exact lw_c_seeds C0 hj g1 g2 (go τ2 g3) H locs ls hP hD hS hl
      | 33, _ =>
        refine lv_tableIn hx hb dL_law_32 (by decide) (by decide) (off := 1162) rfl (tgt := 1194) rfl ?_
        obtain ⟨r, τ1, τ2, g1, g2, g3⟩ := h33 σ hI 
        exact lw_c_image C0 hj g1 g2 (go τ2 g3) H locs ls hP hD hS hl
      | 34, _ =>
        refine lv_tableIn hx hb dL_law_32 (by decide) (by decide) (off := 1175) rfl (tgt := 1207) rfl ?_
        obtain ⟨r, τ1, τ2, g1, g2, g3⟩ := h34 σ hI 
        exact lw_c_restore C0 hj g1 g2 (go τ2 g3) H locs ls hP hD hS hl
      | 35, _ =>
        refine lv_tableIn hx hb dL_law_32 (by decide) (by decide) (off := 1188) rfl (tgt := 1220) rfl ?_
        obtain ⟨r, τ1, τ2, g1, g2, g3⟩ := h35 σ hI (xs (j + 1))
        exact lw_c_count C0 hj g1 g2 (go τ2 g3) H locs ls hP hD hS hl
      | t + 36, ht =>
        refine lv_tableOut hx hb dL_law_32 (Or.inr (by rw [nI_toInt (by omega)]; omega)) (tgt := 1243) rfl ?_
        exact go σ hI H locs ls hP hD hS hl
