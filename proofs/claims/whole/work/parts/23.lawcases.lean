theorem lkL_13 : ax_lkV mu_law.1.cls 13 mu_X9_pass RX9 1 := ax_lkV_of (ax_m2 64 rfl rfl) (ax_m2 65 rfl rfl) (ax_m2 66 rfl rfl) (ax_m1 1 rfl rfl) lc_X9_pass rfl ⟨by decide +kernel, by decide +kernel, by decide +kernel⟩
theorem lkL_17 : ax_lkV mu_law.1.cls 17 mu_X10_pass RX10 1 := ax_lkV_of (ax_m5 58 rfl rfl) (ax_m5 59 rfl rfl) (ax_m5 60 rfl rfl) (ax_m1 10 rfl rfl) lc_X10_pass rfl ⟨by decide +kernel, by decide +kernel, by decide +kernel⟩
theorem lkL_18 : ax_lkV mu_law.1.cls 18 mu_X9_thing RX9 0 := ax_lkV_of (ax_m2 68 rfl rfl) (ax_m2 69 rfl rfl) (ax_m2 70 rfl rfl) (ax_m1 1 rfl rfl) lc_X9_thing rfl ⟨by decide +kernel, by decide +kernel, by decide +kernel⟩
theorem lkL_22 : ax_lkV mu_law.1.cls 22 mu_X10_thing RX10 0 := ax_lkV_of (ax_m5 65 rfl rfl) (ax_m5 66 rfl rfl) (ax_m5 67 rfl rfl) (ax_m1 10 rfl rfl) lc_X10_thing rfl ⟨by decide +kernel, by decide +kernel, by decide +kernel⟩
theorem lkL_23 : ax_lkV mu_law.1.cls 23 mu_X9_book RX9 2 := ax_lkV_of (ax_m2 72 rfl rfl) (ax_m2 73 rfl rfl) (ax_m2 74 rfl rfl) (ax_m1 1 rfl rfl) lc_X9_book rfl ⟨by decide +kernel, by decide +kernel, by decide +kernel⟩
theorem lkL_27 : ax_lkV mu_law.1.cls 27 mu_X10_book RX10 2 := ax_lkV_of (ax_m5 69 rfl rfl) (ax_m5 70 rfl rfl) (ax_m5 71 rfl rfl) (ax_m1 10 rfl rfl) lc_X10_book rfl ⟨by decide +kernel, by decide +kernel, by decide +kernel⟩
theorem lkL_28 : ax_lkV mu_law.1.cls 28 mu_X9_trust RX9 2 := ax_lkV_of (ax_m2 83 rfl rfl) (ax_m2 84 rfl rfl) (ax_m2 85 rfl rfl) (ax_m1 1 rfl rfl) lc_X9_trust rfl ⟨by decide +kernel, by decide +kernel, by decide +kernel⟩
theorem lkL_31 : ax_lkV mu_law.1.cls 31 mu_X10_trust RX10 2 := ax_lkV_of (ax_m5 73 rfl rfl) (ax_m5 74 rfl rfl) (ax_m5 75 rfl rfl) (ax_m1 10 rfl rfl) lc_X10_trust rfl ⟨by decide +kernel, by decide +kernel, by decide +kernel⟩
theorem lkL_32 : ax_lkV mu_law.1.cls 32 mu_X9_on RX9 4 := ax_lkV_of (ax_m2 91 rfl rfl) (ax_m2 92 rfl rfl) (ax_m2 93 rfl rfl) (ax_m1 1 rfl rfl) lc_X9_on rfl ⟨by decide +kernel, by decide +kernel, by decide +kernel⟩
theorem lkL_36 : ax_lkV mu_law.1.cls 36 mu_X10_on RX10 4 := ax_lkV_of (ax_m5 81 rfl rfl) (ax_m5 82 rfl rfl) (ax_m5 83 rfl rfl) (ax_m1 10 rfl rfl) lc_X10_on rfl ⟨by decide +kernel, by decide +kernel, by decide +kernel⟩
theorem lkL_37 : ax_lkV mu_law.1.cls 37 mu_X9_apart RX9 5 := ax_lkV_of (ax_m2 104 rfl rfl) (ax_m2 105 rfl rfl) (ax_m2 106 rfl rfl) (ax_m1 1 rfl rfl) lc_X9_apart rfl ⟨by decide +kernel, by decide +kernel, by decide +kernel⟩
theorem lkL_41 : ax_lkV mu_law.1.cls 41 mu_X10_apart RX10 5 := ax_lkV_of (ax_m5 99 rfl rfl) (ax_m5 100 rfl rfl) (ax_m5 101 rfl rfl) (ax_m1 10 rfl rfl) lc_X10_apart rfl ⟨by decide +kernel, by decide +kernel, by decide +kernel⟩
theorem lkL_42 : ax_lkV mu_law.1.cls 42 mu_X9_read RX9 1 := ax_lkV_of (ax_m2 113 rfl rfl) (ax_m2 114 rfl rfl) (ax_m2 115 rfl rfl) (ax_m1 1 rfl rfl) lc_X9_read rfl ⟨by decide +kernel, by decide +kernel, by decide +kernel⟩
theorem lkL_45 : ax_lkV mu_law.1.cls 45 mu_X10_read RX10 1 := ax_lkV_of (ax_m5 109 rfl rfl) (ax_m5 110 rfl rfl) (ax_m5 111 rfl rfl) (ax_m1 10 rfl rfl) lc_X10_read rfl ⟨by decide +kernel, by decide +kernel, by decide +kernel⟩
theorem lkL_46 : ax_lkV mu_law.1.cls 46 mu_X9_takeBack RX9 1 := ax_lkV_of (ax_m2 138 rfl rfl) (ax_m2 139 rfl rfl) (ax_m2 140 rfl rfl) (ax_m1 1 rfl rfl) lc_X9_takeBack rfl ⟨by decide +kernel, by decide +kernel, by decide +kernel⟩
theorem lkL_49 : ax_lkV mu_law.1.cls 49 mu_X10_takeBack RX10 1 := ax_lkV_of (ax_m5 120 rfl rfl) (ax_m5 121 rfl rfl) (ax_m5 122 rfl rfl) (ax_m1 10 rfl rfl) lc_X10_takeBack rfl ⟨by decide +kernel, by decide +kernel, by decide +kernel⟩
theorem lkL_50 : ax_lkV mu_law.1.cls 50 mu_X9_about RX9 2 := ax_lkV_of (ax_m2 146 rfl rfl) (ax_m2 147 rfl rfl) (ax_m2 148 rfl rfl) (ax_m1 1 rfl rfl) lc_X9_about rfl ⟨by decide +kernel, by decide +kernel, by decide +kernel⟩
theorem lkL_53 : ax_lkV mu_law.1.cls 53 mu_X10_about RX10 2 := ax_lkV_of (ax_m5 124 rfl rfl) (ax_m5 125 rfl rfl) (ax_m5 126 rfl rfl) (ax_m1 10 rfl rfl) lc_X10_about rfl ⟨by decide +kernel, by decide +kernel, by decide +kernel⟩
theorem lkL_54 : ax_lkV mu_law.1.cls 54 mu_X9_asOf RX9 1 := ax_lkV_of (ax_m2 162 rfl rfl) (ax_m2 163 rfl rfl) (ax_m2 164 rfl rfl) (ax_m1 1 rfl rfl) lc_X9_asOf rfl ⟨by decide +kernel, by decide +kernel, by decide +kernel⟩
theorem lkL_57 : ax_lkV mu_law.1.cls 57 mu_X10_asOf RX10 1 := ax_lkV_of (ax_m5 141 rfl rfl) (ax_m5 142 rfl rfl) (ax_m5 143 rfl rfl) (ax_m1 10 rfl rfl) lc_X10_asOf rfl ⟨by decide +kernel, by decide +kernel, by decide +kernel⟩
theorem lkL_60 : ax_lkV mu_law.1.cls 60 mu_X9_can RX9 1 := ax_lkV_of (ax_m2 166 rfl rfl) (ax_m2 167 rfl rfl) (ax_m2 168 rfl rfl) (ax_m1 1 rfl rfl) lc_X9_can rfl ⟨by decide +kernel, by decide +kernel, by decide +kernel⟩
theorem lkL_64 : ax_lkV mu_law.1.cls 64 mu_X10_can RX10 1 := ax_lkV_of (ax_m5 145 rfl rfl) (ax_m5 146 rfl rfl) (ax_m5 147 rfl rfl) (ax_m1 10 rfl rfl) lc_X10_can rfl ⟨by decide +kernel, by decide +kernel, by decide +kernel⟩
theorem lkL_65 : ax_lkV mu_law.1.cls 65 mu_X9_all RX9 0 := ax_lkV_of (ax_m2 212 rfl rfl) (ax_m2 213 rfl rfl) (ax_m2 214 rfl rfl) (ax_m1 1 rfl rfl) lc_X9_all rfl ⟨by decide +kernel, by decide +kernel, by decide +kernel⟩
theorem lkL_68 : ax_lkV mu_law.1.cls 68 mu_X10_all RX10 0 := ax_lkV_of (ax_m5 171 rfl rfl) (ax_m5 172 rfl rfl) (ax_m5 173 rfl rfl) (ax_m1 10 rfl rfl) lc_X10_all rfl ⟨by decide +kernel, by decide +kernel, by decide +kernel⟩
theorem lkL_69 : ax_lkV mu_law.1.cls 69 mu_X9_span RX9 2 := ax_lkV_of (ax_m2 216 rfl rfl) (ax_m2 217 rfl rfl) (ax_m2 218 rfl rfl) (ax_m1 1 rfl rfl) lc_X9_span rfl ⟨by decide +kernel, by decide +kernel, by decide +kernel⟩
theorem lkL_72 : ax_lkV mu_law.1.cls 72 mu_X10_span RX10 2 := ax_lkV_of (ax_m5 179 rfl rfl) (ax_m5 180 rfl rfl) (ax_m5 181 rfl rfl) (ax_m1 10 rfl rfl) lc_X10_span rfl ⟨by decide +kernel, by decide +kernel, by decide +kernel⟩
theorem lkL_73 : ax_lkV mu_law.1.cls 73 mu_X9_clock RX9 2 := ax_lkV_of (ax_m2 237 rfl rfl) (ax_m2 238 rfl rfl) (ax_m2 239 rfl rfl) (ax_m1 1 rfl rfl) lc_X9_clock rfl ⟨by decide +kernel, by decide +kernel, by decide +kernel⟩
theorem lkL_76 : ax_lkV mu_law.1.cls 76 mu_X10_clock RX10 2 := ax_lkV_of (ax_m5 188 rfl rfl) (ax_m5 189 rfl rfl) (ax_m5 190 rfl rfl) (ax_m1 10 rfl rfl) lc_X10_clock rfl ⟨by decide +kernel, by decide +kernel, by decide +kernel⟩
theorem lkL_77 : ax_lkV mu_law.1.cls 77 mu_X9_between RX9 3 := ax_lkV_of (ax_m3 5 rfl rfl) (ax_m3 6 rfl rfl) (ax_m3 7 rfl rfl) (ax_m1 1 rfl rfl) lc_X9_between rfl ⟨by decide +kernel, by decide +kernel, by decide +kernel⟩
theorem lkL_81 : ax_lkV mu_law.1.cls 81 mu_X10_between RX10 3 := ax_lkV_of (ax_m5 196 rfl rfl) (ax_m5 197 rfl rfl) (ax_m5 198 rfl rfl) (ax_m1 10 rfl rfl) lc_X10_between rfl ⟨by decide +kernel, by decide +kernel, by decide +kernel⟩
theorem lkL_82 : ax_lkV mu_law.1.cls 82 mu_X9_led RX9 2 := ax_lkV_of (ax_m3 19 rfl rfl) (ax_m3 20 rfl rfl) (ax_m3 21 rfl rfl) (ax_m1 1 rfl rfl) lc_X9_led rfl ⟨by decide +kernel, by decide +kernel, by decide +kernel⟩
theorem lkL_85 : ax_lkV mu_law.1.cls 85 mu_X10_led RX10 2 := ax_lkV_of (ax_m5 206 rfl rfl) (ax_m5 207 rfl rfl) (ax_m5 208 rfl rfl) (ax_m1 10 rfl rfl) lc_X10_led rfl ⟨by decide +kernel, by decide +kernel, by decide +kernel⟩
theorem lkL_86 : ax_lkV mu_law.1.cls 86 mu_X9_changed RX9 2 := ax_lkV_of (ax_m3 31 rfl rfl) (ax_m3 32 rfl rfl) (ax_m3 33 rfl rfl) (ax_m1 1 rfl rfl) lc_X9_changed rfl ⟨by decide +kernel, by decide +kernel, by decide +kernel⟩
theorem lkL_89 : ax_lkV mu_law.1.cls 89 mu_X10_changed RX10 2 := ax_lkV_of (ax_m5 214 rfl rfl) (ax_m5 215 rfl rfl) (ax_m5 216 rfl rfl) (ax_m1 10 rfl rfl) lc_X10_changed rfl ⟨by decide +kernel, by decide +kernel, by decide +kernel⟩
theorem lkL_90 : ax_lkV mu_law.1.cls 90 mu_X9_fits RX9 1 := ax_lkV_of (ax_m3 50 rfl rfl) (ax_m3 51 rfl rfl) (ax_m3 52 rfl rfl) (ax_m1 1 rfl rfl) lc_X9_fits rfl ⟨by decide +kernel, by decide +kernel, by decide +kernel⟩
theorem lkL_93 : ax_lkV mu_law.1.cls 93 mu_X10_fits RX10 1 := ax_lkV_of (ax_m5 222 rfl rfl) (ax_m5 223 rfl rfl) (ax_m5 224 rfl rfl) (ax_m1 10 rfl rfl) lc_X10_fits rfl ⟨by decide +kernel, by decide +kernel, by decide +kernel⟩
theorem lkL_94 : ax_lkV mu_law.1.cls 94 mu_X9_room RX9 2 := ax_lkV_of (ax_m3 79 rfl rfl) (ax_m3 80 rfl rfl) (ax_m3 81 rfl rfl) (ax_m1 1 rfl rfl) lc_X9_room rfl ⟨by decide +kernel, by decide +kernel, by decide +kernel⟩
theorem lkL_97 : ax_lkV mu_law.1.cls 97 mu_X10_room RX10 2 := ax_lkV_of (ax_m5 230 rfl rfl) (ax_m5 231 rfl rfl) (ax_m5 232 rfl rfl) (ax_m1 10 rfl rfl) lc_X10_room rfl ⟨by decide +kernel, by decide +kernel, by decide +kernel⟩
theorem lkL_98 : ax_lkV mu_law.1.cls 98 mu_X9_kin RX9 3 := ax_lkV_of (ax_m3 84 rfl rfl) (ax_m3 85 rfl rfl) (ax_m3 86 rfl rfl) (ax_m1 1 rfl rfl) lc_X9_kin rfl ⟨by decide +kernel, by decide +kernel, by decide +kernel⟩
theorem lkL_101 : ax_lkV mu_law.1.cls 101 mu_X10_kin RX10 3 := ax_lkV_of (ax_m5 234 rfl rfl) (ax_m5 235 rfl rfl) (ax_m5 236 rfl rfl) (ax_m1 10 rfl rfl) lc_X10_kin rfl ⟨by decide +kernel, by decide +kernel, by decide +kernel⟩
theorem lkL_102 : ax_lkV mu_law.1.cls 102 mu_X9_hangs RX9 1 := ax_lkV_of (ax_m3 103 rfl rfl) (ax_m3 104 rfl rfl) (ax_m3 105 rfl rfl) (ax_m1 1 rfl rfl) lc_X9_hangs rfl ⟨by decide +kernel, by decide +kernel, by decide +kernel⟩
theorem lkL_106 : ax_lkV mu_law.1.cls 106 mu_X10_hangs RX10 1 := ax_lkV_of (ax_m6 2 rfl rfl) (ax_m6 3 rfl rfl) (ax_m6 4 rfl rfl) (ax_m1 10 rfl rfl) lc_X10_hangs rfl ⟨by decide +kernel, by decide +kernel, by decide +kernel⟩
theorem lkL_107 : ax_lkV mu_law.1.cls 107 mu_X9_doubts RX9 0 := ax_lkV_of (ax_m3 111 rfl rfl) (ax_m3 112 rfl rfl) (ax_m3 113 rfl rfl) (ax_m1 1 rfl rfl) lc_X9_doubts rfl ⟨by decide +kernel, by decide +kernel, by decide +kernel⟩
theorem lkL_111 : ax_lkV mu_law.1.cls 111 mu_X10_doubts RX10 0 := ax_lkV_of (ax_m6 8 rfl rfl) (ax_m6 9 rfl rfl) (ax_m6 10 rfl rfl) (ax_m1 10 rfl rfl) lc_X10_doubts rfl ⟨by decide +kernel, by decide +kernel, by decide +kernel⟩
theorem lkL_112 : ax_lkV mu_law.1.cls 112 mu_X9_blamed RX9 1 := ax_lkV_of (ax_m3 162 rfl rfl) (ax_m3 163 rfl rfl) (ax_m3 164 rfl rfl) (ax_m1 1 rfl rfl) lc_X9_blamed rfl ⟨by decide +kernel, by decide +kernel, by decide +kernel⟩
theorem lkL_115 : ax_lkV mu_law.1.cls 115 mu_X10_blamed RX10 1 := ax_lkV_of (ax_m6 28 rfl rfl) (ax_m6 29 rfl rfl) (ax_m6 30 rfl rfl) (ax_m1 10 rfl rfl) lc_X10_blamed rfl ⟨by decide +kernel, by decide +kernel, by decide +kernel⟩
theorem lkL_116 : ax_lkV mu_law.1.cls 116 mu_X9_ahead RX9 2 := ax_lkV_of (ax_m3 166 rfl rfl) (ax_m3 167 rfl rfl) (ax_m3 168 rfl rfl) (ax_m1 1 rfl rfl) lc_X9_ahead rfl ⟨by decide +kernel, by decide +kernel, by decide +kernel⟩
theorem lkL_119 : ax_lkV mu_law.1.cls 119 mu_X10_ahead RX10 2 := ax_lkV_of (ax_m6 32 rfl rfl) (ax_m6 33 rfl rfl) (ax_m6 34 rfl rfl) (ax_m1 10 rfl rfl) lc_X10_ahead rfl ⟨by decide +kernel, by decide +kernel, by decide +kernel⟩
theorem lkL_120 : ax_lkV mu_law.1.cls 120 mu_X9_orders RX9 0 := ax_lkV_of (ax_m3 170 rfl rfl) (ax_m3 171 rfl rfl) (ax_m3 172 rfl rfl) (ax_m1 1 rfl rfl) lc_X9_orders rfl ⟨by decide +kernel, by decide +kernel, by decide +kernel⟩
theorem lkL_123 : ax_lkV mu_law.1.cls 123 mu_X10_orders RX10 0 := ax_lkV_of (ax_m6 40 rfl rfl) (ax_m6 41 rfl rfl) (ax_m6 42 rfl rfl) (ax_m1 10 rfl rfl) lc_X10_orders rfl ⟨by decide +kernel, by decide +kernel, by decide +kernel⟩
theorem lkL_124 : ax_lkV mu_law.1.cls 124 mu_X9_share RX9 3 := ax_lkV_of (ax_m3 195 rfl rfl) (ax_m3 196 rfl rfl) (ax_m3 197 rfl rfl) (ax_m1 1 rfl rfl) lc_X9_share rfl ⟨by decide +kernel, by decide +kernel, by decide +kernel⟩
theorem lkL_128 : ax_lkV mu_law.1.cls 128 mu_X10_share RX10 3 := ax_lkV_of (ax_m6 52 rfl rfl) (ax_m6 53 rfl rfl) (ax_m6 54 rfl rfl) (ax_m1 10 rfl rfl) lc_X10_share rfl ⟨by decide +kernel, by decide +kernel, by decide +kernel⟩
theorem lkL_129 : ax_lkV mu_law.1.cls 129 mu_X9_first RX9 1 := ax_lkV_of (ax_m3 202 rfl rfl) (ax_m3 203 rfl rfl) (ax_m3 204 rfl rfl) (ax_m1 1 rfl rfl) lc_X9_first rfl ⟨by decide +kernel, by decide +kernel, by decide +kernel⟩
theorem lkL_132 : ax_lkV mu_law.1.cls 132 mu_X10_first RX10 1 := ax_lkV_of (ax_m6 63 rfl rfl) (ax_m6 64 rfl rfl) (ax_m6 65 rfl rfl) (ax_m1 10 rfl rfl) lc_X10_first rfl ⟨by decide +kernel, by decide +kernel, by decide +kernel⟩
theorem lkL_133 : ax_lkV mu_law.1.cls 133 mu_X9_question RX9 0 := ax_lkV_of (ax_m3 206 rfl rfl) (ax_m3 207 rfl rfl) (ax_m3 208 rfl rfl) (ax_m1 1 rfl rfl) lc_X9_question rfl ⟨by decide +kernel, by decide +kernel, by decide +kernel⟩
theorem lkL_136 : ax_lkV mu_law.1.cls 136 mu_X10_question RX10 0 := ax_lkV_of (ax_m6 67 rfl rfl) (ax_m6 68 rfl rfl) (ax_m6 69 rfl rfl) (ax_m1 10 rfl rfl) lc_X10_question rfl ⟨by decide +kernel, by decide +kernel, by decide +kernel⟩
theorem lkL_137 : ax_lkV mu_law.1.cls 137 mu_X9_dayOf RX9 4 := ax_lkV_of (ax_m3 232 rfl rfl) (ax_m3 233 rfl rfl) (ax_m3 234 rfl rfl) (ax_m1 1 rfl rfl) lc_X9_dayOf rfl ⟨by decide +kernel, by decide +kernel, by decide +kernel⟩
theorem lkL_140 : ax_lkV mu_law.1.cls 140 mu_X10_dayOf RX10 4 := ax_lkV_of (ax_m6 71 rfl rfl) (ax_m6 72 rfl rfl) (ax_m6 73 rfl rfl) (ax_m1 10 rfl rfl) lc_X10_dayOf rfl ⟨by decide +kernel, by decide +kernel, by decide +kernel⟩
theorem lkL_141 : ax_lkV mu_law.1.cls 141 mu_X9_dateOf RX9 3 := ax_lkV_of (ax_m4 17 rfl rfl) (ax_m4 18 rfl rfl) (ax_m4 19 rfl rfl) (ax_m1 1 rfl rfl) lc_X9_dateOf rfl ⟨by decide +kernel, by decide +kernel, by decide +kernel⟩
theorem lkL_144 : ax_lkV mu_law.1.cls 144 mu_X10_dateOf RX10 3 := ax_lkV_of (ax_m6 87 rfl rfl) (ax_m6 88 rfl rfl) (ax_m6 89 rfl rfl) (ax_m1 10 rfl rfl) lc_X10_dateOf rfl ⟨by decide +kernel, by decide +kernel, by decide +kernel⟩
theorem lkL_145 : ax_lkV mu_law.1.cls 145 mu_X9_type RX9 1 := ax_lkV_of (ax_m4 31 rfl rfl) (ax_m4 32 rfl rfl) (ax_m4 33 rfl rfl) (ax_m1 1 rfl rfl) lc_X9_type rfl ⟨by decide +kernel, by decide +kernel, by decide +kernel⟩
theorem lkL_148 : ax_lkV mu_law.1.cls 148 mu_X10_type RX10 1 := ax_lkV_of (ax_m6 91 rfl rfl) (ax_m6 92 rfl rfl) (ax_m6 93 rfl rfl) (ax_m1 10 rfl rfl) lc_X10_type rfl ⟨by decide +kernel, by decide +kernel, by decide +kernel⟩
theorem lkL_149 : ax_lkV mu_law.1.cls 149 mu_X9_wipe RX9 0 := ax_lkV_of (ax_m4 39 rfl rfl) (ax_m4 40 rfl rfl) (ax_m4 41 rfl rfl) (ax_m1 1 rfl rfl) lc_X9_wipe rfl ⟨by decide +kernel, by decide +kernel, by decide +kernel⟩
theorem lkL_152 : ax_lkV mu_law.1.cls 152 mu_X10_wipe RX10 0 := ax_lkV_of (ax_m6 95 rfl rfl) (ax_m6 96 rfl rfl) (ax_m6 97 rfl rfl) (ax_m1 10 rfl rfl) lc_X10_wipe rfl ⟨by decide +kernel, by decide +kernel, by decide +kernel⟩
theorem lkL_153 : ax_lkV mu_law.1.cls 153 mu_X9_fault RX9 0 := ax_lkV_of (ax_m4 43 rfl rfl) (ax_m4 44 rfl rfl) (ax_m4 45 rfl rfl) (ax_m1 1 rfl rfl) lc_X9_fault rfl ⟨by decide +kernel, by decide +kernel, by decide +kernel⟩
theorem lkL_156 : ax_lkV mu_law.1.cls 156 mu_X10_fault RX10 0 := ax_lkV_of (ax_m6 99 rfl rfl) (ax_m6 100 rfl rfl) (ax_m6 101 rfl rfl) (ax_m1 10 rfl rfl) lc_X10_fault rfl ⟨by decide +kernel, by decide +kernel, by decide +kernel⟩
theorem lkL_157 : ax_lkV mu_law.1.cls 157 mu_X9_said RX9 2 := ax_lkV_of (ax_m4 81 rfl rfl) (ax_m4 82 rfl rfl) (ax_m4 83 rfl rfl) (ax_m1 1 rfl rfl) lc_X9_said rfl ⟨by decide +kernel, by decide +kernel, by decide +kernel⟩
theorem lkL_160 : ax_lkV mu_law.1.cls 160 mu_X10_said RX10 2 := ax_lkV_of (ax_m6 123 rfl rfl) (ax_m6 124 rfl rfl) (ax_m6 125 rfl rfl) (ax_m1 10 rfl rfl) lc_X10_said rfl ⟨by decide +kernel, by decide +kernel, by decide +kernel⟩
theorem lkL_161 : ax_lkV mu_law.1.cls 161 mu_X9_sheet RX9 3 := ax_lkV_of (ax_m4 85 rfl rfl) (ax_m4 86 rfl rfl) (ax_m4 87 rfl rfl) (ax_m1 1 rfl rfl) lc_X9_sheet rfl ⟨by decide +kernel, by decide +kernel, by decide +kernel⟩
theorem lkL_164 : ax_lkV mu_law.1.cls 164 mu_X10_sheet RX10 3 := ax_lkV_of (ax_m6 127 rfl rfl) (ax_m6 128 rfl rfl) (ax_m6 129 rfl rfl) (ax_m1 10 rfl rfl) lc_X10_sheet rfl ⟨by decide +kernel, by decide +kernel, by decide +kernel⟩
theorem lkL_165 : ax_lkV mu_law.1.cls 165 mu_X9_lose RX9 1 := ax_lkV_of (ax_m4 96 rfl rfl) (ax_m4 97 rfl rfl) (ax_m4 98 rfl rfl) (ax_m1 1 rfl rfl) lc_X9_lose rfl ⟨by decide +kernel, by decide +kernel, by decide +kernel⟩
theorem lkL_168 : ax_lkV mu_law.1.cls 168 mu_X10_lose RX10 1 := ax_lkV_of (ax_m6 131 rfl rfl) (ax_m6 132 rfl rfl) (ax_m6 133 rfl rfl) (ax_m1 10 rfl rfl) lc_X10_lose rfl ⟨by decide +kernel, by decide +kernel, by decide +kernel⟩
theorem lkL_169 : ax_lkV mu_law.1.cls 169 mu_X9_put RX9 4 := ax_lkV_of (ax_m4 100 rfl rfl) (ax_m4 101 rfl rfl) (ax_m4 102 rfl rfl) (ax_m1 1 rfl rfl) lc_X9_put rfl ⟨by decide +kernel, by decide +kernel, by decide +kernel⟩
theorem lkL_172 : ax_lkV mu_law.1.cls 172 mu_X10_put RX10 4 := ax_lkV_of (ax_m6 135 rfl rfl) (ax_m6 136 rfl rfl) (ax_m6 137 rfl rfl) (ax_m1 10 rfl rfl) lc_X10_put rfl ⟨by decide +kernel, by decide +kernel, by decide +kernel⟩
theorem lkL_173 : ax_lkV mu_law.1.cls 173 mu_X9_get RX9 3 := ax_lkV_of (ax_m4 116 rfl rfl) (ax_m4 117 rfl rfl) (ax_m4 118 rfl rfl) (ax_m1 1 rfl rfl) lc_X9_get rfl ⟨by decide +kernel, by decide +kernel, by decide +kernel⟩
theorem lkL_176 : ax_lkV mu_law.1.cls 176 mu_X10_get RX10 3 := ax_lkV_of (ax_m6 147 rfl rfl) (ax_m6 148 rfl rfl) (ax_m6 149 rfl rfl) (ax_m1 10 rfl rfl) lc_X10_get rfl ⟨by decide +kernel, by decide +kernel, by decide +kernel⟩
theorem lkL_177 : ax_lkV mu_law.1.cls 177 mu_X9_copy RX9 5 := ax_lkV_of (ax_m4 121 rfl rfl) (ax_m4 122 rfl rfl) (ax_m4 123 rfl rfl) (ax_m1 1 rfl rfl) lc_X9_copy rfl ⟨by decide +kernel, by decide +kernel, by decide +kernel⟩
theorem lkL_180 : ax_lkV mu_law.1.cls 180 mu_X10_copy RX10 5 := ax_lkV_of (ax_m6 152 rfl rfl) (ax_m6 153 rfl rfl) (ax_m6 154 rfl rfl) (ax_m1 10 rfl rfl) lc_X10_copy rfl ⟨by decide +kernel, by decide +kernel, by decide +kernel⟩
theorem lkL_181 : ax_lkV mu_law.1.cls 181 mu_X9_write RX9 1 := ax_lkV_of (ax_m4 134 rfl rfl) (ax_m4 135 rfl rfl) (ax_m4 136 rfl rfl) (ax_m1 1 rfl rfl) lc_X9_write rfl ⟨by decide +kernel, by decide +kernel, by decide +kernel⟩
theorem lkL_184 : ax_lkV mu_law.1.cls 184 mu_X10_write RX10 1 := ax_lkV_of (ax_m6 156 rfl rfl) (ax_m6 157 rfl rfl) (ax_m6 158 rfl rfl) (ax_m1 10 rfl rfl) lc_X10_write rfl ⟨by decide +kernel, by decide +kernel, by decide +kernel⟩
theorem lkL_185 : ax_lkV mu_law.1.cls 185 mu_X9_count RX9 1 := ax_lkV_of (ax_m4 138 rfl rfl) (ax_m4 139 rfl rfl) (ax_m4 140 rfl rfl) (ax_m1 1 rfl rfl) lc_X9_count rfl ⟨by decide +kernel, by decide +kernel, by decide +kernel⟩
theorem lkL_188 : ax_lkV mu_law.1.cls 188 mu_X10_count RX10 1 := ax_lkV_of (ax_m6 160 rfl rfl) (ax_m6 161 rfl rfl) (ax_m6 162 rfl rfl) (ax_m1 10 rfl rfl) lc_X10_count rfl ⟨by decide +kernel, by decide +kernel, by decide +kernel⟩
theorem lkL_189 : ax_lkV mu_law.1.cls 189 mu_X9_digest RX9 0 := ax_lkV_of (ax_m4 150 rfl rfl) (ax_m4 151 rfl rfl) (ax_m4 152 rfl rfl) (ax_m1 1 rfl rfl) lc_X9_digest rfl ⟨by decide +kernel, by decide +kernel, by decide +kernel⟩
theorem lkL_192 : ax_lkV mu_law.1.cls 192 mu_X10_digest RX10 0 := ax_lkV_of (ax_m6 164 rfl rfl) (ax_m6 165 rfl rfl) (ax_m6 166 rfl rfl) (ax_m1 10 rfl rfl) lc_X10_digest rfl ⟨by decide +kernel, by decide +kernel, by decide +kernel⟩
/-- what the law's cases stand on -/
def lw_C (V : cn_V) (adC adR : Nat → Nat) (b L : Nat) (xs : Nat → Int32) : Prop := cn_ok V mu_law 67 14394 ∧ ax_stat cx_C.2 V.2.2.1 (cn_G V adC) V.1.2.2.2.2.1 V.1.2.2.2.2.1.heap ∧ va_X b L xs V.1.2.2.2.2.1 V.1.2.2.2.2.1.heap ∧ b < V.1.2.2.2.2.1.heap.size ∧ ¬ V.2.2.1 b
def lw_in (L : Nat) (i : Int32) : Prop := vp_in i L ∧ vp_in (i + 1) L ∧ vp_in (i + 2) L ∧ vp_in (i + 3) L ∧ vp_in (i + 4) L ∧ vp_in (i + 5) L
def lw_lv (adC adR : Nat → Nat) (b : Nat) (i : Int32) : List (Option Value) := [some (.ref b), some (.ref (adC 0)), some (.ref (adR 0)), some (.int i)]
/-- pass: class and reference answer alike, and stand alike behind it -/
def lq_pass (I : ax_S → ax_S → Prop) : Prop := ∀ (x y : ax_S) (a1 : Int32), I x y → ∃ r x' y', f_X9_pass a1 x = some (r, x') ∧ f_X10_pass a1 y = some (r, y') ∧ I x' y'
theorem lw_case_0 {V : cn_V} {adC adR : Nat → Nat} {b L : Nat} {xs : Nat → Int32} (hC : lw_C V adC adR b L xs) {i : Int32} (hin : lw_in L i) {I : ax_S → ax_S → Prop} (hm : lq_pass I) {x y : ax_S} (hI : I x y) (kk : ∀ x' y', I x' y' → cn_At V 1528 [some (.ref b), some (.ref (adC 0)), some (.ref (adR 0)), some (.int i)] [] (cn_W V adC adR x' y') 67 14394) : cn_At V 216 [some (.ref b), some (.ref (adC 0)), some (.ref (adR 0)), some (.int i)] [] (cn_W V adC adR x y) 67 14394 := by
  obtain ⟨r, x', y', hc, hr, hi'⟩ := hm x y (xs (i + 1).toNatClampNeg) hI
  refine cn_aload_n hC.1 dL_law_216 rfl ?_
  refine cn_aload_n hC.1 dL_law_217 rfl ?_
  refine cn_iload_n hC.1 dL_law_218 rfl ?_
  refine cn_iconst hC.1 (1 : Int32) dL_law_219 (by decide) ?_
  refine cn_iadd hC.1 dL_law_220 ?_
  refine cn_sld hC.1 hC.2.2.1 hC.2.2.2.1 hC.2.2.2.2 hin.2.1 dL_law_221 ?_
  refine cn_cCi hC.1 hC.2.1 lkL_13 rfl dL_law_222 [.int (xs (i + 1).toNatClampNeg)] [] (fun ad => [.ref (ad 0), .int (xs (i + 1).toNatClampNeg)]) rfl rfl rfl rfl (Nat.le_refl _) (Nat.le_refl _) r x' (T_X9_pass (xs (i + 1).toNatClampNeg) x (r, x') hc) ?_
  refine cn_aload_n hC.1 dL_law_225 rfl ?_
  refine cn_aload_n hC.1 dL_law_226 rfl ?_
  refine cn_iload_n hC.1 dL_law_227 rfl ?_
  refine cn_iconst hC.1 (1 : Int32) dL_law_228 (by decide) ?_
  refine cn_iadd hC.1 dL_law_229 ?_
  refine cn_sld hC.1 hC.2.2.1 hC.2.2.2.1 hC.2.2.2.2 hin.2.1 dL_law_230 ?_
  refine cn_cRi hC.1 lkL_17 rfl dL_law_231 [.int (xs (i + 1).toNatClampNeg)] [.int r] (fun ad => [.ref (ad 0), .int (xs (i + 1).toNatClampNeg)]) rfl rfl rfl rfl (Nat.le_refl _) (Nat.le_refl _) r y' (T_X10_pass (xs (i + 1).toNatClampNeg) y (r, y') hr) ?_
  exact cn_icmp_eq hC.1 dL_law_234 (fun _ => kk x' y' hi') (fun q => absurd rfl q)
/-- thing: class and reference answer alike, and stand alike behind it -/
def lq_thing (I : ax_S → ax_S → Prop) : Prop := ∀ (x y : ax_S) , I x y → ∃ r x' y', f_X9_thing x = some (r, x') ∧ f_X10_thing y = some (r, y') ∧ I x' y'
theorem lw_case_1 {V : cn_V} {adC adR : Nat → Nat} {b L : Nat} {xs : Nat → Int32} (hC : lw_C V adC adR b L xs) {i : Int32} (hin : lw_in L i) {I : ax_S → ax_S → Prop} (hm : lq_thing I) {x y : ax_S} (hI : I x y) (kk : ∀ x' y', I x' y' → cn_At V 1528 [some (.ref b), some (.ref (adC 0)), some (.ref (adR 0)), some (.int i)] [] (cn_W V adC adR x' y') 67 14394) : cn_At V 239 [some (.ref b), some (.ref (adC 0)), some (.ref (adR 0)), some (.int i)] [] (cn_W V adC adR x y) 67 14394 := by
  obtain ⟨r, x', y', hc, hr, hi'⟩ := hm x y  hI
  refine cn_aload_n hC.1 dL_law_239 rfl ?_
  refine cn_cCi hC.1 hC.2.1 lkL_18 rfl dL_law_240 [] [] (fun ad => [.ref (ad 0)]) rfl rfl rfl rfl (Nat.le_refl _) (Nat.le_refl _) r x' (T_X9_thing  x (r, x') hc) ?_
  refine cn_aload_n hC.1 dL_law_243 rfl ?_
  refine cn_cRi hC.1 lkL_22 rfl dL_law_244 [] [.int r] (fun ad => [.ref (ad 0)]) rfl rfl rfl rfl (Nat.le_refl _) (Nat.le_refl _) r y' (T_X10_thing  y (r, y') hr) ?_
  exact cn_icmp_eq hC.1 dL_law_247 (fun _ => kk x' y' hi') (fun q => absurd rfl q)
/-- book: class and reference answer alike, and stand alike behind it -/
def lq_book (I : ax_S → ax_S → Prop) : Prop := ∀ (x y : ax_S) (a1 : Int32) (a2 : Int32), I x y → ∃ r x' y', f_X9_book a1 a2 x = some (r, x') ∧ f_X10_book a1 a2 y = some (r, y') ∧ I x' y'
theorem lw_case_2 {V : cn_V} {adC adR : Nat → Nat} {b L : Nat} {xs : Nat → Int32} (hC : lw_C V adC adR b L xs) {i : Int32} (hin : lw_in L i) {I : ax_S → ax_S → Prop} (hm : lq_book I) {x y : ax_S} (hI : I x y) (kk : ∀ x' y', I x' y' → cn_At V 1528 [some (.ref b), some (.ref (adC 0)), some (.ref (adR 0)), some (.int i)] [] (cn_W V adC adR x' y') 67 14394) : cn_At V 252 [some (.ref b), some (.ref (adC 0)), some (.ref (adR 0)), some (.int i)] [] (cn_W V adC adR x y) 67 14394 := by
  obtain ⟨r, x', y', hc, hr, hi'⟩ := hm x y (xs (i + 1).toNatClampNeg) (xs (i + 2).toNatClampNeg) hI
  refine cn_aload_n hC.1 dL_law_252 rfl ?_
  refine cn_aload_n hC.1 dL_law_253 rfl ?_
  refine cn_iload_n hC.1 dL_law_254 rfl ?_
  refine cn_iconst hC.1 (1 : Int32) dL_law_255 (by decide) ?_
  refine cn_iadd hC.1 dL_law_256 ?_
  refine cn_sld hC.1 hC.2.2.1 hC.2.2.2.1 hC.2.2.2.2 hin.2.1 dL_law_257 ?_
  refine cn_aload_n hC.1 dL_law_258 rfl ?_
  refine cn_iload_n hC.1 dL_law_259 rfl ?_
  refine cn_iconst hC.1 (2 : Int32) dL_law_260 (by decide) ?_
  refine cn_iadd hC.1 dL_law_261 ?_
  refine cn_sld hC.1 hC.2.2.1 hC.2.2.2.1 hC.2.2.2.2 hin.2.2.1 dL_law_262 ?_
  refine cn_cCi hC.1 hC.2.1 lkL_23 rfl dL_law_263 [.int (xs (i + 1).toNatClampNeg), .int (xs (i + 2).toNatClampNeg)] [] (fun ad => [.ref (ad 0), .int (xs (i + 1).toNatClampNeg), .int (xs (i + 2).toNatClampNeg)]) rfl rfl rfl rfl (Nat.le_refl _) (Nat.le_refl _) r x' (T_X9_book (xs (i + 1).toNatClampNeg) (xs (i + 2).toNatClampNeg) x (r, x') hc) ?_
  refine cn_aload_n hC.1 dL_law_266 rfl ?_
  refine cn_aload_n hC.1 dL_law_267 rfl ?_
  refine cn_iload_n hC.1 dL_law_268 rfl ?_
  refine cn_iconst hC.1 (1 : Int32) dL_law_269 (by decide) ?_
  refine cn_iadd hC.1 dL_law_270 ?_
  refine cn_sld hC.1 hC.2.2.1 hC.2.2.2.1 hC.2.2.2.2 hin.2.1 dL_law_271 ?_
  refine cn_aload_n hC.1 dL_law_272 rfl ?_
  refine cn_iload_n hC.1 dL_law_273 rfl ?_
  refine cn_iconst hC.1 (2 : Int32) dL_law_274 (by decide) ?_
  refine cn_iadd hC.1 dL_law_275 ?_
  refine cn_sld hC.1 hC.2.2.1 hC.2.2.2.1 hC.2.2.2.2 hin.2.2.1 dL_law_276 ?_
  refine cn_cRi hC.1 lkL_27 rfl dL_law_277 [.int (xs (i + 1).toNatClampNeg), .int (xs (i + 2).toNatClampNeg)] [.int r] (fun ad => [.ref (ad 0), .int (xs (i + 1).toNatClampNeg), .int (xs (i + 2).toNatClampNeg)]) rfl rfl rfl rfl (Nat.le_refl _) (Nat.le_refl _) r y' (T_X10_book (xs (i + 1).toNatClampNeg) (xs (i + 2).toNatClampNeg) y (r, y') hr) ?_
  exact cn_icmp_eq hC.1 dL_law_280 (fun _ => kk x' y' hi') (fun q => absurd rfl q)
/-- trust: class and reference answer alike, and stand alike behind it -/
def lq_trust (I : ax_S → ax_S → Prop) : Prop := ∀ (x y : ax_S) (a1 : Int32) (a2 : Int32), I x y → ∃ r x' y', f_X9_trust a1 a2 x = some (r, x') ∧ f_X10_trust a1 a2 y = some (r, y') ∧ I x' y'
theorem lw_case_3 {V : cn_V} {adC adR : Nat → Nat} {b L : Nat} {xs : Nat → Int32} (hC : lw_C V adC adR b L xs) {i : Int32} (hin : lw_in L i) {I : ax_S → ax_S → Prop} (hm : lq_trust I) {x y : ax_S} (hI : I x y) (kk : ∀ x' y', I x' y' → cn_At V 1528 [some (.ref b), some (.ref (adC 0)), some (.ref (adR 0)), some (.int i)] [] (cn_W V adC adR x' y') 67 14394) : cn_At V 285 [some (.ref b), some (.ref (adC 0)), some (.ref (adR 0)), some (.int i)] [] (cn_W V adC adR x y) 67 14394 := by
  obtain ⟨r, x', y', hc, hr, hi'⟩ := hm x y (xs (i + 1).toNatClampNeg) (xs (i + 2).toNatClampNeg) hI
  refine cn_aload_n hC.1 dL_law_285 rfl ?_
  refine cn_aload_n hC.1 dL_law_286 rfl ?_
  refine cn_iload_n hC.1 dL_law_287 rfl ?_
  refine cn_iconst hC.1 (1 : Int32) dL_law_288 (by decide) ?_
  refine cn_iadd hC.1 dL_law_289 ?_
  refine cn_sld hC.1 hC.2.2.1 hC.2.2.2.1 hC.2.2.2.2 hin.2.1 dL_law_290 ?_
  refine cn_aload_n hC.1 dL_law_291 rfl ?_
  refine cn_iload_n hC.1 dL_law_292 rfl ?_
  refine cn_iconst hC.1 (2 : Int32) dL_law_293 (by decide) ?_
  refine cn_iadd hC.1 dL_law_294 ?_
  refine cn_sld hC.1 hC.2.2.1 hC.2.2.2.1 hC.2.2.2.2 hin.2.2.1 dL_law_295 ?_
  refine cn_cCi hC.1 hC.2.1 lkL_28 rfl dL_law_296 [.int (xs (i + 1).toNatClampNeg), .int (xs (i + 2).toNatClampNeg)] [] (fun ad => [.ref (ad 0), .int (xs (i + 1).toNatClampNeg), .int (xs (i + 2).toNatClampNeg)]) rfl rfl rfl rfl (Nat.le_refl _) (Nat.le_refl _) r x' (T_X9_trust (xs (i + 1).toNatClampNeg) (xs (i + 2).toNatClampNeg) x (r, x') hc) ?_
  refine cn_aload_n hC.1 dL_law_299 rfl ?_
  refine cn_aload_n hC.1 dL_law_300 rfl ?_
  refine cn_iload_n hC.1 dL_law_301 rfl ?_
  refine cn_iconst hC.1 (1 : Int32) dL_law_302 (by decide) ?_
  refine cn_iadd hC.1 dL_law_303 ?_
  refine cn_sld hC.1 hC.2.2.1 hC.2.2.2.1 hC.2.2.2.2 hin.2.1 dL_law_304 ?_
  refine cn_aload_n hC.1 dL_law_305 rfl ?_
  refine cn_iload_n hC.1 dL_law_306 rfl ?_
  refine cn_iconst hC.1 (2 : Int32) dL_law_307 (by decide) ?_
  refine cn_iadd hC.1 dL_law_308 ?_
  refine cn_sld hC.1 hC.2.2.1 hC.2.2.2.1 hC.2.2.2.2 hin.2.2.1 dL_law_309 ?_
  refine cn_cRi hC.1 lkL_31 rfl dL_law_310 [.int (xs (i + 1).toNatClampNeg), .int (xs (i + 2).toNatClampNeg)] [.int r] (fun ad => [.ref (ad 0), .int (xs (i + 1).toNatClampNeg), .int (xs (i + 2).toNatClampNeg)]) rfl rfl rfl rfl (Nat.le_refl _) (Nat.le_refl _) r y' (T_X10_trust (xs (i + 1).toNatClampNeg) (xs (i + 2).toNatClampNeg) y (r, y') hr) ?_
  exact cn_icmp_eq hC.1 dL_law_313 (fun _ => kk x' y' hi') (fun q => absurd rfl q)
/-- on: class and reference answer alike, and stand alike behind it -/
def lq_on (I : ax_S → ax_S → Prop) : Prop := ∀ (x y : ax_S) (a1 : Int32) (a2 : Int32) (a3 : Int32) (a4 : Int32), I x y → ∃ r x' y', f_X9_on a1 a2 a3 a4 x = some (r, x') ∧ f_X10_on a1 a2 a3 a4 y = some (r, y') ∧ I x' y'
theorem lw_case_4 {V : cn_V} {adC adR : Nat → Nat} {b L : Nat} {xs : Nat → Int32} (hC : lw_C V adC adR b L xs) {i : Int32} (hin : lw_in L i) {I : ax_S → ax_S → Prop} (hm : lq_on I) {x y : ax_S} (hI : I x y) (kk : ∀ x' y', I x' y' → cn_At V 1528 [some (.ref b), some (.ref (adC 0)), some (.ref (adR 0)), some (.int i)] [] (cn_W V adC adR x' y') 67 14394) : cn_At V 318 [some (.ref b), some (.ref (adC 0)), some (.ref (adR 0)), some (.int i)] [] (cn_W V adC adR x y) 67 14394 := by
  obtain ⟨r, x', y', hc, hr, hi'⟩ := hm x y (xs (i + 1).toNatClampNeg) (xs (i + 2).toNatClampNeg) (xs (i + 3).toNatClampNeg) (xs (i + 4).toNatClampNeg) hI
  refine cn_aload_n hC.1 dL_law_318 rfl ?_
  refine cn_aload_n hC.1 dL_law_319 rfl ?_
  refine cn_iload_n hC.1 dL_law_320 rfl ?_
  refine cn_iconst hC.1 (1 : Int32) dL_law_321 (by decide) ?_
  refine cn_iadd hC.1 dL_law_322 ?_
  refine cn_sld hC.1 hC.2.2.1 hC.2.2.2.1 hC.2.2.2.2 hin.2.1 dL_law_323 ?_
  refine cn_aload_n hC.1 dL_law_324 rfl ?_
  refine cn_iload_n hC.1 dL_law_325 rfl ?_
  refine cn_iconst hC.1 (2 : Int32) dL_law_326 (by decide) ?_
  refine cn_iadd hC.1 dL_law_327 ?_
  refine cn_sld hC.1 hC.2.2.1 hC.2.2.2.1 hC.2.2.2.2 hin.2.2.1 dL_law_328 ?_
  refine cn_aload_n hC.1 dL_law_329 rfl ?_
  refine cn_iload_n hC.1 dL_law_330 rfl ?_
  refine cn_iconst hC.1 (3 : Int32) dL_law_331 (by decide) ?_
  refine cn_iadd hC.1 dL_law_332 ?_
  refine cn_sld hC.1 hC.2.2.1 hC.2.2.2.1 hC.2.2.2.2 hin.2.2.2.1 dL_law_333 ?_
  refine cn_aload_n hC.1 dL_law_334 rfl ?_
  refine cn_iload_n hC.1 dL_law_335 rfl ?_
  refine cn_iconst hC.1 (4 : Int32) dL_law_336 (by decide) ?_
  refine cn_iadd hC.1 dL_law_337 ?_
  refine cn_sld hC.1 hC.2.2.1 hC.2.2.2.1 hC.2.2.2.2 hin.2.2.2.2.1 dL_law_338 ?_
  refine cn_cCi hC.1 hC.2.1 lkL_32 rfl dL_law_339 [.int (xs (i + 1).toNatClampNeg), .int (xs (i + 2).toNatClampNeg), .int (xs (i + 3).toNatClampNeg), .int (xs (i + 4).toNatClampNeg)] [] (fun ad => [.ref (ad 0), .int (xs (i + 1).toNatClampNeg), .int (xs (i + 2).toNatClampNeg), .int (xs (i + 3).toNatClampNeg), .int (xs (i + 4).toNatClampNeg)]) rfl rfl rfl rfl (Nat.le_refl _) (Nat.le_refl _) r x' (T_X9_on (xs (i + 1).toNatClampNeg) (xs (i + 2).toNatClampNeg) (xs (i + 3).toNatClampNeg) (xs (i + 4).toNatClampNeg) x (r, x') hc) ?_
  refine cn_aload_n hC.1 dL_law_342 rfl ?_
  refine cn_aload_n hC.1 dL_law_343 rfl ?_
  refine cn_iload_n hC.1 dL_law_344 rfl ?_
  refine cn_iconst hC.1 (1 : Int32) dL_law_345 (by decide) ?_
  refine cn_iadd hC.1 dL_law_346 ?_
  refine cn_sld hC.1 hC.2.2.1 hC.2.2.2.1 hC.2.2.2.2 hin.2.1 dL_law_347 ?_
  refine cn_aload_n hC.1 dL_law_348 rfl ?_
  refine cn_iload_n hC.1 dL_law_349 rfl ?_
  refine cn_iconst hC.1 (2 : Int32) dL_law_350 (by decide) ?_
  refine cn_iadd hC.1 dL_law_351 ?_
  refine cn_sld hC.1 hC.2.2.1 hC.2.2.2.1 hC.2.2.2.2 hin.2.2.1 dL_law_352 ?_
  refine cn_aload_n hC.1 dL_law_353 rfl ?_
  refine cn_iload_n hC.1 dL_law_354 rfl ?_
  refine cn_iconst hC.1 (3 : Int32) dL_law_355 (by decide) ?_
  refine cn_iadd hC.1 dL_law_356 ?_
  refine cn_sld hC.1 hC.2.2.1 hC.2.2.2.1 hC.2.2.2.2 hin.2.2.2.1 dL_law_357 ?_
  refine cn_aload_n hC.1 dL_law_358 rfl ?_
  refine cn_iload_n hC.1 dL_law_359 rfl ?_
  refine cn_iconst hC.1 (4 : Int32) dL_law_360 (by decide) ?_
  refine cn_iadd hC.1 dL_law_361 ?_
  refine cn_sld hC.1 hC.2.2.1 hC.2.2.2.1 hC.2.2.2.2 hin.2.2.2.2.1 dL_law_362 ?_
  refine cn_cRi hC.1 lkL_36 rfl dL_law_363 [.int (xs (i + 1).toNatClampNeg), .int (xs (i + 2).toNatClampNeg), .int (xs (i + 3).toNatClampNeg), .int (xs (i + 4).toNatClampNeg)] [.int r] (fun ad => [.ref (ad 0), .int (xs (i + 1).toNatClampNeg), .int (xs (i + 2).toNatClampNeg), .int (xs (i + 3).toNatClampNeg), .int (xs (i + 4).toNatClampNeg)]) rfl rfl rfl rfl (Nat.le_refl _) (Nat.le_refl _) r y' (T_X10_on (xs (i + 1).toNatClampNeg) (xs (i + 2).toNatClampNeg) (xs (i + 3).toNatClampNeg) (xs (i + 4).toNatClampNeg) y (r, y') hr) ?_
  exact cn_icmp_eq hC.1 dL_law_366 (fun _ => kk x' y' hi') (fun q => absurd rfl q)
/-- apart: class and reference answer alike, and stand alike behind it -/
def lq_apart (I : ax_S → ax_S → Prop) : Prop := ∀ (x y : ax_S) (a1 : Int32) (a2 : Int32) (a3 : Int32) (a4 : Int32) (a5 : Int32), I x y → ∃ r x' y', f_X9_apart a1 a2 a3 a4 a5 x = some (r, x') ∧ f_X10_apart a1 a2 a3 a4 a5 y = some (r, y') ∧ I x' y'
theorem lw_case_5 {V : cn_V} {adC adR : Nat → Nat} {b L : Nat} {xs : Nat → Int32} (hC : lw_C V adC adR b L xs) {i : Int32} (hin : lw_in L i) {I : ax_S → ax_S → Prop} (hm : lq_apart I) {x y : ax_S} (hI : I x y) (kk : ∀ x' y', I x' y' → cn_At V 1528 [some (.ref b), some (.ref (adC 0)), some (.ref (adR 0)), some (.int i)] [] (cn_W V adC adR x' y') 67 14394) : cn_At V 371 [some (.ref b), some (.ref (adC 0)), some (.ref (adR 0)), some (.int i)] [] (cn_W V adC adR x y) 67 14394 := by
  obtain ⟨r, x', y', hc, hr, hi'⟩ := hm x y (xs (i + 1).toNatClampNeg) (xs (i + 2).toNatClampNeg) (xs (i + 3).toNatClampNeg) (xs (i + 4).toNatClampNeg) (xs (i + 5).toNatClampNeg) hI
  refine cn_aload_n hC.1 dL_law_371 rfl ?_
  refine cn_aload_n hC.1 dL_law_372 rfl ?_
  refine cn_iload_n hC.1 dL_law_373 rfl ?_
  refine cn_iconst hC.1 (1 : Int32) dL_law_374 (by decide) ?_
  refine cn_iadd hC.1 dL_law_375 ?_
  refine cn_sld hC.1 hC.2.2.1 hC.2.2.2.1 hC.2.2.2.2 hin.2.1 dL_law_376 ?_
  refine cn_aload_n hC.1 dL_law_377 rfl ?_
  refine cn_iload_n hC.1 dL_law_378 rfl ?_
  refine cn_iconst hC.1 (2 : Int32) dL_law_379 (by decide) ?_
  refine cn_iadd hC.1 dL_law_380 ?_
  refine cn_sld hC.1 hC.2.2.1 hC.2.2.2.1 hC.2.2.2.2 hin.2.2.1 dL_law_381 ?_
  refine cn_aload_n hC.1 dL_law_382 rfl ?_
  refine cn_iload_n hC.1 dL_law_383 rfl ?_
  refine cn_iconst hC.1 (3 : Int32) dL_law_384 (by decide) ?_
  refine cn_iadd hC.1 dL_law_385 ?_
  refine cn_sld hC.1 hC.2.2.1 hC.2.2.2.1 hC.2.2.2.2 hin.2.2.2.1 dL_law_386 ?_
  refine cn_aload_n hC.1 dL_law_387 rfl ?_
  refine cn_iload_n hC.1 dL_law_388 rfl ?_
  refine cn_iconst hC.1 (4 : Int32) dL_law_389 (by decide) ?_
  refine cn_iadd hC.1 dL_law_390 ?_
  refine cn_sld hC.1 hC.2.2.1 hC.2.2.2.1 hC.2.2.2.2 hin.2.2.2.2.1 dL_law_391 ?_
  refine cn_aload_n hC.1 dL_law_392 rfl ?_
  refine cn_iload_n hC.1 dL_law_393 rfl ?_
  refine cn_iconst hC.1 (5 : Int32) dL_law_394 (by decide) ?_
  refine cn_iadd hC.1 dL_law_395 ?_
  refine cn_sld hC.1 hC.2.2.1 hC.2.2.2.1 hC.2.2.2.2 hin.2.2.2.2.2 dL_law_396 ?_
  refine cn_cCi hC.1 hC.2.1 lkL_37 rfl dL_law_397 [.int (xs (i + 1).toNatClampNeg), .int (xs (i + 2).toNatClampNeg), .int (xs (i + 3).toNatClampNeg), .int (xs (i + 4).toNatClampNeg), .int (xs (i + 5).toNatClampNeg)] [] (fun ad => [.ref (ad 0), .int (xs (i + 1).toNatClampNeg), .int (xs (i + 2).toNatClampNeg), .int (xs (i + 3).toNatClampNeg), .int (xs (i + 4).toNatClampNeg), .int (xs (i + 5).toNatClampNeg)]) rfl rfl rfl rfl (Nat.le_refl _) (Nat.le_refl _) r x' (T_X9_apart (xs (i + 1).toNatClampNeg) (xs (i + 2).toNatClampNeg) (xs (i + 3).toNatClampNeg) (xs (i + 4).toNatClampNeg) (xs (i + 5).toNatClampNeg) x (r, x') hc) ?_
  refine cn_aload_n hC.1 dL_law_400 rfl ?_
  refine cn_aload_n hC.1 dL_law_401 rfl ?_
  refine cn_iload_n hC.1 dL_law_402 rfl ?_
  refine cn_iconst hC.1 (1 : Int32) dL_law_403 (by decide) ?_
  refine cn_iadd hC.1 dL_law_404 ?_
  refine cn_sld hC.1 hC.2.2.1 hC.2.2.2.1 hC.2.2.2.2 hin.2.1 dL_law_405 ?_
  refine cn_aload_n hC.1 dL_law_406 rfl ?_
  refine cn_iload_n hC.1 dL_law_407 rfl ?_
  refine cn_iconst hC.1 (2 : Int32) dL_law_408 (by decide) ?_
  refine cn_iadd hC.1 dL_law_409 ?_
  refine cn_sld hC.1 hC.2.2.1 hC.2.2.2.1 hC.2.2.2.2 hin.2.2.1 dL_law_410 ?_
  refine cn_aload_n hC.1 dL_law_411 rfl ?_
  refine cn_iload_n hC.1 dL_law_412 rfl ?_
  refine cn_iconst hC.1 (3 : Int32) dL_law_413 (by decide) ?_
  refine cn_iadd hC.1 dL_law_414 ?_
  refine cn_sld hC.1 hC.2.2.1 hC.2.2.2.1 hC.2.2.2.2 hin.2.2.2.1 dL_law_415 ?_
  refine cn_aload_n hC.1 dL_law_416 rfl ?_
  refine cn_iload_n hC.1 dL_law_417 rfl ?_
  refine cn_iconst hC.1 (4 : Int32) dL_law_418 (by decide) ?_
  refine cn_iadd hC.1 dL_law_419 ?_
  refine cn_sld hC.1 hC.2.2.1 hC.2.2.2.1 hC.2.2.2.2 hin.2.2.2.2.1 dL_law_420 ?_
  refine cn_aload_n hC.1 dL_law_421 rfl ?_
  refine cn_iload_n hC.1 dL_law_422 rfl ?_
  refine cn_iconst hC.1 (5 : Int32) dL_law_423 (by decide) ?_
  refine cn_iadd hC.1 dL_law_424 ?_
  refine cn_sld hC.1 hC.2.2.1 hC.2.2.2.1 hC.2.2.2.2 hin.2.2.2.2.2 dL_law_425 ?_
  refine cn_cRi hC.1 lkL_41 rfl dL_law_426 [.int (xs (i + 1).toNatClampNeg), .int (xs (i + 2).toNatClampNeg), .int (xs (i + 3).toNatClampNeg), .int (xs (i + 4).toNatClampNeg), .int (xs (i + 5).toNatClampNeg)] [.int r] (fun ad => [.ref (ad 0), .int (xs (i + 1).toNatClampNeg), .int (xs (i + 2).toNatClampNeg), .int (xs (i + 3).toNatClampNeg), .int (xs (i + 4).toNatClampNeg), .int (xs (i + 5).toNatClampNeg)]) rfl rfl rfl rfl (Nat.le_refl _) (Nat.le_refl _) r y' (T_X10_apart (xs (i + 1).toNatClampNeg) (xs (i + 2).toNatClampNeg) (xs (i + 3).toNatClampNeg) (xs (i + 4).toNatClampNeg) (xs (i + 5).toNatClampNeg) y (r, y') hr) ?_
  exact cn_icmp_eq hC.1 dL_law_429 (fun _ => kk x' y' hi') (fun q => absurd rfl q)
/-- read: class and reference answer alike, and stand alike behind it -/
def lq_read (I : ax_S → ax_S → Prop) : Prop := ∀ (x y : ax_S) (a1 : Int32), I x y → ∃ r x' y', f_X9_read a1 x = some (r, x') ∧ f_X10_read a1 y = some (r, y') ∧ I x' y'
theorem lw_case_6 {V : cn_V} {adC adR : Nat → Nat} {b L : Nat} {xs : Nat → Int32} (hC : lw_C V adC adR b L xs) {i : Int32} (hin : lw_in L i) {I : ax_S → ax_S → Prop} (hm : lq_read I) {x y : ax_S} (hI : I x y) (kk : ∀ x' y', I x' y' → cn_At V 1528 [some (.ref b), some (.ref (adC 0)), some (.ref (adR 0)), some (.int i)] [] (cn_W V adC adR x' y') 67 14394) : cn_At V 434 [some (.ref b), some (.ref (adC 0)), some (.ref (adR 0)), some (.int i)] [] (cn_W V adC adR x y) 67 14394 := by
  obtain ⟨r, x', y', hc, hr, hi'⟩ := hm x y (xs (i + 1).toNatClampNeg) hI
  refine cn_aload_n hC.1 dL_law_434 rfl ?_
  refine cn_aload_n hC.1 dL_law_435 rfl ?_
  refine cn_iload_n hC.1 dL_law_436 rfl ?_
  refine cn_iconst hC.1 (1 : Int32) dL_law_437 (by decide) ?_
  refine cn_iadd hC.1 dL_law_438 ?_
  refine cn_sld hC.1 hC.2.2.1 hC.2.2.2.1 hC.2.2.2.2 hin.2.1 dL_law_439 ?_
  refine cn_cCi hC.1 hC.2.1 lkL_42 rfl dL_law_440 [.int (xs (i + 1).toNatClampNeg)] [] (fun ad => [.ref (ad 0), .int (xs (i + 1).toNatClampNeg)]) rfl rfl rfl rfl (Nat.le_refl _) (Nat.le_refl _) r x' (T_X9_read (xs (i + 1).toNatClampNeg) x (r, x') hc) ?_
  refine cn_aload_n hC.1 dL_law_443 rfl ?_
  refine cn_aload_n hC.1 dL_law_444 rfl ?_
  refine cn_iload_n hC.1 dL_law_445 rfl ?_
  refine cn_iconst hC.1 (1 : Int32) dL_law_446 (by decide) ?_
  refine cn_iadd hC.1 dL_law_447 ?_
  refine cn_sld hC.1 hC.2.2.1 hC.2.2.2.1 hC.2.2.2.2 hin.2.1 dL_law_448 ?_
  refine cn_cRi hC.1 lkL_45 rfl dL_law_449 [.int (xs (i + 1).toNatClampNeg)] [.int r] (fun ad => [.ref (ad 0), .int (xs (i + 1).toNatClampNeg)]) rfl rfl rfl rfl (Nat.le_refl _) (Nat.le_refl _) r y' (T_X10_read (xs (i + 1).toNatClampNeg) y (r, y') hr) ?_
  exact cn_icmp_eq hC.1 dL_law_452 (fun _ => kk x' y' hi') (fun q => absurd rfl q)
/-- takeBack: class and reference answer alike, and stand alike behind it -/
def lq_takeBack (I : ax_S → ax_S → Prop) : Prop := ∀ (x y : ax_S) (a1 : Int32), I x y → ∃ r x' y', f_X9_takeBack a1 x = some (r, x') ∧ f_X10_takeBack a1 y = some (r, y') ∧ I x' y'
theorem lw_case_7 {V : cn_V} {adC adR : Nat → Nat} {b L : Nat} {xs : Nat → Int32} (hC : lw_C V adC adR b L xs) {i : Int32} (hin : lw_in L i) {I : ax_S → ax_S → Prop} (hm : lq_takeBack I) {x y : ax_S} (hI : I x y) (kk : ∀ x' y', I x' y' → cn_At V 1528 [some (.ref b), some (.ref (adC 0)), some (.ref (adR 0)), some (.int i)] [] (cn_W V adC adR x' y') 67 14394) : cn_At V 457 [some (.ref b), some (.ref (adC 0)), some (.ref (adR 0)), some (.int i)] [] (cn_W V adC adR x y) 67 14394 := by
  obtain ⟨r, x', y', hc, hr, hi'⟩ := hm x y (xs (i + 1).toNatClampNeg) hI
  refine cn_aload_n hC.1 dL_law_457 rfl ?_
  refine cn_aload_n hC.1 dL_law_458 rfl ?_
  refine cn_iload_n hC.1 dL_law_459 rfl ?_
  refine cn_iconst hC.1 (1 : Int32) dL_law_460 (by decide) ?_
  refine cn_iadd hC.1 dL_law_461 ?_
  refine cn_sld hC.1 hC.2.2.1 hC.2.2.2.1 hC.2.2.2.2 hin.2.1 dL_law_462 ?_
  refine cn_cCi hC.1 hC.2.1 lkL_46 rfl dL_law_463 [.int (xs (i + 1).toNatClampNeg)] [] (fun ad => [.ref (ad 0), .int (xs (i + 1).toNatClampNeg)]) rfl rfl rfl rfl (Nat.le_refl _) (Nat.le_refl _) r x' (T_X9_takeBack (xs (i + 1).toNatClampNeg) x (r, x') hc) ?_
  refine cn_aload_n hC.1 dL_law_466 rfl ?_
  refine cn_aload_n hC.1 dL_law_467 rfl ?_
  refine cn_iload_n hC.1 dL_law_468 rfl ?_
  refine cn_iconst hC.1 (1 : Int32) dL_law_469 (by decide) ?_
  refine cn_iadd hC.1 dL_law_470 ?_
  refine cn_sld hC.1 hC.2.2.1 hC.2.2.2.1 hC.2.2.2.2 hin.2.1 dL_law_471 ?_
  refine cn_cRi hC.1 lkL_49 rfl dL_law_472 [.int (xs (i + 1).toNatClampNeg)] [.int r] (fun ad => [.ref (ad 0), .int (xs (i + 1).toNatClampNeg)]) rfl rfl rfl rfl (Nat.le_refl _) (Nat.le_refl _) r y' (T_X10_takeBack (xs (i + 1).toNatClampNeg) y (r, y') hr) ?_
  exact cn_icmp_eq hC.1 dL_law_475 (fun _ => kk x' y' hi') (fun q => absurd rfl q)
/-- about: class and reference answer alike, and stand alike behind it -/
def lq_about (I : ax_S → ax_S → Prop) : Prop := ∀ (x y : ax_S) (a1 : Int32) (a2 : Int32), I x y → ∃ r, f_X9_about a1 a2 x = some r ∧ f_X10_about a1 a2 y = some r ∧ I x y
theorem lw_case_8 {V : cn_V} {adC adR : Nat → Nat} {b L : Nat} {xs : Nat → Int32} (hC : lw_C V adC adR b L xs) {i : Int32} (hin : lw_in L i) {I : ax_S → ax_S → Prop} (hm : lq_about I) {x y : ax_S} (hI : I x y) (kk : ∀ x' y', I x' y' → cn_At V 1528 [some (.ref b), some (.ref (adC 0)), some (.ref (adR 0)), some (.int i)] [] (cn_W V adC adR x' y') 67 14394) : cn_At V 480 [some (.ref b), some (.ref (adC 0)), some (.ref (adR 0)), some (.int i)] [] (cn_W V adC adR x y) 67 14394 := by
  obtain ⟨r, hc, hr, hi'⟩ := hm x y (xs (i + 1).toNatClampNeg) (xs (i + 2).toNatClampNeg) hI
  refine cn_aload_n hC.1 dL_law_480 rfl ?_
  refine cn_aload_n hC.1 dL_law_481 rfl ?_
  refine cn_iload_n hC.1 dL_law_482 rfl ?_
  refine cn_iconst hC.1 (1 : Int32) dL_law_483 (by decide) ?_
  refine cn_iadd hC.1 dL_law_484 ?_
  refine cn_sld hC.1 hC.2.2.1 hC.2.2.2.1 hC.2.2.2.2 hin.2.1 dL_law_485 ?_
  refine cn_aload_n hC.1 dL_law_486 rfl ?_
  refine cn_iload_n hC.1 dL_law_487 rfl ?_
  refine cn_iconst hC.1 (2 : Int32) dL_law_488 (by decide) ?_
  refine cn_iadd hC.1 dL_law_489 ?_
  refine cn_sld hC.1 hC.2.2.1 hC.2.2.2.1 hC.2.2.2.2 hin.2.2.1 dL_law_490 ?_
  refine cn_cCi hC.1 hC.2.1 lkL_50 rfl dL_law_491 [.int (xs (i + 1).toNatClampNeg), .int (xs (i + 2).toNatClampNeg)] [] (fun ad => [.ref (ad 0), .int (xs (i + 1).toNatClampNeg), .int (xs (i + 2).toNatClampNeg)]) rfl rfl rfl rfl (Nat.le_refl _) (Nat.le_refl _) r x (T_X9_about (xs (i + 1).toNatClampNeg) (xs (i + 2).toNatClampNeg) x r hc) ?_
  refine cn_aload_n hC.1 dL_law_494 rfl ?_
  refine cn_aload_n hC.1 dL_law_495 rfl ?_
  refine cn_iload_n hC.1 dL_law_496 rfl ?_
  refine cn_iconst hC.1 (1 : Int32) dL_law_497 (by decide) ?_
  refine cn_iadd hC.1 dL_law_498 ?_
  refine cn_sld hC.1 hC.2.2.1 hC.2.2.2.1 hC.2.2.2.2 hin.2.1 dL_law_499 ?_
  refine cn_aload_n hC.1 dL_law_500 rfl ?_
  refine cn_iload_n hC.1 dL_law_501 rfl ?_
  refine cn_iconst hC.1 (2 : Int32) dL_law_502 (by decide) ?_
  refine cn_iadd hC.1 dL_law_503 ?_
  refine cn_sld hC.1 hC.2.2.1 hC.2.2.2.1 hC.2.2.2.2 hin.2.2.1 dL_law_504 ?_
  refine cn_cRi hC.1 lkL_53 rfl dL_law_505 [.int (xs (i + 1).toNatClampNeg), .int (xs (i + 2).toNatClampNeg)] [.int r] (fun ad => [.ref (ad 0), .int (xs (i + 1).toNatClampNeg), .int (xs (i + 2).toNatClampNeg)]) rfl rfl rfl rfl (Nat.le_refl _) (Nat.le_refl _) r y (T_X10_about (xs (i + 1).toNatClampNeg) (xs (i + 2).toNatClampNeg) y r hr) ?_
  exact cn_icmp_eq hC.1 dL_law_508 (fun _ => kk x y hi') (fun q => absurd rfl q)
/-- asOf: class and reference answer alike, and stand alike behind it -/
def lq_asOf (I : ax_S → ax_S → Prop) : Prop := ∀ (x y : ax_S) (a1 : Int32), I x y → ∃ r x' y', f_X9_asOf a1 x = some (r, x') ∧ f_X10_asOf a1 y = some (r, y') ∧ I x' y'
theorem lw_case_9 {V : cn_V} {adC adR : Nat → Nat} {b L : Nat} {xs : Nat → Int32} (hC : lw_C V adC adR b L xs) {i : Int32} (hin : lw_in L i) {I : ax_S → ax_S → Prop} (hm : lq_asOf I) {x y : ax_S} (hI : I x y) (kk : ∀ x' y', I x' y' → cn_At V 1528 [some (.ref b), some (.ref (adC 0)), some (.ref (adR 0)), some (.int i)] [] (cn_W V adC adR x' y') 67 14394) : cn_At V 513 [some (.ref b), some (.ref (adC 0)), some (.ref (adR 0)), some (.int i)] [] (cn_W V adC adR x y) 67 14394 := by
  obtain ⟨r, x', y', hc, hr, hi'⟩ := hm x y (xs (i + 1).toNatClampNeg) hI
  refine cn_aload_n hC.1 dL_law_513 rfl ?_
  refine cn_aload_n hC.1 dL_law_514 rfl ?_
  refine cn_iload_n hC.1 dL_law_515 rfl ?_
  refine cn_iconst hC.1 (1 : Int32) dL_law_516 (by decide) ?_
  refine cn_iadd hC.1 dL_law_517 ?_
  refine cn_sld hC.1 hC.2.2.1 hC.2.2.2.1 hC.2.2.2.2 hin.2.1 dL_law_518 ?_
  refine cn_cCi hC.1 hC.2.1 lkL_54 rfl dL_law_519 [.int (xs (i + 1).toNatClampNeg)] [] (fun ad => [.ref (ad 0), .int (xs (i + 1).toNatClampNeg)]) rfl rfl rfl rfl (Nat.le_refl _) (Nat.le_refl _) r x' (T_X9_asOf (xs (i + 1).toNatClampNeg) x (r, x') hc) ?_
  refine cn_aload_n hC.1 dL_law_522 rfl ?_
  refine cn_aload_n hC.1 dL_law_523 rfl ?_
  refine cn_iload_n hC.1 dL_law_524 rfl ?_
  refine cn_iconst hC.1 (1 : Int32) dL_law_525 (by decide) ?_
  refine cn_iadd hC.1 dL_law_526 ?_
  refine cn_sld hC.1 hC.2.2.1 hC.2.2.2.1 hC.2.2.2.2 hin.2.1 dL_law_527 ?_
  refine cn_cRi hC.1 lkL_57 rfl dL_law_528 [.int (xs (i + 1).toNatClampNeg)] [.int r] (fun ad => [.ref (ad 0), .int (xs (i + 1).toNatClampNeg)]) rfl rfl rfl rfl (Nat.le_refl _) (Nat.le_refl _) r y' (T_X10_asOf (xs (i + 1).toNatClampNeg) y (r, y') hr) ?_
  exact cn_icmp_eq hC.1 dL_law_531 (fun _ => kk x' y' hi') (fun q => absurd rfl q)
/-- can: class and reference answer alike, and stand alike behind it -/
def lq_can (I : ax_S → ax_S → Prop) : Prop := ∀ (x y : ax_S) (a1 : Int64), I x y → ∃ r x' y', f_X9_can a1 x = some (r, x') ∧ f_X10_can a1 y = some (r, y') ∧ I x' y'
theorem lw_case_10 {V : cn_V} {adC adR : Nat → Nat} {b L : Nat} {xs : Nat → Int32} (hC : lw_C V adC adR b L xs) {i : Int32} (hin : lw_in L i) {I : ax_S → ax_S → Prop} (hm : lq_can I) {x y : ax_S} (hI : I x y) (kk : ∀ x' y', I x' y' → cn_At V 1528 [some (.ref b), some (.ref (adC 0)), some (.ref (adR 0)), some (.int i)] [] (cn_W V adC adR x' y') 67 14394) : cn_At V 536 [some (.ref b), some (.ref (adC 0)), some (.ref (adR 0)), some (.int i)] [] (cn_W V adC adR x y) 67 14394 := by
  obtain ⟨r, x', y', hc, hr, hi'⟩ := hm x y ((ax_lshl (xs (i + 1).toNatClampNeg).toInt64 (32 : Int32)) ||| ((xs (i + 2).toNatClampNeg).toInt64 &&& (4294967295 : Int64))) hI
  refine cn_aload_n hC.1 dL_law_536 rfl ?_
  refine cn_aload_n hC.1 dL_law_537 rfl ?_
  refine cn_iload_n hC.1 dL_law_538 rfl ?_
  refine cn_iconst hC.1 (1 : Int32) dL_law_539 (by decide) ?_
  refine cn_iadd hC.1 dL_law_540 ?_
  refine cn_sld hC.1 hC.2.2.1 hC.2.2.2.1 hC.2.2.2.2 hin.2.1 dL_law_541 ?_
  refine cn_i2l hC.1 dL_law_542 ?_
  refine cn_bipush hC.1 (32 : Int32) dL_law_543 (by decide) ?_
  refine cn_lshl_ hC.1 dL_law_545 ?_
  refine cn_aload_n hC.1 dL_law_546 rfl ?_
  refine cn_iload_n hC.1 dL_law_547 rfl ?_
  refine cn_iconst hC.1 (2 : Int32) dL_law_548 (by decide) ?_
  refine cn_iadd hC.1 dL_law_549 ?_
  refine cn_sld hC.1 hC.2.2.1 hC.2.2.2.1 hC.2.2.2.2 hin.2.2.1 dL_law_550 ?_
  refine cn_i2l hC.1 dL_law_551 ?_
  refine cn_ldc2 (v := 4294967295) hC.1 (ax_m6 171 rfl rfl) dL_law_552 ?_
  refine cn_land hC.1 dL_law_555 ?_
  refine cn_lor hC.1 dL_law_556 ?_
  refine cn_cCi hC.1 hC.2.1 lkL_60 rfl dL_law_557 [.long ((ax_lshl (xs (i + 1).toNatClampNeg).toInt64 (32 : Int32)) ||| ((xs (i + 2).toNatClampNeg).toInt64 &&& (4294967295 : Int64)))] [] (fun ad => [.ref (ad 0), .long ((ax_lshl (xs (i + 1).toNatClampNeg).toInt64 (32 : Int32)) ||| ((xs (i + 2).toNatClampNeg).toInt64 &&& (4294967295 : Int64)))]) rfl rfl rfl rfl (Nat.le_refl _) (Nat.le_refl _) r x' (T_X9_can ((ax_lshl (xs (i + 1).toNatClampNeg).toInt64 (32 : Int32)) ||| ((xs (i + 2).toNatClampNeg).toInt64 &&& (4294967295 : Int64))) x (r, x') hc) ?_
  refine cn_aload_n hC.1 dL_law_560 rfl ?_
  refine cn_aload_n hC.1 dL_law_561 rfl ?_
  refine cn_iload_n hC.1 dL_law_562 rfl ?_
  refine cn_iconst hC.1 (1 : Int32) dL_law_563 (by decide) ?_
  refine cn_iadd hC.1 dL_law_564 ?_
  refine cn_sld hC.1 hC.2.2.1 hC.2.2.2.1 hC.2.2.2.2 hin.2.1 dL_law_565 ?_
  refine cn_i2l hC.1 dL_law_566 ?_
  refine cn_bipush hC.1 (32 : Int32) dL_law_567 (by decide) ?_
  refine cn_lshl_ hC.1 dL_law_569 ?_
  refine cn_aload_n hC.1 dL_law_570 rfl ?_
  refine cn_iload_n hC.1 dL_law_571 rfl ?_
  refine cn_iconst hC.1 (2 : Int32) dL_law_572 (by decide) ?_
  refine cn_iadd hC.1 dL_law_573 ?_
  refine cn_sld hC.1 hC.2.2.1 hC.2.2.2.1 hC.2.2.2.2 hin.2.2.1 dL_law_574 ?_
  refine cn_i2l hC.1 dL_law_575 ?_
  refine cn_ldc2 (v := 4294967295) hC.1 (ax_m6 171 rfl rfl) dL_law_576 ?_
  refine cn_land hC.1 dL_law_579 ?_
  refine cn_lor hC.1 dL_law_580 ?_
  refine cn_cRi hC.1 lkL_64 rfl dL_law_581 [.long ((ax_lshl (xs (i + 1).toNatClampNeg).toInt64 (32 : Int32)) ||| ((xs (i + 2).toNatClampNeg).toInt64 &&& (4294967295 : Int64)))] [.int r] (fun ad => [.ref (ad 0), .long ((ax_lshl (xs (i + 1).toNatClampNeg).toInt64 (32 : Int32)) ||| ((xs (i + 2).toNatClampNeg).toInt64 &&& (4294967295 : Int64)))]) rfl rfl rfl rfl (Nat.le_refl _) (Nat.le_refl _) r y' (T_X10_can ((ax_lshl (xs (i + 1).toNatClampNeg).toInt64 (32 : Int32)) ||| ((xs (i + 2).toNatClampNeg).toInt64 &&& (4294967295 : Int64))) y (r, y') hr) ?_
  exact cn_icmp_eq hC.1 dL_law_584 (fun _ => kk x' y' hi') (fun q => absurd rfl q)
/-- all: class and reference answer alike, and stand alike behind it -/
def lq_all (I : ax_S → ax_S → Prop) : Prop := ∀ (x y : ax_S) , I x y → ∃ r x' y', f_X9_all x = some (r, x') ∧ f_X10_all y = some (r, y') ∧ I x' y'
theorem lw_case_11 {V : cn_V} {adC adR : Nat → Nat} {b L : Nat} {xs : Nat → Int32} (hC : lw_C V adC adR b L xs) {i : Int32} (hin : lw_in L i) {I : ax_S → ax_S → Prop} (hm : lq_all I) {x y : ax_S} (hI : I x y) (kk : ∀ x' y', I x' y' → cn_At V 1528 [some (.ref b), some (.ref (adC 0)), some (.ref (adR 0)), some (.int i)] [] (cn_W V adC adR x' y') 67 14394) : cn_At V 589 [some (.ref b), some (.ref (adC 0)), some (.ref (adR 0)), some (.int i)] [] (cn_W V adC adR x y) 67 14394 := by
  obtain ⟨r, x', y', hc, hr, hi'⟩ := hm x y  hI
  refine cn_aload_n hC.1 dL_law_589 rfl ?_
  refine cn_cCi hC.1 hC.2.1 lkL_65 rfl dL_law_590 [] [] (fun ad => [.ref (ad 0)]) rfl rfl rfl rfl (Nat.le_refl _) (Nat.le_refl _) r x' (T_X9_all  x (r, x') hc) ?_
  refine cn_aload_n hC.1 dL_law_593 rfl ?_
  refine cn_cRi hC.1 lkL_68 rfl dL_law_594 [] [.int r] (fun ad => [.ref (ad 0)]) rfl rfl rfl rfl (Nat.le_refl _) (Nat.le_refl _) r y' (T_X10_all  y (r, y') hr) ?_
  exact cn_icmp_eq hC.1 dL_law_597 (fun _ => kk x' y' hi') (fun q => absurd rfl q)
/-- span: class and reference answer alike, and stand alike behind it -/
def lq_span (I : ax_S → ax_S → Prop) : Prop := ∀ (x y : ax_S) (a1 : Int32) (a2 : Int32), I x y → ∃ r x' y', f_X9_span a1 a2 x = some (r, x') ∧ f_X10_span a1 a2 y = some (r, y') ∧ I x' y'
theorem lw_case_12 {V : cn_V} {adC adR : Nat → Nat} {b L : Nat} {xs : Nat → Int32} (hC : lw_C V adC adR b L xs) {i : Int32} (hin : lw_in L i) {I : ax_S → ax_S → Prop} (hm : lq_span I) {x y : ax_S} (hI : I x y) (kk : ∀ x' y', I x' y' → cn_At V 1528 [some (.ref b), some (.ref (adC 0)), some (.ref (adR 0)), some (.int i)] [] (cn_W V adC adR x' y') 67 14394) : cn_At V 602 [some (.ref b), some (.ref (adC 0)), some (.ref (adR 0)), some (.int i)] [] (cn_W V adC adR x y) 67 14394 := by
  obtain ⟨r, x', y', hc, hr, hi'⟩ := hm x y (xs (i + 1).toNatClampNeg) (xs (i + 2).toNatClampNeg) hI
  refine cn_aload_n hC.1 dL_law_602 rfl ?_
  refine cn_aload_n hC.1 dL_law_603 rfl ?_
  refine cn_iload_n hC.1 dL_law_604 rfl ?_
  refine cn_iconst hC.1 (1 : Int32) dL_law_605 (by decide) ?_
  refine cn_iadd hC.1 dL_law_606 ?_
  refine cn_sld hC.1 hC.2.2.1 hC.2.2.2.1 hC.2.2.2.2 hin.2.1 dL_law_607 ?_
  refine cn_aload_n hC.1 dL_law_608 rfl ?_
  refine cn_iload_n hC.1 dL_law_609 rfl ?_
  refine cn_iconst hC.1 (2 : Int32) dL_law_610 (by decide) ?_
  refine cn_iadd hC.1 dL_law_611 ?_
  refine cn_sld hC.1 hC.2.2.1 hC.2.2.2.1 hC.2.2.2.2 hin.2.2.1 dL_law_612 ?_
  refine cn_cCi hC.1 hC.2.1 lkL_69 rfl dL_law_613 [.int (xs (i + 1).toNatClampNeg), .int (xs (i + 2).toNatClampNeg)] [] (fun ad => [.ref (ad 0), .int (xs (i + 1).toNatClampNeg), .int (xs (i + 2).toNatClampNeg)]) rfl rfl rfl rfl (Nat.le_refl _) (Nat.le_refl _) r x' (T_X9_span (xs (i + 1).toNatClampNeg) (xs (i + 2).toNatClampNeg) x (r, x') hc) ?_
  refine cn_aload_n hC.1 dL_law_616 rfl ?_
  refine cn_aload_n hC.1 dL_law_617 rfl ?_
  refine cn_iload_n hC.1 dL_law_618 rfl ?_
  refine cn_iconst hC.1 (1 : Int32) dL_law_619 (by decide) ?_
  refine cn_iadd hC.1 dL_law_620 ?_
  refine cn_sld hC.1 hC.2.2.1 hC.2.2.2.1 hC.2.2.2.2 hin.2.1 dL_law_621 ?_
  refine cn_aload_n hC.1 dL_law_622 rfl ?_
  refine cn_iload_n hC.1 dL_law_623 rfl ?_
  refine cn_iconst hC.1 (2 : Int32) dL_law_624 (by decide) ?_
  refine cn_iadd hC.1 dL_law_625 ?_
  refine cn_sld hC.1 hC.2.2.1 hC.2.2.2.1 hC.2.2.2.2 hin.2.2.1 dL_law_626 ?_
  refine cn_cRi hC.1 lkL_72 rfl dL_law_627 [.int (xs (i + 1).toNatClampNeg), .int (xs (i + 2).toNatClampNeg)] [.int r] (fun ad => [.ref (ad 0), .int (xs (i + 1).toNatClampNeg), .int (xs (i + 2).toNatClampNeg)]) rfl rfl rfl rfl (Nat.le_refl _) (Nat.le_refl _) r y' (T_X10_span (xs (i + 1).toNatClampNeg) (xs (i + 2).toNatClampNeg) y (r, y') hr) ?_
  exact cn_icmp_eq hC.1 dL_law_630 (fun _ => kk x' y' hi') (fun q => absurd rfl q)
/-- clock: class and reference answer alike, and stand alike behind it -/
def lq_clock (I : ax_S → ax_S → Prop) : Prop := ∀ (x y : ax_S) (a1 : Int32) (a2 : Int32), I x y → ∃ r x' y', f_X9_clock a1 a2 x = some (r, x') ∧ f_X10_clock a1 a2 y = some (r, y') ∧ I x' y'
theorem lw_case_13 {V : cn_V} {adC adR : Nat → Nat} {b L : Nat} {xs : Nat → Int32} (hC : lw_C V adC adR b L xs) {i : Int32} (hin : lw_in L i) {I : ax_S → ax_S → Prop} (hm : lq_clock I) {x y : ax_S} (hI : I x y) (kk : ∀ x' y', I x' y' → cn_At V 1528 [some (.ref b), some (.ref (adC 0)), some (.ref (adR 0)), some (.int i)] [] (cn_W V adC adR x' y') 67 14394) : cn_At V 635 [some (.ref b), some (.ref (adC 0)), some (.ref (adR 0)), some (.int i)] [] (cn_W V adC adR x y) 67 14394 := by
  obtain ⟨r, x', y', hc, hr, hi'⟩ := hm x y (xs (i + 1).toNatClampNeg) (xs (i + 2).toNatClampNeg) hI
  refine cn_aload_n hC.1 dL_law_635 rfl ?_
  refine cn_aload_n hC.1 dL_law_636 rfl ?_
  refine cn_iload_n hC.1 dL_law_637 rfl ?_
  refine cn_iconst hC.1 (1 : Int32) dL_law_638 (by decide) ?_
  refine cn_iadd hC.1 dL_law_639 ?_
  refine cn_sld hC.1 hC.2.2.1 hC.2.2.2.1 hC.2.2.2.2 hin.2.1 dL_law_640 ?_
  refine cn_aload_n hC.1 dL_law_641 rfl ?_
  refine cn_iload_n hC.1 dL_law_642 rfl ?_
  refine cn_iconst hC.1 (2 : Int32) dL_law_643 (by decide) ?_
  refine cn_iadd hC.1 dL_law_644 ?_
  refine cn_sld hC.1 hC.2.2.1 hC.2.2.2.1 hC.2.2.2.2 hin.2.2.1 dL_law_645 ?_
  refine cn_cCi hC.1 hC.2.1 lkL_73 rfl dL_law_646 [.int (xs (i + 1).toNatClampNeg), .int (xs (i + 2).toNatClampNeg)] [] (fun ad => [.ref (ad 0), .int (xs (i + 1).toNatClampNeg), .int (xs (i + 2).toNatClampNeg)]) rfl rfl rfl rfl (Nat.le_refl _) (Nat.le_refl _) r x' (T_X9_clock (xs (i + 1).toNatClampNeg) (xs (i + 2).toNatClampNeg) x (r, x') hc) ?_
  refine cn_aload_n hC.1 dL_law_649 rfl ?_
  refine cn_aload_n hC.1 dL_law_650 rfl ?_
  refine cn_iload_n hC.1 dL_law_651 rfl ?_
  refine cn_iconst hC.1 (1 : Int32) dL_law_652 (by decide) ?_
  refine cn_iadd hC.1 dL_law_653 ?_
  refine cn_sld hC.1 hC.2.2.1 hC.2.2.2.1 hC.2.2.2.2 hin.2.1 dL_law_654 ?_
  refine cn_aload_n hC.1 dL_law_655 rfl ?_
  refine cn_iload_n hC.1 dL_law_656 rfl ?_
  refine cn_iconst hC.1 (2 : Int32) dL_law_657 (by decide) ?_
  refine cn_iadd hC.1 dL_law_658 ?_
  refine cn_sld hC.1 hC.2.2.1 hC.2.2.2.1 hC.2.2.2.2 hin.2.2.1 dL_law_659 ?_
  refine cn_cRi hC.1 lkL_76 rfl dL_law_660 [.int (xs (i + 1).toNatClampNeg), .int (xs (i + 2).toNatClampNeg)] [.int r] (fun ad => [.ref (ad 0), .int (xs (i + 1).toNatClampNeg), .int (xs (i + 2).toNatClampNeg)]) rfl rfl rfl rfl (Nat.le_refl _) (Nat.le_refl _) r y' (T_X10_clock (xs (i + 1).toNatClampNeg) (xs (i + 2).toNatClampNeg) y (r, y') hr) ?_
  exact cn_icmp_eq hC.1 dL_law_663 (fun _ => kk x' y' hi') (fun q => absurd rfl q)
/-- between: class and reference answer alike, and stand alike behind it -/
def lq_between (I : ax_S → ax_S → Prop) : Prop := ∀ (x y : ax_S) (a1 : Int32) (a2 : Int32) (a3 : Int32), I x y → ∃ r x' y', f_X9_between a1 a2 a3 x = some (r, x') ∧ f_X10_between a1 a2 a3 y = some (r, y') ∧ I x' y'
theorem lw_case_14 {V : cn_V} {adC adR : Nat → Nat} {b L : Nat} {xs : Nat → Int32} (hC : lw_C V adC adR b L xs) {i : Int32} (hin : lw_in L i) {I : ax_S → ax_S → Prop} (hm : lq_between I) {x y : ax_S} (hI : I x y) (kk : ∀ x' y', I x' y' → cn_At V 1528 [some (.ref b), some (.ref (adC 0)), some (.ref (adR 0)), some (.int i)] [] (cn_W V adC adR x' y') 67 14394) : cn_At V 668 [some (.ref b), some (.ref (adC 0)), some (.ref (adR 0)), some (.int i)] [] (cn_W V adC adR x y) 67 14394 := by
  obtain ⟨r, x', y', hc, hr, hi'⟩ := hm x y (xs (i + 1).toNatClampNeg) (xs (i + 2).toNatClampNeg) (xs (i + 3).toNatClampNeg) hI
  refine cn_aload_n hC.1 dL_law_668 rfl ?_
  refine cn_aload_n hC.1 dL_law_669 rfl ?_
  refine cn_iload_n hC.1 dL_law_670 rfl ?_
  refine cn_iconst hC.1 (1 : Int32) dL_law_671 (by decide) ?_
  refine cn_iadd hC.1 dL_law_672 ?_
  refine cn_sld hC.1 hC.2.2.1 hC.2.2.2.1 hC.2.2.2.2 hin.2.1 dL_law_673 ?_
  refine cn_aload_n hC.1 dL_law_674 rfl ?_
  refine cn_iload_n hC.1 dL_law_675 rfl ?_
  refine cn_iconst hC.1 (2 : Int32) dL_law_676 (by decide) ?_
  refine cn_iadd hC.1 dL_law_677 ?_
  refine cn_sld hC.1 hC.2.2.1 hC.2.2.2.1 hC.2.2.2.2 hin.2.2.1 dL_law_678 ?_
  refine cn_aload_n hC.1 dL_law_679 rfl ?_
  refine cn_iload_n hC.1 dL_law_680 rfl ?_
  refine cn_iconst hC.1 (3 : Int32) dL_law_681 (by decide) ?_
  refine cn_iadd hC.1 dL_law_682 ?_
  refine cn_sld hC.1 hC.2.2.1 hC.2.2.2.1 hC.2.2.2.2 hin.2.2.2.1 dL_law_683 ?_
  refine cn_cCi hC.1 hC.2.1 lkL_77 rfl dL_law_684 [.int (xs (i + 1).toNatClampNeg), .int (xs (i + 2).toNatClampNeg), .int (xs (i + 3).toNatClampNeg)] [] (fun ad => [.ref (ad 0), .int (xs (i + 1).toNatClampNeg), .int (xs (i + 2).toNatClampNeg), .int (xs (i + 3).toNatClampNeg)]) rfl rfl rfl rfl (Nat.le_refl _) (Nat.le_refl _) r x' (T_X9_between (xs (i + 1).toNatClampNeg) (xs (i + 2).toNatClampNeg) (xs (i + 3).toNatClampNeg) x (r, x') hc) ?_
  refine cn_aload_n hC.1 dL_law_687 rfl ?_
  refine cn_aload_n hC.1 dL_law_688 rfl ?_
  refine cn_iload_n hC.1 dL_law_689 rfl ?_
  refine cn_iconst hC.1 (1 : Int32) dL_law_690 (by decide) ?_
  refine cn_iadd hC.1 dL_law_691 ?_
  refine cn_sld hC.1 hC.2.2.1 hC.2.2.2.1 hC.2.2.2.2 hin.2.1 dL_law_692 ?_
  refine cn_aload_n hC.1 dL_law_693 rfl ?_
  refine cn_iload_n hC.1 dL_law_694 rfl ?_
  refine cn_iconst hC.1 (2 : Int32) dL_law_695 (by decide) ?_
  refine cn_iadd hC.1 dL_law_696 ?_
  refine cn_sld hC.1 hC.2.2.1 hC.2.2.2.1 hC.2.2.2.2 hin.2.2.1 dL_law_697 ?_
  refine cn_aload_n hC.1 dL_law_698 rfl ?_
  refine cn_iload_n hC.1 dL_law_699 rfl ?_
  refine cn_iconst hC.1 (3 : Int32) dL_law_700 (by decide) ?_
  refine cn_iadd hC.1 dL_law_701 ?_
  refine cn_sld hC.1 hC.2.2.1 hC.2.2.2.1 hC.2.2.2.2 hin.2.2.2.1 dL_law_702 ?_
  refine cn_cRi hC.1 lkL_81 rfl dL_law_703 [.int (xs (i + 1).toNatClampNeg), .int (xs (i + 2).toNatClampNeg), .int (xs (i + 3).toNatClampNeg)] [.int r] (fun ad => [.ref (ad 0), .int (xs (i + 1).toNatClampNeg), .int (xs (i + 2).toNatClampNeg), .int (xs (i + 3).toNatClampNeg)]) rfl rfl rfl rfl (Nat.le_refl _) (Nat.le_refl _) r y' (T_X10_between (xs (i + 1).toNatClampNeg) (xs (i + 2).toNatClampNeg) (xs (i + 3).toNatClampNeg) y (r, y') hr) ?_
  exact cn_icmp_eq hC.1 dL_law_706 (fun _ => kk x' y' hi') (fun q => absurd rfl q)
/-- led: class and reference answer alike, and stand alike behind it -/
def lq_led (I : ax_S → ax_S → Prop) : Prop := ∀ (x y : ax_S) (a1 : Int32) (a2 : Int32), I x y → ∃ r x' y', f_X9_led a1 a2 x = some (r, x') ∧ f_X10_led a1 a2 y = some (r, y') ∧ I x' y'
theorem lw_case_15 {V : cn_V} {adC adR : Nat → Nat} {b L : Nat} {xs : Nat → Int32} (hC : lw_C V adC adR b L xs) {i : Int32} (hin : lw_in L i) {I : ax_S → ax_S → Prop} (hm : lq_led I) {x y : ax_S} (hI : I x y) (kk : ∀ x' y', I x' y' → cn_At V 1528 [some (.ref b), some (.ref (adC 0)), some (.ref (adR 0)), some (.int i)] [] (cn_W V adC adR x' y') 67 14394) : cn_At V 711 [some (.ref b), some (.ref (adC 0)), some (.ref (adR 0)), some (.int i)] [] (cn_W V adC adR x y) 67 14394 := by
  obtain ⟨r, x', y', hc, hr, hi'⟩ := hm x y (xs (i + 1).toNatClampNeg) (xs (i + 2).toNatClampNeg) hI
  refine cn_aload_n hC.1 dL_law_711 rfl ?_
  refine cn_aload_n hC.1 dL_law_712 rfl ?_
  refine cn_iload_n hC.1 dL_law_713 rfl ?_
  refine cn_iconst hC.1 (1 : Int32) dL_law_714 (by decide) ?_
  refine cn_iadd hC.1 dL_law_715 ?_
  refine cn_sld hC.1 hC.2.2.1 hC.2.2.2.1 hC.2.2.2.2 hin.2.1 dL_law_716 ?_
  refine cn_aload_n hC.1 dL_law_717 rfl ?_
  refine cn_iload_n hC.1 dL_law_718 rfl ?_
  refine cn_iconst hC.1 (2 : Int32) dL_law_719 (by decide) ?_
  refine cn_iadd hC.1 dL_law_720 ?_
  refine cn_sld hC.1 hC.2.2.1 hC.2.2.2.1 hC.2.2.2.2 hin.2.2.1 dL_law_721 ?_
  refine cn_cCi hC.1 hC.2.1 lkL_82 rfl dL_law_722 [.int (xs (i + 1).toNatClampNeg), .int (xs (i + 2).toNatClampNeg)] [] (fun ad => [.ref (ad 0), .int (xs (i + 1).toNatClampNeg), .int (xs (i + 2).toNatClampNeg)]) rfl rfl rfl rfl (Nat.le_refl _) (Nat.le_refl _) r x' (T_X9_led (xs (i + 1).toNatClampNeg) (xs (i + 2).toNatClampNeg) x (r, x') hc) ?_
  refine cn_aload_n hC.1 dL_law_725 rfl ?_
  refine cn_aload_n hC.1 dL_law_726 rfl ?_
  refine cn_iload_n hC.1 dL_law_727 rfl ?_
  refine cn_iconst hC.1 (1 : Int32) dL_law_728 (by decide) ?_
  refine cn_iadd hC.1 dL_law_729 ?_
  refine cn_sld hC.1 hC.2.2.1 hC.2.2.2.1 hC.2.2.2.2 hin.2.1 dL_law_730 ?_
  refine cn_aload_n hC.1 dL_law_731 rfl ?_
  refine cn_iload_n hC.1 dL_law_732 rfl ?_
  refine cn_iconst hC.1 (2 : Int32) dL_law_733 (by decide) ?_
  refine cn_iadd hC.1 dL_law_734 ?_
  refine cn_sld hC.1 hC.2.2.1 hC.2.2.2.1 hC.2.2.2.2 hin.2.2.1 dL_law_735 ?_
  refine cn_cRi hC.1 lkL_85 rfl dL_law_736 [.int (xs (i + 1).toNatClampNeg), .int (xs (i + 2).toNatClampNeg)] [.int r] (fun ad => [.ref (ad 0), .int (xs (i + 1).toNatClampNeg), .int (xs (i + 2).toNatClampNeg)]) rfl rfl rfl rfl (Nat.le_refl _) (Nat.le_refl _) r y' (T_X10_led (xs (i + 1).toNatClampNeg) (xs (i + 2).toNatClampNeg) y (r, y') hr) ?_
  exact cn_icmp_eq hC.1 dL_law_739 (fun _ => kk x' y' hi') (fun q => absurd rfl q)
/-- changed: class and reference answer alike, and stand alike behind it -/
def lq_changed (I : ax_S → ax_S → Prop) : Prop := ∀ (x y : ax_S) (a1 : Int32) (a2 : Int32), I x y → ∃ r x' y', f_X9_changed a1 a2 x = some (r, x') ∧ f_X10_changed a1 a2 y = some (r, y') ∧ I x' y'
theorem lw_case_16 {V : cn_V} {adC adR : Nat → Nat} {b L : Nat} {xs : Nat → Int32} (hC : lw_C V adC adR b L xs) {i : Int32} (hin : lw_in L i) {I : ax_S → ax_S → Prop} (hm : lq_changed I) {x y : ax_S} (hI : I x y) (kk : ∀ x' y', I x' y' → cn_At V 1528 [some (.ref b), some (.ref (adC 0)), some (.ref (adR 0)), some (.int i)] [] (cn_W V adC adR x' y') 67 14394) : cn_At V 744 [some (.ref b), some (.ref (adC 0)), some (.ref (adR 0)), some (.int i)] [] (cn_W V adC adR x y) 67 14394 := by
  obtain ⟨r, x', y', hc, hr, hi'⟩ := hm x y (xs (i + 1).toNatClampNeg) (xs (i + 2).toNatClampNeg) hI
  refine cn_aload_n hC.1 dL_law_744 rfl ?_
  refine cn_aload_n hC.1 dL_law_745 rfl ?_
  refine cn_iload_n hC.1 dL_law_746 rfl ?_
  refine cn_iconst hC.1 (1 : Int32) dL_law_747 (by decide) ?_
  refine cn_iadd hC.1 dL_law_748 ?_
  refine cn_sld hC.1 hC.2.2.1 hC.2.2.2.1 hC.2.2.2.2 hin.2.1 dL_law_749 ?_
  refine cn_aload_n hC.1 dL_law_750 rfl ?_
  refine cn_iload_n hC.1 dL_law_751 rfl ?_
  refine cn_iconst hC.1 (2 : Int32) dL_law_752 (by decide) ?_
  refine cn_iadd hC.1 dL_law_753 ?_
  refine cn_sld hC.1 hC.2.2.1 hC.2.2.2.1 hC.2.2.2.2 hin.2.2.1 dL_law_754 ?_
  refine cn_cCi hC.1 hC.2.1 lkL_86 rfl dL_law_755 [.int (xs (i + 1).toNatClampNeg), .int (xs (i + 2).toNatClampNeg)] [] (fun ad => [.ref (ad 0), .int (xs (i + 1).toNatClampNeg), .int (xs (i + 2).toNatClampNeg)]) rfl rfl rfl rfl (Nat.le_refl _) (Nat.le_refl _) r x' (T_X9_changed (xs (i + 1).toNatClampNeg) (xs (i + 2).toNatClampNeg) x (r, x') hc) ?_
  refine cn_aload_n hC.1 dL_law_758 rfl ?_
  refine cn_aload_n hC.1 dL_law_759 rfl ?_
  refine cn_iload_n hC.1 dL_law_760 rfl ?_
  refine cn_iconst hC.1 (1 : Int32) dL_law_761 (by decide) ?_
  refine cn_iadd hC.1 dL_law_762 ?_
  refine cn_sld hC.1 hC.2.2.1 hC.2.2.2.1 hC.2.2.2.2 hin.2.1 dL_law_763 ?_
  refine cn_aload_n hC.1 dL_law_764 rfl ?_
  refine cn_iload_n hC.1 dL_law_765 rfl ?_
  refine cn_iconst hC.1 (2 : Int32) dL_law_766 (by decide) ?_
  refine cn_iadd hC.1 dL_law_767 ?_
  refine cn_sld hC.1 hC.2.2.1 hC.2.2.2.1 hC.2.2.2.2 hin.2.2.1 dL_law_768 ?_
  refine cn_cRi hC.1 lkL_89 rfl dL_law_769 [.int (xs (i + 1).toNatClampNeg), .int (xs (i + 2).toNatClampNeg)] [.int r] (fun ad => [.ref (ad 0), .int (xs (i + 1).toNatClampNeg), .int (xs (i + 2).toNatClampNeg)]) rfl rfl rfl rfl (Nat.le_refl _) (Nat.le_refl _) r y' (T_X10_changed (xs (i + 1).toNatClampNeg) (xs (i + 2).toNatClampNeg) y (r, y') hr) ?_
  exact cn_icmp_eq hC.1 dL_law_772 (fun _ => kk x' y' hi') (fun q => absurd rfl q)
/-- fits: class and reference answer alike, and stand alike behind it -/
def lq_fits (I : ax_S → ax_S → Prop) : Prop := ∀ (x y : ax_S) (a1 : Int32), I x y → ∃ r x' y', f_X9_fits a1 x = some (r, x') ∧ f_X10_fits a1 y = some (r, y') ∧ I x' y'
theorem lw_case_17 {V : cn_V} {adC adR : Nat → Nat} {b L : Nat} {xs : Nat → Int32} (hC : lw_C V adC adR b L xs) {i : Int32} (hin : lw_in L i) {I : ax_S → ax_S → Prop} (hm : lq_fits I) {x y : ax_S} (hI : I x y) (kk : ∀ x' y', I x' y' → cn_At V 1528 [some (.ref b), some (.ref (adC 0)), some (.ref (adR 0)), some (.int i)] [] (cn_W V adC adR x' y') 67 14394) : cn_At V 777 [some (.ref b), some (.ref (adC 0)), some (.ref (adR 0)), some (.int i)] [] (cn_W V adC adR x y) 67 14394 := by
  obtain ⟨r, x', y', hc, hr, hi'⟩ := hm x y (xs (i + 1).toNatClampNeg) hI
  refine cn_aload_n hC.1 dL_law_777 rfl ?_
  refine cn_aload_n hC.1 dL_law_778 rfl ?_
  refine cn_iload_n hC.1 dL_law_779 rfl ?_
  refine cn_iconst hC.1 (1 : Int32) dL_law_780 (by decide) ?_
  refine cn_iadd hC.1 dL_law_781 ?_
  refine cn_sld hC.1 hC.2.2.1 hC.2.2.2.1 hC.2.2.2.2 hin.2.1 dL_law_782 ?_
  refine cn_cCi hC.1 hC.2.1 lkL_90 rfl dL_law_783 [.int (xs (i + 1).toNatClampNeg)] [] (fun ad => [.ref (ad 0), .int (xs (i + 1).toNatClampNeg)]) rfl rfl rfl rfl (Nat.le_refl _) (Nat.le_refl _) r x' (T_X9_fits (xs (i + 1).toNatClampNeg) x (r, x') hc) ?_
  refine cn_aload_n hC.1 dL_law_786 rfl ?_
  refine cn_aload_n hC.1 dL_law_787 rfl ?_
  refine cn_iload_n hC.1 dL_law_788 rfl ?_
  refine cn_iconst hC.1 (1 : Int32) dL_law_789 (by decide) ?_
  refine cn_iadd hC.1 dL_law_790 ?_
  refine cn_sld hC.1 hC.2.2.1 hC.2.2.2.1 hC.2.2.2.2 hin.2.1 dL_law_791 ?_
  refine cn_cRi hC.1 lkL_93 rfl dL_law_792 [.int (xs (i + 1).toNatClampNeg)] [.int r] (fun ad => [.ref (ad 0), .int (xs (i + 1).toNatClampNeg)]) rfl rfl rfl rfl (Nat.le_refl _) (Nat.le_refl _) r y' (T_X10_fits (xs (i + 1).toNatClampNeg) y (r, y') hr) ?_
  exact cn_icmp_eq hC.1 dL_law_795 (fun _ => kk x' y' hi') (fun q => absurd rfl q)
/-- room: class and reference answer alike, and stand alike behind it -/
def lq_room (I : ax_S → ax_S → Prop) : Prop := ∀ (x y : ax_S) (a1 : Int32) (a2 : Int32), I x y → ∃ r x' y', f_X9_room a1 a2 x = some (r, x') ∧ f_X10_room a1 a2 y = some (r, y') ∧ I x' y'
theorem lw_case_18 {V : cn_V} {adC adR : Nat → Nat} {b L : Nat} {xs : Nat → Int32} (hC : lw_C V adC adR b L xs) {i : Int32} (hin : lw_in L i) {I : ax_S → ax_S → Prop} (hm : lq_room I) {x y : ax_S} (hI : I x y) (kk : ∀ x' y', I x' y' → cn_At V 1528 [some (.ref b), some (.ref (adC 0)), some (.ref (adR 0)), some (.int i)] [] (cn_W V adC adR x' y') 67 14394) : cn_At V 800 [some (.ref b), some (.ref (adC 0)), some (.ref (adR 0)), some (.int i)] [] (cn_W V adC adR x y) 67 14394 := by
  obtain ⟨r, x', y', hc, hr, hi'⟩ := hm x y (xs (i + 1).toNatClampNeg) (xs (i + 2).toNatClampNeg) hI
  refine cn_aload_n hC.1 dL_law_800 rfl ?_
  refine cn_aload_n hC.1 dL_law_801 rfl ?_
  refine cn_iload_n hC.1 dL_law_802 rfl ?_
  refine cn_iconst hC.1 (1 : Int32) dL_law_803 (by decide) ?_
  refine cn_iadd hC.1 dL_law_804 ?_
  refine cn_sld hC.1 hC.2.2.1 hC.2.2.2.1 hC.2.2.2.2 hin.2.1 dL_law_805 ?_
  refine cn_aload_n hC.1 dL_law_806 rfl ?_
  refine cn_iload_n hC.1 dL_law_807 rfl ?_
  refine cn_iconst hC.1 (2 : Int32) dL_law_808 (by decide) ?_
  refine cn_iadd hC.1 dL_law_809 ?_
  refine cn_sld hC.1 hC.2.2.1 hC.2.2.2.1 hC.2.2.2.2 hin.2.2.1 dL_law_810 ?_
  refine cn_cCi hC.1 hC.2.1 lkL_94 rfl dL_law_811 [.int (xs (i + 1).toNatClampNeg), .int (xs (i + 2).toNatClampNeg)] [] (fun ad => [.ref (ad 0), .int (xs (i + 1).toNatClampNeg), .int (xs (i + 2).toNatClampNeg)]) rfl rfl rfl rfl (Nat.le_refl _) (Nat.le_refl _) r x' (T_X9_room (xs (i + 1).toNatClampNeg) (xs (i + 2).toNatClampNeg) x (r, x') hc) ?_
  refine cn_aload_n hC.1 dL_law_814 rfl ?_
  refine cn_aload_n hC.1 dL_law_815 rfl ?_
  refine cn_iload_n hC.1 dL_law_816 rfl ?_
  refine cn_iconst hC.1 (1 : Int32) dL_law_817 (by decide) ?_
  refine cn_iadd hC.1 dL_law_818 ?_
  refine cn_sld hC.1 hC.2.2.1 hC.2.2.2.1 hC.2.2.2.2 hin.2.1 dL_law_819 ?_
  refine cn_aload_n hC.1 dL_law_820 rfl ?_
  refine cn_iload_n hC.1 dL_law_821 rfl ?_
  refine cn_iconst hC.1 (2 : Int32) dL_law_822 (by decide) ?_
  refine cn_iadd hC.1 dL_law_823 ?_
  refine cn_sld hC.1 hC.2.2.1 hC.2.2.2.1 hC.2.2.2.2 hin.2.2.1 dL_law_824 ?_
  refine cn_cRi hC.1 lkL_97 rfl dL_law_825 [.int (xs (i + 1).toNatClampNeg), .int (xs (i + 2).toNatClampNeg)] [.int r] (fun ad => [.ref (ad 0), .int (xs (i + 1).toNatClampNeg), .int (xs (i + 2).toNatClampNeg)]) rfl rfl rfl rfl (Nat.le_refl _) (Nat.le_refl _) r y' (T_X10_room (xs (i + 1).toNatClampNeg) (xs (i + 2).toNatClampNeg) y (r, y') hr) ?_
  exact cn_icmp_eq hC.1 dL_law_828 (fun _ => kk x' y' hi') (fun q => absurd rfl q)
/-- kin: class and reference answer alike, and stand alike behind it -/
def lq_kin (I : ax_S → ax_S → Prop) : Prop := ∀ (x y : ax_S) (a1 : Int32) (a2 : Int32) (a3 : Int32), I x y → ∃ r x' y', f_X9_kin a1 a2 a3 x = some (r, x') ∧ f_X10_kin a1 a2 a3 y = some (r, y') ∧ I x' y'
theorem lw_case_19 {V : cn_V} {adC adR : Nat → Nat} {b L : Nat} {xs : Nat → Int32} (hC : lw_C V adC adR b L xs) {i : Int32} (hin : lw_in L i) {I : ax_S → ax_S → Prop} (hm : lq_kin I) {x y : ax_S} (hI : I x y) (kk : ∀ x' y', I x' y' → cn_At V 1528 [some (.ref b), some (.ref (adC 0)), some (.ref (adR 0)), some (.int i)] [] (cn_W V adC adR x' y') 67 14394) : cn_At V 833 [some (.ref b), some (.ref (adC 0)), some (.ref (adR 0)), some (.int i)] [] (cn_W V adC adR x y) 67 14394 := by
  obtain ⟨r, x', y', hc, hr, hi'⟩ := hm x y (xs (i + 1).toNatClampNeg) (xs (i + 2).toNatClampNeg) (xs (i + 3).toNatClampNeg) hI
  refine cn_aload_n hC.1 dL_law_833 rfl ?_
  refine cn_aload_n hC.1 dL_law_834 rfl ?_
  refine cn_iload_n hC.1 dL_law_835 rfl ?_
  refine cn_iconst hC.1 (1 : Int32) dL_law_836 (by decide) ?_
  refine cn_iadd hC.1 dL_law_837 ?_
  refine cn_sld hC.1 hC.2.2.1 hC.2.2.2.1 hC.2.2.2.2 hin.2.1 dL_law_838 ?_
  refine cn_aload_n hC.1 dL_law_839 rfl ?_
  refine cn_iload_n hC.1 dL_law_840 rfl ?_
  refine cn_iconst hC.1 (2 : Int32) dL_law_841 (by decide) ?_
  refine cn_iadd hC.1 dL_law_842 ?_
  refine cn_sld hC.1 hC.2.2.1 hC.2.2.2.1 hC.2.2.2.2 hin.2.2.1 dL_law_843 ?_
  refine cn_aload_n hC.1 dL_law_844 rfl ?_
  refine cn_iload_n hC.1 dL_law_845 rfl ?_
  refine cn_iconst hC.1 (3 : Int32) dL_law_846 (by decide) ?_
  refine cn_iadd hC.1 dL_law_847 ?_
  refine cn_sld hC.1 hC.2.2.1 hC.2.2.2.1 hC.2.2.2.2 hin.2.2.2.1 dL_law_848 ?_
  refine cn_cCi hC.1 hC.2.1 lkL_98 rfl dL_law_849 [.int (xs (i + 1).toNatClampNeg), .int (xs (i + 2).toNatClampNeg), .int (xs (i + 3).toNatClampNeg)] [] (fun ad => [.ref (ad 0), .int (xs (i + 1).toNatClampNeg), .int (xs (i + 2).toNatClampNeg), .int (xs (i + 3).toNatClampNeg)]) rfl rfl rfl rfl (Nat.le_refl _) (Nat.le_refl _) r x' (T_X9_kin (xs (i + 1).toNatClampNeg) (xs (i + 2).toNatClampNeg) (xs (i + 3).toNatClampNeg) x (r, x') hc) ?_
  refine cn_aload_n hC.1 dL_law_852 rfl ?_
  refine cn_aload_n hC.1 dL_law_853 rfl ?_
  refine cn_iload_n hC.1 dL_law_854 rfl ?_
  refine cn_iconst hC.1 (1 : Int32) dL_law_855 (by decide) ?_
  refine cn_iadd hC.1 dL_law_856 ?_
  refine cn_sld hC.1 hC.2.2.1 hC.2.2.2.1 hC.2.2.2.2 hin.2.1 dL_law_857 ?_
  refine cn_aload_n hC.1 dL_law_858 rfl ?_
  refine cn_iload_n hC.1 dL_law_859 rfl ?_
  refine cn_iconst hC.1 (2 : Int32) dL_law_860 (by decide) ?_
  refine cn_iadd hC.1 dL_law_861 ?_
  refine cn_sld hC.1 hC.2.2.1 hC.2.2.2.1 hC.2.2.2.2 hin.2.2.1 dL_law_862 ?_
  refine cn_aload_n hC.1 dL_law_863 rfl ?_
  refine cn_iload_n hC.1 dL_law_864 rfl ?_
  refine cn_iconst hC.1 (3 : Int32) dL_law_865 (by decide) ?_
  refine cn_iadd hC.1 dL_law_866 ?_
  refine cn_sld hC.1 hC.2.2.1 hC.2.2.2.1 hC.2.2.2.2 hin.2.2.2.1 dL_law_867 ?_
  refine cn_cRi hC.1 lkL_101 rfl dL_law_868 [.int (xs (i + 1).toNatClampNeg), .int (xs (i + 2).toNatClampNeg), .int (xs (i + 3).toNatClampNeg)] [.int r] (fun ad => [.ref (ad 0), .int (xs (i + 1).toNatClampNeg), .int (xs (i + 2).toNatClampNeg), .int (xs (i + 3).toNatClampNeg)]) rfl rfl rfl rfl (Nat.le_refl _) (Nat.le_refl _) r y' (T_X10_kin (xs (i + 1).toNatClampNeg) (xs (i + 2).toNatClampNeg) (xs (i + 3).toNatClampNeg) y (r, y') hr) ?_
  exact cn_icmp_eq hC.1 dL_law_871 (fun _ => kk x' y' hi') (fun q => absurd rfl q)
/-- hangs: class and reference answer alike, and stand alike behind it -/
def lq_hangs (I : ax_S → ax_S → Prop) : Prop := ∀ (x y : ax_S) (a1 : Int32), I x y → ∃ r x' y', f_X9_hangs a1 x = some (r, x') ∧ f_X10_hangs a1 y = some (r, y') ∧ I x' y'
theorem lw_case_20 {V : cn_V} {adC adR : Nat → Nat} {b L : Nat} {xs : Nat → Int32} (hC : lw_C V adC adR b L xs) {i : Int32} (hin : lw_in L i) {I : ax_S → ax_S → Prop} (hm : lq_hangs I) {x y : ax_S} (hI : I x y) (kk : ∀ x' y', I x' y' → cn_At V 1528 [some (.ref b), some (.ref (adC 0)), some (.ref (adR 0)), some (.int i)] [] (cn_W V adC adR x' y') 67 14394) : cn_At V 876 [some (.ref b), some (.ref (adC 0)), some (.ref (adR 0)), some (.int i)] [] (cn_W V adC adR x y) 67 14394 := by
  obtain ⟨r, x', y', hc, hr, hi'⟩ := hm x y (xs (i + 1).toNatClampNeg) hI
  refine cn_aload_n hC.1 dL_law_876 rfl ?_
  refine cn_aload_n hC.1 dL_law_877 rfl ?_
  refine cn_iload_n hC.1 dL_law_878 rfl ?_
  refine cn_iconst hC.1 (1 : Int32) dL_law_879 (by decide) ?_
  refine cn_iadd hC.1 dL_law_880 ?_
  refine cn_sld hC.1 hC.2.2.1 hC.2.2.2.1 hC.2.2.2.2 hin.2.1 dL_law_881 ?_
  refine cn_cCl hC.1 hC.2.1 lkL_102 rfl dL_law_882 [.int (xs (i + 1).toNatClampNeg)] [] (fun ad => [.ref (ad 0), .int (xs (i + 1).toNatClampNeg)]) rfl rfl rfl rfl (Nat.le_refl _) (Nat.le_refl _) r x' (T_X9_hangs (xs (i + 1).toNatClampNeg) x (r, x') hc) ?_
  refine cn_aload_n hC.1 dL_law_885 rfl ?_
  refine cn_aload_n hC.1 dL_law_886 rfl ?_
  refine cn_iload_n hC.1 dL_law_887 rfl ?_
  refine cn_iconst hC.1 (1 : Int32) dL_law_888 (by decide) ?_
  refine cn_iadd hC.1 dL_law_889 ?_
  refine cn_sld hC.1 hC.2.2.1 hC.2.2.2.1 hC.2.2.2.2 hin.2.1 dL_law_890 ?_
  refine cn_cRl hC.1 lkL_106 rfl dL_law_891 [.int (xs (i + 1).toNatClampNeg)] [.long r] (fun ad => [.ref (ad 0), .int (xs (i + 1).toNatClampNeg)]) rfl rfl rfl rfl (Nat.le_refl _) (Nat.le_refl _) r y' (T_X10_hangs (xs (i + 1).toNatClampNeg) y (r, y') hr) ?_
  refine cn_lcmp hC.1 dL_law_894 ?_
  exact cn_if_eq hC.1 dL_law_895 (fun _ => kk x' y' hi') (fun q => absurd (by simp [lg_cmp]) q)
/-- doubts: class and reference answer alike, and stand alike behind it -/
def lq_doubts (I : ax_S → ax_S → Prop) : Prop := ∀ (x y : ax_S) , I x y → ∃ r x' y', f_X9_doubts x = some (r, x') ∧ f_X10_doubts y = some (r, y') ∧ I x' y'
theorem lw_case_21 {V : cn_V} {adC adR : Nat → Nat} {b L : Nat} {xs : Nat → Int32} (hC : lw_C V adC adR b L xs) {i : Int32} (hin : lw_in L i) {I : ax_S → ax_S → Prop} (hm : lq_doubts I) {x y : ax_S} (hI : I x y) (kk : ∀ x' y', I x' y' → cn_At V 1528 [some (.ref b), some (.ref (adC 0)), some (.ref (adR 0)), some (.int i)] [] (cn_W V adC adR x' y') 67 14394) : cn_At V 900 [some (.ref b), some (.ref (adC 0)), some (.ref (adR 0)), some (.int i)] [] (cn_W V adC adR x y) 67 14394 := by
  obtain ⟨r, x', y', hc, hr, hi'⟩ := hm x y  hI
  refine cn_aload_n hC.1 dL_law_900 rfl ?_
  refine cn_cCl hC.1 hC.2.1 lkL_107 rfl dL_law_901 [] [] (fun ad => [.ref (ad 0)]) rfl rfl rfl rfl (Nat.le_refl _) (Nat.le_refl _) r x' (T_X9_doubts  x (r, x') hc) ?_
  refine cn_aload_n hC.1 dL_law_904 rfl ?_
  refine cn_cRl hC.1 lkL_111 rfl dL_law_905 [] [.long r] (fun ad => [.ref (ad 0)]) rfl rfl rfl rfl (Nat.le_refl _) (Nat.le_refl _) r y' (T_X10_doubts  y (r, y') hr) ?_
  refine cn_lcmp hC.1 dL_law_908 ?_
  exact cn_if_eq hC.1 dL_law_909 (fun _ => kk x' y' hi') (fun q => absurd (by simp [lg_cmp]) q)
/-- blamed: class and reference answer alike, and stand alike behind it -/
def lq_blamed (I : ax_S → ax_S → Prop) : Prop := ∀ (x y : ax_S) (a1 : Int32), I x y → ∃ r x' y', f_X9_blamed a1 x = some (r, x') ∧ f_X10_blamed a1 y = some (r, y') ∧ I x' y'
theorem lw_case_22 {V : cn_V} {adC adR : Nat → Nat} {b L : Nat} {xs : Nat → Int32} (hC : lw_C V adC adR b L xs) {i : Int32} (hin : lw_in L i) {I : ax_S → ax_S → Prop} (hm : lq_blamed I) {x y : ax_S} (hI : I x y) (kk : ∀ x' y', I x' y' → cn_At V 1528 [some (.ref b), some (.ref (adC 0)), some (.ref (adR 0)), some (.int i)] [] (cn_W V adC adR x' y') 67 14394) : cn_At V 914 [some (.ref b), some (.ref (adC 0)), some (.ref (adR 0)), some (.int i)] [] (cn_W V adC adR x y) 67 14394 := by
  obtain ⟨r, x', y', hc, hr, hi'⟩ := hm x y (xs (i + 1).toNatClampNeg) hI
  refine cn_aload_n hC.1 dL_law_914 rfl ?_
  refine cn_aload_n hC.1 dL_law_915 rfl ?_
  refine cn_iload_n hC.1 dL_law_916 rfl ?_
  refine cn_iconst hC.1 (1 : Int32) dL_law_917 (by decide) ?_
  refine cn_iadd hC.1 dL_law_918 ?_
  refine cn_sld hC.1 hC.2.2.1 hC.2.2.2.1 hC.2.2.2.2 hin.2.1 dL_law_919 ?_
  refine cn_cCi hC.1 hC.2.1 lkL_112 rfl dL_law_920 [.int (xs (i + 1).toNatClampNeg)] [] (fun ad => [.ref (ad 0), .int (xs (i + 1).toNatClampNeg)]) rfl rfl rfl rfl (Nat.le_refl _) (Nat.le_refl _) r x' (T_X9_blamed (xs (i + 1).toNatClampNeg) x (r, x') hc) ?_
  refine cn_aload_n hC.1 dL_law_923 rfl ?_
  refine cn_aload_n hC.1 dL_law_924 rfl ?_
  refine cn_iload_n hC.1 dL_law_925 rfl ?_
  refine cn_iconst hC.1 (1 : Int32) dL_law_926 (by decide) ?_
  refine cn_iadd hC.1 dL_law_927 ?_
  refine cn_sld hC.1 hC.2.2.1 hC.2.2.2.1 hC.2.2.2.2 hin.2.1 dL_law_928 ?_
  refine cn_cRi hC.1 lkL_115 rfl dL_law_929 [.int (xs (i + 1).toNatClampNeg)] [.int r] (fun ad => [.ref (ad 0), .int (xs (i + 1).toNatClampNeg)]) rfl rfl rfl rfl (Nat.le_refl _) (Nat.le_refl _) r y' (T_X10_blamed (xs (i + 1).toNatClampNeg) y (r, y') hr) ?_
  exact cn_icmp_eq hC.1 dL_law_932 (fun _ => kk x' y' hi') (fun q => absurd rfl q)
/-- ahead: class and reference answer alike, and stand alike behind it -/
def lq_ahead (I : ax_S → ax_S → Prop) : Prop := ∀ (x y : ax_S) (a1 : Int32) (a2 : Int32), I x y → ∃ r x' y', f_X9_ahead a1 a2 x = some (r, x') ∧ f_X10_ahead a1 a2 y = some (r, y') ∧ I x' y'
theorem lw_case_23 {V : cn_V} {adC adR : Nat → Nat} {b L : Nat} {xs : Nat → Int32} (hC : lw_C V adC adR b L xs) {i : Int32} (hin : lw_in L i) {I : ax_S → ax_S → Prop} (hm : lq_ahead I) {x y : ax_S} (hI : I x y) (kk : ∀ x' y', I x' y' → cn_At V 1528 [some (.ref b), some (.ref (adC 0)), some (.ref (adR 0)), some (.int i)] [] (cn_W V adC adR x' y') 67 14394) : cn_At V 937 [some (.ref b), some (.ref (adC 0)), some (.ref (adR 0)), some (.int i)] [] (cn_W V adC adR x y) 67 14394 := by
  obtain ⟨r, x', y', hc, hr, hi'⟩ := hm x y (xs (i + 1).toNatClampNeg) (xs (i + 2).toNatClampNeg) hI
  refine cn_aload_n hC.1 dL_law_937 rfl ?_
  refine cn_aload_n hC.1 dL_law_938 rfl ?_
  refine cn_iload_n hC.1 dL_law_939 rfl ?_
  refine cn_iconst hC.1 (1 : Int32) dL_law_940 (by decide) ?_
  refine cn_iadd hC.1 dL_law_941 ?_
  refine cn_sld hC.1 hC.2.2.1 hC.2.2.2.1 hC.2.2.2.2 hin.2.1 dL_law_942 ?_
  refine cn_aload_n hC.1 dL_law_943 rfl ?_
  refine cn_iload_n hC.1 dL_law_944 rfl ?_
  refine cn_iconst hC.1 (2 : Int32) dL_law_945 (by decide) ?_
  refine cn_iadd hC.1 dL_law_946 ?_
  refine cn_sld hC.1 hC.2.2.1 hC.2.2.2.1 hC.2.2.2.2 hin.2.2.1 dL_law_947 ?_
  refine cn_cCi hC.1 hC.2.1 lkL_116 rfl dL_law_948 [.int (xs (i + 1).toNatClampNeg), .int (xs (i + 2).toNatClampNeg)] [] (fun ad => [.ref (ad 0), .int (xs (i + 1).toNatClampNeg), .int (xs (i + 2).toNatClampNeg)]) rfl rfl rfl rfl (Nat.le_refl _) (Nat.le_refl _) r x' (T_X9_ahead (xs (i + 1).toNatClampNeg) (xs (i + 2).toNatClampNeg) x (r, x') hc) ?_
  refine cn_aload_n hC.1 dL_law_951 rfl ?_
  refine cn_aload_n hC.1 dL_law_952 rfl ?_
  refine cn_iload_n hC.1 dL_law_953 rfl ?_
  refine cn_iconst hC.1 (1 : Int32) dL_law_954 (by decide) ?_
  refine cn_iadd hC.1 dL_law_955 ?_
  refine cn_sld hC.1 hC.2.2.1 hC.2.2.2.1 hC.2.2.2.2 hin.2.1 dL_law_956 ?_
  refine cn_aload_n hC.1 dL_law_957 rfl ?_
  refine cn_iload_n hC.1 dL_law_958 rfl ?_
  refine cn_iconst hC.1 (2 : Int32) dL_law_959 (by decide) ?_
  refine cn_iadd hC.1 dL_law_960 ?_
  refine cn_sld hC.1 hC.2.2.1 hC.2.2.2.1 hC.2.2.2.2 hin.2.2.1 dL_law_961 ?_
  refine cn_cRi hC.1 lkL_119 rfl dL_law_962 [.int (xs (i + 1).toNatClampNeg), .int (xs (i + 2).toNatClampNeg)] [.int r] (fun ad => [.ref (ad 0), .int (xs (i + 1).toNatClampNeg), .int (xs (i + 2).toNatClampNeg)]) rfl rfl rfl rfl (Nat.le_refl _) (Nat.le_refl _) r y' (T_X10_ahead (xs (i + 1).toNatClampNeg) (xs (i + 2).toNatClampNeg) y (r, y') hr) ?_
  exact cn_icmp_eq hC.1 dL_law_965 (fun _ => kk x' y' hi') (fun q => absurd rfl q)
/-- orders: class and reference answer alike, and stand alike behind it -/
def lq_orders (I : ax_S → ax_S → Prop) : Prop := ∀ (x y : ax_S) , I x y → ∃ r x' y', f_X9_orders x = some (r, x') ∧ f_X10_orders y = some (r, y') ∧ I x' y'
theorem lw_case_24 {V : cn_V} {adC adR : Nat → Nat} {b L : Nat} {xs : Nat → Int32} (hC : lw_C V adC adR b L xs) {i : Int32} (hin : lw_in L i) {I : ax_S → ax_S → Prop} (hm : lq_orders I) {x y : ax_S} (hI : I x y) (kk : ∀ x' y', I x' y' → cn_At V 1528 [some (.ref b), some (.ref (adC 0)), some (.ref (adR 0)), some (.int i)] [] (cn_W V adC adR x' y') 67 14394) : cn_At V 970 [some (.ref b), some (.ref (adC 0)), some (.ref (adR 0)), some (.int i)] [] (cn_W V adC adR x y) 67 14394 := by
  obtain ⟨r, x', y', hc, hr, hi'⟩ := hm x y  hI
  refine cn_aload_n hC.1 dL_law_970 rfl ?_
  refine cn_cCl hC.1 hC.2.1 lkL_120 rfl dL_law_971 [] [] (fun ad => [.ref (ad 0)]) rfl rfl rfl rfl (Nat.le_refl _) (Nat.le_refl _) r x' (T_X9_orders  x (r, x') hc) ?_
  refine cn_aload_n hC.1 dL_law_974 rfl ?_
  refine cn_cRl hC.1 lkL_123 rfl dL_law_975 [] [.long r] (fun ad => [.ref (ad 0)]) rfl rfl rfl rfl (Nat.le_refl _) (Nat.le_refl _) r y' (T_X10_orders  y (r, y') hr) ?_
  refine cn_lcmp hC.1 dL_law_978 ?_
  exact cn_if_eq hC.1 dL_law_979 (fun _ => kk x' y' hi') (fun q => absurd (by simp [lg_cmp]) q)
/-- share: class and reference answer alike, and stand alike behind it -/
def lq_share (I : ax_S → ax_S → Prop) : Prop := ∀ (x y : ax_S) (a1 : Int32) (a2 : Int32) (a3 : Int32), I x y → ∃ r x' y', f_X9_share a1 a2 a3 x = some (r, x') ∧ f_X10_share a1 a2 a3 y = some (r, y') ∧ I x' y'
theorem lw_case_25 {V : cn_V} {adC adR : Nat → Nat} {b L : Nat} {xs : Nat → Int32} (hC : lw_C V adC adR b L xs) {i : Int32} (hin : lw_in L i) {I : ax_S → ax_S → Prop} (hm : lq_share I) {x y : ax_S} (hI : I x y) (kk : ∀ x' y', I x' y' → cn_At V 1528 [some (.ref b), some (.ref (adC 0)), some (.ref (adR 0)), some (.int i)] [] (cn_W V adC adR x' y') 67 14394) : cn_At V 984 [some (.ref b), some (.ref (adC 0)), some (.ref (adR 0)), some (.int i)] [] (cn_W V adC adR x y) 67 14394 := by
  obtain ⟨r, x', y', hc, hr, hi'⟩ := hm x y (xs (i + 1).toNatClampNeg) (xs (i + 2).toNatClampNeg) (xs (i + 3).toNatClampNeg) hI
  refine cn_aload_n hC.1 dL_law_984 rfl ?_
  refine cn_aload_n hC.1 dL_law_985 rfl ?_
  refine cn_iload_n hC.1 dL_law_986 rfl ?_
  refine cn_iconst hC.1 (1 : Int32) dL_law_987 (by decide) ?_
  refine cn_iadd hC.1 dL_law_988 ?_
  refine cn_sld hC.1 hC.2.2.1 hC.2.2.2.1 hC.2.2.2.2 hin.2.1 dL_law_989 ?_
  refine cn_aload_n hC.1 dL_law_990 rfl ?_
  refine cn_iload_n hC.1 dL_law_991 rfl ?_
  refine cn_iconst hC.1 (2 : Int32) dL_law_992 (by decide) ?_
  refine cn_iadd hC.1 dL_law_993 ?_
  refine cn_sld hC.1 hC.2.2.1 hC.2.2.2.1 hC.2.2.2.2 hin.2.2.1 dL_law_994 ?_
  refine cn_aload_n hC.1 dL_law_995 rfl ?_
  refine cn_iload_n hC.1 dL_law_996 rfl ?_
  refine cn_iconst hC.1 (3 : Int32) dL_law_997 (by decide) ?_
  refine cn_iadd hC.1 dL_law_998 ?_
  refine cn_sld hC.1 hC.2.2.1 hC.2.2.2.1 hC.2.2.2.2 hin.2.2.2.1 dL_law_999 ?_
  refine cn_cCl hC.1 hC.2.1 lkL_124 rfl dL_law_1000 [.int (xs (i + 1).toNatClampNeg), .int (xs (i + 2).toNatClampNeg), .int (xs (i + 3).toNatClampNeg)] [] (fun ad => [.ref (ad 0), .int (xs (i + 1).toNatClampNeg), .int (xs (i + 2).toNatClampNeg), .int (xs (i + 3).toNatClampNeg)]) rfl rfl rfl rfl (Nat.le_refl _) (Nat.le_refl _) r x' (T_X9_share (xs (i + 1).toNatClampNeg) (xs (i + 2).toNatClampNeg) (xs (i + 3).toNatClampNeg) x (r, x') hc) ?_
  refine cn_aload_n hC.1 dL_law_1003 rfl ?_
  refine cn_aload_n hC.1 dL_law_1004 rfl ?_
  refine cn_iload_n hC.1 dL_law_1005 rfl ?_
  refine cn_iconst hC.1 (1 : Int32) dL_law_1006 (by decide) ?_
  refine cn_iadd hC.1 dL_law_1007 ?_
  refine cn_sld hC.1 hC.2.2.1 hC.2.2.2.1 hC.2.2.2.2 hin.2.1 dL_law_1008 ?_
  refine cn_aload_n hC.1 dL_law_1009 rfl ?_
  refine cn_iload_n hC.1 dL_law_1010 rfl ?_
  refine cn_iconst hC.1 (2 : Int32) dL_law_1011 (by decide) ?_
  refine cn_iadd hC.1 dL_law_1012 ?_
  refine cn_sld hC.1 hC.2.2.1 hC.2.2.2.1 hC.2.2.2.2 hin.2.2.1 dL_law_1013 ?_
  refine cn_aload_n hC.1 dL_law_1014 rfl ?_
  refine cn_iload_n hC.1 dL_law_1015 rfl ?_
  refine cn_iconst hC.1 (3 : Int32) dL_law_1016 (by decide) ?_
  refine cn_iadd hC.1 dL_law_1017 ?_
  refine cn_sld hC.1 hC.2.2.1 hC.2.2.2.1 hC.2.2.2.2 hin.2.2.2.1 dL_law_1018 ?_
  refine cn_cRl hC.1 lkL_128 rfl dL_law_1019 [.int (xs (i + 1).toNatClampNeg), .int (xs (i + 2).toNatClampNeg), .int (xs (i + 3).toNatClampNeg)] [.long r] (fun ad => [.ref (ad 0), .int (xs (i + 1).toNatClampNeg), .int (xs (i + 2).toNatClampNeg), .int (xs (i + 3).toNatClampNeg)]) rfl rfl rfl rfl (Nat.le_refl _) (Nat.le_refl _) r y' (T_X10_share (xs (i + 1).toNatClampNeg) (xs (i + 2).toNatClampNeg) (xs (i + 3).toNatClampNeg) y (r, y') hr) ?_
  refine cn_lcmp hC.1 dL_law_1022 ?_
  exact cn_if_eq hC.1 dL_law_1023 (fun _ => kk x' y' hi') (fun q => absurd (by simp [lg_cmp]) q)
/-- first: class and reference answer alike, and stand alike behind it -/
def lq_first (I : ax_S → ax_S → Prop) : Prop := ∀ (x y : ax_S) (a1 : Int32), I x y → ∃ r x' y', f_X9_first a1 x = some (r, x') ∧ f_X10_first a1 y = some (r, y') ∧ I x' y'
theorem lw_case_26 {V : cn_V} {adC adR : Nat → Nat} {b L : Nat} {xs : Nat → Int32} (hC : lw_C V adC adR b L xs) {i : Int32} (hin : lw_in L i) {I : ax_S → ax_S → Prop} (hm : lq_first I) {x y : ax_S} (hI : I x y) (kk : ∀ x' y', I x' y' → cn_At V 1528 [some (.ref b), some (.ref (adC 0)), some (.ref (adR 0)), some (.int i)] [] (cn_W V adC adR x' y') 67 14394) : cn_At V 1028 [some (.ref b), some (.ref (adC 0)), some (.ref (adR 0)), some (.int i)] [] (cn_W V adC adR x y) 67 14394 := by
  obtain ⟨r, x', y', hc, hr, hi'⟩ := hm x y (xs (i + 1).toNatClampNeg) hI
  refine cn_aload_n hC.1 dL_law_1028 rfl ?_
  refine cn_aload_n hC.1 dL_law_1029 rfl ?_
  refine cn_iload_n hC.1 dL_law_1030 rfl ?_
  refine cn_iconst hC.1 (1 : Int32) dL_law_1031 (by decide) ?_
  refine cn_iadd hC.1 dL_law_1032 ?_
  refine cn_sld hC.1 hC.2.2.1 hC.2.2.2.1 hC.2.2.2.2 hin.2.1 dL_law_1033 ?_
  refine cn_cCl hC.1 hC.2.1 lkL_129 rfl dL_law_1034 [.int (xs (i + 1).toNatClampNeg)] [] (fun ad => [.ref (ad 0), .int (xs (i + 1).toNatClampNeg)]) rfl rfl rfl rfl (Nat.le_refl _) (Nat.le_refl _) r x' (T_X9_first (xs (i + 1).toNatClampNeg) x (r, x') hc) ?_
  refine cn_aload_n hC.1 dL_law_1037 rfl ?_
  refine cn_aload_n hC.1 dL_law_1038 rfl ?_
  refine cn_iload_n hC.1 dL_law_1039 rfl ?_
  refine cn_iconst hC.1 (1 : Int32) dL_law_1040 (by decide) ?_
  refine cn_iadd hC.1 dL_law_1041 ?_
  refine cn_sld hC.1 hC.2.2.1 hC.2.2.2.1 hC.2.2.2.2 hin.2.1 dL_law_1042 ?_
  refine cn_cRl hC.1 lkL_132 rfl dL_law_1043 [.int (xs (i + 1).toNatClampNeg)] [.long r] (fun ad => [.ref (ad 0), .int (xs (i + 1).toNatClampNeg)]) rfl rfl rfl rfl (Nat.le_refl _) (Nat.le_refl _) r y' (T_X10_first (xs (i + 1).toNatClampNeg) y (r, y') hr) ?_
  refine cn_lcmp hC.1 dL_law_1046 ?_
  exact cn_if_eq hC.1 dL_law_1047 (fun _ => kk x' y' hi') (fun q => absurd (by simp [lg_cmp]) q)
/-- question: class and reference answer alike, and stand alike behind it -/
def lq_question (I : ax_S → ax_S → Prop) : Prop := ∀ (x y : ax_S) , I x y → ∃ r x' y', f_X9_question x = some (r, x') ∧ f_X10_question y = some (r, y') ∧ I x' y'
theorem lw_case_27 {V : cn_V} {adC adR : Nat → Nat} {b L : Nat} {xs : Nat → Int32} (hC : lw_C V adC adR b L xs) {i : Int32} (hin : lw_in L i) {I : ax_S → ax_S → Prop} (hm : lq_question I) {x y : ax_S} (hI : I x y) (kk : ∀ x' y', I x' y' → cn_At V 1528 [some (.ref b), some (.ref (adC 0)), some (.ref (adR 0)), some (.int i)] [] (cn_W V adC adR x' y') 67 14394) : cn_At V 1052 [some (.ref b), some (.ref (adC 0)), some (.ref (adR 0)), some (.int i)] [] (cn_W V adC adR x y) 67 14394 := by
  obtain ⟨r, x', y', hc, hr, hi'⟩ := hm x y  hI
  refine cn_aload_n hC.1 dL_law_1052 rfl ?_
  refine cn_cCi hC.1 hC.2.1 lkL_133 rfl dL_law_1053 [] [] (fun ad => [.ref (ad 0)]) rfl rfl rfl rfl (Nat.le_refl _) (Nat.le_refl _) r x' (T_X9_question  x (r, x') hc) ?_
  refine cn_aload_n hC.1 dL_law_1056 rfl ?_
  refine cn_cRi hC.1 lkL_136 rfl dL_law_1057 [] [.int r] (fun ad => [.ref (ad 0)]) rfl rfl rfl rfl (Nat.le_refl _) (Nat.le_refl _) r y' (T_X10_question  y (r, y') hr) ?_
  exact cn_icmp_eq hC.1 dL_law_1060 (fun _ => kk x' y' hi') (fun q => absurd rfl q)
/-- dayOf: class and reference answer alike, and stand alike behind it -/
def lq_dayOf (I : ax_S → ax_S → Prop) : Prop := ∀ (x y : ax_S) (a1 : Int32) (a2 : Int32) (a3 : Int32) (a4 : Int32), I x y → ∃ r, f_X9_dayOf a1 a2 a3 a4 x = some r ∧ f_X10_dayOf a1 a2 a3 a4 = some r ∧ I x y
theorem lw_case_28 {V : cn_V} {adC adR : Nat → Nat} {b L : Nat} {xs : Nat → Int32} (hC : lw_C V adC adR b L xs) {i : Int32} (hin : lw_in L i) {I : ax_S → ax_S → Prop} (hm : lq_dayOf I) {x y : ax_S} (hI : I x y) (kk : ∀ x' y', I x' y' → cn_At V 1528 [some (.ref b), some (.ref (adC 0)), some (.ref (adR 0)), some (.int i)] [] (cn_W V adC adR x' y') 67 14394) : cn_At V 1065 [some (.ref b), some (.ref (adC 0)), some (.ref (adR 0)), some (.int i)] [] (cn_W V adC adR x y) 67 14394 := by
  obtain ⟨r, hc, hr, hi'⟩ := hm x y (xs (i + 1).toNatClampNeg) (xs (i + 2).toNatClampNeg) (xs (i + 3).toNatClampNeg) (xs (i + 4).toNatClampNeg) hI
  refine cn_aload_n hC.1 dL_law_1065 rfl ?_
  refine cn_aload_n hC.1 dL_law_1066 rfl ?_
  refine cn_iload_n hC.1 dL_law_1067 rfl ?_
  refine cn_iconst hC.1 (1 : Int32) dL_law_1068 (by decide) ?_
  refine cn_iadd hC.1 dL_law_1069 ?_
  refine cn_sld hC.1 hC.2.2.1 hC.2.2.2.1 hC.2.2.2.2 hin.2.1 dL_law_1070 ?_
  refine cn_aload_n hC.1 dL_law_1071 rfl ?_
  refine cn_iload_n hC.1 dL_law_1072 rfl ?_
  refine cn_iconst hC.1 (2 : Int32) dL_law_1073 (by decide) ?_
  refine cn_iadd hC.1 dL_law_1074 ?_
  refine cn_sld hC.1 hC.2.2.1 hC.2.2.2.1 hC.2.2.2.2 hin.2.2.1 dL_law_1075 ?_
  refine cn_aload_n hC.1 dL_law_1076 rfl ?_
  refine cn_iload_n hC.1 dL_law_1077 rfl ?_
  refine cn_iconst hC.1 (3 : Int32) dL_law_1078 (by decide) ?_
  refine cn_iadd hC.1 dL_law_1079 ?_
  refine cn_sld hC.1 hC.2.2.1 hC.2.2.2.1 hC.2.2.2.2 hin.2.2.2.1 dL_law_1080 ?_
  refine cn_aload_n hC.1 dL_law_1081 rfl ?_
  refine cn_iload_n hC.1 dL_law_1082 rfl ?_
  refine cn_iconst hC.1 (4 : Int32) dL_law_1083 (by decide) ?_
  refine cn_iadd hC.1 dL_law_1084 ?_
  refine cn_sld hC.1 hC.2.2.1 hC.2.2.2.1 hC.2.2.2.2 hin.2.2.2.2.1 dL_law_1085 ?_
  refine cn_cCi hC.1 hC.2.1 lkL_137 rfl dL_law_1086 [.int (xs (i + 1).toNatClampNeg), .int (xs (i + 2).toNatClampNeg), .int (xs (i + 3).toNatClampNeg), .int (xs (i + 4).toNatClampNeg)] [] (fun ad => [.ref (ad 0), .int (xs (i + 1).toNatClampNeg), .int (xs (i + 2).toNatClampNeg), .int (xs (i + 3).toNatClampNeg), .int (xs (i + 4).toNatClampNeg)]) rfl rfl rfl rfl (Nat.le_refl _) (Nat.le_refl _) r x (T_X9_dayOf (xs (i + 1).toNatClampNeg) (xs (i + 2).toNatClampNeg) (xs (i + 3).toNatClampNeg) (xs (i + 4).toNatClampNeg) x r hc) ?_
  refine cn_aload_n hC.1 dL_law_1089 rfl ?_
  refine cn_aload_n hC.1 dL_law_1090 rfl ?_
  refine cn_iload_n hC.1 dL_law_1091 rfl ?_
  refine cn_iconst hC.1 (1 : Int32) dL_law_1092 (by decide) ?_
  refine cn_iadd hC.1 dL_law_1093 ?_
  refine cn_sld hC.1 hC.2.2.1 hC.2.2.2.1 hC.2.2.2.2 hin.2.1 dL_law_1094 ?_
  refine cn_aload_n hC.1 dL_law_1095 rfl ?_
  refine cn_iload_n hC.1 dL_law_1096 rfl ?_
  refine cn_iconst hC.1 (2 : Int32) dL_law_1097 (by decide) ?_
  refine cn_iadd hC.1 dL_law_1098 ?_
  refine cn_sld hC.1 hC.2.2.1 hC.2.2.2.1 hC.2.2.2.2 hin.2.2.1 dL_law_1099 ?_
  refine cn_aload_n hC.1 dL_law_1100 rfl ?_
  refine cn_iload_n hC.1 dL_law_1101 rfl ?_
  refine cn_iconst hC.1 (3 : Int32) dL_law_1102 (by decide) ?_
  refine cn_iadd hC.1 dL_law_1103 ?_
  refine cn_sld hC.1 hC.2.2.1 hC.2.2.2.1 hC.2.2.2.2 hin.2.2.2.1 dL_law_1104 ?_
  refine cn_aload_n hC.1 dL_law_1105 rfl ?_
  refine cn_iload_n hC.1 dL_law_1106 rfl ?_
  refine cn_iconst hC.1 (4 : Int32) dL_law_1107 (by decide) ?_
  refine cn_iadd hC.1 dL_law_1108 ?_
  refine cn_sld hC.1 hC.2.2.1 hC.2.2.2.1 hC.2.2.2.2 hin.2.2.2.2.1 dL_law_1109 ?_
  refine cn_cRi hC.1 lkL_140 rfl dL_law_1110 [.int (xs (i + 1).toNatClampNeg), .int (xs (i + 2).toNatClampNeg), .int (xs (i + 3).toNatClampNeg), .int (xs (i + 4).toNatClampNeg)] [.int r] (fun ad => [.ref (ad 0), .int (xs (i + 1).toNatClampNeg), .int (xs (i + 2).toNatClampNeg), .int (xs (i + 3).toNatClampNeg), .int (xs (i + 4).toNatClampNeg)]) rfl rfl rfl rfl (Nat.le_refl _) (Nat.le_refl _) r y (T_X10_dayOf (xs (i + 1).toNatClampNeg) (xs (i + 2).toNatClampNeg) (xs (i + 3).toNatClampNeg) (xs (i + 4).toNatClampNeg) y r hr) ?_
  exact cn_icmp_eq hC.1 dL_law_1113 (fun _ => kk x y hi') (fun q => absurd rfl q)
/-- dateOf: class and reference answer alike, and stand alike behind it -/
def lq_dateOf (I : ax_S → ax_S → Prop) : Prop := ∀ (x y : ax_S) (a1 : Int32) (a2 : Int32) (a3 : Int32), I x y → ∃ r, f_X9_dateOf a1 a2 a3 x = some r ∧ f_X10_dateOf a1 a2 a3 = some r ∧ I x y
theorem lw_case_29 {V : cn_V} {adC adR : Nat → Nat} {b L : Nat} {xs : Nat → Int32} (hC : lw_C V adC adR b L xs) {i : Int32} (hin : lw_in L i) {I : ax_S → ax_S → Prop} (hm : lq_dateOf I) {x y : ax_S} (hI : I x y) (kk : ∀ x' y', I x' y' → cn_At V 1528 [some (.ref b), some (.ref (adC 0)), some (.ref (adR 0)), some (.int i)] [] (cn_W V adC adR x' y') 67 14394) : cn_At V 1118 [some (.ref b), some (.ref (adC 0)), some (.ref (adR 0)), some (.int i)] [] (cn_W V adC adR x y) 67 14394 := by
  obtain ⟨r, hc, hr, hi'⟩ := hm x y (xs (i + 1).toNatClampNeg) (xs (i + 2).toNatClampNeg) (xs (i + 3).toNatClampNeg) hI
  refine cn_aload_n hC.1 dL_law_1118 rfl ?_
  refine cn_aload_n hC.1 dL_law_1119 rfl ?_
  refine cn_iload_n hC.1 dL_law_1120 rfl ?_
  refine cn_iconst hC.1 (1 : Int32) dL_law_1121 (by decide) ?_
  refine cn_iadd hC.1 dL_law_1122 ?_
  refine cn_sld hC.1 hC.2.2.1 hC.2.2.2.1 hC.2.2.2.2 hin.2.1 dL_law_1123 ?_
  refine cn_aload_n hC.1 dL_law_1124 rfl ?_
  refine cn_iload_n hC.1 dL_law_1125 rfl ?_
  refine cn_iconst hC.1 (2 : Int32) dL_law_1126 (by decide) ?_
  refine cn_iadd hC.1 dL_law_1127 ?_
  refine cn_sld hC.1 hC.2.2.1 hC.2.2.2.1 hC.2.2.2.2 hin.2.2.1 dL_law_1128 ?_
  refine cn_aload_n hC.1 dL_law_1129 rfl ?_
  refine cn_iload_n hC.1 dL_law_1130 rfl ?_
  refine cn_iconst hC.1 (3 : Int32) dL_law_1131 (by decide) ?_
  refine cn_iadd hC.1 dL_law_1132 ?_
  refine cn_sld hC.1 hC.2.2.1 hC.2.2.2.1 hC.2.2.2.2 hin.2.2.2.1 dL_law_1133 ?_
  refine cn_cCi hC.1 hC.2.1 lkL_141 rfl dL_law_1134 [.int (xs (i + 1).toNatClampNeg), .int (xs (i + 2).toNatClampNeg), .int (xs (i + 3).toNatClampNeg)] [] (fun ad => [.ref (ad 0), .int (xs (i + 1).toNatClampNeg), .int (xs (i + 2).toNatClampNeg), .int (xs (i + 3).toNatClampNeg)]) rfl rfl rfl rfl (Nat.le_refl _) (Nat.le_refl _) r x (T_X9_dateOf (xs (i + 1).toNatClampNeg) (xs (i + 2).toNatClampNeg) (xs (i + 3).toNatClampNeg) x r hc) ?_
  refine cn_aload_n hC.1 dL_law_1137 rfl ?_
  refine cn_aload_n hC.1 dL_law_1138 rfl ?_
  refine cn_iload_n hC.1 dL_law_1139 rfl ?_
  refine cn_iconst hC.1 (1 : Int32) dL_law_1140 (by decide) ?_
  refine cn_iadd hC.1 dL_law_1141 ?_
  refine cn_sld hC.1 hC.2.2.1 hC.2.2.2.1 hC.2.2.2.2 hin.2.1 dL_law_1142 ?_
  refine cn_aload_n hC.1 dL_law_1143 rfl ?_
  refine cn_iload_n hC.1 dL_law_1144 rfl ?_
  refine cn_iconst hC.1 (2 : Int32) dL_law_1145 (by decide) ?_
  refine cn_iadd hC.1 dL_law_1146 ?_
  refine cn_sld hC.1 hC.2.2.1 hC.2.2.2.1 hC.2.2.2.2 hin.2.2.1 dL_law_1147 ?_
  refine cn_aload_n hC.1 dL_law_1148 rfl ?_
  refine cn_iload_n hC.1 dL_law_1149 rfl ?_
  refine cn_iconst hC.1 (3 : Int32) dL_law_1150 (by decide) ?_
  refine cn_iadd hC.1 dL_law_1151 ?_
  refine cn_sld hC.1 hC.2.2.1 hC.2.2.2.1 hC.2.2.2.2 hin.2.2.2.1 dL_law_1152 ?_
  refine cn_cRi hC.1 lkL_144 rfl dL_law_1153 [.int (xs (i + 1).toNatClampNeg), .int (xs (i + 2).toNatClampNeg), .int (xs (i + 3).toNatClampNeg)] [.int r] (fun ad => [.ref (ad 0), .int (xs (i + 1).toNatClampNeg), .int (xs (i + 2).toNatClampNeg), .int (xs (i + 3).toNatClampNeg)]) rfl rfl rfl rfl (Nat.le_refl _) (Nat.le_refl _) r y (T_X10_dateOf (xs (i + 1).toNatClampNeg) (xs (i + 2).toNatClampNeg) (xs (i + 3).toNatClampNeg) y r hr) ?_
  exact cn_icmp_eq hC.1 dL_law_1156 (fun _ => kk x y hi') (fun q => absurd rfl q)
/-- type: class and reference answer alike, and stand alike behind it -/
def lq_type (I : ax_S → ax_S → Prop) : Prop := ∀ (x y : ax_S) (a1 : Int32), I x y → ∃ r x' y', f_X9_type a1 x = some (r, x') ∧ f_X10_type a1 y = some (r, y') ∧ I x' y'
theorem lw_case_30 {V : cn_V} {adC adR : Nat → Nat} {b L : Nat} {xs : Nat → Int32} (hC : lw_C V adC adR b L xs) {i : Int32} (hin : lw_in L i) {I : ax_S → ax_S → Prop} (hm : lq_type I) {x y : ax_S} (hI : I x y) (kk : ∀ x' y', I x' y' → cn_At V 1528 [some (.ref b), some (.ref (adC 0)), some (.ref (adR 0)), some (.int i)] [] (cn_W V adC adR x' y') 67 14394) : cn_At V 1161 [some (.ref b), some (.ref (adC 0)), some (.ref (adR 0)), some (.int i)] [] (cn_W V adC adR x y) 67 14394 := by
  obtain ⟨r, x', y', hc, hr, hi'⟩ := hm x y (xs (i + 1).toNatClampNeg) hI
  refine cn_aload_n hC.1 dL_law_1161 rfl ?_
  refine cn_aload_n hC.1 dL_law_1162 rfl ?_
  refine cn_iload_n hC.1 dL_law_1163 rfl ?_
  refine cn_iconst hC.1 (1 : Int32) dL_law_1164 (by decide) ?_
  refine cn_iadd hC.1 dL_law_1165 ?_
  refine cn_sld hC.1 hC.2.2.1 hC.2.2.2.1 hC.2.2.2.2 hin.2.1 dL_law_1166 ?_
  refine cn_cCi hC.1 hC.2.1 lkL_145 rfl dL_law_1167 [.int (xs (i + 1).toNatClampNeg)] [] (fun ad => [.ref (ad 0), .int (xs (i + 1).toNatClampNeg)]) rfl rfl rfl rfl (Nat.le_refl _) (Nat.le_refl _) r x' (T_X9_type (xs (i + 1).toNatClampNeg) x (r, x') hc) ?_
  refine cn_aload_n hC.1 dL_law_1170 rfl ?_
  refine cn_aload_n hC.1 dL_law_1171 rfl ?_
  refine cn_iload_n hC.1 dL_law_1172 rfl ?_
  refine cn_iconst hC.1 (1 : Int32) dL_law_1173 (by decide) ?_
  refine cn_iadd hC.1 dL_law_1174 ?_
  refine cn_sld hC.1 hC.2.2.1 hC.2.2.2.1 hC.2.2.2.2 hin.2.1 dL_law_1175 ?_
  refine cn_cRi hC.1 lkL_148 rfl dL_law_1176 [.int (xs (i + 1).toNatClampNeg)] [.int r] (fun ad => [.ref (ad 0), .int (xs (i + 1).toNatClampNeg)]) rfl rfl rfl rfl (Nat.le_refl _) (Nat.le_refl _) r y' (T_X10_type (xs (i + 1).toNatClampNeg) y (r, y') hr) ?_
  exact cn_icmp_eq hC.1 dL_law_1179 (fun _ => kk x' y' hi') (fun q => absurd rfl q)
/-- wipe: class and reference answer alike, and stand alike behind it -/
def lq_wipe (I : ax_S → ax_S → Prop) : Prop := ∀ (x y : ax_S) , I x y → ∃ r x' y', f_X9_wipe x = some (r, x') ∧ f_X10_wipe y = some (r, y') ∧ I x' y'
theorem lw_case_31 {V : cn_V} {adC adR : Nat → Nat} {b L : Nat} {xs : Nat → Int32} (hC : lw_C V adC adR b L xs) {i : Int32} (hin : lw_in L i) {I : ax_S → ax_S → Prop} (hm : lq_wipe I) {x y : ax_S} (hI : I x y) (kk : ∀ x' y', I x' y' → cn_At V 1528 [some (.ref b), some (.ref (adC 0)), some (.ref (adR 0)), some (.int i)] [] (cn_W V adC adR x' y') 67 14394) : cn_At V 1184 [some (.ref b), some (.ref (adC 0)), some (.ref (adR 0)), some (.int i)] [] (cn_W V adC adR x y) 67 14394 := by
  obtain ⟨r, x', y', hc, hr, hi'⟩ := hm x y  hI
  refine cn_aload_n hC.1 dL_law_1184 rfl ?_
  refine cn_cCi hC.1 hC.2.1 lkL_149 rfl dL_law_1185 [] [] (fun ad => [.ref (ad 0)]) rfl rfl rfl rfl (Nat.le_refl _) (Nat.le_refl _) r x' (T_X9_wipe  x (r, x') hc) ?_
  refine cn_aload_n hC.1 dL_law_1188 rfl ?_
  refine cn_cRi hC.1 lkL_152 rfl dL_law_1189 [] [.int r] (fun ad => [.ref (ad 0)]) rfl rfl rfl rfl (Nat.le_refl _) (Nat.le_refl _) r y' (T_X10_wipe  y (r, y') hr) ?_
  exact cn_icmp_eq hC.1 dL_law_1192 (fun _ => kk x' y' hi') (fun q => absurd rfl q)
/-- fault: class and reference answer alike, and stand alike behind it -/
def lq_fault (I : ax_S → ax_S → Prop) : Prop := ∀ (x y : ax_S) , I x y → ∃ r x' y', f_X9_fault x = some (r, x') ∧ f_X10_fault y = some (r, y') ∧ I x' y'
theorem lw_case_32 {V : cn_V} {adC adR : Nat → Nat} {b L : Nat} {xs : Nat → Int32} (hC : lw_C V adC adR b L xs) {i : Int32} (hin : lw_in L i) {I : ax_S → ax_S → Prop} (hm : lq_fault I) {x y : ax_S} (hI : I x y) (kk : ∀ x' y', I x' y' → cn_At V 1528 [some (.ref b), some (.ref (adC 0)), some (.ref (adR 0)), some (.int i)] [] (cn_W V adC adR x' y') 67 14394) : cn_At V 1197 [some (.ref b), some (.ref (adC 0)), some (.ref (adR 0)), some (.int i)] [] (cn_W V adC adR x y) 67 14394 := by
  obtain ⟨r, x', y', hc, hr, hi'⟩ := hm x y  hI
  refine cn_aload_n hC.1 dL_law_1197 rfl ?_
  refine cn_cCi hC.1 hC.2.1 lkL_153 rfl dL_law_1198 [] [] (fun ad => [.ref (ad 0)]) rfl rfl rfl rfl (Nat.le_refl _) (Nat.le_refl _) r x' (T_X9_fault  x (r, x') hc) ?_
  refine cn_aload_n hC.1 dL_law_1201 rfl ?_
  refine cn_cRi hC.1 lkL_156 rfl dL_law_1202 [] [.int r] (fun ad => [.ref (ad 0)]) rfl rfl rfl rfl (Nat.le_refl _) (Nat.le_refl _) r y' (T_X10_fault  y (r, y') hr) ?_
  exact cn_icmp_eq hC.1 dL_law_1205 (fun _ => kk x' y' hi') (fun q => absurd rfl q)
/-- said: class and reference answer alike, and stand alike behind it -/
def lq_said (I : ax_S → ax_S → Prop) : Prop := ∀ (x y : ax_S) (a1 : Int32) (a2 : Int32), I x y → ∃ r x' y', f_X9_said a1 a2 x = some (r, x') ∧ f_X10_said a1 a2 y = some (r, y') ∧ I x' y'
theorem lw_case_33 {V : cn_V} {adC adR : Nat → Nat} {b L : Nat} {xs : Nat → Int32} (hC : lw_C V adC adR b L xs) {i : Int32} (hin : lw_in L i) {I : ax_S → ax_S → Prop} (hm : lq_said I) {x y : ax_S} (hI : I x y) (kk : ∀ x' y', I x' y' → cn_At V 1528 [some (.ref b), some (.ref (adC 0)), some (.ref (adR 0)), some (.int i)] [] (cn_W V adC adR x' y') 67 14394) : cn_At V 1210 [some (.ref b), some (.ref (adC 0)), some (.ref (adR 0)), some (.int i)] [] (cn_W V adC adR x y) 67 14394 := by
  obtain ⟨r, x', y', hc, hr, hi'⟩ := hm x y (xs (i + 1).toNatClampNeg) (xs (i + 2).toNatClampNeg) hI
  refine cn_aload_n hC.1 dL_law_1210 rfl ?_
  refine cn_aload_n hC.1 dL_law_1211 rfl ?_
  refine cn_iload_n hC.1 dL_law_1212 rfl ?_
  refine cn_iconst hC.1 (1 : Int32) dL_law_1213 (by decide) ?_
  refine cn_iadd hC.1 dL_law_1214 ?_
  refine cn_sld hC.1 hC.2.2.1 hC.2.2.2.1 hC.2.2.2.2 hin.2.1 dL_law_1215 ?_
  refine cn_aload_n hC.1 dL_law_1216 rfl ?_
  refine cn_iload_n hC.1 dL_law_1217 rfl ?_
  refine cn_iconst hC.1 (2 : Int32) dL_law_1218 (by decide) ?_
  refine cn_iadd hC.1 dL_law_1219 ?_
  refine cn_sld hC.1 hC.2.2.1 hC.2.2.2.1 hC.2.2.2.2 hin.2.2.1 dL_law_1220 ?_
  refine cn_cCi hC.1 hC.2.1 lkL_157 rfl dL_law_1221 [.int (xs (i + 1).toNatClampNeg), .int (xs (i + 2).toNatClampNeg)] [] (fun ad => [.ref (ad 0), .int (xs (i + 1).toNatClampNeg), .int (xs (i + 2).toNatClampNeg)]) rfl rfl rfl rfl (Nat.le_refl _) (Nat.le_refl _) r x' (T_X9_said (xs (i + 1).toNatClampNeg) (xs (i + 2).toNatClampNeg) x (r, x') hc) ?_
  refine cn_aload_n hC.1 dL_law_1224 rfl ?_
  refine cn_aload_n hC.1 dL_law_1225 rfl ?_
  refine cn_iload_n hC.1 dL_law_1226 rfl ?_
  refine cn_iconst hC.1 (1 : Int32) dL_law_1227 (by decide) ?_
  refine cn_iadd hC.1 dL_law_1228 ?_
  refine cn_sld hC.1 hC.2.2.1 hC.2.2.2.1 hC.2.2.2.2 hin.2.1 dL_law_1229 ?_
  refine cn_aload_n hC.1 dL_law_1230 rfl ?_
  refine cn_iload_n hC.1 dL_law_1231 rfl ?_
  refine cn_iconst hC.1 (2 : Int32) dL_law_1232 (by decide) ?_
  refine cn_iadd hC.1 dL_law_1233 ?_
  refine cn_sld hC.1 hC.2.2.1 hC.2.2.2.1 hC.2.2.2.2 hin.2.2.1 dL_law_1234 ?_
  refine cn_cRi hC.1 lkL_160 rfl dL_law_1235 [.int (xs (i + 1).toNatClampNeg), .int (xs (i + 2).toNatClampNeg)] [.int r] (fun ad => [.ref (ad 0), .int (xs (i + 1).toNatClampNeg), .int (xs (i + 2).toNatClampNeg)]) rfl rfl rfl rfl (Nat.le_refl _) (Nat.le_refl _) r y' (T_X10_said (xs (i + 1).toNatClampNeg) (xs (i + 2).toNatClampNeg) y (r, y') hr) ?_
  exact cn_icmp_eq hC.1 dL_law_1238 (fun _ => kk x' y' hi') (fun q => absurd rfl q)
/-- sheet: class and reference answer alike, and stand alike behind it -/
def lq_sheet (I : ax_S → ax_S → Prop) : Prop := ∀ (x y : ax_S) (a1 : Int32) (a2 : Int32) (a3 : Int32), I x y → ∃ r x' y', f_X9_sheet a1 a2 a3 x = some (r, x') ∧ f_X10_sheet a1 a2 a3 y = some (r, y') ∧ I x' y'
theorem lw_case_34 {V : cn_V} {adC adR : Nat → Nat} {b L : Nat} {xs : Nat → Int32} (hC : lw_C V adC adR b L xs) {i : Int32} (hin : lw_in L i) {I : ax_S → ax_S → Prop} (hm : lq_sheet I) {x y : ax_S} (hI : I x y) (kk : ∀ x' y', I x' y' → cn_At V 1528 [some (.ref b), some (.ref (adC 0)), some (.ref (adR 0)), some (.int i)] [] (cn_W V adC adR x' y') 67 14394) : cn_At V 1243 [some (.ref b), some (.ref (adC 0)), some (.ref (adR 0)), some (.int i)] [] (cn_W V adC adR x y) 67 14394 := by
  obtain ⟨r, x', y', hc, hr, hi'⟩ := hm x y (xs (i + 1).toNatClampNeg) (xs (i + 2).toNatClampNeg) (xs (i + 3).toNatClampNeg) hI
  refine cn_aload_n hC.1 dL_law_1243 rfl ?_
  refine cn_aload_n hC.1 dL_law_1244 rfl ?_
  refine cn_iload_n hC.1 dL_law_1245 rfl ?_
  refine cn_iconst hC.1 (1 : Int32) dL_law_1246 (by decide) ?_
  refine cn_iadd hC.1 dL_law_1247 ?_
  refine cn_sld hC.1 hC.2.2.1 hC.2.2.2.1 hC.2.2.2.2 hin.2.1 dL_law_1248 ?_
  refine cn_aload_n hC.1 dL_law_1249 rfl ?_
  refine cn_iload_n hC.1 dL_law_1250 rfl ?_
  refine cn_iconst hC.1 (2 : Int32) dL_law_1251 (by decide) ?_
  refine cn_iadd hC.1 dL_law_1252 ?_
  refine cn_sld hC.1 hC.2.2.1 hC.2.2.2.1 hC.2.2.2.2 hin.2.2.1 dL_law_1253 ?_
  refine cn_aload_n hC.1 dL_law_1254 rfl ?_
  refine cn_iload_n hC.1 dL_law_1255 rfl ?_
  refine cn_iconst hC.1 (3 : Int32) dL_law_1256 (by decide) ?_
  refine cn_iadd hC.1 dL_law_1257 ?_
  refine cn_sld hC.1 hC.2.2.1 hC.2.2.2.1 hC.2.2.2.2 hin.2.2.2.1 dL_law_1258 ?_
  refine cn_cCi hC.1 hC.2.1 lkL_161 rfl dL_law_1259 [.int (xs (i + 1).toNatClampNeg), .int (xs (i + 2).toNatClampNeg), .int (xs (i + 3).toNatClampNeg)] [] (fun ad => [.ref (ad 0), .int (xs (i + 1).toNatClampNeg), .int (xs (i + 2).toNatClampNeg), .int (xs (i + 3).toNatClampNeg)]) rfl rfl rfl rfl (Nat.le_refl _) (Nat.le_refl _) r x' (T_X9_sheet (xs (i + 1).toNatClampNeg) (xs (i + 2).toNatClampNeg) (xs (i + 3).toNatClampNeg) x (r, x') hc) ?_
  refine cn_aload_n hC.1 dL_law_1262 rfl ?_
  refine cn_aload_n hC.1 dL_law_1263 rfl ?_
  refine cn_iload_n hC.1 dL_law_1264 rfl ?_
  refine cn_iconst hC.1 (1 : Int32) dL_law_1265 (by decide) ?_
  refine cn_iadd hC.1 dL_law_1266 ?_
  refine cn_sld hC.1 hC.2.2.1 hC.2.2.2.1 hC.2.2.2.2 hin.2.1 dL_law_1267 ?_
  refine cn_aload_n hC.1 dL_law_1268 rfl ?_
  refine cn_iload_n hC.1 dL_law_1269 rfl ?_
  refine cn_iconst hC.1 (2 : Int32) dL_law_1270 (by decide) ?_
  refine cn_iadd hC.1 dL_law_1271 ?_
  refine cn_sld hC.1 hC.2.2.1 hC.2.2.2.1 hC.2.2.2.2 hin.2.2.1 dL_law_1272 ?_
  refine cn_aload_n hC.1 dL_law_1273 rfl ?_
  refine cn_iload_n hC.1 dL_law_1274 rfl ?_
  refine cn_iconst hC.1 (3 : Int32) dL_law_1275 (by decide) ?_
  refine cn_iadd hC.1 dL_law_1276 ?_
  refine cn_sld hC.1 hC.2.2.1 hC.2.2.2.1 hC.2.2.2.2 hin.2.2.2.1 dL_law_1277 ?_
  refine cn_cRi hC.1 lkL_164 rfl dL_law_1278 [.int (xs (i + 1).toNatClampNeg), .int (xs (i + 2).toNatClampNeg), .int (xs (i + 3).toNatClampNeg)] [.int r] (fun ad => [.ref (ad 0), .int (xs (i + 1).toNatClampNeg), .int (xs (i + 2).toNatClampNeg), .int (xs (i + 3).toNatClampNeg)]) rfl rfl rfl rfl (Nat.le_refl _) (Nat.le_refl _) r y' (T_X10_sheet (xs (i + 1).toNatClampNeg) (xs (i + 2).toNatClampNeg) (xs (i + 3).toNatClampNeg) y (r, y') hr) ?_
  exact cn_icmp_eq hC.1 dL_law_1281 (fun _ => kk x' y' hi') (fun q => absurd rfl q)
/-- lose: class and reference answer alike, and stand alike behind it -/
def lq_lose (I : ax_S → ax_S → Prop) : Prop := ∀ (x y : ax_S) (a1 : Int32), I x y → ∃ r x' y', f_X9_lose a1 x = some (r, x') ∧ f_X10_lose a1 y = some (r, y') ∧ I x' y'
theorem lw_case_35 {V : cn_V} {adC adR : Nat → Nat} {b L : Nat} {xs : Nat → Int32} (hC : lw_C V adC adR b L xs) {i : Int32} (hin : lw_in L i) {I : ax_S → ax_S → Prop} (hm : lq_lose I) {x y : ax_S} (hI : I x y) (kk : ∀ x' y', I x' y' → cn_At V 1528 [some (.ref b), some (.ref (adC 0)), some (.ref (adR 0)), some (.int i)] [] (cn_W V adC adR x' y') 67 14394) : cn_At V 1286 [some (.ref b), some (.ref (adC 0)), some (.ref (adR 0)), some (.int i)] [] (cn_W V adC adR x y) 67 14394 := by
  obtain ⟨r, x', y', hc, hr, hi'⟩ := hm x y (xs (i + 1).toNatClampNeg) hI
  refine cn_aload_n hC.1 dL_law_1286 rfl ?_
  refine cn_aload_n hC.1 dL_law_1287 rfl ?_
  refine cn_iload_n hC.1 dL_law_1288 rfl ?_
  refine cn_iconst hC.1 (1 : Int32) dL_law_1289 (by decide) ?_
  refine cn_iadd hC.1 dL_law_1290 ?_
  refine cn_sld hC.1 hC.2.2.1 hC.2.2.2.1 hC.2.2.2.2 hin.2.1 dL_law_1291 ?_
  refine cn_cCi hC.1 hC.2.1 lkL_165 rfl dL_law_1292 [.int (xs (i + 1).toNatClampNeg)] [] (fun ad => [.ref (ad 0), .int (xs (i + 1).toNatClampNeg)]) rfl rfl rfl rfl (Nat.le_refl _) (Nat.le_refl _) r x' (T_X9_lose (xs (i + 1).toNatClampNeg) x (r, x') hc) ?_
  refine cn_aload_n hC.1 dL_law_1295 rfl ?_
  refine cn_aload_n hC.1 dL_law_1296 rfl ?_
  refine cn_iload_n hC.1 dL_law_1297 rfl ?_
  refine cn_iconst hC.1 (1 : Int32) dL_law_1298 (by decide) ?_
  refine cn_iadd hC.1 dL_law_1299 ?_
  refine cn_sld hC.1 hC.2.2.1 hC.2.2.2.1 hC.2.2.2.2 hin.2.1 dL_law_1300 ?_
  refine cn_cRi hC.1 lkL_168 rfl dL_law_1301 [.int (xs (i + 1).toNatClampNeg)] [.int r] (fun ad => [.ref (ad 0), .int (xs (i + 1).toNatClampNeg)]) rfl rfl rfl rfl (Nat.le_refl _) (Nat.le_refl _) r y' (T_X10_lose (xs (i + 1).toNatClampNeg) y (r, y') hr) ?_
  exact cn_icmp_eq hC.1 dL_law_1304 (fun _ => kk x' y' hi') (fun q => absurd rfl q)
/-- put: class and reference answer alike, and stand alike behind it -/
def lq_put (I : ax_S → ax_S → Prop) : Prop := ∀ (x y : ax_S) (a1 : Int32) (a2 : Int32) (a3 : Int32) (a4 : Int32), I x y → ∃ r x' y', f_X9_put a1 a2 a3 a4 x = some (r, x') ∧ f_X10_put a1 a2 a3 a4 y = some (r, y') ∧ I x' y'
theorem lw_case_36 {V : cn_V} {adC adR : Nat → Nat} {b L : Nat} {xs : Nat → Int32} (hC : lw_C V adC adR b L xs) {i : Int32} (hin : lw_in L i) {I : ax_S → ax_S → Prop} (hm : lq_put I) {x y : ax_S} (hI : I x y) (kk : ∀ x' y', I x' y' → cn_At V 1528 [some (.ref b), some (.ref (adC 0)), some (.ref (adR 0)), some (.int i)] [] (cn_W V adC adR x' y') 67 14394) : cn_At V 1309 [some (.ref b), some (.ref (adC 0)), some (.ref (adR 0)), some (.int i)] [] (cn_W V adC adR x y) 67 14394 := by
  obtain ⟨r, x', y', hc, hr, hi'⟩ := hm x y (xs (i + 1).toNatClampNeg) (xs (i + 2).toNatClampNeg) (xs (i + 3).toNatClampNeg) (xs (i + 4).toNatClampNeg) hI
  refine cn_aload_n hC.1 dL_law_1309 rfl ?_
  refine cn_aload_n hC.1 dL_law_1310 rfl ?_
  refine cn_iload_n hC.1 dL_law_1311 rfl ?_
  refine cn_iconst hC.1 (1 : Int32) dL_law_1312 (by decide) ?_
  refine cn_iadd hC.1 dL_law_1313 ?_
  refine cn_sld hC.1 hC.2.2.1 hC.2.2.2.1 hC.2.2.2.2 hin.2.1 dL_law_1314 ?_
  refine cn_aload_n hC.1 dL_law_1315 rfl ?_
  refine cn_iload_n hC.1 dL_law_1316 rfl ?_
  refine cn_iconst hC.1 (2 : Int32) dL_law_1317 (by decide) ?_
  refine cn_iadd hC.1 dL_law_1318 ?_
  refine cn_sld hC.1 hC.2.2.1 hC.2.2.2.1 hC.2.2.2.2 hin.2.2.1 dL_law_1319 ?_
  refine cn_aload_n hC.1 dL_law_1320 rfl ?_
  refine cn_iload_n hC.1 dL_law_1321 rfl ?_
  refine cn_iconst hC.1 (3 : Int32) dL_law_1322 (by decide) ?_
  refine cn_iadd hC.1 dL_law_1323 ?_
  refine cn_sld hC.1 hC.2.2.1 hC.2.2.2.1 hC.2.2.2.2 hin.2.2.2.1 dL_law_1324 ?_
  refine cn_aload_n hC.1 dL_law_1325 rfl ?_
  refine cn_iload_n hC.1 dL_law_1326 rfl ?_
  refine cn_iconst hC.1 (4 : Int32) dL_law_1327 (by decide) ?_
  refine cn_iadd hC.1 dL_law_1328 ?_
  refine cn_sld hC.1 hC.2.2.1 hC.2.2.2.1 hC.2.2.2.2 hin.2.2.2.2.1 dL_law_1329 ?_
  refine cn_cCi hC.1 hC.2.1 lkL_169 rfl dL_law_1330 [.int (xs (i + 1).toNatClampNeg), .int (xs (i + 2).toNatClampNeg), .int (xs (i + 3).toNatClampNeg), .int (xs (i + 4).toNatClampNeg)] [] (fun ad => [.ref (ad 0), .int (xs (i + 1).toNatClampNeg), .int (xs (i + 2).toNatClampNeg), .int (xs (i + 3).toNatClampNeg), .int (xs (i + 4).toNatClampNeg)]) rfl rfl rfl rfl (Nat.le_refl _) (Nat.le_refl _) r x' (T_X9_put (xs (i + 1).toNatClampNeg) (xs (i + 2).toNatClampNeg) (xs (i + 3).toNatClampNeg) (xs (i + 4).toNatClampNeg) x (r, x') hc) ?_
  refine cn_aload_n hC.1 dL_law_1333 rfl ?_
  refine cn_aload_n hC.1 dL_law_1334 rfl ?_
  refine cn_iload_n hC.1 dL_law_1335 rfl ?_
  refine cn_iconst hC.1 (1 : Int32) dL_law_1336 (by decide) ?_
  refine cn_iadd hC.1 dL_law_1337 ?_
  refine cn_sld hC.1 hC.2.2.1 hC.2.2.2.1 hC.2.2.2.2 hin.2.1 dL_law_1338 ?_
  refine cn_aload_n hC.1 dL_law_1339 rfl ?_
  refine cn_iload_n hC.1 dL_law_1340 rfl ?_
  refine cn_iconst hC.1 (2 : Int32) dL_law_1341 (by decide) ?_
  refine cn_iadd hC.1 dL_law_1342 ?_
  refine cn_sld hC.1 hC.2.2.1 hC.2.2.2.1 hC.2.2.2.2 hin.2.2.1 dL_law_1343 ?_
  refine cn_aload_n hC.1 dL_law_1344 rfl ?_
  refine cn_iload_n hC.1 dL_law_1345 rfl ?_
  refine cn_iconst hC.1 (3 : Int32) dL_law_1346 (by decide) ?_
  refine cn_iadd hC.1 dL_law_1347 ?_
  refine cn_sld hC.1 hC.2.2.1 hC.2.2.2.1 hC.2.2.2.2 hin.2.2.2.1 dL_law_1348 ?_
  refine cn_aload_n hC.1 dL_law_1349 rfl ?_
  refine cn_iload_n hC.1 dL_law_1350 rfl ?_
  refine cn_iconst hC.1 (4 : Int32) dL_law_1351 (by decide) ?_
  refine cn_iadd hC.1 dL_law_1352 ?_
  refine cn_sld hC.1 hC.2.2.1 hC.2.2.2.1 hC.2.2.2.2 hin.2.2.2.2.1 dL_law_1353 ?_
  refine cn_cRi hC.1 lkL_172 rfl dL_law_1354 [.int (xs (i + 1).toNatClampNeg), .int (xs (i + 2).toNatClampNeg), .int (xs (i + 3).toNatClampNeg), .int (xs (i + 4).toNatClampNeg)] [.int r] (fun ad => [.ref (ad 0), .int (xs (i + 1).toNatClampNeg), .int (xs (i + 2).toNatClampNeg), .int (xs (i + 3).toNatClampNeg), .int (xs (i + 4).toNatClampNeg)]) rfl rfl rfl rfl (Nat.le_refl _) (Nat.le_refl _) r y' (T_X10_put (xs (i + 1).toNatClampNeg) (xs (i + 2).toNatClampNeg) (xs (i + 3).toNatClampNeg) (xs (i + 4).toNatClampNeg) y (r, y') hr) ?_
  exact cn_icmp_eq hC.1 dL_law_1357 (fun _ => kk x' y' hi') (fun q => absurd rfl q)
/-- get: class and reference answer alike, and stand alike behind it -/
def lq_get (I : ax_S → ax_S → Prop) : Prop := ∀ (x y : ax_S) (a1 : Int32) (a2 : Int32) (a3 : Int32), I x y → ∃ r x' y', f_X9_get a1 a2 a3 x = some (r, x') ∧ f_X10_get a1 a2 a3 y = some (r, y') ∧ I x' y'
theorem lw_case_37 {V : cn_V} {adC adR : Nat → Nat} {b L : Nat} {xs : Nat → Int32} (hC : lw_C V adC adR b L xs) {i : Int32} (hin : lw_in L i) {I : ax_S → ax_S → Prop} (hm : lq_get I) {x y : ax_S} (hI : I x y) (kk : ∀ x' y', I x' y' → cn_At V 1528 [some (.ref b), some (.ref (adC 0)), some (.ref (adR 0)), some (.int i)] [] (cn_W V adC adR x' y') 67 14394) : cn_At V 1362 [some (.ref b), some (.ref (adC 0)), some (.ref (adR 0)), some (.int i)] [] (cn_W V adC adR x y) 67 14394 := by
  obtain ⟨r, x', y', hc, hr, hi'⟩ := hm x y (xs (i + 1).toNatClampNeg) (xs (i + 2).toNatClampNeg) (xs (i + 3).toNatClampNeg) hI
  refine cn_aload_n hC.1 dL_law_1362 rfl ?_
  refine cn_aload_n hC.1 dL_law_1363 rfl ?_
  refine cn_iload_n hC.1 dL_law_1364 rfl ?_
  refine cn_iconst hC.1 (1 : Int32) dL_law_1365 (by decide) ?_
  refine cn_iadd hC.1 dL_law_1366 ?_
  refine cn_sld hC.1 hC.2.2.1 hC.2.2.2.1 hC.2.2.2.2 hin.2.1 dL_law_1367 ?_
  refine cn_aload_n hC.1 dL_law_1368 rfl ?_
  refine cn_iload_n hC.1 dL_law_1369 rfl ?_
  refine cn_iconst hC.1 (2 : Int32) dL_law_1370 (by decide) ?_
  refine cn_iadd hC.1 dL_law_1371 ?_
  refine cn_sld hC.1 hC.2.2.1 hC.2.2.2.1 hC.2.2.2.2 hin.2.2.1 dL_law_1372 ?_
  refine cn_aload_n hC.1 dL_law_1373 rfl ?_
  refine cn_iload_n hC.1 dL_law_1374 rfl ?_
  refine cn_iconst hC.1 (3 : Int32) dL_law_1375 (by decide) ?_
  refine cn_iadd hC.1 dL_law_1376 ?_
  refine cn_sld hC.1 hC.2.2.1 hC.2.2.2.1 hC.2.2.2.2 hin.2.2.2.1 dL_law_1377 ?_
  refine cn_cCi hC.1 hC.2.1 lkL_173 rfl dL_law_1378 [.int (xs (i + 1).toNatClampNeg), .int (xs (i + 2).toNatClampNeg), .int (xs (i + 3).toNatClampNeg)] [] (fun ad => [.ref (ad 0), .int (xs (i + 1).toNatClampNeg), .int (xs (i + 2).toNatClampNeg), .int (xs (i + 3).toNatClampNeg)]) rfl rfl rfl rfl (Nat.le_refl _) (Nat.le_refl _) r x' (T_X9_get (xs (i + 1).toNatClampNeg) (xs (i + 2).toNatClampNeg) (xs (i + 3).toNatClampNeg) x (r, x') hc) ?_
  refine cn_aload_n hC.1 dL_law_1381 rfl ?_
  refine cn_aload_n hC.1 dL_law_1382 rfl ?_
  refine cn_iload_n hC.1 dL_law_1383 rfl ?_
  refine cn_iconst hC.1 (1 : Int32) dL_law_1384 (by decide) ?_
  refine cn_iadd hC.1 dL_law_1385 ?_
  refine cn_sld hC.1 hC.2.2.1 hC.2.2.2.1 hC.2.2.2.2 hin.2.1 dL_law_1386 ?_
  refine cn_aload_n hC.1 dL_law_1387 rfl ?_
  refine cn_iload_n hC.1 dL_law_1388 rfl ?_
  refine cn_iconst hC.1 (2 : Int32) dL_law_1389 (by decide) ?_
  refine cn_iadd hC.1 dL_law_1390 ?_
  refine cn_sld hC.1 hC.2.2.1 hC.2.2.2.1 hC.2.2.2.2 hin.2.2.1 dL_law_1391 ?_
  refine cn_aload_n hC.1 dL_law_1392 rfl ?_
  refine cn_iload_n hC.1 dL_law_1393 rfl ?_
  refine cn_iconst hC.1 (3 : Int32) dL_law_1394 (by decide) ?_
  refine cn_iadd hC.1 dL_law_1395 ?_
  refine cn_sld hC.1 hC.2.2.1 hC.2.2.2.1 hC.2.2.2.2 hin.2.2.2.1 dL_law_1396 ?_
  refine cn_cRi hC.1 lkL_176 rfl dL_law_1397 [.int (xs (i + 1).toNatClampNeg), .int (xs (i + 2).toNatClampNeg), .int (xs (i + 3).toNatClampNeg)] [.int r] (fun ad => [.ref (ad 0), .int (xs (i + 1).toNatClampNeg), .int (xs (i + 2).toNatClampNeg), .int (xs (i + 3).toNatClampNeg)]) rfl rfl rfl rfl (Nat.le_refl _) (Nat.le_refl _) r y' (T_X10_get (xs (i + 1).toNatClampNeg) (xs (i + 2).toNatClampNeg) (xs (i + 3).toNatClampNeg) y (r, y') hr) ?_
  exact cn_icmp_eq hC.1 dL_law_1400 (fun _ => kk x' y' hi') (fun q => absurd rfl q)
/-- copy: class and reference answer alike, and stand alike behind it -/
def lq_copy (I : ax_S → ax_S → Prop) : Prop := ∀ (x y : ax_S) (a1 : Int32) (a2 : Int32) (a3 : Int32) (a4 : Int32) (a5 : Int32), I x y → ∃ r x' y', f_X9_copy a1 a2 a3 a4 a5 x = some (r, x') ∧ f_X10_copy a1 a2 a3 a4 a5 y = some (r, y') ∧ I x' y'
theorem lw_case_38 {V : cn_V} {adC adR : Nat → Nat} {b L : Nat} {xs : Nat → Int32} (hC : lw_C V adC adR b L xs) {i : Int32} (hin : lw_in L i) {I : ax_S → ax_S → Prop} (hm : lq_copy I) {x y : ax_S} (hI : I x y) (kk : ∀ x' y', I x' y' → cn_At V 1528 [some (.ref b), some (.ref (adC 0)), some (.ref (adR 0)), some (.int i)] [] (cn_W V adC adR x' y') 67 14394) : cn_At V 1405 [some (.ref b), some (.ref (adC 0)), some (.ref (adR 0)), some (.int i)] [] (cn_W V adC adR x y) 67 14394 := by
  obtain ⟨r, x', y', hc, hr, hi'⟩ := hm x y (xs (i + 1).toNatClampNeg) (xs (i + 2).toNatClampNeg) (xs (i + 3).toNatClampNeg) (xs (i + 4).toNatClampNeg) (xs (i + 5).toNatClampNeg) hI
  refine cn_aload_n hC.1 dL_law_1405 rfl ?_
  refine cn_aload_n hC.1 dL_law_1406 rfl ?_
  refine cn_iload_n hC.1 dL_law_1407 rfl ?_
  refine cn_iconst hC.1 (1 : Int32) dL_law_1408 (by decide) ?_
  refine cn_iadd hC.1 dL_law_1409 ?_
  refine cn_sld hC.1 hC.2.2.1 hC.2.2.2.1 hC.2.2.2.2 hin.2.1 dL_law_1410 ?_
  refine cn_aload_n hC.1 dL_law_1411 rfl ?_
  refine cn_iload_n hC.1 dL_law_1412 rfl ?_
  refine cn_iconst hC.1 (2 : Int32) dL_law_1413 (by decide) ?_
  refine cn_iadd hC.1 dL_law_1414 ?_
  refine cn_sld hC.1 hC.2.2.1 hC.2.2.2.1 hC.2.2.2.2 hin.2.2.1 dL_law_1415 ?_
  refine cn_aload_n hC.1 dL_law_1416 rfl ?_
  refine cn_iload_n hC.1 dL_law_1417 rfl ?_
  refine cn_iconst hC.1 (3 : Int32) dL_law_1418 (by decide) ?_
  refine cn_iadd hC.1 dL_law_1419 ?_
  refine cn_sld hC.1 hC.2.2.1 hC.2.2.2.1 hC.2.2.2.2 hin.2.2.2.1 dL_law_1420 ?_
  refine cn_aload_n hC.1 dL_law_1421 rfl ?_
  refine cn_iload_n hC.1 dL_law_1422 rfl ?_
  refine cn_iconst hC.1 (4 : Int32) dL_law_1423 (by decide) ?_
  refine cn_iadd hC.1 dL_law_1424 ?_
  refine cn_sld hC.1 hC.2.2.1 hC.2.2.2.1 hC.2.2.2.2 hin.2.2.2.2.1 dL_law_1425 ?_
  refine cn_aload_n hC.1 dL_law_1426 rfl ?_
  refine cn_iload_n hC.1 dL_law_1427 rfl ?_
  refine cn_iconst hC.1 (5 : Int32) dL_law_1428 (by decide) ?_
  refine cn_iadd hC.1 dL_law_1429 ?_
  refine cn_sld hC.1 hC.2.2.1 hC.2.2.2.1 hC.2.2.2.2 hin.2.2.2.2.2 dL_law_1430 ?_
  refine cn_cCi hC.1 hC.2.1 lkL_177 rfl dL_law_1431 [.int (xs (i + 1).toNatClampNeg), .int (xs (i + 2).toNatClampNeg), .int (xs (i + 3).toNatClampNeg), .int (xs (i + 4).toNatClampNeg), .int (xs (i + 5).toNatClampNeg)] [] (fun ad => [.ref (ad 0), .int (xs (i + 1).toNatClampNeg), .int (xs (i + 2).toNatClampNeg), .int (xs (i + 3).toNatClampNeg), .int (xs (i + 4).toNatClampNeg), .int (xs (i + 5).toNatClampNeg)]) rfl rfl rfl rfl (Nat.le_refl _) (Nat.le_refl _) r x' (T_X9_copy (xs (i + 1).toNatClampNeg) (xs (i + 2).toNatClampNeg) (xs (i + 3).toNatClampNeg) (xs (i + 4).toNatClampNeg) (xs (i + 5).toNatClampNeg) x (r, x') hc) ?_
  refine cn_aload_n hC.1 dL_law_1434 rfl ?_
  refine cn_aload_n hC.1 dL_law_1435 rfl ?_
  refine cn_iload_n hC.1 dL_law_1436 rfl ?_
  refine cn_iconst hC.1 (1 : Int32) dL_law_1437 (by decide) ?_
  refine cn_iadd hC.1 dL_law_1438 ?_
  refine cn_sld hC.1 hC.2.2.1 hC.2.2.2.1 hC.2.2.2.2 hin.2.1 dL_law_1439 ?_
  refine cn_aload_n hC.1 dL_law_1440 rfl ?_
  refine cn_iload_n hC.1 dL_law_1441 rfl ?_
  refine cn_iconst hC.1 (2 : Int32) dL_law_1442 (by decide) ?_
  refine cn_iadd hC.1 dL_law_1443 ?_
  refine cn_sld hC.1 hC.2.2.1 hC.2.2.2.1 hC.2.2.2.2 hin.2.2.1 dL_law_1444 ?_
  refine cn_aload_n hC.1 dL_law_1445 rfl ?_
  refine cn_iload_n hC.1 dL_law_1446 rfl ?_
  refine cn_iconst hC.1 (3 : Int32) dL_law_1447 (by decide) ?_
  refine cn_iadd hC.1 dL_law_1448 ?_
  refine cn_sld hC.1 hC.2.2.1 hC.2.2.2.1 hC.2.2.2.2 hin.2.2.2.1 dL_law_1449 ?_
  refine cn_aload_n hC.1 dL_law_1450 rfl ?_
  refine cn_iload_n hC.1 dL_law_1451 rfl ?_
  refine cn_iconst hC.1 (4 : Int32) dL_law_1452 (by decide) ?_
  refine cn_iadd hC.1 dL_law_1453 ?_
  refine cn_sld hC.1 hC.2.2.1 hC.2.2.2.1 hC.2.2.2.2 hin.2.2.2.2.1 dL_law_1454 ?_
  refine cn_aload_n hC.1 dL_law_1455 rfl ?_
  refine cn_iload_n hC.1 dL_law_1456 rfl ?_
  refine cn_iconst hC.1 (5 : Int32) dL_law_1457 (by decide) ?_
  refine cn_iadd hC.1 dL_law_1458 ?_
  refine cn_sld hC.1 hC.2.2.1 hC.2.2.2.1 hC.2.2.2.2 hin.2.2.2.2.2 dL_law_1459 ?_
  refine cn_cRi hC.1 lkL_180 rfl dL_law_1460 [.int (xs (i + 1).toNatClampNeg), .int (xs (i + 2).toNatClampNeg), .int (xs (i + 3).toNatClampNeg), .int (xs (i + 4).toNatClampNeg), .int (xs (i + 5).toNatClampNeg)] [.int r] (fun ad => [.ref (ad 0), .int (xs (i + 1).toNatClampNeg), .int (xs (i + 2).toNatClampNeg), .int (xs (i + 3).toNatClampNeg), .int (xs (i + 4).toNatClampNeg), .int (xs (i + 5).toNatClampNeg)]) rfl rfl rfl rfl (Nat.le_refl _) (Nat.le_refl _) r y' (T_X10_copy (xs (i + 1).toNatClampNeg) (xs (i + 2).toNatClampNeg) (xs (i + 3).toNatClampNeg) (xs (i + 4).toNatClampNeg) (xs (i + 5).toNatClampNeg) y (r, y') hr) ?_
  exact cn_icmp_eq hC.1 dL_law_1463 (fun _ => kk x' y' hi') (fun q => absurd rfl q)
/-- write: class and reference answer alike, and stand alike behind it -/
def lq_write (I : ax_S → ax_S → Prop) : Prop := ∀ (x y : ax_S) (a1 : Int32), I x y → ∃ r x' y', f_X9_write a1 x = some (r, x') ∧ f_X10_write a1 y = some (r, y') ∧ I x' y'
theorem lw_case_39 {V : cn_V} {adC adR : Nat → Nat} {b L : Nat} {xs : Nat → Int32} (hC : lw_C V adC adR b L xs) {i : Int32} (hin : lw_in L i) {I : ax_S → ax_S → Prop} (hm : lq_write I) {x y : ax_S} (hI : I x y) (kk : ∀ x' y', I x' y' → cn_At V 1528 [some (.ref b), some (.ref (adC 0)), some (.ref (adR 0)), some (.int i)] [] (cn_W V adC adR x' y') 67 14394) : cn_At V 1468 [some (.ref b), some (.ref (adC 0)), some (.ref (adR 0)), some (.int i)] [] (cn_W V adC adR x y) 67 14394 := by
  obtain ⟨r, x', y', hc, hr, hi'⟩ := hm x y (xs (i + 1).toNatClampNeg) hI
  refine cn_aload_n hC.1 dL_law_1468 rfl ?_
  refine cn_aload_n hC.1 dL_law_1469 rfl ?_
  refine cn_iload_n hC.1 dL_law_1470 rfl ?_
  refine cn_iconst hC.1 (1 : Int32) dL_law_1471 (by decide) ?_
  refine cn_iadd hC.1 dL_law_1472 ?_
  refine cn_sld hC.1 hC.2.2.1 hC.2.2.2.1 hC.2.2.2.2 hin.2.1 dL_law_1473 ?_
  refine cn_cCi hC.1 hC.2.1 lkL_181 rfl dL_law_1474 [.int (xs (i + 1).toNatClampNeg)] [] (fun ad => [.ref (ad 0), .int (xs (i + 1).toNatClampNeg)]) rfl rfl rfl rfl (Nat.le_refl _) (Nat.le_refl _) r x' (T_X9_write (xs (i + 1).toNatClampNeg) x (r, x') hc) ?_
  refine cn_aload_n hC.1 dL_law_1477 rfl ?_
  refine cn_aload_n hC.1 dL_law_1478 rfl ?_
  refine cn_iload_n hC.1 dL_law_1479 rfl ?_
  refine cn_iconst hC.1 (1 : Int32) dL_law_1480 (by decide) ?_
  refine cn_iadd hC.1 dL_law_1481 ?_
  refine cn_sld hC.1 hC.2.2.1 hC.2.2.2.1 hC.2.2.2.2 hin.2.1 dL_law_1482 ?_
  refine cn_cRi hC.1 lkL_184 rfl dL_law_1483 [.int (xs (i + 1).toNatClampNeg)] [.int r] (fun ad => [.ref (ad 0), .int (xs (i + 1).toNatClampNeg)]) rfl rfl rfl rfl (Nat.le_refl _) (Nat.le_refl _) r y' (T_X10_write (xs (i + 1).toNatClampNeg) y (r, y') hr) ?_
  exact cn_icmp_eq hC.1 dL_law_1486 (fun _ => kk x' y' hi') (fun q => absurd rfl q)
/-- count: class and reference answer alike, and stand alike behind it -/
def lq_count (I : ax_S → ax_S → Prop) : Prop := ∀ (x y : ax_S) (a1 : Int32), I x y → ∃ r, f_X9_count a1 x = some r ∧ f_X10_count a1 y = some r ∧ I x y
theorem lw_case_40 {V : cn_V} {adC adR : Nat → Nat} {b L : Nat} {xs : Nat → Int32} (hC : lw_C V adC adR b L xs) {i : Int32} (hin : lw_in L i) {I : ax_S → ax_S → Prop} (hm : lq_count I) {x y : ax_S} (hI : I x y) (kk : ∀ x' y', I x' y' → cn_At V 1528 [some (.ref b), some (.ref (adC 0)), some (.ref (adR 0)), some (.int i)] [] (cn_W V adC adR x' y') 67 14394) : cn_At V 1491 [some (.ref b), some (.ref (adC 0)), some (.ref (adR 0)), some (.int i)] [] (cn_W V adC adR x y) 67 14394 := by
  obtain ⟨r, hc, hr, hi'⟩ := hm x y (xs (i + 1).toNatClampNeg) hI
  refine cn_aload_n hC.1 dL_law_1491 rfl ?_
  refine cn_aload_n hC.1 dL_law_1492 rfl ?_
  refine cn_iload_n hC.1 dL_law_1493 rfl ?_
  refine cn_iconst hC.1 (1 : Int32) dL_law_1494 (by decide) ?_
  refine cn_iadd hC.1 dL_law_1495 ?_
  refine cn_sld hC.1 hC.2.2.1 hC.2.2.2.1 hC.2.2.2.2 hin.2.1 dL_law_1496 ?_
  refine cn_cCi hC.1 hC.2.1 lkL_185 rfl dL_law_1497 [.int (xs (i + 1).toNatClampNeg)] [] (fun ad => [.ref (ad 0), .int (xs (i + 1).toNatClampNeg)]) rfl rfl rfl rfl (Nat.le_refl _) (Nat.le_refl _) r x (T_X9_count (xs (i + 1).toNatClampNeg) x r hc) ?_
  refine cn_aload_n hC.1 dL_law_1500 rfl ?_
  refine cn_aload_n hC.1 dL_law_1501 rfl ?_
  refine cn_iload_n hC.1 dL_law_1502 rfl ?_
  refine cn_iconst hC.1 (1 : Int32) dL_law_1503 (by decide) ?_
  refine cn_iadd hC.1 dL_law_1504 ?_
  refine cn_sld hC.1 hC.2.2.1 hC.2.2.2.1 hC.2.2.2.2 hin.2.1 dL_law_1505 ?_
  refine cn_cRi hC.1 lkL_188 rfl dL_law_1506 [.int (xs (i + 1).toNatClampNeg)] [.int r] (fun ad => [.ref (ad 0), .int (xs (i + 1).toNatClampNeg)]) rfl rfl rfl rfl (Nat.le_refl _) (Nat.le_refl _) r y (T_X10_count (xs (i + 1).toNatClampNeg) y r hr) ?_
  exact cn_icmp_eq hC.1 dL_law_1509 (fun _ => kk x y hi') (fun q => absurd rfl q)
/-- digest: class and reference answer alike, and stand alike behind it -/
def lq_digest (I : ax_S → ax_S → Prop) : Prop := ∀ (x y : ax_S) , I x y → ∃ r x' y', f_X9_digest x = some (r, x') ∧ f_X10_digest y = some (r, y') ∧ I x' y'
theorem lw_case_41 {V : cn_V} {adC adR : Nat → Nat} {b L : Nat} {xs : Nat → Int32} (hC : lw_C V adC adR b L xs) {i : Int32} (hin : lw_in L i) {I : ax_S → ax_S → Prop} (hm : lq_digest I) {x y : ax_S} (hI : I x y) (kk : ∀ x' y', I x' y' → cn_At V 1528 [some (.ref b), some (.ref (adC 0)), some (.ref (adR 0)), some (.int i)] [] (cn_W V adC adR x' y') 67 14394) : cn_At V 1514 [some (.ref b), some (.ref (adC 0)), some (.ref (adR 0)), some (.int i)] [] (cn_W V adC adR x y) 67 14394 := by
  obtain ⟨r, x', y', hc, hr, hi'⟩ := hm x y  hI
  refine cn_aload_n hC.1 dL_law_1514 rfl ?_
  refine cn_cCl hC.1 hC.2.1 lkL_189 rfl dL_law_1515 [] [] (fun ad => [.ref (ad 0)]) rfl rfl rfl rfl (Nat.le_refl _) (Nat.le_refl _) r x' (T_X9_digest  x (r, x') hc) ?_
  refine cn_aload_n hC.1 dL_law_1518 rfl ?_
  refine cn_cRl hC.1 lkL_192 rfl dL_law_1519 [] [.long r] (fun ad => [.ref (ad 0)]) rfl rfl rfl rfl (Nat.le_refl _) (Nat.le_refl _) r y' (T_X10_digest  y (r, y') hr) ?_
  refine cn_lcmp hC.1 dL_law_1522 ?_
  exact cn_if_eq hC.1 dL_law_1523 (fun _ => kk x' y' hi') (fun q => absurd (by simp [lg_cmp]) q)
