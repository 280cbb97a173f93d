theorem fX0_9 : xt_f RX0 9 0 0 := ⟨_, rfl, by decide, tb1 173 rfl rfl⟩
theorem pX0_9 : xt_p RX0 9 0 0 .boolean := ⟨_, rfl, by decide, tb1 173 rfl rfl, rfl, by decide +kernel⟩
theorem fX0_15 : xt_f RX0 15 0 1 := ⟨_, rfl, by decide, tb1 175 rfl rfl⟩
theorem pX0_15 : xt_p RX0 15 0 1 .int := ⟨_, rfl, by decide, tb1 175 rfl rfl, rfl, by decide +kernel⟩
theorem fX0_19 : xt_f RX0 19 0 2 := ⟨_, rfl, by decide, tb1 177 rfl rfl⟩
theorem pX0_19 : xt_p RX0 19 0 2 .int := ⟨_, rfl, by decide, tb1 177 rfl rfl, rfl, by decide +kernel⟩
theorem fX0_22 : xt_f RX0 22 0 3 := ⟨_, rfl, by decide, tb1 178 rfl rfl⟩
theorem pX0_22 : xt_p RX0 22 0 3 .int := ⟨_, rfl, by decide, tb1 178 rfl rfl, rfl, by decide +kernel⟩
theorem fX0_25 : xt_f RX0 25 0 4 := ⟨_, rfl, by decide, tb1 179 rfl rfl⟩
theorem pX0_25 : xt_p RX0 25 0 4 .int := ⟨_, rfl, by decide, tb1 179 rfl rfl, rfl, by decide +kernel⟩
theorem fX0_28 : xt_f RX0 28 0 5 := ⟨_, rfl, by decide, tb1 180 rfl rfl⟩
theorem pX0_28 : xt_p RX0 28 0 5 .int := ⟨_, rfl, by decide, tb1 180 rfl rfl, rfl, by decide +kernel⟩
theorem fX0_31 : xt_f RX0 31 0 6 := ⟨_, rfl, by decide, tb1 181 rfl rfl⟩
theorem pX0_31 : xt_p RX0 31 0 6 .int := ⟨_, rfl, by decide, tb1 181 rfl rfl, rfl, by decide +kernel⟩
theorem fX0_34 : xt_f RX0 34 0 7 := ⟨_, rfl, by decide, tb1 182 rfl rfl⟩
theorem fX0_38 : xt_f RX0 38 0 8 := ⟨_, rfl, by decide, tb1 183 rfl rfl⟩
theorem fX0_41 : xt_f RX0 41 1 0 := ⟨_, rfl, by decide, tb1 31 rfl rfl⟩
theorem pX0_41 : xt_p RX0 41 1 0 .int := ⟨_, rfl, by decide, tb1 31 rfl rfl, rfl, by decide +kernel⟩
theorem fX0_44 : xt_f RX0 44 1 1 := ⟨_, rfl, by decide, tb1 34 rfl rfl⟩
theorem pX0_44 : xt_p RX0 44 1 1 .int := ⟨_, rfl, by decide, tb1 34 rfl rfl, rfl, by decide +kernel⟩
theorem fX0_45 : xt_f RX0 45 1 2 := ⟨_, rfl, by decide, tb1 37 rfl rfl⟩
theorem pX0_45 : xt_p RX0 45 1 2 .int := ⟨_, rfl, by decide, tb1 37 rfl rfl, rfl, by decide +kernel⟩
theorem fX0_46 : xt_f RX0 46 1 3 := ⟨_, rfl, by decide, tb1 40 rfl rfl⟩
theorem pX0_46 : xt_p RX0 46 1 3 .int := ⟨_, rfl, by decide, tb1 40 rfl rfl, rfl, by decide +kernel⟩
theorem fX0_47 : xt_f RX0 47 1 4 := ⟨_, rfl, by decide, tb1 43 rfl rfl⟩
theorem pX0_47 : xt_p RX0 47 1 4 .int := ⟨_, rfl, by decide, tb1 43 rfl rfl, rfl, by decide +kernel⟩
theorem fX0_48 : xt_f RX0 48 1 7 := ⟨_, rfl, by decide, tb1 50 rfl rfl⟩
theorem fX0_55 : xt_f RX0 55 1 8 := ⟨_, rfl, by decide, tb1 53 rfl rfl⟩
theorem fX1_9 : xt_f RX1 9 1 0 := ⟨_, rfl, by decide, tb1 30 rfl rfl⟩
theorem pX1_9 : xt_p RX1 9 1 0 .int := ⟨_, rfl, by decide, tb1 30 rfl rfl, rfl, by decide +kernel⟩
theorem fX1_15 : xt_f RX1 15 1 1 := ⟨_, rfl, by decide, tb1 33 rfl rfl⟩
theorem pX1_15 : xt_p RX1 15 1 1 .int := ⟨_, rfl, by decide, tb1 33 rfl rfl, rfl, by decide +kernel⟩
theorem fX1_18 : xt_f RX1 18 1 2 := ⟨_, rfl, by decide, tb1 36 rfl rfl⟩
theorem pX1_18 : xt_p RX1 18 1 2 .int := ⟨_, rfl, by decide, tb1 36 rfl rfl, rfl, by decide +kernel⟩
theorem fX1_21 : xt_f RX1 21 1 3 := ⟨_, rfl, by decide, tb1 39 rfl rfl⟩
theorem pX1_21 : xt_p RX1 21 1 3 .int := ⟨_, rfl, by decide, tb1 39 rfl rfl, rfl, by decide +kernel⟩
theorem fX1_24 : xt_f RX1 24 1 4 := ⟨_, rfl, by decide, tb1 42 rfl rfl⟩
theorem pX1_24 : xt_p RX1 24 1 4 .int := ⟨_, rfl, by decide, tb1 42 rfl rfl, rfl, by decide +kernel⟩
theorem fX1_27 : xt_f RX1 27 1 5 := ⟨_, rfl, by decide, tb1 45 rfl rfl⟩
theorem fX1_31 : xt_f RX1 31 1 6 := ⟨_, rfl, by decide, tb1 47 rfl rfl⟩
theorem fX1_34 : xt_f RX1 34 1 7 := ⟨_, rfl, by decide, tb1 49 rfl rfl⟩
theorem fX1_37 : xt_f RX1 37 1 8 := ⟨_, rfl, by decide, tb1 52 rfl rfl⟩
theorem fX1_40 : xt_f RX1 40 1 9 := ⟨_, rfl, by decide, tb1 55 rfl rfl⟩
theorem fX1_43 : xt_f RX1 43 1 10 := ⟨_, rfl, by decide, tb1 56 rfl rfl⟩
theorem fX1_46 : xt_f RX1 46 1 11 := ⟨_, rfl, by decide, tb1 57 rfl rfl⟩
theorem fX2_9 : xt_f RX2 9 2 0 := ⟨_, rfl, by decide, tb1 90 rfl rfl⟩
theorem pX2_9 : xt_p RX2 9 2 0 .int := ⟨_, rfl, by decide, tb1 90 rfl rfl, rfl, by decide +kernel⟩
theorem fX2_15 : xt_f RX2 15 2 1 := ⟨_, rfl, by decide, tb1 92 rfl rfl⟩
theorem fX2_19 : xt_f RX2 19 2 2 := ⟨_, rfl, by decide, tb1 93 rfl rfl⟩
theorem pX2_19 : xt_p RX2 19 2 2 .int := ⟨_, rfl, by decide, tb1 93 rfl rfl, rfl, by decide +kernel⟩
theorem fX2_22 : xt_f RX2 22 2 3 := ⟨_, rfl, by decide, tb1 94 rfl rfl⟩
theorem pX2_22 : xt_p RX2 22 2 3 .int := ⟨_, rfl, by decide, tb1 94 rfl rfl, rfl, by decide +kernel⟩
theorem fX2_25 : xt_f RX2 25 2 4 := ⟨_, rfl, by decide, tb1 96 rfl rfl⟩
theorem pX2_25 : xt_p RX2 25 2 4 .int := ⟨_, rfl, by decide, tb1 96 rfl rfl, rfl, by decide +kernel⟩
theorem fX2_28 : xt_f RX2 28 2 5 := ⟨_, rfl, by decide, tb1 97 rfl rfl⟩
theorem pX2_28 : xt_p RX2 28 2 5 .int := ⟨_, rfl, by decide, tb1 97 rfl rfl, rfl, by decide +kernel⟩
theorem fX2_31 : xt_f RX2 31 2 6 := ⟨_, rfl, by decide, tb1 98 rfl rfl⟩
theorem pX2_31 : xt_p RX2 31 2 6 .int := ⟨_, rfl, by decide, tb1 98 rfl rfl, rfl, by decide +kernel⟩
theorem fX2_34 : xt_f RX2 34 2 7 := ⟨_, rfl, by decide, tb1 99 rfl rfl⟩
theorem fX2_37 : xt_f RX2 37 2 8 := ⟨_, rfl, by decide, tb1 101 rfl rfl⟩
theorem fX3_9 : xt_f RX3 9 3 0 := ⟨_, rfl, by decide, tb1 155 rfl rfl⟩
theorem fX3_15 : xt_f RX3 15 3 1 := ⟨_, rfl, by decide, tb1 157 rfl rfl⟩
theorem fX3_18 : xt_f RX3 18 3 2 := ⟨_, rfl, by decide, tb1 159 rfl rfl⟩
theorem fX4_9 : xt_f RX4 9 4 0 := ⟨_, rfl, by decide, tb1 128 rfl rfl⟩
theorem pX4_9 : xt_p RX4 9 4 0 .int := ⟨_, rfl, by decide, tb1 128 rfl rfl, rfl, by decide +kernel⟩
theorem fX4_15 : xt_f RX4 15 4 1 := ⟨_, rfl, by decide, tb1 130 rfl rfl⟩
theorem pX4_15 : xt_p RX4 15 4 1 .int := ⟨_, rfl, by decide, tb1 130 rfl rfl, rfl, by decide +kernel⟩
theorem fX4_18 : xt_f RX4 18 4 2 := ⟨_, rfl, by decide, tb1 132 rfl rfl⟩
theorem fX4_22 : xt_f RX4 22 4 3 := ⟨_, rfl, by decide, tb1 133 rfl rfl⟩
theorem fX4_25 : xt_f RX4 25 4 4 := ⟨_, rfl, by decide, tb1 134 rfl rfl⟩
theorem fX4_28 : xt_f RX4 28 2 7 := ⟨_, rfl, by decide, tb1 100 rfl rfl⟩
theorem fX4_37 : xt_f RX4 37 2 8 := ⟨_, rfl, by decide, tb1 102 rfl rfl⟩
theorem fX5_10 : xt_f RX5 10 5 0 := ⟨_, rfl, by decide, tb2 118 rfl rfl⟩
theorem fX5_19 : xt_f RX5 19 5 1 := ⟨_, rfl, by decide, tb2 119 rfl rfl⟩
theorem fX5_26 : xt_f RX5 26 5 2 := ⟨_, rfl, by decide, tb2 120 rfl rfl⟩
theorem fX5_33 : xt_f RX5 33 5 3 := ⟨_, rfl, by decide, tb2 121 rfl rfl⟩
theorem fX5_40 : xt_f RX5 40 5 4 := ⟨_, rfl, by decide, tb2 122 rfl rfl⟩
theorem fX5_44 : xt_f RX5 44 5 5 := ⟨_, rfl, by decide, tb2 123 rfl rfl⟩
theorem fX5_48 : xt_f RX5 48 5 6 := ⟨_, rfl, by decide, tb2 124 rfl rfl⟩
theorem fX5_51 : xt_f RX5 51 5 7 := ⟨_, rfl, by decide, tb2 125 rfl rfl⟩
theorem fX5_54 : xt_f RX5 54 5 8 := ⟨_, rfl, by decide, tb2 126 rfl rfl⟩
theorem fX5_102 : xt_f RX5 102 1 7 := ⟨_, rfl, by decide, tb1 51 rfl rfl⟩
theorem fX5_105 : xt_f RX5 105 1 3 := ⟨_, rfl, by decide, tb1 41 rfl rfl⟩
theorem pX5_105 : xt_p RX5 105 1 3 .int := ⟨_, rfl, by decide, tb1 41 rfl rfl, rfl, by decide +kernel⟩
theorem fX5_116 : xt_f RX5 116 1 8 := ⟨_, rfl, by decide, tb1 54 rfl rfl⟩
theorem fX5_119 : xt_f RX5 119 1 4 := ⟨_, rfl, by decide, tb1 44 rfl rfl⟩
theorem pX5_119 : xt_p RX5 119 1 4 .int := ⟨_, rfl, by decide, tb1 44 rfl rfl, rfl, by decide +kernel⟩
theorem fX5_122 : xt_f RX5 122 1 1 := ⟨_, rfl, by decide, tb1 35 rfl rfl⟩
theorem pX5_122 : xt_p RX5 122 1 1 .int := ⟨_, rfl, by decide, tb1 35 rfl rfl, rfl, by decide +kernel⟩
theorem fX5_128 : xt_f RX5 128 1 6 := ⟨_, rfl, by decide, tb1 48 rfl rfl⟩
theorem fX5_131 : xt_f RX5 131 1 5 := ⟨_, rfl, by decide, tb1 46 rfl rfl⟩
theorem fX5_154 : xt_f RX5 154 2 0 := ⟨_, rfl, by decide, tb1 91 rfl rfl⟩
theorem pX5_154 : xt_p RX5 154 2 0 .int := ⟨_, rfl, by decide, tb1 91 rfl rfl, rfl, by decide +kernel⟩
theorem fX5_157 : xt_f RX5 157 4 0 := ⟨_, rfl, by decide, tb1 129 rfl rfl⟩
theorem pX5_157 : xt_p RX5 157 4 0 .int := ⟨_, rfl, by decide, tb1 129 rfl rfl, rfl, by decide +kernel⟩
theorem fX5_158 : xt_f RX5 158 2 3 := ⟨_, rfl, by decide, tb1 95 rfl rfl⟩
theorem pX5_158 : xt_p RX5 158 2 3 .int := ⟨_, rfl, by decide, tb1 95 rfl rfl, rfl, by decide +kernel⟩
theorem fX5_161 : xt_f RX5 161 4 1 := ⟨_, rfl, by decide, tb1 131 rfl rfl⟩
theorem pX5_161 : xt_p RX5 161 4 1 .int := ⟨_, rfl, by decide, tb1 131 rfl rfl, rfl, by decide +kernel⟩
theorem fX5_172 : xt_f RX5 172 1 2 := ⟨_, rfl, by decide, tb1 38 rfl rfl⟩
theorem pX5_172 : xt_p RX5 172 1 2 .int := ⟨_, rfl, by decide, tb1 38 rfl rfl, rfl, by decide +kernel⟩
theorem fX5_223 : xt_f RX5 223 3 0 := ⟨_, rfl, by decide, tb1 156 rfl rfl⟩
theorem fX5_242 : xt_f RX5 242 1 0 := ⟨_, rfl, by decide, tb1 32 rfl rfl⟩
theorem pX5_242 : xt_p RX5 242 1 0 .int := ⟨_, rfl, by decide, tb1 32 rfl rfl, rfl, by decide +kernel⟩
theorem fX5_243 : xt_f RX5 243 0 0 := ⟨_, rfl, by decide, tb1 174 rfl rfl⟩
theorem pX5_243 : xt_p RX5 243 0 0 .boolean := ⟨_, rfl, by decide, tb1 174 rfl rfl, rfl, by decide +kernel⟩
theorem fX5_251 : xt_f RX5 251 0 1 := ⟨_, rfl, by decide, tb1 176 rfl rfl⟩
theorem pX5_251 : xt_p RX5 251 0 1 .int := ⟨_, rfl, by decide, tb1 176 rfl rfl, rfl, by decide +kernel⟩
theorem fX5_306 : xt_f RX5 306 3 1 := ⟨_, rfl, by decide, tb1 158 rfl rfl⟩
theorem fX6_13 : xt_f RX6 13 6 1 := ⟨_, rfl, by decide, tb4 3 rfl rfl⟩
theorem fX6_17 : xt_f RX6 17 6 2 := ⟨_, rfl, by decide, tb4 4 rfl rfl⟩
theorem fX6_20 : xt_f RX6 20 6 5 := ⟨_, rfl, by decide, tb4 7 rfl rfl⟩
theorem fX6_23 : xt_f RX6 23 6 7 := ⟨_, rfl, by decide, tb4 9 rfl rfl⟩
theorem pX6_23 : xt_p RX6 23 6 7 .int := ⟨_, rfl, by decide, tb4 9 rfl rfl, rfl, by decide +kernel⟩
theorem fX6_26 : xt_f RX6 26 6 8 := ⟨_, rfl, by decide, tb4 10 rfl rfl⟩
theorem fX6_29 : xt_f RX6 29 6 9 := ⟨_, rfl, by decide, tb4 11 rfl rfl⟩
theorem fX6_32 : xt_f RX6 32 6 10 := ⟨_, rfl, by decide, tb4 12 rfl rfl⟩
theorem fX6_35 : xt_f RX6 35 6 11 := ⟨_, rfl, by decide, tb4 13 rfl rfl⟩
theorem fX6_38 : xt_f RX6 38 6 16 := ⟨_, rfl, by decide, tb4 18 rfl rfl⟩
theorem fX6_41 : xt_f RX6 41 6 17 := ⟨_, rfl, by decide, tb4 19 rfl rfl⟩
theorem fX6_44 : xt_f RX6 44 6 33 := ⟨_, rfl, by decide, tb4 35 rfl rfl⟩
theorem fX6_47 : xt_f RX6 47 6 34 := ⟨_, rfl, by decide, tb4 36 rfl rfl⟩
theorem fX6_50 : xt_f RX6 50 6 35 := ⟨_, rfl, by decide, tb4 37 rfl rfl⟩
theorem fX6_53 : xt_f RX6 53 6 36 := ⟨_, rfl, by decide, tb4 38 rfl rfl⟩
theorem pX6_53 : xt_p RX6 53 6 36 .int := ⟨_, rfl, by decide, tb4 38 rfl rfl, rfl, by decide +kernel⟩
theorem fX6_56 : xt_f RX6 56 6 42 := ⟨_, rfl, by decide, tb4 44 rfl rfl⟩
theorem fX6_60 : xt_f RX6 60 6 43 := ⟨_, rfl, by decide, tb4 45 rfl rfl⟩
theorem fX6_63 : xt_f RX6 63 6 44 := ⟨_, rfl, by decide, tb4 46 rfl rfl⟩
theorem fX6_66 : xt_f RX6 66 6 45 := ⟨_, rfl, by decide, tb4 47 rfl rfl⟩
theorem fX6_73 : xt_f RX6 73 6 3 := ⟨_, rfl, by decide, tb4 5 rfl rfl⟩
theorem pX6_73 : xt_p RX6 73 6 3 .int := ⟨_, rfl, by decide, tb4 5 rfl rfl, rfl, by decide +kernel⟩
theorem fX6_88 : xt_f RX6 88 6 13 := ⟨_, rfl, by decide, tb4 15 rfl rfl⟩
theorem pX6_88 : xt_p RX6 88 6 13 .int := ⟨_, rfl, by decide, tb4 15 rfl rfl, rfl, by decide +kernel⟩
theorem fX6_104 : xt_f RX6 104 6 14 := ⟨_, rfl, by decide, tb4 16 rfl rfl⟩
theorem pX6_104 : xt_p RX6 104 6 14 .int := ⟨_, rfl, by decide, tb4 16 rfl rfl, rfl, by decide +kernel⟩
theorem fX6_107 : xt_f RX6 107 6 12 := ⟨_, rfl, by decide, tb4 14 rfl rfl⟩
theorem pX6_107 : xt_p RX6 107 6 12 .int := ⟨_, rfl, by decide, tb4 14 rfl rfl, rfl, by decide +kernel⟩
theorem fX6_129 : xt_f RX6 129 6 15 := ⟨_, rfl, by decide, tb4 17 rfl rfl⟩
theorem pX6_129 : xt_p RX6 129 6 15 .int := ⟨_, rfl, by decide, tb4 17 rfl rfl, rfl, by decide +kernel⟩
theorem fX6_134 : xt_f RX6 134 6 6 := ⟨_, rfl, by decide, tb4 8 rfl rfl⟩
theorem pX6_134 : xt_p RX6 134 6 6 .int := ⟨_, rfl, by decide, tb4 8 rfl rfl, rfl, by decide +kernel⟩
theorem fX6_137 : xt_f RX6 137 6 25 := ⟨_, rfl, by decide, tb4 27 rfl rfl⟩
theorem pX6_137 : xt_p RX6 137 6 25 .int := ⟨_, rfl, by decide, tb4 27 rfl rfl, rfl, by decide +kernel⟩
theorem fX6_140 : xt_f RX6 140 6 24 := ⟨_, rfl, by decide, tb4 26 rfl rfl⟩
theorem pX6_140 : xt_p RX6 140 6 24 .int := ⟨_, rfl, by decide, tb4 26 rfl rfl, rfl, by decide +kernel⟩
theorem fX6_143 : xt_f RX6 143 6 26 := ⟨_, rfl, by decide, tb4 28 rfl rfl⟩
theorem pX6_143 : xt_p RX6 143 6 26 .int := ⟨_, rfl, by decide, tb4 28 rfl rfl, rfl, by decide +kernel⟩
theorem fX6_149 : xt_f RX6 149 6 28 := ⟨_, rfl, by decide, tb4 30 rfl rfl⟩
theorem pX6_149 : xt_p RX6 149 6 28 .int := ⟨_, rfl, by decide, tb4 30 rfl rfl, rfl, by decide +kernel⟩
theorem fX6_152 : xt_f RX6 152 6 27 := ⟨_, rfl, by decide, tb4 29 rfl rfl⟩
theorem pX6_152 : xt_p RX6 152 6 27 .int := ⟨_, rfl, by decide, tb4 29 rfl rfl, rfl, by decide +kernel⟩
theorem fX6_163 : xt_f RX6 163 6 29 := ⟨_, rfl, by decide, tb4 31 rfl rfl⟩
theorem pX6_163 : xt_p RX6 163 6 29 .long := ⟨_, rfl, by decide, tb4 31 rfl rfl, rfl, by decide +kernel⟩
theorem fX6_169 : xt_f RX6 169 6 31 := ⟨_, rfl, by decide, tb4 33 rfl rfl⟩
theorem pX6_169 : xt_p RX6 169 6 31 .boolean := ⟨_, rfl, by decide, tb4 33 rfl rfl, rfl, by decide +kernel⟩
theorem fX6_173 : xt_f RX6 173 6 32 := ⟨_, rfl, by decide, tb4 34 rfl rfl⟩
theorem pX6_173 : xt_p RX6 173 6 32 .int := ⟨_, rfl, by decide, tb4 34 rfl rfl, rfl, by decide +kernel⟩
theorem fX6_179 : xt_f RX6 179 6 30 := ⟨_, rfl, by decide, tb4 32 rfl rfl⟩
theorem pX6_179 : xt_p RX6 179 6 30 .int := ⟨_, rfl, by decide, tb4 32 rfl rfl, rfl, by decide +kernel⟩
theorem fX6_192 : xt_f RX6 192 6 18 := ⟨_, rfl, by decide, tb4 20 rfl rfl⟩
theorem pX6_192 : xt_p RX6 192 6 18 .int := ⟨_, rfl, by decide, tb4 20 rfl rfl, rfl, by decide +kernel⟩
theorem fX6_195 : xt_f RX6 195 6 19 := ⟨_, rfl, by decide, tb4 21 rfl rfl⟩
theorem pX6_195 : xt_p RX6 195 6 19 .int := ⟨_, rfl, by decide, tb4 21 rfl rfl, rfl, by decide +kernel⟩
theorem fX6_198 : xt_f RX6 198 6 20 := ⟨_, rfl, by decide, tb4 22 rfl rfl⟩
theorem pX6_198 : xt_p RX6 198 6 20 .int := ⟨_, rfl, by decide, tb4 22 rfl rfl, rfl, by decide +kernel⟩
theorem fX6_201 : xt_f RX6 201 6 21 := ⟨_, rfl, by decide, tb4 23 rfl rfl⟩
theorem pX6_201 : xt_p RX6 201 6 21 .int := ⟨_, rfl, by decide, tb4 23 rfl rfl, rfl, by decide +kernel⟩
theorem fX6_204 : xt_f RX6 204 6 22 := ⟨_, rfl, by decide, tb4 24 rfl rfl⟩
theorem pX6_204 : xt_p RX6 204 6 22 .int := ⟨_, rfl, by decide, tb4 24 rfl rfl, rfl, by decide +kernel⟩
theorem fX6_207 : xt_f RX6 207 6 23 := ⟨_, rfl, by decide, tb4 25 rfl rfl⟩
theorem pX6_207 : xt_p RX6 207 6 23 .int := ⟨_, rfl, by decide, tb4 25 rfl rfl, rfl, by decide +kernel⟩
theorem fX6_250 : xt_f RX6 250 6 4 := ⟨_, rfl, by decide, tb4 6 rfl rfl⟩
theorem pX6_250 : xt_p RX6 250 6 4 .int := ⟨_, rfl, by decide, tb4 6 rfl rfl, rfl, by decide +kernel⟩
theorem fX6_319 : xt_f RX6 319 6 37 := ⟨_, rfl, by decide, tb4 39 rfl rfl⟩
theorem pX6_319 : xt_p RX6 319 6 37 .int := ⟨_, rfl, by decide, tb4 39 rfl rfl, rfl, by decide +kernel⟩
theorem fX6_322 : xt_f RX6 322 6 38 := ⟨_, rfl, by decide, tb4 40 rfl rfl⟩
theorem pX6_322 : xt_p RX6 322 6 38 .int := ⟨_, rfl, by decide, tb4 40 rfl rfl, rfl, by decide +kernel⟩
theorem fX6_325 : xt_f RX6 325 6 39 := ⟨_, rfl, by decide, tb4 41 rfl rfl⟩
theorem pX6_325 : xt_p RX6 325 6 39 .int := ⟨_, rfl, by decide, tb4 41 rfl rfl, rfl, by decide +kernel⟩
theorem fX6_328 : xt_f RX6 328 6 40 := ⟨_, rfl, by decide, tb4 42 rfl rfl⟩
theorem pX6_328 : xt_p RX6 328 6 40 .int := ⟨_, rfl, by decide, tb4 42 rfl rfl, rfl, by decide +kernel⟩
theorem fX6_331 : xt_f RX6 331 6 41 := ⟨_, rfl, by decide, tb4 43 rfl rfl⟩
theorem pX6_331 : xt_p RX6 331 6 41 .int := ⟨_, rfl, by decide, tb4 43 rfl rfl, rfl, by decide +kernel⟩
theorem kX0_keep : xt_mk yX0_keep cX0_keep 3 none 2 := ⟨tb3 179 rfl rfl, tb1 7 rfl rfl, ⟨by decide +kernel, by decide +kernel, by decide +kernel⟩, by decide⟩
theorem kX0_layBack : xt_mk yX0_layBack cX0_layBack 2 none 1 := ⟨tb3 188 rfl rfl, tb1 7 rfl rfl, ⟨by decide +kernel, by decide +kernel, by decide +kernel⟩, by decide⟩
theorem kX1_has : xt_mk yX1_has cX1_has 2 (some .boolean) 1 := ⟨tb2 158 rfl rfl, tb1 2 rfl rfl, ⟨by decide +kernel, by decide +kernel, by decide +kernel⟩, by decide⟩
theorem kX1_sprout : xt_mk yX1_sprout cX1_sprout 5 (some .int) 3 := ⟨tb2 154 rfl rfl, tb1 2 rfl rfl, ⟨by decide +kernel, by decide +kernel, by decide +kernel⟩, by decide⟩
theorem kX1_standing : xt_mk yX1_standing cX1_standing 5 (some .int) 1 := ⟨tb2 165 rfl rfl, tb1 2 rfl rfl, ⟨by decide +kernel, by decide +kernel, by decide +kernel⟩, by decide⟩
theorem kX1_twigsOf : xt_mk yX1_twigsOf cX1_twigsOf 4 (some .int) 1 := ⟨tb2 195 rfl rfl, tb1 2 rfl rfl, ⟨by decide +kernel, by decide +kernel, by decide +kernel⟩, by decide⟩
theorem kX1_kidSet : xt_mk yX1_kidSet cX1_kidSet 5 (some .int) 2 := ⟨tb2 216 rfl rfl, tb1 2 rfl rfl, ⟨by decide +kernel, by decide +kernel, by decide +kernel⟩, by decide⟩
theorem kX1_isNested : xt_mk yX1_isNested cX1_isNested 3 (some .boolean) 1 := ⟨tb3 73 rfl rfl, tb1 2 rfl rfl, ⟨by decide +kernel, by decide +kernel, by decide +kernel⟩, by decide⟩
theorem kX1_vote : xt_mk yX1_vote cX1_vote 8 (some .int) 2 := ⟨tb2 199 rfl rfl, tb1 2 rfl rfl, ⟨by decide +kernel, by decide +kernel, by decide +kernel⟩, by decide⟩
theorem kX1_goesByKids : xt_mk yX1_goesByKids cX1_goesByKids 2 (some .int) 1 := ⟨tb2 204 rfl rfl, tb1 2 rfl rfl, ⟨by decide +kernel, by decide +kernel, by decide +kernel⟩, by decide⟩
theorem kX1_whenEven : xt_mk yX1_whenEven cX1_whenEven 3 (some .int) 1 := ⟨tb2 208 rfl rfl, tb1 2 rfl rfl, ⟨by decide +kernel, by decide +kernel, by decide +kernel⟩, by decide⟩
theorem kX1_weight : xt_mk yX1_weight cX1_weight 4 (some .int) 2 := ⟨tb2 212 rfl rfl, tb1 2 rfl rfl, ⟨by decide +kernel, by decide +kernel, by decide +kernel⟩, by decide⟩
theorem kX1_tellFacts : xt_mk yX1_tellFacts cX1_tellFacts 7 none 3 := ⟨tb2 235 rfl rfl, tb1 2 rfl rfl, ⟨by decide +kernel, by decide +kernel, by decide +kernel⟩, by decide⟩
theorem kX2_put : xt_mk yX2_put cX2_put 2 (some .boolean) 1 := ⟨tb2 15 rfl rfl, tb1 3 rfl rfl, ⟨by decide +kernel, by decide +kernel, by decide +kernel⟩, by decide⟩
theorem kX2_empty : xt_mk yX2_empty cX2_empty 1 none 0 := ⟨tb2 117 rfl rfl, tb1 3 rfl rfl, ⟨by decide +kernel, by decide +kernel, by decide +kernel⟩, by decide⟩
theorem kX2_isText : xt_mk yX2_isText cX2_isText 2 (some .boolean) 0 := ⟨tb2 19 rfl rfl, tb1 3 rfl rfl, ⟨by decide +kernel, by decide +kernel, by decide +kernel⟩, by decide⟩
theorem kX2_readsE : xt_mk yX2_readsE cX2_readsE 2 (some .boolean) 0 := ⟨tb2 66 rfl rfl, tb1 3 rfl rfl, ⟨by decide +kernel, by decide +kernel, by decide +kernel⟩, by decide⟩
theorem kX2_readsAnd : xt_mk yX2_readsAnd cX2_readsAnd 2 (some .boolean) 0 := ⟨tb2 70 rfl rfl, tb1 3 rfl rfl, ⟨by decide +kernel, by decide +kernel, by decide +kernel⟩, by decide⟩
theorem kX2_readsNot : xt_mk yX2_readsNot cX2_readsNot 2 (some .boolean) 0 := ⟨tb2 74 rfl rfl, tb1 3 rfl rfl, ⟨by decide +kernel, by decide +kernel, by decide +kernel⟩, by decide⟩
theorem kX2_readsComparison : xt_mk yX2_readsComparison cX2_readsComparison 2 (some .boolean) 0 := ⟨tb2 82 rfl rfl, tb1 3 rfl rfl, ⟨by decide +kernel, by decide +kernel, by decide +kernel⟩, by decide⟩
theorem kX2_readsSum : xt_mk yX2_readsSum cX2_readsSum 3 (some .boolean) 0 := ⟨tb2 86 rfl rfl, tb1 3 rfl rfl, ⟨by decide +kernel, by decide +kernel, by decide +kernel⟩, by decide⟩
theorem kX2_readsTerm : xt_mk yX2_readsTerm cX2_readsTerm 2 (some .boolean) 0 := ⟨tb2 90 rfl rfl, tb1 3 rfl rfl, ⟨by decide +kernel, by decide +kernel, by decide +kernel⟩, by decide⟩
theorem kX2_readsOne : xt_mk yX2_readsOne cX2_readsOne 2 (some .boolean) 0 := ⟨tb2 94 rfl rfl, tb1 3 rfl rfl, ⟨by decide +kernel, by decide +kernel, by decide +kernel⟩, by decide⟩
theorem kX2_readsPlainOne : xt_mk yX2_readsPlainOne cX2_readsPlainOne 1 (some .boolean) 0 := ⟨tb2 98 rfl rfl, tb1 3 rfl rfl, ⟨by decide +kernel, by decide +kernel, by decide +kernel⟩, by decide⟩
theorem kX2_opensAll : xt_mk yX2_opensAll cX2_opensAll 3 (some .int) 1 := ⟨tb2 78 rfl rfl, tb1 3 rfl rfl, ⟨by decide +kernel, by decide +kernel, by decide +kernel⟩, by decide⟩
theorem kX2_closes : xt_mk yX2_closes cX2_closes 4 (some .boolean) 2 := ⟨tb2 106 rfl rfl, tb1 3 rfl rfl, ⟨by decide +kernel, by decide +kernel, by decide +kernel⟩, by decide⟩
theorem kX2_takes : xt_mk yX2_takes cX2_takes 2 (some .boolean) 1 := ⟨tb2 62 rfl rfl, tb1 3 rfl rfl, ⟨by decide +kernel, by decide +kernel, by decide +kernel⟩, by decide⟩
theorem kX2_make : xt_mk yX2_make cX2_make 2 none 1 := ⟨tb2 102 rfl rfl, tb1 3 rfl rfl, ⟨by decide +kernel, by decide +kernel, by decide +kernel⟩, by decide⟩
theorem kX2_next : xt_mk yX2_next cX2_next 1 none 0 := ⟨tb2 23 rfl rfl, tb1 3 rfl rfl, ⟨by decide +kernel, by decide +kernel, by decide +kernel⟩, by decide⟩
theorem kX2_isLetter : xt_mk yX2_isLetter cX2_isLetter 1 (some .boolean) 1 := ⟨tb2 26 rfl rfl, tb1 3 rfl rfl, ⟨by decide +kernel, by decide +kernel, by decide +kernel⟩, by decide⟩
theorem kX2_isDigit : xt_mk yX2_isDigit cX2_isDigit 1 (some .boolean) 1 := ⟨tb2 51 rfl rfl, tb1 3 rfl rfl, ⟨by decide +kernel, by decide +kernel, by decide +kernel⟩, by decide⟩
theorem kX2_figure : xt_mk yX2_figure cX2_figure 2 (some .int) 0 := ⟨tb2 55 rfl rfl, tb1 3 rfl rfl, ⟨by decide +kernel, by decide +kernel, by decide +kernel⟩, by decide⟩
theorem kX2_sign : xt_mk yX2_sign cX2_sign 1 (some .int) 1 := ⟨tb2 58 rfl rfl, tb1 3 rfl rfl, ⟨by decide +kernel, by decide +kernel, by decide +kernel⟩, by decide⟩
theorem kX2_word : xt_mk yX2_word cX2_word 1 (some .int) 0 := ⟨tb2 30 rfl rfl, tb1 3 rfl rfl, ⟨by decide +kernel, by decide +kernel, by decide +kernel⟩, by decide⟩
theorem kX2_spells : xt_mk yX2_spells cX2_spells 3 (some .boolean) 1 := ⟨tb2 35 rfl rfl, tb1 3 rfl rfl, ⟨by decide +kernel, by decide +kernel, by decide +kernel⟩, by decide⟩
theorem kX3_lay : xt_mk yX3_lay cX3_lay 5 none 3 := ⟨tb3 200 rfl rfl, tb1 5 rfl rfl, ⟨by decide +kernel, by decide +kernel, by decide +kernel⟩, by decide⟩
theorem kX3_holds : xt_mk yX3_holds cX3_holds 4 (some .boolean) 3 := ⟨tb3 208 rfl rfl, tb1 5 rfl rfl, ⟨by decide +kernel, by decide +kernel, by decide +kernel⟩, by decide⟩
theorem kX3_read : xt_mk yX3_read cX3_read 3 (some .int) 2 := ⟨tb3 154 rfl rfl, tb1 5 rfl rfl, ⟨by decide +kernel, by decide +kernel, by decide +kernel⟩, by decide⟩
theorem kX3_write : xt_mk yX3_write cX3_write 5 none 3 := ⟨tb3 212 rfl rfl, tb1 5 rfl rfl, ⟨by decide +kernel, by decide +kernel, by decide +kernel⟩, by decide⟩
theorem kX3_move : xt_mk yX3_move cX3_move 6 none 5 := ⟨tb3 220 rfl rfl, tb1 5 rfl rfl, ⟨by decide +kernel, by decide +kernel, by decide +kernel⟩, by decide⟩
theorem kX4_add : xt_mk yX4_add cX4_add 3 (some .int) 1 := ⟨tb2 110 rfl rfl, tb1 4 rfl rfl, ⟨by decide +kernel, by decide +kernel, by decide +kernel⟩, by decide⟩
theorem kX4_value : xt_mk yX4_value cX4_value 9 (some .int) 2 := ⟨tb3 2 rfl rfl, tb1 4 rfl rfl, ⟨by decide +kernel, by decide +kernel, by decide +kernel⟩, by decide⟩
theorem kX4_truth : xt_mk yX4_truth cX4_truth 1 (some .int) 1 := ⟨tb3 5 rfl rfl, tb1 4 rfl rfl, ⟨by decide +kernel, by decide +kernel, by decide +kernel⟩, by decide⟩
theorem kX4_joined : xt_mk yX4_joined cX4_joined 3 (some .int) 3 := ⟨tb3 8 rfl rfl, tb1 4 rfl rfl, ⟨by decide +kernel, by decide +kernel, by decide +kernel⟩, by decide⟩
theorem kX5_grow : xt_mk yX5_grow cX5_grow 4 (some .int) 3 := ⟨tb2 150 rfl rfl, tb1 1 rfl rfl, ⟨by decide +kernel, by decide +kernel, by decide +kernel⟩, by decide⟩
theorem kX5_set : xt_mk yX5_set cX5_set 5 (some .int) 3 := ⟨tb2 175 rfl rfl, tb1 1 rfl rfl, ⟨by decide +kernel, by decide +kernel, by decide +kernel⟩, by decide⟩
theorem kX5_putYear : xt_mk yX5_putYear cX5_putYear 3 (some .int) 1 := ⟨tb2 180 rfl rfl, tb1 1 rfl rfl, ⟨by decide +kernel, by decide +kernel, by decide +kernel⟩, by decide⟩
theorem kX5_mostOf : xt_mk yX5_mostOf cX5_mostOf 1 (some .int) 1 := ⟨tb2 184 rfl rfl, tb1 1 rfl rfl, ⟨by decide +kernel, by decide +kernel, by decide +kernel⟩, by decide⟩
theorem kX5_told : xt_mk yX5_told cX5_told 5 (some .int) 2 := ⟨tb2 190 rfl rfl, tb1 1 rfl rfl, ⟨by decide +kernel, by decide +kernel, by decide +kernel⟩, by decide⟩
theorem kX5_asks : xt_mk yX5_asks cX5_asks 4 (some .int) 2 := ⟨tb2 227 rfl rfl, tb1 1 rfl rfl, ⟨by decide +kernel, by decide +kernel, by decide +kernel⟩, by decide⟩
theorem kX5_feed : xt_mk yX5_feed cX5_feed 2 (some .int) 1 := ⟨tb3 18 rfl rfl, tb1 1 rfl rfl, ⟨by decide +kernel, by decide +kernel, by decide +kernel⟩, by decide⟩
theorem kX5_text : xt_mk yX5_text cX5_text 3 (some .int) 0 := ⟨tb3 22 rfl rfl, tb1 1 rfl rfl, ⟨by decide +kernel, by decide +kernel, by decide +kernel⟩, by decide⟩
theorem kX5_force : xt_mk yX5_force cX5_force 3 (some .int) 1 := ⟨tb3 26 rfl rfl, tb1 1 rfl rfl, ⟨by decide +kernel, by decide +kernel, by decide +kernel⟩, by decide⟩
theorem kX5_law : xt_mk yX5_law cX5_law 1 (some .int) 0 := ⟨tb3 30 rfl rfl, tb1 1 rfl rfl, ⟨by decide +kernel, by decide +kernel, by decide +kernel⟩, by decide⟩
theorem kX5_pass : xt_mk yX5_pass cX5_pass 3 (some .int) 0 := ⟨tb3 38 rfl rfl, tb1 1 rfl rfl, ⟨by decide +kernel, by decide +kernel, by decide +kernel⟩, by decide⟩
theorem kX5_cut : xt_mk yX5_cut cX5_cut 3 (some .int) 1 := ⟨tb3 42 rfl rfl, tb1 1 rfl rfl, ⟨by decide +kernel, by decide +kernel, by decide +kernel⟩, by decide⟩
theorem kX5_graft : xt_mk yX5_graft cX5_graft 3 (some .int) 1 := ⟨tb3 46 rfl rfl, tb1 1 rfl rfl, ⟨by decide +kernel, by decide +kernel, by decide +kernel⟩, by decide⟩
theorem kX5_minds : xt_mk yX5_minds cX5_minds 4 (some .int) 3 := ⟨tb3 50 rfl rfl, tb1 1 rfl rfl, ⟨by decide +kernel, by decide +kernel, by decide +kernel⟩, by decide⟩
theorem kX5_cuts : xt_mk yX5_cuts cX5_cuts 4 (some .int) 3 := ⟨tb3 80 rfl rfl, tb1 1 rfl rfl, ⟨by decide +kernel, by decide +kernel, by decide +kernel⟩, by decide⟩
theorem kX5_lopsided : xt_mk yX5_lopsided cX5_lopsided 10 (some .int) 1 := ⟨tb3 84 rfl rfl, tb1 1 rfl rfl, ⟨by decide +kernel, by decide +kernel, by decide +kernel⟩, by decide⟩
theorem kX5_counts : xt_mk yX5_counts cX5_counts 3 (some .int) 1 := ⟨tb3 88 rfl rfl, tb1 1 rfl rfl, ⟨by decide +kernel, by decide +kernel, by decide +kernel⟩, by decide⟩
theorem kX5_sure : xt_mk yX5_sure cX5_sure 5 (some .long) 2 := ⟨tb3 105 rfl rfl, tb1 1 rfl rfl, ⟨by decide +kernel, by decide +kernel, by decide +kernel⟩, by decide⟩
theorem kX5_prop : xt_mk yX5_prop cX5_prop 11 (some .int) 0 := ⟨tb3 135 rfl rfl, tb1 1 rfl rfl, ⟨by decide +kernel, by decide +kernel, by decide +kernel⟩, by decide⟩
theorem kX5_turns : xt_mk yX5_turns cX5_turns 6 (some .int) 2 := ⟨tb3 139 rfl rfl, tb1 1 rfl rfl, ⟨by decide +kernel, by decide +kernel, by decide +kernel⟩, by decide⟩
theorem kX5_whoCut : xt_mk yX5_whoCut cX5_whoCut 9 (some .int) 2 := ⟨tb3 146 rfl rfl, tb1 1 rfl rfl, ⟨by decide +kernel, by decide +kernel, by decide +kernel⟩, by decide⟩
theorem kX5_drawn : xt_mk yX5_drawn cX5_drawn 3 (some .int) 1 := ⟨tb3 162 rfl rfl, tb1 1 rfl rfl, ⟨by decide +kernel, by decide +kernel, by decide +kernel⟩, by decide⟩
theorem kX5_chance : xt_mk yX5_chance cX5_chance 8 (some .long) 3 := ⟨tb3 171 rfl rfl, tb1 1 rfl rfl, ⟨by decide +kernel, by decide +kernel, by decide +kernel⟩, by decide⟩
theorem kX5_image : xt_mk yX5_image cX5_image 1 (some .int) 0 := ⟨tb3 175 rfl rfl, tb1 1 rfl rfl, ⟨by decide +kernel, by decide +kernel, by decide +kernel⟩, by decide⟩
theorem kX5_back : xt_mk yX5_back cX5_back 1 (some .int) 0 := ⟨tb3 184 rfl rfl, tb1 1 rfl rfl, ⟨by decide +kernel, by decide +kernel, by decide +kernel⟩, by decide⟩
theorem kX5_count : xt_mk yX5_count cX5_count 2 (some .int) 1 := ⟨tb3 192 rfl rfl, tb1 1 rfl rfl, ⟨by decide +kernel, by decide +kernel, by decide +kernel⟩, by decide⟩
theorem kX5_sheet : xt_mk yX5_sheet cX5_sheet 4 (some .int) 3 := ⟨tb3 196 rfl rfl, tb1 1 rfl rfl, ⟨by decide +kernel, by decide +kernel, by decide +kernel⟩, by decide⟩
theorem kX5_cell : xt_mk yX5_cell cX5_cell 4 (some .int) 3 := ⟨tb3 204 rfl rfl, tb1 1 rfl rfl, ⟨by decide +kernel, by decide +kernel, by decide +kernel⟩, by decide⟩
theorem kX5_copy : xt_mk yX5_copy cX5_copy 6 (some .int) 5 := ⟨tb3 216 rfl rfl, tb1 1 rfl rfl, ⟨by decide +kernel, by decide +kernel, by decide +kernel⟩, by decide⟩
theorem kX5_nodes : xt_mk yX5_nodes cX5_nodes 9 (some .int) 4 := ⟨tb3 225 rfl rfl, tb1 1 rfl rfl, ⟨by decide +kernel, by decide +kernel, by decide +kernel⟩, by decide⟩
theorem kX5_taken : xt_mk yX5_taken cX5_taken 3 (some .int) 2 := ⟨tb3 229 rfl rfl, tb1 1 rfl rfl, ⟨by decide +kernel, by decide +kernel, by decide +kernel⟩, by decide⟩
theorem kX5_isIn : xt_mk yX5_isIn cX5_isIn 3 (some .boolean) 3 := ⟨tb2 161 rfl rfl, tb1 1 rfl rfl, ⟨by decide +kernel, by decide +kernel, by decide +kernel⟩, by decide⟩
theorem kX5_bit : xt_mk yX5_bit cX5_bit 2 (some .int) 2 := ⟨tb2 168 rfl rfl, tb1 1 rfl rfl, ⟨by decide +kernel, by decide +kernel, by decide +kernel⟩, by decide⟩
theorem kX5_withBit : xt_mk yX5_withBit cX5_withBit 3 (some .int) 3 := ⟨tb2 171 rfl rfl, tb1 1 rfl rfl, ⟨by decide +kernel, by decide +kernel, by decide +kernel⟩, by decide⟩
theorem kX5_waysOf : xt_mk yX5_waysOf cX5_waysOf 1 (some .int) 1 := ⟨tb3 61 rfl rfl, tb1 1 rfl rfl, ⟨by decide +kernel, by decide +kernel, by decide +kernel⟩, by decide⟩
theorem kX5_nextSet : xt_mk yX5_nextSet cX5_nextSet 2 (some .int) 2 := ⟨tb3 76 rfl rfl, tb1 1 rfl rfl, ⟨by decide +kernel, by decide +kernel, by decide +kernel⟩, by decide⟩
theorem kX5_isUnder : xt_mk yX5_isUnder cX5_isUnder 2 (some .boolean) 2 := ⟨tb3 232 rfl rfl, tb1 1 rfl rfl, ⟨by decide +kernel, by decide +kernel, by decide +kernel⟩, by decide⟩
theorem kX5_lawNow : xt_mk yX5_lawNow cX5_lawNow 1 (some .int) 0 := ⟨tb3 34 rfl rfl, tb1 1 rfl rfl, ⟨by decide +kernel, by decide +kernel, by decide +kernel⟩, by decide⟩
theorem kX5_lawIfCut : xt_mk yX5_lawIfCut cX5_lawIfCut 2 (some .int) 1 := ⟨tb3 131 rfl rfl, tb1 1 rfl rfl, ⟨by decide +kernel, by decide +kernel, by decide +kernel⟩, by decide⟩
theorem kX5_priceOf : xt_mk yX5_priceOf cX5_priceOf 5 (some .int) 3 := ⟨tb2 231 rfl rfl, tb1 1 rfl rfl, ⟨by decide +kernel, by decide +kernel, by decide +kernel⟩, by decide⟩
theorem kX5_keepPrices : xt_mk yX5_keepPrices cX5_keepPrices 5 none 3 := ⟨tb3 58 rfl rfl, tb1 1 rfl rfl, ⟨by decide +kernel, by decide +kernel, by decide +kernel⟩, by decide⟩
theorem kX5_priceOfSet : xt_mk yX5_priceOfSet cX5_priceOfSet 4 (some .int) 1 := ⟨tb3 65 rfl rfl, tb1 1 rfl rfl, ⟨by decide +kernel, by decide +kernel, by decide +kernel⟩, by decide⟩
theorem kX5_leastSet : xt_mk yX5_leastSet cX5_leastSet 13 (some .int) 4 := ⟨tb3 54 rfl rfl, tb1 1 rfl rfl, ⟨by decide +kernel, by decide +kernel, by decide +kernel⟩, by decide⟩
theorem kX5_brings : xt_mk yX5_brings cX5_brings 6 (some .boolean) 4 := ⟨tb3 69 rfl rfl, tb1 1 rfl rfl, ⟨by decide +kernel, by decide +kernel, by decide +kernel⟩, by decide⟩
theorem kX5_keepLaws : xt_mk yX5_keepLaws cX5_keepLaws 6 none 1 := ⟨tb3 92 rfl rfl, tb1 1 rfl rfl, ⟨by decide +kernel, by decide +kernel, by decide +kernel⟩, by decide⟩
theorem kX5_swings : xt_mk yX5_swings cX5_swings 7 (some .int) 2 := ⟨tb3 101 rfl rfl, tb1 1 rfl rfl, ⟨by decide +kernel, by decide +kernel, by decide +kernel⟩, by decide⟩
theorem kX5_isFair : xt_mk yX5_isFair cX5_isFair 5 (some .int) 1 := ⟨tb3 97 rfl rfl, tb1 1 rfl rfl, ⟨by decide +kernel, by decide +kernel, by decide +kernel⟩, by decide⟩
theorem kX5_oddsOf : xt_mk yX5_oddsOf cX5_oddsOf 6 (some .long) 3 := ⟨tb3 113 rfl rfl, tb1 1 rfl rfl, ⟨by decide +kernel, by decide +kernel, by decide +kernel⟩, by decide⟩
theorem kX5_hundreds : xt_mk yX5_hundreds cX5_hundreds 5 (some .long) 1 := ⟨tb3 116 rfl rfl, tb1 1 rfl rfl, ⟨by decide +kernel, by decide +kernel, by decide +kernel⟩, by decide⟩
theorem kX5_mindOdds : xt_mk yX5_mindOdds cX5_mindOdds 8 (some .long) 2 := ⟨tb3 110 rfl rfl, tb1 1 rfl rfl, ⟨by decide +kernel, by decide +kernel, by decide +kernel⟩, by decide⟩
theorem kX5_stormOdds : xt_mk yX5_stormOdds cX5_stormOdds 10 (some .long) 2 := ⟨tb3 127 rfl rfl, tb1 1 rfl rfl, ⟨by decide +kernel, by decide +kernel, by decide +kernel⟩, by decide⟩
theorem kX5_lowest : xt_mk yX5_lowest cX5_lowest 7 (some .long) 3 := ⟨tb3 120 rfl rfl, tb1 1 rfl rfl, ⟨by decide +kernel, by decide +kernel, by decide +kernel⟩, by decide⟩
theorem kX5_divisorOf : xt_mk yX5_divisorOf cX5_divisorOf 7 (some .long) 2 := ⟨tb3 123 rfl rfl, tb1 1 rfl rfl, ⟨by decide +kernel, by decide +kernel, by decide +kernel⟩, by decide⟩
theorem kX5_playedOut : xt_mk yX5_playedOut cX5_playedOut 7 (some .int) 4 := ⟨tb3 142 rfl rfl, tb1 1 rfl rfl, ⟨by decide +kernel, by decide +kernel, by decide +kernel⟩, by decide⟩
theorem kX5_readsClues : xt_mk yX5_readsClues cX5_readsClues 6 (some .boolean) 1 := ⟨tb3 150 rfl rfl, tb1 1 rfl rfl, ⟨by decide +kernel, by decide +kernel, by decide +kernel⟩, by decide⟩
theorem kX5_fitsClues : xt_mk yX5_fitsClues cX5_fitsClues 4 (some .boolean) 1 := ⟨tb3 158 rfl rfl, tb1 1 rfl rfl, ⟨by decide +kernel, by decide +kernel, by decide +kernel⟩, by decide⟩
theorem kX5_lawByLot : xt_mk yX5_lawByLot cX5_lawByLot 7 (some .int) 3 := ⟨tb3 166 rfl rfl, tb1 1 rfl rfl, ⟨by decide +kernel, by decide +kernel, by decide +kernel⟩, by decide⟩
theorem kX6_in : xt_mk yX6_in cX6_in 6 (some .boolean) 3 := ⟨tb4 184 rfl rfl, tb1 13 rfl rfl, ⟨by decide +kernel, by decide +kernel, by decide +kernel⟩, by decide⟩
theorem kX6_within : xt_mk yX6_within cX6_within 3 (some .int) 3 := ⟨tb5 58 rfl rfl, tb1 13 rfl rfl, ⟨by decide +kernel, by decide +kernel, by decide +kernel⟩, by decide⟩
theorem kX6_bitsOf : xt_mk yX6_bitsOf cX6_bitsOf 3 (some .int) 1 := ⟨tb5 69 rfl rfl, tb1 13 rfl rfl, ⟨by decide +kernel, by decide +kernel, by decide +kernel⟩, by decide⟩
theorem kX6_spell : xt_mk yX6_spell cX6_spell 10 none 9 := ⟨tb4 2 rfl rfl, tb1 13 rfl rfl, ⟨by decide +kernel, by decide +kernel, by decide +kernel⟩, by decide⟩
theorem kX6_isNode : xt_mk yX6_isNode cX6_isNode 2 (some .boolean) 1 := ⟨tb4 181 rfl rfl, tb1 13 rfl rfl, ⟨by decide +kernel, by decide +kernel, by decide +kernel⟩, by decide⟩
theorem kX6_standing : xt_mk yX6_standing cX6_standing 4 (some .int) 1 := ⟨tb4 153 rfl rfl, tb1 13 rfl rfl, ⟨by decide +kernel, by decide +kernel, by decide +kernel⟩, by decide⟩
theorem kX6_kidsOf : xt_mk yX6_kidsOf cX6_kidsOf 5 (some .int) 2 := ⟨tb4 165 rfl rfl, tb1 13 rfl rfl, ⟨by decide +kernel, by decide +kernel, by decide +kernel⟩, by decide⟩
theorem kX6_isTwig : xt_mk yX6_isTwig cX6_isTwig 3 (some .boolean) 2 := ⟨tb4 161 rfl rfl, tb1 13 rfl rfl, ⟨by decide +kernel, by decide +kernel, by decide +kernel⟩, by decide⟩
theorem kX6_twigs : xt_mk yX6_twigs cX6_twigs 4 (some .int) 1 := ⟨tb5 81 rfl rfl, tb1 13 rfl rfl, ⟨by decide +kernel, by decide +kernel, by decide +kernel⟩, by decide⟩
theorem kX6_weighs : xt_mk yX6_weighs cX6_weighs 5 (some .int) 2 := ⟨tb4 173 rfl rfl, tb1 13 rfl rfl, ⟨by decide +kernel, by decide +kernel, by decide +kernel⟩, by decide⟩
theorem kX6_even : xt_mk yX6_even cX6_even 4 (some .int) 1 := ⟨tb4 169 rfl rfl, tb1 13 rfl rfl, ⟨by decide +kernel, by decide +kernel, by decide +kernel⟩, by decide⟩
theorem kX6_goes : xt_mk yX6_goes cX6_goes 7 (some .int) 2 := ⟨tb4 157 rfl rfl, tb1 13 rfl rfl, ⟨by decide +kernel, by decide +kernel, by decide +kernel⟩, by decide⟩
theorem kX6_lawOf : xt_mk yX6_lawOf cX6_lawOf 3 (some .int) 2 := ⟨tb4 149 rfl rfl, tb1 13 rfl rfl, ⟨by decide +kernel, by decide +kernel, by decide +kernel⟩, by decide⟩
theorem kX6_law : xt_mk yX6_law cX6_law 1 (some .int) 0 := ⟨tb4 145 rfl rfl, tb1 13 rfl rfl, ⟨by decide +kernel, by decide +kernel, by decide +kernel⟩, by decide⟩
theorem kX6_grow : xt_mk yX6_grow cX6_grow 4 (some .int) 3 := ⟨tb4 177 rfl rfl, tb1 13 rfl rfl, ⟨by decide +kernel, by decide +kernel, by decide +kernel⟩, by decide⟩
theorem kX6_set : xt_mk yX6_set cX6_set 5 (some .int) 3 := ⟨tb4 190 rfl rfl, tb1 13 rfl rfl, ⟨by decide +kernel, by decide +kernel, by decide +kernel⟩, by decide⟩
theorem kX6_told : xt_mk yX6_told cX6_told 5 (some .int) 2 := ⟨tb4 198 rfl rfl, tb1 13 rfl rfl, ⟨by decide +kernel, by decide +kernel, by decide +kernel⟩, by decide⟩
theorem kX6_feed : xt_mk yX6_feed cX6_feed 2 (some .int) 1 := ⟨tb4 202 rfl rfl, tb1 13 rfl rfl, ⟨by decide +kernel, by decide +kernel, by decide +kernel⟩, by decide⟩
theorem kX6_byteAt : xt_mk yX6_byteAt cX6_byteAt 2 (some .int) 1 := ⟨tb4 219 rfl rfl, tb1 13 rfl rfl, ⟨by decide +kernel, by decide +kernel, by decide +kernel⟩, by decide⟩
theorem kX6_next : xt_mk yX6_next cX6_next 3 none 0 := ⟨tb4 215 rfl rfl, tb1 13 rfl rfl, ⟨by decide +kernel, by decide +kernel, by decide +kernel⟩, by decide⟩
theorem kX6_fail : xt_mk yX6_fail cX6_fail 1 none 0 := ⟨tb5 0 rfl rfl, tb1 13 rfl rfl, ⟨by decide +kernel, by decide +kernel, by decide +kernel⟩, by decide⟩
theorem kX6_isLetter : xt_mk yX6_isLetter cX6_isLetter 3 (some .boolean) 2 := ⟨tb4 232 rfl rfl, tb1 13 rfl rfl, ⟨by decide +kernel, by decide +kernel, by decide +kernel⟩, by decide⟩
theorem kX6_isWord : xt_mk yX6_isWord cX6_isWord 9 (some .boolean) 8 := ⟨tb4 228 rfl rfl, tb1 13 rfl rfl, ⟨by decide +kernel, by decide +kernel, by decide +kernel⟩, by decide⟩
theorem kX6_isSign : xt_mk yX6_isSign cX6_isSign 2 (some .boolean) 1 := ⟨tb5 32 rfl rfl, tb1 13 rfl rfl, ⟨by decide +kernel, by decide +kernel, by decide +kernel⟩, by decide⟩
theorem kX6_opens : xt_mk yX6_opens cX6_opens 1 (some .boolean) 0 := ⟨tb5 16 rfl rfl, tb1 13 rfl rfl, ⟨by decide +kernel, by decide +kernel, by decide +kernel⟩, by decide⟩
theorem kX6_name : xt_mk yX6_name cX6_name 1 (some .int) 0 := ⟨tb5 36 rfl rfl, tb1 13 rfl rfl, ⟨by decide +kernel, by decide +kernel, by decide +kernel⟩, by decide⟩
theorem kX6_atom : xt_mk yX6_atom cX6_atom 2 (some .int) 0 := ⟨tb5 28 rfl rfl, tb1 13 rfl rfl, ⟨by decide +kernel, by decide +kernel, by decide +kernel⟩, by decide⟩
theorem kX6_term : xt_mk yX6_term cX6_term 2 (some .int) 0 := ⟨tb5 24 rfl rfl, tb1 13 rfl rfl, ⟨by decide +kernel, by decide +kernel, by decide +kernel⟩, by decide⟩
theorem kX6_added : xt_mk yX6_added cX6_added 4 (some .int) 0 := ⟨tb5 20 rfl rfl, tb1 13 rfl rfl, ⟨by decide +kernel, by decide +kernel, by decide +kernel⟩, by decide⟩
theorem kX6_not : xt_mk yX6_not cX6_not 4 (some .int) 0 := ⟨tb5 12 rfl rfl, tb1 13 rfl rfl, ⟨by decide +kernel, by decide +kernel, by decide +kernel⟩, by decide⟩
theorem kX6_both : xt_mk yX6_both cX6_both 3 (some .int) 0 := ⟨tb5 8 rfl rfl, tb1 13 rfl rfl, ⟨by decide +kernel, by decide +kernel, by decide +kernel⟩, by decide⟩
theorem kX6_either : xt_mk yX6_either cX6_either 3 (some .int) 0 := ⟨tb5 4 rfl rfl, tb1 13 rfl rfl, ⟨by decide +kernel, by decide +kernel, by decide +kernel⟩, by decide⟩
theorem kX6_part : xt_mk yX6_part cX6_part 3 (some .int) 1 := ⟨tb4 236 rfl rfl, tb1 13 rfl rfl, ⟨by decide +kernel, by decide +kernel, by decide +kernel⟩, by decide⟩
theorem kX6_read : xt_mk yX6_read cX6_read 6 (some .int) 2 := ⟨tb4 211 rfl rfl, tb1 13 rfl rfl, ⟨by decide +kernel, by decide +kernel, by decide +kernel⟩, by decide⟩
theorem kX6_text : xt_mk yX6_text cX6_text 2 (some .int) 0 := ⟨tb4 207 rfl rfl, tb1 13 rfl rfl, ⟨by decide +kernel, by decide +kernel, by decide +kernel⟩, by decide⟩
theorem kX6_force : xt_mk yX6_force cX6_force 3 (some .int) 1 := ⟨tb5 42 rfl rfl, tb1 13 rfl rfl, ⟨by decide +kernel, by decide +kernel, by decide +kernel⟩, by decide⟩
theorem kX6_growsFrom : xt_mk yX6_growsFrom cX6_growsFrom 4 (some .boolean) 2 := ⟨tb5 55 rfl rfl, tb1 13 rfl rfl, ⟨by decide +kernel, by decide +kernel, by decide +kernel⟩, by decide⟩
theorem kX6_says : xt_mk yX6_says cX6_says 5 (some .int) 2 := ⟨tb5 51 rfl rfl, tb1 13 rfl rfl, ⟨by decide +kernel, by decide +kernel, by decide +kernel⟩, by decide⟩
theorem kX6_asks : xt_mk yX6_asks cX6_asks 3 (some .int) 2 := ⟨tb5 46 rfl rfl, tb1 13 rfl rfl, ⟨by decide +kernel, by decide +kernel, by decide +kernel⟩, by decide⟩
theorem kX6_pass : xt_mk yX6_pass cX6_pass 3 (some .int) 0 := ⟨tb5 62 rfl rfl, tb1 13 rfl rfl, ⟨by decide +kernel, by decide +kernel, by decide +kernel⟩, by decide⟩
theorem kX6_cut : xt_mk yX6_cut cX6_cut 3 (some .int) 1 := ⟨tb5 66 rfl rfl, tb1 13 rfl rfl, ⟨by decide +kernel, by decide +kernel, by decide +kernel⟩, by decide⟩
theorem kX6_graft : xt_mk yX6_graft cX6_graft 3 (some .int) 1 := ⟨tb5 73 rfl rfl, tb1 13 rfl rfl, ⟨by decide +kernel, by decide +kernel, by decide +kernel⟩, by decide⟩
theorem kX6_priceOf : xt_mk yX6_priceOf cX6_priceOf 4 (some .int) 1 := ⟨tb5 89 rfl rfl, tb1 13 rfl rfl, ⟨by decide +kernel, by decide +kernel, by decide +kernel⟩, by decide⟩
theorem kX6_gathers : xt_mk yX6_gathers cX6_gathers 4 none 2 := ⟨tb5 85 rfl rfl, tb1 13 rfl rfl, ⟨by decide +kernel, by decide +kernel, by decide +kernel⟩, by decide⟩
theorem kX6_minds : xt_mk yX6_minds cX6_minds 7 (some .int) 3 := ⟨tb5 77 rfl rfl, tb1 13 rfl rfl, ⟨by decide +kernel, by decide +kernel, by decide +kernel⟩, by decide⟩
theorem kX6_areApart : xt_mk yX6_areApart cX6_areApart 4 (some .boolean) 1 := ⟨tb5 97 rfl rfl, tb1 13 rfl rfl, ⟨by decide +kernel, by decide +kernel, by decide +kernel⟩, by decide⟩
theorem kX6_cuts : xt_mk yX6_cuts cX6_cuts 7 (some .int) 3 := ⟨tb5 93 rfl rfl, tb1 13 rfl rfl, ⟨by decide +kernel, by decide +kernel, by decide +kernel⟩, by decide⟩
theorem kX6_lopsided : xt_mk yX6_lopsided cX6_lopsided 7 (some .int) 1 := ⟨tb5 101 rfl rfl, tb1 13 rfl rfl, ⟨by decide +kernel, by decide +kernel, by decide +kernel⟩, by decide⟩
theorem kX6_countOf : xt_mk yX6_countOf cX6_countOf 6 (some .int) 3 := ⟨tb5 109 rfl rfl, tb1 13 rfl rfl, ⟨by decide +kernel, by decide +kernel, by decide +kernel⟩, by decide⟩
theorem kX6_counts : xt_mk yX6_counts cX6_counts 7 (some .int) 1 := ⟨tb5 105 rfl rfl, tb1 13 rfl rfl, ⟨by decide +kernel, by decide +kernel, by decide +kernel⟩, by decide⟩
theorem kX6_lowest : xt_mk yX6_lowest cX6_lowest 11 (some .long) 3 := ⟨tb5 128 rfl rfl, tb1 13 rfl rfl, ⟨by decide +kernel, by decide +kernel, by decide +kernel⟩, by decide⟩
theorem kX6_allBy : xt_mk yX6_allBy cX6_allBy 10 (some .long) 3 := ⟨tb5 122 rfl rfl, tb1 13 rfl rfl, ⟨by decide +kernel, by decide +kernel, by decide +kernel⟩, by decide⟩
theorem kX6_hundreds : xt_mk yX6_hundreds cX6_hundreds 4 (some .long) 1 := ⟨tb5 125 rfl rfl, tb1 13 rfl rfl, ⟨by decide +kernel, by decide +kernel, by decide +kernel⟩, by decide⟩
theorem kX6_boughs : xt_mk yX6_boughs cX6_boughs 4 (some .int) 0 := ⟨tb5 118 rfl rfl, tb1 13 rfl rfl, ⟨by decide +kernel, by decide +kernel, by decide +kernel⟩, by decide⟩
theorem kX6_sure : xt_mk yX6_sure cX6_sure 5 (some .long) 2 := ⟨tb5 113 rfl rfl, tb1 13 rfl rfl, ⟨by decide +kernel, by decide +kernel, by decide +kernel⟩, by decide⟩
theorem kX6_prop : xt_mk yX6_prop cX6_prop 10 (some .int) 0 := ⟨tb5 132 rfl rfl, tb1 13 rfl rfl, ⟨by decide +kernel, by decide +kernel, by decide +kernel⟩, by decide⟩
theorem kX6_value : xt_mk yX6_value cX6_value 6 (some .int) 3 := ⟨tb5 141 rfl rfl, tb1 13 rfl rfl, ⟨by decide +kernel, by decide +kernel, by decide +kernel⟩, by decide⟩
theorem kX6_turns : xt_mk yX6_turns cX6_turns 6 (some .int) 2 := ⟨tb5 137 rfl rfl, tb1 13 rfl rfl, ⟨by decide +kernel, by decide +kernel, by decide +kernel⟩, by decide⟩
theorem kX6_whoCut : xt_mk yX6_whoCut cX6_whoCut 7 (some .int) 2 := ⟨tb5 145 rfl rfl, tb1 13 rfl rfl, ⟨by decide +kernel, by decide +kernel, by decide +kernel⟩, by decide⟩
theorem kX6_isSo : xt_mk yX6_isSo cX6_isSo 7 (some .boolean) 2 := ⟨tb5 153 rfl rfl, tb1 13 rfl rfl, ⟨by decide +kernel, by decide +kernel, by decide +kernel⟩, by decide⟩
theorem kX6_drawn : xt_mk yX6_drawn cX6_drawn 6 (some .int) 1 := ⟨tb5 157 rfl rfl, tb1 13 rfl rfl, ⟨by decide +kernel, by decide +kernel, by decide +kernel⟩, by decide⟩
theorem kX6_chance : xt_mk yX6_chance cX6_chance 7 (some .long) 3 := ⟨tb5 162 rfl rfl, tb1 13 rfl rfl, ⟨by decide +kernel, by decide +kernel, by decide +kernel⟩, by decide⟩
theorem kX6_image : xt_mk yX6_image cX6_image 2 (some .int) 0 := ⟨tb5 168 rfl rfl, tb1 13 rfl rfl, ⟨by decide +kernel, by decide +kernel, by decide +kernel⟩, by decide⟩
theorem kX6_back : xt_mk yX6_back cX6_back 2 (some .int) 0 := ⟨tb5 172 rfl rfl, tb1 13 rfl rfl, ⟨by decide +kernel, by decide +kernel, by decide +kernel⟩, by decide⟩
theorem kX6_count : xt_mk yX6_count cX6_count 2 (some .int) 1 := ⟨tb5 176 rfl rfl, tb1 13 rfl rfl, ⟨by decide +kernel, by decide +kernel, by decide +kernel⟩, by decide⟩
theorem kX6_isSheet : xt_mk yX6_isSheet cX6_isSheet 1 (some .boolean) 1 := ⟨tb5 148 rfl rfl, tb1 13 rfl rfl, ⟨by decide +kernel, by decide +kernel, by decide +kernel⟩, by decide⟩
theorem kX6_sheet : xt_mk yX6_sheet cX6_sheet 5 (some .int) 3 := ⟨tb5 181 rfl rfl, tb1 13 rfl rfl, ⟨by decide +kernel, by decide +kernel, by decide +kernel⟩, by decide⟩
theorem kX6_cell : xt_mk yX6_cell cX6_cell 4 (some .int) 3 := ⟨tb5 186 rfl rfl, tb1 13 rfl rfl, ⟨by decide +kernel, by decide +kernel, by decide +kernel⟩, by decide⟩
theorem kX6_copy : xt_mk yX6_copy cX6_copy 9 (some .int) 5 := ⟨tb5 190 rfl rfl, tb1 13 rfl rfl, ⟨by decide +kernel, by decide +kernel, by decide +kernel⟩, by decide⟩
theorem kX6_nodes : xt_mk yX6_nodes cX6_nodes 8 (some .int) 4 := ⟨tb5 194 rfl rfl, tb1 13 rfl rfl, ⟨by decide +kernel, by decide +kernel, by decide +kernel⟩, by decide⟩
theorem kX6_over : xt_mk yX6_over cX6_over 1 (some .int) 1 := ⟨tb5 203 rfl rfl, tb1 13 rfl rfl, ⟨by decide +kernel, by decide +kernel, by decide +kernel⟩, by decide⟩
theorem kX6_taken : xt_mk yX6_taken cX6_taken 4 (some .int) 2 := ⟨tb5 200 rfl rfl, tb1 13 rfl rfl, ⟨by decide +kernel, by decide +kernel, by decide +kernel⟩, by decide⟩
theorem kJ6_bitCount_0f7a4 : xt_mk yJ6_bitCount_0f7a4 cJ6_bitCount_0f7a4 1 (some .int) 1 := ⟨tb2 219 rfl rfl, tb1 14 rfl rfl, ⟨by decide +kernel, by decide +kernel, by decide +kernel⟩, by decide⟩
theorem kJ9_max_7cf53 : xt_mk yJ9_max_7cf53 cJ9_max_7cf53 2 (some .int) 2 := ⟨tb3 14 rfl rfl, tb1 15 rfl rfl, ⟨by decide +kernel, by decide +kernel, by decide +kernel⟩, by decide⟩
theorem kJ9_min_7cf53 : xt_mk yJ9_min_7cf53 cJ9_min_7cf53 2 (some .int) 2 := ⟨tb3 11 rfl rfl, tb1 15 rfl rfl, ⟨by decide +kernel, by decide +kernel, by decide +kernel⟩, by decide⟩
theorem kJ0_length_8abf5 : xt_mk yJ0_length_8abf5 cJ0_length_8abf5 1 (some .int) 0 := ⟨tb1 207 rfl rfl, tb1 8 rfl rfl, ⟨by decide +kernel, by decide +kernel, by decide +kernel⟩, by decide⟩
theorem kJ0_charAt_5068e : xt_mk yJ0_charAt_5068e cJ0_charAt_5068e 2 (some .char) 1 := ⟨tb1 217 rfl rfl, tb1 8 rfl rfl, ⟨by decide +kernel, by decide +kernel, by decide +kernel⟩, by decide⟩
theorem kJ0_coder_7d493 : xt_mk yJ0_coder_7d493 cJ0_coder_7d493 1 (some .byte) 0 := ⟨tb1 211 rfl rfl, tb1 8 rfl rfl, ⟨by decide +kernel, by decide +kernel, by decide +kernel⟩, by decide⟩
theorem kJ0_isLatin1_aae02 : xt_mk yJ0_isLatin1_aae02 cJ0_isLatin1_aae02 1 (some .boolean) 0 := ⟨tb1 221 rfl rfl, tb1 8 rfl rfl, ⟨by decide +kernel, by decide +kernel, by decide +kernel⟩, by decide⟩
theorem kJ0_checkIndex_df160 : xt_mk yJ0_checkIndex_df160 cJ0_checkIndex_df160 2 none 2 := ⟨tb1 227 rfl rfl, tb1 8 rfl rfl, ⟨by decide +kernel, by decide +kernel, by decide +kernel⟩, by decide⟩
theorem kJ1_charAt_3b067 : xt_mk yJ1_charAt_3b067 cJ1_charAt_3b067 2 (some .char) 2 := ⟨tb1 224 rfl rfl, tb1 9 rfl rfl, ⟨by decide +kernel, by decide +kernel, by decide +kernel⟩, by decide⟩
theorem kJ2_getChar_3b067 : xt_mk yJ2_getChar_3b067 cJ2_getChar_3b067 2 (some .char) 2 := ⟨tb2 5 rfl rfl, tb1 11 rfl rfl, ⟨by decide +kernel, by decide +kernel, by decide +kernel⟩, by decide⟩
theorem kJ2_length_9d52b : xt_mk yJ2_length_9d52b cJ2_length_9d52b 1 (some .int) 1 := ⟨tb2 1 rfl rfl, tb1 11 rfl rfl, ⟨by decide +kernel, by decide +kernel, by decide +kernel⟩, by decide⟩
theorem kJ2_charAt_3b067 : xt_mk yJ2_charAt_3b067 cJ2_charAt_3b067 2 (some .char) 2 := ⟨tb1 235 rfl rfl, tb1 11 rfl rfl, ⟨by decide +kernel, by decide +kernel, by decide +kernel⟩, by decide⟩
theorem kJ2_checkIndex_2214a : xt_mk yJ2_checkIndex_2214a cJ2_checkIndex_2214a 2 none 2 := ⟨tb1 238 rfl rfl, tb1 11 rfl rfl, ⟨by decide +kernel, by decide +kernel, by decide +kernel⟩, by decide⟩
theorem kJ7_fill_53178 : xt_mk yJ7_fill_53178 cJ7_fill_53178 4 none 2 := ⟨tb1 154 rfl rfl, tb1 6 rfl rfl, ⟨by decide +kernel, by decide +kernel, by decide +kernel⟩, by decide⟩
theorem kJ3_checkIndex_8e157 : xt_mk yJ3_checkIndex_8e157 cJ3_checkIndex_8e157 3 (some .int) 3 := ⟨tb1 232 rfl rfl, tb1 10 rfl rfl, ⟨by decide +kernel, by decide +kernel, by decide +kernel⟩, by decide⟩
theorem mJ0_495 : xt_mS RJ0 495 yJ1_charAt_3b067 := ⟨tb1 222 rfl rfl, tb1 223 rfl rfl⟩
theorem mJ0_498 : xt_mS RJ0 498 yJ2_charAt_3b067 := ⟨tb1 233 rfl rfl, tb1 234 rfl rfl⟩
theorem mJ0_1059 : xt_mS RJ0 1059 yJ3_checkIndex_8e157 := ⟨tb1 230 rfl rfl, tb1 231 rfl rfl⟩
theorem mJ1_9 : xt_mS RJ1 9 yJ0_checkIndex_df160 := ⟨tb1 225 rfl rfl, tb1 226 rfl rfl⟩
theorem mJ2_48 : xt_mS RJ2 48 yJ2_length_9d52b := ⟨tb1 239 rfl rfl, tb2 0 rfl rfl⟩
theorem mJ2_67 : xt_mS RJ2 67 yJ2_checkIndex_2214a := ⟨tb1 236 rfl rfl, tb1 237 rfl rfl⟩
theorem mJ2_71 : xt_mS RJ2 71 yJ2_getChar_3b067 := ⟨tb2 3 rfl rfl, tb2 4 rfl rfl⟩
theorem mJ2_414 : xt_mS RJ2 414 yJ0_checkIndex_df160 := ⟨tb2 2 rfl rfl, tb1 226 rfl rfl⟩
theorem aX0_49 : xt_ac RX0 49 := tb3 180 rfl rfl
theorem mX1_49 : xt_mV RX1 49 1 yX1_has := ⟨tb2 155 rfl rfl, tb2 156 rfl rfl, tb2 157 rfl rfl, _, rfl, rfl⟩
theorem mX1_57 : xt_mV RX1 57 1 yX1_standing := ⟨tb2 162 rfl rfl, tb2 163 rfl rfl, tb2 164 rfl rfl, _, rfl, rfl⟩
theorem mX1_69 : xt_mS RX1 69 yJ7_fill_53178 := ⟨tb2 200 rfl rfl, tb1 153 rfl rfl⟩
theorem mX1_75 : xt_mV RX1 75 1 yX1_goesByKids := ⟨tb2 201 rfl rfl, tb2 203 rfl rfl, tbs (n := 12) (by decide +kernel) rfl, _, rfl, rfl⟩
theorem mX1_78 : xt_mV RX1 78 1 yX1_weight := ⟨tb2 209 rfl rfl, tb2 210 rfl rfl, tb2 211 rfl rfl, _, rfl, rfl⟩
theorem mX1_81 : xt_mV RX1 81 1 yX1_whenEven := ⟨tb2 205 rfl rfl, tb2 207 rfl rfl, tbs (n := 12) (by decide +kernel) rfl, _, rfl, rfl⟩
theorem mX1_84 : xt_mV RX1 84 1 yX1_twigsOf := ⟨tb2 236 rfl rfl, tb2 193 rfl rfl, tb2 194 rfl rfl, _, rfl, rfl⟩
theorem mX1_87 : xt_mS RX1 87 yJ6_bitCount_0f7a4 := ⟨tb2 237 rfl rfl, tb2 218 rfl rfl⟩
theorem mX1_92 : xt_mV RX1 92 1 yX1_kidSet := ⟨tb2 238 rfl rfl, tb2 214 rfl rfl, tb2 215 rfl rfl, _, rfl, rfl⟩
theorem mX2_40 : xt_mV RX2 40 2 yX2_next := ⟨tb2 20 rfl rfl, tb2 22 rfl rfl, tbs (n := 9) (by decide +kernel) rfl, _, rfl, rfl⟩
theorem mX2_43 : xt_mV RX2 43 2 yX2_takes := ⟨tb2 59 rfl rfl, tb2 61 rfl rfl, tbs (n := 9) (by decide +kernel) rfl, _, rfl, rfl⟩
theorem mX2_47 : xt_mV RX2 47 2 yX2_readsE := ⟨tb2 63 rfl rfl, tb2 65 rfl rfl, tbs (n := 9) (by decide +kernel) rfl, _, rfl, rfl⟩
theorem mX2_51 : xt_mV RX2 51 2 yX2_readsAnd := ⟨tb2 67 rfl rfl, tb2 69 rfl rfl, tbs (n := 9) (by decide +kernel) rfl, _, rfl, rfl⟩
theorem mX2_54 : xt_mV RX2 54 2 yX2_make := ⟨tb2 99 rfl rfl, tb2 101 rfl rfl, tbs (n := 9) (by decide +kernel) rfl, _, rfl, rfl⟩
theorem mX2_58 : xt_mV RX2 58 2 yX2_readsNot := ⟨tb2 71 rfl rfl, tb2 73 rfl rfl, tbs (n := 9) (by decide +kernel) rfl, _, rfl, rfl⟩
theorem mX2_61 : xt_mV RX2 61 2 yX2_opensAll := ⟨tb2 75 rfl rfl, tb2 77 rfl rfl, tbs (n := 9) (by decide +kernel) rfl, _, rfl, rfl⟩
theorem mX2_65 : xt_mV RX2 65 2 yX2_readsComparison := ⟨tb2 79 rfl rfl, tb2 81 rfl rfl, tbs (n := 9) (by decide +kernel) rfl, _, rfl, rfl⟩
theorem mX2_68 : xt_mV RX2 68 2 yX2_closes := ⟨tb2 103 rfl rfl, tb2 105 rfl rfl, tbs (n := 9) (by decide +kernel) rfl, _, rfl, rfl⟩
theorem mX2_72 : xt_mV RX2 72 2 yX2_readsSum := ⟨tb2 83 rfl rfl, tb2 85 rfl rfl, tbs (n := 9) (by decide +kernel) rfl, _, rfl, rfl⟩
theorem mX2_75 : xt_mV RX2 75 2 yX2_readsTerm := ⟨tb2 87 rfl rfl, tb2 89 rfl rfl, tbs (n := 9) (by decide +kernel) rfl, _, rfl, rfl⟩
theorem mX2_78 : xt_mV RX2 78 2 yX2_readsOne := ⟨tb2 91 rfl rfl, tb2 93 rfl rfl, tbs (n := 9) (by decide +kernel) rfl, _, rfl, rfl⟩
theorem mX2_81 : xt_mV RX2 81 2 yX2_readsPlainOne := ⟨tb2 95 rfl rfl, tb2 97 rfl rfl, tbs (n := 9) (by decide +kernel) rfl, _, rfl, rfl⟩
theorem mX2_84 : xt_mS RX2 84 yX2_isLetter := ⟨tb2 24 rfl rfl, tb2 25 rfl rfl⟩
theorem mX2_87 : xt_mV RX2 87 2 yX2_word := ⟨tb2 27 rfl rfl, tb2 29 rfl rfl, tbs (n := 9) (by decide +kernel) rfl, _, rfl, rfl⟩
theorem mX2_91 : xt_mS RX2 91 yX2_isDigit := ⟨tb2 49 rfl rfl, tb2 50 rfl rfl⟩
theorem mX2_94 : xt_mV RX2 94 2 yX2_figure := ⟨tb2 52 rfl rfl, tb2 54 rfl rfl, tbs (n := 9) (by decide +kernel) rfl, _, rfl, rfl⟩
theorem mX2_97 : xt_mS RX2 97 yX2_sign := ⟨tb2 56 rfl rfl, tb2 57 rfl rfl⟩
theorem mX2_102 : xt_mV RX2 102 2 yX2_spells := ⟨tb2 32 rfl rfl, tb2 34 rfl rfl, tbs (n := 9) (by decide +kernel) rfl, _, rfl, rfl⟩
theorem mX3_21 : xt_mS RX3 21 yJ7_fill_53178 := ⟨tb1 152 rfl rfl, tb1 153 rfl rfl⟩
theorem aX3_27 : xt_ac RX3 27 := tb3 221 rfl rfl
theorem aX4_31 : xt_ac RX4 31 := tb2 111 rfl rfl
theorem mX4_38 : xt_mS RX4 38 yX4_truth := ⟨tb3 3 rfl rfl, tb3 4 rfl rfl⟩
theorem mX4_42 : xt_mS RX4 42 yX4_joined := ⟨tb3 6 rfl rfl, tb3 7 rfl rfl⟩
theorem mX5_69 : xt_mV RX5 69 2 yX2_put := ⟨tb2 12 rfl rfl, tb2 13 rfl rfl, tb2 14 rfl rfl, _, rfl, rfl⟩
theorem mX5_73 : xt_mV RX5 73 2 yX2_isText := ⟨tb2 16 rfl rfl, tb2 17 rfl rfl, tb2 18 rfl rfl, _, rfl, rfl⟩
theorem mX5_77 : xt_mV RX5 77 4 yX4_add := ⟨tb2 107 rfl rfl, tb2 108 rfl rfl, tb2 109 rfl rfl, _, rfl, rfl⟩
theorem mX5_81 : xt_mV RX5 81 2 yX2_empty := ⟨tb2 114 rfl rfl, tb2 115 rfl rfl, tb2 116 rfl rfl, _, rfl, rfl⟩
theorem mX5_84 : xt_mV RX5 84 1 yX1_sprout := ⟨tb2 151 rfl rfl, tb2 152 rfl rfl, tb2 153 rfl rfl, _, rfl, rfl⟩
theorem mX5_88 : xt_mS RX5 88 yX5_isIn := ⟨tb2 176 rfl rfl, tb2 160 rfl rfl⟩
theorem mX5_92 : xt_mV RX5 92 5 yX5_putYear := ⟨tb2 177 rfl rfl, tb2 179 rfl rfl, tbs (n := 9) (by decide +kernel) rfl, _, rfl, rfl⟩
theorem mX5_96 : xt_mV RX5 96 1 yX1_has := ⟨tb2 181 rfl rfl, tb2 156 rfl rfl, tb2 157 rfl rfl, _, rfl, rfl⟩
theorem mX5_99 : xt_mS RX5 99 yX5_mostOf := ⟨tb2 182 rfl rfl, tb2 183 rfl rfl⟩
theorem mX5_109 : xt_mS RX5 109 yX5_bit := ⟨tb2 185 rfl rfl, tb2 167 rfl rfl⟩
theorem mX5_113 : xt_mS RX5 113 yX5_withBit := ⟨tb2 186 rfl rfl, tb2 170 rfl rfl⟩
theorem mX5_125 : xt_mV RX5 125 1 yX1_standing := ⟨tb2 191 rfl rfl, tb2 163 rfl rfl, tb2 164 rfl rfl, _, rfl, rfl⟩
theorem mX5_134 : xt_mV RX5 134 1 yX1_twigsOf := ⟨tb2 192 rfl rfl, tb2 193 rfl rfl, tb2 194 rfl rfl, _, rfl, rfl⟩
theorem mX5_137 : xt_mV RX5 137 1 yX1_vote := ⟨tb2 196 rfl rfl, tb2 197 rfl rfl, tb2 198 rfl rfl, _, rfl, rfl⟩
theorem mX5_140 : xt_mV RX5 140 1 yX1_kidSet := ⟨tb2 213 rfl rfl, tb2 214 rfl rfl, tb2 215 rfl rfl, _, rfl, rfl⟩
theorem mX5_143 : xt_mS RX5 143 yJ6_bitCount_0f7a4 := ⟨tb2 217 rfl rfl, tb2 218 rfl rfl⟩
theorem mX5_148 : xt_mV RX5 148 1 yX1_weight := ⟨tb2 223 rfl rfl, tb2 210 rfl rfl, tb2 211 rfl rfl, _, rfl, rfl⟩
theorem mX5_151 : xt_mV RX5 151 5 yX5_priceOf := ⟨tb2 228 rfl rfl, tb2 230 rfl rfl, tbs (n := 9) (by decide +kernel) rfl, _, rfl, rfl⟩
theorem mX5_164 : xt_mV RX5 164 5 yX5_lawNow := ⟨tb3 31 rfl rfl, tb3 33 rfl rfl, tbs (n := 9) (by decide +kernel) rfl, _, rfl, rfl⟩
theorem mX5_167 : xt_mS RX5 167 yJ9_min_7cf53 := ⟨tb3 9 rfl rfl, tb3 10 rfl rfl⟩
theorem mX5_175 : xt_mV RX5 175 5 yX5_leastSet := ⟨tb3 51 rfl rfl, tb3 53 rfl rfl, tbs (n := 9) (by decide +kernel) rfl, _, rfl, rfl⟩
theorem mX5_179 : xt_mS RX5 179 yX5_waysOf := ⟨tb3 59 rfl rfl, tb3 60 rfl rfl⟩
theorem mX5_182 : xt_mS RX5 182 yJ9_max_7cf53 := ⟨tb3 12 rfl rfl, tb3 13 rfl rfl⟩
theorem mX5_185 : xt_mS RX5 185 yX5_nextSet := ⟨tb3 74 rfl rfl, tb3 75 rfl rfl⟩
theorem mX5_188 : xt_mV RX5 188 5 yX5_keepLaws := ⟨tb3 89 rfl rfl, tb3 91 rfl rfl, tbs (n := 9) (by decide +kernel) rfl, _, rfl, rfl⟩
theorem mX5_192 : xt_mV RX5 192 5 yX5_isFair := ⟨tb3 94 rfl rfl, tb3 96 rfl rfl, tbs (n := 9) (by decide +kernel) rfl, _, rfl, rfl⟩
theorem mX5_195 : xt_mV RX5 195 5 yX5_swings := ⟨tb3 98 rfl rfl, tb3 100 rfl rfl, tbs (n := 9) (by decide +kernel) rfl, _, rfl, rfl⟩
theorem mX5_200 : xt_mV RX5 200 5 yX5_mindOdds := ⟨tb3 107 rfl rfl, tb3 109 rfl rfl, tbs (n := 9) (by decide +kernel) rfl, _, rfl, rfl⟩
theorem mX5_204 : xt_mS RX5 204 yX5_hundreds := ⟨tb3 114 rfl rfl, tb3 115 rfl rfl⟩
theorem mX5_208 : xt_mS RX5 208 yX5_lowest := ⟨tb3 118 rfl rfl, tb3 119 rfl rfl⟩
theorem mX5_212 : xt_mV RX5 212 5 yX5_keepPrices := ⟨tb3 55 rfl rfl, tb3 57 rfl rfl, tbs (n := 9) (by decide +kernel) rfl, _, rfl, rfl⟩
theorem mX5_216 : xt_mV RX5 216 5 yX5_stormOdds := ⟨tb3 124 rfl rfl, tb3 126 rfl rfl, tbs (n := 9) (by decide +kernel) rfl, _, rfl, rfl⟩
theorem mX5_219 : xt_mS RX5 219 yX5_playedOut := ⟨tb3 140 rfl rfl, tb3 141 rfl rfl⟩
theorem mX5_226 : xt_mV RX5 226 5 yX5_readsClues := ⟨tb3 147 rfl rfl, tb3 149 rfl rfl, tbs (n := 9) (by decide +kernel) rfl, _, rfl, rfl⟩
theorem mX5_229 : xt_mV RX5 229 1 yX1_isNested := ⟨tb3 70 rfl rfl, tb3 71 rfl rfl, tb3 72 rfl rfl, _, rfl, rfl⟩
theorem mX5_232 : xt_mV RX5 232 5 yX5_fitsClues := ⟨tb3 155 rfl rfl, tb3 157 rfl rfl, tbs (n := 9) (by decide +kernel) rfl, _, rfl, rfl⟩
theorem mX5_235 : xt_mV RX5 235 5 yX5_lawByLot := ⟨tb3 163 rfl rfl, tb3 165 rfl rfl, tbs (n := 9) (by decide +kernel) rfl, _, rfl, rfl⟩
theorem mX5_238 : xt_mV RX5 238 0 yX0_keep := ⟨tb3 176 rfl rfl, tb3 177 rfl rfl, tb3 178 rfl rfl, _, rfl, rfl⟩
theorem mX5_247 : xt_mV RX5 247 0 yX0_layBack := ⟨tb3 185 rfl rfl, tb3 186 rfl rfl, tb3 187 rfl rfl, _, rfl, rfl⟩
theorem mX5_252 : xt_mV RX5 252 3 yX3_lay := ⟨tb3 197 rfl rfl, tb3 198 rfl rfl, tb3 199 rfl rfl, _, rfl, rfl⟩
theorem mX5_255 : xt_mV RX5 255 3 yX3_holds := ⟨tb3 205 rfl rfl, tb3 206 rfl rfl, tb3 207 rfl rfl, _, rfl, rfl⟩
theorem mX5_258 : xt_mV RX5 258 3 yX3_write := ⟨tb3 209 rfl rfl, tb3 210 rfl rfl, tb3 211 rfl rfl, _, rfl, rfl⟩
theorem mX5_261 : xt_mV RX5 261 3 yX3_move := ⟨tb3 217 rfl rfl, tb3 218 rfl rfl, tb3 219 rfl rfl, _, rfl, rfl⟩
theorem mX5_265 : xt_mV RX5 265 3 yX3_read := ⟨tb3 151 rfl rfl, tb3 152 rfl rfl, tb3 153 rfl rfl, _, rfl, rfl⟩
theorem mX5_268 : xt_mS RX5 268 yX5_isUnder := ⟨tb3 230 rfl rfl, tb3 231 rfl rfl⟩
theorem mX5_272 : xt_mV RX5 272 1 yX1_tellFacts := ⟨tb2 232 rfl rfl, tb2 233 rfl rfl, tb2 234 rfl rfl, _, rfl, rfl⟩
theorem mX5_276 : xt_mV RX5 276 4 yX4_value := ⟨tb2 239 rfl rfl, tb3 0 rfl rfl, tb3 1 rfl rfl, _, rfl, rfl⟩
theorem mX5_280 : xt_mV RX5 280 5 yX5_priceOfSet := ⟨tb3 62 rfl rfl, tb3 64 rfl rfl, tbs (n := 9) (by decide +kernel) rfl, _, rfl, rfl⟩
theorem mX5_283 : xt_mV RX5 283 5 yX5_brings := ⟨tb3 66 rfl rfl, tb3 68 rfl rfl, tbs (n := 9) (by decide +kernel) rfl, _, rfl, rfl⟩
theorem mX5_287 : xt_mS RX5 287 yJ7_fill_53178 := ⟨tb3 93 rfl rfl, tb1 153 rfl rfl⟩
theorem mX5_295 : xt_mS RX5 295 yX5_oddsOf := ⟨tb3 111 rfl rfl, tb3 112 rfl rfl⟩
theorem mX5_299 : xt_mV RX5 299 5 yX5_lawIfCut := ⟨tb3 128 rfl rfl, tb3 130 rfl rfl, tbs (n := 9) (by decide +kernel) rfl, _, rfl, rfl⟩
theorem mX5_302 : xt_mS RX5 302 yX5_divisorOf := ⟨tb3 121 rfl rfl, tb3 122 rfl rfl⟩
theorem mX6_69 : xt_mV RX6 69 6 yX6_spell := ⟨tb3 239 rfl rfl, tb4 1 rfl rfl, tbs (n := 46) (by decide +kernel) rfl, _, rfl, rfl⟩
theorem mX6_76 : xt_mS RX6 76 yX6_in := ⟨tb4 182 rfl rfl, tb4 183 rfl rfl⟩
theorem mX6_80 : xt_mV RX6 80 6 yX6_kidsOf := ⟨tb4 162 rfl rfl, tb4 164 rfl rfl, tbs (n := 46) (by decide +kernel) rfl, _, rfl, rfl⟩
theorem mX6_84 : xt_mV RX6 84 6 yX6_isTwig := ⟨tb4 158 rfl rfl, tb4 160 rfl rfl, tbs (n := 46) (by decide +kernel) rfl, _, rfl, rfl⟩
theorem mX6_91 : xt_mV RX6 91 6 yX6_even := ⟨tb4 166 rfl rfl, tb4 168 rfl rfl, tbs (n := 46) (by decide +kernel) rfl, _, rfl, rfl⟩
theorem mX6_95 : xt_mV RX6 95 6 yX6_weighs := ⟨tb4 170 rfl rfl, tb4 172 rfl rfl, tbs (n := 46) (by decide +kernel) rfl, _, rfl, rfl⟩
theorem mX6_98 : xt_mV RX6 98 6 yX6_standing := ⟨tb4 150 rfl rfl, tb4 152 rfl rfl, tbs (n := 46) (by decide +kernel) rfl, _, rfl, rfl⟩
theorem mX6_101 : xt_mV RX6 101 6 yX6_goes := ⟨tb4 154 rfl rfl, tb4 156 rfl rfl, tbs (n := 46) (by decide +kernel) rfl, _, rfl, rfl⟩
theorem mX6_110 : xt_mV RX6 110 6 yX6_lawOf := ⟨tb4 146 rfl rfl, tb4 148 rfl rfl, tbs (n := 46) (by decide +kernel) rfl, _, rfl, rfl⟩
theorem mX6_113 : xt_mV RX6 113 6 yX6_isNode := ⟨tb4 178 rfl rfl, tb4 180 rfl rfl, tbs (n := 46) (by decide +kernel) rfl, _, rfl, rfl⟩
theorem mX6_146 : xt_mV RX6 146 6 yX6_byteAt := ⟨tb4 216 rfl rfl, tb4 218 rfl rfl, tbs (n := 46) (by decide +kernel) rfl, _, rfl, rfl⟩
theorem mX6_176 : xt_mV RX6 176 6 yX6_isLetter := ⟨tb4 229 rfl rfl, tb4 231 rfl rfl, tbs (n := 46) (by decide +kernel) rfl, _, rfl, rfl⟩
theorem mX6_182 : xt_mV RX6 182 6 yX6_fail := ⟨tb4 237 rfl rfl, tb4 239 rfl rfl, tbs (n := 46) (by decide +kernel) rfl, _, rfl, rfl⟩
theorem mX6_185 : xt_mV RX6 185 6 yX6_next := ⟨tb4 212 rfl rfl, tb4 214 rfl rfl, tbs (n := 46) (by decide +kernel) rfl, _, rfl, rfl⟩
theorem mX6_188 : xt_mV RX6 188 6 yX6_isWord := ⟨tb4 225 rfl rfl, tb4 227 rfl rfl, tbs (n := 46) (by decide +kernel) rfl, _, rfl, rfl⟩
theorem mX6_210 : xt_mV RX6 210 6 yX6_isSign := ⟨tb5 29 rfl rfl, tb5 31 rfl rfl, tbs (n := 46) (by decide +kernel) rfl, _, rfl, rfl⟩
theorem mX6_213 : xt_mV RX6 213 6 yX6_opens := ⟨tb5 13 rfl rfl, tb5 15 rfl rfl, tbs (n := 46) (by decide +kernel) rfl, _, rfl, rfl⟩
theorem mX6_217 : xt_mV RX6 217 6 yX6_atom := ⟨tb5 25 rfl rfl, tb5 27 rfl rfl, tbs (n := 46) (by decide +kernel) rfl, _, rfl, rfl⟩
theorem mX6_221 : xt_mV RX6 221 6 yX6_either := ⟨tb5 1 rfl rfl, tb5 3 rfl rfl, tbs (n := 46) (by decide +kernel) rfl, _, rfl, rfl⟩
theorem mX6_224 : xt_mV RX6 224 6 yX6_name := ⟨tb5 33 rfl rfl, tb5 35 rfl rfl, tbs (n := 46) (by decide +kernel) rfl, _, rfl, rfl⟩
theorem mX6_227 : xt_mV RX6 227 6 yX6_term := ⟨tb5 21 rfl rfl, tb5 23 rfl rfl, tbs (n := 46) (by decide +kernel) rfl, _, rfl, rfl⟩
theorem mX6_232 : xt_mV RX6 232 6 yX6_not := ⟨tb5 9 rfl rfl, tb5 11 rfl rfl, tbs (n := 46) (by decide +kernel) rfl, _, rfl, rfl⟩
theorem mX6_235 : xt_mV RX6 235 6 yX6_added := ⟨tb5 17 rfl rfl, tb5 19 rfl rfl, tbs (n := 46) (by decide +kernel) rfl, _, rfl, rfl⟩
theorem mX6_240 : xt_mV RX6 240 6 yX6_both := ⟨tb5 5 rfl rfl, tb5 7 rfl rfl, tbs (n := 46) (by decide +kernel) rfl, _, rfl, rfl⟩
theorem mX6_243 : xt_mV RX6 243 6 yX6_part := ⟨tb4 233 rfl rfl, tb4 235 rfl rfl, tbs (n := 46) (by decide +kernel) rfl, _, rfl, rfl⟩
theorem mX6_247 : xt_mV RX6 247 6 yX6_read := ⟨tb4 208 rfl rfl, tb4 210 rfl rfl, tbs (n := 46) (by decide +kernel) rfl, _, rfl, rfl⟩
theorem mX6_253 : xt_mV RX6 253 6 yX6_growsFrom := ⟨tb5 52 rfl rfl, tb5 54 rfl rfl, tbs (n := 46) (by decide +kernel) rfl, _, rfl, rfl⟩
theorem mX6_256 : xt_mS RX6 256 yX6_within := ⟨tb5 56 rfl rfl, tb5 57 rfl rfl⟩
theorem mX6_262 : xt_mV RX6 262 6 yX6_says := ⟨tb5 48 rfl rfl, tb5 50 rfl rfl, tbs (n := 46) (by decide +kernel) rfl, _, rfl, rfl⟩
theorem mX6_265 : xt_mS RX6 265 yX6_bitsOf := ⟨tb5 67 rfl rfl, tb5 68 rfl rfl⟩
theorem mX6_268 : xt_mV RX6 268 6 yX6_twigs := ⟨tb5 78 rfl rfl, tb5 80 rfl rfl, tbs (n := 46) (by decide +kernel) rfl, _, rfl, rfl⟩
theorem mX6_271 : xt_mV RX6 271 6 yX6_gathers := ⟨tb5 82 rfl rfl, tb5 84 rfl rfl, tbs (n := 46) (by decide +kernel) rfl, _, rfl, rfl⟩
theorem mX6_275 : xt_mV RX6 275 6 yX6_priceOf := ⟨tb5 86 rfl rfl, tb5 88 rfl rfl, tbs (n := 46) (by decide +kernel) rfl, _, rfl, rfl⟩
theorem mX6_278 : xt_mV RX6 278 6 yX6_areApart := ⟨tb5 94 rfl rfl, tb5 96 rfl rfl, tbs (n := 46) (by decide +kernel) rfl, _, rfl, rfl⟩
theorem mX6_281 : xt_mV RX6 281 6 yX6_countOf := ⟨tb5 106 rfl rfl, tb5 108 rfl rfl, tbs (n := 46) (by decide +kernel) rfl, _, rfl, rfl⟩
theorem mX6_286 : xt_mV RX6 286 6 yX6_boughs := ⟨tb5 115 rfl rfl, tb5 117 rfl rfl, tbs (n := 46) (by decide +kernel) rfl, _, rfl, rfl⟩
theorem mX6_289 : xt_mV RX6 289 6 yX6_allBy := ⟨tb5 119 rfl rfl, tb5 121 rfl rfl, tbs (n := 46) (by decide +kernel) rfl, _, rfl, rfl⟩
theorem mX6_293 : xt_mS RX6 293 yX6_hundreds := ⟨tb5 123 rfl rfl, tb5 124 rfl rfl⟩
theorem mX6_297 : xt_mS RX6 297 yX6_lowest := ⟨tb5 126 rfl rfl, tb5 127 rfl rfl⟩
theorem mX6_301 : xt_mV RX6 301 6 yX6_law := ⟨tb5 133 rfl rfl, tb4 143 rfl rfl, tb4 144 rfl rfl, _, rfl, rfl⟩
theorem mX6_304 : xt_mV RX6 304 6 yX6_value := ⟨tb5 138 rfl rfl, tb5 140 rfl rfl, tbs (n := 46) (by decide +kernel) rfl, _, rfl, rfl⟩
theorem mX6_307 : xt_mS RX6 307 yX6_isSheet := ⟨tb5 146 rfl rfl, tb5 147 rfl rfl⟩
theorem mX6_310 : xt_mV RX6 310 6 yX6_isSo := ⟨tb5 150 rfl rfl, tb5 152 rfl rfl, tbs (n := 46) (by decide +kernel) rfl, _, rfl, rfl⟩
theorem mX6_316 : xt_mV RX6 316 6 yX6_drawn := ⟨tb5 164 rfl rfl, tb5 155 rfl rfl, tb5 156 rfl rfl, _, rfl, rfl⟩
theorem mX6_342 : xt_mV RX6 342 6 yX6_grow := ⟨tb5 196 rfl rfl, tb4 175 rfl rfl, tb4 176 rfl rfl, _, rfl, rfl⟩
theorem mX6_345 : xt_mS RX6 345 yX6_over := ⟨tb5 201 rfl rfl, tb5 202 rfl rfl⟩
theorem mX1_53 : xt_mN RX1 53 yX5_isIn := ⟨⟨RX5, by decide +kernel⟩, tb2 160 rfl rfl⟩
theorem mX1_61 : xt_mN RX1 61 yX5_bit := ⟨⟨RX5, by decide +kernel⟩, tb2 167 rfl rfl⟩
theorem mX1_65 : xt_mN RX1 65 yX5_withBit := ⟨⟨RX5, by decide +kernel⟩, tb2 170 rfl rfl⟩
theorem cJ6_265 : Cond.constant RJ6 265 (1431655765) ∈ xt_tbl := tb2 220 rfl rfl
theorem cJ6_266 : Cond.constant RJ6 266 (858993459) ∈ xt_tbl := tb2 221 rfl rfl
theorem cJ6_267 : Cond.constant RJ6 267 (252645135) ∈ xt_tbl := tb2 222 rfl rfl
theorem cX5_308 : Cond.constant RX5 308 (1103515245) ∈ xt_tbl := tb3 167 rfl rfl
theorem cX6_313 : Cond.constant RX6 313 (1103515245) ∈ xt_tbl := tb5 158 rfl rfl
theorem cX5_198 : Cond.constantLong RX5 198 (-4611686018427387904) ∈ xt_tbl := tb3 106 rfl rfl
theorem cX5_293 : Cond.constantLong RX5 293 (100) ∈ xt_tbl := tb3 117 rfl rfl
theorem cX6_117 : Cond.constantLong RX6 117 (5) ∈ xt_tbl := tb4 185 rfl rfl
theorem cX6_119 : Cond.constantLong RX6 119 (91) ∈ xt_tbl := tb4 186 rfl rfl
theorem cX6_121 : Cond.constantLong RX6 121 (4) ∈ xt_tbl := tb4 191 rfl rfl
theorem cX6_123 : Cond.constantLong RX6 123 (9) ∈ xt_tbl := tb4 192 rfl rfl
theorem cX6_125 : Cond.constantLong RX6 125 (100) ∈ xt_tbl := tb4 193 rfl rfl
theorem cX6_127 : Cond.constantLong RX6 127 (99) ∈ xt_tbl := tb4 194 rfl rfl
theorem cX6_132 : Cond.constantLong RX6 132 (255) ∈ xt_tbl := tb4 203 rfl rfl
theorem cX6_155 : Cond.constantLong RX6 155 (97) ∈ xt_tbl := tb4 220 rfl rfl
theorem cX6_157 : Cond.constantLong RX6 157 (122) ∈ xt_tbl := tb4 221 rfl rfl
theorem cX6_159 : Cond.constantLong RX6 159 (48) ∈ xt_tbl := tb4 222 rfl rfl
theorem cX6_161 : Cond.constantLong RX6 161 (57) ∈ xt_tbl := tb4 223 rfl rfl
theorem cX6_167 : Cond.constantLong RX6 167 (10) ∈ xt_tbl := tb4 224 rfl rfl
theorem cX6_230 : Cond.constantLong RX6 230 (43) ∈ xt_tbl := tb5 37 rfl rfl
theorem cX6_238 : Cond.constantLong RX6 238 (60) ∈ xt_tbl := tb5 38 rfl rfl
theorem cX6_260 : Cond.constantLong RX6 260 (2) ∈ xt_tbl := tb5 47 rfl rfl
theorem cX6_284 : Cond.constantLong RX6 284 (-4611686018427387904) ∈ xt_tbl := tb5 114 rfl rfl
theorem cX6_314 : Cond.constantLong RX6 314 (20) ∈ xt_tbl := tb5 163 rfl rfl
theorem cX6_334 : Cond.constantLong RX6 334 (6) ∈ xt_tbl := tb5 177 rfl rfl
theorem cX6_336 : Cond.constantLong RX6 336 (3) ∈ xt_tbl := tb5 149 rfl rfl
theorem cX6_338 : Cond.constantLong RX6 338 (-1) ∈ xt_tbl := tb5 182 rfl rfl
theorem cX6_340 : Cond.constantLong RX6 340 (12) ∈ xt_tbl := tb5 195 rfl rfl
