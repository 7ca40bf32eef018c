/-! WORDS OF THE TABLES by their places; methods, fields, shapes (written by wip/tools/mklink.py) -/
theorem clok_0 : ClOk 0 := ⟨rfl, in_big _ (by decide +kernel), tyX0_ok, nmX0, rfl⟩
theorem clok_1 : ClOk 1 := ⟨rfl, in_big _ (by decide +kernel), tyX2_ok, nmX2, rfl⟩
theorem clok_2 : ClOk 2 := ⟨rfl, in_big _ (by decide +kernel), tyX3_ok, nmX3, rfl⟩
theorem clok_3 : ClOk 3 := ⟨rfl, in_big _ (by decide +kernel), tyX4_ok, nmX4, rfl⟩
theorem clok_4 : ClOk 4 := ⟨rfl, in_big _ (by decide +kernel), tyX5_ok, nmX5, rfl⟩
theorem clok_5 : ClOk 5 := ⟨rfl, in_big _ (by decide +kernel), tyX6_ok, nmX6, rfl⟩
theorem clok_6 : ClOk 6 := ⟨rfl, in_big _ (by decide +kernel), tyX7_ok, nmX7, rfl⟩
theorem clok_7 : ClOk 7 := ⟨rfl, in_big _ (by decide +kernel), tyX8_ok, nmX8, rfl⟩
theorem clok_8 : ClOk 8 := ⟨rfl, in_big _ (by decide +kernel), tyX9_ok, nmX9, rfl⟩
theorem clok_9 : ClOk 9 := ⟨rfl, in_big _ (by decide +kernel), tyX10_ok, nmX10, rfl⟩
theorem clok_10 : ClOk 10 := ⟨rfl, in_big _ (by decide +kernel), tyX11_ok, nmX11, rfl⟩
theorem clok_11 : ClOk 11 := ⟨rfl, in_big _ (by decide +kernel), tyX12_ok, nmX12, rfl⟩
set_option maxRecDepth 100000 in
theorem fl_X11_10 : Fld RX11 10 10 0 := ⟨clok_10, by decide, big_mem 409 rfl rfl⟩
set_option maxRecDepth 100000 in
theorem fl_X11_19 : Fld RX11 19 10 1 := ⟨clok_10, by decide, big_mem 410 rfl rfl⟩
set_option maxRecDepth 100000 in
theorem fl_X11_26 : Fld RX11 26 10 2 := ⟨clok_10, by decide, big_mem 411 rfl rfl⟩
set_option maxRecDepth 100000 in
theorem fl_X11_33 : Fld RX11 33 10 3 := ⟨clok_10, by decide, big_mem 412 rfl rfl⟩
set_option maxRecDepth 100000 in
theorem fl_X11_40 : Fld RX11 40 10 4 := ⟨clok_10, by decide, big_mem 413 rfl rfl⟩
set_option maxRecDepth 100000 in
theorem fl_X11_47 : Fld RX11 47 10 5 := ⟨clok_10, by decide, big_mem 414 rfl rfl⟩
set_option maxRecDepth 100000 in
theorem fl_X11_54 : Fld RX11 54 10 6 := ⟨clok_10, by decide, big_mem 415 rfl rfl⟩
set_option maxRecDepth 100000 in
theorem fl_X11_58 : Fld RX11 58 10 7 := ⟨clok_10, by decide, big_mem 416 rfl rfl⟩
set_option maxRecDepth 100000 in
theorem fl_X11_62 : Fld RX11 62 10 10 := ⟨clok_10, by decide, big_mem 419 rfl rfl⟩
set_option maxRecDepth 100000 in
theorem fl_X11_65 : Fld RX11 65 9 1 := ⟨clok_9, by decide, big_mem 143 rfl rfl⟩
set_option maxRecDepth 100000 in
theorem fl_X11_77 : Fld RX11 77 7 0 := ⟨clok_7, by decide, big_mem 296 rfl rfl⟩
set_option maxRecDepth 100000 in
theorem fl_X11_81 : Fld RX11 81 4 0 := ⟨clok_4, by decide, big_mem 238 rfl rfl⟩
set_option maxRecDepth 100000 in
theorem fl_X11_90 : Fld RX11 90 7 1 := ⟨clok_7, by decide, big_mem 298 rfl rfl⟩
set_option maxRecDepth 100000 in
theorem fl_X11_94 : Fld RX11 94 6 0 := ⟨clok_6, by decide, big_mem 277 rfl rfl⟩
set_option maxRecDepth 100000 in
theorem fl_X11_97 : Fld RX11 97 10 9 := ⟨clok_10, by decide, big_mem 418 rfl rfl⟩
set_option maxRecDepth 100000 in
theorem fl_X11_110 : Fld RX11 110 3 4 := ⟨clok_3, by decide, big_mem 181 rfl rfl⟩
set_option maxRecDepth 100000 in
theorem fl_X11_124 : Fld RX11 124 1 2 := ⟨clok_1, by decide, big_mem 325 rfl rfl⟩
set_option maxRecDepth 100000 in
theorem fl_X11_127 : Fld RX11 127 1 3 := ⟨clok_1, by decide, big_mem 327 rfl rfl⟩
set_option maxRecDepth 100000 in
theorem fl_X11_130 : Fld RX11 130 1 1 := ⟨clok_1, by decide, big_mem 322 rfl rfl⟩
set_option maxRecDepth 100000 in
theorem fl_X11_152 : Fld RX11 152 6 1 := ⟨clok_6, by decide, big_mem 283 rfl rfl⟩
set_option maxRecDepth 100000 in
theorem fl_X11_192 : Fld RX11 192 3 1 := ⟨clok_3, by decide, big_mem 172 rfl rfl⟩
set_option maxRecDepth 100000 in
theorem fl_X11_208 : Fld RX11 208 3 0 := ⟨clok_3, by decide, big_mem 168 rfl rfl⟩
set_option maxRecDepth 100000 in
theorem fl_X11_242 : Fld RX11 242 7 2 := ⟨clok_7, by decide, big_mem 300 rfl rfl⟩
set_option maxRecDepth 100000 in
theorem fl_X11_255 : Fld RX11 255 6 2 := ⟨clok_6, by decide, big_mem 287 rfl rfl⟩
set_option maxRecDepth 100000 in
theorem fl_X11_262 : Fld RX11 262 8 3 := ⟨clok_8, by decide, big_mem 398 rfl rfl⟩
set_option maxRecDepth 100000 in
theorem fl_X11_263 : Fld RX11 263 8 0 := ⟨clok_8, by decide, big_mem 394 rfl rfl⟩
set_option maxRecDepth 100000 in
theorem fl_X11_273 : Fld RX11 273 10 8 := ⟨clok_10, by decide, big_mem 417 rfl rfl⟩
set_option maxRecDepth 100000 in
theorem fl_X11_282 : Fld RX11 282 1 4 := ⟨clok_1, by decide, big_mem 329 rfl rfl⟩
set_option maxRecDepth 100000 in
theorem fl_X11_285 : Fld RX11 285 3 2 := ⟨clok_3, by decide, big_mem 176 rfl rfl⟩
set_option maxRecDepth 100000 in
theorem fl_X0_9 : Fld RX0 9 0 2 := ⟨clok_0, by decide, big_mem 217 rfl rfl⟩
set_option maxRecDepth 100000 in
theorem fl_X0_15 : Fld RX0 15 0 3 := ⟨clok_0, by decide, big_mem 218 rfl rfl⟩
set_option maxRecDepth 100000 in
theorem fl_X0_18 : Fld RX0 18 0 4 := ⟨clok_0, by decide, big_mem 222 rfl rfl⟩
set_option maxRecDepth 100000 in
theorem fl_X0_21 : Fld RX0 21 0 5 := ⟨clok_0, by decide, big_mem 223 rfl rfl⟩
set_option maxRecDepth 100000 in
theorem fl_X0_30 : Fld RX0 30 0 1 := ⟨clok_0, by decide, big_mem 214 rfl rfl⟩
set_option maxRecDepth 100000 in
theorem fl_X0_34 : Fld RX0 34 0 0 := ⟨clok_0, by decide, big_mem 208 rfl rfl⟩
set_option maxRecDepth 100000 in
theorem fl_X0_37 : Fld RX0 37 3 4 := ⟨clok_3, by decide, big_mem 180 rfl rfl⟩
set_option maxRecDepth 100000 in
theorem fl_X0_46 : Fld RX0 46 3 0 := ⟨clok_3, by decide, big_mem 166 rfl rfl⟩
set_option maxRecDepth 100000 in
theorem fw_X1_7 : Cond.fieldLink RX1 7 "MixCover$Field" "SIZES" "[I" ∈ BIG := big_mem 890 rfl rfl
set_option maxRecDepth 100000 in
theorem fw_X1_20 : Cond.fieldLink RX1 20 "MixCover$Field" "TIMES_OF_FOUR" "[I" ∈ BIG := big_mem 905 rfl rfl
set_option maxRecDepth 100000 in
theorem fl_X2_12 : Fld RX2 12 1 0 := ⟨clok_1, by decide, big_mem 316 rfl rfl⟩
set_option maxRecDepth 100000 in
theorem fl_X2_18 : Fld RX2 18 1 1 := ⟨clok_1, by decide, big_mem 319 rfl rfl⟩
set_option maxRecDepth 100000 in
theorem fl_X2_22 : Fld RX2 22 1 2 := ⟨clok_1, by decide, big_mem 323 rfl rfl⟩
set_option maxRecDepth 100000 in
theorem fl_X2_25 : Fld RX2 25 1 3 := ⟨clok_1, by decide, big_mem 326 rfl rfl⟩
set_option maxRecDepth 100000 in
theorem fl_X2_28 : Fld RX2 28 0 3 := ⟨clok_0, by decide, big_mem 219 rfl rfl⟩
set_option maxRecDepth 100000 in
theorem fl_X2_31 : Fld RX2 31 0 0 := ⟨clok_0, by decide, big_mem 209 rfl rfl⟩
set_option maxRecDepth 100000 in
theorem fl_X2_41 : Fld RX2 41 3 1 := ⟨clok_3, by decide, big_mem 170 rfl rfl⟩
set_option maxRecDepth 100000 in
theorem fl_X2_50 : Fld RX2 50 3 3 := ⟨clok_3, by decide, big_mem 178 rfl rfl⟩
set_option maxRecDepth 100000 in
theorem fl_X2_57 : Fld RX2 57 1 4 := ⟨clok_1, by decide, big_mem 328 rfl rfl⟩
set_option maxRecDepth 100000 in
theorem fl_X2_66 : Fld RX2 66 0 1 := ⟨clok_0, by decide, big_mem 216 rfl rfl⟩
set_option maxRecDepth 100000 in
theorem fl_X2_91 : Fld RX2 91 6 0 := ⟨clok_6, by decide, big_mem 278 rfl rfl⟩
set_option maxRecDepth 100000 in
theorem fl_X2_94 : Fld RX2 94 6 1 := ⟨clok_6, by decide, big_mem 282 rfl rfl⟩
set_option maxRecDepth 100000 in
theorem fl_X3_12 : Fld RX3 12 2 0 := ⟨clok_2, by decide, big_mem 374 rfl rfl⟩
set_option maxRecDepth 100000 in
theorem fl_X3_18 : Fld RX3 18 2 1 := ⟨clok_2, by decide, big_mem 375 rfl rfl⟩
set_option maxRecDepth 100000 in
theorem fl_X3_22 : Fld RX3 22 2 2 := ⟨clok_2, by decide, big_mem 376 rfl rfl⟩
set_option maxRecDepth 100000 in
theorem fl_X3_30 : Fld RX3 30 6 0 := ⟨clok_6, by decide, big_mem 275 rfl rfl⟩
set_option maxRecDepth 100000 in
theorem fl_X3_38 : Fld RX3 38 6 1 := ⟨clok_6, by decide, big_mem 281 rfl rfl⟩
set_option maxRecDepth 100000 in
theorem fl_X3_45 : Fld RX3 45 6 2 := ⟨clok_6, by decide, big_mem 286 rfl rfl⟩
set_option maxRecDepth 100000 in
theorem fl_X3_61 : Fld RX3 61 1 0 := ⟨clok_1, by decide, big_mem 318 rfl rfl⟩
set_option maxRecDepth 100000 in
theorem fl_X3_65 : Fld RX3 65 0 0 := ⟨clok_0, by decide, big_mem 212 rfl rfl⟩
set_option maxRecDepth 100000 in
theorem fl_X3_72 : Fld RX3 72 1 1 := ⟨clok_1, by decide, big_mem 321 rfl rfl⟩
set_option maxRecDepth 100000 in
theorem fl_X4_9 : Fld RX4 9 3 4 := ⟨clok_3, by decide, big_mem 179 rfl rfl⟩
set_option maxRecDepth 100000 in
theorem fl_X4_15 : Fld RX4 15 3 5 := ⟨clok_3, by decide, big_mem 184 rfl rfl⟩
set_option maxRecDepth 100000 in
theorem fl_X4_18 : Fld RX4 18 3 6 := ⟨clok_3, by decide, big_mem 186 rfl rfl⟩
set_option maxRecDepth 100000 in
theorem fl_X4_21 : Fld RX4 21 3 0 := ⟨clok_3, by decide, big_mem 164 rfl rfl⟩
set_option maxRecDepth 100000 in
theorem fl_X4_25 : Fld RX4 25 3 1 := ⟨clok_3, by decide, big_mem 169 rfl rfl⟩
set_option maxRecDepth 100000 in
theorem fl_X4_28 : Fld RX4 28 3 2 := ⟨clok_3, by decide, big_mem 173 rfl rfl⟩
set_option maxRecDepth 100000 in
theorem fl_X4_31 : Fld RX4 31 3 3 := ⟨clok_3, by decide, big_mem 177 rfl rfl⟩
set_option maxRecDepth 100000 in
theorem fl_X5_12 : Fld RX5 12 4 0 := ⟨clok_4, by decide, big_mem 237 rfl rfl⟩
set_option maxRecDepth 100000 in
theorem fl_X5_21 : Fld RX5 21 4 1 := ⟨clok_4, by decide, big_mem 239 rfl rfl⟩
set_option maxRecDepth 100000 in
theorem fl_X5_25 : Fld RX5 25 4 2 := ⟨clok_4, by decide, big_mem 240 rfl rfl⟩
set_option maxRecDepth 100000 in
theorem fl_X5_29 : Fld RX5 29 9 0 := ⟨clok_9, by decide, big_mem 142 rfl rfl⟩
set_option maxRecDepth 100000 in
theorem fl_X5_34 : Fld RX5 34 9 1 := ⟨clok_9, by decide, big_mem 145 rfl rfl⟩
set_option maxRecDepth 100000 in
theorem fl_X5_38 : Fld RX5 38 4 3 := ⟨clok_4, by decide, big_mem 241 rfl rfl⟩
set_option maxRecDepth 100000 in
theorem fl_X5_39 : Fld RX5 39 4 4 := ⟨clok_4, by decide, big_mem 242 rfl rfl⟩
set_option maxRecDepth 100000 in
theorem fl_X5_42 : Fld RX5 42 4 5 := ⟨clok_4, by decide, big_mem 243 rfl rfl⟩
set_option maxRecDepth 100000 in
theorem fl_X5_45 : Fld RX5 45 4 6 := ⟨clok_4, by decide, big_mem 244 rfl rfl⟩
set_option maxRecDepth 100000 in
theorem fl_X5_81 : Fld RX5 81 3 1 := ⟨clok_3, by decide, big_mem 171 rfl rfl⟩
set_option maxRecDepth 100000 in
theorem fl_X5_88 : Fld RX5 88 0 3 := ⟨clok_0, by decide, big_mem 221 rfl rfl⟩
set_option maxRecDepth 100000 in
theorem fl_X5_91 : Fld RX5 91 0 0 := ⟨clok_0, by decide, big_mem 213 rfl rfl⟩
set_option maxRecDepth 100000 in
theorem fl_X5_121 : Fld RX5 121 3 0 := ⟨clok_3, by decide, big_mem 167 rfl rfl⟩
set_option maxRecDepth 100000 in
theorem fl_X5_131 : Fld RX5 131 3 2 := ⟨clok_3, by decide, big_mem 174 rfl rfl⟩
set_option maxRecDepth 100000 in
theorem fl_X5_148 : Fld RX5 148 3 4 := ⟨clok_3, by decide, big_mem 183 rfl rfl⟩
set_option maxRecDepth 100000 in
theorem fl_X6_9 : Fld RX6 9 5 0 := ⟨clok_5, by decide, big_mem 347 rfl rfl⟩
set_option maxRecDepth 100000 in
theorem fl_X6_15 : Fld RX6 15 5 1 := ⟨clok_5, by decide, big_mem 348 rfl rfl⟩
set_option maxRecDepth 100000 in
theorem fl_X6_18 : Fld RX6 18 5 2 := ⟨clok_5, by decide, big_mem 349 rfl rfl⟩
set_option maxRecDepth 100000 in
theorem fl_X6_21 : Fld RX6 21 5 4 := ⟨clok_5, by decide, big_mem 351 rfl rfl⟩
set_option maxRecDepth 100000 in
theorem fl_X6_28 : Fld RX6 28 3 0 := ⟨clok_3, by decide, big_mem 165 rfl rfl⟩
set_option maxRecDepth 100000 in
theorem fl_X6_49 : Fld RX6 49 1 0 := ⟨clok_1, by decide, big_mem 317 rfl rfl⟩
set_option maxRecDepth 100000 in
theorem fl_X6_55 : Fld RX6 55 0 0 := ⟨clok_0, by decide, big_mem 211 rfl rfl⟩
set_option maxRecDepth 100000 in
theorem fl_X6_64 : Fld RX6 64 0 3 := ⟨clok_0, by decide, big_mem 220 rfl rfl⟩
set_option maxRecDepth 100000 in
theorem fl_X6_67 : Fld RX6 67 1 1 := ⟨clok_1, by decide, big_mem 320 rfl rfl⟩
set_option maxRecDepth 100000 in
theorem fl_X6_81 : Fld RX6 81 0 1 := ⟨clok_0, by decide, big_mem 215 rfl rfl⟩
set_option maxRecDepth 100000 in
theorem fl_X6_98 : Fld RX6 98 5 3 := ⟨clok_5, by decide, big_mem 350 rfl rfl⟩
set_option maxRecDepth 100000 in
theorem fl_X6_99 : Fld RX6 99 1 2 := ⟨clok_1, by decide, big_mem 324 rfl rfl⟩
set_option maxRecDepth 100000 in
theorem fl_X6_107 : Fld RX6 107 3 4 := ⟨clok_3, by decide, big_mem 182 rfl rfl⟩
set_option maxRecDepth 100000 in
theorem fl_X6_118 : Fld RX6 118 5 5 := ⟨clok_5, by decide, big_mem 352 rfl rfl⟩
set_option maxRecDepth 100000 in
theorem fl_X6_125 : Fld RX6 125 3 2 := ⟨clok_3, by decide, big_mem 175 rfl rfl⟩
set_option maxRecDepth 100000 in
theorem fl_X6_128 : Fld RX6 128 3 5 := ⟨clok_3, by decide, big_mem 185 rfl rfl⟩
set_option maxRecDepth 100000 in
theorem fl_X7_9 : Fld RX7 9 6 1 := ⟨clok_6, by decide, big_mem 279 rfl rfl⟩
set_option maxRecDepth 100000 in
theorem fl_X7_15 : Fld RX7 15 6 2 := ⟨clok_6, by decide, big_mem 284 rfl rfl⟩
set_option maxRecDepth 100000 in
theorem fl_X7_18 : Fld RX7 18 6 0 := ⟨clok_6, by decide, big_mem 274 rfl rfl⟩
set_option maxRecDepth 100000 in
theorem fl_X8_10 : Fld RX8 10 7 0 := ⟨clok_7, by decide, big_mem 295 rfl rfl⟩
set_option maxRecDepth 100000 in
theorem fl_X8_19 : Fld RX8 19 7 1 := ⟨clok_7, by decide, big_mem 297 rfl rfl⟩
set_option maxRecDepth 100000 in
theorem fl_X8_30 : Fld RX8 30 7 2 := ⟨clok_7, by decide, big_mem 299 rfl rfl⟩
set_option maxRecDepth 100000 in
theorem fl_X9_9 : Fld RX9 9 8 0 := ⟨clok_8, by decide, big_mem 393 rfl rfl⟩
set_option maxRecDepth 100000 in
theorem fl_X9_15 : Fld RX9 15 8 1 := ⟨clok_8, by decide, big_mem 395 rfl rfl⟩
set_option maxRecDepth 100000 in
theorem fl_X9_21 : Fld RX9 21 8 2 := ⟨clok_8, by decide, big_mem 396 rfl rfl⟩
set_option maxRecDepth 100000 in
theorem fl_X9_25 : Fld RX9 25 8 3 := ⟨clok_8, by decide, big_mem 397 rfl rfl⟩
set_option maxRecDepth 100000 in
theorem fl_X9_35 : Fld RX9 35 6 0 := ⟨clok_6, by decide, big_mem 276 rfl rfl⟩
set_option maxRecDepth 100000 in
theorem fl_X9_36 : Fld RX9 36 6 2 := ⟨clok_6, by decide, big_mem 285 rfl rfl⟩
set_option maxRecDepth 100000 in
theorem fl_X9_39 : Fld RX9 39 6 1 := ⟨clok_6, by decide, big_mem 280 rfl rfl⟩
set_option maxRecDepth 100000 in
theorem fl_X9_46 : Fld RX9 46 0 0 := ⟨clok_0, by decide, big_mem 210 rfl rfl⟩
set_option maxRecDepth 100000 in
theorem fl_X10_9 : Fld RX10 9 9 0 := ⟨clok_9, by decide, big_mem 141 rfl rfl⟩
set_option maxRecDepth 100000 in
theorem fl_X10_15 : Fld RX10 15 9 1 := ⟨clok_9, by decide, big_mem 144 rfl rfl⟩
set_option maxRecDepth 100000 in
theorem fl_X12_7 : Fld RX12 7 11 0 := ⟨clok_11, by decide, big_mem 1100 rfl rfl⟩
set_option maxRecDepth 100000 in
theorem fl_X12_13 : Fld RX12 13 11 4 := ⟨clok_11, by decide, big_mem 1104 rfl rfl⟩
set_option maxRecDepth 100000 in
theorem fl_X12_16 : Fld RX12 16 11 7 := ⟨clok_11, by decide, big_mem 1107 rfl rfl⟩
set_option maxRecDepth 100000 in
theorem fl_X12_20 : Fld RX12 20 11 8 := ⟨clok_11, by decide, big_mem 1108 rfl rfl⟩
set_option maxRecDepth 100000 in
theorem fl_X12_23 : Fld RX12 23 11 10 := ⟨clok_11, by decide, big_mem 1110 rfl rfl⟩
set_option maxRecDepth 100000 in
theorem fl_X12_26 : Fld RX12 26 11 11 := ⟨clok_11, by decide, big_mem 1111 rfl rfl⟩
set_option maxRecDepth 100000 in
theorem fl_X12_29 : Fld RX12 29 11 12 := ⟨clok_11, by decide, big_mem 1112 rfl rfl⟩
set_option maxRecDepth 100000 in
theorem fl_X12_32 : Fld RX12 32 11 14 := ⟨clok_11, by decide, big_mem 1114 rfl rfl⟩
set_option maxRecDepth 100000 in
theorem fl_X12_35 : Fld RX12 35 11 15 := ⟨clok_11, by decide, big_mem 1115 rfl rfl⟩
set_option maxRecDepth 100000 in
theorem fl_X12_38 : Fld RX12 38 11 16 := ⟨clok_11, by decide, big_mem 1116 rfl rfl⟩
set_option maxRecDepth 100000 in
theorem fl_X12_42 : Fld RX12 42 11 17 := ⟨clok_11, by decide, big_mem 1117 rfl rfl⟩
set_option maxRecDepth 100000 in
theorem fl_X12_45 : Fld RX12 45 11 18 := ⟨clok_11, by decide, big_mem 1118 rfl rfl⟩
set_option maxRecDepth 100000 in
theorem fl_X12_48 : Fld RX12 48 11 19 := ⟨clok_11, by decide, big_mem 1119 rfl rfl⟩
set_option maxRecDepth 100000 in
theorem fl_X12_51 : Fld RX12 51 11 20 := ⟨clok_11, by decide, big_mem 1120 rfl rfl⟩
set_option maxRecDepth 100000 in
theorem fl_X12_54 : Fld RX12 54 11 21 := ⟨clok_11, by decide, big_mem 1121 rfl rfl⟩
set_option maxRecDepth 100000 in
theorem fl_X12_57 : Fld RX12 57 11 22 := ⟨clok_11, by decide, big_mem 1122 rfl rfl⟩
set_option maxRecDepth 100000 in
theorem fl_X12_60 : Fld RX12 60 11 23 := ⟨clok_11, by decide, big_mem 1123 rfl rfl⟩
set_option maxRecDepth 100000 in
theorem fl_X12_63 : Fld RX12 63 11 24 := ⟨clok_11, by decide, big_mem 1124 rfl rfl⟩
set_option maxRecDepth 100000 in
theorem fl_X12_66 : Fld RX12 66 11 25 := ⟨clok_11, by decide, big_mem 1125 rfl rfl⟩
set_option maxRecDepth 100000 in
theorem fl_X12_69 : Fld RX12 69 11 1 := ⟨clok_11, by decide, big_mem 1101 rfl rfl⟩
set_option maxRecDepth 100000 in
theorem fl_X12_77 : Fld RX12 77 11 3 := ⟨clok_11, by decide, big_mem 1103 rfl rfl⟩
set_option maxRecDepth 100000 in
theorem fl_X12_80 : Fld RX12 80 11 2 := ⟨clok_11, by decide, big_mem 1102 rfl rfl⟩
set_option maxRecDepth 100000 in
theorem fl_X12_107 : Fld RX12 107 11 6 := ⟨clok_11, by decide, big_mem 1106 rfl rfl⟩
set_option maxRecDepth 100000 in
theorem fl_X12_114 : Fld RX12 114 11 5 := ⟨clok_11, by decide, big_mem 1105 rfl rfl⟩
set_option maxRecDepth 100000 in
theorem fl_X12_127 : Fld RX12 127 11 9 := ⟨clok_11, by decide, big_mem 1109 rfl rfl⟩
set_option maxRecDepth 100000 in
theorem fl_X12_165 : Fld RX12 165 11 26 := ⟨clok_11, by decide, big_mem 1126 rfl rfl⟩
set_option maxRecDepth 100000 in
theorem fl_X12_168 : Fld RX12 168 11 13 := ⟨clok_11, by decide, big_mem 1113 rfl rfl⟩
set_option maxRecDepth 100000 in
theorem fw_J0_9 : Cond.fieldLink RJ0 9 "java/lang/String" "value" "[B" ∈ BIG := big_mem 1582 rfl rfl
set_option maxRecDepth 100000 in
theorem fw_J0_15 : Cond.fieldLink RJ0 15 "java/lang/String" "coder" "B" ∈ BIG := big_mem 1583 rfl rfl
set_option maxRecDepth 100000 in
theorem fw_J0_38 : Cond.fieldLink RJ0 38 "java/lang/String" "COMPACT_STRINGS" "Z" ∈ BIG := big_mem 492 rfl rfl
set_option maxRecDepth 100000 in
theorem fw_J0_1053 : Cond.fieldLink RJ0 1053 "jdk/internal/util/Preconditions" "SIOOBE_FORMATTER" "Ljava/util/function/BiFunction;" ∈ BIG := big_mem 512 rfl rfl
set_option maxRecDepth 100000 in
theorem fw_J2_44 : Cond.fieldLink RJ2 44 "java/lang/StringUTF16" "$assertionsDisabled" "Z" ∈ BIG := big_mem 530 rfl rfl
set_option maxRecDepth 100000 in
theorem fw_J2_59 : Cond.fieldLink RJ2 59 "java/lang/StringUTF16" "HI_BYTE_SHIFT" "I" ∈ BIG := big_mem 532 rfl rfl
set_option maxRecDepth 100000 in
theorem fw_J2_63 : Cond.fieldLink RJ2 63 "java/lang/StringUTF16" "LO_BYTE_SHIFT" "I" ∈ BIG := big_mem 534 rfl rfl
abbrev mX11_init : mMt := (yX11_init, cX11_init, 2, none, 4)
set_option maxRecDepth 100000 in
theorem cal0_X11_init : Cal mX11_init 0 ∧ Cond.instanceMethod yX11_init ∈ BIG := ⟨⟨⟨big_mem 107 rfl rfl, big_mem 131 rfl rfl⟩, by show yX11_init.cls ≠ _; decide +kernel, by show yX11_init.cls ≠ _; decide +kernel, by show (parseMethodDescriptor yX11_init.desc).map (fun d => d.parameters.length) = _; decide +kernel⟩, big_mem 130 rfl rfl⟩
abbrev mX10_init : mMt := (yX10_init, cX10_init, 1, none, 2)
set_option maxRecDepth 100000 in
theorem cal0_X10_init : Cal mX10_init 0 ∧ Cond.instanceMethod yX10_init ∈ BIG := ⟨⟨⟨big_mem 108 rfl rfl, big_mem 139 rfl rfl⟩, by show yX10_init.cls ≠ _; decide +kernel, by show yX10_init.cls ≠ _; decide +kernel, by show (parseMethodDescriptor yX10_init.desc).map (fun d => d.parameters.length) = _; decide +kernel⟩, big_mem 138 rfl rfl⟩
abbrev mX5_init : mMt := (yX5_init, cX5_init, 1, none, 3)
set_option maxRecDepth 100000 in
theorem cal0_X5_init : Cal mX5_init 0 ∧ Cond.instanceMethod yX5_init ∈ BIG := ⟨⟨⟨big_mem 109 rfl rfl, big_mem 156 rfl rfl⟩, by show yX5_init.cls ≠ _; decide +kernel, by show yX5_init.cls ≠ _; decide +kernel, by show (parseMethodDescriptor yX5_init.desc).map (fun d => d.parameters.length) = _; decide +kernel⟩, big_mem 155 rfl rfl⟩
abbrev mX4_init : mMt := (yX4_init, cX4_init, 1, none, 2)
set_option maxRecDepth 100000 in
theorem cal0_X4_init : Cal mX4_init 0 ∧ Cond.instanceMethod yX4_init ∈ BIG := ⟨⟨⟨big_mem 110 rfl rfl, big_mem 162 rfl rfl⟩, by show yX4_init.cls ≠ _; decide +kernel, by show yX4_init.cls ≠ _; decide +kernel, by show (parseMethodDescriptor yX4_init.desc).map (fun d => d.parameters.length) = _; decide +kernel⟩, big_mem 161 rfl rfl⟩
abbrev mX0_init : mMt := (yX0_init, cX0_init, 1, none, 2)
set_option maxRecDepth 100000 in
theorem cal0_X0_init : Cal mX0_init 0 ∧ Cond.instanceMethod yX0_init ∈ BIG := ⟨⟨⟨big_mem 111 rfl rfl, big_mem 206 rfl rfl⟩, by show yX0_init.cls ≠ _; decide +kernel, by show yX0_init.cls ≠ _; decide +kernel, by show (parseMethodDescriptor yX0_init.desc).map (fun d => d.parameters.length) = _; decide +kernel⟩, big_mem 205 rfl rfl⟩
abbrev mX8_init : mMt := (yX8_init, cX8_init, 1, none, 3)
set_option maxRecDepth 100000 in
theorem cal0_X8_init : Cal mX8_init 0 ∧ Cond.instanceMethod yX8_init ∈ BIG := ⟨⟨⟨big_mem 112 rfl rfl, big_mem 264 rfl rfl⟩, by show yX8_init.cls ≠ _; decide +kernel, by show yX8_init.cls ≠ _; decide +kernel, by show (parseMethodDescriptor yX8_init.desc).map (fun d => d.parameters.length) = _; decide +kernel⟩, big_mem 263 rfl rfl⟩
abbrev mX7_init : mMt := (yX7_init, cX7_init, 1, none, 2)
set_option maxRecDepth 100000 in
theorem cal0_X7_init : Cal mX7_init 0 ∧ Cond.instanceMethod yX7_init ∈ BIG := ⟨⟨⟨big_mem 113 rfl rfl, big_mem 272 rfl rfl⟩, by show yX7_init.cls ≠ _; decide +kernel, by show yX7_init.cls ≠ _; decide +kernel, by show (parseMethodDescriptor yX7_init.desc).map (fun d => d.parameters.length) = _; decide +kernel⟩, big_mem 271 rfl rfl⟩
abbrev mX2_init : mMt := (yX2_init, cX2_init, 1, none, 3)
set_option maxRecDepth 100000 in
theorem cal0_X2_init : Cal mX2_init 0 ∧ Cond.instanceMethod yX2_init ∈ BIG := ⟨⟨⟨big_mem 114 rfl rfl, big_mem 312 rfl rfl⟩, by show yX2_init.cls ≠ _; decide +kernel, by show yX2_init.cls ≠ _; decide +kernel, by show (parseMethodDescriptor yX2_init.desc).map (fun d => d.parameters.length) = _; decide +kernel⟩, big_mem 311 rfl rfl⟩
abbrev mX6_init : mMt := (yX6_init, cX6_init, 1, none, 2)
set_option maxRecDepth 100000 in
theorem cal0_X6_init : Cal mX6_init 0 ∧ Cond.instanceMethod yX6_init ∈ BIG := ⟨⟨⟨big_mem 115 rfl rfl, big_mem 345 rfl rfl⟩, by show yX6_init.cls ≠ _; decide +kernel, by show yX6_init.cls ≠ _; decide +kernel, by show (parseMethodDescriptor yX6_init.desc).map (fun d => d.parameters.length) = _; decide +kernel⟩, big_mem 344 rfl rfl⟩
abbrev mX3_init : mMt := (yX3_init, cX3_init, 1, none, 3)
set_option maxRecDepth 100000 in
theorem cal0_X3_init : Cal mX3_init 0 ∧ Cond.instanceMethod yX3_init ∈ BIG := ⟨⟨⟨big_mem 116 rfl rfl, big_mem 370 rfl rfl⟩, by show yX3_init.cls ≠ _; decide +kernel, by show yX3_init.cls ≠ _; decide +kernel, by show (parseMethodDescriptor yX3_init.desc).map (fun d => d.parameters.length) = _; decide +kernel⟩, big_mem 369 rfl rfl⟩
abbrev mX9_init : mMt := (yX9_init, cX9_init, 1, none, 3)
set_option maxRecDepth 100000 in
theorem cal0_X9_init : Cal mX9_init 0 ∧ Cond.instanceMethod yX9_init ∈ BIG := ⟨⟨⟨big_mem 117 rfl rfl, big_mem 389 rfl rfl⟩, by show yX9_init.cls ≠ _; decide +kernel, by show yX9_init.cls ≠ _; decide +kernel, by show (parseMethodDescriptor yX9_init.desc).map (fun d => d.parameters.length) = _; decide +kernel⟩, big_mem 388 rfl rfl⟩
abbrev mX11_feed : mMt := (yX11_feed, cX11_feed, 6, some .int, 2)
set_option maxRecDepth 100000 in
theorem cal_X11_feed : CalV mX11_feed 5 10 := ⟨⟨⟨big_mem 107 rfl rfl, big_mem 446 rfl rfl⟩, by show yX11_feed.cls ≠ _; decide +kernel, by show yX11_feed.cls ≠ _; decide +kernel, by show (parseMethodDescriptor yX11_feed.desc).map (fun d => d.parameters.length) = _; decide +kernel⟩, big_mem 444 rfl rfl, big_mem 445 rfl rfl, rfl, rfl⟩
abbrev mX10_put : mMt := (yX10_put, cX10_put, 3, none, 1)
set_option maxRecDepth 100000 in
theorem cal_X10_put : CalV mX10_put 1 9 := ⟨⟨⟨big_mem 108 rfl rfl, big_mem 450 rfl rfl⟩, by show yX10_put.cls ≠ _; decide +kernel, by show yX10_put.cls ≠ _; decide +kernel, by show (parseMethodDescriptor yX10_put.desc).map (fun d => d.parameters.length) = _; decide +kernel⟩, big_mem 448 rfl rfl, big_mem 449 rfl rfl, rfl, rfl⟩
abbrev mX11_end : mMt := (yX11_end, cX11_end, 2, some .int, 1)
set_option maxRecDepth 100000 in
theorem cal_X11_end : CalV mX11_end 1 10 := ⟨⟨⟨big_mem 107 rfl rfl, big_mem 454 rfl rfl⟩, by show yX11_end.cls ≠ _; decide +kernel, by show yX11_end.cls ≠ _; decide +kernel, by show (parseMethodDescriptor yX11_end.desc).map (fun d => d.parameters.length) = _; decide +kernel⟩, big_mem 452 rfl rfl, big_mem 453 rfl rfl, rfl, rfl⟩
abbrev mX11_plan : mMt := (yX11_plan, cX11_plan, 2, some .int, 67)
set_option maxRecDepth 100000 in
theorem cal_X11_plan : CalV mX11_plan 0 10 := ⟨⟨⟨big_mem 107 rfl rfl, big_mem 458 rfl rfl⟩, by show yX11_plan.cls ≠ _; decide +kernel, by show yX11_plan.cls ≠ _; decide +kernel, by show (parseMethodDescriptor yX11_plan.desc).map (fun d => d.parameters.length) = _; decide +kernel⟩, big_mem 456 rfl rfl, big_mem 457 rfl rfl, rfl, rfl⟩
abbrev mX5_read : mMt := (yX5_read, cX5_read, 3, some .int, 65)
set_option maxRecDepth 100000 in
theorem cal_X5_read : CalV mX5_read 1 4 := ⟨⟨⟨big_mem 109 rfl rfl, big_mem 462 rfl rfl⟩, by show yX5_read.cls ≠ _; decide +kernel, by show yX5_read.cls ≠ _; decide +kernel, by show (parseMethodDescriptor yX5_read.desc).map (fun d => d.parameters.length) = _; decide +kernel⟩, big_mem 460 rfl rfl, big_mem 461 rfl rfl, rfl, rfl⟩
abbrev mX4_clear : mMt := (yX4_clear, cX4_clear, 1, none, 1)
set_option maxRecDepth 100000 in
theorem cal_X4_clear : CalV mX4_clear 0 3 := ⟨⟨⟨big_mem 110 rfl rfl, big_mem 466 rfl rfl⟩, by show yX4_clear.cls ≠ _; decide +kernel, by show yX4_clear.cls ≠ _; decide +kernel, by show (parseMethodDescriptor yX4_clear.desc).map (fun d => d.parameters.length) = _; decide +kernel⟩, big_mem 464 rfl rfl, big_mem 465 rfl rfl, rfl, rfl⟩
abbrev mX5_skipBlanks : mMt := (yX5_skipBlanks, cX5_skipBlanks, 1, none, 1)
set_option maxRecDepth 100000 in
theorem cal_X5_skipBlanks : CalV mX5_skipBlanks 0 4 := ⟨⟨⟨big_mem 109 rfl rfl, big_mem 470 rfl rfl⟩, by show yX5_skipBlanks.cls ≠ _; decide +kernel, by show yX5_skipBlanks.cls ≠ _; decide +kernel, by show (parseMethodDescriptor yX5_skipBlanks.desc).map (fun d => d.parameters.length) = _; decide +kernel⟩, big_mem 469 rfl rfl, big_mem 0 rfl rfl, rfl, rfl⟩
abbrev mX5_readLevels : mMt := (yX5_readLevels, cX5_readLevels, 4, none, 7)
set_option maxRecDepth 100000 in
theorem cal_X5_readLevels : CalV mX5_readLevels 0 4 := ⟨⟨⟨big_mem 109 rfl rfl, big_mem 474 rfl rfl⟩, by show yX5_readLevels.cls ≠ _; decide +kernel, by show yX5_readLevels.cls ≠ _; decide +kernel, by show (parseMethodDescriptor yX5_readLevels.desc).map (fun d => d.parameters.length) = _; decide +kernel⟩, big_mem 473 rfl rfl, big_mem 1 rfl rfl, rfl, rfl⟩
abbrev mX5_takeWord : mMt := (yX5_takeWord, cX5_takeWord, 2, none, 6)
set_option maxRecDepth 100000 in
theorem cal_X5_takeWord : CalV mX5_takeWord 1 4 := ⟨⟨⟨big_mem 109 rfl rfl, big_mem 479 rfl rfl⟩, by show yX5_takeWord.cls ≠ _; decide +kernel, by show yX5_takeWord.cls ≠ _; decide +kernel, by show (parseMethodDescriptor yX5_takeWord.desc).map (fun d => d.parameters.length) = _; decide +kernel⟩, big_mem 478 rfl rfl, big_mem 2 rfl rfl, rfl, rfl⟩
abbrev mX5_isWord : mMt := (yX5_isWord, cX5_isWord, 4, some .boolean, 5)
set_option maxRecDepth 100000 in
theorem cal_X5_isWord : CalV mX5_isWord 1 4 := ⟨⟨⟨big_mem 109 rfl rfl, big_mem 483 rfl rfl⟩, by show yX5_isWord.cls ≠ _; decide +kernel, by show yX5_isWord.cls ≠ _; decide +kernel, by show (parseMethodDescriptor yX5_isWord.desc).map (fun d => d.parameters.length) = _; decide +kernel⟩, big_mem 482 rfl rfl, big_mem 3 rfl rfl, rfl, rfl⟩
abbrev mJ0_length_8abf5 : mMt := (yJ0_length_8abf5, cJ0_length_8abf5, 1, some .int, 2)
set_option maxRecDepth 100000 in
theorem cal1_J0_length_8abf5 : (Cal mJ0_length_8abf5 0 ∧ Cond.instanceMethod yJ0_length_8abf5 ∈ BIG) ∧ Cond.selects yJ0_length_8abf5.cls yJ0_length_8abf5 yJ0_length_8abf5 ∈ BIG := ⟨⟨⟨⟨big_mem 119 rfl rfl, big_mem 487 rfl rfl⟩, by show yJ0_length_8abf5.cls ≠ _; decide +kernel, by show yJ0_length_8abf5.cls ≠ _; decide +kernel, by show (parseMethodDescriptor yJ0_length_8abf5.desc).map (fun d => d.parameters.length) = _; decide +kernel⟩, big_mem 485 rfl rfl⟩, big_mem 486 rfl rfl⟩
abbrev mJ0_coder_7d493 : mMt := (yJ0_coder_7d493, cJ0_coder_7d493, 1, some .byte, 1)
set_option maxRecDepth 100000 in
theorem cal1_J0_coder_7d493 : (Cal mJ0_coder_7d493 0 ∧ Cond.instanceMethod yJ0_coder_7d493 ∈ BIG) ∧ Cond.selects yJ0_coder_7d493.cls yJ0_coder_7d493 yJ0_coder_7d493 ∈ BIG := ⟨⟨⟨⟨big_mem 119 rfl rfl, big_mem 491 rfl rfl⟩, by show yJ0_coder_7d493.cls ≠ _; decide +kernel, by show yJ0_coder_7d493.cls ≠ _; decide +kernel, by show (parseMethodDescriptor yJ0_coder_7d493.desc).map (fun d => d.parameters.length) = _; decide +kernel⟩, big_mem 489 rfl rfl⟩, big_mem 490 rfl rfl⟩
abbrev mX5_isLetter : mMt := (yX5_isLetter, cX5_isLetter, 2, some .boolean, 1)
set_option maxRecDepth 100000 in
theorem cal_X5_isLetter : CalV mX5_isLetter 1 4 := ⟨⟨⟨big_mem 109 rfl rfl, big_mem 497 rfl rfl⟩, by show yX5_isLetter.cls ≠ _; decide +kernel, by show yX5_isLetter.cls ≠ _; decide +kernel, by show (parseMethodDescriptor yX5_isLetter.desc).map (fun d => d.parameters.length) = _; decide +kernel⟩, big_mem 496 rfl rfl, big_mem 4 rfl rfl, rfl, rfl⟩
abbrev mJ0_charAt_5068e : mMt := (yJ0_charAt_5068e, cJ0_charAt_5068e, 2, some .char, 4)
set_option maxRecDepth 100000 in
theorem cal1_J0_charAt_5068e : (Cal mJ0_charAt_5068e 1 ∧ Cond.instanceMethod yJ0_charAt_5068e ∈ BIG) ∧ Cond.selects yJ0_charAt_5068e.cls yJ0_charAt_5068e yJ0_charAt_5068e ∈ BIG := ⟨⟨⟨⟨big_mem 119 rfl rfl, big_mem 501 rfl rfl⟩, by show yJ0_charAt_5068e.cls ≠ _; decide +kernel, by show yJ0_charAt_5068e.cls ≠ _; decide +kernel, by show (parseMethodDescriptor yJ0_charAt_5068e.desc).map (fun d => d.parameters.length) = _; decide +kernel⟩, big_mem 499 rfl rfl⟩, big_mem 500 rfl rfl⟩
abbrev mJ0_isLatin1_aae02 : mMt := (yJ0_isLatin1_aae02, cJ0_isLatin1_aae02, 1, some .boolean, 1)
set_option maxRecDepth 100000 in
theorem cal1_J0_isLatin1_aae02 : (Cal mJ0_isLatin1_aae02 0 ∧ Cond.instanceMethod yJ0_isLatin1_aae02 ∈ BIG) ∧ Cond.selects yJ0_isLatin1_aae02.cls yJ0_isLatin1_aae02 yJ0_isLatin1_aae02 ∈ BIG := ⟨⟨⟨⟨big_mem 119 rfl rfl, big_mem 505 rfl rfl⟩, by show yJ0_isLatin1_aae02.cls ≠ _; decide +kernel, by show yJ0_isLatin1_aae02.cls ≠ _; decide +kernel, by show (parseMethodDescriptor yJ0_isLatin1_aae02.desc).map (fun d => d.parameters.length) = _; decide +kernel⟩, big_mem 503 rfl rfl⟩, big_mem 504 rfl rfl⟩
abbrev mJ1_charAt_3b067 : mMt := (yJ1_charAt_3b067, cJ1_charAt_3b067, 2, some .char, 3)
set_option maxRecDepth 100000 in
theorem cal_J1_charAt_3b067 : Cal mJ1_charAt_3b067 2 := ⟨⟨big_mem 120 rfl rfl, big_mem 508 rfl rfl⟩, by show yJ1_charAt_3b067.cls ≠ _; decide +kernel, by show yJ1_charAt_3b067.cls ≠ _; decide +kernel, by show (parseMethodDescriptor yJ1_charAt_3b067.desc).map (fun d => d.parameters.length) = _; decide +kernel⟩
set_option maxRecDepth 100000 in
theorem stc_J1_charAt_3b067 : Cond.static yJ1_charAt_3b067 ∈ BIG := big_mem 507 rfl rfl
abbrev mJ0_checkIndex_df160 : mMt := (yJ0_checkIndex_df160, cJ0_checkIndex_df160, 2, none, 2)
set_option maxRecDepth 100000 in
theorem cal_J0_checkIndex_df160 : Cal mJ0_checkIndex_df160 2 := ⟨⟨big_mem 119 rfl rfl, big_mem 511 rfl rfl⟩, by show yJ0_checkIndex_df160.cls ≠ _; decide +kernel, by show yJ0_checkIndex_df160.cls ≠ _; decide +kernel, by show (parseMethodDescriptor yJ0_checkIndex_df160.desc).map (fun d => d.parameters.length) = _; decide +kernel⟩
set_option maxRecDepth 100000 in
theorem stc_J0_checkIndex_df160 : Cond.static yJ0_checkIndex_df160 ∈ BIG := big_mem 510 rfl rfl
abbrev mJ3_checkIndex_8e157 : mMt := (yJ3_checkIndex_8e157, cJ3_checkIndex_8e157, 3, some .int, 1)
set_option maxRecDepth 100000 in
theorem cal_J3_checkIndex_8e157 : Cal mJ3_checkIndex_8e157 3 := ⟨⟨big_mem 121 rfl rfl, big_mem 516 rfl rfl⟩, by show yJ3_checkIndex_8e157.cls ≠ _; decide +kernel, by show yJ3_checkIndex_8e157.cls ≠ _; decide +kernel, by show (parseMethodDescriptor yJ3_checkIndex_8e157.desc).map (fun d => d.parameters.length) = _; decide +kernel⟩
set_option maxRecDepth 100000 in
theorem stc_J3_checkIndex_8e157 : Cond.static yJ3_checkIndex_8e157 ∈ BIG := big_mem 515 rfl rfl
abbrev mJ2_charAt_3b067 : mMt := (yJ2_charAt_3b067, cJ2_charAt_3b067, 2, some .char, 1)
set_option maxRecDepth 100000 in
theorem cal_J2_charAt_3b067 : Cal mJ2_charAt_3b067 2 := ⟨⟨big_mem 122 rfl rfl, big_mem 519 rfl rfl⟩, by show yJ2_charAt_3b067.cls ≠ _; decide +kernel, by show yJ2_charAt_3b067.cls ≠ _; decide +kernel, by show (parseMethodDescriptor yJ2_charAt_3b067.desc).map (fun d => d.parameters.length) = _; decide +kernel⟩
set_option maxRecDepth 100000 in
theorem stc_J2_charAt_3b067 : Cond.static yJ2_charAt_3b067 ∈ BIG := big_mem 518 rfl rfl
abbrev mJ2_checkIndex_2214a : mMt := (yJ2_checkIndex_2214a, cJ2_checkIndex_2214a, 2, none, 1)
set_option maxRecDepth 100000 in
theorem cal_J2_checkIndex_2214a : Cal mJ2_checkIndex_2214a 2 := ⟨⟨big_mem 122 rfl rfl, big_mem 522 rfl rfl⟩, by show yJ2_checkIndex_2214a.cls ≠ _; decide +kernel, by show yJ2_checkIndex_2214a.cls ≠ _; decide +kernel, by show (parseMethodDescriptor yJ2_checkIndex_2214a.desc).map (fun d => d.parameters.length) = _; decide +kernel⟩
set_option maxRecDepth 100000 in
theorem stc_J2_checkIndex_2214a : Cond.static yJ2_checkIndex_2214a ∈ BIG := big_mem 521 rfl rfl
abbrev mJ2_length_9d52b : mMt := (yJ2_length_9d52b, cJ2_length_9d52b, 1, some .int, 1)
set_option maxRecDepth 100000 in
theorem cal_J2_length_9d52b : Cal mJ2_length_9d52b 1 := ⟨⟨big_mem 122 rfl rfl, big_mem 525 rfl rfl⟩, by show yJ2_length_9d52b.cls ≠ _; decide +kernel, by show yJ2_length_9d52b.cls ≠ _; decide +kernel, by show (parseMethodDescriptor yJ2_length_9d52b.desc).map (fun d => d.parameters.length) = _; decide +kernel⟩
set_option maxRecDepth 100000 in
theorem stc_J2_length_9d52b : Cond.static yJ2_length_9d52b ∈ BIG := big_mem 524 rfl rfl
abbrev mJ2_getChar_3b067 : mMt := (yJ2_getChar_3b067, cJ2_getChar_3b067, 2, some .char, 1)
set_option maxRecDepth 100000 in
theorem cal_J2_getChar_3b067 : Cal mJ2_getChar_3b067 2 := ⟨⟨big_mem 122 rfl rfl, big_mem 529 rfl rfl⟩, by show yJ2_getChar_3b067.cls ≠ _; decide +kernel, by show yJ2_getChar_3b067.cls ≠ _; decide +kernel, by show (parseMethodDescriptor yJ2_getChar_3b067.desc).map (fun d => d.parameters.length) = _; decide +kernel⟩
set_option maxRecDepth 100000 in
theorem stc_J2_getChar_3b067 : Cond.static yJ2_getChar_3b067 ∈ BIG := big_mem 528 rfl rfl
abbrev mX5_fail : mMt := (yX5_fail, cX5_fail, 3, none, 1)
set_option maxRecDepth 100000 in
theorem cal_X5_fail : CalV mX5_fail 2 4 := ⟨⟨⟨big_mem 109 rfl rfl, big_mem 539 rfl rfl⟩, by show yX5_fail.cls ≠ _; decide +kernel, by show yX5_fail.cls ≠ _; decide +kernel, by show (parseMethodDescriptor yX5_fail.desc).map (fun d => d.parameters.length) = _; decide +kernel⟩, big_mem 538 rfl rfl, big_mem 5 rfl rfl, rfl, rfl⟩
abbrev mX5_isDigit : mMt := (yX5_isDigit, cX5_isDigit, 1, some .boolean, 1)
set_option maxRecDepth 100000 in
theorem cal_X5_isDigit : CalV mX5_isDigit 0 4 := ⟨⟨⟨big_mem 109 rfl rfl, big_mem 543 rfl rfl⟩, by show yX5_isDigit.cls ≠ _; decide +kernel, by show yX5_isDigit.cls ≠ _; decide +kernel, by show (parseMethodDescriptor yX5_isDigit.desc).map (fun d => d.parameters.length) = _; decide +kernel⟩, big_mem 542 rfl rfl, big_mem 6 rfl rfl, rfl, rfl⟩
abbrev mX5_takeNumber : mMt := (yX5_takeNumber, cX5_takeNumber, 5, some .int, 2)
set_option maxRecDepth 100000 in
theorem cal_X5_takeNumber : CalV mX5_takeNumber 2 4 := ⟨⟨⟨big_mem 109 rfl rfl, big_mem 547 rfl rfl⟩, by show yX5_takeNumber.cls ≠ _; decide +kernel, by show yX5_takeNumber.cls ≠ _; decide +kernel, by show (parseMethodDescriptor yX5_takeNumber.desc).map (fun d => d.parameters.length) = _; decide +kernel⟩, big_mem 546 rfl rfl, big_mem 7 rfl rfl, rfl, rfl⟩
abbrev mJ9_min_7cf53 : mMt := (yJ9_min_7cf53, cJ9_min_7cf53, 2, some .int, 1)
set_option maxRecDepth 100000 in
theorem cal_J9_min_7cf53 : Cal mJ9_min_7cf53 2 := ⟨⟨big_mem 123 rfl rfl, big_mem 550 rfl rfl⟩, by show yJ9_min_7cf53.cls ≠ _; decide +kernel, by show yJ9_min_7cf53.cls ≠ _; decide +kernel, by show (parseMethodDescriptor yJ9_min_7cf53.desc).map (fun d => d.parameters.length) = _; decide +kernel⟩
set_option maxRecDepth 100000 in
theorem stc_J9_min_7cf53 : Cond.static yJ9_min_7cf53 ∈ BIG := big_mem 549 rfl rfl
abbrev mX4_addColumn : mMt := (yX4_addColumn, cX4_addColumn, 2, none, 1)
set_option maxRecDepth 100000 in
theorem cal_X4_addColumn : CalV mX4_addColumn 1 3 := ⟨⟨⟨big_mem 110 rfl rfl, big_mem 554 rfl rfl⟩, by show yX4_addColumn.cls ≠ _; decide +kernel, by show yX4_addColumn.cls ≠ _; decide +kernel, by show (parseMethodDescriptor yX4_addColumn.desc).map (fun d => d.parameters.length) = _; decide +kernel⟩, big_mem 552 rfl rfl, big_mem 553 rfl rfl, rfl, rfl⟩
abbrev mX5_readLine : mMt := (yX5_readLine, cX5_readLine, 1, none, 8)
set_option maxRecDepth 100000 in
theorem cal_X5_readLine : CalV mX5_readLine 0 4 := ⟨⟨⟨big_mem 109 rfl rfl, big_mem 558 rfl rfl⟩, by show yX5_readLine.cls ≠ _; decide +kernel, by show yX5_readLine.cls ≠ _; decide +kernel, by show (parseMethodDescriptor yX5_readLine.desc).map (fun d => d.parameters.length) = _; decide +kernel⟩, big_mem 557 rfl rfl, big_mem 8 rfl rfl, rfl, rfl⟩
abbrev mX5_takeByte : mMt := (yX5_takeByte, cX5_takeByte, 2, none, 2)
set_option maxRecDepth 100000 in
theorem cal_X5_takeByte : CalV mX5_takeByte 1 4 := ⟨⟨⟨big_mem 109 rfl rfl, big_mem 562 rfl rfl⟩, by show yX5_takeByte.cls ≠ _; decide +kernel, by show yX5_takeByte.cls ≠ _; decide +kernel, by show (parseMethodDescriptor yX5_takeByte.desc).map (fun d => d.parameters.length) = _; decide +kernel⟩, big_mem 561 rfl rfl, big_mem 9 rfl rfl, rfl, rfl⟩
abbrev mX5_isByte : mMt := (yX5_isByte, cX5_isByte, 2, some .boolean, 1)
set_option maxRecDepth 100000 in
theorem cal_X5_isByte : CalV mX5_isByte 1 4 := ⟨⟨⟨big_mem 109 rfl rfl, big_mem 566 rfl rfl⟩, by show yX5_isByte.cls ≠ _; decide +kernel, by show yX5_isByte.cls ≠ _; decide +kernel, by show (parseMethodDescriptor yX5_isByte.desc).map (fun d => d.parameters.length) = _; decide +kernel⟩, big_mem 565 rfl rfl, big_mem 10 rfl rfl, rfl, rfl⟩
abbrev mX5_readStrength : mMt := (yX5_readStrength, cX5_readStrength, 2, none, 7)
set_option maxRecDepth 100000 in
theorem cal_X5_readStrength : CalV mX5_readStrength 0 4 := ⟨⟨⟨big_mem 109 rfl rfl, big_mem 571 rfl rfl⟩, by show yX5_readStrength.cls ≠ _; decide +kernel, by show yX5_readStrength.cls ≠ _; decide +kernel, by show (parseMethodDescriptor yX5_readStrength.desc).map (fun d => d.parameters.length) = _; decide +kernel⟩, big_mem 570 rfl rfl, big_mem 11 rfl rfl, rfl, rfl⟩
abbrev mX5_readNever : mMt := (yX5_readNever, cX5_readNever, 4, none, 7)
set_option maxRecDepth 100000 in
theorem cal_X5_readNever : CalV mX5_readNever 0 4 := ⟨⟨⟨big_mem 109 rfl rfl, big_mem 575 rfl rfl⟩, by show yX5_readNever.cls ≠ _; decide +kernel, by show yX5_readNever.cls ≠ _; decide +kernel, by show (parseMethodDescriptor yX5_readNever.desc).map (fun d => d.parameters.length) = _; decide +kernel⟩, big_mem 574 rfl rfl, big_mem 12 rfl rfl, rfl, rfl⟩
abbrev mX5_readCell : mMt := (yX5_readCell, cX5_readCell, 6, some .int, 3)
set_option maxRecDepth 100000 in
theorem cal_X5_readCell : CalV mX5_readCell 2 4 := ⟨⟨⟨big_mem 109 rfl rfl, big_mem 580 rfl rfl⟩, by show yX5_readCell.cls ≠ _; decide +kernel, by show yX5_readCell.cls ≠ _; decide +kernel, by show (parseMethodDescriptor yX5_readCell.desc).map (fun d => d.parameters.length) = _; decide +kernel⟩, big_mem 579 rfl rfl, big_mem 13 rfl rfl, rfl, rfl⟩
abbrev mX11_levelIn : mMt := (yX11_levelIn, cX11_levelIn, 3, some .int, 1)
set_option maxRecDepth 100000 in
theorem cal_X11_levelIn : Cal mX11_levelIn 2 := ⟨⟨big_mem 107 rfl rfl, big_mem 583 rfl rfl⟩, by show yX11_levelIn.cls ≠ _; decide +kernel, by show yX11_levelIn.cls ≠ _; decide +kernel, by show (parseMethodDescriptor yX11_levelIn.desc).map (fun d => d.parameters.length) = _; decide +kernel⟩
set_option maxRecDepth 100000 in
theorem stc_X11_levelIn : Cond.static yX11_levelIn ∈ BIG := big_mem 582 rfl rfl
abbrev mX4_addNever : mMt := (yX4_addNever, cX4_addNever, 2, none, 2)
set_option maxRecDepth 100000 in
theorem cal_X4_addNever : CalV mX4_addNever 1 3 := ⟨⟨⟨big_mem 110 rfl rfl, big_mem 587 rfl rfl⟩, by show yX4_addNever.cls ≠ _; decide +kernel, by show yX4_addNever.cls ≠ _; decide +kernel, by show (parseMethodDescriptor yX4_addNever.desc).map (fun d => d.parameters.length) = _; decide +kernel⟩, big_mem 585 rfl rfl, big_mem 586 rfl rfl, rfl, rfl⟩
abbrev mX11_columnsOf : mMt := (yX11_columnsOf, cX11_columnsOf, 2, some .int, 1)
set_option maxRecDepth 100000 in
theorem cal_X11_columnsOf : Cal mX11_columnsOf 1 := ⟨⟨big_mem 107 rfl rfl, big_mem 590 rfl rfl⟩, by show yX11_columnsOf.cls ≠ _; decide +kernel, by show yX11_columnsOf.cls ≠ _; decide +kernel, by show (parseMethodDescriptor yX11_columnsOf.desc).map (fun d => d.parameters.length) = _; decide +kernel⟩
set_option maxRecDepth 100000 in
theorem stc_X11_columnsOf : Cond.static yX11_columnsOf ∈ BIG := big_mem 589 rfl rfl
abbrev mX5_mixesOf : mMt := (yX5_mixesOf, cX5_mixesOf, 2, some .int, 3)
set_option maxRecDepth 100000 in
theorem cal_X5_mixesOf : CalV mX5_mixesOf 1 4 := ⟨⟨⟨big_mem 109 rfl rfl, big_mem 595 rfl rfl⟩, by show yX5_mixesOf.cls ≠ _; decide +kernel, by show yX5_mixesOf.cls ≠ _; decide +kernel, by show (parseMethodDescriptor yX5_mixesOf.desc).map (fun d => d.parameters.length) = _; decide +kernel⟩, big_mem 594 rfl rfl, big_mem 14 rfl rfl, rfl, rfl⟩
abbrev mX0_build : mMt := (yX0_build, cX0_build, 6, none, 2)
set_option maxRecDepth 100000 in
theorem cal_X0_build : CalV mX0_build 2 0 := ⟨⟨⟨big_mem 111 rfl rfl, big_mem 599 rfl rfl⟩, by show yX0_build.cls ≠ _; decide +kernel, by show yX0_build.cls ≠ _; decide +kernel, by show (parseMethodDescriptor yX0_build.desc).map (fun d => d.parameters.length) = _; decide +kernel⟩, big_mem 597 rfl rfl, big_mem 598 rfl rfl, rfl, rfl⟩
abbrev mX0_nextPick : mMt := (yX0_nextPick, cX0_nextPick, 4, some .boolean, 1)
set_option maxRecDepth 100000 in
theorem cal_X0_nextPick : CalV mX0_nextPick 1 0 := ⟨⟨⟨big_mem 111 rfl rfl, big_mem 607 rfl rfl⟩, by show yX0_nextPick.cls ≠ _; decide +kernel, by show yX0_nextPick.cls ≠ _; decide +kernel, by show (parseMethodDescriptor yX0_nextPick.desc).map (fun d => d.parameters.length) = _; decide +kernel⟩, big_mem 606 rfl rfl, big_mem 15 rfl rfl, rfl, rfl⟩
abbrev mX4_allows : mMt := (yX4_allows, cX4_allows, 2, some .boolean, 64)
set_option maxRecDepth 100000 in
theorem cal_X4_allows : CalV mX4_allows 1 3 := ⟨⟨⟨big_mem 110 rfl rfl, big_mem 611 rfl rfl⟩, by show yX4_allows.cls ≠ _; decide +kernel, by show yX4_allows.cls ≠ _; decide +kernel, by show (parseMethodDescriptor yX4_allows.desc).map (fun d => d.parameters.length) = _; decide +kernel⟩, big_mem 609 rfl rfl, big_mem 610 rfl rfl, rfl, rfl⟩
abbrev mX4_leftTo : mMt := (yX4_leftTo, cX4_leftTo, 2, some .int, 2)
set_option maxRecDepth 100000 in
theorem cal_X4_leftTo : CalV mX4_leftTo 1 3 := ⟨⟨⟨big_mem 110 rfl rfl, big_mem 615 rfl rfl⟩, by show yX4_leftTo.cls ≠ _; decide +kernel, by show yX4_leftTo.cls ≠ _; decide +kernel, by show (parseMethodDescriptor yX4_leftTo.desc).map (fun d => d.parameters.length) = _; decide +kernel⟩, big_mem 613 rfl rfl, big_mem 614 rfl rfl, rfl, rfl⟩
abbrev mX4_lawfulRow (d : Nat) : mMt := (yX4_lawfulRow, cX4_lawfulRow, 6, some .int, d)
set_option maxRecDepth 100000 in
theorem cal_X4_lawfulRow (d : Nat) : Cal (mX4_lawfulRow d) 3 := ⟨⟨big_mem 110 rfl rfl, big_mem 618 rfl rfl⟩, by show yX4_lawfulRow.cls ≠ _; decide +kernel, by show yX4_lawfulRow.cls ≠ _; decide +kernel, by show (parseMethodDescriptor yX4_lawfulRow.desc).map (fun d => d.parameters.length) = _; decide +kernel⟩
set_option maxRecDepth 100000 in
theorem stc_X4_lawfulRow : Cond.static yX4_lawfulRow ∈ BIG := big_mem 617 rfl rfl
abbrev mX4_narrow : mMt := (yX4_narrow, cX4_narrow, 7, some .int, 2)
set_option maxRecDepth 100000 in
theorem cal_X4_narrow : CalV mX4_narrow 1 3 := ⟨⟨⟨big_mem 110 rfl rfl, big_mem 622 rfl rfl⟩, by show yX4_narrow.cls ≠ _; decide +kernel, by show yX4_narrow.cls ≠ _; decide +kernel, by show (parseMethodDescriptor yX4_narrow.desc).map (fun d => d.parameters.length) = _; decide +kernel⟩, big_mem 621 rfl rfl, big_mem 16 rfl rfl, rfl, rfl⟩
abbrev mX4_openCell : mMt := (yX4_openCell, cX4_openCell, 4, some .int, 2)
set_option maxRecDepth 100000 in
theorem cal_X4_openCell : CalV mX4_openCell 1 3 := ⟨⟨⟨big_mem 110 rfl rfl, big_mem 626 rfl rfl⟩, by show yX4_openCell.cls ≠ _; decide +kernel, by show yX4_openCell.cls ≠ _; decide +kernel, by show (parseMethodDescriptor yX4_openCell.desc).map (fun d => d.parameters.length) = _; decide +kernel⟩, big_mem 625 rfl rfl, big_mem 17 rfl rfl, rfl, rfl⟩
abbrev mX4_leastRow : mMt := (yX4_leastRow, cX4_leastRow, 5, some .int, 1)
set_option maxRecDepth 100000 in
theorem cal_X4_leastRow : CalV mX4_leastRow 1 3 := ⟨⟨⟨big_mem 110 rfl rfl, big_mem 630 rfl rfl⟩, by show yX4_leastRow.cls ≠ _; decide +kernel, by show yX4_leastRow.cls ≠ _; decide +kernel, by show (parseMethodDescriptor yX4_leastRow.desc).map (fun d => d.parameters.length) = _; decide +kernel⟩, big_mem 629 rfl rfl, big_mem 18 rfl rfl, rfl, rfl⟩
abbrev mX4_withOnly : mMt := (yX4_withOnly, cX4_withOnly, 2, some .int, 2)
set_option maxRecDepth 100000 in
theorem cal_X4_withOnly : Cal mX4_withOnly 2 := ⟨⟨big_mem 110 rfl rfl, big_mem 633 rfl rfl⟩, by show yX4_withOnly.cls ≠ _; decide +kernel, by show yX4_withOnly.cls ≠ _; decide +kernel, by show (parseMethodDescriptor yX4_withOnly.desc).map (fun d => d.parameters.length) = _; decide +kernel⟩
set_option maxRecDepth 100000 in
theorem stc_X4_withOnly : Cond.static yX4_withOnly ∈ BIG := big_mem 632 rfl rfl
abbrev mX4_copyFrom : mMt := (yX4_copyFrom, cX4_copyFrom, 2, none, 2)
set_option maxRecDepth 100000 in
theorem cal_X4_copyFrom : CalV mX4_copyFrom 1 3 := ⟨⟨⟨big_mem 110 rfl rfl, big_mem 637 rfl rfl⟩, by show yX4_copyFrom.cls ≠ _; decide +kernel, by show yX4_copyFrom.cls ≠ _; decide +kernel, by show (parseMethodDescriptor yX4_copyFrom.desc).map (fun d => d.parameters.length) = _; decide +kernel⟩, big_mem 635 rfl rfl, big_mem 636 rfl rfl, rfl, rfl⟩
abbrev mX11_rebuild : mMt := (yX11_rebuild, cX11_rebuild, 1, none, 66)
set_option maxRecDepth 100000 in
theorem cal_X11_rebuild : CalV mX11_rebuild 0 10 := ⟨⟨⟨big_mem 107 rfl rfl, big_mem 642 rfl rfl⟩, by show yX11_rebuild.cls ≠ _; decide +kernel, by show yX11_rebuild.cls ≠ _; decide +kernel, by show (parseMethodDescriptor yX11_rebuild.desc).map (fun d => d.parameters.length) = _; decide +kernel⟩, big_mem 641 rfl rfl, big_mem 19 rfl rfl, rfl, rfl⟩
abbrev mX2_build : mMt := (yX2_build, cX2_build, 5, none, 65)
set_option maxRecDepth 100000 in
theorem cal_X2_build : CalV mX2_build 1 1 := ⟨⟨⟨big_mem 114 rfl rfl, big_mem 646 rfl rfl⟩, by show yX2_build.cls ≠ _; decide +kernel, by show yX2_build.cls ≠ _; decide +kernel, by show (parseMethodDescriptor yX2_build.desc).map (fun d => d.parameters.length) = _; decide +kernel⟩, big_mem 644 rfl rfl, big_mem 645 rfl rfl, rfl, rfl⟩
abbrev mX2_cellsOf : mMt := (yX2_cellsOf, cX2_cellsOf, 7, some .int, 3)
set_option maxRecDepth 100000 in
theorem cal_X2_cellsOf : CalV mX2_cellsOf 2 1 := ⟨⟨⟨big_mem 114 rfl rfl, big_mem 652 rfl rfl⟩, by show yX2_cellsOf.cls ≠ _; decide +kernel, by show yX2_cellsOf.cls ≠ _; decide +kernel, by show (parseMethodDescriptor yX2_cellsOf.desc).map (fun d => d.parameters.length) = _; decide +kernel⟩, big_mem 651 rfl rfl, big_mem 20 rfl rfl, rfl, rfl⟩
abbrev mX0_levelsAt : mMt := (yX0_levelsAt, cX0_levelsAt, 3, some .int, 2)
set_option maxRecDepth 100000 in
theorem cal_X0_levelsAt : CalV mX0_levelsAt 2 0 := ⟨⟨⟨big_mem 111 rfl rfl, big_mem 656 rfl rfl⟩, by show yX0_levelsAt.cls ≠ _; decide +kernel, by show yX0_levelsAt.cls ≠ _; decide +kernel, by show (parseMethodDescriptor yX0_levelsAt.desc).map (fun d => d.parameters.length) = _; decide +kernel⟩, big_mem 654 rfl rfl, big_mem 655 rfl rfl, rfl, rfl⟩
abbrev mX0_columnAt : mMt := (yX0_columnAt, cX0_columnAt, 3, some .int, 1)
set_option maxRecDepth 100000 in
theorem cal_X0_columnAt : CalV mX0_columnAt 2 0 := ⟨⟨⟨big_mem 111 rfl rfl, big_mem 660 rfl rfl⟩, by show yX0_columnAt.cls ≠ _; decide +kernel, by show yX0_columnAt.cls ≠ _; decide +kernel, by show (parseMethodDescriptor yX0_columnAt.desc).map (fun d => d.parameters.length) = _; decide +kernel⟩, big_mem 658 rfl rfl, big_mem 659 rfl rfl, rfl, rfl⟩
abbrev mJ9_max_7cf53 : mMt := (yJ9_max_7cf53, cJ9_max_7cf53, 2, some .int, 1)
set_option maxRecDepth 100000 in
theorem cal_J9_max_7cf53 : Cal mJ9_max_7cf53 2 := ⟨⟨big_mem 123 rfl rfl, big_mem 663 rfl rfl⟩, by show yJ9_max_7cf53.cls ≠ _; decide +kernel, by show yJ9_max_7cf53.cls ≠ _; decide +kernel, by show (parseMethodDescriptor yJ9_max_7cf53.desc).map (fun d => d.parameters.length) = _; decide +kernel⟩
set_option maxRecDepth 100000 in
theorem stc_J9_max_7cf53 : Cond.static yJ9_max_7cf53 ∈ BIG := big_mem 662 rfl rfl
abbrev mX4_lawfulNear : mMt := (yX4_lawfulNear, cX4_lawfulNear, 5, some .int, 64)
set_option maxRecDepth 100000 in
theorem cal_X4_lawfulNear : CalV mX4_lawfulNear 2 3 := ⟨⟨⟨big_mem 110 rfl rfl, big_mem 668 rfl rfl⟩, by show yX4_lawfulNear.cls ≠ _; decide +kernel, by show yX4_lawfulNear.cls ≠ _; decide +kernel, by show (parseMethodDescriptor yX4_lawfulNear.desc).map (fun d => d.parameters.length) = _; decide +kernel⟩, big_mem 666 rfl rfl, big_mem 667 rfl rfl, rfl, rfl⟩
abbrev mX2_recount : mMt := (yX2_recount, cX2_recount, 4, none, 4)
set_option maxRecDepth 100000 in
theorem cal_X2_recount : CalV mX2_recount 1 1 := ⟨⟨⟨big_mem 114 rfl rfl, big_mem 672 rfl rfl⟩, by show yX2_recount.cls ≠ _; decide +kernel, by show yX2_recount.cls ≠ _; decide +kernel, by show (parseMethodDescriptor yX2_recount.desc).map (fun d => d.parameters.length) = _; decide +kernel⟩, big_mem 670 rfl rfl, big_mem 671 rfl rfl, rfl, rfl⟩
abbrev mX2_size : mMt := (yX2_size, cX2_size, 1, some .int, 2)
set_option maxRecDepth 100000 in
theorem cal_X2_size : CalV mX2_size 0 1 := ⟨⟨⟨big_mem 114 rfl rfl, big_mem 676 rfl rfl⟩, by show yX2_size.cls ≠ _; decide +kernel, by show yX2_size.cls ≠ _; decide +kernel, by show (parseMethodDescriptor yX2_size.desc).map (fun d => d.parameters.length) = _; decide +kernel⟩, big_mem 674 rfl rfl, big_mem 675 rfl rfl, rfl, rfl⟩
abbrev mX2_change : mMt := (yX2_change, cX2_change, 6, none, 3)
set_option maxRecDepth 100000 in
theorem cal_X2_change : CalV mX2_change 2 1 := ⟨⟨⟨big_mem 114 rfl rfl, big_mem 681 rfl rfl⟩, by show yX2_change.cls ≠ _; decide +kernel, by show yX2_change.cls ≠ _; decide +kernel, by show (parseMethodDescriptor yX2_change.desc).map (fun d => d.parameters.length) = _; decide +kernel⟩, big_mem 679 rfl rfl, big_mem 680 rfl rfl, rfl, rfl⟩
abbrev mX0_numberIn : mMt := (yX0_numberIn, cX0_numberIn, 7, some .int, 2)
set_option maxRecDepth 100000 in
theorem cal_X0_numberIn : CalV mX0_numberIn 2 0 := ⟨⟨⟨big_mem 111 rfl rfl, big_mem 685 rfl rfl⟩, by show yX0_numberIn.cls ≠ _; decide +kernel, by show yX0_numberIn.cls ≠ _; decide +kernel, by show (parseMethodDescriptor yX0_numberIn.desc).map (fun d => d.parameters.length) = _; decide +kernel⟩, big_mem 683 rfl rfl, big_mem 684 rfl rfl, rfl, rfl⟩
abbrev mX11_levels : mMt := (yX11_levels, cX11_levels, 2, some .int, 2)
set_option maxRecDepth 100000 in
theorem cal_X11_levels : CalV mX11_levels 1 10 := ⟨⟨⟨big_mem 107 rfl rfl, big_mem 692 rfl rfl⟩, by show yX11_levels.cls ≠ _; decide +kernel, by show yX11_levels.cls ≠ _; decide +kernel, by show (parseMethodDescriptor yX11_levels.desc).map (fun d => d.parameters.length) = _; decide +kernel⟩, big_mem 690 rfl rfl, big_mem 691 rfl rfl, rfl, rfl⟩
abbrev mX11_isColumn : mMt := (yX11_isColumn, cX11_isColumn, 2, some .boolean, 1)
set_option maxRecDepth 100000 in
theorem cal_X11_isColumn : CalV mX11_isColumn 1 10 := ⟨⟨⟨big_mem 107 rfl rfl, big_mem 696 rfl rfl⟩, by show yX11_isColumn.cls ≠ _; decide +kernel, by show yX11_isColumn.cls ≠ _; decide +kernel, by show (parseMethodDescriptor yX11_isColumn.desc).map (fun d => d.parameters.length) = _; decide +kernel⟩, big_mem 695 rfl rfl, big_mem 21 rfl rfl, rfl, rfl⟩
abbrev mX11_mix : mMt := (yX11_mix, cX11_mix, 3, some .int, 4)
set_option maxRecDepth 100000 in
theorem cal_X11_mix : CalV mX11_mix 2 10 := ⟨⟨⟨big_mem 107 rfl rfl, big_mem 700 rfl rfl⟩, by show yX11_mix.cls ≠ _; decide +kernel, by show yX11_mix.cls ≠ _; decide +kernel, by show (parseMethodDescriptor yX11_mix.desc).map (fun d => d.parameters.length) = _; decide +kernel⟩, big_mem 698 rfl rfl, big_mem 699 rfl rfl, rfl, rfl⟩
abbrev mX11_mixCount : mMt := (yX11_mixCount, cX11_mixCount, 1, some .int, 3)
set_option maxRecDepth 100000 in
theorem cal_X11_mixCount : CalV mX11_mixCount 0 10 := ⟨⟨⟨big_mem 107 rfl rfl, big_mem 704 rfl rfl⟩, by show yX11_mixCount.cls ≠ _; decide +kernel, by show yX11_mixCount.cls ≠ _; decide +kernel, by show (parseMethodDescriptor yX11_mixCount.desc).map (fun d => d.parameters.length) = _; decide +kernel⟩, big_mem 703 rfl rfl, big_mem 22 rfl rfl, rfl, rfl⟩
abbrev mX11_hasPlan : mMt := (yX11_hasPlan, cX11_hasPlan, 1, some .boolean, 1)
set_option maxRecDepth 100000 in
theorem cal_X11_hasPlan : CalV mX11_hasPlan 0 10 := ⟨⟨⟨big_mem 107 rfl rfl, big_mem 708 rfl rfl⟩, by show yX11_hasPlan.cls ≠ _; decide +kernel, by show yX11_hasPlan.cls ≠ _; decide +kernel, by show (parseMethodDescriptor yX11_hasPlan.desc).map (fun d => d.parameters.length) = _; decide +kernel⟩, big_mem 707 rfl rfl, big_mem 23 rfl rfl, rfl, rfl⟩
abbrev mX2_columnOf : mMt := (yX2_columnOf, cX2_columnOf, 3, some .int, 2)
set_option maxRecDepth 100000 in
theorem cal_X2_columnOf : CalV mX2_columnOf 2 1 := ⟨⟨⟨big_mem 114 rfl rfl, big_mem 712 rfl rfl⟩, by show yX2_columnOf.cls ≠ _; decide +kernel, by show yX2_columnOf.cls ≠ _; decide +kernel, by show (parseMethodDescriptor yX2_columnOf.desc).map (fun d => d.parameters.length) = _; decide +kernel⟩, big_mem 710 rfl rfl, big_mem 711 rfl rfl, rfl, rfl⟩
abbrev mX2_setOf : mMt := (yX2_setOf, cX2_setOf, 3, some .int, 1)
set_option maxRecDepth 100000 in
theorem cal_X2_setOf : CalV mX2_setOf 1 1 := ⟨⟨⟨big_mem 114 rfl rfl, big_mem 716 rfl rfl⟩, by show yX2_setOf.cls ≠ _; decide +kernel, by show yX2_setOf.cls ≠ _; decide +kernel, by show (parseMethodDescriptor yX2_setOf.desc).map (fun d => d.parameters.length) = _; decide +kernel⟩, big_mem 715 rfl rfl, big_mem 24 rfl rfl, rfl, rfl⟩
abbrev mX2_levelOf : mMt := (yX2_levelOf, cX2_levelOf, 3, some .int, 3)
set_option maxRecDepth 100000 in
theorem cal_X2_levelOf : CalV mX2_levelOf 2 1 := ⟨⟨⟨big_mem 114 rfl rfl, big_mem 720 rfl rfl⟩, by show yX2_levelOf.cls ≠ _; decide +kernel, by show yX2_levelOf.cls ≠ _; decide +kernel, by show (parseMethodDescriptor yX2_levelOf.desc).map (fun d => d.parameters.length) = _; decide +kernel⟩, big_mem 718 rfl rfl, big_mem 719 rfl rfl, rfl, rfl⟩
abbrev mX7_firstThatHas : mMt := (yX7_firstThatHas, cX7_firstThatHas, 3, some .int, 1)
set_option maxRecDepth 100000 in
theorem cal_X7_firstThatHas : CalV mX7_firstThatHas 1 6 := ⟨⟨⟨big_mem 113 rfl rfl, big_mem 726 rfl rfl⟩, by show yX7_firstThatHas.cls ≠ _; decide +kernel, by show yX7_firstThatHas.cls ≠ _; decide +kernel, by show (parseMethodDescriptor yX7_firstThatHas.desc).map (fun d => d.parameters.length) = _; decide +kernel⟩, big_mem 724 rfl rfl, big_mem 725 rfl rfl, rfl, rfl⟩
abbrev mX11_add : mMt := (yX11_add, cX11_add, 3, some .int, 65)
set_option maxRecDepth 100000 in
theorem cal_X11_add : CalV mX11_add 1 10 := ⟨⟨⟨big_mem 107 rfl rfl, big_mem 730 rfl rfl⟩, by show yX11_add.cls ≠ _; decide +kernel, by show yX11_add.cls ≠ _; decide +kernel, by show (parseMethodDescriptor yX11_add.desc).map (fun d => d.parameters.length) = _; decide +kernel⟩, big_mem 728 rfl rfl, big_mem 729 rfl rfl, rfl, rfl⟩
abbrev mX11_rowBy : mMt := (yX11_rowBy, cX11_rowBy, 2, some .int, 2)
set_option maxRecDepth 100000 in
theorem cal_X11_rowBy : CalV mX11_rowBy 1 10 := ⟨⟨⟨big_mem 107 rfl rfl, big_mem 734 rfl rfl⟩, by show yX11_rowBy.cls ≠ _; decide +kernel, by show yX11_rowBy.cls ≠ _; decide +kernel, by show (parseMethodDescriptor yX11_rowBy.desc).map (fun d => d.parameters.length) = _; decide +kernel⟩, big_mem 733 rfl rfl, big_mem 25 rfl rfl, rfl, rfl⟩
abbrev mX4_rowOfDigits : mMt := (yX4_rowOfDigits, cX4_rowOfDigits, 6, some .int, 1)
set_option maxRecDepth 100000 in
theorem cal_X4_rowOfDigits : CalV mX4_rowOfDigits 1 3 := ⟨⟨⟨big_mem 110 rfl rfl, big_mem 738 rfl rfl⟩, by show yX4_rowOfDigits.cls ≠ _; decide +kernel, by show yX4_rowOfDigits.cls ≠ _; decide +kernel, by show (parseMethodDescriptor yX4_rowOfDigits.desc).map (fun d => d.parameters.length) = _; decide +kernel⟩, big_mem 736 rfl rfl, big_mem 737 rfl rfl, rfl, rfl⟩
abbrev mX11_remember : mMt := (yX11_remember, cX11_remember, 1, none, 4)
set_option maxRecDepth 100000 in
theorem cal_X11_remember : CalV mX11_remember 0 10 := ⟨⟨⟨big_mem 107 rfl rfl, big_mem 743 rfl rfl⟩, by show yX11_remember.cls ≠ _; decide +kernel, by show yX11_remember.cls ≠ _; decide +kernel, by show (parseMethodDescriptor yX11_remember.desc).map (fun d => d.parameters.length) = _; decide +kernel⟩, big_mem 742 rfl rfl, big_mem 26 rfl rfl, rfl, rfl⟩
abbrev mX8_copyFrom : mMt := (yX8_copyFrom, cX8_copyFrom, 2, none, 3)
set_option maxRecDepth 100000 in
theorem cal_X8_copyFrom : CalV mX8_copyFrom 1 7 := ⟨⟨⟨big_mem 112 rfl rfl, big_mem 747 rfl rfl⟩, by show yX8_copyFrom.cls ≠ _; decide +kernel, by show yX8_copyFrom.cls ≠ _; decide +kernel, by show (parseMethodDescriptor yX8_copyFrom.desc).map (fun d => d.parameters.length) = _; decide +kernel⟩, big_mem 745 rfl rfl, big_mem 746 rfl rfl, rfl, rfl⟩
abbrev mX7_copyFrom : mMt := (yX7_copyFrom, cX7_copyFrom, 2, none, 2)
set_option maxRecDepth 100000 in
theorem cal_X7_copyFrom : CalV mX7_copyFrom 1 6 := ⟨⟨⟨big_mem 113 rfl rfl, big_mem 752 rfl rfl⟩, by show yX7_copyFrom.cls ≠ _; decide +kernel, by show yX7_copyFrom.cls ≠ _; decide +kernel, by show (parseMethodDescriptor yX7_copyFrom.desc).map (fun d => d.parameters.length) = _; decide +kernel⟩, big_mem 750 rfl rfl, big_mem 751 rfl rfl, rfl, rfl⟩
abbrev mX11_append : mMt := (yX11_append, cX11_append, 2, none, 4)
set_option maxRecDepth 100000 in
theorem cal_X11_append : CalV mX11_append 1 10 := ⟨⟨⟨big_mem 107 rfl rfl, big_mem 758 rfl rfl⟩, by show yX11_append.cls ≠ _; decide +kernel, by show yX11_append.cls ≠ _; decide +kernel, by show (parseMethodDescriptor yX11_append.desc).map (fun d => d.parameters.length) = _; decide +kernel⟩, big_mem 757 rfl rfl, big_mem 27 rfl rfl, rfl, rfl⟩
abbrev mX7_append : mMt := (yX7_append, cX7_append, 2, none, 1)
set_option maxRecDepth 100000 in
theorem cal_X7_append : CalV mX7_append 1 6 := ⟨⟨⟨big_mem 113 rfl rfl, big_mem 762 rfl rfl⟩, by show yX7_append.cls ≠ _; decide +kernel, by show yX7_append.cls ≠ _; decide +kernel, by show (parseMethodDescriptor yX7_append.desc).map (fun d => d.parameters.length) = _; decide +kernel⟩, big_mem 760 rfl rfl, big_mem 761 rfl rfl, rfl, rfl⟩
abbrev mX11_tell : mMt := (yX11_tell, cX11_tell, 7, some .int, 65)
set_option maxRecDepth 100000 in
theorem cal_X11_tell : CalV mX11_tell 3 10 := ⟨⟨⟨big_mem 107 rfl rfl, big_mem 767 rfl rfl⟩, by show yX11_tell.cls ≠ _; decide +kernel, by show yX11_tell.cls ≠ _; decide +kernel, by show (parseMethodDescriptor yX11_tell.desc).map (fun d => d.parameters.length) = _; decide +kernel⟩, big_mem 765 rfl rfl, big_mem 766 rfl rfl, rfl, rfl⟩
abbrev mX11_isRow : mMt := (yX11_isRow, cX11_isRow, 2, some .boolean, 1)
set_option maxRecDepth 100000 in
theorem cal_X11_isRow : CalV mX11_isRow 1 10 := ⟨⟨⟨big_mem 107 rfl rfl, big_mem 771 rfl rfl⟩, by show yX11_isRow.cls ≠ _; decide +kernel, by show yX11_isRow.cls ≠ _; decide +kernel, by show (parseMethodDescriptor yX11_isRow.desc).map (fun d => d.parameters.length) = _; decide +kernel⟩, big_mem 770 rfl rfl, big_mem 28 rfl rfl, rfl, rfl⟩
abbrev mX11_cell : mMt := (yX11_cell, cX11_cell, 3, some .int, 2)
set_option maxRecDepth 100000 in
theorem cal_X11_cell : CalV mX11_cell 2 10 := ⟨⟨⟨big_mem 107 rfl rfl, big_mem 776 rfl rfl⟩, by show yX11_cell.cls ≠ _; decide +kernel, by show yX11_cell.cls ≠ _; decide +kernel, by show (parseMethodDescriptor yX11_cell.desc).map (fun d => d.parameters.length) = _; decide +kernel⟩, big_mem 774 rfl rfl, big_mem 775 rfl rfl, rfl, rfl⟩
abbrev mX11_drop : mMt := (yX11_drop, cX11_drop, 2, some .int, 5)
set_option maxRecDepth 100000 in
theorem cal_X11_drop : CalV mX11_drop 1 10 := ⟨⟨⟨big_mem 107 rfl rfl, big_mem 780 rfl rfl⟩, by show yX11_drop.cls ≠ _; decide +kernel, by show yX11_drop.cls ≠ _; decide +kernel, by show (parseMethodDescriptor yX11_drop.desc).map (fun d => d.parameters.length) = _; decide +kernel⟩, big_mem 778 rfl rfl, big_mem 779 rfl rfl, rfl, rfl⟩
abbrev mX11_takeAway : mMt := (yX11_takeAway, cX11_takeAway, 2, none, 4)
set_option maxRecDepth 100000 in
theorem cal_X11_takeAway : CalV mX11_takeAway 1 10 := ⟨⟨⟨big_mem 107 rfl rfl, big_mem 784 rfl rfl⟩, by show yX11_takeAway.cls ≠ _; decide +kernel, by show yX11_takeAway.cls ≠ _; decide +kernel, by show (parseMethodDescriptor yX11_takeAway.desc).map (fun d => d.parameters.length) = _; decide +kernel⟩, big_mem 783 rfl rfl, big_mem 29 rfl rfl, rfl, rfl⟩
abbrev mX7_remove : mMt := (yX7_remove, cX7_remove, 2, none, 2)
set_option maxRecDepth 100000 in
theorem cal_X7_remove : CalV mX7_remove 1 6 := ⟨⟨⟨big_mem 113 rfl rfl, big_mem 788 rfl rfl⟩, by show yX7_remove.cls ≠ _; decide +kernel, by show yX7_remove.cls ≠ _; decide +kernel, by show (parseMethodDescriptor yX7_remove.desc).map (fun d => d.parameters.length) = _; decide +kernel⟩, big_mem 786 rfl rfl, big_mem 787 rfl rfl, rfl, rfl⟩
abbrev mX11_open : mMt := (yX11_open, cX11_open, 1, some .int, 4)
set_option maxRecDepth 100000 in
theorem cal_X11_open : CalV mX11_open 0 10 := ⟨⟨⟨big_mem 107 rfl rfl, big_mem 792 rfl rfl⟩, by show yX11_open.cls ≠ _; decide +kernel, by show yX11_open.cls ≠ _; decide +kernel, by show (parseMethodDescriptor yX11_open.desc).map (fun d => d.parameters.length) = _; decide +kernel⟩, big_mem 790 rfl rfl, big_mem 791 rfl rfl, rfl, rfl⟩
abbrev mX2_openCount : mMt := (yX2_openCount, cX2_openCount, 4, some .int, 3)
set_option maxRecDepth 100000 in
theorem cal_X2_openCount : CalV mX2_openCount 0 1 := ⟨⟨⟨big_mem 114 rfl rfl, big_mem 796 rfl rfl⟩, by show yX2_openCount.cls ≠ _; decide +kernel, by show yX2_openCount.cls ≠ _; decide +kernel, by show (parseMethodDescriptor yX2_openCount.desc).map (fun d => d.parameters.length) = _; decide +kernel⟩, big_mem 794 rfl rfl, big_mem 795 rfl rfl, rfl, rfl⟩
abbrev mX2_isOpen : mMt := (yX2_isOpen, cX2_isOpen, 2, some .boolean, 1)
set_option maxRecDepth 100000 in
theorem cal_X2_isOpen : CalV mX2_isOpen 1 1 := ⟨⟨⟨big_mem 114 rfl rfl, big_mem 800 rfl rfl⟩, by show yX2_isOpen.cls ≠ _; decide +kernel, by show yX2_isOpen.cls ≠ _; decide +kernel, by show (parseMethodDescriptor yX2_isOpen.desc).map (fun d => d.parameters.length) = _; decide +kernel⟩, big_mem 798 rfl rfl, big_mem 799 rfl rfl, rfl, rfl⟩
abbrev mX11_openMix : mMt := (yX11_openMix, cX11_openMix, 2, some .int, 4)
set_option maxRecDepth 100000 in
theorem cal_X11_openMix : CalV mX11_openMix 1 10 := ⟨⟨⟨big_mem 107 rfl rfl, big_mem 804 rfl rfl⟩, by show yX11_openMix.cls ≠ _; decide +kernel, by show yX11_openMix.cls ≠ _; decide +kernel, by show (parseMethodDescriptor yX11_openMix.desc).map (fun d => d.parameters.length) = _; decide +kernel⟩, big_mem 802 rfl rfl, big_mem 803 rfl rfl, rfl, rfl⟩
abbrev mX2_openAt : mMt := (yX2_openAt, cX2_openAt, 5, some .int, 3)
set_option maxRecDepth 100000 in
theorem cal_X2_openAt : CalV mX2_openAt 1 1 := ⟨⟨⟨big_mem 114 rfl rfl, big_mem 808 rfl rfl⟩, by show yX2_openAt.cls ≠ _; decide +kernel, by show yX2_openAt.cls ≠ _; decide +kernel, by show (parseMethodDescriptor yX2_openAt.desc).map (fun d => d.parameters.length) = _; decide +kernel⟩, big_mem 806 rfl rfl, big_mem 807 rfl rfl, rfl, rfl⟩
abbrev mX11_hope : mMt := (yX11_hope, cX11_hope, 3, some .long, 66)
set_option maxRecDepth 100000 in
theorem cal_X11_hope : CalV mX11_hope 1 10 := ⟨⟨⟨big_mem 107 rfl rfl, big_mem 812 rfl rfl⟩, by show yX11_hope.cls ≠ _; decide +kernel, by show yX11_hope.cls ≠ _; decide +kernel, by show (parseMethodDescriptor yX11_hope.desc).map (fun d => d.parameters.length) = _; decide +kernel⟩, big_mem 810 rfl rfl, big_mem 811 rfl rfl, rfl, rfl⟩
abbrev mX6_hopeOf : mMt := (yX6_hopeOf, cX6_hopeOf, 12, some .long, 65)
set_option maxRecDepth 100000 in
theorem cal_X6_hopeOf : CalV mX6_hopeOf 3 5 := ⟨⟨⟨big_mem 115 rfl rfl, big_mem 817 rfl rfl⟩, by show yX6_hopeOf.cls ≠ _; decide +kernel, by show yX6_hopeOf.cls ≠ _; decide +kernel, by show (parseMethodDescriptor yX6_hopeOf.desc).map (fun d => d.parameters.length) = _; decide +kernel⟩, big_mem 815 rfl rfl, big_mem 816 rfl rfl, rfl, rfl⟩
abbrev mX6_weightOf : mMt := (yX6_weightOf, cX6_weightOf, 7, some .int, 3)
set_option maxRecDepth 100000 in
theorem cal_X6_weightOf : CalV mX6_weightOf 3 5 := ⟨⟨⟨big_mem 115 rfl rfl, big_mem 823 rfl rfl⟩, by show yX6_weightOf.cls ≠ _; decide +kernel, by show yX6_weightOf.cls ≠ _; decide +kernel, by show (parseMethodDescriptor yX6_weightOf.desc).map (fun d => d.parameters.length) = _; decide +kernel⟩, big_mem 822 rfl rfl, big_mem 30 rfl rfl, rfl, rfl⟩
abbrev mX11_greed : mMt := (yX11_greed, cX11_greed, 1, some .int, 68)
set_option maxRecDepth 100000 in
theorem cal_X11_greed : CalV mX11_greed 0 10 := ⟨⟨⟨big_mem 107 rfl rfl, big_mem 834 rfl rfl⟩, by show yX11_greed.cls ≠ _; decide +kernel, by show yX11_greed.cls ≠ _; decide +kernel, by show (parseMethodDescriptor yX11_greed.desc).map (fun d => d.parameters.length) = _; decide +kernel⟩, big_mem 832 rfl rfl, big_mem 833 rfl rfl, rfl, rfl⟩
abbrev mX6_makeRow : mMt := (yX6_makeRow, cX6_makeRow, 6, some .int, 67)
set_option maxRecDepth 100000 in
theorem cal_X6_makeRow : CalV mX6_makeRow 2 5 := ⟨⟨⟨big_mem 115 rfl rfl, big_mem 838 rfl rfl⟩, by show yX6_makeRow.cls ≠ _; decide +kernel, by show yX6_makeRow.cls ≠ _; decide +kernel, by show (parseMethodDescriptor yX6_makeRow.desc).map (fun d => d.parameters.length) = _; decide +kernel⟩, big_mem 836 rfl rfl, big_mem 837 rfl rfl, rfl, rfl⟩
abbrev mX6_gather : mMt := (yX6_gather, cX6_gather, 5, none, 4)
set_option maxRecDepth 100000 in
theorem cal_X6_gather : CalV mX6_gather 1 5 := ⟨⟨⟨big_mem 115 rfl rfl, big_mem 842 rfl rfl⟩, by show yX6_gather.cls ≠ _; decide +kernel, by show yX6_gather.cls ≠ _; decide +kernel, by show (parseMethodDescriptor yX6_gather.desc).map (fun d => d.parameters.length) = _; decide +kernel⟩, big_mem 841 rfl rfl, big_mem 31 rfl rfl, rfl, rfl⟩
abbrev mX6_bestCell : mMt := (yX6_bestCell, cX6_bestCell, 12, some .int, 66)
set_option maxRecDepth 100000 in
theorem cal_X6_bestCell : CalV mX6_bestCell 3 5 := ⟨⟨⟨big_mem 115 rfl rfl, big_mem 846 rfl rfl⟩, by show yX6_bestCell.cls ≠ _; decide +kernel, by show yX6_bestCell.cls ≠ _; decide +kernel, by show (parseMethodDescriptor yX6_bestCell.desc).map (fun d => d.parameters.length) = _; decide +kernel⟩, big_mem 845 rfl rfl, big_mem 32 rfl rfl, rfl, rfl⟩
abbrev mX4_levelsLeft : mMt := (yX4_levelsLeft, cX4_levelsLeft, 5, some .int, 65)
set_option maxRecDepth 100000 in
theorem cal_X4_levelsLeft : CalV mX4_levelsLeft 2 3 := ⟨⟨⟨big_mem 110 rfl rfl, big_mem 850 rfl rfl⟩, by show yX4_levelsLeft.cls ≠ _; decide +kernel, by show yX4_levelsLeft.cls ≠ _; decide +kernel, by show (parseMethodDescriptor yX4_levelsLeft.desc).map (fun d => d.parameters.length) = _; decide +kernel⟩, big_mem 848 rfl rfl, big_mem 849 rfl rfl, rfl, rfl⟩
abbrev mX6_hopeWith : mMt := (yX6_hopeWith, cX6_hopeWith, 10, some .long, 65)
set_option maxRecDepth 100000 in
theorem cal_X6_hopeWith : CalV mX6_hopeWith 4 5 := ⟨⟨⟨big_mem 115 rfl rfl, big_mem 856 rfl rfl⟩, by show yX6_hopeWith.cls ≠ _; decide +kernel, by show yX6_hopeWith.cls ≠ _; decide +kernel, by show (parseMethodDescriptor yX6_hopeWith.desc).map (fun d => d.parameters.length) = _; decide +kernel⟩, big_mem 855 rfl rfl, big_mem 33 rfl rfl, rfl, rfl⟩
abbrev mX6_findNear : mMt := (yX6_findNear, cX6_findNear, 4, none, 1)
set_option maxRecDepth 100000 in
theorem cal_X6_findNear : CalV mX6_findNear 2 5 := ⟨⟨⟨big_mem 115 rfl rfl, big_mem 860 rfl rfl⟩, by show yX6_findNear.cls ≠ _; decide +kernel, by show yX6_findNear.cls ≠ _; decide +kernel, by show (parseMethodDescriptor yX6_findNear.desc).map (fun d => d.parameters.length) = _; decide +kernel⟩, big_mem 859 rfl rfl, big_mem 34 rfl rfl, rfl, rfl⟩
abbrev mX6_sampleWith : mMt := (yX6_sampleWith, cX6_sampleWith, 7, some .int, 64)
set_option maxRecDepth 100000 in
theorem cal_X6_sampleWith : CalV mX6_sampleWith 4 5 := ⟨⟨⟨big_mem 115 rfl rfl, big_mem 864 rfl rfl⟩, by show yX6_sampleWith.cls ≠ _; decide +kernel, by show yX6_sampleWith.cls ≠ _; decide +kernel, by show (parseMethodDescriptor yX6_sampleWith.desc).map (fun d => d.parameters.length) = _; decide +kernel⟩, big_mem 863 rfl rfl, big_mem 35 rfl rfl, rfl, rfl⟩
abbrev mX6_keepWith : mMt := (yX6_keepWith, cX6_keepWith, 10, none, 65)
set_option maxRecDepth 100000 in
theorem cal_X6_keepWith : CalV mX6_keepWith 4 5 := ⟨⟨⟨big_mem 115 rfl rfl, big_mem 868 rfl rfl⟩, by show yX6_keepWith.cls ≠ _; decide +kernel, by show yX6_keepWith.cls ≠ _; decide +kernel, by show (parseMethodDescriptor yX6_keepWith.desc).map (fun d => d.parameters.length) = _; decide +kernel⟩, big_mem 867 rfl rfl, big_mem 36 rfl rfl, rfl, rfl⟩
abbrev mX2_gainOf : mMt := (yX2_gainOf, cX2_gainOf, 6, some .int, 3)
set_option maxRecDepth 100000 in
theorem cal_X2_gainOf : CalV mX2_gainOf 2 1 := ⟨⟨⟨big_mem 114 rfl rfl, big_mem 872 rfl rfl⟩, by show yX2_gainOf.cls ≠ _; decide +kernel, by show yX2_gainOf.cls ≠ _; decide +kernel, by show (parseMethodDescriptor yX2_gainOf.desc).map (fun d => d.parameters.length) = _; decide +kernel⟩, big_mem 870 rfl rfl, big_mem 871 rfl rfl, rfl, rfl⟩
abbrev mX11_fill : mMt := (yX11_fill, cX11_fill, 3, some .int, 68)
set_option maxRecDepth 100000 in
theorem cal_X11_fill : CalV mX11_fill 0 10 := ⟨⟨⟨big_mem 107 rfl rfl, big_mem 877 rfl rfl⟩, by show yX11_fill.cls ≠ _; decide +kernel, by show yX11_fill.cls ≠ _; decide +kernel, by show (parseMethodDescriptor yX11_fill.desc).map (fun d => d.parameters.length) = _; decide +kernel⟩, big_mem 875 rfl rfl, big_mem 876 rfl rfl, rfl, rfl⟩
abbrev mX11_field : mMt := (yX11_field, cX11_field, 4, some .int, 65)
set_option maxRecDepth 100000 in
theorem cal_X11_field : CalV mX11_field 0 10 := ⟨⟨⟨big_mem 107 rfl rfl, big_mem 881 rfl rfl⟩, by show yX11_field.cls ≠ _; decide +kernel, by show yX11_field.cls ≠ _; decide +kernel, by show (parseMethodDescriptor yX11_field.desc).map (fun d => d.parameters.length) = _; decide +kernel⟩, big_mem 879 rfl rfl, big_mem 880 rfl rfl, rfl, rfl⟩
abbrev mX4_fieldSize : mMt := (yX4_fieldSize, cX4_fieldSize, 3, some .int, 2)
set_option maxRecDepth 100000 in
theorem cal_X4_fieldSize : CalV mX4_fieldSize 0 3 := ⟨⟨⟨big_mem 110 rfl rfl, big_mem 885 rfl rfl⟩, by show yX4_fieldSize.cls ≠ _; decide +kernel, by show yX4_fieldSize.cls ≠ _; decide +kernel, by show (parseMethodDescriptor yX4_fieldSize.desc).map (fun d => d.parameters.length) = _; decide +kernel⟩, big_mem 883 rfl rfl, big_mem 884 rfl rfl, rfl, rfl⟩
abbrev mX1_sizeFor : mMt := (yX1_sizeFor, cX1_sizeFor, 2, some .int, 1)
set_option maxRecDepth 100000 in
theorem cal_X1_sizeFor : Cal mX1_sizeFor 1 := ⟨⟨big_mem 125 rfl rfl, big_mem 889 rfl rfl⟩, by show yX1_sizeFor.cls ≠ _; decide +kernel, by show yX1_sizeFor.cls ≠ _; decide +kernel, by show (parseMethodDescriptor yX1_sizeFor.desc).map (fun d => d.parameters.length) = _; decide +kernel⟩
set_option maxRecDepth 100000 in
theorem stc_X1_sizeFor : Cond.static yX1_sizeFor ∈ BIG := big_mem 888 rfl rfl
abbrev mX1_power : mMt := (yX1_power, cX1_power, 4, some .int, 1)
set_option maxRecDepth 100000 in
theorem cal_X1_power : Cal mX1_power 2 := ⟨⟨big_mem 125 rfl rfl, big_mem 894 rfl rfl⟩, by show yX1_power.cls ≠ _; decide +kernel, by show yX1_power.cls ≠ _; decide +kernel, by show (parseMethodDescriptor yX1_power.desc).map (fun d => d.parameters.length) = _; decide +kernel⟩
set_option maxRecDepth 100000 in
theorem stc_X1_power : Cond.static yX1_power ∈ BIG := big_mem 893 rfl rfl
abbrev mX4_rowOfPolynomial : mMt := (yX4_rowOfPolynomial, cX4_rowOfPolynomial, 6, some .int, 3)
set_option maxRecDepth 100000 in
theorem cal_X4_rowOfPolynomial : CalV mX4_rowOfPolynomial 2 3 := ⟨⟨⟨big_mem 110 rfl rfl, big_mem 898 rfl rfl⟩, by show yX4_rowOfPolynomial.cls ≠ _; decide +kernel, by show yX4_rowOfPolynomial.cls ≠ _; decide +kernel, by show (parseMethodDescriptor yX4_rowOfPolynomial.desc).map (fun d => d.parameters.length) = _; decide +kernel⟩, big_mem 896 rfl rfl, big_mem 897 rfl rfl, rfl, rfl⟩
abbrev mX1_valueAt : mMt := (yX1_valueAt, cX1_valueAt, 7, some .int, 2)
set_option maxRecDepth 100000 in
theorem cal_X1_valueAt : Cal mX1_valueAt 4 := ⟨⟨big_mem 125 rfl rfl, big_mem 901 rfl rfl⟩, by show yX1_valueAt.cls ≠ _; decide +kernel, by show yX1_valueAt.cls ≠ _; decide +kernel, by show (parseMethodDescriptor yX1_valueAt.desc).map (fun d => d.parameters.length) = _; decide +kernel⟩
set_option maxRecDepth 100000 in
theorem stc_X1_valueAt : Cond.static yX1_valueAt ∈ BIG := big_mem 900 rfl rfl
abbrev mX1_times : mMt := (yX1_times, cX1_times, 3, some .int, 1)
set_option maxRecDepth 100000 in
theorem cal_X1_times : Cal mX1_times 3 := ⟨⟨big_mem 125 rfl rfl, big_mem 904 rfl rfl⟩, by show yX1_times.cls ≠ _; decide +kernel, by show yX1_times.cls ≠ _; decide +kernel, by show (parseMethodDescriptor yX1_times.desc).map (fun d => d.parameters.length) = _; decide +kernel⟩
set_option maxRecDepth 100000 in
theorem stc_X1_times : Cond.static yX1_times ∈ BIG := big_mem 903 rfl rfl
abbrev mX1_plus : mMt := (yX1_plus, cX1_plus, 3, some .int, 1)
set_option maxRecDepth 100000 in
theorem cal_X1_plus : Cal mX1_plus 3 := ⟨⟨big_mem 125 rfl rfl, big_mem 909 rfl rfl⟩, by show yX1_plus.cls ≠ _; decide +kernel, by show yX1_plus.cls ≠ _; decide +kernel, by show (parseMethodDescriptor yX1_plus.desc).map (fun d => d.parameters.length) = _; decide +kernel⟩
set_option maxRecDepth 100000 in
theorem stc_X1_plus : Cond.static yX1_plus ∈ BIG := big_mem 908 rfl rfl
abbrev mX1_lastOf : mMt := (yX1_lastOf, cX1_lastOf, 2, some .int, 1)
set_option maxRecDepth 100000 in
theorem cal_X1_lastOf : Cal mX1_lastOf 2 := ⟨⟨big_mem 125 rfl rfl, big_mem 912 rfl rfl⟩, by show yX1_lastOf.cls ≠ _; decide +kernel, by show yX1_lastOf.cls ≠ _; decide +kernel, by show (parseMethodDescriptor yX1_lastOf.desc).map (fun d => d.parameters.length) = _; decide +kernel⟩
set_option maxRecDepth 100000 in
theorem stc_X1_lastOf : Cond.static yX1_lastOf ∈ BIG := big_mem 911 rfl rfl
abbrev mX11_widen : mMt := (yX11_widen, cX11_widen, 2, some .int, 67)
set_option maxRecDepth 100000 in
theorem cal_X11_widen : CalV mX11_widen 1 10 := ⟨⟨⟨big_mem 107 rfl rfl, big_mem 916 rfl rfl⟩, by show yX11_widen.cls ≠ _; decide +kernel, by show yX11_widen.cls ≠ _; decide +kernel, by show (parseMethodDescriptor yX11_widen.desc).map (fun d => d.parameters.length) = _; decide +kernel⟩, big_mem 914 rfl rfl, big_mem 915 rfl rfl, rfl, rfl⟩
abbrev mX5_mixesIfWider : mMt := (yX5_mixesIfWider, cX5_mixesIfWider, 3, some .int, 4)
set_option maxRecDepth 100000 in
theorem cal_X5_mixesIfWider : CalV mX5_mixesIfWider 2 4 := ⟨⟨⟨big_mem 109 rfl rfl, big_mem 920 rfl rfl⟩, by show yX5_mixesIfWider.cls ≠ _; decide +kernel, by show yX5_mixesIfWider.cls ≠ _; decide +kernel, by show (parseMethodDescriptor yX5_mixesIfWider.desc).map (fun d => d.parameters.length) = _; decide +kernel⟩, big_mem 918 rfl rfl, big_mem 919 rfl rfl, rfl, rfl⟩
abbrev mX11_settle : mMt := (yX11_settle, cX11_settle, 4, some .int, 67)
set_option maxRecDepth 100000 in
theorem cal_X11_settle : CalV mX11_settle 0 10 := ⟨⟨⟨big_mem 107 rfl rfl, big_mem 926 rfl rfl⟩, by show yX11_settle.cls ≠ _; decide +kernel, by show yX11_settle.cls ≠ _; decide +kernel, by show (parseMethodDescriptor yX11_settle.desc).map (fun d => d.parameters.length) = _; decide +kernel⟩, big_mem 924 rfl rfl, big_mem 925 rfl rfl, rfl, rfl⟩
abbrev mX11_settleCell : mMt := (yX11_settleCell, cX11_settleCell, 10, none, 66)
set_option maxRecDepth 100000 in
theorem cal_X11_settleCell : CalV mX11_settleCell 2 10 := ⟨⟨⟨big_mem 107 rfl rfl, big_mem 930 rfl rfl⟩, by show yX11_settleCell.cls ≠ _; decide +kernel, by show yX11_settleCell.cls ≠ _; decide +kernel, by show (parseMethodDescriptor yX11_settleCell.desc).map (fun d => d.parameters.length) = _; decide +kernel⟩, big_mem 929 rfl rfl, big_mem 37 rfl rfl, rfl, rfl⟩
abbrev mX2_openIn : mMt := (yX2_openIn, cX2_openIn, 5, some .int, 3)
set_option maxRecDepth 100000 in
theorem cal_X2_openIn : CalV mX2_openIn 1 1 := ⟨⟨⟨big_mem 114 rfl rfl, big_mem 935 rfl rfl⟩, by show yX2_openIn.cls ≠ _; decide +kernel, by show yX2_openIn.cls ≠ _; decide +kernel, by show (parseMethodDescriptor yX2_openIn.desc).map (fun d => d.parameters.length) = _; decide +kernel⟩, big_mem 933 rfl rfl, big_mem 934 rfl rfl, rfl, rfl⟩
abbrev mX11_thin : mMt := (yX11_thin, cX11_thin, 3, some .int, 5)
set_option maxRecDepth 100000 in
theorem cal_X11_thin : CalV mX11_thin 0 10 := ⟨⟨⟨big_mem 107 rfl rfl, big_mem 939 rfl rfl⟩, by show yX11_thin.cls ≠ _; decide +kernel, by show yX11_thin.cls ≠ _; decide +kernel, by show (parseMethodDescriptor yX11_thin.desc).map (fun d => d.parameters.length) = _; decide +kernel⟩, big_mem 937 rfl rfl, big_mem 938 rfl rfl, rfl, rfl⟩
abbrev mX2_hadBesides : mMt := (yX2_hadBesides, cX2_hadBesides, 4, some .boolean, 3)
set_option maxRecDepth 100000 in
theorem cal_X2_hadBesides : CalV mX2_hadBesides 1 1 := ⟨⟨⟨big_mem 114 rfl rfl, big_mem 943 rfl rfl⟩, by show yX2_hadBesides.cls ≠ _; decide +kernel, by show yX2_hadBesides.cls ≠ _; decide +kernel, by show (parseMethodDescriptor yX2_hadBesides.desc).map (fun d => d.parameters.length) = _; decide +kernel⟩, big_mem 941 rfl rfl, big_mem 942 rfl rfl, rfl, rfl⟩
abbrev mX11_order : mMt := (yX11_order, cX11_order, 1, some .int, 5)
set_option maxRecDepth 100000 in
theorem cal_X11_order : CalV mX11_order 0 10 := ⟨⟨⟨big_mem 107 rfl rfl, big_mem 947 rfl rfl⟩, by show yX11_order.cls ≠ _; decide +kernel, by show yX11_order.cls ≠ _; decide +kernel, by show (parseMethodDescriptor yX11_order.desc).map (fun d => d.parameters.length) = _; decide +kernel⟩, big_mem 945 rfl rfl, big_mem 946 rfl rfl, rfl, rfl⟩
abbrev mX3_place : mMt := (yX3_place, cX3_place, 6, some .int, 4)
set_option maxRecDepth 100000 in
theorem cal_X3_place : CalV mX3_place 2 2 := ⟨⟨⟨big_mem 116 rfl rfl, big_mem 951 rfl rfl⟩, by show yX3_place.cls ≠ _; decide +kernel, by show yX3_place.cls ≠ _; decide +kernel, by show (parseMethodDescriptor yX3_place.desc).map (fun d => d.parameters.length) = _; decide +kernel⟩, big_mem 949 rfl rfl, big_mem 950 rfl rfl, rfl, rfl⟩
abbrev mX3_start : mMt := (yX3_start, cX3_start, 6, none, 3)
set_option maxRecDepth 100000 in
theorem cal_X3_start : CalV mX3_start 2 2 := ⟨⟨⟨big_mem 116 rfl rfl, big_mem 955 rfl rfl⟩, by show yX3_start.cls ≠ _; decide +kernel, by show yX3_start.cls ≠ _; decide +kernel, by show (parseMethodDescriptor yX3_start.desc).map (fun d => d.parameters.length) = _; decide +kernel⟩, big_mem 954 rfl rfl, big_mem 38 rfl rfl, rfl, rfl⟩
abbrev mX3_bestOf : mMt := (yX3_bestOf, cX3_bestOf, 4, some .int, 1)
set_option maxRecDepth 100000 in
theorem cal_X3_bestOf : CalV mX3_bestOf 1 2 := ⟨⟨⟨big_mem 116 rfl rfl, big_mem 961 rfl rfl⟩, by show yX3_bestOf.cls ≠ _; decide +kernel, by show yX3_bestOf.cls ≠ _; decide +kernel, by show (parseMethodDescriptor yX3_bestOf.desc).map (fun d => d.parameters.length) = _; decide +kernel⟩, big_mem 960 rfl rfl, big_mem 39 rfl rfl, rfl, rfl⟩
abbrev mX3_markSeen : mMt := (yX3_markSeen, cX3_markSeen, 7, none, 3)
set_option maxRecDepth 100000 in
theorem cal_X3_markSeen : CalV mX3_markSeen 3 2 := ⟨⟨⟨big_mem 116 rfl rfl, big_mem 966 rfl rfl⟩, by show yX3_markSeen.cls ≠ _; decide +kernel, by show yX3_markSeen.cls ≠ _; decide +kernel, by show (parseMethodDescriptor yX3_markSeen.desc).map (fun d => d.parameters.length) = _; decide +kernel⟩, big_mem 965 rfl rfl, big_mem 40 rfl rfl, rfl, rfl⟩
abbrev mX11_drawn : mMt := (yX11_drawn, cX11_drawn, 6, some .int, 66)
set_option maxRecDepth 100000 in
theorem cal_X11_drawn : CalV mX11_drawn 0 10 := ⟨⟨⟨big_mem 107 rfl rfl, big_mem 971 rfl rfl⟩, by show yX11_drawn.cls ≠ _; decide +kernel, by show yX11_drawn.cls ≠ _; decide +kernel, by show (parseMethodDescriptor yX11_drawn.desc).map (fun d => d.parameters.length) = _; decide +kernel⟩, big_mem 969 rfl rfl, big_mem 970 rfl rfl, rfl, rfl⟩
abbrev mJ6_bitCount_0f7a4 : mMt := (yJ6_bitCount_0f7a4, cJ6_bitCount_0f7a4, 1, some .int, 1)
set_option maxRecDepth 100000 in
theorem cal_J6_bitCount_0f7a4 : Cal mJ6_bitCount_0f7a4 1 := ⟨⟨big_mem 126 rfl rfl, big_mem 974 rfl rfl⟩, by show yJ6_bitCount_0f7a4.cls ≠ _; decide +kernel, by show yJ6_bitCount_0f7a4.cls ≠ _; decide +kernel, by show (parseMethodDescriptor yJ6_bitCount_0f7a4.desc).map (fun d => d.parameters.length) = _; decide +kernel⟩
set_option maxRecDepth 100000 in
theorem stc_J6_bitCount_0f7a4 : Cond.static yJ6_bitCount_0f7a4 ∈ BIG := big_mem 973 rfl rfl
abbrev mX11_drawOf : mMt := (yX11_drawOf, cX11_drawOf, 2, some .int, 1)
set_option maxRecDepth 100000 in
theorem cal_X11_drawOf : CalV mX11_drawOf 1 10 := ⟨⟨⟨big_mem 107 rfl rfl, big_mem 981 rfl rfl⟩, by show yX11_drawOf.cls ≠ _; decide +kernel, by show yX11_drawOf.cls ≠ _; decide +kernel, by show (parseMethodDescriptor yX11_drawOf.desc).map (fun d => d.parameters.length) = _; decide +kernel⟩, big_mem 980 rfl rfl, big_mem 41 rfl rfl, rfl, rfl⟩
abbrev mX4_digitsOf : mMt := (yX4_digitsOf, cX4_digitsOf, 4, some .int, 2)
set_option maxRecDepth 100000 in
theorem cal_X4_digitsOf : CalV mX4_digitsOf 1 3 := ⟨⟨⟨big_mem 110 rfl rfl, big_mem 988 rfl rfl⟩, by show yX4_digitsOf.cls ≠ _; decide +kernel, by show yX4_digitsOf.cls ≠ _; decide +kernel, by show (parseMethodDescriptor yX4_digitsOf.desc).map (fun d => d.parameters.length) = _; decide +kernel⟩, big_mem 986 rfl rfl, big_mem 987 rfl rfl, rfl, rfl⟩
abbrev mX11_draws : mMt := (yX11_draws, cX11_draws, 3, some .int, 1)
set_option maxRecDepth 100000 in
theorem cal_X11_draws : CalV mX11_draws 1 10 := ⟨⟨⟨big_mem 107 rfl rfl, big_mem 993 rfl rfl⟩, by show yX11_draws.cls ≠ _; decide +kernel, by show yX11_draws.cls ≠ _; decide +kernel, by show (parseMethodDescriptor yX11_draws.desc).map (fun d => d.parameters.length) = _; decide +kernel⟩, big_mem 991 rfl rfl, big_mem 992 rfl rfl, rfl, rfl⟩
abbrev mX11_gain : mMt := (yX11_gain, cX11_gain, 2, some .int, 4)
set_option maxRecDepth 100000 in
theorem cal_X11_gain : CalV mX11_gain 1 10 := ⟨⟨⟨big_mem 107 rfl rfl, big_mem 997 rfl rfl⟩, by show yX11_gain.cls ≠ _; decide +kernel, by show yX11_gain.cls ≠ _; decide +kernel, by show (parseMethodDescriptor yX11_gain.desc).map (fun d => d.parameters.length) = _; decide +kernel⟩, big_mem 995 rfl rfl, big_mem 996 rfl rfl, rfl, rfl⟩
abbrev mX11_least : mMt := (yX11_least, cX11_least, 1, some .int, 3)
set_option maxRecDepth 100000 in
theorem cal_X11_least : CalV mX11_least 0 10 := ⟨⟨⟨big_mem 107 rfl rfl, big_mem 1001 rfl rfl⟩, by show yX11_least.cls ≠ _; decide +kernel, by show yX11_least.cls ≠ _; decide +kernel, by show (parseMethodDescriptor yX11_least.desc).map (fun d => d.parameters.length) = _; decide +kernel⟩, big_mem 999 rfl rfl, big_mem 1000 rfl rfl, rfl, rfl⟩
abbrev mX2_mostOfOneSet : mMt := (yX2_mostOfOneSet, cX2_mostOfOneSet, 5, some .int, 2)
set_option maxRecDepth 100000 in
theorem cal_X2_mostOfOneSet : CalV mX2_mostOfOneSet 0 1 := ⟨⟨⟨big_mem 114 rfl rfl, big_mem 1005 rfl rfl⟩, by show yX2_mostOfOneSet.cls ≠ _; decide +kernel, by show yX2_mostOfOneSet.cls ≠ _; decide +kernel, by show (parseMethodDescriptor yX2_mostOfOneSet.desc).map (fun d => d.parameters.length) = _; decide +kernel⟩, big_mem 1003 rfl rfl, big_mem 1004 rfl rfl, rfl, rfl⟩
abbrev mX11_lawful : mMt := (yX11_lawful, cX11_lawful, 3, some .int, 64)
set_option maxRecDepth 100000 in
theorem cal_X11_lawful : CalV mX11_lawful 1 10 := ⟨⟨⟨big_mem 107 rfl rfl, big_mem 1009 rfl rfl⟩, by show yX11_lawful.cls ≠ _; decide +kernel, by show yX11_lawful.cls ≠ _; decide +kernel, by show (parseMethodDescriptor yX11_lawful.desc).map (fun d => d.parameters.length) = _; decide +kernel⟩, big_mem 1007 rfl rfl, big_mem 1008 rfl rfl, rfl, rfl⟩
abbrev mX4_lawfulIn (d : Nat) : mMt := (yX4_lawfulIn, cX4_lawfulIn, 5, some .int, d)
set_option maxRecDepth 100000 in
theorem cal_X4_lawfulIn (d : Nat) : Cal (mX4_lawfulIn d) 3 := ⟨⟨big_mem 110 rfl rfl, big_mem 1013 rfl rfl⟩, by show yX4_lawfulIn.cls ≠ _; decide +kernel, by show yX4_lawfulIn.cls ≠ _; decide +kernel, by show (parseMethodDescriptor yX4_lawfulIn.desc).map (fun d => d.parameters.length) = _; decide +kernel⟩
set_option maxRecDepth 100000 in
theorem stc_X4_lawfulIn : Cond.static yX4_lawfulIn ∈ BIG := big_mem 1012 rfl rfl
abbrev mX4_rowsIn : mMt := (yX4_rowsIn, cX4_rowsIn, 4, some .int, 2)
set_option maxRecDepth 100000 in
theorem cal_X4_rowsIn : CalV mX4_rowsIn 1 3 := ⟨⟨⟨big_mem 110 rfl rfl, big_mem 1017 rfl rfl⟩, by show yX4_rowsIn.cls ≠ _; decide +kernel, by show yX4_rowsIn.cls ≠ _; decide +kernel, by show (parseMethodDescriptor yX4_rowsIn.desc).map (fun d => d.parameters.length) = _; decide +kernel⟩, big_mem 1016 rfl rfl, big_mem 42 rfl rfl, rfl, rfl⟩
abbrev mX11_result : mMt := (yX11_result, cX11_result, 4, some .int, 5)
set_option maxRecDepth 100000 in
theorem cal_X11_result : CalV mX11_result 2 10 := ⟨⟨⟨big_mem 107 rfl rfl, big_mem 1023 rfl rfl⟩, by show yX11_result.cls ≠ _; decide +kernel, by show yX11_result.cls ≠ _; decide +kernel, by show (parseMethodDescriptor yX11_result.desc).map (fun d => d.parameters.length) = _; decide +kernel⟩, big_mem 1021 rfl rfl, big_mem 1022 rfl rfl, rfl, rfl⟩
abbrev mX11_guilty : mMt := (yX11_guilty, cX11_guilty, 3, some .int, 4)
set_option maxRecDepth 100000 in
theorem cal_X11_guilty : CalV mX11_guilty 2 10 := ⟨⟨⟨big_mem 107 rfl rfl, big_mem 1027 rfl rfl⟩, by show yX11_guilty.cls ≠ _; decide +kernel, by show yX11_guilty.cls ≠ _; decide +kernel, by show (parseMethodDescriptor yX11_guilty.desc).map (fun d => d.parameters.length) = _; decide +kernel⟩, big_mem 1025 rfl rfl, big_mem 1026 rfl rfl, rfl, rfl⟩
abbrev mX9_find : mMt := (yX9_find, cX9_find, 8, none, 3)
set_option maxRecDepth 100000 in
theorem cal_X9_find : CalV mX9_find 3 8 := ⟨⟨⟨big_mem 117 rfl rfl, big_mem 1031 rfl rfl⟩, by show yX9_find.cls ≠ _; decide +kernel, by show yX9_find.cls ≠ _; decide +kernel, by show (parseMethodDescriptor yX9_find.desc).map (fun d => d.parameters.length) = _; decide +kernel⟩, big_mem 1029 rfl rfl, big_mem 1030 rfl rfl, rfl, rfl⟩
abbrev mX7_toldAs : mMt := (yX7_toldAs, cX7_toldAs, 4, some .int, 1)
set_option maxRecDepth 100000 in
theorem cal_X7_toldAs : CalV mX7_toldAs 1 6 := ⟨⟨⟨big_mem 113 rfl rfl, big_mem 1035 rfl rfl⟩, by show yX7_toldAs.cls ≠ _; decide +kernel, by show yX7_toldAs.cls ≠ _; decide +kernel, by show (parseMethodDescriptor yX7_toldAs.desc).map (fun d => d.parameters.length) = _; decide +kernel⟩, big_mem 1033 rfl rfl, big_mem 1034 rfl rfl, rfl, rfl⟩
abbrev mX0_cellsIn : mMt := (yX0_cellsIn, cX0_cellsIn, 5, some .int, 1)
set_option maxRecDepth 100000 in
theorem cal_X0_cellsIn : CalV mX0_cellsIn 2 0 := ⟨⟨⟨big_mem 111 rfl rfl, big_mem 1041 rfl rfl⟩, by show yX0_cellsIn.cls ≠ _; decide +kernel, by show yX0_cellsIn.cls ≠ _; decide +kernel, by show (parseMethodDescriptor yX0_cellsIn.desc).map (fun d => d.parameters.length) = _; decide +kernel⟩, big_mem 1039 rfl rfl, big_mem 1040 rfl rfl, rfl, rfl⟩
abbrev mX9_passed : mMt := (yX9_passed, cX9_passed, 4, some .boolean, 1)
set_option maxRecDepth 100000 in
theorem cal_X9_passed : CalV mX9_passed 2 8 := ⟨⟨⟨big_mem 117 rfl rfl, big_mem 1045 rfl rfl⟩, by show yX9_passed.cls ≠ _; decide +kernel, by show yX9_passed.cls ≠ _; decide +kernel, by show (parseMethodDescriptor yX9_passed.desc).map (fun d => d.parameters.length) = _; decide +kernel⟩, big_mem 1044 rfl rfl, big_mem 43 rfl rfl, rfl, rfl⟩
abbrev mX11_ask : mMt := (yX11_ask, cX11_ask, 3, some .int, 4)
set_option maxRecDepth 100000 in
theorem cal_X11_ask : CalV mX11_ask 1 10 := ⟨⟨⟨big_mem 107 rfl rfl, big_mem 1049 rfl rfl⟩, by show yX11_ask.cls ≠ _; decide +kernel, by show yX11_ask.cls ≠ _; decide +kernel, by show (parseMethodDescriptor yX11_ask.desc).map (fun d => d.parameters.length) = _; decide +kernel⟩, big_mem 1047 rfl rfl, big_mem 1048 rfl rfl, rfl, rfl⟩
abbrev mX9_rowThatPartsBest : mMt := (yX9_rowThatPartsBest, cX9_rowThatPartsBest, 6, some .int, 3)
set_option maxRecDepth 100000 in
theorem cal_X9_rowThatPartsBest : CalV mX9_rowThatPartsBest 1 8 := ⟨⟨⟨big_mem 117 rfl rfl, big_mem 1053 rfl rfl⟩, by show yX9_rowThatPartsBest.cls ≠ _; decide +kernel, by show yX9_rowThatPartsBest.cls ≠ _; decide +kernel, by show (parseMethodDescriptor yX9_rowThatPartsBest.desc).map (fun d => d.parameters.length) = _; decide +kernel⟩, big_mem 1051 rfl rfl, big_mem 1052 rfl rfl, rfl, rfl⟩
abbrev mX9_lesserPart : mMt := (yX9_lesserPart, cX9_lesserPart, 4, some .int, 2)
set_option maxRecDepth 100000 in
theorem cal_X9_lesserPart : CalV mX9_lesserPart 1 8 := ⟨⟨⟨big_mem 117 rfl rfl, big_mem 1057 rfl rfl⟩, by show yX9_lesserPart.cls ≠ _; decide +kernel, by show yX9_lesserPart.cls ≠ _; decide +kernel, by show (parseMethodDescriptor yX9_lesserPart.desc).map (fun d => d.parameters.length) = _; decide +kernel⟩, big_mem 1055 rfl rfl, big_mem 1056 rfl rfl, rfl, rfl⟩
abbrev mX11_undo : mMt := (yX11_undo, cX11_undo, 1, some .int, 68)
set_option maxRecDepth 100000 in
theorem cal_X11_undo : CalV mX11_undo 0 10 := ⟨⟨⟨big_mem 107 rfl rfl, big_mem 1063 rfl rfl⟩, by show yX11_undo.cls ≠ _; decide +kernel, by show yX11_undo.cls ≠ _; decide +kernel, by show (parseMethodDescriptor yX11_undo.desc).map (fun d => d.parameters.length) = _; decide +kernel⟩, big_mem 1061 rfl rfl, big_mem 1062 rfl rfl, rfl, rfl⟩
abbrev mX11_restore : mMt := (yX11_restore, cX11_restore, 3, none, 67)
set_option maxRecDepth 100000 in
theorem cal_X11_restore : CalV mX11_restore 1 10 := ⟨⟨⟨big_mem 107 rfl rfl, big_mem 1067 rfl rfl⟩, by show yX11_restore.cls ≠ _; decide +kernel, by show yX11_restore.cls ≠ _; decide +kernel, by show (parseMethodDescriptor yX11_restore.desc).map (fun d => d.parameters.length) = _; decide +kernel⟩, big_mem 1066 rfl rfl, big_mem 44 rfl rfl, rfl, rfl⟩
abbrev mX4_sameAs : mMt := (yX4_sameAs, cX4_sameAs, 4, some .boolean, 1)
set_option maxRecDepth 100000 in
theorem cal_X4_sameAs : CalV mX4_sameAs 1 3 := ⟨⟨⟨big_mem 110 rfl rfl, big_mem 1071 rfl rfl⟩, by show yX4_sameAs.cls ≠ _; decide +kernel, by show yX4_sameAs.cls ≠ _; decide +kernel, by show (parseMethodDescriptor yX4_sameAs.desc).map (fun d => d.parameters.length) = _; decide +kernel⟩, big_mem 1069 rfl rfl, big_mem 1070 rfl rfl, rfl, rfl⟩
abbrev mX11_keep : mMt := (yX11_keep, cX11_keep, 2, some .int, 4)
set_option maxRecDepth 100000 in
theorem cal_X11_keep : CalV mX11_keep 1 10 := ⟨⟨⟨big_mem 107 rfl rfl, big_mem 1075 rfl rfl⟩, by show yX11_keep.cls ≠ _; decide +kernel, by show yX11_keep.cls ≠ _; decide +kernel, by show (parseMethodDescriptor yX11_keep.desc).map (fun d => d.parameters.length) = _; decide +kernel⟩, big_mem 1073 rfl rfl, big_mem 1074 rfl rfl, rfl, rfl⟩
abbrev mX11_back : mMt := (yX11_back, cX11_back, 2, some .int, 68)
set_option maxRecDepth 100000 in
theorem cal_X11_back : CalV mX11_back 1 10 := ⟨⟨⟨big_mem 107 rfl rfl, big_mem 1079 rfl rfl⟩, by show yX11_back.cls ≠ _; decide +kernel, by show yX11_back.cls ≠ _; decide +kernel, by show (parseMethodDescriptor yX11_back.desc).map (fun d => d.parameters.length) = _; decide +kernel⟩, big_mem 1077 rfl rfl, big_mem 1078 rfl rfl, rfl, rfl⟩
abbrev mX11_count : mMt := (yX11_count, cX11_count, 2, some .int, 4)
set_option maxRecDepth 100000 in
theorem cal_X11_count : CalV mX11_count 1 10 := ⟨⟨⟨big_mem 107 rfl rfl, big_mem 1083 rfl rfl⟩, by show yX11_count.cls ≠ _; decide +kernel, by show yX11_count.cls ≠ _; decide +kernel, by show (parseMethodDescriptor yX11_count.desc).map (fun d => d.parameters.length) = _; decide +kernel⟩, big_mem 1081 rfl rfl, big_mem 1082 rfl rfl, rfl, rfl⟩
abbrev mX7_wholeOnes : mMt := (yX7_wholeOnes, cX7_wholeOnes, 4, some .int, 2)
set_option maxRecDepth 100000 in
theorem cal_X7_wholeOnes : CalV mX7_wholeOnes 1 6 := ⟨⟨⟨big_mem 113 rfl rfl, big_mem 1087 rfl rfl⟩, by show yX7_wholeOnes.cls ≠ _; decide +kernel, by show yX7_wholeOnes.cls ≠ _; decide +kernel, by show (parseMethodDescriptor yX7_wholeOnes.desc).map (fun d => d.parameters.length) = _; decide +kernel⟩, big_mem 1085 rfl rfl, big_mem 1086 rfl rfl, rfl, rfl⟩
abbrev mX7_freeCells : mMt := (yX7_freeCells, cX7_freeCells, 4, some .int, 2)
set_option maxRecDepth 100000 in
theorem cal_X7_freeCells : CalV mX7_freeCells 1 6 := ⟨⟨⟨big_mem 113 rfl rfl, big_mem 1092 rfl rfl⟩, by show yX7_freeCells.cls ≠ _; decide +kernel, by show yX7_freeCells.cls ≠ _; decide +kernel, by show (parseMethodDescriptor yX7_freeCells.desc).map (fun d => d.parameters.length) = _; decide +kernel⟩, big_mem 1090 rfl rfl, big_mem 1091 rfl rfl, rfl, rfl⟩
abbrev mX12_init : mMt := (yX12_init, cX12_init, 1, none, 2)
set_option maxRecDepth 100000 in
theorem cal0_X12_init : Cal mX12_init 0 ∧ Cond.instanceMethod yX12_init ∈ BIG := ⟨⟨⟨big_mem 118 rfl rfl, big_mem 1098 rfl rfl⟩, by show yX12_init.cls ≠ _; decide +kernel, by show yX12_init.cls ≠ _; decide +kernel, by show (parseMethodDescriptor yX12_init.desc).map (fun d => d.parameters.length) = _; decide +kernel⟩, big_mem 1097 rfl rfl⟩
abbrev mX12_feed : mMt := (yX12_feed, cX12_feed, 8, some .int, 1)
set_option maxRecDepth 100000 in
theorem cal_X12_feed : CalV mX12_feed 5 11 := ⟨⟨⟨big_mem 118 rfl rfl, big_mem 1185 rfl rfl⟩, by show yX12_feed.cls ≠ _; decide +kernel, by show yX12_feed.cls ≠ _; decide +kernel, by show (parseMethodDescriptor yX12_feed.desc).map (fun d => d.parameters.length) = _; decide +kernel⟩, big_mem 1183 rfl rfl, big_mem 1184 rfl rfl, rfl, rfl⟩
abbrev mX12_end : mMt := (yX12_end, cX12_end, 2, some .int, 2)
set_option maxRecDepth 100000 in
theorem cal_X12_end : CalV mX12_end 1 11 := ⟨⟨⟨big_mem 118 rfl rfl, big_mem 1189 rfl rfl⟩, by show yX12_end.cls ≠ _; decide +kernel, by show yX12_end.cls ≠ _; decide +kernel, by show (parseMethodDescriptor yX12_end.desc).map (fun d => d.parameters.length) = _; decide +kernel⟩, big_mem 1187 rfl rfl, big_mem 1188 rfl rfl, rfl, rfl⟩
abbrev mX12_isIn : mMt := (yX12_isIn, cX12_isIn, 6, some .boolean, 1)
set_option maxRecDepth 100000 in
theorem cal_X12_isIn : Cal mX12_isIn 3 := ⟨⟨big_mem 118 rfl rfl, big_mem 1192 rfl rfl⟩, by show yX12_isIn.cls ≠ _; decide +kernel, by show yX12_isIn.cls ≠ _; decide +kernel, by show (parseMethodDescriptor yX12_isIn.desc).map (fun d => d.parameters.length) = _; decide +kernel⟩
set_option maxRecDepth 100000 in
theorem stc_X12_isIn : Cond.static yX12_isIn ∈ BIG := big_mem 1191 rfl rfl
abbrev mX12_plan : mMt := (yX12_plan, cX12_plan, 4, some .int, 7)
set_option maxRecDepth 100000 in
theorem cal_X12_plan : CalV mX12_plan 0 11 := ⟨⟨⟨big_mem 118 rfl rfl, big_mem 1196 rfl rfl⟩, by show yX12_plan.cls ≠ _; decide +kernel, by show yX12_plan.cls ≠ _; decide +kernel, by show (parseMethodDescriptor yX12_plan.desc).map (fun d => d.parameters.length) = _; decide +kernel⟩, big_mem 1194 rfl rfl, big_mem 1195 rfl rfl, rfl, rfl⟩
abbrev mX12_readsAll : mMt := (yX12_readsAll, cX12_readsAll, 2, some .boolean, 6)
set_option maxRecDepth 100000 in
theorem cal_X12_readsAll : CalV mX12_readsAll 0 11 := ⟨⟨⟨big_mem 118 rfl rfl, big_mem 1200 rfl rfl⟩, by show yX12_readsAll.cls ≠ _; decide +kernel, by show yX12_readsAll.cls ≠ _; decide +kernel, by show (parseMethodDescriptor yX12_readsAll.desc).map (fun d => d.parameters.length) = _; decide +kernel⟩, big_mem 1199 rfl rfl, big_mem 45 rfl rfl, rfl, rfl⟩
abbrev mX12_wordHere : mMt := (yX12_wordHere, cX12_wordHere, 3, some .int, 3)
set_option maxRecDepth 100000 in
theorem cal_X12_wordHere : CalV mX12_wordHere 0 11 := ⟨⟨⟨big_mem 118 rfl rfl, big_mem 1204 rfl rfl⟩, by show yX12_wordHere.cls ≠ _; decide +kernel, by show yX12_wordHere.cls ≠ _; decide +kernel, by show (parseMethodDescriptor yX12_wordHere.desc).map (fun d => d.parameters.length) = _; decide +kernel⟩, big_mem 1203 rfl rfl, big_mem 46 rfl rfl, rfl, rfl⟩
abbrev mX12_next : mMt := (yX12_next, cX12_next, 1, some .int, 2)
set_option maxRecDepth 100000 in
theorem cal_X12_next : CalV mX12_next 0 11 := ⟨⟨⟨big_mem 118 rfl rfl, big_mem 1208 rfl rfl⟩, by show yX12_next.cls ≠ _; decide +kernel, by show yX12_next.cls ≠ _; decide +kernel, by show (parseMethodDescriptor yX12_next.desc).map (fun d => d.parameters.length) = _; decide +kernel⟩, big_mem 1207 rfl rfl, big_mem 47 rfl rfl, rfl, rfl⟩
abbrev mX12_byteAt : mMt := (yX12_byteAt, cX12_byteAt, 2, some .int, 1)
set_option maxRecDepth 100000 in
theorem cal_X12_byteAt : CalV mX12_byteAt 1 11 := ⟨⟨⟨big_mem 118 rfl rfl, big_mem 1212 rfl rfl⟩, by show yX12_byteAt.cls ≠ _; decide +kernel, by show yX12_byteAt.cls ≠ _; decide +kernel, by show (parseMethodDescriptor yX12_byteAt.desc).map (fun d => d.parameters.length) = _; decide +kernel⟩, big_mem 1211 rfl rfl, big_mem 48 rfl rfl, rfl, rfl⟩
abbrev mX12_fails : mMt := (yX12_fails, cX12_fails, 3, some .boolean, 1)
set_option maxRecDepth 100000 in
theorem cal_X12_fails : CalV mX12_fails 2 11 := ⟨⟨⟨big_mem 118 rfl rfl, big_mem 1218 rfl rfl⟩, by show yX12_fails.cls ≠ _; decide +kernel, by show yX12_fails.cls ≠ _; decide +kernel, by show (parseMethodDescriptor yX12_fails.desc).map (fun d => d.parameters.length) = _; decide +kernel⟩, big_mem 1217 rfl rfl, big_mem 49 rfl rfl, rfl, rfl⟩
abbrev mX12_readsLevels : mMt := (yX12_readsLevels, cX12_readsLevels, 2, some .boolean, 5)
set_option maxRecDepth 100000 in
theorem cal_X12_readsLevels : CalV mX12_readsLevels 0 11 := ⟨⟨⟨big_mem 118 rfl rfl, big_mem 1222 rfl rfl⟩, by show yX12_readsLevels.cls ≠ _; decide +kernel, by show yX12_readsLevels.cls ≠ _; decide +kernel, by show (parseMethodDescriptor yX12_readsLevels.desc).map (fun d => d.parameters.length) = _; decide +kernel⟩, big_mem 1221 rfl rfl, big_mem 50 rfl rfl, rfl, rfl⟩
abbrev mX12_passesWord : mMt := (yX12_passesWord, cX12_passesWord, 1, none, 2)
set_option maxRecDepth 100000 in
theorem cal_X12_passesWord : CalV mX12_passesWord 0 11 := ⟨⟨⟨big_mem 118 rfl rfl, big_mem 1226 rfl rfl⟩, by show yX12_passesWord.cls ≠ _; decide +kernel, by show yX12_passesWord.cls ≠ _; decide +kernel, by show (parseMethodDescriptor yX12_passesWord.desc).map (fun d => d.parameters.length) = _; decide +kernel⟩, big_mem 1225 rfl rfl, big_mem 51 rfl rfl, rfl, rfl⟩
abbrev mX12_isNumber : mMt := (yX12_isNumber, cX12_isNumber, 1, some .boolean, 3)
set_option maxRecDepth 100000 in
theorem cal_X12_isNumber : CalV mX12_isNumber 0 11 := ⟨⟨⟨big_mem 118 rfl rfl, big_mem 1230 rfl rfl⟩, by show yX12_isNumber.cls ≠ _; decide +kernel, by show yX12_isNumber.cls ≠ _; decide +kernel, by show (parseMethodDescriptor yX12_isNumber.desc).map (fun d => d.parameters.length) = _; decide +kernel⟩, big_mem 1229 rfl rfl, big_mem 52 rfl rfl, rfl, rfl⟩
abbrev mX12_readsNumber : mMt := (yX12_readsNumber, cX12_readsNumber, 3, some .boolean, 4)
set_option maxRecDepth 100000 in
theorem cal_X12_readsNumber : CalV mX12_readsNumber 0 11 := ⟨⟨⟨big_mem 118 rfl rfl, big_mem 1236 rfl rfl⟩, by show yX12_readsNumber.cls ≠ _; decide +kernel, by show yX12_readsNumber.cls ≠ _; decide +kernel, by show (parseMethodDescriptor yX12_readsNumber.desc).map (fun d => d.parameters.length) = _; decide +kernel⟩, big_mem 1235 rfl rfl, big_mem 53 rfl rfl, rfl, rfl⟩
abbrev mX12_readsStrength : mMt := (yX12_readsStrength, cX12_readsStrength, 1, some .boolean, 5)
set_option maxRecDepth 100000 in
theorem cal_X12_readsStrength : CalV mX12_readsStrength 0 11 := ⟨⟨⟨big_mem 118 rfl rfl, big_mem 1244 rfl rfl⟩, by show yX12_readsStrength.cls ≠ _; decide +kernel, by show yX12_readsStrength.cls ≠ _; decide +kernel, by show (parseMethodDescriptor yX12_readsStrength.desc).map (fun d => d.parameters.length) = _; decide +kernel⟩, big_mem 1243 rfl rfl, big_mem 54 rfl rfl, rfl, rfl⟩
abbrev mX12_readsNever : mMt := (yX12_readsNever, cX12_readsNever, 5, some .boolean, 5)
set_option maxRecDepth 100000 in
theorem cal_X12_readsNever : CalV mX12_readsNever 0 11 := ⟨⟨⟨big_mem 118 rfl rfl, big_mem 1249 rfl rfl⟩, by show yX12_readsNever.cls ≠ _; decide +kernel, by show yX12_readsNever.cls ≠ _; decide +kernel, by show (parseMethodDescriptor yX12_readsNever.desc).map (fun d => d.parameters.length) = _; decide +kernel⟩, big_mem 1248 rfl rfl, big_mem 55 rfl rfl, rfl, rfl⟩
abbrev mX12_hasColumn : mMt := (yX12_hasColumn, cX12_hasColumn, 5, some .boolean, 1)
set_option maxRecDepth 100000 in
theorem cal_X12_hasColumn : CalV mX12_hasColumn 3 11 := ⟨⟨⟨big_mem 118 rfl rfl, big_mem 1253 rfl rfl⟩, by show yX12_hasColumn.cls ≠ _; decide +kernel, by show yX12_hasColumn.cls ≠ _; decide +kernel, by show (parseMethodDescriptor yX12_hasColumn.desc).map (fun d => d.parameters.length) = _; decide +kernel⟩, big_mem 1252 rfl rfl, big_mem 56 rfl rfl, rfl, rfl⟩
abbrev mX12_copies : mMt := (yX12_copies, cX12_copies, 5, none, 1)
set_option maxRecDepth 100000 in
theorem cal_X12_copies : Cal mX12_copies 4 := ⟨⟨big_mem 118 rfl rfl, big_mem 1256 rfl rfl⟩, by show yX12_copies.cls ≠ _; decide +kernel, by show yX12_copies.cls ≠ _; decide +kernel, by show (parseMethodDescriptor yX12_copies.desc).map (fun d => d.parameters.length) = _; decide +kernel⟩
set_option maxRecDepth 100000 in
theorem stc_X12_copies : Cond.static yX12_copies ∈ BIG := big_mem 1255 rfl rfl
abbrev mX12_mixMany : mMt := (yX12_mixMany, cX12_mixMany, 5, some .int, 1)
set_option maxRecDepth 100000 in
theorem cal_X12_mixMany : CalV mX12_mixMany 0 11 := ⟨⟨⟨big_mem 118 rfl rfl, big_mem 1260 rfl rfl⟩, by show yX12_mixMany.cls ≠ _; decide +kernel, by show yX12_mixMany.cls ≠ _; decide +kernel, by show (parseMethodDescriptor yX12_mixMany.desc).map (fun d => d.parameters.length) = _; decide +kernel⟩, big_mem 1259 rfl rfl, big_mem 57 rfl rfl, rfl, rfl⟩
abbrev mX12_laysMixes : mMt := (yX12_laysMixes, cX12_laysMixes, 6, none, 5)
set_option maxRecDepth 100000 in
theorem cal_X12_laysMixes : CalV mX12_laysMixes 0 11 := ⟨⟨⟨big_mem 118 rfl rfl, big_mem 1264 rfl rfl⟩, by show yX12_laysMixes.cls ≠ _; decide +kernel, by show yX12_laysMixes.cls ≠ _; decide +kernel, by show (parseMethodDescriptor yX12_laysMixes.desc).map (fun d => d.parameters.length) = _; decide +kernel⟩, big_mem 1263 rfl rfl, big_mem 58 rfl rfl, rfl, rfl⟩
abbrev mX12_beginsSet : mMt := (yX12_beginsSet, cX12_beginsSet, 3, none, 1)
set_option maxRecDepth 100000 in
theorem cal_X12_beginsSet : CalV mX12_beginsSet 1 11 := ⟨⟨⟨big_mem 118 rfl rfl, big_mem 1268 rfl rfl⟩, by show yX12_beginsSet.cls ≠ _; decide +kernel, by show yX12_beginsSet.cls ≠ _; decide +kernel, by show (parseMethodDescriptor yX12_beginsSet.desc).map (fun d => d.parameters.length) = _; decide +kernel⟩, big_mem 1267 rfl rfl, big_mem 59 rfl rfl, rfl, rfl⟩
abbrev mX12_levelsOfSet : mMt := (yX12_levelsOfSet, cX12_levelsOfSet, 4, some .int, 1)
set_option maxRecDepth 100000 in
theorem cal_X12_levelsOfSet : CalV mX12_levelsOfSet 1 11 := ⟨⟨⟨big_mem 118 rfl rfl, big_mem 1272 rfl rfl⟩, by show yX12_levelsOfSet.cls ≠ _; decide +kernel, by show yX12_levelsOfSet.cls ≠ _; decide +kernel, by show (parseMethodDescriptor yX12_levelsOfSet.desc).map (fun d => d.parameters.length) = _; decide +kernel⟩, big_mem 1271 rfl rfl, big_mem 60 rfl rfl, rfl, rfl⟩
abbrev mX12_levelOf : mMt := (yX12_levelOf, cX12_levelOf, 6, some .int, 1)
set_option maxRecDepth 100000 in
theorem cal_X12_levelOf : CalV mX12_levelOf 3 11 := ⟨⟨⟨big_mem 118 rfl rfl, big_mem 1276 rfl rfl⟩, by show yX12_levelOf.cls ≠ _; decide +kernel, by show yX12_levelOf.cls ≠ _; decide +kernel, by show (parseMethodDescriptor yX12_levelOf.desc).map (fun d => d.parameters.length) = _; decide +kernel⟩, big_mem 1275 rfl rfl, big_mem 61 rfl rfl, rfl, rfl⟩
abbrev mX12_nextSet : mMt := (yX12_nextSet, cX12_nextSet, 4, some .boolean, 1)
set_option maxRecDepth 100000 in
theorem cal_X12_nextSet : CalV mX12_nextSet 1 11 := ⟨⟨⟨big_mem 118 rfl rfl, big_mem 1280 rfl rfl⟩, by show yX12_nextSet.cls ≠ _; decide +kernel, by show yX12_nextSet.cls ≠ _; decide +kernel, by show (parseMethodDescriptor yX12_nextSet.desc).map (fun d => d.parameters.length) = _; decide +kernel⟩, big_mem 1279 rfl rfl, big_mem 62 rfl rfl, rfl, rfl⟩
abbrev mX12_canProbe : mMt := (yX12_canProbe, cX12_canProbe, 1, some .boolean, 4)
set_option maxRecDepth 100000 in
theorem cal_X12_canProbe : CalV mX12_canProbe 0 11 := ⟨⟨⟨big_mem 118 rfl rfl, big_mem 1284 rfl rfl⟩, by show yX12_canProbe.cls ≠ _; decide +kernel, by show yX12_canProbe.cls ≠ _; decide +kernel, by show (parseMethodDescriptor yX12_canProbe.desc).map (fun d => d.parameters.length) = _; decide +kernel⟩, big_mem 1283 rfl rfl, big_mem 63 rfl rfl, rfl, rfl⟩
abbrev mX12_fillings : mMt := (yX12_fillings, cX12_fillings, 5, some .int, 3)
set_option maxRecDepth 100000 in
theorem cal_X12_fillings : CalV mX12_fillings 1 11 := ⟨⟨⟨big_mem 118 rfl rfl, big_mem 1288 rfl rfl⟩, by show yX12_fillings.cls ≠ _; decide +kernel, by show yX12_fillings.cls ≠ _; decide +kernel, by show (parseMethodDescriptor yX12_fillings.desc).map (fun d => d.parameters.length) = _; decide +kernel⟩, big_mem 1287 rfl rfl, big_mem 64 rfl rfl, rfl, rfl⟩
abbrev mX12_nextLevel : mMt := (yX12_nextLevel, cX12_nextLevel, 2, some .int, 1)
set_option maxRecDepth 100000 in
theorem cal_X12_nextLevel : CalV mX12_nextLevel 1 11 := ⟨⟨⟨big_mem 118 rfl rfl, big_mem 1292 rfl rfl⟩, by show yX12_nextLevel.cls ≠ _; decide +kernel, by show yX12_nextLevel.cls ≠ _; decide +kernel, by show (parseMethodDescriptor yX12_nextLevel.desc).map (fun d => d.parameters.length) = _; decide +kernel⟩, big_mem 1291 rfl rfl, big_mem 65 rfl rfl, rfl, rfl⟩
abbrev mX12_breaks : mMt := (yX12_breaks, cX12_breaks, 7, some .boolean, 2)
set_option maxRecDepth 100000 in
theorem cal_X12_breaks : CalV mX12_breaks 1 11 := ⟨⟨⟨big_mem 118 rfl rfl, big_mem 1296 rfl rfl⟩, by show yX12_breaks.cls ≠ _; decide +kernel, by show yX12_breaks.cls ≠ _; decide +kernel, by show (parseMethodDescriptor yX12_breaks.desc).map (fun d => d.parameters.length) = _; decide +kernel⟩, big_mem 1295 rfl rfl, big_mem 66 rfl rfl, rfl, rfl⟩
abbrev mX12_never : mMt := (yX12_never, cX12_never, 3, some .int, 1)
set_option maxRecDepth 100000 in
theorem cal_X12_never : CalV mX12_never 2 11 := ⟨⟨⟨big_mem 118 rfl rfl, big_mem 1300 rfl rfl⟩, by show yX12_never.cls ≠ _; decide +kernel, by show yX12_never.cls ≠ _; decide +kernel, by show (parseMethodDescriptor yX12_never.desc).map (fun d => d.parameters.length) = _; decide +kernel⟩, big_mem 1299 rfl rfl, big_mem 67 rfl rfl, rfl, rfl⟩
abbrev mX12_levels : mMt := (yX12_levels, cX12_levels, 2, some .int, 2)
set_option maxRecDepth 100000 in
theorem cal_X12_levels : CalV mX12_levels 1 11 := ⟨⟨⟨big_mem 118 rfl rfl, big_mem 1304 rfl rfl⟩, by show yX12_levels.cls ≠ _; decide +kernel, by show yX12_levels.cls ≠ _; decide +kernel, by show (parseMethodDescriptor yX12_levels.desc).map (fun d => d.parameters.length) = _; decide +kernel⟩, big_mem 1302 rfl rfl, big_mem 1303 rfl rfl, rfl, rfl⟩
abbrev mX12_isColumn : mMt := (yX12_isColumn, cX12_isColumn, 2, some .boolean, 1)
set_option maxRecDepth 100000 in
theorem cal_X12_isColumn : CalV mX12_isColumn 1 11 := ⟨⟨⟨big_mem 118 rfl rfl, big_mem 1308 rfl rfl⟩, by show yX12_isColumn.cls ≠ _; decide +kernel, by show yX12_isColumn.cls ≠ _; decide +kernel, by show (parseMethodDescriptor yX12_isColumn.desc).map (fun d => d.parameters.length) = _; decide +kernel⟩, big_mem 1307 rfl rfl, big_mem 68 rfl rfl, rfl, rfl⟩
abbrev mX12_mix : mMt := (yX12_mix, cX12_mix, 4, some .int, 4)
set_option maxRecDepth 100000 in
theorem cal_X12_mix : CalV mX12_mix 2 11 := ⟨⟨⟨big_mem 118 rfl rfl, big_mem 1312 rfl rfl⟩, by show yX12_mix.cls ≠ _; decide +kernel, by show yX12_mix.cls ≠ _; decide +kernel, by show (parseMethodDescriptor yX12_mix.desc).map (fun d => d.parameters.length) = _; decide +kernel⟩, big_mem 1310 rfl rfl, big_mem 1311 rfl rfl, rfl, rfl⟩
abbrev mX12_isPlan : mMt := (yX12_isPlan, cX12_isPlan, 1, some .boolean, 1)
set_option maxRecDepth 100000 in
theorem cal_X12_isPlan : CalV mX12_isPlan 0 11 := ⟨⟨⟨big_mem 118 rfl rfl, big_mem 1316 rfl rfl⟩, by show yX12_isPlan.cls ≠ _; decide +kernel, by show yX12_isPlan.cls ≠ _; decide +kernel, by show (parseMethodDescriptor yX12_isPlan.desc).map (fun d => d.parameters.length) = _; decide +kernel⟩, big_mem 1315 rfl rfl, big_mem 69 rfl rfl, rfl, rfl⟩
abbrev mX12_rowsWith : mMt := (yX12_rowsWith, cX12_rowsWith, 6, some .int, 3)
set_option maxRecDepth 100000 in
theorem cal_X12_rowsWith : CalV mX12_rowsWith 3 11 := ⟨⟨⟨big_mem 118 rfl rfl, big_mem 1321 rfl rfl⟩, by show yX12_rowsWith.cls ≠ _; decide +kernel, by show yX12_rowsWith.cls ≠ _; decide +kernel, by show (parseMethodDescriptor yX12_rowsWith.desc).map (fun d => d.parameters.length) = _; decide +kernel⟩, big_mem 1320 rfl rfl, big_mem 70 rfl rfl, rfl, rfl⟩
abbrev mX12_hasMix : mMt := (yX12_hasMix, cX12_hasMix, 4, some .boolean, 2)
set_option maxRecDepth 100000 in
theorem cal_X12_hasMix : CalV mX12_hasMix 2 11 := ⟨⟨⟨big_mem 118 rfl rfl, big_mem 1325 rfl rfl⟩, by show yX12_hasMix.cls ≠ _; decide +kernel, by show yX12_hasMix.cls ≠ _; decide +kernel, by show (parseMethodDescriptor yX12_hasMix.desc).map (fun d => d.parameters.length) = _; decide +kernel⟩, big_mem 1324 rfl rfl, big_mem 71 rfl rfl, rfl, rfl⟩
abbrev mX12_cellAt : mMt := (yX12_cellAt, cX12_cellAt, 3, some .int, 1)
set_option maxRecDepth 100000 in
theorem cal_X12_cellAt : CalV mX12_cellAt 2 11 := ⟨⟨⟨big_mem 118 rfl rfl, big_mem 1329 rfl rfl⟩, by show yX12_cellAt.cls ≠ _; decide +kernel, by show yX12_cellAt.cls ≠ _; decide +kernel, by show (parseMethodDescriptor yX12_cellAt.desc).map (fun d => d.parameters.length) = _; decide +kernel⟩, big_mem 1328 rfl rfl, big_mem 72 rfl rfl, rfl, rfl⟩
abbrev mX12_firstWith : mMt := (yX12_firstWith, cX12_firstWith, 3, some .int, 3)
set_option maxRecDepth 100000 in
theorem cal_X12_firstWith : CalV mX12_firstWith 1 11 := ⟨⟨⟨big_mem 118 rfl rfl, big_mem 1333 rfl rfl⟩, by show yX12_firstWith.cls ≠ _; decide +kernel, by show yX12_firstWith.cls ≠ _; decide +kernel, by show (parseMethodDescriptor yX12_firstWith.desc).map (fun d => d.parameters.length) = _; decide +kernel⟩, big_mem 1332 rfl rfl, big_mem 73 rfl rfl, rfl, rfl⟩
abbrev mX12_add : mMt := (yX12_add, cX12_add, 2, some .int, 5)
set_option maxRecDepth 100000 in
theorem cal_X12_add : CalV mX12_add 1 11 := ⟨⟨⟨big_mem 118 rfl rfl, big_mem 1337 rfl rfl⟩, by show yX12_add.cls ≠ _; decide +kernel, by show yX12_add.cls ≠ _; decide +kernel, by show (parseMethodDescriptor yX12_add.desc).map (fun d => d.parameters.length) = _; decide +kernel⟩, big_mem 1335 rfl rfl, big_mem 1336 rfl rfl, rfl, rfl⟩
abbrev mX12_isGiven : mMt := (yX12_isGiven, cX12_isGiven, 2, some .boolean, 2)
set_option maxRecDepth 100000 in
theorem cal_X12_isGiven : CalV mX12_isGiven 1 11 := ⟨⟨⟨big_mem 118 rfl rfl, big_mem 1341 rfl rfl⟩, by show yX12_isGiven.cls ≠ _; decide +kernel, by show yX12_isGiven.cls ≠ _; decide +kernel, by show (parseMethodDescriptor yX12_isGiven.desc).map (fun d => d.parameters.length) = _; decide +kernel⟩, big_mem 1340 rfl rfl, big_mem 74 rfl rfl, rfl, rfl⟩
abbrev mX12_reads : mMt := (yX12_reads, cX12_reads, 5, some .boolean, 1)
set_option maxRecDepth 100000 in
theorem cal_X12_reads : CalV mX12_reads 1 11 := ⟨⟨⟨big_mem 118 rfl rfl, big_mem 1345 rfl rfl⟩, by show yX12_reads.cls ≠ _; decide +kernel, by show yX12_reads.cls ≠ _; decide +kernel, by show (parseMethodDescriptor yX12_reads.desc).map (fun d => d.parameters.length) = _; decide +kernel⟩, big_mem 1344 rfl rfl, big_mem 75 rfl rfl, rfl, rfl⟩
abbrev mX12_probes : mMt := (yX12_probes, cX12_probes, 3, none, 1)
set_option maxRecDepth 100000 in
theorem cal_X12_probes : CalV mX12_probes 1 11 := ⟨⟨⟨big_mem 118 rfl rfl, big_mem 1349 rfl rfl⟩, by show yX12_probes.cls ≠ _; decide +kernel, by show yX12_probes.cls ≠ _; decide +kernel, by show (parseMethodDescriptor yX12_probes.desc).map (fun d => d.parameters.length) = _; decide +kernel⟩, big_mem 1348 rfl rfl, big_mem 76 rfl rfl, rfl, rfl⟩
abbrev mX12_keepsAct : mMt := (yX12_keepsAct, cX12_keepsAct, 2, none, 2)
set_option maxRecDepth 100000 in
theorem cal_X12_keepsAct : CalV mX12_keepsAct 0 11 := ⟨⟨⟨big_mem 118 rfl rfl, big_mem 1353 rfl rfl⟩, by show yX12_keepsAct.cls ≠ _; decide +kernel, by show yX12_keepsAct.cls ≠ _; decide +kernel, by show (parseMethodDescriptor yX12_keepsAct.desc).map (fun d => d.parameters.length) = _; decide +kernel⟩, big_mem 1352 rfl rfl, big_mem 77 rfl rfl, rfl, rfl⟩
abbrev mX12_comes : mMt := (yX12_comes, cX12_comes, 4, none, 1)
set_option maxRecDepth 100000 in
theorem cal_X12_comes : CalV mX12_comes 1 11 := ⟨⟨⟨big_mem 118 rfl rfl, big_mem 1357 rfl rfl⟩, by show yX12_comes.cls ≠ _; decide +kernel, by show yX12_comes.cls ≠ _; decide +kernel, by show (parseMethodDescriptor yX12_comes.desc).map (fun d => d.parameters.length) = _; decide +kernel⟩, big_mem 1356 rfl rfl, big_mem 78 rfl rfl, rfl, rfl⟩
abbrev mX12_tell : mMt := (yX12_tell, cX12_tell, 5, some .int, 5)
set_option maxRecDepth 100000 in
theorem cal_X12_tell : CalV mX12_tell 3 11 := ⟨⟨⟨big_mem 118 rfl rfl, big_mem 1361 rfl rfl⟩, by show yX12_tell.cls ≠ _; decide +kernel, by show yX12_tell.cls ≠ _; decide +kernel, by show (parseMethodDescriptor yX12_tell.desc).map (fun d => d.parameters.length) = _; decide +kernel⟩, big_mem 1359 rfl rfl, big_mem 1360 rfl rfl, rfl, rfl⟩
abbrev mX12_isRow : mMt := (yX12_isRow, cX12_isRow, 2, some .boolean, 1)
set_option maxRecDepth 100000 in
theorem cal_X12_isRow : CalV mX12_isRow 1 11 := ⟨⟨⟨big_mem 118 rfl rfl, big_mem 1365 rfl rfl⟩, by show yX12_isRow.cls ≠ _; decide +kernel, by show yX12_isRow.cls ≠ _; decide +kernel, by show (parseMethodDescriptor yX12_isRow.desc).map (fun d => d.parameters.length) = _; decide +kernel⟩, big_mem 1364 rfl rfl, big_mem 79 rfl rfl, rfl, rfl⟩
abbrev mX12_probesRow : mMt := (yX12_probesRow, cX12_probesRow, 3, none, 2)
set_option maxRecDepth 100000 in
theorem cal_X12_probesRow : CalV mX12_probesRow 1 11 := ⟨⟨⟨big_mem 118 rfl rfl, big_mem 1370 rfl rfl⟩, by show yX12_probesRow.cls ≠ _; decide +kernel, by show yX12_probesRow.cls ≠ _; decide +kernel, by show (parseMethodDescriptor yX12_probesRow.desc).map (fun d => d.parameters.length) = _; decide +kernel⟩, big_mem 1369 rfl rfl, big_mem 80 rfl rfl, rfl, rfl⟩
abbrev mX12_cell : mMt := (yX12_cell, cX12_cell, 3, some .int, 2)
set_option maxRecDepth 100000 in
theorem cal_X12_cell : CalV mX12_cell 2 11 := ⟨⟨⟨big_mem 118 rfl rfl, big_mem 1374 rfl rfl⟩, by show yX12_cell.cls ≠ _; decide +kernel, by show yX12_cell.cls ≠ _; decide +kernel, by show (parseMethodDescriptor yX12_cell.desc).map (fun d => d.parameters.length) = _; decide +kernel⟩, big_mem 1372 rfl rfl, big_mem 1373 rfl rfl, rfl, rfl⟩
abbrev mX12_drop : mMt := (yX12_drop, cX12_drop, 2, some .int, 3)
set_option maxRecDepth 100000 in
theorem cal_X12_drop : CalV mX12_drop 1 11 := ⟨⟨⟨big_mem 118 rfl rfl, big_mem 1378 rfl rfl⟩, by show yX12_drop.cls ≠ _; decide +kernel, by show yX12_drop.cls ≠ _; decide +kernel, by show (parseMethodDescriptor yX12_drop.desc).map (fun d => d.parameters.length) = _; decide +kernel⟩, big_mem 1376 rfl rfl, big_mem 1377 rfl rfl, rfl, rfl⟩
abbrev mX12_drops : mMt := (yX12_drops, cX12_drops, 3, none, 2)
set_option maxRecDepth 100000 in
theorem cal_X12_drops : CalV mX12_drops 1 11 := ⟨⟨⟨big_mem 118 rfl rfl, big_mem 1382 rfl rfl⟩, by show yX12_drops.cls ≠ _; decide +kernel, by show yX12_drops.cls ≠ _; decide +kernel, by show (parseMethodDescriptor yX12_drops.desc).map (fun d => d.parameters.length) = _; decide +kernel⟩, big_mem 1381 rfl rfl, big_mem 81 rfl rfl, rfl, rfl⟩
abbrev mX12_copiesRow : mMt := (yX12_copiesRow, cX12_copiesRow, 4, none, 1)
set_option maxRecDepth 100000 in
theorem cal_X12_copiesRow : CalV mX12_copiesRow 2 11 := ⟨⟨⟨big_mem 118 rfl rfl, big_mem 1386 rfl rfl⟩, by show yX12_copiesRow.cls ≠ _; decide +kernel, by show yX12_copiesRow.cls ≠ _; decide +kernel, by show (parseMethodDescriptor yX12_copiesRow.desc).map (fun d => d.parameters.length) = _; decide +kernel⟩, big_mem 1385 rfl rfl, big_mem 82 rfl rfl, rfl, rfl⟩
abbrev mX12_open : mMt := (yX12_open, cX12_open, 1, some .int, 5)
set_option maxRecDepth 100000 in
theorem cal_X12_open : CalV mX12_open 0 11 := ⟨⟨⟨big_mem 118 rfl rfl, big_mem 1390 rfl rfl⟩, by show yX12_open.cls ≠ _; decide +kernel, by show yX12_open.cls ≠ _; decide +kernel, by show (parseMethodDescriptor yX12_open.desc).map (fun d => d.parameters.length) = _; decide +kernel⟩, big_mem 1388 rfl rfl, big_mem 1389 rfl rfl, rfl, rfl⟩
abbrev mX12_laysOpen : mMt := (yX12_laysOpen, cX12_laysOpen, 3, some .int, 4)
set_option maxRecDepth 100000 in
theorem cal_X12_laysOpen : CalV mX12_laysOpen 0 11 := ⟨⟨⟨big_mem 118 rfl rfl, big_mem 1394 rfl rfl⟩, by show yX12_laysOpen.cls ≠ _; decide +kernel, by show yX12_laysOpen.cls ≠ _; decide +kernel, by show (parseMethodDescriptor yX12_laysOpen.desc).map (fun d => d.parameters.length) = _; decide +kernel⟩, big_mem 1393 rfl rfl, big_mem 83 rfl rfl, rfl, rfl⟩
abbrev mX12_openMix : mMt := (yX12_openMix, cX12_openMix, 5, some .int, 5)
set_option maxRecDepth 100000 in
theorem cal_X12_openMix : CalV mX12_openMix 1 11 := ⟨⟨⟨big_mem 118 rfl rfl, big_mem 1398 rfl rfl⟩, by show yX12_openMix.cls ≠ _; decide +kernel, by show yX12_openMix.cls ≠ _; decide +kernel, by show (parseMethodDescriptor yX12_openMix.desc).map (fun d => d.parameters.length) = _; decide +kernel⟩, big_mem 1396 rfl rfl, big_mem 1397 rfl rfl, rfl, rfl⟩
abbrev mX12_hope : mMt := (yX12_hope, cX12_hope, 3, some .long, 7)
set_option maxRecDepth 100000 in
theorem cal_X12_hope : CalV mX12_hope 1 11 := ⟨⟨⟨big_mem 118 rfl rfl, big_mem 1402 rfl rfl⟩, by show yX12_hope.cls ≠ _; decide +kernel, by show yX12_hope.cls ≠ _; decide +kernel, by show (parseMethodDescriptor yX12_hope.desc).map (fun d => d.parameters.length) = _; decide +kernel⟩, big_mem 1400 rfl rfl, big_mem 1401 rfl rfl, rfl, rfl⟩
abbrev mX12_hopeOf : mMt := (yX12_hopeOf, cX12_hopeOf, 7, some .long, 6)
set_option maxRecDepth 100000 in
theorem cal_X12_hopeOf : CalV mX12_hopeOf 1 11 := ⟨⟨⟨big_mem 118 rfl rfl, big_mem 1406 rfl rfl⟩, by show yX12_hopeOf.cls ≠ _; decide +kernel, by show yX12_hopeOf.cls ≠ _; decide +kernel, by show (parseMethodDescriptor yX12_hopeOf.desc).map (fun d => d.parameters.length) = _; decide +kernel⟩, big_mem 1405 rfl rfl, big_mem 84 rfl rfl, rfl, rfl⟩
abbrev mX12_weight : mMt := (yX12_weight, cX12_weight, 8, some .long, 1)
set_option maxRecDepth 100000 in
theorem cal_X12_weight : CalV mX12_weight 2 11 := ⟨⟨⟨big_mem 118 rfl rfl, big_mem 1410 rfl rfl⟩, by show yX12_weight.cls ≠ _; decide +kernel, by show yX12_weight.cls ≠ _; decide +kernel, by show (parseMethodDescriptor yX12_weight.desc).map (fun d => d.parameters.length) = _; decide +kernel⟩, big_mem 1409 rfl rfl, big_mem 85 rfl rfl, rfl, rfl⟩
abbrev mX12_canWith : mMt := (yX12_canWith, cX12_canWith, 4, some .boolean, 5)
set_option maxRecDepth 100000 in
theorem cal_X12_canWith : CalV mX12_canWith 2 11 := ⟨⟨⟨big_mem 118 rfl rfl, big_mem 1415 rfl rfl⟩, by show yX12_canWith.cls ≠ _; decide +kernel, by show yX12_canWith.cls ≠ _; decide +kernel, by show (parseMethodDescriptor yX12_canWith.desc).map (fun d => d.parameters.length) = _; decide +kernel⟩, big_mem 1414 rfl rfl, big_mem 86 rfl rfl, rfl, rfl⟩
abbrev mX12_greed : mMt := (yX12_greed, cX12_greed, 1, some .int, 8)
set_option maxRecDepth 100000 in
theorem cal_X12_greed : CalV mX12_greed 0 11 := ⟨⟨⟨big_mem 118 rfl rfl, big_mem 1419 rfl rfl⟩, by show yX12_greed.cls ≠ _; decide +kernel, by show yX12_greed.cls ≠ _; decide +kernel, by show (parseMethodDescriptor yX12_greed.desc).map (fun d => d.parameters.length) = _; decide +kernel⟩, big_mem 1417 rfl rfl, big_mem 1418 rfl rfl, rfl, rfl⟩
abbrev mX12_laysGreedy : mMt := (yX12_laysGreedy, cX12_laysGreedy, 8, none, 7)
set_option maxRecDepth 100000 in
theorem cal_X12_laysGreedy : CalV mX12_laysGreedy 0 11 := ⟨⟨⟨big_mem 118 rfl rfl, big_mem 1423 rfl rfl⟩, by show yX12_laysGreedy.cls ≠ _; decide +kernel, by show yX12_laysGreedy.cls ≠ _; decide +kernel, by show (parseMethodDescriptor yX12_laysGreedy.desc).map (fun d => d.parameters.length) = _; decide +kernel⟩, big_mem 1422 rfl rfl, big_mem 87 rfl rfl, rfl, rfl⟩
abbrev mX12_gainOf : mMt := (yX12_gainOf, cX12_gainOf, 4, some .int, 4)
set_option maxRecDepth 100000 in
theorem cal_X12_gainOf : CalV mX12_gainOf 1 11 := ⟨⟨⟨big_mem 118 rfl rfl, big_mem 1427 rfl rfl⟩, by show yX12_gainOf.cls ≠ _; decide +kernel, by show yX12_gainOf.cls ≠ _; decide +kernel, by show (parseMethodDescriptor yX12_gainOf.desc).map (fun d => d.parameters.length) = _; decide +kernel⟩, big_mem 1426 rfl rfl, big_mem 88 rfl rfl, rfl, rfl⟩
abbrev mX12_fill : mMt := (yX12_fill, cX12_fill, 2, some .int, 8)
set_option maxRecDepth 100000 in
theorem cal_X12_fill : CalV mX12_fill 0 11 := ⟨⟨⟨big_mem 118 rfl rfl, big_mem 1431 rfl rfl⟩, by show yX12_fill.cls ≠ _; decide +kernel, by show yX12_fill.cls ≠ _; decide +kernel, by show (parseMethodDescriptor yX12_fill.desc).map (fun d => d.parameters.length) = _; decide +kernel⟩, big_mem 1429 rfl rfl, big_mem 1430 rfl rfl, rfl, rfl⟩
abbrev mX12_field : mMt := (yX12_field, cX12_field, 4, some .int, 5)
set_option maxRecDepth 100000 in
theorem cal_X12_field : CalV mX12_field 0 11 := ⟨⟨⟨big_mem 118 rfl rfl, big_mem 1435 rfl rfl⟩, by show yX12_field.cls ≠ _; decide +kernel, by show yX12_field.cls ≠ _; decide +kernel, by show (parseMethodDescriptor yX12_field.desc).map (fun d => d.parameters.length) = _; decide +kernel⟩, big_mem 1433 rfl rfl, big_mem 1434 rfl rfl, rfl, rfl⟩
abbrev mX12_fieldFor : mMt := (yX12_fieldFor, cX12_fieldFor, 3, some .int, 1)
set_option maxRecDepth 100000 in
theorem cal_X12_fieldFor : CalV mX12_fieldFor 0 11 := ⟨⟨⟨big_mem 118 rfl rfl, big_mem 1439 rfl rfl⟩, by show yX12_fieldFor.cls ≠ _; decide +kernel, by show yX12_fieldFor.cls ≠ _; decide +kernel, by show (parseMethodDescriptor yX12_fieldFor.desc).map (fun d => d.parameters.length) = _; decide +kernel⟩, big_mem 1438 rfl rfl, big_mem 89 rfl rfl, rfl, rfl⟩
abbrev mX12_power : mMt := (yX12_power, cX12_power, 4, some .int, 1)
set_option maxRecDepth 100000 in
theorem cal_X12_power : Cal mX12_power 2 := ⟨⟨big_mem 118 rfl rfl, big_mem 1442 rfl rfl⟩, by show yX12_power.cls ≠ _; decide +kernel, by show yX12_power.cls ≠ _; decide +kernel, by show (parseMethodDescriptor yX12_power.desc).map (fun d => d.parameters.length) = _; decide +kernel⟩
set_option maxRecDepth 100000 in
theorem stc_X12_power : Cond.static yX12_power ∈ BIG := big_mem 1441 rfl rfl
abbrev mX12_laysPolynomial : mMt := (yX12_laysPolynomial, cX12_laysPolynomial, 6, none, 3)
set_option maxRecDepth 100000 in
theorem cal_X12_laysPolynomial : CalV mX12_laysPolynomial 2 11 := ⟨⟨⟨big_mem 118 rfl rfl, big_mem 1446 rfl rfl⟩, by show yX12_laysPolynomial.cls ≠ _; decide +kernel, by show yX12_laysPolynomial.cls ≠ _; decide +kernel, by show (parseMethodDescriptor yX12_laysPolynomial.desc).map (fun d => d.parameters.length) = _; decide +kernel⟩, big_mem 1445 rfl rfl, big_mem 90 rfl rfl, rfl, rfl⟩
abbrev mX12_valueAt : mMt := (yX12_valueAt, cX12_valueAt, 6, some .int, 2)
set_option maxRecDepth 100000 in
theorem cal_X12_valueAt : CalV mX12_valueAt 2 11 := ⟨⟨⟨big_mem 118 rfl rfl, big_mem 1450 rfl rfl⟩, by show yX12_valueAt.cls ≠ _; decide +kernel, by show yX12_valueAt.cls ≠ _; decide +kernel, by show (parseMethodDescriptor yX12_valueAt.desc).map (fun d => d.parameters.length) = _; decide +kernel⟩, big_mem 1449 rfl rfl, big_mem 91 rfl rfl, rfl, rfl⟩
abbrev mX12_times : mMt := (yX12_times, cX12_times, 3, some .int, 1)
set_option maxRecDepth 100000 in
theorem cal_X12_times : Cal mX12_times 3 := ⟨⟨big_mem 118 rfl rfl, big_mem 1453 rfl rfl⟩, by show yX12_times.cls ≠ _; decide +kernel, by show yX12_times.cls ≠ _; decide +kernel, by show (parseMethodDescriptor yX12_times.desc).map (fun d => d.parameters.length) = _; decide +kernel⟩
set_option maxRecDepth 100000 in
theorem stc_X12_times : Cond.static yX12_times ∈ BIG := big_mem 1452 rfl rfl
abbrev mX12_plus : mMt := (yX12_plus, cX12_plus, 3, some .int, 1)
set_option maxRecDepth 100000 in
theorem cal_X12_plus : Cal mX12_plus 3 := ⟨⟨big_mem 118 rfl rfl, big_mem 1456 rfl rfl⟩, by show yX12_plus.cls ≠ _; decide +kernel, by show yX12_plus.cls ≠ _; decide +kernel, by show (parseMethodDescriptor yX12_plus.desc).map (fun d => d.parameters.length) = _; decide +kernel⟩
set_option maxRecDepth 100000 in
theorem stc_X12_plus : Cond.static yX12_plus ∈ BIG := big_mem 1455 rfl rfl
abbrev mX12_widen : mMt := (yX12_widen, cX12_widen, 4, some .int, 6)
set_option maxRecDepth 100000 in
theorem cal_X12_widen : CalV mX12_widen 1 11 := ⟨⟨⟨big_mem 118 rfl rfl, big_mem 1460 rfl rfl⟩, by show yX12_widen.cls ≠ _; decide +kernel, by show yX12_widen.cls ≠ _; decide +kernel, by show (parseMethodDescriptor yX12_widen.desc).map (fun d => d.parameters.length) = _; decide +kernel⟩, big_mem 1458 rfl rfl, big_mem 1459 rfl rfl, rfl, rfl⟩
abbrev mX12_settle : mMt := (yX12_settle, cX12_settle, 4, some .int, 6)
set_option maxRecDepth 100000 in
theorem cal_X12_settle : CalV mX12_settle 0 11 := ⟨⟨⟨big_mem 118 rfl rfl, big_mem 1464 rfl rfl⟩, by show yX12_settle.cls ≠ _; decide +kernel, by show yX12_settle.cls ≠ _; decide +kernel, by show (parseMethodDescriptor yX12_settle.desc).map (fun d => d.parameters.length) = _; decide +kernel⟩, big_mem 1462 rfl rfl, big_mem 1463 rfl rfl, rfl, rfl⟩
abbrev mX12_settles : mMt := (yX12_settles, cX12_settles, 9, none, 5)
set_option maxRecDepth 100000 in
theorem cal_X12_settles : CalV mX12_settles 2 11 := ⟨⟨⟨big_mem 118 rfl rfl, big_mem 1468 rfl rfl⟩, by show yX12_settles.cls ≠ _; decide +kernel, by show yX12_settles.cls ≠ _; decide +kernel, by show (parseMethodDescriptor yX12_settles.desc).map (fun d => d.parameters.length) = _; decide +kernel⟩, big_mem 1467 rfl rfl, big_mem 92 rfl rfl, rfl, rfl⟩
abbrev mX12_moreBy : mMt := (yX12_moreBy, cX12_moreBy, 7, some .int, 3)
set_option maxRecDepth 100000 in
theorem cal_X12_moreBy : CalV mX12_moreBy 2 11 := ⟨⟨⟨big_mem 118 rfl rfl, big_mem 1472 rfl rfl⟩, by show yX12_moreBy.cls ≠ _; decide +kernel, by show yX12_moreBy.cls ≠ _; decide +kernel, by show (parseMethodDescriptor yX12_moreBy.desc).map (fun d => d.parameters.length) = _; decide +kernel⟩, big_mem 1471 rfl rfl, big_mem 93 rfl rfl, rfl, rfl⟩
abbrev mX12_thin : mMt := (yX12_thin, cX12_thin, 3, some .int, 5)
set_option maxRecDepth 100000 in
theorem cal_X12_thin : CalV mX12_thin 0 11 := ⟨⟨⟨big_mem 118 rfl rfl, big_mem 1476 rfl rfl⟩, by show yX12_thin.cls ≠ _; decide +kernel, by show yX12_thin.cls ≠ _; decide +kernel, by show (parseMethodDescriptor yX12_thin.desc).map (fun d => d.parameters.length) = _; decide +kernel⟩, big_mem 1474 rfl rfl, big_mem 1475 rfl rfl, rfl, rfl⟩
abbrev mX12_isNeeded : mMt := (yX12_isNeeded, cX12_isNeeded, 3, some .boolean, 4)
set_option maxRecDepth 100000 in
theorem cal_X12_isNeeded : CalV mX12_isNeeded 1 11 := ⟨⟨⟨big_mem 118 rfl rfl, big_mem 1480 rfl rfl⟩, by show yX12_isNeeded.cls ≠ _; decide +kernel, by show yX12_isNeeded.cls ≠ _; decide +kernel, by show (parseMethodDescriptor yX12_isNeeded.desc).map (fun d => d.parameters.length) = _; decide +kernel⟩, big_mem 1479 rfl rfl, big_mem 94 rfl rfl, rfl, rfl⟩
abbrev mX12_order : mMt := (yX12_order, cX12_order, 7, some .int, 5)
set_option maxRecDepth 100000 in
theorem cal_X12_order : CalV mX12_order 0 11 := ⟨⟨⟨big_mem 118 rfl rfl, big_mem 1484 rfl rfl⟩, by show yX12_order.cls ≠ _; decide +kernel, by show yX12_order.cls ≠ _; decide +kernel, by show (parseMethodDescriptor yX12_order.desc).map (fun d => d.parameters.length) = _; decide +kernel⟩, big_mem 1482 rfl rfl, big_mem 1483 rfl rfl, rfl, rfl⟩
abbrev mX12_newIn : mMt := (yX12_newIn, cX12_newIn, 5, some .int, 4)
set_option maxRecDepth 100000 in
theorem cal_X12_newIn : CalV mX12_newIn 2 11 := ⟨⟨⟨big_mem 118 rfl rfl, big_mem 1488 rfl rfl⟩, by show yX12_newIn.cls ≠ _; decide +kernel, by show yX12_newIn.cls ≠ _; decide +kernel, by show (parseMethodDescriptor yX12_newIn.desc).map (fun d => d.parameters.length) = _; decide +kernel⟩, big_mem 1487 rfl rfl, big_mem 95 rfl rfl, rfl, rfl⟩
abbrev mX12_bringsTo : mMt := (yX12_bringsTo, cX12_bringsTo, 4, none, 2)
set_option maxRecDepth 100000 in
theorem cal_X12_bringsTo : CalV mX12_bringsTo 2 11 := ⟨⟨⟨big_mem 118 rfl rfl, big_mem 1492 rfl rfl⟩, by show yX12_bringsTo.cls ≠ _; decide +kernel, by show yX12_bringsTo.cls ≠ _; decide +kernel, by show (parseMethodDescriptor yX12_bringsTo.desc).map (fun d => d.parameters.length) = _; decide +kernel⟩, big_mem 1491 rfl rfl, big_mem 96 rfl rfl, rfl, rfl⟩
abbrev mX12_drawn : mMt := (yX12_drawn, cX12_drawn, 6, some .int, 6)
set_option maxRecDepth 100000 in
theorem cal_X12_drawn : CalV mX12_drawn 0 11 := ⟨⟨⟨big_mem 118 rfl rfl, big_mem 1496 rfl rfl⟩, by show yX12_drawn.cls ≠ _; decide +kernel, by show yX12_drawn.cls ≠ _; decide +kernel, by show (parseMethodDescriptor yX12_drawn.desc).map (fun d => d.parameters.length) = _; decide +kernel⟩, big_mem 1494 rfl rfl, big_mem 1495 rfl rfl, rfl, rfl⟩
abbrev mX12_canGreedy : mMt := (yX12_canGreedy, cX12_canGreedy, 3, some .boolean, 5)
set_option maxRecDepth 100000 in
theorem cal_X12_canGreedy : CalV mX12_canGreedy 2 11 := ⟨⟨⟨big_mem 118 rfl rfl, big_mem 1500 rfl rfl⟩, by show yX12_canGreedy.cls ≠ _; decide +kernel, by show yX12_canGreedy.cls ≠ _; decide +kernel, by show (parseMethodDescriptor yX12_canGreedy.desc).map (fun d => d.parameters.length) = _; decide +kernel⟩, big_mem 1499 rfl rfl, big_mem 97 rfl rfl, rfl, rfl⟩
abbrev mX12_draw : mMt := (yX12_draw, cX12_draw, 2, some .int, 1)
set_option maxRecDepth 100000 in
theorem cal_X12_draw : CalV mX12_draw 1 11 := ⟨⟨⟨big_mem 118 rfl rfl, big_mem 1504 rfl rfl⟩, by show yX12_draw.cls ≠ _; decide +kernel, by show yX12_draw.cls ≠ _; decide +kernel, by show (parseMethodDescriptor yX12_draw.desc).map (fun d => d.parameters.length) = _; decide +kernel⟩, big_mem 1503 rfl rfl, big_mem 98 rfl rfl, rfl, rfl⟩
abbrev mX12_draws : mMt := (yX12_draws, cX12_draws, 3, some .int, 1)
set_option maxRecDepth 100000 in
theorem cal_X12_draws : CalV mX12_draws 1 11 := ⟨⟨⟨big_mem 118 rfl rfl, big_mem 1512 rfl rfl⟩, by show yX12_draws.cls ≠ _; decide +kernel, by show yX12_draws.cls ≠ _; decide +kernel, by show (parseMethodDescriptor yX12_draws.desc).map (fun d => d.parameters.length) = _; decide +kernel⟩, big_mem 1510 rfl rfl, big_mem 1511 rfl rfl, rfl, rfl⟩
abbrev mX12_gain : mMt := (yX12_gain, cX12_gain, 2, some .int, 5)
set_option maxRecDepth 100000 in
theorem cal_X12_gain : CalV mX12_gain 1 11 := ⟨⟨⟨big_mem 118 rfl rfl, big_mem 1516 rfl rfl⟩, by show yX12_gain.cls ≠ _; decide +kernel, by show yX12_gain.cls ≠ _; decide +kernel, by show (parseMethodDescriptor yX12_gain.desc).map (fun d => d.parameters.length) = _; decide +kernel⟩, big_mem 1514 rfl rfl, big_mem 1515 rfl rfl, rfl, rfl⟩
abbrev mX12_least : mMt := (yX12_least, cX12_least, 6, some .int, 2)
set_option maxRecDepth 100000 in
theorem cal_X12_least : CalV mX12_least 0 11 := ⟨⟨⟨big_mem 118 rfl rfl, big_mem 1520 rfl rfl⟩, by show yX12_least.cls ≠ _; decide +kernel, by show yX12_least.cls ≠ _; decide +kernel, by show (parseMethodDescriptor yX12_least.desc).map (fun d => d.parameters.length) = _; decide +kernel⟩, big_mem 1518 rfl rfl, big_mem 1519 rfl rfl, rfl, rfl⟩
abbrev mX12_lawful : mMt := (yX12_lawful, cX12_lawful, 2, some .int, 4)
set_option maxRecDepth 100000 in
theorem cal_X12_lawful : CalV mX12_lawful 1 11 := ⟨⟨⟨big_mem 118 rfl rfl, big_mem 1524 rfl rfl⟩, by show yX12_lawful.cls ≠ _; decide +kernel, by show yX12_lawful.cls ≠ _; decide +kernel, by show (parseMethodDescriptor yX12_lawful.desc).map (fun d => d.parameters.length) = _; decide +kernel⟩, big_mem 1522 rfl rfl, big_mem 1523 rfl rfl, rfl, rfl⟩
abbrev mX12_result : mMt := (yX12_result, cX12_result, 4, some .int, 3)
set_option maxRecDepth 100000 in
theorem cal_X12_result : CalV mX12_result 2 11 := ⟨⟨⟨big_mem 118 rfl rfl, big_mem 1528 rfl rfl⟩, by show yX12_result.cls ≠ _; decide +kernel, by show yX12_result.cls ≠ _; decide +kernel, by show (parseMethodDescriptor yX12_result.desc).map (fun d => d.parameters.length) = _; decide +kernel⟩, big_mem 1526 rfl rfl, big_mem 1527 rfl rfl, rfl, rfl⟩
abbrev mX12_guilty : mMt := (yX12_guilty, cX12_guilty, 8, some .int, 4)
set_option maxRecDepth 100000 in
theorem cal_X12_guilty : CalV mX12_guilty 2 11 := ⟨⟨⟨big_mem 118 rfl rfl, big_mem 1532 rfl rfl⟩, by show yX12_guilty.cls ≠ _; decide +kernel, by show yX12_guilty.cls ≠ _; decide +kernel, by show (parseMethodDescriptor yX12_guilty.desc).map (fun d => d.parameters.length) = _; decide +kernel⟩, big_mem 1530 rfl rfl, big_mem 1531 rfl rfl, rfl, rfl⟩
abbrev mX12_isGuilty : mMt := (yX12_isGuilty, cX12_isGuilty, 6, some .boolean, 3)
set_option maxRecDepth 100000 in
theorem cal_X12_isGuilty : CalV mX12_isGuilty 2 11 := ⟨⟨⟨big_mem 118 rfl rfl, big_mem 1536 rfl rfl⟩, by show yX12_isGuilty.cls ≠ _; decide +kernel, by show yX12_isGuilty.cls ≠ _; decide +kernel, by show (parseMethodDescriptor yX12_isGuilty.desc).map (fun d => d.parameters.length) = _; decide +kernel⟩, big_mem 1535 rfl rfl, big_mem 99 rfl rfl, rfl, rfl⟩
abbrev mX12_hasLevels : mMt := (yX12_hasLevels, cX12_hasLevels, 5, some .boolean, 2)
set_option maxRecDepth 100000 in
theorem cal_X12_hasLevels : CalV mX12_hasLevels 3 11 := ⟨⟨⟨big_mem 118 rfl rfl, big_mem 1540 rfl rfl⟩, by show yX12_hasLevels.cls ≠ _; decide +kernel, by show yX12_hasLevels.cls ≠ _; decide +kernel, by show (parseMethodDescriptor yX12_hasLevels.desc).map (fun d => d.parameters.length) = _; decide +kernel⟩, big_mem 1539 rfl rfl, big_mem 100 rfl rfl, rfl, rfl⟩
abbrev mX12_ask : mMt := (yX12_ask, cX12_ask, 8, some .int, 5)
set_option maxRecDepth 100000 in
theorem cal_X12_ask : CalV mX12_ask 1 11 := ⟨⟨⟨big_mem 118 rfl rfl, big_mem 1544 rfl rfl⟩, by show yX12_ask.cls ≠ _; decide +kernel, by show yX12_ask.cls ≠ _; decide +kernel, by show (parseMethodDescriptor yX12_ask.desc).map (fun d => d.parameters.length) = _; decide +kernel⟩, big_mem 1542 rfl rfl, big_mem 1543 rfl rfl, rfl, rfl⟩
abbrev mX12_guiltyIn : mMt := (yX12_guiltyIn, cX12_guiltyIn, 6, some .int, 4)
set_option maxRecDepth 100000 in
theorem cal_X12_guiltyIn : CalV mX12_guiltyIn 1 11 := ⟨⟨⟨big_mem 118 rfl rfl, big_mem 1548 rfl rfl⟩, by show yX12_guiltyIn.cls ≠ _; decide +kernel, by show yX12_guiltyIn.cls ≠ _; decide +kernel, by show (parseMethodDescriptor yX12_guiltyIn.desc).map (fun d => d.parameters.length) = _; decide +kernel⟩, big_mem 1547 rfl rfl, big_mem 101 rfl rfl, rfl, rfl⟩
abbrev mX12_undo : mMt := (yX12_undo, cX12_undo, 1, some .int, 6)
set_option maxRecDepth 100000 in
theorem cal_X12_undo : CalV mX12_undo 0 11 := ⟨⟨⟨big_mem 118 rfl rfl, big_mem 1552 rfl rfl⟩, by show yX12_undo.cls ≠ _; decide +kernel, by show yX12_undo.cls ≠ _; decide +kernel, by show (parseMethodDescriptor yX12_undo.desc).map (fun d => d.parameters.length) = _; decide +kernel⟩, big_mem 1550 rfl rfl, big_mem 1551 rfl rfl, rfl, rfl⟩
abbrev mX12_keep : mMt := (yX12_keep, cX12_keep, 2, some .int, 2)
set_option maxRecDepth 100000 in
theorem cal_X12_keep : CalV mX12_keep 1 11 := ⟨⟨⟨big_mem 118 rfl rfl, big_mem 1556 rfl rfl⟩, by show yX12_keep.cls ≠ _; decide +kernel, by show yX12_keep.cls ≠ _; decide +kernel, by show (parseMethodDescriptor yX12_keep.desc).map (fun d => d.parameters.length) = _; decide +kernel⟩, big_mem 1554 rfl rfl, big_mem 1555 rfl rfl, rfl, rfl⟩
abbrev mX12_back : mMt := (yX12_back, cX12_back, 2, some .int, 6)
set_option maxRecDepth 100000 in
theorem cal_X12_back : CalV mX12_back 1 11 := ⟨⟨⟨big_mem 118 rfl rfl, big_mem 1560 rfl rfl⟩, by show yX12_back.cls ≠ _; decide +kernel, by show yX12_back.cls ≠ _; decide +kernel, by show (parseMethodDescriptor yX12_back.desc).map (fun d => d.parameters.length) = _; decide +kernel⟩, big_mem 1558 rfl rfl, big_mem 1559 rfl rfl, rfl, rfl⟩
abbrev mX12_count : mMt := (yX12_count, cX12_count, 2, some .int, 4)
set_option maxRecDepth 100000 in
theorem cal_X12_count : CalV mX12_count 1 11 := ⟨⟨⟨big_mem 118 rfl rfl, big_mem 1564 rfl rfl⟩, by show yX12_count.cls ≠ _; decide +kernel, by show yX12_count.cls ≠ _; decide +kernel, by show (parseMethodDescriptor yX12_count.desc).map (fun d => d.parameters.length) = _; decide +kernel⟩, big_mem 1562 rfl rfl, big_mem 1563 rfl rfl, rfl, rfl⟩
abbrev mX12_canMany : mMt := (yX12_canMany, cX12_canMany, 3, some .int, 1)
set_option maxRecDepth 100000 in
theorem cal_X12_canMany : CalV mX12_canMany 0 11 := ⟨⟨⟨big_mem 118 rfl rfl, big_mem 1569 rfl rfl⟩, by show yX12_canMany.cls ≠ _; decide +kernel, by show yX12_canMany.cls ≠ _; decide +kernel, by show (parseMethodDescriptor yX12_canMany.desc).map (fun d => d.parameters.length) = _; decide +kernel⟩, big_mem 1568 rfl rfl, big_mem 102 rfl rfl, rfl, rfl⟩
abbrev mX12_freeMany : mMt := (yX12_freeMany, cX12_freeMany, 4, some .int, 3)
set_option maxRecDepth 100000 in
theorem cal_X12_freeMany : CalV mX12_freeMany 1 11 := ⟨⟨⟨big_mem 118 rfl rfl, big_mem 1573 rfl rfl⟩, by show yX12_freeMany.cls ≠ _; decide +kernel, by show yX12_freeMany.cls ≠ _; decide +kernel, by show (parseMethodDescriptor yX12_freeMany.desc).map (fun d => d.parameters.length) = _; decide +kernel⟩, big_mem 1572 rfl rfl, big_mem 103 rfl rfl, rfl, rfl⟩
abbrev mX12_freeIn : mMt := (yX12_freeIn, cX12_freeIn, 4, some .int, 2)
set_option maxRecDepth 100000 in
theorem cal_X12_freeIn : CalV mX12_freeIn 1 11 := ⟨⟨⟨big_mem 118 rfl rfl, big_mem 1577 rfl rfl⟩, by show yX12_freeIn.cls ≠ _; decide +kernel, by show yX12_freeIn.cls ≠ _; decide +kernel, by show (parseMethodDescriptor yX12_freeIn.desc).map (fun d => d.parameters.length) = _; decide +kernel⟩, big_mem 1576 rfl rfl, big_mem 104 rfl rfl, rfl, rfl⟩
abbrev mX12_results : mMt := (yX12_results, cX12_results, 4, some .int, 1)
set_option maxRecDepth 100000 in
theorem cal_X12_results : CalV mX12_results 1 11 := ⟨⟨⟨big_mem 118 rfl rfl, big_mem 1581 rfl rfl⟩, by show yX12_results.cls ≠ _; decide +kernel, by show yX12_results.cls ≠ _; decide +kernel, by show (parseMethodDescriptor yX12_results.desc).map (fun d => d.parameters.length) = _; decide +kernel⟩, big_mem 1580 rfl rfl, big_mem 105 rfl rfl, rfl, rfl⟩
set_option maxRecDepth 100000 in
theorem lk_X11_1 : Cond.methodLink RX11 1 objectInit ∈ BIG := big_mem 132 rfl rfl
set_option maxRecDepth 100000 in
theorem lk_X11_69 : Cond.methodLink RX11 69 yX10_put ∈ BIG := big_mem 447 rfl rfl
set_option maxRecDepth 100000 in
theorem lk_X11_73 : Cond.methodLink RX11 73 yX5_read ∈ BIG := big_mem 459 rfl rfl
set_option maxRecDepth 100000 in
theorem lk_X11_84 : Cond.methodLink RX11 84 yX4_copyFrom ∈ BIG := big_mem 634 rfl rfl
set_option maxRecDepth 100000 in
theorem lk_X11_100 : Cond.methodLink RX11 100 yX11_rebuild ∈ BIG := big_mem 639 rfl rfl
set_option maxRecDepth 100000 in
theorem lk_X11_103 : Cond.methodLink RX11 103 yX2_size ∈ BIG := big_mem 687 rfl rfl
set_option maxRecDepth 100000 in
theorem lk_X11_106 : Cond.methodLink RX11 106 yX11_isColumn ∈ BIG := big_mem 693 rfl rfl
set_option maxRecDepth 100000 in
theorem lk_X11_114 : Cond.methodLink RX11 114 yX11_mixCount ∈ BIG := big_mem 701 rfl rfl
set_option maxRecDepth 100000 in
theorem lk_X11_117 : Cond.methodLink RX11 117 yX2_columnOf ∈ BIG := big_mem 709 rfl rfl
set_option maxRecDepth 100000 in
theorem lk_X11_121 : Cond.methodLink RX11 121 yX2_levelOf ∈ BIG := big_mem 717 rfl rfl
set_option maxRecDepth 100000 in
theorem lk_X11_133 : Cond.methodLink RX11 133 yX7_firstThatHas ∈ BIG := big_mem 723 rfl rfl
set_option maxRecDepth 100000 in
theorem lk_X11_137 : Cond.methodLink RX11 137 yX11_rowBy ∈ BIG := big_mem 731 rfl rfl
set_option maxRecDepth 100000 in
theorem lk_X11_140 : Cond.methodLink RX11 140 yX4_allows ∈ BIG := big_mem 739 rfl rfl
set_option maxRecDepth 100000 in
theorem lk_X11_143 : Cond.methodLink RX11 143 yX11_remember ∈ BIG := big_mem 740 rfl rfl
set_option maxRecDepth 100000 in
theorem lk_X11_146 : Cond.methodLink RX11 146 yX11_append ∈ BIG := big_mem 755 rfl rfl
set_option maxRecDepth 100000 in
theorem lk_X11_149 : Cond.methodLink RX11 149 yX11_isRow ∈ BIG := big_mem 768 rfl rfl
set_option maxRecDepth 100000 in
theorem lk_X11_155 : Cond.methodLink RX11 155 yX11_levelIn ∈ BIG := big_mem 772 rfl rfl
set_option maxRecDepth 100000 in
theorem lk_X11_158 : Cond.methodLink RX11 158 yX2_change ∈ BIG := big_mem 763 rfl rfl
set_option maxRecDepth 100000 in
theorem lk_X11_162 : Cond.methodLink RX11 162 yX11_takeAway ∈ BIG := big_mem 781 rfl rfl
set_option maxRecDepth 100000 in
theorem lk_X11_165 : Cond.methodLink RX11 165 yX11_hasPlan ∈ BIG := big_mem 705 rfl rfl
set_option maxRecDepth 100000 in
theorem lk_X11_169 : Cond.methodLink RX11 169 yX2_openCount ∈ BIG := big_mem 793 rfl rfl
set_option maxRecDepth 100000 in
theorem lk_X11_172 : Cond.methodLink RX11 172 yX2_openAt ∈ BIG := big_mem 805 rfl rfl
set_option maxRecDepth 100000 in
theorem lk_X11_177 : Cond.methodLink RX11 177 yX6_hopeOf ∈ BIG := big_mem 814 rfl rfl
set_option maxRecDepth 100000 in
theorem lk_X11_181 : Cond.methodLink RX11 181 yX6_makeRow ∈ BIG := big_mem 835 rfl rfl
set_option maxRecDepth 100000 in
theorem lk_X11_185 : Cond.methodLink RX11 185 yX2_gainOf ∈ BIG := big_mem 869 rfl rfl
set_option maxRecDepth 100000 in
theorem lk_X11_189 : Cond.methodLink RX11 189 yX4_fieldSize ∈ BIG := big_mem 882 rfl rfl
set_option maxRecDepth 100000 in
theorem lk_X11_195 : Cond.methodLink RX11 195 yX1_power ∈ BIG := big_mem 892 rfl rfl
set_option maxRecDepth 100000 in
theorem lk_X11_200 : Cond.methodLink RX11 200 yX4_rowOfPolynomial ∈ BIG := big_mem 895 rfl rfl
set_option maxRecDepth 100000 in
theorem lk_X11_203 : Cond.methodLink RX11 203 yX7_append ∈ BIG := big_mem 759 rfl rfl
set_option maxRecDepth 100000 in
theorem lk_X11_204 : Cond.methodLink RX11 204 yX2_recount ∈ BIG := big_mem 669 rfl rfl
set_option maxRecDepth 100000 in
theorem lk_X11_211 : Cond.methodLink RX11 211 yX5_mixesIfWider ∈ BIG := big_mem 917 rfl rfl
set_option maxRecDepth 100000 in
theorem lk_X11_215 : Cond.methodLink RX11 215 yX4_addColumn ∈ BIG := big_mem 922 rfl rfl
set_option maxRecDepth 100000 in
theorem lk_X11_218 : Cond.methodLink RX11 218 yX11_settleCell ∈ BIG := big_mem 927 rfl rfl
set_option maxRecDepth 100000 in
theorem lk_X11_221 : Cond.methodLink RX11 221 yX2_hadBesides ∈ BIG := big_mem 940 rfl rfl
set_option maxRecDepth 100000 in
theorem lk_X11_224 : Cond.methodLink RX11 224 yX3_place ∈ BIG := big_mem 948 rfl rfl
set_option maxRecDepth 100000 in
theorem lk_X11_228 : Cond.methodLink RX11 228 yX4_levelsLeft ∈ BIG := big_mem 931 rfl rfl
set_option maxRecDepth 100000 in
theorem lk_X11_231 : Cond.methodLink RX11 231 yJ6_bitCount_0f7a4 ∈ BIG := big_mem 972 rfl rfl
set_option maxRecDepth 100000 in
theorem lk_X11_236 : Cond.methodLink RX11 236 yX11_drawOf ∈ BIG := big_mem 978 rfl rfl
set_option maxRecDepth 100000 in
theorem lk_X11_239 : Cond.methodLink RX11 239 yX4_digitsOf ∈ BIG := big_mem 985 rfl rfl
set_option maxRecDepth 100000 in
theorem lk_X11_245 : Cond.methodLink RX11 245 yX2_mostOfOneSet ∈ BIG := big_mem 1002 rfl rfl
set_option maxRecDepth 100000 in
theorem lk_X11_248 : Cond.methodLink RX11 248 yX4_leftTo ∈ BIG := big_mem 1010 rfl rfl
set_option maxRecDepth 100000 in
theorem lk_X11_258 : Cond.methodLink RX11 258 yX9_find ∈ BIG := big_mem 1028 rfl rfl
set_option maxRecDepth 100000 in
theorem lk_X11_266 : Cond.methodLink RX11 266 yX9_rowThatPartsBest ∈ BIG := big_mem 1050 rfl rfl
set_option maxRecDepth 100000 in
theorem lk_X11_270 : Cond.methodLink RX11 270 yX9_lesserPart ∈ BIG := big_mem 1059 rfl rfl
set_option maxRecDepth 100000 in
theorem lk_X11_276 : Cond.methodLink RX11 276 yX11_restore ∈ BIG := big_mem 1064 rfl rfl
set_option maxRecDepth 100000 in
theorem lk_X11_280 : Cond.methodLink RX11 280 yX8_copyFrom ∈ BIG := big_mem 744 rfl rfl
set_option maxRecDepth 100000 in
theorem lk_X11_288 : Cond.methodLink RX11 288 yX7_wholeOnes ∈ BIG := big_mem 1084 rfl rfl
set_option maxRecDepth 100000 in
theorem lk_X11_291 : Cond.methodLink RX11 291 yX7_freeCells ∈ BIG := big_mem 1089 rfl rfl
set_option maxRecDepth 100000 in
theorem lk_X11_294 : Cond.methodLink RX11 294 yX7_toldAs ∈ BIG := big_mem 1093 rfl rfl
set_option maxRecDepth 100000 in
theorem lk_X11_297 : Cond.methodLink RX11 297 yX4_rowOfDigits ∈ BIG := big_mem 735 rfl rfl
set_option maxRecDepth 100000 in
theorem lk_X11_300 : Cond.methodLink RX11 300 yX7_remove ∈ BIG := big_mem 785 rfl rfl
set_option maxRecDepth 100000 in
theorem lk_X11_303 : Cond.methodLink RX11 303 yX2_openIn ∈ BIG := big_mem 932 rfl rfl
set_option maxRecDepth 100000 in
theorem lk_X11_309 : Cond.methodLink RX11 309 Lib.Math.min.name ∈ BIG := big_mem 754 rfl rfl
set_option maxRecDepth 100000 in
theorem lk_X11_314 : Cond.methodLink RX11 314 yX4_sameAs ∈ BIG := big_mem 1068 rfl rfl
set_option maxRecDepth 100000 in
theorem lk_X11_318 : Cond.methodLink RX11 318 yX2_build ∈ BIG := big_mem 643 rfl rfl
set_option maxRecDepth 100000 in
theorem lk_X0_3 : Cond.methodLink RX0 3 objectInit ∈ BIG := big_mem 207 rfl rfl
set_option maxRecDepth 100000 in
theorem lk_X0_24 : Cond.methodLink RX0 24 Lib.Math.min.name ∈ BIG := big_mem 600 rfl rfl
set_option maxRecDepth 100000 in
theorem lk_X0_40 : Cond.methodLink RX0 40 arraycopyName ∈ BIG := big_mem 601 rfl rfl
set_option maxRecDepth 100000 in
theorem lk_X0_48 : Cond.methodLink RX0 48 yX0_nextPick ∈ BIG := big_mem 604 rfl rfl
set_option maxRecDepth 100000 in
theorem lk_X0_52 : Cond.methodLink RX0 52 yX0_columnAt ∈ BIG := big_mem 657 rfl rfl
set_option maxRecDepth 100000 in
theorem lk_X1_13 : Cond.methodLink RX1 13 yX1_times ∈ BIG := big_mem 902 rfl rfl
set_option maxRecDepth 100000 in
theorem lk_X1_17 : Cond.methodLink RX1 17 yX1_plus ∈ BIG := big_mem 907 rfl rfl
set_option maxRecDepth 100000 in
theorem lk_X2_3 : Cond.methodLink RX2 3 objectInit ∈ BIG := big_mem 313 rfl rfl
set_option maxRecDepth 100000 in
theorem lk_X2_35 : Cond.methodLink RX2 35 Lib.Math.min.name ∈ BIG := big_mem 677 rfl rfl
set_option maxRecDepth 100000 in
theorem lk_X2_46 : Cond.methodLink RX2 46 yX0_build ∈ BIG := big_mem 647 rfl rfl
set_option maxRecDepth 100000 in
theorem lk_X2_60 : Cond.methodLink RX2 60 yX2_cellsOf ∈ BIG := big_mem 649 rfl rfl
set_option maxRecDepth 100000 in
theorem lk_X2_63 : Cond.methodLink RX2 63 yX4_lawfulNear ∈ BIG := big_mem 665 rfl rfl
set_option maxRecDepth 100000 in
theorem lk_X2_69 : Cond.methodLink RX2 69 yX0_levelsAt ∈ BIG := big_mem 653 rfl rfl
set_option maxRecDepth 100000 in
theorem lk_X2_72 : Cond.methodLink RX2 72 Lib.Math.max.name ∈ BIG := big_mem 661 rfl rfl
set_option maxRecDepth 100000 in
theorem lk_X2_75 : Cond.methodLink RX2 75 yX0_columnAt ∈ BIG := big_mem 664 rfl rfl
set_option maxRecDepth 100000 in
theorem lk_X2_78 : Cond.methodLink RX2 78 yX2_setOf ∈ BIG := big_mem 713 rfl rfl
set_option maxRecDepth 100000 in
theorem lk_X2_82 : Cond.methodLink RX2 82 yX2_columnOf ∈ BIG := big_mem 721 rfl rfl
set_option maxRecDepth 100000 in
theorem lk_X2_88 : Cond.methodLink RX2 88 yX2_size ∈ BIG := big_mem 673 rfl rfl
set_option maxRecDepth 100000 in
theorem lk_X2_97 : Cond.methodLink RX2 97 yX2_change ∈ BIG := big_mem 678 rfl rfl
set_option maxRecDepth 100000 in
theorem lk_X2_101 : Cond.methodLink RX2 101 yX0_numberIn ∈ BIG := big_mem 682 rfl rfl
set_option maxRecDepth 100000 in
theorem lk_X2_104 : Cond.methodLink RX2 104 yX2_isOpen ∈ BIG := big_mem 797 rfl rfl
set_option maxRecDepth 100000 in
theorem lk_X2_108 : Cond.methodLink RX2 108 yX7_firstThatHas ∈ BIG := big_mem 873 rfl rfl
set_option maxRecDepth 100000 in
theorem lk_X3_3 : Cond.methodLink RX3 3 objectInit ∈ BIG := big_mem 371 rfl rfl
set_option maxRecDepth 100000 in
theorem lk_X3_26 : Cond.methodLink RX3 26 yX3_start ∈ BIG := big_mem 952 rfl rfl
set_option maxRecDepth 100000 in
theorem lk_X3_34 : Cond.methodLink RX3 34 yX3_bestOf ∈ BIG := big_mem 958 rfl rfl
set_option maxRecDepth 100000 in
theorem lk_X3_41 : Cond.methodLink RX3 41 yX7_append ∈ BIG := big_mem 962 rfl rfl
set_option maxRecDepth 100000 in
theorem lk_X3_48 : Cond.methodLink RX3 48 yX3_markSeen ∈ BIG := big_mem 963 rfl rfl
set_option maxRecDepth 100000 in
theorem lk_X3_52 : Cond.methodLink RX3 52 yX7_copyFrom ∈ BIG := big_mem 967 rfl rfl
set_option maxRecDepth 100000 in
theorem lk_X3_56 : Cond.methodLink RX3 56 yX2_size ∈ BIG := big_mem 956 rfl rfl
set_option maxRecDepth 100000 in
theorem lk_X3_68 : Cond.methodLink RX3 68 yX0_numberIn ∈ BIG := big_mem 957 rfl rfl
set_option maxRecDepth 100000 in
theorem lk_X4_3 : Cond.methodLink RX4 3 objectInit ∈ BIG := big_mem 163 rfl rfl
set_option maxRecDepth 100000 in
theorem lk_X4_38 : Cond.methodLink RX4 38 arraycopyName ∈ BIG := big_mem 638 rfl rfl
set_option maxRecDepth 100000 in
theorem lk_X4_48 : Cond.methodLink RX4 48 Lib.Math.max.name ∈ BIG := big_mem 886 rfl rfl
set_option maxRecDepth 100000 in
theorem lk_X4_53 : Cond.methodLink RX4 53 yX1_sizeFor ∈ BIG := big_mem 887 rfl rfl
set_option maxRecDepth 100000 in
theorem lk_X4_58 : Cond.methodLink RX4 58 yX1_valueAt ∈ BIG := big_mem 899 rfl rfl
set_option maxRecDepth 100000 in
theorem lk_X4_62 : Cond.methodLink RX4 62 yX1_lastOf ∈ BIG := big_mem 910 rfl rfl
set_option maxRecDepth 100000 in
theorem lk_X4_65 : Cond.methodLink RX4 65 yX4_leftTo ∈ BIG := big_mem 612 rfl rfl
set_option maxRecDepth 100000 in
theorem lk_X4_68 : Cond.methodLink RX4 68 yX4_lawfulRow ∈ BIG := big_mem 616 rfl rfl
set_option maxRecDepth 100000 in
theorem lk_X4_72 : Cond.methodLink RX4 72 yX4_allows ∈ BIG := big_mem 851 rfl rfl
set_option maxRecDepth 100000 in
theorem lk_X4_76 : Cond.methodLink RX4 76 yX4_narrow ∈ BIG := big_mem 619 rfl rfl
set_option maxRecDepth 100000 in
theorem lk_X4_79 : Cond.methodLink RX4 79 yX4_openCell ∈ BIG := big_mem 623 rfl rfl
set_option maxRecDepth 100000 in
theorem lk_X4_82 : Cond.methodLink RX4 82 yX4_leastRow ∈ BIG := big_mem 627 rfl rfl
set_option maxRecDepth 100000 in
theorem lk_X4_85 : Cond.methodLink RX4 85 yX4_withOnly ∈ BIG := big_mem 631 rfl rfl
set_option maxRecDepth 100000 in
theorem lk_X4_88 : Cond.methodLink RX4 88 yX4_rowsIn ∈ BIG := big_mem 1014 rfl rfl
set_option maxRecDepth 100000 in
theorem lk_X4_91 : Cond.methodLink RX4 91 yX4_lawfulIn ∈ BIG := big_mem 1019 rfl rfl
set_option maxRecDepth 100000 in
theorem lk_X4_94 : Cond.methodLink RX4 94 yJ6_bitCount_0f7a4 ∈ BIG := big_mem 1018 rfl rfl
set_option maxRecDepth 100000 in
theorem lk_X5_3 : Cond.methodLink RX5 3 objectInit ∈ BIG := big_mem 157 rfl rfl
set_option maxRecDepth 100000 in
theorem lk_X5_49 : Cond.methodLink RX5 49 yX4_clear ∈ BIG := big_mem 463 rfl rfl
set_option maxRecDepth 100000 in
theorem lk_X5_52 : Cond.methodLink RX5 52 yX5_skipBlanks ∈ BIG := big_mem 467 rfl rfl
set_option maxRecDepth 100000 in
theorem lk_X5_55 : Cond.methodLink RX5 55 yX5_readLevels ∈ BIG := big_mem 471 rfl rfl
set_option maxRecDepth 100000 in
theorem lk_X5_58 : Cond.methodLink RX5 58 yX5_readLine ∈ BIG := big_mem 555 rfl rfl
set_option maxRecDepth 100000 in
theorem lk_X5_61 : Cond.methodLink RX5 61 yX5_mixesOf ∈ BIG := big_mem 592 rfl rfl
set_option maxRecDepth 100000 in
theorem lk_X5_65 : Cond.methodLink RX5 65 yX4_allows ∈ BIG := big_mem 608 rfl rfl
set_option maxRecDepth 100000 in
theorem lk_X5_69 : Cond.methodLink RX5 69 yX5_fail ∈ BIG := big_mem 536 rfl rfl
set_option maxRecDepth 100000 in
theorem lk_X5_73 : Cond.methodLink RX5 73 yX4_copyFrom ∈ BIG := big_mem 921 rfl rfl
set_option maxRecDepth 100000 in
theorem lk_X5_77 : Cond.methodLink RX5 77 yX4_addColumn ∈ BIG := big_mem 551 rfl rfl
set_option maxRecDepth 100000 in
theorem lk_X5_84 : Cond.methodLink RX5 84 yX0_build ∈ BIG := big_mem 596 rfl rfl
set_option maxRecDepth 100000 in
theorem lk_X5_94 : Cond.methodLink RX5 94 yX5_takeWord ∈ BIG := big_mem 476 rfl rfl
set_option maxRecDepth 100000 in
theorem lk_X5_98 : Cond.methodLink RX5 98 yX5_isDigit ∈ BIG := big_mem 540 rfl rfl
set_option maxRecDepth 100000 in
theorem lk_X5_102 : Cond.methodLink RX5 102 yX5_takeNumber ∈ BIG := big_mem 544 rfl rfl
set_option maxRecDepth 100000 in
theorem lk_X5_106 : Cond.methodLink RX5 106 yX5_takeByte ∈ BIG := big_mem 559 rfl rfl
set_option maxRecDepth 100000 in
theorem lk_X5_111 : Cond.methodLink RX5 111 yX5_isWord ∈ BIG := big_mem 480 rfl rfl
set_option maxRecDepth 100000 in
theorem lk_X5_115 : Cond.methodLink RX5 115 yX5_readStrength ∈ BIG := big_mem 568 rfl rfl
set_option maxRecDepth 100000 in
theorem lk_X5_118 : Cond.methodLink RX5 118 yX5_readNever ∈ BIG := big_mem 572 rfl rfl
set_option maxRecDepth 100000 in
theorem lk_X5_124 : Cond.methodLink RX5 124 Lib.Math.min.name ∈ BIG := big_mem 548 rfl rfl
set_option maxRecDepth 100000 in
theorem lk_X5_134 : Cond.methodLink RX5 134 yX5_readCell ∈ BIG := big_mem 577 rfl rfl
set_option maxRecDepth 100000 in
theorem lk_X5_138 : Cond.methodLink RX5 138 yX5_isByte ∈ BIG := big_mem 563 rfl rfl
set_option maxRecDepth 100000 in
theorem lk_X5_142 : Cond.methodLink RX5 142 yX4_addNever ∈ BIG := big_mem 584 rfl rfl
set_option maxRecDepth 100000 in
theorem lk_X5_150 : Cond.methodLink RX5 150 yJ0_length_8abf5 ∈ BIG := big_mem 484 rfl rfl
set_option maxRecDepth 100000 in
theorem lk_X5_156 : Cond.methodLink RX5 156 yX5_isLetter ∈ BIG := big_mem 494 rfl rfl
set_option maxRecDepth 100000 in
theorem lk_X5_159 : Cond.methodLink RX5 159 yJ0_charAt_5068e ∈ BIG := big_mem 498 rfl rfl
set_option maxRecDepth 100000 in
theorem lk_X6_3 : Cond.methodLink RX6 3 objectInit ∈ BIG := big_mem 346 rfl rfl
set_option maxRecDepth 100000 in
theorem lk_X6_24 : Cond.methodLink RX6 24 yX6_gather ∈ BIG := big_mem 839 rfl rfl
set_option maxRecDepth 100000 in
theorem lk_X6_34 : Cond.methodLink RX6 34 yX6_bestCell ∈ BIG := big_mem 843 rfl rfl
set_option maxRecDepth 100000 in
theorem lk_X6_38 : Cond.methodLink RX6 38 yX6_keepWith ∈ BIG := big_mem 865 rfl rfl
set_option maxRecDepth 100000 in
theorem lk_X6_42 : Cond.methodLink RX6 42 yX4_leftTo ∈ BIG := big_mem 818 rfl rfl
set_option maxRecDepth 100000 in
theorem lk_X6_60 : Cond.methodLink RX6 60 yX6_weightOf ∈ BIG := big_mem 820 rfl rfl
set_option maxRecDepth 100000 in
theorem lk_X6_73 : Cond.methodLink RX6 73 yX2_isOpen ∈ BIG := big_mem 829 rfl rfl
set_option maxRecDepth 100000 in
theorem lk_X6_77 : Cond.methodLink RX6 77 yX4_lawfulNear ∈ BIG := big_mem 830 rfl rfl
set_option maxRecDepth 100000 in
theorem lk_X6_84 : Cond.methodLink RX6 84 yX0_columnAt ∈ BIG := big_mem 824 rfl rfl
set_option maxRecDepth 100000 in
theorem lk_X6_90 : Cond.methodLink RX6 90 yX0_levelsAt ∈ BIG := big_mem 826 rfl rfl
set_option maxRecDepth 100000 in
theorem lk_X6_93 : Cond.methodLink RX6 93 Lib.Math.max.name ∈ BIG := big_mem 827 rfl rfl
set_option maxRecDepth 100000 in
theorem lk_X6_102 : Cond.methodLink RX6 102 yX4_levelsLeft ∈ BIG := big_mem 847 rfl rfl
set_option maxRecDepth 100000 in
theorem lk_X6_110 : Cond.methodLink RX6 110 yX6_hopeWith ∈ BIG := big_mem 853 rfl rfl
set_option maxRecDepth 100000 in
theorem lk_X6_114 : Cond.methodLink RX6 114 yX6_findNear ∈ BIG := big_mem 857 rfl rfl
set_option maxRecDepth 100000 in
theorem lk_X6_121 : Cond.methodLink RX6 121 yX6_sampleWith ∈ BIG := big_mem 861 rfl rfl
set_option maxRecDepth 100000 in
theorem lk_X7_3 : Cond.methodLink RX7 3 objectInit ∈ BIG := big_mem 273 rfl rfl
set_option maxRecDepth 100000 in
theorem lk_X7_22 : Cond.methodLink RX7 22 arraycopyName ∈ BIG := big_mem 753 rfl rfl
set_option maxRecDepth 100000 in
theorem lk_X7_28 : Cond.methodLink RX7 28 yJ6_bitCount_0f7a4 ∈ BIG := big_mem 1088 rfl rfl
set_option maxRecDepth 100000 in
theorem lk_X8_1 : Cond.methodLink RX8 1 objectInit ∈ BIG := big_mem 265 rfl rfl
set_option maxRecDepth 100000 in
theorem lk_X8_23 : Cond.methodLink RX8 23 yX4_copyFrom ∈ BIG := big_mem 748 rfl rfl
set_option maxRecDepth 100000 in
theorem lk_X8_27 : Cond.methodLink RX8 27 yX7_copyFrom ∈ BIG := big_mem 749 rfl rfl
set_option maxRecDepth 100000 in
theorem lk_X9_3 : Cond.methodLink RX9 3 objectInit ∈ BIG := big_mem 390 rfl rfl
set_option maxRecDepth 100000 in
theorem lk_X9_29 : Cond.methodLink RX9 29 yX7_toldAs ∈ BIG := big_mem 1032 rfl rfl
set_option maxRecDepth 100000 in
theorem lk_X9_42 : Cond.methodLink RX9 42 yX0_build ∈ BIG := big_mem 1036 rfl rfl
set_option maxRecDepth 100000 in
theorem lk_X9_47 : Cond.methodLink RX9 47 yX0_numberIn ∈ BIG := big_mem 1037 rfl rfl
set_option maxRecDepth 100000 in
theorem lk_X9_51 : Cond.methodLink RX9 51 yX0_cellsIn ∈ BIG := big_mem 1038 rfl rfl
set_option maxRecDepth 100000 in
theorem lk_X9_54 : Cond.methodLink RX9 54 yX9_passed ∈ BIG := big_mem 1042 rfl rfl
set_option maxRecDepth 100000 in
theorem lk_X9_58 : Cond.methodLink RX9 58 Lib.Math.min.name ∈ BIG := big_mem 1058 rfl rfl
set_option maxRecDepth 100000 in
theorem lk_X9_63 : Cond.methodLink RX9 63 yX9_lesserPart ∈ BIG := big_mem 1054 rfl rfl
set_option maxRecDepth 100000 in
theorem lk_X10_3 : Cond.methodLink RX10 3 objectInit ∈ BIG := big_mem 140 rfl rfl
set_option maxRecDepth 100000 in
theorem lk_L_9 : Cond.methodLink RL 9 yX11_init ∈ BIG := big_mem 129 rfl rfl
set_option maxRecDepth 100000 in
theorem lk_L_12 : Cond.methodLink RL 12 yX12_init ∈ BIG := big_mem 1096 rfl rfl
set_option maxRecDepth 100000 in
theorem lk_L_13 : Cond.methodLink RL 13 yX11_feed ∈ BIG := big_mem 443 rfl rfl
set_option maxRecDepth 100000 in
theorem lk_L_17 : Cond.methodLink RL 17 yX12_feed ∈ BIG := big_mem 1182 rfl rfl
set_option maxRecDepth 100000 in
theorem lk_L_18 : Cond.methodLink RL 18 yX11_end ∈ BIG := big_mem 451 rfl rfl
set_option maxRecDepth 100000 in
theorem lk_L_22 : Cond.methodLink RL 22 yX12_end ∈ BIG := big_mem 1186 rfl rfl
set_option maxRecDepth 100000 in
theorem lk_L_23 : Cond.methodLink RL 23 yX11_plan ∈ BIG := big_mem 455 rfl rfl
set_option maxRecDepth 100000 in
theorem lk_L_27 : Cond.methodLink RL 27 yX12_plan ∈ BIG := big_mem 1193 rfl rfl
set_option maxRecDepth 100000 in
theorem lk_L_28 : Cond.methodLink RL 28 yX11_levels ∈ BIG := big_mem 689 rfl rfl
set_option maxRecDepth 100000 in
theorem lk_L_31 : Cond.methodLink RL 31 yX12_levels ∈ BIG := big_mem 1301 rfl rfl
set_option maxRecDepth 100000 in
theorem lk_L_32 : Cond.methodLink RL 32 yX11_mix ∈ BIG := big_mem 697 rfl rfl
set_option maxRecDepth 100000 in
theorem lk_L_36 : Cond.methodLink RL 36 yX12_mix ∈ BIG := big_mem 1309 rfl rfl
set_option maxRecDepth 100000 in
theorem lk_L_37 : Cond.methodLink RL 37 yX11_add ∈ BIG := big_mem 727 rfl rfl
set_option maxRecDepth 100000 in
theorem lk_L_40 : Cond.methodLink RL 40 yX12_add ∈ BIG := big_mem 1334 rfl rfl
set_option maxRecDepth 100000 in
theorem lk_L_41 : Cond.methodLink RL 41 yX11_tell ∈ BIG := big_mem 764 rfl rfl
set_option maxRecDepth 100000 in
theorem lk_L_45 : Cond.methodLink RL 45 yX12_tell ∈ BIG := big_mem 1358 rfl rfl
set_option maxRecDepth 100000 in
theorem lk_L_46 : Cond.methodLink RL 46 yX11_cell ∈ BIG := big_mem 773 rfl rfl
set_option maxRecDepth 100000 in
theorem lk_L_49 : Cond.methodLink RL 49 yX12_cell ∈ BIG := big_mem 1371 rfl rfl
set_option maxRecDepth 100000 in
theorem lk_L_50 : Cond.methodLink RL 50 yX11_drop ∈ BIG := big_mem 777 rfl rfl
set_option maxRecDepth 100000 in
theorem lk_L_53 : Cond.methodLink RL 53 yX12_drop ∈ BIG := big_mem 1375 rfl rfl
set_option maxRecDepth 100000 in
theorem lk_L_54 : Cond.methodLink RL 54 yX11_open ∈ BIG := big_mem 789 rfl rfl
set_option maxRecDepth 100000 in
theorem lk_L_57 : Cond.methodLink RL 57 yX12_open ∈ BIG := big_mem 1387 rfl rfl
set_option maxRecDepth 100000 in
theorem lk_L_58 : Cond.methodLink RL 58 yX11_openMix ∈ BIG := big_mem 801 rfl rfl
set_option maxRecDepth 100000 in
theorem lk_L_61 : Cond.methodLink RL 61 yX12_openMix ∈ BIG := big_mem 1395 rfl rfl
set_option maxRecDepth 100000 in
theorem lk_L_62 : Cond.methodLink RL 62 yX11_hope ∈ BIG := big_mem 809 rfl rfl
set_option maxRecDepth 100000 in
theorem lk_L_66 : Cond.methodLink RL 66 yX12_hope ∈ BIG := big_mem 1399 rfl rfl
set_option maxRecDepth 100000 in
theorem lk_L_67 : Cond.methodLink RL 67 yX11_greed ∈ BIG := big_mem 831 rfl rfl
set_option maxRecDepth 100000 in
theorem lk_L_70 : Cond.methodLink RL 70 yX12_greed ∈ BIG := big_mem 1416 rfl rfl
set_option maxRecDepth 100000 in
theorem lk_L_71 : Cond.methodLink RL 71 yX11_fill ∈ BIG := big_mem 874 rfl rfl
set_option maxRecDepth 100000 in
theorem lk_L_74 : Cond.methodLink RL 74 yX12_fill ∈ BIG := big_mem 1428 rfl rfl
set_option maxRecDepth 100000 in
theorem lk_L_75 : Cond.methodLink RL 75 yX11_field ∈ BIG := big_mem 878 rfl rfl
set_option maxRecDepth 100000 in
theorem lk_L_78 : Cond.methodLink RL 78 yX12_field ∈ BIG := big_mem 1432 rfl rfl
set_option maxRecDepth 100000 in
theorem lk_L_79 : Cond.methodLink RL 79 yX11_widen ∈ BIG := big_mem 913 rfl rfl
set_option maxRecDepth 100000 in
theorem lk_L_82 : Cond.methodLink RL 82 yX12_widen ∈ BIG := big_mem 1457 rfl rfl
set_option maxRecDepth 100000 in
theorem lk_L_83 : Cond.methodLink RL 83 yX11_settle ∈ BIG := big_mem 923 rfl rfl
set_option maxRecDepth 100000 in
theorem lk_L_86 : Cond.methodLink RL 86 yX12_settle ∈ BIG := big_mem 1461 rfl rfl
set_option maxRecDepth 100000 in
theorem lk_L_87 : Cond.methodLink RL 87 yX11_thin ∈ BIG := big_mem 936 rfl rfl
set_option maxRecDepth 100000 in
theorem lk_L_90 : Cond.methodLink RL 90 yX12_thin ∈ BIG := big_mem 1473 rfl rfl
set_option maxRecDepth 100000 in
theorem lk_L_91 : Cond.methodLink RL 91 yX11_order ∈ BIG := big_mem 944 rfl rfl
set_option maxRecDepth 100000 in
theorem lk_L_94 : Cond.methodLink RL 94 yX12_order ∈ BIG := big_mem 1481 rfl rfl
set_option maxRecDepth 100000 in
theorem lk_L_95 : Cond.methodLink RL 95 yX11_drawn ∈ BIG := big_mem 968 rfl rfl
set_option maxRecDepth 100000 in
theorem lk_L_98 : Cond.methodLink RL 98 yX12_drawn ∈ BIG := big_mem 1493 rfl rfl
set_option maxRecDepth 100000 in
theorem lk_L_99 : Cond.methodLink RL 99 yX11_draws ∈ BIG := big_mem 990 rfl rfl
set_option maxRecDepth 100000 in
theorem lk_L_102 : Cond.methodLink RL 102 yX12_draws ∈ BIG := big_mem 1509 rfl rfl
set_option maxRecDepth 100000 in
theorem lk_L_103 : Cond.methodLink RL 103 yX11_gain ∈ BIG := big_mem 994 rfl rfl
set_option maxRecDepth 100000 in
theorem lk_L_106 : Cond.methodLink RL 106 yX12_gain ∈ BIG := big_mem 1513 rfl rfl
set_option maxRecDepth 100000 in
theorem lk_L_107 : Cond.methodLink RL 107 yX11_least ∈ BIG := big_mem 998 rfl rfl
set_option maxRecDepth 100000 in
theorem lk_L_110 : Cond.methodLink RL 110 yX12_least ∈ BIG := big_mem 1517 rfl rfl
set_option maxRecDepth 100000 in
theorem lk_L_111 : Cond.methodLink RL 111 yX11_lawful ∈ BIG := big_mem 1006 rfl rfl
set_option maxRecDepth 100000 in
theorem lk_L_114 : Cond.methodLink RL 114 yX12_lawful ∈ BIG := big_mem 1521 rfl rfl
set_option maxRecDepth 100000 in
theorem lk_L_115 : Cond.methodLink RL 115 yX11_result ∈ BIG := big_mem 1020 rfl rfl
set_option maxRecDepth 100000 in
theorem lk_L_118 : Cond.methodLink RL 118 yX12_result ∈ BIG := big_mem 1525 rfl rfl
set_option maxRecDepth 100000 in
theorem lk_L_119 : Cond.methodLink RL 119 yX11_guilty ∈ BIG := big_mem 1024 rfl rfl
set_option maxRecDepth 100000 in
theorem lk_L_122 : Cond.methodLink RL 122 yX12_guilty ∈ BIG := big_mem 1529 rfl rfl
set_option maxRecDepth 100000 in
theorem lk_L_123 : Cond.methodLink RL 123 yX11_ask ∈ BIG := big_mem 1046 rfl rfl
set_option maxRecDepth 100000 in
theorem lk_L_126 : Cond.methodLink RL 126 yX12_ask ∈ BIG := big_mem 1541 rfl rfl
set_option maxRecDepth 100000 in
theorem lk_L_127 : Cond.methodLink RL 127 yX11_undo ∈ BIG := big_mem 1060 rfl rfl
set_option maxRecDepth 100000 in
theorem lk_L_130 : Cond.methodLink RL 130 yX12_undo ∈ BIG := big_mem 1549 rfl rfl
set_option maxRecDepth 100000 in
theorem lk_L_131 : Cond.methodLink RL 131 yX11_keep ∈ BIG := big_mem 1072 rfl rfl
set_option maxRecDepth 100000 in
theorem lk_L_134 : Cond.methodLink RL 134 yX12_keep ∈ BIG := big_mem 1553 rfl rfl
set_option maxRecDepth 100000 in
theorem lk_L_135 : Cond.methodLink RL 135 yX11_back ∈ BIG := big_mem 1076 rfl rfl
set_option maxRecDepth 100000 in
theorem lk_L_138 : Cond.methodLink RL 138 yX12_back ∈ BIG := big_mem 1557 rfl rfl
set_option maxRecDepth 100000 in
theorem lk_L_139 : Cond.methodLink RL 139 yX11_count ∈ BIG := big_mem 1080 rfl rfl
set_option maxRecDepth 100000 in
theorem lk_L_142 : Cond.methodLink RL 142 yX12_count ∈ BIG := big_mem 1561 rfl rfl
set_option maxRecDepth 100000 in
theorem lk_X12_1 : Cond.methodLink RX12 1 objectInit ∈ BIG := big_mem 1099 rfl rfl
set_option maxRecDepth 100000 in
theorem lk_X12_73 : Cond.methodLink RX12 73 yX12_isIn ∈ BIG := big_mem 1190 rfl rfl
set_option maxRecDepth 100000 in
theorem lk_X12_83 : Cond.methodLink RX12 83 yX12_byteAt ∈ BIG := big_mem 1209 rfl rfl
set_option maxRecDepth 100000 in
theorem lk_X12_87 : Cond.methodLink RX12 87 yX12_next ∈ BIG := big_mem 1205 rfl rfl
set_option maxRecDepth 100000 in
theorem lk_X12_99 : Cond.methodLink RX12 99 yX12_isNumber ∈ BIG := big_mem 1227 rfl rfl
set_option maxRecDepth 100000 in
theorem lk_X12_103 : Cond.methodLink RX12 103 yX12_fails ∈ BIG := big_mem 1215 rfl rfl
set_option maxRecDepth 100000 in
theorem lk_X12_117 : Cond.methodLink RX12 117 yX12_passesWord ∈ BIG := big_mem 1223 rfl rfl
set_option maxRecDepth 100000 in
theorem lk_X12_120 : Cond.methodLink RX12 120 yX12_readsNumber ∈ BIG := big_mem 1233 rfl rfl
set_option maxRecDepth 100000 in
theorem lk_X12_133 : Cond.methodLink RX12 133 yX12_hasColumn ∈ BIG := big_mem 1250 rfl rfl
set_option maxRecDepth 100000 in
theorem lk_X12_137 : Cond.methodLink RX12 137 yX12_wordHere ∈ BIG := big_mem 1201 rfl rfl
set_option maxRecDepth 100000 in
theorem lk_X12_140 : Cond.methodLink RX12 140 yX12_readsLevels ∈ BIG := big_mem 1219 rfl rfl
set_option maxRecDepth 100000 in
theorem lk_X12_143 : Cond.methodLink RX12 143 yX12_readsStrength ∈ BIG := big_mem 1241 rfl rfl
set_option maxRecDepth 100000 in
theorem lk_X12_146 : Cond.methodLink RX12 146 yX12_readsNever ∈ BIG := big_mem 1246 rfl rfl
set_option maxRecDepth 100000 in
theorem lk_X12_149 : Cond.methodLink RX12 149 yX12_readsAll ∈ BIG := big_mem 1197 rfl rfl
set_option maxRecDepth 100000 in
theorem lk_X12_152 : Cond.methodLink RX12 152 yX12_copies ∈ BIG := big_mem 1254 rfl rfl
set_option maxRecDepth 100000 in
theorem lk_X12_156 : Cond.methodLink RX12 156 yX12_mixMany ∈ BIG := big_mem 1257 rfl rfl
set_option maxRecDepth 100000 in
theorem lk_X12_159 : Cond.methodLink RX12 159 yX12_laysMixes ∈ BIG := big_mem 1261 rfl rfl
set_option maxRecDepth 100000 in
theorem lk_X12_162 : Cond.methodLink RX12 162 yX12_canProbe ∈ BIG := big_mem 1281 rfl rfl
set_option maxRecDepth 100000 in
theorem lk_X12_171 : Cond.methodLink RX12 171 yX12_never ∈ BIG := big_mem 1297 rfl rfl
set_option maxRecDepth 100000 in
theorem lk_X12_175 : Cond.methodLink RX12 175 yX12_nextLevel ∈ BIG := big_mem 1289 rfl rfl
set_option maxRecDepth 100000 in
theorem lk_X12_178 : Cond.methodLink RX12 178 yX12_breaks ∈ BIG := big_mem 1293 rfl rfl
set_option maxRecDepth 100000 in
theorem lk_X12_182 : Cond.methodLink RX12 182 yX12_fillings ∈ BIG := big_mem 1285 rfl rfl
set_option maxRecDepth 100000 in
theorem lk_X12_186 : Cond.methodLink RX12 186 yX12_beginsSet ∈ BIG := big_mem 1265 rfl rfl
set_option maxRecDepth 100000 in
theorem lk_X12_190 : Cond.methodLink RX12 190 yX12_levelsOfSet ∈ BIG := big_mem 1269 rfl rfl
set_option maxRecDepth 100000 in
theorem lk_X12_193 : Cond.methodLink RX12 193 yX12_levelOf ∈ BIG := big_mem 1273 rfl rfl
set_option maxRecDepth 100000 in
theorem lk_X12_197 : Cond.methodLink RX12 197 yX12_nextSet ∈ BIG := big_mem 1277 rfl rfl
set_option maxRecDepth 100000 in
theorem lk_X12_200 : Cond.methodLink RX12 200 yX12_cellAt ∈ BIG := big_mem 1326 rfl rfl
set_option maxRecDepth 100000 in
theorem lk_X12_203 : Cond.methodLink RX12 203 yX12_hasMix ∈ BIG := big_mem 1322 rfl rfl
set_option maxRecDepth 100000 in
theorem lk_X12_206 : Cond.methodLink RX12 206 yX12_rowsWith ∈ BIG := big_mem 1318 rfl rfl
set_option maxRecDepth 100000 in
theorem lk_X12_209 : Cond.methodLink RX12 209 yX12_isColumn ∈ BIG := big_mem 1305 rfl rfl
set_option maxRecDepth 100000 in
theorem lk_X12_212 : Cond.methodLink RX12 212 yX12_isPlan ∈ BIG := big_mem 1313 rfl rfl
set_option maxRecDepth 100000 in
theorem lk_X12_217 : Cond.methodLink RX12 217 yX12_firstWith ∈ BIG := big_mem 1330 rfl rfl
set_option maxRecDepth 100000 in
theorem lk_X12_220 : Cond.methodLink RX12 220 yX12_reads ∈ BIG := big_mem 1342 rfl rfl
set_option maxRecDepth 100000 in
theorem lk_X12_223 : Cond.methodLink RX12 223 yX12_isGiven ∈ BIG := big_mem 1338 rfl rfl
set_option maxRecDepth 100000 in
theorem lk_X12_226 : Cond.methodLink RX12 226 yX12_probes ∈ BIG := big_mem 1346 rfl rfl
set_option maxRecDepth 100000 in
theorem lk_X12_230 : Cond.methodLink RX12 230 yX12_keepsAct ∈ BIG := big_mem 1350 rfl rfl
set_option maxRecDepth 100000 in
theorem lk_X12_233 : Cond.methodLink RX12 233 yX12_comes ∈ BIG := big_mem 1354 rfl rfl
set_option maxRecDepth 100000 in
theorem lk_X12_236 : Cond.methodLink RX12 236 yX12_isRow ∈ BIG := big_mem 1362 rfl rfl
set_option maxRecDepth 100000 in
theorem lk_X12_241 : Cond.methodLink RX12 241 yX12_probesRow ∈ BIG := big_mem 1367 rfl rfl
set_option maxRecDepth 100000 in
theorem lk_X12_244 : Cond.methodLink RX12 244 yX12_copiesRow ∈ BIG := big_mem 1383 rfl rfl
set_option maxRecDepth 100000 in
theorem lk_X12_248 : Cond.methodLink RX12 248 yX12_drops ∈ BIG := big_mem 1379 rfl rfl
set_option maxRecDepth 100000 in
theorem lk_X12_251 : Cond.methodLink RX12 251 yX12_laysOpen ∈ BIG := big_mem 1391 rfl rfl
set_option maxRecDepth 100000 in
theorem lk_X12_256 : Cond.methodLink RX12 256 yX12_weight ∈ BIG := big_mem 1407 rfl rfl
set_option maxRecDepth 100000 in
theorem lk_X12_260 : Cond.methodLink RX12 260 yX12_canWith ∈ BIG := big_mem 1412 rfl rfl
set_option maxRecDepth 100000 in
theorem lk_X12_264 : Cond.methodLink RX12 264 yX12_hopeOf ∈ BIG := big_mem 1403 rfl rfl
set_option maxRecDepth 100000 in
theorem lk_X12_268 : Cond.methodLink RX12 268 yX12_laysGreedy ∈ BIG := big_mem 1420 rfl rfl
set_option maxRecDepth 100000 in
theorem lk_X12_271 : Cond.methodLink RX12 271 yX12_gainOf ∈ BIG := big_mem 1424 rfl rfl
set_option maxRecDepth 100000 in
theorem lk_X12_274 : Cond.methodLink RX12 274 yX12_times ∈ BIG := big_mem 1451 rfl rfl
set_option maxRecDepth 100000 in
theorem lk_X12_277 : Cond.methodLink RX12 277 yX12_plus ∈ BIG := big_mem 1454 rfl rfl
set_option maxRecDepth 100000 in
theorem lk_X12_280 : Cond.methodLink RX12 280 yX12_valueAt ∈ BIG := big_mem 1447 rfl rfl
set_option maxRecDepth 100000 in
theorem lk_X12_283 : Cond.methodLink RX12 283 yX12_fieldFor ∈ BIG := big_mem 1436 rfl rfl
set_option maxRecDepth 100000 in
theorem lk_X12_286 : Cond.methodLink RX12 286 yX12_power ∈ BIG := big_mem 1440 rfl rfl
set_option maxRecDepth 100000 in
theorem lk_X12_289 : Cond.methodLink RX12 289 yX12_laysPolynomial ∈ BIG := big_mem 1443 rfl rfl
set_option maxRecDepth 100000 in
theorem lk_X12_292 : Cond.methodLink RX12 292 yX12_moreBy ∈ BIG := big_mem 1469 rfl rfl
set_option maxRecDepth 100000 in
theorem lk_X12_295 : Cond.methodLink RX12 295 yX12_settles ∈ BIG := big_mem 1465 rfl rfl
set_option maxRecDepth 100000 in
theorem lk_X12_298 : Cond.methodLink RX12 298 yX12_isNeeded ∈ BIG := big_mem 1477 rfl rfl
set_option maxRecDepth 100000 in
theorem lk_X12_301 : Cond.methodLink RX12 301 yX12_newIn ∈ BIG := big_mem 1485 rfl rfl
set_option maxRecDepth 100000 in
theorem lk_X12_304 : Cond.methodLink RX12 304 yX12_bringsTo ∈ BIG := big_mem 1489 rfl rfl
set_option maxRecDepth 100000 in
theorem lk_X12_314 : Cond.methodLink RX12 314 yX12_canGreedy ∈ BIG := big_mem 1497 rfl rfl
set_option maxRecDepth 100000 in
theorem lk_X12_317 : Cond.methodLink RX12 317 yX12_draw ∈ BIG := big_mem 1501 rfl rfl
set_option maxRecDepth 100000 in
theorem lk_X12_320 : Cond.methodLink RX12 320 yX12_hasLevels ∈ BIG := big_mem 1537 rfl rfl
set_option maxRecDepth 100000 in
theorem lk_X12_323 : Cond.methodLink RX12 323 yX12_isGuilty ∈ BIG := big_mem 1533 rfl rfl
set_option maxRecDepth 100000 in
theorem lk_X12_326 : Cond.methodLink RX12 326 yX12_guiltyIn ∈ BIG := big_mem 1545 rfl rfl
set_option maxRecDepth 100000 in
theorem lk_X12_329 : Cond.methodLink RX12 329 yX12_freeIn ∈ BIG := big_mem 1574 rfl rfl
set_option maxRecDepth 100000 in
theorem lk_X12_334 : Cond.methodLink RX12 334 yX12_canMany ∈ BIG := big_mem 1566 rfl rfl
set_option maxRecDepth 100000 in
theorem lk_X12_337 : Cond.methodLink RX12 337 yX12_freeMany ∈ BIG := big_mem 1570 rfl rfl
set_option maxRecDepth 100000 in
theorem lk_X12_340 : Cond.methodLink RX12 340 yX12_results ∈ BIG := big_mem 1578 rfl rfl
set_option maxRecDepth 100000 in
theorem lk_J0_335 : Cond.methodLink RJ0 335 yJ0_coder_7d493 ∈ BIG := big_mem 488 rfl rfl
set_option maxRecDepth 100000 in
theorem lk_J0_492 : Cond.methodLink RJ0 492 yJ0_isLatin1_aae02 ∈ BIG := big_mem 502 rfl rfl
set_option maxRecDepth 100000 in
theorem lk_J0_495 : Cond.methodLink RJ0 495 yJ1_charAt_3b067 ∈ BIG := big_mem 506 rfl rfl
set_option maxRecDepth 100000 in
theorem lk_J0_498 : Cond.methodLink RJ0 498 yJ2_charAt_3b067 ∈ BIG := big_mem 517 rfl rfl
set_option maxRecDepth 100000 in
theorem lk_J0_1059 : Cond.methodLink RJ0 1059 yJ3_checkIndex_8e157 ∈ BIG := big_mem 514 rfl rfl
set_option maxRecDepth 100000 in
theorem lk_J1_9 : Cond.methodLink RJ1 9 yJ0_checkIndex_df160 ∈ BIG := big_mem 509 rfl rfl
set_option maxRecDepth 100000 in
theorem lk_J2_48 : Cond.methodLink RJ2 48 yJ2_length_9d52b ∈ BIG := big_mem 523 rfl rfl
set_option maxRecDepth 100000 in
theorem lk_J2_67 : Cond.methodLink RJ2 67 yJ2_checkIndex_2214a ∈ BIG := big_mem 520 rfl rfl
set_option maxRecDepth 100000 in
theorem lk_J2_71 : Cond.methodLink RJ2 71 yJ2_getChar_3b067 ∈ BIG := big_mem 527 rfl rfl
set_option maxRecDepth 100000 in
theorem lk_J2_414 : Cond.methodLink RJ2 414 yJ0_checkIndex_df160 ∈ BIG := big_mem 526 rfl rfl
set_option maxRecDepth 100000 in
theorem nk_X11_9 : Cond.methodLinkNest RX11 9 yX10_init "MixCover" ∈ nestW := nest_mem 137 rfl
set_option maxRecDepth 100000 in
theorem nk_X11_18 : Cond.methodLinkNest RX11 18 yX5_init "MixCover" ∈ nestW := nest_mem 154 rfl
set_option maxRecDepth 100000 in
theorem nk_X11_25 : Cond.methodLinkNest RX11 25 yX8_init "MixCover" ∈ nestW := nest_mem 262 rfl
set_option maxRecDepth 100000 in
theorem nk_X11_32 : Cond.methodLinkNest RX11 32 yX2_init "MixCover" ∈ nestW := nest_mem 310 rfl
set_option maxRecDepth 100000 in
theorem nk_X11_39 : Cond.methodLinkNest RX11 39 yX6_init "MixCover" ∈ nestW := nest_mem 343 rfl
set_option maxRecDepth 100000 in
theorem nk_X11_46 : Cond.methodLinkNest RX11 46 yX3_init "MixCover" ∈ nestW := nest_mem 368 rfl
set_option maxRecDepth 100000 in
theorem nk_X11_53 : Cond.methodLinkNest RX11 53 yX9_init "MixCover" ∈ nestW := nest_mem 387 rfl
set_option maxRecDepth 100000 in
theorem nk_X11_251 : Cond.methodLinkNest RX11 251 yX4_lawfulIn "MixCover" ∈ nestW := nest_mem 1011 rfl
set_option maxRecDepth 100000 in
theorem nk_X0_55 : Cond.methodLinkNest RX0 55 yX11_levelIn "MixCover" ∈ nestW := nest_mem 686 rfl
set_option maxRecDepth 100000 in
theorem nk_X2_11 : Cond.methodLinkNest RX2 11 yX0_init "MixCover" ∈ nestW := nest_mem 315 rfl
set_option maxRecDepth 100000 in
theorem nk_X2_53 : Cond.methodLinkNest RX2 53 yX4_lawfulRow "MixCover" ∈ nestW := nest_mem 648 rfl
set_option maxRecDepth 100000 in
theorem nk_X2_85 : Cond.methodLinkNest RX2 85 yX11_levelIn "MixCover" ∈ nestW := nest_mem 722 rfl
set_option maxRecDepth 100000 in
theorem nk_X3_11 : Cond.methodLinkNest RX3 11 yX7_init "MixCover" ∈ nestW := nest_mem 373 rfl
set_option maxRecDepth 100000 in
theorem nk_X4_34 : Cond.methodLinkNest RX4 34 yX11_columnsOf "MixCover" ∈ nestW := nest_mem 588 rfl
set_option maxRecDepth 100000 in
theorem nk_X4_44 : Cond.methodLinkNest RX4 44 yX11_levelIn "MixCover" ∈ nestW := nest_mem 989 rfl
set_option maxRecDepth 100000 in
theorem nk_X5_11 : Cond.methodLinkNest RX5 11 yX4_init "MixCover" ∈ nestW := nest_mem 160 rfl
set_option maxRecDepth 100000 in
theorem nk_X5_20 : Cond.methodLinkNest RX5 20 yX0_init "MixCover" ∈ nestW := nest_mem 204 rfl
set_option maxRecDepth 100000 in
theorem nk_X5_145 : Cond.methodLinkNest RX5 145 yX11_levelIn "MixCover" ∈ nestW := nest_mem 581 rfl
set_option maxRecDepth 100000 in
theorem nk_X6_46 : Cond.methodLinkNest RX6 46 yX4_lawfulRow "MixCover" ∈ nestW := nest_mem 819 rfl
set_option maxRecDepth 100000 in
theorem nk_X6_70 : Cond.methodLinkNest RX6 70 yX11_columnsOf "MixCover" ∈ nestW := nest_mem 828 rfl
set_option maxRecDepth 100000 in
theorem nk_X6_87 : Cond.methodLinkNest RX6 87 yX11_levelIn "MixCover" ∈ nestW := nest_mem 825 rfl
set_option maxRecDepth 100000 in
theorem nk_X8_9 : Cond.methodLinkNest RX8 9 yX4_init "MixCover" ∈ nestW := nest_mem 267 rfl
set_option maxRecDepth 100000 in
theorem nk_X8_18 : Cond.methodLinkNest RX8 18 yX7_init "MixCover" ∈ nestW := nest_mem 270 rfl
set_option maxRecDepth 100000 in
theorem nk_X9_20 : Cond.methodLinkNest RX9 20 yX0_init "MixCover" ∈ nestW := nest_mem 392 rfl
set_option maxRecDepth 100000 in
theorem cn_X11_175 : Cond.constantLong RX11 175 (-1) ∈ BIG := big_mem 813 rfl rfl
set_option maxRecDepth 100000 in
theorem cn_X11_306 : Cond.constant RX11 306 (1103515245) ∈ BIG := big_mem 982 rfl rfl
set_option maxRecDepth 100000 in
theorem cn_X11_307 : Cond.constant RX11 307 (2147483647) ∈ BIG := big_mem 983 rfl rfl
set_option maxRecDepth 100000 in
theorem cn_X11_308 : Cond.constant RX11 308 (65536) ∈ BIG := big_mem 984 rfl rfl
set_option maxRecDepth 100000 in
theorem cn_X11_321 : Cond.constant RX11 321 (286331153) ∈ BIG := big_mem 591 rfl rfl
set_option maxRecDepth 100000 in
theorem cn_X6_105 : Cond.constantLong RX6 105 (-1) ∈ BIG := big_mem 852 rfl rfl
set_option maxRecDepth 100000 in
theorem cn_X12_91 : Cond.constantLong RX12 91 (48) ∈ BIG := big_mem 1231 rfl rfl
set_option maxRecDepth 100000 in
theorem cn_X12_93 : Cond.constantLong RX12 93 (57) ∈ BIG := big_mem 1232 rfl rfl
set_option maxRecDepth 100000 in
theorem cn_X12_95 : Cond.constantLong RX12 95 (97) ∈ BIG := big_mem 1213 rfl rfl
set_option maxRecDepth 100000 in
theorem cn_X12_97 : Cond.constantLong RX12 97 (122) ∈ BIG := big_mem 1214 rfl rfl
set_option maxRecDepth 100000 in
theorem cn_X12_110 : Cond.constantLong RX12 110 (9999) ∈ BIG := big_mem 1237 rfl rfl
set_option maxRecDepth 100000 in
theorem cn_X12_112 : Cond.constantLong RX12 112 (10) ∈ BIG := big_mem 1238 rfl rfl
set_option maxRecDepth 100000 in
theorem cn_X12_123 : Cond.constantLong RX12 123 (2) ∈ BIG := big_mem 1239 rfl rfl
set_option maxRecDepth 100000 in
theorem cn_X12_125 : Cond.constantLong RX12 125 (4) ∈ BIG := big_mem 1240 rfl rfl
set_option maxRecDepth 100000 in
theorem cn_X12_131 : Cond.constantLong RX12 131 (3) ∈ BIG := big_mem 1245 rfl rfl
set_option maxRecDepth 100000 in
theorem cn_X12_215 : Cond.constantLong RX12 215 (8) ∈ BIG := big_mem 1317 rfl rfl
set_option maxRecDepth 100000 in
theorem cn_X12_239 : Cond.constantLong RX12 239 (-1) ∈ BIG := big_mem 1366 rfl rfl
set_option maxRecDepth 100000 in
theorem cn_X12_254 : Cond.constantLong RX12 254 (60) ∈ BIG := big_mem 1411 rfl rfl
set_option maxRecDepth 100000 in
theorem cn_X12_307 : Cond.constantLong RX12 307 (1103515245) ∈ BIG := big_mem 1505 rfl rfl
set_option maxRecDepth 100000 in
theorem cn_X12_309 : Cond.constantLong RX12 309 (12345) ∈ BIG := big_mem 1506 rfl rfl
set_option maxRecDepth 100000 in
theorem cn_X12_311 : Cond.constantLong RX12 311 (2147483648) ∈ BIG := big_mem 1507 rfl rfl
set_option maxRecDepth 100000 in
theorem cn_X12_313 : Cond.constant RX12 313 (65536) ∈ BIG := big_mem 1508 rfl rfl
set_option maxRecDepth 100000 in
theorem cn_X12_332 : Cond.constantLong RX12 332 (9) ∈ BIG := big_mem 1565 rfl rfl
set_option maxRecDepth 100000 in
theorem cn_J6_265 : Cond.constant RJ6 265 (1431655765) ∈ BIG := big_mem 975 rfl rfl
set_option maxRecDepth 100000 in
theorem cn_J6_266 : Cond.constant RJ6 266 (858993459) ∈ BIG := big_mem 976 rfl rfl
set_option maxRecDepth 100000 in
theorem cn_J6_267 : Cond.constant RJ6 267 (252645135) ∈ BIG := big_mem 977 rfl rfl
set_option maxRecDepth 100000 in
theorem ac_nat : Cond.native arraycopyName ∈ BIG := big_mem 603 rfl rfl
set_option maxRecDepth 100000 in
theorem ac_stat : Cond.static arraycopyName ∈ BIG := big_mem 602 rfl rfl
set_option maxRecDepth 100000 in
theorem ac_ini : Cond.initialized "java/lang/System" ∈ BIG := big_mem 124 rfl rfl
set_option maxRecDepth 100000 in
theorem mmin_stat : Cond.static Lib.Math.min.name ∈ BIG := big_mem 549 rfl rfl
set_option maxRecDepth 100000 in
theorem mmin_code : Cond.code Lib.Math.min.name Lib.Math.min.code 2 (some .int) ∈ BIG := big_mem 550 rfl rfl
set_option maxRecDepth 100000 in
theorem mmax_stat : Cond.static Lib.Math.max.name ∈ BIG := big_mem 662 rfl rfl
set_option maxRecDepth 100000 in
theorem mmax_code : Cond.code Lib.Math.max.name Lib.Math.max.code 2 (some .int) ∈ BIG := big_mem 663 rfl rfl
set_option maxRecDepth 100000 in
theorem math_ini : Cond.initialized "java/lang/Math" ∈ BIG := big_mem 123 rfl rfl
theorem sh_0 : sh 0 = (0, 10) := by decide +kernel
theorem sh_1 : sh 1 = (0, 9) := by decide +kernel
theorem sh_2 : sh 2 = (1, 200) := by decide +kernel
theorem sh_3 : sh 3 = (0, 4) := by decide +kernel
theorem sh_4 : sh 4 = (0, 3) := by decide +kernel
theorem sh_5 : sh 5 = (1, 8) := by decide +kernel
theorem sh_6 : sh 6 = (1, 12) := by decide +kernel
theorem sh_7 : sh 7 = (1, 12) := by decide +kernel
theorem sh_8 : sh 8 = (0, 0) := by decide +kernel
theorem sh_9 : sh 9 = (1, 168) := by decide +kernel
theorem sh_10 : sh 10 = (1, 57) := by decide +kernel
theorem sh_11 : sh 11 = (1, 3) := by decide +kernel
theorem sh_12 : sh 12 = (1, 8) := by decide +kernel
theorem sh_13 : sh 13 = (1, 0) := by decide +kernel
theorem sh_14 : sh 14 = (0, 7) := by decide +kernel
theorem sh_15 : sh 15 = (0, 3) := by decide +kernel
theorem sh_16 : sh 16 = (1, 8) := by decide +kernel
theorem sh_17 : sh 17 = (1, 12) := by decide +kernel
theorem sh_18 : sh 18 = (1, 12) := by decide +kernel
theorem sh_19 : sh 19 = (0, 6) := by decide +kernel
theorem sh_20 : sh 20 = (1, 64) := by decide +kernel
theorem sh_21 : sh 21 = (1, 64) := by decide +kernel
theorem sh_22 : sh 22 = (0, 1) := by decide +kernel
theorem sh_23 : sh 23 = (0, 0) := by decide +kernel
theorem sh_24 : sh 24 = (1, 168) := by decide +kernel
theorem sh_25 : sh 25 = (1, 57) := by decide +kernel
theorem sh_26 : sh 26 = (1, 3) := by decide +kernel
theorem sh_27 : sh 27 = (1, 8) := by decide +kernel
theorem sh_28 : sh 28 = (1, 1200) := by decide +kernel
theorem sh_29 : sh 29 = (1, 1200) := by decide +kernel
theorem sh_30 : sh 30 = (1, 1200) := by decide +kernel
theorem sh_31 : sh 31 = (0, 5) := by decide +kernel
theorem sh_32 : sh 32 = (1, 1200) := by decide +kernel
theorem sh_33 : sh 33 = (1, 1200) := by decide +kernel
theorem sh_34 : sh 34 = (1, 1200) := by decide +kernel
theorem sh_35 : sh 35 = (1, 12) := by decide +kernel
theorem sh_36 : sh 36 = (0, 2) := by decide +kernel
theorem sh_37 : sh 37 = (0, 6) := by decide +kernel
theorem sh_38 : sh 38 = (1, 64) := by decide +kernel
theorem sh_39 : sh 39 = (1, 64) := by decide +kernel
theorem sh_40 : sh 40 = (1, 64) := by decide +kernel
theorem sh_41 : sh 41 = (3, 1200) := by decide +kernel
theorem sh_42 : sh 42 = (0, 8) := by decide +kernel
theorem sh_43 : sh 43 = (1, 56) := by decide +kernel
theorem sh_44 : sh 44 = (1, 56) := by decide +kernel
theorem sh_45 : sh 45 = (0, 0) := by decide +kernel
theorem sh_46 : sh 46 = (1, 168) := by decide +kernel
theorem sh_47 : sh 47 = (1, 57) := by decide +kernel
theorem sh_48 : sh 48 = (1, 3) := by decide +kernel
theorem sh_49 : sh 49 = (1, 8) := by decide +kernel
theorem sh_50 : sh 50 = (4, 8) := by decide +kernel
theorem sh_51 : sh 51 = (4, 2) := by decide +kernel
theorem sh_52 : sh 52 = (0, 7) := by decide +kernel
theorem sh_53 : sh 53 = (0, 3) := by decide +kernel
theorem sh_54 : sh 54 = (1, 8) := by decide +kernel
theorem sh_55 : sh 55 = (1, 12) := by decide +kernel
theorem sh_56 : sh 56 = (1, 12) := by decide +kernel
theorem sh_57 : sh 57 = (0, 6) := by decide +kernel
theorem sh_58 : sh 58 = (1, 64) := by decide +kernel
theorem sh_59 : sh 59 = (1, 64) := by decide +kernel
theorem sh_60 : sh 60 = (0, 7) := by decide +kernel
theorem sh_61 : sh 61 = (0, 3) := by decide +kernel
theorem sh_62 : sh 62 = (1, 8) := by decide +kernel
theorem sh_63 : sh 63 = (1, 12) := by decide +kernel
theorem sh_64 : sh 64 = (1, 12) := by decide +kernel
theorem sh_65 : sh 65 = (0, 6) := by decide +kernel
theorem sh_66 : sh 66 = (1, 64) := by decide +kernel
theorem sh_67 : sh 67 = (1, 64) := by decide +kernel
theorem sh_68 : sh 68 = (0, 7) := by decide +kernel
theorem sh_69 : sh 69 = (0, 3) := by decide +kernel
theorem sh_70 : sh 70 = (1, 8) := by decide +kernel
theorem sh_71 : sh 71 = (1, 12) := by decide +kernel
theorem sh_72 : sh 72 = (1, 12) := by decide +kernel
theorem sh_73 : sh 73 = (0, 6) := by decide +kernel
theorem sh_74 : sh 74 = (1, 64) := by decide +kernel
theorem sh_75 : sh 75 = (1, 64) := by decide +kernel
theorem sh_76 : sh 76 = (0, 7) := by decide +kernel
theorem sh_77 : sh 77 = (0, 3) := by decide +kernel
theorem sh_78 : sh 78 = (1, 8) := by decide +kernel
theorem sh_79 : sh 79 = (1, 12) := by decide +kernel
theorem sh_80 : sh 80 = (1, 12) := by decide +kernel
theorem sh_81 : sh 81 = (0, 6) := by decide +kernel
theorem sh_82 : sh 82 = (1, 64) := by decide +kernel
theorem sh_83 : sh 83 = (1, 64) := by decide +kernel
theorem sh_84 : sh 84 = (0, 7) := by decide +kernel
theorem sh_85 : sh 85 = (0, 3) := by decide +kernel
theorem sh_86 : sh 86 = (1, 8) := by decide +kernel
theorem sh_87 : sh 87 = (1, 12) := by decide +kernel
theorem sh_88 : sh 88 = (1, 12) := by decide +kernel
theorem sh_89 : sh 89 = (0, 6) := by decide +kernel
theorem sh_90 : sh 90 = (1, 64) := by decide +kernel
theorem sh_91 : sh 91 = (1, 64) := by decide +kernel
theorem sh_92 : sh 92 = (0, 7) := by decide +kernel
theorem sh_93 : sh 93 = (0, 3) := by decide +kernel
theorem sh_94 : sh 94 = (1, 8) := by decide +kernel
theorem sh_95 : sh 95 = (1, 12) := by decide +kernel
theorem sh_96 : sh 96 = (1, 12) := by decide +kernel
theorem sh_97 : sh 97 = (0, 6) := by decide +kernel
theorem sh_98 : sh 98 = (1, 64) := by decide +kernel
theorem sh_99 : sh 99 = (1, 64) := by decide +kernel
theorem sh_100 : sh 100 = (0, 7) := by decide +kernel
theorem sh_101 : sh 101 = (0, 3) := by decide +kernel
theorem sh_102 : sh 102 = (1, 8) := by decide +kernel
theorem sh_103 : sh 103 = (1, 12) := by decide +kernel
theorem sh_104 : sh 104 = (1, 12) := by decide +kernel
theorem sh_105 : sh 105 = (0, 6) := by decide +kernel
theorem sh_106 : sh 106 = (1, 64) := by decide +kernel
theorem sh_107 : sh 107 = (1, 64) := by decide +kernel
theorem sh_108 : sh 108 = (0, 7) := by decide +kernel
theorem sh_109 : sh 109 = (0, 3) := by decide +kernel
theorem sh_110 : sh 110 = (1, 8) := by decide +kernel
theorem sh_111 : sh 111 = (1, 12) := by decide +kernel
theorem sh_112 : sh 112 = (1, 12) := by decide +kernel
theorem sh_113 : sh 113 = (0, 6) := by decide +kernel
theorem sh_114 : sh 114 = (1, 64) := by decide +kernel
theorem sh_115 : sh 115 = (1, 64) := by decide +kernel
theorem sh_116 : sh 116 = (0, 7) := by decide +kernel
theorem sh_117 : sh 117 = (0, 3) := by decide +kernel
theorem sh_118 : sh 118 = (1, 8) := by decide +kernel
theorem sh_119 : sh 119 = (1, 12) := by decide +kernel
theorem sh_120 : sh 120 = (1, 12) := by decide +kernel
theorem sh_121 : sh 121 = (0, 6) := by decide +kernel
theorem sh_122 : sh 122 = (1, 64) := by decide +kernel
theorem sh_123 : sh 123 = (1, 64) := by decide +kernel
theorem sh_124 : sh 124 = (0, 7) := by decide +kernel
theorem sh_125 : sh 125 = (0, 3) := by decide +kernel
theorem sh_126 : sh 126 = (1, 8) := by decide +kernel
theorem sh_127 : sh 127 = (1, 12) := by decide +kernel
theorem sh_128 : sh 128 = (1, 12) := by decide +kernel
theorem sh_129 : sh 129 = (0, 6) := by decide +kernel
theorem sh_130 : sh 130 = (1, 64) := by decide +kernel
theorem sh_131 : sh 131 = (1, 64) := by decide +kernel
theorem sh_132 : sh 132 = (0, 11) := by decide +kernel
theorem sh_133 : sh 133 = (2, 200) := by decide +kernel
theorem sh_134 : sh 134 = (2, 24) := by decide +kernel
theorem sh_135 : sh 135 = (1, 673) := by decide +kernel
theorem sh_136 : sh 136 = (1, 673) := by decide +kernel
theorem sh_137 : sh 137 = (1, 673) := by decide +kernel
theorem sh_138 : sh 138 = (1, 8) := by decide +kernel
theorem sh_139 : sh 139 = (1, 8) := by decide +kernel
theorem sh_140 : sh 140 = (1, 3600) := by decide +kernel
theorem sh_141 : sh 141 = (1, 3600) := by decide +kernel
theorem sh_142 : sh 142 = (3, 1200) := by decide +kernel
theorem sh_143 : sh 143 = (1, 3) := by decide +kernel
theorem sh_144 : sh 144 = (3, 1200) := by decide +kernel
theorem sh_145 : sh 145 = (1, 8) := by decide +kernel
theorem sh_146 : sh 146 = (1, 8) := by decide +kernel
theorem sh_147 : sh 147 = (1, 3) := by decide +kernel
theorem sh_148 : sh 148 = (1, 9) := by decide +kernel
theorem sh_149 : sh 149 = (1, 5384) := by decide +kernel
theorem sh_150 : sh 150 = (1, 1346) := by decide +kernel
theorem sh_151 : sh 151 = (3, 2) := by decide +kernel
theorem shd_7_1 {c : Nat} (h : sh c = (0, 7)) : sh (c + 1) = (0, 3) := sh_step (a := 0) (b := 7) (by decide +kernel) (by decide) h
theorem shd_7_2 {c : Nat} (h : sh c = (0, 7)) : sh (c + 2) = (1, 8) := sh_step (a := 0) (b := 7) (by decide +kernel) (by decide) h
theorem shd_7_3 {c : Nat} (h : sh c = (0, 7)) : sh (c + 3) = (1, 12) := sh_step (a := 0) (b := 7) (by decide +kernel) (by decide) h
theorem shd_7_4 {c : Nat} (h : sh c = (0, 7)) : sh (c + 4) = (1, 12) := sh_step (a := 0) (b := 7) (by decide +kernel) (by decide) h
theorem shd_7_5 {c : Nat} (h : sh c = (0, 7)) : sh (c + 5) = (0, 6) := sh_step (a := 0) (b := 7) (by decide +kernel) (by decide) h
theorem shd_7_6 {c : Nat} (h : sh c = (0, 7)) : sh (c + 6) = (1, 64) := sh_step (a := 0) (b := 7) (by decide +kernel) (by decide) h
theorem shd_7_7 {c : Nat} (h : sh c = (0, 7)) : sh (c + 7) = (1, 64) := sh_step (a := 0) (b := 7) (by decide +kernel) (by decide) h
theorem shd_3_1 {c : Nat} (h : sh c = (0, 3)) : sh (c + 1) = (1, 8) := sh_step (a := 0) (b := 3) (by decide +kernel) (by decide) h
theorem shd_3_2 {c : Nat} (h : sh c = (0, 3)) : sh (c + 2) = (1, 12) := sh_step (a := 0) (b := 3) (by decide +kernel) (by decide) h
theorem shd_3_3 {c : Nat} (h : sh c = (0, 3)) : sh (c + 3) = (1, 12) := sh_step (a := 0) (b := 3) (by decide +kernel) (by decide) h
theorem shd_6_1 {c : Nat} (h : sh c = (0, 6)) : sh (c + 1) = (1, 64) := sh_step (a := 0) (b := 6) (by decide +kernel) (by decide) h
theorem shd_6_2 {c : Nat} (h : sh c = (0, 6)) : sh (c + 2) = (1, 64) := sh_step (a := 0) (b := 6) (by decide +kernel) (by decide) h
theorem shd_0_1 {c : Nat} (h : sh c = (0, 0)) : sh (c + 1) = (1, 168) := sh_step (a := 0) (b := 0) (by decide +kernel) (by decide) h
theorem shd_0_2 {c : Nat} (h : sh c = (0, 0)) : sh (c + 2) = (1, 57) := sh_step (a := 0) (b := 0) (by decide +kernel) (by decide) h
theorem shd_0_3 {c : Nat} (h : sh c = (0, 0)) : sh (c + 3) = (1, 3) := sh_step (a := 0) (b := 0) (by decide +kernel) (by decide) h
theorem shd_0_4 {c : Nat} (h : sh c = (0, 0)) : sh (c + 4) = (1, 8) := sh_step (a := 0) (b := 0) (by decide +kernel) (by decide) h
theorem vp_lt {i : Int32} {n : Nat} (h : vp_in i n) : i.toNatClampNeg < n := Nat.not_le.mp fun q => h (Or.inr q)
theorem sh_past {k : Nat} (h : k < 8) : sh (stO 50 + 8 * k) = (0, 7) := by
  have h1 : ((List.range 8).all (fun k => decide (sh (stO 50 + 8 * k) = (0, 7)))) = true := by decide +kernel
  simpa using List.all_eq_true.mp h1 k (List.mem_range.mpr h)
theorem sh_shelf {k : Nat} (h : k < 2) : sh (stO 51 + 8 * k) = (0, 7) := by
  have h1 : ((List.range 2).all (fun k => decide (sh (stO 51 + 8 * k) = (0, 7)))) = true := by decide +kernel
  simpa using List.all_eq_true.mp h1 k (List.mem_range.mpr h)
