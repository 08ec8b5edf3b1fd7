theorem fl_X11_12 : Cond.fieldLink RX11 12 (kC 11) (kT 11 0).2.1 (kT 11 0).2.2.1 ∈ tb := (tb_c3 30 rfl rfl)
theorem fl_X11_19 : Cond.fieldLink RX11 19 (kC 11) (kT 11 1).2.1 (kT 11 1).2.2.1 ∈ tb := (tb_c3 31 rfl rfl)
theorem fl_X11_26 : Cond.fieldLink RX11 26 (kC 11) (kT 11 2).2.1 (kT 11 2).2.2.1 ∈ tb := (tb_c3 32 rfl rfl)
theorem fl_X11_32 : Cond.fieldLink RX11 32 (kC 11) (kT 11 3).2.1 (kT 11 3).2.2.1 ∈ tb := (tb_c3 33 rfl rfl)
theorem fl_X11_36 : Cond.fieldLink RX11 36 (kC 11) (kT 11 4).2.1 (kT 11 4).2.2.1 ∈ tb := (tb_c3 34 rfl rfl)
theorem fl_X11_41 : Cond.fieldLink RX11 41 (kC 11) (kT 11 5).2.1 (kT 11 5).2.2.1 ∈ tb := (tb_c3 35 rfl rfl)
theorem fl_X11_48 : Cond.fieldLink RX11 48 (kC 11) (kT 11 6).2.1 (kT 11 6).2.2.1 ∈ tb := (tb_c3 36 rfl rfl)
theorem fl_X11_55 : Cond.fieldLink RX11 55 (kC 11) (kT 11 7).2.1 (kT 11 7).2.2.1 ∈ tb := (tb_c3 37 rfl rfl)
theorem fl_X11_62 : Cond.fieldLink RX11 62 (kC 11) (kT 11 8).2.1 (kT 11 8).2.2.1 ∈ tb := (tb_c3 38 rfl rfl)
theorem fl_X11_66 : Cond.fieldLink RX11 66 (kC 11) (kT 11 9).2.1 (kT 11 9).2.2.1 ∈ tb := (tb_c3 39 rfl rfl)
theorem fl_X11_72 : Cond.fieldLink RX11 72 (kC 11) (kT 11 10).2.1 (kT 11 10).2.2.1 ∈ tb := (tb_c3 40 rfl rfl)
theorem fl_X11_76 : Cond.fieldLink RX11 76 (kC 11) (kT 11 11).2.1 (kT 11 11).2.2.1 ∈ tb := (tb_c3 41 rfl rfl)
theorem fl_X11_80 : Cond.fieldLink RX11 80 (kC 11) (kT 11 12).2.1 (kT 11 12).2.2.1 ∈ tb := (tb_c3 42 rfl rfl)
theorem fl_X11_84 : Cond.fieldLink RX11 84 (kC 11) (kT 11 13).2.1 (kT 11 13).2.2.1 ∈ tb := (tb_c3 43 rfl rfl)
theorem fl_X11_95 : Cond.fieldLink RX11 95 (kC 8) (kT 8 0).2.1 (kT 8 0).2.2.1 ∈ tb := (tb_c1 36 rfl rfl)
theorem fl_X11_103 : Cond.fieldLink RX11 103 (kC 8) (kT 8 1).2.1 (kT 8 1).2.2.1 ∈ tb := (tb_c1 40 rfl rfl)
theorem fl_X11_113 : Cond.fieldLink RX11 113 (kC 6) (kT 6 2).2.1 (kT 6 2).2.2.1 ∈ tb := (tb_c2 233 rfl rfl)
theorem fl_X11_116 : Cond.fieldLink RX11 116 (kC 11) (kT 11 14).2.1 (kT 11 14).2.2.1 ∈ tb := (tb_c3 44 rfl rfl)
theorem fl_X11_122 : Cond.fieldLink RX11 122 (kC 11) (kT 11 15).2.1 (kT 11 15).2.2.1 ∈ tb := (tb_c3 45 rfl rfl)
theorem fl_X11_129 : Cond.fieldLink RX11 129 (kC 6) (kT 6 6).2.1 (kT 6 6).2.2.1 ∈ tb := (tb_c3 4 rfl rfl)
theorem fl_X11_168 : Cond.fieldLink RX11 168 (kC 3) (kT 3 17).2.1 (kT 3 17).2.2.1 ∈ tb := (tb_c2 16 rfl rfl)
theorem fl_X11_182 : Cond.fieldLink RX11 182 (kC 6) (kT 6 7).2.1 (kT 6 7).2.2.1 ∈ tb := (tb_c3 8 rfl rfl)
theorem fl_X11_192 : Cond.fieldLink RX11 192 (kC 9) (kT 9 8).2.1 (kT 9 8).2.2.1 ∈ tb := (tb_c2 144 rfl rfl)
theorem fl_X11_195 : Cond.fieldLink RX11 195 (kC 9) (kT 9 9).2.1 (kT 9 9).2.2.1 ∈ tb := (tb_c2 147 rfl rfl)
theorem fl_X11_198 : Cond.fieldLink RX11 198 (kC 9) (kT 9 10).2.1 (kT 9 10).2.2.1 ∈ tb := (tb_c2 149 rfl rfl)
theorem fl_X11_201 : Cond.fieldLink RX11 201 (kC 9) (kT 9 11).2.1 (kT 9 11).2.2.1 ∈ tb := (tb_c2 151 rfl rfl)
theorem fl_X11_207 : Cond.fieldLink RX11 207 (kC 9) (kT 9 1).2.1 (kT 9 1).2.2.1 ∈ tb := (tb_c2 112 rfl rfl)
theorem fl_X11_210 : Cond.fieldLink RX11 210 (kC 9) (kT 9 2).2.1 (kT 9 2).2.2.1 ∈ tb := (tb_c2 118 rfl rfl)
theorem fl_X11_213 : Cond.fieldLink RX11 213 (kC 9) (kT 9 3).2.1 (kT 9 3).2.2.1 ∈ tb := (tb_c2 124 rfl rfl)
theorem fl_X11_216 : Cond.fieldLink RX11 216 (kC 9) (kT 9 4).2.1 (kT 9 4).2.2.1 ∈ tb := (tb_c2 130 rfl rfl)
theorem fl_X11_219 : Cond.fieldLink RX11 219 (kC 9) (kT 9 5).2.1 (kT 9 5).2.2.1 ∈ tb := (tb_c2 134 rfl rfl)
theorem fl_X11_222 : Cond.fieldLink RX11 222 (kC 9) (kT 9 6).2.1 (kT 9 6).2.2.1 ∈ tb := (tb_c2 138 rfl rfl)
theorem fl_X11_225 : Cond.fieldLink RX11 225 (kC 9) (kT 9 7).2.1 (kT 9 7).2.2.1 ∈ tb := (tb_c2 141 rfl rfl)
theorem fl_X11_237 : Cond.fieldLink RX11 237 (kC 9) (kT 9 0).2.1 (kT 9 0).2.2.1 ∈ tb := (tb_c2 106 rfl rfl)
theorem fl_X11_241 : Cond.fieldLink RX11 241 (kC 7) (kT 7 0).2.1 (kT 7 0).2.2.1 ∈ tb := (tb_c1 148 rfl rfl)
theorem fl_X11_252 : Cond.fieldLink RX11 252 (kC 6) (kT 6 5).2.1 (kT 6 5).2.2.1 ∈ tb := (tb_c3 2 rfl rfl)
theorem fl_X11_292 : Cond.fieldLink RX11 292 (kC 6) (kT 6 0).2.1 (kT 6 0).2.2.1 ∈ tb := (tb_c2 225 rfl rfl)
theorem fl_X11_295 : Cond.fieldLink RX11 295 (kC 6) (kT 6 1).2.1 (kT 6 1).2.2.1 ∈ tb := (tb_c2 230 rfl rfl)
theorem fl_X11_301 : Cond.fieldLink RX11 301 (kC 6) (kT 6 3).2.1 (kT 6 3).2.2.1 ∈ tb := (tb_c2 235 rfl rfl)
theorem fl_X11_304 : Cond.fieldLink RX11 304 (kC 6) (kT 6 4).2.1 (kT 6 4).2.2.1 ∈ tb := (tb_c2 237 rfl rfl)
theorem fl_X11_307 : Cond.fieldLink RX11 307 (kC 3) (kT 3 5).2.1 (kT 3 5).2.2.1 ∈ tb := (tb_c1 236 rfl rfl)
theorem fl_X11_314 : Cond.fieldLink RX11 314 (kC 3) (kT 3 8).2.1 (kT 3 8).2.2.1 ∈ tb := (tb_c2 2 rfl rfl)
theorem fl_X11_317 : Cond.fieldLink RX11 317 (kC 3) (kT 3 6).2.1 (kT 3 6).2.2.1 ∈ tb := (tb_c1 239 rfl rfl)
theorem fl_X11_325 : Cond.fieldLink RX11 325 (kC 4) (kT 4 0).2.1 (kT 4 0).2.2.1 ∈ tb := (tb_c4 107 rfl rfl)
theorem fl_X11_349 : Cond.fieldLink RX11 349 (kC 3) (kT 3 3).2.1 (kT 3 3).2.2.1 ∈ tb := (tb_c1 229 rfl rfl)
theorem fl_X11_350 : Cond.fieldLink RX11 350 (kC 3) (kT 3 1).2.1 (kT 3 1).2.2.1 ∈ tb := (tb_c1 221 rfl rfl)
theorem fl_X11_351 : Cond.fieldLink RX11 351 (kC 3) (kT 3 4).2.1 (kT 3 4).2.2.1 ∈ tb := (tb_c1 233 rfl rfl)
theorem fl_X11_352 : Cond.fieldLink RX11 352 (kC 3) (kT 3 2).2.1 (kT 3 2).2.2.1 ∈ tb := (tb_c1 225 rfl rfl)
theorem fl_X11_357 : Cond.fieldLink RX11 357 (kC 7) (kT 7 1).2.1 (kT 7 1).2.2.1 ∈ tb := (tb_c1 150 rfl rfl)
theorem fl_X11_360 : Cond.fieldLink RX11 360 (kC 7) (kT 7 2).2.1 (kT 7 2).2.2.1 ∈ tb := (tb_c1 152 rfl rfl)
theorem fl_X11_366 : Cond.fieldLink RX11 366 (kC 3) (kT 3 0).2.1 (kT 3 0).2.2.1 ∈ tb := (tb_c1 217 rfl rfl)
theorem fl_X11_376 : Cond.fieldLink RX11 376 (kC 3) (kT 3 7).2.1 (kT 3 7).2.2.1 ∈ tb := (tb_c2 1 rfl rfl)
theorem fl_X11_387 : Cond.fieldLink RX11 387 (kC 0) (kT 0 0).2.1 (kT 0 0).2.2.1 ∈ tb := (tb_c2 62 rfl rfl)
theorem fl_X11_414 : Cond.fieldLink RX11 414 (kC 0) (kT 0 1).2.1 (kT 0 1).2.2.1 ∈ tb := (tb_c2 64 rfl rfl)
theorem fl_X11_422 : Cond.fieldLink RX11 422 (kC 0) (kT 0 2).2.1 (kT 0 2).2.2.1 ∈ tb := (tb_c2 66 rfl rfl)
theorem fl_X11_432 : Cond.fieldLink RX11 432 (kC 10) (kT 10 0).2.1 (kT 10 0).2.2.1 ∈ tb := (tb_c1 173 rfl rfl)
theorem fl_X11_443 : Cond.fieldLink RX11 443 (kC 10) (kT 10 1).2.1 (kT 10 1).2.2.1 ∈ tb := (tb_c1 175 rfl rfl)
theorem fl_X11_446 : Cond.fieldLink RX11 446 (kC 10) (kT 10 2).2.1 (kT 10 2).2.2.1 ∈ tb := (tb_c1 177 rfl rfl)
theorem fl_X11_452 : Cond.fieldLink RX11 452 (kC 6) (kT 6 8).2.1 (kT 6 8).2.2.1 ∈ tb := (tb_c3 10 rfl rfl)
theorem fl_X11_463 : Cond.fieldLink RX11 463 (kC 1) (kT 1 0).2.1 (kT 1 0).2.2.1 ∈ tb := (tb_c2 184 rfl rfl)
theorem fl_X11_476 : Cond.fieldLink RX11 476 (kC 1) (kT 1 1).2.1 (kT 1 1).2.2.1 ∈ tb := (tb_c2 187 rfl rfl)
theorem fl_X11_477 : Cond.fieldLink RX11 477 (kC 1) (kT 1 2).2.1 (kT 1 2).2.2.1 ∈ tb := (tb_c2 192 rfl rfl)
theorem fl_X11_478 : Cond.fieldLink RX11 478 (kC 1) (kT 1 3).2.1 (kT 1 3).2.2.1 ∈ tb := (tb_c2 197 rfl rfl)
theorem fl_X11_479 : Cond.fieldLink RX11 479 (kC 1) (kT 1 4).2.1 (kT 1 4).2.2.1 ∈ tb := (tb_c2 202 rfl rfl)
theorem fl_X11_480 : Cond.fieldLink RX11 480 (kC 1) (kT 1 5).2.1 (kT 1 5).2.2.1 ∈ tb := (tb_c2 207 rfl rfl)
theorem fl_X0_9 : Cond.fieldLink RX0 9 (kC 0) (kT 0 0).2.1 (kT 0 0).2.2.1 ∈ tb := (tb_c2 61 rfl rfl)
theorem fl_X0_21 : Cond.fieldLink RX0 21 (kC 0) (kT 0 1).2.1 (kT 0 1).2.2.1 ∈ tb := (tb_c2 63 rfl rfl)
theorem fl_X0_25 : Cond.fieldLink RX0 25 (kC 0) (kT 0 2).2.1 (kT 0 2).2.2.1 ∈ tb := (tb_c2 65 rfl rfl)
theorem fl_X0_27 : Cond.fieldLink RX0 27 (kC 3) (kT 3 13).2.1 (kT 3 13).2.2.1 ∈ tb := (tb_c2 7 rfl rfl)
theorem fl_X0_30 : Cond.fieldLink RX0 30 (kC 0) (kT 0 3).2.1 (kT 0 3).2.2.1 ∈ tb := (tb_c2 67 rfl rfl)
theorem fl_X0_31 : Cond.fieldLink RX0 31 (kC 3) (kT 3 14).2.1 (kT 3 14).2.2.1 ∈ tb := (tb_c2 9 rfl rfl)
theorem fl_X0_34 : Cond.fieldLink RX0 34 (kC 0) (kT 0 4).2.1 (kT 0 4).2.2.1 ∈ tb := (tb_c2 68 rfl rfl)
theorem fl_X0_35 : Cond.fieldLink RX0 35 (kC 3) (kT 3 15).2.1 (kT 3 15).2.2.1 ∈ tb := (tb_c2 11 rfl rfl)
theorem fl_X0_38 : Cond.fieldLink RX0 38 (kC 0) (kT 0 5).2.1 (kT 0 5).2.2.1 ∈ tb := (tb_c2 69 rfl rfl)
theorem fl_X0_39 : Cond.fieldLink RX0 39 (kC 3) (kT 3 16).2.1 (kT 3 16).2.2.1 ∈ tb := (tb_c2 13 rfl rfl)
theorem fl_X0_42 : Cond.fieldLink RX0 42 (kC 0) (kT 0 6).2.1 (kT 0 6).2.2.1 ∈ tb := (tb_c2 70 rfl rfl)
theorem fl_X1_9 : Cond.fieldLink RX1 9 (kC 1) (kT 1 0).2.1 (kT 1 0).2.2.1 ∈ tb := (tb_c2 182 rfl rfl)
theorem fl_X1_15 : Cond.fieldLink RX1 15 (kC 1) (kT 1 1).2.1 (kT 1 1).2.2.1 ∈ tb := (tb_c2 185 rfl rfl)
theorem fl_X1_19 : Cond.fieldLink RX1 19 (kC 1) (kT 1 2).2.1 (kT 1 2).2.2.1 ∈ tb := (tb_c2 188 rfl rfl)
theorem fl_X1_22 : Cond.fieldLink RX1 22 (kC 1) (kT 1 3).2.1 (kT 1 3).2.2.1 ∈ tb := (tb_c2 193 rfl rfl)
theorem fl_X1_25 : Cond.fieldLink RX1 25 (kC 1) (kT 1 4).2.1 (kT 1 4).2.2.1 ∈ tb := (tb_c2 198 rfl rfl)
theorem fl_X1_28 : Cond.fieldLink RX1 28 (kC 1) (kT 1 5).2.1 (kT 1 5).2.2.1 ∈ tb := (tb_c2 203 rfl rfl)
theorem fl_X2_14 : Cond.fieldLink RX2 14 (kC 2) (kT 2 0).2.1 (kT 2 0).2.2.1 ∈ tb := (tb_c1 87 rfl rfl)
theorem fl_X2_33 : Cond.fieldLink RX2 33 (kC 8) (kT 8 1).2.1 (kT 8 1).2.2.1 ∈ tb := (tb_c1 38 rfl rfl)
theorem fl_X2_41 : Cond.fieldLink RX2 41 (kC 8) (kT 8 2).2.1 (kT 8 2).2.2.1 ∈ tb := (tb_c1 42 rfl rfl)
theorem fl_X2_44 : Cond.fieldLink RX2 44 (kC 8) (kT 8 4).2.1 (kT 8 4).2.2.1 ∈ tb := (tb_c1 47 rfl rfl)
theorem fl_X2_51 : Cond.fieldLink RX2 51 (kC 6) (kT 6 2).2.1 (kT 6 2).2.2.1 ∈ tb := (tb_c2 232 rfl rfl)
theorem fl_X2_77 : Cond.fieldLink RX2 77 (kC 6) (kT 6 0).2.1 (kT 6 0).2.2.1 ∈ tb := (tb_c2 224 rfl rfl)
theorem fl_X2_80 : Cond.fieldLink RX2 80 (kC 6) (kT 6 1).2.1 (kT 6 1).2.2.1 ∈ tb := (tb_c2 229 rfl rfl)
theorem fl_X2_83 : Cond.fieldLink RX2 83 (kC 8) (kT 8 3).2.1 (kT 8 3).2.2.1 ∈ tb := (tb_c1 45 rfl rfl)
theorem fl_X2_90 : Cond.fieldLink RX2 90 (kC 6) (kT 6 7).2.1 (kT 6 7).2.2.1 ∈ tb := (tb_c3 7 rfl rfl)
theorem fl_X2_94 : Cond.fieldLink RX2 94 (kC 2) (kT 2 1).2.1 (kT 2 1).2.2.1 ∈ tb := (tb_c1 88 rfl rfl)
theorem fl_X2_97 : Cond.fieldLink RX2 97 (kC 2) (kT 2 2).2.1 (kT 2 2).2.2.1 ∈ tb := (tb_c1 89 rfl rfl)
theorem fl_X2_100 : Cond.fieldLink RX2 100 (kC 2) (kT 2 3).2.1 (kT 2 3).2.2.1 ∈ tb := (tb_c1 90 rfl rfl)
theorem fl_X2_103 : Cond.fieldLink RX2 103 (kC 2) (kT 2 4).2.1 (kT 2 4).2.2.1 ∈ tb := (tb_c1 91 rfl rfl)
theorem fl_X2_120 : Cond.fieldLink RX2 120 (kC 9) (kT 9 1).2.1 (kT 9 1).2.2.1 ∈ tb := (tb_c2 110 rfl rfl)
theorem fl_X2_121 : Cond.fieldLink RX2 121 (kC 9) (kT 9 3).2.1 (kT 9 3).2.2.1 ∈ tb := (tb_c2 122 rfl rfl)
theorem fl_X2_128 : Cond.fieldLink RX2 128 (kC 9) (kT 9 2).2.1 (kT 9 2).2.2.1 ∈ tb := (tb_c2 116 rfl rfl)
theorem fl_X2_129 : Cond.fieldLink RX2 129 (kC 9) (kT 9 4).2.1 (kT 9 4).2.2.1 ∈ tb := (tb_c2 128 rfl rfl)
theorem fl_X2_134 : Cond.fieldLink RX2 134 (kC 6) (kT 6 5).2.1 (kT 6 5).2.2.1 ∈ tb := (tb_c3 1 rfl rfl)
theorem fl_X2_138 : Cond.fieldLink RX2 138 (kC 8) (kT 8 0).2.1 (kT 8 0).2.2.1 ∈ tb := (tb_c1 37 rfl rfl)
theorem fl_X3_9 : Cond.fieldLink RX3 9 (kC 3) (kT 3 6).2.1 (kT 3 6).2.2.1 ∈ tb := (tb_c1 237 rfl rfl)
theorem fl_X3_15 : Cond.fieldLink RX3 15 (kC 3) (kT 3 17).2.1 (kT 3 17).2.2.1 ∈ tb := (tb_c2 15 rfl rfl)
theorem fl_X3_19 : Cond.fieldLink RX3 19 (kC 3) (kT 3 0).2.1 (kT 3 0).2.2.1 ∈ tb := (tb_c1 215 rfl rfl)
theorem fl_X3_22 : Cond.fieldLink RX3 22 (kC 3) (kT 3 1).2.1 (kT 3 1).2.2.1 ∈ tb := (tb_c1 218 rfl rfl)
theorem fl_X3_25 : Cond.fieldLink RX3 25 (kC 3) (kT 3 2).2.1 (kT 3 2).2.2.1 ∈ tb := (tb_c1 222 rfl rfl)
theorem fl_X3_28 : Cond.fieldLink RX3 28 (kC 3) (kT 3 3).2.1 (kT 3 3).2.2.1 ∈ tb := (tb_c1 226 rfl rfl)
theorem fl_X3_31 : Cond.fieldLink RX3 31 (kC 3) (kT 3 4).2.1 (kT 3 4).2.2.1 ∈ tb := (tb_c1 230 rfl rfl)
theorem fl_X3_34 : Cond.fieldLink RX3 34 (kC 3) (kT 3 5).2.1 (kT 3 5).2.2.1 ∈ tb := (tb_c1 234 rfl rfl)
theorem fl_X3_37 : Cond.fieldLink RX3 37 (kC 3) (kT 3 7).2.1 (kT 3 7).2.2.1 ∈ tb := (tb_c2 0 rfl rfl)
theorem fl_X3_40 : Cond.fieldLink RX3 40 (kC 9) (kT 9 1).2.1 (kT 9 1).2.2.1 ∈ tb := (tb_c2 108 rfl rfl)
theorem fl_X3_49 : Cond.fieldLink RX3 49 (kC 3) (kT 3 9).2.1 (kT 3 9).2.2.1 ∈ tb := (tb_c2 3 rfl rfl)
theorem fl_X3_52 : Cond.fieldLink RX3 52 (kC 9) (kT 9 2).2.1 (kT 9 2).2.2.1 ∈ tb := (tb_c2 114 rfl rfl)
theorem fl_X3_53 : Cond.fieldLink RX3 53 (kC 3) (kT 3 10).2.1 (kT 3 10).2.2.1 ∈ tb := (tb_c2 4 rfl rfl)
theorem fl_X3_56 : Cond.fieldLink RX3 56 (kC 9) (kT 9 3).2.1 (kT 9 3).2.2.1 ∈ tb := (tb_c2 120 rfl rfl)
theorem fl_X3_60 : Cond.fieldLink RX3 60 (kC 3) (kT 3 11).2.1 (kT 3 11).2.2.1 ∈ tb := (tb_c2 5 rfl rfl)
theorem fl_X3_63 : Cond.fieldLink RX3 63 (kC 9) (kT 9 4).2.1 (kT 9 4).2.2.1 ∈ tb := (tb_c2 126 rfl rfl)
theorem fl_X3_64 : Cond.fieldLink RX3 64 (kC 3) (kT 3 12).2.1 (kT 3 12).2.2.1 ∈ tb := (tb_c2 6 rfl rfl)
theorem fl_X3_67 : Cond.fieldLink RX3 67 (kC 3) (kT 3 13).2.1 (kT 3 13).2.2.1 ∈ tb := (tb_c2 8 rfl rfl)
theorem fl_X3_70 : Cond.fieldLink RX3 70 (kC 3) (kT 3 14).2.1 (kT 3 14).2.2.1 ∈ tb := (tb_c2 10 rfl rfl)
theorem fl_X3_73 : Cond.fieldLink RX3 73 (kC 3) (kT 3 15).2.1 (kT 3 15).2.2.1 ∈ tb := (tb_c2 12 rfl rfl)
theorem fl_X3_76 : Cond.fieldLink RX3 76 (kC 3) (kT 3 16).2.1 (kT 3 16).2.2.1 ∈ tb := (tb_c2 14 rfl rfl)
theorem fl_X4_9 : Cond.fieldLink RX4 9 (kC 4) (kT 4 5).2.1 (kT 4 5).2.2.1 ∈ tb := (tb_c4 112 rfl rfl)
theorem fl_X4_15 : Cond.fieldLink RX4 15 (kC 4) (kT 4 1).2.1 (kT 4 1).2.2.1 ∈ tb := (tb_c4 108 rfl rfl)
theorem fl_X4_19 : Cond.fieldLink RX4 19 (kC 4) (kT 4 2).2.1 (kT 4 2).2.2.1 ∈ tb := (tb_c4 109 rfl rfl)
theorem fl_X4_22 : Cond.fieldLink RX4 22 (kC 4) (kT 4 3).2.1 (kT 4 3).2.2.1 ∈ tb := (tb_c4 110 rfl rfl)
theorem fl_X4_25 : Cond.fieldLink RX4 25 (kC 4) (kT 4 4).2.1 (kT 4 4).2.2.1 ∈ tb := (tb_c4 111 rfl rfl)
theorem fl_X4_28 : Cond.fieldLink RX4 28 (kC 4) (kT 4 0).2.1 (kT 4 0).2.2.1 ∈ tb := (tb_c4 106 rfl rfl)
theorem fl_X5_13 : Cond.fieldLink RX5 13 (kC 5) (kT 5 0).2.1 (kT 5 0).2.2.1 ∈ tb := (tb_c1 109 rfl rfl)
theorem fl_X5_17 : Cond.fieldLink RX5 17 (kC 5) (kT 5 1).2.1 (kT 5 1).2.2.1 ∈ tb := (tb_c1 110 rfl rfl)
theorem fl_X5_20 : Cond.fieldLink RX5 20 (kC 5) (kT 5 2).2.1 (kT 5 2).2.2.1 ∈ tb := (tb_c1 111 rfl rfl)
theorem fl_X5_23 : Cond.fieldLink RX5 23 (kC 5) (kT 5 3).2.1 (kT 5 3).2.2.1 ∈ tb := (tb_c1 112 rfl rfl)
theorem fl_X5_26 : Cond.fieldLink RX5 26 (kC 5) (kT 5 4).2.1 (kT 5 4).2.2.1 ∈ tb := (tb_c1 113 rfl rfl)
theorem fl_X5_30 : Cond.fieldLink RX5 30 (kC 5) (kT 5 5).2.1 (kT 5 5).2.2.1 ∈ tb := (tb_c1 114 rfl rfl)
theorem fl_X5_34 : Cond.fieldLink RX5 34 (kC 5) (kT 5 6).2.1 (kT 5 6).2.2.1 ∈ tb := (tb_c1 115 rfl rfl)
theorem fl_X5_37 : Cond.fieldLink RX5 37 (kC 5) (kT 5 7).2.1 (kT 5 7).2.2.1 ∈ tb := (tb_c1 116 rfl rfl)
theorem fl_X5_40 : Cond.fieldLink RX5 40 (kC 5) (kT 5 8).2.1 (kT 5 8).2.2.1 ∈ tb := (tb_c1 117 rfl rfl)
theorem fl_X5_54 : Cond.fieldLink RX5 54 (kC 8) (kT 8 1).2.1 (kT 8 1).2.2.1 ∈ tb := (tb_c1 39 rfl rfl)
theorem fl_X5_68 : Cond.fieldLink RX5 68 (kC 8) (kT 8 2).2.1 (kT 8 2).2.2.1 ∈ tb := (tb_c1 43 rfl rfl)
theorem fl_X5_71 : Cond.fieldLink RX5 71 (kC 8) (kT 8 4).2.1 (kT 8 4).2.2.1 ∈ tb := (tb_c1 48 rfl rfl)
theorem fl_X6_9 : Cond.fieldLink RX6 9 (kC 6) (kT 6 0).2.1 (kT 6 0).2.2.1 ∈ tb := (tb_c2 221 rfl rfl)
theorem fl_X6_15 : Cond.fieldLink RX6 15 (kC 6) (kT 6 1).2.1 (kT 6 1).2.2.1 ∈ tb := (tb_c2 226 rfl rfl)
theorem fl_X6_18 : Cond.fieldLink RX6 18 (kC 6) (kT 6 5).2.1 (kT 6 5).2.2.1 ∈ tb := (tb_c2 238 rfl rfl)
theorem fl_X6_22 : Cond.fieldLink RX6 22 (kC 6) (kT 6 6).2.1 (kT 6 6).2.2.1 ∈ tb := (tb_c3 3 rfl rfl)
theorem fl_X6_27 : Cond.fieldLink RX6 27 (kC 6) (kT 6 7).2.1 (kT 6 7).2.2.1 ∈ tb := (tb_c3 5 rfl rfl)
theorem fl_X6_33 : Cond.fieldLink RX6 33 (kC 6) (kT 6 8).2.1 (kT 6 8).2.2.1 ∈ tb := (tb_c3 9 rfl rfl)
theorem fl_X6_45 : Cond.fieldLink RX6 45 (kC 6) (kT 6 2).2.1 (kT 6 2).2.2.1 ∈ tb := (tb_c2 231 rfl rfl)
theorem fl_X6_48 : Cond.fieldLink RX6 48 (kC 6) (kT 6 3).2.1 (kT 6 3).2.2.1 ∈ tb := (tb_c2 234 rfl rfl)
theorem fl_X6_68 : Cond.fieldLink RX6 68 (kC 6) (kT 6 4).2.1 (kT 6 4).2.2.1 ∈ tb := (tb_c2 236 rfl rfl)
theorem fl_X6_71 : Cond.fieldLink RX6 71 (kC 9) (kT 9 0).2.1 (kT 9 0).2.2.1 ∈ tb := (tb_c2 105 rfl rfl)
theorem fl_X6_75 : Cond.fieldLink RX6 75 (kC 1) (kT 1 0).2.1 (kT 1 0).2.2.1 ∈ tb := (tb_c2 183 rfl rfl)
theorem fl_X6_78 : Cond.fieldLink RX6 78 (kC 1) (kT 1 2).2.1 (kT 1 2).2.2.1 ∈ tb := (tb_c2 189 rfl rfl)
theorem fl_X6_81 : Cond.fieldLink RX6 81 (kC 1) (kT 1 3).2.1 (kT 1 3).2.2.1 ∈ tb := (tb_c2 194 rfl rfl)
theorem fl_X6_88 : Cond.fieldLink RX6 88 (kC 1) (kT 1 4).2.1 (kT 1 4).2.2.1 ∈ tb := (tb_c2 199 rfl rfl)
theorem fl_X6_91 : Cond.fieldLink RX6 91 (kC 1) (kT 1 5).2.1 (kT 1 5).2.2.1 ∈ tb := (tb_c2 204 rfl rfl)
theorem fl_X6_94 : Cond.fieldLink RX6 94 (kC 3) (kT 3 1).2.1 (kT 3 1).2.2.1 ∈ tb := (tb_c1 219 rfl rfl)
theorem fl_X6_97 : Cond.fieldLink RX6 97 (kC 3) (kT 3 2).2.1 (kT 3 2).2.2.1 ∈ tb := (tb_c1 223 rfl rfl)
theorem fl_X6_98 : Cond.fieldLink RX6 98 (kC 3) (kT 3 3).2.1 (kT 3 3).2.2.1 ∈ tb := (tb_c1 227 rfl rfl)
theorem fl_X6_99 : Cond.fieldLink RX6 99 (kC 3) (kT 3 4).2.1 (kT 3 4).2.2.1 ∈ tb := (tb_c1 231 rfl rfl)
theorem fl_X6_104 : Cond.fieldLink RX6 104 (kC 9) (kT 9 6).2.1 (kT 9 6).2.2.1 ∈ tb := (tb_c2 137 rfl rfl)
theorem fl_X6_107 : Cond.fieldLink RX6 107 (kC 9) (kT 9 5).2.1 (kT 9 5).2.2.1 ∈ tb := (tb_c2 133 rfl rfl)
theorem fl_X6_121 : Cond.fieldLink RX6 121 (kC 9) (kT 9 7).2.1 (kT 9 7).2.2.1 ∈ tb := (tb_c2 140 rfl rfl)
theorem fl_X6_139 : Cond.fieldLink RX6 139 (kC 3) (kT 3 5).2.1 (kT 3 5).2.2.1 ∈ tb := (tb_c1 235 rfl rfl)
theorem fl_X6_145 : Cond.fieldLink RX6 145 (kC 3) (kT 3 6).2.1 (kT 3 6).2.2.1 ∈ tb := (tb_c1 238 rfl rfl)
theorem fl_X6_148 : Cond.fieldLink RX6 148 (kC 3) (kT 3 0).2.1 (kT 3 0).2.2.1 ∈ tb := (tb_c1 216 rfl rfl)
theorem fl_X7_11 : Cond.fieldLink RX7 11 (kC 7) (kT 7 0).2.1 (kT 7 0).2.2.1 ∈ tb := (tb_c1 147 rfl rfl)
theorem fl_X7_15 : Cond.fieldLink RX7 15 (kC 7) (kT 7 1).2.1 (kT 7 1).2.2.1 ∈ tb := (tb_c1 149 rfl rfl)
theorem fl_X7_18 : Cond.fieldLink RX7 18 (kC 7) (kT 7 2).2.1 (kT 7 2).2.2.1 ∈ tb := (tb_c1 151 rfl rfl)
theorem fl_X7_21 : Cond.fieldLink RX7 21 (kC 7) (kT 7 3).2.1 (kT 7 3).2.2.1 ∈ tb := (tb_c1 153 rfl rfl)
theorem fl_X7_24 : Cond.fieldLink RX7 24 (kC 7) (kT 7 4).2.1 (kT 7 4).2.2.1 ∈ tb := (tb_c1 154 rfl rfl)
theorem fl_X7_27 : Cond.fieldLink RX7 27 (kC 6) (kT 6 1).2.1 (kT 6 1).2.2.1 ∈ tb := (tb_c2 227 rfl rfl)
theorem fl_X7_33 : Cond.fieldLink RX7 33 (kC 6) (kT 6 0).2.1 (kT 6 0).2.2.1 ∈ tb := (tb_c2 222 rfl rfl)
theorem fl_X7_36 : Cond.fieldLink RX7 36 (kC 6) (kT 6 5).2.1 (kT 6 5).2.2.1 ∈ tb := (tb_c2 239 rfl rfl)
theorem fl_X7_55 : Cond.fieldLink RX7 55 (kC 9) (kT 9 1).2.1 (kT 9 1).2.2.1 ∈ tb := (tb_c2 111 rfl rfl)
theorem fl_X7_60 : Cond.fieldLink RX7 60 (kC 9) (kT 9 2).2.1 (kT 9 2).2.2.1 ∈ tb := (tb_c2 117 rfl rfl)
theorem fl_X7_63 : Cond.fieldLink RX7 63 (kC 9) (kT 9 3).2.1 (kT 9 3).2.2.1 ∈ tb := (tb_c2 123 rfl rfl)
theorem fl_X7_66 : Cond.fieldLink RX7 66 (kC 9) (kT 9 4).2.1 (kT 9 4).2.2.1 ∈ tb := (tb_c2 129 rfl rfl)
theorem fl_X7_73 : Cond.fieldLink RX7 73 (kC 3) (kT 3 1).2.1 (kT 3 1).2.2.1 ∈ tb := (tb_c1 220 rfl rfl)
theorem fl_X7_76 : Cond.fieldLink RX7 76 (kC 3) (kT 3 2).2.1 (kT 3 2).2.2.1 ∈ tb := (tb_c1 224 rfl rfl)
theorem fl_X7_77 : Cond.fieldLink RX7 77 (kC 3) (kT 3 3).2.1 (kT 3 3).2.2.1 ∈ tb := (tb_c1 228 rfl rfl)
theorem fl_X7_78 : Cond.fieldLink RX7 78 (kC 3) (kT 3 4).2.1 (kT 3 4).2.2.1 ∈ tb := (tb_c1 232 rfl rfl)
theorem fl_X8_11 : Cond.fieldLink RX8 11 (kC 8) (kT 8 5).2.1 (kT 8 5).2.2.1 ∈ tb := (tb_c1 50 rfl rfl)
theorem fl_X8_15 : Cond.fieldLink RX8 15 (kC 8) (kT 8 6).2.1 (kT 8 6).2.2.1 ∈ tb := (tb_c1 51 rfl rfl)
theorem fl_X8_19 : Cond.fieldLink RX8 19 (kC 8) (kT 8 7).2.1 (kT 8 7).2.2.1 ∈ tb := (tb_c1 52 rfl rfl)
theorem fl_X8_22 : Cond.fieldLink RX8 22 (kC 8) (kT 8 8).2.1 (kT 8 8).2.2.1 ∈ tb := (tb_c1 53 rfl rfl)
theorem fl_X8_25 : Cond.fieldLink RX8 25 (kC 8) (kT 8 0).2.1 (kT 8 0).2.2.1 ∈ tb := (tb_c1 35 rfl rfl)
theorem fl_X8_29 : Cond.fieldLink RX8 29 (kC 8) (kT 8 9).2.1 (kT 8 9).2.2.1 ∈ tb := (tb_c1 54 rfl rfl)
theorem fl_X8_36 : Cond.fieldLink RX8 36 (kC 8) (kT 8 1).2.1 (kT 8 1).2.2.1 ∈ tb := (tb_c1 41 rfl rfl)
theorem fl_X8_39 : Cond.fieldLink RX8 39 (kC 8) (kT 8 10).2.1 (kT 8 10).2.2.1 ∈ tb := (tb_c1 55 rfl rfl)
theorem fl_X8_45 : Cond.fieldLink RX8 45 (kC 8) (kT 8 2).2.1 (kT 8 2).2.2.1 ∈ tb := (tb_c1 44 rfl rfl)
theorem fl_X8_48 : Cond.fieldLink RX8 48 (kC 8) (kT 8 3).2.1 (kT 8 3).2.2.1 ∈ tb := (tb_c1 46 rfl rfl)
theorem fl_X8_51 : Cond.fieldLink RX8 51 (kC 8) (kT 8 4).2.1 (kT 8 4).2.2.1 ∈ tb := (tb_c1 49 rfl rfl)
theorem fl_X9_9 : Cond.fieldLink RX9 9 (kC 9) (kT 9 5).2.1 (kT 9 5).2.2.1 ∈ tb := (tb_c2 131 rfl rfl)
theorem fl_X9_15 : Cond.fieldLink RX9 15 (kC 9) (kT 9 6).2.1 (kT 9 6).2.2.1 ∈ tb := (tb_c2 135 rfl rfl)
theorem fl_X9_18 : Cond.fieldLink RX9 18 (kC 9) (kT 9 8).2.1 (kT 9 8).2.2.1 ∈ tb := (tb_c2 142 rfl rfl)
theorem fl_X9_21 : Cond.fieldLink RX9 21 (kC 9) (kT 9 0).2.1 (kT 9 0).2.2.1 ∈ tb := (tb_c2 103 rfl rfl)
theorem fl_X9_25 : Cond.fieldLink RX9 25 (kC 9) (kT 9 1).2.1 (kT 9 1).2.2.1 ∈ tb := (tb_c2 107 rfl rfl)
theorem fl_X9_28 : Cond.fieldLink RX9 28 (kC 9) (kT 9 2).2.1 (kT 9 2).2.2.1 ∈ tb := (tb_c2 113 rfl rfl)
theorem fl_X9_31 : Cond.fieldLink RX9 31 (kC 9) (kT 9 3).2.1 (kT 9 3).2.2.1 ∈ tb := (tb_c2 119 rfl rfl)
theorem fl_X9_34 : Cond.fieldLink RX9 34 (kC 9) (kT 9 4).2.1 (kT 9 4).2.2.1 ∈ tb := (tb_c2 125 rfl rfl)
theorem fl_X9_37 : Cond.fieldLink RX9 37 (kC 9) (kT 9 7).2.1 (kT 9 7).2.2.1 ∈ tb := (tb_c2 139 rfl rfl)
theorem fl_X9_40 : Cond.fieldLink RX9 40 (kC 9) (kT 9 9).2.1 (kT 9 9).2.2.1 ∈ tb := (tb_c2 145 rfl rfl)
theorem fl_X9_43 : Cond.fieldLink RX9 43 (kC 9) (kT 9 10).2.1 (kT 9 10).2.2.1 ∈ tb := (tb_c2 148 rfl rfl)
theorem fl_X9_46 : Cond.fieldLink RX9 46 (kC 9) (kT 9 11).2.1 (kT 9 11).2.2.1 ∈ tb := (tb_c2 150 rfl rfl)
theorem fl_X9_49 : Cond.fieldLink RX9 49 (kC 1) (kT 1 2).2.1 (kT 1 2).2.2.1 ∈ tb := (tb_c2 190 rfl rfl)
theorem fl_X9_52 : Cond.fieldLink RX9 52 (kC 1) (kT 1 3).2.1 (kT 1 3).2.2.1 ∈ tb := (tb_c2 195 rfl rfl)
theorem fl_X9_57 : Cond.fieldLink RX9 57 (kC 1) (kT 1 4).2.1 (kT 1 4).2.2.1 ∈ tb := (tb_c2 200 rfl rfl)
theorem fl_X9_58 : Cond.fieldLink RX9 58 (kC 1) (kT 1 5).2.1 (kT 1 5).2.2.1 ∈ tb := (tb_c2 205 rfl rfl)
theorem fl_X10_9 : Cond.fieldLink RX10 9 (kC 10) (kT 10 0).2.1 (kT 10 0).2.2.1 ∈ tb := (tb_c1 172 rfl rfl)
theorem fl_X10_15 : Cond.fieldLink RX10 15 (kC 10) (kT 10 3).2.1 (kT 10 3).2.2.1 ∈ tb := (tb_c1 178 rfl rfl)
theorem fl_X10_18 : Cond.fieldLink RX10 18 (kC 10) (kT 10 4).2.1 (kT 10 4).2.2.1 ∈ tb := (tb_c1 179 rfl rfl)
theorem fl_X10_21 : Cond.fieldLink RX10 21 (kC 10) (kT 10 5).2.1 (kT 10 5).2.2.1 ∈ tb := (tb_c1 180 rfl rfl)
theorem fl_X10_24 : Cond.fieldLink RX10 24 (kC 10) (kT 10 6).2.1 (kT 10 6).2.2.1 ∈ tb := (tb_c1 181 rfl rfl)
theorem fl_X10_27 : Cond.fieldLink RX10 27 (kC 10) (kT 10 7).2.1 (kT 10 7).2.2.1 ∈ tb := (tb_c1 182 rfl rfl)
theorem fl_X10_30 : Cond.fieldLink RX10 30 (kC 10) (kT 10 8).2.1 (kT 10 8).2.2.1 ∈ tb := (tb_c1 183 rfl rfl)
theorem fl_X10_33 : Cond.fieldLink RX10 33 (kC 10) (kT 10 9).2.1 (kT 10 9).2.2.1 ∈ tb := (tb_c1 184 rfl rfl)
theorem fl_X10_37 : Cond.fieldLink RX10 37 (kC 10) (kT 10 10).2.1 (kT 10 10).2.2.1 ∈ tb := (tb_c1 185 rfl rfl)
theorem fl_X10_50 : Cond.fieldLink RX10 50 (kC 6) (kT 6 1).2.1 (kT 6 1).2.2.1 ∈ tb := (tb_c2 228 rfl rfl)
theorem fl_X10_55 : Cond.fieldLink RX10 55 (kC 6) (kT 6 0).2.1 (kT 6 0).2.2.1 ∈ tb := (tb_c2 223 rfl rfl)
theorem fl_X10_62 : Cond.fieldLink RX10 62 (kC 6) (kT 6 7).2.1 (kT 6 7).2.2.1 ∈ tb := (tb_c3 6 rfl rfl)
theorem fl_X10_66 : Cond.fieldLink RX10 66 (kC 9) (kT 9 0).2.1 (kT 9 0).2.2.1 ∈ tb := (tb_c2 104 rfl rfl)
theorem fl_X10_80 : Cond.fieldLink RX10 80 (kC 9) (kT 9 2).2.1 (kT 9 2).2.2.1 ∈ tb := (tb_c2 115 rfl rfl)
theorem fl_X10_83 : Cond.fieldLink RX10 83 (kC 9) (kT 9 4).2.1 (kT 9 4).2.2.1 ∈ tb := (tb_c2 127 rfl rfl)
theorem fl_X10_86 : Cond.fieldLink RX10 86 (kC 9) (kT 9 1).2.1 (kT 9 1).2.2.1 ∈ tb := (tb_c2 109 rfl rfl)
theorem fl_X10_89 : Cond.fieldLink RX10 89 (kC 9) (kT 9 3).2.1 (kT 9 3).2.2.1 ∈ tb := (tb_c2 121 rfl rfl)
theorem fl_X10_95 : Cond.fieldLink RX10 95 (kC 6) (kT 6 5).2.1 (kT 6 5).2.2.1 ∈ tb := (tb_c3 0 rfl rfl)
theorem fl_X10_102 : Cond.fieldLink RX10 102 (kC 9) (kT 9 6).2.1 (kT 9 6).2.2.1 ∈ tb := (tb_c2 136 rfl rfl)
theorem fl_X10_105 : Cond.fieldLink RX10 105 (kC 9) (kT 9 8).2.1 (kT 9 8).2.2.1 ∈ tb := (tb_c2 143 rfl rfl)
theorem fl_X10_108 : Cond.fieldLink RX10 108 (kC 9) (kT 9 9).2.1 (kT 9 9).2.2.1 ∈ tb := (tb_c2 146 rfl rfl)
theorem fl_X10_111 : Cond.fieldLink RX10 111 (kC 10) (kT 10 1).2.1 (kT 10 1).2.2.1 ∈ tb := (tb_c1 174 rfl rfl)
theorem fl_X10_114 : Cond.fieldLink RX10 114 (kC 10) (kT 10 2).2.1 (kT 10 2).2.2.1 ∈ tb := (tb_c1 176 rfl rfl)
theorem fl_X10_125 : Cond.fieldLink RX10 125 (kC 9) (kT 9 5).2.1 (kT 9 5).2.2.1 ∈ tb := (tb_c2 132 rfl rfl)
theorem fl_X10_140 : Cond.fieldLink RX10 140 (kC 1) (kT 1 1).2.1 (kT 1 1).2.2.1 ∈ tb := (tb_c2 186 rfl rfl)
theorem fl_X10_143 : Cond.fieldLink RX10 143 (kC 1) (kT 1 2).2.1 (kT 1 2).2.2.1 ∈ tb := (tb_c2 191 rfl rfl)
theorem fl_X10_144 : Cond.fieldLink RX10 144 (kC 1) (kT 1 3).2.1 (kT 1 3).2.2.1 ∈ tb := (tb_c2 196 rfl rfl)
theorem fl_X10_145 : Cond.fieldLink RX10 145 (kC 1) (kT 1 4).2.1 (kT 1 4).2.2.1 ∈ tb := (tb_c2 201 rfl rfl)
theorem fl_X10_146 : Cond.fieldLink RX10 146 (kC 1) (kT 1 5).2.1 (kT 1 5).2.2.1 ∈ tb := (tb_c2 206 rfl rfl)
theorem fl_X12_7 : Cond.fieldLink RX12 7 (kC 12) (kT 12 0).2.1 (kT 12 0).2.2.1 ∈ tb := (tb_c6 145 rfl rfl)
theorem fl_X12_13 : Cond.fieldLink RX12 13 (kC 12) (kT 12 2).2.1 (kT 12 2).2.2.1 ∈ tb := (tb_c6 147 rfl rfl)
theorem fl_X12_17 : Cond.fieldLink RX12 17 (kC 12) (kT 12 3).2.1 (kT 12 3).2.2.1 ∈ tb := (tb_c6 148 rfl rfl)
theorem fl_X12_20 : Cond.fieldLink RX12 20 (kC 12) (kT 12 4).2.1 (kT 12 4).2.2.1 ∈ tb := (tb_c6 149 rfl rfl)
theorem fl_X12_23 : Cond.fieldLink RX12 23 (kC 12) (kT 12 5).2.1 (kT 12 5).2.2.1 ∈ tb := (tb_c6 150 rfl rfl)
theorem fl_X12_26 : Cond.fieldLink RX12 26 (kC 12) (kT 12 6).2.1 (kT 12 6).2.2.1 ∈ tb := (tb_c6 151 rfl rfl)
theorem fl_X12_29 : Cond.fieldLink RX12 29 (kC 12) (kT 12 7).2.1 (kT 12 7).2.2.1 ∈ tb := (tb_c6 152 rfl rfl)
theorem fl_X12_32 : Cond.fieldLink RX12 32 (kC 12) (kT 12 11).2.1 (kT 12 11).2.2.1 ∈ tb := (tb_c6 156 rfl rfl)
theorem fl_X12_35 : Cond.fieldLink RX12 35 (kC 12) (kT 12 12).2.1 (kT 12 12).2.2.1 ∈ tb := (tb_c6 157 rfl rfl)
theorem fl_X12_38 : Cond.fieldLink RX12 38 (kC 12) (kT 12 20).2.1 (kT 12 20).2.2.1 ∈ tb := (tb_c6 165 rfl rfl)
theorem fl_X12_41 : Cond.fieldLink RX12 41 (kC 12) (kT 12 26).2.1 (kT 12 26).2.2.1 ∈ tb := (tb_c6 171 rfl rfl)
theorem fl_X12_45 : Cond.fieldLink RX12 45 (kC 12) (kT 12 28).2.1 (kT 12 28).2.2.1 ∈ tb := (tb_c6 173 rfl rfl)
theorem fl_X12_48 : Cond.fieldLink RX12 48 (kC 12) (kT 12 29).2.1 (kT 12 29).2.2.1 ∈ tb := (tb_c6 174 rfl rfl)
theorem fl_X12_51 : Cond.fieldLink RX12 51 (kC 12) (kT 12 30).2.1 (kT 12 30).2.2.1 ∈ tb := (tb_c6 175 rfl rfl)
theorem fl_X12_54 : Cond.fieldLink RX12 54 (kC 12) (kT 12 43).2.1 (kT 12 43).2.2.1 ∈ tb := (tb_c6 188 rfl rfl)
theorem fl_X12_57 : Cond.fieldLink RX12 57 (kC 12) (kT 12 44).2.1 (kT 12 44).2.2.1 ∈ tb := (tb_c6 189 rfl rfl)
theorem fl_X12_60 : Cond.fieldLink RX12 60 (kC 12) (kT 12 45).2.1 (kT 12 45).2.2.1 ∈ tb := (tb_c6 190 rfl rfl)
theorem fl_X12_63 : Cond.fieldLink RX12 63 (kC 12) (kT 12 46).2.1 (kT 12 46).2.2.1 ∈ tb := (tb_c6 191 rfl rfl)
theorem fl_X12_67 : Cond.fieldLink RX12 67 (kC 12) (kT 12 49).2.1 (kT 12 49).2.2.1 ∈ tb := (tb_c6 194 rfl rfl)
theorem fl_X12_70 : Cond.fieldLink RX12 70 (kC 12) (kT 12 50).2.1 (kT 12 50).2.2.1 ∈ tb := (tb_c6 195 rfl rfl)
theorem fl_X12_73 : Cond.fieldLink RX12 73 (kC 12) (kT 12 1).2.1 (kT 12 1).2.2.1 ∈ tb := (tb_c6 146 rfl rfl)
theorem fl_X12_81 : Cond.fieldLink RX12 81 (kC 12) (kT 12 14).2.1 (kT 12 14).2.2.1 ∈ tb := (tb_c6 159 rfl rfl)
theorem fl_X12_84 : Cond.fieldLink RX12 84 (kC 12) (kT 12 13).2.1 (kT 12 13).2.2.1 ∈ tb := (tb_c6 158 rfl rfl)
theorem fl_X12_109 : Cond.fieldLink RX12 109 (kC 12) (kT 12 15).2.1 (kT 12 15).2.2.1 ∈ tb := (tb_c6 160 rfl rfl)
theorem fl_X12_140 : Cond.fieldLink RX12 140 (kC 12) (kT 12 16).2.1 (kT 12 16).2.2.1 ∈ tb := (tb_c6 161 rfl rfl)
theorem fl_X12_143 : Cond.fieldLink RX12 143 (kC 12) (kT 12 17).2.1 (kT 12 17).2.2.1 ∈ tb := (tb_c6 162 rfl rfl)
theorem fl_X12_146 : Cond.fieldLink RX12 146 (kC 12) (kT 12 18).2.1 (kT 12 18).2.2.1 ∈ tb := (tb_c6 163 rfl rfl)
theorem fl_X12_149 : Cond.fieldLink RX12 149 (kC 12) (kT 12 21).2.1 (kT 12 21).2.2.1 ∈ tb := (tb_c6 166 rfl rfl)
theorem fl_X12_212 : Cond.fieldLink RX12 212 (kC 12) (kT 12 8).2.1 (kT 12 8).2.2.1 ∈ tb := (tb_c6 153 rfl rfl)
theorem fl_X12_215 : Cond.fieldLink RX12 215 (kC 12) (kT 12 9).2.1 (kT 12 9).2.2.1 ∈ tb := (tb_c6 154 rfl rfl)
theorem fl_X12_218 : Cond.fieldLink RX12 218 (kC 12) (kT 12 22).2.1 (kT 12 22).2.2.1 ∈ tb := (tb_c6 167 rfl rfl)
theorem fl_X12_221 : Cond.fieldLink RX12 221 (kC 12) (kT 12 23).2.1 (kT 12 23).2.2.1 ∈ tb := (tb_c6 168 rfl rfl)
theorem fl_X12_224 : Cond.fieldLink RX12 224 (kC 12) (kT 12 24).2.1 (kT 12 24).2.2.1 ∈ tb := (tb_c6 169 rfl rfl)
theorem fl_X12_227 : Cond.fieldLink RX12 227 (kC 12) (kT 12 25).2.1 (kT 12 25).2.2.1 ∈ tb := (tb_c6 170 rfl rfl)
theorem fl_X12_233 : Cond.fieldLink RX12 233 (kC 12) (kT 12 10).2.1 (kT 12 10).2.2.1 ∈ tb := (tb_c6 155 rfl rfl)
theorem fl_X12_254 : Cond.fieldLink RX12 254 (kC 12) (kT 12 19).2.1 (kT 12 19).2.2.1 ∈ tb := (tb_c6 164 rfl rfl)
theorem fl_X12_291 : Cond.fieldLink RX12 291 (kC 12) (kT 12 27).2.1 (kT 12 27).2.2.1 ∈ tb := (tb_c6 172 rfl rfl)
theorem fl_X12_320 : Cond.fieldLink RX12 320 (kC 12) (kT 12 31).2.1 (kT 12 31).2.2.1 ∈ tb := (tb_c6 176 rfl rfl)
theorem fl_X12_323 : Cond.fieldLink RX12 323 (kC 12) (kT 12 32).2.1 (kT 12 32).2.2.1 ∈ tb := (tb_c6 177 rfl rfl)
theorem fl_X12_326 : Cond.fieldLink RX12 326 (kC 12) (kT 12 33).2.1 (kT 12 33).2.2.1 ∈ tb := (tb_c6 178 rfl rfl)
theorem fl_X12_329 : Cond.fieldLink RX12 329 (kC 12) (kT 12 34).2.1 (kT 12 34).2.2.1 ∈ tb := (tb_c6 179 rfl rfl)
theorem fl_X12_332 : Cond.fieldLink RX12 332 (kC 12) (kT 12 35).2.1 (kT 12 35).2.2.1 ∈ tb := (tb_c6 180 rfl rfl)
theorem fl_X12_335 : Cond.fieldLink RX12 335 (kC 12) (kT 12 36).2.1 (kT 12 36).2.2.1 ∈ tb := (tb_c6 181 rfl rfl)
theorem fl_X12_458 : Cond.fieldLink RX12 458 (kC 12) (kT 12 37).2.1 (kT 12 37).2.2.1 ∈ tb := (tb_c6 182 rfl rfl)
theorem fl_X12_461 : Cond.fieldLink RX12 461 (kC 12) (kT 12 38).2.1 (kT 12 38).2.2.1 ∈ tb := (tb_c6 183 rfl rfl)
theorem fl_X12_464 : Cond.fieldLink RX12 464 (kC 12) (kT 12 39).2.1 (kT 12 39).2.2.1 ∈ tb := (tb_c6 184 rfl rfl)
theorem fl_X12_467 : Cond.fieldLink RX12 467 (kC 12) (kT 12 40).2.1 (kT 12 40).2.2.1 ∈ tb := (tb_c6 185 rfl rfl)
theorem fl_X12_483 : Cond.fieldLink RX12 483 (kC 12) (kT 12 42).2.1 (kT 12 42).2.2.1 ∈ tb := (tb_c6 187 rfl rfl)
theorem fl_X12_489 : Cond.fieldLink RX12 489 (kC 12) (kT 12 41).2.1 (kT 12 41).2.2.1 ∈ tb := (tb_c6 186 rfl rfl)
theorem fl_X12_538 : Cond.fieldLink RX12 538 (kC 12) (kT 12 47).2.1 (kT 12 47).2.2.1 ∈ tb := (tb_c6 192 rfl rfl)
theorem fl_X12_541 : Cond.fieldLink RX12 541 (kC 12) (kT 12 48).2.1 (kT 12 48).2.2.1 ∈ tb := (tb_c6 193 rfl rfl)
theorem ml_X11_3 : Cond.methodLink RX11 3 Lib.objectInit ∈ tb := (tb_c1 26 rfl rfl)
theorem ml_X11_79 : Cond.methodLink RX11 79 yX6_init ∈ tb := (tb_c2 87 rfl rfl)
theorem ml_X11_87 : Cond.methodLink RX11 87 yX8_hasRoom ∈ tb := (tb_c3 83 rfl rfl)
theorem ml_X11_91 : Cond.methodLink RX11 91 yX8_append ∈ tb := (tb_c3 87 rfl rfl)
theorem ml_X11_99 : Cond.methodLink RX11 99 yX2_read ∈ tb := (tb_c3 99 rfl rfl)
theorem ml_X11_106 : Cond.methodLink RX11 106 yX6_keepFeelings ∈ tb := (tb_c4 9 rfl rfl)
theorem ml_X11_110 : Cond.methodLink RX11 110 yX7_rebuild ∈ tb := (tb_c4 16 rfl rfl)
theorem ml_X11_119 : Cond.methodLink RX11 119 yX5_read ∈ tb := (tb_c4 38 rfl rfl)
theorem ml_X11_125 : Cond.methodLink RX11 125 yX11_isFamily ∈ tb := (tb_c4 130 rfl rfl)
theorem ml_X11_133 : Cond.methodLink RX11 133 yX11_lawAt ∈ tb := (tb_c4 137 rfl rfl)
theorem ml_X11_137 : Cond.methodLink RX11 137 yX11_areThere ∈ tb := (tb_c4 141 rfl rfl)
theorem ml_X11_141 : Cond.methodLink RX11 141 yX3_set ∈ tb := (tb_c4 149 rfl rfl)
theorem ml_X11_145 : Cond.methodLink RX11 145 yX11_mayCome ∈ tb := (tb_c4 153 rfl rfl)
theorem ml_X11_149 : Cond.methodLink RX11 149 yX6_freeNumber ∈ tb := (tb_c5 17 rfl rfl)
theorem ml_X11_153 : Cond.methodLink RX11 153 yX6_raise ∈ tb := (tb_c5 21 rfl rfl)
theorem ml_X11_157 : Cond.methodLink RX11 157 yX11_wishAt ∈ tb := (tb_c5 31 rfl rfl)
theorem ml_X11_160 : Cond.methodLink RX11 160 yX11_fits ∈ tb := (tb_c4 157 rfl rfl)
theorem ml_X11_164 : Cond.methodLink RX11 164 yX11_describe ∈ tb := (tb_c4 188 rfl rfl)
theorem ml_X11_172 : Cond.methodLink RX11 172 yX4_total ∈ tb := (tb_c5 35 rfl rfl)
theorem ml_X11_176 : Cond.methodLink RX11 176 yX6_isWall ∈ tb := (tb_c5 43 rfl rfl)
theorem ml_X11_179 : Cond.methodLink RX11 179 yX6_remove ∈ tb := (tb_c5 48 rfl rfl)
theorem ml_X11_186 : Cond.methodLink RX11 186 yX9_lengthOf ∈ tb := (tb_c5 56 rfl rfl)
theorem ml_X11_204 : Cond.methodLink RX11 204 yX6_isThere ∈ tb := (tb_c4 145 rfl rfl)
theorem ml_X11_228 : Cond.methodLink RX11 228 yX11_groundOf ∈ tb := (tb_c5 68 rfl rfl)
theorem ml_X11_231 : Cond.methodLink RX11 231 yX11_worthOf ∈ tb := (tb_c5 72 rfl rfl)
theorem ml_X11_234 : Cond.methodLink RX11 234 yX9_area ∈ tb := (tb_c4 200 rfl rfl)
theorem ml_X11_244 : Cond.methodLink RX11 244 yX7_inThing ∈ tb := (tb_c5 76 rfl rfl)
theorem ml_X11_248 : Cond.methodLink RX11 248 yX6_hasCell ∈ tb := (tb_c5 81 rfl rfl)
theorem ml_X11_255 : Cond.methodLink RX11 255 yX6_innermostAt ∈ tb := (tb_c5 82 rfl rfl)
theorem ml_X11_259 : Cond.methodLink RX11 259 yX6_liesIn ∈ tb := (tb_c5 95 rfl rfl)
theorem ml_X11_262 : Cond.methodLink RX11 262 yX6_nestCount ∈ tb := (tb_c5 103 rfl rfl)
theorem ml_X11_265 : Cond.methodLink RX11 265 yX6_freeCells ∈ tb := (tb_c5 108 rfl rfl)
theorem ml_X11_268 : Cond.methodLink RX11 268 yX6_innermostOfAll ∈ tb := (tb_c5 112 rfl rfl)
theorem ml_X11_271 : Cond.methodLink RX11 271 yX6_coversOf ∈ tb := (tb_c5 120 rfl rfl)
theorem ml_X11_274 : Cond.methodLink RX11 274 yX6_wallless ∈ tb := (tb_c5 121 rfl rfl)
theorem ml_X11_277 : Cond.methodLink RX11 277 yX6_isOutermost ∈ tb := (tb_c4 165 rfl rfl)
theorem ml_X11_280 : Cond.methodLink RX11 280 yX3_surround ∈ tb := (tb_c5 130 rfl rfl)
theorem ml_X11_284 : Cond.methodLink RX11 284 yX3_spread ∈ tb := (tb_c5 135 rfl rfl)
theorem ml_X11_288 : Cond.methodLink RX11 288 yX6_holds ∈ tb := (tb_c4 161 rfl rfl)
theorem ml_X11_291 : Cond.methodLink RX11 291 yX3_area ∈ tb := (tb_c4 196 rfl rfl)
theorem ml_X11_298 : Cond.methodLink RX11 298 yX6_wallCount ∈ tb := (tb_c5 143 rfl rfl)
theorem ml_X11_310 : Cond.methodLink RX11 310 yX3_gapTo ∈ tb := (tb_c4 169 rfl rfl)
theorem ml_X11_320 : Cond.methodLink RX11 320 yJ9_min_7cf53 ∈ tb := (tb_c4 174 rfl rfl)
theorem ml_X11_328 : Cond.methodLink RX11 328 yX11_isClearOfOthers ∈ tb := (tb_c4 175 rfl rfl)
theorem ml_X11_331 : Cond.methodLink RX11 331 yX7_linesInRivers ∈ tb := (tb_c4 184 rfl rfl)
theorem ml_X11_334 : Cond.methodLink RX11 334 yX4_distance ∈ tb := (tb_c4 228 rfl rfl)
theorem ml_X11_338 : Cond.methodLink RX11 338 yX4_allows ∈ tb := (tb_c5 9 rfl rfl)
theorem ml_X11_342 : Cond.methodLink RX11 342 yX3_isClearOf ∈ tb := (tb_c4 179 rfl rfl)
theorem ml_X11_346 : Cond.methodLink RX11 346 yX3_line ∈ tb := (tb_c4 192 rfl rfl)
theorem ml_X11_353 : Cond.methodLink RX11 353 yX7_onGround ∈ tb := (tb_c4 204 rfl rfl)
theorem ml_X11_363 : Cond.methodLink RX11 363 yX6_deepRound ∈ tb := (tb_c4 216 rfl rfl)
theorem ml_X11_369 : Cond.methodLink RX11 369 yX6_likeTo ∈ tb := (tb_c4 220 rfl rfl)
theorem ml_X11_373 : Cond.methodLink RX11 373 yX6_wallsOf ∈ tb := (tb_c4 224 rfl rfl)
theorem ml_X11_379 : Cond.methodLink RX11 379 yX11_aim ∈ tb := (tb_c5 151 rfl rfl)
theorem ml_X11_383 : Cond.methodLink RX11 383 yX11_search ∈ tb := (tb_c5 155 rfl rfl)
theorem ml_X11_390 : Cond.methodLink RX11 390 yX0_margin ∈ tb := (tb_c5 173 rfl rfl)
theorem ml_X11_393 : Cond.methodLink RX11 393 yX0_clear ∈ tb := (tb_c5 159 rfl rfl)
theorem ml_X11_396 : Cond.methodLink RX11 396 yX3_spreadBy ∈ tb := (tb_c5 163 rfl rfl)
theorem ml_X11_400 : Cond.methodLink RX11 400 yX11_rivalWish ∈ tb := (tb_c5 181 rfl rfl)
theorem ml_X11_404 : Cond.methodLink RX11 404 yX0_weigh ∈ tb := (tb_c5 168 rfl rfl)
theorem ml_X11_408 : Cond.methodLink RX11 408 yX6_suppose ∈ tb := (tb_c5 185 rfl rfl)
theorem ml_X11_411 : Cond.methodLink RX11 411 yX6_forget ∈ tb := (tb_c5 190 rfl rfl)
theorem ml_X11_418 : Cond.methodLink RX11 418 yJ9_max_f86c9 ∈ tb := (tb_c5 194 rfl rfl)
theorem ml_X11_424 : Cond.methodLink RX11 424 yX11_widens ∈ tb := (tb_c5 203 rfl rfl)
theorem ml_X11_428 : Cond.methodLink RX11 428 yX10_survey ∈ tb := (tb_c5 211 rfl rfl)
theorem ml_X11_435 : Cond.methodLink RX11 435 yX10_walk ∈ tb := (tb_c5 235 rfl rfl)
theorem ml_X11_439 : Cond.methodLink RX11 439 yX10_settle ∈ tb := (tb_c5 239 rfl rfl)
theorem ml_X11_449 : Cond.methodLink RX11 449 yX11_isErrandCell ∈ tb := (tb_c6 12 rfl rfl)
theorem ml_X11_456 : Cond.methodLink RX11 456 yX1_set ∈ tb := (tb_c6 15 rfl rfl)
theorem ml_X11_460 : Cond.methodLink RX11 460 yX11_total ∈ tb := (tb_c6 23 rfl rfl)
theorem ml_X11_466 : Cond.methodLink RX11 466 yX6_hasEnds ∈ tb := (tb_c6 27 rfl rfl)
theorem ml_X11_470 : Cond.methodLink RX11 470 yX1_from ∈ tb := (tb_c6 32 rfl rfl)
theorem ml_X11_473 : Cond.methodLink RX11 473 yX1_to ∈ tb := (tb_c6 36 rfl rfl)
theorem ml_X11_481 : Cond.methodLink RX11 481 yX10_clearGates ∈ tb := (tb_c6 44 rfl rfl)
theorem ml_X11_484 : Cond.methodLink RX11 484 yX9_parts ∈ tb := (tb_c6 48 rfl rfl)
theorem ml_X11_487 : Cond.methodLink RX11 487 yX10_tryGates ∈ tb := (tb_c6 53 rfl rfl)
theorem ml_X11_491 : Cond.methodLink RX11 491 yX10_bestGate ∈ tb := (tb_c6 67 rfl rfl)
theorem ml_X11_495 : Cond.methodLink RX11 495 yX11_live ∈ tb := (tb_c6 84 rfl rfl)
theorem ml_X11_499 : Cond.methodLink RX11 499 yX6_copyFrom ∈ tb := (tb_c6 109 rfl rfl)
theorem ml_X11_502 : Cond.methodLink RX11 502 yX11_outlook ∈ tb := (tb_c6 122 rfl rfl)
theorem ml_X11_505 : Cond.methodLink RX11 505 yX6_deepest ∈ tb := (tb_c6 126 rfl rfl)
theorem ml_X11_508 : Cond.methodLink RX11 508 yX11_drawWall ∈ tb := (tb_c6 88 rfl rfl)
theorem ml_X11_512 : Cond.methodLink RX11 512 yX6_draw ∈ tb := (tb_c6 92 rfl rfl)
theorem ml_X11_515 : Cond.methodLink RX11 515 yX6_outermostAt ∈ tb := (tb_c6 100 rfl rfl)
theorem ml_X0_3 : Cond.methodLink RX0 3 Lib.objectInit ∈ tb := (tb_c2 60 rfl rfl)
theorem ml_X0_15 : Cond.methodLink RX0 15 yX3_line ∈ tb := (tb_c5 172 rfl rfl)
theorem ml_X1_3 : Cond.methodLink RX1 3 Lib.objectInit ∈ tb := (tb_c2 181 rfl rfl)
theorem ml_X2_3 : Cond.methodLink RX2 3 Lib.objectInit ∈ tb := (tb_c1 86 rfl rfl)
theorem ml_X2_9 : Cond.methodLink RX2 9 yX6_wipe ∈ tb := (tb_c3 103 rfl rfl)
theorem ml_X2_20 : Cond.methodLink RX2 20 yX8_open ∈ tb := (tb_c3 107 rfl rfl)
theorem ml_X2_25 : Cond.methodLink RX2 25 yX2_readClause ∈ tb := (tb_c3 180 rfl rfl)
theorem ml_X2_29 : Cond.methodLink RX2 29 yX8_goesOn ∈ tb := (tb_c3 237 rfl rfl)
theorem ml_X2_37 : Cond.methodLink RX2 37 yX2_checkHouses ∈ tb := (tb_c4 5 rfl rfl)
theorem ml_X2_47 : Cond.methodLink RX2 47 yX8_fail ∈ tb := (tb_c3 184 rfl rfl)
theorem ml_X2_54 : Cond.methodLink RX2 54 yX8_next ∈ tb := (tb_c3 188 rfl rfl)
theorem ml_X2_57 : Cond.methodLink RX2 57 yX2_readWide ∈ tb := (tb_c3 189 rfl rfl)
theorem ml_X2_61 : Cond.methodLink RX2 61 yX2_readHouse ∈ tb := (tb_c3 198 rfl rfl)
theorem ml_X2_64 : Cond.methodLink RX2 64 yX2_readWorth ∈ tb := (tb_c3 221 rfl rfl)
theorem ml_X2_67 : Cond.methodLink RX2 67 yX2_readRiver ∈ tb := (tb_c3 229 rfl rfl)
theorem ml_X2_70 : Cond.methodLink RX2 70 yX2_readWell ∈ tb := (tb_c3 233 rfl rfl)
theorem ml_X2_73 : Cond.methodLink RX2 73 yX8_number ∈ tb := (tb_c3 193 rfl rfl)
theorem ml_X2_86 : Cond.methodLink RX2 86 yX2_readArea ∈ tb := (tb_c3 202 rfl rfl)
theorem ml_X2_106 : Cond.methodLink RX2 106 yX9_rise ∈ tb := (tb_c3 206 rfl rfl)
theorem ml_X2_112 : Cond.methodLink RX2 112 yX2_isClearOf ∈ tb := (tb_c3 210 rfl rfl)
theorem ml_X2_116 : Cond.methodLink RX2 116 yX8_failAt ∈ tb := (tb_c3 217 rfl rfl)
theorem ml_X2_130 : Cond.methodLink RX2 130 yX2_mark ∈ tb := (tb_c3 225 rfl rfl)
theorem ml_X3_3 : Cond.methodLink RX3 3 Lib.objectInit ∈ tb := (tb_c1 214 rfl rfl)
theorem ml_X3_43 : Cond.methodLink RX3 43 yJ9_min_7cf53 ∈ tb := (tb_c4 173 rfl rfl)
theorem ml_X3_57 : Cond.methodLink RX3 57 yJ9_max_7cf53 ∈ tb := (tb_c5 134 rfl rfl)
theorem ml_X3_79 : Cond.methodLink RX3 79 yX3_spread ∈ tb := (tb_c5 167 rfl rfl)
theorem ml_X3_83 : Cond.methodLink RX3 83 yX3_areClear ∈ tb := (tb_c4 183 rfl rfl)
theorem ml_X4_3 : Cond.methodLink RX4 3 Lib.objectInit ∈ tb := (tb_c4 105 rfl rfl)
theorem ml_X4_32 : Cond.methodLink RX4 32 yX4_run ∈ tb := (tb_c4 232 rfl rfl)
theorem ml_X4_38 : Cond.methodLink RX4 38 yJ9_min_f86c9 ∈ tb := (tb_c5 3 rfl rfl)
theorem ml_X4_44 : Cond.methodLink RX4 44 yJ9_max_f86c9 ∈ tb := (tb_c5 6 rfl rfl)
theorem ml_X4_47 : Cond.methodLink RX4 47 yJ9_max_7cf53 ∈ tb := (tb_c4 236 rfl rfl)
theorem ml_X4_50 : Cond.methodLink RX4 50 yX4_apply ∈ tb := (tb_c4 239 rfl rfl)
theorem ml_X5_3 : Cond.methodLink RX5 3 Lib.objectInit ∈ tb := (tb_c1 108 rfl rfl)
theorem ml_X5_43 : Cond.methodLink RX5 43 yX8_open ∈ tb := (tb_c4 42 rfl rfl)
theorem ml_X5_46 : Cond.methodLink RX5 46 yX5_readClause ∈ tb := (tb_c4 43 rfl rfl)
theorem ml_X5_50 : Cond.methodLink RX5 50 yX8_goesOn ∈ tb := (tb_c4 85 rfl rfl)
theorem ml_X5_59 : Cond.methodLink RX5 59 yJ7_copyOf_59c91 ∈ tb := (tb_c4 88 rfl rfl)
theorem ml_X5_65 : Cond.methodLink RX5 65 yX4_init ∈ tb := (tb_c4 102 rfl rfl)
theorem ml_X5_74 : Cond.methodLink RX5 74 yX8_fail ∈ tb := (tb_c4 47 rfl rfl)
theorem ml_X5_78 : Cond.methodLink RX5 78 yX8_next ∈ tb := (tb_c4 48 rfl rfl)
theorem ml_X5_81 : Cond.methodLink RX5 81 yX8_number ∈ tb := (tb_c4 49 rfl rfl)
theorem ml_X5_85 : Cond.methodLink RX5 85 yX5_readSum ∈ tb := (tb_c4 50 rfl rfl)
theorem ml_X5_88 : Cond.methodLink RX5 88 yX5_put ∈ tb := (tb_c4 58 rfl rfl)
theorem ml_X5_92 : Cond.methodLink RX5 92 yX8_isWord ∈ tb := (tb_c4 65 rfl rfl)
theorem ml_X5_95 : Cond.methodLink RX5 95 yX5_readTest ∈ tb := (tb_c4 69 rfl rfl)
theorem ml_X5_98 : Cond.methodLink RX5 98 yX5_readFact ∈ tb := (tb_c4 73 rfl rfl)
theorem ml_X5_101 : Cond.methodLink RX5 101 yX8_isSign ∈ tb := (tb_c4 77 rfl rfl)
theorem ml_X5_104 : Cond.methodLink RX5 104 yX5_readNested ∈ tb := (tb_c4 78 rfl rfl)
theorem ml_X5_107 : Cond.methodLink RX5 107 yX4_comparisonOf ∈ tb := (tb_c4 82 rfl rfl)
theorem ml_X5_111 : Cond.methodLink RX5 111 yX5_readValue ∈ tb := (tb_c4 54 rfl rfl)
theorem ml_X5_114 : Cond.methodLink RX5 114 yX4_arithmeticOf ∈ tb := (tb_c4 62 rfl rfl)
theorem ml_X6_3 : Cond.methodLink RX6 3 Lib.objectInit ∈ tb := (tb_c2 90 rfl rfl)
theorem ml_X6_37 : Cond.methodLink RX6 37 yJ7_fill_53178 ∈ tb := (tb_c2 95 rfl rfl)
theorem ml_X6_51 : Cond.methodLink RX6 51 yX6_keepFeelings ∈ tb := (tb_c6 113 rfl rfl)
theorem ml_X6_61 : Cond.methodLink RX6 61 yX9_copyFrom ∈ tb := (tb_c6 114 rfl rfl)
theorem ml_X6_65 : Cond.methodLink RX6 65 yX1_copyFrom ∈ tb := (tb_c6 118 rfl rfl)
theorem ml_X6_84 : Cond.methodLink RX6 84 yX6_hasCell ∈ tb := (tb_c6 31 rfl rfl)
theorem ml_X6_100 : Cond.methodLink RX6 100 yX6_isThere ∈ tb := (tb_c5 47 rfl rfl)
theorem ml_X6_110 : Cond.methodLink RX6 110 yX6_wallsOf ∈ tb := (tb_c5 125 rfl rfl)
theorem ml_X6_114 : Cond.methodLink RX6 114 yX6_isOutermost ∈ tb := (tb_c5 107 rfl rfl)
theorem ml_X6_117 : Cond.methodLink RX6 117 yX9_area ∈ tb := (tb_c5 90 rfl rfl)
theorem ml_X6_124 : Cond.methodLink RX6 124 yJ9_max_7cf53 ∈ tb := (tb_c6 130 rfl rfl)
theorem ml_X6_130 : Cond.methodLink RX6 130 yX6_nestCount ∈ tb := (tb_c6 104 rfl rfl)
theorem ml_X6_133 : Cond.methodLink RX6 133 yX9_has ∈ tb := (tb_c5 86 rfl rfl)
theorem ml_X6_136 : Cond.methodLink RX6 136 yX6_coversOf ∈ tb := (tb_c5 116 rfl rfl)
theorem ml_X6_142 : Cond.methodLink RX6 142 yX6_deepRound ∈ tb := (tb_c5 25 rfl rfl)
theorem ml_X6_151 : Cond.methodLink RX6 151 yX9_rise ∈ tb := (tb_c5 26 rfl rfl)
theorem ml_X6_155 : Cond.methodLink RX6 155 yX6_raise ∈ tb := (tb_c5 189 rfl rfl)
theorem ml_X7_3 : Cond.methodLink RX7 3 Lib.objectInit ∈ tb := (tb_c1 146 rfl rfl)
theorem ml_X7_39 : Cond.methodLink RX7 39 yX7_grow ∈ tb := (tb_c4 20 rfl rfl)
theorem ml_X7_43 : Cond.methodLink RX7 43 yX7_rebuildLines ∈ tb := (tb_c4 23 rfl rfl)
theorem ml_X7_47 : Cond.methodLink RX7 47 yX7_areRivers ∈ tb := (tb_c4 27 rfl rfl)
theorem ml_X7_51 : Cond.methodLink RX7 51 yX6_hasCell ∈ tb := (tb_c4 30 rfl rfl)
theorem ml_X7_69 : Cond.methodLink RX7 69 yX7_inRectangle ∈ tb := (tb_c4 208 rfl rfl)
theorem ml_X7_79 : Cond.methodLink RX7 79 yX7_inThing ∈ tb := (tb_c4 212 rfl rfl)
theorem ml_X8_3 : Cond.methodLink RX8 3 Lib.objectInit ∈ tb := (tb_c1 34 rfl rfl)
theorem ml_X8_32 : Cond.methodLink RX8 32 yX8_split ∈ tb := (tb_c3 111 rfl rfl)
theorem ml_X8_42 : Cond.methodLink RX8 42 yX8_next ∈ tb := (tb_c3 176 rfl rfl)
theorem ml_X8_54 : Cond.methodLink RX8 54 yX8_splitWord ∈ tb := (tb_c3 115 rfl rfl)
theorem ml_X8_57 : Cond.methodLink RX8 57 yX8_splitNumber ∈ tb := (tb_c3 172 rfl rfl)
theorem ml_X8_60 : Cond.methodLink RX8 60 yX8_wordOf ∈ tb := (tb_c3 119 rfl rfl)
theorem ml_X8_66 : Cond.methodLink RX8 66 yJ0_length_8abf5 ∈ tb := (tb_c3 124 rfl rfl)
theorem ml_X8_71 : Cond.methodLink RX8 71 yJ0_charAt_5068e ∈ tb := (tb_c3 134 rfl rfl)
theorem ml_X8_75 : Cond.methodLink RX8 75 yX8_fail ∈ tb := (tb_c3 197 rfl rfl)
theorem ml_X8_79 : Cond.methodLink RX8 79 yX8_isSign ∈ tb := (tb_c4 1 rfl rfl)
theorem ml_X9_3 : Cond.methodLink RX9 3 Lib.objectInit ∈ tb := (tb_c2 102 rfl rfl)
theorem ml_X9_53 : Cond.methodLink RX9 53 yX9_has ∈ tb := (tb_c6 52 rfl rfl)
theorem ml_X10_3 : Cond.methodLink RX10 3 Lib.objectInit ∈ tb := (tb_c1 171 rfl rfl)
theorem ml_X10_41 : Cond.methodLink RX10 41 yX10_paintWalls ∈ tb := (tb_c5 215 rfl rfl)
theorem ml_X10_44 : Cond.methodLink RX10 44 yJ7_fill_53178 ∈ tb := (tb_c5 219 rfl rfl)
theorem ml_X10_58 : Cond.methodLink RX10 58 yX10_join ∈ tb := (tb_c5 225 rfl rfl)
theorem ml_X10_72 : Cond.methodLink RX10 72 yX10_paint ∈ tb := (tb_c5 220 rfl rfl)
theorem ml_X10_76 : Cond.methodLink RX10 76 yX9_area ∈ tb := (tb_c5 224 rfl rfl)
theorem ml_X10_98 : Cond.methodLink RX10 98 yX10_passes ∈ tb := (tb_c5 231 rfl rfl)
theorem ml_X10_117 : Cond.methodLink RX10 117 yX9_has ∈ tb := (tb_c6 3 rfl rfl)
theorem ml_X10_121 : Cond.methodLink RX10 121 yX9_tollFor ∈ tb := (tb_c6 4 rfl rfl)
theorem ml_X10_128 : Cond.methodLink RX10 128 yX1_from ∈ tb := (tb_c6 57 rfl rfl)
theorem ml_X10_133 : Cond.methodLink RX10 133 yX10_walk ∈ tb := (tb_c6 58 rfl rfl)
theorem ml_X10_137 : Cond.methodLink RX10 137 yX1_to ∈ tb := (tb_c6 59 rfl rfl)
theorem ml_X10_147 : Cond.methodLink RX10 147 yX10_settle ∈ tb := (tb_c6 60 rfl rfl)
theorem ml_X10_151 : Cond.methodLink RX10 151 yX9_lengthOf ∈ tb := (tb_c6 61 rfl rfl)
theorem ml_X10_154 : Cond.methodLink RX10 154 yX10_addGate ∈ tb := (tb_c6 62 rfl rfl)
theorem ml_X10_158 : Cond.methodLink RX10 158 yX6_hasCell ∈ tb := (tb_c6 66 rfl rfl)
theorem ml_L_9 : Cond.methodLink RL 9 yX11_init ∈ tb := (tb_c1 23 rfl rfl)
theorem ml_L_12 : Cond.methodLink RL 12 yX12_init ∈ tb := (tb_c6 141 rfl rfl)
theorem ml_L_13 : Cond.methodLink RL 13 yX11_feed ∈ tb := (tb_c3 79 rfl rfl)
theorem ml_L_17 : Cond.methodLink RL 17 yX12_feed ∈ tb := (tb_c7 60 rfl rfl)
theorem ml_L_18 : Cond.methodLink RL 18 yX11_end ∈ tb := (tb_c3 91 rfl rfl)
theorem ml_L_22 : Cond.methodLink RL 22 yX12_end ∈ tb := (tb_c7 68 rfl rfl)
theorem ml_L_23 : Cond.methodLink RL 23 yX11_land ∈ tb := (tb_c3 95 rfl rfl)
theorem ml_L_27 : Cond.methodLink RL 27 yX12_land ∈ tb := (tb_c7 233 rfl rfl)
theorem ml_L_28 : Cond.methodLink RL 28 yX11_text ∈ tb := (tb_c4 34 rfl rfl)
theorem ml_L_31 : Cond.methodLink RL 31 yX12_text ∈ tb := (tb_c7 72 rfl rfl)
theorem ml_L_32 : Cond.methodLink RL 32 yX11_like ∈ tb := (tb_c4 126 rfl rfl)
theorem ml_L_36 : Cond.methodLink RL 36 yX12_like ∈ tb := (tb_c8 4 rfl rfl)
theorem ml_L_37 : Cond.methodLink RL 37 yX11_can ∈ tb := (tb_c4 133 rfl rfl)
theorem ml_L_41 : Cond.methodLink RL 41 yX12_can ∈ tb := (tb_c8 13 rfl rfl)
theorem ml_L_42 : Cond.methodLink RL 42 yX11_build ∈ tb := (tb_c5 13 rfl rfl)
theorem ml_L_45 : Cond.methodLink RL 45 yX12_build ∈ tb := (tb_c8 125 rfl rfl)
theorem ml_L_46 : Cond.methodLink RL 46 yX11_wish ∈ tb := (tb_c5 27 rfl rfl)
theorem ml_L_50 : Cond.methodLink RL 50 yX12_wish ∈ tb := (tb_c8 137 rfl rfl)
theorem ml_L_51 : Cond.methodLink RL 51 yX11_pull ∈ tb := (tb_c5 39 rfl rfl)
theorem ml_L_55 : Cond.methodLink RL 55 yX12_pull ∈ tb := (tb_c8 145 rfl rfl)
theorem ml_L_56 : Cond.methodLink RL 56 yX11_gate ∈ tb := (tb_c5 52 rfl rfl)
theorem ml_L_60 : Cond.methodLink RL 60 yX12_gate ∈ tb := (tb_c8 157 rfl rfl)
theorem ml_L_61 : Cond.methodLink RL 61 yX11_key ∈ tb := (tb_c5 60 rfl rfl)
theorem ml_L_65 : Cond.methodLink RL 65 yX12_key ∈ tb := (tb_c8 174 rfl rfl)
theorem ml_L_66 : Cond.methodLink RL 66 yX11_thing ∈ tb := (tb_c5 64 rfl rfl)
theorem ml_L_70 : Cond.methodLink RL 70 yX12_thing ∈ tb := (tb_c8 178 rfl rfl)
theorem ml_L_71 : Cond.methodLink RL 71 yX11_cell ∈ tb := (tb_c5 77 rfl rfl)
theorem ml_L_74 : Cond.methodLink RL 74 yX12_cell ∈ tb := (tb_c8 191 rfl rfl)
theorem ml_L_75 : Cond.methodLink RL 75 yX11_inside ∈ tb := (tb_c5 91 rfl rfl)
theorem ml_L_78 : Cond.methodLink RL 78 yX12_inside ∈ tb := (tb_c8 203 rfl rfl)
theorem ml_L_79 : Cond.methodLink RL 79 yX11_best ∈ tb := (tb_c5 147 rfl rfl)
theorem ml_L_83 : Cond.methodLink RL 83 yX12_best ∈ tb := (tb_c8 207 rfl rfl)
theorem ml_L_84 : Cond.methodLink RL 84 yX11_ahead ∈ tb := (tb_c5 177 rfl rfl)
theorem ml_L_87 : Cond.methodLink RL 87 yX12_ahead ∈ tb := (tb_c8 238 rfl rfl)
theorem ml_L_88 : Cond.methodLink RL 88 yX11_least ∈ tb := (tb_c5 195 rfl rfl)
theorem ml_L_91 : Cond.methodLink RL 91 yX12_least ∈ tb := (tb_c9 2 rfl rfl)
theorem ml_L_92 : Cond.methodLink RL 92 yX11_most ∈ tb := (tb_c5 199 rfl rfl)
theorem ml_L_95 : Cond.methodLink RL 95 yX12_most ∈ tb := (tb_c9 7 rfl rfl)
theorem ml_L_96 : Cond.methodLink RL 96 yX11_nests ∈ tb := (tb_c5 99 rfl rfl)
theorem ml_L_99 : Cond.methodLink RL 99 yX12_nests ∈ tb := (tb_c9 11 rfl rfl)
theorem ml_L_100 : Cond.methodLink RL 100 yX11_between ∈ tb := (tb_c5 126 rfl rfl)
theorem ml_L_103 : Cond.methodLink RL 103 yX12_between ∈ tb := (tb_c9 27 rfl rfl)
theorem ml_L_104 : Cond.methodLink RL 104 yX11_way ∈ tb := (tb_c5 207 rfl rfl)
theorem ml_L_108 : Cond.methodLink RL 108 yX12_way ∈ tb := (tb_c9 31 rfl rfl)
theorem ml_L_109 : Cond.methodLink RL 109 yX11_errand ∈ tb := (tb_c6 8 rfl rfl)
theorem ml_L_113 : Cond.methodLink RL 113 yX12_errand ∈ tb := (tb_c9 63 rfl rfl)
theorem ml_L_114 : Cond.methodLink RL 114 yX11_sum ∈ tb := (tb_c6 19 rfl rfl)
theorem ml_L_117 : Cond.methodLink RL 117 yX12_sum_ ∈ tb := (tb_c9 68 rfl rfl)
theorem ml_L_118 : Cond.methodLink RL 118 yX11_where ∈ tb := (tb_c6 40 rfl rfl)
theorem ml_L_121 : Cond.methodLink RL 121 yX12_where ∈ tb := (tb_c9 76 rfl rfl)
theorem ml_L_122 : Cond.methodLink RL 122 yX11_gains ∈ tb := (tb_c6 71 rfl rfl)
theorem ml_L_125 : Cond.methodLink RL 125 yX12_gains ∈ tb := (tb_c9 80 rfl rfl)
theorem ml_L_126 : Cond.methodLink RL 126 yX11_seed ∈ tb := (tb_c6 76 rfl rfl)
theorem ml_L_129 : Cond.methodLink RL 129 yX12_seed ∈ tb := (tb_c9 93 rfl rfl)
theorem ml_L_130 : Cond.methodLink RL 130 yX11_years ∈ tb := (tb_c6 80 rfl rfl)
theorem ml_L_133 : Cond.methodLink RL 133 yX12_years ∈ tb := (tb_c9 97 rfl rfl)
theorem ml_L_134 : Cond.methodLink RL 134 yX11_after ∈ tb := (tb_c6 105 rfl rfl)
theorem ml_L_137 : Cond.methodLink RL 137 yX12_after ∈ tb := (tb_c9 114 rfl rfl)
theorem ml_L_138 : Cond.methodLink RL 138 yX11_count ∈ tb := (tb_c5 139 rfl rfl)
theorem ml_L_141 : Cond.methodLink RL 141 yX12_count ∈ tb := (tb_c9 126 rfl rfl)
theorem ml_L_142 : Cond.methodLink RL 142 yX11_image ∈ tb := (tb_c6 131 rfl rfl)
theorem ml_L_145 : Cond.methodLink RL 145 yX12_image ∈ tb := (tb_c9 130 rfl rfl)
theorem ml_L_146 : Cond.methodLink RL 146 yX11_back ∈ tb := (tb_c6 135 rfl rfl)
theorem ml_L_149 : Cond.methodLink RL 149 yX12_back ∈ tb := (tb_c9 134 rfl rfl)
theorem ml_X12_1 : Cond.methodLink RX12 1 Lib.objectInit ∈ tb := (tb_c6 144 rfl rfl)
theorem ml_X12_77 : Cond.methodLink RX12 77 yX12_four ∈ tb := (tb_c7 64 rfl rfl)
theorem ml_X12_87 : Cond.methodLink RX12 87 yX12_see ∈ tb := (tb_c7 87 rfl rfl)
theorem ml_X12_91 : Cond.methodLink RX12 91 yX12_isLetter ∈ tb := (tb_c7 96 rfl rfl)
theorem ml_X12_95 : Cond.methodLink RX12 95 yX12_isWord ∈ tb := (tb_c7 92 rfl rfl)
theorem ml_X12_99 : Cond.methodLink RX12 99 yX12_passWord ∈ tb := (tb_c7 117 rfl rfl)
theorem ml_X12_102 : Cond.methodLink RX12 102 yX12_isDigit ∈ tb := (tb_c7 125 rfl rfl)
theorem ml_X12_105 : Cond.methodLink RX12 105 yX12_fails ∈ tb := (tb_c7 109 rfl rfl)
theorem ml_X12_112 : Cond.methodLink RX12 112 yX12_in ∈ tb := (tb_c7 76 rfl rfl)
theorem ml_X12_152 : Cond.methodLink RX12 152 yX12_strength ∈ tb := (tb_c7 224 rfl rfl)
theorem ml_X12_156 : Cond.methodLink RX12 156 yX12_puts ∈ tb := (tb_c7 177 rfl rfl)
theorem ml_X12_161 : Cond.methodLink RX12 161 yX12_numberHere ∈ tb := (tb_c7 121 rfl rfl)
theorem ml_X12_164 : Cond.methodLink RX12 164 yX12_makes ∈ tb := (tb_c7 173 rfl rfl)
theorem ml_X12_167 : Cond.methodLink RX12 167 yX12_wordHere ∈ tb := (tb_c7 181 rfl rfl)
theorem ml_X12_170 : Cond.methodLink RX12 170 yX12_value ∈ tb := (tb_c7 168 rfl rfl)
theorem ml_X12_174 : Cond.methodLink RX12 174 yX12_term ∈ tb := (tb_c7 164 rfl rfl)
theorem ml_X12_177 : Cond.methodLink RX12 177 yX12_sum ∈ tb := (tb_c7 160 rfl rfl)
theorem ml_X12_182 : Cond.methodLink RX12 182 yX12_opens ∈ tb := (tb_c7 208 rfl rfl)
theorem ml_X12_185 : Cond.methodLink RX12 185 yX12_compare ∈ tb := (tb_c7 212 rfl rfl)
theorem ml_X12_188 : Cond.methodLink RX12 188 yX12_settles ∈ tb := (tb_c7 220 rfl rfl)
theorem ml_X12_191 : Cond.methodLink RX12 191 yX12_isInside ∈ tb := (tb_c7 227 rfl rfl)
theorem ml_X12_194 : Cond.methodLink RX12 194 yX12_fact ∈ tb := (tb_c7 204 rfl rfl)
theorem ml_X12_197 : Cond.methodLink RX12 197 yX12_closes ∈ tb := (tb_c7 216 rfl rfl)
theorem ml_X12_206 : Cond.methodLink RX12 206 yX12_takesWord ∈ tb := (tb_c7 196 rfl rfl)
theorem ml_X12_209 : Cond.methodLink RX12 209 yX12_tested ∈ tb := (tb_c7 200 rfl rfl)
theorem ml_X12_230 : Cond.methodLink RX12 230 yX12_area ∈ tb := (tb_c7 133 rfl rfl)
theorem ml_X12_236 : Cond.methodLink RX12 236 yX12_areClear ∈ tb := (tb_c7 149 rfl rfl)
theorem ml_X12_257 : Cond.methodLink RX12 257 yX12_widens ∈ tb := (tb_c7 113 rfl rfl)
theorem ml_X12_260 : Cond.methodLink RX12 260 yX12_isWorth ∈ tb := (tb_c7 129 rfl rfl)
theorem ml_X12_263 : Cond.methodLink RX12 263 yX12_isRiverHere ∈ tb := (tb_c7 137 rfl rfl)
theorem ml_X12_266 : Cond.methodLink RX12 266 yX12_isWellHere ∈ tb := (tb_c7 141 rfl rfl)
theorem ml_X12_269 : Cond.methodLink RX12 269 yX12_isHouseHere ∈ tb := (tb_c7 145 rfl rfl)
theorem ml_X12_272 : Cond.methodLink RX12 272 yX12_joins ∈ tb := (tb_c7 152 rfl rfl)
theorem ml_X12_275 : Cond.methodLink RX12 275 yX12_clauseOf ∈ tb := (tb_c7 156 rfl rfl)
theorem ml_X12_278 : Cond.methodLink RX12 278 yX12_clauseHere ∈ tb := (tb_c7 83 rfl rfl)
theorem ml_X12_281 : Cond.methodLink RX12 281 yX12_readsAll ∈ tb := (tb_c7 79 rfl rfl)
theorem ml_X12_284 : Cond.methodLink RX12 284 yX12_placeOf ∈ tb := (tb_c7 237 rfl rfl)
theorem ml_X12_287 : Cond.methodLink RX12 287 yX12_comes ∈ tb := (tb_c8 0 rfl rfl)
theorem ml_X12_294 : Cond.methodLink RX12 294 yX12_push ∈ tb := (tb_c8 102 rfl rfl)
theorem ml_X12_298 : Cond.methodLink RX12 298 yX12_pop ∈ tb := (tb_c8 106 rfl rfl)
theorem ml_X12_302 : Cond.methodLink RX12 302 yX12_one ∈ tb := (tb_c8 110 rfl rfl)
theorem ml_X12_306 : Cond.methodLink RX12 306 yX12_reckons ∈ tb := (tb_c8 98 rfl rfl)
theorem ml_X12_310 : Cond.methodLink RX12 310 yX12_of ∈ tb := (tb_c8 29 rfl rfl)
theorem ml_X12_314 : Cond.methodLink RX12 314 yX12_isThing ∈ tb := (tb_c8 25 rfl rfl)
theorem ml_X12_317 : Cond.methodLink RX12 317 yX12_liesIn ∈ tb := (tb_c8 78 rfl rfl)
theorem ml_X12_338 : Cond.methodLink RX12 338 yX12_isOuter ∈ tb := (tb_c8 45 rfl rfl)
theorem ml_X12_341 : Cond.methodLink RX12 341 yX12_hasThing ∈ tb := (tb_c8 49 rfl rfl)
theorem ml_X12_347 : Cond.methodLink RX12 347 yX12_hasCell ∈ tb := (tb_c8 70 rfl rfl)
theorem ml_X12_351 : Cond.methodLink RX12 351 yX12_deepOf ∈ tb := (tb_c8 74 rfl rfl)
theorem ml_X12_354 : Cond.methodLink RX12 354 yX12_likeOf ∈ tb := (tb_c8 82 rfl rfl)
theorem ml_X12_357 : Cond.methodLink RX12 357 yX12_wallsOf ∈ tb := (tb_c8 86 rfl rfl)
theorem ml_X12_360 : Cond.methodLink RX12 360 yX12_isHolding ∈ tb := (tb_c8 94 rfl rfl)
theorem ml_X12_363 : Cond.methodLink RX12 363 yX12_summed ∈ tb := (tb_c8 113 rfl rfl)
theorem ml_X12_369 : Cond.methodLink RX12 369 yX12_bounded ∈ tb := (tb_c8 118 rfl rfl)
theorem ml_X12_373 : Cond.methodLink RX12 373 yX12_isRiver ∈ tb := (tb_c8 61 rfl rfl)
theorem ml_X12_376 : Cond.methodLink RX12 376 yX12_isFit ∈ tb := (tb_c8 41 rfl rfl)
theorem ml_X12_379 : Cond.methodLink RX12 379 yX12_isClear ∈ tb := (tb_c8 53 rfl rfl)
theorem ml_X12_382 : Cond.methodLink RX12 382 yX12_goesOverRiver ∈ tb := (tb_c8 57 rfl rfl)
theorem ml_X12_385 : Cond.methodLink RX12 385 yX12_wordsFor ∈ tb := (tb_c8 65 rfl rfl)
theorem ml_X12_388 : Cond.methodLink RX12 388 yX12_farBy ∈ tb := (tb_c8 90 rfl rfl)
theorem ml_X12_392 : Cond.methodLink RX12 392 yX12_mayBy ∈ tb := (tb_c8 121 rfl rfl)
theorem ml_X12_395 : Cond.methodLink RX12 395 yX12_isFamily ∈ tb := (tb_c8 8 rfl rfl)
theorem ml_X12_402 : Cond.methodLink RX12 402 yX12_isText ∈ tb := (tb_c8 17 rfl rfl)
theorem ml_X12_405 : Cond.methodLink RX12 405 yX12_areAsked ∈ tb := (tb_c8 21 rfl rfl)
theorem ml_X12_408 : Cond.methodLink RX12 408 yX12_thinks ∈ tb := (tb_c8 33 rfl rfl)
theorem ml_X12_411 : Cond.methodLink RX12 411 yX12_canCome ∈ tb := (tb_c8 37 rfl rfl)
theorem ml_X12_414 : Cond.methodLink RX12 414 yX12_freeNumber ∈ tb := (tb_c8 129 rfl rfl)
theorem ml_X12_417 : Cond.methodLink RX12 417 yX12_builds ∈ tb := (tb_c8 133 rfl rfl)
theorem ml_X12_420 : Cond.methodLink RX12 420 yX12_wishOf ∈ tb := (tb_c8 141 rfl rfl)
theorem ml_X12_423 : Cond.methodLink RX12 423 yX12_isWall ∈ tb := (tb_c8 149 rfl rfl)
theorem ml_X12_426 : Cond.methodLink RX12 426 yX12_pulls ∈ tb := (tb_c8 153 rfl rfl)
theorem ml_X12_429 : Cond.methodLink RX12 429 yX12_isAcross ∈ tb := (tb_c8 166 rfl rfl)
theorem ml_X12_434 : Cond.methodLink RX12 434 yX12_sideOf ∈ tb := (tb_c8 162 rfl rfl)
theorem ml_X12_439 : Cond.methodLink RX12 439 yX12_gates ∈ tb := (tb_c8 170 rfl rfl)
theorem ml_X12_443 : Cond.methodLink RX12 443 yX12_isGroundOf ∈ tb := (tb_c8 187 rfl rfl)
theorem ml_X12_448 : Cond.methodLink RX12 448 yX12_groundOf ∈ tb := (tb_c8 183 rfl rfl)
theorem ml_X12_452 : Cond.methodLink RX12 452 yX12_isInLand ∈ tb := (tb_c8 195 rfl rfl)
theorem ml_X12_455 : Cond.methodLink RX12 455 yX12_cellsOf ∈ tb := (tb_c8 199 rfl rfl)
theorem ml_X12_470 : Cond.methodLink RX12 470 yX12_less ∈ tb := (tb_c8 220 rfl rfl)
theorem ml_X12_473 : Cond.methodLink RX12 473 yX12_more ∈ tb := (tb_c8 223 rfl rfl)
theorem ml_X12_476 : Cond.methodLink RX12 476 yX12_margin ∈ tb := (tb_c8 230 rfl rfl)
theorem ml_X12_480 : Cond.methodLink RX12 480 yX12_bases ∈ tb := (tb_c8 216 rfl rfl)
theorem ml_X12_486 : Cond.methodLink RX12 486 yX12_thinksBy ∈ tb := (tb_c8 226 rfl rfl)
theorem ml_X12_493 : Cond.methodLink RX12 493 yX12_lineOf ∈ tb := (tb_c8 234 rfl rfl)
theorem ml_X12_498 : Cond.methodLink RX12 498 yX12_bestBy ∈ tb := (tb_c8 212 rfl rfl)
theorem ml_X12_504 : Cond.methodLink RX12 504 yX12_nestMany ∈ tb := (tb_c9 15 rfl rfl)
theorem ml_X12_507 : Cond.methodLink RX12 507 yX12_freeCells ∈ tb := (tb_c9 19 rfl rfl)
theorem ml_X12_510 : Cond.methodLink RX12 510 yX12_roundMany ∈ tb := (tb_c9 23 rfl rfl)
theorem ml_X12_513 : Cond.methodLink RX12 513 yX12_lineBetween ∈ tb := (tb_c9 55 rfl rfl)
theorem ml_X12_516 : Cond.methodLink RX12 516 yX12_beside ∈ tb := (tb_c9 47 rfl rfl)
theorem ml_X12_519 : Cond.methodLink RX12 519 yX12_tollOf ∈ tb := (tb_c9 51 rfl rfl)
theorem ml_X12_523 : Cond.methodLink RX12 523 yX12_walks ∈ tb := (tb_c9 43 rfl rfl)
theorem ml_X12_526 : Cond.methodLink RX12 526 yX12_lays ∈ tb := (tb_c9 35 rfl rfl)
theorem ml_X12_529 : Cond.methodLink RX12 529 yX12_wayOf ∈ tb := (tb_c9 39 rfl rfl)
theorem ml_X12_533 : Cond.methodLink RX12 533 yX12_asks ∈ tb := (tb_c9 59 rfl rfl)
theorem ml_X12_544 : Cond.methodLink RX12 544 yX12_sums ∈ tb := (tb_c9 72 rfl rfl)
theorem ml_X12_548 : Cond.methodLink RX12 548 yX12_keeps ∈ tb := (tb_c9 85 rfl rfl)
theorem ml_X12_551 : Cond.methodLink RX12 551 yX12_putsBack ∈ tb := (tb_c9 89 rfl rfl)
theorem ml_X12_562 : Cond.methodLink RX12 562 yX12_draw ∈ tb := (tb_c9 106 rfl rfl)
theorem ml_X12_567 : Cond.methodLink RX12 567 yX12_year ∈ tb := (tb_c9 102 rfl rfl)
theorem ml_X12_570 : Cond.methodLink RX12 570 yX12_wallMany ∈ tb := (tb_c9 118 rfl rfl)
theorem ml_X12_573 : Cond.methodLink RX12 573 yX12_deepest ∈ tb := (tb_c9 122 rfl rfl)
theorem ml_J0_335 : Cond.methodLink RJ0 335 yJ0_coder_7d493 ∈ tb := (tb_c3 128 rfl rfl)
theorem ml_J0_492 : Cond.methodLink RJ0 492 yJ0_isLatin1_aae02 ∈ tb := (tb_c3 138 rfl rfl)
theorem ml_J0_495 : Cond.methodLink RJ0 495 yJ1_charAt_3b067 ∈ tb := (tb_c3 142 rfl rfl)
theorem ml_J0_498 : Cond.methodLink RJ0 498 yJ2_charAt_3b067 ∈ tb := (tb_c3 153 rfl rfl)
theorem ml_J0_1059 : Cond.methodLink RJ0 1059 yJ3_checkIndex_8e157 ∈ tb := (tb_c3 150 rfl rfl)
theorem ml_J1_9 : Cond.methodLink RJ1 9 yJ0_checkIndex_df160 ∈ tb := (tb_c3 145 rfl rfl)
theorem ml_J2_48 : Cond.methodLink RJ2 48 yJ2_length_9d52b ∈ tb := (tb_c3 159 rfl rfl)
theorem ml_J2_67 : Cond.methodLink RJ2 67 yJ2_checkIndex_2214a ∈ tb := (tb_c3 156 rfl rfl)
theorem ml_J2_71 : Cond.methodLink RJ2 71 yJ2_getChar_3b067 ∈ tb := (tb_c3 163 rfl rfl)
theorem ml_J2_414 : Cond.methodLink RJ2 414 yJ0_checkIndex_df160 ∈ tb := (tb_c3 162 rfl rfl)
theorem ml_J7_304 : Cond.methodLink RJ7 304 yJ9_min_7cf53 ∈ tb := (tb_c4 98 rfl rfl)
theorem nl_X11_11 : Cond.methodLinkNest RX11 11 yX8_init "RoundAnothers" ∈ nestW := List.mem_filter.mpr ⟨List.mem_of_getElem? (i := 31) (by decide +kernel), rfl⟩
theorem nl_X11_18 : Cond.methodLinkNest RX11 18 yX2_init "RoundAnothers" ∈ nestW := List.mem_filter.mpr ⟨List.mem_of_getElem? (i := 83) (by decide +kernel), rfl⟩
theorem nl_X11_25 : Cond.methodLinkNest RX11 25 yX5_init "RoundAnothers" ∈ nestW := List.mem_filter.mpr ⟨List.mem_of_getElem? (i := 105) (by decide +kernel), rfl⟩
theorem nl_X11_47 : Cond.methodLinkNest RX11 47 yX7_init "RoundAnothers" ∈ nestW := List.mem_filter.mpr ⟨List.mem_of_getElem? (i := 143) (by decide +kernel), rfl⟩
theorem nl_X11_54 : Cond.methodLinkNest RX11 54 yX10_init "RoundAnothers" ∈ nestW := List.mem_filter.mpr ⟨List.mem_of_getElem? (i := 168) (by decide +kernel), rfl⟩
theorem nl_X11_61 : Cond.methodLinkNest RX11 61 yX3_init "RoundAnothers" ∈ nestW := List.mem_filter.mpr ⟨List.mem_of_getElem? (i := 211) (by decide +kernel), rfl⟩
theorem nl_X11_71 : Cond.methodLinkNest RX11 71 yX0_init "RoundAnothers" ∈ nestW := List.mem_filter.mpr ⟨List.mem_of_getElem? (i := 297) (by decide +kernel), rfl⟩
theorem nl_X2_122 : Cond.methodLinkNest RX2 122 yX3_areClear "RoundAnothers" ∈ nestW := List.mem_filter.mpr ⟨List.mem_of_getElem? (i := 694) (by decide +kernel), rfl⟩
theorem nl_X6_43 : Cond.methodLinkNest RX6 43 yX9_init "RoundAnothers" ∈ nestW := List.mem_filter.mpr ⟨List.mem_of_getElem? (i := 339) (by decide +kernel), rfl⟩
theorem nl_X6_44 : Cond.methodLinkNest RX6 44 yX1_init "RoundAnothers" ∈ nestW := List.mem_filter.mpr ⟨List.mem_of_getElem? (i := 418) (by decide +kernel), rfl⟩
theorem cl_X11_9 : Cond.classLink RX11 9 (kC 8) ∈ tb := (tb_c1 29 rfl rfl)
theorem cl_X11_16 : Cond.classLink RX11 16 (kC 2) ∈ tb := (tb_c1 81 rfl rfl)
theorem cl_X11_23 : Cond.classLink RX11 23 (kC 5) ∈ tb := (tb_c1 103 rfl rfl)
theorem cl_X11_30 : Cond.classLink RX11 30 (kC 4) ∈ tb := (tb_c1 137 rfl rfl)
theorem cl_X11_39 : Cond.classLink RX11 39 (kC 6) ∈ tb := (tb_c1 139 rfl rfl)
theorem cl_X11_45 : Cond.classLink RX11 45 (kC 7) ∈ tb := (tb_c1 141 rfl rfl)
theorem cl_X11_52 : Cond.classLink RX11 52 (kC 10) ∈ tb := (tb_c1 166 rfl rfl)
theorem cl_X11_59 : Cond.classLink RX11 59 (kC 3) ∈ tb := (tb_c1 209 rfl rfl)
theorem cl_X11_69 : Cond.classLink RX11 69 (kC 0) ∈ tb := (tb_c2 55 rfl rfl)
theorem cl_X5_57 : Cond.classLink RX5 57 (kC 4) ∈ tb := (tb_c4 86 rfl rfl)
theorem cl_X6_25 : Cond.classLink RX6 25 (kC 9) ∈ tb := (tb_c2 91 rfl rfl)
theorem cl_X6_31 : Cond.classLink RX6 31 (kC 1) ∈ tb := (tb_c2 93 rfl rfl)
theorem cl_L_7 : Cond.classLink RL 7 (kC 11) ∈ tb := (tb_c1 21 rfl rfl)
theorem cl_L_10 : Cond.classLink RL 10 (kC 12) ∈ tb := (tb_c6 139 rfl rfl)
theorem ct_X11_494 : Cond.constant RX11 494 (-100000) ∈ tb := (tb_c6 75 rfl rfl)
theorem ct_X6_165 : Cond.constant RX6 165 (65536) ∈ tb := (tb_c6 99 rfl rfl)
theorem ct_X12_160 : Cond.constant RX12 160 (99999) ∈ tb := (tb_c7 172 rfl rfl)
theorem ct_X12_547 : Cond.constant RX12 547 (-100000) ∈ tb := (tb_c9 84 rfl rfl)
theorem ct_X4_36 : Cond.constantLong RX4 36 (40) ∈ tb := (tb_c5 2 rfl rfl)
theorem ct_X6_159 : Cond.constantLong RX6 159 (1103515245) ∈ tb := (tb_c6 96 rfl rfl)
theorem ct_X6_161 : Cond.constantLong RX6 161 (12345) ∈ tb := (tb_c6 97 rfl rfl)
theorem ct_X6_163 : Cond.constantLong RX6 163 (2147483647) ∈ tb := (tb_c6 98 rfl rfl)
theorem ct_X12_116 : Cond.constantLong RX12 116 (1819242087) ∈ tb := (tb_c7 185 rfl rfl)
theorem ct_X12_118 : Cond.constantLong RX12 118 (512869299304) ∈ tb := (tb_c7 186 rfl rfl)
theorem ct_X12_120 : Cond.constantLong RX12 120 (114784769370228) ∈ tb := (tb_c7 187 rfl rfl)
theorem ct_X12_122 : Cond.constantLong RX12 122 (113741193899620) ∈ tb := (tb_c7 188 rfl rfl)
theorem ct_X12_124 : Cond.constantLong RX12 124 (512970880104) ∈ tb := (tb_c7 100 rfl rfl)
theorem ct_X12_126 : Cond.constantLong RX12 126 (512802712691) ∈ tb := (tb_c7 189 rfl rfl)
theorem ct_X12_128 : Cond.constantLong RX12 128 (491395638642) ∈ tb := (tb_c7 101 rfl rfl)
theorem ct_X12_130 : Cond.constantLong RX12 130 (1684366704) ∈ tb := (tb_c7 190 rfl rfl)
theorem ct_X12_132 : Cond.constantLong RX12 132 (1818848101) ∈ tb := (tb_c7 191 rfl rfl)
theorem ct_X12_134 : Cond.constantLong RX12 134 (7305070) ∈ tb := (tb_c7 192 rfl rfl)
theorem ct_X12_136 : Cond.constantLong RX12 136 (2036687218) ∈ tb := (tb_c7 193 rfl rfl)
theorem ct_X12_138 : Cond.constantLong RX12 138 (7632751) ∈ tb := (tb_c7 194 rfl rfl)
theorem ct_X12_180 : Cond.constantLong RX12 180 (7237492) ∈ tb := (tb_c7 106 rfl rfl)
theorem ct_X12_200 : Cond.constantLong RX12 200 (6385252) ∈ tb := (tb_c7 231 rfl rfl)
theorem ct_X12_202 : Cond.constantLong RX12 202 (28530) ∈ tb := (tb_c7 232 rfl rfl)
theorem ct_X12_204 : Cond.constantLong RX12 204 (26982) ∈ tb := (tb_c7 195 rfl rfl)
theorem ct_X12_240 : Cond.constantLong RX12 240 (2003395685) ∈ tb := (tb_c7 91 rfl rfl)
theorem ct_X12_242 : Cond.constantLong RX12 242 (2003135596) ∈ tb := (tb_c7 102 rfl rfl)
theorem ct_X12_244 : Cond.constantLong RX12 244 (448546567013) ∈ tb := (tb_c7 103 rfl rfl)
theorem ct_X12_246 : Cond.constantLong RX12 246 (6709618) ∈ tb := (tb_c7 104 rfl rfl)
theorem ct_X12_248 : Cond.constantLong RX12 248 (7168377) ∈ tb := (tb_c7 105 rfl rfl)
theorem ct_X12_250 : Cond.constantLong RX12 250 (1785686382) ∈ tb := (tb_c7 107 rfl rfl)
theorem ct_X12_252 : Cond.constantLong RX12 252 (2002873972) ∈ tb := (tb_c7 108 rfl rfl)
theorem ct_X12_345 : Cond.constantLong RX12 345 (2) ∈ tb := (tb_c8 69 rfl rfl)
theorem ct_X12_367 : Cond.constantLong RX12 367 (40) ∈ tb := (tb_c8 117 rfl rfl)
theorem ct_X12_398 : Cond.constantLong RX12 398 (-9) ∈ tb := (tb_c8 11 rfl rfl)
theorem ct_X12_400 : Cond.constantLong RX12 400 (9) ∈ tb := (tb_c8 12 rfl rfl)
theorem ct_X12_432 : Cond.constantLong RX12 432 (3) ∈ tb := (tb_c8 161 rfl rfl)
theorem ct_X12_437 : Cond.constantLong RX12 437 (999) ∈ tb := (tb_c8 169 rfl rfl)
theorem ct_X12_446 : Cond.constantLong RX12 446 (11) ∈ tb := (tb_c8 182 rfl rfl)
theorem ct_X12_496 : Cond.constantLong RX12 496 (4) ∈ tb := (tb_c8 211 rfl rfl)
theorem ct_X12_502 : Cond.constantLong RX12 502 (5) ∈ tb := (tb_c9 6 rfl rfl)
theorem ct_X12_536 : Cond.constantLong RX12 536 (39) ∈ tb := (tb_c9 67 rfl rfl)
theorem ct_X12_554 : Cond.constantLong RX12 554 (1103515245) ∈ tb := (tb_c9 110 rfl rfl)
theorem ct_X12_556 : Cond.constantLong RX12 556 (12345) ∈ tb := (tb_c9 111 rfl rfl)
theorem ct_X12_558 : Cond.constantLong RX12 558 (2147483648) ∈ tb := (tb_c9 112 rfl rfl)
theorem ct_X12_560 : Cond.constantLong RX12 560 (65536) ∈ tb := (tb_c9 113 rfl rfl)
theorem ct_X12_565 : Cond.constantLong RX12 565 (60) ∈ tb := (tb_c9 101 rfl rfl)
theorem ac_byte : Cond.arrayClass .byte ∈ tb := (tb_c1 79 rfl rfl)
theorem ac_int : Cond.arrayClass .int ∈ tb := (tb_c1 80 rfl rfl)
theorem ac_long : Cond.arrayClass .long ∈ tb := (tb_c2 54 rfl rfl)
theorem ac_boolean : Cond.arrayClass .boolean ∈ tb := (tb_c7 59 rfl rfl)
theorem mi_X0_init : MI mX0_init 0 := ⟨(tb_c2 59 rfl rfl), (tb_c2 58 rfl rfl), (tb_c1 8 rfl rfl), ⟨by decide +kernel, by decide +kernel, rfl⟩, by decide, rfl, rfl⟩
theorem mv_X0_clear : MV mX0_clear 0 0 := ⟨(tb_c5 162 rfl rfl), (tb_c5 160 rfl rfl), (tb_c5 161 rfl rfl), by decide +kernel, by decide, ⟨by decide +kernel, by decide +kernel, rfl⟩, by decide⟩
theorem mv_X0_weigh : MV mX0_weigh 0 2 := ⟨(tb_c5 171 rfl rfl), (tb_c5 169 rfl rfl), (tb_c5 170 rfl rfl), by decide +kernel, by decide, ⟨by decide +kernel, by decide +kernel, rfl⟩, by decide⟩
theorem mv_X0_margin : MV mX0_margin 0 1 := ⟨(tb_c5 176 rfl rfl), (tb_c5 174 rfl rfl), (tb_c5 175 rfl rfl), by decide +kernel, by decide, ⟨by decide +kernel, by decide +kernel, rfl⟩, by decide⟩
theorem mi_X1_init : MI mX1_init 0 := ⟨(tb_c2 180 rfl rfl), (tb_c2 179 rfl rfl), (tb_c1 12 rfl rfl), ⟨by decide +kernel, by decide +kernel, rfl⟩, by decide, rfl, rfl⟩
theorem mv_X1_set : MV mX1_set 1 5 := ⟨(tb_c6 18 rfl rfl), (tb_c6 16 rfl rfl), (tb_c6 17 rfl rfl), by decide +kernel, by decide, ⟨by decide +kernel, by decide +kernel, rfl⟩, by decide⟩
theorem mv_X1_copyFrom : MV mX1_copyFrom 1 1 := ⟨(tb_c6 121 rfl rfl), (tb_c6 119 rfl rfl), (tb_c6 120 rfl rfl), by decide +kernel, by decide, ⟨by decide +kernel, by decide +kernel, rfl⟩, by decide⟩
theorem mv_X1_from : MV mX1_from 1 0 := ⟨(tb_c6 35 rfl rfl), (tb_c6 33 rfl rfl), (tb_c6 34 rfl rfl), by decide +kernel, by decide, ⟨by decide +kernel, by decide +kernel, rfl⟩, by decide⟩
theorem mv_X1_to : MV mX1_to 1 0 := ⟨(tb_c6 39 rfl rfl), (tb_c6 37 rfl rfl), (tb_c6 38 rfl rfl), by decide +kernel, by decide, ⟨by decide +kernel, by decide +kernel, rfl⟩, by decide⟩
theorem mi_X2_init : MI mX2_init 0 := ⟨(tb_c1 85 rfl rfl), (tb_c1 84 rfl rfl), (tb_c1 3 rfl rfl), ⟨by decide +kernel, by decide +kernel, rfl⟩, by decide, rfl, rfl⟩
theorem mv_X2_read : MV mX2_read 2 2 := ⟨(tb_c3 102 rfl rfl), (tb_c3 100 rfl rfl), (tb_c3 101 rfl rfl), by decide +kernel, by decide, ⟨by decide +kernel, by decide +kernel, rfl⟩, by decide⟩
theorem mv_X2_readClause : MV mX2_readClause 2 3 := ⟨(tb_c3 183 rfl rfl), (tb_c3 182 rfl rfl), (tb_s (n := 5) 4 (by decide +kernel)), by decide +kernel, by decide, ⟨by decide +kernel, by decide +kernel, rfl⟩, by decide⟩
theorem mv_X2_readWide : MV mX2_readWide 2 2 := ⟨(tb_c3 192 rfl rfl), (tb_c3 191 rfl rfl), (tb_s (n := 5) 5 (by decide +kernel)), by decide +kernel, by decide, ⟨by decide +kernel, by decide +kernel, rfl⟩, by decide⟩
theorem mv_X2_readHouse : MV mX2_readHouse 2 2 := ⟨(tb_c3 201 rfl rfl), (tb_c3 200 rfl rfl), (tb_s (n := 5) 6 (by decide +kernel)), by decide +kernel, by decide, ⟨by decide +kernel, by decide +kernel, rfl⟩, by decide⟩
theorem mv_X2_isClearOf : MV mX2_isClearOf 2 1 := ⟨(tb_c3 213 rfl rfl), (tb_c3 212 rfl rfl), (tb_s (n := 5) 8 (by decide +kernel)), by decide +kernel, by decide, ⟨by decide +kernel, by decide +kernel, rfl⟩, by decide⟩
theorem mv_X2_readWorth : MV mX2_readWorth 2 2 := ⟨(tb_c3 224 rfl rfl), (tb_c3 223 rfl rfl), (tb_s (n := 5) 9 (by decide +kernel)), by decide +kernel, by decide, ⟨by decide +kernel, by decide +kernel, rfl⟩, by decide⟩
theorem mv_X2_readRiver : MV mX2_readRiver 2 2 := ⟨(tb_c3 232 rfl rfl), (tb_c3 231 rfl rfl), (tb_s (n := 5) 11 (by decide +kernel)), by decide +kernel, by decide, ⟨by decide +kernel, by decide +kernel, rfl⟩, by decide⟩
theorem mv_X2_readWell : MV mX2_readWell 2 2 := ⟨(tb_c3 236 rfl rfl), (tb_c3 235 rfl rfl), (tb_s (n := 5) 12 (by decide +kernel)), by decide +kernel, by decide, ⟨by decide +kernel, by decide +kernel, rfl⟩, by decide⟩
theorem mv_X2_readArea : MV mX2_readArea 2 1 := ⟨(tb_c3 205 rfl rfl), (tb_c3 204 rfl rfl), (tb_s (n := 5) 7 (by decide +kernel)), by decide +kernel, by decide, ⟨by decide +kernel, by decide +kernel, rfl⟩, by decide⟩
theorem mv_X2_mark : MV mX2_mark 2 3 := ⟨(tb_c3 228 rfl rfl), (tb_c3 227 rfl rfl), (tb_s (n := 5) 10 (by decide +kernel)), by decide +kernel, by decide, ⟨by decide +kernel, by decide +kernel, rfl⟩, by decide⟩
theorem mv_X2_checkHouses : MV mX2_checkHouses 2 2 := ⟨(tb_c4 8 rfl rfl), (tb_c4 7 rfl rfl), (tb_s (n := 5) 13 (by decide +kernel)), by decide +kernel, by decide, ⟨by decide +kernel, by decide +kernel, rfl⟩, by decide⟩
theorem mi_X3_init : MI mX3_init 0 := ⟨(tb_c1 213 rfl rfl), (tb_c1 212 rfl rfl), (tb_c1 7 rfl rfl), ⟨by decide +kernel, by decide +kernel, rfl⟩, by decide, rfl, rfl⟩
theorem mv_X3_set : MV mX3_set 3 7 := ⟨(tb_c4 152 rfl rfl), (tb_c4 150 rfl rfl), (tb_c4 151 rfl rfl), by decide +kernel, by decide, ⟨by decide +kernel, by decide +kernel, rfl⟩, by decide⟩
theorem mv_X3_surround : MV mX3_surround 3 2 := ⟨(tb_c5 133 rfl rfl), (tb_c5 131 rfl rfl), (tb_c5 132 rfl rfl), by decide +kernel, by decide, ⟨by decide +kernel, by decide +kernel, rfl⟩, by decide⟩
theorem mv_X3_spread : MV mX3_spread 3 4 := ⟨(tb_c5 138 rfl rfl), (tb_c5 136 rfl rfl), (tb_c5 137 rfl rfl), by decide +kernel, by decide, ⟨by decide +kernel, by decide +kernel, rfl⟩, by decide⟩
theorem mv_X3_spreadBy : MV mX3_spreadBy 3 2 := ⟨(tb_c5 166 rfl rfl), (tb_c5 164 rfl rfl), (tb_c5 165 rfl rfl), by decide +kernel, by decide, ⟨by decide +kernel, by decide +kernel, rfl⟩, by decide⟩
theorem mv_X3_area : MV mX3_area 3 0 := ⟨(tb_c4 199 rfl rfl), (tb_c4 197 rfl rfl), (tb_c4 198 rfl rfl), by decide +kernel, by decide, ⟨by decide +kernel, by decide +kernel, rfl⟩, by decide⟩
theorem mv_X3_line : MV mX3_line 3 0 := ⟨(tb_c4 195 rfl rfl), (tb_c4 193 rfl rfl), (tb_c4 194 rfl rfl), by decide +kernel, by decide, ⟨by decide +kernel, by decide +kernel, rfl⟩, by decide⟩
theorem mv_X3_gapTo : MV mX3_gapTo 3 1 := ⟨(tb_c4 172 rfl rfl), (tb_c4 170 rfl rfl), (tb_c4 171 rfl rfl), by decide +kernel, by decide, ⟨by decide +kernel, by decide +kernel, rfl⟩, by decide⟩
theorem mv_X3_isClearOf : MV mX3_isClearOf 3 1 := ⟨(tb_c4 182 rfl rfl), (tb_c4 180 rfl rfl), (tb_c4 181 rfl rfl), by decide +kernel, by decide, ⟨by decide +kernel, by decide +kernel, rfl⟩, by decide⟩
theorem ms_X3_areClear : MS mX3_areClear 4 := ⟨(tb_c3 216 rfl rfl), (tb_c3 215 rfl rfl), (tb_c1 7 rfl rfl), ⟨by decide +kernel, by decide +kernel, rfl⟩, by decide⟩
theorem mi_X4_init : MI mX4_init 5 := ⟨(tb_c4 104 rfl rfl), (tb_c4 103 rfl rfl), (tb_c1 19 rfl rfl), ⟨by decide +kernel, by decide +kernel, rfl⟩, by decide, rfl, rfl⟩
theorem ms_X4_arithmeticOf : MS mX4_arithmeticOf 1 := ⟨(tb_c4 64 rfl rfl), (tb_c4 63 rfl rfl), (tb_c1 19 rfl rfl), ⟨by decide +kernel, by decide +kernel, rfl⟩, by decide⟩
theorem ms_X4_comparisonOf : MS mX4_comparisonOf 1 := ⟨(tb_c4 84 rfl rfl), (tb_c4 83 rfl rfl), (tb_c1 19 rfl rfl), ⟨by decide +kernel, by decide +kernel, rfl⟩, by decide⟩
theorem mv_X4_distance : MV mX4_distance 4 1 := ⟨(tb_c4 231 rfl rfl), (tb_c4 229 rfl rfl), (tb_c4 230 rfl rfl), by decide +kernel, by decide, ⟨by decide +kernel, by decide +kernel, rfl⟩, by decide⟩
theorem mv_X4_allows : MV mX4_allows 4 1 := ⟨(tb_c5 12 rfl rfl), (tb_c5 10 rfl rfl), (tb_c5 11 rfl rfl), by decide +kernel, by decide, ⟨by decide +kernel, by decide +kernel, rfl⟩, by decide⟩
theorem mv_X4_total : MV mX4_total 4 1 := ⟨(tb_c5 38 rfl rfl), (tb_c5 36 rfl rfl), (tb_c5 37 rfl rfl), by decide +kernel, by decide, ⟨by decide +kernel, by decide +kernel, rfl⟩, by decide⟩
theorem mv_X4_run : MV mX4_run 4 2 := ⟨(tb_c4 235 rfl rfl), (tb_c4 234 rfl rfl), (tb_s (n := 6) 28 (by decide +kernel)), by decide +kernel, by decide, ⟨by decide +kernel, by decide +kernel, rfl⟩, by decide⟩
theorem ms_X4_apply : MS mX4_apply 3 := ⟨(tb_c5 1 rfl rfl), (tb_c5 0 rfl rfl), (tb_c1 19 rfl rfl), ⟨by decide +kernel, by decide +kernel, rfl⟩, by decide⟩
theorem mi_X5_init : MI mX5_init 0 := ⟨(tb_c1 107 rfl rfl), (tb_c1 106 rfl rfl), (tb_c1 4 rfl rfl), ⟨by decide +kernel, by decide +kernel, rfl⟩, by decide, rfl, rfl⟩
theorem mv_X5_read : MV mX5_read 5 2 := ⟨(tb_c4 41 rfl rfl), (tb_c4 39 rfl rfl), (tb_c4 40 rfl rfl), by decide +kernel, by decide, ⟨by decide +kernel, by decide +kernel, rfl⟩, by decide⟩
theorem mv_X5_readClause : MV mX5_readClause 5 1 := ⟨(tb_c4 46 rfl rfl), (tb_c4 45 rfl rfl), (tb_s (n := 9) 15 (by decide +kernel)), by decide +kernel, by decide, ⟨by decide +kernel, by decide +kernel, rfl⟩, by decide⟩
theorem mv_X5_readTest : MV mX5_readTest 5 1 := ⟨(tb_c4 72 rfl rfl), (tb_c4 71 rfl rfl), (tb_s (n := 9) 19 (by decide +kernel)), by decide +kernel, by decide, ⟨by decide +kernel, by decide +kernel, rfl⟩, by decide⟩
theorem mv_X5_readFact : MV mX5_readFact 5 1 := ⟨(tb_c4 76 rfl rfl), (tb_c4 75 rfl rfl), (tb_s (n := 9) 20 (by decide +kernel)), by decide +kernel, by decide, ⟨by decide +kernel, by decide +kernel, rfl⟩, by decide⟩
theorem mv_X5_readNested : MV mX5_readNested 5 1 := ⟨(tb_c4 81 rfl rfl), (tb_c4 80 rfl rfl), (tb_s (n := 9) 21 (by decide +kernel)), by decide +kernel, by decide, ⟨by decide +kernel, by decide +kernel, rfl⟩, by decide⟩
theorem mv_X5_readSum : MV mX5_readSum 5 0 := ⟨(tb_c4 53 rfl rfl), (tb_c4 52 rfl rfl), (tb_s (n := 9) 16 (by decide +kernel)), by decide +kernel, by decide, ⟨by decide +kernel, by decide +kernel, rfl⟩, by decide⟩
theorem mv_X5_readValue : MV mX5_readValue 5 0 := ⟨(tb_c4 57 rfl rfl), (tb_c4 56 rfl rfl), (tb_s (n := 9) 17 (by decide +kernel)), by decide +kernel, by decide, ⟨by decide +kernel, by decide +kernel, rfl⟩, by decide⟩
theorem mv_X5_put : MV mX5_put 5 1 := ⟨(tb_c4 61 rfl rfl), (tb_c4 60 rfl rfl), (tb_s (n := 9) 18 (by decide +kernel)), by decide +kernel, by decide, ⟨by decide +kernel, by decide +kernel, rfl⟩, by decide⟩
theorem mi_X6_init : MI mX6_init 0 := ⟨(tb_c2 89 rfl rfl), (tb_c2 88 rfl rfl), (tb_c1 9 rfl rfl), ⟨by decide +kernel, by decide +kernel, rfl⟩, by decide, rfl, rfl⟩
theorem mv_X6_copyFrom : MV mX6_copyFrom 6 1 := ⟨(tb_c6 112 rfl rfl), (tb_c6 110 rfl rfl), (tb_c6 111 rfl rfl), by decide +kernel, by decide, ⟨by decide +kernel, by decide +kernel, rfl⟩, by decide⟩
theorem mv_X6_keepFeelings : MV mX6_keepFeelings 6 1 := ⟨(tb_c4 12 rfl rfl), (tb_c4 10 rfl rfl), (tb_c4 11 rfl rfl), by decide +kernel, by decide, ⟨by decide +kernel, by decide +kernel, rfl⟩, by decide⟩
theorem mv_X6_wipe : MV mX6_wipe 6 0 := ⟨(tb_c3 106 rfl rfl), (tb_c3 104 rfl rfl), (tb_c3 105 rfl rfl), by decide +kernel, by decide, ⟨by decide +kernel, by decide +kernel, rfl⟩, by decide⟩
theorem mv_X6_hasCell : MV mX6_hasCell 6 2 := ⟨(tb_c4 33 rfl rfl), (tb_c4 31 rfl rfl), (tb_c4 32 rfl rfl), by decide +kernel, by decide, ⟨by decide +kernel, by decide +kernel, rfl⟩, by decide⟩
theorem mv_X6_hasEnds : MV mX6_hasEnds 6 1 := ⟨(tb_c6 30 rfl rfl), (tb_c6 28 rfl rfl), (tb_c6 29 rfl rfl), by decide +kernel, by decide, ⟨by decide +kernel, by decide +kernel, rfl⟩, by decide⟩
theorem mv_X6_holds : MV mX6_holds 6 1 := ⟨(tb_c4 164 rfl rfl), (tb_c4 162 rfl rfl), (tb_c4 163 rfl rfl), by decide +kernel, by decide, ⟨by decide +kernel, by decide +kernel, rfl⟩, by decide⟩
theorem mv_X6_isThere : MV mX6_isThere 6 1 := ⟨(tb_c4 148 rfl rfl), (tb_c4 146 rfl rfl), (tb_c4 147 rfl rfl), by decide +kernel, by decide, ⟨by decide +kernel, by decide +kernel, rfl⟩, by decide⟩
theorem mv_X6_isWall : MV mX6_isWall 6 1 := ⟨(tb_c5 46 rfl rfl), (tb_c5 44 rfl rfl), (tb_c5 45 rfl rfl), by decide +kernel, by decide, ⟨by decide +kernel, by decide +kernel, rfl⟩, by decide⟩
theorem mv_X6_isOutermost : MV mX6_isOutermost 6 1 := ⟨(tb_c4 168 rfl rfl), (tb_c4 166 rfl rfl), (tb_c4 167 rfl rfl), by decide +kernel, by decide, ⟨by decide +kernel, by decide +kernel, rfl⟩, by decide⟩
theorem mv_X6_wallCount : MV mX6_wallCount 6 0 := ⟨(tb_c5 146 rfl rfl), (tb_c5 144 rfl rfl), (tb_c5 145 rfl rfl), by decide +kernel, by decide, ⟨by decide +kernel, by decide +kernel, rfl⟩, by decide⟩
theorem mv_X6_wallsOf : MV mX6_wallsOf 6 1 := ⟨(tb_c4 227 rfl rfl), (tb_c4 225 rfl rfl), (tb_c4 226 rfl rfl), by decide +kernel, by decide, ⟨by decide +kernel, by decide +kernel, rfl⟩, by decide⟩
theorem mv_X6_wallless : MV mX6_wallless 6 0 := ⟨(tb_c5 124 rfl rfl), (tb_c5 122 rfl rfl), (tb_c5 123 rfl rfl), by decide +kernel, by decide, ⟨by decide +kernel, by decide +kernel, rfl⟩, by decide⟩
theorem mv_X6_nestCount : MV mX6_nestCount 6 0 := ⟨(tb_c5 106 rfl rfl), (tb_c5 104 rfl rfl), (tb_c5 105 rfl rfl), by decide +kernel, by decide, ⟨by decide +kernel, by decide +kernel, rfl⟩, by decide⟩
theorem mv_X6_freeCells : MV mX6_freeCells 6 0 := ⟨(tb_c5 111 rfl rfl), (tb_c5 109 rfl rfl), (tb_c5 110 rfl rfl), by decide +kernel, by decide, ⟨by decide +kernel, by decide +kernel, rfl⟩, by decide⟩
theorem mv_X6_deepest : MV mX6_deepest 6 0 := ⟨(tb_c6 129 rfl rfl), (tb_c6 127 rfl rfl), (tb_c6 128 rfl rfl), by decide +kernel, by decide, ⟨by decide +kernel, by decide +kernel, rfl⟩, by decide⟩
theorem mv_X6_freeNumber : MV mX6_freeNumber 6 0 := ⟨(tb_c5 20 rfl rfl), (tb_c5 18 rfl rfl), (tb_c5 19 rfl rfl), by decide +kernel, by decide, ⟨by decide +kernel, by decide +kernel, rfl⟩, by decide⟩
theorem mv_X6_outermostAt : MV mX6_outermostAt 6 1 := ⟨(tb_c6 103 rfl rfl), (tb_c6 101 rfl rfl), (tb_c6 102 rfl rfl), by decide +kernel, by decide, ⟨by decide +kernel, by decide +kernel, rfl⟩, by decide⟩
theorem mv_X6_innermostAt : MV mX6_innermostAt 6 2 := ⟨(tb_c5 85 rfl rfl), (tb_c5 83 rfl rfl), (tb_c5 84 rfl rfl), by decide +kernel, by decide, ⟨by decide +kernel, by decide +kernel, rfl⟩, by decide⟩
theorem mv_X6_liesIn : MV mX6_liesIn 6 2 := ⟨(tb_c5 98 rfl rfl), (tb_c5 96 rfl rfl), (tb_c5 97 rfl rfl), by decide +kernel, by decide, ⟨by decide +kernel, by decide +kernel, rfl⟩, by decide⟩
theorem mv_X6_coversOf : MV mX6_coversOf 6 1 := ⟨(tb_c5 119 rfl rfl), (tb_c5 117 rfl rfl), (tb_c5 118 rfl rfl), by decide +kernel, by decide, ⟨by decide +kernel, by decide +kernel, rfl⟩, by decide⟩
theorem mv_X6_innermostOfAll : MV mX6_innermostOfAll 6 0 := ⟨(tb_c5 115 rfl rfl), (tb_c5 113 rfl rfl), (tb_c5 114 rfl rfl), by decide +kernel, by decide, ⟨by decide +kernel, by decide +kernel, rfl⟩, by decide⟩
theorem mv_X6_deepRound : MV mX6_deepRound 6 1 := ⟨(tb_c4 219 rfl rfl), (tb_c4 217 rfl rfl), (tb_c4 218 rfl rfl), by decide +kernel, by decide, ⟨by decide +kernel, by decide +kernel, rfl⟩, by decide⟩
theorem mv_X6_likeTo : MV mX6_likeTo 6 2 := ⟨(tb_c4 223 rfl rfl), (tb_c4 221 rfl rfl), (tb_c4 222 rfl rfl), by decide +kernel, by decide, ⟨by decide +kernel, by decide +kernel, rfl⟩, by decide⟩
theorem mv_X6_raise : MV mX6_raise 6 2 := ⟨(tb_c5 24 rfl rfl), (tb_c5 22 rfl rfl), (tb_c5 23 rfl rfl), by decide +kernel, by decide, ⟨by decide +kernel, by decide +kernel, rfl⟩, by decide⟩
theorem mv_X6_suppose : MV mX6_suppose 6 1 := ⟨(tb_c5 188 rfl rfl), (tb_c5 186 rfl rfl), (tb_c5 187 rfl rfl), by decide +kernel, by decide, ⟨by decide +kernel, by decide +kernel, rfl⟩, by decide⟩
theorem mv_X6_forget : MV mX6_forget 6 1 := ⟨(tb_c5 193 rfl rfl), (tb_c5 191 rfl rfl), (tb_c5 192 rfl rfl), by decide +kernel, by decide, ⟨by decide +kernel, by decide +kernel, rfl⟩, by decide⟩
theorem mv_X6_remove : MV mX6_remove 6 1 := ⟨(tb_c5 51 rfl rfl), (tb_c5 49 rfl rfl), (tb_c5 50 rfl rfl), by decide +kernel, by decide, ⟨by decide +kernel, by decide +kernel, rfl⟩, by decide⟩
theorem mv_X6_draw : MV mX6_draw 6 0 := ⟨(tb_c6 95 rfl rfl), (tb_c6 93 rfl rfl), (tb_c6 94 rfl rfl), by decide +kernel, by decide, ⟨by decide +kernel, by decide +kernel, rfl⟩, by decide⟩
theorem mi_X7_init : MI mX7_init 0 := ⟨(tb_c1 145 rfl rfl), (tb_c1 144 rfl rfl), (tb_c1 5 rfl rfl), ⟨by decide +kernel, by decide +kernel, rfl⟩, by decide, rfl, rfl⟩
theorem mv_X7_rebuild : MV mX7_rebuild 7 1 := ⟨(tb_c4 19 rfl rfl), (tb_c4 17 rfl rfl), (tb_c4 18 rfl rfl), by decide +kernel, by decide, ⟨by decide +kernel, by decide +kernel, rfl⟩, by decide⟩
theorem ms_X7_grow : MS mX7_grow 3 := ⟨(tb_c4 22 rfl rfl), (tb_c4 21 rfl rfl), (tb_c1 5 rfl rfl), ⟨by decide +kernel, by decide +kernel, rfl⟩, by decide⟩
theorem mv_X7_rebuildLines : MV mX7_rebuildLines 7 1 := ⟨(tb_c4 26 rfl rfl), (tb_c4 25 rfl rfl), (tb_s (n := 5) 14 (by decide +kernel)), by decide +kernel, by decide, ⟨by decide +kernel, by decide +kernel, rfl⟩, by decide⟩
theorem ms_X7_areRivers : MS mX7_areRivers 5 := ⟨(tb_c4 29 rfl rfl), (tb_c4 28 rfl rfl), (tb_c1 5 rfl rfl), ⟨by decide +kernel, by decide +kernel, rfl⟩, by decide⟩
theorem mv_X7_inRectangle : MV mX7_inRectangle 7 5 := ⟨(tb_c4 211 rfl rfl), (tb_c4 209 rfl rfl), (tb_c4 210 rfl rfl), by decide +kernel, by decide, ⟨by decide +kernel, by decide +kernel, rfl⟩, by decide⟩
theorem mv_X7_inThing : MV mX7_inThing 7 2 := ⟨(tb_c4 215 rfl rfl), (tb_c4 213 rfl rfl), (tb_c4 214 rfl rfl), by decide +kernel, by decide, ⟨by decide +kernel, by decide +kernel, rfl⟩, by decide⟩
theorem mv_X7_onGround : MV mX7_onGround 7 4 := ⟨(tb_c4 207 rfl rfl), (tb_c4 205 rfl rfl), (tb_c4 206 rfl rfl), by decide +kernel, by decide, ⟨by decide +kernel, by decide +kernel, rfl⟩, by decide⟩
theorem mv_X7_linesInRivers : MV mX7_linesInRivers 7 1 := ⟨(tb_c4 187 rfl rfl), (tb_c4 185 rfl rfl), (tb_c4 186 rfl rfl), by decide +kernel, by decide, ⟨by decide +kernel, by decide +kernel, rfl⟩, by decide⟩
theorem mi_X8_init : MI mX8_init 0 := ⟨(tb_c1 33 rfl rfl), (tb_c1 32 rfl rfl), (tb_c1 2 rfl rfl), ⟨by decide +kernel, by decide +kernel, rfl⟩, by decide, rfl, rfl⟩
theorem mv_X8_hasRoom : MV mX8_hasRoom 8 0 := ⟨(tb_c3 86 rfl rfl), (tb_c3 84 rfl rfl), (tb_c3 85 rfl rfl), by decide +kernel, by decide, ⟨by decide +kernel, by decide +kernel, rfl⟩, by decide⟩
theorem mv_X8_append : MV mX8_append 8 1 := ⟨(tb_c3 90 rfl rfl), (tb_c3 88 rfl rfl), (tb_c3 89 rfl rfl), by decide +kernel, by decide, ⟨by decide +kernel, by decide +kernel, rfl⟩, by decide⟩
theorem mv_X8_open : MV mX8_open 8 0 := ⟨(tb_c3 110 rfl rfl), (tb_c3 108 rfl rfl), (tb_c3 109 rfl rfl), by decide +kernel, by decide, ⟨by decide +kernel, by decide +kernel, rfl⟩, by decide⟩
theorem mv_X8_next : MV mX8_next 8 0 := ⟨(tb_c3 179 rfl rfl), (tb_c3 177 rfl rfl), (tb_c3 178 rfl rfl), by decide +kernel, by decide, ⟨by decide +kernel, by decide +kernel, rfl⟩, by decide⟩
theorem mv_X8_split : MV mX8_split 8 1 := ⟨(tb_c3 114 rfl rfl), (tb_c3 113 rfl rfl), (tb_s (n := 11) 0 (by decide +kernel)), by decide +kernel, by decide, ⟨by decide +kernel, by decide +kernel, rfl⟩, by decide⟩
theorem mv_X8_splitWord : MV mX8_splitWord 8 1 := ⟨(tb_c3 118 rfl rfl), (tb_c3 117 rfl rfl), (tb_s (n := 11) 1 (by decide +kernel)), by decide +kernel, by decide, ⟨by decide +kernel, by decide +kernel, rfl⟩, by decide⟩
theorem mv_X8_wordOf : MV mX8_wordOf 8 2 := ⟨(tb_c3 122 rfl rfl), (tb_c3 121 rfl rfl), (tb_s (n := 11) 2 (by decide +kernel)), by decide +kernel, by decide, ⟨by decide +kernel, by decide +kernel, rfl⟩, by decide⟩
theorem mv_X8_splitNumber : MV mX8_splitNumber 8 1 := ⟨(tb_c3 175 rfl rfl), (tb_c3 174 rfl rfl), (tb_s (n := 11) 3 (by decide +kernel)), by decide +kernel, by decide, ⟨by decide +kernel, by decide +kernel, rfl⟩, by decide⟩
theorem mv_X8_isWord : MV mX8_isWord 8 1 := ⟨(tb_c4 68 rfl rfl), (tb_c4 66 rfl rfl), (tb_c4 67 rfl rfl), by decide +kernel, by decide, ⟨by decide +kernel, by decide +kernel, rfl⟩, by decide⟩
theorem mv_X8_isSign : MV mX8_isSign 8 1 := ⟨(tb_c4 4 rfl rfl), (tb_c4 2 rfl rfl), (tb_c4 3 rfl rfl), by decide +kernel, by decide, ⟨by decide +kernel, by decide +kernel, rfl⟩, by decide⟩
theorem mv_X8_fail : MV mX8_fail 8 1 := ⟨(tb_c3 187 rfl rfl), (tb_c3 185 rfl rfl), (tb_c3 186 rfl rfl), by decide +kernel, by decide, ⟨by decide +kernel, by decide +kernel, rfl⟩, by decide⟩
theorem mv_X8_failAt : MV mX8_failAt 8 2 := ⟨(tb_c3 220 rfl rfl), (tb_c3 218 rfl rfl), (tb_c3 219 rfl rfl), by decide +kernel, by decide, ⟨by decide +kernel, by decide +kernel, rfl⟩, by decide⟩
theorem mv_X8_number : MV mX8_number 8 2 := ⟨(tb_c3 196 rfl rfl), (tb_c3 194 rfl rfl), (tb_c3 195 rfl rfl), by decide +kernel, by decide, ⟨by decide +kernel, by decide +kernel, rfl⟩, by decide⟩
theorem mv_X8_goesOn : MV mX8_goesOn 8 0 := ⟨(tb_c4 0 rfl rfl), (tb_c3 238 rfl rfl), (tb_c3 239 rfl rfl), by decide +kernel, by decide, ⟨by decide +kernel, by decide +kernel, rfl⟩, by decide⟩
theorem mi_X9_init : MI mX9_init 0 := ⟨(tb_c2 101 rfl rfl), (tb_c2 100 rfl rfl), (tb_c1 11 rfl rfl), ⟨by decide +kernel, by decide +kernel, rfl⟩, by decide, rfl, rfl⟩
theorem mv_X9_copyFrom : MV mX9_copyFrom 9 1 := ⟨(tb_c6 117 rfl rfl), (tb_c6 115 rfl rfl), (tb_c6 116 rfl rfl), by decide +kernel, by decide, ⟨by decide +kernel, by decide +kernel, rfl⟩, by decide⟩
theorem mv_X9_rise : MV mX9_rise 9 5 := ⟨(tb_c3 209 rfl rfl), (tb_c3 207 rfl rfl), (tb_c3 208 rfl rfl), by decide +kernel, by decide, ⟨by decide +kernel, by decide +kernel, rfl⟩, by decide⟩
theorem mv_X9_area : MV mX9_area 9 0 := ⟨(tb_c4 203 rfl rfl), (tb_c4 201 rfl rfl), (tb_c4 202 rfl rfl), by decide +kernel, by decide, ⟨by decide +kernel, by decide +kernel, rfl⟩, by decide⟩
theorem mv_X9_lengthOf : MV mX9_lengthOf 9 1 := ⟨(tb_c5 59 rfl rfl), (tb_c5 57 rfl rfl), (tb_c5 58 rfl rfl), by decide +kernel, by decide, ⟨by decide +kernel, by decide +kernel, rfl⟩, by decide⟩
theorem mv_X9_has : MV mX9_has 9 2 := ⟨(tb_c5 89 rfl rfl), (tb_c5 87 rfl rfl), (tb_c5 88 rfl rfl), by decide +kernel, by decide, ⟨by decide +kernel, by decide +kernel, rfl⟩, by decide⟩
theorem mv_X9_parts : MV mX9_parts 9 1 := ⟨(tb_c6 51 rfl rfl), (tb_c6 49 rfl rfl), (tb_c6 50 rfl rfl), by decide +kernel, by decide, ⟨by decide +kernel, by decide +kernel, rfl⟩, by decide⟩
theorem mv_X9_tollFor : MV mX9_tollFor 9 1 := ⟨(tb_c6 7 rfl rfl), (tb_c6 5 rfl rfl), (tb_c6 6 rfl rfl), by decide +kernel, by decide, ⟨by decide +kernel, by decide +kernel, rfl⟩, by decide⟩
theorem mi_X10_init : MI mX10_init 0 := ⟨(tb_c1 170 rfl rfl), (tb_c1 169 rfl rfl), (tb_c1 6 rfl rfl), ⟨by decide +kernel, by decide +kernel, rfl⟩, by decide, rfl, rfl⟩
theorem mv_X10_survey : MV mX10_survey 10 2 := ⟨(tb_c5 214 rfl rfl), (tb_c5 212 rfl rfl), (tb_c5 213 rfl rfl), by decide +kernel, by decide, ⟨by decide +kernel, by decide +kernel, rfl⟩, by decide⟩
theorem mv_X10_paintWalls : MV mX10_paintWalls 10 0 := ⟨(tb_c5 218 rfl rfl), (tb_c5 217 rfl rfl), (tb_s (n := 11) 36 (by decide +kernel)), by decide +kernel, by decide, ⟨by decide +kernel, by decide +kernel, rfl⟩, by decide⟩
theorem mv_X10_paint : MV mX10_paint 10 1 := ⟨(tb_c5 223 rfl rfl), (tb_c5 222 rfl rfl), (tb_s (n := 11) 37 (by decide +kernel)), by decide +kernel, by decide, ⟨by decide +kernel, by decide +kernel, rfl⟩, by decide⟩
theorem mv_X10_join : MV mX10_join 10 3 := ⟨(tb_c5 228 rfl rfl), (tb_c5 227 rfl rfl), (tb_s (n := 11) 38 (by decide +kernel)), by decide +kernel, by decide, ⟨by decide +kernel, by decide +kernel, rfl⟩, by decide⟩
theorem mv_X10_passes : MV mX10_passes 10 3 := ⟨(tb_c5 234 rfl rfl), (tb_c5 233 rfl rfl), (tb_s (n := 11) 39 (by decide +kernel)), by decide +kernel, by decide, ⟨by decide +kernel, by decide +kernel, rfl⟩, by decide⟩
theorem mv_X10_walk : MV mX10_walk 10 3 := ⟨(tb_c5 238 rfl rfl), (tb_c5 236 rfl rfl), (tb_c5 237 rfl rfl), by decide +kernel, by decide, ⟨by decide +kernel, by decide +kernel, rfl⟩, by decide⟩
theorem mv_X10_settle : MV mX10_settle 10 5 := ⟨(tb_c6 2 rfl rfl), (tb_c6 0 rfl rfl), (tb_c6 1 rfl rfl), by decide +kernel, by decide, ⟨by decide +kernel, by decide +kernel, rfl⟩, by decide⟩
theorem mv_X10_clearGates : MV mX10_clearGates 10 0 := ⟨(tb_c6 47 rfl rfl), (tb_c6 45 rfl rfl), (tb_c6 46 rfl rfl), by decide +kernel, by decide, ⟨by decide +kernel, by decide +kernel, rfl⟩, by decide⟩
theorem mv_X10_tryGates : MV mX10_tryGates 10 2 := ⟨(tb_c6 56 rfl rfl), (tb_c6 54 rfl rfl), (tb_c6 55 rfl rfl), by decide +kernel, by decide, ⟨by decide +kernel, by decide +kernel, rfl⟩, by decide⟩
theorem mv_X10_addGate : MV mX10_addGate 10 4 := ⟨(tb_c6 65 rfl rfl), (tb_c6 64 rfl rfl), (tb_s (n := 11) 41 (by decide +kernel)), by decide +kernel, by decide, ⟨by decide +kernel, by decide +kernel, rfl⟩, by decide⟩
theorem mv_X10_bestGate : MV mX10_bestGate 10 1 := ⟨(tb_c6 70 rfl rfl), (tb_c6 68 rfl rfl), (tb_c6 69 rfl rfl), by decide +kernel, by decide, ⟨by decide +kernel, by decide +kernel, rfl⟩, by decide⟩
theorem mi_X11_init : MI mX11_init 0 := ⟨(tb_c1 25 rfl rfl), (tb_c1 24 rfl rfl), (tb_c1 1 rfl rfl), ⟨by decide +kernel, by decide +kernel, rfl⟩, by decide, rfl, rfl⟩
theorem mv_X11_feed : MV mX11_feed 11 5 := ⟨(tb_c3 82 rfl rfl), (tb_c3 80 rfl rfl), (tb_c3 81 rfl rfl), by decide +kernel, by decide, ⟨by decide +kernel, by decide +kernel, rfl⟩, by decide⟩
theorem mv_X11_end : MV mX11_end 11 1 := ⟨(tb_c3 94 rfl rfl), (tb_c3 92 rfl rfl), (tb_c3 93 rfl rfl), by decide +kernel, by decide, ⟨by decide +kernel, by decide +kernel, rfl⟩, by decide⟩
theorem mv_X11_land : MV mX11_land 11 0 := ⟨(tb_c3 98 rfl rfl), (tb_c3 96 rfl rfl), (tb_c3 97 rfl rfl), by decide +kernel, by decide, ⟨by decide +kernel, by decide +kernel, rfl⟩, by decide⟩
theorem mv_X11_text : MV mX11_text 11 1 := ⟨(tb_c4 37 rfl rfl), (tb_c4 35 rfl rfl), (tb_c4 36 rfl rfl), by decide +kernel, by decide, ⟨by decide +kernel, by decide +kernel, rfl⟩, by decide⟩
theorem mv_X11_lawAt : MV mX11_lawAt 11 1 := ⟨(tb_c4 140 rfl rfl), (tb_c4 139 rfl rfl), (tb_s (n := 16) 22 (by decide +kernel)), by decide +kernel, by decide, ⟨by decide +kernel, by decide +kernel, rfl⟩, by decide⟩
theorem mv_X11_wishAt : MV mX11_wishAt 11 1 := ⟨(tb_c5 34 rfl rfl), (tb_c5 33 rfl rfl), (tb_s (n := 16) 29 (by decide +kernel)), by decide +kernel, by decide, ⟨by decide +kernel, by decide +kernel, rfl⟩, by decide⟩
theorem mv_X11_like : MV mX11_like 11 3 := ⟨(tb_c4 129 rfl rfl), (tb_c4 127 rfl rfl), (tb_c4 128 rfl rfl), by decide +kernel, by decide, ⟨by decide +kernel, by decide +kernel, rfl⟩, by decide⟩
theorem mv_X11_can : MV mX11_can 11 8 := ⟨(tb_c4 136 rfl rfl), (tb_c4 134 rfl rfl), (tb_c4 135 rfl rfl), by decide +kernel, by decide, ⟨by decide +kernel, by decide +kernel, rfl⟩, by decide⟩
theorem mv_X11_build : MV mX11_build 11 8 := ⟨(tb_c5 16 rfl rfl), (tb_c5 14 rfl rfl), (tb_c5 15 rfl rfl), by decide +kernel, by decide, ⟨by decide +kernel, by decide +kernel, rfl⟩, by decide⟩
theorem mv_X11_wish : MV mX11_wish 11 8 := ⟨(tb_c5 30 rfl rfl), (tb_c5 28 rfl rfl), (tb_c5 29 rfl rfl), by decide +kernel, by decide, ⟨by decide +kernel, by decide +kernel, rfl⟩, by decide⟩
theorem mv_X11_pull : MV mX11_pull 11 1 := ⟨(tb_c5 42 rfl rfl), (tb_c5 40 rfl rfl), (tb_c5 41 rfl rfl), by decide +kernel, by decide, ⟨by decide +kernel, by decide +kernel, rfl⟩, by decide⟩
theorem mv_X11_gate : MV mX11_gate 11 4 := ⟨(tb_c5 55 rfl rfl), (tb_c5 53 rfl rfl), (tb_c5 54 rfl rfl), by decide +kernel, by decide, ⟨by decide +kernel, by decide +kernel, rfl⟩, by decide⟩
theorem mv_X11_key : MV mX11_key 11 3 := ⟨(tb_c5 63 rfl rfl), (tb_c5 61 rfl rfl), (tb_c5 62 rfl rfl), by decide +kernel, by decide, ⟨by decide +kernel, by decide +kernel, rfl⟩, by decide⟩
theorem ms_X11_isFamily : MS mX11_isFamily 1 := ⟨(tb_c4 132 rfl rfl), (tb_c4 131 rfl rfl), (tb_c1 1 rfl rfl), ⟨by decide +kernel, by decide +kernel, rfl⟩, by decide⟩
theorem mv_X11_areThere : MV mX11_areThere 11 3 := ⟨(tb_c4 144 rfl rfl), (tb_c4 143 rfl rfl), (tb_s (n := 16) 23 (by decide +kernel)), by decide +kernel, by decide, ⟨by decide +kernel, by decide +kernel, rfl⟩, by decide⟩
theorem mv_X11_thing : MV mX11_thing 11 2 := ⟨(tb_c5 67 rfl rfl), (tb_c5 65 rfl rfl), (tb_c5 66 rfl rfl), by decide +kernel, by decide, ⟨by decide +kernel, by decide +kernel, rfl⟩, by decide⟩
theorem mv_X11_groundOf : MV mX11_groundOf 11 1 := ⟨(tb_c5 71 rfl rfl), (tb_c5 70 rfl rfl), (tb_s (n := 16) 30 (by decide +kernel)), by decide +kernel, by decide, ⟨by decide +kernel, by decide +kernel, rfl⟩, by decide⟩
theorem mv_X11_worthOf : MV mX11_worthOf 11 1 := ⟨(tb_c5 75 rfl rfl), (tb_c5 74 rfl rfl), (tb_s (n := 16) 31 (by decide +kernel)), by decide +kernel, by decide, ⟨by decide +kernel, by decide +kernel, rfl⟩, by decide⟩
theorem mv_X11_cell : MV mX11_cell 11 3 := ⟨(tb_c5 80 rfl rfl), (tb_c5 78 rfl rfl), (tb_c5 79 rfl rfl), by decide +kernel, by decide, ⟨by decide +kernel, by decide +kernel, rfl⟩, by decide⟩
theorem mv_X11_inside : MV mX11_inside 11 2 := ⟨(tb_c5 94 rfl rfl), (tb_c5 92 rfl rfl), (tb_c5 93 rfl rfl), by decide +kernel, by decide, ⟨by decide +kernel, by decide +kernel, rfl⟩, by decide⟩
theorem mv_X11_nests : MV mX11_nests 11 1 := ⟨(tb_c5 102 rfl rfl), (tb_c5 100 rfl rfl), (tb_c5 101 rfl rfl), by decide +kernel, by decide, ⟨by decide +kernel, by decide +kernel, rfl⟩, by decide⟩
theorem mv_X11_between : MV mX11_between 11 2 := ⟨(tb_c5 129 rfl rfl), (tb_c5 127 rfl rfl), (tb_c5 128 rfl rfl), by decide +kernel, by decide, ⟨by decide +kernel, by decide +kernel, rfl⟩, by decide⟩
theorem mv_X11_count : MV mX11_count 11 1 := ⟨(tb_c5 142 rfl rfl), (tb_c5 140 rfl rfl), (tb_c5 141 rfl rfl), by decide +kernel, by decide, ⟨by decide +kernel, by decide +kernel, rfl⟩, by decide⟩
theorem mv_X11_fits : MV mX11_fits 11 1 := ⟨(tb_c4 160 rfl rfl), (tb_c4 159 rfl rfl), (tb_s (n := 16) 25 (by decide +kernel)), by decide +kernel, by decide, ⟨by decide +kernel, by decide +kernel, rfl⟩, by decide⟩
theorem mv_X11_mayCome : MV mX11_mayCome 11 2 := ⟨(tb_c4 156 rfl rfl), (tb_c4 155 rfl rfl), (tb_s (n := 16) 24 (by decide +kernel)), by decide +kernel, by decide, ⟨by decide +kernel, by decide +kernel, rfl⟩, by decide⟩
theorem mv_X11_isClearOfOthers : MV mX11_isClearOfOthers 11 1 := ⟨(tb_c4 178 rfl rfl), (tb_c4 177 rfl rfl), (tb_s (n := 16) 26 (by decide +kernel)), by decide +kernel, by decide, ⟨by decide +kernel, by decide +kernel, rfl⟩, by decide⟩
theorem mv_X11_describe : MV mX11_describe 11 1 := ⟨(tb_c4 191 rfl rfl), (tb_c4 190 rfl rfl), (tb_s (n := 16) 27 (by decide +kernel)), by decide +kernel, by decide, ⟨by decide +kernel, by decide +kernel, rfl⟩, by decide⟩
theorem mv_X11_best : MV mX11_best 11 7 := ⟨(tb_c5 150 rfl rfl), (tb_c5 148 rfl rfl), (tb_c5 149 rfl rfl), by decide +kernel, by decide, ⟨by decide +kernel, by decide +kernel, rfl⟩, by decide⟩
theorem mv_X11_ahead : MV mX11_ahead 11 7 := ⟨(tb_c5 180 rfl rfl), (tb_c5 178 rfl rfl), (tb_c5 179 rfl rfl), by decide +kernel, by decide, ⟨by decide +kernel, by decide +kernel, rfl⟩, by decide⟩
theorem mv_X11_rivalWish : MV mX11_rivalWish 11 4 := ⟨(tb_c5 184 rfl rfl), (tb_c5 183 rfl rfl), (tb_s (n := 16) 34 (by decide +kernel)), by decide +kernel, by decide, ⟨by decide +kernel, by decide +kernel, rfl⟩, by decide⟩
theorem mv_X11_least : MV mX11_least 11 5 := ⟨(tb_c5 198 rfl rfl), (tb_c5 196 rfl rfl), (tb_c5 197 rfl rfl), by decide +kernel, by decide, ⟨by decide +kernel, by decide +kernel, rfl⟩, by decide⟩
theorem mv_X11_most : MV mX11_most 11 3 := ⟨(tb_c5 202 rfl rfl), (tb_c5 200 rfl rfl), (tb_c5 201 rfl rfl), by decide +kernel, by decide, ⟨by decide +kernel, by decide +kernel, rfl⟩, by decide⟩
theorem mv_X11_widens : MV mX11_widens 11 4 := ⟨(tb_c5 206 rfl rfl), (tb_c5 205 rfl rfl), (tb_s (n := 16) 35 (by decide +kernel)), by decide +kernel, by decide, ⟨by decide +kernel, by decide +kernel, rfl⟩, by decide⟩
theorem mv_X11_aim : MV mX11_aim 11 4 := ⟨(tb_c5 154 rfl rfl), (tb_c5 153 rfl rfl), (tb_s (n := 16) 32 (by decide +kernel)), by decide +kernel, by decide, ⟨by decide +kernel, by decide +kernel, rfl⟩, by decide⟩
theorem mv_X11_search : MV mX11_search 11 5 := ⟨(tb_c5 158 rfl rfl), (tb_c5 157 rfl rfl), (tb_s (n := 16) 33 (by decide +kernel)), by decide +kernel, by decide, ⟨by decide +kernel, by decide +kernel, rfl⟩, by decide⟩
theorem mv_X11_way : MV mX11_way 11 6 := ⟨(tb_c5 210 rfl rfl), (tb_c5 208 rfl rfl), (tb_c5 209 rfl rfl), by decide +kernel, by decide, ⟨by decide +kernel, by decide +kernel, rfl⟩, by decide⟩
theorem mv_X11_errand : MV mX11_errand 11 6 := ⟨(tb_c6 11 rfl rfl), (tb_c6 9 rfl rfl), (tb_c6 10 rfl rfl), by decide +kernel, by decide, ⟨by decide +kernel, by decide +kernel, rfl⟩, by decide⟩
theorem ms_X11_isErrandCell : MS mX11_isErrandCell 2 := ⟨(tb_c6 14 rfl rfl), (tb_c6 13 rfl rfl), (tb_c1 1 rfl rfl), ⟨by decide +kernel, by decide +kernel, rfl⟩, by decide⟩
theorem mv_X11_sum : MV mX11_sum 11 1 := ⟨(tb_c6 22 rfl rfl), (tb_c6 20 rfl rfl), (tb_c6 21 rfl rfl), by decide +kernel, by decide, ⟨by decide +kernel, by decide +kernel, rfl⟩, by decide⟩
theorem mv_X11_total : MV mX11_total 11 1 := ⟨(tb_c6 26 rfl rfl), (tb_c6 25 rfl rfl), (tb_s (n := 16) 40 (by decide +kernel)), by decide +kernel, by decide, ⟨by decide +kernel, by decide +kernel, rfl⟩, by decide⟩
theorem mv_X11_where : MV mX11_where 11 2 := ⟨(tb_c6 43 rfl rfl), (tb_c6 41 rfl rfl), (tb_c6 42 rfl rfl), by decide +kernel, by decide, ⟨by decide +kernel, by decide +kernel, rfl⟩, by decide⟩
theorem mv_X11_gains : MV mX11_gains 11 1 := ⟨(tb_c6 74 rfl rfl), (tb_c6 72 rfl rfl), (tb_c6 73 rfl rfl), by decide +kernel, by decide, ⟨by decide +kernel, by decide +kernel, rfl⟩, by decide⟩
theorem mv_X11_seed : MV mX11_seed 11 1 := ⟨(tb_c6 79 rfl rfl), (tb_c6 77 rfl rfl), (tb_c6 78 rfl rfl), by decide +kernel, by decide, ⟨by decide +kernel, by decide +kernel, rfl⟩, by decide⟩
theorem mv_X11_years : MV mX11_years 11 2 := ⟨(tb_c6 83 rfl rfl), (tb_c6 81 rfl rfl), (tb_c6 82 rfl rfl), by decide +kernel, by decide, ⟨by decide +kernel, by decide +kernel, rfl⟩, by decide⟩
theorem mv_X11_after : MV mX11_after 11 3 := ⟨(tb_c6 108 rfl rfl), (tb_c6 106 rfl rfl), (tb_c6 107 rfl rfl), by decide +kernel, by decide, ⟨by decide +kernel, by decide +kernel, rfl⟩, by decide⟩
theorem mv_X11_outlook : MV mX11_outlook 11 1 := ⟨(tb_c6 125 rfl rfl), (tb_c6 124 rfl rfl), (tb_s (n := 16) 44 (by decide +kernel)), by decide +kernel, by decide, ⟨by decide +kernel, by decide +kernel, rfl⟩, by decide⟩
theorem mv_X11_live : MV mX11_live 11 2 := ⟨(tb_c6 87 rfl rfl), (tb_c6 86 rfl rfl), (tb_s (n := 16) 42 (by decide +kernel)), by decide +kernel, by decide, ⟨by decide +kernel, by decide +kernel, rfl⟩, by decide⟩
theorem mv_X11_drawWall : MV mX11_drawWall 11 1 := ⟨(tb_c6 91 rfl rfl), (tb_c6 90 rfl rfl), (tb_s (n := 16) 43 (by decide +kernel)), by decide +kernel, by decide, ⟨by decide +kernel, by decide +kernel, rfl⟩, by decide⟩
theorem mv_X11_image : MV mX11_image 11 1 := ⟨(tb_c6 134 rfl rfl), (tb_c6 132 rfl rfl), (tb_c6 133 rfl rfl), by decide +kernel, by decide, ⟨by decide +kernel, by decide +kernel, rfl⟩, by decide⟩
theorem mv_X11_back : MV mX11_back 11 1 := ⟨(tb_c6 138 rfl rfl), (tb_c6 136 rfl rfl), (tb_c6 137 rfl rfl), by decide +kernel, by decide, ⟨by decide +kernel, by decide +kernel, rfl⟩, by decide⟩
theorem mi_X12_init : MI mX12_init 0 := ⟨(tb_c6 143 rfl rfl), (tb_c6 142 rfl rfl), (tb_c1 13 rfl rfl), ⟨by decide +kernel, by decide +kernel, rfl⟩, by decide, rfl, rfl⟩
theorem ms_X12_in : MS mX12_in 3 := ⟨(tb_c7 78 rfl rfl), (tb_c7 77 rfl rfl), (tb_c1 13 rfl rfl), ⟨by decide +kernel, by decide +kernel, rfl⟩, by decide⟩
theorem ms_X12_bounded : MS mX12_bounded 3 := ⟨(tb_c8 120 rfl rfl), (tb_c8 119 rfl rfl), (tb_c1 13 rfl rfl), ⟨by decide +kernel, by decide +kernel, rfl⟩, by decide⟩
theorem mv_X12_four : MV mX12_four 12 1 := ⟨(tb_c7 67 rfl rfl), (tb_c7 66 rfl rfl), (tb_s (n := 51) 45 (by decide +kernel)), by decide +kernel, by decide, ⟨by decide +kernel, by decide +kernel, rfl⟩, by decide⟩
theorem mv_X12_feed : MV mX12_feed 12 5 := ⟨(tb_c7 63 rfl rfl), (tb_c7 61 rfl rfl), (tb_c7 62 rfl rfl), by decide +kernel, by decide, ⟨by decide +kernel, by decide +kernel, rfl⟩, by decide⟩
theorem mv_X12_end : MV mX12_end 12 1 := ⟨(tb_c7 71 rfl rfl), (tb_c7 69 rfl rfl), (tb_c7 70 rfl rfl), by decide +kernel, by decide, ⟨by decide +kernel, by decide +kernel, rfl⟩, by decide⟩
theorem mv_X12_fails : MV mX12_fails 12 2 := ⟨(tb_c7 112 rfl rfl), (tb_c7 111 rfl rfl), (tb_s (n := 51) 51 (by decide +kernel)), by decide +kernel, by decide, ⟨by decide +kernel, by decide +kernel, rfl⟩, by decide⟩
theorem mv_X12_see : MV mX12_see 12 0 := ⟨(tb_c7 90 rfl rfl), (tb_c7 89 rfl rfl), (tb_s (n := 51) 48 (by decide +kernel)), by decide +kernel, by decide, ⟨by decide +kernel, by decide +kernel, rfl⟩, by decide⟩
theorem mv_X12_isDigit : MV mX12_isDigit 12 1 := ⟨(tb_c7 128 rfl rfl), (tb_c7 127 rfl rfl), (tb_s (n := 51) 55 (by decide +kernel)), by decide +kernel, by decide, ⟨by decide +kernel, by decide +kernel, rfl⟩, by decide⟩
theorem mv_X12_isLetter : MV mX12_isLetter 12 1 := ⟨(tb_c7 99 rfl rfl), (tb_c7 98 rfl rfl), (tb_s (n := 51) 50 (by decide +kernel)), by decide +kernel, by decide, ⟨by decide +kernel, by decide +kernel, rfl⟩, by decide⟩
theorem mv_X12_isWord : MV mX12_isWord 12 1 := ⟨(tb_c7 95 rfl rfl), (tb_c7 94 rfl rfl), (tb_s (n := 51) 49 (by decide +kernel)), by decide +kernel, by decide, ⟨by decide +kernel, by decide +kernel, rfl⟩, by decide⟩
theorem mv_X12_passWord : MV mX12_passWord 12 0 := ⟨(tb_c7 120 rfl rfl), (tb_c7 119 rfl rfl), (tb_s (n := 51) 53 (by decide +kernel)), by decide +kernel, by decide, ⟨by decide +kernel, by decide +kernel, rfl⟩, by decide⟩
theorem mv_X12_takesWord : MV mX12_takesWord 12 1 := ⟨(tb_c7 199 rfl rfl), (tb_c7 198 rfl rfl), (tb_s (n := 51) 69 (by decide +kernel)), by decide +kernel, by decide, ⟨by decide +kernel, by decide +kernel, rfl⟩, by decide⟩
theorem mv_X12_numberHere : MV mX12_numberHere 12 2 := ⟨(tb_c7 124 rfl rfl), (tb_c7 123 rfl rfl), (tb_s (n := 51) 54 (by decide +kernel)), by decide +kernel, by decide, ⟨by decide +kernel, by decide +kernel, rfl⟩, by decide⟩
theorem mv_X12_wordHere : MV mX12_wordHere 12 0 := ⟨(tb_c7 184 rfl rfl), (tb_c7 183 rfl rfl), (tb_s (n := 51) 68 (by decide +kernel)), by decide +kernel, by decide, ⟨by decide +kernel, by decide +kernel, rfl⟩, by decide⟩
theorem mv_X12_puts : MV mX12_puts 12 2 := ⟨(tb_c7 180 rfl rfl), (tb_c7 179 rfl rfl), (tb_s (n := 51) 67 (by decide +kernel)), by decide +kernel, by decide, ⟨by decide +kernel, by decide +kernel, rfl⟩, by decide⟩
theorem mv_X12_makes : MV mX12_makes 12 1 := ⟨(tb_c7 176 rfl rfl), (tb_c7 175 rfl rfl), (tb_s (n := 51) 66 (by decide +kernel)), by decide +kernel, by decide, ⟨by decide +kernel, by decide +kernel, rfl⟩, by decide⟩
theorem mv_X12_opens : MV mX12_opens 12 1 := ⟨(tb_c7 211 rfl rfl), (tb_c7 210 rfl rfl), (tb_s (n := 51) 72 (by decide +kernel)), by decide +kernel, by decide, ⟨by decide +kernel, by decide +kernel, rfl⟩, by decide⟩
theorem ms_X12_strength : MS mX12_strength 1 := ⟨(tb_c7 226 rfl rfl), (tb_c7 225 rfl rfl), (tb_c1 13 rfl rfl), ⟨by decide +kernel, by decide +kernel, rfl⟩, by decide⟩
theorem mv_X12_settles : MV mX12_settles 12 1 := ⟨(tb_c7 223 rfl rfl), (tb_c7 222 rfl rfl), (tb_s (n := 51) 75 (by decide +kernel)), by decide +kernel, by decide, ⟨by decide +kernel, by decide +kernel, rfl⟩, by decide⟩
theorem mv_X12_value : MV mX12_value 12 0 := ⟨(tb_c7 171 rfl rfl), (tb_c7 170 rfl rfl), (tb_s (n := 51) 65 (by decide +kernel)), by decide +kernel, by decide, ⟨by decide +kernel, by decide +kernel, rfl⟩, by decide⟩
theorem mv_X12_term : MV mX12_term 12 0 := ⟨(tb_c7 167 rfl rfl), (tb_c7 166 rfl rfl), (tb_s (n := 51) 64 (by decide +kernel)), by decide +kernel, by decide, ⟨by decide +kernel, by decide +kernel, rfl⟩, by decide⟩
theorem mv_X12_sum : MV mX12_sum 12 0 := ⟨(tb_c7 163 rfl rfl), (tb_c7 162 rfl rfl), (tb_s (n := 51) 63 (by decide +kernel)), by decide +kernel, by decide, ⟨by decide +kernel, by decide +kernel, rfl⟩, by decide⟩
theorem mv_X12_compare : MV mX12_compare 12 0 := ⟨(tb_c7 215 rfl rfl), (tb_c7 214 rfl rfl), (tb_s (n := 51) 73 (by decide +kernel)), by decide +kernel, by decide, ⟨by decide +kernel, by decide +kernel, rfl⟩, by decide⟩
theorem mv_X12_fact : MV mX12_fact 12 0 := ⟨(tb_c7 207 rfl rfl), (tb_c7 206 rfl rfl), (tb_s (n := 51) 71 (by decide +kernel)), by decide +kernel, by decide, ⟨by decide +kernel, by decide +kernel, rfl⟩, by decide⟩
theorem mv_X12_isInside : MV mX12_isInside 12 0 := ⟨(tb_c7 230 rfl rfl), (tb_c7 229 rfl rfl), (tb_s (n := 51) 76 (by decide +kernel)), by decide +kernel, by decide, ⟨by decide +kernel, by decide +kernel, rfl⟩, by decide⟩
theorem mv_X12_closes : MV mX12_closes 12 0 := ⟨(tb_c7 219 rfl rfl), (tb_c7 218 rfl rfl), (tb_s (n := 51) 74 (by decide +kernel)), by decide +kernel, by decide, ⟨by decide +kernel, by decide +kernel, rfl⟩, by decide⟩
theorem mv_X12_tested : MV mX12_tested 12 0 := ⟨(tb_c7 203 rfl rfl), (tb_c7 202 rfl rfl), (tb_s (n := 51) 70 (by decide +kernel)), by decide +kernel, by decide, ⟨by decide +kernel, by decide +kernel, rfl⟩, by decide⟩
theorem mv_X12_clauseOf : MV mX12_clauseOf 12 1 := ⟨(tb_c7 159 rfl rfl), (tb_c7 158 rfl rfl), (tb_s (n := 51) 62 (by decide +kernel)), by decide +kernel, by decide, ⟨by decide +kernel, by decide +kernel, rfl⟩, by decide⟩
theorem mv_X12_joins : MV mX12_joins 12 1 := ⟨(tb_c7 155 rfl rfl), (tb_c7 154 rfl rfl), (tb_s (n := 51) 61 (by decide +kernel)), by decide +kernel, by decide, ⟨by decide +kernel, by decide +kernel, rfl⟩, by decide⟩
theorem mv_X12_widens : MV mX12_widens 12 1 := ⟨(tb_c7 116 rfl rfl), (tb_c7 115 rfl rfl), (tb_s (n := 51) 52 (by decide +kernel)), by decide +kernel, by decide, ⟨by decide +kernel, by decide +kernel, rfl⟩, by decide⟩
theorem mv_X12_area : MV mX12_area 12 0 := ⟨(tb_c7 136 rfl rfl), (tb_c7 135 rfl rfl), (tb_s (n := 51) 57 (by decide +kernel)), by decide +kernel, by decide, ⟨by decide +kernel, by decide +kernel, rfl⟩, by decide⟩
theorem mv_X12_isWorth : MV mX12_isWorth 12 0 := ⟨(tb_c7 132 rfl rfl), (tb_c7 131 rfl rfl), (tb_s (n := 51) 56 (by decide +kernel)), by decide +kernel, by decide, ⟨by decide +kernel, by decide +kernel, rfl⟩, by decide⟩
theorem mv_X12_isRiverHere : MV mX12_isRiverHere 12 0 := ⟨(tb_c7 140 rfl rfl), (tb_c7 139 rfl rfl), (tb_s (n := 51) 58 (by decide +kernel)), by decide +kernel, by decide, ⟨by decide +kernel, by decide +kernel, rfl⟩, by decide⟩
theorem mv_X12_isWellHere : MV mX12_isWellHere 12 0 := ⟨(tb_c7 144 rfl rfl), (tb_c7 143 rfl rfl), (tb_s (n := 51) 59 (by decide +kernel)), by decide +kernel, by decide, ⟨by decide +kernel, by decide +kernel, rfl⟩, by decide⟩
theorem mv_X12_isHouseHere : MV mX12_isHouseHere 12 1 := ⟨(tb_c7 148 rfl rfl), (tb_c7 147 rfl rfl), (tb_s (n := 51) 60 (by decide +kernel)), by decide +kernel, by decide, ⟨by decide +kernel, by decide +kernel, rfl⟩, by decide⟩
theorem mv_X12_clauseHere : MV mX12_clauseHere 12 0 := ⟨(tb_c7 86 rfl rfl), (tb_c7 85 rfl rfl), (tb_s (n := 51) 47 (by decide +kernel)), by decide +kernel, by decide, ⟨by decide +kernel, by decide +kernel, rfl⟩, by decide⟩
theorem mv_X12_readsAll : MV mX12_readsAll 12 0 := ⟨(tb_c7 82 rfl rfl), (tb_c7 81 rfl rfl), (tb_s (n := 51) 46 (by decide +kernel)), by decide +kernel, by decide, ⟨by decide +kernel, by decide +kernel, rfl⟩, by decide⟩
theorem mv_X12_text : MV mX12_text 12 1 := ⟨(tb_c7 75 rfl rfl), (tb_c7 73 rfl rfl), (tb_c7 74 rfl rfl), by decide +kernel, by decide, ⟨by decide +kernel, by decide +kernel, rfl⟩, by decide⟩
theorem mv_X12_land : MV mX12_land 12 0 := ⟨(tb_c7 236 rfl rfl), (tb_c7 234 rfl rfl), (tb_c7 235 rfl rfl), by decide +kernel, by decide, ⟨by decide +kernel, by decide +kernel, rfl⟩, by decide⟩
theorem mv_X12_isText : MV mX12_isText 12 2 := ⟨(tb_c8 20 rfl rfl), (tb_c8 19 rfl rfl), (tb_s (n := 51) 78 (by decide +kernel)), by decide +kernel, by decide, ⟨by decide +kernel, by decide +kernel, rfl⟩, by decide⟩
theorem mv_X12_push : MV mX12_push 12 1 := ⟨(tb_c8 105 rfl rfl), (tb_c8 104 rfl rfl), (tb_s (n := 51) 99 (by decide +kernel)), by decide +kernel, by decide, ⟨by decide +kernel, by decide +kernel, rfl⟩, by decide⟩
theorem mv_X12_pop : MV mX12_pop 12 0 := ⟨(tb_c8 109 rfl rfl), (tb_c8 108 rfl rfl), (tb_s (n := 51) 100 (by decide +kernel)), by decide +kernel, by decide, ⟨by decide +kernel, by decide +kernel, rfl⟩, by decide⟩
theorem ms_X12_one : MS mX12_one 3 := ⟨(tb_c8 112 rfl rfl), (tb_c8 111 rfl rfl), (tb_c1 13 rfl rfl), ⟨by decide +kernel, by decide +kernel, rfl⟩, by decide⟩
theorem mv_X12_reckons : MV mX12_reckons 12 3 := ⟨(tb_c8 101 rfl rfl), (tb_c8 100 rfl rfl), (tb_s (n := 51) 98 (by decide +kernel)), by decide +kernel, by decide, ⟨by decide +kernel, by decide +kernel, rfl⟩, by decide⟩
theorem mv_X12_isHolding : MV mX12_isHolding 12 2 := ⟨(tb_c8 97 rfl rfl), (tb_c8 96 rfl rfl), (tb_s (n := 51) 97 (by decide +kernel)), by decide +kernel, by decide, ⟨by decide +kernel, by decide +kernel, rfl⟩, by decide⟩
theorem mv_X12_summed : MV mX12_summed 12 2 := ⟨(tb_c8 116 rfl rfl), (tb_c8 115 rfl rfl), (tb_s (n := 51) 101 (by decide +kernel)), by decide +kernel, by decide, ⟨by decide +kernel, by decide +kernel, rfl⟩, by decide⟩
theorem ms_X12_placeOf : MS mX12_placeOf 1 := ⟨(tb_c7 239 rfl rfl), (tb_c7 238 rfl rfl), (tb_c1 13 rfl rfl), ⟨by decide +kernel, by decide +kernel, rfl⟩, by decide⟩
theorem mv_X12_of : MV mX12_of 12 2 := ⟨(tb_c8 32 rfl rfl), (tb_c8 31 rfl rfl), (tb_s (n := 51) 81 (by decide +kernel)), by decide +kernel, by decide, ⟨by decide +kernel, by decide +kernel, rfl⟩, by decide⟩
theorem mv_X12_isThing : MV mX12_isThing 12 1 := ⟨(tb_c8 28 rfl rfl), (tb_c8 27 rfl rfl), (tb_s (n := 51) 80 (by decide +kernel)), by decide +kernel, by decide, ⟨by decide +kernel, by decide +kernel, rfl⟩, by decide⟩
theorem mv_X12_isWall : MV mX12_isWall 12 1 := ⟨(tb_c8 152 rfl rfl), (tb_c8 151 rfl rfl), (tb_s (n := 51) 106 (by decide +kernel)), by decide +kernel, by decide, ⟨by decide +kernel, by decide +kernel, rfl⟩, by decide⟩
theorem ms_X12_isFamily : MS mX12_isFamily 1 := ⟨(tb_c8 10 rfl rfl), (tb_c8 9 rfl rfl), (tb_c1 13 rfl rfl), ⟨by decide +kernel, by decide +kernel, rfl⟩, by decide⟩
theorem mv_X12_comes : MV mX12_comes 12 6 := ⟨(tb_c8 3 rfl rfl), (tb_c8 2 rfl rfl), (tb_s (n := 51) 77 (by decide +kernel)), by decide +kernel, by decide, ⟨by decide +kernel, by decide +kernel, rfl⟩, by decide⟩
theorem ms_X12_areClear : MS mX12_areClear 8 := ⟨(tb_c7 151 rfl rfl), (tb_c7 150 rfl rfl), (tb_c1 13 rfl rfl), ⟨by decide +kernel, by decide +kernel, rfl⟩, by decide⟩
theorem mv_X12_isOuter : MV mX12_isOuter 12 1 := ⟨(tb_c8 48 rfl rfl), (tb_c8 47 rfl rfl), (tb_s (n := 51) 85 (by decide +kernel)), by decide +kernel, by decide, ⟨by decide +kernel, by decide +kernel, rfl⟩, by decide⟩
theorem mv_X12_cellsOf : MV mX12_cellsOf 12 1 := ⟨(tb_c8 202 rfl rfl), (tb_c8 201 rfl rfl), (tb_s (n := 51) 113 (by decide +kernel)), by decide +kernel, by decide, ⟨by decide +kernel, by decide +kernel, rfl⟩, by decide⟩
theorem mv_X12_hasCell : MV mX12_hasCell 12 3 := ⟨(tb_c8 73 rfl rfl), (tb_c8 72 rfl rfl), (tb_s (n := 51) 91 (by decide +kernel)), by decide +kernel, by decide, ⟨by decide +kernel, by decide +kernel, rfl⟩, by decide⟩
theorem mv_X12_liesIn : MV mX12_liesIn 12 2 := ⟨(tb_c8 81 rfl rfl), (tb_c8 80 rfl rfl), (tb_s (n := 51) 93 (by decide +kernel)), by decide +kernel, by decide, ⟨by decide +kernel, by decide +kernel, rfl⟩, by decide⟩
theorem mv_X12_deepOf : MV mX12_deepOf 12 1 := ⟨(tb_c8 77 rfl rfl), (tb_c8 76 rfl rfl), (tb_s (n := 51) 92 (by decide +kernel)), by decide +kernel, by decide, ⟨by decide +kernel, by decide +kernel, rfl⟩, by decide⟩
theorem mv_X12_isRiver : MV mX12_isRiver 12 2 := ⟨(tb_c8 64 rfl rfl), (tb_c8 63 rfl rfl), (tb_s (n := 51) 89 (by decide +kernel)), by decide +kernel, by decide, ⟨by decide +kernel, by decide +kernel, rfl⟩, by decide⟩
theorem mv_X12_likeOf : MV mX12_likeOf 12 2 := ⟨(tb_c8 85 rfl rfl), (tb_c8 84 rfl rfl), (tb_s (n := 51) 94 (by decide +kernel)), by decide +kernel, by decide, ⟨by decide +kernel, by decide +kernel, rfl⟩, by decide⟩
theorem mv_X12_wallsOf : MV mX12_wallsOf 12 1 := ⟨(tb_c8 89 rfl rfl), (tb_c8 88 rfl rfl), (tb_s (n := 51) 95 (by decide +kernel)), by decide +kernel, by decide, ⟨by decide +kernel, by decide +kernel, rfl⟩, by decide⟩
theorem mv_X12_thinks : MV mX12_thinks 12 6 := ⟨(tb_c8 36 rfl rfl), (tb_c8 35 rfl rfl), (tb_s (n := 51) 82 (by decide +kernel)), by decide +kernel, by decide, ⟨by decide +kernel, by decide +kernel, rfl⟩, by decide⟩
theorem mv_X12_hasThing : MV mX12_hasThing 12 2 := ⟨(tb_c8 52 rfl rfl), (tb_c8 51 rfl rfl), (tb_s (n := 51) 86 (by decide +kernel)), by decide +kernel, by decide, ⟨by decide +kernel, by decide +kernel, rfl⟩, by decide⟩
theorem mv_X12_isFit : MV mX12_isFit 12 0 := ⟨(tb_c8 44 rfl rfl), (tb_c8 43 rfl rfl), (tb_s (n := 51) 84 (by decide +kernel)), by decide +kernel, by decide, ⟨by decide +kernel, by decide +kernel, rfl⟩, by decide⟩
theorem mv_X12_wordsFor : MV mX12_wordsFor 12 1 := ⟨(tb_c8 68 rfl rfl), (tb_c8 67 rfl rfl), (tb_s (n := 51) 90 (by decide +kernel)), by decide +kernel, by decide, ⟨by decide +kernel, by decide +kernel, rfl⟩, by decide⟩
theorem mv_X12_farBy : MV mX12_farBy 12 1 := ⟨(tb_c8 93 rfl rfl), (tb_c8 92 rfl rfl), (tb_s (n := 51) 96 (by decide +kernel)), by decide +kernel, by decide, ⟨by decide +kernel, by decide +kernel, rfl⟩, by decide⟩
theorem mv_X12_mayBy : MV mX12_mayBy 12 1 := ⟨(tb_c8 124 rfl rfl), (tb_c8 123 rfl rfl), (tb_s (n := 51) 102 (by decide +kernel)), by decide +kernel, by decide, ⟨by decide +kernel, by decide +kernel, rfl⟩, by decide⟩
theorem mv_X12_goesOverRiver : MV mX12_goesOverRiver 12 0 := ⟨(tb_c8 60 rfl rfl), (tb_c8 59 rfl rfl), (tb_s (n := 51) 88 (by decide +kernel)), by decide +kernel, by decide, ⟨by decide +kernel, by decide +kernel, rfl⟩, by decide⟩
theorem mv_X12_isClear : MV mX12_isClear 12 0 := ⟨(tb_c8 56 rfl rfl), (tb_c8 55 rfl rfl), (tb_s (n := 51) 87 (by decide +kernel)), by decide +kernel, by decide, ⟨by decide +kernel, by decide +kernel, rfl⟩, by decide⟩
theorem mv_X12_canCome : MV mX12_canCome 12 2 := ⟨(tb_c8 40 rfl rfl), (tb_c8 39 rfl rfl), (tb_s (n := 51) 83 (by decide +kernel)), by decide +kernel, by decide, ⟨by decide +kernel, by decide +kernel, rfl⟩, by decide⟩
theorem mv_X12_wishOf : MV mX12_wishOf 12 2 := ⟨(tb_c8 144 rfl rfl), (tb_c8 143 rfl rfl), (tb_s (n := 51) 105 (by decide +kernel)), by decide +kernel, by decide, ⟨by decide +kernel, by decide +kernel, rfl⟩, by decide⟩
theorem mv_X12_builds : MV mX12_builds 12 2 := ⟨(tb_c8 136 rfl rfl), (tb_c8 135 rfl rfl), (tb_s (n := 51) 104 (by decide +kernel)), by decide +kernel, by decide, ⟨by decide +kernel, by decide +kernel, rfl⟩, by decide⟩
theorem mv_X12_pulls : MV mX12_pulls 12 1 := ⟨(tb_c8 156 rfl rfl), (tb_c8 155 rfl rfl), (tb_s (n := 51) 107 (by decide +kernel)), by decide +kernel, by decide, ⟨by decide +kernel, by decide +kernel, rfl⟩, by decide⟩
theorem mv_X12_freeNumber : MV mX12_freeNumber 12 0 := ⟨(tb_c8 132 rfl rfl), (tb_c8 131 rfl rfl), (tb_s (n := 51) 103 (by decide +kernel)), by decide +kernel, by decide, ⟨by decide +kernel, by decide +kernel, rfl⟩, by decide⟩
theorem mv_X12_areAsked : MV mX12_areAsked 12 3 := ⟨(tb_c8 24 rfl rfl), (tb_c8 23 rfl rfl), (tb_s (n := 51) 79 (by decide +kernel)), by decide +kernel, by decide, ⟨by decide +kernel, by decide +kernel, rfl⟩, by decide⟩
theorem mv_X12_like : MV mX12_like 12 3 := ⟨(tb_c8 7 rfl rfl), (tb_c8 5 rfl rfl), (tb_c8 6 rfl rfl), by decide +kernel, by decide, ⟨by decide +kernel, by decide +kernel, rfl⟩, by decide⟩
theorem mv_X12_can : MV mX12_can 12 8 := ⟨(tb_c8 16 rfl rfl), (tb_c8 14 rfl rfl), (tb_c8 15 rfl rfl), by decide +kernel, by decide, ⟨by decide +kernel, by decide +kernel, rfl⟩, by decide⟩
theorem mv_X12_build : MV mX12_build 12 8 := ⟨(tb_c8 128 rfl rfl), (tb_c8 126 rfl rfl), (tb_c8 127 rfl rfl), by decide +kernel, by decide, ⟨by decide +kernel, by decide +kernel, rfl⟩, by decide⟩
theorem mv_X12_wish : MV mX12_wish 12 8 := ⟨(tb_c8 140 rfl rfl), (tb_c8 138 rfl rfl), (tb_c8 139 rfl rfl), by decide +kernel, by decide, ⟨by decide +kernel, by decide +kernel, rfl⟩, by decide⟩
theorem mv_X12_pull : MV mX12_pull 12 1 := ⟨(tb_c8 148 rfl rfl), (tb_c8 146 rfl rfl), (tb_c8 147 rfl rfl), by decide +kernel, by decide, ⟨by decide +kernel, by decide +kernel, rfl⟩, by decide⟩
theorem ms_X12_isAcross : MS mX12_isAcross 1 := ⟨(tb_c8 168 rfl rfl), (tb_c8 167 rfl rfl), (tb_c1 13 rfl rfl), ⟨by decide +kernel, by decide +kernel, rfl⟩, by decide⟩
theorem mv_X12_sideOf : MV mX12_sideOf 12 2 := ⟨(tb_c8 165 rfl rfl), (tb_c8 164 rfl rfl), (tb_s (n := 51) 108 (by decide +kernel)), by decide +kernel, by decide, ⟨by decide +kernel, by decide +kernel, rfl⟩, by decide⟩
theorem mv_X12_gates : MV mX12_gates 12 4 := ⟨(tb_c8 173 rfl rfl), (tb_c8 172 rfl rfl), (tb_s (n := 51) 109 (by decide +kernel)), by decide +kernel, by decide, ⟨by decide +kernel, by decide +kernel, rfl⟩, by decide⟩
theorem mv_X12_gate : MV mX12_gate 12 4 := ⟨(tb_c8 160 rfl rfl), (tb_c8 158 rfl rfl), (tb_c8 159 rfl rfl), by decide +kernel, by decide, ⟨by decide +kernel, by decide +kernel, rfl⟩, by decide⟩
theorem mv_X12_key : MV mX12_key 12 3 := ⟨(tb_c8 177 rfl rfl), (tb_c8 175 rfl rfl), (tb_c8 176 rfl rfl), by decide +kernel, by decide, ⟨by decide +kernel, by decide +kernel, rfl⟩, by decide⟩
theorem mv_X12_isGroundOf : MV mX12_isGroundOf 12 3 := ⟨(tb_c8 190 rfl rfl), (tb_c8 189 rfl rfl), (tb_s (n := 51) 111 (by decide +kernel)), by decide +kernel, by decide, ⟨by decide +kernel, by decide +kernel, rfl⟩, by decide⟩
theorem mv_X12_groundOf : MV mX12_groundOf 12 2 := ⟨(tb_c8 186 rfl rfl), (tb_c8 185 rfl rfl), (tb_s (n := 51) 110 (by decide +kernel)), by decide +kernel, by decide, ⟨by decide +kernel, by decide +kernel, rfl⟩, by decide⟩
theorem mv_X12_thing : MV mX12_thing 12 2 := ⟨(tb_c8 181 rfl rfl), (tb_c8 179 rfl rfl), (tb_c8 180 rfl rfl), by decide +kernel, by decide, ⟨by decide +kernel, by decide +kernel, rfl⟩, by decide⟩
theorem mv_X12_isInLand : MV mX12_isInLand 12 2 := ⟨(tb_c8 198 rfl rfl), (tb_c8 197 rfl rfl), (tb_s (n := 51) 112 (by decide +kernel)), by decide +kernel, by decide, ⟨by decide +kernel, by decide +kernel, rfl⟩, by decide⟩
theorem mv_X12_cell : MV mX12_cell 12 3 := ⟨(tb_c8 194 rfl rfl), (tb_c8 192 rfl rfl), (tb_c8 193 rfl rfl), by decide +kernel, by decide, ⟨by decide +kernel, by decide +kernel, rfl⟩, by decide⟩
theorem mv_X12_inside : MV mX12_inside 12 2 := ⟨(tb_c8 206 rfl rfl), (tb_c8 204 rfl rfl), (tb_c8 205 rfl rfl), by decide +kernel, by decide, ⟨by decide +kernel, by decide +kernel, rfl⟩, by decide⟩
theorem ms_X12_less : MS mX12_less 2 := ⟨(tb_c8 222 rfl rfl), (tb_c8 221 rfl rfl), (tb_c1 13 rfl rfl), ⟨by decide +kernel, by decide +kernel, rfl⟩, by decide⟩
theorem ms_X12_more : MS mX12_more 2 := ⟨(tb_c8 225 rfl rfl), (tb_c8 224 rfl rfl), (tb_c1 13 rfl rfl), ⟨by decide +kernel, by decide +kernel, rfl⟩, by decide⟩
theorem mv_X12_bases : MV mX12_bases 12 2 := ⟨(tb_c8 219 rfl rfl), (tb_c8 218 rfl rfl), (tb_s (n := 51) 115 (by decide +kernel)), by decide +kernel, by decide, ⟨by decide +kernel, by decide +kernel, rfl⟩, by decide⟩
theorem mv_X12_margin : MV mX12_margin 12 3 := ⟨(tb_c8 233 rfl rfl), (tb_c8 232 rfl rfl), (tb_s (n := 51) 117 (by decide +kernel)), by decide +kernel, by decide, ⟨by decide +kernel, by decide +kernel, rfl⟩, by decide⟩
theorem mv_X12_thinksBy : MV mX12_thinksBy 12 4 := ⟨(tb_c8 229 rfl rfl), (tb_c8 228 rfl rfl), (tb_s (n := 51) 116 (by decide +kernel)), by decide +kernel, by decide, ⟨by decide +kernel, by decide +kernel, rfl⟩, by decide⟩
theorem mv_X12_lineOf : MV mX12_lineOf 12 0 := ⟨(tb_c8 237 rfl rfl), (tb_c8 236 rfl rfl), (tb_s (n := 51) 118 (by decide +kernel)), by decide +kernel, by decide, ⟨by decide +kernel, by decide +kernel, rfl⟩, by decide⟩
theorem mv_X12_bestBy : MV mX12_bestBy 12 6 := ⟨(tb_c8 215 rfl rfl), (tb_c8 214 rfl rfl), (tb_s (n := 51) 114 (by decide +kernel)), by decide +kernel, by decide, ⟨by decide +kernel, by decide +kernel, rfl⟩, by decide⟩
theorem mv_X12_best : MV mX12_best 12 7 := ⟨(tb_c8 210 rfl rfl), (tb_c8 208 rfl rfl), (tb_c8 209 rfl rfl), by decide +kernel, by decide, ⟨by decide +kernel, by decide +kernel, rfl⟩, by decide⟩
theorem mv_X12_ahead : MV mX12_ahead 12 7 := ⟨(tb_c9 1 rfl rfl), (tb_c8 239 rfl rfl), (tb_c9 0 rfl rfl), by decide +kernel, by decide, ⟨by decide +kernel, by decide +kernel, rfl⟩, by decide⟩
theorem mv_X12_least : MV mX12_least 12 5 := ⟨(tb_c9 5 rfl rfl), (tb_c9 3 rfl rfl), (tb_c9 4 rfl rfl), by decide +kernel, by decide, ⟨by decide +kernel, by decide +kernel, rfl⟩, by decide⟩
theorem mv_X12_most : MV mX12_most 12 3 := ⟨(tb_c9 10 rfl rfl), (tb_c9 8 rfl rfl), (tb_c9 9 rfl rfl), by decide +kernel, by decide, ⟨by decide +kernel, by decide +kernel, rfl⟩, by decide⟩
theorem mv_X12_nestMany : MV mX12_nestMany 12 0 := ⟨(tb_c9 18 rfl rfl), (tb_c9 17 rfl rfl), (tb_s (n := 51) 119 (by decide +kernel)), by decide +kernel, by decide, ⟨by decide +kernel, by decide +kernel, rfl⟩, by decide⟩
theorem mv_X12_freeCells : MV mX12_freeCells 12 0 := ⟨(tb_c9 22 rfl rfl), (tb_c9 21 rfl rfl), (tb_s (n := 51) 120 (by decide +kernel)), by decide +kernel, by decide, ⟨by decide +kernel, by decide +kernel, rfl⟩, by decide⟩
theorem mv_X12_roundMany : MV mX12_roundMany 12 1 := ⟨(tb_c9 26 rfl rfl), (tb_c9 25 rfl rfl), (tb_s (n := 51) 121 (by decide +kernel)), by decide +kernel, by decide, ⟨by decide +kernel, by decide +kernel, rfl⟩, by decide⟩
theorem mv_X12_nests : MV mX12_nests 12 1 := ⟨(tb_c9 14 rfl rfl), (tb_c9 12 rfl rfl), (tb_c9 13 rfl rfl), by decide +kernel, by decide, ⟨by decide +kernel, by decide +kernel, rfl⟩, by decide⟩
theorem mv_X12_between : MV mX12_between 12 2 := ⟨(tb_c9 30 rfl rfl), (tb_c9 28 rfl rfl), (tb_c9 29 rfl rfl), by decide +kernel, by decide, ⟨by decide +kernel, by decide +kernel, rfl⟩, by decide⟩
theorem mv_X12_lays : MV mX12_lays 12 0 := ⟨(tb_c9 38 rfl rfl), (tb_c9 37 rfl rfl), (tb_s (n := 51) 122 (by decide +kernel)), by decide +kernel, by decide, ⟨by decide +kernel, by decide +kernel, rfl⟩, by decide⟩
theorem mv_X12_beside : MV mX12_beside 12 2 := ⟨(tb_c9 50 rfl rfl), (tb_c9 49 rfl rfl), (tb_s (n := 51) 125 (by decide +kernel)), by decide +kernel, by decide, ⟨by decide +kernel, by decide +kernel, rfl⟩, by decide⟩
theorem mv_X12_lineBetween : MV mX12_lineBetween 12 2 := ⟨(tb_c9 58 rfl rfl), (tb_c9 57 rfl rfl), (tb_s (n := 51) 127 (by decide +kernel)), by decide +kernel, by decide, ⟨by decide +kernel, by decide +kernel, rfl⟩, by decide⟩
theorem mv_X12_tollOf : MV mX12_tollOf 12 4 := ⟨(tb_c9 54 rfl rfl), (tb_c9 53 rfl rfl), (tb_s (n := 51) 126 (by decide +kernel)), by decide +kernel, by decide, ⟨by decide +kernel, by decide +kernel, rfl⟩, by decide⟩
theorem mv_X12_walks : MV mX12_walks 12 2 := ⟨(tb_c9 46 rfl rfl), (tb_c9 45 rfl rfl), (tb_s (n := 51) 124 (by decide +kernel)), by decide +kernel, by decide, ⟨by decide +kernel, by decide +kernel, rfl⟩, by decide⟩
theorem mv_X12_wayOf : MV mX12_wayOf 12 5 := ⟨(tb_c9 42 rfl rfl), (tb_c9 41 rfl rfl), (tb_s (n := 51) 123 (by decide +kernel)), by decide +kernel, by decide, ⟨by decide +kernel, by decide +kernel, rfl⟩, by decide⟩
theorem mv_X12_asks : MV mX12_asks 12 3 := ⟨(tb_c9 62 rfl rfl), (tb_c9 61 rfl rfl), (tb_s (n := 51) 128 (by decide +kernel)), by decide +kernel, by decide, ⟨by decide +kernel, by decide +kernel, rfl⟩, by decide⟩
theorem mv_X12_way : MV mX12_way 12 6 := ⟨(tb_c9 34 rfl rfl), (tb_c9 32 rfl rfl), (tb_c9 33 rfl rfl), by decide +kernel, by decide, ⟨by decide +kernel, by decide +kernel, rfl⟩, by decide⟩
theorem mv_X12_errand : MV mX12_errand 12 6 := ⟨(tb_c9 66 rfl rfl), (tb_c9 64 rfl rfl), (tb_c9 65 rfl rfl), by decide +kernel, by decide, ⟨by decide +kernel, by decide +kernel, rfl⟩, by decide⟩
theorem mv_X12_sums : MV mX12_sums 12 0 := ⟨(tb_c9 75 rfl rfl), (tb_c9 74 rfl rfl), (tb_s (n := 51) 129 (by decide +kernel)), by decide +kernel, by decide, ⟨by decide +kernel, by decide +kernel, rfl⟩, by decide⟩
theorem mv_X12_sum_ : MV mX12_sum_ 12 1 := ⟨(tb_c9 71 rfl rfl), (tb_c9 69 rfl rfl), (tb_c9 70 rfl rfl), by decide +kernel, by decide, ⟨by decide +kernel, by decide +kernel, rfl⟩, by decide⟩
theorem mv_X12_where : MV mX12_where 12 2 := ⟨(tb_c9 79 rfl rfl), (tb_c9 77 rfl rfl), (tb_c9 78 rfl rfl), by decide +kernel, by decide, ⟨by decide +kernel, by decide +kernel, rfl⟩, by decide⟩
theorem mv_X12_keeps : MV mX12_keeps 12 0 := ⟨(tb_c9 88 rfl rfl), (tb_c9 87 rfl rfl), (tb_s (n := 51) 130 (by decide +kernel)), by decide +kernel, by decide, ⟨by decide +kernel, by decide +kernel, rfl⟩, by decide⟩
theorem mv_X12_putsBack : MV mX12_putsBack 12 0 := ⟨(tb_c9 92 rfl rfl), (tb_c9 91 rfl rfl), (tb_s (n := 51) 131 (by decide +kernel)), by decide +kernel, by decide, ⟨by decide +kernel, by decide +kernel, rfl⟩, by decide⟩
theorem mv_X12_gains : MV mX12_gains 12 1 := ⟨(tb_c9 83 rfl rfl), (tb_c9 81 rfl rfl), (tb_c9 82 rfl rfl), by decide +kernel, by decide, ⟨by decide +kernel, by decide +kernel, rfl⟩, by decide⟩
theorem mv_X12_seed : MV mX12_seed 12 1 := ⟨(tb_c9 96 rfl rfl), (tb_c9 94 rfl rfl), (tb_c9 95 rfl rfl), by decide +kernel, by decide, ⟨by decide +kernel, by decide +kernel, rfl⟩, by decide⟩
theorem mv_X12_draw : MV mX12_draw 12 0 := ⟨(tb_c9 109 rfl rfl), (tb_c9 108 rfl rfl), (tb_s (n := 51) 133 (by decide +kernel)), by decide +kernel, by decide, ⟨by decide +kernel, by decide +kernel, rfl⟩, by decide⟩
theorem mv_X12_year : MV mX12_year 12 1 := ⟨(tb_c9 105 rfl rfl), (tb_c9 104 rfl rfl), (tb_s (n := 51) 132 (by decide +kernel)), by decide +kernel, by decide, ⟨by decide +kernel, by decide +kernel, rfl⟩, by decide⟩
theorem mv_X12_years : MV mX12_years 12 2 := ⟨(tb_c9 100 rfl rfl), (tb_c9 98 rfl rfl), (tb_c9 99 rfl rfl), by decide +kernel, by decide, ⟨by decide +kernel, by decide +kernel, rfl⟩, by decide⟩
theorem mv_X12_wallMany : MV mX12_wallMany 12 0 := ⟨(tb_c9 121 rfl rfl), (tb_c9 120 rfl rfl), (tb_s (n := 51) 134 (by decide +kernel)), by decide +kernel, by decide, ⟨by decide +kernel, by decide +kernel, rfl⟩, by decide⟩
theorem mv_X12_deepest : MV mX12_deepest 12 0 := ⟨(tb_c9 125 rfl rfl), (tb_c9 124 rfl rfl), (tb_s (n := 51) 135 (by decide +kernel)), by decide +kernel, by decide, ⟨by decide +kernel, by decide +kernel, rfl⟩, by decide⟩
theorem mv_X12_after : MV mX12_after 12 3 := ⟨(tb_c9 117 rfl rfl), (tb_c9 115 rfl rfl), (tb_c9 116 rfl rfl), by decide +kernel, by decide, ⟨by decide +kernel, by decide +kernel, rfl⟩, by decide⟩
theorem mv_X12_count : MV mX12_count 12 1 := ⟨(tb_c9 129 rfl rfl), (tb_c9 127 rfl rfl), (tb_c9 128 rfl rfl), by decide +kernel, by decide, ⟨by decide +kernel, by decide +kernel, rfl⟩, by decide⟩
theorem mv_X12_image : MV mX12_image 12 1 := ⟨(tb_c9 133 rfl rfl), (tb_c9 131 rfl rfl), (tb_c9 132 rfl rfl), by decide +kernel, by decide, ⟨by decide +kernel, by decide +kernel, rfl⟩, by decide⟩
theorem mv_X12_back : MV mX12_back 12 1 := ⟨(tb_c9 137 rfl rfl), (tb_c9 135 rfl rfl), (tb_c9 136 rfl rfl), by decide +kernel, by decide, ⟨by decide +kernel, by decide +kernel, rfl⟩, by decide⟩
theorem ms_J9_max_7cf53 : MS mJ9_max_7cf53 2 := ⟨(tb_c4 238 rfl rfl), (tb_c4 237 rfl rfl), (tb_c1 20 rfl rfl), ⟨by decide +kernel, by decide +kernel, rfl⟩, by decide⟩
theorem ms_J9_max_f86c9 : MS mJ9_max_f86c9 2 := ⟨(tb_c5 8 rfl rfl), (tb_c5 7 rfl rfl), (tb_c1 20 rfl rfl), ⟨by decide +kernel, by decide +kernel, rfl⟩, by decide⟩
theorem ms_J9_min_7cf53 : MS mJ9_min_7cf53 2 := ⟨(tb_c4 100 rfl rfl), (tb_c4 99 rfl rfl), (tb_c1 20 rfl rfl), ⟨by decide +kernel, by decide +kernel, rfl⟩, by decide⟩
theorem ms_J9_min_f86c9 : MS mJ9_min_f86c9 2 := ⟨(tb_c5 5 rfl rfl), (tb_c5 4 rfl rfl), (tb_c1 20 rfl rfl), ⟨by decide +kernel, by decide +kernel, rfl⟩, by decide⟩
theorem ms_J0_checkIndex_df160 : MS mJ0_checkIndex_df160 2 := ⟨(tb_c3 147 rfl rfl), (tb_c3 146 rfl rfl), (tb_c1 14 rfl rfl), ⟨by decide +kernel, by decide +kernel, rfl⟩, by decide⟩
theorem ms_J1_charAt_3b067 : MS mJ1_charAt_3b067 2 := ⟨(tb_c3 144 rfl rfl), (tb_c3 143 rfl rfl), (tb_c1 15 rfl rfl), ⟨by decide +kernel, by decide +kernel, rfl⟩, by decide⟩
theorem ms_J2_getChar_3b067 : MS mJ2_getChar_3b067 2 := ⟨(tb_c3 165 rfl rfl), (tb_c3 164 rfl rfl), (tb_c1 17 rfl rfl), ⟨by decide +kernel, by decide +kernel, rfl⟩, by decide⟩
theorem ms_J2_length_9d52b : MS mJ2_length_9d52b 1 := ⟨(tb_c3 161 rfl rfl), (tb_c3 160 rfl rfl), (tb_c1 17 rfl rfl), ⟨by decide +kernel, by decide +kernel, rfl⟩, by decide⟩
theorem ms_J2_charAt_3b067 : MS mJ2_charAt_3b067 2 := ⟨(tb_c3 155 rfl rfl), (tb_c3 154 rfl rfl), (tb_c1 17 rfl rfl), ⟨by decide +kernel, by decide +kernel, rfl⟩, by decide⟩
theorem ms_J2_checkIndex_2214a : MS mJ2_checkIndex_2214a 2 := ⟨(tb_c3 158 rfl rfl), (tb_c3 157 rfl rfl), (tb_c1 17 rfl rfl), ⟨by decide +kernel, by decide +kernel, rfl⟩, by decide⟩
theorem ms_J7_fill_53178 : MS mJ7_fill_53178 2 := ⟨(tb_c2 97 rfl rfl), (tb_c2 96 rfl rfl), (tb_c1 10 rfl rfl), ⟨by decide +kernel, by decide +kernel, rfl⟩, by decide⟩
theorem ms_J7_copyOf_59c91 : MS mJ7_copyOf_59c91 2 := ⟨(tb_c4 90 rfl rfl), (tb_c4 89 rfl rfl), (tb_c1 10 rfl rfl), ⟨by decide +kernel, by decide +kernel, rfl⟩, by decide⟩
theorem ms_J3_checkIndex_8e157 : MS mJ3_checkIndex_8e157 3 := ⟨(tb_c3 152 rfl rfl), (tb_c3 151 rfl rfl), (tb_c1 16 rfl rfl), ⟨by decide +kernel, by decide +kernel, rfl⟩, by decide⟩
