/-! ===== by program (wip/whole/gen10.py) ===== -/
theorem cl_0 : sw_C 0 RX0 TX0 4 tyX0 := ⟨rfl, fun w h => gtb_of (by revert w; decide +kernel) (by revert w; decide +kernel), tyX0_ok, nmX0, by decide +kernel⟩
theorem cl_1 : sw_C 1 RX1 TX1 3 tyX1 := ⟨rfl, fun w h => gtb_of (by revert w; decide +kernel) (by revert w; decide +kernel), tyX1_ok, nmX1, by decide +kernel⟩
theorem cl_2 : sw_C 2 RX2 TX2 11 tyX2 := ⟨rfl, fun w h => gtb_of (by revert w; decide +kernel) (by revert w; decide +kernel), tyX2_ok, nmX2, by decide +kernel⟩
theorem cl_3 : sw_C 3 RX3 TX3 8 tyX3 := ⟨rfl, fun w h => gtb_of (by revert w; decide +kernel) (by revert w; decide +kernel), tyX3_ok, nmX3, by decide +kernel⟩
theorem cl_4 : sw_C 4 RX4 TX4 12 tyX4 := ⟨rfl, fun w h => gtb_of (by revert w; decide +kernel) (by revert w; decide +kernel), tyX4_ok, nmX4, by decide +kernel⟩
theorem cl_5 : sw_C 5 RX5 TX5 6 tyX5 := ⟨rfl, fun w h => gtb_of (by revert w; decide +kernel) (by revert w; decide +kernel), tyX5_ok, nmX5, by decide +kernel⟩
theorem cl_6 : sw_C 6 RX6 TX6 6 tyX6 := ⟨rfl, fun w h => gtb_of (by revert w; decide +kernel) (by revert w; decide +kernel), tyX6_ok, nmX6, by decide +kernel⟩
theorem cl_7 : sw_C 7 RX7 TX7 9 tyX7 := ⟨rfl, fun w h => gtb_of (by revert w; decide +kernel) (by revert w; decide +kernel), tyX7_ok, nmX7, by decide +kernel⟩
theorem cl_8 : sw_C 8 RX8 TX8 3 tyX8 := ⟨rfl, fun w h => gtb_of (by revert w; decide +kernel) (by revert w; decide +kernel), tyX8_ok, nmX8, by decide +kernel⟩
theorem cl_9 : sw_C 9 RX9 TX9 9 tyX9 := ⟨rfl, fun w h => gtb_of (by revert w; decide +kernel) (by revert w; decide +kernel), tyX9_ok, nmX9, by decide +kernel⟩
theorem cl_10 : sw_C 10 RX10 TX10 15 tyX10 := ⟨rfl, fun w h => gtb_of (by revert w; decide +kernel) (by revert w; decide +kernel), tyX10_ok, nmX10, by decide +kernel⟩
theorem cl_11 : sw_C 11 RX11 TX11 51 tyX11 := ⟨rfl, fun w h => gtb_of (by revert w; decide +kernel) (by revert w; decide +kernel), tyX11_ok, nmX11, by decide +kernel⟩
theorem fl_X0_9 : sw_F "DeadWires$Autumns" 9 0 2 true false := ⟨RX0, TX0, 4, tyX0, cl_0, by decide, (gtb_of w2_158 rfl), rfl, fun h => nomatch h⟩
theorem fl_X0_15 : sw_F "DeadWires$Autumns" 15 0 0 true false := ⟨RX0, TX0, 4, tyX0, cl_0, by decide, (gtb_of w2_155 rfl), rfl, fun h => nomatch h⟩
theorem fl_X0_19 : sw_F "DeadWires$Autumns" 19 2 0 true false := ⟨RX2, TX2, 11, tyX2, cl_2, by decide, (gtb_of w1_222 rfl), rfl, fun h => nomatch h⟩
theorem fl_X0_30 : sw_F "DeadWires$Autumns" 30 0 1 true false := ⟨RX0, TX0, 4, tyX0, cl_0, by decide, (gtb_of w2_156 rfl), rfl, fun h => nomatch h⟩
theorem fl_X0_40 : sw_F "DeadWires$Autumns" 40 0 3 false true := ⟨RX0, TX0, 4, tyX0, cl_0, by decide, (gtb_of w2_159 rfl), rfl, fun h => rfl⟩
theorem fl_X0_44 : sw_F "DeadWires$Autumns" 44 4 3 false true := ⟨RX4, TX4, 12, tyX4, cl_4, by decide, (gtb_of w1_99 rfl), rfl, fun h => rfl⟩
theorem fl_X0_49 : sw_F "DeadWires$Autumns" 49 4 1 false true := ⟨RX4, TX4, 12, tyX4, cl_4, by decide, (gtb_of w1_88 rfl), rfl, fun h => rfl⟩
theorem fl_X0_67 : sw_F "DeadWires$Autumns" 67 4 2 false true := ⟨RX4, TX4, 12, tyX4, cl_4, by decide, (gtb_of w1_94 rfl), rfl, fun h => rfl⟩
theorem fl_X0_77 : sw_F "DeadWires$Autumns" 77 2 5 false true := ⟨RX2, TX2, 11, tyX2, cl_2, by decide, (gtb_of w1_237 rfl), rfl, fun h => rfl⟩
theorem fl_X0_80 : sw_F "DeadWires$Autumns" 80 2 9 true false := ⟨RX2, TX2, 11, tyX2, cl_2, by decide, (gtb_of w2_7 rfl), rfl, fun h => nomatch h⟩
theorem fl_X1_9 : sw_F "DeadWires$Book" 9 1 1 true false := ⟨RX1, TX1, 3, tyX1, cl_1, by decide, (gtb_of w1_197 rfl), rfl, fun h => nomatch h⟩
theorem fl_X1_15 : sw_F "DeadWires$Book" 15 1 2 true false := ⟨RX1, TX1, 3, tyX1, cl_1, by decide, (gtb_of w1_199 rfl), rfl, fun h => nomatch h⟩
theorem fl_X1_18 : sw_F "DeadWires$Book" 18 1 0 false true := ⟨RX1, TX1, 3, tyX1, cl_1, by decide, (gtb_of w1_194 rfl), rfl, fun h => rfl⟩
theorem fl_X1_28 : sw_F "DeadWires$Book" 28 7 4 false true := ⟨RX7, TX7, 9, tyX7, cl_7, by decide, (gtb_of w1_46 rfl), rfl, fun h => rfl⟩
theorem fl_X1_37 : sw_F "DeadWires$Book" 37 7 6 false true := ⟨RX7, TX7, 9, tyX7, cl_7, by decide, (gtb_of w1_50 rfl), rfl, fun h => rfl⟩
theorem fl_X10_10 : sw_F "DeadWires" 10 10 0 true false := ⟨RX10, TX10, 15, tyX10, cl_10, by decide, (gtb_of w2_169 rfl), rfl, fun h => nomatch h⟩
theorem fl_X10_19 : sw_F "DeadWires" 19 10 1 true false := ⟨RX10, TX10, 15, tyX10, cl_10, by decide, (gtb_of w2_170 rfl), rfl, fun h => nomatch h⟩
theorem fl_X10_23 : sw_F "DeadWires" 23 10 2 true false := ⟨RX10, TX10, 15, tyX10, cl_10, by decide, (gtb_of w2_171 rfl), rfl, fun h => nomatch h⟩
theorem fl_X10_29 : sw_F "DeadWires" 29 10 3 true false := ⟨RX10, TX10, 15, tyX10, cl_10, by decide, (gtb_of w2_172 rfl), rfl, fun h => nomatch h⟩
theorem fl_X10_33 : sw_F "DeadWires" 33 10 4 true false := ⟨RX10, TX10, 15, tyX10, cl_10, by decide, (gtb_of w2_173 rfl), rfl, fun h => nomatch h⟩
theorem fl_X10_39 : sw_F "DeadWires" 39 10 5 true false := ⟨RX10, TX10, 15, tyX10, cl_10, by decide, (gtb_of w2_174 rfl), rfl, fun h => nomatch h⟩
theorem fl_X10_43 : sw_F "DeadWires" 43 10 6 true false := ⟨RX10, TX10, 15, tyX10, cl_10, by decide, (gtb_of w2_175 rfl), rfl, fun h => nomatch h⟩
theorem fl_X10_51 : sw_F "DeadWires" 51 10 7 true false := ⟨RX10, TX10, 15, tyX10, cl_10, by decide, (gtb_of w2_176 rfl), rfl, fun h => nomatch h⟩
theorem fl_X10_60 : sw_F "DeadWires" 60 10 8 true false := ⟨RX10, TX10, 15, tyX10, cl_10, by decide, (gtb_of w2_177 rfl), rfl, fun h => nomatch h⟩
theorem fl_X10_67 : sw_F "DeadWires" 67 10 9 true false := ⟨RX10, TX10, 15, tyX10, cl_10, by decide, (gtb_of w2_178 rfl), rfl, fun h => nomatch h⟩
theorem fl_X10_74 : sw_F "DeadWires" 74 10 10 true false := ⟨RX10, TX10, 15, tyX10, cl_10, by decide, (gtb_of w2_179 rfl), rfl, fun h => nomatch h⟩
theorem fl_X10_83 : sw_F "DeadWires" 83 10 11 true false := ⟨RX10, TX10, 15, tyX10, cl_10, by decide, (gtb_of w2_180 rfl), rfl, fun h => nomatch h⟩
theorem fl_X10_90 : sw_F "DeadWires" 90 10 12 true false := ⟨RX10, TX10, 15, tyX10, cl_10, by decide, (gtb_of w2_181 rfl), rfl, fun h => nomatch h⟩
theorem fl_X10_102 : sw_F "DeadWires" 102 7 3 false true := ⟨RX7, TX7, 9, tyX7, cl_7, by decide, (gtb_of w1_43 rfl), rfl, fun h => rfl⟩
theorem fl_X10_117 : sw_F "DeadWires" 117 7 7 false true := ⟨RX7, TX7, 9, tyX7, cl_7, by decide, (gtb_of w1_53 rfl), rfl, fun h => rfl⟩
theorem fl_X10_132 : sw_F "DeadWires" 132 9 8 false true := ⟨RX9, TX9, 9, tyX9, cl_9, by decide, (gtb_of w2_49 rfl), rfl, fun h => rfl⟩
theorem fl_X10_135 : sw_F "DeadWires" 135 4 1 false true := ⟨RX4, TX4, 12, tyX4, cl_4, by decide, (gtb_of w1_90 rfl), rfl, fun h => rfl⟩
theorem fl_X10_142 : sw_F "DeadWires" 142 6 4 false true := ⟨RX6, TX6, 6, tyX6, cl_6, by decide, (gtb_of w2_81 rfl), rfl, fun h => rfl⟩
theorem fl_X10_155 : sw_F "DeadWires" 155 9 7 false true := ⟨RX9, TX9, 9, tyX9, cl_9, by decide, (gtb_of w2_47 rfl), rfl, fun h => rfl⟩
theorem fl_X10_162 : sw_F "DeadWires" 162 1 0 false true := ⟨RX1, TX1, 3, tyX1, cl_1, by decide, (gtb_of w1_196 rfl), rfl, fun h => rfl⟩
theorem fl_X10_165 : sw_F "DeadWires" 165 7 8 false true := ⟨RX7, TX7, 9, tyX7, cl_7, by decide, (gtb_of w1_56 rfl), rfl, fun h => rfl⟩
theorem fl_X10_174 : sw_F "DeadWires" 174 4 0 false true := ⟨RX4, TX4, 12, tyX4, cl_4, by decide, (gtb_of w1_85 rfl), rfl, fun h => rfl⟩
theorem fl_X10_177 : sw_F "DeadWires" 177 4 2 false true := ⟨RX4, TX4, 12, tyX4, cl_4, by decide, (gtb_of w1_96 rfl), rfl, fun h => rfl⟩
theorem fl_X10_180 : sw_F "DeadWires" 180 4 3 false true := ⟨RX4, TX4, 12, tyX4, cl_4, by decide, (gtb_of w1_101 rfl), rfl, fun h => rfl⟩
theorem fl_X10_183 : sw_F "DeadWires" 183 2 2 false true := ⟨RX2, TX2, 11, tyX2, cl_2, by decide, (gtb_of w1_231 rfl), rfl, fun h => rfl⟩
theorem fl_X10_190 : sw_F "DeadWires" 190 2 4 false true := ⟨RX2, TX2, 11, tyX2, cl_2, by decide, (gtb_of w1_235 rfl), rfl, fun h => rfl⟩
theorem fl_X10_193 : sw_F "DeadWires" 193 2 3 false true := ⟨RX2, TX2, 11, tyX2, cl_2, by decide, (gtb_of w1_233 rfl), rfl, fun h => rfl⟩
theorem fl_X10_200 : sw_F "DeadWires" 200 2 5 false true := ⟨RX2, TX2, 11, tyX2, cl_2, by decide, (gtb_of w1_238 rfl), rfl, fun h => rfl⟩
theorem fl_X10_222 : sw_F "DeadWires" 222 4 5 true false := ⟨RX4, TX4, 12, tyX4, cl_4, by decide, (gtb_of w1_107 rfl), rfl, fun h => nomatch h⟩
theorem fl_X10_230 : sw_F "DeadWires" 230 4 6 true false := ⟨RX4, TX4, 12, tyX4, cl_4, by decide, (gtb_of w1_110 rfl), rfl, fun h => nomatch h⟩
theorem fl_X10_233 : sw_F "DeadWires" 233 2 6 true false := ⟨RX2, TX2, 11, tyX2, cl_2, by decide, (gtb_of w2_2 rfl), rfl, fun h => nomatch h⟩
theorem fl_X10_236 : sw_F "DeadWires" 236 4 7 true false := ⟨RX4, TX4, 12, tyX4, cl_4, by decide, (gtb_of w1_113 rfl), rfl, fun h => nomatch h⟩
theorem fl_X10_258 : sw_F "DeadWires" 258 4 9 true false := ⟨RX4, TX4, 12, tyX4, cl_4, by decide, (gtb_of w1_117 rfl), rfl, fun h => nomatch h⟩
theorem fl_X10_264 : sw_F "DeadWires" 264 2 8 true false := ⟨RX2, TX2, 11, tyX2, cl_2, by decide, (gtb_of w2_5 rfl), rfl, fun h => nomatch h⟩
theorem fl_X10_270 : sw_F "DeadWires" 270 4 11 true false := ⟨RX4, TX4, 12, tyX4, cl_4, by decide, (gtb_of w1_122 rfl), rfl, fun h => nomatch h⟩
theorem fl_X10_273 : sw_F "DeadWires" 273 2 9 true false := ⟨RX2, TX2, 11, tyX2, cl_2, by decide, (gtb_of w2_8 rfl), rfl, fun h => nomatch h⟩
theorem fl_X10_276 : sw_F "DeadWires" 276 2 10 true false := ⟨RX2, TX2, 11, tyX2, cl_2, by decide, (gtb_of w2_10 rfl), rfl, fun h => nomatch h⟩
theorem fl_X10_330 : sw_F "DeadWires" 330 3 5 false true := ⟨RX3, TX3, 8, tyX3, cl_3, by decide, (gtb_of w2_125 rfl), rfl, fun h => rfl⟩
theorem fl_X10_339 : sw_F "DeadWires" 339 3 6 false true := ⟨RX3, TX3, 8, tyX3, cl_3, by decide, (gtb_of w2_127 rfl), rfl, fun h => rfl⟩
theorem fl_X10_342 : sw_F "DeadWires" 342 3 7 false true := ⟨RX3, TX3, 8, tyX3, cl_3, by decide, (gtb_of w2_129 rfl), rfl, fun h => rfl⟩
theorem fl_X10_398 : sw_F "DeadWires" 398 0 1 true false := ⟨RX0, TX0, 4, tyX0, cl_0, by decide, (gtb_of w2_157 rfl), rfl, fun h => nomatch h⟩
theorem fl_X10_407 : sw_F "DeadWires" 407 6 5 false true := ⟨RX6, TX6, 6, tyX6, cl_6, by decide, (gtb_of w2_83 rfl), rfl, fun h => rfl⟩
theorem fl_X10_416 : sw_F "DeadWires" 416 10 13 false true := ⟨RX10, TX10, 15, tyX10, cl_10, by decide, (gtb_of w2_182 rfl), rfl, fun h => rfl⟩
theorem fl_X10_419 : sw_F "DeadWires" 419 10 14 false true := ⟨RX10, TX10, 15, tyX10, cl_10, by decide, (gtb_of w2_183 rfl), rfl, fun h => rfl⟩
theorem fl_X11_3 : sw_F "DeadWiresModel" 3 11 0 false true := ⟨RX11, TX11, 51, tyX11, cl_11, by decide, (gtb_of w7_2 rfl), rfl, fun h => rfl⟩
theorem fl_X11_7 : sw_F "DeadWiresModel" 7 11 1 true false := ⟨RX11, TX11, 51, tyX11, cl_11, by decide, (gtb_of w7_3 rfl), rfl, fun h => nomatch h⟩
theorem fl_X11_17 : sw_F "DeadWiresModel" 17 11 8 false true := ⟨RX11, TX11, 51, tyX11, cl_11, by decide, (gtb_of w7_10 rfl), rfl, fun h => rfl⟩
theorem fl_X11_20 : sw_F "DeadWiresModel" 20 11 9 true false := ⟨RX11, TX11, 51, tyX11, cl_11, by decide, (gtb_of w7_11 rfl), rfl, fun h => nomatch h⟩
theorem fl_X11_23 : sw_F "DeadWiresModel" 23 11 10 true false := ⟨RX11, TX11, 51, tyX11, cl_11, by decide, (gtb_of w7_12 rfl), rfl, fun h => nomatch h⟩
theorem fl_X11_26 : sw_F "DeadWiresModel" 26 11 11 true false := ⟨RX11, TX11, 51, tyX11, cl_11, by decide, (gtb_of w7_13 rfl), rfl, fun h => nomatch h⟩
theorem fl_X11_29 : sw_F "DeadWiresModel" 29 11 12 true false := ⟨RX11, TX11, 51, tyX11, cl_11, by decide, (gtb_of w7_14 rfl), rfl, fun h => nomatch h⟩
theorem fl_X11_32 : sw_F "DeadWiresModel" 32 11 13 true false := ⟨RX11, TX11, 51, tyX11, cl_11, by decide, (gtb_of w7_15 rfl), rfl, fun h => nomatch h⟩
theorem fl_X11_35 : sw_F "DeadWiresModel" 35 11 14 true false := ⟨RX11, TX11, 51, tyX11, cl_11, by decide, (gtb_of w7_16 rfl), rfl, fun h => nomatch h⟩
theorem fl_X11_38 : sw_F "DeadWiresModel" 38 11 15 true false := ⟨RX11, TX11, 51, tyX11, cl_11, by decide, (gtb_of w7_17 rfl), rfl, fun h => nomatch h⟩
theorem fl_X11_41 : sw_F "DeadWiresModel" 41 11 25 true false := ⟨RX11, TX11, 51, tyX11, cl_11, by decide, (gtb_of w7_27 rfl), rfl, fun h => nomatch h⟩
theorem fl_X11_44 : sw_F "DeadWiresModel" 44 11 26 true false := ⟨RX11, TX11, 51, tyX11, cl_11, by decide, (gtb_of w7_28 rfl), rfl, fun h => nomatch h⟩
theorem fl_X11_47 : sw_F "DeadWiresModel" 47 11 27 true false := ⟨RX11, TX11, 51, tyX11, cl_11, by decide, (gtb_of w7_29 rfl), rfl, fun h => nomatch h⟩
theorem fl_X11_50 : sw_F "DeadWiresModel" 50 11 28 true false := ⟨RX11, TX11, 51, tyX11, cl_11, by decide, (gtb_of w7_30 rfl), rfl, fun h => nomatch h⟩
theorem fl_X11_53 : sw_F "DeadWiresModel" 53 11 29 true false := ⟨RX11, TX11, 51, tyX11, cl_11, by decide, (gtb_of w7_31 rfl), rfl, fun h => nomatch h⟩
theorem fl_X11_56 : sw_F "DeadWiresModel" 56 11 32 true false := ⟨RX11, TX11, 51, tyX11, cl_11, by decide, (gtb_of w7_34 rfl), rfl, fun h => nomatch h⟩
theorem fl_X11_59 : sw_F "DeadWiresModel" 59 11 33 true false := ⟨RX11, TX11, 51, tyX11, cl_11, by decide, (gtb_of w7_35 rfl), rfl, fun h => nomatch h⟩
theorem fl_X11_62 : sw_F "DeadWiresModel" 62 11 34 true false := ⟨RX11, TX11, 51, tyX11, cl_11, by decide, (gtb_of w7_36 rfl), rfl, fun h => nomatch h⟩
theorem fl_X11_65 : sw_F "DeadWiresModel" 65 11 41 true false := ⟨RX11, TX11, 51, tyX11, cl_11, by decide, (gtb_of w7_43 rfl), rfl, fun h => nomatch h⟩
theorem fl_X11_68 : sw_F "DeadWiresModel" 68 11 42 true false := ⟨RX11, TX11, 51, tyX11, cl_11, by decide, (gtb_of w7_44 rfl), rfl, fun h => nomatch h⟩
theorem fl_X11_71 : sw_F "DeadWiresModel" 71 11 43 true false := ⟨RX11, TX11, 51, tyX11, cl_11, by decide, (gtb_of w7_45 rfl), rfl, fun h => nomatch h⟩
theorem fl_X11_74 : sw_F "DeadWiresModel" 74 11 44 true false := ⟨RX11, TX11, 51, tyX11, cl_11, by decide, (gtb_of w7_46 rfl), rfl, fun h => nomatch h⟩
theorem fl_X11_77 : sw_F "DeadWiresModel" 77 11 45 true false := ⟨RX11, TX11, 51, tyX11, cl_11, by decide, (gtb_of w7_47 rfl), rfl, fun h => nomatch h⟩
theorem fl_X11_80 : sw_F "DeadWiresModel" 80 11 47 true false := ⟨RX11, TX11, 51, tyX11, cl_11, by decide, (gtb_of w7_49 rfl), rfl, fun h => nomatch h⟩
theorem fl_X11_83 : sw_F "DeadWiresModel" 83 11 49 true false := ⟨RX11, TX11, 51, tyX11, cl_11, by decide, (gtb_of w7_51 rfl), rfl, fun h => nomatch h⟩
theorem fl_X11_92 : sw_F "DeadWiresModel" 92 11 2 false true := ⟨RX11, TX11, 51, tyX11, cl_11, by decide, (gtb_of w7_4 rfl), rfl, fun h => rfl⟩
theorem fl_X11_95 : sw_F "DeadWiresModel" 95 11 5 false true := ⟨RX11, TX11, 51, tyX11, cl_11, by decide, (gtb_of w7_7 rfl), rfl, fun h => rfl⟩
theorem fl_X11_98 : sw_F "DeadWiresModel" 98 11 6 false true := ⟨RX11, TX11, 51, tyX11, cl_11, by decide, (gtb_of w7_8 rfl), rfl, fun h => rfl⟩
theorem fl_X11_101 : sw_F "DeadWiresModel" 101 11 4 false true := ⟨RX11, TX11, 51, tyX11, cl_11, by decide, (gtb_of w7_6 rfl), rfl, fun h => rfl⟩
theorem fl_X11_104 : sw_F "DeadWiresModel" 104 11 3 false true := ⟨RX11, TX11, 51, tyX11, cl_11, by decide, (gtb_of w7_5 rfl), rfl, fun h => rfl⟩
theorem fl_X11_135 : sw_F "DeadWiresModel" 135 11 7 false true := ⟨RX11, TX11, 51, tyX11, cl_11, by decide, (gtb_of w7_9 rfl), rfl, fun h => rfl⟩
theorem fl_X11_138 : sw_F "DeadWiresModel" 138 11 16 false true := ⟨RX11, TX11, 51, tyX11, cl_11, by decide, (gtb_of w7_18 rfl), rfl, fun h => rfl⟩
theorem fl_X11_141 : sw_F "DeadWiresModel" 141 11 17 false true := ⟨RX11, TX11, 51, tyX11, cl_11, by decide, (gtb_of w7_19 rfl), rfl, fun h => rfl⟩
theorem fl_X11_144 : sw_F "DeadWiresModel" 144 11 18 false true := ⟨RX11, TX11, 51, tyX11, cl_11, by decide, (gtb_of w7_20 rfl), rfl, fun h => rfl⟩
theorem fl_X11_147 : sw_F "DeadWiresModel" 147 11 19 false true := ⟨RX11, TX11, 51, tyX11, cl_11, by decide, (gtb_of w7_21 rfl), rfl, fun h => rfl⟩
theorem fl_X11_150 : sw_F "DeadWiresModel" 150 11 20 false true := ⟨RX11, TX11, 51, tyX11, cl_11, by decide, (gtb_of w7_22 rfl), rfl, fun h => rfl⟩
theorem fl_X11_153 : sw_F "DeadWiresModel" 153 11 21 false true := ⟨RX11, TX11, 51, tyX11, cl_11, by decide, (gtb_of w7_23 rfl), rfl, fun h => rfl⟩
theorem fl_X11_156 : sw_F "DeadWiresModel" 156 11 22 false true := ⟨RX11, TX11, 51, tyX11, cl_11, by decide, (gtb_of w7_24 rfl), rfl, fun h => rfl⟩
theorem fl_X11_159 : sw_F "DeadWiresModel" 159 11 23 false true := ⟨RX11, TX11, 51, tyX11, cl_11, by decide, (gtb_of w7_25 rfl), rfl, fun h => rfl⟩
theorem fl_X11_162 : sw_F "DeadWiresModel" 162 11 24 false true := ⟨RX11, TX11, 51, tyX11, cl_11, by decide, (gtb_of w7_26 rfl), rfl, fun h => rfl⟩
theorem fl_X11_169 : sw_F "DeadWiresModel" 169 11 31 false true := ⟨RX11, TX11, 51, tyX11, cl_11, by decide, (gtb_of w7_33 rfl), rfl, fun h => rfl⟩
theorem fl_X11_172 : sw_F "DeadWiresModel" 172 11 46 false true := ⟨RX11, TX11, 51, tyX11, cl_11, by decide, (gtb_of w7_48 rfl), rfl, fun h => rfl⟩
theorem fl_X11_175 : sw_F "DeadWiresModel" 175 11 36 false true := ⟨RX11, TX11, 51, tyX11, cl_11, by decide, (gtb_of w7_38 rfl), rfl, fun h => rfl⟩
theorem fl_X11_178 : sw_F "DeadWiresModel" 178 11 50 false true := ⟨RX11, TX11, 51, tyX11, cl_11, by decide, (gtb_of w7_52 rfl), rfl, fun h => rfl⟩
theorem fl_X11_181 : sw_F "DeadWiresModel" 181 11 37 false true := ⟨RX11, TX11, 51, tyX11, cl_11, by decide, (gtb_of w7_39 rfl), rfl, fun h => rfl⟩
theorem fl_X11_237 : sw_F "DeadWiresModel" 237 11 30 false true := ⟨RX11, TX11, 51, tyX11, cl_11, by decide, (gtb_of w7_32 rfl), rfl, fun h => rfl⟩
theorem fl_X11_283 : sw_F "DeadWiresModel" 283 11 35 false true := ⟨RX11, TX11, 51, tyX11, cl_11, by decide, (gtb_of w7_37 rfl), rfl, fun h => rfl⟩
theorem fl_X11_308 : sw_F "DeadWiresModel" 308 11 38 false true := ⟨RX11, TX11, 51, tyX11, cl_11, by decide, (gtb_of w7_40 rfl), rfl, fun h => rfl⟩
theorem fl_X11_311 : sw_F "DeadWiresModel" 311 11 39 false true := ⟨RX11, TX11, 51, tyX11, cl_11, by decide, (gtb_of w7_41 rfl), rfl, fun h => rfl⟩
theorem fl_X11_314 : sw_F "DeadWiresModel" 314 11 40 false true := ⟨RX11, TX11, 51, tyX11, cl_11, by decide, (gtb_of w7_42 rfl), rfl, fun h => rfl⟩
theorem fl_X11_431 : sw_F "DeadWiresModel" 431 11 48 false true := ⟨RX11, TX11, 51, tyX11, cl_11, by decide, (gtb_of w7_50 rfl), rfl, fun h => rfl⟩
theorem fl_X2_9 : sw_F "DeadWires$Days" 9 2 6 true false := ⟨RX2, TX2, 11, tyX2, cl_2, by decide, (gtb_of w1_239 rfl), rfl, fun h => nomatch h⟩
theorem fl_X2_15 : sw_F "DeadWires$Days" 15 2 7 true false := ⟨RX2, TX2, 11, tyX2, cl_2, by decide, (gtb_of w2_3 rfl), rfl, fun h => nomatch h⟩
theorem fl_X2_18 : sw_F "DeadWires$Days" 18 2 8 true false := ⟨RX2, TX2, 11, tyX2, cl_2, by decide, (gtb_of w2_4 rfl), rfl, fun h => nomatch h⟩
theorem fl_X2_21 : sw_F "DeadWires$Days" 21 2 9 true false := ⟨RX2, TX2, 11, tyX2, cl_2, by decide, (gtb_of w2_6 rfl), rfl, fun h => nomatch h⟩
theorem fl_X2_24 : sw_F "DeadWires$Days" 24 2 10 true false := ⟨RX2, TX2, 11, tyX2, cl_2, by decide, (gtb_of w2_9 rfl), rfl, fun h => nomatch h⟩
theorem fl_X2_27 : sw_F "DeadWires$Days" 27 2 0 true false := ⟨RX2, TX2, 11, tyX2, cl_2, by decide, (gtb_of w1_224 rfl), rfl, fun h => nomatch h⟩
theorem fl_X2_31 : sw_F "DeadWires$Days" 31 2 1 true false := ⟨RX2, TX2, 11, tyX2, cl_2, by decide, (gtb_of w1_227 rfl), rfl, fun h => nomatch h⟩
theorem fl_X2_38 : sw_F "DeadWires$Days" 38 2 2 false true := ⟨RX2, TX2, 11, tyX2, cl_2, by decide, (gtb_of w1_228 rfl), rfl, fun h => rfl⟩
theorem fl_X2_42 : sw_F "DeadWires$Days" 42 4 4 false true := ⟨RX4, TX4, 12, tyX4, cl_4, by decide, (gtb_of w1_104 rfl), rfl, fun h => rfl⟩
theorem fl_X2_47 : sw_F "DeadWires$Days" 47 2 3 false true := ⟨RX2, TX2, 11, tyX2, cl_2, by decide, (gtb_of w1_232 rfl), rfl, fun h => rfl⟩
theorem fl_X2_50 : sw_F "DeadWires$Days" 50 2 4 false true := ⟨RX2, TX2, 11, tyX2, cl_2, by decide, (gtb_of w1_234 rfl), rfl, fun h => rfl⟩
theorem fl_X2_53 : sw_F "DeadWires$Days" 53 2 5 false true := ⟨RX2, TX2, 11, tyX2, cl_2, by decide, (gtb_of w1_236 rfl), rfl, fun h => rfl⟩
theorem fl_X2_56 : sw_F "DeadWires$Days" 56 4 7 true false := ⟨RX4, TX4, 12, tyX4, cl_4, by decide, (gtb_of w1_112 rfl), rfl, fun h => nomatch h⟩
theorem fl_X2_65 : sw_F "DeadWires$Days" 65 4 8 true false := ⟨RX4, TX4, 12, tyX4, cl_4, by decide, (gtb_of w1_115 rfl), rfl, fun h => nomatch h⟩
theorem fl_X2_68 : sw_F "DeadWires$Days" 68 4 10 true false := ⟨RX4, TX4, 12, tyX4, cl_4, by decide, (gtb_of w1_120 rfl), rfl, fun h => nomatch h⟩
theorem fl_X2_83 : sw_F "DeadWires$Days" 83 4 1 false true := ⟨RX4, TX4, 12, tyX4, cl_4, by decide, (gtb_of w1_92 rfl), rfl, fun h => rfl⟩
theorem fl_X2_110 : sw_F "DeadWires$Days" 110 4 2 false true := ⟨RX4, TX4, 12, tyX4, cl_4, by decide, (gtb_of w1_97 rfl), rfl, fun h => rfl⟩
theorem fl_X2_113 : sw_F "DeadWires$Days" 113 4 3 false true := ⟨RX4, TX4, 12, tyX4, cl_4, by decide, (gtb_of w1_102 rfl), rfl, fun h => rfl⟩
theorem fl_X2_116 : sw_F "DeadWires$Days" 116 4 9 true false := ⟨RX4, TX4, 12, tyX4, cl_4, by decide, (gtb_of w1_118 rfl), rfl, fun h => nomatch h⟩
theorem fl_X2_119 : sw_F "DeadWires$Days" 119 4 11 true false := ⟨RX4, TX4, 12, tyX4, cl_4, by decide, (gtb_of w1_123 rfl), rfl, fun h => nomatch h⟩
theorem fl_X3_11 : sw_F "DeadWires$Guess" 11 3 2 true false := ⟨RX3, TX3, 8, tyX3, cl_3, by decide, (gtb_of w2_121 rfl), rfl, fun h => nomatch h⟩
theorem fl_X3_15 : sw_F "DeadWires$Guess" 15 3 3 true false := ⟨RX3, TX3, 8, tyX3, cl_3, by decide, (gtb_of w2_122 rfl), rfl, fun h => nomatch h⟩
theorem fl_X3_18 : sw_F "DeadWires$Guess" 18 3 4 true false := ⟨RX3, TX3, 8, tyX3, cl_3, by decide, (gtb_of w2_123 rfl), rfl, fun h => nomatch h⟩
theorem fl_X3_21 : sw_F "DeadWires$Guess" 21 3 0 true false := ⟨RX3, TX3, 8, tyX3, cl_3, by decide, (gtb_of w2_119 rfl), rfl, fun h => nomatch h⟩
theorem fl_X3_25 : sw_F "DeadWires$Guess" 25 3 1 true false := ⟨RX3, TX3, 8, tyX3, cl_3, by decide, (gtb_of w2_120 rfl), rfl, fun h => nomatch h⟩
theorem fl_X3_29 : sw_F "DeadWires$Guess" 29 3 5 false true := ⟨RX3, TX3, 8, tyX3, cl_3, by decide, (gtb_of w2_124 rfl), rfl, fun h => rfl⟩
theorem fl_X3_33 : sw_F "DeadWires$Guess" 33 1 0 false true := ⟨RX1, TX1, 3, tyX1, cl_1, by decide, (gtb_of w1_195 rfl), rfl, fun h => rfl⟩
theorem fl_X3_38 : sw_F "DeadWires$Guess" 38 1 1 true false := ⟨RX1, TX1, 3, tyX1, cl_1, by decide, (gtb_of w1_198 rfl), rfl, fun h => nomatch h⟩
theorem fl_X3_52 : sw_F "DeadWires$Guess" 52 1 2 true false := ⟨RX1, TX1, 3, tyX1, cl_1, by decide, (gtb_of w1_200 rfl), rfl, fun h => nomatch h⟩
theorem fl_X3_55 : sw_F "DeadWires$Guess" 55 2 0 true false := ⟨RX2, TX2, 11, tyX2, cl_2, by decide, (gtb_of w1_225 rfl), rfl, fun h => nomatch h⟩
theorem fl_X3_59 : sw_F "DeadWires$Guess" 59 4 1 false true := ⟨RX4, TX4, 12, tyX4, cl_4, by decide, (gtb_of w1_89 rfl), rfl, fun h => rfl⟩
theorem fl_X3_76 : sw_F "DeadWires$Guess" 76 2 6 true false := ⟨RX2, TX2, 11, tyX2, cl_2, by decide, (gtb_of w2_1 rfl), rfl, fun h => nomatch h⟩
theorem fl_X3_83 : sw_F "DeadWires$Guess" 83 2 2 false true := ⟨RX2, TX2, 11, tyX2, cl_2, by decide, (gtb_of w1_230 rfl), rfl, fun h => rfl⟩
theorem fl_X3_86 : sw_F "DeadWires$Guess" 86 3 6 false true := ⟨RX3, TX3, 8, tyX3, cl_3, by decide, (gtb_of w2_126 rfl), rfl, fun h => rfl⟩
theorem fl_X3_89 : sw_F "DeadWires$Guess" 89 3 7 false true := ⟨RX3, TX3, 8, tyX3, cl_3, by decide, (gtb_of w2_128 rfl), rfl, fun h => rfl⟩
theorem fl_X4_11 : sw_F "DeadWires$Land" 11 4 4 false true := ⟨RX4, TX4, 12, tyX4, cl_4, by decide, (gtb_of w1_103 rfl), rfl, fun h => rfl⟩
theorem fl_X4_15 : sw_F "DeadWires$Land" 15 4 5 true false := ⟨RX4, TX4, 12, tyX4, cl_4, by decide, (gtb_of w1_105 rfl), rfl, fun h => nomatch h⟩
theorem fl_X4_19 : sw_F "DeadWires$Land" 19 4 6 true false := ⟨RX4, TX4, 12, tyX4, cl_4, by decide, (gtb_of w1_108 rfl), rfl, fun h => nomatch h⟩
theorem fl_X4_22 : sw_F "DeadWires$Land" 22 4 7 true false := ⟨RX4, TX4, 12, tyX4, cl_4, by decide, (gtb_of w1_111 rfl), rfl, fun h => nomatch h⟩
theorem fl_X4_25 : sw_F "DeadWires$Land" 25 4 8 true false := ⟨RX4, TX4, 12, tyX4, cl_4, by decide, (gtb_of w1_114 rfl), rfl, fun h => nomatch h⟩
theorem fl_X4_28 : sw_F "DeadWires$Land" 28 4 9 true false := ⟨RX4, TX4, 12, tyX4, cl_4, by decide, (gtb_of w1_116 rfl), rfl, fun h => nomatch h⟩
theorem fl_X4_31 : sw_F "DeadWires$Land" 31 4 10 true false := ⟨RX4, TX4, 12, tyX4, cl_4, by decide, (gtb_of w1_119 rfl), rfl, fun h => nomatch h⟩
theorem fl_X4_34 : sw_F "DeadWires$Land" 34 4 11 true false := ⟨RX4, TX4, 12, tyX4, cl_4, by decide, (gtb_of w1_121 rfl), rfl, fun h => nomatch h⟩
theorem fl_X4_37 : sw_F "DeadWires$Land" 37 4 0 false true := ⟨RX4, TX4, 12, tyX4, cl_4, by decide, (gtb_of w1_83 rfl), rfl, fun h => rfl⟩
theorem fl_X4_40 : sw_F "DeadWires$Land" 40 4 1 false true := ⟨RX4, TX4, 12, tyX4, cl_4, by decide, (gtb_of w1_86 rfl), rfl, fun h => rfl⟩
theorem fl_X4_43 : sw_F "DeadWires$Land" 43 4 2 false true := ⟨RX4, TX4, 12, tyX4, cl_4, by decide, (gtb_of w1_93 rfl), rfl, fun h => rfl⟩
theorem fl_X4_46 : sw_F "DeadWires$Land" 46 4 3 false true := ⟨RX4, TX4, 12, tyX4, cl_4, by decide, (gtb_of w1_98 rfl), rfl, fun h => rfl⟩
theorem fl_X4_72 : sw_F "DeadWires$Land" 72 7 4 false true := ⟨RX7, TX7, 9, tyX7, cl_7, by decide, (gtb_of w1_48 rfl), rfl, fun h => rfl⟩
theorem fl_X4_125 : sw_F "DeadWires$Land" 125 7 6 false true := ⟨RX7, TX7, 9, tyX7, cl_7, by decide, (gtb_of w1_52 rfl), rfl, fun h => rfl⟩
theorem fl_X5_9 : sw_F "DeadWires$Law" 9 5 0 true false := ⟨RX5, TX5, 6, tyX5, cl_5, by decide, (gtb_of w1_169 rfl), rfl, fun h => nomatch h⟩
theorem fl_X5_15 : sw_F "DeadWires$Law" 15 5 1 true false := ⟨RX5, TX5, 6, tyX5, cl_5, by decide, (gtb_of w1_170 rfl), rfl, fun h => nomatch h⟩
theorem fl_X5_18 : sw_F "DeadWires$Law" 18 5 2 true false := ⟨RX5, TX5, 6, tyX5, cl_5, by decide, (gtb_of w1_171 rfl), rfl, fun h => nomatch h⟩
theorem fl_X5_21 : sw_F "DeadWires$Law" 21 5 3 true false := ⟨RX5, TX5, 6, tyX5, cl_5, by decide, (gtb_of w1_172 rfl), rfl, fun h => nomatch h⟩
theorem fl_X5_27 : sw_F "DeadWires$Law" 27 5 4 false true := ⟨RX5, TX5, 6, tyX5, cl_5, by decide, (gtb_of w1_173 rfl), rfl, fun h => rfl⟩
theorem fl_X5_55 : sw_F "DeadWires$Law" 55 7 4 false true := ⟨RX7, TX7, 9, tyX7, cl_7, by decide, (gtb_of w1_47 rfl), rfl, fun h => rfl⟩
theorem fl_X5_112 : sw_F "DeadWires$Law" 112 5 5 false true := ⟨RX5, TX5, 6, tyX5, cl_5, by decide, (gtb_of w1_174 rfl), rfl, fun h => rfl⟩
theorem fl_X6_11 : sw_F "DeadWires$Shelf" 11 6 1 true false := ⟨RX6, TX6, 6, tyX6, cl_6, by decide, (gtb_of w2_77 rfl), rfl, fun h => nomatch h⟩
theorem fl_X6_17 : sw_F "DeadWires$Shelf" 17 6 2 true false := ⟨RX6, TX6, 6, tyX6, cl_6, by decide, (gtb_of w2_78 rfl), rfl, fun h => nomatch h⟩
theorem fl_X6_20 : sw_F "DeadWires$Shelf" 20 6 3 true false := ⟨RX6, TX6, 6, tyX6, cl_6, by decide, (gtb_of w2_79 rfl), rfl, fun h => nomatch h⟩
theorem fl_X6_23 : sw_F "DeadWires$Shelf" 23 6 0 true false := ⟨RX6, TX6, 6, tyX6, cl_6, by decide, (gtb_of w2_76 rfl), rfl, fun h => nomatch h⟩
theorem fl_X6_27 : sw_F "DeadWires$Shelf" 27 6 4 false true := ⟨RX6, TX6, 6, tyX6, cl_6, by decide, (gtb_of w2_80 rfl), rfl, fun h => rfl⟩
theorem fl_X6_31 : sw_F "DeadWires$Shelf" 31 6 5 false true := ⟨RX6, TX6, 6, tyX6, cl_6, by decide, (gtb_of w2_82 rfl), rfl, fun h => rfl⟩
theorem fl_X7_9 : sw_F "DeadWires$Tape" 9 7 0 true false := ⟨RX7, TX7, 9, tyX7, cl_7, by decide, (gtb_of w1_39 rfl), rfl, fun h => nomatch h⟩
theorem fl_X7_15 : sw_F "DeadWires$Tape" 15 7 4 false true := ⟨RX7, TX7, 9, tyX7, cl_7, by decide, (gtb_of w1_44 rfl), rfl, fun h => rfl⟩
theorem fl_X7_19 : sw_F "DeadWires$Tape" 19 7 8 false true := ⟨RX7, TX7, 9, tyX7, cl_7, by decide, (gtb_of w1_55 rfl), rfl, fun h => rfl⟩
theorem fl_X7_22 : sw_F "DeadWires$Tape" 22 7 3 false true := ⟨RX7, TX7, 9, tyX7, cl_7, by decide, (gtb_of w1_42 rfl), rfl, fun h => rfl⟩
theorem fl_X7_25 : sw_F "DeadWires$Tape" 25 7 7 false true := ⟨RX7, TX7, 9, tyX7, cl_7, by decide, (gtb_of w1_54 rfl), rfl, fun h => rfl⟩
theorem fl_X7_35 : sw_F "DeadWires$Tape" 35 7 1 false true := ⟨RX7, TX7, 9, tyX7, cl_7, by decide, (gtb_of w1_40 rfl), rfl, fun h => rfl⟩
theorem fl_X7_38 : sw_F "DeadWires$Tape" 38 7 2 false true := ⟨RX7, TX7, 9, tyX7, cl_7, by decide, (gtb_of w1_41 rfl), rfl, fun h => rfl⟩
theorem fl_X7_44 : sw_F "DeadWires$Tape" 44 7 5 false true := ⟨RX7, TX7, 9, tyX7, cl_7, by decide, (gtb_of w1_49 rfl), rfl, fun h => rfl⟩
theorem fl_X7_47 : sw_F "DeadWires$Tape" 47 7 6 false true := ⟨RX7, TX7, 9, tyX7, cl_7, by decide, (gtb_of w1_51 rfl), rfl, fun h => rfl⟩
theorem fl_X8_9 : sw_F "DeadWires$Ways" 9 8 2 true false := ⟨RX8, TX8, 3, tyX8, cl_8, by decide, (gtb_of w2_105 rfl), rfl, fun h => nomatch h⟩
theorem fl_X8_15 : sw_F "DeadWires$Ways" 15 8 0 true false := ⟨RX8, TX8, 3, tyX8, cl_8, by decide, (gtb_of w2_103 rfl), rfl, fun h => nomatch h⟩
theorem fl_X8_19 : sw_F "DeadWires$Ways" 19 2 0 true false := ⟨RX2, TX2, 11, tyX2, cl_2, by decide, (gtb_of w1_221 rfl), rfl, fun h => nomatch h⟩
theorem fl_X8_25 : sw_F "DeadWires$Ways" 25 8 1 true false := ⟨RX8, TX8, 3, tyX8, cl_8, by decide, (gtb_of w2_104 rfl), rfl, fun h => nomatch h⟩
theorem fl_X8_26 : sw_F "DeadWires$Ways" 26 4 1 false true := ⟨RX4, TX4, 12, tyX4, cl_4, by decide, (gtb_of w1_87 rfl), rfl, fun h => rfl⟩
theorem fl_X8_36 : sw_F "DeadWires$Ways" 36 2 6 true false := ⟨RX2, TX2, 11, tyX2, cl_2, by decide, (gtb_of w2_0 rfl), rfl, fun h => nomatch h⟩
theorem fl_X8_39 : sw_F "DeadWires$Ways" 39 4 5 true false := ⟨RX4, TX4, 12, tyX4, cl_4, by decide, (gtb_of w1_106 rfl), rfl, fun h => nomatch h⟩
theorem fl_X8_46 : sw_F "DeadWires$Ways" 46 4 6 true false := ⟨RX4, TX4, 12, tyX4, cl_4, by decide, (gtb_of w1_109 rfl), rfl, fun h => nomatch h⟩
theorem fl_X8_49 : sw_F "DeadWires$Ways" 49 2 2 false true := ⟨RX2, TX2, 11, tyX2, cl_2, by decide, (gtb_of w1_229 rfl), rfl, fun h => rfl⟩
theorem fl_X8_60 : sw_F "DeadWires$Ways" 60 4 0 false true := ⟨RX4, TX4, 12, tyX4, cl_4, by decide, (gtb_of w1_84 rfl), rfl, fun h => rfl⟩
theorem fl_X9_9 : sw_F "DeadWires$Work" 9 9 2 true false := ⟨RX9, TX9, 9, tyX9, cl_9, by decide, (gtb_of w2_42 rfl), rfl, fun h => nomatch h⟩
theorem fl_X9_15 : sw_F "DeadWires$Work" 15 9 3 true false := ⟨RX9, TX9, 9, tyX9, cl_9, by decide, (gtb_of w2_43 rfl), rfl, fun h => nomatch h⟩
theorem fl_X9_18 : sw_F "DeadWires$Work" 18 9 4 true false := ⟨RX9, TX9, 9, tyX9, cl_9, by decide, (gtb_of w2_44 rfl), rfl, fun h => nomatch h⟩
theorem fl_X9_21 : sw_F "DeadWires$Work" 21 9 0 true false := ⟨RX9, TX9, 9, tyX9, cl_9, by decide, (gtb_of w2_40 rfl), rfl, fun h => nomatch h⟩
theorem fl_X9_25 : sw_F "DeadWires$Work" 25 2 0 true false := ⟨RX2, TX2, 11, tyX2, cl_2, by decide, (gtb_of w1_223 rfl), rfl, fun h => nomatch h⟩
theorem fl_X9_31 : sw_F "DeadWires$Work" 31 9 1 true false := ⟨RX9, TX9, 9, tyX9, cl_9, by decide, (gtb_of w2_41 rfl), rfl, fun h => nomatch h⟩
theorem fl_X9_32 : sw_F "DeadWires$Work" 32 9 5 false true := ⟨RX9, TX9, 9, tyX9, cl_9, by decide, (gtb_of w2_45 rfl), rfl, fun h => rfl⟩
theorem fl_X9_40 : sw_F "DeadWires$Work" 40 7 4 false true := ⟨RX7, TX7, 9, tyX7, cl_7, by decide, (gtb_of w1_45 rfl), rfl, fun h => rfl⟩
theorem fl_X9_61 : sw_F "DeadWires$Work" 61 4 3 false true := ⟨RX4, TX4, 12, tyX4, cl_4, by decide, (gtb_of w1_100 rfl), rfl, fun h => rfl⟩
theorem fl_X9_66 : sw_F "DeadWires$Work" 66 4 2 false true := ⟨RX4, TX4, 12, tyX4, cl_4, by decide, (gtb_of w1_95 rfl), rfl, fun h => rfl⟩
theorem fl_X9_77 : sw_F "DeadWires$Work" 77 4 1 false true := ⟨RX4, TX4, 12, tyX4, cl_4, by decide, (gtb_of w1_91 rfl), rfl, fun h => rfl⟩
theorem fl_X9_115 : sw_F "DeadWires$Work" 115 9 6 false true := ⟨RX9, TX9, 9, tyX9, cl_9, by decide, (gtb_of w2_46 rfl), rfl, fun h => rfl⟩
theorem fl_X9_118 : sw_F "DeadWires$Work" 118 9 7 false true := ⟨RX9, TX9, 9, tyX9, cl_9, by decide, (gtb_of w2_48 rfl), rfl, fun h => rfl⟩
theorem fl_X9_121 : sw_F "DeadWires$Work" 121 9 8 false true := ⟨RX9, TX9, 9, tyX9, cl_9, by decide, (gtb_of w2_50 rfl), rfl, fun h => rfl⟩
theorem me_X0_init : sw_me yX0_init cX0_init 2 none 1 := ⟨(gtb_of w2_151 rfl), (gtb_of w1_13 rfl), ⟨by decide +kernel, by decide +kernel⟩, by decide +kernel, by decide⟩
theorem mi_X0_init : Cond.instanceMethod yX0_init ∈ gtb := (gtb_of w2_150 rfl)
theorem me_X0_go : sw_me yX0_go cX0_go 6 none 3 := ⟨(gtb_of w6_187 rfl), (gtb_of w1_13 rfl), ⟨by decide +kernel, by decide +kernel⟩, by decide +kernel, by decide⟩
theorem mv_X0_go : sw_mV yX0_go := ⟨(gtb_of w6_185 rfl), (gtb_of w6_186 rfl)⟩
theorem me_X0_drawSteps : sw_me yX0_drawSteps cX0_drawSteps 4 none 1 := ⟨(gtb_of w6_193 rfl), (gtb_of w1_13 rfl), ⟨by decide +kernel, by decide +kernel⟩, by decide +kernel, by decide⟩
theorem mv_X0_drawSteps : sw_mV yX0_drawSteps := ⟨(gtb_of w6_192 rfl), (gtb_sel (List.mem_of_getElem? (i := 38) rfl) rfl)⟩
theorem me_X0_draw : sw_me yX0_draw cX0_draw 3 (some .int) 1 := ⟨(gtb_of w6_197 rfl), (gtb_of w1_13 rfl), ⟨by decide +kernel, by decide +kernel⟩, by decide +kernel, by decide⟩
theorem mv_X0_draw : sw_mV yX0_draw := ⟨(gtb_of w6_196 rfl), (gtb_sel (List.mem_of_getElem? (i := 39) rfl) rfl)⟩
theorem me_X0_crossings : sw_me yX0_crossings cX0_crossings 1 (some .int) 0 := ⟨(gtb_of w6_206 rfl), (gtb_of w1_13 rfl), ⟨by decide +kernel, by decide +kernel⟩, by decide +kernel, by decide⟩
theorem mv_X0_crossings : sw_mV yX0_crossings := ⟨(gtb_of w6_204 rfl), (gtb_of w6_205 rfl)⟩
theorem me_X0_isElsewhere : sw_me yX0_isElsewhere cX0_isElsewhere 2 (some .boolean) 1 := ⟨(gtb_of w6_218 rfl), (gtb_of w1_13 rfl), ⟨by decide +kernel, by decide +kernel⟩, by decide +kernel, by decide⟩
theorem mv_X0_isElsewhere : sw_mV yX0_isElsewhere := ⟨(gtb_of w6_216 rfl), (gtb_of w6_217 rfl)⟩
theorem me_X1_init : sw_me yX1_init cX1_init 1 none 0 := ⟨(gtb_of w1_192 rfl), (gtb_of w1_6 rfl), ⟨by decide +kernel, by decide +kernel⟩, by decide +kernel, by decide⟩
theorem mi_X1_init : Cond.instanceMethod yX1_init ∈ gtb := (gtb_of w1_191 rfl)
theorem me_X1_clear : sw_me yX1_clear cX1_clear 1 none 0 := ⟨(gtb_of w4_98 rfl), (gtb_of w1_6 rfl), ⟨by decide +kernel, by decide +kernel⟩, by decide +kernel, by decide⟩
theorem mv_X1_clear : sw_mV yX1_clear := ⟨(gtb_of w4_96 rfl), (gtb_of w4_97 rfl)⟩
theorem me_X1_copy : sw_me yX1_copy cX1_copy 2 none 1 := ⟨(gtb_of w5_54 rfl), (gtb_of w1_6 rfl), ⟨by decide +kernel, by decide +kernel⟩, by decide +kernel, by decide⟩
theorem mv_X1_copy : sw_mV yX1_copy := ⟨(gtb_of w5_52 rfl), (gtb_of w5_53 rfl)⟩
theorem me_X1_tells : sw_me yX1_tells cX1_tells 3 (some .boolean) 1 := ⟨(gtb_of w5_46 rfl), (gtb_of w1_6 rfl), ⟨by decide +kernel, by decide +kernel⟩, by decide +kernel, by decide⟩
theorem mv_X1_tells : sw_mV yX1_tells := ⟨(gtb_of w5_44 rfl), (gtb_of w5_45 rfl)⟩
theorem me_X1_read : sw_me yX1_read cX1_read 3 (some .boolean) 1 := ⟨(gtb_of w5_38 rfl), (gtb_of w1_6 rfl), ⟨by decide +kernel, by decide +kernel⟩, by decide +kernel, by decide⟩
theorem mv_X1_read : sw_mV yX1_read := ⟨(gtb_of w5_36 rfl), (gtb_of w5_37 rfl)⟩
theorem me_X1_readLine : sw_me yX1_readLine cX1_readLine 5 (some .boolean) 1 := ⟨(gtb_of w5_42 rfl), (gtb_of w1_6 rfl), ⟨by decide +kernel, by decide +kernel⟩, by decide +kernel, by decide⟩
theorem mv_X1_readLine : sw_mV yX1_readLine := ⟨(gtb_of w5_41 rfl), (gtb_sel (List.mem_of_getElem? (i := 26) rfl) rfl)⟩
theorem me_X2_init : sw_me yX2_init cX2_init 3 none 2 := ⟨(gtb_of w1_212 rfl), (gtb_of w1_7 rfl), ⟨by decide +kernel, by decide +kernel⟩, by decide +kernel, by decide⟩
theorem mi_X2_init : Cond.instanceMethod yX2_init ∈ gtb := (gtb_of w1_211 rfl)
theorem me_X2_begin : sw_me yX2_begin cX2_begin 2 none 0 := ⟨(gtb_of w1_217 rfl), (gtb_of w1_7 rfl), ⟨by decide +kernel, by decide +kernel⟩, by decide +kernel, by decide⟩
theorem mv_X2_begin : sw_mV yX2_begin := ⟨(gtb_of w1_215 rfl), (gtb_of w1_216 rfl)⟩
theorem me_X2_save : sw_me yX2_save cX2_save 5 none 2 := ⟨(gtb_of w3_107 rfl), (gtb_of w1_7 rfl), ⟨by decide +kernel, by decide +kernel⟩, by decide +kernel, by decide⟩
theorem mv_X2_save : sw_mV yX2_save := ⟨(gtb_of w3_105 rfl), (gtb_of w3_106 rfl)⟩
theorem me_X2_load : sw_me yX2_load cX2_load 5 none 2 := ⟨(gtb_of w3_2 rfl), (gtb_of w1_7 rfl), ⟨by decide +kernel, by decide +kernel⟩, by decide +kernel, by decide⟩
theorem mv_X2_load : sw_mV yX2_load := ⟨(gtb_of w3_0 rfl), (gtb_of w3_1 rfl)⟩
theorem me_X2_isCut : sw_me yX2_isCut cX2_isCut 2 (some .boolean) 1 := ⟨(gtb_of w3_29 rfl), (gtb_of w1_7 rfl), ⟨by decide +kernel, by decide +kernel⟩, by decide +kernel, by decide⟩
theorem mv_X2_isCut : sw_mV yX2_isCut := ⟨(gtb_of w3_27 rfl), (gtb_of w3_28 rfl)⟩
theorem me_X2_isLive : sw_me yX2_isLive cX2_isLive 3 (some .boolean) 2 := ⟨(gtb_of w3_25 rfl), (gtb_of w1_7 rfl), ⟨by decide +kernel, by decide +kernel⟩, by decide +kernel, by decide⟩
theorem mv_X2_isLive : sw_mV yX2_isLive := ⟨(gtb_of w3_23 rfl), (gtb_of w3_24 rfl)⟩
theorem me_X2_liveBits : sw_me yX2_liveBits cX2_liveBits 4 (some .int) 1 := ⟨(gtb_of w5_70 rfl), (gtb_of w1_7 rfl), ⟨by decide +kernel, by decide +kernel⟩, by decide +kernel, by decide⟩
theorem mv_X2_liveBits : sw_mV yX2_liveBits := ⟨(gtb_of w5_68 rfl), (gtb_of w5_69 rfl)⟩
theorem me_X2_movedBits : sw_me yX2_movedBits cX2_movedBits 3 (some .int) 0 := ⟨(gtb_of w3_95 rfl), (gtb_of w1_7 rfl), ⟨by decide +kernel, by decide +kernel⟩, by decide +kernel, by decide⟩
theorem mv_X2_movedBits : sw_mV yX2_movedBits := ⟨(gtb_of w3_93 rfl), (gtb_of w3_94 rfl)⟩
theorem me_X2_hoursLeft : sw_me yX2_hoursLeft cX2_hoursLeft 2 (some .int) 1 := ⟨(gtb_of w3_49 rfl), (gtb_of w1_7 rfl), ⟨by decide +kernel, by decide +kernel⟩, by decide +kernel, by decide⟩
theorem mv_X2_hoursLeft : sw_mV yX2_hoursLeft := ⟨(gtb_of w3_47 rfl), (gtb_of w3_48 rfl)⟩
theorem me_X2_wireLiveAt : sw_me yX2_wireLiveAt cX2_wireLiveAt 3 (some .int) 1 := ⟨(gtb_of w5_199 rfl), (gtb_of w1_7 rfl), ⟨by decide +kernel, by decide +kernel⟩, by decide +kernel, by decide⟩
theorem mv_X2_wireLiveAt : sw_mV yX2_wireLiveAt := ⟨(gtb_of w5_197 rfl), (gtb_of w5_198 rfl)⟩
theorem me_X2_nextWire : sw_me yX2_nextWire cX2_nextWire 4 (some .int) 0 := ⟨(gtb_of w6_142 rfl), (gtb_of w1_7 rfl), ⟨by decide +kernel, by decide +kernel⟩, by decide +kernel, by decide⟩
theorem mv_X2_nextWire : sw_mV yX2_nextWire := ⟨(gtb_of w6_140 rfl), (gtb_of w6_141 rfl)⟩
theorem me_X2_graceBound : sw_me yX2_graceBound cX2_graceBound 4 (some .int) 2 := ⟨(gtb_of w6_127 rfl), (gtb_of w1_7 rfl), ⟨by decide +kernel, by decide +kernel⟩, by decide +kernel, by decide⟩
theorem mv_X2_graceBound : sw_mV yX2_graceBound := ⟨(gtb_of w6_125 rfl), (gtb_of w6_126 rfl)⟩
theorem me_X2_givenBy : sw_me yX2_givenBy cX2_givenBy 5 (some .int) 2 := ⟨(gtb_of w6_131 rfl), (gtb_of w1_7 rfl), ⟨by decide +kernel, by decide +kernel⟩, by decide +kernel, by decide⟩
theorem mv_X2_givenBy : sw_mV yX2_givenBy := ⟨(gtb_of w6_130 rfl), (gtb_sel (List.mem_of_getElem? (i := 37) rfl) rfl)⟩
theorem me_X2_placeOfThing : sw_me yX2_placeOfThing cX2_placeOfThing 3 (some .int) 1 := ⟨(gtb_of w5_143 rfl), (gtb_of w1_7 rfl), ⟨by decide +kernel, by decide +kernel⟩, by decide +kernel, by decide⟩
theorem mv_X2_placeOfThing : sw_mV yX2_placeOfThing := ⟨(gtb_of w5_141 rfl), (gtb_of w5_142 rfl)⟩
theorem me_X2_lyingBits : sw_me yX2_lyingBits cX2_lyingBits 4 (some .int) 1 := ⟨(gtb_of w4_233 rfl), (gtb_of w1_7 rfl), ⟨by decide +kernel, by decide +kernel⟩, by decide +kernel, by decide⟩
theorem mv_X2_lyingBits : sw_mV yX2_lyingBits := ⟨(gtb_of w4_231 rfl), (gtb_of w4_232 rfl)⟩
theorem me_X2_peopleBits : sw_me yX2_peopleBits cX2_peopleBits 4 (some .int) 1 := ⟨(gtb_of w5_110 rfl), (gtb_of w1_7 rfl), ⟨by decide +kernel, by decide +kernel⟩, by decide +kernel, by decide⟩
theorem mv_X2_peopleBits : sw_mV yX2_peopleBits := ⟨(gtb_of w5_108 rfl), (gtb_of w5_109 rfl)⟩
theorem me_X2_carriedBits : sw_me yX2_carriedBits cX2_carriedBits 3 (some .int) 0 := ⟨(gtb_of w5_74 rfl), (gtb_of w1_7 rfl), ⟨by decide +kernel, by decide +kernel⟩, by decide +kernel, by decide⟩
theorem mv_X2_carriedBits : sw_mV yX2_carriedBits := ⟨(gtb_of w5_72 rfl), (gtb_of w5_73 rfl)⟩
theorem me_X2_carriedBy : sw_me yX2_carriedBy cX2_carriedBy 4 (some .int) 1 := ⟨(gtb_of w5_159 rfl), (gtb_of w1_7 rfl), ⟨by decide +kernel, by decide +kernel⟩, by decide +kernel, by decide⟩
theorem mv_X2_carriedBy : sw_mV yX2_carriedBy := ⟨(gtb_of w5_157 rfl), (gtb_of w5_158 rfl)⟩
theorem me_X2_loadOf : sw_me yX2_loadOf cX2_loadOf 4 (some .int) 1 := ⟨(gtb_of w3_45 rfl), (gtb_of w1_7 rfl), ⟨by decide +kernel, by decide +kernel⟩, by decide +kernel, by decide⟩
theorem mv_X2_loadOf : sw_mV yX2_loadOf := ⟨(gtb_of w3_43 rfl), (gtb_of w3_44 rfl)⟩
theorem me_X2_freeOf : sw_me yX2_freeOf cX2_freeOf 2 (some .int) 1 := ⟨(gtb_of w5_0 rfl), (gtb_of w1_7 rfl), ⟨by decide +kernel, by decide +kernel⟩, by decide +kernel, by decide⟩
theorem mv_X2_freeOf : sw_mV yX2_freeOf := ⟨(gtb_of w4_238 rfl), (gtb_of w4_239 rfl)⟩
theorem me_X2_tiredTogether : sw_me yX2_tiredTogether cX2_tiredTogether 4 (some .int) 1 := ⟨(gtb_of w5_195 rfl), (gtb_of w1_7 rfl), ⟨by decide +kernel, by decide +kernel⟩, by decide +kernel, by decide⟩
theorem mv_X2_tiredTogether : sw_mV yX2_tiredTogether := ⟨(gtb_of w5_193 rfl), (gtb_of w5_194 rfl)⟩
theorem me_X2_bestHaul : sw_me yX2_bestHaul cX2_bestHaul 8 (some .int) 1 := ⟨(gtb_of w6_24 rfl), (gtb_of w1_7 rfl), ⟨by decide +kernel, by decide +kernel⟩, by decide +kernel, by decide⟩
theorem mv_X2_bestHaul : sw_mV yX2_bestHaul := ⟨(gtb_of w6_22 rfl), (gtb_of w6_23 rfl)⟩
theorem me_X2_tollOf : sw_me yX2_tollOf cX2_tollOf 4 (some .int) 2 := ⟨(gtb_of w3_41 rfl), (gtb_of w1_7 rfl), ⟨by decide +kernel, by decide +kernel⟩, by decide +kernel, by decide⟩
theorem mv_X2_tollOf : sw_mV yX2_tollOf := ⟨(gtb_of w3_39 rfl), (gtb_of w3_40 rfl)⟩
theorem me_X2_isOpenTo : sw_me yX2_isOpenTo cX2_isOpenTo 3 (some .boolean) 2 := ⟨(gtb_of w3_21 rfl), (gtb_of w1_7 rfl), ⟨by decide +kernel, by decide +kernel⟩, by decide +kernel, by decide⟩
theorem mv_X2_isOpenTo : sw_mV yX2_isOpenTo := ⟨(gtb_of w3_20 rfl), (gtb_sel (List.mem_of_getElem? (i := 1) rfl) rfl)⟩
theorem me_X2_canCross : sw_me yX2_canCross cX2_canCross 3 (some .boolean) 2 := ⟨(gtb_of w3_17 rfl), (gtb_of w1_7 rfl), ⟨by decide +kernel, by decide +kernel⟩, by decide +kernel, by decide⟩
theorem mv_X2_canCross : sw_mV yX2_canCross := ⟨(gtb_of w3_15 rfl), (gtb_of w3_16 rfl)⟩
theorem me_X2_canCrossAny : sw_me yX2_canCrossAny cX2_canCrossAny 3 (some .boolean) 1 := ⟨(gtb_of w3_13 rfl), (gtb_of w1_7 rfl), ⟨by decide +kernel, by decide +kernel⟩, by decide +kernel, by decide⟩
theorem mv_X2_canCrossAny : sw_mV yX2_canCrossAny := ⟨(gtb_of w3_11 rfl), (gtb_of w3_12 rfl)⟩
theorem me_X2_cross : sw_me yX2_cross cX2_cross 4 (some .boolean) 2 := ⟨(gtb_of w5_9 rfl), (gtb_of w1_7 rfl), ⟨by decide +kernel, by decide +kernel⟩, by decide +kernel, by decide⟩
theorem mv_X2_cross : sw_mV yX2_cross := ⟨(gtb_of w5_7 rfl), (gtb_of w5_8 rfl)⟩
theorem me_X2_lift : sw_me yX2_lift cX2_lift 4 (some .boolean) 2 := ⟨(gtb_of w4_229 rfl), (gtb_of w1_7 rfl), ⟨by decide +kernel, by decide +kernel⟩, by decide +kernel, by decide⟩
theorem mv_X2_lift : sw_mV yX2_lift := ⟨(gtb_of w4_227 rfl), (gtb_of w4_228 rfl)⟩
theorem me_X2_setDown : sw_me yX2_setDown cX2_setDown 3 (some .boolean) 2 := ⟨(gtb_of w5_5 rfl), (gtb_of w1_7 rfl), ⟨by decide +kernel, by decide +kernel⟩, by decide +kernel, by decide⟩
theorem mv_X2_setDown : sw_mV yX2_setDown := ⟨(gtb_of w5_3 rfl), (gtb_of w5_4 rfl)⟩
theorem me_X2_move : sw_me yX2_move cX2_move 4 (some .boolean) 2 := ⟨(gtb_of w5_13 rfl), (gtb_of w1_7 rfl), ⟨by decide +kernel, by decide +kernel⟩, by decide +kernel, by decide⟩
theorem mv_X2_move : sw_mV yX2_move := ⟨(gtb_of w5_11 rfl), (gtb_of w5_12 rfl)⟩
theorem me_X2_cut : sw_me yX2_cut cX2_cut 2 (some .boolean) 1 := ⟨(gtb_of w5_18 rfl), (gtb_of w1_7 rfl), ⟨by decide +kernel, by decide +kernel⟩, by decide +kernel, by decide⟩
theorem mv_X2_cut : sw_mV yX2_cut := ⟨(gtb_of w5_16 rfl), (gtb_of w5_17 rfl)⟩
theorem me_X2_hourStep : sw_me yX2_hourStep cX2_hourStep 1 (some .boolean) 0 := ⟨(gtb_of w5_22 rfl), (gtb_of w1_7 rfl), ⟨by decide +kernel, by decide +kernel⟩, by decide +kernel, by decide⟩
theorem mv_X2_hourStep : sw_mV yX2_hourStep := ⟨(gtb_of w5_20 rfl), (gtb_of w5_21 rfl)⟩
theorem me_X2_passHour : sw_me yX2_passHour cX2_passHour 2 none 0 := ⟨(gtb_of w5_26 rfl), (gtb_of w1_7 rfl), ⟨by decide +kernel, by decide +kernel⟩, by decide +kernel, by decide⟩
theorem mv_X2_passHour : sw_mV yX2_passHour := ⟨(gtb_of w5_24 rfl), (gtb_of w5_25 rfl)⟩
theorem me_X3_init : sw_me yX3_init cX3_init 3 none 2 := ⟨(gtb_of w2_117 rfl), (gtb_of w1_12 rfl), ⟨by decide +kernel, by decide +kernel⟩, by decide +kernel, by decide⟩
theorem mi_X3_init : Cond.instanceMethod yX3_init ∈ gtb := (gtb_of w2_116 rfl)
theorem me_X3_collect : sw_me yX3_collect cX3_collect 3 none 0 := ⟨(gtb_of w6_41 rfl), (gtb_of w1_12 rfl), ⟨by decide +kernel, by decide +kernel⟩, by decide +kernel, by decide⟩
theorem mv_X3_collect : sw_mV yX3_collect := ⟨(gtb_of w6_39 rfl), (gtb_of w6_40 rfl)⟩
theorem me_X3_agrees : sw_me yX3_agrees cX3_agrees 4 (some .boolean) 2 := ⟨(gtb_of w6_48 rfl), (gtb_of w1_12 rfl), ⟨by decide +kernel, by decide +kernel⟩, by decide +kernel, by decide⟩
theorem mv_X3_agrees : sw_mV yX3_agrees := ⟨(gtb_of w6_47 rfl), (gtb_sel (List.mem_of_getElem? (i := 33) rfl) rfl)⟩
theorem me_X3_lost : sw_me yX3_lost cX3_lost 6 (some .int) 3 := ⟨(gtb_of w6_52 rfl), (gtb_of w1_12 rfl), ⟨by decide +kernel, by decide +kernel⟩, by decide +kernel, by decide⟩
theorem mv_X3_lost : sw_mV yX3_lost := ⟨(gtb_of w6_51 rfl), (gtb_sel (List.mem_of_getElem? (i := 34) rfl) rfl)⟩
theorem me_X3_firstPair : sw_me yX3_firstPair cX3_firstPair 1 (some .int) 0 := ⟨(gtb_of w6_57 rfl), (gtb_of w1_12 rfl), ⟨by decide +kernel, by decide +kernel⟩, by decide +kernel, by decide⟩
theorem mv_X3_firstPair : sw_mV yX3_firstPair := ⟨(gtb_of w6_55 rfl), (gtb_of w6_56 rfl)⟩
theorem me_X3_chooseLook : sw_me yX3_chooseLook cX3_chooseLook 3 none 0 := ⟨(gtb_of w6_68 rfl), (gtb_of w1_12 rfl), ⟨by decide +kernel, by decide +kernel⟩, by decide +kernel, by decide⟩
theorem mv_X3_chooseLook : sw_mV yX3_chooseLook := ⟨(gtb_of w6_66 rfl), (gtb_of w6_67 rfl)⟩
theorem me_X3_worstAt : sw_me yX3_worstAt cX3_worstAt 4 (some .int) 1 := ⟨(gtb_of w6_73 rfl), (gtb_of w1_12 rfl), ⟨by decide +kernel, by decide +kernel⟩, by decide +kernel, by decide⟩
theorem mv_X3_worstAt : sw_mV yX3_worstAt := ⟨(gtb_of w6_72 rfl), (gtb_sel (List.mem_of_getElem? (i := 35) rfl) rfl)⟩
theorem me_X4_init : sw_me yX4_init cX4_init 1 none 0 := ⟨(gtb_of w1_81 rfl), (gtb_of w1_3 rfl), ⟨by decide +kernel, by decide +kernel⟩, by decide +kernel, by decide⟩
theorem mi_X4_init : Cond.instanceMethod yX4_init ∈ gtb := (gtb_of w1_80 rfl)
theorem me_X4_copy : sw_me yX4_copy cX4_copy 2 none 1 := ⟨(gtb_of w4_92 rfl), (gtb_of w1_3 rfl), ⟨by decide +kernel, by decide +kernel⟩, by decide +kernel, by decide⟩
theorem mv_X4_copy : sw_mV yX4_copy := ⟨(gtb_of w4_90 rfl), (gtb_of w4_91 rfl)⟩
theorem me_X4_wireBitsAt : sw_me yX4_wireBitsAt cX4_wireBitsAt 4 (some .int) 1 := ⟨(gtb_of w3_60 rfl), (gtb_of w1_3 rfl), ⟨by decide +kernel, by decide +kernel⟩, by decide +kernel, by decide⟩
theorem mv_X4_wireBitsAt : sw_mV yX4_wireBitsAt := ⟨(gtb_of w3_58 rfl), (gtb_of w3_59 rfl)⟩
theorem me_X4_wiresAt : sw_me yX4_wiresAt cX4_wiresAt 2 (some .int) 1 := ⟨(gtb_of w3_56 rfl), (gtb_of w1_3 rfl), ⟨by decide +kernel, by decide +kernel⟩, by decide +kernel, by decide⟩
theorem mv_X4_wiresAt : sw_mV yX4_wiresAt := ⟨(gtb_of w3_54 rfl), (gtb_of w3_55 rfl)⟩
theorem me_X4_across : sw_me yX4_across cX4_across 5 (some .int) 2 := ⟨(gtb_of w3_36 rfl), (gtb_of w1_3 rfl), ⟨by decide +kernel, by decide +kernel⟩, by decide +kernel, by decide⟩
theorem mv_X4_across : sw_mV yX4_across := ⟨(gtb_of w3_34 rfl), (gtb_of w3_35 rfl)⟩
theorem me_X4_weightOf : sw_me yX4_weightOf cX4_weightOf 4 (some .int) 1 := ⟨(gtb_of w6_28 rfl), (gtb_of w1_3 rfl), ⟨by decide +kernel, by decide +kernel⟩, by decide +kernel, by decide⟩
theorem mv_X4_weightOf : sw_mV yX4_weightOf := ⟨(gtb_of w6_26 rfl), (gtb_of w6_27 rfl)⟩
theorem me_X4_read : sw_me yX4_read cX4_read 3 (some .boolean) 1 := ⟨(gtb_of w3_222 rfl), (gtb_of w1_3 rfl), ⟨by decide +kernel, by decide +kernel⟩, by decide +kernel, by decide⟩
theorem mv_X4_read : sw_mV yX4_read := ⟨(gtb_of w3_220 rfl), (gtb_of w3_221 rfl)⟩
theorem me_X4_readClause : sw_me yX4_readClause cX4_readClause 3 (some .boolean) 2 := ⟨(gtb_of w3_226 rfl), (gtb_of w1_3 rfl), ⟨by decide +kernel, by decide +kernel⟩, by decide +kernel, by decide⟩
theorem mv_X4_readClause : sw_mV yX4_readClause := ⟨(gtb_of w3_225 rfl), (gtb_sel (List.mem_of_getElem? (i := 7) rfl) rfl)⟩
theorem me_X4_readFields : sw_me yX4_readFields cX4_readFields 3 (some .boolean) 1 := ⟨(gtb_of w4_52 rfl), (gtb_of w1_3 rfl), ⟨by decide +kernel, by decide +kernel⟩, by decide +kernel, by decide⟩
theorem mv_X4_readFields : sw_mV yX4_readFields := ⟨(gtb_of w4_51 rfl), (gtb_sel (List.mem_of_getElem? (i := 8) rfl) rfl)⟩
theorem me_X4_readWire : sw_me yX4_readWire cX4_readWire 5 (some .boolean) 1 := ⟨(gtb_of w4_62 rfl), (gtb_of w1_3 rfl), ⟨by decide +kernel, by decide +kernel⟩, by decide +kernel, by decide⟩
theorem mv_X4_readWire : sw_mV yX4_readWire := ⟨(gtb_of w4_61 rfl), (gtb_sel (List.mem_of_getElem? (i := 9) rfl) rfl)⟩
theorem me_X4_isWired : sw_me yX4_isWired cX4_isWired 4 (some .boolean) 2 := ⟨(gtb_of w4_66 rfl), (gtb_of w1_3 rfl), ⟨by decide +kernel, by decide +kernel⟩, by decide +kernel, by decide⟩
theorem mv_X4_isWired : sw_mV yX4_isWired := ⟨(gtb_of w4_65 rfl), (gtb_sel (List.mem_of_getElem? (i := 10) rfl) rfl)⟩
theorem me_X4_readThing : sw_me yX4_readThing cX4_readThing 4 (some .boolean) 1 := ⟨(gtb_of w4_74 rfl), (gtb_of w1_3 rfl), ⟨by decide +kernel, by decide +kernel⟩, by decide +kernel, by decide⟩
theorem mv_X4_readThing : sw_mV yX4_readThing := ⟨(gtb_of w4_73 rfl), (gtb_sel (List.mem_of_getElem? (i := 11) rfl) rfl)⟩
theorem me_X4_readPerson : sw_me yX4_readPerson cX4_readPerson 4 (some .boolean) 1 := ⟨(gtb_of w4_79 rfl), (gtb_of w1_3 rfl), ⟨by decide +kernel, by decide +kernel⟩, by decide +kernel, by decide⟩
theorem mv_X4_readPerson : sw_mV yX4_readPerson := ⟨(gtb_of w4_78 rfl), (gtb_sel (List.mem_of_getElem? (i := 12) rfl) rfl)⟩
theorem me_X4_readPliers : sw_me yX4_readPliers cX4_readPliers 3 (some .boolean) 1 := ⟨(gtb_of w4_84 rfl), (gtb_of w1_3 rfl), ⟨by decide +kernel, by decide +kernel⟩, by decide +kernel, by decide⟩
theorem mv_X4_readPliers : sw_mV yX4_readPliers := ⟨(gtb_of w4_83 rfl), (gtb_sel (List.mem_of_getElem? (i := 13) rfl) rfl)⟩
theorem me_X5_init : sw_me yX5_init cX5_init 1 none 0 := ⟨(gtb_of w1_153 rfl), (gtb_of w1_4 rfl), ⟨by decide +kernel, by decide +kernel⟩, by decide +kernel, by decide⟩
theorem mi_X5_init : Cond.instanceMethod yX5_init ∈ gtb := (gtb_of w1_152 rfl)
theorem me_X5_clear : sw_me yX5_clear cX5_clear 1 none 0 := ⟨(gtb_of w1_158 rfl), (gtb_of w1_4 rfl), ⟨by decide +kernel, by decide +kernel⟩, by decide +kernel, by decide⟩
theorem mv_X5_clear : sw_mV yX5_clear := ⟨(gtb_of w1_156 rfl), (gtb_of w1_157 rfl)⟩
theorem me_X5_copy : sw_me yX5_copy cX5_copy 2 none 1 := ⟨(gtb_of w4_153 rfl), (gtb_of w1_4 rfl), ⟨by decide +kernel, by decide +kernel⟩, by decide +kernel, by decide⟩
theorem mv_X5_copy : sw_mV yX5_copy := ⟨(gtb_of w4_151 rfl), (gtb_of w4_152 rfl)⟩
theorem me_X5_add : sw_me yX5_add cX5_add 3 (some .boolean) 2 := ⟨(gtb_of w1_162 rfl), (gtb_of w1_4 rfl), ⟨by decide +kernel, by decide +kernel⟩, by decide +kernel, by decide⟩
theorem mv_X5_add : sw_mV yX5_add := ⟨(gtb_of w1_161 rfl), (gtb_sel (List.mem_of_getElem? (i := 0) rfl) rfl)⟩
theorem me_X5_read : sw_me yX5_read cX5_read 2 (some .boolean) 1 := ⟨(gtb_of w4_115 rfl), (gtb_of w1_4 rfl), ⟨by decide +kernel, by decide +kernel⟩, by decide +kernel, by decide⟩
theorem mv_X5_read : sw_mV yX5_read := ⟨(gtb_of w4_113 rfl), (gtb_of w4_114 rfl)⟩
theorem me_X5_readSum : sw_me yX5_readSum cX5_readSum 5 (some .boolean) 2 := ⟨(gtb_of w4_119 rfl), (gtb_of w1_4 rfl), ⟨by decide +kernel, by decide +kernel⟩, by decide +kernel, by decide⟩
theorem mv_X5_readSum : sw_mV yX5_readSum := ⟨(gtb_of w4_118 rfl), (gtb_sel (List.mem_of_getElem? (i := 14) rfl) rfl)⟩
theorem me_X5_readProduct : sw_me yX5_readProduct cX5_readProduct 5 (some .boolean) 2 := ⟨(gtb_of w4_123 rfl), (gtb_of w1_4 rfl), ⟨by decide +kernel, by decide +kernel⟩, by decide +kernel, by decide⟩
theorem mv_X5_readProduct : sw_mV yX5_readProduct := ⟨(gtb_of w4_122 rfl), (gtb_sel (List.mem_of_getElem? (i := 15) rfl) rfl)⟩
theorem me_X5_readUnit : sw_me yX5_readUnit cX5_readUnit 4 (some .boolean) 2 := ⟨(gtb_of w4_127 rfl), (gtb_of w1_4 rfl), ⟨by decide +kernel, by decide +kernel⟩, by decide +kernel, by decide⟩
theorem mv_X5_readUnit : sw_mV yX5_readUnit := ⟨(gtb_of w4_126 rfl), (gtb_sel (List.mem_of_getElem? (i := 16) rfl) rfl)⟩
theorem me_X5_readChoice : sw_me yX5_readChoice cX5_readChoice 3 (some .boolean) 2 := ⟨(gtb_of w4_136 rfl), (gtb_of w1_4 rfl), ⟨by decide +kernel, by decide +kernel⟩, by decide +kernel, by decide⟩
theorem mv_X5_readChoice : sw_mV yX5_readChoice := ⟨(gtb_of w4_135 rfl), (gtb_sel (List.mem_of_getElem? (i := 17) rfl) rfl)⟩
theorem me_X5_nameHere : sw_me yX5_nameHere cX5_nameHere 1 (some .int) 1 := ⟨(gtb_of w4_140 rfl), (gtb_of w1_4 rfl), ⟨by decide +kernel, by decide +kernel⟩, by decide +kernel, by decide⟩
theorem ms_X5_nameHere : Cond.static yX5_nameHere ∈ gtb := (gtb_of w4_139 rfl)
theorem me_X5_setValues : sw_me yX5_setValues cX5_setValues 8 none 7 := ⟨(gtb_of w3_70 rfl), (gtb_of w1_4 rfl), ⟨by decide +kernel, by decide +kernel⟩, by decide +kernel, by decide⟩
theorem mv_X5_setValues : sw_mV yX5_setValues := ⟨(gtb_of w3_68 rfl), (gtb_of w3_69 rfl)⟩
theorem me_X5_reckon : sw_me yX5_reckon cX5_reckon 5 (some .int) 0 := ⟨(gtb_of w3_74 rfl), (gtb_of w1_4 rfl), ⟨by decide +kernel, by decide +kernel⟩, by decide +kernel, by decide⟩
theorem mv_X5_reckon : sw_mV yX5_reckon := ⟨(gtb_of w3_72 rfl), (gtb_of w3_73 rfl)⟩
theorem me_X5_push : sw_me yX5_push cX5_push 2 none 1 := ⟨(gtb_of w3_78 rfl), (gtb_of w1_4 rfl), ⟨by decide +kernel, by decide +kernel⟩, by decide +kernel, by decide⟩
theorem mv_X5_push : sw_mV yX5_push := ⟨(gtb_of w3_77 rfl), (gtb_sel (List.mem_of_getElem? (i := 2) rfl) rfl)⟩
theorem me_X5_pop : sw_me yX5_pop cX5_pop 1 (some .int) 0 := ⟨(gtb_of w3_83 rfl), (gtb_of w1_4 rfl), ⟨by decide +kernel, by decide +kernel⟩, by decide +kernel, by decide⟩
theorem mv_X5_pop : sw_mV yX5_pop := ⟨(gtb_of w3_82 rfl), (gtb_sel (List.mem_of_getElem? (i := 3) rfl) rfl)⟩
theorem me_X5_join : sw_me yX5_join cX5_join 3 (some .int) 3 := ⟨(gtb_of w3_86 rfl), (gtb_of w1_4 rfl), ⟨by decide +kernel, by decide +kernel⟩, by decide +kernel, by decide⟩
theorem ms_X5_join : Cond.static yX5_join ∈ gtb := (gtb_of w3_85 rfl)
theorem me_X6_init : sw_me yX6_init cX6_init 2 none 1 := ⟨(gtb_of w2_74 rfl), (gtb_of w1_10 rfl), ⟨by decide +kernel, by decide +kernel⟩, by decide +kernel, by decide⟩
theorem mi_X6_init : Cond.instanceMethod yX6_init ∈ gtb := (gtb_of w2_73 rfl)
theorem me_X6_clear : sw_me yX6_clear cX6_clear 1 none 0 := ⟨(gtb_of w4_103 rfl), (gtb_of w1_10 rfl), ⟨by decide +kernel, by decide +kernel⟩, by decide +kernel, by decide⟩
theorem mv_X6_clear : sw_mV yX6_clear := ⟨(gtb_of w4_101 rfl), (gtb_of w4_102 rfl)⟩
theorem me_X6_keep : sw_me yX6_keep cX6_keep 1 none 0 := ⟨(gtb_of w4_205 rfl), (gtb_of w1_10 rfl), ⟨by decide +kernel, by decide +kernel⟩, by decide +kernel, by decide⟩
theorem mv_X6_keep : sw_mV yX6_keep := ⟨(gtb_of w4_203 rfl), (gtb_of w4_204 rfl)⟩
theorem me_X6_back : sw_me yX6_back cX6_back 1 none 0 := ⟨(gtb_of w2_238 rfl), (gtb_of w1_10 rfl), ⟨by decide +kernel, by decide +kernel⟩, by decide +kernel, by decide⟩
theorem mv_X6_back : sw_mV yX6_back := ⟨(gtb_of w2_236 rfl), (gtb_of w2_237 rfl)⟩
theorem me_X6_keepImage : sw_me yX6_keepImage cX6_keepImage 2 none 0 := ⟨(gtb_of w3_103 rfl), (gtb_of w1_10 rfl), ⟨by decide +kernel, by decide +kernel⟩, by decide +kernel, by decide⟩
theorem mv_X6_keepImage : sw_mV yX6_keepImage := ⟨(gtb_of w3_101 rfl), (gtb_of w3_102 rfl)⟩
theorem me_X6_bringImage : sw_me yX6_bringImage cX6_bringImage 2 none 0 := ⟨(gtb_of w3_116 rfl), (gtb_of w1_10 rfl), ⟨by decide +kernel, by decide +kernel⟩, by decide +kernel, by decide⟩
theorem mv_X6_bringImage : sw_mV yX6_bringImage := ⟨(gtb_of w3_114 rfl), (gtb_of w3_115 rfl)⟩
theorem me_X7_init : sw_me yX7_init cX7_init 1 none 0 := ⟨(gtb_of w1_37 rfl), (gtb_of w1_2 rfl), ⟨by decide +kernel, by decide +kernel⟩, by decide +kernel, by decide⟩
theorem mi_X7_init : Cond.instanceMethod yX7_init ∈ gtb := (gtb_of w1_36 rfl)
theorem me_X7_hasRoom : sw_me yX7_hasRoom cX7_hasRoom 1 (some .boolean) 0 := ⟨(gtb_of w2_222 rfl), (gtb_of w1_2 rfl), ⟨by decide +kernel, by decide +kernel⟩, by decide +kernel, by decide⟩
theorem mv_X7_hasRoom : sw_mV yX7_hasRoom := ⟨(gtb_of w2_220 rfl), (gtb_of w2_221 rfl)⟩
theorem me_X7_add : sw_me yX7_add cX7_add 3 none 1 := ⟨(gtb_of w2_226 rfl), (gtb_of w1_2 rfl), ⟨by decide +kernel, by decide +kernel⟩, by decide +kernel, by decide⟩
theorem mv_X7_add : sw_mV yX7_add := ⟨(gtb_of w2_224 rfl), (gtb_of w2_225 rfl)⟩
theorem me_X7_drop : sw_me yX7_drop cX7_drop 1 none 0 := ⟨(gtb_of w3_212 rfl), (gtb_of w1_2 rfl), ⟨by decide +kernel, by decide +kernel⟩, by decide +kernel, by decide⟩
theorem mv_X7_drop : sw_mV yX7_drop := ⟨(gtb_of w3_210 rfl), (gtb_of w3_211 rfl)⟩
theorem me_X7_open : sw_me yX7_open cX7_open 2 none 1 := ⟨(gtb_of w3_208 rfl), (gtb_of w1_2 rfl), ⟨by decide +kernel, by decide +kernel⟩, by decide +kernel, by decide⟩
theorem mv_X7_open : sw_mV yX7_open := ⟨(gtb_of w3_206 rfl), (gtb_of w3_207 rfl)⟩
theorem me_X7_advance : sw_me yX7_advance cX7_advance 1 none 0 := ⟨(gtb_of w3_217 rfl), (gtb_of w1_2 rfl), ⟨by decide +kernel, by decide +kernel⟩, by decide +kernel, by decide⟩
theorem mv_X7_advance : sw_mV yX7_advance := ⟨(gtb_of w3_215 rfl), (gtb_of w3_216 rfl)⟩
theorem me_X7_isWord : sw_me yX7_isWord cX7_isWord 3 (some .boolean) 1 := ⟨(gtb_of w3_231 rfl), (gtb_of w1_2 rfl), ⟨by decide +kernel, by decide +kernel⟩, by decide +kernel, by decide⟩
theorem mv_X7_isWord : sw_mV yX7_isWord := ⟨(gtb_of w3_229 rfl), (gtb_of w3_230 rfl)⟩
theorem me_X7_fail : sw_me yX7_fail cX7_fail 2 (some .boolean) 1 := ⟨(gtb_of w4_48 rfl), (gtb_of w1_2 rfl), ⟨by decide +kernel, by decide +kernel⟩, by decide +kernel, by decide⟩
theorem mv_X7_fail : sw_mV yX7_fail := ⟨(gtb_of w4_46 rfl), (gtb_of w4_47 rfl)⟩
theorem me_X7_takeSign : sw_me yX7_takeSign cX7_takeSign 2 (some .boolean) 1 := ⟨(gtb_of w4_88 rfl), (gtb_of w1_2 rfl), ⟨by decide +kernel, by decide +kernel⟩, by decide +kernel, by decide⟩
theorem mv_X7_takeSign : sw_mV yX7_takeSign := ⟨(gtb_of w4_86 rfl), (gtb_of w4_87 rfl)⟩
theorem me_X7_takeUnless : sw_me yX7_takeUnless cX7_takeUnless 2 (some .boolean) 1 := ⟨(gtb_of w4_44 rfl), (gtb_of w1_2 rfl), ⟨by decide +kernel, by decide +kernel⟩, by decide +kernel, by decide⟩
theorem mv_X7_takeUnless : sw_mV yX7_takeUnless := ⟨(gtb_of w4_42 rfl), (gtb_of w4_43 rfl)⟩
theorem me_X7_takeNumber : sw_me yX7_takeNumber cX7_takeNumber 4 (some .int) 2 := ⟨(gtb_of w4_56 rfl), (gtb_of w1_2 rfl), ⟨by decide +kernel, by decide +kernel⟩, by decide +kernel, by decide⟩
theorem mv_X7_takeNumber : sw_mV yX7_takeNumber := ⟨(gtb_of w4_54 rfl), (gtb_of w4_55 rfl)⟩
theorem me_X8_init : sw_me yX8_init cX8_init 2 none 1 := ⟨(gtb_of w2_101 rfl), (gtb_of w1_11 rfl), ⟨by decide +kernel, by decide +kernel⟩, by decide +kernel, by decide⟩
theorem mi_X8_init : Cond.instanceMethod yX8_init ∈ gtb := (gtb_of w2_100 rfl)
theorem me_X8_spread : sw_me yX8_spread cX8_spread 6 (some .int) 3 := ⟨(gtb_of w5_115 rfl), (gtb_of w1_11 rfl), ⟨by decide +kernel, by decide +kernel⟩, by decide +kernel, by decide⟩
theorem mv_X8_spread : sw_mV yX8_spread := ⟨(gtb_of w5_113 rfl), (gtb_of w5_114 rfl)⟩
theorem me_X8_hoursTo : sw_me yX8_hoursTo cX8_hoursTo 7 (some .int) 4 := ⟨(gtb_of w5_210 rfl), (gtb_of w1_11 rfl), ⟨by decide +kernel, by decide +kernel⟩, by decide +kernel, by decide⟩
theorem mv_X8_hoursTo : sw_mV yX8_hoursTo := ⟨(gtb_of w5_208 rfl), (gtb_of w5_209 rfl)⟩
theorem me_X8_fieldsWithin : sw_me yX8_fieldsWithin cX8_fieldsWithin 5 (some .int) 2 := ⟨(gtb_of w6_168 rfl), (gtb_of w1_11 rfl), ⟨by decide +kernel, by decide +kernel⟩, by decide +kernel, by decide⟩
theorem mv_X8_fieldsWithin : sw_mV yX8_fieldsWithin := ⟨(gtb_of w6_166 rfl), (gtb_of w6_167 rfl)⟩
theorem me_X8_longestWait : sw_me yX8_longestWait cX8_longestWait 5 (some .int) 2 := ⟨(gtb_of w5_222 rfl), (gtb_of w1_11 rfl), ⟨by decide +kernel, by decide +kernel⟩, by decide +kernel, by decide⟩
theorem mv_X8_longestWait : sw_mV yX8_longestWait := ⟨(gtb_of w5_220 rfl), (gtb_of w5_221 rfl)⟩
theorem me_X8_leastGrant : sw_me yX8_leastGrant cX8_leastGrant 5 (some .int) 2 := ⟨(gtb_of w5_234 rfl), (gtb_of w1_11 rfl), ⟨by decide +kernel, by decide +kernel⟩, by decide +kernel, by decide⟩
theorem mv_X8_leastGrant : sw_mV yX8_leastGrant := ⟨(gtb_of w5_232 rfl), (gtb_of w5_233 rfl)⟩
theorem me_X8_setsOfFields : sw_me yX8_setsOfFields cX8_setsOfFields 5 (some .int) 1 := ⟨(gtb_of w6_85 rfl), (gtb_of w1_11 rfl), ⟨by decide +kernel, by decide +kernel⟩, by decide +kernel, by decide⟩
theorem mv_X8_setsOfFields : sw_mV yX8_setsOfFields := ⟨(gtb_of w6_83 rfl), (gtb_of w6_84 rfl)⟩
theorem me_X8_setAround : sw_me yX8_setAround cX8_setAround 5 (some .int) 2 := ⟨(gtb_of w6_89 rfl), (gtb_of w1_11 rfl), ⟨by decide +kernel, by decide +kernel⟩, by decide +kernel, by decide⟩
theorem mv_X8_setAround : sw_mV yX8_setAround := ⟨(gtb_of w6_88 rfl), (gtb_sel (List.mem_of_getElem? (i := 36) rfl) rfl)⟩
theorem me_X8_fewestCuts : sw_me yX8_fewestCuts cX8_fewestCuts 6 (some .int) 2 := ⟨(gtb_of w6_5 rfl), (gtb_of w1_11 rfl), ⟨by decide +kernel, by decide +kernel⟩, by decide +kernel, by decide⟩
theorem mv_X8_fewestCuts : sw_mV yX8_fewestCuts := ⟨(gtb_of w6_3 rfl), (gtb_of w6_4 rfl)⟩
theorem me_X8_cheapen : sw_me yX8_cheapen cX8_cheapen 4 none 3 := ⟨(gtb_of w6_10 rfl), (gtb_of w1_11 rfl), ⟨by decide +kernel, by decide +kernel⟩, by decide +kernel, by decide⟩
theorem mv_X8_cheapen : sw_mV yX8_cheapen := ⟨(gtb_of w6_9 rfl), (gtb_sel (List.mem_of_getElem? (i := 32) rfl) rfl)⟩
theorem me_X9_init : sw_me yX9_init cX9_init 2 none 1 := ⟨(gtb_of w2_38 rfl), (gtb_of w1_9 rfl), ⟨by decide +kernel, by decide +kernel⟩, by decide +kernel, by decide⟩
theorem mi_X9_init : Cond.instanceMethod yX9_init ∈ gtb := (gtb_of w2_37 rfl)
theorem me_X9_read : sw_me yX9_read cX9_read 2 (some .boolean) 1 := ⟨(gtb_of w4_166 rfl), (gtb_of w1_9 rfl), ⟨by decide +kernel, by decide +kernel⟩, by decide +kernel, by decide⟩
theorem mv_X9_read : sw_mV yX9_read := ⟨(gtb_of w4_164 rfl), (gtb_of w4_165 rfl)⟩
theorem me_X9_readSteps : sw_me yX9_readSteps cX9_readSteps 4 (some .boolean) 2 := ⟨(gtb_of w4_170 rfl), (gtb_of w1_9 rfl), ⟨by decide +kernel, by decide +kernel⟩, by decide +kernel, by decide⟩
theorem mv_X9_readSteps : sw_mV yX9_readSteps := ⟨(gtb_of w4_169 rfl), (gtb_sel (List.mem_of_getElem? (i := 18) rfl) rfl)⟩
theorem me_X9_readStep : sw_me yX9_readStep cX9_readStep 4 (some .boolean) 2 := ⟨(gtb_of w4_174 rfl), (gtb_of w1_9 rfl), ⟨by decide +kernel, by decide +kernel⟩, by decide +kernel, by decide⟩
theorem mv_X9_readStep : sw_mV yX9_readStep := ⟨(gtb_of w4_173 rfl), (gtb_sel (List.mem_of_getElem? (i := 19) rfl) rfl)⟩
theorem me_X9_readTwo : sw_me yX9_readTwo cX9_readTwo 8 (some .boolean) 5 := ⟨(gtb_of w4_180 rfl), (gtb_of w1_9 rfl), ⟨by decide +kernel, by decide +kernel⟩, by decide +kernel, by decide⟩
theorem mv_X9_readTwo : sw_mV yX9_readTwo := ⟨(gtb_of w4_179 rfl), (gtb_sel (List.mem_of_getElem? (i := 20) rfl) rfl)⟩
theorem me_X9_readAgain : sw_me yX9_readAgain cX9_readAgain 5 (some .boolean) 2 := ⟨(gtb_of w4_198 rfl), (gtb_of w1_9 rfl), ⟨by decide +kernel, by decide +kernel⟩, by decide +kernel, by decide⟩
theorem mv_X9_readAgain : sw_mV yX9_readAgain := ⟨(gtb_of w4_197 rfl), (gtb_sel (List.mem_of_getElem? (i := 22) rfl) rfl)⟩
theorem me_X9_add : sw_me yX9_add cX9_add 4 (some .boolean) 3 := ⟨(gtb_of w4_186 rfl), (gtb_of w1_9 rfl), ⟨by decide +kernel, by decide +kernel⟩, by decide +kernel, by decide⟩
theorem mv_X9_add : sw_mV yX9_add := ⟨(gtb_of w4_185 rfl), (gtb_sel (List.mem_of_getElem? (i := 21) rfl) rfl)⟩
theorem me_X9_run : sw_me yX9_run cX9_run 1 none 0 := ⟨(gtb_of w4_209 rfl), (gtb_of w1_9 rfl), ⟨by decide +kernel, by decide +kernel⟩, by decide +kernel, by decide⟩
theorem mv_X9_run : sw_mV yX9_run := ⟨(gtb_of w4_207 rfl), (gtb_of w4_208 rfl)⟩
theorem me_X9_runSteps : sw_me yX9_runSteps cX9_runSteps 6 none 3 := ⟨(gtb_of w4_213 rfl), (gtb_of w1_9 rfl), ⟨by decide +kernel, by decide +kernel⟩, by decide +kernel, by decide⟩
theorem mv_X9_runSteps : sw_mV yX9_runSteps := ⟨(gtb_of w4_212 rfl), (gtb_sel (List.mem_of_getElem? (i := 23) rfl) rfl)⟩
theorem me_X9_runAgain : sw_me yX9_runAgain cX9_runAgain 6 none 3 := ⟨(gtb_of w4_221 rfl), (gtb_of w1_9 rfl), ⟨by decide +kernel, by decide +kernel⟩, by decide +kernel, by decide⟩
theorem mv_X9_runAgain : sw_mV yX9_runAgain := ⟨(gtb_of w4_220 rfl), (gtb_sel (List.mem_of_getElem? (i := 24) rfl) rfl)⟩
theorem me_X9_runStep : sw_me yX9_runStep cX9_runStep 4 (some .boolean) 1 := ⟨(gtb_of w4_225 rfl), (gtb_of w1_9 rfl), ⟨by decide +kernel, by decide +kernel⟩, by decide +kernel, by decide⟩
theorem mv_X9_runStep : sw_mV yX9_runStep := ⟨(gtb_of w4_224 rfl), (gtb_sel (List.mem_of_getElem? (i := 25) rfl) rfl)⟩
theorem me_X10_init : sw_me yX10_init cX10_init 1 none 0 := ⟨(gtb_of w1_29 rfl), (gtb_of w1_1 rfl), ⟨by decide +kernel, by decide +kernel⟩, by decide +kernel, by decide⟩
theorem mi_X10_init : Cond.instanceMethod yX10_init ∈ gtb := (gtb_of w1_28 rfl)
theorem me_X10_feed : sw_me yX10_feed cX10_feed 6 (some .int) 5 := ⟨(gtb_of w2_218 rfl), (gtb_of w1_1 rfl), ⟨by decide +kernel, by decide +kernel⟩, by decide +kernel, by decide⟩
theorem mv_X10_feed : sw_mV yX10_feed := ⟨(gtb_of w2_216 rfl), (gtb_of w2_217 rfl)⟩
theorem me_X10_country : sw_me yX10_country cX10_country 2 (some .int) 1 := ⟨(gtb_of w3_132 rfl), (gtb_of w1_1 rfl), ⟨by decide +kernel, by decide +kernel⟩, by decide +kernel, by decide⟩
theorem mv_X10_country : sw_mV yX10_country := ⟨(gtb_of w3_130 rfl), (gtb_of w3_131 rfl)⟩
theorem me_X10_law : sw_me yX10_law cX10_law 2 (some .int) 1 := ⟨(gtb_of w4_111 rfl), (gtb_of w1_1 rfl), ⟨by decide +kernel, by decide +kernel⟩, by decide +kernel, by decide⟩
theorem mv_X10_law : sw_mV yX10_law := ⟨(gtb_of w4_109 rfl), (gtb_of w4_110 rfl)⟩
theorem me_X10_work : sw_me yX10_work cX10_work 2 (some .int) 1 := ⟨(gtb_of w4_161 rfl), (gtb_of w1_1 rfl), ⟨by decide +kernel, by decide +kernel⟩, by decide +kernel, by decide⟩
theorem mv_X10_work : sw_mV yX10_work := ⟨(gtb_of w4_159 rfl), (gtb_of w4_160 rfl)⟩
theorem me_X10_book : sw_me yX10_book cX10_book 2 (some .int) 1 := ⟨(gtb_of w5_34 rfl), (gtb_of w1_1 rfl), ⟨by decide +kernel, by decide +kernel⟩, by decide +kernel, by decide⟩
theorem mv_X10_book : sw_mV yX10_book := ⟨(gtb_of w5_32 rfl), (gtb_of w5_33 rfl)⟩
theorem me_X10_fault : sw_me yX10_fault cX10_fault 1 (some .int) 0 := ⟨(gtb_of w2_230 rfl), (gtb_of w1_1 rfl), ⟨by decide +kernel, by decide +kernel⟩, by decide +kernel, by decide⟩
theorem mv_X10_fault : sw_mV yX10_fault := ⟨(gtb_of w2_228 rfl), (gtb_of w2_229 rfl)⟩
theorem me_X10_undo : sw_me yX10_undo cX10_undo 1 (some .int) 0 := ⟨(gtb_of w2_234 rfl), (gtb_of w1_1 rfl), ⟨by decide +kernel, by decide +kernel⟩, by decide +kernel, by decide⟩
theorem mv_X10_undo : sw_mV yX10_undo := ⟨(gtb_of w2_232 rfl), (gtb_of w2_233 rfl)⟩
theorem me_X10_told : sw_me yX10_told cX10_told 2 (some .int) 1 := ⟨(gtb_of w5_62 rfl), (gtb_of w1_1 rfl), ⟨by decide +kernel, by decide +kernel⟩, by decide +kernel, by decide⟩
theorem mv_X10_told : sw_mV yX10_told := ⟨(gtb_of w5_60 rfl), (gtb_of w5_61 rfl)⟩
theorem me_X10_field : sw_me yX10_field cX10_field 3 (some .int) 2 := ⟨(gtb_of w5_82 rfl), (gtb_of w1_1 rfl), ⟨by decide +kernel, by decide +kernel⟩, by decide +kernel, by decide⟩
theorem mv_X10_field : sw_mV yX10_field := ⟨(gtb_of w5_80 rfl), (gtb_of w5_81 rfl)⟩
theorem me_X10_wire : sw_me yX10_wire cX10_wire 3 (some .int) 2 := ⟨(gtb_of w5_124 rfl), (gtb_of w1_1 rfl), ⟨by decide +kernel, by decide +kernel⟩, by decide +kernel, by decide⟩
theorem mv_X10_wire : sw_mV yX10_wire := ⟨(gtb_of w5_122 rfl), (gtb_of w5_123 rfl)⟩
theorem me_X10_thing : sw_me yX10_thing cX10_thing 3 (some .int) 2 := ⟨(gtb_of w5_139 rfl), (gtb_of w1_1 rfl), ⟨by decide +kernel, by decide +kernel⟩, by decide +kernel, by decide⟩
theorem mv_X10_thing : sw_mV yX10_thing := ⟨(gtb_of w5_137 rfl), (gtb_of w5_138 rfl)⟩
theorem me_X10_person : sw_me yX10_person cX10_person 3 (some .int) 2 := ⟨(gtb_of w5_150 rfl), (gtb_of w1_1 rfl), ⟨by decide +kernel, by decide +kernel⟩, by decide +kernel, by decide⟩
theorem mv_X10_person : sw_mV yX10_person := ⟨(gtb_of w5_148 rfl), (gtb_of w5_149 rfl)⟩
theorem me_X10_toll : sw_me yX10_toll cX10_toll 3 (some .int) 2 := ⟨(gtb_of w5_166 rfl), (gtb_of w1_1 rfl), ⟨by decide +kernel, by decide +kernel⟩, by decide +kernel, by decide⟩
theorem mv_X10_toll : sw_mV yX10_toll := ⟨(gtb_of w5_164 rfl), (gtb_of w5_165 rfl)⟩
theorem me_X10_would : sw_me yX10_would cX10_would 8 (some .int) 7 := ⟨(gtb_of w5_174 rfl), (gtb_of w1_1 rfl), ⟨by decide +kernel, by decide +kernel⟩, by decide +kernel, by decide⟩
theorem mv_X10_would : sw_mV yX10_would := ⟨(gtb_of w5_172 rfl), (gtb_of w5_173 rfl)⟩
theorem me_X10_can : sw_me yX10_can cX10_can 3 (some .boolean) 2 := ⟨(gtb_of w5_183 rfl), (gtb_of w1_1 rfl), ⟨by decide +kernel, by decide +kernel⟩, by decide +kernel, by decide⟩
theorem mv_X10_can : sw_mV yX10_can := ⟨(gtb_of w5_181 rfl), (gtb_of w5_182 rfl)⟩
theorem me_X10_ahead : sw_me yX10_ahead cX10_ahead 3 (some .int) 2 := ⟨(gtb_of w5_191 rfl), (gtb_of w1_1 rfl), ⟨by decide +kernel, by decide +kernel⟩, by decide +kernel, by decide⟩
theorem mv_X10_ahead : sw_mV yX10_ahead := ⟨(gtb_of w5_189 rfl), (gtb_of w5_190 rfl)⟩
theorem me_X10_arrives : sw_me yX10_arrives cX10_arrives 3 (some .int) 2 := ⟨(gtb_of w5_206 rfl), (gtb_of w1_1 rfl), ⟨by decide +kernel, by decide +kernel⟩, by decide +kernel, by decide⟩
theorem mv_X10_arrives : sw_mV yX10_arrives := ⟨(gtb_of w5_204 rfl), (gtb_of w5_205 rfl)⟩
theorem me_X10_waits : sw_me yX10_waits cX10_waits 3 (some .int) 2 := ⟨(gtb_of w5_218 rfl), (gtb_of w1_1 rfl), ⟨by decide +kernel, by decide +kernel⟩, by decide +kernel, by decide⟩
theorem mv_X10_waits : sw_mV yX10_waits := ⟨(gtb_of w5_216 rfl), (gtb_of w5_217 rfl)⟩
theorem me_X10_grant : sw_me yX10_grant cX10_grant 3 (some .int) 2 := ⟨(gtb_of w5_230 rfl), (gtb_of w1_1 rfl), ⟨by decide +kernel, by decide +kernel⟩, by decide +kernel, by decide⟩
theorem mv_X10_grant : sw_mV yX10_grant := ⟨(gtb_of w5_228 rfl), (gtb_of w5_229 rfl)⟩
theorem me_X10_pliers : sw_me yX10_pliers cX10_pliers 3 (some .int) 2 := ⟨(gtb_of w6_1 rfl), (gtb_of w1_1 rfl), ⟨by decide +kernel, by decide +kernel⟩, by decide +kernel, by decide⟩
theorem mv_X10_pliers : sw_mV yX10_pliers := ⟨(gtb_of w5_239 rfl), (gtb_of w6_0 rfl)⟩
theorem me_X10_haul : sw_me yX10_haul cX10_haul 4 (some .int) 2 := ⟨(gtb_of w6_20 rfl), (gtb_of w1_1 rfl), ⟨by decide +kernel, by decide +kernel⟩, by decide +kernel, by decide⟩
theorem mv_X10_haul : sw_mV yX10_haul := ⟨(gtb_of w6_18 rfl), (gtb_of w6_19 rfl)⟩
theorem me_X10_fits : sw_me yX10_fits cX10_fits 2 (some .int) 1 := ⟨(gtb_of w6_37 rfl), (gtb_of w1_1 rfl), ⟨by decide +kernel, by decide +kernel⟩, by decide +kernel, by decide⟩
theorem mv_X10_fits : sw_mV yX10_fits := ⟨(gtb_of w6_35 rfl), (gtb_of w6_36 rfl)⟩
theorem me_X10_look : sw_me yX10_look cX10_look 2 (some .int) 1 := ⟨(gtb_of w6_64 rfl), (gtb_of w1_1 rfl), ⟨by decide +kernel, by decide +kernel⟩, by decide +kernel, by decide⟩
theorem mv_X10_look : sw_mV yX10_look := ⟨(gtb_of w6_62 rfl), (gtb_of w6_63 rfl)⟩
theorem me_X10_parts : sw_me yX10_parts cX10_parts 2 (some .int) 1 := ⟨(gtb_of w6_81 rfl), (gtb_of w1_1 rfl), ⟨by decide +kernel, by decide +kernel⟩, by decide +kernel, by decide⟩
theorem mv_X10_parts : sw_mV yX10_parts := ⟨(gtb_of w6_79 rfl), (gtb_of w6_80 rfl)⟩
theorem me_X10_tingle : sw_me yX10_tingle cX10_tingle 10 (some .long) 3 := ⟨(gtb_of w6_96 rfl), (gtb_of w1_1 rfl), ⟨by decide +kernel, by decide +kernel⟩, by decide +kernel, by decide⟩
theorem mv_X10_tingle : sw_mV yX10_tingle := ⟨(gtb_of w6_94 rfl), (gtb_of w6_95 rfl)⟩
theorem me_X10_lean : sw_me yX10_lean cX10_lean 10 (some .int) 3 := ⟨(gtb_of w6_109 rfl), (gtb_of w1_1 rfl), ⟨by decide +kernel, by decide +kernel⟩, by decide +kernel, by decide⟩
theorem mv_X10_lean : sw_mV yX10_lean := ⟨(gtb_of w6_107 rfl), (gtb_of w6_108 rfl)⟩
theorem me_X10_grace : sw_me yX10_grace cX10_grace 4 (some .int) 3 := ⟨(gtb_of w6_122 rfl), (gtb_of w1_1 rfl), ⟨by decide +kernel, by decide +kernel⟩, by decide +kernel, by decide⟩
theorem mv_X10_grace : sw_mV yX10_grace := ⟨(gtb_of w6_120 rfl), (gtb_of w6_121 rfl)⟩
theorem me_X10_next : sw_me yX10_next cX10_next 3 (some .int) 1 := ⟨(gtb_of w6_138 rfl), (gtb_of w1_1 rfl), ⟨by decide +kernel, by decide +kernel⟩, by decide +kernel, by decide⟩
theorem mv_X10_next : sw_mV yX10_next := ⟨(gtb_of w6_136 rfl), (gtb_of w6_137 rfl)⟩
theorem me_X10_harp : sw_me yX10_harp cX10_harp 6 (some .int) 1 := ⟨(gtb_of w6_149 rfl), (gtb_of w1_1 rfl), ⟨by decide +kernel, by decide +kernel⟩, by decide +kernel, by decide⟩
theorem mv_X10_harp : sw_mV yX10_harp := ⟨(gtb_of w6_147 rfl), (gtb_of w6_148 rfl)⟩
theorem me_X10_stuck : sw_me yX10_stuck cX10_stuck 3 (some .int) 0 := ⟨(gtb_of w3_9 rfl), (gtb_of w1_1 rfl), ⟨by decide +kernel, by decide +kernel⟩, by decide +kernel, by decide⟩
theorem mv_X10_stuck : sw_mV yX10_stuck := ⟨(gtb_of w3_7 rfl), (gtb_of w3_8 rfl)⟩
theorem me_X10_moved : sw_me yX10_moved cX10_moved 1 (some .int) 0 := ⟨(gtb_of w3_91 rfl), (gtb_of w1_1 rfl), ⟨by decide +kernel, by decide +kernel⟩, by decide +kernel, by decide⟩
theorem mv_X10_moved : sw_mV yX10_moved := ⟨(gtb_of w3_89 rfl), (gtb_of w3_90 rfl)⟩
theorem me_X10_gates : sw_me yX10_gates cX10_gates 5 (some .int) 2 := ⟨(gtb_of w6_156 rfl), (gtb_of w1_1 rfl), ⟨by decide +kernel, by decide +kernel⟩, by decide +kernel, by decide⟩
theorem mv_X10_gates : sw_mV yX10_gates := ⟨(gtb_of w6_154 rfl), (gtb_of w6_155 rfl)⟩
theorem me_X10_ground : sw_me yX10_ground cX10_ground 3 (some .int) 2 := ⟨(gtb_of w6_164 rfl), (gtb_of w1_1 rfl), ⟨by decide +kernel, by decide +kernel⟩, by decide +kernel, by decide⟩
theorem mv_X10_ground : sw_mV yX10_ground := ⟨(gtb_of w6_162 rfl), (gtb_of w6_163 rfl)⟩
theorem me_X10_freest : sw_me yX10_freest cX10_freest 6 (some .int) 1 := ⟨(gtb_of w6_175 rfl), (gtb_of w1_1 rfl), ⟨by decide +kernel, by decide +kernel⟩, by decide +kernel, by decide⟩
theorem mv_X10_freest : sw_mV yX10_freest := ⟨(gtb_of w6_173 rfl), (gtb_of w6_174 rfl)⟩
theorem me_X10_autumn : sw_me yX10_autumn cX10_autumn 5 (some .int) 4 := ⟨(gtb_of w6_183 rfl), (gtb_of w1_1 rfl), ⟨by decide +kernel, by decide +kernel⟩, by decide +kernel, by decide⟩
theorem mv_X10_autumn : sw_mV yX10_autumn := ⟨(gtb_of w6_181 rfl), (gtb_of w6_182 rfl)⟩
theorem me_X10_span : sw_me yX10_span cX10_span 12 (some .int) 6 := ⟨(gtb_of w6_213 rfl), (gtb_of w1_1 rfl), ⟨by decide +kernel, by decide +kernel⟩, by decide +kernel, by decide⟩
theorem mv_X10_span : sw_mV yX10_span := ⟨(gtb_of w6_211 rfl), (gtb_of w6_212 rfl)⟩
theorem me_X10_image : sw_me yX10_image cX10_image 1 (some .int) 0 := ⟨(gtb_of w3_99 rfl), (gtb_of w1_1 rfl), ⟨by decide +kernel, by decide +kernel⟩, by decide +kernel, by decide⟩
theorem mv_X10_image : sw_mV yX10_image := ⟨(gtb_of w3_97 rfl), (gtb_of w3_98 rfl)⟩
theorem me_X10_restore : sw_me yX10_restore cX10_restore 1 (some .int) 0 := ⟨(gtb_of w3_112 rfl), (gtb_of w1_1 rfl), ⟨by decide +kernel, by decide +kernel⟩, by decide +kernel, by decide⟩
theorem mv_X10_restore : sw_mV yX10_restore := ⟨(gtb_of w3_110 rfl), (gtb_of w3_111 rfl)⟩
theorem me_X10_status : sw_me yX10_status cX10_status 2 (some .int) 1 := ⟨(gtb_of w3_120 rfl), (gtb_of w1_1 rfl), ⟨by decide +kernel, by decide +kernel⟩, by decide +kernel, by decide⟩
theorem mv_X10_status : sw_mV yX10_status := ⟨(gtb_of w3_118 rfl), (gtb_of w3_119 rfl)⟩
theorem me_X10_count : sw_me yX10_count cX10_count 2 (some .int) 1 := ⟨(gtb_of w3_124 rfl), (gtb_of w1_1 rfl), ⟨by decide +kernel, by decide +kernel⟩, by decide +kernel, by decide⟩
theorem mv_X10_count : sw_mV yX10_count := ⟨(gtb_of w3_122 rfl), (gtb_of w3_123 rfl)⟩
theorem me_X10_needThere : sw_me yX10_needThere cX10_needThere 2 none 1 := ⟨(gtb_of w5_90 rfl), (gtb_of w1_1 rfl), ⟨by decide +kernel, by decide +kernel⟩, by decide +kernel, by decide⟩
theorem mv_X10_needThere : sw_mV yX10_needThere := ⟨(gtb_of w5_89 rfl), (gtb_sel (List.mem_of_getElem? (i := 29) rfl) rfl)⟩
theorem me_X10_need : sw_me yX10_need cX10_need 2 none 1 := ⟨(gtb_of w3_142 rfl), (gtb_of w1_1 rfl), ⟨by decide +kernel, by decide +kernel⟩, by decide +kernel, by decide⟩
theorem mv_X10_need : sw_mV yX10_need := ⟨(gtb_of w3_141 rfl), (gtb_sel (List.mem_of_getElem? (i := 5) rfl) rfl)⟩
theorem me_X10_needField : sw_me yX10_needField cX10_needField 2 none 1 := ⟨(gtb_of w5_86 rfl), (gtb_of w1_1 rfl), ⟨by decide +kernel, by decide +kernel⟩, by decide +kernel, by decide⟩
theorem mv_X10_needField : sw_mV yX10_needField := ⟨(gtb_of w5_85 rfl), (gtb_sel (List.mem_of_getElem? (i := 28) rfl) rfl)⟩
theorem me_X10_needWire : sw_me yX10_needWire cX10_needWire 2 none 1 := ⟨(gtb_of w5_128 rfl), (gtb_of w1_1 rfl), ⟨by decide +kernel, by decide +kernel⟩, by decide +kernel, by decide⟩
theorem mv_X10_needWire : sw_mV yX10_needWire := ⟨(gtb_of w5_127 rfl), (gtb_sel (List.mem_of_getElem? (i := 30) rfl) rfl)⟩
theorem me_X10_needPerson : sw_me yX10_needPerson cX10_needPerson 2 none 1 := ⟨(gtb_of w5_154 rfl), (gtb_of w1_1 rfl), ⟨by decide +kernel, by decide +kernel⟩, by decide +kernel, by decide⟩
theorem mv_X10_needPerson : sw_mV yX10_needPerson := ⟨(gtb_of w5_153 rfl), (gtb_sel (List.mem_of_getElem? (i := 31) rfl) rfl)⟩
theorem me_X10_needWhat : sw_me yX10_needWhat cX10_needWhat 3 none 2 := ⟨(gtb_of w5_66 rfl), (gtb_of w1_1 rfl), ⟨by decide +kernel, by decide +kernel⟩, by decide +kernel, by decide⟩
theorem mv_X10_needWhat : sw_mV yX10_needWhat := ⟨(gtb_of w5_65 rfl), (gtb_sel (List.mem_of_getElem? (i := 27) rfl) rfl)⟩
theorem me_X10_needText : sw_me yX10_needText cX10_needText 3 none 2 := ⟨(gtb_of w3_136 rfl), (gtb_of w1_1 rfl), ⟨by decide +kernel, by decide +kernel⟩, by decide +kernel, by decide⟩
theorem mv_X10_needText : sw_mV yX10_needText := ⟨(gtb_of w3_135 rfl), (gtb_sel (List.mem_of_getElem? (i := 4) rfl) rfl)⟩
theorem me_X10_within : sw_me yX10_within cX10_within 3 (some .boolean) 3 := ⟨(gtb_of w3_5 rfl), (gtb_of w1_1 rfl), ⟨by decide +kernel, by decide +kernel⟩, by decide +kernel, by decide⟩
theorem ms_X10_within : Cond.static yX10_within ∈ gtb := (gtb_of w3_4 rfl)
theorem me_X10_clamp : sw_me yX10_clamp cX10_clamp 3 (some .int) 3 := ⟨(gtb_of w3_52 rfl), (gtb_of w1_1 rfl), ⟨by decide +kernel, by decide +kernel⟩, by decide +kernel, by decide⟩
theorem ms_X10_clamp : Cond.static yX10_clamp ∈ gtb := (gtb_of w3_51 rfl)
theorem me_X10_at : sw_me yX10_at cX10_at 2 (some .int) 2 := ⟨(gtb_of w3_32 rfl), (gtb_of w1_1 rfl), ⟨by decide +kernel, by decide +kernel⟩, by decide +kernel, by decide⟩
theorem ms_X10_at : Cond.static yX10_at ∈ gtb := (gtb_of w3_31 rfl)
theorem me_X10_put : sw_me yX10_put cX10_put 3 none 3 := ⟨(gtb_of w1_165 rfl), (gtb_of w1_1 rfl), ⟨by decide +kernel, by decide +kernel⟩, by decide +kernel, by decide⟩
theorem ms_X10_put : Cond.static yX10_put ∈ gtb := (gtb_of w1_164 rfl)
theorem me_X10_has : sw_me yX10_has cX10_has 2 (some .boolean) 2 := ⟨(gtb_of w4_236 rfl), (gtb_of w1_1 rfl), ⟨by decide +kernel, by decide +kernel⟩, by decide +kernel, by decide⟩
theorem ms_X10_has : Cond.static yX10_has ∈ gtb := (gtb_of w4_235 rfl)
theorem me_X10_power : sw_me yX10_power cX10_power 5 (some .long) 2 := ⟨(gtb_of w6_99 rfl), (gtb_of w1_1 rfl), ⟨by decide +kernel, by decide +kernel⟩, by decide +kernel, by decide⟩
theorem ms_X10_power : Cond.static yX10_power ∈ gtb := (gtb_of w6_98 rfl)
theorem me_X10_greatestDivisor : sw_me yX10_greatestDivisor cX10_greatestDivisor 11 (some .long) 2 := ⟨(gtb_of w6_102 rfl), (gtb_of w1_1 rfl), ⟨by decide +kernel, by decide +kernel⟩, by decide +kernel, by decide⟩
theorem ms_X10_greatestDivisor : Cond.static yX10_greatestDivisor ∈ gtb := (gtb_of w6_101 rfl)
theorem me_X10_gain : sw_me yX10_gain cX10_gain 4 (some .int) 4 := ⟨(gtb_of w6_115 rfl), (gtb_of w1_1 rfl), ⟨by decide +kernel, by decide +kernel⟩, by decide +kernel, by decide⟩
theorem ms_X10_gain : Cond.static yX10_gain ∈ gtb := (gtb_of w6_114 rfl)
theorem me_X10_rests : sw_me yX10_rests cX10_rests 4 (some .boolean) 4 := ⟨(gtb_of w6_112 rfl), (gtb_of w1_1 rfl), ⟨by decide +kernel, by decide +kernel⟩, by decide +kernel, by decide⟩
theorem ms_X10_rests : Cond.static yX10_rests ∈ gtb := (gtb_of w6_111 rfl)
theorem me_X11_thrown : sw_me yX11_thrown cX11_thrown 1 (some .int) 0 := ⟨(gtb_of w6_223 rfl), (gtb_of w1_14 rfl), ⟨by decide +kernel, by decide +kernel⟩, by decide +kernel, by decide⟩
theorem mv_X11_thrown : sw_mV yX11_thrown := ⟨(gtb_of w6_221 rfl), (gtb_of w6_222 rfl)⟩
theorem me_X11_may : sw_me yX11_may cX11_may 4 (some .boolean) 3 := ⟨(gtb_of w7_171 rfl), (gtb_of w1_14 rfl), ⟨by decide +kernel, by decide +kernel⟩, by decide +kernel, by decide⟩
theorem mv_X11_may : sw_mV yX11_may := ⟨(gtb_of w7_170 rfl), (gtb_sel (List.mem_of_getElem? (i := 43) rfl) rfl)⟩
theorem me_X11_within : sw_me yX11_within cX11_within 3 (some .boolean) 3 := ⟨(gtb_of w8_162 rfl), (gtb_of w1_14 rfl), ⟨by decide +kernel, by decide +kernel⟩, by decide +kernel, by decide⟩
theorem ms_X11_within : Cond.static yX11_within ∈ gtb := (gtb_of w8_161 rfl)
theorem me_X11_init : sw_me yX11_init cX11_init 1 none 0 := ⟨(gtb_of w6_228 rfl), (gtb_of w1_14 rfl), ⟨by decide +kernel, by decide +kernel⟩, by decide +kernel, by decide⟩
theorem mi_X11_init : Cond.instanceMethod yX11_init ∈ gtb := (gtb_of w6_227 rfl)
theorem me_X11_feed : sw_me yX11_feed cX11_feed 8 (some .int) 5 := ⟨(gtb_of w7_159 rfl), (gtb_of w1_14 rfl), ⟨by decide +kernel, by decide +kernel⟩, by decide +kernel, by decide⟩
theorem mv_X11_feed : sw_mV yX11_feed := ⟨(gtb_of w7_157 rfl), (gtb_of w7_158 rfl)⟩
theorem me_X11_fine : sw_me yX11_fine cX11_fine 1 (some .boolean) 0 := ⟨(gtb_of w7_179 rfl), (gtb_of w1_14 rfl), ⟨by decide +kernel, by decide +kernel⟩, by decide +kernel, by decide⟩
theorem mv_X11_fine : sw_mV yX11_fine := ⟨(gtb_of w7_178 rfl), (gtb_sel (List.mem_of_getElem? (i := 45) rfl) rfl)⟩
theorem me_X11_wrong : sw_me yX11_wrong cX11_wrong 3 none 2 := ⟨(gtb_of w7_211 rfl), (gtb_of w1_14 rfl), ⟨by decide +kernel, by decide +kernel⟩, by decide +kernel, by decide⟩
theorem mv_X11_wrong : sw_mV yX11_wrong := ⟨(gtb_of w7_210 rfl), (gtb_sel (List.mem_of_getElem? (i := 49) rfl) rfl)⟩
theorem me_X11_here : sw_me yX11_here cX11_here 1 (some .int) 0 := ⟨(gtb_of w7_187 rfl), (gtb_of w1_14 rfl), ⟨by decide +kernel, by decide +kernel⟩, by decide +kernel, by decide⟩
theorem mv_X11_here : sw_mV yX11_here := ⟨(gtb_of w7_186 rfl), (gtb_sel (List.mem_of_getElem? (i := 47) rfl) rfl)⟩
theorem me_X11_isSmall : sw_me yX11_isSmall cX11_isSmall 1 (some .boolean) 1 := ⟨(gtb_of w7_194 rfl), (gtb_of w1_14 rfl), ⟨by decide +kernel, by decide +kernel⟩, by decide +kernel, by decide⟩
theorem ms_X11_isSmall : Cond.static yX11_isSmall ∈ gtb := (gtb_of w7_193 rfl)
theorem me_X11_isDigit : sw_me yX11_isDigit cX11_isDigit 1 (some .boolean) 1 := ⟨(gtb_of w7_230 rfl), (gtb_of w1_14 rfl), ⟨by decide +kernel, by decide +kernel⟩, by decide +kernel, by decide⟩
theorem ms_X11_isDigit : Cond.static yX11_isDigit ∈ gtb := (gtb_of w7_229 rfl)
theorem me_X11_word : sw_me yX11_word cX11_word 4 (some .int) 0 := ⟨(gtb_of w7_191 rfl), (gtb_of w1_14 rfl), ⟨by decide +kernel, by decide +kernel⟩, by decide +kernel, by decide⟩
theorem mv_X11_word : sw_mV yX11_word := ⟨(gtb_of w7_190 rfl), (gtb_sel (List.mem_of_getElem? (i := 48) rfl) rfl)⟩
theorem me_X11_of : sw_me yX11_of cX11_of 3 (some .int) 1 := ⟨(gtb_of w7_201 rfl), (gtb_of w1_14 rfl), ⟨by decide +kernel, by decide +kernel⟩, by decide +kernel, by decide⟩
theorem ms_X11_of : Cond.static yX11_of ∈ gtb := (gtb_of w7_200 rfl)
theorem me_X11_pass : sw_me yX11_pass cX11_pass 1 none 0 := ⟨(gtb_of w7_219 rfl), (gtb_of w1_14 rfl), ⟨by decide +kernel, by decide +kernel⟩, by decide +kernel, by decide⟩
theorem mv_X11_pass : sw_mV yX11_pass := ⟨(gtb_of w7_218 rfl), (gtb_sel (List.mem_of_getElem? (i := 51) rfl) rfl)⟩
theorem me_X11_readNumber : sw_me yX11_readNumber cX11_readNumber 6 (some .int) 2 := ⟨(gtb_of w7_227 rfl), (gtb_of w1_14 rfl), ⟨by decide +kernel, by decide +kernel⟩, by decide +kernel, by decide⟩
theorem mv_X11_readNumber : sw_mV yX11_readNumber := ⟨(gtb_of w7_226 rfl), (gtb_sel (List.mem_of_getElem? (i := 53) rfl) rfl)⟩
theorem me_X11_sign : sw_me yX11_sign cX11_sign 2 none 1 := ⟨(gtb_of w8_2 rfl), (gtb_of w1_14 rfl), ⟨by decide +kernel, by decide +kernel⟩, by decide +kernel, by decide⟩
theorem mv_X11_sign : sw_mV yX11_sign := ⟨(gtb_of w8_1 rfl), (gtb_sel (List.mem_of_getElem? (i := 56) rfl) rfl)⟩
theorem me_X11_isMore : sw_me yX11_isMore cX11_isMore 1 (some .boolean) 0 := ⟨(gtb_of w7_183 rfl), (gtb_of w1_14 rfl), ⟨by decide +kernel, by decide +kernel⟩, by decide +kernel, by decide⟩
theorem mv_X11_isMore : sw_mV yX11_isMore := ⟨(gtb_of w7_182 rfl), (gtb_sel (List.mem_of_getElem? (i := 46) rfl) rfl)⟩
theorem me_X11_begins : sw_me yX11_begins cX11_begins 2 none 1 := ⟨(gtb_of w7_175 rfl), (gtb_of w1_14 rfl), ⟨by decide +kernel, by decide +kernel⟩, by decide +kernel, by decide⟩
theorem mv_X11_begins : sw_mV yX11_begins := ⟨(gtb_of w7_174 rfl), (gtb_sel (List.mem_of_getElem? (i := 44) rfl) rfl)⟩
theorem me_X11_result : sw_me yX11_result cX11_result 2 (some .int) 1 := ⟨(gtb_of w8_6 rfl), (gtb_of w1_14 rfl), ⟨by decide +kernel, by decide +kernel⟩, by decide +kernel, by decide⟩
theorem mv_X11_result : sw_mV yX11_result := ⟨(gtb_of w8_5 rfl), (gtb_sel (List.mem_of_getElem? (i := 57) rfl) rfl)⟩
theorem me_X11_fault : sw_me yX11_fault cX11_fault 1 (some .int) 0 := ⟨(gtb_of w7_163 rfl), (gtb_of w1_14 rfl), ⟨by decide +kernel, by decide +kernel⟩, by decide +kernel, by decide⟩
theorem mv_X11_fault : sw_mV yX11_fault := ⟨(gtb_of w7_161 rfl), (gtb_of w7_162 rfl)⟩
theorem me_X11_copies : sw_me yX11_copies cX11_copies 5 none 3 := ⟨(gtb_of w7_1 rfl), (gtb_of w1_14 rfl), ⟨by decide +kernel, by decide +kernel⟩, by decide +kernel, by decide⟩
theorem mv_X11_copies : sw_mV yX11_copies := ⟨(gtb_of w7_0 rfl), (gtb_sel (List.mem_of_getElem? (i := 42) rfl) rfl)⟩
theorem me_X11_clears : sw_me yX11_clears cX11_clears 1 none 0 := ⟨(gtb_of w6_233 rfl), (gtb_of w1_14 rfl), ⟨by decide +kernel, by decide +kernel⟩, by decide +kernel, by decide⟩
theorem mv_X11_clears : sw_mV yX11_clears := ⟨(gtb_of w6_232 rfl), (gtb_sel (List.mem_of_getElem? (i := 40) rfl) rfl)⟩
theorem me_X11_sets : sw_me yX11_sets cX11_sets 2 none 0 := ⟨(gtb_of w6_237 rfl), (gtb_of w1_14 rfl), ⟨by decide +kernel, by decide +kernel⟩, by decide +kernel, by decide⟩
theorem mv_X11_sets : sw_mV yX11_sets := ⟨(gtb_of w6_236 rfl), (gtb_sel (List.mem_of_getElem? (i := 41) rfl) rfl)⟩
theorem me_X11_readField : sw_me yX11_readField cX11_readField 1 (some .int) 0 := ⟨(gtb_of w7_238 rfl), (gtb_of w1_14 rfl), ⟨by decide +kernel, by decide +kernel⟩, by decide +kernel, by decide⟩
theorem mv_X11_readField : sw_mV yX11_readField := ⟨(gtb_of w7_237 rfl), (gtb_sel (List.mem_of_getElem? (i := 55) rfl) rfl)⟩
theorem me_X11_readWire : sw_me yX11_readWire cX11_readWire 7 none 0 := ⟨(gtb_of w7_234 rfl), (gtb_of w1_14 rfl), ⟨by decide +kernel, by decide +kernel⟩, by decide +kernel, by decide⟩
theorem mv_X11_readWire : sw_mV yX11_readWire := ⟨(gtb_of w7_233 rfl), (gtb_sel (List.mem_of_getElem? (i := 54) rfl) rfl)⟩
theorem me_X11_isRow : sw_me yX11_isRow cX11_isRow 1 (some .boolean) 1 := ⟨(gtb_of w7_197 rfl), (gtb_of w1_14 rfl), ⟨by decide +kernel, by decide +kernel⟩, by decide +kernel, by decide⟩
theorem ms_X11_isRow : Cond.static yX11_isRow ∈ gtb := (gtb_of w7_196 rfl)
theorem me_X11_isFull : sw_me yX11_isFull cX11_isFull 2 (some .boolean) 1 := ⟨(gtb_of w7_215 rfl), (gtb_of w1_14 rfl), ⟨by decide +kernel, by decide +kernel⟩, by decide +kernel, by decide⟩
theorem mv_X11_isFull : sw_mV yX11_isFull := ⟨(gtb_of w7_214 rfl), (gtb_sel (List.mem_of_getElem? (i := 50) rfl) rfl)⟩
theorem me_X11_readRow : sw_me yX11_readRow cX11_readRow 4 none 1 := ⟨(gtb_of w7_223 rfl), (gtb_of w1_14 rfl), ⟨by decide +kernel, by decide +kernel⟩, by decide +kernel, by decide⟩
theorem mv_X11_readRow : sw_mV yX11_readRow := ⟨(gtb_of w7_222 rfl), (gtb_sel (List.mem_of_getElem? (i := 52) rfl) rfl)⟩
theorem me_X11_country : sw_me yX11_country cX11_country 4 (some .int) 1 := ⟨(gtb_of w7_167 rfl), (gtb_of w1_14 rfl), ⟨by decide +kernel, by decide +kernel⟩, by decide +kernel, by decide⟩
theorem mv_X11_country : sw_mV yX11_country := ⟨(gtb_of w7_165 rfl), (gtb_of w7_166 rfl)⟩
theorem me_X11_emit : sw_me yX11_emit cX11_emit 3 none 2 := ⟨(gtb_of w8_30 rfl), (gtb_of w1_14 rfl), ⟨by decide +kernel, by decide +kernel⟩, by decide +kernel, by decide⟩
theorem mv_X11_emit : sw_mV yX11_emit := ⟨(gtb_of w8_29 rfl), (gtb_sel (List.mem_of_getElem? (i := 62) rfl) rfl)⟩
theorem me_X11_opensOne : sw_me yX11_opensOne cX11_opensOne 2 none 1 := ⟨(gtb_of w8_26 rfl), (gtb_of w1_14 rfl), ⟨by decide +kernel, by decide +kernel⟩, by decide +kernel, by decide⟩
theorem mv_X11_opensOne : sw_mV yX11_opensOne := ⟨(gtb_of w8_25 rfl), (gtb_sel (List.mem_of_getElem? (i := 61) rfl) rfl)⟩
theorem me_X11_readSum : sw_me yX11_readSum cX11_readSum 2 none 0 := ⟨(gtb_of w8_14 rfl), (gtb_of w1_14 rfl), ⟨by decide +kernel, by decide +kernel⟩, by decide +kernel, by decide⟩
theorem mv_X11_readSum : sw_mV yX11_readSum := ⟨(gtb_of w8_13 rfl), (gtb_sel (List.mem_of_getElem? (i := 58) rfl) rfl)⟩
theorem me_X11_readProduct : sw_me yX11_readProduct cX11_readProduct 2 none 0 := ⟨(gtb_of w8_18 rfl), (gtb_of w1_14 rfl), ⟨by decide +kernel, by decide +kernel⟩, by decide +kernel, by decide⟩
theorem mv_X11_readProduct : sw_mV yX11_readProduct := ⟨(gtb_of w8_17 rfl), (gtb_sel (List.mem_of_getElem? (i := 59) rfl) rfl)⟩
theorem me_X11_readTwo : sw_me yX11_readTwo cX11_readTwo 3 none 2 := ⟨(gtb_of w8_35 rfl), (gtb_of w1_14 rfl), ⟨by decide +kernel, by decide +kernel⟩, by decide +kernel, by decide⟩
theorem mv_X11_readTwo : sw_mV yX11_readTwo := ⟨(gtb_of w8_34 rfl), (gtb_sel (List.mem_of_getElem? (i := 63) rfl) rfl)⟩
theorem me_X11_factHere : sw_me yX11_factHere cX11_factHere 2 (some .int) 0 := ⟨(gtb_of w8_40 rfl), (gtb_of w1_14 rfl), ⟨by decide +kernel, by decide +kernel⟩, by decide +kernel, by decide⟩
theorem mv_X11_factHere : sw_mV yX11_factHere := ⟨(gtb_of w8_39 rfl), (gtb_sel (List.mem_of_getElem? (i := 64) rfl) rfl)⟩
theorem me_X11_readUnit : sw_me yX11_readUnit cX11_readUnit 2 none 0 := ⟨(gtb_of w8_22 rfl), (gtb_of w1_14 rfl), ⟨by decide +kernel, by decide +kernel⟩, by decide +kernel, by decide⟩
theorem mv_X11_readUnit : sw_mV yX11_readUnit := ⟨(gtb_of w8_21 rfl), (gtb_sel (List.mem_of_getElem? (i := 60) rfl) rfl)⟩
theorem me_X11_law : sw_me yX11_law cX11_law 3 (some .int) 1 := ⟨(gtb_of w8_10 rfl), (gtb_of w1_14 rfl), ⟨by decide +kernel, by decide +kernel⟩, by decide +kernel, by decide⟩
theorem mv_X11_law : sw_mV yX11_law := ⟨(gtb_of w8_8 rfl), (gtb_of w8_9 rfl)⟩
theorem me_X11_valueNow : sw_me yX11_valueNow cX11_valueNow 4 (some .int) 0 := ⟨(gtb_of w8_132 rfl), (gtb_of w1_14 rfl), ⟨by decide +kernel, by decide +kernel⟩, by decide +kernel, by decide⟩
theorem mv_X11_valueNow : sw_mV yX11_valueNow := ⟨(gtb_of w8_131 rfl), (gtb_sel (List.mem_of_getElem? (i := 83) rfl) rfl)⟩
theorem me_X11_both : sw_me yX11_both cX11_both 3 (some .int) 3 := ⟨(gtb_of w8_135 rfl), (gtb_of w1_14 rfl), ⟨by decide +kernel, by decide +kernel⟩, by decide +kernel, by decide⟩
theorem ms_X11_both : Cond.static yX11_both ∈ gtb := (gtb_of w8_134 rfl)
theorem me_X11_tollNow : sw_me yX11_tollNow cX11_tollNow 2 (some .int) 0 := ⟨(gtb_of w8_128 rfl), (gtb_of w1_14 rfl), ⟨by decide +kernel, by decide +kernel⟩, by decide +kernel, by decide⟩
theorem mv_X11_tollNow : sw_mV yX11_tollNow := ⟨(gtb_of w8_127 rfl), (gtb_sel (List.mem_of_getElem? (i := 82) rfl) rfl)⟩
theorem me_X11_tellsStep : sw_me yX11_tellsStep cX11_tellsStep 4 none 3 := ⟨(gtb_of w8_58 rfl), (gtb_of w1_14 rfl), ⟨by decide +kernel, by decide +kernel⟩, by decide +kernel, by decide⟩
theorem mv_X11_tellsStep : sw_mV yX11_tellsStep := ⟨(gtb_of w8_57 rfl), (gtb_sel (List.mem_of_getElem? (i := 66) rfl) rfl)⟩
theorem me_X11_readStep : sw_me yX11_readStep cX11_readStep 4 none 0 := ⟨(gtb_of w8_54 rfl), (gtb_of w1_14 rfl), ⟨by decide +kernel, by decide +kernel⟩, by decide +kernel, by decide⟩
theorem mv_X11_readStep : sw_mV yX11_readStep := ⟨(gtb_of w8_53 rfl), (gtb_sel (List.mem_of_getElem? (i := 65) rfl) rfl)⟩
theorem me_X11_work : sw_me yX11_work cX11_work 4 (some .int) 1 := ⟨(gtb_of w8_50 rfl), (gtb_of w1_14 rfl), ⟨by decide +kernel, by decide +kernel⟩, by decide +kernel, by decide⟩
theorem mv_X11_work : sw_mV yX11_work := ⟨(gtb_of w8_48 rfl), (gtb_of w8_49 rfl)⟩
theorem me_X11_goesSteps : sw_me yX11_goesSteps cX11_goesSteps 6 none 2 := ⟨(gtb_of w8_72 rfl), (gtb_of w1_14 rfl), ⟨by decide +kernel, by decide +kernel⟩, by decide +kernel, by decide⟩
theorem mv_X11_goesSteps : sw_mV yX11_goesSteps := ⟨(gtb_of w8_71 rfl), (gtb_sel (List.mem_of_getElem? (i := 68) rfl) rfl)⟩
theorem me_X11_take : sw_me yX11_take cX11_take 1 none 0 := ⟨(gtb_of w8_68 rfl), (gtb_of w1_14 rfl), ⟨by decide +kernel, by decide +kernel⟩, by decide +kernel, by decide⟩
theorem mv_X11_take : sw_mV yX11_take := ⟨(gtb_of w8_67 rfl), (gtb_sel (List.mem_of_getElem? (i := 67) rfl) rfl)⟩
theorem me_X11_isLive : sw_me yX11_isLive cX11_isLive 4 (some .boolean) 3 := ⟨(gtb_of w8_104 rfl), (gtb_of w1_14 rfl), ⟨by decide +kernel, by decide +kernel⟩, by decide +kernel, by decide⟩
theorem mv_X11_isLive : sw_mV yX11_isLive := ⟨(gtb_of w8_103 rfl), (gtb_sel (List.mem_of_getElem? (i := 76) rfl) rfl)⟩
theorem me_X11_leftOf : sw_me yX11_leftOf cX11_leftOf 3 (some .int) 1 := ⟨(gtb_of w8_116 rfl), (gtb_of w1_14 rfl), ⟨by decide +kernel, by decide +kernel⟩, by decide +kernel, by decide⟩
theorem mv_X11_leftOf : sw_mV yX11_leftOf := ⟨(gtb_of w8_115 rfl), (gtb_sel (List.mem_of_getElem? (i := 79) rfl) rfl)⟩
theorem me_X11_isAt : sw_me yX11_isAt cX11_isAt 3 (some .boolean) 2 := ⟨(gtb_of w8_108 rfl), (gtb_of w1_14 rfl), ⟨by decide +kernel, by decide +kernel⟩, by decide +kernel, by decide⟩
theorem mv_X11_isAt : sw_mV yX11_isAt := ⟨(gtb_of w8_107 rfl), (gtb_sel (List.mem_of_getElem? (i := 77) rfl) rfl)⟩
theorem me_X11_wiresAt : sw_me yX11_wiresAt cX11_wiresAt 4 (some .int) 1 := ⟨(gtb_of w8_120 rfl), (gtb_of w1_14 rfl), ⟨by decide +kernel, by decide +kernel⟩, by decide +kernel, by decide⟩
theorem mv_X11_wiresAt : sw_mV yX11_wiresAt := ⟨(gtb_of w8_119 rfl), (gtb_sel (List.mem_of_getElem? (i := 80) rfl) rfl)⟩
theorem me_X11_heldBy : sw_me yX11_heldBy cX11_heldBy 4 (some .int) 1 := ⟨(gtb_of w8_88 rfl), (gtb_of w1_14 rfl), ⟨by decide +kernel, by decide +kernel⟩, by decide +kernel, by decide⟩
theorem mv_X11_heldBy : sw_mV yX11_heldBy := ⟨(gtb_of w8_87 rfl), (gtb_sel (List.mem_of_getElem? (i := 72) rfl) rfl)⟩
theorem me_X11_weightOf : sw_me yX11_weightOf cX11_weightOf 4 (some .int) 1 := ⟨(gtb_of w8_92 rfl), (gtb_of w1_14 rfl), ⟨by decide +kernel, by decide +kernel⟩, by decide +kernel, by decide⟩
theorem mv_X11_weightOf : sw_mV yX11_weightOf := ⟨(gtb_of w8_91 rfl), (gtb_sel (List.mem_of_getElem? (i := 73) rfl) rfl)⟩
theorem me_X11_loadOf : sw_me yX11_loadOf cX11_loadOf 2 (some .int) 1 := ⟨(gtb_of w8_84 rfl), (gtb_of w1_14 rfl), ⟨by decide +kernel, by decide +kernel⟩, by decide +kernel, by decide⟩
theorem mv_X11_loadOf : sw_mV yX11_loadOf := ⟨(gtb_of w8_83 rfl), (gtb_sel (List.mem_of_getElem? (i := 71) rfl) rfl)⟩
theorem me_X11_tollOf : sw_me yX11_tollOf cX11_tollOf 8 (some .int) 7 := ⟨(gtb_of w8_124 rfl), (gtb_of w1_14 rfl), ⟨by decide +kernel, by decide +kernel⟩, by decide +kernel, by decide⟩
theorem mv_X11_tollOf : sw_mV yX11_tollOf := ⟨(gtb_of w8_123 rfl), (gtb_sel (List.mem_of_getElem? (i := 81) rfl) rfl)⟩
theorem me_X11_tollBy : sw_me yX11_tollBy cX11_tollBy 3 (some .int) 2 := ⟨(gtb_of w8_112 rfl), (gtb_of w1_14 rfl), ⟨by decide +kernel, by decide +kernel⟩, by decide +kernel, by decide⟩
theorem mv_X11_tollBy : sw_mV yX11_tollBy := ⟨(gtb_of w8_111 rfl), (gtb_sel (List.mem_of_getElem? (i := 78) rfl) rfl)⟩
theorem me_X11_canCross : sw_me yX11_canCross cX11_canCross 3 (some .boolean) 2 := ⟨(gtb_of w8_100 rfl), (gtb_of w1_14 rfl), ⟨by decide +kernel, by decide +kernel⟩, by decide +kernel, by decide⟩
theorem mv_X11_canCross : sw_mV yX11_canCross := ⟨(gtb_of w8_99 rfl), (gtb_sel (List.mem_of_getElem? (i := 75) rfl) rfl)⟩
theorem me_X11_crosses : sw_me yX11_crosses cX11_crosses 4 (some .boolean) 2 := ⟨(gtb_of w8_96 rfl), (gtb_of w1_14 rfl), ⟨by decide +kernel, by decide +kernel⟩, by decide +kernel, by decide⟩
theorem mv_X11_crosses : sw_mV yX11_crosses := ⟨(gtb_of w8_95 rfl), (gtb_sel (List.mem_of_getElem? (i := 74) rfl) rfl)⟩
theorem me_X11_lifts : sw_me yX11_lifts cX11_lifts 3 (some .boolean) 2 := ⟨(gtb_of w8_80 rfl), (gtb_of w1_14 rfl), ⟨by decide +kernel, by decide +kernel⟩, by decide +kernel, by decide⟩
theorem mv_X11_lifts : sw_mV yX11_lifts := ⟨(gtb_of w8_79 rfl), (gtb_sel (List.mem_of_getElem? (i := 70) rfl) rfl)⟩
theorem me_X11_moves : sw_me yX11_moves cX11_moves 3 (some .boolean) 2 := ⟨(gtb_of w8_139 rfl), (gtb_of w1_14 rfl), ⟨by decide +kernel, by decide +kernel⟩, by decide +kernel, by decide⟩
theorem mv_X11_moves : sw_mV yX11_moves := ⟨(gtb_of w8_138 rfl), (gtb_sel (List.mem_of_getElem? (i := 84) rfl) rfl)⟩
theorem me_X11_clips : sw_me yX11_clips cX11_clips 2 (some .boolean) 1 := ⟨(gtb_of w8_143 rfl), (gtb_of w1_14 rfl), ⟨by decide +kernel, by decide +kernel⟩, by decide +kernel, by decide⟩
theorem mv_X11_clips : sw_mV yX11_clips := ⟨(gtb_of w8_142 rfl), (gtb_sel (List.mem_of_getElem? (i := 85) rfl) rfl)⟩
theorem me_X11_goesOn : sw_me yX11_goesOn cX11_goesOn 2 none 0 := ⟨(gtb_of w8_147 rfl), (gtb_of w1_14 rfl), ⟨by decide +kernel, by decide +kernel⟩, by decide +kernel, by decide⟩
theorem mv_X11_goesOn : sw_mV yX11_goesOn := ⟨(gtb_of w8_146 rfl), (gtb_sel (List.mem_of_getElem? (i := 86) rfl) rfl)⟩
theorem me_X11_isDone : sw_me yX11_isDone cX11_isDone 4 (some .boolean) 3 := ⟨(gtb_of w8_76 rfl), (gtb_of w1_14 rfl), ⟨by decide +kernel, by decide +kernel⟩, by decide +kernel, by decide⟩
theorem mv_X11_isDone : sw_mV yX11_isDone := ⟨(gtb_of w8_75 rfl), (gtb_sel (List.mem_of_getElem? (i := 69) rfl) rfl)⟩
theorem me_X11_book : sw_me yX11_book cX11_book 6 (some .int) 1 := ⟨(gtb_of w8_151 rfl), (gtb_of w1_14 rfl), ⟨by decide +kernel, by decide +kernel⟩, by decide +kernel, by decide⟩
theorem mv_X11_book : sw_mV yX11_book := ⟨(gtb_of w8_149 rfl), (gtb_of w8_150 rfl)⟩
theorem me_X11_undo : sw_me yX11_undo cX11_undo 2 (some .int) 0 := ⟨(gtb_of w8_155 rfl), (gtb_of w1_14 rfl), ⟨by decide +kernel, by decide +kernel⟩, by decide +kernel, by decide⟩
theorem mv_X11_undo : sw_mV yX11_undo := ⟨(gtb_of w8_153 rfl), (gtb_of w8_154 rfl)⟩
theorem me_X11_liveIn : sw_me yX11_liveIn cX11_liveIn 4 (some .int) 1 := ⟨(gtb_of w8_166 rfl), (gtb_of w1_14 rfl), ⟨by decide +kernel, by decide +kernel⟩, by decide +kernel, by decide⟩
theorem mv_X11_liveIn : sw_mV yX11_liveIn := ⟨(gtb_of w8_165 rfl), (gtb_sel (List.mem_of_getElem? (i := 87) rfl) rfl)⟩
theorem me_X11_cutNow : sw_me yX11_cutNow cX11_cutNow 3 (some .int) 0 := ⟨(gtb_of w8_170 rfl), (gtb_of w1_14 rfl), ⟨by decide +kernel, by decide +kernel⟩, by decide +kernel, by decide⟩
theorem mv_X11_cutNow : sw_mV yX11_cutNow := ⟨(gtb_of w8_169 rfl), (gtb_sel (List.mem_of_getElem? (i := 88) rfl) rfl)⟩
theorem me_X11_carried : sw_me yX11_carried cX11_carried 3 (some .int) 0 := ⟨(gtb_of w8_174 rfl), (gtb_of w1_14 rfl), ⟨by decide +kernel, by decide +kernel⟩, by decide +kernel, by decide⟩
theorem mv_X11_carried : sw_mV yX11_carried := ⟨(gtb_of w8_173 rfl), (gtb_sel (List.mem_of_getElem? (i := 89) rfl) rfl)⟩
theorem me_X11_told : sw_me yX11_told cX11_told 2 (some .int) 1 := ⟨(gtb_of w8_159 rfl), (gtb_of w1_14 rfl), ⟨by decide +kernel, by decide +kernel⟩, by decide +kernel, by decide⟩
theorem mv_X11_told : sw_mV yX11_told := ⟨(gtb_of w8_157 rfl), (gtb_of w8_158 rfl)⟩
theorem me_X11_isField : sw_me yX11_isField cX11_isField 3 (some .boolean) 2 := ⟨(gtb_of w8_182 rfl), (gtb_of w1_14 rfl), ⟨by decide +kernel, by decide +kernel⟩, by decide +kernel, by decide⟩
theorem mv_X11_isField : sw_mV yX11_isField := ⟨(gtb_of w8_181 rfl), (gtb_sel (List.mem_of_getElem? (i := 90) rfl) rfl)⟩
theorem me_X11_isWire : sw_me yX11_isWire cX11_isWire 3 (some .boolean) 2 := ⟨(gtb_of w8_198 rfl), (gtb_of w1_14 rfl), ⟨by decide +kernel, by decide +kernel⟩, by decide +kernel, by decide⟩
theorem mv_X11_isWire : sw_mV yX11_isWire := ⟨(gtb_of w8_197 rfl), (gtb_sel (List.mem_of_getElem? (i := 93) rfl) rfl)⟩
theorem me_X11_isPerson : sw_me yX11_isPerson cX11_isPerson 3 (some .boolean) 2 := ⟨(gtb_of w8_210 rfl), (gtb_of w1_14 rfl), ⟨by decide +kernel, by decide +kernel⟩, by decide +kernel, by decide⟩
theorem mv_X11_isPerson : sw_mV yX11_isPerson := ⟨(gtb_of w8_209 rfl), (gtb_sel (List.mem_of_getElem? (i := 94) rfl) rfl)⟩
theorem me_X11_lyingIn : sw_me yX11_lyingIn cX11_lyingIn 4 (some .int) 1 := ⟨(gtb_of w8_186 rfl), (gtb_of w1_14 rfl), ⟨by decide +kernel, by decide +kernel⟩, by decide +kernel, by decide⟩
theorem mv_X11_lyingIn : sw_mV yX11_lyingIn := ⟨(gtb_of w8_185 rfl), (gtb_sel (List.mem_of_getElem? (i := 91) rfl) rfl)⟩
theorem me_X11_onFrom : sw_me yX11_onFrom cX11_onFrom 7 (some .int) 3 := ⟨(gtb_of w8_190 rfl), (gtb_of w1_14 rfl), ⟨by decide +kernel, by decide +kernel⟩, by decide +kernel, by decide⟩
theorem mv_X11_onFrom : sw_mV yX11_onFrom := ⟨(gtb_of w8_189 rfl), (gtb_sel (List.mem_of_getElem? (i := 92) rfl) rfl)⟩
theorem me_X11_field : sw_me yX11_field cX11_field 5 (some .int) 2 := ⟨(gtb_of w8_178 rfl), (gtb_of w1_14 rfl), ⟨by decide +kernel, by decide +kernel⟩, by decide +kernel, by decide⟩
theorem mv_X11_field : sw_mV yX11_field := ⟨(gtb_of w8_176 rfl), (gtb_of w8_177 rfl)⟩
theorem me_X11_wire : sw_me yX11_wire cX11_wire 3 (some .int) 2 := ⟨(gtb_of w8_194 rfl), (gtb_of w1_14 rfl), ⟨by decide +kernel, by decide +kernel⟩, by decide +kernel, by decide⟩
theorem mv_X11_wire : sw_mV yX11_wire := ⟨(gtb_of w8_192 rfl), (gtb_of w8_193 rfl)⟩
theorem me_X11_thing : sw_me yX11_thing cX11_thing 3 (some .int) 2 := ⟨(gtb_of w8_202 rfl), (gtb_of w1_14 rfl), ⟨by decide +kernel, by decide +kernel⟩, by decide +kernel, by decide⟩
theorem mv_X11_thing : sw_mV yX11_thing := ⟨(gtb_of w8_200 rfl), (gtb_of w8_201 rfl)⟩
theorem me_X11_person : sw_me yX11_person cX11_person 3 (some .int) 2 := ⟨(gtb_of w8_206 rfl), (gtb_of w1_14 rfl), ⟨by decide +kernel, by decide +kernel⟩, by decide +kernel, by decide⟩
theorem mv_X11_person : sw_mV yX11_person := ⟨(gtb_of w8_204 rfl), (gtb_of w8_205 rfl)⟩
theorem me_X11_toll : sw_me yX11_toll cX11_toll 3 (some .int) 2 := ⟨(gtb_of w8_214 rfl), (gtb_of w1_14 rfl), ⟨by decide +kernel, by decide +kernel⟩, by decide +kernel, by decide⟩
theorem mv_X11_toll : sw_mV yX11_toll := ⟨(gtb_of w8_212 rfl), (gtb_of w8_213 rfl)⟩
theorem me_X11_would : sw_me yX11_would cX11_would 8 (some .int) 7 := ⟨(gtb_of w8_218 rfl), (gtb_of w1_14 rfl), ⟨by decide +kernel, by decide +kernel⟩, by decide +kernel, by decide⟩
theorem mv_X11_would : sw_mV yX11_would := ⟨(gtb_of w8_216 rfl), (gtb_of w8_217 rfl)⟩
theorem me_X11_can : sw_me yX11_can cX11_can 3 (some .boolean) 2 := ⟨(gtb_of w8_222 rfl), (gtb_of w1_14 rfl), ⟨by decide +kernel, by decide +kernel⟩, by decide +kernel, by decide⟩
theorem mv_X11_can : sw_mV yX11_can := ⟨(gtb_of w8_220 rfl), (gtb_of w8_221 rfl)⟩
theorem me_X11_tiredAll : sw_me yX11_tiredAll cX11_tiredAll 3 (some .int) 0 := ⟨(gtb_of w8_230 rfl), (gtb_of w1_14 rfl), ⟨by decide +kernel, by decide +kernel⟩, by decide +kernel, by decide⟩
theorem mv_X11_tiredAll : sw_mV yX11_tiredAll := ⟨(gtb_of w8_229 rfl), (gtb_sel (List.mem_of_getElem? (i := 95) rfl) rfl)⟩
theorem me_X11_ahead : sw_me yX11_ahead cX11_ahead 5 (some .int) 2 := ⟨(gtb_of w8_226 rfl), (gtb_of w1_14 rfl), ⟨by decide +kernel, by decide +kernel⟩, by decide +kernel, by decide⟩
theorem mv_X11_ahead : sw_mV yX11_ahead := ⟨(gtb_of w8_224 rfl), (gtb_of w8_225 rfl)⟩
theorem me_X11_comesIn : sw_me yX11_comesIn cX11_comesIn 7 (some .int) 4 := ⟨(gtb_of w8_238 rfl), (gtb_of w1_14 rfl), ⟨by decide +kernel, by decide +kernel⟩, by decide +kernel, by decide⟩
theorem mv_X11_comesIn : sw_mV yX11_comesIn := ⟨(gtb_of w8_237 rfl), (gtb_sel (List.mem_of_getElem? (i := 96) rfl) rfl)⟩
theorem me_X11_arrives : sw_me yX11_arrives cX11_arrives 3 (some .int) 2 := ⟨(gtb_of w8_234 rfl), (gtb_of w1_14 rfl), ⟨by decide +kernel, by decide +kernel⟩, by decide +kernel, by decide⟩
theorem mv_X11_arrives : sw_mV yX11_arrives := ⟨(gtb_of w8_232 rfl), (gtb_of w8_233 rfl)⟩
theorem me_X11_waits : sw_me yX11_waits cX11_waits 4 (some .int) 2 := ⟨(gtb_of w9_2 rfl), (gtb_of w1_14 rfl), ⟨by decide +kernel, by decide +kernel⟩, by decide +kernel, by decide⟩
theorem mv_X11_waits : sw_mV yX11_waits := ⟨(gtb_of w9_0 rfl), (gtb_of w9_1 rfl)⟩
theorem me_X11_grant : sw_me yX11_grant cX11_grant 4 (some .int) 2 := ⟨(gtb_of w9_6 rfl), (gtb_of w1_14 rfl), ⟨by decide +kernel, by decide +kernel⟩, by decide +kernel, by decide⟩
theorem mv_X11_grant : sw_mV yX11_grant := ⟨(gtb_of w9_4 rfl), (gtb_of w9_5 rfl)⟩
theorem me_X11_ones : sw_me yX11_ones cX11_ones 3 (some .int) 1 := ⟨(gtb_of w9_13 rfl), (gtb_of w1_14 rfl), ⟨by decide +kernel, by decide +kernel⟩, by decide +kernel, by decide⟩
theorem ms_X11_ones : Cond.static yX11_ones ∈ gtb := (gtb_of w9_12 rfl)
theorem me_X11_partOf : sw_me yX11_partOf cX11_partOf 7 (some .int) 2 := ⟨(gtb_of w9_17 rfl), (gtb_of w1_14 rfl), ⟨by decide +kernel, by decide +kernel⟩, by decide +kernel, by decide⟩
theorem mv_X11_partOf : sw_mV yX11_partOf := ⟨(gtb_of w9_16 rfl), (gtb_sel (List.mem_of_getElem? (i := 97) rfl) rfl)⟩
theorem me_X11_pliers : sw_me yX11_pliers cX11_pliers 6 (some .int) 2 := ⟨(gtb_of w9_10 rfl), (gtb_of w1_14 rfl), ⟨by decide +kernel, by decide +kernel⟩, by decide +kernel, by decide⟩
theorem mv_X11_pliers : sw_mV yX11_pliers := ⟨(gtb_of w9_8 rfl), (gtb_of w9_9 rfl)⟩
theorem me_X11_parts : sw_me yX11_parts cX11_parts 6 (some .int) 1 := ⟨(gtb_of w9_21 rfl), (gtb_of w1_14 rfl), ⟨by decide +kernel, by decide +kernel⟩, by decide +kernel, by decide⟩
theorem mv_X11_parts : sw_mV yX11_parts := ⟨(gtb_of w9_19 rfl), (gtb_of w9_20 rfl)⟩
theorem me_X11_haul : sw_me yX11_haul cX11_haul 7 (some .int) 2 := ⟨(gtb_of w9_25 rfl), (gtb_of w1_14 rfl), ⟨by decide +kernel, by decide +kernel⟩, by decide +kernel, by decide⟩
theorem mv_X11_haul : sw_mV yX11_haul := ⟨(gtb_of w9_23 rfl), (gtb_of w9_24 rfl)⟩
theorem me_X11_manyLive : sw_me yX11_manyLive cX11_manyLive 6 (some .int) 3 := ⟨(gtb_of w9_37 rfl), (gtb_of w1_14 rfl), ⟨by decide +kernel, by decide +kernel⟩, by decide +kernel, by decide⟩
theorem mv_X11_manyLive : sw_mV yX11_manyLive := ⟨(gtb_of w9_36 rfl), (gtb_sel (List.mem_of_getElem? (i := 99) rfl) rfl)⟩
theorem me_X11_isFit : sw_me yX11_isFit cX11_isFit 5 (some .boolean) 2 := ⟨(gtb_of w9_33 rfl), (gtb_of w1_14 rfl), ⟨by decide +kernel, by decide +kernel⟩, by decide +kernel, by decide⟩
theorem mv_X11_isFit : sw_mV yX11_isFit := ⟨(gtb_of w9_32 rfl), (gtb_sel (List.mem_of_getElem? (i := 98) rfl) rfl)⟩
theorem me_X11_fits : sw_me yX11_fits cX11_fits 6 (some .int) 1 := ⟨(gtb_of w9_29 rfl), (gtb_of w1_14 rfl), ⟨by decide +kernel, by decide +kernel⟩, by decide +kernel, by decide⟩
theorem mv_X11_fits : sw_mV yX11_fits := ⟨(gtb_of w9_27 rfl), (gtb_of w9_28 rfl)⟩
theorem me_X11_look : sw_me yX11_look cX11_look 7 (some .int) 1 := ⟨(gtb_of w9_41 rfl), (gtb_of w1_14 rfl), ⟨by decide +kernel, by decide +kernel⟩, by decide +kernel, by decide⟩
theorem mv_X11_look : sw_mV yX11_look := ⟨(gtb_of w9_39 rfl), (gtb_of w9_40 rfl)⟩
theorem me_X11_least : sw_me yX11_least cX11_least 11 (some .long) 3 := ⟨(gtb_of w9_49 rfl), (gtb_of w1_14 rfl), ⟨by decide +kernel, by decide +kernel⟩, by decide +kernel, by decide⟩
theorem ms_X11_least : Cond.static yX11_least ∈ gtb := (gtb_of w9_48 rfl)
theorem me_X11_tingle : sw_me yX11_tingle cX11_tingle 9 (some .long) 3 := ⟨(gtb_of w9_45 rfl), (gtb_of w1_14 rfl), ⟨by decide +kernel, by decide +kernel⟩, by decide +kernel, by decide⟩
theorem mv_X11_tingle : sw_mV yX11_tingle := ⟨(gtb_of w9_43 rfl), (gtb_of w9_44 rfl)⟩
theorem me_X11_hasBy : sw_me yX11_hasBy cX11_hasBy 4 (some .int) 4 := ⟨(gtb_of w9_56 rfl), (gtb_of w1_14 rfl), ⟨by decide +kernel, by decide +kernel⟩, by decide +kernel, by decide⟩
theorem ms_X11_hasBy : Cond.static yX11_hasBy ∈ gtb := (gtb_of w9_55 rfl)
theorem me_X11_lean : sw_me yX11_lean cX11_lean 9 (some .int) 3 := ⟨(gtb_of w9_53 rfl), (gtb_of w1_14 rfl), ⟨by decide +kernel, by decide +kernel⟩, by decide +kernel, by decide⟩
theorem mv_X11_lean : sw_mV yX11_lean := ⟨(gtb_of w9_51 rfl), (gtb_of w9_52 rfl)⟩
theorem me_X11_graceBy : sw_me yX11_graceBy cX11_graceBy 5 (some .int) 2 := ⟨(gtb_of w9_64 rfl), (gtb_of w1_14 rfl), ⟨by decide +kernel, by decide +kernel⟩, by decide +kernel, by decide⟩
theorem mv_X11_graceBy : sw_mV yX11_graceBy := ⟨(gtb_of w9_63 rfl), (gtb_sel (List.mem_of_getElem? (i := 100) rfl) rfl)⟩
theorem me_X11_grace : sw_me yX11_grace cX11_grace 5 (some .int) 3 := ⟨(gtb_of w9_60 rfl), (gtb_of w1_14 rfl), ⟨by decide +kernel, by decide +kernel⟩, by decide +kernel, by decide⟩
theorem mv_X11_grace : sw_mV yX11_grace := ⟨(gtb_of w9_58 rfl), (gtb_of w9_59 rfl)⟩
theorem me_X11_next : sw_me yX11_next cX11_next 4 (some .int) 1 := ⟨(gtb_of w9_68 rfl), (gtb_of w1_14 rfl), ⟨by decide +kernel, by decide +kernel⟩, by decide +kernel, by decide⟩
theorem mv_X11_next : sw_mV yX11_next := ⟨(gtb_of w9_66 rfl), (gtb_of w9_67 rfl)⟩
theorem me_X11_harp : sw_me yX11_harp cX11_harp 4 (some .int) 1 := ⟨(gtb_of w9_72 rfl), (gtb_of w1_14 rfl), ⟨by decide +kernel, by decide +kernel⟩, by decide +kernel, by decide⟩
theorem mv_X11_harp : sw_mV yX11_harp := ⟨(gtb_of w9_70 rfl), (gtb_of w9_71 rfl)⟩
theorem me_X11_stuck : sw_me yX11_stuck cX11_stuck 5 (some .int) 0 := ⟨(gtb_of w9_76 rfl), (gtb_of w1_14 rfl), ⟨by decide +kernel, by decide +kernel⟩, by decide +kernel, by decide⟩
theorem mv_X11_stuck : sw_mV yX11_stuck := ⟨(gtb_of w9_74 rfl), (gtb_of w9_75 rfl)⟩
theorem me_X11_moved : sw_me yX11_moved cX11_moved 3 (some .int) 0 := ⟨(gtb_of w9_80 rfl), (gtb_of w1_14 rfl), ⟨by decide +kernel, by decide +kernel⟩, by decide +kernel, by decide⟩
theorem mv_X11_moved : sw_mV yX11_moved := ⟨(gtb_of w9_78 rfl), (gtb_of w9_79 rfl)⟩
theorem me_X11_gates : sw_me yX11_gates cX11_gates 6 (some .int) 2 := ⟨(gtb_of w9_84 rfl), (gtb_of w1_14 rfl), ⟨by decide +kernel, by decide +kernel⟩, by decide +kernel, by decide⟩
theorem mv_X11_gates : sw_mV yX11_gates := ⟨(gtb_of w9_82 rfl), (gtb_of w9_83 rfl)⟩
theorem me_X11_ground : sw_me yX11_ground cX11_ground 5 (some .int) 2 := ⟨(gtb_of w9_88 rfl), (gtb_of w1_14 rfl), ⟨by decide +kernel, by decide +kernel⟩, by decide +kernel, by decide⟩
theorem mv_X11_ground : sw_mV yX11_ground := ⟨(gtb_of w9_86 rfl), (gtb_of w9_87 rfl)⟩
theorem me_X11_freest : sw_me yX11_freest cX11_freest 6 (some .int) 1 := ⟨(gtb_of w9_92 rfl), (gtb_of w1_14 rfl), ⟨by decide +kernel, by decide +kernel⟩, by decide +kernel, by decide⟩
theorem mv_X11_freest : sw_mV yX11_freest := ⟨(gtb_of w9_90 rfl), (gtb_of w9_91 rfl)⟩
theorem me_X11_draws : sw_me yX11_draws cX11_draws 2 (some .int) 1 := ⟨(gtb_of w9_107 rfl), (gtb_of w1_14 rfl), ⟨by decide +kernel, by decide +kernel⟩, by decide +kernel, by decide⟩
theorem mv_X11_draws : sw_mV yX11_draws := ⟨(gtb_of w9_106 rfl), (gtb_sel (List.mem_of_getElem? (i := 102) rfl) rfl)⟩
theorem me_X11_autumnGoes : sw_me yX11_autumnGoes cX11_autumnGoes 7 none 3 := ⟨(gtb_of w9_103 rfl), (gtb_of w1_14 rfl), ⟨by decide +kernel, by decide +kernel⟩, by decide +kernel, by decide⟩
theorem mv_X11_autumnGoes : sw_mV yX11_autumnGoes := ⟨(gtb_of w9_102 rfl), (gtb_sel (List.mem_of_getElem? (i := 101) rfl) rfl)⟩
theorem me_X11_isAutumn : sw_me yX11_isAutumn cX11_isAutumn 2 (some .boolean) 2 := ⟨(gtb_of w9_99 rfl), (gtb_of w1_14 rfl), ⟨by decide +kernel, by decide +kernel⟩, by decide +kernel, by decide⟩
theorem ms_X11_isAutumn : Cond.static yX11_isAutumn ∈ gtb := (gtb_of w9_98 rfl)
theorem me_X11_autumn : sw_me yX11_autumn cX11_autumn 5 (some .int) 4 := ⟨(gtb_of w9_96 rfl), (gtb_of w1_14 rfl), ⟨by decide +kernel, by decide +kernel⟩, by decide +kernel, by decide⟩
theorem mv_X11_autumn : sw_mV yX11_autumn := ⟨(gtb_of w9_94 rfl), (gtb_of w9_95 rfl)⟩
theorem me_X11_span : sw_me yX11_span cX11_span 12 (some .int) 6 := ⟨(gtb_of w9_112 rfl), (gtb_of w1_14 rfl), ⟨by decide +kernel, by decide +kernel⟩, by decide +kernel, by decide⟩
theorem mv_X11_span : sw_mV yX11_span := ⟨(gtb_of w9_110 rfl), (gtb_of w9_111 rfl)⟩
theorem me_X11_keepsRow : sw_me yX11_keepsRow cX11_keepsRow 6 (some .int) 4 := ⟨(gtb_of w9_124 rfl), (gtb_of w1_14 rfl), ⟨by decide +kernel, by decide +kernel⟩, by decide +kernel, by decide⟩
theorem mv_X11_keepsRow : sw_mV yX11_keepsRow := ⟨(gtb_of w9_123 rfl), (gtb_sel (List.mem_of_getElem? (i := 104) rfl) rfl)⟩
theorem me_X11_keepsAll : sw_me yX11_keepsAll cX11_keepsAll 4 none 2 := ⟨(gtb_of w9_120 rfl), (gtb_of w1_14 rfl), ⟨by decide +kernel, by decide +kernel⟩, by decide +kernel, by decide⟩
theorem mv_X11_keepsAll : sw_mV yX11_keepsAll := ⟨(gtb_of w9_119 rfl), (gtb_sel (List.mem_of_getElem? (i := 103) rfl) rfl)⟩
theorem me_X11_image : sw_me yX11_image cX11_image 1 (some .int) 0 := ⟨(gtb_of w9_116 rfl), (gtb_of w1_14 rfl), ⟨by decide +kernel, by decide +kernel⟩, by decide +kernel, by decide⟩
theorem mv_X11_image : sw_mV yX11_image := ⟨(gtb_of w9_114 rfl), (gtb_of w9_115 rfl)⟩
theorem me_X11_restore : sw_me yX11_restore cX11_restore 1 (some .int) 0 := ⟨(gtb_of w9_128 rfl), (gtb_of w1_14 rfl), ⟨by decide +kernel, by decide +kernel⟩, by decide +kernel, by decide⟩
theorem mv_X11_restore : sw_mV yX11_restore := ⟨(gtb_of w9_126 rfl), (gtb_of w9_127 rfl)⟩
theorem me_X11_status : sw_me yX11_status cX11_status 2 (some .int) 1 := ⟨(gtb_of w9_132 rfl), (gtb_of w1_14 rfl), ⟨by decide +kernel, by decide +kernel⟩, by decide +kernel, by decide⟩
theorem mv_X11_status : sw_mV yX11_status := ⟨(gtb_of w9_130 rfl), (gtb_of w9_131 rfl)⟩
theorem me_X11_count : sw_me yX11_count cX11_count 2 (some .int) 1 := ⟨(gtb_of w9_136 rfl), (gtb_of w1_14 rfl), ⟨by decide +kernel, by decide +kernel⟩, by decide +kernel, by decide⟩
theorem mv_X11_count : sw_mV yX11_count := ⟨(gtb_of w9_134 rfl), (gtb_of w9_135 rfl)⟩
theorem me_J6_bitCount_0f7a4 : sw_me yJ6_bitCount_0f7a4 cJ6_bitCount_0f7a4 1 (some .int) 1 := ⟨(gtb_of w3_63 rfl), (gtb_of w1_23 rfl), ⟨by decide +kernel, by decide +kernel⟩, by decide +kernel, by decide⟩
theorem ms_J6_bitCount_0f7a4 : Cond.static yJ6_bitCount_0f7a4 ∈ gtb := (gtb_of w3_62 rfl)
theorem me_J9_max_7cf53 : sw_me yJ9_max_7cf53 cJ9_max_7cf53 2 (some .int) 2 := ⟨(gtb_of w4_217 rfl), (gtb_of w1_5 rfl), ⟨by decide +kernel, by decide +kernel⟩, by decide +kernel, by decide⟩
theorem ms_J9_max_7cf53 : Cond.static yJ9_max_7cf53 ∈ gtb := (gtb_of w4_216 rfl)
theorem me_J9_min_7cf53 : sw_me yJ9_min_7cf53 cJ9_min_7cf53 2 (some .int) 2 := ⟨(gtb_of w1_168 rfl), (gtb_of w1_5 rfl), ⟨by decide +kernel, by decide +kernel⟩, by decide +kernel, by decide⟩
theorem ms_J9_min_7cf53 : Cond.static yJ9_min_7cf53 ∈ gtb := (gtb_of w1_167 rfl)
theorem me_J0_length_8abf5 : sw_me yJ0_length_8abf5 cJ0_length_8abf5 1 (some .int) 0 := ⟨(gtb_of w3_235 rfl), (gtb_of w1_19 rfl), ⟨by decide +kernel, by decide +kernel⟩, by decide +kernel, by decide⟩
theorem mv_J0_length_8abf5 : sw_mV yJ0_length_8abf5 := ⟨(gtb_of w3_233 rfl), (gtb_of w3_234 rfl)⟩
theorem me_J0_charAt_5068e : sw_me yJ0_charAt_5068e cJ0_charAt_5068e 2 (some .char) 1 := ⟨(gtb_of w4_6 rfl), (gtb_of w1_19 rfl), ⟨by decide +kernel, by decide +kernel⟩, by decide +kernel, by decide⟩
theorem mv_J0_charAt_5068e : sw_mV yJ0_charAt_5068e := ⟨(gtb_of w4_4 rfl), (gtb_of w4_5 rfl)⟩
theorem me_J0_coder_7d493 : sw_me yJ0_coder_7d493 cJ0_coder_7d493 1 (some .byte) 0 := ⟨(gtb_of w3_239 rfl), (gtb_of w1_19 rfl), ⟨by decide +kernel, by decide +kernel⟩, by decide +kernel, by decide⟩
theorem mv_J0_coder_7d493 : sw_mV yJ0_coder_7d493 := ⟨(gtb_of w3_237 rfl), (gtb_of w3_238 rfl)⟩
theorem me_J0_isLatin1_aae02 : sw_me yJ0_isLatin1_aae02 cJ0_isLatin1_aae02 1 (some .boolean) 0 := ⟨(gtb_of w4_10 rfl), (gtb_of w1_19 rfl), ⟨by decide +kernel, by decide +kernel⟩, by decide +kernel, by decide⟩
theorem mv_J0_isLatin1_aae02 : sw_mV yJ0_isLatin1_aae02 := ⟨(gtb_of w4_8 rfl), (gtb_of w4_9 rfl)⟩
theorem me_J0_checkIndex_df160 : sw_me yJ0_checkIndex_df160 cJ0_checkIndex_df160 2 none 2 := ⟨(gtb_of w4_16 rfl), (gtb_of w1_19 rfl), ⟨by decide +kernel, by decide +kernel⟩, by decide +kernel, by decide⟩
theorem ms_J0_checkIndex_df160 : Cond.static yJ0_checkIndex_df160 ∈ gtb := (gtb_of w4_15 rfl)
theorem me_J1_charAt_3b067 : sw_me yJ1_charAt_3b067 cJ1_charAt_3b067 2 (some .char) 2 := ⟨(gtb_of w4_13 rfl), (gtb_of w1_20 rfl), ⟨by decide +kernel, by decide +kernel⟩, by decide +kernel, by decide⟩
theorem ms_J1_charAt_3b067 : Cond.static yJ1_charAt_3b067 ∈ gtb := (gtb_of w4_12 rfl)
theorem me_J2_getChar_3b067 : sw_me yJ2_getChar_3b067 cJ2_getChar_3b067 2 (some .char) 2 := ⟨(gtb_of w4_34 rfl), (gtb_of w1_22 rfl), ⟨by decide +kernel, by decide +kernel⟩, by decide +kernel, by decide⟩
theorem ms_J2_getChar_3b067 : Cond.static yJ2_getChar_3b067 ∈ gtb := (gtb_of w4_33 rfl)
theorem me_J2_length_9d52b : sw_me yJ2_length_9d52b cJ2_length_9d52b 1 (some .int) 1 := ⟨(gtb_of w4_30 rfl), (gtb_of w1_22 rfl), ⟨by decide +kernel, by decide +kernel⟩, by decide +kernel, by decide⟩
theorem ms_J2_length_9d52b : Cond.static yJ2_length_9d52b ∈ gtb := (gtb_of w4_29 rfl)
theorem me_J2_charAt_3b067 : sw_me yJ2_charAt_3b067 cJ2_charAt_3b067 2 (some .char) 2 := ⟨(gtb_of w4_24 rfl), (gtb_of w1_22 rfl), ⟨by decide +kernel, by decide +kernel⟩, by decide +kernel, by decide⟩
theorem ms_J2_charAt_3b067 : Cond.static yJ2_charAt_3b067 ∈ gtb := (gtb_of w4_23 rfl)
theorem me_J2_checkIndex_2214a : sw_me yJ2_checkIndex_2214a cJ2_checkIndex_2214a 2 none 2 := ⟨(gtb_of w4_27 rfl), (gtb_of w1_22 rfl), ⟨by decide +kernel, by decide +kernel⟩, by decide +kernel, by decide⟩
theorem ms_J2_checkIndex_2214a : Cond.static yJ2_checkIndex_2214a ∈ gtb := (gtb_of w4_26 rfl)
theorem me_J3_checkIndex_8e157 : sw_me yJ3_checkIndex_8e157 cJ3_checkIndex_8e157 3 (some .int) 3 := ⟨(gtb_of w4_21 rfl), (gtb_of w1_21 rfl), ⟨by decide +kernel, by decide +kernel⟩, by decide +kernel, by decide⟩
theorem ms_J3_checkIndex_8e157 : Cond.static yJ3_checkIndex_8e157 ∈ gtb := (gtb_of w4_20 rfl)
theorem ml_J0_335 : Cond.methodLink "java/lang/String" 335 yJ0_coder_7d493 ∈ gtb := (gtb_of w3_236 rfl)
theorem ml_J0_492 : Cond.methodLink "java/lang/String" 492 yJ0_isLatin1_aae02 ∈ gtb := (gtb_of w4_7 rfl)
theorem ml_J0_495 : Cond.methodLink "java/lang/String" 495 yJ1_charAt_3b067 ∈ gtb := (gtb_of w4_11 rfl)
theorem ml_J0_498 : Cond.methodLink "java/lang/String" 498 yJ2_charAt_3b067 ∈ gtb := (gtb_of w4_22 rfl)
theorem ml_J0_1059 : Cond.methodLink "java/lang/String" 1059 yJ3_checkIndex_8e157 ∈ gtb := (gtb_of w4_19 rfl)
theorem ml_J1_9 : Cond.methodLink "java/lang/StringLatin1" 9 yJ0_checkIndex_df160 ∈ gtb := (gtb_of w4_14 rfl)
theorem ml_J2_48 : Cond.methodLink "java/lang/StringUTF16" 48 yJ2_length_9d52b ∈ gtb := (gtb_of w4_28 rfl)
theorem ml_J2_67 : Cond.methodLink "java/lang/StringUTF16" 67 yJ2_checkIndex_2214a ∈ gtb := (gtb_of w4_25 rfl)
theorem ml_J2_71 : Cond.methodLink "java/lang/StringUTF16" 71 yJ2_getChar_3b067 ∈ gtb := (gtb_of w4_32 rfl)
theorem ml_J2_414 : Cond.methodLink "java/lang/StringUTF16" 414 yJ0_checkIndex_df160 ∈ gtb := (gtb_of w4_31 rfl)
theorem ml_L_7 : Cond.methodLink "DeadWiresLaw" 7 yX10_country ∈ gtb := (gtb_of w3_129 rfl)
theorem ml_L_15 : Cond.methodLink "DeadWiresLaw" 15 yX10_law ∈ gtb := (gtb_of w4_108 rfl)
theorem ml_L_18 : Cond.methodLink "DeadWiresLaw" 18 yX10_work ∈ gtb := (gtb_of w4_158 rfl)
theorem ml_L_21 : Cond.methodLink "DeadWiresLaw" 21 yX10_book ∈ gtb := (gtb_of w5_31 rfl)
theorem ml_L_24 : Cond.methodLink "DeadWiresLaw" 24 yX10_told ∈ gtb := (gtb_of w5_59 rfl)
theorem ml_L_27 : Cond.methodLink "DeadWiresLaw" 27 yX10_field ∈ gtb := (gtb_of w5_79 rfl)
theorem ml_L_33 : Cond.methodLink "DeadWiresLaw" 33 yX10_wire ∈ gtb := (gtb_of w5_121 rfl)
theorem ml_L_36 : Cond.methodLink "DeadWiresLaw" 36 yX10_thing ∈ gtb := (gtb_of w5_136 rfl)
theorem ml_L_39 : Cond.methodLink "DeadWiresLaw" 39 yX10_person ∈ gtb := (gtb_of w5_147 rfl)
theorem ml_L_42 : Cond.methodLink "DeadWiresLaw" 42 yX10_toll ∈ gtb := (gtb_of w5_163 rfl)
theorem ml_L_45 : Cond.methodLink "DeadWiresLaw" 45 yX10_would ∈ gtb := (gtb_of w5_171 rfl)
theorem ml_L_49 : Cond.methodLink "DeadWiresLaw" 49 yX10_can ∈ gtb := (gtb_of w5_180 rfl)
theorem ml_L_53 : Cond.methodLink "DeadWiresLaw" 53 yX10_ahead ∈ gtb := (gtb_of w5_188 rfl)
theorem ml_L_56 : Cond.methodLink "DeadWiresLaw" 56 yX10_arrives ∈ gtb := (gtb_of w5_203 rfl)
theorem ml_L_59 : Cond.methodLink "DeadWiresLaw" 59 yX10_waits ∈ gtb := (gtb_of w5_215 rfl)
theorem ml_L_62 : Cond.methodLink "DeadWiresLaw" 62 yX10_grant ∈ gtb := (gtb_of w5_227 rfl)
theorem ml_L_65 : Cond.methodLink "DeadWiresLaw" 65 yX10_pliers ∈ gtb := (gtb_of w5_238 rfl)
theorem ml_L_68 : Cond.methodLink "DeadWiresLaw" 68 yX10_haul ∈ gtb := (gtb_of w6_17 rfl)
theorem ml_L_71 : Cond.methodLink "DeadWiresLaw" 71 yX10_fits ∈ gtb := (gtb_of w6_34 rfl)
theorem ml_L_74 : Cond.methodLink "DeadWiresLaw" 74 yX10_look ∈ gtb := (gtb_of w6_61 rfl)
theorem ml_L_77 : Cond.methodLink "DeadWiresLaw" 77 yX10_parts ∈ gtb := (gtb_of w6_78 rfl)
theorem ml_L_80 : Cond.methodLink "DeadWiresLaw" 80 yX10_tingle ∈ gtb := (gtb_of w6_93 rfl)
theorem ml_L_84 : Cond.methodLink "DeadWiresLaw" 84 yX10_lean ∈ gtb := (gtb_of w6_106 rfl)
theorem ml_L_88 : Cond.methodLink "DeadWiresLaw" 88 yX10_grace ∈ gtb := (gtb_of w6_119 rfl)
theorem ml_L_91 : Cond.methodLink "DeadWiresLaw" 91 yX10_next ∈ gtb := (gtb_of w6_135 rfl)
theorem ml_L_94 : Cond.methodLink "DeadWiresLaw" 94 yX10_harp ∈ gtb := (gtb_of w6_146 rfl)
theorem ml_L_97 : Cond.methodLink "DeadWiresLaw" 97 yX10_gates ∈ gtb := (gtb_of w6_153 rfl)
theorem ml_L_100 : Cond.methodLink "DeadWiresLaw" 100 yX10_ground ∈ gtb := (gtb_of w6_161 rfl)
theorem ml_L_103 : Cond.methodLink "DeadWiresLaw" 103 yX10_freest ∈ gtb := (gtb_of w6_172 rfl)
theorem ml_L_106 : Cond.methodLink "DeadWiresLaw" 106 yX10_autumn ∈ gtb := (gtb_of w6_180 rfl)
theorem ml_L_110 : Cond.methodLink "DeadWiresLaw" 110 yX10_span ∈ gtb := (gtb_of w6_210 rfl)
theorem ml_L_114 : Cond.methodLink "DeadWiresLaw" 114 yX10_init ∈ gtb := (gtb_of w1_27 rfl)
theorem ml_L_117 : Cond.methodLink "DeadWiresLaw" 117 yX11_init ∈ gtb := (gtb_of w6_226 rfl)
theorem ml_L_118 : Cond.methodLink "DeadWiresLaw" 118 yX10_feed ∈ gtb := (gtb_of w2_215 rfl)
theorem ml_L_122 : Cond.methodLink "DeadWiresLaw" 122 yX11_feed ∈ gtb := (gtb_of w7_156 rfl)
theorem ml_L_123 : Cond.methodLink "DeadWiresLaw" 123 yL_country ∈ gtb := (gtb_of w3_125 rfl)
theorem ml_L_128 : Cond.methodLink "DeadWiresLaw" 128 yX11_country ∈ gtb := (gtb_of w7_164 rfl)
theorem ml_L_129 : Cond.methodLink "DeadWiresLaw" 129 yX11_thrown ∈ gtb := (gtb_of w6_220 rfl)
theorem ml_L_133 : Cond.methodLink "DeadWiresLaw" 133 yL_law ∈ gtb := (gtb_of w4_105 rfl)
theorem ml_L_135 : Cond.methodLink "DeadWiresLaw" 135 yX11_law ∈ gtb := (gtb_of w8_7 rfl)
theorem ml_L_136 : Cond.methodLink "DeadWiresLaw" 136 yL_work ∈ gtb := (gtb_of w4_155 rfl)
theorem ml_L_138 : Cond.methodLink "DeadWiresLaw" 138 yX11_work ∈ gtb := (gtb_of w8_47 rfl)
theorem ml_L_139 : Cond.methodLink "DeadWiresLaw" 139 yL_book ∈ gtb := (gtb_of w5_28 rfl)
theorem ml_L_141 : Cond.methodLink "DeadWiresLaw" 141 yX11_book ∈ gtb := (gtb_of w8_148 rfl)
theorem ml_L_142 : Cond.methodLink "DeadWiresLaw" 142 yX10_fault ∈ gtb := (gtb_of w2_227 rfl)
theorem ml_L_145 : Cond.methodLink "DeadWiresLaw" 145 yX11_fault ∈ gtb := (gtb_of w7_160 rfl)
theorem ml_L_146 : Cond.methodLink "DeadWiresLaw" 146 yX10_undo ∈ gtb := (gtb_of w2_231 rfl)
theorem ml_L_149 : Cond.methodLink "DeadWiresLaw" 149 yX11_undo ∈ gtb := (gtb_of w8_152 rfl)
theorem ml_L_150 : Cond.methodLink "DeadWiresLaw" 150 yL_told ∈ gtb := (gtb_of w5_56 rfl)
theorem ml_L_152 : Cond.methodLink "DeadWiresLaw" 152 yX11_told ∈ gtb := (gtb_of w8_156 rfl)
theorem ml_L_153 : Cond.methodLink "DeadWiresLaw" 153 yL_field ∈ gtb := (gtb_of w5_75 rfl)
theorem ml_L_156 : Cond.methodLink "DeadWiresLaw" 156 yX11_field ∈ gtb := (gtb_of w8_175 rfl)
theorem ml_L_157 : Cond.methodLink "DeadWiresLaw" 157 yL_wire ∈ gtb := (gtb_of w5_118 rfl)
theorem ml_L_159 : Cond.methodLink "DeadWiresLaw" 159 yX11_wire ∈ gtb := (gtb_of w8_191 rfl)
theorem ml_L_160 : Cond.methodLink "DeadWiresLaw" 160 yL_thing ∈ gtb := (gtb_of w5_133 rfl)
theorem ml_L_162 : Cond.methodLink "DeadWiresLaw" 162 yX11_thing ∈ gtb := (gtb_of w8_199 rfl)
theorem ml_L_163 : Cond.methodLink "DeadWiresLaw" 163 yL_person ∈ gtb := (gtb_of w5_144 rfl)
theorem ml_L_165 : Cond.methodLink "DeadWiresLaw" 165 yX11_person ∈ gtb := (gtb_of w8_203 rfl)
theorem ml_L_166 : Cond.methodLink "DeadWiresLaw" 166 yL_toll ∈ gtb := (gtb_of w5_160 rfl)
theorem ml_L_168 : Cond.methodLink "DeadWiresLaw" 168 yX11_toll ∈ gtb := (gtb_of w8_211 rfl)
theorem ml_L_169 : Cond.methodLink "DeadWiresLaw" 169 yL_would ∈ gtb := (gtb_of w5_168 rfl)
theorem ml_L_172 : Cond.methodLink "DeadWiresLaw" 172 yX11_would ∈ gtb := (gtb_of w8_215 rfl)
theorem ml_L_173 : Cond.methodLink "DeadWiresLaw" 173 yL_can ∈ gtb := (gtb_of w5_177 rfl)
theorem ml_L_175 : Cond.methodLink "DeadWiresLaw" 175 yX11_can ∈ gtb := (gtb_of w8_219 rfl)
theorem ml_L_176 : Cond.methodLink "DeadWiresLaw" 176 yL_ahead ∈ gtb := (gtb_of w5_185 rfl)
theorem ml_L_178 : Cond.methodLink "DeadWiresLaw" 178 yX11_ahead ∈ gtb := (gtb_of w8_223 rfl)
theorem ml_L_179 : Cond.methodLink "DeadWiresLaw" 179 yL_arrives ∈ gtb := (gtb_of w5_200 rfl)
theorem ml_L_181 : Cond.methodLink "DeadWiresLaw" 181 yX11_arrives ∈ gtb := (gtb_of w8_231 rfl)
theorem ml_L_182 : Cond.methodLink "DeadWiresLaw" 182 yL_waits ∈ gtb := (gtb_of w5_212 rfl)
theorem ml_L_184 : Cond.methodLink "DeadWiresLaw" 184 yX11_waits ∈ gtb := (gtb_of w8_239 rfl)
theorem ml_L_185 : Cond.methodLink "DeadWiresLaw" 185 yL_grant ∈ gtb := (gtb_of w5_224 rfl)
theorem ml_L_187 : Cond.methodLink "DeadWiresLaw" 187 yX11_grant ∈ gtb := (gtb_of w9_3 rfl)
theorem ml_L_188 : Cond.methodLink "DeadWiresLaw" 188 yL_pliers ∈ gtb := (gtb_of w5_235 rfl)
theorem ml_L_190 : Cond.methodLink "DeadWiresLaw" 190 yX11_pliers ∈ gtb := (gtb_of w9_7 rfl)
theorem ml_L_191 : Cond.methodLink "DeadWiresLaw" 191 yL_haul ∈ gtb := (gtb_of w6_14 rfl)
theorem ml_L_193 : Cond.methodLink "DeadWiresLaw" 193 yX11_haul ∈ gtb := (gtb_of w9_22 rfl)
theorem ml_L_194 : Cond.methodLink "DeadWiresLaw" 194 yL_fits ∈ gtb := (gtb_of w6_31 rfl)
theorem ml_L_196 : Cond.methodLink "DeadWiresLaw" 196 yX11_fits ∈ gtb := (gtb_of w9_26 rfl)
theorem ml_L_197 : Cond.methodLink "DeadWiresLaw" 197 yL_look ∈ gtb := (gtb_of w6_58 rfl)
theorem ml_L_199 : Cond.methodLink "DeadWiresLaw" 199 yX11_look ∈ gtb := (gtb_of w9_38 rfl)
theorem ml_L_200 : Cond.methodLink "DeadWiresLaw" 200 yL_parts ∈ gtb := (gtb_of w6_75 rfl)
theorem ml_L_202 : Cond.methodLink "DeadWiresLaw" 202 yX11_parts ∈ gtb := (gtb_of w9_18 rfl)
theorem ml_L_203 : Cond.methodLink "DeadWiresLaw" 203 yL_tingle ∈ gtb := (gtb_of w6_90 rfl)
theorem ml_L_206 : Cond.methodLink "DeadWiresLaw" 206 yX11_tingle ∈ gtb := (gtb_of w9_42 rfl)
theorem ml_L_207 : Cond.methodLink "DeadWiresLaw" 207 yL_lean ∈ gtb := (gtb_of w6_103 rfl)
theorem ml_L_209 : Cond.methodLink "DeadWiresLaw" 209 yX11_lean ∈ gtb := (gtb_of w9_50 rfl)
theorem ml_L_210 : Cond.methodLink "DeadWiresLaw" 210 yL_grace ∈ gtb := (gtb_of w6_116 rfl)
theorem ml_L_212 : Cond.methodLink "DeadWiresLaw" 212 yX11_grace ∈ gtb := (gtb_of w9_57 rfl)
theorem ml_L_213 : Cond.methodLink "DeadWiresLaw" 213 yL_next ∈ gtb := (gtb_of w6_132 rfl)
theorem ml_L_215 : Cond.methodLink "DeadWiresLaw" 215 yX11_next ∈ gtb := (gtb_of w9_65 rfl)
theorem ml_L_216 : Cond.methodLink "DeadWiresLaw" 216 yL_harp ∈ gtb := (gtb_of w6_143 rfl)
theorem ml_L_218 : Cond.methodLink "DeadWiresLaw" 218 yX11_harp ∈ gtb := (gtb_of w9_69 rfl)
theorem ml_L_219 : Cond.methodLink "DeadWiresLaw" 219 yX10_stuck ∈ gtb := (gtb_of w3_6 rfl)
theorem ml_L_222 : Cond.methodLink "DeadWiresLaw" 222 yX11_stuck ∈ gtb := (gtb_of w9_73 rfl)
theorem ml_L_223 : Cond.methodLink "DeadWiresLaw" 223 yX10_moved ∈ gtb := (gtb_of w3_88 rfl)
theorem ml_L_226 : Cond.methodLink "DeadWiresLaw" 226 yX11_moved ∈ gtb := (gtb_of w9_77 rfl)
theorem ml_L_227 : Cond.methodLink "DeadWiresLaw" 227 yL_gates ∈ gtb := (gtb_of w6_150 rfl)
theorem ml_L_229 : Cond.methodLink "DeadWiresLaw" 229 yX11_gates ∈ gtb := (gtb_of w9_81 rfl)
theorem ml_L_230 : Cond.methodLink "DeadWiresLaw" 230 yL_ground ∈ gtb := (gtb_of w6_158 rfl)
theorem ml_L_232 : Cond.methodLink "DeadWiresLaw" 232 yX11_ground ∈ gtb := (gtb_of w9_85 rfl)
theorem ml_L_233 : Cond.methodLink "DeadWiresLaw" 233 yL_freest ∈ gtb := (gtb_of w6_169 rfl)
theorem ml_L_235 : Cond.methodLink "DeadWiresLaw" 235 yX11_freest ∈ gtb := (gtb_of w9_89 rfl)
theorem ml_L_236 : Cond.methodLink "DeadWiresLaw" 236 yL_autumn ∈ gtb := (gtb_of w6_177 rfl)
theorem ml_L_239 : Cond.methodLink "DeadWiresLaw" 239 yX11_autumn ∈ gtb := (gtb_of w9_93 rfl)
theorem ml_L_240 : Cond.methodLink "DeadWiresLaw" 240 yL_span ∈ gtb := (gtb_of w6_207 rfl)
theorem ml_L_243 : Cond.methodLink "DeadWiresLaw" 243 yX11_span ∈ gtb := (gtb_of w9_109 rfl)
theorem ml_L_244 : Cond.methodLink "DeadWiresLaw" 244 yX10_image ∈ gtb := (gtb_of w3_96 rfl)
theorem ml_L_247 : Cond.methodLink "DeadWiresLaw" 247 yX11_image ∈ gtb := (gtb_of w9_113 rfl)
theorem ml_L_248 : Cond.methodLink "DeadWiresLaw" 248 yX10_restore ∈ gtb := (gtb_of w3_109 rfl)
theorem ml_L_251 : Cond.methodLink "DeadWiresLaw" 251 yX11_restore ∈ gtb := (gtb_of w9_125 rfl)
theorem ml_L_252 : Cond.methodLink "DeadWiresLaw" 252 yX10_status ∈ gtb := (gtb_of w3_117 rfl)
theorem ml_L_255 : Cond.methodLink "DeadWiresLaw" 255 yX11_status ∈ gtb := (gtb_of w9_129 rfl)
theorem ml_L_256 : Cond.methodLink "DeadWiresLaw" 256 yX10_count ∈ gtb := (gtb_of w3_121 rfl)
theorem ml_L_259 : Cond.methodLink "DeadWiresLaw" 259 yX11_count ∈ gtb := (gtb_of w9_133 rfl)
theorem ml_X0_27 : Cond.methodLink "DeadWires$Autumns" 27 yX2_init ∈ gtb := (gtb_of w2_154 rfl)
theorem ml_X0_33 : Cond.methodLink "DeadWires$Autumns" 33 yX2_save ∈ gtb := (gtb_of w6_188 rfl)
theorem ml_X0_37 : Cond.methodLink "DeadWires$Autumns" 37 yX2_load ∈ gtb := (gtb_of w6_189 rfl)
theorem ml_X0_52 : Cond.methodLink "DeadWires$Autumns" 52 yX0_drawSteps ∈ gtb := (gtb_of w6_190 rfl)
theorem ml_X0_56 : Cond.methodLink "DeadWires$Autumns" 56 yX2_passHour ∈ gtb := (gtb_of w6_202 rfl)
theorem ml_X0_59 : Cond.methodLink "DeadWires$Autumns" 59 yX0_draw ∈ gtb := (gtb_of w6_194 rfl)
theorem ml_X0_63 : Cond.methodLink "DeadWires$Autumns" 63 yX2_cross ∈ gtb := (gtb_of w6_199 rfl)
theorem ml_X0_70 : Cond.methodLink "DeadWires$Autumns" 70 yX2_lift ∈ gtb := (gtb_of w6_200 rfl)
theorem ml_X0_73 : Cond.methodLink "DeadWires$Autumns" 73 yX2_move ∈ gtb := (gtb_of w6_201 rfl)
theorem ml_X1_22 : Cond.methodLink "DeadWires$Book" 22 arraycopyName ∈ gtb := (gtb_of w5_55 rfl)
theorem ml_X1_33 : Cond.methodLink "DeadWires$Book" 33 yX1_readLine ∈ gtb := (gtb_of w5_39 rfl)
theorem ml_X1_40 : Cond.methodLink "DeadWires$Book" 40 yX1_tells ∈ gtb := (gtb_of w5_43 rfl)
theorem ml_X1_44 : Cond.methodLink "DeadWires$Book" 44 yX7_fail ∈ gtb := (gtb_of w5_47 rfl)
theorem ml_X1_47 : Cond.methodLink "DeadWires$Book" 47 yX7_takeNumber ∈ gtb := (gtb_of w5_48 rfl)
theorem ml_X1_51 : Cond.methodLink "DeadWires$Book" 51 yX7_takeSign ∈ gtb := (gtb_of w5_49 rfl)
theorem ml_X10_28 : Cond.methodLink "DeadWires" 28 yX5_init ∈ gtb := (gtb_of w1_151 rfl)
theorem ml_X10_48 : Cond.methodLink "DeadWires" 48 yX2_init ∈ gtb := (gtb_of w1_210 rfl)
theorem ml_X10_57 : Cond.methodLink "DeadWires" 57 yX9_init ∈ gtb := (gtb_of w2_36 rfl)
theorem ml_X10_66 : Cond.methodLink "DeadWires" 66 yX6_init ∈ gtb := (gtb_of w2_72 rfl)
theorem ml_X10_73 : Cond.methodLink "DeadWires" 73 yX8_init ∈ gtb := (gtb_of w2_99 rfl)
theorem ml_X10_80 : Cond.methodLink "DeadWires" 80 yX3_init ∈ gtb := (gtb_of w2_115 rfl)
theorem ml_X10_89 : Cond.methodLink "DeadWires" 89 yX0_init ∈ gtb := (gtb_of w2_149 rfl)
theorem ml_X10_94 : Cond.methodLink "DeadWires" 94 yX7_hasRoom ∈ gtb := (gtb_of w2_219 rfl)
theorem ml_X10_98 : Cond.methodLink "DeadWires" 98 yX7_add ∈ gtb := (gtb_of w2_223 rfl)
theorem ml_X10_106 : Cond.methodLink "DeadWires" 106 yX10_needText ∈ gtb := (gtb_of w3_133 rfl)
theorem ml_X10_110 : Cond.methodLink "DeadWires" 110 yX7_open ∈ gtb := (gtb_of w3_205 rfl)
theorem ml_X10_113 : Cond.methodLink "DeadWires" 113 yX4_read ∈ gtb := (gtb_of w3_219 rfl)
theorem ml_X10_120 : Cond.methodLink "DeadWires" 120 yX4_copy ∈ gtb := (gtb_of w4_89 rfl)
theorem ml_X10_124 : Cond.methodLink "DeadWires" 124 yX5_clear ∈ gtb := (gtb_of w4_94 rfl)
theorem ml_X10_127 : Cond.methodLink "DeadWires" 127 yX1_clear ∈ gtb := (gtb_of w4_95 rfl)
theorem ml_X10_128 : Cond.methodLink "DeadWires" 128 yX2_begin ∈ gtb := (gtb_of w4_99 rfl)
theorem ml_X10_131 : Cond.methodLink "DeadWires" 131 yX6_clear ∈ gtb := (gtb_of w4_100 rfl)
theorem ml_X10_138 : Cond.methodLink "DeadWires" 138 yX5_read ∈ gtb := (gtb_of w4_112 rfl)
theorem ml_X10_139 : Cond.methodLink "DeadWires" 139 yX5_copy ∈ gtb := (gtb_of w4_150 rfl)
theorem ml_X10_145 : Cond.methodLink "DeadWires" 145 yX7_drop ∈ gtb := (gtb_of w4_162 rfl)
theorem ml_X10_148 : Cond.methodLink "DeadWires" 148 yX9_read ∈ gtb := (gtb_of w4_163 rfl)
theorem ml_X10_149 : Cond.methodLink "DeadWires" 149 yX6_keep ∈ gtb := (gtb_of w4_202 rfl)
theorem ml_X10_152 : Cond.methodLink "DeadWires" 152 yX9_run ∈ gtb := (gtb_of w4_206 rfl)
theorem ml_X10_158 : Cond.methodLink "DeadWires" 158 yX1_read ∈ gtb := (gtb_of w5_35 rfl)
theorem ml_X10_159 : Cond.methodLink "DeadWires" 159 yX1_copy ∈ gtb := (gtb_of w5_51 rfl)
theorem ml_X10_168 : Cond.methodLink "DeadWires" 168 yX6_back ∈ gtb := (gtb_of w2_235 rfl)
theorem ml_X10_171 : Cond.methodLink "DeadWires" 171 yX10_needWhat ∈ gtb := (gtb_of w5_63 rfl)
theorem ml_X10_186 : Cond.methodLink "DeadWires" 186 yX2_liveBits ∈ gtb := (gtb_of w5_67 rfl)
theorem ml_X10_196 : Cond.methodLink "DeadWires" 196 yX2_carriedBits ∈ gtb := (gtb_of w5_71 rfl)
theorem ml_X10_203 : Cond.methodLink "DeadWires" 203 yX10_needField ∈ gtb := (gtb_of w5_83 rfl)
theorem ml_X10_206 : Cond.methodLink "DeadWires" 206 yX2_lyingBits ∈ gtb := (gtb_of w5_106 rfl)
theorem ml_X10_209 : Cond.methodLink "DeadWires" 209 yX2_peopleBits ∈ gtb := (gtb_of w5_107 rfl)
theorem ml_X10_212 : Cond.methodLink "DeadWires" 212 yX4_wiresAt ∈ gtb := (gtb_of w5_111 rfl)
theorem ml_X10_215 : Cond.methodLink "DeadWires" 215 yX8_spread ∈ gtb := (gtb_of w5_112 rfl)
theorem ml_X10_219 : Cond.methodLink "DeadWires" 219 yX10_needWire ∈ gtb := (gtb_of w5_125 rfl)
theorem ml_X10_226 : Cond.methodLink "DeadWires" 226 yX10_at ∈ gtb := (gtb_of w5_129 rfl)
theorem ml_X10_239 : Cond.methodLink "DeadWires" 239 yX2_isLive ∈ gtb := (gtb_of w5_130 rfl)
theorem ml_X10_243 : Cond.methodLink "DeadWires" 243 yX2_isCut ∈ gtb := (gtb_of w5_131 rfl)
theorem ml_X10_247 : Cond.methodLink "DeadWires" 247 yX2_hoursLeft ∈ gtb := (gtb_of w5_132 rfl)
theorem ml_X10_250 : Cond.methodLink "DeadWires" 250 yX10_within ∈ gtb := (gtb_of w3_138 rfl)
theorem ml_X10_254 : Cond.methodLink "DeadWires" 254 yX10_needThere ∈ gtb := (gtb_of w5_87 rfl)
theorem ml_X10_261 : Cond.methodLink "DeadWires" 261 yX2_placeOfThing ∈ gtb := (gtb_of w5_140 rfl)
theorem ml_X10_267 : Cond.methodLink "DeadWires" 267 yX10_needPerson ∈ gtb := (gtb_of w5_151 rfl)
theorem ml_X10_279 : Cond.methodLink "DeadWires" 279 yX2_loadOf ∈ gtb := (gtb_of w5_155 rfl)
theorem ml_X10_282 : Cond.methodLink "DeadWires" 282 yX2_carriedBy ∈ gtb := (gtb_of w5_156 rfl)
theorem ml_X10_285 : Cond.methodLink "DeadWires" 285 yX2_tollOf ∈ gtb := (gtb_of w5_167 rfl)
theorem ml_X10_289 : Cond.methodLink "DeadWires" 289 yX10_need ∈ gtb := (gtb_of w3_139 rfl)
theorem ml_X10_292 : Cond.methodLink "DeadWires" 292 yX5_setValues ∈ gtb := (gtb_of w5_175 rfl)
theorem ml_X10_296 : Cond.methodLink "DeadWires" 296 yX5_reckon ∈ gtb := (gtb_of w5_176 rfl)
theorem ml_X10_299 : Cond.methodLink "DeadWires" 299 yX2_canCross ∈ gtb := (gtb_of w5_184 rfl)
theorem ml_X10_302 : Cond.methodLink "DeadWires" 302 yX2_tiredTogether ∈ gtb := (gtb_of w5_192 rfl)
theorem ml_X10_305 : Cond.methodLink "DeadWires" 305 yX2_wireLiveAt ∈ gtb := (gtb_of w5_196 rfl)
theorem ml_X10_308 : Cond.methodLink "DeadWires" 308 yX8_hoursTo ∈ gtb := (gtb_of w5_207 rfl)
theorem ml_X10_312 : Cond.methodLink "DeadWires" 312 yX8_longestWait ∈ gtb := (gtb_of w5_219 rfl)
theorem ml_X10_315 : Cond.methodLink "DeadWires" 315 yX8_leastGrant ∈ gtb := (gtb_of w5_231 rfl)
theorem ml_X10_318 : Cond.methodLink "DeadWires" 318 yX8_fewestCuts ∈ gtb := (gtb_of w6_2 rfl)
theorem ml_X10_321 : Cond.methodLink "DeadWires" 321 yX2_bestHaul ∈ gtb := (gtb_of w6_21 rfl)
theorem ml_X10_324 : Cond.methodLink "DeadWires" 324 yX4_weightOf ∈ gtb := (gtb_of w6_30 rfl)
theorem ml_X10_327 : Cond.methodLink "DeadWires" 327 yX3_collect ∈ gtb := (gtb_of w6_38 rfl)
theorem ml_X10_333 : Cond.methodLink "DeadWires" 333 yX3_firstPair ∈ gtb := (gtb_of w6_54 rfl)
theorem ml_X10_336 : Cond.methodLink "DeadWires" 336 yX3_chooseLook ∈ gtb := (gtb_of w6_65 rfl)
theorem ml_X10_345 : Cond.methodLink "DeadWires" 345 yX8_setsOfFields ∈ gtb := (gtb_of w6_82 rfl)
theorem ml_X10_348 : Cond.methodLink "DeadWires" 348 yX10_power ∈ gtb := (gtb_of w6_97 rfl)
theorem ml_X10_352 : Cond.methodLink "DeadWires" 352 yX10_greatestDivisor ∈ gtb := (gtb_of w6_100 rfl)
theorem ml_X10_356 : Cond.methodLink "DeadWires" 356 yX10_rests ∈ gtb := (gtb_of w6_110 rfl)
theorem ml_X10_360 : Cond.methodLink "DeadWires" 360 yX10_gain ∈ gtb := (gtb_of w6_113 rfl)
theorem ml_X10_363 : Cond.methodLink "DeadWires" 363 yX10_has ∈ gtb := (gtb_of w6_123 rfl)
theorem ml_X10_366 : Cond.methodLink "DeadWires" 366 yX2_graceBound ∈ gtb := (gtb_of w6_124 rfl)
theorem ml_X10_369 : Cond.methodLink "DeadWires" 369 yJ9_min_7cf53 ∈ gtb := (gtb_of w3_137 rfl)
theorem ml_X10_374 : Cond.methodLink "DeadWires" 374 yX2_nextWire ∈ gtb := (gtb_of w6_139 rfl)
theorem ml_X10_377 : Cond.methodLink "DeadWires" 377 yX2_canCrossAny ∈ gtb := (gtb_of w3_10 rfl)
theorem ml_X10_380 : Cond.methodLink "DeadWires" 380 yX2_movedBits ∈ gtb := (gtb_of w3_92 rfl)
theorem ml_X10_383 : Cond.methodLink "DeadWires" 383 yX4_wireBitsAt ∈ gtb := (gtb_of w6_157 rfl)
theorem ml_X10_386 : Cond.methodLink "DeadWires" 386 yX8_fieldsWithin ∈ gtb := (gtb_of w6_165 rfl)
theorem ml_X10_389 : Cond.methodLink "DeadWires" 389 yX2_freeOf ∈ gtb := (gtb_of w6_176 rfl)
theorem ml_X10_392 : Cond.methodLink "DeadWires" 392 yX0_go ∈ gtb := (gtb_of w6_184 rfl)
theorem ml_X10_396 : Cond.methodLink "DeadWires" 396 yX0_crossings ∈ gtb := (gtb_of w6_203 rfl)
theorem ml_X10_401 : Cond.methodLink "DeadWires" 401 yJ9_max_7cf53 ∈ gtb := (gtb_of w6_214 rfl)
theorem ml_X10_404 : Cond.methodLink "DeadWires" 404 yX0_isElsewhere ∈ gtb := (gtb_of w6_215 rfl)
theorem ml_X10_410 : Cond.methodLink "DeadWires" 410 yX6_keepImage ∈ gtb := (gtb_of w3_100 rfl)
theorem ml_X10_413 : Cond.methodLink "DeadWires" 413 yX6_bringImage ∈ gtb := (gtb_of w3_113 rfl)
theorem ml_X11_86 : Cond.methodLink "DeadWiresModel" 86 yX11_clears ∈ gtb := (gtb_of w6_230 rfl)
theorem ml_X11_89 : Cond.methodLink "DeadWiresModel" 89 yX11_sets ∈ gtb := (gtb_of w6_234 rfl)
theorem ml_X11_107 : Cond.methodLink "DeadWiresModel" 107 yX11_here ∈ gtb := (gtb_of w7_184 rfl)
theorem ml_X11_111 : Cond.methodLink "DeadWiresModel" 111 yX11_isSmall ∈ gtb := (gtb_of w7_192 rfl)
theorem ml_X11_115 : Cond.methodLink "DeadWiresModel" 115 yJ0_length_8abf5 ∈ gtb := (gtb_of w7_202 rfl)
theorem ml_X11_120 : Cond.methodLink "DeadWiresModel" 120 yJ0_charAt_5068e ∈ gtb := (gtb_of w7_203 rfl)
theorem ml_X11_124 : Cond.methodLink "DeadWiresModel" 124 yX11_fine ∈ gtb := (gtb_of w7_176 rfl)
theorem ml_X11_128 : Cond.methodLink "DeadWiresModel" 128 yX11_isDigit ∈ gtb := (gtb_of w7_228 rfl)
theorem ml_X11_131 : Cond.methodLink "DeadWiresModel" 131 yX11_wrong ∈ gtb := (gtb_of w7_208 rfl)
theorem ml_X11_165 : Cond.methodLink "DeadWiresModel" 165 yX11_copies ∈ gtb := (gtb_of w6_238 rfl)
theorem ml_X11_184 : Cond.methodLink "DeadWiresModel" 184 yX11_readNumber ∈ gtb := (gtb_of w7_224 rfl)
theorem ml_X11_188 : Cond.methodLink "DeadWiresModel" 188 yX11_readField ∈ gtb := (gtb_of w7_235 rfl)
theorem ml_X11_192 : Cond.methodLink "DeadWiresModel" 192 yX11_of ∈ gtb := (gtb_of w7_199 rfl)
theorem ml_X11_201 : Cond.methodLink "DeadWiresModel" 201 yX11_readWire ∈ gtb := (gtb_of w7_231 rfl)
theorem ml_X11_204 : Cond.methodLink "DeadWiresModel" 204 yX11_may ∈ gtb := (gtb_of w7_168 rfl)
theorem ml_X11_208 : Cond.methodLink "DeadWiresModel" 208 yX11_begins ∈ gtb := (gtb_of w7_172 rfl)
theorem ml_X11_212 : Cond.methodLink "DeadWiresModel" 212 yX11_isMore ∈ gtb := (gtb_of w7_180 rfl)
theorem ml_X11_215 : Cond.methodLink "DeadWiresModel" 215 yX11_word ∈ gtb := (gtb_of w7_188 rfl)
theorem ml_X11_218 : Cond.methodLink "DeadWiresModel" 218 yX11_isRow ∈ gtb := (gtb_of w7_195 rfl)
theorem ml_X11_221 : Cond.methodLink "DeadWiresModel" 221 yX11_isFull ∈ gtb := (gtb_of w7_212 rfl)
theorem ml_X11_224 : Cond.methodLink "DeadWiresModel" 224 yX11_pass ∈ gtb := (gtb_of w7_216 rfl)
theorem ml_X11_227 : Cond.methodLink "DeadWiresModel" 227 yX11_readRow ∈ gtb := (gtb_of w7_220 rfl)
theorem ml_X11_230 : Cond.methodLink "DeadWiresModel" 230 yX11_sign ∈ gtb := (gtb_of w7_239 rfl)
theorem ml_X11_233 : Cond.methodLink "DeadWiresModel" 233 yX11_result ∈ gtb := (gtb_of w8_3 rfl)
theorem ml_X11_240 : Cond.methodLink "DeadWiresModel" 240 yX11_readProduct ∈ gtb := (gtb_of w8_15 rfl)
theorem ml_X11_243 : Cond.methodLink "DeadWiresModel" 243 yX11_emit ∈ gtb := (gtb_of w8_27 rfl)
theorem ml_X11_246 : Cond.methodLink "DeadWiresModel" 246 yX11_readUnit ∈ gtb := (gtb_of w8_19 rfl)
theorem ml_X11_249 : Cond.methodLink "DeadWiresModel" 249 yX11_opensOne ∈ gtb := (gtb_of w8_23 rfl)
theorem ml_X11_252 : Cond.methodLink "DeadWiresModel" 252 yX11_readSum ∈ gtb := (gtb_of w8_11 rfl)
theorem ml_X11_268 : Cond.methodLink "DeadWiresModel" 268 yX11_readTwo ∈ gtb := (gtb_of w8_32 rfl)
theorem ml_X11_273 : Cond.methodLink "DeadWiresModel" 273 yX11_factHere ∈ gtb := (gtb_of w8_37 rfl)
theorem ml_X11_276 : Cond.methodLink "DeadWiresModel" 276 yX11_both ∈ gtb := (gtb_of w8_133 rfl)
theorem ml_X11_280 : Cond.methodLink "DeadWiresModel" 280 yX11_valueNow ∈ gtb := (gtb_of w8_129 rfl)
theorem ml_X11_286 : Cond.methodLink "DeadWiresModel" 286 yX11_tellsStep ∈ gtb := (gtb_of w8_55 rfl)
theorem ml_X11_302 : Cond.methodLink "DeadWiresModel" 302 yX11_readStep ∈ gtb := (gtb_of w8_51 rfl)
theorem ml_X11_305 : Cond.methodLink "DeadWiresModel" 305 yX11_take ∈ gtb := (gtb_of w8_65 rfl)
theorem ml_X11_317 : Cond.methodLink "DeadWiresModel" 317 yX11_goesSteps ∈ gtb := (gtb_of w8_69 rfl)
theorem ml_X11_320 : Cond.methodLink "DeadWiresModel" 320 yX11_isDone ∈ gtb := (gtb_of w8_73 rfl)
theorem ml_X11_324 : Cond.methodLink "DeadWiresModel" 324 yX11_isAt ∈ gtb := (gtb_of w8_105 rfl)
theorem ml_X11_328 : Cond.methodLink "DeadWiresModel" 328 yX11_heldBy ∈ gtb := (gtb_of w8_85 rfl)
theorem ml_X11_331 : Cond.methodLink "DeadWiresModel" 331 yX11_weightOf ∈ gtb := (gtb_of w8_89 rfl)
theorem ml_X11_334 : Cond.methodLink "DeadWiresModel" 334 yX11_tollNow ∈ gtb := (gtb_of w8_125 rfl)
theorem ml_X11_337 : Cond.methodLink "DeadWiresModel" 337 yX11_loadOf ∈ gtb := (gtb_of w8_81 rfl)
theorem ml_X11_340 : Cond.methodLink "DeadWiresModel" 340 yX11_leftOf ∈ gtb := (gtb_of w8_113 rfl)
theorem ml_X11_343 : Cond.methodLink "DeadWiresModel" 343 yX11_wiresAt ∈ gtb := (gtb_of w8_117 rfl)
theorem ml_X11_346 : Cond.methodLink "DeadWiresModel" 346 yX11_tollOf ∈ gtb := (gtb_of w8_121 rfl)
theorem ml_X11_350 : Cond.methodLink "DeadWiresModel" 350 yX11_isLive ∈ gtb := (gtb_of w8_101 rfl)
theorem ml_X11_353 : Cond.methodLink "DeadWiresModel" 353 yX11_tollBy ∈ gtb := (gtb_of w8_109 rfl)
theorem ml_X11_356 : Cond.methodLink "DeadWiresModel" 356 yX11_canCross ∈ gtb := (gtb_of w8_97 rfl)
theorem ml_X11_359 : Cond.methodLink "DeadWiresModel" 359 yX11_lifts ∈ gtb := (gtb_of w8_77 rfl)
theorem ml_X11_362 : Cond.methodLink "DeadWiresModel" 362 yX11_crosses ∈ gtb := (gtb_of w8_93 rfl)
theorem ml_X11_365 : Cond.methodLink "DeadWiresModel" 365 yX11_moves ∈ gtb := (gtb_of w8_136 rfl)
theorem ml_X11_368 : Cond.methodLink "DeadWiresModel" 368 yX11_clips ∈ gtb := (gtb_of w8_140 rfl)
theorem ml_X11_371 : Cond.methodLink "DeadWiresModel" 371 yX11_goesOn ∈ gtb := (gtb_of w8_144 rfl)
theorem ml_X11_374 : Cond.methodLink "DeadWiresModel" 374 yX11_within ∈ gtb := (gtb_of w8_160 rfl)
theorem ml_X11_377 : Cond.methodLink "DeadWiresModel" 377 yX11_liveIn ∈ gtb := (gtb_of w8_163 rfl)
theorem ml_X11_380 : Cond.methodLink "DeadWiresModel" 380 yX11_cutNow ∈ gtb := (gtb_of w8_167 rfl)
theorem ml_X11_383 : Cond.methodLink "DeadWiresModel" 383 yX11_carried ∈ gtb := (gtb_of w8_171 rfl)
theorem ml_X11_386 : Cond.methodLink "DeadWiresModel" 386 yX11_isField ∈ gtb := (gtb_of w8_179 rfl)
theorem ml_X11_389 : Cond.methodLink "DeadWiresModel" 389 yX11_lyingIn ∈ gtb := (gtb_of w8_183 rfl)
theorem ml_X11_392 : Cond.methodLink "DeadWiresModel" 392 yX11_onFrom ∈ gtb := (gtb_of w8_187 rfl)
theorem ml_X11_395 : Cond.methodLink "DeadWiresModel" 395 yX11_isWire ∈ gtb := (gtb_of w8_195 rfl)
theorem ml_X11_398 : Cond.methodLink "DeadWiresModel" 398 yX11_isPerson ∈ gtb := (gtb_of w8_207 rfl)
theorem ml_X11_401 : Cond.methodLink "DeadWiresModel" 401 yX11_tiredAll ∈ gtb := (gtb_of w8_227 rfl)
theorem ml_X11_404 : Cond.methodLink "DeadWiresModel" 404 yX11_comesIn ∈ gtb := (gtb_of w8_235 rfl)
theorem ml_X11_408 : Cond.methodLink "DeadWiresModel" 408 yX11_ones ∈ gtb := (gtb_of w9_11 rfl)
theorem ml_X11_411 : Cond.methodLink "DeadWiresModel" 411 yX11_partOf ∈ gtb := (gtb_of w9_14 rfl)
theorem ml_X11_414 : Cond.methodLink "DeadWiresModel" 414 yX11_manyLive ∈ gtb := (gtb_of w9_34 rfl)
theorem ml_X11_417 : Cond.methodLink "DeadWiresModel" 417 yX11_isFit ∈ gtb := (gtb_of w9_30 rfl)
theorem ml_X11_422 : Cond.methodLink "DeadWiresModel" 422 yX11_least ∈ gtb := (gtb_of w9_47 rfl)
theorem ml_X11_425 : Cond.methodLink "DeadWiresModel" 425 yX11_hasBy ∈ gtb := (gtb_of w9_54 rfl)
theorem ml_X11_428 : Cond.methodLink "DeadWiresModel" 428 yX11_graceBy ∈ gtb := (gtb_of w9_61 rfl)
theorem ml_X11_435 : Cond.methodLink "DeadWiresModel" 435 yX11_draws ∈ gtb := (gtb_of w9_104 rfl)
theorem ml_X11_438 : Cond.methodLink "DeadWiresModel" 438 yX11_isAutumn ∈ gtb := (gtb_of w9_97 rfl)
theorem ml_X11_441 : Cond.methodLink "DeadWiresModel" 441 yX11_autumnGoes ∈ gtb := (gtb_of w9_100 rfl)
theorem ml_X11_444 : Cond.methodLink "DeadWiresModel" 444 yX11_keepsRow ∈ gtb := (gtb_of w9_121 rfl)
theorem ml_X11_448 : Cond.methodLink "DeadWiresModel" 448 yX11_keepsAll ∈ gtb := (gtb_of w9_117 rfl)
theorem ml_X2_35 : Cond.methodLink "DeadWires$Days" 35 yX2_begin ∈ gtb := (gtb_of w1_214 rfl)
theorem ml_X2_59 : Cond.methodLink "DeadWires$Days" 59 arraycopyName ∈ gtb := (gtb_of w1_218 rfl)
theorem ml_X2_75 : Cond.methodLink "DeadWires$Days" 75 yX2_isCut ∈ gtb := (gtb_of w3_26 rfl)
theorem ml_X2_86 : Cond.methodLink "DeadWires$Days" 86 yX2_isLive ∈ gtb := (gtb_of w3_22 rfl)
theorem ml_X2_94 : Cond.methodLink "DeadWires$Days" 94 yX2_givenBy ∈ gtb := (gtb_of w6_128 rfl)
theorem ml_X2_101 : Cond.methodLink "DeadWires$Days" 101 yX2_hoursLeft ∈ gtb := (gtb_of w3_46 rfl)
theorem ml_X2_105 : Cond.methodLink "DeadWires$Days" 105 yJ9_min_7cf53 ∈ gtb := (gtb_of w5_14 rfl)
theorem ml_X2_122 : Cond.methodLink "DeadWires$Days" 122 yX2_loadOf ∈ gtb := (gtb_of w3_42 rfl)
theorem ml_X2_125 : Cond.methodLink "DeadWires$Days" 125 yJ9_max_7cf53 ∈ gtb := (gtb_of w5_27 rfl)
theorem ml_X2_128 : Cond.methodLink "DeadWires$Days" 128 yX2_lyingBits ∈ gtb := (gtb_of w4_230 rfl)
theorem ml_X2_131 : Cond.methodLink "DeadWires$Days" 131 yX2_freeOf ∈ gtb := (gtb_of w4_237 rfl)
theorem ml_X2_134 : Cond.methodLink "DeadWires$Days" 134 yX4_weightOf ∈ gtb := (gtb_of w6_25 rfl)
theorem ml_X2_137 : Cond.methodLink "DeadWires$Days" 137 yX4_wiresAt ∈ gtb := (gtb_of w3_53 rfl)
theorem ml_X2_140 : Cond.methodLink "DeadWires$Days" 140 yX5_setValues ∈ gtb := (gtb_of w3_67 rfl)
theorem ml_X2_146 : Cond.methodLink "DeadWires$Days" 146 yX5_reckon ∈ gtb := (gtb_of w3_71 rfl)
theorem ml_X2_150 : Cond.methodLink "DeadWires$Days" 150 yX4_across ∈ gtb := (gtb_of w3_33 rfl)
theorem ml_X2_153 : Cond.methodLink "DeadWires$Days" 153 yX2_isOpenTo ∈ gtb := (gtb_of w3_18 rfl)
theorem ml_X2_156 : Cond.methodLink "DeadWires$Days" 156 yX2_tollOf ∈ gtb := (gtb_of w3_38 rfl)
theorem ml_X2_159 : Cond.methodLink "DeadWires$Days" 159 yX2_canCross ∈ gtb := (gtb_of w3_14 rfl)
theorem ml_X2_166 : Cond.methodLink "DeadWires$Days" 166 yX2_passHour ∈ gtb := (gtb_of w5_23 rfl)
theorem ml_X3_41 : Cond.methodLink "DeadWires$Guess" 41 yX2_liveBits ∈ gtb := (gtb_of w6_42 rfl)
theorem ml_X3_47 : Cond.methodLink "DeadWires$Guess" 47 yJ6_bitCount_0f7a4 ∈ gtb := (gtb_of w6_43 rfl)
theorem ml_X3_64 : Cond.methodLink "DeadWires$Guess" 64 yX2_isCut ∈ gtb := (gtb_of w6_44 rfl)
theorem ml_X3_68 : Cond.methodLink "DeadWires$Guess" 68 yX3_agrees ∈ gtb := (gtb_of w6_45 rfl)
theorem ml_X3_72 : Cond.methodLink "DeadWires$Guess" 72 yX3_lost ∈ gtb := (gtb_of w6_49 rfl)
theorem ml_X3_92 : Cond.methodLink "DeadWires$Guess" 92 yX1_tells ∈ gtb := (gtb_of w6_69 rfl)
theorem ml_X3_95 : Cond.methodLink "DeadWires$Guess" 95 yX3_worstAt ∈ gtb := (gtb_of w6_70 rfl)
theorem ml_X3_98 : Cond.methodLink "DeadWires$Guess" 98 yJ9_max_7cf53 ∈ gtb := (gtb_of w6_74 rfl)
theorem ml_X4_49 : Cond.methodLink "DeadWires$Land" 49 arraycopyName ∈ gtb := (gtb_of w4_93 rfl)
theorem ml_X4_55 : Cond.methodLink "DeadWires$Land" 55 yX4_wireBitsAt ∈ gtb := (gtb_of w3_57 rfl)
theorem ml_X4_59 : Cond.methodLink "DeadWires$Land" 59 yJ6_bitCount_0f7a4 ∈ gtb := (gtb_of w3_61 rfl)
theorem ml_X4_77 : Cond.methodLink "DeadWires$Land" 77 yX4_readClause ∈ gtb := (gtb_of w3_223 rfl)
theorem ml_X4_81 : Cond.methodLink "DeadWires$Land" 81 yX7_takeSign ∈ gtb := (gtb_of w4_85 rfl)
theorem ml_X4_86 : Cond.methodLink "DeadWires$Land" 86 yX7_isWord ∈ gtb := (gtb_of w3_228 rfl)
theorem ml_X4_90 : Cond.methodLink "DeadWires$Land" 90 yX7_takeUnless ∈ gtb := (gtb_of w4_41 rfl)
theorem ml_X4_94 : Cond.methodLink "DeadWires$Land" 94 yX4_readFields ∈ gtb := (gtb_of w4_49 rfl)
theorem ml_X4_100 : Cond.methodLink "DeadWires$Land" 100 yX4_readWire ∈ gtb := (gtb_of w4_59 rfl)
theorem ml_X4_105 : Cond.methodLink "DeadWires$Land" 105 yX4_readThing ∈ gtb := (gtb_of w4_71 rfl)
theorem ml_X4_110 : Cond.methodLink "DeadWires$Land" 110 yX4_readPerson ∈ gtb := (gtb_of w4_76 rfl)
theorem ml_X4_115 : Cond.methodLink "DeadWires$Land" 115 yX4_readPliers ∈ gtb := (gtb_of w4_81 rfl)
theorem ml_X4_118 : Cond.methodLink "DeadWires$Land" 118 yX7_fail ∈ gtb := (gtb_of w4_68 rfl)
theorem ml_X4_121 : Cond.methodLink "DeadWires$Land" 121 yX7_takeNumber ∈ gtb := (gtb_of w4_53 rfl)
theorem ml_X4_128 : Cond.methodLink "DeadWires$Land" 128 yX4_isWired ∈ gtb := (gtb_of w4_63 rfl)
theorem ml_X4_135 : Cond.methodLink "DeadWires$Land" 135 yX4_across ∈ gtb := (gtb_of w4_67 rfl)
theorem ml_X5_24 : Cond.methodLink "DeadWires$Law" 24 yX5_clear ∈ gtb := (gtb_of w1_155 rfl)
theorem ml_X5_31 : Cond.methodLink "DeadWires$Law" 31 yX5_add ∈ gtb := (gtb_of w1_159 rfl)
theorem ml_X5_35 : Cond.methodLink "DeadWires$Law" 35 arraycopyName ∈ gtb := (gtb_of w4_154 rfl)
theorem ml_X5_45 : Cond.methodLink "DeadWires$Law" 45 yJ9_min_7cf53 ∈ gtb := (gtb_of w1_166 rfl)
theorem ml_X5_51 : Cond.methodLink "DeadWires$Law" 51 yX5_readSum ∈ gtb := (gtb_of w4_116 rfl)
theorem ml_X5_60 : Cond.methodLink "DeadWires$Law" 60 yX7_fail ∈ gtb := (gtb_of w4_148 rfl)
theorem ml_X5_64 : Cond.methodLink "DeadWires$Law" 64 yX5_readProduct ∈ gtb := (gtb_of w4_120 rfl)
theorem ml_X5_67 : Cond.methodLink "DeadWires$Law" 67 yX7_advance ∈ gtb := (gtb_of w4_149 rfl)
theorem ml_X5_70 : Cond.methodLink "DeadWires$Law" 70 yX5_readUnit ∈ gtb := (gtb_of w4_124 rfl)
theorem ml_X5_73 : Cond.methodLink "DeadWires$Law" 73 yX7_takeNumber ∈ gtb := (gtb_of w4_128 rfl)
theorem ml_X5_76 : Cond.methodLink "DeadWires$Law" 76 yX7_takeUnless ∈ gtb := (gtb_of w4_129 rfl)
theorem ml_X5_80 : Cond.methodLink "DeadWires$Law" 80 yX7_takeSign ∈ gtb := (gtb_of w4_130 rfl)
theorem ml_X5_85 : Cond.methodLink "DeadWires$Law" 85 yX7_isWord ∈ gtb := (gtb_of w4_132 rfl)
theorem ml_X5_89 : Cond.methodLink "DeadWires$Law" 89 yX5_readChoice ∈ gtb := (gtb_of w4_133 rfl)
theorem ml_X5_94 : Cond.methodLink "DeadWires$Law" 94 yX5_nameHere ∈ gtb := (gtb_of w4_138 rfl)
theorem ml_X5_115 : Cond.methodLink "DeadWires$Law" 115 yX5_push ∈ gtb := (gtb_of w3_75 rfl)
theorem ml_X5_123 : Cond.methodLink "DeadWires$Law" 123 yX5_pop ∈ gtb := (gtb_of w3_80 rfl)
theorem ml_X5_127 : Cond.methodLink "DeadWires$Law" 127 yX5_join ∈ gtb := (gtb_of w3_84 rfl)
theorem ml_X6_34 : Cond.methodLink "DeadWires$Shelf" 34 yX2_save ∈ gtb := (gtb_of w3_104 rfl)
theorem ml_X6_38 : Cond.methodLink "DeadWires$Shelf" 38 yX2_load ∈ gtb := (gtb_of w2_239 rfl)
theorem ml_X6_41 : Cond.methodLink "DeadWires$Shelf" 41 arraycopyName ∈ gtb := (gtb_of w3_108 rfl)
theorem ml_X7_28 : Cond.methodLink "DeadWires$Tape" 28 yX7_drop ∈ gtb := (gtb_of w3_209 rfl)
theorem ml_X7_41 : Cond.methodLink "DeadWires$Tape" 41 yX7_advance ∈ gtb := (gtb_of w3_214 rfl)
theorem ml_X7_51 : Cond.methodLink "DeadWires$Tape" 51 yJ0_length_8abf5 ∈ gtb := (gtb_of w3_232 rfl)
theorem ml_X7_60 : Cond.methodLink "DeadWires$Tape" 60 yJ0_charAt_5068e ∈ gtb := (gtb_of w4_3 rfl)
theorem ml_X7_64 : Cond.methodLink "DeadWires$Tape" 64 yX7_fail ∈ gtb := (gtb_of w4_45 rfl)
theorem ml_X8_32 : Cond.methodLink "DeadWires$Ways" 32 yX2_isCut ∈ gtb := (gtb_of w5_116 rfl)
theorem ml_X8_52 : Cond.methodLink "DeadWires$Ways" 52 yX8_spread ∈ gtb := (gtb_of w5_211 rfl)
theorem ml_X8_56 : Cond.methodLink "DeadWires$Ways" 56 yX8_hoursTo ∈ gtb := (gtb_of w5_223 rfl)
theorem ml_X8_63 : Cond.methodLink "DeadWires$Ways" 63 yX8_setAround ∈ gtb := (gtb_of w6_86 rfl)
theorem ml_X8_68 : Cond.methodLink "DeadWires$Ways" 68 yX8_cheapen ∈ gtb := (gtb_of w6_7 rfl)
theorem ml_X8_76 : Cond.methodLink "DeadWires$Ways" 76 yJ9_min_7cf53 ∈ gtb := (gtb_of w6_12 rfl)
theorem ml_X9_36 : Cond.methodLink "DeadWires$Work" 36 yX9_readSteps ∈ gtb := (gtb_of w4_167 rfl)
theorem ml_X9_45 : Cond.methodLink "DeadWires$Work" 45 yX7_fail ∈ gtb := (gtb_of w4_201 rfl)
theorem ml_X9_49 : Cond.methodLink "DeadWires$Work" 49 yX9_readStep ∈ gtb := (gtb_of w4_171 rfl)
theorem ml_X9_52 : Cond.methodLink "DeadWires$Work" 52 yX7_takeSign ∈ gtb := (gtb_of w4_200 rfl)
theorem ml_X9_57 : Cond.methodLink "DeadWires$Work" 57 yX7_isWord ∈ gtb := (gtb_of w4_176 rfl)
theorem ml_X9_69 : Cond.methodLink "DeadWires$Work" 69 yX9_readTwo ∈ gtb := (gtb_of w4_177 rfl)
theorem ml_X9_84 : Cond.methodLink "DeadWires$Work" 84 yX7_advance ∈ gtb := (gtb_of w4_181 rfl)
theorem ml_X9_87 : Cond.methodLink "DeadWires$Work" 87 yX7_takeNumber ∈ gtb := (gtb_of w4_182 rfl)
theorem ml_X9_91 : Cond.methodLink "DeadWires$Work" 91 yX9_add ∈ gtb := (gtb_of w4_183 rfl)
theorem ml_X9_99 : Cond.methodLink "DeadWires$Work" 99 yX9_readAgain ∈ gtb := (gtb_of w4_195 rfl)
theorem ml_X9_102 : Cond.methodLink "DeadWires$Work" 102 yX7_takeUnless ∈ gtb := (gtb_of w4_199 rfl)
theorem ml_X9_110 : Cond.methodLink "DeadWires$Work" 110 yJ9_min_7cf53 ∈ gtb := (gtb_of w4_188 rfl)
theorem ml_X9_124 : Cond.methodLink "DeadWires$Work" 124 yX9_runSteps ∈ gtb := (gtb_of w4_210 rfl)
theorem ml_X9_132 : Cond.methodLink "DeadWires$Work" 132 yJ9_max_7cf53 ∈ gtb := (gtb_of w4_215 rfl)
theorem ml_X9_135 : Cond.methodLink "DeadWires$Work" 135 yX9_runAgain ∈ gtb := (gtb_of w4_218 rfl)
theorem ml_X9_138 : Cond.methodLink "DeadWires$Work" 138 yX9_runStep ∈ gtb := (gtb_of w4_222 rfl)
theorem ml_X9_141 : Cond.methodLink "DeadWires$Work" 141 yX2_lift ∈ gtb := (gtb_of w4_226 rfl)
theorem ml_X9_144 : Cond.methodLink "DeadWires$Work" 144 yX2_setDown ∈ gtb := (gtb_of w5_2 rfl)
theorem ml_X9_147 : Cond.methodLink "DeadWires$Work" 147 yX2_cross ∈ gtb := (gtb_of w5_6 rfl)
theorem ml_X9_149 : Cond.methodLink "DeadWires$Work" 149 yX2_move ∈ gtb := (gtb_of w5_10 rfl)
theorem ml_X9_151 : Cond.methodLink "DeadWires$Work" 151 yX2_cut ∈ gtb := (gtb_of w5_15 rfl)
theorem ml_X9_153 : Cond.methodLink "DeadWires$Work" 153 yX2_hourStep ∈ gtb := (gtb_of w5_19 rfl)
theorem mn_X10_9 : Cond.methodLinkNest "DeadWires" 9 yX7_init "DeadWires" ∈ tables_1 := w1_35
theorem mn_X10_18 : Cond.methodLinkNest "DeadWires" 18 yX4_init "DeadWires" ∈ tables_1 := w1_79
theorem mn_X10_38 : Cond.methodLinkNest "DeadWires" 38 yX1_init "DeadWires" ∈ tables_1 := w1_190
theorem mn_X0_83 : Cond.methodLinkNest "DeadWires$Autumns" 83 yX10_at "DeadWires" ∈ tables_1 := w6_219
theorem mn_X1_54 : Cond.methodLinkNest "DeadWires$Book" 54 yX10_put "DeadWires" ∈ tables_1 := w5_50
theorem mn_X2_71 : Cond.methodLinkNest "DeadWires$Days" 71 yX10_within "DeadWires" ∈ tables_1 := w3_3
theorem mn_X2_79 : Cond.methodLinkNest "DeadWires$Days" 79 yX10_at "DeadWires" ∈ tables_1 := w3_30
theorem mn_X2_90 : Cond.methodLinkNest "DeadWires$Days" 90 yX10_clamp "DeadWires" ∈ tables_1 := w3_50
theorem mn_X2_98 : Cond.methodLinkNest "DeadWires$Days" 98 yX10_has "DeadWires" ∈ tables_1 := w4_234
theorem mn_X2_162 : Cond.methodLinkNest "DeadWires$Days" 162 yX10_put "DeadWires" ∈ tables_1 := w5_1
theorem mn_X3_79 : Cond.methodLinkNest "DeadWires$Guess" 79 yX10_at "DeadWires" ∈ tables_1 := w6_53
theorem mn_X4_64 : Cond.methodLinkNest "DeadWires$Land" 64 yX10_at "DeadWires" ∈ tables_1 := w3_37
theorem mn_X4_68 : Cond.methodLinkNest "DeadWires$Land" 68 yX10_has "DeadWires" ∈ tables_1 := w6_29
theorem mn_X4_131 : Cond.methodLinkNest "DeadWires$Land" 131 yX10_put "DeadWires" ∈ tables_1 := w4_69
theorem mn_X5_41 : Cond.methodLinkNest "DeadWires$Law" 41 yX10_put "DeadWires" ∈ tables_1 := w1_163
theorem mn_X5_119 : Cond.methodLinkNest "DeadWires$Law" 119 yX10_at "DeadWires" ∈ tables_1 := w3_79
theorem mn_X5_131 : Cond.methodLinkNest "DeadWires$Law" 131 yX10_clamp "DeadWires" ∈ tables_1 := w3_87
theorem mn_X7_31 : Cond.methodLinkNest "DeadWires$Tape" 31 yX10_clamp "DeadWires" ∈ tables_1 := w3_213
theorem mn_X7_56 : Cond.methodLinkNest "DeadWires$Tape" 56 yX10_at "DeadWires" ∈ tables_1 := w4_2
theorem mn_X7_68 : Cond.methodLinkNest "DeadWires$Tape" 68 yX10_within "DeadWires" ∈ tables_1 := w4_57
theorem mn_X8_42 : Cond.methodLinkNest "DeadWires$Ways" 42 yX10_has "DeadWires" ∈ tables_1 := w5_117
theorem mn_X8_72 : Cond.methodLinkNest "DeadWires$Ways" 72 yX10_at "DeadWires" ∈ tables_1 := w6_11
theorem mn_X8_81 : Cond.methodLinkNest "DeadWires$Ways" 81 yX10_put "DeadWires" ∈ tables_1 := w6_13
theorem mn_X9_106 : Cond.methodLinkNest "DeadWires$Work" 106 yX10_put "DeadWires" ∈ tables_1 := w4_187
theorem mn_X9_128 : Cond.methodLinkNest "DeadWires$Work" 128 yX10_at "DeadWires" ∈ tables_1 := w4_214
theorem ac_n : Cond.native arraycopyName ∈ gtb := (gtb_of w1_220 rfl)
theorem ac_s : Cond.static arraycopyName ∈ gtb := (gtb_of w1_219 rfl)
theorem ac_i : Cond.initialized "java/lang/System" ∈ gtb := (gtb_of w1_8 rfl)
theorem ko_X0_76 : Cond.constant "DeadWires$Autumns" 76 (1103515245) ∈ gtb := (gtb_of w6_198 rfl)
theorem ko_X7_50 : Cond.constant "DeadWires$Tape" 50 (1000000) ∈ gtb := (gtb_of w3_218 rfl)
theorem ko_X8_67 : Cond.constant "DeadWires$Ways" 67 (1073741824) ∈ gtb := (gtb_of w6_6 rfl)
theorem ko_X11_420 : Cond.constantLong "DeadWiresModel" 420 (16) ∈ gtb := (gtb_of w9_46 rfl)
theorem ko_X11_434 : Cond.constant "DeadWiresModel" 434 (1103515245) ∈ gtb := (gtb_of w9_108 rfl)
theorem ko_J6_265 : Cond.constant "java/lang/Integer" 265 (1431655765) ∈ gtb := (gtb_of w3_64 rfl)
theorem ko_J6_266 : Cond.constant "java/lang/Integer" 266 (858993459) ∈ gtb := (gtb_of w3_65 rfl)
theorem ko_J6_267 : Cond.constant "java/lang/Integer" 267 (252645135) ∈ gtb := (gtb_of w3_66 rfl)
theorem sr_X4_85 : Cond.stringRef "DeadWires$Land" 85 "fields" ∈ tables_1 := w3_227
theorem sr_X4_98 : Cond.stringRef "DeadWires$Land" 98 "wire" ∈ tables_1 := w4_58
theorem sr_X4_103 : Cond.stringRef "DeadWires$Land" 103 "thing" ∈ tables_1 := w4_70
theorem sr_X4_108 : Cond.stringRef "DeadWires$Land" 108 "person" ∈ tables_1 := w4_75
theorem sr_X4_113 : Cond.stringRef "DeadWires$Land" 113 "pliers" ∈ tables_1 := w4_80
theorem sr_X5_83 : Cond.stringRef "DeadWires$Law" 83 "least" ∈ tables_1 := w4_131
theorem sr_X5_92 : Cond.stringRef "DeadWires$Law" 92 "most" ∈ tables_1 := w4_137
theorem sr_X5_98 : Cond.stringRef "DeadWires$Law" 98 "load" ∈ tables_1 := w4_141
theorem sr_X5_100 : Cond.stringRef "DeadWires$Law" 100 "strong" ∈ tables_1 := w4_142
theorem sr_X5_102 : Cond.stringRef "DeadWires$Law" 102 "tired" ∈ tables_1 := w4_143
theorem sr_X5_104 : Cond.stringRef "DeadWires$Law" 104 "left" ∈ tables_1 := w4_144
theorem sr_X5_106 : Cond.stringRef "DeadWires$Law" 106 "hour" ∈ tables_1 := w4_145
theorem sr_X5_108 : Cond.stringRef "DeadWires$Law" 108 "wires" ∈ tables_1 := w4_146
theorem sr_X5_110 : Cond.stringRef "DeadWires$Law" 110 "person" ∈ tables_1 := w4_147
theorem sr_X9_55 : Cond.stringRef "DeadWires$Work" 55 "lift" ∈ tables_1 := w4_175
theorem sr_X9_73 : Cond.stringRef "DeadWires$Work" 73 "set" ∈ tables_1 := w4_189
theorem sr_X9_75 : Cond.stringRef "DeadWires$Work" 75 "cross" ∈ tables_1 := w4_190
theorem sr_X9_80 : Cond.stringRef "DeadWires$Work" 80 "move" ∈ tables_1 := w4_191
theorem sr_X9_82 : Cond.stringRef "DeadWires$Work" 82 "cut" ∈ tables_1 := w4_192
theorem sr_X9_95 : Cond.stringRef "DeadWires$Work" 95 "hour" ∈ tables_1 := w4_193
theorem sr_X9_97 : Cond.stringRef "DeadWires$Work" 97 "again" ∈ tables_1 := w4_194
theorem sr_X11_191 : Cond.stringRef "DeadWiresModel" 191 "fields" ∈ tables_1 := w7_198
theorem sr_X11_196 : Cond.stringRef "DeadWiresModel" 196 "wire" ∈ tables_1 := w7_204
theorem sr_X11_197 : Cond.stringRef "DeadWiresModel" 197 "thing" ∈ tables_1 := w7_205
theorem sr_X11_198 : Cond.stringRef "DeadWiresModel" 198 "person" ∈ tables_1 := w7_206
theorem sr_X11_199 : Cond.stringRef "DeadWiresModel" 199 "pliers" ∈ tables_1 := w7_207
theorem sr_X11_255 : Cond.stringRef "DeadWiresModel" 255 "load" ∈ tables_1 := w8_41
theorem sr_X11_257 : Cond.stringRef "DeadWiresModel" 257 "strong" ∈ tables_1 := w8_42
theorem sr_X11_259 : Cond.stringRef "DeadWiresModel" 259 "tired" ∈ tables_1 := w8_43
theorem sr_X11_261 : Cond.stringRef "DeadWiresModel" 261 "left" ∈ tables_1 := w8_44
theorem sr_X11_263 : Cond.stringRef "DeadWiresModel" 263 "hour" ∈ tables_1 := w8_45
theorem sr_X11_265 : Cond.stringRef "DeadWiresModel" 265 "wires" ∈ tables_1 := w8_46
theorem sr_X11_266 : Cond.stringRef "DeadWiresModel" 266 "least" ∈ tables_1 := w8_31
theorem sr_X11_271 : Cond.stringRef "DeadWiresModel" 271 "most" ∈ tables_1 := w8_36
theorem sr_X11_290 : Cond.stringRef "DeadWiresModel" 290 "lift" ∈ tables_1 := w8_59
theorem sr_X11_292 : Cond.stringRef "DeadWiresModel" 292 "set" ∈ tables_1 := w8_60
theorem sr_X11_294 : Cond.stringRef "DeadWiresModel" 294 "cross" ∈ tables_1 := w8_61
theorem sr_X11_296 : Cond.stringRef "DeadWiresModel" 296 "move" ∈ tables_1 := w8_62
theorem sr_X11_298 : Cond.stringRef "DeadWiresModel" 298 "cut" ∈ tables_1 := w8_63
theorem sr_X11_300 : Cond.stringRef "DeadWiresModel" 300 "again" ∈ tables_1 := w8_64
theorem fj_38 : (Jvm.Cond.fieldLink "java/lang/String" (38 : Nat) "java/lang/String" "COMPACT_STRINGS" "Z") ∈ gtb := (gtb_of w4_0 rfl)
theorem fj_1053 : (Jvm.Cond.fieldLink "java/lang/String" (1053 : Nat) "jdk/internal/util/Preconditions" "SIOOBE_FORMATTER" "Ljava/util/function/BiFunction;") ∈ gtb := (gtb_of w4_17 rfl)
theorem fj_9 : (Jvm.Cond.fieldLink "java/lang/String" (9 : Nat) "java/lang/String" "value" "[B") ∈ gtb := (gtb_of w9_155 rfl)
theorem fj_15 : (Jvm.Cond.fieldLink "java/lang/String" (15 : Nat) "java/lang/String" "coder" "B") ∈ gtb := (gtb_of w9_156 rfl)
