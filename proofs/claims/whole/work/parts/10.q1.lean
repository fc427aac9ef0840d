/-! Printed by a program of ours: the checks of the tables, decided by the kernel, method by method. -/
theorem q_r0 : p_tb0.all (sn_row (p_y0, prog_2_method_1_code, 1, none, 1, 20)) = true := by decide +kernel
theorem q_r1 : p_tb1.all (sn_row (p_y1, prog_2_method_2_code, 2, none, 0, 0)) = true := by decide +kernel
theorem q_r2 : p_tb2.all (sn_row (p_y2, prog_2_method_3_code, 3, some .boolean, 0, 0)) = true := by decide +kernel
theorem q_r3 : p_tb3.all (sn_row (p_y3, prog_2_method_4_code, 1, some .int, 0, 0)) = true := by decide +kernel
theorem q_r4 : p_tb4.all (sn_row (p_y4, prog_2_method_5_code, 2, none, 0, 0)) = true := by decide +kernel
theorem q_r5 : p_tb5.all (sn_row (p_y5, prog_3_method_1_code, 1, none, 2, 42)) = true := by decide +kernel
theorem q_r6 : p_tb6.all (sn_row (p_y6, prog_3_method_2_code, 7, none, 3, 83)) = true := by decide +kernel
theorem q_r7 : p_tb7.all (sn_row (p_y7, prog_4_method_1_code, 1, none, 2, 42)) = true := by decide +kernel
theorem q_r8 : p_tb8.all (sn_row (p_y8, prog_4_method_2_code, 6, some .boolean, 3, 83)) = true := by decide +kernel
theorem q_r9 : p_tb9.all (sn_row (p_y9, prog_4_method_3_code, 5, some .boolean, 2, 44)) = true := by decide +kernel
theorem q_r10 : p_tb10.all (sn_row (p_y10, prog_5_method_1_code, 3, none, 4, 80)) = true := by decide +kernel
theorem q_r11 : p_tb11.all (sn_row (p_y11, prog_5_method_2_code, 3, some .boolean, 0, 0)) = true := by decide +kernel
theorem q_r12 : p_tb12.all (sn_row (p_y12, prog_5_method_3_code, 2, some (.object "TwoStepOutputs$Part"), 3, 64)) = true := by decide +kernel
theorem q_r13 : p_tb13.all (sn_row (p_y13, prog_5_method_4_code, 3, some .int, 3, 64)) = true := by decide +kernel
theorem q_r14 : p_tb14.all (sn_row (p_y14, prog_5_method_5_code, 1, some .boolean, 0, 0)) = true := by decide +kernel
theorem q_r15 : p_tb15.all (sn_row (p_y15, prog_5_method_6_code, 3, some .boolean, 5, 108)) = true := by decide +kernel
theorem q_r16 : p_tb16.all (sn_row (p_y16, prog_5_method_7_code, 4, some .boolean, 4, 85)) = true := by decide +kernel
theorem q_r17 : p_tb17.all (sn_row (p_y17, prog_5_method_8_code, 4, some .boolean, 4, 85)) = true := by decide +kernel
theorem q_r18 : p_tb18.all (sn_row (p_y18, prog_5_method_9_code, 3, some .boolean, 4, 85)) = true := by decide +kernel
theorem q_r19 : p_tb19.all (sn_row (p_y19, prog_5_method_10_code, 6, some .boolean, 3, 64)) = true := by decide +kernel
theorem q_r20 : p_tb20.all (sn_row (p_y20, prog_6_method_1_code, 3, none, 1, 20)) = true := by decide +kernel
theorem q_r21 : p_tb21.all (sn_row (p_y21, prog_7_method_1_code, 2, none, 1, 20)) = true := by decide +kernel
theorem q_r22 : p_tb22.all (sn_row (p_y22, prog_7_method_2_code, 4, some .int, 2, 44)) = true := by decide +kernel
theorem q_r23 : p_tb23.all (sn_row (p_y23, prog_8_method_1_code, 2, none, 1, 21)) = true := by decide +kernel
theorem q_r24 : p_tb24.all (sn_row (p_y24, prog_8_method_2_code, 1, some .int, 0, 0)) = true := by decide +kernel
theorem q_r25 : p_tb25.all (sn_row (p_y25, prog_8_method_3_code, 3, some .boolean, 0, 0)) = true := by decide +kernel
theorem q_r26 : p_tb26.all (sn_row (p_y26, prog_8_method_4_code, 3, some .int, 1, 22)) = true := by decide +kernel
theorem q_r27 : p_tb27.all (sn_row (p_y27, prog_8_method_5_code, 4, none, 1, 22)) = true := by decide +kernel
theorem q_r28 : p_tb28.all (sn_row (p_y28, prog_8_method_6_code, 2, some .int, 2, 62)) = true := by decide +kernel
theorem q_r29 : p_tb29.all (sn_row (p_y29, prog_9_method_1_code, 1, none, 1, 23)) = true := by decide +kernel
theorem q_r30 : p_tb30.all (sn_row (p_y30, prog_9_method_2_code, 2, some .boolean, 1, 20)) = true := by decide +kernel
theorem q_r31 : p_tb31.all (sn_row (p_y31, prog_9_method_3_code, 6, some .boolean, 2, 41)) = true := by decide +kernel
theorem q_r32 : p_tb32.all (sn_row (p_y32, prog_1_method_1_code, 1, none, 4, 80)) = true := by decide +kernel
theorem q_r33 : p_tb33.all (sn_row (p_y33, prog_1_method_2_code, 3, some .int, 7, 171)) = true := by decide +kernel
theorem q_r34 : p_tb34.all (sn_row (p_y34, prog_1_method_3_code, 5, some .int, 4, 85)) = true := by decide +kernel
theorem q_r35 : p_tb35.all (sn_row (p_y35, prog_1_method_4_code, 3, some .int, 9, 220)) = true := by decide +kernel
theorem q_r36 : p_tb36.all (sn_row (p_y36, prog_1_method_5_code, 2, some .int, 9, 209)) = true := by decide +kernel
theorem q_r37 : p_tb37.all (sn_row (p_y37, prog_1_method_6_code, 1, some .int, 9, 209)) = true := by decide +kernel
theorem q_r38 : p_tb38.all (sn_row (p_y38, prog_1_method_7_code, 3, some .int, 8, 184)) = true := by decide +kernel
theorem q_r39 : p_tb39.all (sn_row (p_y39, prog_1_method_8_code, 3, some .int, 9, 220)) = true := by decide +kernel
theorem q_r40 : p_tb40.all (sn_row (p_y40, prog_1_method_9_code, 5, some .int, 4, 85)) = true := by decide +kernel
theorem q_r41 : p_tb41.all (sn_row (p_y41, prog_1_method_10_code, 2, some .int, 0, 0)) = true := by decide +kernel
theorem q_r42 : p_tb42.all (sn_row (p_y42, prog_1_method_11_code, 2, some .int, 9, 209)) = true := by decide +kernel
theorem q_r43 : p_tb43.all (sn_row (p_y43, prog_1_method_12_code, 4, some .int, 4, 86)) = true := by decide +kernel
theorem q_r44 : p_tb44.all (sn_row (p_y44, prog_1_method_13_code, 6, some .int, 4, 85)) = true := by decide +kernel
theorem q_r45 : p_tb45.all (sn_row (p_y45, prog_1_method_14_code, 5, some .long, 4, 85)) = true := by decide +kernel
theorem q_r46 : p_tb46.all (sn_row (p_y46, prog_1_method_15_code, 5, some .long, 4, 85)) = true := by decide +kernel
theorem q_r47 : p_tb47.all (sn_row (p_y47, prog_1_method_16_code, 3, some .int, 7, 171)) = true := by decide +kernel
theorem q_r48 : p_tb48.all (sn_row (p_y48, prog_1_method_17_code, 4, some .int, 4, 85)) = true := by decide +kernel
theorem q_r49 : p_tb49.all (sn_row (p_y49, prog_1_method_18_code, 4, some .int, 4, 85)) = true := by decide +kernel
theorem q_r50 : p_tb50.all (sn_row (p_y50, prog_1_method_19_code, 3, some .int, 2, 44)) = true := by decide +kernel
theorem q_r51 : p_tb51.all (sn_row (p_y51, prog_1_method_20_code, 2, some .int, 2, 41)) = true := by decide +kernel
theorem q_r52 : p_tb52.all (sn_row (p_y52, prog_1_method_21_code, 7, some .int, 6, 130)) = true := by decide +kernel
theorem q_r53 : p_tb53.all (sn_row (p_y53, prog_1_method_22_code, 2, some (.object "TwoStepOutputs$Output"), 3, 64)) = true := by decide +kernel
theorem q_r54 : p_tb54.all (sn_row (p_y54, prog_1_method_23_code, 2, some (.object "TwoStepOutputs$Reader"), 3, 64)) = true := by decide +kernel
theorem q_r55 : p_tb55.all (sn_row (p_y55, prog_1_method_24_code, 1, some .boolean, 0, 0)) = true := by decide +kernel
theorem q_r56 : p_tb56.all (sn_row (p_y56, prog_1_method_25_code, 1, some .boolean, 0, 0)) = true := by decide +kernel
theorem q_r57 : p_tb57.all (sn_row (p_y57, prog_1_method_26_code, 1, some .int, 1, 21)) = true := by decide +kernel
theorem q_r58 : p_tb58.all (sn_row (p_y58, prog_1_method_27_code, 1, some .boolean, 4, 85)) = true := by decide +kernel
theorem q_r59 : p_tb59.all (sn_row (p_y59, prog_1_method_28_code, 2, none, 3, 64)) = true := by decide +kernel
theorem q_r60 : p_tb60.all (sn_row (p_y60, prog_1_method_29_code, 6, some .boolean, 5, 109)) = true := by decide +kernel
theorem q_r61 : p_tb61.all (sn_row (p_y61, prog_1_method_30_code, 2, some .int, 4, 87)) = true := by decide +kernel
theorem q_r62 : p_tb62.all (sn_row (p_y62, prog_1_method_31_code, 4, some .int, 3, 64)) = true := by decide +kernel
theorem q_r63 : p_tb63.all (sn_row (p_y63, prog_1_method_32_code, 6, some .int, 8, 195)) = true := by decide +kernel
theorem q_r64 : p_tb64.all (sn_row (p_y64, prog_1_method_33_code, 5, some .boolean, 7, 171)) = true := by decide +kernel
theorem q_r65 : p_tb65.all (sn_row (p_y65, prog_1_method_34_code, 3, some .boolean, 6, 134)) = true := by decide +kernel
theorem q_r66 : p_tb66.all (sn_row (p_y66, prog_1_method_35_code, 4, some .int, 8, 186)) = true := by decide +kernel
theorem q_r67 : p_tb67.all (sn_row (p_y67, prog_1_method_36_code, 6, some .int, 7, 161)) = true := by decide +kernel
theorem q_r68 : p_tb68.all (sn_row (p_y68, prog_1_method_37_code, 8, some .int, 6, 134)) = true := by decide +kernel
theorem q_r69 : p_tb69.all (sn_row (p_y69, prog_1_method_38_code, 6, some .int, 7, 159)) = true := by decide +kernel
theorem q_r70 : p_tb70.all (sn_row (p_y70, prog_1_method_39_code, 6, some .int, 6, 134)) = true := by decide +kernel
