/-! Printed by a program of ours: the checks of the tables, decided by the kernel, method by method. -/
theorem q_r71 : p_tb71.all (sn_row (p_y71, prog_11_method_1_code, 2, none, 1, 20)) = true := by decide +kernel
theorem q_r72 : p_tb72.all (sn_row (p_y72, prog_11_method_2_code, 2, some .int, 0, 0)) = true := by decide +kernel
theorem q_r73 : p_tb73.all (sn_row (p_y73, prog_11_method_3_code, 2, some .int, 0, 0)) = true := by decide +kernel
theorem q_r74 : p_tb74.all (sn_row (p_y74, prog_11_method_4_code, 3, some .boolean, 0, 0)) = true := by decide +kernel
theorem q_r75 : p_tb75.all (sn_row (p_y75, prog_11_method_5_code, 2, some .boolean, 1, 22)) = true := by decide +kernel
theorem q_r76 : p_tb76.all (sn_row (p_y76, prog_11_method_6_code, 1, some .boolean, 1, 21)) = true := by decide +kernel
theorem q_r77 : p_tb77.all (sn_row (p_y77, prog_11_method_7_code, 2, none, 0, 0)) = true := by decide +kernel
theorem q_r78 : p_tb78.all (sn_row (p_y78, prog_11_method_8_code, 6, some .boolean, 2, 41)) = true := by decide +kernel
theorem q_r79 : p_tb79.all (sn_row (p_y79, prog_11_method_9_code, 5, some .int, 0, 0)) = true := by decide +kernel
theorem q_r80 : p_tb80.all (sn_row (p_y80, prog_11_method_10_code, 5, some .int, 0, 0)) = true := by decide +kernel
theorem q_r81 : p_tb81.all (sn_row (p_y81, prog_11_method_11_code, 4, some .int, 0, 0)) = true := by decide +kernel
theorem q_r82 : p_tb82.all (sn_row (p_y82, prog_11_method_12_code, 2, some .int, 1, 22)) = true := by decide +kernel
theorem q_r83 : p_tb83.all (sn_row (p_y83, prog_11_method_13_code, 5, some .int, 2, 43)) = true := by decide +kernel
theorem q_r84 : p_tb84.all (sn_row (p_y84, prog_11_method_14_code, 1, some .int, 1, 21)) = true := by decide +kernel
theorem q_r85 : p_tb85.all (sn_row (p_y85, prog_11_method_15_code, 5, some .int, 2, 41)) = true := by decide +kernel
theorem q_r86 : p_tb86.all (sn_row (p_y86, prog_11_method_16_code, 7, some .int, 3, 66)) = true := by decide +kernel
theorem q_r87 : p_tb87.all (sn_row (p_y87, prog_11_method_17_code, 3, some .int, 4, 92)) = true := by decide +kernel
theorem q_r88 : p_tb88.all (sn_row (p_y88, prog_11_method_18_code, 4, some .int, 5, 117)) = true := by decide +kernel
theorem q_r89 : p_tb89.all (sn_row (p_y89, prog_11_method_19_code, 1, some .int, 5, 117)) = true := by decide +kernel
theorem q_r90 : p_tb90.all (sn_row (p_y90, prog_11_method_20_code, 6, some .int, 4, 92)) = true := by decide +kernel
theorem q_r91 : p_tb91.all (sn_row (p_y91, prog_11_method_21_code, 7, some .int, 3, 66)) = true := by decide +kernel
theorem q_r92 : p_tb92.all (sn_row (p_y92, prog_11_method_22_code, 7, some .int, 0, 0)) = true := by decide +kernel
theorem q_r93 : p_tb93.all (sn_row (p_y93, prog_11_method_23_code, 6, some .int, 0, 0)) = true := by decide +kernel
theorem q_r94 : p_tb94.all (sn_row (p_y94, prog_11_method_24_code, 6, some .int, 3, 66)) = true := by decide +kernel
theorem q_r95 : p_tb95.all (sn_row (p_y95, prog_11_method_25_code, 5, some .int, 4, 91)) = true := by decide +kernel
theorem q_r96 : p_tb96.all (sn_row (p_y96, prog_11_method_26_code, 3, some .int, 5, 117)) = true := by decide +kernel
theorem q_r97 : p_tb97.all (sn_row (p_y97, prog_11_method_27_code, 4, some .int, 2, 43)) = true := by decide +kernel
theorem q_r98 : p_tb98.all (sn_row (p_y98, prog_11_method_28_code, 2, some .int, 1, 22)) = true := by decide +kernel
theorem q_r99 : p_tb99.all (sn_row (p_y99, prog_11_method_29_code, 3, some .int, 5, 117)) = true := by decide +kernel
theorem q_r100 : p_tb100.all (sn_row (p_y100, prog_11_method_30_code, 6, some .int, 2, 43)) = true := by decide +kernel
theorem q_r101 : p_tb101.all (sn_row (p_y101, prog_11_method_31_code, 4, some .int, 2, 43)) = true := by decide +kernel
theorem q_r102 : p_tb102.all (sn_row (p_y102, prog_11_method_32_code, 5, some .long, 2, 43)) = true := by decide +kernel
theorem q_r103 : p_tb103.all (sn_row (p_y103, prog_11_method_33_code, 5, some .long, 2, 43)) = true := by decide +kernel
theorem q_r104 : p_tb104.all (sn_row (p_y104, prog_11_method_34_code, 2, some .int, 2, 43)) = true := by decide +kernel
theorem q_r105 : p_tb105.all (sn_row (p_y105, prog_11_method_35_code, 4, some .int, 1, 22)) = true := by decide +kernel
theorem q_r106 : p_tb106.all (sn_row (p_y106, prog_11_method_36_code, 5, some .int, 1, 22)) = true := by decide +kernel
theorem q_r107 : p_tb107.all (sn_row (p_y107, prog_11_method_37_code, 3, some .int, 1, 22)) = true := by decide +kernel
theorem q_r108 : p_tb108.all (sn_row (p_y108, prog_11_method_38_code, 2, some .int, 2, 41)) = true := by decide +kernel
theorem q_r109 : p_tb109.all (sn_row (p_y109, prog_11_method_39_code, 7, some .int, 1, 25)) = true := by decide +kernel
theorem q_r110 : p_tb110.all (sn_row (p_y110, prog_11_method_40_code, 6, some .int, 0, 0)) = true := by decide +kernel
theorem q_r111 : p_tb111.all (sn_row (p_y111, prog_15_method_65_code, 2, some .int, 0, 0)) = true := by decide +kernel
theorem q_r112 : p_tb112.all (sn_row (p_y112, prog_15_method_69_code, 2, some .int, 0, 0)) = true := by decide +kernel
theorem q_r113 : p_tb113.all (sn_row (p_y113, prog_17_method_1_code, 1, none, 1, 20)) = true := by decide +kernel
theorem q_r114 : p_tb114.all (sn_row (p_y114, prog_18_method_1_code, 1, none, 2, 40)) = true := by decide +kernel
theorem q_r115 : p_tb115.all (sn_row (p_y115, prog_19_method_2_code, 1, none, 3, 60)) = true := by decide +kernel
theorem q_r116 : p_tb116.all (sn_row (p_y116, prog_19_method_6_code, 4, some (.array (.object "java/lang/Object")), 3, 84)) = true := by decide +kernel
theorem q_r117 : p_tb117.all (sn_row (p_y117, prog_19_method_7_code, 1, some (.array (.object "java/lang/Object")), 4, 107)) = true := by decide +kernel
theorem q_r118 : p_tb118.all (sn_row (p_y118, prog_19_method_8_code, 1, some .int, 0, 0)) = true := by decide +kernel
theorem q_r119 : p_tb119.all (sn_row (p_y119, prog_19_method_18_code, 2, some (.object "java/lang/Object"), 0, 0)) = true := by decide +kernel
theorem q_r120 : p_tb120.all (sn_row (p_y120, prog_19_method_20_code, 2, some (.object "java/lang/Object"), 2, 43)) = true := by decide +kernel
theorem q_r121 : p_tb121.all (sn_row (p_y121, prog_19_method_24_code, 4, none, 5, 127)) = true := by decide +kernel
theorem q_r122 : p_tb122.all (sn_row (p_y122, prog_19_method_25_code, 2, some .boolean, 6, 150)) = true := by decide +kernel
theorem q_r123 : p_tb123.all (sn_row (p_y123, prog_20_method_103_code, 4, none, 0, 0)) = true := by decide +kernel
theorem q_r124 : p_tb124.all (sn_row (p_y124, prog_20_method_119_code, 2, some (.array (.object "java/lang/Object")), 2, 63)) = true := by decide +kernel
theorem q_r125 : p_tb125.all (sn_row (p_y125, prog_20_method_120_code, 4, some (.array (.object "java/lang/Object")), 1, 40)) = true := by decide +kernel
theorem q_r126 : p_tb126.all (sn_row (p_y126, prog_20_method_123_code, 3, some (.array .int), 1, 40)) = true := by decide +kernel
theorem q_r127 : p_tb127.all (sn_row (p_y127, prog_23_method_17_code, 2, some .int, 1, 22)) = true := by decide +kernel
theorem q_r128 : p_tb128.all (sn_row (p_y128, prog_26_method_27_code, 4, some .int, 1, 21)) = true := by decide +kernel
theorem q_r129 : p_tb129.all (sn_row (p_y129, prog_27_method_11_code, 3, some .int, 0, 0)) = true := by decide +kernel
