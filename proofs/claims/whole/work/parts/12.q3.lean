/-! Printed by a program of ours: the checks of the tables, decided by the kernel, method by method. -/
theorem q_L0 : ((p_tb130.drop 0).take 60).all (sn_row (p_y130, code, 4, some .boolean, 10, 242)) = true := by decide +kernel
theorem q_L1 : ((p_tb130.drop 60).take 60).all (sn_row (p_y130, code, 4, some .boolean, 10, 242)) = true := by decide +kernel
theorem q_L2 : ((p_tb130.drop 120).take 60).all (sn_row (p_y130, code, 4, some .boolean, 10, 242)) = true := by decide +kernel
theorem q_L3 : ((p_tb130.drop 180).take 60).all (sn_row (p_y130, code, 4, some .boolean, 10, 242)) = true := by decide +kernel
theorem q_L4 : ((p_tb130.drop 240).take 60).all (sn_row (p_y130, code, 4, some .boolean, 10, 242)) = true := by decide +kernel
theorem q_L5 : ((p_tb130.drop 300).take 60).all (sn_row (p_y130, code, 4, some .boolean, 10, 242)) = true := by decide +kernel
theorem q_L6 : ((p_tb130.drop 360).take 60).all (sn_row (p_y130, code, 4, some .boolean, 10, 242)) = true := by decide +kernel
theorem q_L7 : ((p_tb130.drop 420).take 60).all (sn_row (p_y130, code, 4, some .boolean, 10, 242)) = true := by decide +kernel
theorem q_all {f : Nat × Instr × Nat × am_X → Bool} {k : Nat} {t : am_T} (h1 : (t.take k).all f = true) (h2 : (t.drop k).all f = true) : t.all f = true := by
  rw [← List.take_append_drop k t, List.all_append, h1, h2]; rfl
theorem q_r130 : p_tb130.all (sn_row (p_y130, code, 4, some .boolean, 10, 242)) = true := by
  have e : ∀ k, p_tb130.drop (k + 60) = (p_tb130.drop k).drop 60 := fun k => by rw [List.drop_drop]
  have z : p_tb130.drop 0 = p_tb130 := rfl
  rw [← z]
  refine q_all (k := 60) q_L0 ?_
  rw [← e]
  refine q_all (k := 60) q_L1 ?_
  rw [← e]
  refine q_all (k := 60) q_L2 ?_
  rw [← e]
  refine q_all (k := 60) q_L3 ?_
  rw [← e]
  refine q_all (k := 60) q_L4 ?_
  rw [← e]
  refine q_all (k := 60) q_L5 ?_
  rw [← e]
  refine q_all (k := 60) q_L6 ?_
  rw [← e]
  have l := q_L7
  rwa [List.take_of_length_le (by decide)] at l
set_option maxRecDepth 100000 in
theorem q_c0 : Jvm.Cond.code p_y0 prog_2_method_1_code 1 (none) ∈ sn_gw := sn_in (ix := 118) rfl rfl
set_option maxRecDepth 100000 in
theorem q_c1 : Jvm.Cond.code p_y1 prog_2_method_2_code 2 (none) ∈ sn_gw := sn_in (ix := 462) rfl rfl
set_option maxRecDepth 100000 in
theorem q_c2 : Jvm.Cond.code p_y2 prog_2_method_3_code 3 (some .boolean) ∈ sn_gw := sn_in (ix := 470) rfl rfl
set_option maxRecDepth 100000 in
theorem q_c3 : Jvm.Cond.code p_y3 prog_2_method_4_code 1 (some .int) ∈ sn_gw := sn_in (ix := 356) rfl rfl
set_option maxRecDepth 100000 in
theorem q_c4 : Jvm.Cond.code p_y4 prog_2_method_5_code 2 (none) ∈ sn_gw := sn_in (ix := 545) rfl rfl
set_option maxRecDepth 100000 in
theorem q_c5 : Jvm.Cond.code p_y5 prog_3_method_1_code 1 (none) ∈ sn_gw := sn_in (ix := 95) rfl rfl
set_option maxRecDepth 100000 in
theorem q_c6 : Jvm.Cond.code p_y6 prog_3_method_2_code 7 (none) ∈ sn_gw := sn_in (ix := 430) rfl rfl
set_option maxRecDepth 100000 in
theorem q_c7 : Jvm.Cond.code p_y7 prog_4_method_1_code 1 (none) ∈ sn_gw := sn_in (ix := 179) rfl rfl
set_option maxRecDepth 100000 in
theorem q_c8 : Jvm.Cond.code p_y8 prog_4_method_2_code 6 (some .boolean) ∈ sn_gw := sn_in (ix := 500) rfl rfl
set_option maxRecDepth 100000 in
theorem q_c9 : Jvm.Cond.code p_y9 prog_4_method_3_code 5 (some .boolean) ∈ sn_gw := sn_in (ix := 504) rfl rfl
set_option maxRecDepth 100000 in
theorem q_c10 : Jvm.Cond.code p_y10 prog_5_method_1_code 3 (none) ∈ sn_gw := sn_in (ix := 171) rfl rfl
set_option maxRecDepth 100000 in
theorem q_c11 : Jvm.Cond.code p_y11 prog_5_method_2_code 3 (some .boolean) ∈ sn_gw := sn_in (ix := 336) rfl rfl
set_option maxRecDepth 100000 in
theorem q_c12 : Jvm.Cond.code p_y12 prog_5_method_3_code 2 (some (.object "TwoStepOutputs$Part")) ∈ sn_gw := sn_in (ix := 581) rfl rfl
set_option maxRecDepth 100000 in
theorem q_c13 : Jvm.Cond.code p_y13 prog_5_method_4_code 3 (some .int) ∈ sn_gw := sn_in (ix := 570) rfl rfl
set_option maxRecDepth 100000 in
theorem q_c14 : Jvm.Cond.code p_y14 prog_5_method_5_code 1 (some .boolean) ∈ sn_gw := sn_in (ix := 486) rfl rfl
set_option maxRecDepth 100000 in
theorem q_c15 : Jvm.Cond.code p_y15 prog_5_method_6_code 3 (some .boolean) ∈ sn_gw := sn_in (ix := 656) rfl rfl
set_option maxRecDepth 100000 in
theorem q_c16 : Jvm.Cond.code p_y16 prog_5_method_7_code 4 (some .boolean) ∈ sn_gw := sn_in (ix := 662) rfl rfl
set_option maxRecDepth 100000 in
theorem q_c17 : Jvm.Cond.code p_y17 prog_5_method_8_code 4 (some .boolean) ∈ sn_gw := sn_in (ix := 668) rfl rfl
set_option maxRecDepth 100000 in
theorem q_c18 : Jvm.Cond.code p_y18 prog_5_method_9_code 3 (some .boolean) ∈ sn_gw := sn_in (ix := 672) rfl rfl
set_option maxRecDepth 100000 in
theorem q_c19 : Jvm.Cond.code p_y19 prog_5_method_10_code 6 (some .boolean) ∈ sn_gw := sn_in (ix := 676) rfl rfl
set_option maxRecDepth 100000 in
theorem q_c20 : Jvm.Cond.code p_y20 prog_6_method_1_code 3 (none) ∈ sn_gw := sn_in (ix := 380) rfl rfl
set_option maxRecDepth 100000 in
theorem q_c21 : Jvm.Cond.code p_y21 prog_7_method_1_code 2 (none) ∈ sn_gw := sn_in (ix := 605) rfl rfl
set_option maxRecDepth 100000 in
theorem q_c22 : Jvm.Cond.code p_y22 prog_7_method_2_code 4 (some .int) ∈ sn_gw := sn_in (ix := 630) rfl rfl
set_option maxRecDepth 100000 in
theorem q_c23 : Jvm.Cond.code p_y23 prog_8_method_1_code 2 (none) ∈ sn_gw := sn_in (ix := 98) rfl rfl
set_option maxRecDepth 100000 in
theorem q_c24 : Jvm.Cond.code p_y24 prog_8_method_2_code 1 (some .int) ∈ sn_gw := sn_in (ix := 377) rfl rfl
set_option maxRecDepth 100000 in
theorem q_c25 : Jvm.Cond.code p_y25 prog_8_method_3_code 3 (some .boolean) ∈ sn_gw := sn_in (ix := 458) rfl rfl
set_option maxRecDepth 100000 in
theorem q_c26 : Jvm.Cond.code p_y26 prog_8_method_4_code 3 (some .int) ∈ sn_gw := sn_in (ix := 496) rfl rfl
set_option maxRecDepth 100000 in
theorem q_c27 : Jvm.Cond.code p_y27 prog_8_method_5_code 4 (none) ∈ sn_gw := sn_in (ix := 452) rfl rfl
set_option maxRecDepth 100000 in
theorem q_c28 : Jvm.Cond.code p_y28 prog_8_method_6_code 2 (some .int) ∈ sn_gw := sn_in (ix := 436) rfl rfl
set_option maxRecDepth 100000 in
theorem q_c29 : Jvm.Cond.code p_y29 prog_9_method_1_code 1 (none) ∈ sn_gw := sn_in (ix := 189) rfl rfl
set_option maxRecDepth 100000 in
theorem q_c30 : Jvm.Cond.code p_y30 prog_9_method_2_code 2 (some .boolean) ∈ sn_gw := sn_in (ix := 525) rfl rfl
set_option maxRecDepth 100000 in
theorem q_c31 : Jvm.Cond.code p_y31 prog_9_method_3_code 6 (some .boolean) ∈ sn_gw := sn_in (ix := 520) rfl rfl
set_option maxRecDepth 100000 in
theorem q_c32 : Jvm.Cond.code p_y32 prog_1_method_1_code 1 (none) ∈ sn_gw := sn_in (ix := 61) rfl rfl
set_option maxRecDepth 100000 in
theorem q_c33 : Jvm.Cond.code p_y33 prog_1_method_2_code 3 (some .int) ∈ sn_gw := sn_in (ix := 162) rfl rfl
set_option maxRecDepth 100000 in
theorem q_c34 : Jvm.Cond.code p_y34 prog_1_method_3_code 5 (some .int) ∈ sn_gw := sn_in (ix := 311) rfl rfl
set_option maxRecDepth 100000 in
theorem q_c35 : Jvm.Cond.code p_y35 prog_1_method_4_code 3 (some .int) ∈ sn_gw := sn_in (ix := 340) rfl rfl
set_option maxRecDepth 100000 in
theorem q_c36 : Jvm.Cond.code p_y36 prog_1_method_5_code 2 (some .int) ∈ sn_gw := sn_in (ix := 466) rfl rfl
set_option maxRecDepth 100000 in
theorem q_c37 : Jvm.Cond.code p_y37 prog_1_method_6_code 1 (some .int) ∈ sn_gw := sn_in (ix := 529) rfl rfl
set_option maxRecDepth 100000 in
theorem q_c38 : Jvm.Cond.code p_y38 prog_1_method_7_code 3 (some .int) ∈ sn_gw := sn_in (ix := 533) rfl rfl
set_option maxRecDepth 100000 in
theorem q_c39 : Jvm.Cond.code p_y39 prog_1_method_8_code 3 (some .int) ∈ sn_gw := sn_in (ix := 549) rfl rfl
set_option maxRecDepth 100000 in
theorem q_c40 : Jvm.Cond.code p_y40 prog_1_method_9_code 5 (some .int) ∈ sn_gw := sn_in (ix := 553) rfl rfl
set_option maxRecDepth 100000 in
theorem q_c41 : Jvm.Cond.code p_y41 prog_1_method_10_code 2 (some .int) ∈ sn_gw := sn_in (ix := 557) rfl rfl
set_option maxRecDepth 100000 in
theorem q_c42 : Jvm.Cond.code p_y42 prog_1_method_11_code 2 (some .int) ∈ sn_gw := sn_in (ix := 561) rfl rfl
set_option maxRecDepth 100000 in
theorem q_c43 : Jvm.Cond.code p_y43 prog_1_method_12_code 4 (some .int) ∈ sn_gw := sn_in (ix := 565) rfl rfl
set_option maxRecDepth 100000 in
theorem q_c44 : Jvm.Cond.code p_y44 prog_1_method_13_code 6 (some .int) ∈ sn_gw := sn_in (ix := 577) rfl rfl
set_option maxRecDepth 100000 in
theorem q_c45 : Jvm.Cond.code p_y45 prog_1_method_14_code 5 (some .long) ∈ sn_gw := sn_in (ix := 585) rfl rfl
set_option maxRecDepth 100000 in
theorem q_c46 : Jvm.Cond.code p_y46 prog_1_method_15_code 5 (some .long) ∈ sn_gw := sn_in (ix := 595) rfl rfl
set_option maxRecDepth 100000 in
theorem q_c47 : Jvm.Cond.code p_y47 prog_1_method_16_code 3 (some .int) ∈ sn_gw := sn_in (ix := 600) rfl rfl
set_option maxRecDepth 100000 in
theorem q_c48 : Jvm.Cond.code p_y48 prog_1_method_17_code 4 (some .int) ∈ sn_gw := sn_in (ix := 622) rfl rfl
set_option maxRecDepth 100000 in
theorem q_c49 : Jvm.Cond.code p_y49 prog_1_method_18_code 4 (some .int) ∈ sn_gw := sn_in (ix := 637) rfl rfl
set_option maxRecDepth 100000 in
theorem q_c50 : Jvm.Cond.code p_y50 prog_1_method_19_code 3 (some .int) ∈ sn_gw := sn_in (ix := 641) rfl rfl
set_option maxRecDepth 100000 in
theorem q_c51 : Jvm.Cond.code p_y51 prog_1_method_20_code 2 (some .int) ∈ sn_gw := sn_in (ix := 648) rfl rfl
set_option maxRecDepth 100000 in
theorem q_c52 : Jvm.Cond.code p_y52 prog_1_method_21_code 7 (some .int) ∈ sn_gw := sn_in (ix := 652) rfl rfl
set_option maxRecDepth 100000 in
theorem q_c53 : Jvm.Cond.code p_y53 prog_1_method_22_code 2 (some (.object "TwoStepOutputs$Output")) ∈ sn_gw := sn_in (ix := 315) rfl rfl
set_option maxRecDepth 100000 in
theorem q_c54 : Jvm.Cond.code p_y54 prog_1_method_23_code 2 (some (.object "TwoStepOutputs$Reader")) ∈ sn_gw := sn_in (ix := 626) rfl rfl
set_option maxRecDepth 100000 in
theorem q_c55 : Jvm.Cond.code p_y55 prog_1_method_24_code 1 (some .boolean) ∈ sn_gw := sn_in (ix := 332) rfl rfl
set_option maxRecDepth 100000 in
theorem q_c56 : Jvm.Cond.code p_y56 prog_1_method_25_code 1 (some .boolean) ∈ sn_gw := sn_in (ix := 347) rfl rfl
set_option maxRecDepth 100000 in
theorem q_c57 : Jvm.Cond.code p_y57 prog_1_method_26_code 1 (some .int) ∈ sn_gw := sn_in (ix := 352) rfl rfl
set_option maxRecDepth 100000 in
theorem q_c58 : Jvm.Cond.code p_y58 prog_1_method_27_code 1 (some .boolean) ∈ sn_gw := sn_in (ix := 422) rfl rfl
set_option maxRecDepth 100000 in
theorem q_c59 : Jvm.Cond.code p_y59 prog_1_method_28_code 2 (none) ∈ sn_gw := sn_in (ix := 426) rfl rfl
set_option maxRecDepth 100000 in
theorem q_c60 : Jvm.Cond.code p_y60 prog_1_method_29_code 6 (some .boolean) ∈ sn_gw := sn_in (ix := 418) rfl rfl
set_option maxRecDepth 100000 in
theorem q_c61 : Jvm.Cond.code p_y61 prog_1_method_30_code 2 (some .int) ∈ sn_gw := sn_in (ix := 344) rfl rfl
set_option maxRecDepth 100000 in
theorem q_c62 : Jvm.Cond.code p_y62 prog_1_method_31_code 4 (some .int) ∈ sn_gw := sn_in (ix := 361) rfl rfl
set_option maxRecDepth 100000 in
theorem q_c63 : Jvm.Cond.code p_y63 prog_1_method_32_code 6 (some .int) ∈ sn_gw := sn_in (ix := 365) rfl rfl
set_option maxRecDepth 100000 in
theorem q_c64 : Jvm.Cond.code p_y64 prog_1_method_33_code 5 (some .boolean) ∈ sn_gw := sn_in (ix := 369) rfl rfl
set_option maxRecDepth 100000 in
theorem q_c65 : Jvm.Cond.code p_y65 prog_1_method_34_code 3 (some .boolean) ∈ sn_gw := sn_in (ix := 474) rfl rfl
set_option maxRecDepth 100000 in
theorem q_c66 : Jvm.Cond.code p_y66 prog_1_method_35_code 4 (some .int) ∈ sn_gw := sn_in (ix := 478) rfl rfl
set_option maxRecDepth 100000 in
theorem q_c67 : Jvm.Cond.code p_y67 prog_1_method_36_code 6 (some .int) ∈ sn_gw := sn_in (ix := 482) rfl rfl
set_option maxRecDepth 100000 in
theorem q_c68 : Jvm.Cond.code p_y68 prog_1_method_37_code 8 (some .int) ∈ sn_gw := sn_in (ix := 490) rfl rfl
set_option maxRecDepth 100000 in
theorem q_c69 : Jvm.Cond.code p_y69 prog_1_method_38_code 6 (some .int) ∈ sn_gw := sn_in (ix := 537) rfl rfl
set_option maxRecDepth 100000 in
theorem q_c70 : Jvm.Cond.code p_y70 prog_1_method_39_code 6 (some .int) ∈ sn_gw := sn_in (ix := 541) rfl rfl
set_option maxRecDepth 100000 in
theorem q_c71 : Jvm.Cond.code p_y71 prog_11_method_1_code 2 (none) ∈ sn_gw := sn_in (ix := 682) rfl rfl
set_option maxRecDepth 100000 in
theorem q_c72 : Jvm.Cond.code p_y72 prog_11_method_2_code 2 (some .int) ∈ sn_gw := sn_in (ix := 816) rfl rfl
set_option maxRecDepth 100000 in
theorem q_c73 : Jvm.Cond.code p_y73 prog_11_method_3_code 2 (some .int) ∈ sn_gw := sn_in (ix := 921) rfl rfl
set_option maxRecDepth 100000 in
theorem q_c74 : Jvm.Cond.code p_y74 prog_11_method_4_code 3 (some .boolean) ∈ sn_gw := sn_in (ix := 793) rfl rfl
set_option maxRecDepth 100000 in
theorem q_c75 : Jvm.Cond.code p_y75 prog_11_method_5_code 2 (some .boolean) ∈ sn_gw := sn_in (ix := 801) rfl rfl
set_option maxRecDepth 100000 in
theorem q_c76 : Jvm.Cond.code p_y76 prog_11_method_6_code 1 (some .boolean) ∈ sn_gw := sn_in (ix := 829) rfl rfl
set_option maxRecDepth 100000 in
theorem q_c77 : Jvm.Cond.code p_y77 prog_11_method_7_code 2 (none) ∈ sn_gw := sn_in (ix := 833) rfl rfl
set_option maxRecDepth 100000 in
theorem q_c78 : Jvm.Cond.code p_y78 prog_11_method_8_code 6 (some .boolean) ∈ sn_gw := sn_in (ix := 825) rfl rfl
set_option maxRecDepth 100000 in
theorem q_c79 : Jvm.Cond.code p_y79 prog_11_method_9_code 5 (some .int) ∈ sn_gw := sn_in (ix := 877) rfl rfl
set_option maxRecDepth 100000 in
theorem q_c80 : Jvm.Cond.code p_y80 prog_11_method_10_code 5 (some .int) ∈ sn_gw := sn_in (ix := 845) rfl rfl
set_option maxRecDepth 100000 in
theorem q_c81 : Jvm.Cond.code p_y81 prog_11_method_11_code 4 (some .int) ∈ sn_gw := sn_in (ix := 849) rfl rfl
set_option maxRecDepth 100000 in
theorem q_c82 : Jvm.Cond.code p_y82 prog_11_method_12_code 2 (some .int) ∈ sn_gw := sn_in (ix := 790) rfl rfl
set_option maxRecDepth 100000 in
theorem q_c83 : Jvm.Cond.code p_y83 prog_11_method_13_code 5 (some .int) ∈ sn_gw := sn_in (ix := 797) rfl rfl
set_option maxRecDepth 100000 in
theorem q_c84 : Jvm.Cond.code p_y84 prog_11_method_14_code 1 (some .int) ∈ sn_gw := sn_in (ix := 813) rfl rfl
set_option maxRecDepth 100000 in
theorem q_c85 : Jvm.Cond.code p_y85 prog_11_method_15_code 5 (some .int) ∈ sn_gw := sn_in (ix := 809) rfl rfl
set_option maxRecDepth 100000 in
theorem q_c86 : Jvm.Cond.code p_y86 prog_11_method_16_code 7 (some .int) ∈ sn_gw := sn_in (ix := 821) rfl rfl
set_option maxRecDepth 100000 in
theorem q_c87 : Jvm.Cond.code p_y87 prog_11_method_17_code 3 (some .int) ∈ sn_gw := sn_in (ix := 805) rfl rfl
set_option maxRecDepth 100000 in
theorem q_c88 : Jvm.Cond.code p_y88 prog_11_method_18_code 4 (some .int) ∈ sn_gw := sn_in (ix := 837) rfl rfl
set_option maxRecDepth 100000 in
theorem q_c89 : Jvm.Cond.code p_y89 prog_11_method_19_code 1 (some .int) ∈ sn_gw := sn_in (ix := 865) rfl rfl
set_option maxRecDepth 100000 in
theorem q_c90 : Jvm.Cond.code p_y90 prog_11_method_20_code 6 (some .int) ∈ sn_gw := sn_in (ix := 841) rfl rfl
set_option maxRecDepth 100000 in
theorem q_c91 : Jvm.Cond.code p_y91 prog_11_method_21_code 7 (some .int) ∈ sn_gw := sn_in (ix := 853) rfl rfl
set_option maxRecDepth 100000 in
theorem q_c92 : Jvm.Cond.code p_y92 prog_11_method_22_code 7 (some .int) ∈ sn_gw := sn_in (ix := 857) rfl rfl
set_option maxRecDepth 100000 in
theorem q_c93 : Jvm.Cond.code p_y93 prog_11_method_23_code 6 (some .int) ∈ sn_gw := sn_in (ix := 861) rfl rfl
set_option maxRecDepth 100000 in
theorem q_c94 : Jvm.Cond.code p_y94 prog_11_method_24_code 6 (some .int) ∈ sn_gw := sn_in (ix := 873) rfl rfl
set_option maxRecDepth 100000 in
theorem q_c95 : Jvm.Cond.code p_y95 prog_11_method_25_code 5 (some .int) ∈ sn_gw := sn_in (ix := 869) rfl rfl
set_option maxRecDepth 100000 in
theorem q_c96 : Jvm.Cond.code p_y96 prog_11_method_26_code 3 (some .int) ∈ sn_gw := sn_in (ix := 881) rfl rfl
set_option maxRecDepth 100000 in
theorem q_c97 : Jvm.Cond.code p_y97 prog_11_method_27_code 4 (some .int) ∈ sn_gw := sn_in (ix := 885) rfl rfl
set_option maxRecDepth 100000 in
theorem q_c98 : Jvm.Cond.code p_y98 prog_11_method_28_code 2 (some .int) ∈ sn_gw := sn_in (ix := 889) rfl rfl
set_option maxRecDepth 100000 in
theorem q_c99 : Jvm.Cond.code p_y99 prog_11_method_29_code 3 (some .int) ∈ sn_gw := sn_in (ix := 893) rfl rfl
set_option maxRecDepth 100000 in
theorem q_c100 : Jvm.Cond.code p_y100 prog_11_method_30_code 6 (some .int) ∈ sn_gw := sn_in (ix := 897) rfl rfl
set_option maxRecDepth 100000 in
theorem q_c101 : Jvm.Cond.code p_y101 prog_11_method_31_code 4 (some .int) ∈ sn_gw := sn_in (ix := 901) rfl rfl
set_option maxRecDepth 100000 in
theorem q_c102 : Jvm.Cond.code p_y102 prog_11_method_32_code 5 (some .long) ∈ sn_gw := sn_in (ix := 905) rfl rfl
set_option maxRecDepth 100000 in
theorem q_c103 : Jvm.Cond.code p_y103 prog_11_method_33_code 5 (some .long) ∈ sn_gw := sn_in (ix := 910) rfl rfl
set_option maxRecDepth 100000 in
theorem q_c104 : Jvm.Cond.code p_y104 prog_11_method_34_code 2 (some .int) ∈ sn_gw := sn_in (ix := 914) rfl rfl
set_option maxRecDepth 100000 in
theorem q_c105 : Jvm.Cond.code p_y105 prog_11_method_35_code 4 (some .int) ∈ sn_gw := sn_in (ix := 918) rfl rfl
set_option maxRecDepth 100000 in
theorem q_c106 : Jvm.Cond.code p_y106 prog_11_method_36_code 5 (some .int) ∈ sn_gw := sn_in (ix := 925) rfl rfl
set_option maxRecDepth 100000 in
theorem q_c107 : Jvm.Cond.code p_y107 prog_11_method_37_code 3 (some .int) ∈ sn_gw := sn_in (ix := 929) rfl rfl
set_option maxRecDepth 100000 in
theorem q_c108 : Jvm.Cond.code p_y108 prog_11_method_38_code 2 (some .int) ∈ sn_gw := sn_in (ix := 933) rfl rfl
set_option maxRecDepth 100000 in
theorem q_c109 : Jvm.Cond.code p_y109 prog_11_method_39_code 7 (some .int) ∈ sn_gw := sn_in (ix := 937) rfl rfl
set_option maxRecDepth 100000 in
theorem q_c110 : Jvm.Cond.code p_y110 prog_11_method_40_code 6 (some .int) ∈ sn_gw := sn_in (ix := 941) rfl rfl
set_option maxRecDepth 100000 in
theorem q_c111 : Jvm.Cond.code p_y111 prog_15_method_65_code 2 (some .int) ∈ sn_gw := sn_in (ix := 102) rfl rfl
set_option maxRecDepth 100000 in
theorem q_c112 : Jvm.Cond.code p_y112 prog_15_method_69_code 2 (some .int) ∈ sn_gw := sn_in (ix := 302) rfl rfl
set_option maxRecDepth 100000 in
theorem q_c113 : Jvm.Cond.code p_y113 prog_17_method_1_code 1 (none) ∈ sn_gw := sn_in (ix := 75) rfl rfl
set_option maxRecDepth 100000 in
theorem q_c114 : Jvm.Cond.code p_y114 prog_18_method_1_code 1 (none) ∈ sn_gw := sn_in (ix := 72) rfl rfl
set_option maxRecDepth 100000 in
theorem q_c115 : Jvm.Cond.code p_y115 prog_19_method_2_code 1 (none) ∈ sn_gw := sn_in (ix := 69) rfl rfl
set_option maxRecDepth 100000 in
theorem q_c116 : Jvm.Cond.code p_y116 prog_19_method_6_code 4 (some (.array (.object "java/lang/Object"))) ∈ sn_gw := sn_in (ix := 268) rfl rfl
set_option maxRecDepth 100000 in
theorem q_c117 : Jvm.Cond.code p_y117 prog_19_method_7_code 1 (some (.array (.object "java/lang/Object"))) ∈ sn_gw := sn_in (ix := 264) rfl rfl
set_option maxRecDepth 100000 in
theorem q_c118 : Jvm.Cond.code p_y118 prog_19_method_8_code 1 (some .int) ∈ sn_gw := sn_in (ix := 166) rfl rfl
set_option maxRecDepth 100000 in
theorem q_c119 : Jvm.Cond.code p_y119 prog_19_method_18_code 2 (some (.object "java/lang/Object")) ∈ sn_gw := sn_in (ix := 329) rfl rfl
set_option maxRecDepth 100000 in
theorem q_c120 : Jvm.Cond.code p_y120 prog_19_method_20_code 2 (some (.object "java/lang/Object")) ∈ sn_gw := sn_in (ix := 319) rfl rfl
set_option maxRecDepth 100000 in
theorem q_c121 : Jvm.Cond.code p_y121 prog_19_method_24_code 4 (none) ∈ sn_gw := sn_in (ix := 260) rfl rfl
set_option maxRecDepth 100000 in
theorem q_c122 : Jvm.Cond.code p_y122 prog_19_method_25_code 2 (some .boolean) ∈ sn_gw := sn_in (ix := 256) rfl rfl
set_option maxRecDepth 100000 in
theorem q_c123 : Jvm.Cond.code p_y123 prog_20_method_103_code 4 (none) ∈ sn_gw := sn_in (ix := 193) rfl rfl
set_option maxRecDepth 100000 in
theorem q_c124 : Jvm.Cond.code p_y124 prog_20_method_119_code 2 (some (.array (.object "java/lang/Object"))) ∈ sn_gw := sn_in (ix := 279) rfl rfl
set_option maxRecDepth 100000 in
theorem q_c125 : Jvm.Cond.code p_y125 prog_20_method_120_code 4 (some (.array (.object "java/lang/Object"))) ∈ sn_gw := sn_in (ix := 296) rfl rfl
set_option maxRecDepth 100000 in
theorem q_c126 : Jvm.Cond.code p_y126 prog_20_method_123_code 3 (some (.array .int)) ∈ sn_gw := sn_in (ix := 439) rfl rfl
set_option maxRecDepth 100000 in
theorem q_c127 : Jvm.Cond.code p_y127 prog_23_method_17_code 2 (some .int) ∈ sn_gw := sn_in (ix := 322) rfl rfl
set_option maxRecDepth 100000 in
theorem q_c128 : Jvm.Cond.code p_y128 prog_26_method_27_code 4 (some .int) ∈ sn_gw := sn_in (ix := 271) rfl rfl
set_option maxRecDepth 100000 in
theorem q_c129 : Jvm.Cond.code p_y129 prog_27_method_11_code 3 (some .int) ∈ sn_gw := sn_in (ix := 325) rfl rfl
