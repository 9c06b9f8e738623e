theorem dX5_init_0 : decode mX5_init.2.1 0 = .ok (.aload_n 0, 1) := by decide +kernel
theorem dX5_init_1 : decode mX5_init.2.1 1 = .ok (.invokespecial 3, 3) := by decide +kernel
theorem dX5_init_4 : decode mX5_init.2.1 4 = .ok (.aload_n 0, 1) := by decide +kernel
theorem dX5_init_5 : decode mX5_init.2.1 5 = .ok (.bipush 7, 2) := by decide +kernel
theorem dX5_init_7 : decode mX5_init.2.1 7 = .ok (.putfield 11, 3) := by decide +kernel
theorem dX5_init_10 : decode mX5_init.2.1 10 = .ok (.aload_n 0, 1) := by decide +kernel
theorem dX5_init_11 : decode mX5_init.2.1 11 = .ok (.iconst 2, 1) := by decide +kernel
theorem dX5_init_12 : decode mX5_init.2.1 12 = .ok (.putfield 15, 3) := by decide +kernel
theorem dX5_init_15 : decode mX5_init.2.1 15 = .ok (.return_, 1) := by decide +kernel
theorem dX3_init_0 : decode mX3_init.2.1 0 = .ok (.aload_n 0, 1) := by decide +kernel
theorem dX3_init_1 : decode mX3_init.2.1 1 = .ok (.invokespecial 3, 3) := by decide +kernel
theorem dX3_init_4 : decode mX3_init.2.1 4 = .ok (.aload_n 0, 1) := by decide +kernel
theorem dX3_init_5 : decode mX3_init.2.1 5 = .ok (.aload_n 1, 1) := by decide +kernel
theorem dX3_init_6 : decode mX3_init.2.1 6 = .ok (.putfield 9, 3) := by decide +kernel
theorem dX3_init_9 : decode mX3_init.2.1 9 = .ok (.aload_n 0, 1) := by decide +kernel
theorem dX3_init_10 : decode mX3_init.2.1 10 = .ok (.iload_n 2, 1) := by decide +kernel
theorem dX3_init_11 : decode mX3_init.2.1 11 = .ok (.ifCond .lt 13, 3) := by decide +kernel
theorem dX3_init_14 : decode mX3_init.2.1 14 = .ok (.iload_n 2, 1) := by decide +kernel
theorem dX3_init_15 : decode mX3_init.2.1 15 = .ok (.bipush 8, 2) := by decide +kernel
theorem dX3_init_17 : decode mX3_init.2.1 17 = .ok (.if_icmp .gt 7, 3) := by decide +kernel
theorem dX3_init_20 : decode mX3_init.2.1 20 = .ok (.iload_n 2, 1) := by decide +kernel
theorem dX3_init_21 : decode mX3_init.2.1 21 = .ok (.goto 4, 3) := by decide +kernel
theorem dX3_init_24 : decode mX3_init.2.1 24 = .ok (.iconst 0, 1) := by decide +kernel
theorem dX3_init_25 : decode mX3_init.2.1 25 = .ok (.putfield 17, 3) := by decide +kernel
theorem dX3_init_28 : decode mX3_init.2.1 28 = .ok (.aload_n 0, 1) := by decide +kernel
theorem dX3_init_29 : decode mX3_init.2.1 29 = .ok (.aload_n 0, 1) := by decide +kernel
theorem dX3_init_30 : decode mX3_init.2.1 30 = .ok (.getfield 17, 3) := by decide +kernel
theorem dX3_init_33 : decode mX3_init.2.1 33 = .ok (.newarray .int, 2) := by decide +kernel
theorem dX3_init_35 : decode mX3_init.2.1 35 = .ok (.putfield 21, 3) := by decide +kernel
theorem dX3_init_38 : decode mX3_init.2.1 38 = .ok (.aload_n 0, 1) := by decide +kernel
theorem dX3_init_39 : decode mX3_init.2.1 39 = .ok (.aload_n 0, 1) := by decide +kernel
theorem dX3_init_40 : decode mX3_init.2.1 40 = .ok (.getfield 17, 3) := by decide +kernel
theorem dX3_init_43 : decode mX3_init.2.1 43 = .ok (.newarray .int, 2) := by decide +kernel
theorem dX3_init_45 : decode mX3_init.2.1 45 = .ok (.putfield 25, 3) := by decide +kernel
theorem dX3_init_48 : decode mX3_init.2.1 48 = .ok (.aload_n 0, 1) := by decide +kernel
theorem dX3_init_49 : decode mX3_init.2.1 49 = .ok (.aload_n 0, 1) := by decide +kernel
theorem dX3_init_50 : decode mX3_init.2.1 50 = .ok (.getfield 17, 3) := by decide +kernel
theorem dX3_init_53 : decode mX3_init.2.1 53 = .ok (.iconst 3, 1) := by decide +kernel
theorem dX3_init_54 : decode mX3_init.2.1 54 = .ok (.imul, 1) := by decide +kernel
theorem dX3_init_55 : decode mX3_init.2.1 55 = .ok (.aload_n 0, 1) := by decide +kernel
theorem dX3_init_56 : decode mX3_init.2.1 56 = .ok (.getfield 17, 3) := by decide +kernel
theorem dX3_init_59 : decode mX3_init.2.1 59 = .ok (.imul, 1) := by decide +kernel
theorem dX3_init_60 : decode mX3_init.2.1 60 = .ok (.newarray .int, 2) := by decide +kernel
theorem dX3_init_62 : decode mX3_init.2.1 62 = .ok (.putfield 28, 3) := by decide +kernel
theorem dX3_init_65 : decode mX3_init.2.1 65 = .ok (.return_, 1) := by decide +kernel
theorem dX4_init_0 : decode mX4_init.2.1 0 = .ok (.aload_n 0, 1) := by decide +kernel
theorem dX4_init_1 : decode mX4_init.2.1 1 = .ok (.invokespecial 3, 3) := by decide +kernel
theorem dX4_init_4 : decode mX4_init.2.1 4 = .ok (.aload_n 0, 1) := by decide +kernel
theorem dX4_init_5 : decode mX4_init.2.1 5 = .ok (.sipush 200, 3) := by decide +kernel
theorem dX4_init_8 : decode mX4_init.2.1 8 = .ok (.newarray .byte, 2) := by decide +kernel
theorem dX4_init_10 : decode mX4_init.2.1 10 = .ok (.putfield 11, 3) := by decide +kernel
theorem dX4_init_13 : decode mX4_init.2.1 13 = .ok (.aload_n 0, 1) := by decide +kernel
theorem dX4_init_14 : decode mX4_init.2.1 14 = .ok (.iconst 3, 1) := by decide +kernel
theorem dX4_init_15 : decode mX4_init.2.1 15 = .ok (.newarray .boolean, 2) := by decide +kernel
theorem dX4_init_17 : decode mX4_init.2.1 17 = .ok (.putfield 15, 3) := by decide +kernel
theorem dX4_init_20 : decode mX4_init.2.1 20 = .ok (.aload_n 0, 1) := by decide +kernel
theorem dX4_init_21 : decode mX4_init.2.1 21 = .ok (.new 19, 3) := by decide +kernel
theorem dX4_init_24 : decode mX4_init.2.1 24 = .ok (.dup, 1) := by decide +kernel
theorem dX4_init_25 : decode mX4_init.2.1 25 = .ok (.aload_n 1, 1) := by decide +kernel
theorem dX4_init_26 : decode mX4_init.2.1 26 = .ok (.iconst 4, 1) := by decide +kernel
theorem dX4_init_27 : decode mX4_init.2.1 27 = .ok (.invokespecial 21, 3) := by decide +kernel
theorem dX4_init_30 : decode mX4_init.2.1 30 = .ok (.putfield 24, 3) := by decide +kernel
theorem dX4_init_33 : decode mX4_init.2.1 33 = .ok (.return_, 1) := by decide +kernel
theorem dX8_renew_0 : decode mX8_renew.2.1 0 = .ok (.aload_n 0, 1) := by decide +kernel
theorem dX8_renew_1 : decode mX8_renew.2.1 1 = .ok (.iconst 0, 1) := by decide +kernel
theorem dX8_renew_2 : decode mX8_renew.2.1 2 = .ok (.putfield 37, 3) := by decide +kernel
theorem dX8_renew_5 : decode mX8_renew.2.1 5 = .ok (.aload_n 0, 1) := by decide +kernel
theorem dX8_renew_6 : decode mX8_renew.2.1 6 = .ok (.getfield 15, 3) := by decide +kernel
theorem dX8_renew_9 : decode mX8_renew.2.1 9 = .ok (.iconst 0, 1) := by decide +kernel
theorem dX8_renew_10 : decode mX8_renew.2.1 10 = .ok (.iconst 0, 1) := by decide +kernel
theorem dX8_renew_11 : decode mX8_renew.2.1 11 = .ok (.iastore, 1) := by decide +kernel
theorem dX8_renew_12 : decode mX8_renew.2.1 12 = .ok (.aload_n 0, 1) := by decide +kernel
theorem dX8_renew_13 : decode mX8_renew.2.1 13 = .ok (.iconst 1, 1) := by decide +kernel
theorem dX8_renew_14 : decode mX8_renew.2.1 14 = .ok (.putfield 41, 3) := by decide +kernel
theorem dX8_renew_17 : decode mX8_renew.2.1 17 = .ok (.aload_n 0, 1) := by decide +kernel
theorem dX8_renew_18 : decode mX8_renew.2.1 18 = .ok (.iconst 0, 1) := by decide +kernel
theorem dX8_renew_19 : decode mX8_renew.2.1 19 = .ok (.putfield 44, 3) := by decide +kernel
theorem dX8_renew_22 : decode mX8_renew.2.1 22 = .ok (.aload_n 0, 1) := by decide +kernel
theorem dX8_renew_23 : decode mX8_renew.2.1 23 = .ok (.iconst 0, 1) := by decide +kernel
theorem dX8_renew_24 : decode mX8_renew.2.1 24 = .ok (.putfield 47, 3) := by decide +kernel
theorem dX8_renew_27 : decode mX8_renew.2.1 27 = .ok (.return_, 1) := by decide +kernel
theorem dX8_init_0 : decode mX8_init.2.1 0 = .ok (.aload_n 0, 1) := by decide +kernel
theorem dX8_init_1 : decode mX8_init.2.1 1 = .ok (.invokespecial 3, 3) := by decide +kernel
theorem dX8_init_4 : decode mX8_init.2.1 4 = .ok (.aload_n 0, 1) := by decide +kernel
theorem dX8_init_5 : decode mX8_init.2.1 5 = .ok (.iconst 4, 1) := by decide +kernel
theorem dX8_init_6 : decode mX8_init.2.1 6 = .ok (.newarray .int, 2) := by decide +kernel
theorem dX8_init_8 : decode mX8_init.2.1 8 = .ok (.putfield 9, 3) := by decide +kernel
theorem dX8_init_11 : decode mX8_init.2.1 11 = .ok (.aload_n 0, 1) := by decide +kernel
theorem dX8_init_12 : decode mX8_init.2.1 12 = .ok (.bipush 48, 2) := by decide +kernel
theorem dX8_init_14 : decode mX8_init.2.1 14 = .ok (.newarray .int, 2) := by decide +kernel
theorem dX8_init_16 : decode mX8_init.2.1 16 = .ok (.putfield 15, 3) := by decide +kernel
theorem dX8_init_19 : decode mX8_init.2.1 19 = .ok (.aload_n 0, 1) := by decide +kernel
theorem dX8_init_20 : decode mX8_init.2.1 20 = .ok (.aload_n 1, 1) := by decide +kernel
theorem dX8_init_21 : decode mX8_init.2.1 21 = .ok (.putfield 18, 3) := by decide +kernel
theorem dX8_init_24 : decode mX8_init.2.1 24 = .ok (.aload_n 0, 1) := by decide +kernel
theorem dX8_init_25 : decode mX8_init.2.1 25 = .ok (.new 22, 3) := by decide +kernel
theorem dX8_init_28 : decode mX8_init.2.1 28 = .ok (.dup, 1) := by decide +kernel
theorem dX8_init_29 : decode mX8_init.2.1 29 = .ok (.aload_n 1, 1) := by decide +kernel
theorem dX8_init_30 : decode mX8_init.2.1 30 = .ok (.iconst 4, 1) := by decide +kernel
theorem dX8_init_31 : decode mX8_init.2.1 31 = .ok (.invokespecial 24, 3) := by decide +kernel
theorem dX8_init_34 : decode mX8_init.2.1 34 = .ok (.putfield 27, 3) := by decide +kernel
theorem dX8_init_37 : decode mX8_init.2.1 37 = .ok (.aload_n 0, 1) := by decide +kernel
theorem dX8_init_38 : decode mX8_init.2.1 38 = .ok (.new 22, 3) := by decide +kernel
theorem dX8_init_41 : decode mX8_init.2.1 41 = .ok (.dup, 1) := by decide +kernel
theorem dX8_init_42 : decode mX8_init.2.1 42 = .ok (.aload_n 1, 1) := by decide +kernel
theorem dX8_init_43 : decode mX8_init.2.1 43 = .ok (.iconst 4, 1) := by decide +kernel
theorem dX8_init_44 : decode mX8_init.2.1 44 = .ok (.invokespecial 24, 3) := by decide +kernel
theorem dX8_init_47 : decode mX8_init.2.1 47 = .ok (.putfield 31, 3) := by decide +kernel
theorem dX8_init_50 : decode mX8_init.2.1 50 = .ok (.aload_n 0, 1) := by decide +kernel
theorem dX8_init_51 : decode mX8_init.2.1 51 = .ok (.invokevirtual 34, 3) := by decide +kernel
theorem dX8_init_54 : decode mX8_init.2.1 54 = .ok (.return_, 1) := by decide +kernel
theorem dX7_init_0 : decode mX7_init.2.1 0 = .ok (.aload_n 0, 1) := by decide +kernel
theorem dX7_init_1 : decode mX7_init.2.1 1 = .ok (.invokespecial 3, 3) := by decide +kernel
theorem dX7_init_4 : decode mX7_init.2.1 4 = .ok (.aload_n 0, 1) := by decide +kernel
theorem dX7_init_5 : decode mX7_init.2.1 5 = .ok (.bipush 8, 2) := by decide +kernel
theorem dX7_init_7 : decode mX7_init.2.1 7 = .ok (.bipush 8, 2) := by decide +kernel
theorem dX7_init_9 : decode mX7_init.2.1 9 = .ok (.multianewarray 11 2, 4) := by decide +kernel
theorem dX7_init_13 : decode mX7_init.2.1 13 = .ok (.putfield 13, 3) := by decide +kernel
theorem dX7_init_16 : decode mX7_init.2.1 16 = .ok (.aload_n 0, 1) := by decide +kernel
theorem dX7_init_17 : decode mX7_init.2.1 17 = .ok (.bipush 8, 2) := by decide +kernel
theorem dX7_init_19 : decode mX7_init.2.1 19 = .ok (.bipush 8, 2) := by decide +kernel
theorem dX7_init_21 : decode mX7_init.2.1 21 = .ok (.multianewarray 11 2, 4) := by decide +kernel
theorem dX7_init_25 : decode mX7_init.2.1 25 = .ok (.putfield 16, 3) := by decide +kernel
theorem dX7_init_28 : decode mX7_init.2.1 28 = .ok (.aload_n 0, 1) := by decide +kernel
theorem dX7_init_29 : decode mX7_init.2.1 29 = .ok (.bipush 8, 2) := by decide +kernel
theorem dX7_init_31 : decode mX7_init.2.1 31 = .ok (.newarray .int, 2) := by decide +kernel
theorem dX7_init_33 : decode mX7_init.2.1 33 = .ok (.putfield 19, 3) := by decide +kernel
theorem dX7_init_36 : decode mX7_init.2.1 36 = .ok (.aload_n 0, 1) := by decide +kernel
theorem dX7_init_37 : decode mX7_init.2.1 37 = .ok (.bipush 8, 2) := by decide +kernel
theorem dX7_init_39 : decode mX7_init.2.1 39 = .ok (.newarray .int, 2) := by decide +kernel
theorem dX7_init_41 : decode mX7_init.2.1 41 = .ok (.putfield 23, 3) := by decide +kernel
theorem dX7_init_44 : decode mX7_init.2.1 44 = .ok (.aload_n 0, 1) := by decide +kernel
theorem dX7_init_45 : decode mX7_init.2.1 45 = .ok (.bipush 8, 2) := by decide +kernel
theorem dX7_init_47 : decode mX7_init.2.1 47 = .ok (.newarray .int, 2) := by decide +kernel
theorem dX7_init_49 : decode mX7_init.2.1 49 = .ok (.putfield 26, 3) := by decide +kernel
theorem dX7_init_52 : decode mX7_init.2.1 52 = .ok (.aload_n 0, 1) := by decide +kernel
theorem dX7_init_53 : decode mX7_init.2.1 53 = .ok (.aload_n 1, 1) := by decide +kernel
theorem dX7_init_54 : decode mX7_init.2.1 54 = .ok (.putfield 29, 3) := by decide +kernel
theorem dX7_init_57 : decode mX7_init.2.1 57 = .ok (.return_, 1) := by decide +kernel
theorem dX0_init_0 : decode mX0_init.2.1 0 = .ok (.aload_n 0, 1) := by decide +kernel
theorem dX0_init_1 : decode mX0_init.2.1 1 = .ok (.invokespecial 3, 3) := by decide +kernel
theorem dX0_init_4 : decode mX0_init.2.1 4 = .ok (.aload_n 0, 1) := by decide +kernel
theorem dX0_init_5 : decode mX0_init.2.1 5 = .ok (.bipush 8, 2) := by decide +kernel
theorem dX0_init_7 : decode mX0_init.2.1 7 = .ok (.newarray .int, 2) := by decide +kernel
theorem dX0_init_9 : decode mX0_init.2.1 9 = .ok (.putfield 11, 3) := by decide +kernel
theorem dX0_init_12 : decode mX0_init.2.1 12 = .ok (.aload_n 0, 1) := by decide +kernel
theorem dX0_init_13 : decode mX0_init.2.1 13 = .ok (.bipush 8, 2) := by decide +kernel
theorem dX0_init_15 : decode mX0_init.2.1 15 = .ok (.bipush 8, 2) := by decide +kernel
theorem dX0_init_17 : decode mX0_init.2.1 17 = .ok (.multianewarray 17 2, 4) := by decide +kernel
theorem dX0_init_21 : decode mX0_init.2.1 21 = .ok (.putfield 19, 3) := by decide +kernel
theorem dX0_init_24 : decode mX0_init.2.1 24 = .ok (.aload_n 0, 1) := by decide +kernel
theorem dX0_init_25 : decode mX0_init.2.1 25 = .ok (.bipush 8, 2) := by decide +kernel
theorem dX0_init_27 : decode mX0_init.2.1 27 = .ok (.newarray .int, 2) := by decide +kernel
theorem dX0_init_29 : decode mX0_init.2.1 29 = .ok (.putfield 22, 3) := by decide +kernel
theorem dX0_init_32 : decode mX0_init.2.1 32 = .ok (.aload_n 0, 1) := by decide +kernel
theorem dX0_init_33 : decode mX0_init.2.1 33 = .ok (.bipush 12, 2) := by decide +kernel
theorem dX0_init_35 : decode mX0_init.2.1 35 = .ok (.newarray .int, 2) := by decide +kernel
theorem dX0_init_37 : decode mX0_init.2.1 37 = .ok (.putfield 25, 3) := by decide +kernel
theorem dX0_init_40 : decode mX0_init.2.1 40 = .ok (.aload_n 0, 1) := by decide +kernel
theorem dX0_init_41 : decode mX0_init.2.1 41 = .ok (.bipush 8, 2) := by decide +kernel
theorem dX0_init_43 : decode mX0_init.2.1 43 = .ok (.newarray .int, 2) := by decide +kernel
theorem dX0_init_45 : decode mX0_init.2.1 45 = .ok (.putfield 28, 3) := by decide +kernel
theorem dX0_init_48 : decode mX0_init.2.1 48 = .ok (.aload_n 0, 1) := by decide +kernel
theorem dX0_init_49 : decode mX0_init.2.1 49 = .ok (.bipush 8, 2) := by decide +kernel
theorem dX0_init_51 : decode mX0_init.2.1 51 = .ok (.newarray .int, 2) := by decide +kernel
theorem dX0_init_53 : decode mX0_init.2.1 53 = .ok (.putfield 31, 3) := by decide +kernel
theorem dX0_init_56 : decode mX0_init.2.1 56 = .ok (.aload_n 0, 1) := by decide +kernel
theorem dX0_init_57 : decode mX0_init.2.1 57 = .ok (.aload_n 1, 1) := by decide +kernel
theorem dX0_init_58 : decode mX0_init.2.1 58 = .ok (.putfield 34, 3) := by decide +kernel
theorem dX0_init_61 : decode mX0_init.2.1 61 = .ok (.aload_n 0, 1) := by decide +kernel
theorem dX0_init_62 : decode mX0_init.2.1 62 = .ok (.new 9, 3) := by decide +kernel
theorem dX0_init_65 : decode mX0_init.2.1 65 = .ok (.dup, 1) := by decide +kernel
theorem dX0_init_66 : decode mX0_init.2.1 66 = .ok (.aload_n 1, 1) := by decide +kernel
theorem dX0_init_67 : decode mX0_init.2.1 67 = .ok (.invokespecial 38, 3) := by decide +kernel
theorem dX0_init_70 : decode mX0_init.2.1 70 = .ok (.putfield 41, 3) := by decide +kernel
theorem dX0_init_73 : decode mX0_init.2.1 73 = .ok (.aload_n 0, 1) := by decide +kernel
theorem dX0_init_74 : decode mX0_init.2.1 74 = .ok (.new 9, 3) := by decide +kernel
theorem dX0_init_77 : decode mX0_init.2.1 77 = .ok (.dup, 1) := by decide +kernel
theorem dX0_init_78 : decode mX0_init.2.1 78 = .ok (.aload_n 1, 1) := by decide +kernel
theorem dX0_init_79 : decode mX0_init.2.1 79 = .ok (.invokespecial 38, 3) := by decide +kernel
theorem dX0_init_82 : decode mX0_init.2.1 82 = .ok (.putfield 45, 3) := by decide +kernel
theorem dX0_init_85 : decode mX0_init.2.1 85 = .ok (.aload_n 0, 1) := by decide +kernel
theorem dX0_init_86 : decode mX0_init.2.1 86 = .ok (.new 48, 3) := by decide +kernel
theorem dX0_init_89 : decode mX0_init.2.1 89 = .ok (.dup, 1) := by decide +kernel
theorem dX0_init_90 : decode mX0_init.2.1 90 = .ok (.aload_n 1, 1) := by decide +kernel
theorem dX0_init_91 : decode mX0_init.2.1 91 = .ok (.iconst 0, 1) := by decide +kernel
theorem dX0_init_92 : decode mX0_init.2.1 92 = .ok (.invokespecial 50, 3) := by decide +kernel
theorem dX0_init_95 : decode mX0_init.2.1 95 = .ok (.putfield 53, 3) := by decide +kernel
theorem dX0_init_98 : decode mX0_init.2.1 98 = .ok (.return_, 1) := by decide +kernel
theorem dX1_init_0 : decode mX1_init.2.1 0 = .ok (.aload_n 0, 1) := by decide +kernel
theorem dX1_init_1 : decode mX1_init.2.1 1 = .ok (.invokespecial 3, 3) := by decide +kernel
theorem dX1_init_4 : decode mX1_init.2.1 4 = .ok (.aload_n 0, 1) := by decide +kernel
theorem dX1_init_5 : decode mX1_init.2.1 5 = .ok (.bipush 40, 2) := by decide +kernel
theorem dX1_init_7 : decode mX1_init.2.1 7 = .ok (.iconst 4, 1) := by decide +kernel
theorem dX1_init_8 : decode mX1_init.2.1 8 = .ok (.multianewarray 11 2, 4) := by decide +kernel
theorem dX1_init_12 : decode mX1_init.2.1 12 = .ok (.putfield 13, 3) := by decide +kernel
theorem dX1_init_15 : decode mX1_init.2.1 15 = .ok (.aload_n 0, 1) := by decide +kernel
theorem dX1_init_16 : decode mX1_init.2.1 16 = .ok (.bipush 40, 2) := by decide +kernel
theorem dX1_init_18 : decode mX1_init.2.1 18 = .ok (.iconst 4, 1) := by decide +kernel
theorem dX1_init_19 : decode mX1_init.2.1 19 = .ok (.multianewarray 11 2, 4) := by decide +kernel
theorem dX1_init_23 : decode mX1_init.2.1 23 = .ok (.putfield 16, 3) := by decide +kernel
theorem dX1_init_26 : decode mX1_init.2.1 26 = .ok (.aload_n 0, 1) := by decide +kernel
theorem dX1_init_27 : decode mX1_init.2.1 27 = .ok (.aload_n 1, 1) := by decide +kernel
theorem dX1_init_28 : decode mX1_init.2.1 28 = .ok (.putfield 19, 3) := by decide +kernel
theorem dX1_init_31 : decode mX1_init.2.1 31 = .ok (.return_, 1) := by decide +kernel
theorem dX6_init_0 : decode mX6_init.2.1 0 = .ok (.aload_n 0, 1) := by decide +kernel
theorem dX6_init_1 : decode mX6_init.2.1 1 = .ok (.invokespecial 3, 3) := by decide +kernel
theorem dX6_init_4 : decode mX6_init.2.1 4 = .ok (.aload_n 0, 1) := by decide +kernel
theorem dX6_init_5 : decode mX6_init.2.1 5 = .ok (.bipush 8, 2) := by decide +kernel
theorem dX6_init_7 : decode mX6_init.2.1 7 = .ok (.anewarray 9, 3) := by decide +kernel
theorem dX6_init_10 : decode mX6_init.2.1 10 = .ok (.putfield 11, 3) := by decide +kernel
theorem dX6_init_13 : decode mX6_init.2.1 13 = .ok (.aload_n 0, 1) := by decide +kernel
theorem dX6_init_14 : decode mX6_init.2.1 14 = .ok (.bipush 8, 2) := by decide +kernel
theorem dX6_init_16 : decode mX6_init.2.1 16 = .ok (.newarray .int, 2) := by decide +kernel
theorem dX6_init_18 : decode mX6_init.2.1 18 = .ok (.putfield 17, 3) := by decide +kernel
theorem dX6_init_21 : decode mX6_init.2.1 21 = .ok (.aload_n 0, 1) := by decide +kernel
theorem dX6_init_22 : decode mX6_init.2.1 22 = .ok (.iconst (-1), 1) := by decide +kernel
theorem dX6_init_23 : decode mX6_init.2.1 23 = .ok (.putfield 21, 3) := by decide +kernel
theorem dX6_init_26 : decode mX6_init.2.1 26 = .ok (.aload_n 0, 1) := by decide +kernel
theorem dX6_init_27 : decode mX6_init.2.1 27 = .ok (.aload_n 1, 1) := by decide +kernel
theorem dX6_init_28 : decode mX6_init.2.1 28 = .ok (.putfield 25, 3) := by decide +kernel
theorem dX6_init_31 : decode mX6_init.2.1 31 = .ok (.return_, 1) := by decide +kernel
theorem dX9_init_0 : decode mX9_init.2.1 0 = .ok (.aload_n 0, 1) := by decide +kernel
theorem dX9_init_1 : decode mX9_init.2.1 1 = .ok (.invokespecial 1, 3) := by decide +kernel
theorem dX9_init_4 : decode mX9_init.2.1 4 = .ok (.aload_n 0, 1) := by decide +kernel
theorem dX9_init_5 : decode mX9_init.2.1 5 = .ok (.new 7, 3) := by decide +kernel
theorem dX9_init_8 : decode mX9_init.2.1 8 = .ok (.dup, 1) := by decide +kernel
theorem dX9_init_9 : decode mX9_init.2.1 9 = .ok (.invokespecial 9, 3) := by decide +kernel
theorem dX9_init_12 : decode mX9_init.2.1 12 = .ok (.putfield 10, 3) := by decide +kernel
theorem dX9_init_15 : decode mX9_init.2.1 15 = .ok (.aload_n 0, 1) := by decide +kernel
theorem dX9_init_16 : decode mX9_init.2.1 16 = .ok (.new 16, 3) := by decide +kernel
theorem dX9_init_19 : decode mX9_init.2.1 19 = .ok (.dup, 1) := by decide +kernel
theorem dX9_init_20 : decode mX9_init.2.1 20 = .ok (.aload_n 0, 1) := by decide +kernel
theorem dX9_init_21 : decode mX9_init.2.1 21 = .ok (.getfield 10, 3) := by decide +kernel
theorem dX9_init_24 : decode mX9_init.2.1 24 = .ok (.invokespecial 18, 3) := by decide +kernel
theorem dX9_init_27 : decode mX9_init.2.1 27 = .ok (.putfield 21, 3) := by decide +kernel
theorem dX9_init_30 : decode mX9_init.2.1 30 = .ok (.aload_n 0, 1) := by decide +kernel
theorem dX9_init_31 : decode mX9_init.2.1 31 = .ok (.new 25, 3) := by decide +kernel
theorem dX9_init_34 : decode mX9_init.2.1 34 = .ok (.dup, 1) := by decide +kernel
theorem dX9_init_35 : decode mX9_init.2.1 35 = .ok (.aload_n 0, 1) := by decide +kernel
theorem dX9_init_36 : decode mX9_init.2.1 36 = .ok (.getfield 10, 3) := by decide +kernel
theorem dX9_init_39 : decode mX9_init.2.1 39 = .ok (.invokespecial 27, 3) := by decide +kernel
theorem dX9_init_42 : decode mX9_init.2.1 42 = .ok (.putfield 28, 3) := by decide +kernel
theorem dX9_init_45 : decode mX9_init.2.1 45 = .ok (.aload_n 0, 1) := by decide +kernel
theorem dX9_init_46 : decode mX9_init.2.1 46 = .ok (.iconst 2, 1) := by decide +kernel
theorem dX9_init_47 : decode mX9_init.2.1 47 = .ok (.anewarray 25, 3) := by decide +kernel
theorem dX9_init_50 : decode mX9_init.2.1 50 = .ok (.putfield 32, 3) := by decide +kernel
theorem dX9_init_53 : decode mX9_init.2.1 53 = .ok (.aload_n 0, 1) := by decide +kernel
theorem dX9_init_54 : decode mX9_init.2.1 54 = .ok (.iconst 2, 1) := by decide +kernel
theorem dX9_init_55 : decode mX9_init.2.1 55 = .ok (.newarray .boolean, 2) := by decide +kernel
theorem dX9_init_57 : decode mX9_init.2.1 57 = .ok (.putfield 36, 3) := by decide +kernel
theorem dX9_init_60 : decode mX9_init.2.1 60 = .ok (.aload_n 0, 1) := by decide +kernel
theorem dX9_init_61 : decode mX9_init.2.1 61 = .ok (.iconst 3, 1) := by decide +kernel
theorem dX9_init_62 : decode mX9_init.2.1 62 = .ok (.anewarray 40, 3) := by decide +kernel
theorem dX9_init_65 : decode mX9_init.2.1 65 = .ok (.putfield 42, 3) := by decide +kernel
theorem dX9_init_68 : decode mX9_init.2.1 68 = .ok (.aload_n 0, 1) := by decide +kernel
theorem dX9_init_69 : decode mX9_init.2.1 69 = .ok (.new 46, 3) := by decide +kernel
theorem dX9_init_72 : decode mX9_init.2.1 72 = .ok (.dup, 1) := by decide +kernel
theorem dX9_init_73 : decode mX9_init.2.1 73 = .ok (.aload_n 0, 1) := by decide +kernel
theorem dX9_init_74 : decode mX9_init.2.1 74 = .ok (.getfield 10, 3) := by decide +kernel
theorem dX9_init_77 : decode mX9_init.2.1 77 = .ok (.invokespecial 48, 3) := by decide +kernel
theorem dX9_init_80 : decode mX9_init.2.1 80 = .ok (.putfield 49, 3) := by decide +kernel
theorem dX9_init_83 : decode mX9_init.2.1 83 = .ok (.aload_n 0, 1) := by decide +kernel
theorem dX9_init_84 : decode mX9_init.2.1 84 = .ok (.new 53, 3) := by decide +kernel
theorem dX9_init_87 : decode mX9_init.2.1 87 = .ok (.dup, 1) := by decide +kernel
theorem dX9_init_88 : decode mX9_init.2.1 88 = .ok (.aload_n 0, 1) := by decide +kernel
theorem dX9_init_89 : decode mX9_init.2.1 89 = .ok (.getfield 10, 3) := by decide +kernel
theorem dX9_init_92 : decode mX9_init.2.1 92 = .ok (.invokespecial 55, 3) := by decide +kernel
theorem dX9_init_95 : decode mX9_init.2.1 95 = .ok (.putfield 56, 3) := by decide +kernel
theorem dX9_init_98 : decode mX9_init.2.1 98 = .ok (.aload_n 0, 1) := by decide +kernel
theorem dX9_init_99 : decode mX9_init.2.1 99 = .ok (.new 60, 3) := by decide +kernel
theorem dX9_init_102 : decode mX9_init.2.1 102 = .ok (.dup, 1) := by decide +kernel
theorem dX9_init_103 : decode mX9_init.2.1 103 = .ok (.aload_n 0, 1) := by decide +kernel
theorem dX9_init_104 : decode mX9_init.2.1 104 = .ok (.getfield 10, 3) := by decide +kernel
theorem dX9_init_107 : decode mX9_init.2.1 107 = .ok (.bipush 8, 2) := by decide +kernel
theorem dX9_init_109 : decode mX9_init.2.1 109 = .ok (.invokespecial 64, 3) := by decide +kernel
theorem dX9_init_112 : decode mX9_init.2.1 112 = .ok (.putfield 67, 3) := by decide +kernel
theorem dX9_init_115 : decode mX9_init.2.1 115 = .ok (.aload_n 0, 1) := by decide +kernel
theorem dX9_init_116 : decode mX9_init.2.1 116 = .ok (.new 60, 3) := by decide +kernel
theorem dX9_init_119 : decode mX9_init.2.1 119 = .ok (.dup, 1) := by decide +kernel
theorem dX9_init_120 : decode mX9_init.2.1 120 = .ok (.aload_n 0, 1) := by decide +kernel
theorem dX9_init_121 : decode mX9_init.2.1 121 = .ok (.getfield 10, 3) := by decide +kernel
theorem dX9_init_124 : decode mX9_init.2.1 124 = .ok (.iconst 4, 1) := by decide +kernel
theorem dX9_init_125 : decode mX9_init.2.1 125 = .ok (.invokespecial 64, 3) := by decide +kernel
theorem dX9_init_128 : decode mX9_init.2.1 128 = .ok (.putfield 71, 3) := by decide +kernel
theorem dX9_init_131 : decode mX9_init.2.1 131 = .ok (.aload_n 0, 1) := by decide +kernel
theorem dX9_init_132 : decode mX9_init.2.1 132 = .ok (.iconst 4, 1) := by decide +kernel
theorem dX9_init_133 : decode mX9_init.2.1 133 = .ok (.newarray .int, 2) := by decide +kernel
theorem dX9_init_135 : decode mX9_init.2.1 135 = .ok (.putfield 74, 3) := by decide +kernel
theorem dX9_init_138 : decode mX9_init.2.1 138 = .ok (.iconst 0, 1) := by decide +kernel
theorem dX9_init_139 : decode mX9_init.2.1 139 = .ok (.istore_n 1, 1) := by decide +kernel
theorem dX9_init_140 : decode mX9_init.2.1 140 = .ok (.iload_n 1, 1) := by decide +kernel
theorem dX9_init_141 : decode mX9_init.2.1 141 = .ok (.iconst 2, 1) := by decide +kernel
theorem dX9_init_142 : decode mX9_init.2.1 142 = .ok (.if_icmp .ge 26, 3) := by decide +kernel
theorem dX9_init_145 : decode mX9_init.2.1 145 = .ok (.aload_n 0, 1) := by decide +kernel
theorem dX9_init_146 : decode mX9_init.2.1 146 = .ok (.getfield 32, 3) := by decide +kernel
theorem dX9_init_149 : decode mX9_init.2.1 149 = .ok (.iload_n 1, 1) := by decide +kernel
theorem dX9_init_150 : decode mX9_init.2.1 150 = .ok (.new 25, 3) := by decide +kernel
theorem dX9_init_153 : decode mX9_init.2.1 153 = .ok (.dup, 1) := by decide +kernel
theorem dX9_init_154 : decode mX9_init.2.1 154 = .ok (.aload_n 0, 1) := by decide +kernel
theorem dX9_init_155 : decode mX9_init.2.1 155 = .ok (.getfield 10, 3) := by decide +kernel
theorem dX9_init_158 : decode mX9_init.2.1 158 = .ok (.invokespecial 27, 3) := by decide +kernel
theorem dX9_init_161 : decode mX9_init.2.1 161 = .ok (.aastore, 1) := by decide +kernel
theorem dX9_init_162 : decode mX9_init.2.1 162 = .ok (.iinc 1 1, 3) := by decide +kernel
theorem dX9_init_165 : decode mX9_init.2.1 165 = .ok (.goto (-25), 3) := by decide +kernel
theorem dX9_init_168 : decode mX9_init.2.1 168 = .ok (.iconst 0, 1) := by decide +kernel
theorem dX9_init_169 : decode mX9_init.2.1 169 = .ok (.istore_n 1, 1) := by decide +kernel
theorem dX9_init_170 : decode mX9_init.2.1 170 = .ok (.iload_n 1, 1) := by decide +kernel
theorem dX9_init_171 : decode mX9_init.2.1 171 = .ok (.iconst 3, 1) := by decide +kernel
theorem dX9_init_172 : decode mX9_init.2.1 172 = .ok (.if_icmp .ge 26, 3) := by decide +kernel
theorem dX9_init_175 : decode mX9_init.2.1 175 = .ok (.aload_n 0, 1) := by decide +kernel
theorem dX9_init_176 : decode mX9_init.2.1 176 = .ok (.getfield 42, 3) := by decide +kernel
theorem dX9_init_179 : decode mX9_init.2.1 179 = .ok (.iload_n 1, 1) := by decide +kernel
theorem dX9_init_180 : decode mX9_init.2.1 180 = .ok (.new 40, 3) := by decide +kernel
theorem dX9_init_183 : decode mX9_init.2.1 183 = .ok (.dup, 1) := by decide +kernel
theorem dX9_init_184 : decode mX9_init.2.1 184 = .ok (.aload_n 0, 1) := by decide +kernel
theorem dX9_init_185 : decode mX9_init.2.1 185 = .ok (.getfield 10, 3) := by decide +kernel
theorem dX9_init_188 : decode mX9_init.2.1 188 = .ok (.invokespecial 78, 3) := by decide +kernel
theorem dX9_init_191 : decode mX9_init.2.1 191 = .ok (.aastore, 1) := by decide +kernel
theorem dX9_init_192 : decode mX9_init.2.1 192 = .ok (.iinc 1 1, 3) := by decide +kernel
theorem dX9_init_195 : decode mX9_init.2.1 195 = .ok (.goto (-25), 3) := by decide +kernel
theorem dX9_init_198 : decode mX9_init.2.1 198 = .ok (.return_, 1) := by decide +kernel
theorem dX4_put_0 : decode mX4_put.2.1 0 = .ok (.aload_n 0, 1) := by decide +kernel
theorem dX4_put_1 : decode mX4_put.2.1 1 = .ok (.getfield 28, 3) := by decide +kernel
theorem dX4_put_4 : decode mX4_put.2.1 4 = .ok (.sipush 200, 3) := by decide +kernel
theorem dX4_put_7 : decode mX4_put.2.1 7 = .ok (.if_icmp .lt 5, 3) := by decide +kernel
theorem dX4_put_10 : decode mX4_put.2.1 10 = .ok (.iconst 0, 1) := by decide +kernel
theorem dX4_put_11 : decode mX4_put.2.1 11 = .ok (.ireturn, 1) := by decide +kernel
theorem dX4_put_12 : decode mX4_put.2.1 12 = .ok (.aload_n 0, 1) := by decide +kernel
theorem dX4_put_13 : decode mX4_put.2.1 13 = .ok (.getfield 11, 3) := by decide +kernel
theorem dX4_put_16 : decode mX4_put.2.1 16 = .ok (.aload_n 0, 1) := by decide +kernel
theorem dX4_put_17 : decode mX4_put.2.1 17 = .ok (.getfield 28, 3) := by decide +kernel
theorem dX4_put_20 : decode mX4_put.2.1 20 = .ok (.iload_n 1, 1) := by decide +kernel
theorem dX4_put_21 : decode mX4_put.2.1 21 = .ok (.i2b, 1) := by decide +kernel
theorem dX4_put_22 : decode mX4_put.2.1 22 = .ok (.bastore, 1) := by decide +kernel
theorem dX4_put_23 : decode mX4_put.2.1 23 = .ok (.aload_n 0, 1) := by decide +kernel
theorem dX4_put_24 : decode mX4_put.2.1 24 = .ok (.dup, 1) := by decide +kernel
theorem dX4_put_25 : decode mX4_put.2.1 25 = .ok (.getfield 28, 3) := by decide +kernel
theorem dX4_put_28 : decode mX4_put.2.1 28 = .ok (.iconst 1, 1) := by decide +kernel
theorem dX4_put_29 : decode mX4_put.2.1 29 = .ok (.iadd, 1) := by decide +kernel
theorem dX4_put_30 : decode mX4_put.2.1 30 = .ok (.putfield 28, 3) := by decide +kernel
theorem dX4_put_33 : decode mX4_put.2.1 33 = .ok (.iconst 1, 1) := by decide +kernel
theorem dX4_put_34 : decode mX4_put.2.1 34 = .ok (.ireturn, 1) := by decide +kernel
theorem dX9_feed_0 : decode mX9_feed.2.1 0 = .ok (.iload_n 1, 1) := by decide +kernel
theorem dX9_feed_1 : decode mX9_feed.2.1 1 = .ok (.ifCond .lt 9, 3) := by decide +kernel
theorem dX9_feed_4 : decode mX9_feed.2.1 4 = .ok (.iload_n 1, 1) := by decide +kernel
theorem dX9_feed_5 : decode mX9_feed.2.1 5 = .ok (.bipush 127, 2) := by decide +kernel
theorem dX9_feed_7 : decode mX9_feed.2.1 7 = .ok (.if_icmp .le 5, 3) := by decide +kernel
theorem dX9_feed_10 : decode mX9_feed.2.1 10 = .ok (.iconst (-1), 1) := by decide +kernel
theorem dX9_feed_11 : decode mX9_feed.2.1 11 = .ok (.ireturn, 1) := by decide +kernel
theorem dX9_feed_12 : decode mX9_feed.2.1 12 = .ok (.aload_n 0, 1) := by decide +kernel
theorem dX9_feed_13 : decode mX9_feed.2.1 13 = .ok (.getfield 21, 3) := by decide +kernel
theorem dX9_feed_16 : decode mX9_feed.2.1 16 = .ok (.iload_n 1, 1) := by decide +kernel
theorem dX9_feed_17 : decode mX9_feed.2.1 17 = .ok (.invokevirtual 79, 3) := by decide +kernel
theorem dX9_feed_20 : decode mX9_feed.2.1 20 = .ok (.ifCond .eq 13, 3) := by decide +kernel
theorem dX9_feed_23 : decode mX9_feed.2.1 23 = .ok (.aload_n 0, 1) := by decide +kernel
theorem dX9_feed_24 : decode mX9_feed.2.1 24 = .ok (.getfield 21, 3) := by decide +kernel
theorem dX9_feed_27 : decode mX9_feed.2.1 27 = .ok (.getfield 83, 3) := by decide +kernel
theorem dX9_feed_30 : decode mX9_feed.2.1 30 = .ok (.goto 5, 3) := by decide +kernel
theorem dX9_feed_33 : decode mX9_feed.2.1 33 = .ok (.bipush (-3), 2) := by decide +kernel
theorem dX9_feed_35 : decode mX9_feed.2.1 35 = .ok (.ireturn, 1) := by decide +kernel
theorem dX9_end_0 : decode mX9_end.2.1 0 = .ok (.aload_n 0, 1) := by decide +kernel
theorem dX9_end_1 : decode mX9_end.2.1 1 = .ok (.getfield 21, 3) := by decide +kernel
theorem dX9_end_4 : decode mX9_end.2.1 4 = .ok (.getfield 83, 3) := by decide +kernel
theorem dX9_end_7 : decode mX9_end.2.1 7 = .ok (.istore_n 2, 1) := by decide +kernel
theorem dX9_end_8 : decode mX9_end.2.1 8 = .ok (.iload_n 1, 1) := by decide +kernel
theorem dX9_end_9 : decode mX9_end.2.1 9 = .ok (.ifCond .lt 8, 3) := by decide +kernel
theorem dX9_end_12 : decode mX9_end.2.1 12 = .ok (.iload_n 1, 1) := by decide +kernel
theorem dX9_end_13 : decode mX9_end.2.1 13 = .ok (.iload_n 2, 1) := by decide +kernel
theorem dX9_end_14 : decode mX9_end.2.1 14 = .ok (.if_icmp .le 5, 3) := by decide +kernel
theorem dX9_end_17 : decode mX9_end.2.1 17 = .ok (.iconst (-1), 1) := by decide +kernel
theorem dX9_end_18 : decode mX9_end.2.1 18 = .ok (.ireturn, 1) := by decide +kernel
theorem dX9_end_19 : decode mX9_end.2.1 19 = .ok (.aload_n 0, 1) := by decide +kernel
theorem dX9_end_20 : decode mX9_end.2.1 20 = .ok (.getfield 21, 3) := by decide +kernel
theorem dX9_end_23 : decode mX9_end.2.1 23 = .ok (.iload_n 1, 1) := by decide +kernel
theorem dX9_end_24 : decode mX9_end.2.1 24 = .ok (.putfield 83, 3) := by decide +kernel
theorem dX9_end_27 : decode mX9_end.2.1 27 = .ok (.iload_n 2, 1) := by decide +kernel
theorem dX9_end_28 : decode mX9_end.2.1 28 = .ok (.ireturn, 1) := by decide +kernel
theorem dJ7_fill_53178_0 : decode mJ7_fill_53178.2.1 0 = .ok (.iconst 0, 1) := by decide +kernel
theorem dJ7_fill_53178_1 : decode mJ7_fill_53178.2.1 1 = .ok (.istore_n 2, 1) := by decide +kernel
theorem dJ7_fill_53178_2 : decode mJ7_fill_53178.2.1 2 = .ok (.aload_n 0, 1) := by decide +kernel
theorem dJ7_fill_53178_3 : decode mJ7_fill_53178.2.1 3 = .ok (.arraylength, 1) := by decide +kernel
theorem dJ7_fill_53178_4 : decode mJ7_fill_53178.2.1 4 = .ok (.istore_n 3, 1) := by decide +kernel
theorem dJ7_fill_53178_5 : decode mJ7_fill_53178.2.1 5 = .ok (.iload_n 2, 1) := by decide +kernel
theorem dJ7_fill_53178_6 : decode mJ7_fill_53178.2.1 6 = .ok (.iload_n 3, 1) := by decide +kernel
theorem dJ7_fill_53178_7 : decode mJ7_fill_53178.2.1 7 = .ok (.if_icmp .ge 13, 3) := by decide +kernel
theorem dJ7_fill_53178_10 : decode mJ7_fill_53178.2.1 10 = .ok (.aload_n 0, 1) := by decide +kernel
theorem dJ7_fill_53178_11 : decode mJ7_fill_53178.2.1 11 = .ok (.iload_n 2, 1) := by decide +kernel
theorem dJ7_fill_53178_12 : decode mJ7_fill_53178.2.1 12 = .ok (.iload_n 1, 1) := by decide +kernel
theorem dJ7_fill_53178_13 : decode mJ7_fill_53178.2.1 13 = .ok (.iastore, 1) := by decide +kernel
theorem dJ7_fill_53178_14 : decode mJ7_fill_53178.2.1 14 = .ok (.iinc 2 1, 3) := by decide +kernel
theorem dJ7_fill_53178_17 : decode mJ7_fill_53178.2.1 17 = .ok (.goto (-12), 3) := by decide +kernel
theorem dJ7_fill_53178_20 : decode mJ7_fill_53178.2.1 20 = .ok (.return_, 1) := by decide +kernel
theorem dX3_become_0 : decode mX3_become.2.1 0 = .ok (.aload_n 0, 1) := by decide +kernel
theorem dX3_become_1 : decode mX3_become.2.1 1 = .ok (.iload_n 1, 1) := by decide +kernel
theorem dX3_become_2 : decode mX3_become.2.1 2 = .ok (.aload_n 0, 1) := by decide +kernel
theorem dX3_become_3 : decode mX3_become.2.1 3 = .ok (.getfield 17, 3) := by decide +kernel
theorem dX3_become_6 : decode mX3_become.2.1 6 = .ok (.if_icmp .gt 7, 3) := by decide +kernel
theorem dX3_become_9 : decode mX3_become.2.1 9 = .ok (.iload_n 1, 1) := by decide +kernel
theorem dX3_become_10 : decode mX3_become.2.1 10 = .ok (.goto 7, 3) := by decide +kernel
theorem dX3_become_13 : decode mX3_become.2.1 13 = .ok (.aload_n 0, 1) := by decide +kernel
theorem dX3_become_14 : decode mX3_become.2.1 14 = .ok (.getfield 17, 3) := by decide +kernel
theorem dX3_become_17 : decode mX3_become.2.1 17 = .ok (.putfield 31, 3) := by decide +kernel
theorem dX3_become_20 : decode mX3_become.2.1 20 = .ok (.aload_n 0, 1) := by decide +kernel
theorem dX3_become_21 : decode mX3_become.2.1 21 = .ok (.getfield 21, 3) := by decide +kernel
theorem dX3_become_24 : decode mX3_become.2.1 24 = .ok (.iconst 0, 1) := by decide +kernel
theorem dX3_become_25 : decode mX3_become.2.1 25 = .ok (.invokestatic 34, 3) := by decide +kernel
theorem dX3_become_28 : decode mX3_become.2.1 28 = .ok (.aload_n 0, 1) := by decide +kernel
theorem dX3_become_29 : decode mX3_become.2.1 29 = .ok (.getfield 25, 3) := by decide +kernel
theorem dX3_become_32 : decode mX3_become.2.1 32 = .ok (.iconst 0, 1) := by decide +kernel
theorem dX3_become_33 : decode mX3_become.2.1 33 = .ok (.invokestatic 34, 3) := by decide +kernel
theorem dX3_become_36 : decode mX3_become.2.1 36 = .ok (.aload_n 0, 1) := by decide +kernel
theorem dX3_become_37 : decode mX3_become.2.1 37 = .ok (.getfield 28, 3) := by decide +kernel
theorem dX3_become_40 : decode mX3_become.2.1 40 = .ok (.iconst 0, 1) := by decide +kernel
theorem dX3_become_41 : decode mX3_become.2.1 41 = .ok (.invokestatic 34, 3) := by decide +kernel
theorem dX3_become_44 : decode mX3_become.2.1 44 = .ok (.return_, 1) := by decide +kernel
theorem dX4_forget_0 : decode mX4_forget.2.1 0 = .ok (.aload_n 0, 1) := by decide +kernel
theorem dX4_forget_1 : decode mX4_forget.2.1 1 = .ok (.iconst 0, 1) := by decide +kernel
theorem dX4_forget_2 : decode mX4_forget.2.1 2 = .ok (.putfield 71, 3) := by decide +kernel
theorem dX4_forget_5 : decode mX4_forget.2.1 5 = .ok (.aload_n 0, 1) := by decide +kernel
theorem dX4_forget_6 : decode mX4_forget.2.1 6 = .ok (.iconst 0, 1) := by decide +kernel
theorem dX4_forget_7 : decode mX4_forget.2.1 7 = .ok (.putfield 38, 3) := by decide +kernel
theorem dX4_forget_10 : decode mX4_forget.2.1 10 = .ok (.aload_n 0, 1) := by decide +kernel
theorem dX4_forget_11 : decode mX4_forget.2.1 11 = .ok (.iconst 0, 1) := by decide +kernel
theorem dX4_forget_12 : decode mX4_forget.2.1 12 = .ok (.putfield 74, 3) := by decide +kernel
theorem dX4_forget_15 : decode mX4_forget.2.1 15 = .ok (.aload_n 0, 1) := by decide +kernel
theorem dX4_forget_16 : decode mX4_forget.2.1 16 = .ok (.getfield 24, 3) := by decide +kernel
theorem dX4_forget_19 : decode mX4_forget.2.1 19 = .ok (.iconst 0, 1) := by decide +kernel
theorem dX4_forget_20 : decode mX4_forget.2.1 20 = .ok (.invokevirtual 77, 3) := by decide +kernel
theorem dX4_forget_23 : decode mX4_forget.2.1 23 = .ok (.iconst 0, 1) := by decide +kernel
theorem dX4_forget_24 : decode mX4_forget.2.1 24 = .ok (.istore_n 1, 1) := by decide +kernel
theorem dX4_forget_25 : decode mX4_forget.2.1 25 = .ok (.iload_n 1, 1) := by decide +kernel
theorem dX4_forget_26 : decode mX4_forget.2.1 26 = .ok (.aload_n 0, 1) := by decide +kernel
theorem dX4_forget_27 : decode mX4_forget.2.1 27 = .ok (.getfield 15, 3) := by decide +kernel
theorem dX4_forget_30 : decode mX4_forget.2.1 30 = .ok (.arraylength, 1) := by decide +kernel
theorem dX4_forget_31 : decode mX4_forget.2.1 31 = .ok (.if_icmp .ge 16, 3) := by decide +kernel
theorem dX4_forget_34 : decode mX4_forget.2.1 34 = .ok (.aload_n 0, 1) := by decide +kernel
theorem dX4_forget_35 : decode mX4_forget.2.1 35 = .ok (.getfield 15, 3) := by decide +kernel
theorem dX4_forget_38 : decode mX4_forget.2.1 38 = .ok (.iload_n 1, 1) := by decide +kernel
theorem dX4_forget_39 : decode mX4_forget.2.1 39 = .ok (.iconst 0, 1) := by decide +kernel
theorem dX4_forget_40 : decode mX4_forget.2.1 40 = .ok (.bastore, 1) := by decide +kernel
theorem dX4_forget_41 : decode mX4_forget.2.1 41 = .ok (.iinc 1 1, 3) := by decide +kernel
theorem dX4_forget_44 : decode mX4_forget.2.1 44 = .ok (.goto (-19), 3) := by decide +kernel
theorem dX4_forget_47 : decode mX4_forget.2.1 47 = .ok (.aload_n 0, 1) := by decide +kernel
theorem dX4_forget_48 : decode mX4_forget.2.1 48 = .ok (.iconst (-1), 1) := by decide +kernel
theorem dX4_forget_49 : decode mX4_forget.2.1 49 = .ok (.putfield 47, 3) := by decide +kernel
theorem dX4_forget_52 : decode mX4_forget.2.1 52 = .ok (.aload_n 0, 1) := by decide +kernel
theorem dX4_forget_53 : decode mX4_forget.2.1 53 = .ok (.iconst (-1), 1) := by decide +kernel
theorem dX4_forget_54 : decode mX4_forget.2.1 54 = .ok (.putfield 53, 3) := by decide +kernel
theorem dX4_forget_57 : decode mX4_forget.2.1 57 = .ok (.aload_n 0, 1) := by decide +kernel
theorem dX4_forget_58 : decode mX4_forget.2.1 58 = .ok (.bipush 7, 2) := by decide +kernel
theorem dX4_forget_60 : decode mX4_forget.2.1 60 = .ok (.putfield 83, 3) := by decide +kernel
theorem dX4_forget_63 : decode mX4_forget.2.1 63 = .ok (.aload_n 0, 1) := by decide +kernel
theorem dX4_forget_64 : decode mX4_forget.2.1 64 = .ok (.iconst 2, 1) := by decide +kernel
theorem dX4_forget_65 : decode mX4_forget.2.1 65 = .ok (.putfield 56, 3) := by decide +kernel
theorem dX4_forget_68 : decode mX4_forget.2.1 68 = .ok (.aload_n 0, 1) := by decide +kernel
theorem dX4_forget_69 : decode mX4_forget.2.1 69 = .ok (.iconst 0, 1) := by decide +kernel
theorem dX4_forget_70 : decode mX4_forget.2.1 70 = .ok (.putfield 50, 3) := by decide +kernel
theorem dX4_forget_73 : decode mX4_forget.2.1 73 = .ok (.return_, 1) := by decide +kernel
theorem dX4_kindOfToken_0 : decode mX4_kindOfToken.2.1 0 = .ok (.iload_n 0, 1) := by decide +kernel
theorem dX4_kindOfToken_1 : decode mX4_kindOfToken.2.1 1 = .ok (.bipush 97, 2) := by decide +kernel
theorem dX4_kindOfToken_3 : decode mX4_kindOfToken.2.1 3 = .ok (.if_icmp .lt 11, 3) := by decide +kernel
theorem dX4_kindOfToken_6 : decode mX4_kindOfToken.2.1 6 = .ok (.iload_n 0, 1) := by decide +kernel
theorem dX4_kindOfToken_7 : decode mX4_kindOfToken.2.1 7 = .ok (.bipush 122, 2) := by decide +kernel
theorem dX4_kindOfToken_9 : decode mX4_kindOfToken.2.1 9 = .ok (.if_icmp .gt 5, 3) := by decide +kernel
theorem dX4_kindOfToken_12 : decode mX4_kindOfToken.2.1 12 = .ok (.iconst 1, 1) := by decide +kernel
theorem dX4_kindOfToken_13 : decode mX4_kindOfToken.2.1 13 = .ok (.ireturn, 1) := by decide +kernel
theorem dX4_kindOfToken_14 : decode mX4_kindOfToken.2.1 14 = .ok (.iload_n 0, 1) := by decide +kernel
theorem dX4_kindOfToken_15 : decode mX4_kindOfToken.2.1 15 = .ok (.bipush 48, 2) := by decide +kernel
theorem dX4_kindOfToken_17 : decode mX4_kindOfToken.2.1 17 = .ok (.if_icmp .lt 11, 3) := by decide +kernel
theorem dX4_kindOfToken_20 : decode mX4_kindOfToken.2.1 20 = .ok (.iload_n 0, 1) := by decide +kernel
theorem dX4_kindOfToken_21 : decode mX4_kindOfToken.2.1 21 = .ok (.bipush 57, 2) := by decide +kernel
theorem dX4_kindOfToken_23 : decode mX4_kindOfToken.2.1 23 = .ok (.if_icmp .gt 5, 3) := by decide +kernel
theorem dX4_kindOfToken_26 : decode mX4_kindOfToken.2.1 26 = .ok (.iconst 2, 1) := by decide +kernel
theorem dX4_kindOfToken_27 : decode mX4_kindOfToken.2.1 27 = .ok (.ireturn, 1) := by decide +kernel
theorem dX4_kindOfToken_28 : decode mX4_kindOfToken.2.1 28 = .ok (.iload_n 0, 1) := by decide +kernel
theorem dX4_kindOfToken_29 : decode mX4_kindOfToken.2.1 29 = .ok (.bipush 59, 2) := by decide +kernel
theorem dX4_kindOfToken_31 : decode mX4_kindOfToken.2.1 31 = .ok (.if_icmp .ne 7, 3) := by decide +kernel
theorem dX4_kindOfToken_34 : decode mX4_kindOfToken.2.1 34 = .ok (.iconst 3, 1) := by decide +kernel
theorem dX4_kindOfToken_35 : decode mX4_kindOfToken.2.1 35 = .ok (.goto 4, 3) := by decide +kernel
theorem dX4_kindOfToken_38 : decode mX4_kindOfToken.2.1 38 = .ok (.iconst 4, 1) := by decide +kernel
theorem dX4_kindOfToken_39 : decode mX4_kindOfToken.2.1 39 = .ok (.ireturn, 1) := by decide +kernel
theorem dX4_readName_0 : decode mX4_readName.2.1 0 = .ok (.aload_n 0, 1) := by decide +kernel
theorem dX4_readName_1 : decode mX4_readName.2.1 1 = .ok (.getfield 71, 3) := by decide +kernel
theorem dX4_readName_4 : decode mX4_readName.2.1 4 = .ok (.aload_n 0, 1) := by decide +kernel
theorem dX4_readName_5 : decode mX4_readName.2.1 5 = .ok (.getfield 28, 3) := by decide +kernel
theorem dX4_readName_8 : decode mX4_readName.2.1 8 = .ok (.if_icmp .ge 44, 3) := by decide +kernel
theorem dX4_readName_11 : decode mX4_readName.2.1 11 = .ok (.aload_n 0, 1) := by decide +kernel
theorem dX4_readName_12 : decode mX4_readName.2.1 12 = .ok (.getfield 11, 3) := by decide +kernel
theorem dX4_readName_15 : decode mX4_readName.2.1 15 = .ok (.aload_n 0, 1) := by decide +kernel
theorem dX4_readName_16 : decode mX4_readName.2.1 16 = .ok (.getfield 71, 3) := by decide +kernel
theorem dX4_readName_19 : decode mX4_readName.2.1 19 = .ok (.baload, 1) := by decide +kernel
theorem dX4_readName_20 : decode mX4_readName.2.1 20 = .ok (.bipush 97, 2) := by decide +kernel
theorem dX4_readName_22 : decode mX4_readName.2.1 22 = .ok (.if_icmp .lt 30, 3) := by decide +kernel
theorem dX4_readName_25 : decode mX4_readName.2.1 25 = .ok (.aload_n 0, 1) := by decide +kernel
theorem dX4_readName_26 : decode mX4_readName.2.1 26 = .ok (.getfield 11, 3) := by decide +kernel
theorem dX4_readName_29 : decode mX4_readName.2.1 29 = .ok (.aload_n 0, 1) := by decide +kernel
theorem dX4_readName_30 : decode mX4_readName.2.1 30 = .ok (.getfield 71, 3) := by decide +kernel
theorem dX4_readName_33 : decode mX4_readName.2.1 33 = .ok (.baload, 1) := by decide +kernel
theorem dX4_readName_34 : decode mX4_readName.2.1 34 = .ok (.bipush 122, 2) := by decide +kernel
theorem dX4_readName_36 : decode mX4_readName.2.1 36 = .ok (.if_icmp .gt 16, 3) := by decide +kernel
theorem dX4_readName_39 : decode mX4_readName.2.1 39 = .ok (.aload_n 0, 1) := by decide +kernel
theorem dX4_readName_40 : decode mX4_readName.2.1 40 = .ok (.dup, 1) := by decide +kernel
theorem dX4_readName_41 : decode mX4_readName.2.1 41 = .ok (.getfield 71, 3) := by decide +kernel
theorem dX4_readName_44 : decode mX4_readName.2.1 44 = .ok (.iconst 1, 1) := by decide +kernel
theorem dX4_readName_45 : decode mX4_readName.2.1 45 = .ok (.iadd, 1) := by decide +kernel
theorem dX4_readName_46 : decode mX4_readName.2.1 46 = .ok (.putfield 71, 3) := by decide +kernel
theorem dX4_readName_49 : decode mX4_readName.2.1 49 = .ok (.goto (-49), 3) := by decide +kernel
theorem dX4_readName_52 : decode mX4_readName.2.1 52 = .ok (.return_, 1) := by decide +kernel
theorem dX4_readNumber_0 : decode mX4_readNumber.2.1 0 = .ok (.aload_n 0, 1) := by decide +kernel
theorem dX4_readNumber_1 : decode mX4_readNumber.2.1 1 = .ok (.iconst 0, 1) := by decide +kernel
theorem dX4_readNumber_2 : decode mX4_readNumber.2.1 2 = .ok (.putfield 148, 3) := by decide +kernel
theorem dX4_readNumber_5 : decode mX4_readNumber.2.1 5 = .ok (.aload_n 0, 1) := by decide +kernel
theorem dX4_readNumber_6 : decode mX4_readNumber.2.1 6 = .ok (.getfield 71, 3) := by decide +kernel
theorem dX4_readNumber_9 : decode mX4_readNumber.2.1 9 = .ok (.aload_n 0, 1) := by decide +kernel
theorem dX4_readNumber_10 : decode mX4_readNumber.2.1 10 = .ok (.getfield 28, 3) := by decide +kernel
theorem dX4_readNumber_13 : decode mX4_readNumber.2.1 13 = .ok (.if_icmp .ge 71, 3) := by decide +kernel
theorem dX4_readNumber_16 : decode mX4_readNumber.2.1 16 = .ok (.aload_n 0, 1) := by decide +kernel
theorem dX4_readNumber_17 : decode mX4_readNumber.2.1 17 = .ok (.getfield 11, 3) := by decide +kernel
theorem dX4_readNumber_20 : decode mX4_readNumber.2.1 20 = .ok (.aload_n 0, 1) := by decide +kernel
theorem dX4_readNumber_21 : decode mX4_readNumber.2.1 21 = .ok (.getfield 71, 3) := by decide +kernel
theorem dX4_readNumber_24 : decode mX4_readNumber.2.1 24 = .ok (.baload, 1) := by decide +kernel
theorem dX4_readNumber_25 : decode mX4_readNumber.2.1 25 = .ok (.bipush 48, 2) := by decide +kernel
theorem dX4_readNumber_27 : decode mX4_readNumber.2.1 27 = .ok (.if_icmp .lt 57, 3) := by decide +kernel
theorem dX4_readNumber_30 : decode mX4_readNumber.2.1 30 = .ok (.aload_n 0, 1) := by decide +kernel
theorem dX4_readNumber_31 : decode mX4_readNumber.2.1 31 = .ok (.getfield 11, 3) := by decide +kernel
theorem dX4_readNumber_34 : decode mX4_readNumber.2.1 34 = .ok (.aload_n 0, 1) := by decide +kernel
theorem dX4_readNumber_35 : decode mX4_readNumber.2.1 35 = .ok (.getfield 71, 3) := by decide +kernel
theorem dX4_readNumber_38 : decode mX4_readNumber.2.1 38 = .ok (.baload, 1) := by decide +kernel
theorem dX4_readNumber_39 : decode mX4_readNumber.2.1 39 = .ok (.bipush 57, 2) := by decide +kernel
theorem dX4_readNumber_41 : decode mX4_readNumber.2.1 41 = .ok (.if_icmp .gt 43, 3) := by decide +kernel
theorem dX4_readNumber_44 : decode mX4_readNumber.2.1 44 = .ok (.aload_n 0, 1) := by decide +kernel
theorem dX4_readNumber_45 : decode mX4_readNumber.2.1 45 = .ok (.aload_n 0, 1) := by decide +kernel
theorem dX4_readNumber_46 : decode mX4_readNumber.2.1 46 = .ok (.getfield 148, 3) := by decide +kernel
theorem dX4_readNumber_49 : decode mX4_readNumber.2.1 49 = .ok (.bipush 10, 2) := by decide +kernel
theorem dX4_readNumber_51 : decode mX4_readNumber.2.1 51 = .ok (.irem, 1) := by decide +kernel
theorem dX4_readNumber_52 : decode mX4_readNumber.2.1 52 = .ok (.bipush 10, 2) := by decide +kernel
theorem dX4_readNumber_54 : decode mX4_readNumber.2.1 54 = .ok (.imul, 1) := by decide +kernel
theorem dX4_readNumber_55 : decode mX4_readNumber.2.1 55 = .ok (.aload_n 0, 1) := by decide +kernel
theorem dX4_readNumber_56 : decode mX4_readNumber.2.1 56 = .ok (.getfield 11, 3) := by decide +kernel
theorem dX4_readNumber_59 : decode mX4_readNumber.2.1 59 = .ok (.aload_n 0, 1) := by decide +kernel
theorem dX4_readNumber_60 : decode mX4_readNumber.2.1 60 = .ok (.getfield 71, 3) := by decide +kernel
theorem dX4_readNumber_63 : decode mX4_readNumber.2.1 63 = .ok (.baload, 1) := by decide +kernel
theorem dX4_readNumber_64 : decode mX4_readNumber.2.1 64 = .ok (.bipush 48, 2) := by decide +kernel
theorem dX4_readNumber_66 : decode mX4_readNumber.2.1 66 = .ok (.isub, 1) := by decide +kernel
theorem dX4_readNumber_67 : decode mX4_readNumber.2.1 67 = .ok (.iadd, 1) := by decide +kernel
theorem dX4_readNumber_68 : decode mX4_readNumber.2.1 68 = .ok (.putfield 148, 3) := by decide +kernel
theorem dX4_readNumber_71 : decode mX4_readNumber.2.1 71 = .ok (.aload_n 0, 1) := by decide +kernel
theorem dX4_readNumber_72 : decode mX4_readNumber.2.1 72 = .ok (.dup, 1) := by decide +kernel
theorem dX4_readNumber_73 : decode mX4_readNumber.2.1 73 = .ok (.getfield 71, 3) := by decide +kernel
theorem dX4_readNumber_76 : decode mX4_readNumber.2.1 76 = .ok (.iconst 1, 1) := by decide +kernel
theorem dX4_readNumber_77 : decode mX4_readNumber.2.1 77 = .ok (.iadd, 1) := by decide +kernel
theorem dX4_readNumber_78 : decode mX4_readNumber.2.1 78 = .ok (.putfield 71, 3) := by decide +kernel
theorem dX4_readNumber_81 : decode mX4_readNumber.2.1 81 = .ok (.goto (-76), 3) := by decide +kernel
theorem dX4_readNumber_84 : decode mX4_readNumber.2.1 84 = .ok (.return_, 1) := by decide +kernel
theorem dX4_refuse_0 : decode mX4_refuse.2.1 0 = .ok (.aload_n 0, 1) := by decide +kernel
theorem dX4_refuse_1 : decode mX4_refuse.2.1 1 = .ok (.getfield 38, 3) := by decide +kernel
theorem dX4_refuse_4 : decode mX4_refuse.2.1 4 = .ok (.ifCond .ne 13, 3) := by decide +kernel
theorem dX4_refuse_7 : decode mX4_refuse.2.1 7 = .ok (.aload_n 0, 1) := by decide +kernel
theorem dX4_refuse_8 : decode mX4_refuse.2.1 8 = .ok (.iload_n 1, 1) := by decide +kernel
theorem dX4_refuse_9 : decode mX4_refuse.2.1 9 = .ok (.putfield 38, 3) := by decide +kernel
theorem dX4_refuse_12 : decode mX4_refuse.2.1 12 = .ok (.aload_n 0, 1) := by decide +kernel
theorem dX4_refuse_13 : decode mX4_refuse.2.1 13 = .ok (.iload_n 2, 1) := by decide +kernel
theorem dX4_refuse_14 : decode mX4_refuse.2.1 14 = .ok (.putfield 74, 3) := by decide +kernel
theorem dX4_refuse_17 : decode mX4_refuse.2.1 17 = .ok (.return_, 1) := by decide +kernel
theorem dX4_next_0 : decode mX4_next.2.1 0 = .ok (.aload_n 0, 1) := by decide +kernel
theorem dX4_next_1 : decode mX4_next.2.1 1 = .ok (.getfield 38, 3) := by decide +kernel
theorem dX4_next_4 : decode mX4_next.2.1 4 = .ok (.ifCond .eq 4, 3) := by decide +kernel
theorem dX4_next_7 : decode mX4_next.2.1 7 = .ok (.return_, 1) := by decide +kernel
theorem dX4_next_8 : decode mX4_next.2.1 8 = .ok (.aload_n 0, 1) := by decide +kernel
theorem dX4_next_9 : decode mX4_next.2.1 9 = .ok (.getfield 71, 3) := by decide +kernel
theorem dX4_next_12 : decode mX4_next.2.1 12 = .ok (.aload_n 0, 1) := by decide +kernel
theorem dX4_next_13 : decode mX4_next.2.1 13 = .ok (.getfield 28, 3) := by decide +kernel
theorem dX4_next_16 : decode mX4_next.2.1 16 = .ok (.if_icmp .ge 30, 3) := by decide +kernel
theorem dX4_next_19 : decode mX4_next.2.1 19 = .ok (.aload_n 0, 1) := by decide +kernel
theorem dX4_next_20 : decode mX4_next.2.1 20 = .ok (.getfield 11, 3) := by decide +kernel
theorem dX4_next_23 : decode mX4_next.2.1 23 = .ok (.aload_n 0, 1) := by decide +kernel
theorem dX4_next_24 : decode mX4_next.2.1 24 = .ok (.getfield 71, 3) := by decide +kernel
theorem dX4_next_27 : decode mX4_next.2.1 27 = .ok (.baload, 1) := by decide +kernel
theorem dX4_next_28 : decode mX4_next.2.1 28 = .ok (.bipush 32, 2) := by decide +kernel
theorem dX4_next_30 : decode mX4_next.2.1 30 = .ok (.if_icmp .ne 16, 3) := by decide +kernel
theorem dX4_next_33 : decode mX4_next.2.1 33 = .ok (.aload_n 0, 1) := by decide +kernel
theorem dX4_next_34 : decode mX4_next.2.1 34 = .ok (.dup, 1) := by decide +kernel
theorem dX4_next_35 : decode mX4_next.2.1 35 = .ok (.getfield 71, 3) := by decide +kernel
theorem dX4_next_38 : decode mX4_next.2.1 38 = .ok (.iconst 1, 1) := by decide +kernel
theorem dX4_next_39 : decode mX4_next.2.1 39 = .ok (.iadd, 1) := by decide +kernel
theorem dX4_next_40 : decode mX4_next.2.1 40 = .ok (.putfield 71, 3) := by decide +kernel
theorem dX4_next_43 : decode mX4_next.2.1 43 = .ok (.goto (-35), 3) := by decide +kernel
theorem dX4_next_46 : decode mX4_next.2.1 46 = .ok (.aload_n 0, 1) := by decide +kernel
theorem dX4_next_47 : decode mX4_next.2.1 47 = .ok (.aload_n 0, 1) := by decide +kernel
theorem dX4_next_48 : decode mX4_next.2.1 48 = .ok (.getfield 71, 3) := by decide +kernel
theorem dX4_next_51 : decode mX4_next.2.1 51 = .ok (.putfield 90, 3) := by decide +kernel
theorem dX4_next_54 : decode mX4_next.2.1 54 = .ok (.aload_n 0, 1) := by decide +kernel
theorem dX4_next_55 : decode mX4_next.2.1 55 = .ok (.aload_n 0, 1) := by decide +kernel
theorem dX4_next_56 : decode mX4_next.2.1 56 = .ok (.getfield 71, 3) := by decide +kernel
theorem dX4_next_59 : decode mX4_next.2.1 59 = .ok (.aload_n 0, 1) := by decide +kernel
theorem dX4_next_60 : decode mX4_next.2.1 60 = .ok (.getfield 28, 3) := by decide +kernel
theorem dX4_next_63 : decode mX4_next.2.1 63 = .ok (.if_icmp .ge 18, 3) := by decide +kernel
theorem dX4_next_66 : decode mX4_next.2.1 66 = .ok (.aload_n 0, 1) := by decide +kernel
theorem dX4_next_67 : decode mX4_next.2.1 67 = .ok (.getfield 11, 3) := by decide +kernel
theorem dX4_next_70 : decode mX4_next.2.1 70 = .ok (.aload_n 0, 1) := by decide +kernel
theorem dX4_next_71 : decode mX4_next.2.1 71 = .ok (.getfield 71, 3) := by decide +kernel
theorem dX4_next_74 : decode mX4_next.2.1 74 = .ok (.baload, 1) := by decide +kernel
theorem dX4_next_75 : decode mX4_next.2.1 75 = .ok (.invokestatic 151, 3) := by decide +kernel
theorem dX4_next_78 : decode mX4_next.2.1 78 = .ok (.goto 4, 3) := by decide +kernel
theorem dX4_next_81 : decode mX4_next.2.1 81 = .ok (.iconst 0, 1) := by decide +kernel
theorem dX4_next_82 : decode mX4_next.2.1 82 = .ok (.putfield 41, 3) := by decide +kernel
theorem dX4_next_85 : decode mX4_next.2.1 85 = .ok (.aload_n 0, 1) := by decide +kernel
theorem dX4_next_86 : decode mX4_next.2.1 86 = .ok (.getfield 41, 3) := by decide +kernel
theorem dX4_next_89 : decode mX4_next.2.1 89 = .ok (.iconst 1, 1) := by decide +kernel
theorem dX4_next_90 : decode mX4_next.2.1 90 = .ok (.if_icmp .ne 10, 3) := by decide +kernel
theorem dX4_next_93 : decode mX4_next.2.1 93 = .ok (.aload_n 0, 1) := by decide +kernel
theorem dX4_next_94 : decode mX4_next.2.1 94 = .ok (.invokevirtual 155, 3) := by decide +kernel
theorem dX4_next_97 : decode mX4_next.2.1 97 = .ok (.goto 36, 3) := by decide +kernel
theorem dX4_next_100 : decode mX4_next.2.1 100 = .ok (.aload_n 0, 1) := by decide +kernel
theorem dX4_next_101 : decode mX4_next.2.1 101 = .ok (.getfield 41, 3) := by decide +kernel
theorem dX4_next_104 : decode mX4_next.2.1 104 = .ok (.iconst 2, 1) := by decide +kernel
theorem dX4_next_105 : decode mX4_next.2.1 105 = .ok (.if_icmp .ne 10, 3) := by decide +kernel
theorem dX4_next_108 : decode mX4_next.2.1 108 = .ok (.aload_n 0, 1) := by decide +kernel
theorem dX4_next_109 : decode mX4_next.2.1 109 = .ok (.invokevirtual 158, 3) := by decide +kernel
theorem dX4_next_112 : decode mX4_next.2.1 112 = .ok (.goto 21, 3) := by decide +kernel
theorem dX4_next_115 : decode mX4_next.2.1 115 = .ok (.aload_n 0, 1) := by decide +kernel
theorem dX4_next_116 : decode mX4_next.2.1 116 = .ok (.getfield 41, 3) := by decide +kernel
theorem dX4_next_119 : decode mX4_next.2.1 119 = .ok (.iconst 3, 1) := by decide +kernel
theorem dX4_next_120 : decode mX4_next.2.1 120 = .ok (.if_icmp .ne 13, 3) := by decide +kernel
theorem dX4_next_123 : decode mX4_next.2.1 123 = .ok (.aload_n 0, 1) := by decide +kernel
theorem dX4_next_124 : decode mX4_next.2.1 124 = .ok (.dup, 1) := by decide +kernel
theorem dX4_next_125 : decode mX4_next.2.1 125 = .ok (.getfield 71, 3) := by decide +kernel
theorem dX4_next_128 : decode mX4_next.2.1 128 = .ok (.iconst 1, 1) := by decide +kernel
theorem dX4_next_129 : decode mX4_next.2.1 129 = .ok (.iadd, 1) := by decide +kernel
theorem dX4_next_130 : decode mX4_next.2.1 130 = .ok (.putfield 71, 3) := by decide +kernel
theorem dX4_next_133 : decode mX4_next.2.1 133 = .ok (.aload_n 0, 1) := by decide +kernel
theorem dX4_next_134 : decode mX4_next.2.1 134 = .ok (.getfield 41, 3) := by decide +kernel
theorem dX4_next_137 : decode mX4_next.2.1 137 = .ok (.iconst 2, 1) := by decide +kernel
theorem dX4_next_138 : decode mX4_next.2.1 138 = .ok (.if_icmp .ne 20, 3) := by decide +kernel
theorem dX4_next_141 : decode mX4_next.2.1 141 = .ok (.aload_n 0, 1) := by decide +kernel
theorem dX4_next_142 : decode mX4_next.2.1 142 = .ok (.getfield 71, 3) := by decide +kernel
theorem dX4_next_145 : decode mX4_next.2.1 145 = .ok (.aload_n 0, 1) := by decide +kernel
theorem dX4_next_146 : decode mX4_next.2.1 146 = .ok (.getfield 90, 3) := by decide +kernel
theorem dX4_next_149 : decode mX4_next.2.1 149 = .ok (.isub, 1) := by decide +kernel
theorem dX4_next_150 : decode mX4_next.2.1 150 = .ok (.iconst 2, 1) := by decide +kernel
theorem dX4_next_151 : decode mX4_next.2.1 151 = .ok (.if_icmp .le 7, 3) := by decide +kernel
theorem dX4_next_154 : decode mX4_next.2.1 154 = .ok (.iconst 1, 1) := by decide +kernel
theorem dX4_next_155 : decode mX4_next.2.1 155 = .ok (.goto 4, 3) := by decide +kernel
theorem dX4_next_158 : decode mX4_next.2.1 158 = .ok (.iconst 0, 1) := by decide +kernel
theorem dX4_next_159 : decode mX4_next.2.1 159 = .ok (.istore_n 1, 1) := by decide +kernel
theorem dX4_next_160 : decode mX4_next.2.1 160 = .ok (.aload_n 0, 1) := by decide +kernel
theorem dX4_next_161 : decode mX4_next.2.1 161 = .ok (.getfield 41, 3) := by decide +kernel
theorem dX4_next_164 : decode mX4_next.2.1 164 = .ok (.iconst 4, 1) := by decide +kernel
theorem dX4_next_165 : decode mX4_next.2.1 165 = .ok (.if_icmp .eq 7, 3) := by decide +kernel
theorem dX4_next_168 : decode mX4_next.2.1 168 = .ok (.iload_n 1, 1) := by decide +kernel
theorem dX4_next_169 : decode mX4_next.2.1 169 = .ok (.ifCond .eq 12, 3) := by decide +kernel
theorem dX4_next_172 : decode mX4_next.2.1 172 = .ok (.aload_n 0, 1) := by decide +kernel
theorem dX4_next_173 : decode mX4_next.2.1 173 = .ok (.iconst 1, 1) := by decide +kernel
theorem dX4_next_174 : decode mX4_next.2.1 174 = .ok (.aload_n 0, 1) := by decide +kernel
theorem dX4_next_175 : decode mX4_next.2.1 175 = .ok (.getfield 90, 3) := by decide +kernel
theorem dX4_next_178 : decode mX4_next.2.1 178 = .ok (.invokevirtual 59, 3) := by decide +kernel
theorem dX4_next_181 : decode mX4_next.2.1 181 = .ok (.return_, 1) := by decide +kernel
theorem dJ0_coder_7d493_0 : decode mJ0_coder_7d493.2.1 0 = .ok (.getstatic 38, 3) := by decide +kernel
theorem dJ0_coder_7d493_3 : decode mJ0_coder_7d493.2.1 3 = .ok (.ifCond .eq 10, 3) := by decide +kernel
theorem dJ0_coder_7d493_6 : decode mJ0_coder_7d493.2.1 6 = .ok (.aload_n 0, 1) := by decide +kernel
theorem dJ0_coder_7d493_7 : decode mJ0_coder_7d493.2.1 7 = .ok (.getfield 15, 3) := by decide +kernel
theorem dJ0_coder_7d493_10 : decode mJ0_coder_7d493.2.1 10 = .ok (.goto 4, 3) := by decide +kernel
theorem dJ0_coder_7d493_13 : decode mJ0_coder_7d493.2.1 13 = .ok (.iconst 1, 1) := by decide +kernel
theorem dJ0_coder_7d493_14 : decode mJ0_coder_7d493.2.1 14 = .ok (.ireturn, 1) := by decide +kernel
theorem dJ0_length_8abf5_0 : decode mJ0_length_8abf5.2.1 0 = .ok (.aload_n 0, 1) := by decide +kernel
theorem dJ0_length_8abf5_1 : decode mJ0_length_8abf5.2.1 1 = .ok (.getfield 9, 3) := by decide +kernel
theorem dJ0_length_8abf5_4 : decode mJ0_length_8abf5.2.1 4 = .ok (.arraylength, 1) := by decide +kernel
theorem dJ0_length_8abf5_5 : decode mJ0_length_8abf5.2.1 5 = .ok (.aload_n 0, 1) := by decide +kernel
theorem dJ0_length_8abf5_6 : decode mJ0_length_8abf5.2.1 6 = .ok (.invokevirtual 335, 3) := by decide +kernel
theorem dJ0_length_8abf5_9 : decode mJ0_length_8abf5.2.1 9 = .ok (.ishr, 1) := by decide +kernel
theorem dJ0_length_8abf5_10 : decode mJ0_length_8abf5.2.1 10 = .ok (.ireturn, 1) := by decide +kernel
theorem dJ0_isLatin1_aae02_0 : decode mJ0_isLatin1_aae02.2.1 0 = .ok (.getstatic 38, 3) := by decide +kernel
theorem dJ0_isLatin1_aae02_3 : decode mJ0_isLatin1_aae02.2.1 3 = .ok (.ifCond .eq 14, 3) := by decide +kernel
theorem dJ0_isLatin1_aae02_6 : decode mJ0_isLatin1_aae02.2.1 6 = .ok (.aload_n 0, 1) := by decide +kernel
theorem dJ0_isLatin1_aae02_7 : decode mJ0_isLatin1_aae02.2.1 7 = .ok (.getfield 15, 3) := by decide +kernel
theorem dJ0_isLatin1_aae02_10 : decode mJ0_isLatin1_aae02.2.1 10 = .ok (.ifCond .ne 7, 3) := by decide +kernel
theorem dJ0_isLatin1_aae02_13 : decode mJ0_isLatin1_aae02.2.1 13 = .ok (.iconst 1, 1) := by decide +kernel
theorem dJ0_isLatin1_aae02_14 : decode mJ0_isLatin1_aae02.2.1 14 = .ok (.goto 4, 3) := by decide +kernel
theorem dJ0_isLatin1_aae02_17 : decode mJ0_isLatin1_aae02.2.1 17 = .ok (.iconst 0, 1) := by decide +kernel
theorem dJ0_isLatin1_aae02_18 : decode mJ0_isLatin1_aae02.2.1 18 = .ok (.ireturn, 1) := by decide +kernel
theorem dJ3_checkIndex_8e157_0 : decode mJ3_checkIndex_8e157.2.1 0 = .ok (.iload_n 0, 1) := by decide +kernel
theorem dJ3_checkIndex_8e157_1 : decode mJ3_checkIndex_8e157.2.1 1 = .ok (.ifCond .lt 8, 3) := by decide +kernel
theorem dJ3_checkIndex_8e157_4 : decode mJ3_checkIndex_8e157.2.1 4 = .ok (.iload_n 0, 1) := by decide +kernel
theorem dJ3_checkIndex_8e157_5 : decode mJ3_checkIndex_8e157.2.1 5 = .ok (.iload_n 1, 1) := by decide +kernel
theorem dJ3_checkIndex_8e157_6 : decode mJ3_checkIndex_8e157.2.1 6 = .ok (.if_icmp .lt 10, 3) := by decide +kernel
theorem dJ3_checkIndex_8e157_9 : decode mJ3_checkIndex_8e157.2.1 9 = .ok (.aload_n 2, 1) := by decide +kernel
theorem dJ3_checkIndex_8e157_10 : decode mJ3_checkIndex_8e157.2.1 10 = .ok (.iload_n 0, 1) := by decide +kernel
theorem dJ3_checkIndex_8e157_11 : decode mJ3_checkIndex_8e157.2.1 11 = .ok (.iload_n 1, 1) := by decide +kernel
theorem dJ3_checkIndex_8e157_12 : decode mJ3_checkIndex_8e157.2.1 12 = .ok (.invokestatic 95, 3) := by decide +kernel
theorem dJ3_checkIndex_8e157_15 : decode mJ3_checkIndex_8e157.2.1 15 = .ok (.athrow, 1) := by decide +kernel
theorem dJ3_checkIndex_8e157_16 : decode mJ3_checkIndex_8e157.2.1 16 = .ok (.iload_n 0, 1) := by decide +kernel
theorem dJ3_checkIndex_8e157_17 : decode mJ3_checkIndex_8e157.2.1 17 = .ok (.ireturn, 1) := by decide +kernel
theorem dJ0_checkIndex_df160_0 : decode mJ0_checkIndex_df160.2.1 0 = .ok (.iload_n 0, 1) := by decide +kernel
theorem dJ0_checkIndex_df160_1 : decode mJ0_checkIndex_df160.2.1 1 = .ok (.iload_n 1, 1) := by decide +kernel
theorem dJ0_checkIndex_df160_2 : decode mJ0_checkIndex_df160.2.1 2 = .ok (.getstatic 1053, 3) := by decide +kernel
theorem dJ0_checkIndex_df160_5 : decode mJ0_checkIndex_df160.2.1 5 = .ok (.invokestatic 1059, 3) := by decide +kernel
theorem dJ0_checkIndex_df160_8 : decode mJ0_checkIndex_df160.2.1 8 = .ok (.pop, 1) := by decide +kernel
theorem dJ0_checkIndex_df160_9 : decode mJ0_checkIndex_df160.2.1 9 = .ok (.return_, 1) := by decide +kernel
theorem dJ1_charAt_3b067_0 : decode mJ1_charAt_3b067.2.1 0 = .ok (.iload_n 1, 1) := by decide +kernel
theorem dJ1_charAt_3b067_1 : decode mJ1_charAt_3b067.2.1 1 = .ok (.aload_n 0, 1) := by decide +kernel
theorem dJ1_charAt_3b067_2 : decode mJ1_charAt_3b067.2.1 2 = .ok (.arraylength, 1) := by decide +kernel
theorem dJ1_charAt_3b067_3 : decode mJ1_charAt_3b067.2.1 3 = .ok (.invokestatic 9, 3) := by decide +kernel
theorem dJ1_charAt_3b067_6 : decode mJ1_charAt_3b067.2.1 6 = .ok (.aload_n 0, 1) := by decide +kernel
theorem dJ1_charAt_3b067_7 : decode mJ1_charAt_3b067.2.1 7 = .ok (.iload_n 1, 1) := by decide +kernel
theorem dJ1_charAt_3b067_8 : decode mJ1_charAt_3b067.2.1 8 = .ok (.baload, 1) := by decide +kernel
theorem dJ1_charAt_3b067_9 : decode mJ1_charAt_3b067.2.1 9 = .ok (.sipush 255, 3) := by decide +kernel
theorem dJ1_charAt_3b067_12 : decode mJ1_charAt_3b067.2.1 12 = .ok (.iand, 1) := by decide +kernel
theorem dJ1_charAt_3b067_13 : decode mJ1_charAt_3b067.2.1 13 = .ok (.i2c, 1) := by decide +kernel
theorem dJ1_charAt_3b067_14 : decode mJ1_charAt_3b067.2.1 14 = .ok (.ireturn, 1) := by decide +kernel
theorem dJ2_length_9d52b_0 : decode mJ2_length_9d52b.2.1 0 = .ok (.aload_n 0, 1) := by decide +kernel
theorem dJ2_length_9d52b_1 : decode mJ2_length_9d52b.2.1 1 = .ok (.arraylength, 1) := by decide +kernel
theorem dJ2_length_9d52b_2 : decode mJ2_length_9d52b.2.1 2 = .ok (.iconst 1, 1) := by decide +kernel
theorem dJ2_length_9d52b_3 : decode mJ2_length_9d52b.2.1 3 = .ok (.ishr, 1) := by decide +kernel
theorem dJ2_length_9d52b_4 : decode mJ2_length_9d52b.2.1 4 = .ok (.ireturn, 1) := by decide +kernel
theorem dJ2_checkIndex_2214a_0 : decode mJ2_checkIndex_2214a.2.1 0 = .ok (.iload_n 0, 1) := by decide +kernel
theorem dJ2_checkIndex_2214a_1 : decode mJ2_checkIndex_2214a.2.1 1 = .ok (.aload_n 1, 1) := by decide +kernel
theorem dJ2_checkIndex_2214a_2 : decode mJ2_checkIndex_2214a.2.1 2 = .ok (.invokestatic 48, 3) := by decide +kernel
theorem dJ2_checkIndex_2214a_5 : decode mJ2_checkIndex_2214a.2.1 5 = .ok (.invokestatic 414, 3) := by decide +kernel
theorem dJ2_checkIndex_2214a_8 : decode mJ2_checkIndex_2214a.2.1 8 = .ok (.return_, 1) := by decide +kernel
theorem dJ2_getChar_3b067_0 : decode mJ2_getChar_3b067.2.1 0 = .ok (.getstatic 44, 3) := by decide +kernel
theorem dJ2_getChar_3b067_3 : decode mJ2_getChar_3b067.2.1 3 = .ok (.ifCond .ne 25, 3) := by decide +kernel
theorem dJ2_getChar_3b067_6 : decode mJ2_getChar_3b067.2.1 6 = .ok (.iload_n 1, 1) := by decide +kernel
theorem dJ2_getChar_3b067_7 : decode mJ2_getChar_3b067.2.1 7 = .ok (.ifCond .lt 11, 3) := by decide +kernel
theorem dJ2_getChar_3b067_10 : decode mJ2_getChar_3b067.2.1 10 = .ok (.iload_n 1, 1) := by decide +kernel
theorem dJ2_getChar_3b067_11 : decode mJ2_getChar_3b067.2.1 11 = .ok (.aload_n 0, 1) := by decide +kernel
theorem dJ2_getChar_3b067_12 : decode mJ2_getChar_3b067.2.1 12 = .ok (.invokestatic 48, 3) := by decide +kernel
theorem dJ2_getChar_3b067_15 : decode mJ2_getChar_3b067.2.1 15 = .ok (.if_icmp .lt 13, 3) := by decide +kernel
theorem dJ2_getChar_3b067_18 : decode mJ2_getChar_3b067.2.1 18 = .ok (.new 52, 3) := by decide +kernel
theorem dJ2_getChar_3b067_21 : decode mJ2_getChar_3b067.2.1 21 = .ok (.dup, 1) := by decide +kernel
theorem dJ2_getChar_3b067_22 : decode mJ2_getChar_3b067.2.1 22 = .ok (.ldc 54, 2) := by decide +kernel
theorem dJ2_getChar_3b067_24 : decode mJ2_getChar_3b067.2.1 24 = .ok (.invokespecial 56, 3) := by decide +kernel
theorem dJ2_getChar_3b067_27 : decode mJ2_getChar_3b067.2.1 27 = .ok (.athrow, 1) := by decide +kernel
theorem dJ2_getChar_3b067_28 : decode mJ2_getChar_3b067.2.1 28 = .ok (.iload_n 1, 1) := by decide +kernel
theorem dJ2_getChar_3b067_29 : decode mJ2_getChar_3b067.2.1 29 = .ok (.iconst 1, 1) := by decide +kernel
theorem dJ2_getChar_3b067_30 : decode mJ2_getChar_3b067.2.1 30 = .ok (.ishl, 1) := by decide +kernel
theorem dJ2_getChar_3b067_31 : decode mJ2_getChar_3b067.2.1 31 = .ok (.istore_n 1, 1) := by decide +kernel
theorem dJ2_getChar_3b067_32 : decode mJ2_getChar_3b067.2.1 32 = .ok (.aload_n 0, 1) := by decide +kernel
theorem dJ2_getChar_3b067_33 : decode mJ2_getChar_3b067.2.1 33 = .ok (.iload_n 1, 1) := by decide +kernel
theorem dJ2_getChar_3b067_34 : decode mJ2_getChar_3b067.2.1 34 = .ok (.iinc 1 1, 3) := by decide +kernel
theorem dJ2_getChar_3b067_37 : decode mJ2_getChar_3b067.2.1 37 = .ok (.baload, 1) := by decide +kernel
theorem dJ2_getChar_3b067_38 : decode mJ2_getChar_3b067.2.1 38 = .ok (.sipush 255, 3) := by decide +kernel
theorem dJ2_getChar_3b067_41 : decode mJ2_getChar_3b067.2.1 41 = .ok (.iand, 1) := by decide +kernel
theorem dJ2_getChar_3b067_42 : decode mJ2_getChar_3b067.2.1 42 = .ok (.getstatic 59, 3) := by decide +kernel
theorem dJ2_getChar_3b067_45 : decode mJ2_getChar_3b067.2.1 45 = .ok (.ishl, 1) := by decide +kernel
theorem dJ2_getChar_3b067_46 : decode mJ2_getChar_3b067.2.1 46 = .ok (.aload_n 0, 1) := by decide +kernel
theorem dJ2_getChar_3b067_47 : decode mJ2_getChar_3b067.2.1 47 = .ok (.iload_n 1, 1) := by decide +kernel
theorem dJ2_getChar_3b067_48 : decode mJ2_getChar_3b067.2.1 48 = .ok (.baload, 1) := by decide +kernel
theorem dJ2_getChar_3b067_49 : decode mJ2_getChar_3b067.2.1 49 = .ok (.sipush 255, 3) := by decide +kernel
theorem dJ2_getChar_3b067_52 : decode mJ2_getChar_3b067.2.1 52 = .ok (.iand, 1) := by decide +kernel
theorem dJ2_getChar_3b067_53 : decode mJ2_getChar_3b067.2.1 53 = .ok (.getstatic 63, 3) := by decide +kernel
theorem dJ2_getChar_3b067_56 : decode mJ2_getChar_3b067.2.1 56 = .ok (.ishl, 1) := by decide +kernel
theorem dJ2_getChar_3b067_57 : decode mJ2_getChar_3b067.2.1 57 = .ok (.ior, 1) := by decide +kernel
theorem dJ2_getChar_3b067_58 : decode mJ2_getChar_3b067.2.1 58 = .ok (.i2c, 1) := by decide +kernel
theorem dJ2_getChar_3b067_59 : decode mJ2_getChar_3b067.2.1 59 = .ok (.ireturn, 1) := by decide +kernel
theorem dJ2_charAt_3b067_0 : decode mJ2_charAt_3b067.2.1 0 = .ok (.iload_n 1, 1) := by decide +kernel
theorem dJ2_charAt_3b067_1 : decode mJ2_charAt_3b067.2.1 1 = .ok (.aload_n 0, 1) := by decide +kernel
theorem dJ2_charAt_3b067_2 : decode mJ2_charAt_3b067.2.1 2 = .ok (.invokestatic 67, 3) := by decide +kernel
theorem dJ2_charAt_3b067_5 : decode mJ2_charAt_3b067.2.1 5 = .ok (.aload_n 0, 1) := by decide +kernel
theorem dJ2_charAt_3b067_6 : decode mJ2_charAt_3b067.2.1 6 = .ok (.iload_n 1, 1) := by decide +kernel
theorem dJ2_charAt_3b067_7 : decode mJ2_charAt_3b067.2.1 7 = .ok (.invokestatic 71, 3) := by decide +kernel
theorem dJ2_charAt_3b067_10 : decode mJ2_charAt_3b067.2.1 10 = .ok (.ireturn, 1) := by decide +kernel
theorem dJ0_charAt_5068e_0 : decode mJ0_charAt_5068e.2.1 0 = .ok (.aload_n 0, 1) := by decide +kernel
theorem dJ0_charAt_5068e_1 : decode mJ0_charAt_5068e.2.1 1 = .ok (.invokevirtual 492, 3) := by decide +kernel
theorem dJ0_charAt_5068e_4 : decode mJ0_charAt_5068e.2.1 4 = .ok (.ifCond .eq 12, 3) := by decide +kernel
theorem dJ0_charAt_5068e_7 : decode mJ0_charAt_5068e.2.1 7 = .ok (.aload_n 0, 1) := by decide +kernel
theorem dJ0_charAt_5068e_8 : decode mJ0_charAt_5068e.2.1 8 = .ok (.getfield 9, 3) := by decide +kernel
theorem dJ0_charAt_5068e_11 : decode mJ0_charAt_5068e.2.1 11 = .ok (.iload_n 1, 1) := by decide +kernel
theorem dJ0_charAt_5068e_12 : decode mJ0_charAt_5068e.2.1 12 = .ok (.invokestatic 495, 3) := by decide +kernel
theorem dJ0_charAt_5068e_15 : decode mJ0_charAt_5068e.2.1 15 = .ok (.ireturn, 1) := by decide +kernel
theorem dJ0_charAt_5068e_16 : decode mJ0_charAt_5068e.2.1 16 = .ok (.aload_n 0, 1) := by decide +kernel
theorem dJ0_charAt_5068e_17 : decode mJ0_charAt_5068e.2.1 17 = .ok (.getfield 9, 3) := by decide +kernel
theorem dJ0_charAt_5068e_20 : decode mJ0_charAt_5068e.2.1 20 = .ok (.iload_n 1, 1) := by decide +kernel
theorem dJ0_charAt_5068e_21 : decode mJ0_charAt_5068e.2.1 21 = .ok (.invokestatic 498, 3) := by decide +kernel
theorem dJ0_charAt_5068e_24 : decode mJ0_charAt_5068e.2.1 24 = .ok (.ireturn, 1) := by decide +kernel
theorem dX4_isNamed_0 : decode mX4_isNamed.2.1 0 = .ok (.aload_n 0, 1) := by decide +kernel
theorem dX4_isNamed_1 : decode mX4_isNamed.2.1 1 = .ok (.getfield 71, 3) := by decide +kernel
theorem dX4_isNamed_4 : decode mX4_isNamed.2.1 4 = .ok (.aload_n 0, 1) := by decide +kernel
theorem dX4_isNamed_5 : decode mX4_isNamed.2.1 5 = .ok (.getfield 90, 3) := by decide +kernel
theorem dX4_isNamed_8 : decode mX4_isNamed.2.1 8 = .ok (.isub, 1) := by decide +kernel
theorem dX4_isNamed_9 : decode mX4_isNamed.2.1 9 = .ok (.aload_n 1, 1) := by decide +kernel
theorem dX4_isNamed_10 : decode mX4_isNamed.2.1 10 = .ok (.invokevirtual 161, 3) := by decide +kernel
theorem dX4_isNamed_13 : decode mX4_isNamed.2.1 13 = .ok (.if_icmp .eq 5, 3) := by decide +kernel
theorem dX4_isNamed_16 : decode mX4_isNamed.2.1 16 = .ok (.iconst 0, 1) := by decide +kernel
theorem dX4_isNamed_17 : decode mX4_isNamed.2.1 17 = .ok (.ireturn, 1) := by decide +kernel
theorem dX4_isNamed_18 : decode mX4_isNamed.2.1 18 = .ok (.iconst 0, 1) := by decide +kernel
theorem dX4_isNamed_19 : decode mX4_isNamed.2.1 19 = .ok (.istore_n 2, 1) := by decide +kernel
theorem dX4_isNamed_20 : decode mX4_isNamed.2.1 20 = .ok (.iload_n 2, 1) := by decide +kernel
theorem dX4_isNamed_21 : decode mX4_isNamed.2.1 21 = .ok (.aload_n 1, 1) := by decide +kernel
theorem dX4_isNamed_22 : decode mX4_isNamed.2.1 22 = .ok (.invokevirtual 161, 3) := by decide +kernel
theorem dX4_isNamed_25 : decode mX4_isNamed.2.1 25 = .ok (.if_icmp .ge 30, 3) := by decide +kernel
theorem dX4_isNamed_28 : decode mX4_isNamed.2.1 28 = .ok (.aload_n 0, 1) := by decide +kernel
theorem dX4_isNamed_29 : decode mX4_isNamed.2.1 29 = .ok (.getfield 11, 3) := by decide +kernel
theorem dX4_isNamed_32 : decode mX4_isNamed.2.1 32 = .ok (.aload_n 0, 1) := by decide +kernel
theorem dX4_isNamed_33 : decode mX4_isNamed.2.1 33 = .ok (.getfield 90, 3) := by decide +kernel
theorem dX4_isNamed_36 : decode mX4_isNamed.2.1 36 = .ok (.iload_n 2, 1) := by decide +kernel
theorem dX4_isNamed_37 : decode mX4_isNamed.2.1 37 = .ok (.iadd, 1) := by decide +kernel
theorem dX4_isNamed_38 : decode mX4_isNamed.2.1 38 = .ok (.baload, 1) := by decide +kernel
theorem dX4_isNamed_39 : decode mX4_isNamed.2.1 39 = .ok (.aload_n 1, 1) := by decide +kernel
theorem dX4_isNamed_40 : decode mX4_isNamed.2.1 40 = .ok (.iload_n 2, 1) := by decide +kernel
theorem dX4_isNamed_41 : decode mX4_isNamed.2.1 41 = .ok (.invokevirtual 165, 3) := by decide +kernel
theorem dX4_isNamed_44 : decode mX4_isNamed.2.1 44 = .ok (.if_icmp .eq 5, 3) := by decide +kernel
theorem dX4_isNamed_47 : decode mX4_isNamed.2.1 47 = .ok (.iconst 0, 1) := by decide +kernel
theorem dX4_isNamed_48 : decode mX4_isNamed.2.1 48 = .ok (.ireturn, 1) := by decide +kernel
theorem dX4_isNamed_49 : decode mX4_isNamed.2.1 49 = .ok (.iinc 2 1, 3) := by decide +kernel
theorem dX4_isNamed_52 : decode mX4_isNamed.2.1 52 = .ok (.goto (-32), 3) := by decide +kernel
theorem dX4_isNamed_55 : decode mX4_isNamed.2.1 55 = .ok (.iconst 1, 1) := by decide +kernel
theorem dX4_isNamed_56 : decode mX4_isNamed.2.1 56 = .ok (.ireturn, 1) := by decide +kernel
theorem dX4_kindOfLine_0 : decode mX4_kindOfLine.2.1 0 = .ok (.aload_n 0, 1) := by decide +kernel
theorem dX4_kindOfLine_1 : decode mX4_kindOfLine.2.1 1 = .ok (.getfield 41, 3) := by decide +kernel
theorem dX4_kindOfLine_4 : decode mX4_kindOfLine.2.1 4 = .ok (.iconst 1, 1) := by decide +kernel
theorem dX4_kindOfLine_5 : decode mX4_kindOfLine.2.1 5 = .ok (.if_icmp .eq 5, 3) := by decide +kernel
theorem dX4_kindOfLine_8 : decode mX4_kindOfLine.2.1 8 = .ok (.iconst (-1), 1) := by decide +kernel
theorem dX4_kindOfLine_9 : decode mX4_kindOfLine.2.1 9 = .ok (.ireturn, 1) := by decide +kernel
theorem dX4_kindOfLine_10 : decode mX4_kindOfLine.2.1 10 = .ok (.aload_n 0, 1) := by decide +kernel
theorem dX4_kindOfLine_11 : decode mX4_kindOfLine.2.1 11 = .ok (.ldc 109, 2) := by decide +kernel
theorem dX4_kindOfLine_13 : decode mX4_kindOfLine.2.1 13 = .ok (.invokevirtual 110, 3) := by decide +kernel
theorem dX4_kindOfLine_16 : decode mX4_kindOfLine.2.1 16 = .ok (.ifCond .eq 5, 3) := by decide +kernel
theorem dX4_kindOfLine_19 : decode mX4_kindOfLine.2.1 19 = .ok (.iconst 0, 1) := by decide +kernel
theorem dX4_kindOfLine_20 : decode mX4_kindOfLine.2.1 20 = .ok (.ireturn, 1) := by decide +kernel
theorem dX4_kindOfLine_21 : decode mX4_kindOfLine.2.1 21 = .ok (.aload_n 0, 1) := by decide +kernel
theorem dX4_kindOfLine_22 : decode mX4_kindOfLine.2.1 22 = .ok (.ldc 114, 2) := by decide +kernel
theorem dX4_kindOfLine_24 : decode mX4_kindOfLine.2.1 24 = .ok (.invokevirtual 110, 3) := by decide +kernel
theorem dX4_kindOfLine_27 : decode mX4_kindOfLine.2.1 27 = .ok (.ifCond .eq 5, 3) := by decide +kernel
theorem dX4_kindOfLine_30 : decode mX4_kindOfLine.2.1 30 = .ok (.iconst 1, 1) := by decide +kernel
theorem dX4_kindOfLine_31 : decode mX4_kindOfLine.2.1 31 = .ok (.ireturn, 1) := by decide +kernel
theorem dX4_kindOfLine_32 : decode mX4_kindOfLine.2.1 32 = .ok (.aload_n 0, 1) := by decide +kernel
theorem dX4_kindOfLine_33 : decode mX4_kindOfLine.2.1 33 = .ok (.ldc 115, 2) := by decide +kernel
theorem dX4_kindOfLine_35 : decode mX4_kindOfLine.2.1 35 = .ok (.invokevirtual 110, 3) := by decide +kernel
theorem dX4_kindOfLine_38 : decode mX4_kindOfLine.2.1 38 = .ok (.ifCond .eq 5, 3) := by decide +kernel
theorem dX4_kindOfLine_41 : decode mX4_kindOfLine.2.1 41 = .ok (.iconst 2, 1) := by decide +kernel
theorem dX4_kindOfLine_42 : decode mX4_kindOfLine.2.1 42 = .ok (.ireturn, 1) := by decide +kernel
theorem dX4_kindOfLine_43 : decode mX4_kindOfLine.2.1 43 = .ok (.aload_n 0, 1) := by decide +kernel
theorem dX4_kindOfLine_44 : decode mX4_kindOfLine.2.1 44 = .ok (.ldc 116, 2) := by decide +kernel
theorem dX4_kindOfLine_46 : decode mX4_kindOfLine.2.1 46 = .ok (.invokevirtual 110, 3) := by decide +kernel
theorem dX4_kindOfLine_49 : decode mX4_kindOfLine.2.1 49 = .ok (.ifCond .eq 5, 3) := by decide +kernel
theorem dX4_kindOfLine_52 : decode mX4_kindOfLine.2.1 52 = .ok (.iconst 3, 1) := by decide +kernel
theorem dX4_kindOfLine_53 : decode mX4_kindOfLine.2.1 53 = .ok (.ireturn, 1) := by decide +kernel
theorem dX4_kindOfLine_54 : decode mX4_kindOfLine.2.1 54 = .ok (.aload_n 0, 1) := by decide +kernel
theorem dX4_kindOfLine_55 : decode mX4_kindOfLine.2.1 55 = .ok (.ldc 118, 2) := by decide +kernel
theorem dX4_kindOfLine_57 : decode mX4_kindOfLine.2.1 57 = .ok (.invokevirtual 110, 3) := by decide +kernel
theorem dX4_kindOfLine_60 : decode mX4_kindOfLine.2.1 60 = .ok (.ifCond .eq 5, 3) := by decide +kernel
theorem dX4_kindOfLine_63 : decode mX4_kindOfLine.2.1 63 = .ok (.iconst 4, 1) := by decide +kernel
theorem dX4_kindOfLine_64 : decode mX4_kindOfLine.2.1 64 = .ok (.ireturn, 1) := by decide +kernel
theorem dX4_kindOfLine_65 : decode mX4_kindOfLine.2.1 65 = .ok (.aload_n 0, 1) := by decide +kernel
theorem dX4_kindOfLine_66 : decode mX4_kindOfLine.2.1 66 = .ok (.ldc 120, 2) := by decide +kernel
theorem dX4_kindOfLine_68 : decode mX4_kindOfLine.2.1 68 = .ok (.invokevirtual 110, 3) := by decide +kernel
theorem dX4_kindOfLine_71 : decode mX4_kindOfLine.2.1 71 = .ok (.ifCond .eq 7, 3) := by decide +kernel
theorem dX4_kindOfLine_74 : decode mX4_kindOfLine.2.1 74 = .ok (.iconst 5, 1) := by decide +kernel
theorem dX4_kindOfLine_75 : decode mX4_kindOfLine.2.1 75 = .ok (.goto 4, 3) := by decide +kernel
theorem dX4_kindOfLine_78 : decode mX4_kindOfLine.2.1 78 = .ok (.iconst (-1), 1) := by decide +kernel
theorem dX4_kindOfLine_79 : decode mX4_kindOfLine.2.1 79 = .ok (.ireturn, 1) := by decide +kernel
theorem dX4_takeNumber_0 : decode mX4_takeNumber.2.1 0 = .ok (.aload_n 0, 1) := by decide +kernel
theorem dX4_takeNumber_1 : decode mX4_takeNumber.2.1 1 = .ok (.invokevirtual 35, 3) := by decide +kernel
theorem dX4_takeNumber_4 : decode mX4_takeNumber.2.1 4 = .ok (.aload_n 0, 1) := by decide +kernel
theorem dX4_takeNumber_5 : decode mX4_takeNumber.2.1 5 = .ok (.getfield 38, 3) := by decide +kernel
theorem dX4_takeNumber_8 : decode mX4_takeNumber.2.1 8 = .ok (.ifCond .ne 20, 3) := by decide +kernel
theorem dX4_takeNumber_11 : decode mX4_takeNumber.2.1 11 = .ok (.aload_n 0, 1) := by decide +kernel
theorem dX4_takeNumber_12 : decode mX4_takeNumber.2.1 12 = .ok (.getfield 41, 3) := by decide +kernel
theorem dX4_takeNumber_15 : decode mX4_takeNumber.2.1 15 = .ok (.iconst 2, 1) := by decide +kernel
theorem dX4_takeNumber_16 : decode mX4_takeNumber.2.1 16 = .ok (.if_icmp .eq 12, 3) := by decide +kernel
theorem dX4_takeNumber_19 : decode mX4_takeNumber.2.1 19 = .ok (.aload_n 0, 1) := by decide +kernel
theorem dX4_takeNumber_20 : decode mX4_takeNumber.2.1 20 = .ok (.iconst 2, 1) := by decide +kernel
theorem dX4_takeNumber_21 : decode mX4_takeNumber.2.1 21 = .ok (.aload_n 0, 1) := by decide +kernel
theorem dX4_takeNumber_22 : decode mX4_takeNumber.2.1 22 = .ok (.getfield 90, 3) := by decide +kernel
theorem dX4_takeNumber_25 : decode mX4_takeNumber.2.1 25 = .ok (.invokevirtual 59, 3) := by decide +kernel
theorem dX4_takeNumber_28 : decode mX4_takeNumber.2.1 28 = .ok (.aload_n 0, 1) := by decide +kernel
theorem dX4_takeNumber_29 : decode mX4_takeNumber.2.1 29 = .ok (.getfield 38, 3) := by decide +kernel
theorem dX4_takeNumber_32 : decode mX4_takeNumber.2.1 32 = .ok (.ifCond .ne 28, 3) := by decide +kernel
theorem dX4_takeNumber_35 : decode mX4_takeNumber.2.1 35 = .ok (.aload_n 0, 1) := by decide +kernel
theorem dX4_takeNumber_36 : decode mX4_takeNumber.2.1 36 = .ok (.getfield 148, 3) := by decide +kernel
theorem dX4_takeNumber_39 : decode mX4_takeNumber.2.1 39 = .ok (.iload_n 1, 1) := by decide +kernel
theorem dX4_takeNumber_40 : decode mX4_takeNumber.2.1 40 = .ok (.if_icmp .lt 11, 3) := by decide +kernel
theorem dX4_takeNumber_43 : decode mX4_takeNumber.2.1 43 = .ok (.aload_n 0, 1) := by decide +kernel
theorem dX4_takeNumber_44 : decode mX4_takeNumber.2.1 44 = .ok (.getfield 148, 3) := by decide +kernel
theorem dX4_takeNumber_47 : decode mX4_takeNumber.2.1 47 = .ok (.iload_n 2, 1) := by decide +kernel
theorem dX4_takeNumber_48 : decode mX4_takeNumber.2.1 48 = .ok (.if_icmp .le 12, 3) := by decide +kernel
theorem dX4_takeNumber_51 : decode mX4_takeNumber.2.1 51 = .ok (.aload_n 0, 1) := by decide +kernel
theorem dX4_takeNumber_52 : decode mX4_takeNumber.2.1 52 = .ok (.iconst 3, 1) := by decide +kernel
theorem dX4_takeNumber_53 : decode mX4_takeNumber.2.1 53 = .ok (.aload_n 0, 1) := by decide +kernel
theorem dX4_takeNumber_54 : decode mX4_takeNumber.2.1 54 = .ok (.getfield 90, 3) := by decide +kernel
theorem dX4_takeNumber_57 : decode mX4_takeNumber.2.1 57 = .ok (.invokevirtual 59, 3) := by decide +kernel
theorem dX4_takeNumber_60 : decode mX4_takeNumber.2.1 60 = .ok (.aload_n 0, 1) := by decide +kernel
theorem dX4_takeNumber_61 : decode mX4_takeNumber.2.1 61 = .ok (.getfield 38, 3) := by decide +kernel
theorem dX4_takeNumber_64 : decode mX4_takeNumber.2.1 64 = .ok (.ifCond .ne 10, 3) := by decide +kernel
theorem dX4_takeNumber_67 : decode mX4_takeNumber.2.1 67 = .ok (.aload_n 0, 1) := by decide +kernel
theorem dX4_takeNumber_68 : decode mX4_takeNumber.2.1 68 = .ok (.getfield 148, 3) := by decide +kernel
theorem dX4_takeNumber_71 : decode mX4_takeNumber.2.1 71 = .ok (.goto 4, 3) := by decide +kernel
theorem dX4_takeNumber_74 : decode mX4_takeNumber.2.1 74 = .ok (.iload_n 1, 1) := by decide +kernel
theorem dX4_takeNumber_75 : decode mX4_takeNumber.2.1 75 = .ok (.ireturn, 1) := by decide +kernel
theorem dX5_isPrime_0 : decode mX5_isPrime.2.1 0 = .ok (.iload_n 0, 1) := by decide +kernel
theorem dX5_isPrime_1 : decode mX5_isPrime.2.1 1 = .ok (.iconst 2, 1) := by decide +kernel
theorem dX5_isPrime_2 : decode mX5_isPrime.2.1 2 = .ok (.if_icmp .lt 9, 3) := by decide +kernel
theorem dX5_isPrime_5 : decode mX5_isPrime.2.1 5 = .ok (.iload_n 0, 1) := by decide +kernel
theorem dX5_isPrime_6 : decode mX5_isPrime.2.1 6 = .ok (.bipush 97, 2) := by decide +kernel
theorem dX5_isPrime_8 : decode mX5_isPrime.2.1 8 = .ok (.if_icmp .le 5, 3) := by decide +kernel
theorem dX5_isPrime_11 : decode mX5_isPrime.2.1 11 = .ok (.iconst 0, 1) := by decide +kernel
theorem dX5_isPrime_12 : decode mX5_isPrime.2.1 12 = .ok (.ireturn, 1) := by decide +kernel
theorem dX5_isPrime_13 : decode mX5_isPrime.2.1 13 = .ok (.iconst 2, 1) := by decide +kernel
theorem dX5_isPrime_14 : decode mX5_isPrime.2.1 14 = .ok (.istore_n 1, 1) := by decide +kernel
theorem dX5_isPrime_15 : decode mX5_isPrime.2.1 15 = .ok (.iload_n 1, 1) := by decide +kernel
theorem dX5_isPrime_16 : decode mX5_isPrime.2.1 16 = .ok (.iload_n 1, 1) := by decide +kernel
theorem dX5_isPrime_17 : decode mX5_isPrime.2.1 17 = .ok (.imul, 1) := by decide +kernel
theorem dX5_isPrime_18 : decode mX5_isPrime.2.1 18 = .ok (.iload_n 0, 1) := by decide +kernel
theorem dX5_isPrime_19 : decode mX5_isPrime.2.1 19 = .ok (.if_icmp .gt 17, 3) := by decide +kernel
theorem dX5_isPrime_22 : decode mX5_isPrime.2.1 22 = .ok (.iload_n 0, 1) := by decide +kernel
theorem dX5_isPrime_23 : decode mX5_isPrime.2.1 23 = .ok (.iload_n 1, 1) := by decide +kernel
theorem dX5_isPrime_24 : decode mX5_isPrime.2.1 24 = .ok (.irem, 1) := by decide +kernel
theorem dX5_isPrime_25 : decode mX5_isPrime.2.1 25 = .ok (.ifCond .ne 5, 3) := by decide +kernel
theorem dX5_isPrime_28 : decode mX5_isPrime.2.1 28 = .ok (.iconst 0, 1) := by decide +kernel
theorem dX5_isPrime_29 : decode mX5_isPrime.2.1 29 = .ok (.ireturn, 1) := by decide +kernel
theorem dX5_isPrime_30 : decode mX5_isPrime.2.1 30 = .ok (.iinc 1 1, 3) := by decide +kernel
theorem dX5_isPrime_33 : decode mX5_isPrime.2.1 33 = .ok (.goto (-18), 3) := by decide +kernel
theorem dX5_isPrime_36 : decode mX5_isPrime.2.1 36 = .ok (.iconst 1, 1) := by decide +kernel
theorem dX5_isPrime_37 : decode mX5_isPrime.2.1 37 = .ok (.ireturn, 1) := by decide +kernel
theorem dX4_takePrime_0 : decode mX4_takePrime.2.1 0 = .ok (.aload_n 0, 1) := by decide +kernel
theorem dX4_takePrime_1 : decode mX4_takePrime.2.1 1 = .ok (.iconst 0, 1) := by decide +kernel
theorem dX4_takePrime_2 : decode mX4_takePrime.2.1 2 = .ok (.bipush 99, 2) := by decide +kernel
theorem dX4_takePrime_4 : decode mX4_takePrime.2.1 4 = .ok (.invokevirtual 96, 3) := by decide +kernel
theorem dX4_takePrime_7 : decode mX4_takePrime.2.1 7 = .ok (.istore_n 1, 1) := by decide +kernel
theorem dX4_takePrime_8 : decode mX4_takePrime.2.1 8 = .ok (.aload_n 0, 1) := by decide +kernel
theorem dX4_takePrime_9 : decode mX4_takePrime.2.1 9 = .ok (.getfield 38, 3) := by decide +kernel
theorem dX4_takePrime_12 : decode mX4_takePrime.2.1 12 = .ok (.ifCond .ne 19, 3) := by decide +kernel
theorem dX4_takePrime_15 : decode mX4_takePrime.2.1 15 = .ok (.iload_n 1, 1) := by decide +kernel
theorem dX4_takePrime_16 : decode mX4_takePrime.2.1 16 = .ok (.invokestatic 144, 3) := by decide +kernel
theorem dX4_takePrime_19 : decode mX4_takePrime.2.1 19 = .ok (.ifCond .ne 12, 3) := by decide +kernel
theorem dX4_takePrime_22 : decode mX4_takePrime.2.1 22 = .ok (.aload_n 0, 1) := by decide +kernel
theorem dX4_takePrime_23 : decode mX4_takePrime.2.1 23 = .ok (.iconst 3, 1) := by decide +kernel
theorem dX4_takePrime_24 : decode mX4_takePrime.2.1 24 = .ok (.aload_n 0, 1) := by decide +kernel
theorem dX4_takePrime_25 : decode mX4_takePrime.2.1 25 = .ok (.getfield 90, 3) := by decide +kernel
theorem dX4_takePrime_28 : decode mX4_takePrime.2.1 28 = .ok (.invokevirtual 59, 3) := by decide +kernel
theorem dX4_takePrime_31 : decode mX4_takePrime.2.1 31 = .ok (.iload_n 1, 1) := by decide +kernel
theorem dX4_takePrime_32 : decode mX4_takePrime.2.1 32 = .ok (.ireturn, 1) := by decide +kernel
theorem dX4_takeLetter_0 : decode mX4_takeLetter.2.1 0 = .ok (.aload_n 0, 1) := by decide +kernel
theorem dX4_takeLetter_1 : decode mX4_takeLetter.2.1 1 = .ok (.invokevirtual 35, 3) := by decide +kernel
theorem dX4_takeLetter_4 : decode mX4_takeLetter.2.1 4 = .ok (.aload_n 0, 1) := by decide +kernel
theorem dX4_takeLetter_5 : decode mX4_takeLetter.2.1 5 = .ok (.getfield 38, 3) := by decide +kernel
theorem dX4_takeLetter_8 : decode mX4_takeLetter.2.1 8 = .ok (.ifCond .eq 5, 3) := by decide +kernel
theorem dX4_takeLetter_11 : decode mX4_takeLetter.2.1 11 = .ok (.iconst 0, 1) := by decide +kernel
theorem dX4_takeLetter_12 : decode mX4_takeLetter.2.1 12 = .ok (.ireturn, 1) := by decide +kernel
theorem dX4_takeLetter_13 : decode mX4_takeLetter.2.1 13 = .ok (.aload_n 0, 1) := by decide +kernel
theorem dX4_takeLetter_14 : decode mX4_takeLetter.2.1 14 = .ok (.getfield 41, 3) := by decide +kernel
theorem dX4_takeLetter_17 : decode mX4_takeLetter.2.1 17 = .ok (.iconst 1, 1) := by decide +kernel
theorem dX4_takeLetter_18 : decode mX4_takeLetter.2.1 18 = .ok (.if_icmp .ne 31, 3) := by decide +kernel
theorem dX4_takeLetter_21 : decode mX4_takeLetter.2.1 21 = .ok (.aload_n 0, 1) := by decide +kernel
theorem dX4_takeLetter_22 : decode mX4_takeLetter.2.1 22 = .ok (.getfield 71, 3) := by decide +kernel
theorem dX4_takeLetter_25 : decode mX4_takeLetter.2.1 25 = .ok (.aload_n 0, 1) := by decide +kernel
theorem dX4_takeLetter_26 : decode mX4_takeLetter.2.1 26 = .ok (.getfield 90, 3) := by decide +kernel
theorem dX4_takeLetter_29 : decode mX4_takeLetter.2.1 29 = .ok (.isub, 1) := by decide +kernel
theorem dX4_takeLetter_30 : decode mX4_takeLetter.2.1 30 = .ok (.iconst 1, 1) := by decide +kernel
theorem dX4_takeLetter_31 : decode mX4_takeLetter.2.1 31 = .ok (.if_icmp .ne 18, 3) := by decide +kernel
theorem dX4_takeLetter_34 : decode mX4_takeLetter.2.1 34 = .ok (.aload_n 0, 1) := by decide +kernel
theorem dX4_takeLetter_35 : decode mX4_takeLetter.2.1 35 = .ok (.getfield 11, 3) := by decide +kernel
theorem dX4_takeLetter_38 : decode mX4_takeLetter.2.1 38 = .ok (.aload_n 0, 1) := by decide +kernel
theorem dX4_takeLetter_39 : decode mX4_takeLetter.2.1 39 = .ok (.getfield 90, 3) := by decide +kernel
theorem dX4_takeLetter_42 : decode mX4_takeLetter.2.1 42 = .ok (.baload, 1) := by decide +kernel
theorem dX4_takeLetter_43 : decode mX4_takeLetter.2.1 43 = .ok (.bipush 97, 2) := by decide +kernel
theorem dX4_takeLetter_45 : decode mX4_takeLetter.2.1 45 = .ok (.isub, 1) := by decide +kernel
theorem dX4_takeLetter_46 : decode mX4_takeLetter.2.1 46 = .ok (.goto 4, 3) := by decide +kernel
theorem dX4_takeLetter_49 : decode mX4_takeLetter.2.1 49 = .ok (.iconst 3, 1) := by decide +kernel
theorem dX4_takeLetter_50 : decode mX4_takeLetter.2.1 50 = .ok (.istore_n 1, 1) := by decide +kernel
theorem dX4_takeLetter_51 : decode mX4_takeLetter.2.1 51 = .ok (.iload_n 1, 1) := by decide +kernel
theorem dX4_takeLetter_52 : decode mX4_takeLetter.2.1 52 = .ok (.iconst 3, 1) := by decide +kernel
theorem dX4_takeLetter_53 : decode mX4_takeLetter.2.1 53 = .ok (.if_icmp .lt 14, 3) := by decide +kernel
theorem dX4_takeLetter_56 : decode mX4_takeLetter.2.1 56 = .ok (.aload_n 0, 1) := by decide +kernel
theorem dX4_takeLetter_57 : decode mX4_takeLetter.2.1 57 = .ok (.iconst 2, 1) := by decide +kernel
theorem dX4_takeLetter_58 : decode mX4_takeLetter.2.1 58 = .ok (.aload_n 0, 1) := by decide +kernel
theorem dX4_takeLetter_59 : decode mX4_takeLetter.2.1 59 = .ok (.getfield 90, 3) := by decide +kernel
theorem dX4_takeLetter_62 : decode mX4_takeLetter.2.1 62 = .ok (.invokevirtual 59, 3) := by decide +kernel
theorem dX4_takeLetter_65 : decode mX4_takeLetter.2.1 65 = .ok (.iconst 0, 1) := by decide +kernel
theorem dX4_takeLetter_66 : decode mX4_takeLetter.2.1 66 = .ok (.ireturn, 1) := by decide +kernel
theorem dX4_takeLetter_67 : decode mX4_takeLetter.2.1 67 = .ok (.iload_n 1, 1) := by decide +kernel
theorem dX4_takeLetter_68 : decode mX4_takeLetter.2.1 68 = .ok (.ireturn, 1) := by decide +kernel
theorem dJ9_max_7cf53_0 : decode mJ9_max_7cf53.2.1 0 = .ok (.iload_n 0, 1) := by decide +kernel
theorem dJ9_max_7cf53_1 : decode mJ9_max_7cf53.2.1 1 = .ok (.iload_n 1, 1) := by decide +kernel
theorem dJ9_max_7cf53_2 : decode mJ9_max_7cf53.2.1 2 = .ok (.if_icmp .lt 7, 3) := by decide +kernel
theorem dJ9_max_7cf53_5 : decode mJ9_max_7cf53.2.1 5 = .ok (.iload_n 0, 1) := by decide +kernel
theorem dJ9_max_7cf53_6 : decode mJ9_max_7cf53.2.1 6 = .ok (.goto 4, 3) := by decide +kernel
theorem dJ9_max_7cf53_9 : decode mJ9_max_7cf53.2.1 9 = .ok (.iload_n 1, 1) := by decide +kernel
theorem dJ9_max_7cf53_10 : decode mJ9_max_7cf53.2.1 10 = .ok (.ireturn, 1) := by decide +kernel
theorem dX3_at_0 : decode mX3_at.2.1 0 = .ok (.iload_n 1, 1) := by decide +kernel
theorem dX3_at_1 : decode mX3_at.2.1 1 = .ok (.iconst 3, 1) := by decide +kernel
theorem dX3_at_2 : decode mX3_at.2.1 2 = .ok (.imul, 1) := by decide +kernel
theorem dX3_at_3 : decode mX3_at.2.1 3 = .ok (.iload_n 2, 1) := by decide +kernel
theorem dX3_at_4 : decode mX3_at.2.1 4 = .ok (.iadd, 1) := by decide +kernel
theorem dX3_at_5 : decode mX3_at.2.1 5 = .ok (.aload_n 0, 1) := by decide +kernel
theorem dX3_at_6 : decode mX3_at.2.1 6 = .ok (.getfield 17, 3) := by decide +kernel
theorem dX3_at_9 : decode mX3_at.2.1 9 = .ok (.imul, 1) := by decide +kernel
theorem dX3_at_10 : decode mX3_at.2.1 10 = .ok (.iload_n 3, 1) := by decide +kernel
theorem dX3_at_11 : decode mX3_at.2.1 11 = .ok (.iadd, 1) := by decide +kernel
theorem dX3_at_12 : decode mX3_at.2.1 12 = .ok (.ireturn, 1) := by decide +kernel
theorem dX4_readEdge_0 : decode mX4_readEdge.2.1 0 = .ok (.aload_n 0, 1) := by decide +kernel
theorem dX4_readEdge_1 : decode mX4_readEdge.2.1 1 = .ok (.iconst 0, 1) := by decide +kernel
theorem dX4_readEdge_2 : decode mX4_readEdge.2.1 2 = .ok (.iconst 3, 1) := by decide +kernel
theorem dX4_readEdge_3 : decode mX4_readEdge.2.1 3 = .ok (.invokevirtual 96, 3) := by decide +kernel
theorem dX4_readEdge_6 : decode mX4_readEdge.2.1 6 = .ok (.istore_n 1, 1) := by decide +kernel
theorem dX4_readEdge_7 : decode mX4_readEdge.2.1 7 = .ok (.aload_n 0, 1) := by decide +kernel
theorem dX4_readEdge_8 : decode mX4_readEdge.2.1 8 = .ok (.invokevirtual 134, 3) := by decide +kernel
theorem dX4_readEdge_11 : decode mX4_readEdge.2.1 11 = .ok (.istore_n 2, 1) := by decide +kernel
theorem dX4_readEdge_12 : decode mX4_readEdge.2.1 12 = .ok (.aload_n 0, 1) := by decide +kernel
theorem dX4_readEdge_13 : decode mX4_readEdge.2.1 13 = .ok (.iconst 0, 1) := by decide +kernel
theorem dX4_readEdge_14 : decode mX4_readEdge.2.1 14 = .ok (.iconst 3, 1) := by decide +kernel
theorem dX4_readEdge_15 : decode mX4_readEdge.2.1 15 = .ok (.invokevirtual 96, 3) := by decide +kernel
theorem dX4_readEdge_18 : decode mX4_readEdge.2.1 18 = .ok (.istore_n 3, 1) := by decide +kernel
theorem dX4_readEdge_19 : decode mX4_readEdge.2.1 19 = .ok (.aload_n 0, 1) := by decide +kernel
theorem dX4_readEdge_20 : decode mX4_readEdge.2.1 20 = .ok (.aload_n 0, 1) := by decide +kernel
theorem dX4_readEdge_21 : decode mX4_readEdge.2.1 21 = .ok (.getfield 47, 3) := by decide +kernel
theorem dX4_readEdge_24 : decode mX4_readEdge.2.1 24 = .ok (.iload_n 1, 1) := by decide +kernel
theorem dX4_readEdge_25 : decode mX4_readEdge.2.1 25 = .ok (.iload_n 3, 1) := by decide +kernel
theorem dX4_readEdge_26 : decode mX4_readEdge.2.1 26 = .ok (.invokestatic 122, 3) := by decide +kernel
theorem dX4_readEdge_29 : decode mX4_readEdge.2.1 29 = .ok (.invokestatic 122, 3) := by decide +kernel
theorem dX4_readEdge_32 : decode mX4_readEdge.2.1 32 = .ok (.putfield 47, 3) := by decide +kernel
theorem dX4_readEdge_35 : decode mX4_readEdge.2.1 35 = .ok (.aload_n 0, 1) := by decide +kernel
theorem dX4_readEdge_36 : decode mX4_readEdge.2.1 36 = .ok (.aload_n 0, 1) := by decide +kernel
theorem dX4_readEdge_37 : decode mX4_readEdge.2.1 37 = .ok (.getfield 53, 3) := by decide +kernel
theorem dX4_readEdge_40 : decode mX4_readEdge.2.1 40 = .ok (.iload_n 2, 1) := by decide +kernel
theorem dX4_readEdge_41 : decode mX4_readEdge.2.1 41 = .ok (.invokestatic 122, 3) := by decide +kernel
theorem dX4_readEdge_44 : decode mX4_readEdge.2.1 44 = .ok (.putfield 53, 3) := by decide +kernel
theorem dX4_readEdge_47 : decode mX4_readEdge.2.1 47 = .ok (.aload_n 0, 1) := by decide +kernel
theorem dX4_readEdge_48 : decode mX4_readEdge.2.1 48 = .ok (.getfield 24, 3) := by decide +kernel
theorem dX4_readEdge_51 : decode mX4_readEdge.2.1 51 = .ok (.getfield 137, 3) := by decide +kernel
theorem dX4_readEdge_54 : decode mX4_readEdge.2.1 54 = .ok (.aload_n 0, 1) := by decide +kernel
theorem dX4_readEdge_55 : decode mX4_readEdge.2.1 55 = .ok (.getfield 24, 3) := by decide +kernel
theorem dX4_readEdge_58 : decode mX4_readEdge.2.1 58 = .ok (.iload_n 1, 1) := by decide +kernel
theorem dX4_readEdge_59 : decode mX4_readEdge.2.1 59 = .ok (.iload_n 2, 1) := by decide +kernel
theorem dX4_readEdge_60 : decode mX4_readEdge.2.1 60 = .ok (.iload_n 3, 1) := by decide +kernel
theorem dX4_readEdge_61 : decode mX4_readEdge.2.1 61 = .ok (.invokevirtual 140, 3) := by decide +kernel
theorem dX4_readEdge_64 : decode mX4_readEdge.2.1 64 = .ok (.aload_n 0, 1) := by decide +kernel
theorem dX4_readEdge_65 : decode mX4_readEdge.2.1 65 = .ok (.iconst 0, 1) := by decide +kernel
theorem dX4_readEdge_66 : decode mX4_readEdge.2.1 66 = .ok (.bipush 99, 2) := by decide +kernel
theorem dX4_readEdge_68 : decode mX4_readEdge.2.1 68 = .ok (.invokevirtual 96, 3) := by decide +kernel
theorem dX4_readEdge_71 : decode mX4_readEdge.2.1 71 = .ok (.iastore, 1) := by decide +kernel
theorem dX4_readEdge_72 : decode mX4_readEdge.2.1 72 = .ok (.return_, 1) := by decide +kernel
theorem dX4_readStateLine_0 : decode mX4_readStateLine.2.1 0 = .ok (.aload_n 0, 1) := by decide +kernel
theorem dX4_readStateLine_1 : decode mX4_readStateLine.2.1 1 = .ok (.iconst 0, 1) := by decide +kernel
theorem dX4_readStateLine_2 : decode mX4_readStateLine.2.1 2 = .ok (.iconst 3, 1) := by decide +kernel
theorem dX4_readStateLine_3 : decode mX4_readStateLine.2.1 3 = .ok (.invokevirtual 96, 3) := by decide +kernel
theorem dX4_readStateLine_6 : decode mX4_readStateLine.2.1 6 = .ok (.istore_n 2, 1) := by decide +kernel
theorem dX4_readStateLine_7 : decode mX4_readStateLine.2.1 7 = .ok (.aload_n 0, 1) := by decide +kernel
theorem dX4_readStateLine_8 : decode mX4_readStateLine.2.1 8 = .ok (.iconst 0, 1) := by decide +kernel
theorem dX4_readStateLine_9 : decode mX4_readStateLine.2.1 9 = .ok (.bipush 99, 2) := by decide +kernel
theorem dX4_readStateLine_11 : decode mX4_readStateLine.2.1 11 = .ok (.invokevirtual 96, 3) := by decide +kernel
theorem dX4_readStateLine_14 : decode mX4_readStateLine.2.1 14 = .ok (.istore_n 3, 1) := by decide +kernel
theorem dX4_readStateLine_15 : decode mX4_readStateLine.2.1 15 = .ok (.aload_n 0, 1) := by decide +kernel
theorem dX4_readStateLine_16 : decode mX4_readStateLine.2.1 16 = .ok (.aload_n 0, 1) := by decide +kernel
theorem dX4_readStateLine_17 : decode mX4_readStateLine.2.1 17 = .ok (.getfield 47, 3) := by decide +kernel
theorem dX4_readStateLine_20 : decode mX4_readStateLine.2.1 20 = .ok (.iload_n 2, 1) := by decide +kernel
theorem dX4_readStateLine_21 : decode mX4_readStateLine.2.1 21 = .ok (.invokestatic 122, 3) := by decide +kernel
theorem dX4_readStateLine_24 : decode mX4_readStateLine.2.1 24 = .ok (.putfield 47, 3) := by decide +kernel
theorem dX4_readStateLine_27 : decode mX4_readStateLine.2.1 27 = .ok (.iload_n 1, 1) := by decide +kernel
theorem dX4_readStateLine_28 : decode mX4_readStateLine.2.1 28 = .ok (.iconst 3, 1) := by decide +kernel
theorem dX4_readStateLine_29 : decode mX4_readStateLine.2.1 29 = .ok (.if_icmp .ne 16, 3) := by decide +kernel
theorem dX4_readStateLine_32 : decode mX4_readStateLine.2.1 32 = .ok (.aload_n 0, 1) := by decide +kernel
theorem dX4_readStateLine_33 : decode mX4_readStateLine.2.1 33 = .ok (.getfield 24, 3) := by decide +kernel
theorem dX4_readStateLine_36 : decode mX4_readStateLine.2.1 36 = .ok (.getfield 127, 3) := by decide +kernel
theorem dX4_readStateLine_39 : decode mX4_readStateLine.2.1 39 = .ok (.iload_n 2, 1) := by decide +kernel
theorem dX4_readStateLine_40 : decode mX4_readStateLine.2.1 40 = .ok (.iload_n 3, 1) := by decide +kernel
theorem dX4_readStateLine_41 : decode mX4_readStateLine.2.1 41 = .ok (.iastore, 1) := by decide +kernel
theorem dX4_readStateLine_42 : decode mX4_readStateLine.2.1 42 = .ok (.goto 13, 3) := by decide +kernel
theorem dX4_readStateLine_45 : decode mX4_readStateLine.2.1 45 = .ok (.aload_n 0, 1) := by decide +kernel
theorem dX4_readStateLine_46 : decode mX4_readStateLine.2.1 46 = .ok (.getfield 24, 3) := by decide +kernel
theorem dX4_readStateLine_49 : decode mX4_readStateLine.2.1 49 = .ok (.getfield 131, 3) := by decide +kernel
theorem dX4_readStateLine_52 : decode mX4_readStateLine.2.1 52 = .ok (.iload_n 2, 1) := by decide +kernel
theorem dX4_readStateLine_53 : decode mX4_readStateLine.2.1 53 = .ok (.iload_n 3, 1) := by decide +kernel
theorem dX4_readStateLine_54 : decode mX4_readStateLine.2.1 54 = .ok (.iastore, 1) := by decide +kernel
theorem dX4_readStateLine_55 : decode mX4_readStateLine.2.1 55 = .ok (.return_, 1) := by decide +kernel
theorem dX4_takeSign_0 : decode mX4_takeSign.2.1 0 = .ok (.aload_n 0, 1) := by decide +kernel
theorem dX4_takeSign_1 : decode mX4_takeSign.2.1 1 = .ok (.invokevirtual 35, 3) := by decide +kernel
theorem dX4_takeSign_4 : decode mX4_takeSign.2.1 4 = .ok (.aload_n 0, 1) := by decide +kernel
theorem dX4_takeSign_5 : decode mX4_takeSign.2.1 5 = .ok (.getfield 38, 3) := by decide +kernel
theorem dX4_takeSign_8 : decode mX4_takeSign.2.1 8 = .ok (.ifCond .ne 20, 3) := by decide +kernel
theorem dX4_takeSign_11 : decode mX4_takeSign.2.1 11 = .ok (.aload_n 0, 1) := by decide +kernel
theorem dX4_takeSign_12 : decode mX4_takeSign.2.1 12 = .ok (.getfield 41, 3) := by decide +kernel
theorem dX4_takeSign_15 : decode mX4_takeSign.2.1 15 = .ok (.iconst 3, 1) := by decide +kernel
theorem dX4_takeSign_16 : decode mX4_takeSign.2.1 16 = .ok (.if_icmp .eq 12, 3) := by decide +kernel
theorem dX4_takeSign_19 : decode mX4_takeSign.2.1 19 = .ok (.aload_n 0, 1) := by decide +kernel
theorem dX4_takeSign_20 : decode mX4_takeSign.2.1 20 = .ok (.iconst 2, 1) := by decide +kernel
theorem dX4_takeSign_21 : decode mX4_takeSign.2.1 21 = .ok (.aload_n 0, 1) := by decide +kernel
theorem dX4_takeSign_22 : decode mX4_takeSign.2.1 22 = .ok (.getfield 90, 3) := by decide +kernel
theorem dX4_takeSign_25 : decode mX4_takeSign.2.1 25 = .ok (.invokevirtual 59, 3) := by decide +kernel
theorem dX4_takeSign_28 : decode mX4_takeSign.2.1 28 = .ok (.return_, 1) := by decide +kernel
theorem dX4_readLine_0 : decode mX4_readLine.2.1 0 = .ok (.aload_n 0, 1) := by decide +kernel
theorem dX4_readLine_1 : decode mX4_readLine.2.1 1 = .ok (.invokevirtual 86, 3) := by decide +kernel
theorem dX4_readLine_4 : decode mX4_readLine.2.1 4 = .ok (.istore_n 1, 1) := by decide +kernel
theorem dX4_readLine_5 : decode mX4_readLine.2.1 5 = .ok (.iload_n 1, 1) := by decide +kernel
theorem dX4_readLine_6 : decode mX4_readLine.2.1 6 = .ok (.iconst (-1), 1) := by decide +kernel
theorem dX4_readLine_7 : decode mX4_readLine.2.1 7 = .ok (.if_icmp .ne 13, 3) := by decide +kernel
theorem dX4_readLine_10 : decode mX4_readLine.2.1 10 = .ok (.aload_n 0, 1) := by decide +kernel
theorem dX4_readLine_11 : decode mX4_readLine.2.1 11 = .ok (.iconst 2, 1) := by decide +kernel
theorem dX4_readLine_12 : decode mX4_readLine.2.1 12 = .ok (.aload_n 0, 1) := by decide +kernel
theorem dX4_readLine_13 : decode mX4_readLine.2.1 13 = .ok (.getfield 90, 3) := by decide +kernel
theorem dX4_readLine_16 : decode mX4_readLine.2.1 16 = .ok (.invokevirtual 59, 3) := by decide +kernel
theorem dX4_readLine_19 : decode mX4_readLine.2.1 19 = .ok (.return_, 1) := by decide +kernel
theorem dX4_readLine_20 : decode mX4_readLine.2.1 20 = .ok (.iload_n 1, 1) := by decide +kernel
theorem dX4_readLine_21 : decode mX4_readLine.2.1 21 = .ok (.iconst 2, 1) := by decide +kernel
theorem dX4_readLine_22 : decode mX4_readLine.2.1 22 = .ok (.if_icmp .gt 28, 3) := by decide +kernel
theorem dX4_readLine_25 : decode mX4_readLine.2.1 25 = .ok (.aload_n 0, 1) := by decide +kernel
theorem dX4_readLine_26 : decode mX4_readLine.2.1 26 = .ok (.getfield 15, 3) := by decide +kernel
theorem dX4_readLine_29 : decode mX4_readLine.2.1 29 = .ok (.iload_n 1, 1) := by decide +kernel
theorem dX4_readLine_30 : decode mX4_readLine.2.1 30 = .ok (.baload, 1) := by decide +kernel
theorem dX4_readLine_31 : decode mX4_readLine.2.1 31 = .ok (.ifCond .eq 12, 3) := by decide +kernel
theorem dX4_readLine_34 : decode mX4_readLine.2.1 34 = .ok (.aload_n 0, 1) := by decide +kernel
theorem dX4_readLine_35 : decode mX4_readLine.2.1 35 = .ok (.iconst 4, 1) := by decide +kernel
theorem dX4_readLine_36 : decode mX4_readLine.2.1 36 = .ok (.aload_n 0, 1) := by decide +kernel
theorem dX4_readLine_37 : decode mX4_readLine.2.1 37 = .ok (.getfield 90, 3) := by decide +kernel
theorem dX4_readLine_40 : decode mX4_readLine.2.1 40 = .ok (.invokevirtual 59, 3) := by decide +kernel
theorem dX4_readLine_43 : decode mX4_readLine.2.1 43 = .ok (.aload_n 0, 1) := by decide +kernel
theorem dX4_readLine_44 : decode mX4_readLine.2.1 44 = .ok (.getfield 15, 3) := by decide +kernel
theorem dX4_readLine_47 : decode mX4_readLine.2.1 47 = .ok (.iload_n 1, 1) := by decide +kernel
theorem dX4_readLine_48 : decode mX4_readLine.2.1 48 = .ok (.iconst 1, 1) := by decide +kernel
theorem dX4_readLine_49 : decode mX4_readLine.2.1 49 = .ok (.bastore, 1) := by decide +kernel
theorem dX4_readLine_50 : decode mX4_readLine.2.1 50 = .ok (.iload_n 1, 1) := by decide +kernel
theorem dX4_readLine_51 : decode mX4_readLine.2.1 51 = .ok (.tableswitch 81 0 5 #[37, 48, 61, 81, 81, 74], 37) := by decide +kernel
theorem dX4_readLine_88 : decode mX4_readLine.2.1 88 = .ok (.aload_n 0, 1) := by decide +kernel
theorem dX4_readLine_89 : decode mX4_readLine.2.1 89 = .ok (.aload_n 0, 1) := by decide +kernel
theorem dX4_readLine_90 : decode mX4_readLine.2.1 90 = .ok (.invokevirtual 93, 3) := by decide +kernel
theorem dX4_readLine_93 : decode mX4_readLine.2.1 93 = .ok (.putfield 83, 3) := by decide +kernel
theorem dX4_readLine_96 : decode mX4_readLine.2.1 96 = .ok (.goto 41, 3) := by decide +kernel
theorem dX4_readLine_99 : decode mX4_readLine.2.1 99 = .ok (.aload_n 0, 1) := by decide +kernel
theorem dX4_readLine_100 : decode mX4_readLine.2.1 100 = .ok (.aload_n 0, 1) := by decide +kernel
theorem dX4_readLine_101 : decode mX4_readLine.2.1 101 = .ok (.iconst 1, 1) := by decide +kernel
theorem dX4_readLine_102 : decode mX4_readLine.2.1 102 = .ok (.iconst 3, 1) := by decide +kernel
theorem dX4_readLine_103 : decode mX4_readLine.2.1 103 = .ok (.invokevirtual 96, 3) := by decide +kernel
theorem dX4_readLine_106 : decode mX4_readLine.2.1 106 = .ok (.putfield 56, 3) := by decide +kernel
theorem dX4_readLine_109 : decode mX4_readLine.2.1 109 = .ok (.goto 28, 3) := by decide +kernel
theorem dX4_readLine_112 : decode mX4_readLine.2.1 112 = .ok (.aload_n 0, 1) := by decide +kernel
theorem dX4_readLine_113 : decode mX4_readLine.2.1 113 = .ok (.aload_n 0, 1) := by decide +kernel
theorem dX4_readLine_114 : decode mX4_readLine.2.1 114 = .ok (.iconst 0, 1) := by decide +kernel
theorem dX4_readLine_115 : decode mX4_readLine.2.1 115 = .ok (.iconst 4, 1) := by decide +kernel
theorem dX4_readLine_116 : decode mX4_readLine.2.1 116 = .ok (.invokevirtual 96, 3) := by decide +kernel
theorem dX4_readLine_119 : decode mX4_readLine.2.1 119 = .ok (.putfield 50, 3) := by decide +kernel
theorem dX4_readLine_122 : decode mX4_readLine.2.1 122 = .ok (.goto 15, 3) := by decide +kernel
theorem dX4_readLine_125 : decode mX4_readLine.2.1 125 = .ok (.aload_n 0, 1) := by decide +kernel
theorem dX4_readLine_126 : decode mX4_readLine.2.1 126 = .ok (.invokevirtual 100, 3) := by decide +kernel
theorem dX4_readLine_129 : decode mX4_readLine.2.1 129 = .ok (.goto 8, 3) := by decide +kernel
theorem dX4_readLine_132 : decode mX4_readLine.2.1 132 = .ok (.aload_n 0, 1) := by decide +kernel
theorem dX4_readLine_133 : decode mX4_readLine.2.1 133 = .ok (.iload_n 1, 1) := by decide +kernel
theorem dX4_readLine_134 : decode mX4_readLine.2.1 134 = .ok (.invokevirtual 103, 3) := by decide +kernel
theorem dX4_readLine_137 : decode mX4_readLine.2.1 137 = .ok (.aload_n 0, 1) := by decide +kernel
theorem dX4_readLine_138 : decode mX4_readLine.2.1 138 = .ok (.invokevirtual 106, 3) := by decide +kernel
theorem dX4_readLine_141 : decode mX4_readLine.2.1 141 = .ok (.return_, 1) := by decide +kernel
theorem dX4_readAll_0 : decode mX4_readAll.2.1 0 = .ok (.aload_n 0, 1) := by decide +kernel
theorem dX4_readAll_1 : decode mX4_readAll.2.1 1 = .ok (.invokevirtual 32, 3) := by decide +kernel
theorem dX4_readAll_4 : decode mX4_readAll.2.1 4 = .ok (.iconst 0, 1) := by decide +kernel
theorem dX4_readAll_5 : decode mX4_readAll.2.1 5 = .ok (.istore_n 1, 1) := by decide +kernel
theorem dX4_readAll_6 : decode mX4_readAll.2.1 6 = .ok (.iload_n 1, 1) := by decide +kernel
theorem dX4_readAll_7 : decode mX4_readAll.2.1 7 = .ok (.sipush 200, 3) := by decide +kernel
theorem dX4_readAll_10 : decode mX4_readAll.2.1 10 = .ok (.if_icmp .ge 34, 3) := by decide +kernel
theorem dX4_readAll_13 : decode mX4_readAll.2.1 13 = .ok (.aload_n 0, 1) := by decide +kernel
theorem dX4_readAll_14 : decode mX4_readAll.2.1 14 = .ok (.invokevirtual 35, 3) := by decide +kernel
theorem dX4_readAll_17 : decode mX4_readAll.2.1 17 = .ok (.aload_n 0, 1) := by decide +kernel
theorem dX4_readAll_18 : decode mX4_readAll.2.1 18 = .ok (.getfield 38, 3) := by decide +kernel
theorem dX4_readAll_21 : decode mX4_readAll.2.1 21 = .ok (.ifCond .ne 23, 3) := by decide +kernel
theorem dX4_readAll_24 : decode mX4_readAll.2.1 24 = .ok (.aload_n 0, 1) := by decide +kernel
theorem dX4_readAll_25 : decode mX4_readAll.2.1 25 = .ok (.getfield 41, 3) := by decide +kernel
theorem dX4_readAll_28 : decode mX4_readAll.2.1 28 = .ok (.ifCond .ne 6, 3) := by decide +kernel
theorem dX4_readAll_31 : decode mX4_readAll.2.1 31 = .ok (.goto 13, 3) := by decide +kernel
theorem dX4_readAll_34 : decode mX4_readAll.2.1 34 = .ok (.aload_n 0, 1) := by decide +kernel
theorem dX4_readAll_35 : decode mX4_readAll.2.1 35 = .ok (.invokevirtual 44, 3) := by decide +kernel
theorem dX4_readAll_38 : decode mX4_readAll.2.1 38 = .ok (.iinc 1 1, 3) := by decide +kernel
theorem dX4_readAll_41 : decode mX4_readAll.2.1 41 = .ok (.goto (-35), 3) := by decide +kernel
theorem dX4_readAll_44 : decode mX4_readAll.2.1 44 = .ok (.aload_n 0, 1) := by decide +kernel
theorem dX4_readAll_45 : decode mX4_readAll.2.1 45 = .ok (.getfield 47, 3) := by decide +kernel
theorem dX4_readAll_48 : decode mX4_readAll.2.1 48 = .ok (.aload_n 0, 1) := by decide +kernel
theorem dX4_readAll_49 : decode mX4_readAll.2.1 49 = .ok (.getfield 50, 3) := by decide +kernel
theorem dX4_readAll_52 : decode mX4_readAll.2.1 52 = .ok (.if_icmp .ge 14, 3) := by decide +kernel
theorem dX4_readAll_55 : decode mX4_readAll.2.1 55 = .ok (.aload_n 0, 1) := by decide +kernel
theorem dX4_readAll_56 : decode mX4_readAll.2.1 56 = .ok (.getfield 53, 3) := by decide +kernel
theorem dX4_readAll_59 : decode mX4_readAll.2.1 59 = .ok (.aload_n 0, 1) := by decide +kernel
theorem dX4_readAll_60 : decode mX4_readAll.2.1 60 = .ok (.getfield 56, 3) := by decide +kernel
theorem dX4_readAll_63 : decode mX4_readAll.2.1 63 = .ok (.if_icmp .lt 12, 3) := by decide +kernel
theorem dX4_readAll_66 : decode mX4_readAll.2.1 66 = .ok (.aload_n 0, 1) := by decide +kernel
theorem dX4_readAll_67 : decode mX4_readAll.2.1 67 = .ok (.iconst 5, 1) := by decide +kernel
theorem dX4_readAll_68 : decode mX4_readAll.2.1 68 = .ok (.aload_n 0, 1) := by decide +kernel
theorem dX4_readAll_69 : decode mX4_readAll.2.1 69 = .ok (.getfield 28, 3) := by decide +kernel
theorem dX4_readAll_72 : decode mX4_readAll.2.1 72 = .ok (.invokevirtual 59, 3) := by decide +kernel
theorem dX4_readAll_75 : decode mX4_readAll.2.1 75 = .ok (.iload_n 1, 1) := by decide +kernel
theorem dX4_readAll_76 : decode mX4_readAll.2.1 76 = .ok (.ireturn, 1) := by decide +kernel
theorem dX5_become_0 : decode mX5_become.2.1 0 = .ok (.aload_n 0, 1) := by decide +kernel
theorem dX5_become_1 : decode mX5_become.2.1 1 = .ok (.iload_n 1, 1) := by decide +kernel
theorem dX5_become_2 : decode mX5_become.2.1 2 = .ok (.invokestatic 18, 3) := by decide +kernel
theorem dX5_become_5 : decode mX5_become.2.1 5 = .ok (.ifCond .eq 7, 3) := by decide +kernel
theorem dX5_become_8 : decode mX5_become.2.1 8 = .ok (.iload_n 1, 1) := by decide +kernel
theorem dX5_become_9 : decode mX5_become.2.1 9 = .ok (.goto 5, 3) := by decide +kernel
theorem dX5_become_12 : decode mX5_become.2.1 12 = .ok (.bipush 7, 2) := by decide +kernel
theorem dX5_become_14 : decode mX5_become.2.1 14 = .ok (.putfield 11, 3) := by decide +kernel
theorem dX5_become_17 : decode mX5_become.2.1 17 = .ok (.aload_n 0, 1) := by decide +kernel
theorem dX5_become_18 : decode mX5_become.2.1 18 = .ok (.iload_n 2, 1) := by decide +kernel
theorem dX5_become_19 : decode mX5_become.2.1 19 = .ok (.iconst 1, 1) := by decide +kernel
theorem dX5_become_20 : decode mX5_become.2.1 20 = .ok (.if_icmp .lt 12, 3) := by decide +kernel
theorem dX5_become_23 : decode mX5_become.2.1 23 = .ok (.iload_n 2, 1) := by decide +kernel
theorem dX5_become_24 : decode mX5_become.2.1 24 = .ok (.iconst 3, 1) := by decide +kernel
theorem dX5_become_25 : decode mX5_become.2.1 25 = .ok (.if_icmp .gt 7, 3) := by decide +kernel
theorem dX5_become_28 : decode mX5_become.2.1 28 = .ok (.iload_n 2, 1) := by decide +kernel
theorem dX5_become_29 : decode mX5_become.2.1 29 = .ok (.goto 4, 3) := by decide +kernel
theorem dX5_become_32 : decode mX5_become.2.1 32 = .ok (.iconst 2, 1) := by decide +kernel
theorem dX5_become_33 : decode mX5_become.2.1 33 = .ok (.putfield 15, 3) := by decide +kernel
theorem dX5_become_36 : decode mX5_become.2.1 36 = .ok (.return_, 1) := by decide +kernel
theorem dX3_reduce_0 : decode mX3_reduce.2.1 0 = .ok (.iconst 0, 1) := by decide +kernel
theorem dX3_reduce_1 : decode mX3_reduce.2.1 1 = .ok (.istore_n 1, 1) := by decide +kernel
theorem dX3_reduce_2 : decode mX3_reduce.2.1 2 = .ok (.iload_n 1, 1) := by decide +kernel
theorem dX3_reduce_3 : decode mX3_reduce.2.1 3 = .ok (.aload_n 0, 1) := by decide +kernel
theorem dX3_reduce_4 : decode mX3_reduce.2.1 4 = .ok (.getfield 17, 3) := by decide +kernel
theorem dX3_reduce_7 : decode mX3_reduce.2.1 7 = .ok (.if_icmp .ge 41, 3) := by decide +kernel
theorem dX3_reduce_10 : decode mX3_reduce.2.1 10 = .ok (.aload_n 0, 1) := by decide +kernel
theorem dX3_reduce_11 : decode mX3_reduce.2.1 11 = .ok (.getfield 21, 3) := by decide +kernel
theorem dX3_reduce_14 : decode mX3_reduce.2.1 14 = .ok (.iload_n 1, 1) := by decide +kernel
theorem dX3_reduce_15 : decode mX3_reduce.2.1 15 = .ok (.dup2, 1) := by decide +kernel
theorem dX3_reduce_16 : decode mX3_reduce.2.1 16 = .ok (.iaload, 1) := by decide +kernel
theorem dX3_reduce_17 : decode mX3_reduce.2.1 17 = .ok (.aload_n 0, 1) := by decide +kernel
theorem dX3_reduce_18 : decode mX3_reduce.2.1 18 = .ok (.getfield 9, 3) := by decide +kernel
theorem dX3_reduce_21 : decode mX3_reduce.2.1 21 = .ok (.getfield 48, 3) := by decide +kernel
theorem dX3_reduce_24 : decode mX3_reduce.2.1 24 = .ok (.irem, 1) := by decide +kernel
theorem dX3_reduce_25 : decode mX3_reduce.2.1 25 = .ok (.iastore, 1) := by decide +kernel
theorem dX3_reduce_26 : decode mX3_reduce.2.1 26 = .ok (.aload_n 0, 1) := by decide +kernel
theorem dX3_reduce_27 : decode mX3_reduce.2.1 27 = .ok (.getfield 25, 3) := by decide +kernel
theorem dX3_reduce_30 : decode mX3_reduce.2.1 30 = .ok (.iload_n 1, 1) := by decide +kernel
theorem dX3_reduce_31 : decode mX3_reduce.2.1 31 = .ok (.dup2, 1) := by decide +kernel
theorem dX3_reduce_32 : decode mX3_reduce.2.1 32 = .ok (.iaload, 1) := by decide +kernel
theorem dX3_reduce_33 : decode mX3_reduce.2.1 33 = .ok (.aload_n 0, 1) := by decide +kernel
theorem dX3_reduce_34 : decode mX3_reduce.2.1 34 = .ok (.getfield 9, 3) := by decide +kernel
theorem dX3_reduce_37 : decode mX3_reduce.2.1 37 = .ok (.getfield 48, 3) := by decide +kernel
theorem dX3_reduce_40 : decode mX3_reduce.2.1 40 = .ok (.irem, 1) := by decide +kernel
theorem dX3_reduce_41 : decode mX3_reduce.2.1 41 = .ok (.iastore, 1) := by decide +kernel
theorem dX3_reduce_42 : decode mX3_reduce.2.1 42 = .ok (.iinc 1 1, 3) := by decide +kernel
theorem dX3_reduce_45 : decode mX3_reduce.2.1 45 = .ok (.goto (-43), 3) := by decide +kernel
theorem dX3_reduce_48 : decode mX3_reduce.2.1 48 = .ok (.iconst 0, 1) := by decide +kernel
theorem dX3_reduce_49 : decode mX3_reduce.2.1 49 = .ok (.istore_n 1, 1) := by decide +kernel
theorem dX3_reduce_50 : decode mX3_reduce.2.1 50 = .ok (.iload_n 1, 1) := by decide +kernel
theorem dX3_reduce_51 : decode mX3_reduce.2.1 51 = .ok (.aload_n 0, 1) := by decide +kernel
theorem dX3_reduce_52 : decode mX3_reduce.2.1 52 = .ok (.getfield 28, 3) := by decide +kernel
theorem dX3_reduce_55 : decode mX3_reduce.2.1 55 = .ok (.arraylength, 1) := by decide +kernel
theorem dX3_reduce_56 : decode mX3_reduce.2.1 56 = .ok (.if_icmp .ge 25, 3) := by decide +kernel
theorem dX3_reduce_59 : decode mX3_reduce.2.1 59 = .ok (.aload_n 0, 1) := by decide +kernel
theorem dX3_reduce_60 : decode mX3_reduce.2.1 60 = .ok (.getfield 28, 3) := by decide +kernel
theorem dX3_reduce_63 : decode mX3_reduce.2.1 63 = .ok (.iload_n 1, 1) := by decide +kernel
theorem dX3_reduce_64 : decode mX3_reduce.2.1 64 = .ok (.dup2, 1) := by decide +kernel
theorem dX3_reduce_65 : decode mX3_reduce.2.1 65 = .ok (.iaload, 1) := by decide +kernel
theorem dX3_reduce_66 : decode mX3_reduce.2.1 66 = .ok (.aload_n 0, 1) := by decide +kernel
theorem dX3_reduce_67 : decode mX3_reduce.2.1 67 = .ok (.getfield 9, 3) := by decide +kernel
theorem dX3_reduce_70 : decode mX3_reduce.2.1 70 = .ok (.getfield 48, 3) := by decide +kernel
theorem dX3_reduce_73 : decode mX3_reduce.2.1 73 = .ok (.irem, 1) := by decide +kernel
theorem dX3_reduce_74 : decode mX3_reduce.2.1 74 = .ok (.iastore, 1) := by decide +kernel
theorem dX3_reduce_75 : decode mX3_reduce.2.1 75 = .ok (.iinc 1 1, 3) := by decide +kernel
theorem dX3_reduce_78 : decode mX3_reduce.2.1 78 = .ok (.goto (-28), 3) := by decide +kernel
theorem dX3_reduce_81 : decode mX3_reduce.2.1 81 = .ok (.return_, 1) := by decide +kernel
theorem dX3_append_0 : decode mX3_append.2.1 0 = .ok (.aload_n 0, 1) := by decide +kernel
theorem dX3_append_1 : decode mX3_append.2.1 1 = .ok (.getfield 31, 3) := by decide +kernel
theorem dX3_append_4 : decode mX3_append.2.1 4 = .ok (.aload_n 1, 1) := by decide +kernel
theorem dX3_append_5 : decode mX3_append.2.1 5 = .ok (.getfield 31, 3) := by decide +kernel
theorem dX3_append_8 : decode mX3_append.2.1 8 = .ok (.iadd, 1) := by decide +kernel
theorem dX3_append_9 : decode mX3_append.2.1 9 = .ok (.aload_n 0, 1) := by decide +kernel
theorem dX3_append_10 : decode mX3_append.2.1 10 = .ok (.getfield 17, 3) := by decide +kernel
theorem dX3_append_13 : decode mX3_append.2.1 13 = .ok (.if_icmp .le 4, 3) := by decide +kernel
theorem dX3_append_16 : decode mX3_append.2.1 16 = .ok (.return_, 1) := by decide +kernel
theorem dX3_append_17 : decode mX3_append.2.1 17 = .ok (.aload_n 0, 1) := by decide +kernel
theorem dX3_append_18 : decode mX3_append.2.1 18 = .ok (.getfield 31, 3) := by decide +kernel
theorem dX3_append_21 : decode mX3_append.2.1 21 = .ok (.istore_n 3, 1) := by decide +kernel
theorem dX3_append_22 : decode mX3_append.2.1 22 = .ok (.iconst 0, 1) := by decide +kernel
theorem dX3_append_23 : decode mX3_append.2.1 23 = .ok (.istore 4, 2) := by decide +kernel
theorem dX3_append_25 : decode mX3_append.2.1 25 = .ok (.iload 4, 2) := by decide +kernel
theorem dX3_append_27 : decode mX3_append.2.1 27 = .ok (.aload_n 1, 1) := by decide +kernel
theorem dX3_append_28 : decode mX3_append.2.1 28 = .ok (.getfield 31, 3) := by decide +kernel
theorem dX3_append_31 : decode mX3_append.2.1 31 = .ok (.if_icmp .ge 107, 3) := by decide +kernel
theorem dX3_append_34 : decode mX3_append.2.1 34 = .ok (.aload_n 0, 1) := by decide +kernel
theorem dX3_append_35 : decode mX3_append.2.1 35 = .ok (.getfield 21, 3) := by decide +kernel
theorem dX3_append_38 : decode mX3_append.2.1 38 = .ok (.iload_n 3, 1) := by decide +kernel
theorem dX3_append_39 : decode mX3_append.2.1 39 = .ok (.iload 4, 2) := by decide +kernel
theorem dX3_append_41 : decode mX3_append.2.1 41 = .ok (.iadd, 1) := by decide +kernel
theorem dX3_append_42 : decode mX3_append.2.1 42 = .ok (.aload_n 1, 1) := by decide +kernel
theorem dX3_append_43 : decode mX3_append.2.1 43 = .ok (.getfield 21, 3) := by decide +kernel
theorem dX3_append_46 : decode mX3_append.2.1 46 = .ok (.iload 4, 2) := by decide +kernel
theorem dX3_append_48 : decode mX3_append.2.1 48 = .ok (.iaload, 1) := by decide +kernel
theorem dX3_append_49 : decode mX3_append.2.1 49 = .ok (.iload_n 2, 1) := by decide +kernel
theorem dX3_append_50 : decode mX3_append.2.1 50 = .ok (.imul, 1) := by decide +kernel
theorem dX3_append_51 : decode mX3_append.2.1 51 = .ok (.aload_n 0, 1) := by decide +kernel
theorem dX3_append_52 : decode mX3_append.2.1 52 = .ok (.getfield 9, 3) := by decide +kernel
theorem dX3_append_55 : decode mX3_append.2.1 55 = .ok (.getfield 48, 3) := by decide +kernel
theorem dX3_append_58 : decode mX3_append.2.1 58 = .ok (.irem, 1) := by decide +kernel
theorem dX3_append_59 : decode mX3_append.2.1 59 = .ok (.iastore, 1) := by decide +kernel
theorem dX3_append_60 : decode mX3_append.2.1 60 = .ok (.aload_n 0, 1) := by decide +kernel
theorem dX3_append_61 : decode mX3_append.2.1 61 = .ok (.getfield 25, 3) := by decide +kernel
theorem dX3_append_64 : decode mX3_append.2.1 64 = .ok (.iload_n 3, 1) := by decide +kernel
theorem dX3_append_65 : decode mX3_append.2.1 65 = .ok (.iload 4, 2) := by decide +kernel
theorem dX3_append_67 : decode mX3_append.2.1 67 = .ok (.iadd, 1) := by decide +kernel
theorem dX3_append_68 : decode mX3_append.2.1 68 = .ok (.aload_n 1, 1) := by decide +kernel
theorem dX3_append_69 : decode mX3_append.2.1 69 = .ok (.getfield 25, 3) := by decide +kernel
theorem dX3_append_72 : decode mX3_append.2.1 72 = .ok (.iload 4, 2) := by decide +kernel
theorem dX3_append_74 : decode mX3_append.2.1 74 = .ok (.iaload, 1) := by decide +kernel
theorem dX3_append_75 : decode mX3_append.2.1 75 = .ok (.iastore, 1) := by decide +kernel
theorem dX3_append_76 : decode mX3_append.2.1 76 = .ok (.iconst 0, 1) := by decide +kernel
theorem dX3_append_77 : decode mX3_append.2.1 77 = .ok (.istore 5, 2) := by decide +kernel
theorem dX3_append_79 : decode mX3_append.2.1 79 = .ok (.iload 5, 2) := by decide +kernel
theorem dX3_append_81 : decode mX3_append.2.1 81 = .ok (.aload_n 0, 1) := by decide +kernel
theorem dX3_append_82 : decode mX3_append.2.1 82 = .ok (.getfield 9, 3) := by decide +kernel
theorem dX3_append_85 : decode mX3_append.2.1 85 = .ok (.getfield 53, 3) := by decide +kernel
theorem dX3_append_88 : decode mX3_append.2.1 88 = .ok (.if_icmp .ge 44, 3) := by decide +kernel
theorem dX3_append_91 : decode mX3_append.2.1 91 = .ok (.aload_n 1, 1) := by decide +kernel
theorem dX3_append_92 : decode mX3_append.2.1 92 = .ok (.getfield 28, 3) := by decide +kernel
theorem dX3_append_95 : decode mX3_append.2.1 95 = .ok (.aload_n 1, 1) := by decide +kernel
theorem dX3_append_96 : decode mX3_append.2.1 96 = .ok (.iload 4, 2) := by decide +kernel
theorem dX3_append_98 : decode mX3_append.2.1 98 = .ok (.iload 5, 2) := by decide +kernel
theorem dX3_append_100 : decode mX3_append.2.1 100 = .ok (.iconst 0, 1) := by decide +kernel
theorem dX3_append_101 : decode mX3_append.2.1 101 = .ok (.invokevirtual 56, 3) := by decide +kernel
theorem dX3_append_104 : decode mX3_append.2.1 104 = .ok (.aload_n 0, 1) := by decide +kernel
theorem dX3_append_105 : decode mX3_append.2.1 105 = .ok (.getfield 28, 3) := by decide +kernel
theorem dX3_append_108 : decode mX3_append.2.1 108 = .ok (.aload_n 0, 1) := by decide +kernel
theorem dX3_append_109 : decode mX3_append.2.1 109 = .ok (.iload_n 3, 1) := by decide +kernel
theorem dX3_append_110 : decode mX3_append.2.1 110 = .ok (.iload 4, 2) := by decide +kernel
theorem dX3_append_112 : decode mX3_append.2.1 112 = .ok (.iadd, 1) := by decide +kernel
theorem dX3_append_113 : decode mX3_append.2.1 113 = .ok (.iload 5, 2) := by decide +kernel
theorem dX3_append_115 : decode mX3_append.2.1 115 = .ok (.iload_n 3, 1) := by decide +kernel
theorem dX3_append_116 : decode mX3_append.2.1 116 = .ok (.invokevirtual 56, 3) := by decide +kernel
theorem dX3_append_119 : decode mX3_append.2.1 119 = .ok (.aload_n 1, 1) := by decide +kernel
theorem dX3_append_120 : decode mX3_append.2.1 120 = .ok (.getfield 31, 3) := by decide +kernel
theorem dX3_append_123 : decode mX3_append.2.1 123 = .ok (.invokestatic 60, 3) := by decide +kernel
theorem dX3_append_126 : decode mX3_append.2.1 126 = .ok (.iinc 5 1, 3) := by decide +kernel
theorem dX3_append_129 : decode mX3_append.2.1 129 = .ok (.goto (-50), 3) := by decide +kernel
theorem dX3_append_132 : decode mX3_append.2.1 132 = .ok (.iinc 4 1, 3) := by decide +kernel
theorem dX3_append_135 : decode mX3_append.2.1 135 = .ok (.goto (-110), 3) := by decide +kernel
theorem dX3_append_138 : decode mX3_append.2.1 138 = .ok (.aload_n 0, 1) := by decide +kernel
theorem dX3_append_139 : decode mX3_append.2.1 139 = .ok (.dup, 1) := by decide +kernel
theorem dX3_append_140 : decode mX3_append.2.1 140 = .ok (.getfield 31, 3) := by decide +kernel
theorem dX3_append_143 : decode mX3_append.2.1 143 = .ok (.aload_n 1, 1) := by decide +kernel
theorem dX3_append_144 : decode mX3_append.2.1 144 = .ok (.getfield 31, 3) := by decide +kernel
theorem dX3_append_147 : decode mX3_append.2.1 147 = .ok (.iadd, 1) := by decide +kernel
theorem dX3_append_148 : decode mX3_append.2.1 148 = .ok (.putfield 31, 3) := by decide +kernel
theorem dX3_append_151 : decode mX3_append.2.1 151 = .ok (.return_, 1) := by decide +kernel
theorem dX3_copy_0 : decode mX3_copy.2.1 0 = .ok (.aload_n 0, 1) := by decide +kernel
theorem dX3_copy_1 : decode mX3_copy.2.1 1 = .ok (.iconst 0, 1) := by decide +kernel
theorem dX3_copy_2 : decode mX3_copy.2.1 2 = .ok (.invokevirtual 40, 3) := by decide +kernel
theorem dX3_copy_5 : decode mX3_copy.2.1 5 = .ok (.aload_n 0, 1) := by decide +kernel
theorem dX3_copy_6 : decode mX3_copy.2.1 6 = .ok (.aload_n 1, 1) := by decide +kernel
theorem dX3_copy_7 : decode mX3_copy.2.1 7 = .ok (.iconst 1, 1) := by decide +kernel
theorem dX3_copy_8 : decode mX3_copy.2.1 8 = .ok (.invokevirtual 44, 3) := by decide +kernel
theorem dX3_copy_11 : decode mX3_copy.2.1 11 = .ok (.return_, 1) := by decide +kernel
theorem dX4_hand_0 : decode mX4_hand.2.1 0 = .ok (.aload_n 0, 1) := by decide +kernel
theorem dX4_hand_1 : decode mX4_hand.2.1 1 = .ok (.getfield 24, 3) := by decide +kernel
theorem dX4_hand_4 : decode mX4_hand.2.1 4 = .ok (.aload_n 0, 1) := by decide +kernel
theorem dX4_hand_5 : decode mX4_hand.2.1 5 = .ok (.getfield 50, 3) := by decide +kernel
theorem dX4_hand_8 : decode mX4_hand.2.1 8 = .ok (.putfield 63, 3) := by decide +kernel
theorem dX4_hand_11 : decode mX4_hand.2.1 11 = .ok (.aload_n 0, 1) := by decide +kernel
theorem dX4_hand_12 : decode mX4_hand.2.1 12 = .ok (.getfield 24, 3) := by decide +kernel
theorem dX4_hand_15 : decode mX4_hand.2.1 15 = .ok (.invokevirtual 64, 3) := by decide +kernel
theorem dX4_hand_18 : decode mX4_hand.2.1 18 = .ok (.aload_n 1, 1) := by decide +kernel
theorem dX4_hand_19 : decode mX4_hand.2.1 19 = .ok (.aload_n 0, 1) := by decide +kernel
theorem dX4_hand_20 : decode mX4_hand.2.1 20 = .ok (.getfield 24, 3) := by decide +kernel
theorem dX4_hand_23 : decode mX4_hand.2.1 23 = .ok (.invokevirtual 67, 3) := by decide +kernel
theorem dX4_hand_26 : decode mX4_hand.2.1 26 = .ok (.return_, 1) := by decide +kernel
theorem dX9_changed_0 : decode mX9_changed.2.1 0 = .ok (.aload_n 0, 1) := by decide +kernel
theorem dX9_changed_1 : decode mX9_changed.2.1 1 = .ok (.iconst 0, 1) := by decide +kernel
theorem dX9_changed_2 : decode mX9_changed.2.1 2 = .ok (.putfield 315, 3) := by decide +kernel
theorem dX9_changed_5 : decode mX9_changed.2.1 5 = .ok (.aload_n 0, 1) := by decide +kernel
theorem dX9_changed_6 : decode mX9_changed.2.1 6 = .ok (.getfield 28, 3) := by decide +kernel
theorem dX9_changed_9 : decode mX9_changed.2.1 9 = .ok (.invokevirtual 353, 3) := by decide +kernel
theorem dX9_changed_12 : decode mX9_changed.2.1 12 = .ok (.return_, 1) := by decide +kernel
theorem dX6_vanish_0 : decode mX6_vanish.2.1 0 = .ok (.aload_n 0, 1) := by decide +kernel
theorem dX6_vanish_1 : decode mX6_vanish.2.1 1 = .ok (.iconst (-1), 1) := by decide +kernel
theorem dX6_vanish_2 : decode mX6_vanish.2.1 2 = .ok (.putfield 21, 3) := by decide +kernel
theorem dX6_vanish_5 : decode mX6_vanish.2.1 5 = .ok (.return_, 1) := by decide +kernel
theorem dX9_text_0 : decode mX9_text.2.1 0 = .ok (.aload_n 0, 1) := by decide +kernel
theorem dX9_text_1 : decode mX9_text.2.1 1 = .ok (.getfield 21, 3) := by decide +kernel
theorem dX9_text_4 : decode mX9_text.2.1 4 = .ok (.invokevirtual 87, 3) := by decide +kernel
theorem dX9_text_7 : decode mX9_text.2.1 7 = .ok (.istore_n 1, 1) := by decide +kernel
theorem dX9_text_8 : decode mX9_text.2.1 8 = .ok (.aload_n 0, 1) := by decide +kernel
theorem dX9_text_9 : decode mX9_text.2.1 9 = .ok (.getfield 21, 3) := by decide +kernel
theorem dX9_text_12 : decode mX9_text.2.1 12 = .ok (.iconst 0, 1) := by decide +kernel
theorem dX9_text_13 : decode mX9_text.2.1 13 = .ok (.putfield 83, 3) := by decide +kernel
theorem dX9_text_16 : decode mX9_text.2.1 16 = .ok (.aload_n 0, 1) := by decide +kernel
theorem dX9_text_17 : decode mX9_text.2.1 17 = .ok (.aload_n 0, 1) := by decide +kernel
theorem dX9_text_18 : decode mX9_text.2.1 18 = .ok (.getfield 21, 3) := by decide +kernel
theorem dX9_text_21 : decode mX9_text.2.1 21 = .ok (.getfield 91, 3) := by decide +kernel
theorem dX9_text_24 : decode mX9_text.2.1 24 = .ok (.putfield 94, 3) := by decide +kernel
theorem dX9_text_27 : decode mX9_text.2.1 27 = .ok (.aload_n 0, 1) := by decide +kernel
theorem dX9_text_28 : decode mX9_text.2.1 28 = .ok (.getfield 94, 3) := by decide +kernel
theorem dX9_text_31 : decode mX9_text.2.1 31 = .ok (.ifCond .eq 14, 3) := by decide +kernel
theorem dX9_text_34 : decode mX9_text.2.1 34 = .ok (.bipush (-10), 2) := by decide +kernel
theorem dX9_text_36 : decode mX9_text.2.1 36 = .ok (.aload_n 0, 1) := by decide +kernel
theorem dX9_text_37 : decode mX9_text.2.1 37 = .ok (.getfield 21, 3) := by decide +kernel
theorem dX9_text_40 : decode mX9_text.2.1 40 = .ok (.getfield 97, 3) := by decide +kernel
theorem dX9_text_43 : decode mX9_text.2.1 43 = .ok (.isub, 1) := by decide +kernel
theorem dX9_text_44 : decode mX9_text.2.1 44 = .ok (.ireturn, 1) := by decide +kernel
theorem dX9_text_45 : decode mX9_text.2.1 45 = .ok (.aload_n 0, 1) := by decide +kernel
theorem dX9_text_46 : decode mX9_text.2.1 46 = .ok (.getfield 10, 3) := by decide +kernel
theorem dX9_text_49 : decode mX9_text.2.1 49 = .ok (.aload_n 0, 1) := by decide +kernel
theorem dX9_text_50 : decode mX9_text.2.1 50 = .ok (.getfield 21, 3) := by decide +kernel
theorem dX9_text_53 : decode mX9_text.2.1 53 = .ok (.getfield 100, 3) := by decide +kernel
theorem dX9_text_56 : decode mX9_text.2.1 56 = .ok (.aload_n 0, 1) := by decide +kernel
theorem dX9_text_57 : decode mX9_text.2.1 57 = .ok (.getfield 21, 3) := by decide +kernel
theorem dX9_text_60 : decode mX9_text.2.1 60 = .ok (.getfield 103, 3) := by decide +kernel
theorem dX9_text_63 : decode mX9_text.2.1 63 = .ok (.invokevirtual 106, 3) := by decide +kernel
theorem dX9_text_66 : decode mX9_text.2.1 66 = .ok (.aload_n 0, 1) := by decide +kernel
theorem dX9_text_67 : decode mX9_text.2.1 67 = .ok (.getfield 21, 3) := by decide +kernel
theorem dX9_text_70 : decode mX9_text.2.1 70 = .ok (.aload_n 0, 1) := by decide +kernel
theorem dX9_text_71 : decode mX9_text.2.1 71 = .ok (.getfield 28, 3) := by decide +kernel
theorem dX9_text_74 : decode mX9_text.2.1 74 = .ok (.getfield 110, 3) := by decide +kernel
theorem dX9_text_77 : decode mX9_text.2.1 77 = .ok (.invokevirtual 113, 3) := by decide +kernel
theorem dX9_text_80 : decode mX9_text.2.1 80 = .ok (.aload_n 0, 1) := by decide +kernel
theorem dX9_text_81 : decode mX9_text.2.1 81 = .ok (.invokevirtual 117, 3) := by decide +kernel
theorem dX9_text_84 : decode mX9_text.2.1 84 = .ok (.aload_n 0, 1) := by decide +kernel
theorem dX9_text_85 : decode mX9_text.2.1 85 = .ok (.iconst 0, 1) := by decide +kernel
theorem dX9_text_86 : decode mX9_text.2.1 86 = .ok (.putfield 120, 3) := by decide +kernel
theorem dX9_text_89 : decode mX9_text.2.1 89 = .ok (.aload_n 0, 1) := by decide +kernel
theorem dX9_text_90 : decode mX9_text.2.1 90 = .ok (.iconst 0, 1) := by decide +kernel
theorem dX9_text_91 : decode mX9_text.2.1 91 = .ok (.putfield 123, 3) := by decide +kernel
theorem dX9_text_94 : decode mX9_text.2.1 94 = .ok (.iconst 0, 1) := by decide +kernel
theorem dX9_text_95 : decode mX9_text.2.1 95 = .ok (.istore_n 2, 1) := by decide +kernel
theorem dX9_text_96 : decode mX9_text.2.1 96 = .ok (.iload_n 2, 1) := by decide +kernel
theorem dX9_text_97 : decode mX9_text.2.1 97 = .ok (.iconst 2, 1) := by decide +kernel
theorem dX9_text_98 : decode mX9_text.2.1 98 = .ok (.if_icmp .ge 16, 3) := by decide +kernel
theorem dX9_text_101 : decode mX9_text.2.1 101 = .ok (.aload_n 0, 1) := by decide +kernel
theorem dX9_text_102 : decode mX9_text.2.1 102 = .ok (.getfield 36, 3) := by decide +kernel
theorem dX9_text_105 : decode mX9_text.2.1 105 = .ok (.iload_n 2, 1) := by decide +kernel
theorem dX9_text_106 : decode mX9_text.2.1 106 = .ok (.iconst 0, 1) := by decide +kernel
theorem dX9_text_107 : decode mX9_text.2.1 107 = .ok (.bastore, 1) := by decide +kernel
theorem dX9_text_108 : decode mX9_text.2.1 108 = .ok (.iinc 2 1, 3) := by decide +kernel
theorem dX9_text_111 : decode mX9_text.2.1 111 = .ok (.goto (-15), 3) := by decide +kernel
theorem dX9_text_114 : decode mX9_text.2.1 114 = .ok (.iconst 0, 1) := by decide +kernel
theorem dX9_text_115 : decode mX9_text.2.1 115 = .ok (.istore_n 2, 1) := by decide +kernel
theorem dX9_text_116 : decode mX9_text.2.1 116 = .ok (.iload_n 2, 1) := by decide +kernel
theorem dX9_text_117 : decode mX9_text.2.1 117 = .ok (.iconst 3, 1) := by decide +kernel
theorem dX9_text_118 : decode mX9_text.2.1 118 = .ok (.if_icmp .ge 18, 3) := by decide +kernel
theorem dX9_text_121 : decode mX9_text.2.1 121 = .ok (.aload_n 0, 1) := by decide +kernel
theorem dX9_text_122 : decode mX9_text.2.1 122 = .ok (.getfield 42, 3) := by decide +kernel
theorem dX9_text_125 : decode mX9_text.2.1 125 = .ok (.iload_n 2, 1) := by decide +kernel
theorem dX9_text_126 : decode mX9_text.2.1 126 = .ok (.aaload, 1) := by decide +kernel
theorem dX9_text_127 : decode mX9_text.2.1 127 = .ok (.invokevirtual 126, 3) := by decide +kernel
theorem dX9_text_130 : decode mX9_text.2.1 130 = .ok (.iinc 2 1, 3) := by decide +kernel
theorem dX9_text_133 : decode mX9_text.2.1 133 = .ok (.goto (-17), 3) := by decide +kernel
theorem dX9_text_136 : decode mX9_text.2.1 136 = .ok (.iload_n 1, 1) := by decide +kernel
theorem dX9_text_137 : decode mX9_text.2.1 137 = .ok (.ireturn, 1) := by decide +kernel
theorem dX9_fault_0 : decode mX9_fault.2.1 0 = .ok (.aload_n 0, 1) := by decide +kernel
theorem dX9_fault_1 : decode mX9_fault.2.1 1 = .ok (.getfield 94, 3) := by decide +kernel
theorem dX9_fault_4 : decode mX9_fault.2.1 4 = .ok (.ireturn, 1) := by decide +kernel
theorem dX7_clear_0 : decode mX7_clear.2.1 0 = .ok (.aload_n 0, 1) := by decide +kernel
theorem dX7_clear_1 : decode mX7_clear.2.1 1 = .ok (.iload_n 1, 1) := by decide +kernel
theorem dX7_clear_2 : decode mX7_clear.2.1 2 = .ok (.bipush 8, 2) := by decide +kernel
theorem dX7_clear_4 : decode mX7_clear.2.1 4 = .ok (.if_icmp .gt 7, 3) := by decide +kernel
theorem dX7_clear_7 : decode mX7_clear.2.1 7 = .ok (.iload_n 1, 1) := by decide +kernel
theorem dX7_clear_8 : decode mX7_clear.2.1 8 = .ok (.goto 5, 3) := by decide +kernel
theorem dX7_clear_11 : decode mX7_clear.2.1 11 = .ok (.bipush 8, 2) := by decide +kernel
theorem dX7_clear_13 : decode mX7_clear.2.1 13 = .ok (.putfield 33, 3) := by decide +kernel
theorem dX7_clear_16 : decode mX7_clear.2.1 16 = .ok (.aload_n 0, 1) := by decide +kernel
theorem dX7_clear_17 : decode mX7_clear.2.1 17 = .ok (.iconst 0, 1) := by decide +kernel
theorem dX7_clear_18 : decode mX7_clear.2.1 18 = .ok (.putfield 37, 3) := by decide +kernel
theorem dX7_clear_21 : decode mX7_clear.2.1 21 = .ok (.return_, 1) := by decide +kernel
theorem dX0_open_0 : decode mX0_open.2.1 0 = .ok (.aload_n 0, 1) := by decide +kernel
theorem dX0_open_1 : decode mX0_open.2.1 1 = .ok (.aload_n 1, 1) := by decide +kernel
theorem dX0_open_2 : decode mX0_open.2.1 2 = .ok (.putfield 53, 3) := by decide +kernel
theorem dX0_open_5 : decode mX0_open.2.1 5 = .ok (.aload_n 0, 1) := by decide +kernel
theorem dX0_open_6 : decode mX0_open.2.1 6 = .ok (.getfield 41, 3) := by decide +kernel
theorem dX0_open_9 : decode mX0_open.2.1 9 = .ok (.aload_n 0, 1) := by decide +kernel
theorem dX0_open_10 : decode mX0_open.2.1 10 = .ok (.getfield 53, 3) := by decide +kernel
theorem dX0_open_13 : decode mX0_open.2.1 13 = .ok (.getfield 57, 3) := by decide +kernel
theorem dX0_open_16 : decode mX0_open.2.1 16 = .ok (.invokevirtual 61, 3) := by decide +kernel
theorem dX0_open_19 : decode mX0_open.2.1 19 = .ok (.aload_n 0, 1) := by decide +kernel
theorem dX0_open_20 : decode mX0_open.2.1 20 = .ok (.iconst 0, 1) := by decide +kernel
theorem dX0_open_21 : decode mX0_open.2.1 21 = .ok (.putfield 65, 3) := by decide +kernel
theorem dX0_open_24 : decode mX0_open.2.1 24 = .ok (.return_, 1) := by decide +kernel
theorem dX7_combines_0 : decode mX7_combines.2.1 0 = .ok (.aload_n 0, 1) := by decide +kernel
theorem dX7_combines_1 : decode mX7_combines.2.1 1 = .ok (.getfield 29, 3) := by decide +kernel
theorem dX7_combines_4 : decode mX7_combines.2.1 4 = .ok (.getfield 40, 3) := by decide +kernel
theorem dX7_combines_7 : decode mX7_combines.2.1 7 = .ok (.istore_n 2, 1) := by decide +kernel
theorem dX7_combines_8 : decode mX7_combines.2.1 8 = .ok (.aload_n 1, 1) := by decide +kernel
theorem dX7_combines_9 : decode mX7_combines.2.1 9 = .ok (.iconst 0, 1) := by decide +kernel
theorem dX7_combines_10 : decode mX7_combines.2.1 10 = .ok (.aload_n 0, 1) := by decide +kernel
theorem dX7_combines_11 : decode mX7_combines.2.1 11 = .ok (.getfield 23, 3) := by decide +kernel
theorem dX7_combines_14 : decode mX7_combines.2.1 14 = .ok (.iconst 0, 1) := by decide +kernel
theorem dX7_combines_15 : decode mX7_combines.2.1 15 = .ok (.aload_n 0, 1) := by decide +kernel
theorem dX7_combines_16 : decode mX7_combines.2.1 16 = .ok (.getfield 33, 3) := by decide +kernel
theorem dX7_combines_19 : decode mX7_combines.2.1 19 = .ok (.invokestatic 45, 3) := by decide +kernel
theorem dX7_combines_22 : decode mX7_combines.2.1 22 = .ok (.aload_n 0, 1) := by decide +kernel
theorem dX7_combines_23 : decode mX7_combines.2.1 23 = .ok (.getfield 26, 3) := by decide +kernel
theorem dX7_combines_26 : decode mX7_combines.2.1 26 = .ok (.iconst 0, 1) := by decide +kernel
theorem dX7_combines_27 : decode mX7_combines.2.1 27 = .ok (.invokestatic 51, 3) := by decide +kernel
theorem dX7_combines_30 : decode mX7_combines.2.1 30 = .ok (.iconst 0, 1) := by decide +kernel
theorem dX7_combines_31 : decode mX7_combines.2.1 31 = .ok (.istore_n 3, 1) := by decide +kernel
theorem dX7_combines_32 : decode mX7_combines.2.1 32 = .ok (.iload_n 3, 1) := by decide +kernel
theorem dX7_combines_33 : decode mX7_combines.2.1 33 = .ok (.aload_n 0, 1) := by decide +kernel
theorem dX7_combines_34 : decode mX7_combines.2.1 34 = .ok (.getfield 37, 3) := by decide +kernel
theorem dX7_combines_37 : decode mX7_combines.2.1 37 = .ok (.if_icmp .ge 123, 3) := by decide +kernel
theorem dX7_combines_40 : decode mX7_combines.2.1 40 = .ok (.aload_n 0, 1) := by decide +kernel
theorem dX7_combines_41 : decode mX7_combines.2.1 41 = .ok (.getfield 23, 3) := by decide +kernel
theorem dX7_combines_44 : decode mX7_combines.2.1 44 = .ok (.aload_n 0, 1) := by decide +kernel
theorem dX7_combines_45 : decode mX7_combines.2.1 45 = .ok (.getfield 19, 3) := by decide +kernel
theorem dX7_combines_48 : decode mX7_combines.2.1 48 = .ok (.iload_n 3, 1) := by decide +kernel
theorem dX7_combines_49 : decode mX7_combines.2.1 49 = .ok (.iaload, 1) := by decide +kernel
theorem dX7_combines_50 : decode mX7_combines.2.1 50 = .ok (.iaload, 1) := by decide +kernel
theorem dX7_combines_51 : decode mX7_combines.2.1 51 = .ok (.istore 4, 2) := by decide +kernel
theorem dX7_combines_53 : decode mX7_combines.2.1 53 = .ok (.iload 4, 2) := by decide +kernel
theorem dX7_combines_55 : decode mX7_combines.2.1 55 = .ok (.ifCond .ne 6, 3) := by decide +kernel
theorem dX7_combines_58 : decode mX7_combines.2.1 58 = .ok (.goto 96, 3) := by decide +kernel
theorem dX7_combines_61 : decode mX7_combines.2.1 61 = .ok (.iconst 0, 1) := by decide +kernel
theorem dX7_combines_62 : decode mX7_combines.2.1 62 = .ok (.istore 5, 2) := by decide +kernel
theorem dX7_combines_64 : decode mX7_combines.2.1 64 = .ok (.iload 5, 2) := by decide +kernel
theorem dX7_combines_66 : decode mX7_combines.2.1 66 = .ok (.aload_n 0, 1) := by decide +kernel
theorem dX7_combines_67 : decode mX7_combines.2.1 67 = .ok (.getfield 33, 3) := by decide +kernel
theorem dX7_combines_70 : decode mX7_combines.2.1 70 = .ok (.if_icmp .ge 40, 3) := by decide +kernel
theorem dX7_combines_73 : decode mX7_combines.2.1 73 = .ok (.aload_n 0, 1) := by decide +kernel
theorem dX7_combines_74 : decode mX7_combines.2.1 74 = .ok (.getfield 23, 3) := by decide +kernel
theorem dX7_combines_77 : decode mX7_combines.2.1 77 = .ok (.iload 5, 2) := by decide +kernel
theorem dX7_combines_79 : decode mX7_combines.2.1 79 = .ok (.aload_n 0, 1) := by decide +kernel
theorem dX7_combines_80 : decode mX7_combines.2.1 80 = .ok (.getfield 23, 3) := by decide +kernel
theorem dX7_combines_83 : decode mX7_combines.2.1 83 = .ok (.iload 5, 2) := by decide +kernel
theorem dX7_combines_85 : decode mX7_combines.2.1 85 = .ok (.iaload, 1) := by decide +kernel
theorem dX7_combines_86 : decode mX7_combines.2.1 86 = .ok (.iload_n 2, 1) := by decide +kernel
theorem dX7_combines_87 : decode mX7_combines.2.1 87 = .ok (.iload 4, 2) := by decide +kernel
theorem dX7_combines_89 : decode mX7_combines.2.1 89 = .ok (.isub, 1) := by decide +kernel
theorem dX7_combines_90 : decode mX7_combines.2.1 90 = .ok (.aload_n 0, 1) := by decide +kernel
theorem dX7_combines_91 : decode mX7_combines.2.1 91 = .ok (.getfield 13, 3) := by decide +kernel
theorem dX7_combines_94 : decode mX7_combines.2.1 94 = .ok (.iload_n 3, 1) := by decide +kernel
theorem dX7_combines_95 : decode mX7_combines.2.1 95 = .ok (.aaload, 1) := by decide +kernel
theorem dX7_combines_96 : decode mX7_combines.2.1 96 = .ok (.iload 5, 2) := by decide +kernel
theorem dX7_combines_98 : decode mX7_combines.2.1 98 = .ok (.iaload, 1) := by decide +kernel
theorem dX7_combines_99 : decode mX7_combines.2.1 99 = .ok (.imul, 1) := by decide +kernel
theorem dX7_combines_100 : decode mX7_combines.2.1 100 = .ok (.iadd, 1) := by decide +kernel
theorem dX7_combines_101 : decode mX7_combines.2.1 101 = .ok (.iload_n 2, 1) := by decide +kernel
theorem dX7_combines_102 : decode mX7_combines.2.1 102 = .ok (.irem, 1) := by decide +kernel
theorem dX7_combines_103 : decode mX7_combines.2.1 103 = .ok (.iastore, 1) := by decide +kernel
theorem dX7_combines_104 : decode mX7_combines.2.1 104 = .ok (.iinc 5 1, 3) := by decide +kernel
theorem dX7_combines_107 : decode mX7_combines.2.1 107 = .ok (.goto (-43), 3) := by decide +kernel
theorem dX7_combines_110 : decode mX7_combines.2.1 110 = .ok (.iconst 0, 1) := by decide +kernel
theorem dX7_combines_111 : decode mX7_combines.2.1 111 = .ok (.istore 5, 2) := by decide +kernel
theorem dX7_combines_113 : decode mX7_combines.2.1 113 = .ok (.iload 5, 2) := by decide +kernel
theorem dX7_combines_115 : decode mX7_combines.2.1 115 = .ok (.iload_n 3, 1) := by decide +kernel
theorem dX7_combines_116 : decode mX7_combines.2.1 116 = .ok (.if_icmp .gt 38, 3) := by decide +kernel
theorem dX7_combines_119 : decode mX7_combines.2.1 119 = .ok (.aload_n 0, 1) := by decide +kernel
theorem dX7_combines_120 : decode mX7_combines.2.1 120 = .ok (.getfield 26, 3) := by decide +kernel
theorem dX7_combines_123 : decode mX7_combines.2.1 123 = .ok (.iload 5, 2) := by decide +kernel
theorem dX7_combines_125 : decode mX7_combines.2.1 125 = .ok (.aload_n 0, 1) := by decide +kernel
theorem dX7_combines_126 : decode mX7_combines.2.1 126 = .ok (.getfield 26, 3) := by decide +kernel
theorem dX7_combines_129 : decode mX7_combines.2.1 129 = .ok (.iload 5, 2) := by decide +kernel
theorem dX7_combines_131 : decode mX7_combines.2.1 131 = .ok (.iaload, 1) := by decide +kernel
theorem dX7_combines_132 : decode mX7_combines.2.1 132 = .ok (.iload 4, 2) := by decide +kernel
theorem dX7_combines_134 : decode mX7_combines.2.1 134 = .ok (.aload_n 0, 1) := by decide +kernel
theorem dX7_combines_135 : decode mX7_combines.2.1 135 = .ok (.getfield 16, 3) := by decide +kernel
theorem dX7_combines_138 : decode mX7_combines.2.1 138 = .ok (.iload_n 3, 1) := by decide +kernel
theorem dX7_combines_139 : decode mX7_combines.2.1 139 = .ok (.aaload, 1) := by decide +kernel
theorem dX7_combines_140 : decode mX7_combines.2.1 140 = .ok (.iload 5, 2) := by decide +kernel
theorem dX7_combines_142 : decode mX7_combines.2.1 142 = .ok (.iaload, 1) := by decide +kernel
theorem dX7_combines_143 : decode mX7_combines.2.1 143 = .ok (.imul, 1) := by decide +kernel
theorem dX7_combines_144 : decode mX7_combines.2.1 144 = .ok (.iadd, 1) := by decide +kernel
theorem dX7_combines_145 : decode mX7_combines.2.1 145 = .ok (.iload_n 2, 1) := by decide +kernel
theorem dX7_combines_146 : decode mX7_combines.2.1 146 = .ok (.irem, 1) := by decide +kernel
theorem dX7_combines_147 : decode mX7_combines.2.1 147 = .ok (.iastore, 1) := by decide +kernel
theorem dX7_combines_148 : decode mX7_combines.2.1 148 = .ok (.iinc 5 1, 3) := by decide +kernel
theorem dX7_combines_151 : decode mX7_combines.2.1 151 = .ok (.goto (-38), 3) := by decide +kernel
theorem dX7_combines_154 : decode mX7_combines.2.1 154 = .ok (.iinc 3 1, 3) := by decide +kernel
theorem dX7_combines_157 : decode mX7_combines.2.1 157 = .ok (.goto (-125), 3) := by decide +kernel
theorem dX7_combines_160 : decode mX7_combines.2.1 160 = .ok (.iconst 0, 1) := by decide +kernel
theorem dX7_combines_161 : decode mX7_combines.2.1 161 = .ok (.istore_n 3, 1) := by decide +kernel
theorem dX7_combines_162 : decode mX7_combines.2.1 162 = .ok (.iload_n 3, 1) := by decide +kernel
theorem dX7_combines_163 : decode mX7_combines.2.1 163 = .ok (.aload_n 0, 1) := by decide +kernel
theorem dX7_combines_164 : decode mX7_combines.2.1 164 = .ok (.getfield 33, 3) := by decide +kernel
theorem dX7_combines_167 : decode mX7_combines.2.1 167 = .ok (.if_icmp .ge 25, 3) := by decide +kernel
theorem dX7_combines_170 : decode mX7_combines.2.1 170 = .ok (.aload_n 0, 1) := by decide +kernel
theorem dX7_combines_171 : decode mX7_combines.2.1 171 = .ok (.getfield 23, 3) := by decide +kernel
theorem dX7_combines_174 : decode mX7_combines.2.1 174 = .ok (.iload_n 3, 1) := by decide +kernel
theorem dX7_combines_175 : decode mX7_combines.2.1 175 = .ok (.iaload, 1) := by decide +kernel
theorem dX7_combines_176 : decode mX7_combines.2.1 176 = .ok (.ifCond .eq 10, 3) := by decide +kernel
theorem dX7_combines_179 : decode mX7_combines.2.1 179 = .ok (.aload_n 0, 1) := by decide +kernel
theorem dX7_combines_180 : decode mX7_combines.2.1 180 = .ok (.iload_n 3, 1) := by decide +kernel
theorem dX7_combines_181 : decode mX7_combines.2.1 181 = .ok (.putfield 57, 3) := by decide +kernel
theorem dX7_combines_184 : decode mX7_combines.2.1 184 = .ok (.iconst 0, 1) := by decide +kernel
theorem dX7_combines_185 : decode mX7_combines.2.1 185 = .ok (.ireturn, 1) := by decide +kernel
theorem dX7_combines_186 : decode mX7_combines.2.1 186 = .ok (.iinc 3 1, 3) := by decide +kernel
theorem dX7_combines_189 : decode mX7_combines.2.1 189 = .ok (.goto (-27), 3) := by decide +kernel
theorem dX7_combines_192 : decode mX7_combines.2.1 192 = .ok (.iconst 1, 1) := by decide +kernel
theorem dX7_combines_193 : decode mX7_combines.2.1 193 = .ok (.ireturn, 1) := by decide +kernel
theorem dX5_inverse_0 : decode mX5_inverse.2.1 0 = .ok (.iconst 1, 1) := by decide +kernel
theorem dX5_inverse_1 : decode mX5_inverse.2.1 1 = .ok (.istore_n 2, 1) := by decide +kernel
theorem dX5_inverse_2 : decode mX5_inverse.2.1 2 = .ok (.iload_n 2, 1) := by decide +kernel
theorem dX5_inverse_3 : decode mX5_inverse.2.1 3 = .ok (.aload_n 0, 1) := by decide +kernel
theorem dX5_inverse_4 : decode mX5_inverse.2.1 4 = .ok (.getfield 11, 3) := by decide +kernel
theorem dX5_inverse_7 : decode mX5_inverse.2.1 7 = .ok (.if_icmp .ge 23, 3) := by decide +kernel
theorem dX5_inverse_10 : decode mX5_inverse.2.1 10 = .ok (.iload_n 1, 1) := by decide +kernel
theorem dX5_inverse_11 : decode mX5_inverse.2.1 11 = .ok (.iload_n 2, 1) := by decide +kernel
theorem dX5_inverse_12 : decode mX5_inverse.2.1 12 = .ok (.imul, 1) := by decide +kernel
theorem dX5_inverse_13 : decode mX5_inverse.2.1 13 = .ok (.aload_n 0, 1) := by decide +kernel
theorem dX5_inverse_14 : decode mX5_inverse.2.1 14 = .ok (.getfield 11, 3) := by decide +kernel
theorem dX5_inverse_17 : decode mX5_inverse.2.1 17 = .ok (.irem, 1) := by decide +kernel
theorem dX5_inverse_18 : decode mX5_inverse.2.1 18 = .ok (.iconst 1, 1) := by decide +kernel
theorem dX5_inverse_19 : decode mX5_inverse.2.1 19 = .ok (.if_icmp .ne 5, 3) := by decide +kernel
theorem dX5_inverse_22 : decode mX5_inverse.2.1 22 = .ok (.iload_n 2, 1) := by decide +kernel
theorem dX5_inverse_23 : decode mX5_inverse.2.1 23 = .ok (.ireturn, 1) := by decide +kernel
theorem dX5_inverse_24 : decode mX5_inverse.2.1 24 = .ok (.iinc 2 1, 3) := by decide +kernel
theorem dX5_inverse_27 : decode mX5_inverse.2.1 27 = .ok (.goto (-25), 3) := by decide +kernel
theorem dX5_inverse_30 : decode mX5_inverse.2.1 30 = .ok (.iconst 0, 1) := by decide +kernel
theorem dX5_inverse_31 : decode mX5_inverse.2.1 31 = .ok (.ireturn, 1) := by decide +kernel
theorem dX7_admit_0 : decode mX7_admit.2.1 0 = .ok (.aload_n 0, 1) := by decide +kernel
theorem dX7_admit_1 : decode mX7_admit.2.1 1 = .ok (.aload_n 1, 1) := by decide +kernel
theorem dX7_admit_2 : decode mX7_admit.2.1 2 = .ok (.invokevirtual 60, 3) := by decide +kernel
theorem dX7_admit_5 : decode mX7_admit.2.1 5 = .ok (.ifCond .ne 12, 3) := by decide +kernel
theorem dX7_admit_8 : decode mX7_admit.2.1 8 = .ok (.aload_n 0, 1) := by decide +kernel
theorem dX7_admit_9 : decode mX7_admit.2.1 9 = .ok (.getfield 37, 3) := by decide +kernel
theorem dX7_admit_12 : decode mX7_admit.2.1 12 = .ok (.bipush 8, 2) := by decide +kernel
theorem dX7_admit_14 : decode mX7_admit.2.1 14 = .ok (.if_icmp .lt 5, 3) := by decide +kernel
theorem dX7_admit_17 : decode mX7_admit.2.1 17 = .ok (.iconst 0, 1) := by decide +kernel
theorem dX7_admit_18 : decode mX7_admit.2.1 18 = .ok (.ireturn, 1) := by decide +kernel
theorem dX7_admit_19 : decode mX7_admit.2.1 19 = .ok (.aload_n 0, 1) := by decide +kernel
theorem dX7_admit_20 : decode mX7_admit.2.1 20 = .ok (.getfield 29, 3) := by decide +kernel
theorem dX7_admit_23 : decode mX7_admit.2.1 23 = .ok (.getfield 40, 3) := by decide +kernel
theorem dX7_admit_26 : decode mX7_admit.2.1 26 = .ok (.istore_n 2, 1) := by decide +kernel
theorem dX7_admit_27 : decode mX7_admit.2.1 27 = .ok (.aload_n 0, 1) := by decide +kernel
theorem dX7_admit_28 : decode mX7_admit.2.1 28 = .ok (.getfield 29, 3) := by decide +kernel
theorem dX7_admit_31 : decode mX7_admit.2.1 31 = .ok (.aload_n 0, 1) := by decide +kernel
theorem dX7_admit_32 : decode mX7_admit.2.1 32 = .ok (.getfield 23, 3) := by decide +kernel
theorem dX7_admit_35 : decode mX7_admit.2.1 35 = .ok (.aload_n 0, 1) := by decide +kernel
theorem dX7_admit_36 : decode mX7_admit.2.1 36 = .ok (.getfield 57, 3) := by decide +kernel
theorem dX7_admit_39 : decode mX7_admit.2.1 39 = .ok (.iaload, 1) := by decide +kernel
theorem dX7_admit_40 : decode mX7_admit.2.1 40 = .ok (.invokevirtual 64, 3) := by decide +kernel
theorem dX7_admit_43 : decode mX7_admit.2.1 43 = .ok (.istore_n 3, 1) := by decide +kernel
theorem dX7_admit_44 : decode mX7_admit.2.1 44 = .ok (.aload_n 0, 1) := by decide +kernel
theorem dX7_admit_45 : decode mX7_admit.2.1 45 = .ok (.getfield 19, 3) := by decide +kernel
theorem dX7_admit_48 : decode mX7_admit.2.1 48 = .ok (.aload_n 0, 1) := by decide +kernel
theorem dX7_admit_49 : decode mX7_admit.2.1 49 = .ok (.getfield 37, 3) := by decide +kernel
theorem dX7_admit_52 : decode mX7_admit.2.1 52 = .ok (.aload_n 0, 1) := by decide +kernel
theorem dX7_admit_53 : decode mX7_admit.2.1 53 = .ok (.getfield 57, 3) := by decide +kernel
theorem dX7_admit_56 : decode mX7_admit.2.1 56 = .ok (.iastore, 1) := by decide +kernel
theorem dX7_admit_57 : decode mX7_admit.2.1 57 = .ok (.iconst 0, 1) := by decide +kernel
theorem dX7_admit_58 : decode mX7_admit.2.1 58 = .ok (.istore 4, 2) := by decide +kernel
theorem dX7_admit_60 : decode mX7_admit.2.1 60 = .ok (.iload 4, 2) := by decide +kernel
theorem dX7_admit_62 : decode mX7_admit.2.1 62 = .ok (.aload_n 0, 1) := by decide +kernel
theorem dX7_admit_63 : decode mX7_admit.2.1 63 = .ok (.getfield 33, 3) := by decide +kernel
theorem dX7_admit_66 : decode mX7_admit.2.1 66 = .ok (.if_icmp .ge 32, 3) := by decide +kernel
theorem dX7_admit_69 : decode mX7_admit.2.1 69 = .ok (.aload_n 0, 1) := by decide +kernel
theorem dX7_admit_70 : decode mX7_admit.2.1 70 = .ok (.getfield 13, 3) := by decide +kernel
theorem dX7_admit_73 : decode mX7_admit.2.1 73 = .ok (.aload_n 0, 1) := by decide +kernel
theorem dX7_admit_74 : decode mX7_admit.2.1 74 = .ok (.getfield 37, 3) := by decide +kernel
theorem dX7_admit_77 : decode mX7_admit.2.1 77 = .ok (.aaload, 1) := by decide +kernel
theorem dX7_admit_78 : decode mX7_admit.2.1 78 = .ok (.iload 4, 2) := by decide +kernel
theorem dX7_admit_80 : decode mX7_admit.2.1 80 = .ok (.aload_n 0, 1) := by decide +kernel
theorem dX7_admit_81 : decode mX7_admit.2.1 81 = .ok (.getfield 23, 3) := by decide +kernel
theorem dX7_admit_84 : decode mX7_admit.2.1 84 = .ok (.iload 4, 2) := by decide +kernel
theorem dX7_admit_86 : decode mX7_admit.2.1 86 = .ok (.iaload, 1) := by decide +kernel
theorem dX7_admit_87 : decode mX7_admit.2.1 87 = .ok (.iload_n 3, 1) := by decide +kernel
theorem dX7_admit_88 : decode mX7_admit.2.1 88 = .ok (.imul, 1) := by decide +kernel
theorem dX7_admit_89 : decode mX7_admit.2.1 89 = .ok (.iload_n 2, 1) := by decide +kernel
theorem dX7_admit_90 : decode mX7_admit.2.1 90 = .ok (.irem, 1) := by decide +kernel
theorem dX7_admit_91 : decode mX7_admit.2.1 91 = .ok (.iastore, 1) := by decide +kernel
theorem dX7_admit_92 : decode mX7_admit.2.1 92 = .ok (.iinc 4 1, 3) := by decide +kernel
theorem dX7_admit_95 : decode mX7_admit.2.1 95 = .ok (.goto (-35), 3) := by decide +kernel
theorem dX7_admit_98 : decode mX7_admit.2.1 98 = .ok (.iconst 0, 1) := by decide +kernel
theorem dX7_admit_99 : decode mX7_admit.2.1 99 = .ok (.istore 4, 2) := by decide +kernel
theorem dX7_admit_101 : decode mX7_admit.2.1 101 = .ok (.iload 4, 2) := by decide +kernel
theorem dX7_admit_103 : decode mX7_admit.2.1 103 = .ok (.aload_n 0, 1) := by decide +kernel
theorem dX7_admit_104 : decode mX7_admit.2.1 104 = .ok (.getfield 37, 3) := by decide +kernel
theorem dX7_admit_107 : decode mX7_admit.2.1 107 = .ok (.if_icmp .ge 34, 3) := by decide +kernel
theorem dX7_admit_110 : decode mX7_admit.2.1 110 = .ok (.aload_n 0, 1) := by decide +kernel
theorem dX7_admit_111 : decode mX7_admit.2.1 111 = .ok (.getfield 16, 3) := by decide +kernel
theorem dX7_admit_114 : decode mX7_admit.2.1 114 = .ok (.aload_n 0, 1) := by decide +kernel
theorem dX7_admit_115 : decode mX7_admit.2.1 115 = .ok (.getfield 37, 3) := by decide +kernel
theorem dX7_admit_118 : decode mX7_admit.2.1 118 = .ok (.aaload, 1) := by decide +kernel
theorem dX7_admit_119 : decode mX7_admit.2.1 119 = .ok (.iload 4, 2) := by decide +kernel
theorem dX7_admit_121 : decode mX7_admit.2.1 121 = .ok (.iload_n 2, 1) := by decide +kernel
theorem dX7_admit_122 : decode mX7_admit.2.1 122 = .ok (.aload_n 0, 1) := by decide +kernel
theorem dX7_admit_123 : decode mX7_admit.2.1 123 = .ok (.getfield 26, 3) := by decide +kernel
theorem dX7_admit_126 : decode mX7_admit.2.1 126 = .ok (.iload 4, 2) := by decide +kernel
theorem dX7_admit_128 : decode mX7_admit.2.1 128 = .ok (.iaload, 1) := by decide +kernel
theorem dX7_admit_129 : decode mX7_admit.2.1 129 = .ok (.isub, 1) := by decide +kernel
theorem dX7_admit_130 : decode mX7_admit.2.1 130 = .ok (.iload_n 3, 1) := by decide +kernel
theorem dX7_admit_131 : decode mX7_admit.2.1 131 = .ok (.imul, 1) := by decide +kernel
theorem dX7_admit_132 : decode mX7_admit.2.1 132 = .ok (.iload_n 2, 1) := by decide +kernel
theorem dX7_admit_133 : decode mX7_admit.2.1 133 = .ok (.irem, 1) := by decide +kernel
theorem dX7_admit_134 : decode mX7_admit.2.1 134 = .ok (.iastore, 1) := by decide +kernel
theorem dX7_admit_135 : decode mX7_admit.2.1 135 = .ok (.iinc 4 1, 3) := by decide +kernel
theorem dX7_admit_138 : decode mX7_admit.2.1 138 = .ok (.goto (-37), 3) := by decide +kernel
theorem dX7_admit_141 : decode mX7_admit.2.1 141 = .ok (.aload_n 0, 1) := by decide +kernel
theorem dX7_admit_142 : decode mX7_admit.2.1 142 = .ok (.getfield 16, 3) := by decide +kernel
theorem dX7_admit_145 : decode mX7_admit.2.1 145 = .ok (.aload_n 0, 1) := by decide +kernel
theorem dX7_admit_146 : decode mX7_admit.2.1 146 = .ok (.getfield 37, 3) := by decide +kernel
theorem dX7_admit_149 : decode mX7_admit.2.1 149 = .ok (.aaload, 1) := by decide +kernel
theorem dX7_admit_150 : decode mX7_admit.2.1 150 = .ok (.aload_n 0, 1) := by decide +kernel
theorem dX7_admit_151 : decode mX7_admit.2.1 151 = .ok (.getfield 37, 3) := by decide +kernel
theorem dX7_admit_154 : decode mX7_admit.2.1 154 = .ok (.iload_n 3, 1) := by decide +kernel
theorem dX7_admit_155 : decode mX7_admit.2.1 155 = .ok (.iastore, 1) := by decide +kernel
theorem dX7_admit_156 : decode mX7_admit.2.1 156 = .ok (.aload_n 0, 1) := by decide +kernel
theorem dX7_admit_157 : decode mX7_admit.2.1 157 = .ok (.dup, 1) := by decide +kernel
theorem dX7_admit_158 : decode mX7_admit.2.1 158 = .ok (.getfield 37, 3) := by decide +kernel
theorem dX7_admit_161 : decode mX7_admit.2.1 161 = .ok (.iconst 1, 1) := by decide +kernel
theorem dX7_admit_162 : decode mX7_admit.2.1 162 = .ok (.iadd, 1) := by decide +kernel
theorem dX7_admit_163 : decode mX7_admit.2.1 163 = .ok (.putfield 37, 3) := by decide +kernel
theorem dX7_admit_166 : decode mX7_admit.2.1 166 = .ok (.iconst 1, 1) := by decide +kernel
theorem dX7_admit_167 : decode mX7_admit.2.1 167 = .ok (.ireturn, 1) := by decide +kernel
theorem dX3_backward_0 : decode mX3_backward.2.1 0 = .ok (.iconst 0, 1) := by decide +kernel
theorem dX3_backward_1 : decode mX3_backward.2.1 1 = .ok (.istore 4, 2) := by decide +kernel
theorem dX3_backward_3 : decode mX3_backward.2.1 3 = .ok (.iload 4, 2) := by decide +kernel
theorem dX3_backward_5 : decode mX3_backward.2.1 5 = .ok (.aload_n 0, 1) := by decide +kernel
theorem dX3_backward_6 : decode mX3_backward.2.1 6 = .ok (.getfield 31, 3) := by decide +kernel
theorem dX3_backward_9 : decode mX3_backward.2.1 9 = .ok (.if_icmp .ge 74, 3) := by decide +kernel
theorem dX3_backward_12 : decode mX3_backward.2.1 12 = .ok (.iconst 0, 1) := by decide +kernel
theorem dX3_backward_13 : decode mX3_backward.2.1 13 = .ok (.istore 5, 2) := by decide +kernel
theorem dX3_backward_15 : decode mX3_backward.2.1 15 = .ok (.aload_n 0, 1) := by decide +kernel
theorem dX3_backward_16 : decode mX3_backward.2.1 16 = .ok (.iload 4, 2) := by decide +kernel
theorem dX3_backward_18 : decode mX3_backward.2.1 18 = .ok (.iload_n 2, 1) := by decide +kernel
theorem dX3_backward_19 : decode mX3_backward.2.1 19 = .ok (.iconst 0, 1) := by decide +kernel
theorem dX3_backward_20 : decode mX3_backward.2.1 20 = .ok (.invokevirtual 56, 3) := by decide +kernel
theorem dX3_backward_23 : decode mX3_backward.2.1 23 = .ok (.istore 6, 2) := by decide +kernel
theorem dX3_backward_25 : decode mX3_backward.2.1 25 = .ok (.iconst 0, 1) := by decide +kernel
theorem dX3_backward_26 : decode mX3_backward.2.1 26 = .ok (.istore 7, 2) := by decide +kernel
theorem dX3_backward_28 : decode mX3_backward.2.1 28 = .ok (.iload 7, 2) := by decide +kernel
theorem dX3_backward_30 : decode mX3_backward.2.1 30 = .ok (.aload_n 0, 1) := by decide +kernel
theorem dX3_backward_31 : decode mX3_backward.2.1 31 = .ok (.getfield 31, 3) := by decide +kernel
theorem dX3_backward_34 : decode mX3_backward.2.1 34 = .ok (.if_icmp .ge 29, 3) := by decide +kernel
theorem dX3_backward_37 : decode mX3_backward.2.1 37 = .ok (.iload 5, 2) := by decide +kernel
theorem dX3_backward_39 : decode mX3_backward.2.1 39 = .ok (.aload_n 0, 1) := by decide +kernel
theorem dX3_backward_40 : decode mX3_backward.2.1 40 = .ok (.getfield 28, 3) := by decide +kernel
theorem dX3_backward_43 : decode mX3_backward.2.1 43 = .ok (.iload 6, 2) := by decide +kernel
theorem dX3_backward_45 : decode mX3_backward.2.1 45 = .ok (.iload 7, 2) := by decide +kernel
theorem dX3_backward_47 : decode mX3_backward.2.1 47 = .ok (.iadd, 1) := by decide +kernel
theorem dX3_backward_48 : decode mX3_backward.2.1 48 = .ok (.iaload, 1) := by decide +kernel
theorem dX3_backward_49 : decode mX3_backward.2.1 49 = .ok (.aload_n 1, 1) := by decide +kernel
theorem dX3_backward_50 : decode mX3_backward.2.1 50 = .ok (.iload 7, 2) := by decide +kernel
theorem dX3_backward_52 : decode mX3_backward.2.1 52 = .ok (.iaload, 1) := by decide +kernel
theorem dX3_backward_53 : decode mX3_backward.2.1 53 = .ok (.imul, 1) := by decide +kernel
theorem dX3_backward_54 : decode mX3_backward.2.1 54 = .ok (.iadd, 1) := by decide +kernel
theorem dX3_backward_55 : decode mX3_backward.2.1 55 = .ok (.istore 5, 2) := by decide +kernel
theorem dX3_backward_57 : decode mX3_backward.2.1 57 = .ok (.iinc 7 1, 3) := by decide +kernel
theorem dX3_backward_60 : decode mX3_backward.2.1 60 = .ok (.goto (-32), 3) := by decide +kernel
theorem dX3_backward_63 : decode mX3_backward.2.1 63 = .ok (.aload_n 3, 1) := by decide +kernel
theorem dX3_backward_64 : decode mX3_backward.2.1 64 = .ok (.iload 4, 2) := by decide +kernel
theorem dX3_backward_66 : decode mX3_backward.2.1 66 = .ok (.iload 5, 2) := by decide +kernel
theorem dX3_backward_68 : decode mX3_backward.2.1 68 = .ok (.aload_n 0, 1) := by decide +kernel
theorem dX3_backward_69 : decode mX3_backward.2.1 69 = .ok (.getfield 9, 3) := by decide +kernel
theorem dX3_backward_72 : decode mX3_backward.2.1 72 = .ok (.getfield 48, 3) := by decide +kernel
theorem dX3_backward_75 : decode mX3_backward.2.1 75 = .ok (.irem, 1) := by decide +kernel
theorem dX3_backward_76 : decode mX3_backward.2.1 76 = .ok (.iastore, 1) := by decide +kernel
theorem dX3_backward_77 : decode mX3_backward.2.1 77 = .ok (.iinc 4 1, 3) := by decide +kernel
theorem dX3_backward_80 : decode mX3_backward.2.1 80 = .ok (.goto (-77), 3) := by decide +kernel
theorem dX3_backward_83 : decode mX3_backward.2.1 83 = .ok (.return_, 1) := by decide +kernel
theorem dX0_shut_0 : decode mX0_shut.2.1 0 = .ok (.aload_n 0, 1) := by decide +kernel
theorem dX0_shut_1 : decode mX0_shut.2.1 1 = .ok (.getfield 45, 3) := by decide +kernel
theorem dX0_shut_4 : decode mX0_shut.2.1 4 = .ok (.aload_n 0, 1) := by decide +kernel
theorem dX0_shut_5 : decode mX0_shut.2.1 5 = .ok (.getfield 41, 3) := by decide +kernel
theorem dX0_shut_8 : decode mX0_shut.2.1 8 = .ok (.getfield 68, 3) := by decide +kernel
theorem dX0_shut_11 : decode mX0_shut.2.1 11 = .ok (.invokevirtual 61, 3) := by decide +kernel
theorem dX0_shut_14 : decode mX0_shut.2.1 14 = .ok (.return_, 1) := by decide +kernel
theorem dX0_seeAllEndings_0 : decode mX0_seeAllEndings.2.1 0 = .ok (.aload_n 0, 1) := by decide +kernel
theorem dX0_seeAllEndings_1 : decode mX0_seeAllEndings.2.1 1 = .ok (.aload_n 1, 1) := by decide +kernel
theorem dX0_seeAllEndings_2 : decode mX0_seeAllEndings.2.1 2 = .ok (.invokevirtual 77, 3) := by decide +kernel
theorem dX0_seeAllEndings_5 : decode mX0_seeAllEndings.2.1 5 = .ok (.aload_n 0, 1) := by decide +kernel
theorem dX0_seeAllEndings_6 : decode mX0_seeAllEndings.2.1 6 = .ok (.getfield 41, 3) := by decide +kernel
theorem dX0_seeAllEndings_9 : decode mX0_seeAllEndings.2.1 9 = .ok (.aload_n 0, 1) := by decide +kernel
theorem dX0_seeAllEndings_10 : decode mX0_seeAllEndings.2.1 10 = .ok (.getfield 53, 3) := by decide +kernel
theorem dX0_seeAllEndings_13 : decode mX0_seeAllEndings.2.1 13 = .ok (.getfield 81, 3) := by decide +kernel
theorem dX0_seeAllEndings_16 : decode mX0_seeAllEndings.2.1 16 = .ok (.invokevirtual 73, 3) := by decide +kernel
theorem dX0_seeAllEndings_19 : decode mX0_seeAllEndings.2.1 19 = .ok (.pop, 1) := by decide +kernel
theorem dX0_seeAllEndings_20 : decode mX0_seeAllEndings.2.1 20 = .ok (.iconst 0, 1) := by decide +kernel
theorem dX0_seeAllEndings_21 : decode mX0_seeAllEndings.2.1 21 = .ok (.istore_n 2, 1) := by decide +kernel
theorem dX0_seeAllEndings_22 : decode mX0_seeAllEndings.2.1 22 = .ok (.iload_n 2, 1) := by decide +kernel
theorem dX0_seeAllEndings_23 : decode mX0_seeAllEndings.2.1 23 = .ok (.aload_n 0, 1) := by decide +kernel
theorem dX0_seeAllEndings_24 : decode mX0_seeAllEndings.2.1 24 = .ok (.getfield 41, 3) := by decide +kernel
theorem dX0_seeAllEndings_27 : decode mX0_seeAllEndings.2.1 27 = .ok (.getfield 68, 3) := by decide +kernel
theorem dX0_seeAllEndings_30 : decode mX0_seeAllEndings.2.1 30 = .ok (.if_icmp .ge 67, 3) := by decide +kernel
theorem dX0_seeAllEndings_33 : decode mX0_seeAllEndings.2.1 33 = .ok (.iload_n 2, 1) := by decide +kernel
theorem dX0_seeAllEndings_34 : decode mX0_seeAllEndings.2.1 34 = .ok (.bipush 8, 2) := by decide +kernel
theorem dX0_seeAllEndings_36 : decode mX0_seeAllEndings.2.1 36 = .ok (.if_icmp .ge 61, 3) := by decide +kernel
theorem dX0_seeAllEndings_39 : decode mX0_seeAllEndings.2.1 39 = .ok (.iconst 0, 1) := by decide +kernel
theorem dX0_seeAllEndings_40 : decode mX0_seeAllEndings.2.1 40 = .ok (.istore_n 3, 1) := by decide +kernel
theorem dX0_seeAllEndings_41 : decode mX0_seeAllEndings.2.1 41 = .ok (.iload_n 3, 1) := by decide +kernel
theorem dX0_seeAllEndings_42 : decode mX0_seeAllEndings.2.1 42 = .ok (.aload_n 0, 1) := by decide +kernel
theorem dX0_seeAllEndings_43 : decode mX0_seeAllEndings.2.1 43 = .ok (.getfield 34, 3) := by decide +kernel
theorem dX0_seeAllEndings_46 : decode mX0_seeAllEndings.2.1 46 = .ok (.getfield 84, 3) := by decide +kernel
theorem dX0_seeAllEndings_49 : decode mX0_seeAllEndings.2.1 49 = .ok (.if_icmp .ge 42, 3) := by decide +kernel
theorem dX0_seeAllEndings_52 : decode mX0_seeAllEndings.2.1 52 = .ok (.aload_n 0, 1) := by decide +kernel
theorem dX0_seeAllEndings_53 : decode mX0_seeAllEndings.2.1 53 = .ok (.getfield 53, 3) := by decide +kernel
theorem dX0_seeAllEndings_56 : decode mX0_seeAllEndings.2.1 56 = .ok (.aload_n 0, 1) := by decide +kernel
theorem dX0_seeAllEndings_57 : decode mX0_seeAllEndings.2.1 57 = .ok (.getfield 41, 3) := by decide +kernel
theorem dX0_seeAllEndings_60 : decode mX0_seeAllEndings.2.1 60 = .ok (.getfield 88, 3) := by decide +kernel
theorem dX0_seeAllEndings_63 : decode mX0_seeAllEndings.2.1 63 = .ok (.iload_n 2, 1) := by decide +kernel
theorem dX0_seeAllEndings_64 : decode mX0_seeAllEndings.2.1 64 = .ok (.aaload, 1) := by decide +kernel
theorem dX0_seeAllEndings_65 : decode mX0_seeAllEndings.2.1 65 = .ok (.iload_n 3, 1) := by decide +kernel
theorem dX0_seeAllEndings_66 : decode mX0_seeAllEndings.2.1 66 = .ok (.aload_n 0, 1) := by decide +kernel
theorem dX0_seeAllEndings_67 : decode mX0_seeAllEndings.2.1 67 = .ok (.getfield 31, 3) := by decide +kernel
theorem dX0_seeAllEndings_70 : decode mX0_seeAllEndings.2.1 70 = .ok (.invokevirtual 91, 3) := by decide +kernel
theorem dX0_seeAllEndings_73 : decode mX0_seeAllEndings.2.1 73 = .ok (.aload_n 0, 1) := by decide +kernel
theorem dX0_seeAllEndings_74 : decode mX0_seeAllEndings.2.1 74 = .ok (.getfield 41, 3) := by decide +kernel
theorem dX0_seeAllEndings_77 : decode mX0_seeAllEndings.2.1 77 = .ok (.aload_n 0, 1) := by decide +kernel
theorem dX0_seeAllEndings_78 : decode mX0_seeAllEndings.2.1 78 = .ok (.getfield 31, 3) := by decide +kernel
theorem dX0_seeAllEndings_81 : decode mX0_seeAllEndings.2.1 81 = .ok (.invokevirtual 73, 3) := by decide +kernel
theorem dX0_seeAllEndings_84 : decode mX0_seeAllEndings.2.1 84 = .ok (.pop, 1) := by decide +kernel
theorem dX0_seeAllEndings_85 : decode mX0_seeAllEndings.2.1 85 = .ok (.iinc 3 1, 3) := by decide +kernel
theorem dX0_seeAllEndings_88 : decode mX0_seeAllEndings.2.1 88 = .ok (.goto (-47), 3) := by decide +kernel
theorem dX0_seeAllEndings_91 : decode mX0_seeAllEndings.2.1 91 = .ok (.iinc 2 1, 3) := by decide +kernel
theorem dX0_seeAllEndings_94 : decode mX0_seeAllEndings.2.1 94 = .ok (.goto (-72), 3) := by decide +kernel
theorem dX0_seeAllEndings_97 : decode mX0_seeAllEndings.2.1 97 = .ok (.aload_n 0, 1) := by decide +kernel
theorem dX0_seeAllEndings_98 : decode mX0_seeAllEndings.2.1 98 = .ok (.invokevirtual 95, 3) := by decide +kernel
theorem dX0_seeAllEndings_101 : decode mX0_seeAllEndings.2.1 101 = .ok (.return_, 1) := by decide +kernel
theorem dX3_product_0 : decode mX3_product.2.1 0 = .ok (.iconst 0, 1) := by decide +kernel
theorem dX3_product_1 : decode mX3_product.2.1 1 = .ok (.istore_n 3, 1) := by decide +kernel
theorem dX3_product_2 : decode mX3_product.2.1 2 = .ok (.iconst 0, 1) := by decide +kernel
theorem dX3_product_3 : decode mX3_product.2.1 3 = .ok (.istore 4, 2) := by decide +kernel
theorem dX3_product_5 : decode mX3_product.2.1 5 = .ok (.iload 4, 2) := by decide +kernel
theorem dX3_product_7 : decode mX3_product.2.1 7 = .ok (.aload_n 0, 1) := by decide +kernel
theorem dX3_product_8 : decode mX3_product.2.1 8 = .ok (.getfield 31, 3) := by decide +kernel
theorem dX3_product_11 : decode mX3_product.2.1 11 = .ok (.if_icmp .ge 21, 3) := by decide +kernel
theorem dX3_product_14 : decode mX3_product.2.1 14 = .ok (.iload_n 3, 1) := by decide +kernel
theorem dX3_product_15 : decode mX3_product.2.1 15 = .ok (.aload_n 1, 1) := by decide +kernel
theorem dX3_product_16 : decode mX3_product.2.1 16 = .ok (.iload 4, 2) := by decide +kernel
theorem dX3_product_18 : decode mX3_product.2.1 18 = .ok (.iaload, 1) := by decide +kernel
theorem dX3_product_19 : decode mX3_product.2.1 19 = .ok (.aload_n 2, 1) := by decide +kernel
theorem dX3_product_20 : decode mX3_product.2.1 20 = .ok (.iload 4, 2) := by decide +kernel
theorem dX3_product_22 : decode mX3_product.2.1 22 = .ok (.iaload, 1) := by decide +kernel
theorem dX3_product_23 : decode mX3_product.2.1 23 = .ok (.imul, 1) := by decide +kernel
theorem dX3_product_24 : decode mX3_product.2.1 24 = .ok (.iadd, 1) := by decide +kernel
theorem dX3_product_25 : decode mX3_product.2.1 25 = .ok (.istore_n 3, 1) := by decide +kernel
theorem dX3_product_26 : decode mX3_product.2.1 26 = .ok (.iinc 4 1, 3) := by decide +kernel
theorem dX3_product_29 : decode mX3_product.2.1 29 = .ok (.goto (-24), 3) := by decide +kernel
theorem dX3_product_32 : decode mX3_product.2.1 32 = .ok (.iload_n 3, 1) := by decide +kernel
theorem dX3_product_33 : decode mX3_product.2.1 33 = .ok (.aload_n 0, 1) := by decide +kernel
theorem dX3_product_34 : decode mX3_product.2.1 34 = .ok (.getfield 9, 3) := by decide +kernel
theorem dX3_product_37 : decode mX3_product.2.1 37 = .ok (.getfield 48, 3) := by decide +kernel
theorem dX3_product_40 : decode mX3_product.2.1 40 = .ok (.irem, 1) := by decide +kernel
theorem dX3_product_41 : decode mX3_product.2.1 41 = .ok (.ireturn, 1) := by decide +kernel
theorem dX0_makeRow_0 : decode mX0_makeRow.2.1 0 = .ok (.iconst 0, 1) := by decide +kernel
theorem dX0_makeRow_1 : decode mX0_makeRow.2.1 1 = .ok (.istore_n 1, 1) := by decide +kernel
theorem dX0_makeRow_2 : decode mX0_makeRow.2.1 2 = .ok (.iload_n 1, 1) := by decide +kernel
theorem dX0_makeRow_3 : decode mX0_makeRow.2.1 3 = .ok (.aload_n 0, 1) := by decide +kernel
theorem dX0_makeRow_4 : decode mX0_makeRow.2.1 4 = .ok (.getfield 41, 3) := by decide +kernel
theorem dX0_makeRow_7 : decode mX0_makeRow.2.1 7 = .ok (.getfield 68, 3) := by decide +kernel
theorem dX0_makeRow_10 : decode mX0_makeRow.2.1 10 = .ok (.if_icmp .ge 35, 3) := by decide +kernel
theorem dX0_makeRow_13 : decode mX0_makeRow.2.1 13 = .ok (.aload_n 0, 1) := by decide +kernel
theorem dX0_makeRow_14 : decode mX0_makeRow.2.1 14 = .ok (.getfield 22, 3) := by decide +kernel
theorem dX0_makeRow_17 : decode mX0_makeRow.2.1 17 = .ok (.iload_n 1, 1) := by decide +kernel
theorem dX0_makeRow_18 : decode mX0_makeRow.2.1 18 = .ok (.aload_n 0, 1) := by decide +kernel
theorem dX0_makeRow_19 : decode mX0_makeRow.2.1 19 = .ok (.getfield 53, 3) := by decide +kernel
theorem dX0_makeRow_22 : decode mX0_makeRow.2.1 22 = .ok (.aload_n 0, 1) := by decide +kernel
theorem dX0_makeRow_23 : decode mX0_makeRow.2.1 23 = .ok (.getfield 28, 3) := by decide +kernel
theorem dX0_makeRow_26 : decode mX0_makeRow.2.1 26 = .ok (.aload_n 0, 1) := by decide +kernel
theorem dX0_makeRow_27 : decode mX0_makeRow.2.1 27 = .ok (.getfield 41, 3) := by decide +kernel
theorem dX0_makeRow_30 : decode mX0_makeRow.2.1 30 = .ok (.getfield 88, 3) := by decide +kernel
theorem dX0_makeRow_33 : decode mX0_makeRow.2.1 33 = .ok (.iload_n 1, 1) := by decide +kernel
theorem dX0_makeRow_34 : decode mX0_makeRow.2.1 34 = .ok (.aaload, 1) := by decide +kernel
theorem dX0_makeRow_35 : decode mX0_makeRow.2.1 35 = .ok (.invokevirtual 135, 3) := by decide +kernel
theorem dX0_makeRow_38 : decode mX0_makeRow.2.1 38 = .ok (.iastore, 1) := by decide +kernel
theorem dX0_makeRow_39 : decode mX0_makeRow.2.1 39 = .ok (.iinc 1 1, 3) := by decide +kernel
theorem dX0_makeRow_42 : decode mX0_makeRow.2.1 42 = .ok (.goto (-40), 3) := by decide +kernel
theorem dX0_makeRow_45 : decode mX0_makeRow.2.1 45 = .ok (.return_, 1) := by decide +kernel
theorem dX0_offerHere_0 : decode mX0_offerHere.2.1 0 = .ok (.aload_n 0, 1) := by decide +kernel
theorem dX0_offerHere_1 : decode mX0_offerHere.2.1 1 = .ok (.invokevirtual 110, 3) := by decide +kernel
theorem dX0_offerHere_4 : decode mX0_offerHere.2.1 4 = .ok (.aload_n 0, 1) := by decide +kernel
theorem dX0_offerHere_5 : decode mX0_offerHere.2.1 5 = .ok (.getfield 65, 3) := by decide +kernel
theorem dX0_offerHere_8 : decode mX0_offerHere.2.1 8 = .ok (.aload_n 0, 1) := by decide +kernel
theorem dX0_offerHere_9 : decode mX0_offerHere.2.1 9 = .ok (.getfield 11, 3) := by decide +kernel
theorem dX0_offerHere_12 : decode mX0_offerHere.2.1 12 = .ok (.arraylength, 1) := by decide +kernel
theorem dX0_offerHere_13 : decode mX0_offerHere.2.1 13 = .ok (.if_icmp .ge 62, 3) := by decide +kernel
theorem dX0_offerHere_16 : decode mX0_offerHere.2.1 16 = .ok (.aload_n 0, 1) := by decide +kernel
theorem dX0_offerHere_17 : decode mX0_offerHere.2.1 17 = .ok (.getfield 45, 3) := by decide +kernel
theorem dX0_offerHere_20 : decode mX0_offerHere.2.1 20 = .ok (.aload_n 0, 1) := by decide +kernel
theorem dX0_offerHere_21 : decode mX0_offerHere.2.1 21 = .ok (.getfield 22, 3) := by decide +kernel
theorem dX0_offerHere_24 : decode mX0_offerHere.2.1 24 = .ok (.invokevirtual 73, 3) := by decide +kernel
theorem dX0_offerHere_27 : decode mX0_offerHere.2.1 27 = .ok (.ifCond .eq 48, 3) := by decide +kernel
theorem dX0_offerHere_30 : decode mX0_offerHere.2.1 30 = .ok (.aload_n 0, 1) := by decide +kernel
theorem dX0_offerHere_31 : decode mX0_offerHere.2.1 31 = .ok (.getfield 11, 3) := by decide +kernel
theorem dX0_offerHere_34 : decode mX0_offerHere.2.1 34 = .ok (.aload_n 0, 1) := by decide +kernel
theorem dX0_offerHere_35 : decode mX0_offerHere.2.1 35 = .ok (.getfield 65, 3) := by decide +kernel
theorem dX0_offerHere_38 : decode mX0_offerHere.2.1 38 = .ok (.iload_n 1, 1) := by decide +kernel
theorem dX0_offerHere_39 : decode mX0_offerHere.2.1 39 = .ok (.iastore, 1) := by decide +kernel
theorem dX0_offerHere_40 : decode mX0_offerHere.2.1 40 = .ok (.aload_n 0, 1) := by decide +kernel
theorem dX0_offerHere_41 : decode mX0_offerHere.2.1 41 = .ok (.getfield 28, 3) := by decide +kernel
theorem dX0_offerHere_44 : decode mX0_offerHere.2.1 44 = .ok (.iconst 0, 1) := by decide +kernel
theorem dX0_offerHere_45 : decode mX0_offerHere.2.1 45 = .ok (.aload_n 0, 1) := by decide +kernel
theorem dX0_offerHere_46 : decode mX0_offerHere.2.1 46 = .ok (.getfield 19, 3) := by decide +kernel
theorem dX0_offerHere_49 : decode mX0_offerHere.2.1 49 = .ok (.aload_n 0, 1) := by decide +kernel
theorem dX0_offerHere_50 : decode mX0_offerHere.2.1 50 = .ok (.getfield 65, 3) := by decide +kernel
theorem dX0_offerHere_53 : decode mX0_offerHere.2.1 53 = .ok (.aaload, 1) := by decide +kernel
theorem dX0_offerHere_54 : decode mX0_offerHere.2.1 54 = .ok (.iconst 0, 1) := by decide +kernel
theorem dX0_offerHere_55 : decode mX0_offerHere.2.1 55 = .ok (.aload_n 0, 1) := by decide +kernel
theorem dX0_offerHere_56 : decode mX0_offerHere.2.1 56 = .ok (.getfield 53, 3) := by decide +kernel
theorem dX0_offerHere_59 : decode mX0_offerHere.2.1 59 = .ok (.getfield 57, 3) := by decide +kernel
theorem dX0_offerHere_62 : decode mX0_offerHere.2.1 62 = .ok (.invokestatic 113, 3) := by decide +kernel
theorem dX0_offerHere_65 : decode mX0_offerHere.2.1 65 = .ok (.aload_n 0, 1) := by decide +kernel
theorem dX0_offerHere_66 : decode mX0_offerHere.2.1 66 = .ok (.dup, 1) := by decide +kernel
theorem dX0_offerHere_67 : decode mX0_offerHere.2.1 67 = .ok (.getfield 65, 3) := by decide +kernel
theorem dX0_offerHere_70 : decode mX0_offerHere.2.1 70 = .ok (.iconst 1, 1) := by decide +kernel
theorem dX0_offerHere_71 : decode mX0_offerHere.2.1 71 = .ok (.iadd, 1) := by decide +kernel
theorem dX0_offerHere_72 : decode mX0_offerHere.2.1 72 = .ok (.putfield 65, 3) := by decide +kernel
theorem dX0_offerHere_75 : decode mX0_offerHere.2.1 75 = .ok (.return_, 1) := by decide +kernel
theorem dX3_forward_0 : decode mX3_forward.2.1 0 = .ok (.iconst 0, 1) := by decide +kernel
theorem dX3_forward_1 : decode mX3_forward.2.1 1 = .ok (.istore 4, 2) := by decide +kernel
theorem dX3_forward_3 : decode mX3_forward.2.1 3 = .ok (.iload 4, 2) := by decide +kernel
theorem dX3_forward_5 : decode mX3_forward.2.1 5 = .ok (.aload_n 0, 1) := by decide +kernel
theorem dX3_forward_6 : decode mX3_forward.2.1 6 = .ok (.getfield 31, 3) := by decide +kernel
theorem dX3_forward_9 : decode mX3_forward.2.1 9 = .ok (.if_icmp .ge 82, 3) := by decide +kernel
theorem dX3_forward_12 : decode mX3_forward.2.1 12 = .ok (.iconst 0, 1) := by decide +kernel
theorem dX3_forward_13 : decode mX3_forward.2.1 13 = .ok (.istore 5, 2) := by decide +kernel
theorem dX3_forward_15 : decode mX3_forward.2.1 15 = .ok (.aload_n 0, 1) := by decide +kernel
theorem dX3_forward_16 : decode mX3_forward.2.1 16 = .ok (.iconst 0, 1) := by decide +kernel
theorem dX3_forward_17 : decode mX3_forward.2.1 17 = .ok (.iload_n 2, 1) := by decide +kernel
theorem dX3_forward_18 : decode mX3_forward.2.1 18 = .ok (.iload 4, 2) := by decide +kernel
theorem dX3_forward_20 : decode mX3_forward.2.1 20 = .ok (.invokevirtual 56, 3) := by decide +kernel
theorem dX3_forward_23 : decode mX3_forward.2.1 23 = .ok (.istore 6, 2) := by decide +kernel
theorem dX3_forward_25 : decode mX3_forward.2.1 25 = .ok (.iconst 0, 1) := by decide +kernel
theorem dX3_forward_26 : decode mX3_forward.2.1 26 = .ok (.istore 7, 2) := by decide +kernel
theorem dX3_forward_28 : decode mX3_forward.2.1 28 = .ok (.iload 7, 2) := by decide +kernel
theorem dX3_forward_30 : decode mX3_forward.2.1 30 = .ok (.aload_n 0, 1) := by decide +kernel
theorem dX3_forward_31 : decode mX3_forward.2.1 31 = .ok (.getfield 31, 3) := by decide +kernel
theorem dX3_forward_34 : decode mX3_forward.2.1 34 = .ok (.if_icmp .ge 37, 3) := by decide +kernel
theorem dX3_forward_37 : decode mX3_forward.2.1 37 = .ok (.iload 5, 2) := by decide +kernel
theorem dX3_forward_39 : decode mX3_forward.2.1 39 = .ok (.aload_n 1, 1) := by decide +kernel
theorem dX3_forward_40 : decode mX3_forward.2.1 40 = .ok (.iload 7, 2) := by decide +kernel
theorem dX3_forward_42 : decode mX3_forward.2.1 42 = .ok (.iaload, 1) := by decide +kernel
theorem dX3_forward_43 : decode mX3_forward.2.1 43 = .ok (.aload_n 0, 1) := by decide +kernel
theorem dX3_forward_44 : decode mX3_forward.2.1 44 = .ok (.getfield 28, 3) := by decide +kernel
theorem dX3_forward_47 : decode mX3_forward.2.1 47 = .ok (.iload 6, 2) := by decide +kernel
theorem dX3_forward_49 : decode mX3_forward.2.1 49 = .ok (.iaload, 1) := by decide +kernel
theorem dX3_forward_50 : decode mX3_forward.2.1 50 = .ok (.imul, 1) := by decide +kernel
theorem dX3_forward_51 : decode mX3_forward.2.1 51 = .ok (.iadd, 1) := by decide +kernel
theorem dX3_forward_52 : decode mX3_forward.2.1 52 = .ok (.istore 5, 2) := by decide +kernel
theorem dX3_forward_54 : decode mX3_forward.2.1 54 = .ok (.iload 6, 2) := by decide +kernel
theorem dX3_forward_56 : decode mX3_forward.2.1 56 = .ok (.iconst 3, 1) := by decide +kernel
theorem dX3_forward_57 : decode mX3_forward.2.1 57 = .ok (.aload_n 0, 1) := by decide +kernel
theorem dX3_forward_58 : decode mX3_forward.2.1 58 = .ok (.getfield 17, 3) := by decide +kernel
theorem dX3_forward_61 : decode mX3_forward.2.1 61 = .ok (.imul, 1) := by decide +kernel
theorem dX3_forward_62 : decode mX3_forward.2.1 62 = .ok (.iadd, 1) := by decide +kernel
theorem dX3_forward_63 : decode mX3_forward.2.1 63 = .ok (.istore 6, 2) := by decide +kernel
theorem dX3_forward_65 : decode mX3_forward.2.1 65 = .ok (.iinc 7 1, 3) := by decide +kernel
theorem dX3_forward_68 : decode mX3_forward.2.1 68 = .ok (.goto (-40), 3) := by decide +kernel
theorem dX3_forward_71 : decode mX3_forward.2.1 71 = .ok (.aload_n 3, 1) := by decide +kernel
theorem dX3_forward_72 : decode mX3_forward.2.1 72 = .ok (.iload 4, 2) := by decide +kernel
theorem dX3_forward_74 : decode mX3_forward.2.1 74 = .ok (.iload 5, 2) := by decide +kernel
theorem dX3_forward_76 : decode mX3_forward.2.1 76 = .ok (.aload_n 0, 1) := by decide +kernel
theorem dX3_forward_77 : decode mX3_forward.2.1 77 = .ok (.getfield 9, 3) := by decide +kernel
theorem dX3_forward_80 : decode mX3_forward.2.1 80 = .ok (.getfield 48, 3) := by decide +kernel
theorem dX3_forward_83 : decode mX3_forward.2.1 83 = .ok (.irem, 1) := by decide +kernel
theorem dX3_forward_84 : decode mX3_forward.2.1 84 = .ok (.iastore, 1) := by decide +kernel
theorem dX3_forward_85 : decode mX3_forward.2.1 85 = .ok (.iinc 4 1, 3) := by decide +kernel
theorem dX3_forward_88 : decode mX3_forward.2.1 88 = .ok (.goto (-85), 3) := by decide +kernel
theorem dX3_forward_91 : decode mX3_forward.2.1 91 = .ok (.return_, 1) := by decide +kernel
theorem dX5_withLetter_0 : decode mX5_withLetter.2.1 0 = .ok (.iload_n 1, 1) := by decide +kernel
theorem dX5_withLetter_1 : decode mX5_withLetter.2.1 1 = .ok (.aload_n 0, 1) := by decide +kernel
theorem dX5_withLetter_2 : decode mX5_withLetter.2.1 2 = .ok (.getfield 15, 3) := by decide +kernel
theorem dX5_withLetter_5 : decode mX5_withLetter.2.1 5 = .ok (.imul, 1) := by decide +kernel
theorem dX5_withLetter_6 : decode mX5_withLetter.2.1 6 = .ok (.iload_n 2, 1) := by decide +kernel
theorem dX5_withLetter_7 : decode mX5_withLetter.2.1 7 = .ok (.iadd, 1) := by decide +kernel
theorem dX5_withLetter_8 : decode mX5_withLetter.2.1 8 = .ok (.iconst 1, 1) := by decide +kernel
theorem dX5_withLetter_9 : decode mX5_withLetter.2.1 9 = .ok (.iadd, 1) := by decide +kernel
theorem dX5_withLetter_10 : decode mX5_withLetter.2.1 10 = .ok (.ireturn, 1) := by decide +kernel
theorem dX0_widen_0 : decode mX0_widen.2.1 0 = .ok (.aload_n 0, 1) := by decide +kernel
theorem dX0_widen_1 : decode mX0_widen.2.1 1 = .ok (.getfield 65, 3) := by decide +kernel
theorem dX0_widen_4 : decode mX0_widen.2.1 4 = .ok (.istore_n 1, 1) := by decide +kernel
theorem dX0_widen_5 : decode mX0_widen.2.1 5 = .ok (.aload_n 0, 1) := by decide +kernel
theorem dX0_widen_6 : decode mX0_widen.2.1 6 = .ok (.getfield 65, 3) := by decide +kernel
theorem dX0_widen_9 : decode mX0_widen.2.1 9 = .ok (.ifCond .ne 31, 3) := by decide +kernel
theorem dX0_widen_12 : decode mX0_widen.2.1 12 = .ok (.aload_n 0, 1) := by decide +kernel
theorem dX0_widen_13 : decode mX0_widen.2.1 13 = .ok (.getfield 53, 3) := by decide +kernel
theorem dX0_widen_16 : decode mX0_widen.2.1 16 = .ok (.getfield 119, 3) := by decide +kernel
theorem dX0_widen_19 : decode mX0_widen.2.1 19 = .ok (.iconst 0, 1) := by decide +kernel
theorem dX0_widen_20 : decode mX0_widen.2.1 20 = .ok (.aload_n 0, 1) := by decide +kernel
theorem dX0_widen_21 : decode mX0_widen.2.1 21 = .ok (.getfield 28, 3) := by decide +kernel
theorem dX0_widen_24 : decode mX0_widen.2.1 24 = .ok (.iconst 0, 1) := by decide +kernel
theorem dX0_widen_25 : decode mX0_widen.2.1 25 = .ok (.aload_n 0, 1) := by decide +kernel
theorem dX0_widen_26 : decode mX0_widen.2.1 26 = .ok (.getfield 53, 3) := by decide +kernel
theorem dX0_widen_29 : decode mX0_widen.2.1 29 = .ok (.getfield 57, 3) := by decide +kernel
theorem dX0_widen_32 : decode mX0_widen.2.1 32 = .ok (.invokestatic 113, 3) := by decide +kernel
theorem dX0_widen_35 : decode mX0_widen.2.1 35 = .ok (.aload_n 0, 1) := by decide +kernel
theorem dX0_widen_36 : decode mX0_widen.2.1 36 = .ok (.iconst 0, 1) := by decide +kernel
theorem dX0_widen_37 : decode mX0_widen.2.1 37 = .ok (.invokevirtual 107, 3) := by decide +kernel
theorem dX0_widen_40 : decode mX0_widen.2.1 40 = .ok (.iconst 0, 1) := by decide +kernel
theorem dX0_widen_41 : decode mX0_widen.2.1 41 = .ok (.istore_n 2, 1) := by decide +kernel
theorem dX0_widen_42 : decode mX0_widen.2.1 42 = .ok (.iload_n 2, 1) := by decide +kernel
theorem dX0_widen_43 : decode mX0_widen.2.1 43 = .ok (.aload_n 0, 1) := by decide +kernel
theorem dX0_widen_44 : decode mX0_widen.2.1 44 = .ok (.getfield 65, 3) := by decide +kernel
theorem dX0_widen_47 : decode mX0_widen.2.1 47 = .ok (.if_icmp .ge 73, 3) := by decide +kernel
theorem dX0_widen_50 : decode mX0_widen.2.1 50 = .ok (.iload_n 2, 1) := by decide +kernel
theorem dX0_widen_51 : decode mX0_widen.2.1 51 = .ok (.aload_n 0, 1) := by decide +kernel
theorem dX0_widen_52 : decode mX0_widen.2.1 52 = .ok (.getfield 11, 3) := by decide +kernel
theorem dX0_widen_55 : decode mX0_widen.2.1 55 = .ok (.arraylength, 1) := by decide +kernel
theorem dX0_widen_56 : decode mX0_widen.2.1 56 = .ok (.if_icmp .ge 64, 3) := by decide +kernel
theorem dX0_widen_59 : decode mX0_widen.2.1 59 = .ok (.iconst 0, 1) := by decide +kernel
theorem dX0_widen_60 : decode mX0_widen.2.1 60 = .ok (.istore_n 3, 1) := by decide +kernel
theorem dX0_widen_61 : decode mX0_widen.2.1 61 = .ok (.iload_n 3, 1) := by decide +kernel
theorem dX0_widen_62 : decode mX0_widen.2.1 62 = .ok (.aload_n 0, 1) := by decide +kernel
theorem dX0_widen_63 : decode mX0_widen.2.1 63 = .ok (.getfield 34, 3) := by decide +kernel
theorem dX0_widen_66 : decode mX0_widen.2.1 66 = .ok (.getfield 84, 3) := by decide +kernel
theorem dX0_widen_69 : decode mX0_widen.2.1 69 = .ok (.if_icmp .ge 45, 3) := by decide +kernel
theorem dX0_widen_72 : decode mX0_widen.2.1 72 = .ok (.aload_n 0, 1) := by decide +kernel
theorem dX0_widen_73 : decode mX0_widen.2.1 73 = .ok (.getfield 53, 3) := by decide +kernel
theorem dX0_widen_76 : decode mX0_widen.2.1 76 = .ok (.aload_n 0, 1) := by decide +kernel
theorem dX0_widen_77 : decode mX0_widen.2.1 77 = .ok (.getfield 19, 3) := by decide +kernel
theorem dX0_widen_80 : decode mX0_widen.2.1 80 = .ok (.iload_n 2, 1) := by decide +kernel
theorem dX0_widen_81 : decode mX0_widen.2.1 81 = .ok (.aaload, 1) := by decide +kernel
theorem dX0_widen_82 : decode mX0_widen.2.1 82 = .ok (.iload_n 3, 1) := by decide +kernel
theorem dX0_widen_83 : decode mX0_widen.2.1 83 = .ok (.aload_n 0, 1) := by decide +kernel
theorem dX0_widen_84 : decode mX0_widen.2.1 84 = .ok (.getfield 28, 3) := by decide +kernel
theorem dX0_widen_87 : decode mX0_widen.2.1 87 = .ok (.invokevirtual 122, 3) := by decide +kernel
theorem dX0_widen_90 : decode mX0_widen.2.1 90 = .ok (.aload_n 0, 1) := by decide +kernel
theorem dX0_widen_91 : decode mX0_widen.2.1 91 = .ok (.aload_n 0, 1) := by decide +kernel
theorem dX0_widen_92 : decode mX0_widen.2.1 92 = .ok (.getfield 34, 3) := by decide +kernel
theorem dX0_widen_95 : decode mX0_widen.2.1 95 = .ok (.aload_n 0, 1) := by decide +kernel
theorem dX0_widen_96 : decode mX0_widen.2.1 96 = .ok (.getfield 11, 3) := by decide +kernel
theorem dX0_widen_99 : decode mX0_widen.2.1 99 = .ok (.iload_n 2, 1) := by decide +kernel
theorem dX0_widen_100 : decode mX0_widen.2.1 100 = .ok (.iaload, 1) := by decide +kernel
theorem dX0_widen_101 : decode mX0_widen.2.1 101 = .ok (.iload_n 3, 1) := by decide +kernel
theorem dX0_widen_102 : decode mX0_widen.2.1 102 = .ok (.invokevirtual 125, 3) := by decide +kernel
theorem dX0_widen_105 : decode mX0_widen.2.1 105 = .ok (.invokevirtual 107, 3) := by decide +kernel
theorem dX0_widen_108 : decode mX0_widen.2.1 108 = .ok (.iinc 3 1, 3) := by decide +kernel
theorem dX0_widen_111 : decode mX0_widen.2.1 111 = .ok (.goto (-50), 3) := by decide +kernel
theorem dX0_widen_114 : decode mX0_widen.2.1 114 = .ok (.iinc 2 1, 3) := by decide +kernel
theorem dX0_widen_117 : decode mX0_widen.2.1 117 = .ok (.goto (-75), 3) := by decide +kernel
theorem dX0_widen_120 : decode mX0_widen.2.1 120 = .ok (.aload_n 0, 1) := by decide +kernel
theorem dX0_widen_121 : decode mX0_widen.2.1 121 = .ok (.getfield 65, 3) := by decide +kernel
theorem dX0_widen_124 : decode mX0_widen.2.1 124 = .ok (.iload_n 1, 1) := by decide +kernel
theorem dX0_widen_125 : decode mX0_widen.2.1 125 = .ok (.isub, 1) := by decide +kernel
theorem dX0_widen_126 : decode mX0_widen.2.1 126 = .ok (.ireturn, 1) := by decide +kernel
theorem dX0_build_0 : decode mX0_build.2.1 0 = .ok (.aload_n 1, 1) := by decide +kernel
theorem dX0_build_1 : decode mX0_build.2.1 1 = .ok (.aload_n 0, 1) := by decide +kernel
theorem dX0_build_2 : decode mX0_build.2.1 2 = .ok (.getfield 65, 3) := by decide +kernel
theorem dX0_build_5 : decode mX0_build.2.1 5 = .ok (.invokevirtual 132, 3) := by decide +kernel
theorem dX0_build_8 : decode mX0_build.2.1 8 = .ok (.iconst 0, 1) := by decide +kernel
theorem dX0_build_9 : decode mX0_build.2.1 9 = .ok (.istore_n 2, 1) := by decide +kernel
theorem dX0_build_10 : decode mX0_build.2.1 10 = .ok (.iload_n 2, 1) := by decide +kernel
theorem dX0_build_11 : decode mX0_build.2.1 11 = .ok (.aload_n 1, 1) := by decide +kernel
theorem dX0_build_12 : decode mX0_build.2.1 12 = .ok (.getfield 57, 3) := by decide +kernel
theorem dX0_build_15 : decode mX0_build.2.1 15 = .ok (.if_icmp .ge 129, 3) := by decide +kernel
theorem dX0_build_18 : decode mX0_build.2.1 18 = .ok (.aload_n 1, 1) := by decide +kernel
theorem dX0_build_19 : decode mX0_build.2.1 19 = .ok (.getfield 119, 3) := by decide +kernel
theorem dX0_build_22 : decode mX0_build.2.1 22 = .ok (.iload_n 2, 1) := by decide +kernel
theorem dX0_build_23 : decode mX0_build.2.1 23 = .ok (.iload_n 2, 1) := by decide +kernel
theorem dX0_build_24 : decode mX0_build.2.1 24 = .ok (.ifCond .ne 7, 3) := by decide +kernel
theorem dX0_build_27 : decode mX0_build.2.1 27 = .ok (.iconst 1, 1) := by decide +kernel
theorem dX0_build_28 : decode mX0_build.2.1 28 = .ok (.goto 4, 3) := by decide +kernel
theorem dX0_build_31 : decode mX0_build.2.1 31 = .ok (.iconst 0, 1) := by decide +kernel
theorem dX0_build_32 : decode mX0_build.2.1 32 = .ok (.iastore, 1) := by decide +kernel
theorem dX0_build_33 : decode mX0_build.2.1 33 = .ok (.aload_n 1, 1) := by decide +kernel
theorem dX0_build_34 : decode mX0_build.2.1 34 = .ok (.getfield 81, 3) := by decide +kernel
theorem dX0_build_37 : decode mX0_build.2.1 37 = .ok (.iload_n 2, 1) := by decide +kernel
theorem dX0_build_38 : decode mX0_build.2.1 38 = .ok (.aload_n 0, 1) := by decide +kernel
theorem dX0_build_39 : decode mX0_build.2.1 39 = .ok (.getfield 53, 3) := by decide +kernel
theorem dX0_build_42 : decode mX0_build.2.1 42 = .ok (.aload_n 0, 1) := by decide +kernel
theorem dX0_build_43 : decode mX0_build.2.1 43 = .ok (.getfield 19, 3) := by decide +kernel
theorem dX0_build_46 : decode mX0_build.2.1 46 = .ok (.iload_n 2, 1) := by decide +kernel
theorem dX0_build_47 : decode mX0_build.2.1 47 = .ok (.aaload, 1) := by decide +kernel
theorem dX0_build_48 : decode mX0_build.2.1 48 = .ok (.aload_n 0, 1) := by decide +kernel
theorem dX0_build_49 : decode mX0_build.2.1 49 = .ok (.getfield 53, 3) := by decide +kernel
theorem dX0_build_52 : decode mX0_build.2.1 52 = .ok (.getfield 81, 3) := by decide +kernel
theorem dX0_build_55 : decode mX0_build.2.1 55 = .ok (.invokevirtual 135, 3) := by decide +kernel
theorem dX0_build_58 : decode mX0_build.2.1 58 = .ok (.iastore, 1) := by decide +kernel
theorem dX0_build_59 : decode mX0_build.2.1 59 = .ok (.iconst 0, 1) := by decide +kernel
theorem dX0_build_60 : decode mX0_build.2.1 60 = .ok (.istore_n 3, 1) := by decide +kernel
theorem dX0_build_61 : decode mX0_build.2.1 61 = .ok (.iload_n 3, 1) := by decide +kernel
theorem dX0_build_62 : decode mX0_build.2.1 62 = .ok (.aload_n 0, 1) := by decide +kernel
theorem dX0_build_63 : decode mX0_build.2.1 63 = .ok (.getfield 34, 3) := by decide +kernel
theorem dX0_build_66 : decode mX0_build.2.1 66 = .ok (.getfield 84, 3) := by decide +kernel
theorem dX0_build_69 : decode mX0_build.2.1 69 = .ok (.if_icmp .ge 69, 3) := by decide +kernel
theorem dX0_build_72 : decode mX0_build.2.1 72 = .ok (.aload_n 0, 1) := by decide +kernel
theorem dX0_build_73 : decode mX0_build.2.1 73 = .ok (.getfield 53, 3) := by decide +kernel
theorem dX0_build_76 : decode mX0_build.2.1 76 = .ok (.aload_n 0, 1) := by decide +kernel
theorem dX0_build_77 : decode mX0_build.2.1 77 = .ok (.getfield 19, 3) := by decide +kernel
theorem dX0_build_80 : decode mX0_build.2.1 80 = .ok (.iload_n 2, 1) := by decide +kernel
theorem dX0_build_81 : decode mX0_build.2.1 81 = .ok (.aaload, 1) := by decide +kernel
theorem dX0_build_82 : decode mX0_build.2.1 82 = .ok (.iload_n 3, 1) := by decide +kernel
theorem dX0_build_83 : decode mX0_build.2.1 83 = .ok (.aload_n 0, 1) := by decide +kernel
theorem dX0_build_84 : decode mX0_build.2.1 84 = .ok (.getfield 28, 3) := by decide +kernel
theorem dX0_build_87 : decode mX0_build.2.1 87 = .ok (.invokevirtual 122, 3) := by decide +kernel
theorem dX0_build_90 : decode mX0_build.2.1 90 = .ok (.aload_n 0, 1) := by decide +kernel
theorem dX0_build_91 : decode mX0_build.2.1 91 = .ok (.invokevirtual 110, 3) := by decide +kernel
theorem dX0_build_94 : decode mX0_build.2.1 94 = .ok (.aload_n 0, 1) := by decide +kernel
theorem dX0_build_95 : decode mX0_build.2.1 95 = .ok (.getfield 45, 3) := by decide +kernel
theorem dX0_build_98 : decode mX0_build.2.1 98 = .ok (.aload_n 0, 1) := by decide +kernel
theorem dX0_build_99 : decode mX0_build.2.1 99 = .ok (.getfield 22, 3) := by decide +kernel
theorem dX0_build_102 : decode mX0_build.2.1 102 = .ok (.invokevirtual 129, 3) := by decide +kernel
theorem dX0_build_105 : decode mX0_build.2.1 105 = .ok (.pop, 1) := by decide +kernel
theorem dX0_build_106 : decode mX0_build.2.1 106 = .ok (.aload_n 0, 1) := by decide +kernel
theorem dX0_build_107 : decode mX0_build.2.1 107 = .ok (.getfield 45, 3) := by decide +kernel
theorem dX0_build_110 : decode mX0_build.2.1 110 = .ok (.getfield 139, 3) := by decide +kernel
theorem dX0_build_113 : decode mX0_build.2.1 113 = .ok (.iconst 0, 1) := by decide +kernel
theorem dX0_build_114 : decode mX0_build.2.1 114 = .ok (.aload_n 1, 1) := by decide +kernel
theorem dX0_build_115 : decode mX0_build.2.1 115 = .ok (.getfield 142, 3) := by decide +kernel
theorem dX0_build_118 : decode mX0_build.2.1 118 = .ok (.aload_n 1, 1) := by decide +kernel
theorem dX0_build_119 : decode mX0_build.2.1 119 = .ok (.iload_n 2, 1) := by decide +kernel
theorem dX0_build_120 : decode mX0_build.2.1 120 = .ok (.iload_n 3, 1) := by decide +kernel
theorem dX0_build_121 : decode mX0_build.2.1 121 = .ok (.iconst 0, 1) := by decide +kernel
theorem dX0_build_122 : decode mX0_build.2.1 122 = .ok (.invokevirtual 145, 3) := by decide +kernel
theorem dX0_build_125 : decode mX0_build.2.1 125 = .ok (.aload_n 1, 1) := by decide +kernel
theorem dX0_build_126 : decode mX0_build.2.1 126 = .ok (.getfield 57, 3) := by decide +kernel
theorem dX0_build_129 : decode mX0_build.2.1 129 = .ok (.invokestatic 113, 3) := by decide +kernel
theorem dX0_build_132 : decode mX0_build.2.1 132 = .ok (.iinc 3 1, 3) := by decide +kernel
theorem dX0_build_135 : decode mX0_build.2.1 135 = .ok (.goto (-74), 3) := by decide +kernel
theorem dX0_build_138 : decode mX0_build.2.1 138 = .ok (.iinc 2 1, 3) := by decide +kernel
theorem dX0_build_141 : decode mX0_build.2.1 141 = .ok (.goto (-131), 3) := by decide +kernel
theorem dX0_build_144 : decode mX0_build.2.1 144 = .ok (.return_, 1) := by decide +kernel
theorem dX9_leastMachine_0 : decode mX9_leastMachine.2.1 0 = .ok (.aload_n 0, 1) := by decide +kernel
theorem dX9_leastMachine_1 : decode mX9_leastMachine.2.1 1 = .ok (.getfield 315, 3) := by decide +kernel
theorem dX9_leastMachine_4 : decode mX9_leastMachine.2.1 4 = .ok (.ifCond .ne 64, 3) := by decide +kernel
theorem dX9_leastMachine_7 : decode mX9_leastMachine.2.1 7 = .ok (.aload_n 0, 1) := by decide +kernel
theorem dX9_leastMachine_8 : decode mX9_leastMachine.2.1 8 = .ok (.getfield 49, 3) := by decide +kernel
theorem dX9_leastMachine_11 : decode mX9_leastMachine.2.1 11 = .ok (.aload_n 0, 1) := by decide +kernel
theorem dX9_leastMachine_12 : decode mX9_leastMachine.2.1 12 = .ok (.getfield 28, 3) := by decide +kernel
theorem dX9_leastMachine_15 : decode mX9_leastMachine.2.1 15 = .ok (.getfield 110, 3) := by decide +kernel
theorem dX9_leastMachine_18 : decode mX9_leastMachine.2.1 18 = .ok (.invokevirtual 211, 3) := by decide +kernel
theorem dX9_leastMachine_21 : decode mX9_leastMachine.2.1 21 = .ok (.aload_n 0, 1) := by decide +kernel
theorem dX9_leastMachine_22 : decode mX9_leastMachine.2.1 22 = .ok (.getfield 49, 3) := by decide +kernel
theorem dX9_leastMachine_25 : decode mX9_leastMachine.2.1 25 = .ok (.invokevirtual 205, 3) := by decide +kernel
theorem dX9_leastMachine_28 : decode mX9_leastMachine.2.1 28 = .ok (.pop, 1) := by decide +kernel
theorem dX9_leastMachine_29 : decode mX9_leastMachine.2.1 29 = .ok (.aload_n 0, 1) := by decide +kernel
theorem dX9_leastMachine_30 : decode mX9_leastMachine.2.1 30 = .ok (.getfield 49, 3) := by decide +kernel
theorem dX9_leastMachine_33 : decode mX9_leastMachine.2.1 33 = .ok (.aload_n 0, 1) := by decide +kernel
theorem dX9_leastMachine_34 : decode mX9_leastMachine.2.1 34 = .ok (.getfield 71, 3) := by decide +kernel
theorem dX9_leastMachine_37 : decode mX9_leastMachine.2.1 37 = .ok (.invokevirtual 265, 3) := by decide +kernel
theorem dX9_leastMachine_40 : decode mX9_leastMachine.2.1 40 = .ok (.aload_n 0, 1) := by decide +kernel
theorem dX9_leastMachine_41 : decode mX9_leastMachine.2.1 41 = .ok (.getfield 49, 3) := by decide +kernel
theorem dX9_leastMachine_44 : decode mX9_leastMachine.2.1 44 = .ok (.getfield 344, 3) := by decide +kernel
theorem dX9_leastMachine_47 : decode mX9_leastMachine.2.1 47 = .ok (.iconst 0, 1) := by decide +kernel
theorem dX9_leastMachine_48 : decode mX9_leastMachine.2.1 48 = .ok (.aload_n 0, 1) := by decide +kernel
theorem dX9_leastMachine_49 : decode mX9_leastMachine.2.1 49 = .ok (.getfield 74, 3) := by decide +kernel
theorem dX9_leastMachine_52 : decode mX9_leastMachine.2.1 52 = .ok (.iconst 0, 1) := by decide +kernel
theorem dX9_leastMachine_53 : decode mX9_leastMachine.2.1 53 = .ok (.aload_n 0, 1) := by decide +kernel
theorem dX9_leastMachine_54 : decode mX9_leastMachine.2.1 54 = .ok (.getfield 71, 3) := by decide +kernel
theorem dX9_leastMachine_57 : decode mX9_leastMachine.2.1 57 = .ok (.getfield 131, 3) := by decide +kernel
theorem dX9_leastMachine_60 : decode mX9_leastMachine.2.1 60 = .ok (.invokestatic 347, 3) := by decide +kernel
theorem dX9_leastMachine_63 : decode mX9_leastMachine.2.1 63 = .ok (.aload_n 0, 1) := by decide +kernel
theorem dX9_leastMachine_64 : decode mX9_leastMachine.2.1 64 = .ok (.iconst 1, 1) := by decide +kernel
theorem dX9_leastMachine_65 : decode mX9_leastMachine.2.1 65 = .ok (.putfield 315, 3) := by decide +kernel
theorem dX9_leastMachine_68 : decode mX9_leastMachine.2.1 68 = .ok (.aload_n 0, 1) := by decide +kernel
theorem dX9_leastMachine_69 : decode mX9_leastMachine.2.1 69 = .ok (.getfield 71, 3) := by decide +kernel
theorem dX9_leastMachine_72 : decode mX9_leastMachine.2.1 72 = .ok (.areturn, 1) := by decide +kernel
theorem dX5_withoutLast_0 : decode mX5_withoutLast.2.1 0 = .ok (.iload_n 1, 1) := by decide +kernel
theorem dX5_withoutLast_1 : decode mX5_withoutLast.2.1 1 = .ok (.ifCond .le 14, 3) := by decide +kernel
theorem dX5_withoutLast_4 : decode mX5_withoutLast.2.1 4 = .ok (.iload_n 1, 1) := by decide +kernel
theorem dX5_withoutLast_5 : decode mX5_withoutLast.2.1 5 = .ok (.iconst 1, 1) := by decide +kernel
theorem dX5_withoutLast_6 : decode mX5_withoutLast.2.1 6 = .ok (.isub, 1) := by decide +kernel
theorem dX5_withoutLast_7 : decode mX5_withoutLast.2.1 7 = .ok (.aload_n 0, 1) := by decide +kernel
theorem dX5_withoutLast_8 : decode mX5_withoutLast.2.1 8 = .ok (.getfield 15, 3) := by decide +kernel
theorem dX5_withoutLast_11 : decode mX5_withoutLast.2.1 11 = .ok (.idiv, 1) := by decide +kernel
theorem dX5_withoutLast_12 : decode mX5_withoutLast.2.1 12 = .ok (.goto 4, 3) := by decide +kernel
theorem dX5_withoutLast_15 : decode mX5_withoutLast.2.1 15 = .ok (.iconst 0, 1) := by decide +kernel
theorem dX5_withoutLast_16 : decode mX5_withoutLast.2.1 16 = .ok (.ireturn, 1) := by decide +kernel
theorem dX5_lengthOf_0 : decode mX5_lengthOf.2.1 0 = .ok (.iconst 0, 1) := by decide +kernel
theorem dX5_lengthOf_1 : decode mX5_lengthOf.2.1 1 = .ok (.istore_n 2, 1) := by decide +kernel
theorem dX5_lengthOf_2 : decode mX5_lengthOf.2.1 2 = .ok (.iload_n 1, 1) := by decide +kernel
theorem dX5_lengthOf_3 : decode mX5_lengthOf.2.1 3 = .ok (.istore_n 3, 1) := by decide +kernel
theorem dX5_lengthOf_4 : decode mX5_lengthOf.2.1 4 = .ok (.iload_n 3, 1) := by decide +kernel
theorem dX5_lengthOf_5 : decode mX5_lengthOf.2.1 5 = .ok (.ifCond .le 21, 3) := by decide +kernel
theorem dX5_lengthOf_8 : decode mX5_lengthOf.2.1 8 = .ok (.iload_n 2, 1) := by decide +kernel
theorem dX5_lengthOf_9 : decode mX5_lengthOf.2.1 9 = .ok (.bipush 12, 2) := by decide +kernel
theorem dX5_lengthOf_11 : decode mX5_lengthOf.2.1 11 = .ok (.if_icmp .ge 15, 3) := by decide +kernel
theorem dX5_lengthOf_14 : decode mX5_lengthOf.2.1 14 = .ok (.iinc 2 1, 3) := by decide +kernel
theorem dX5_lengthOf_17 : decode mX5_lengthOf.2.1 17 = .ok (.aload_n 0, 1) := by decide +kernel
theorem dX5_lengthOf_18 : decode mX5_lengthOf.2.1 18 = .ok (.iload_n 3, 1) := by decide +kernel
theorem dX5_lengthOf_19 : decode mX5_lengthOf.2.1 19 = .ok (.invokevirtual 29, 3) := by decide +kernel
theorem dX5_lengthOf_22 : decode mX5_lengthOf.2.1 22 = .ok (.istore_n 3, 1) := by decide +kernel
theorem dX5_lengthOf_23 : decode mX5_lengthOf.2.1 23 = .ok (.goto (-19), 3) := by decide +kernel
theorem dX5_lengthOf_26 : decode mX5_lengthOf.2.1 26 = .ok (.iload_n 2, 1) := by decide +kernel
theorem dX5_lengthOf_27 : decode mX5_lengthOf.2.1 27 = .ok (.ireturn, 1) := by decide +kernel
theorem dX5_lastLetter_0 : decode mX5_lastLetter.2.1 0 = .ok (.iload_n 1, 1) := by decide +kernel
theorem dX5_lastLetter_1 : decode mX5_lastLetter.2.1 1 = .ok (.ifCond .le 14, 3) := by decide +kernel
theorem dX5_lastLetter_4 : decode mX5_lastLetter.2.1 4 = .ok (.iload_n 1, 1) := by decide +kernel
theorem dX5_lastLetter_5 : decode mX5_lastLetter.2.1 5 = .ok (.iconst 1, 1) := by decide +kernel
theorem dX5_lastLetter_6 : decode mX5_lastLetter.2.1 6 = .ok (.isub, 1) := by decide +kernel
theorem dX5_lastLetter_7 : decode mX5_lastLetter.2.1 7 = .ok (.aload_n 0, 1) := by decide +kernel
theorem dX5_lastLetter_8 : decode mX5_lastLetter.2.1 8 = .ok (.getfield 15, 3) := by decide +kernel
theorem dX5_lastLetter_11 : decode mX5_lastLetter.2.1 11 = .ok (.irem, 1) := by decide +kernel
theorem dX5_lastLetter_12 : decode mX5_lastLetter.2.1 12 = .ok (.goto 4, 3) := by decide +kernel
theorem dX5_lastLetter_15 : decode mX5_lastLetter.2.1 15 = .ok (.iconst 0, 1) := by decide +kernel
theorem dX5_lastLetter_16 : decode mX5_lastLetter.2.1 16 = .ok (.ireturn, 1) := by decide +kernel
theorem dX0_swap_0 : decode mX0_swap.2.1 0 = .ok (.aload_n 0, 1) := by decide +kernel
theorem dX0_swap_1 : decode mX0_swap.2.1 1 = .ok (.getfield 28, 3) := by decide +kernel
theorem dX0_swap_4 : decode mX0_swap.2.1 4 = .ok (.astore_n 1, 1) := by decide +kernel
theorem dX0_swap_5 : decode mX0_swap.2.1 5 = .ok (.aload_n 0, 1) := by decide +kernel
theorem dX0_swap_6 : decode mX0_swap.2.1 6 = .ok (.aload_n 0, 1) := by decide +kernel
theorem dX0_swap_7 : decode mX0_swap.2.1 7 = .ok (.getfield 31, 3) := by decide +kernel
theorem dX0_swap_10 : decode mX0_swap.2.1 10 = .ok (.putfield 28, 3) := by decide +kernel
theorem dX0_swap_13 : decode mX0_swap.2.1 13 = .ok (.aload_n 0, 1) := by decide +kernel
theorem dX0_swap_14 : decode mX0_swap.2.1 14 = .ok (.aload_n 1, 1) := by decide +kernel
theorem dX0_swap_15 : decode mX0_swap.2.1 15 = .ok (.putfield 31, 3) := by decide +kernel
theorem dX0_swap_18 : decode mX0_swap.2.1 18 = .ok (.return_, 1) := by decide +kernel
theorem dX0_goBack_0 : decode mX0_goBack.2.1 0 = .ok (.aload_n 0, 1) := by decide +kernel
theorem dX0_goBack_1 : decode mX0_goBack.2.1 1 = .ok (.getfield 34, 3) := by decide +kernel
theorem dX0_goBack_4 : decode mX0_goBack.2.1 4 = .ok (.iload_n 2, 1) := by decide +kernel
theorem dX0_goBack_5 : decode mX0_goBack.2.1 5 = .ok (.invokevirtual 156, 3) := by decide +kernel
theorem dX0_goBack_8 : decode mX0_goBack.2.1 8 = .ok (.istore_n 3, 1) := by decide +kernel
theorem dX0_goBack_9 : decode mX0_goBack.2.1 9 = .ok (.iload_n 2, 1) := by decide +kernel
theorem dX0_goBack_10 : decode mX0_goBack.2.1 10 = .ok (.istore 4, 2) := by decide +kernel
theorem dX0_goBack_12 : decode mX0_goBack.2.1 12 = .ok (.aload_n 1, 1) := by decide +kernel
theorem dX0_goBack_13 : decode mX0_goBack.2.1 13 = .ok (.getfield 81, 3) := by decide +kernel
theorem dX0_goBack_16 : decode mX0_goBack.2.1 16 = .ok (.iconst 0, 1) := by decide +kernel
theorem dX0_goBack_17 : decode mX0_goBack.2.1 17 = .ok (.aload_n 0, 1) := by decide +kernel
theorem dX0_goBack_18 : decode mX0_goBack.2.1 18 = .ok (.getfield 28, 3) := by decide +kernel
theorem dX0_goBack_21 : decode mX0_goBack.2.1 21 = .ok (.iconst 0, 1) := by decide +kernel
theorem dX0_goBack_22 : decode mX0_goBack.2.1 22 = .ok (.aload_n 1, 1) := by decide +kernel
theorem dX0_goBack_23 : decode mX0_goBack.2.1 23 = .ok (.getfield 57, 3) := by decide +kernel
theorem dX0_goBack_26 : decode mX0_goBack.2.1 26 = .ok (.invokestatic 113, 3) := by decide +kernel
theorem dX0_goBack_29 : decode mX0_goBack.2.1 29 = .ok (.iconst 0, 1) := by decide +kernel
theorem dX0_goBack_30 : decode mX0_goBack.2.1 30 = .ok (.istore 5, 2) := by decide +kernel
theorem dX0_goBack_32 : decode mX0_goBack.2.1 32 = .ok (.iload 5, 2) := by decide +kernel
theorem dX0_goBack_34 : decode mX0_goBack.2.1 34 = .ok (.iload_n 3, 1) := by decide +kernel
theorem dX0_goBack_35 : decode mX0_goBack.2.1 35 = .ok (.if_icmp .ge 45, 3) := by decide +kernel
theorem dX0_goBack_38 : decode mX0_goBack.2.1 38 = .ok (.aload_n 1, 1) := by decide +kernel
theorem dX0_goBack_39 : decode mX0_goBack.2.1 39 = .ok (.aload_n 0, 1) := by decide +kernel
theorem dX0_goBack_40 : decode mX0_goBack.2.1 40 = .ok (.getfield 28, 3) := by decide +kernel
theorem dX0_goBack_43 : decode mX0_goBack.2.1 43 = .ok (.aload_n 0, 1) := by decide +kernel
theorem dX0_goBack_44 : decode mX0_goBack.2.1 44 = .ok (.getfield 34, 3) := by decide +kernel
theorem dX0_goBack_47 : decode mX0_goBack.2.1 47 = .ok (.iload 4, 2) := by decide +kernel
theorem dX0_goBack_49 : decode mX0_goBack.2.1 49 = .ok (.invokevirtual 160, 3) := by decide +kernel
theorem dX0_goBack_52 : decode mX0_goBack.2.1 52 = .ok (.aload_n 0, 1) := by decide +kernel
theorem dX0_goBack_53 : decode mX0_goBack.2.1 53 = .ok (.getfield 31, 3) := by decide +kernel
theorem dX0_goBack_56 : decode mX0_goBack.2.1 56 = .ok (.invokevirtual 91, 3) := by decide +kernel
theorem dX0_goBack_59 : decode mX0_goBack.2.1 59 = .ok (.aload_n 0, 1) := by decide +kernel
theorem dX0_goBack_60 : decode mX0_goBack.2.1 60 = .ok (.getfield 34, 3) := by decide +kernel
theorem dX0_goBack_63 : decode mX0_goBack.2.1 63 = .ok (.iload 4, 2) := by decide +kernel
theorem dX0_goBack_65 : decode mX0_goBack.2.1 65 = .ok (.invokevirtual 163, 3) := by decide +kernel
theorem dX0_goBack_68 : decode mX0_goBack.2.1 68 = .ok (.istore 4, 2) := by decide +kernel
theorem dX0_goBack_70 : decode mX0_goBack.2.1 70 = .ok (.aload_n 0, 1) := by decide +kernel
theorem dX0_goBack_71 : decode mX0_goBack.2.1 71 = .ok (.invokevirtual 166, 3) := by decide +kernel
theorem dX0_goBack_74 : decode mX0_goBack.2.1 74 = .ok (.iinc 5 1, 3) := by decide +kernel
theorem dX0_goBack_77 : decode mX0_goBack.2.1 77 = .ok (.goto (-45), 3) := by decide +kernel
theorem dX0_goBack_80 : decode mX0_goBack.2.1 80 = .ok (.return_, 1) := by decide +kernel
theorem dX0_seeEnding_0 : decode mX0_seeEnding.2.1 0 = .ok (.aload_n 0, 1) := by decide +kernel
theorem dX0_seeEnding_1 : decode mX0_seeEnding.2.1 1 = .ok (.getfield 41, 3) := by decide +kernel
theorem dX0_seeEnding_4 : decode mX0_seeEnding.2.1 4 = .ok (.getfield 68, 3) := by decide +kernel
theorem dX0_seeEnding_7 : decode mX0_seeEnding.2.1 7 = .ok (.aload_n 0, 1) := by decide +kernel
theorem dX0_seeEnding_8 : decode mX0_seeEnding.2.1 8 = .ok (.getfield 53, 3) := by decide +kernel
theorem dX0_seeEnding_11 : decode mX0_seeEnding.2.1 11 = .ok (.getfield 57, 3) := by decide +kernel
theorem dX0_seeEnding_14 : decode mX0_seeEnding.2.1 14 = .ok (.if_icmp .ge 24, 3) := by decide +kernel
theorem dX0_seeEnding_17 : decode mX0_seeEnding.2.1 17 = .ok (.aload_n 0, 1) := by decide +kernel
theorem dX0_seeEnding_18 : decode mX0_seeEnding.2.1 18 = .ok (.aload_n 0, 1) := by decide +kernel
theorem dX0_seeEnding_19 : decode mX0_seeEnding.2.1 19 = .ok (.getfield 53, 3) := by decide +kernel
theorem dX0_seeEnding_22 : decode mX0_seeEnding.2.1 22 = .ok (.iload_n 1, 1) := by decide +kernel
theorem dX0_seeEnding_23 : decode mX0_seeEnding.2.1 23 = .ok (.invokevirtual 69, 3) := by decide +kernel
theorem dX0_seeEnding_26 : decode mX0_seeEnding.2.1 26 = .ok (.aload_n 0, 1) := by decide +kernel
theorem dX0_seeEnding_27 : decode mX0_seeEnding.2.1 27 = .ok (.getfield 41, 3) := by decide +kernel
theorem dX0_seeEnding_30 : decode mX0_seeEnding.2.1 30 = .ok (.aload_n 0, 1) := by decide +kernel
theorem dX0_seeEnding_31 : decode mX0_seeEnding.2.1 31 = .ok (.getfield 28, 3) := by decide +kernel
theorem dX0_seeEnding_34 : decode mX0_seeEnding.2.1 34 = .ok (.invokevirtual 73, 3) := by decide +kernel
theorem dX0_seeEnding_37 : decode mX0_seeEnding.2.1 37 = .ok (.pop, 1) := by decide +kernel
theorem dX0_seeEnding_38 : decode mX0_seeEnding.2.1 38 = .ok (.return_, 1) := by decide +kernel
theorem dX0_goForth_0 : decode mX0_goForth.2.1 0 = .ok (.aload_n 0, 1) := by decide +kernel
theorem dX0_goForth_1 : decode mX0_goForth.2.1 1 = .ok (.getfield 34, 3) := by decide +kernel
theorem dX0_goForth_4 : decode mX0_goForth.2.1 4 = .ok (.iload_n 1, 1) := by decide +kernel
theorem dX0_goForth_5 : decode mX0_goForth.2.1 5 = .ok (.invokevirtual 156, 3) := by decide +kernel
theorem dX0_goForth_8 : decode mX0_goForth.2.1 8 = .ok (.istore_n 2, 1) := by decide +kernel
theorem dX0_goForth_9 : decode mX0_goForth.2.1 9 = .ok (.iload_n 1, 1) := by decide +kernel
theorem dX0_goForth_10 : decode mX0_goForth.2.1 10 = .ok (.istore_n 3, 1) := by decide +kernel
theorem dX0_goForth_11 : decode mX0_goForth.2.1 11 = .ok (.iload_n 2, 1) := by decide +kernel
theorem dX0_goForth_12 : decode mX0_goForth.2.1 12 = .ok (.iconst 1, 1) := by decide +kernel
theorem dX0_goForth_13 : decode mX0_goForth.2.1 13 = .ok (.isub, 1) := by decide +kernel
theorem dX0_goForth_14 : decode mX0_goForth.2.1 14 = .ok (.istore 4, 2) := by decide +kernel
theorem dX0_goForth_16 : decode mX0_goForth.2.1 16 = .ok (.iload 4, 2) := by decide +kernel
theorem dX0_goForth_18 : decode mX0_goForth.2.1 18 = .ok (.ifCond .lt 33, 3) := by decide +kernel
theorem dX0_goForth_21 : decode mX0_goForth.2.1 21 = .ok (.aload_n 0, 1) := by decide +kernel
theorem dX0_goForth_22 : decode mX0_goForth.2.1 22 = .ok (.getfield 25, 3) := by decide +kernel
theorem dX0_goForth_25 : decode mX0_goForth.2.1 25 = .ok (.iload 4, 2) := by decide +kernel
theorem dX0_goForth_27 : decode mX0_goForth.2.1 27 = .ok (.aload_n 0, 1) := by decide +kernel
theorem dX0_goForth_28 : decode mX0_goForth.2.1 28 = .ok (.getfield 34, 3) := by decide +kernel
theorem dX0_goForth_31 : decode mX0_goForth.2.1 31 = .ok (.iload_n 3, 1) := by decide +kernel
theorem dX0_goForth_32 : decode mX0_goForth.2.1 32 = .ok (.invokevirtual 160, 3) := by decide +kernel
theorem dX0_goForth_35 : decode mX0_goForth.2.1 35 = .ok (.iastore, 1) := by decide +kernel
theorem dX0_goForth_36 : decode mX0_goForth.2.1 36 = .ok (.aload_n 0, 1) := by decide +kernel
theorem dX0_goForth_37 : decode mX0_goForth.2.1 37 = .ok (.getfield 34, 3) := by decide +kernel
theorem dX0_goForth_40 : decode mX0_goForth.2.1 40 = .ok (.iload_n 3, 1) := by decide +kernel
theorem dX0_goForth_41 : decode mX0_goForth.2.1 41 = .ok (.invokevirtual 163, 3) := by decide +kernel
theorem dX0_goForth_44 : decode mX0_goForth.2.1 44 = .ok (.istore_n 3, 1) := by decide +kernel
theorem dX0_goForth_45 : decode mX0_goForth.2.1 45 = .ok (.iinc 4 (-1), 3) := by decide +kernel
theorem dX0_goForth_48 : decode mX0_goForth.2.1 48 = .ok (.goto (-32), 3) := by decide +kernel
theorem dX0_goForth_51 : decode mX0_goForth.2.1 51 = .ok (.aload_n 0, 1) := by decide +kernel
theorem dX0_goForth_52 : decode mX0_goForth.2.1 52 = .ok (.getfield 53, 3) := by decide +kernel
theorem dX0_goForth_55 : decode mX0_goForth.2.1 55 = .ok (.getfield 119, 3) := by decide +kernel
theorem dX0_goForth_58 : decode mX0_goForth.2.1 58 = .ok (.iconst 0, 1) := by decide +kernel
theorem dX0_goForth_59 : decode mX0_goForth.2.1 59 = .ok (.aload_n 0, 1) := by decide +kernel
theorem dX0_goForth_60 : decode mX0_goForth.2.1 60 = .ok (.getfield 28, 3) := by decide +kernel
theorem dX0_goForth_63 : decode mX0_goForth.2.1 63 = .ok (.iconst 0, 1) := by decide +kernel
theorem dX0_goForth_64 : decode mX0_goForth.2.1 64 = .ok (.aload_n 0, 1) := by decide +kernel
theorem dX0_goForth_65 : decode mX0_goForth.2.1 65 = .ok (.getfield 53, 3) := by decide +kernel
theorem dX0_goForth_68 : decode mX0_goForth.2.1 68 = .ok (.getfield 57, 3) := by decide +kernel
theorem dX0_goForth_71 : decode mX0_goForth.2.1 71 = .ok (.invokestatic 113, 3) := by decide +kernel
theorem dX0_goForth_74 : decode mX0_goForth.2.1 74 = .ok (.iconst 0, 1) := by decide +kernel
theorem dX0_goForth_75 : decode mX0_goForth.2.1 75 = .ok (.istore 4, 2) := by decide +kernel
theorem dX0_goForth_77 : decode mX0_goForth.2.1 77 = .ok (.iload 4, 2) := by decide +kernel
theorem dX0_goForth_79 : decode mX0_goForth.2.1 79 = .ok (.iload_n 2, 1) := by decide +kernel
theorem dX0_goForth_80 : decode mX0_goForth.2.1 80 = .ok (.if_icmp .ge 35, 3) := by decide +kernel
theorem dX0_goForth_83 : decode mX0_goForth.2.1 83 = .ok (.aload_n 0, 1) := by decide +kernel
theorem dX0_goForth_84 : decode mX0_goForth.2.1 84 = .ok (.getfield 53, 3) := by decide +kernel
theorem dX0_goForth_87 : decode mX0_goForth.2.1 87 = .ok (.aload_n 0, 1) := by decide +kernel
theorem dX0_goForth_88 : decode mX0_goForth.2.1 88 = .ok (.getfield 28, 3) := by decide +kernel
theorem dX0_goForth_91 : decode mX0_goForth.2.1 91 = .ok (.aload_n 0, 1) := by decide +kernel
theorem dX0_goForth_92 : decode mX0_goForth.2.1 92 = .ok (.getfield 25, 3) := by decide +kernel
theorem dX0_goForth_95 : decode mX0_goForth.2.1 95 = .ok (.iload 4, 2) := by decide +kernel
theorem dX0_goForth_97 : decode mX0_goForth.2.1 97 = .ok (.iaload, 1) := by decide +kernel
theorem dX0_goForth_98 : decode mX0_goForth.2.1 98 = .ok (.aload_n 0, 1) := by decide +kernel
theorem dX0_goForth_99 : decode mX0_goForth.2.1 99 = .ok (.getfield 31, 3) := by decide +kernel
theorem dX0_goForth_102 : decode mX0_goForth.2.1 102 = .ok (.invokevirtual 122, 3) := by decide +kernel
theorem dX0_goForth_105 : decode mX0_goForth.2.1 105 = .ok (.aload_n 0, 1) := by decide +kernel
theorem dX0_goForth_106 : decode mX0_goForth.2.1 106 = .ok (.invokevirtual 166, 3) := by decide +kernel
theorem dX0_goForth_109 : decode mX0_goForth.2.1 109 = .ok (.iinc 4 1, 3) := by decide +kernel
theorem dX0_goForth_112 : decode mX0_goForth.2.1 112 = .ok (.goto (-35), 3) := by decide +kernel
theorem dX0_goForth_115 : decode mX0_goForth.2.1 115 = .ok (.return_, 1) := by decide +kernel
theorem dX0_offer_0 : decode mX0_offer.2.1 0 = .ok (.aload_n 0, 1) := by decide +kernel
theorem dX0_offer_1 : decode mX0_offer.2.1 1 = .ok (.iload_n 1, 1) := by decide +kernel
theorem dX0_offer_2 : decode mX0_offer.2.1 2 = .ok (.invokevirtual 104, 3) := by decide +kernel
theorem dX0_offer_5 : decode mX0_offer.2.1 5 = .ok (.aload_n 0, 1) := by decide +kernel
theorem dX0_offer_6 : decode mX0_offer.2.1 6 = .ok (.iload_n 1, 1) := by decide +kernel
theorem dX0_offer_7 : decode mX0_offer.2.1 7 = .ok (.invokevirtual 107, 3) := by decide +kernel
theorem dX0_offer_10 : decode mX0_offer.2.1 10 = .ok (.return_, 1) := by decide +kernel
theorem dX9_layTable_0 : decode mX9_layTable.2.1 0 = .ok (.aload_n 0, 1) := by decide +kernel
theorem dX9_layTable_1 : decode mX9_layTable.2.1 1 = .ok (.getfield 49, 3) := by decide +kernel
theorem dX9_layTable_4 : decode mX9_layTable.2.1 4 = .ok (.aload_n 0, 1) := by decide +kernel
theorem dX9_layTable_5 : decode mX9_layTable.2.1 5 = .ok (.getfield 28, 3) := by decide +kernel
theorem dX9_layTable_8 : decode mX9_layTable.2.1 8 = .ok (.getfield 110, 3) := by decide +kernel
theorem dX9_layTable_11 : decode mX9_layTable.2.1 11 = .ok (.invokevirtual 356, 3) := by decide +kernel
theorem dX9_layTable_14 : decode mX9_layTable.2.1 14 = .ok (.iconst 0, 1) := by decide +kernel
theorem dX9_layTable_15 : decode mX9_layTable.2.1 15 = .ok (.istore_n 1, 1) := by decide +kernel
theorem dX9_layTable_16 : decode mX9_layTable.2.1 16 = .ok (.iload_n 1, 1) := by decide +kernel
theorem dX9_layTable_17 : decode mX9_layTable.2.1 17 = .ok (.aload_n 0, 1) := by decide +kernel
theorem dX9_layTable_18 : decode mX9_layTable.2.1 18 = .ok (.getfield 28, 3) := by decide +kernel
theorem dX9_layTable_21 : decode mX9_layTable.2.1 21 = .ok (.getfield 148, 3) := by decide +kernel
theorem dX9_layTable_24 : decode mX9_layTable.2.1 24 = .ok (.if_icmp .ge 25, 3) := by decide +kernel
theorem dX9_layTable_27 : decode mX9_layTable.2.1 27 = .ok (.aload_n 0, 1) := by decide +kernel
theorem dX9_layTable_28 : decode mX9_layTable.2.1 28 = .ok (.getfield 49, 3) := by decide +kernel
theorem dX9_layTable_31 : decode mX9_layTable.2.1 31 = .ok (.aload_n 0, 1) := by decide +kernel
theorem dX9_layTable_32 : decode mX9_layTable.2.1 32 = .ok (.getfield 28, 3) := by decide +kernel
theorem dX9_layTable_35 : decode mX9_layTable.2.1 35 = .ok (.getfield 237, 3) := by decide +kernel
theorem dX9_layTable_38 : decode mX9_layTable.2.1 38 = .ok (.iload_n 1, 1) := by decide +kernel
theorem dX9_layTable_39 : decode mX9_layTable.2.1 39 = .ok (.iaload, 1) := by decide +kernel
theorem dX9_layTable_40 : decode mX9_layTable.2.1 40 = .ok (.invokevirtual 359, 3) := by decide +kernel
theorem dX9_layTable_43 : decode mX9_layTable.2.1 43 = .ok (.iinc 1 1, 3) := by decide +kernel
theorem dX9_layTable_46 : decode mX9_layTable.2.1 46 = .ok (.goto (-30), 3) := by decide +kernel
theorem dX9_layTable_49 : decode mX9_layTable.2.1 49 = .ok (.aload_n 0, 1) := by decide +kernel
theorem dX9_layTable_50 : decode mX9_layTable.2.1 50 = .ok (.getfield 49, 3) := by decide +kernel
theorem dX9_layTable_53 : decode mX9_layTable.2.1 53 = .ok (.invokevirtual 362, 3) := by decide +kernel
theorem dX9_layTable_56 : decode mX9_layTable.2.1 56 = .ok (.iconst 0, 1) := by decide +kernel
theorem dX9_layTable_57 : decode mX9_layTable.2.1 57 = .ok (.istore_n 1, 1) := by decide +kernel
theorem dX9_layTable_58 : decode mX9_layTable.2.1 58 = .ok (.iload_n 1, 1) := by decide +kernel
theorem dX9_layTable_59 : decode mX9_layTable.2.1 59 = .ok (.aload_n 0, 1) := by decide +kernel
theorem dX9_layTable_60 : decode mX9_layTable.2.1 60 = .ok (.getfield 28, 3) := by decide +kernel
theorem dX9_layTable_63 : decode mX9_layTable.2.1 63 = .ok (.getfield 145, 3) := by decide +kernel
theorem dX9_layTable_66 : decode mX9_layTable.2.1 66 = .ok (.if_icmp .ge 25, 3) := by decide +kernel
theorem dX9_layTable_69 : decode mX9_layTable.2.1 69 = .ok (.aload_n 0, 1) := by decide +kernel
theorem dX9_layTable_70 : decode mX9_layTable.2.1 70 = .ok (.getfield 49, 3) := by decide +kernel
theorem dX9_layTable_73 : decode mX9_layTable.2.1 73 = .ok (.aload_n 0, 1) := by decide +kernel
theorem dX9_layTable_74 : decode mX9_layTable.2.1 74 = .ok (.getfield 28, 3) := by decide +kernel
theorem dX9_layTable_77 : decode mX9_layTable.2.1 77 = .ok (.getfield 234, 3) := by decide +kernel
theorem dX9_layTable_80 : decode mX9_layTable.2.1 80 = .ok (.iload_n 1, 1) := by decide +kernel
theorem dX9_layTable_81 : decode mX9_layTable.2.1 81 = .ok (.iaload, 1) := by decide +kernel
theorem dX9_layTable_82 : decode mX9_layTable.2.1 82 = .ok (.invokevirtual 365, 3) := by decide +kernel
theorem dX9_layTable_85 : decode mX9_layTable.2.1 85 = .ok (.iinc 1 1, 3) := by decide +kernel
theorem dX9_layTable_88 : decode mX9_layTable.2.1 88 = .ok (.goto (-30), 3) := by decide +kernel
theorem dX9_layTable_91 : decode mX9_layTable.2.1 91 = .ok (.return_, 1) := by decide +kernel
theorem dX9_isClosed_0 : decode mX9_isClosed.2.1 0 = .ok (.aload_n 0, 1) := by decide +kernel
theorem dX9_isClosed_1 : decode mX9_isClosed.2.1 1 = .ok (.invokevirtual 249, 3) := by decide +kernel
theorem dX9_isClosed_4 : decode mX9_isClosed.2.1 4 = .ok (.aload_n 0, 1) := by decide +kernel
theorem dX9_isClosed_5 : decode mX9_isClosed.2.1 5 = .ok (.getfield 49, 3) := by decide +kernel
theorem dX9_isClosed_8 : decode mX9_isClosed.2.1 8 = .ok (.invokevirtual 205, 3) := by decide +kernel
theorem dX9_isClosed_11 : decode mX9_isClosed.2.1 11 = .ok (.ifCond .ne 7, 3) := by decide +kernel
theorem dX9_isClosed_14 : decode mX9_isClosed.2.1 14 = .ok (.iconst 1, 1) := by decide +kernel
theorem dX9_isClosed_15 : decode mX9_isClosed.2.1 15 = .ok (.goto 4, 3) := by decide +kernel
theorem dX9_isClosed_18 : decode mX9_isClosed.2.1 18 = .ok (.iconst 0, 1) := by decide +kernel
theorem dX9_isClosed_19 : decode mX9_isClosed.2.1 19 = .ok (.ireturn, 1) := by decide +kernel
theorem dX8_unlikeWords_0 : decode mX8_unlikeWords.2.1 0 = .ok (.aload_n 0, 1) := by decide +kernel
theorem dX8_unlikeWords_1 : decode mX8_unlikeWords.2.1 1 = .ok (.getfield 37, 3) := by decide +kernel
theorem dX8_unlikeWords_4 : decode mX8_unlikeWords.2.1 4 = .ok (.ifCond .ne 5, 3) := by decide +kernel
theorem dX8_unlikeWords_7 : decode mX8_unlikeWords.2.1 7 = .ok (.iconst 0, 1) := by decide +kernel
theorem dX8_unlikeWords_8 : decode mX8_unlikeWords.2.1 8 = .ok (.ireturn, 1) := by decide +kernel
theorem dX8_unlikeWords_9 : decode mX8_unlikeWords.2.1 9 = .ok (.aload_n 0, 1) := by decide +kernel
theorem dX8_unlikeWords_10 : decode mX8_unlikeWords.2.1 10 = .ok (.getfield 41, 3) := by decide +kernel
theorem dX8_unlikeWords_13 : decode mX8_unlikeWords.2.1 13 = .ok (.aload_n 0, 1) := by decide +kernel
theorem dX8_unlikeWords_14 : decode mX8_unlikeWords.2.1 14 = .ok (.getfield 37, 3) := by decide +kernel
theorem dX8_unlikeWords_17 : decode mX8_unlikeWords.2.1 17 = .ok (.iload_n 1, 1) := by decide +kernel
theorem dX8_unlikeWords_18 : decode mX8_unlikeWords.2.1 18 = .ok (.aload_n 0, 1) := by decide +kernel
theorem dX8_unlikeWords_19 : decode mX8_unlikeWords.2.1 19 = .ok (.getfield 41, 3) := by decide +kernel
theorem dX8_unlikeWords_22 : decode mX8_unlikeWords.2.1 22 = .ok (.imul, 1) := by decide +kernel
theorem dX8_unlikeWords_23 : decode mX8_unlikeWords.2.1 23 = .ok (.aload_n 0, 1) := by decide +kernel
theorem dX8_unlikeWords_24 : decode mX8_unlikeWords.2.1 24 = .ok (.getfield 41, 3) := by decide +kernel
theorem dX8_unlikeWords_27 : decode mX8_unlikeWords.2.1 27 = .ok (.iconst 1, 1) := by decide +kernel
theorem dX8_unlikeWords_28 : decode mX8_unlikeWords.2.1 28 = .ok (.isub, 1) := by decide +kernel
theorem dX8_unlikeWords_29 : decode mX8_unlikeWords.2.1 29 = .ok (.isub, 1) := by decide +kernel
theorem dX8_unlikeWords_30 : decode mX8_unlikeWords.2.1 30 = .ok (.imul, 1) := by decide +kernel
theorem dX8_unlikeWords_31 : decode mX8_unlikeWords.2.1 31 = .ok (.iadd, 1) := by decide +kernel
theorem dX8_unlikeWords_32 : decode mX8_unlikeWords.2.1 32 = .ok (.ireturn, 1) := by decide +kernel
theorem dX9_keptImages_0 : decode mX9_keptImages.2.1 0 = .ok (.iconst 0, 1) := by decide +kernel
theorem dX9_keptImages_1 : decode mX9_keptImages.2.1 1 = .ok (.istore_n 1, 1) := by decide +kernel
theorem dX9_keptImages_2 : decode mX9_keptImages.2.1 2 = .ok (.iconst 0, 1) := by decide +kernel
theorem dX9_keptImages_3 : decode mX9_keptImages.2.1 3 = .ok (.istore_n 2, 1) := by decide +kernel
theorem dX9_keptImages_4 : decode mX9_keptImages.2.1 4 = .ok (.iload_n 2, 1) := by decide +kernel
theorem dX9_keptImages_5 : decode mX9_keptImages.2.1 5 = .ok (.iconst 2, 1) := by decide +kernel
theorem dX9_keptImages_6 : decode mX9_keptImages.2.1 6 = .ok (.if_icmp .ge 26, 3) := by decide +kernel
theorem dX9_keptImages_9 : decode mX9_keptImages.2.1 9 = .ok (.iload_n 1, 1) := by decide +kernel
theorem dX9_keptImages_10 : decode mX9_keptImages.2.1 10 = .ok (.aload_n 0, 1) := by decide +kernel
theorem dX9_keptImages_11 : decode mX9_keptImages.2.1 11 = .ok (.getfield 36, 3) := by decide +kernel
theorem dX9_keptImages_14 : decode mX9_keptImages.2.1 14 = .ok (.iload_n 2, 1) := by decide +kernel
theorem dX9_keptImages_15 : decode mX9_keptImages.2.1 15 = .ok (.baload, 1) := by decide +kernel
theorem dX9_keptImages_16 : decode mX9_keptImages.2.1 16 = .ok (.ifCond .eq 7, 3) := by decide +kernel
theorem dX9_keptImages_19 : decode mX9_keptImages.2.1 19 = .ok (.iconst 1, 1) := by decide +kernel
theorem dX9_keptImages_20 : decode mX9_keptImages.2.1 20 = .ok (.goto 4, 3) := by decide +kernel
theorem dX9_keptImages_23 : decode mX9_keptImages.2.1 23 = .ok (.iconst 0, 1) := by decide +kernel
theorem dX9_keptImages_24 : decode mX9_keptImages.2.1 24 = .ok (.iadd, 1) := by decide +kernel
theorem dX9_keptImages_25 : decode mX9_keptImages.2.1 25 = .ok (.istore_n 1, 1) := by decide +kernel
theorem dX9_keptImages_26 : decode mX9_keptImages.2.1 26 = .ok (.iinc 2 1, 3) := by decide +kernel
theorem dX9_keptImages_29 : decode mX9_keptImages.2.1 29 = .ok (.goto (-25), 3) := by decide +kernel
theorem dX9_keptImages_32 : decode mX9_keptImages.2.1 32 = .ok (.iload_n 1, 1) := by decide +kernel
theorem dX9_keptImages_33 : decode mX9_keptImages.2.1 33 = .ok (.ireturn, 1) := by decide +kernel
theorem dX9_standingShelves_0 : decode mX9_standingShelves.2.1 0 = .ok (.iconst 0, 1) := by decide +kernel
theorem dX9_standingShelves_1 : decode mX9_standingShelves.2.1 1 = .ok (.istore_n 1, 1) := by decide +kernel
theorem dX9_standingShelves_2 : decode mX9_standingShelves.2.1 2 = .ok (.iconst 0, 1) := by decide +kernel
theorem dX9_standingShelves_3 : decode mX9_standingShelves.2.1 3 = .ok (.istore_n 2, 1) := by decide +kernel
theorem dX9_standingShelves_4 : decode mX9_standingShelves.2.1 4 = .ok (.iload_n 2, 1) := by decide +kernel
theorem dX9_standingShelves_5 : decode mX9_standingShelves.2.1 5 = .ok (.iconst 3, 1) := by decide +kernel
theorem dX9_standingShelves_6 : decode mX9_standingShelves.2.1 6 = .ok (.if_icmp .ge 30, 3) := by decide +kernel
theorem dX9_standingShelves_9 : decode mX9_standingShelves.2.1 9 = .ok (.iload_n 1, 1) := by decide +kernel
theorem dX9_standingShelves_10 : decode mX9_standingShelves.2.1 10 = .ok (.aload_n 0, 1) := by decide +kernel
theorem dX9_standingShelves_11 : decode mX9_standingShelves.2.1 11 = .ok (.getfield 42, 3) := by decide +kernel
theorem dX9_standingShelves_14 : decode mX9_standingShelves.2.1 14 = .ok (.iload_n 2, 1) := by decide +kernel
theorem dX9_standingShelves_15 : decode mX9_standingShelves.2.1 15 = .ok (.aaload, 1) := by decide +kernel
theorem dX9_standingShelves_16 : decode mX9_standingShelves.2.1 16 = .ok (.getfield 343, 3) := by decide +kernel
theorem dX9_standingShelves_19 : decode mX9_standingShelves.2.1 19 = .ok (.iconst (-1), 1) := by decide +kernel
theorem dX9_standingShelves_20 : decode mX9_standingShelves.2.1 20 = .ok (.if_icmp .ne 7, 3) := by decide +kernel
theorem dX9_standingShelves_23 : decode mX9_standingShelves.2.1 23 = .ok (.iconst 0, 1) := by decide +kernel
theorem dX9_standingShelves_24 : decode mX9_standingShelves.2.1 24 = .ok (.goto 4, 3) := by decide +kernel
theorem dX9_standingShelves_27 : decode mX9_standingShelves.2.1 27 = .ok (.iconst 1, 1) := by decide +kernel
theorem dX9_standingShelves_28 : decode mX9_standingShelves.2.1 28 = .ok (.iadd, 1) := by decide +kernel
theorem dX9_standingShelves_29 : decode mX9_standingShelves.2.1 29 = .ok (.istore_n 1, 1) := by decide +kernel
theorem dX9_standingShelves_30 : decode mX9_standingShelves.2.1 30 = .ok (.iinc 2 1, 3) := by decide +kernel
theorem dX9_standingShelves_33 : decode mX9_standingShelves.2.1 33 = .ok (.goto (-29), 3) := by decide +kernel
theorem dX9_standingShelves_36 : decode mX9_standingShelves.2.1 36 = .ok (.iload_n 1, 1) := by decide +kernel
theorem dX9_standingShelves_37 : decode mX9_standingShelves.2.1 37 = .ok (.ireturn, 1) := by decide +kernel
theorem dX9_rule_0 : decode mX9_rule.2.1 0 = .ok (.iload_n 1, 1) := by decide +kernel
theorem dX9_rule_1 : decode mX9_rule.2.1 1 = .ok (.tableswitch 198 0 12 #[67, 75, 83, 94, 120, 128, 136, 144, 152, 165, 180, 188, 193], 67) := by decide +kernel
theorem dX9_rule_68 : decode mX9_rule.2.1 68 = .ok (.aload_n 0, 1) := by decide +kernel
theorem dX9_rule_69 : decode mX9_rule.2.1 69 = .ok (.getfield 10, 3) := by decide +kernel
theorem dX9_rule_72 : decode mX9_rule.2.1 72 = .ok (.getfield 129, 3) := by decide +kernel
theorem dX9_rule_75 : decode mX9_rule.2.1 75 = .ok (.ireturn, 1) := by decide +kernel
theorem dX9_rule_76 : decode mX9_rule.2.1 76 = .ok (.aload_n 0, 1) := by decide +kernel
theorem dX9_rule_77 : decode mX9_rule.2.1 77 = .ok (.getfield 10, 3) := by decide +kernel
theorem dX9_rule_80 : decode mX9_rule.2.1 80 = .ok (.getfield 130, 3) := by decide +kernel
theorem dX9_rule_83 : decode mX9_rule.2.1 83 = .ok (.ireturn, 1) := by decide +kernel
theorem dX9_rule_84 : decode mX9_rule.2.1 84 = .ok (.aload_n 0, 1) := by decide +kernel
theorem dX9_rule_85 : decode mX9_rule.2.1 85 = .ok (.getfield 28, 3) := by decide +kernel
theorem dX9_rule_88 : decode mX9_rule.2.1 88 = .ok (.getfield 110, 3) := by decide +kernel
theorem dX9_rule_91 : decode mX9_rule.2.1 91 = .ok (.getfield 131, 3) := by decide +kernel
theorem dX9_rule_94 : decode mX9_rule.2.1 94 = .ok (.ireturn, 1) := by decide +kernel
theorem dX9_rule_95 : decode mX9_rule.2.1 95 = .ok (.aload_n 0, 1) := by decide +kernel
theorem dX9_rule_96 : decode mX9_rule.2.1 96 = .ok (.getfield 28, 3) := by decide +kernel
theorem dX9_rule_99 : decode mX9_rule.2.1 99 = .ok (.getfield 134, 3) := by decide +kernel
theorem dX9_rule_102 : decode mX9_rule.2.1 102 = .ok (.ifCond .eq 16, 3) := by decide +kernel
theorem dX9_rule_105 : decode mX9_rule.2.1 105 = .ok (.aload_n 0, 1) := by decide +kernel
theorem dX9_rule_106 : decode mX9_rule.2.1 106 = .ok (.getfield 28, 3) := by decide +kernel
theorem dX9_rule_109 : decode mX9_rule.2.1 109 = .ok (.getfield 138, 3) := by decide +kernel
theorem dX9_rule_112 : decode mX9_rule.2.1 112 = .ok (.getfield 131, 3) := by decide +kernel
theorem dX9_rule_115 : decode mX9_rule.2.1 115 = .ok (.goto 5, 3) := by decide +kernel
theorem dX9_rule_118 : decode mX9_rule.2.1 118 = .ok (.bipush (-4), 2) := by decide +kernel
theorem dX9_rule_120 : decode mX9_rule.2.1 120 = .ok (.ireturn, 1) := by decide +kernel
theorem dX9_rule_121 : decode mX9_rule.2.1 121 = .ok (.aload_n 0, 1) := by decide +kernel
theorem dX9_rule_122 : decode mX9_rule.2.1 122 = .ok (.invokevirtual 141, 3) := by decide +kernel
theorem dX9_rule_125 : decode mX9_rule.2.1 125 = .ok (.getfield 131, 3) := by decide +kernel
theorem dX9_rule_128 : decode mX9_rule.2.1 128 = .ok (.ireturn, 1) := by decide +kernel
theorem dX9_rule_129 : decode mX9_rule.2.1 129 = .ok (.aload_n 0, 1) := by decide +kernel
theorem dX9_rule_130 : decode mX9_rule.2.1 130 = .ok (.getfield 28, 3) := by decide +kernel
theorem dX9_rule_133 : decode mX9_rule.2.1 133 = .ok (.getfield 145, 3) := by decide +kernel
theorem dX9_rule_136 : decode mX9_rule.2.1 136 = .ok (.ireturn, 1) := by decide +kernel
theorem dX9_rule_137 : decode mX9_rule.2.1 137 = .ok (.aload_n 0, 1) := by decide +kernel
theorem dX9_rule_138 : decode mX9_rule.2.1 138 = .ok (.getfield 28, 3) := by decide +kernel
theorem dX9_rule_141 : decode mX9_rule.2.1 141 = .ok (.getfield 148, 3) := by decide +kernel
theorem dX9_rule_144 : decode mX9_rule.2.1 144 = .ok (.ireturn, 1) := by decide +kernel
theorem dX9_rule_145 : decode mX9_rule.2.1 145 = .ok (.aload_n 0, 1) := by decide +kernel
theorem dX9_rule_146 : decode mX9_rule.2.1 146 = .ok (.getfield 28, 3) := by decide +kernel
theorem dX9_rule_149 : decode mX9_rule.2.1 149 = .ok (.getfield 151, 3) := by decide +kernel
theorem dX9_rule_152 : decode mX9_rule.2.1 152 = .ok (.ireturn, 1) := by decide +kernel
theorem dX9_rule_153 : decode mX9_rule.2.1 153 = .ok (.aload_n 0, 1) := by decide +kernel
theorem dX9_rule_154 : decode mX9_rule.2.1 154 = .ok (.invokevirtual 154, 3) := by decide +kernel
theorem dX9_rule_157 : decode mX9_rule.2.1 157 = .ok (.ifCond .eq 7, 3) := by decide +kernel
theorem dX9_rule_160 : decode mX9_rule.2.1 160 = .ok (.iconst 1, 1) := by decide +kernel
theorem dX9_rule_161 : decode mX9_rule.2.1 161 = .ok (.goto 4, 3) := by decide +kernel
theorem dX9_rule_164 : decode mX9_rule.2.1 164 = .ok (.iconst 0, 1) := by decide +kernel
theorem dX9_rule_165 : decode mX9_rule.2.1 165 = .ok (.ireturn, 1) := by decide +kernel
theorem dX9_rule_166 : decode mX9_rule.2.1 166 = .ok (.aload_n 0, 1) := by decide +kernel
theorem dX9_rule_167 : decode mX9_rule.2.1 167 = .ok (.getfield 28, 3) := by decide +kernel
theorem dX9_rule_170 : decode mX9_rule.2.1 170 = .ok (.aload_n 0, 1) := by decide +kernel
theorem dX9_rule_171 : decode mX9_rule.2.1 171 = .ok (.getfield 10, 3) := by decide +kernel
theorem dX9_rule_174 : decode mX9_rule.2.1 174 = .ok (.getfield 130, 3) := by decide +kernel
theorem dX9_rule_177 : decode mX9_rule.2.1 177 = .ok (.invokevirtual 158, 3) := by decide +kernel
theorem dX9_rule_180 : decode mX9_rule.2.1 180 = .ok (.ireturn, 1) := by decide +kernel
theorem dX9_rule_181 : decode mX9_rule.2.1 181 = .ok (.aload_n 0, 1) := by decide +kernel
theorem dX9_rule_182 : decode mX9_rule.2.1 182 = .ok (.getfield 21, 3) := by decide +kernel
theorem dX9_rule_185 : decode mX9_rule.2.1 185 = .ok (.getfield 83, 3) := by decide +kernel
theorem dX9_rule_188 : decode mX9_rule.2.1 188 = .ok (.ireturn, 1) := by decide +kernel
theorem dX9_rule_189 : decode mX9_rule.2.1 189 = .ok (.aload_n 0, 1) := by decide +kernel
theorem dX9_rule_190 : decode mX9_rule.2.1 190 = .ok (.invokevirtual 162, 3) := by decide +kernel
theorem dX9_rule_193 : decode mX9_rule.2.1 193 = .ok (.ireturn, 1) := by decide +kernel
theorem dX9_rule_194 : decode mX9_rule.2.1 194 = .ok (.aload_n 0, 1) := by decide +kernel
theorem dX9_rule_195 : decode mX9_rule.2.1 195 = .ok (.invokevirtual 165, 3) := by decide +kernel
theorem dX9_rule_198 : decode mX9_rule.2.1 198 = .ok (.ireturn, 1) := by decide +kernel
theorem dX9_rule_199 : decode mX9_rule.2.1 199 = .ok (.iconst (-1), 1) := by decide +kernel
theorem dX9_rule_200 : decode mX9_rule.2.1 200 = .ok (.ireturn, 1) := by decide +kernel
theorem dX9_isMachine_0 : decode mX9_isMachine.2.1 0 = .ok (.iload_n 0, 1) := by decide +kernel
theorem dX9_isMachine_1 : decode mX9_isMachine.2.1 1 = .ok (.ifCond .lt 12, 3) := by decide +kernel
theorem dX9_isMachine_4 : decode mX9_isMachine.2.1 4 = .ok (.iload_n 0, 1) := by decide +kernel
theorem dX9_isMachine_5 : decode mX9_isMachine.2.1 5 = .ok (.iconst 2, 1) := by decide +kernel
theorem dX9_isMachine_6 : decode mX9_isMachine.2.1 6 = .ok (.if_icmp .gt 7, 3) := by decide +kernel
theorem dX9_isMachine_9 : decode mX9_isMachine.2.1 9 = .ok (.iconst 1, 1) := by decide +kernel
theorem dX9_isMachine_10 : decode mX9_isMachine.2.1 10 = .ok (.goto 4, 3) := by decide +kernel
theorem dX9_isMachine_13 : decode mX9_isMachine.2.1 13 = .ok (.iconst 0, 1) := by decide +kernel
theorem dX9_isMachine_14 : decode mX9_isMachine.2.1 14 = .ok (.ireturn, 1) := by decide +kernel
theorem dX9_machineOf_0 : decode mX9_machineOf.2.1 0 = .ok (.iload_n 1, 1) := by decide +kernel
theorem dX9_machineOf_1 : decode mX9_machineOf.2.1 1 = .ok (.ifCond .ne 11, 3) := by decide +kernel
theorem dX9_machineOf_4 : decode mX9_machineOf.2.1 4 = .ok (.aload_n 0, 1) := by decide +kernel
theorem dX9_machineOf_5 : decode mX9_machineOf.2.1 5 = .ok (.getfield 28, 3) := by decide +kernel
theorem dX9_machineOf_8 : decode mX9_machineOf.2.1 8 = .ok (.getfield 110, 3) := by decide +kernel
theorem dX9_machineOf_11 : decode mX9_machineOf.2.1 11 = .ok (.areturn, 1) := by decide +kernel
theorem dX9_machineOf_12 : decode mX9_machineOf.2.1 12 = .ok (.iload_n 1, 1) := by decide +kernel
theorem dX9_machineOf_13 : decode mX9_machineOf.2.1 13 = .ok (.iconst 1, 1) := by decide +kernel
theorem dX9_machineOf_14 : decode mX9_machineOf.2.1 14 = .ok (.if_icmp .ne 25, 3) := by decide +kernel
theorem dX9_machineOf_17 : decode mX9_machineOf.2.1 17 = .ok (.aload_n 0, 1) := by decide +kernel
theorem dX9_machineOf_18 : decode mX9_machineOf.2.1 18 = .ok (.getfield 28, 3) := by decide +kernel
theorem dX9_machineOf_21 : decode mX9_machineOf.2.1 21 = .ok (.getfield 134, 3) := by decide +kernel
theorem dX9_machineOf_24 : decode mX9_machineOf.2.1 24 = .ok (.ifCond .eq 13, 3) := by decide +kernel
theorem dX9_machineOf_27 : decode mX9_machineOf.2.1 27 = .ok (.aload_n 0, 1) := by decide +kernel
theorem dX9_machineOf_28 : decode mX9_machineOf.2.1 28 = .ok (.getfield 28, 3) := by decide +kernel
theorem dX9_machineOf_31 : decode mX9_machineOf.2.1 31 = .ok (.getfield 138, 3) := by decide +kernel
theorem dX9_machineOf_34 : decode mX9_machineOf.2.1 34 = .ok (.goto 4, 3) := by decide +kernel
theorem dX9_machineOf_37 : decode mX9_machineOf.2.1 37 = .ok (.aconst_null, 1) := by decide +kernel
theorem dX9_machineOf_38 : decode mX9_machineOf.2.1 38 = .ok (.areturn, 1) := by decide +kernel
theorem dX9_machineOf_39 : decode mX9_machineOf.2.1 39 = .ok (.aload_n 0, 1) := by decide +kernel
theorem dX9_machineOf_40 : decode mX9_machineOf.2.1 40 = .ok (.invokevirtual 141, 3) := by decide +kernel
theorem dX9_machineOf_43 : decode mX9_machineOf.2.1 43 = .ok (.areturn, 1) := by decide +kernel
theorem dX3_has_0 : decode mX3_has.2.1 0 = .ok (.iload_n 1, 1) := by decide +kernel
theorem dX3_has_1 : decode mX3_has.2.1 1 = .ok (.ifCond .lt 15, 3) := by decide +kernel
theorem dX3_has_4 : decode mX3_has.2.1 4 = .ok (.iload_n 1, 1) := by decide +kernel
theorem dX3_has_5 : decode mX3_has.2.1 5 = .ok (.aload_n 0, 1) := by decide +kernel
theorem dX3_has_6 : decode mX3_has.2.1 6 = .ok (.getfield 31, 3) := by decide +kernel
theorem dX3_has_9 : decode mX3_has.2.1 9 = .ok (.if_icmp .ge 7, 3) := by decide +kernel
theorem dX3_has_12 : decode mX3_has.2.1 12 = .ok (.iconst 1, 1) := by decide +kernel
theorem dX3_has_13 : decode mX3_has.2.1 13 = .ok (.goto 4, 3) := by decide +kernel
theorem dX3_has_16 : decode mX3_has.2.1 16 = .ok (.iconst 0, 1) := by decide +kernel
theorem dX3_has_17 : decode mX3_has.2.1 17 = .ok (.ireturn, 1) := by decide +kernel
theorem dX9_start_0 : decode mX9_start.2.1 0 = .ok (.iload_n 1, 1) := by decide +kernel
theorem dX9_start_1 : decode mX9_start.2.1 1 = .ok (.invokestatic 168, 3) := by decide +kernel
theorem dX9_start_4 : decode mX9_start.2.1 4 = .ok (.ifCond .ne 5, 3) := by decide +kernel
theorem dX9_start_7 : decode mX9_start.2.1 7 = .ok (.iconst (-1), 1) := by decide +kernel
theorem dX9_start_8 : decode mX9_start.2.1 8 = .ok (.ireturn, 1) := by decide +kernel
theorem dX9_start_9 : decode mX9_start.2.1 9 = .ok (.aload_n 0, 1) := by decide +kernel
theorem dX9_start_10 : decode mX9_start.2.1 10 = .ok (.iload_n 1, 1) := by decide +kernel
theorem dX9_start_11 : decode mX9_start.2.1 11 = .ok (.invokevirtual 171, 3) := by decide +kernel
theorem dX9_start_14 : decode mX9_start.2.1 14 = .ok (.astore_n 3, 1) := by decide +kernel
theorem dX9_start_15 : decode mX9_start.2.1 15 = .ok (.aload_n 3, 1) := by decide +kernel
theorem dX9_start_16 : decode mX9_start.2.1 16 = .ok (.ifnonnull 6, 3) := by decide +kernel
theorem dX9_start_19 : decode mX9_start.2.1 19 = .ok (.bipush (-2), 2) := by decide +kernel
theorem dX9_start_21 : decode mX9_start.2.1 21 = .ok (.ireturn, 1) := by decide +kernel
theorem dX9_start_22 : decode mX9_start.2.1 22 = .ok (.aload_n 3, 1) := by decide +kernel
theorem dX9_start_23 : decode mX9_start.2.1 23 = .ok (.iload_n 2, 1) := by decide +kernel
theorem dX9_start_24 : decode mX9_start.2.1 24 = .ok (.invokevirtual 175, 3) := by decide +kernel
theorem dX9_start_27 : decode mX9_start.2.1 27 = .ok (.ifCond .eq 12, 3) := by decide +kernel
theorem dX9_start_30 : decode mX9_start.2.1 30 = .ok (.aload_n 3, 1) := by decide +kernel
theorem dX9_start_31 : decode mX9_start.2.1 31 = .ok (.getfield 178, 3) := by decide +kernel
theorem dX9_start_34 : decode mX9_start.2.1 34 = .ok (.iload_n 2, 1) := by decide +kernel
theorem dX9_start_35 : decode mX9_start.2.1 35 = .ok (.iaload, 1) := by decide +kernel
theorem dX9_start_36 : decode mX9_start.2.1 36 = .ok (.goto 4, 3) := by decide +kernel
theorem dX9_start_39 : decode mX9_start.2.1 39 = .ok (.iconst (-1), 1) := by decide +kernel
theorem dX9_start_40 : decode mX9_start.2.1 40 = .ok (.ireturn, 1) := by decide +kernel
theorem dX9_finish_0 : decode mX9_finish.2.1 0 = .ok (.iload_n 1, 1) := by decide +kernel
theorem dX9_finish_1 : decode mX9_finish.2.1 1 = .ok (.invokestatic 168, 3) := by decide +kernel
theorem dX9_finish_4 : decode mX9_finish.2.1 4 = .ok (.ifCond .ne 5, 3) := by decide +kernel
theorem dX9_finish_7 : decode mX9_finish.2.1 7 = .ok (.iconst (-1), 1) := by decide +kernel
theorem dX9_finish_8 : decode mX9_finish.2.1 8 = .ok (.ireturn, 1) := by decide +kernel
theorem dX9_finish_9 : decode mX9_finish.2.1 9 = .ok (.aload_n 0, 1) := by decide +kernel
theorem dX9_finish_10 : decode mX9_finish.2.1 10 = .ok (.iload_n 1, 1) := by decide +kernel
theorem dX9_finish_11 : decode mX9_finish.2.1 11 = .ok (.invokevirtual 171, 3) := by decide +kernel
theorem dX9_finish_14 : decode mX9_finish.2.1 14 = .ok (.astore_n 3, 1) := by decide +kernel
theorem dX9_finish_15 : decode mX9_finish.2.1 15 = .ok (.aload_n 3, 1) := by decide +kernel
theorem dX9_finish_16 : decode mX9_finish.2.1 16 = .ok (.ifnonnull 6, 3) := by decide +kernel
theorem dX9_finish_19 : decode mX9_finish.2.1 19 = .ok (.bipush (-2), 2) := by decide +kernel
theorem dX9_finish_21 : decode mX9_finish.2.1 21 = .ok (.ireturn, 1) := by decide +kernel
theorem dX9_finish_22 : decode mX9_finish.2.1 22 = .ok (.aload_n 3, 1) := by decide +kernel
theorem dX9_finish_23 : decode mX9_finish.2.1 23 = .ok (.iload_n 2, 1) := by decide +kernel
theorem dX9_finish_24 : decode mX9_finish.2.1 24 = .ok (.invokevirtual 175, 3) := by decide +kernel
theorem dX9_finish_27 : decode mX9_finish.2.1 27 = .ok (.ifCond .eq 12, 3) := by decide +kernel
theorem dX9_finish_30 : decode mX9_finish.2.1 30 = .ok (.aload_n 3, 1) := by decide +kernel
theorem dX9_finish_31 : decode mX9_finish.2.1 31 = .ok (.getfield 181, 3) := by decide +kernel
theorem dX9_finish_34 : decode mX9_finish.2.1 34 = .ok (.iload_n 2, 1) := by decide +kernel
theorem dX9_finish_35 : decode mX9_finish.2.1 35 = .ok (.iaload, 1) := by decide +kernel
theorem dX9_finish_36 : decode mX9_finish.2.1 36 = .ok (.goto 4, 3) := by decide +kernel
theorem dX9_finish_39 : decode mX9_finish.2.1 39 = .ok (.iconst (-1), 1) := by decide +kernel
theorem dX9_finish_40 : decode mX9_finish.2.1 40 = .ok (.ireturn, 1) := by decide +kernel
theorem dX5_hasLetter_0 : decode mX5_hasLetter.2.1 0 = .ok (.iload_n 1, 1) := by decide +kernel
theorem dX5_hasLetter_1 : decode mX5_hasLetter.2.1 1 = .ok (.ifCond .lt 15, 3) := by decide +kernel
theorem dX5_hasLetter_4 : decode mX5_hasLetter.2.1 4 = .ok (.iload_n 1, 1) := by decide +kernel
theorem dX5_hasLetter_5 : decode mX5_hasLetter.2.1 5 = .ok (.aload_n 0, 1) := by decide +kernel
theorem dX5_hasLetter_6 : decode mX5_hasLetter.2.1 6 = .ok (.getfield 15, 3) := by decide +kernel
theorem dX5_hasLetter_9 : decode mX5_hasLetter.2.1 9 = .ok (.if_icmp .ge 7, 3) := by decide +kernel
theorem dX5_hasLetter_12 : decode mX5_hasLetter.2.1 12 = .ok (.iconst 1, 1) := by decide +kernel
theorem dX5_hasLetter_13 : decode mX5_hasLetter.2.1 13 = .ok (.goto 4, 3) := by decide +kernel
theorem dX5_hasLetter_16 : decode mX5_hasLetter.2.1 16 = .ok (.iconst 0, 1) := by decide +kernel
theorem dX5_hasLetter_17 : decode mX5_hasLetter.2.1 17 = .ok (.ireturn, 1) := by decide +kernel
theorem dX9_edge_0 : decode mX9_edge.2.1 0 = .ok (.iload_n 1, 1) := by decide +kernel
theorem dX9_edge_1 : decode mX9_edge.2.1 1 = .ok (.invokestatic 168, 3) := by decide +kernel
theorem dX9_edge_4 : decode mX9_edge.2.1 4 = .ok (.ifCond .ne 5, 3) := by decide +kernel
theorem dX9_edge_7 : decode mX9_edge.2.1 7 = .ok (.iconst (-1), 1) := by decide +kernel
theorem dX9_edge_8 : decode mX9_edge.2.1 8 = .ok (.ireturn, 1) := by decide +kernel
theorem dX9_edge_9 : decode mX9_edge.2.1 9 = .ok (.aload_n 0, 1) := by decide +kernel
theorem dX9_edge_10 : decode mX9_edge.2.1 10 = .ok (.iload_n 1, 1) := by decide +kernel
theorem dX9_edge_11 : decode mX9_edge.2.1 11 = .ok (.invokevirtual 171, 3) := by decide +kernel
theorem dX9_edge_14 : decode mX9_edge.2.1 14 = .ok (.astore 5, 2) := by decide +kernel
theorem dX9_edge_16 : decode mX9_edge.2.1 16 = .ok (.aload 5, 2) := by decide +kernel
theorem dX9_edge_18 : decode mX9_edge.2.1 18 = .ok (.ifnonnull 6, 3) := by decide +kernel
theorem dX9_edge_21 : decode mX9_edge.2.1 21 = .ok (.bipush (-2), 2) := by decide +kernel
theorem dX9_edge_23 : decode mX9_edge.2.1 23 = .ok (.ireturn, 1) := by decide +kernel
theorem dX9_edge_24 : decode mX9_edge.2.1 24 = .ok (.aload 5, 2) := by decide +kernel
theorem dX9_edge_26 : decode mX9_edge.2.1 26 = .ok (.iload_n 2, 1) := by decide +kernel
theorem dX9_edge_27 : decode mX9_edge.2.1 27 = .ok (.invokevirtual 175, 3) := by decide +kernel
theorem dX9_edge_30 : decode mX9_edge.2.1 30 = .ok (.ifCond .eq 24, 3) := by decide +kernel
theorem dX9_edge_33 : decode mX9_edge.2.1 33 = .ok (.aload_n 0, 1) := by decide +kernel
theorem dX9_edge_34 : decode mX9_edge.2.1 34 = .ok (.getfield 10, 3) := by decide +kernel
theorem dX9_edge_37 : decode mX9_edge.2.1 37 = .ok (.iload_n 3, 1) := by decide +kernel
theorem dX9_edge_38 : decode mX9_edge.2.1 38 = .ok (.invokevirtual 184, 3) := by decide +kernel
theorem dX9_edge_41 : decode mX9_edge.2.1 41 = .ok (.ifCond .eq 13, 3) := by decide +kernel
theorem dX9_edge_44 : decode mX9_edge.2.1 44 = .ok (.aload 5, 2) := by decide +kernel
theorem dX9_edge_46 : decode mX9_edge.2.1 46 = .ok (.iload 4, 2) := by decide +kernel
theorem dX9_edge_48 : decode mX9_edge.2.1 48 = .ok (.invokevirtual 175, 3) := by decide +kernel
theorem dX9_edge_51 : decode mX9_edge.2.1 51 = .ok (.ifCond .ne 5, 3) := by decide +kernel
theorem dX9_edge_54 : decode mX9_edge.2.1 54 = .ok (.iconst (-1), 1) := by decide +kernel
theorem dX9_edge_55 : decode mX9_edge.2.1 55 = .ok (.ireturn, 1) := by decide +kernel
theorem dX9_edge_56 : decode mX9_edge.2.1 56 = .ok (.aload 5, 2) := by decide +kernel
theorem dX9_edge_58 : decode mX9_edge.2.1 58 = .ok (.getfield 187, 3) := by decide +kernel
theorem dX9_edge_61 : decode mX9_edge.2.1 61 = .ok (.aload 5, 2) := by decide +kernel
theorem dX9_edge_63 : decode mX9_edge.2.1 63 = .ok (.iload_n 2, 1) := by decide +kernel
theorem dX9_edge_64 : decode mX9_edge.2.1 64 = .ok (.iload_n 3, 1) := by decide +kernel
theorem dX9_edge_65 : decode mX9_edge.2.1 65 = .ok (.iload 4, 2) := by decide +kernel
theorem dX9_edge_67 : decode mX9_edge.2.1 67 = .ok (.invokevirtual 190, 3) := by decide +kernel
theorem dX9_edge_70 : decode mX9_edge.2.1 70 = .ok (.iaload, 1) := by decide +kernel
theorem dX9_edge_71 : decode mX9_edge.2.1 71 = .ok (.ireturn, 1) := by decide +kernel
theorem dX9_letter_0 : decode mX9_letter.2.1 0 = .ok (.aload_n 0, 1) := by decide +kernel
theorem dX9_letter_1 : decode mX9_letter.2.1 1 = .ok (.getfield 10, 3) := by decide +kernel
theorem dX9_letter_4 : decode mX9_letter.2.1 4 = .ok (.iload_n 1, 1) := by decide +kernel
theorem dX9_letter_5 : decode mX9_letter.2.1 5 = .ok (.invokevirtual 184, 3) := by decide +kernel
theorem dX9_letter_8 : decode mX9_letter.2.1 8 = .ok (.ifCond .ne 5, 3) := by decide +kernel
theorem dX9_letter_11 : decode mX9_letter.2.1 11 = .ok (.iconst (-1), 1) := by decide +kernel
theorem dX9_letter_12 : decode mX9_letter.2.1 12 = .ok (.ireturn, 1) := by decide +kernel
theorem dX9_letter_13 : decode mX9_letter.2.1 13 = .ok (.aload_n 0, 1) := by decide +kernel
theorem dX9_letter_14 : decode mX9_letter.2.1 14 = .ok (.getfield 123, 3) := by decide +kernel
theorem dX9_letter_17 : decode mX9_letter.2.1 17 = .ok (.bipush 12, 2) := by decide +kernel
theorem dX9_letter_19 : decode mX9_letter.2.1 19 = .ok (.if_icmp .lt 6, 3) := by decide +kernel
theorem dX9_letter_22 : decode mX9_letter.2.1 22 = .ok (.bipush (-3), 2) := by decide +kernel
theorem dX9_letter_24 : decode mX9_letter.2.1 24 = .ok (.ireturn, 1) := by decide +kernel
theorem dX9_letter_25 : decode mX9_letter.2.1 25 = .ok (.aload_n 0, 1) := by decide +kernel
theorem dX9_letter_26 : decode mX9_letter.2.1 26 = .ok (.aload_n 0, 1) := by decide +kernel
theorem dX9_letter_27 : decode mX9_letter.2.1 27 = .ok (.getfield 10, 3) := by decide +kernel
theorem dX9_letter_30 : decode mX9_letter.2.1 30 = .ok (.aload_n 0, 1) := by decide +kernel
theorem dX9_letter_31 : decode mX9_letter.2.1 31 = .ok (.getfield 120, 3) := by decide +kernel
theorem dX9_letter_34 : decode mX9_letter.2.1 34 = .ok (.iload_n 1, 1) := by decide +kernel
theorem dX9_letter_35 : decode mX9_letter.2.1 35 = .ok (.invokevirtual 194, 3) := by decide +kernel
theorem dX9_letter_38 : decode mX9_letter.2.1 38 = .ok (.putfield 120, 3) := by decide +kernel
theorem dX9_letter_41 : decode mX9_letter.2.1 41 = .ok (.aload_n 0, 1) := by decide +kernel
theorem dX9_letter_42 : decode mX9_letter.2.1 42 = .ok (.dup, 1) := by decide +kernel
theorem dX9_letter_43 : decode mX9_letter.2.1 43 = .ok (.getfield 123, 3) := by decide +kernel
theorem dX9_letter_46 : decode mX9_letter.2.1 46 = .ok (.iconst 1, 1) := by decide +kernel
theorem dX9_letter_47 : decode mX9_letter.2.1 47 = .ok (.iadd, 1) := by decide +kernel
theorem dX9_letter_48 : decode mX9_letter.2.1 48 = .ok (.putfield 123, 3) := by decide +kernel
theorem dX9_letter_51 : decode mX9_letter.2.1 51 = .ok (.aload_n 0, 1) := by decide +kernel
theorem dX9_letter_52 : decode mX9_letter.2.1 52 = .ok (.getfield 123, 3) := by decide +kernel
theorem dX9_letter_55 : decode mX9_letter.2.1 55 = .ok (.ireturn, 1) := by decide +kernel
theorem dX9_wipe_0 : decode mX9_wipe.2.1 0 = .ok (.aload_n 0, 1) := by decide +kernel
theorem dX9_wipe_1 : decode mX9_wipe.2.1 1 = .ok (.getfield 123, 3) := by decide +kernel
theorem dX9_wipe_4 : decode mX9_wipe.2.1 4 = .ok (.istore_n 1, 1) := by decide +kernel
theorem dX9_wipe_5 : decode mX9_wipe.2.1 5 = .ok (.aload_n 0, 1) := by decide +kernel
theorem dX9_wipe_6 : decode mX9_wipe.2.1 6 = .ok (.iconst 0, 1) := by decide +kernel
theorem dX9_wipe_7 : decode mX9_wipe.2.1 7 = .ok (.putfield 120, 3) := by decide +kernel
theorem dX9_wipe_10 : decode mX9_wipe.2.1 10 = .ok (.aload_n 0, 1) := by decide +kernel
theorem dX9_wipe_11 : decode mX9_wipe.2.1 11 = .ok (.iconst 0, 1) := by decide +kernel
theorem dX9_wipe_12 : decode mX9_wipe.2.1 12 = .ok (.putfield 123, 3) := by decide +kernel
theorem dX9_wipe_15 : decode mX9_wipe.2.1 15 = .ok (.iload_n 1, 1) := by decide +kernel
theorem dX9_wipe_16 : decode mX9_wipe.2.1 16 = .ok (.ireturn, 1) := by decide +kernel
theorem dX0_valueOf_0 : decode mX0_valueOf.2.1 0 = .ok (.aload_n 0, 1) := by decide +kernel
theorem dX0_valueOf_1 : decode mX0_valueOf.2.1 1 = .ok (.aload_n 1, 1) := by decide +kernel
theorem dX0_valueOf_2 : decode mX0_valueOf.2.1 2 = .ok (.iload_n 2, 1) := by decide +kernel
theorem dX0_valueOf_3 : decode mX0_valueOf.2.1 3 = .ok (.invokevirtual 69, 3) := by decide +kernel
theorem dX0_valueOf_6 : decode mX0_valueOf.2.1 6 = .ok (.aload_n 1, 1) := by decide +kernel
theorem dX0_valueOf_7 : decode mX0_valueOf.2.1 7 = .ok (.aload_n 1, 1) := by decide +kernel
theorem dX0_valueOf_8 : decode mX0_valueOf.2.1 8 = .ok (.getfield 119, 3) := by decide +kernel
theorem dX0_valueOf_11 : decode mX0_valueOf.2.1 11 = .ok (.aload_n 0, 1) := by decide +kernel
theorem dX0_valueOf_12 : decode mX0_valueOf.2.1 12 = .ok (.getfield 28, 3) := by decide +kernel
theorem dX0_valueOf_15 : decode mX0_valueOf.2.1 15 = .ok (.invokevirtual 135, 3) := by decide +kernel
theorem dX0_valueOf_18 : decode mX0_valueOf.2.1 18 = .ok (.ireturn, 1) := by decide +kernel
theorem dX9_value_0 : decode mX9_value.2.1 0 = .ok (.iload_n 1, 1) := by decide +kernel
theorem dX9_value_1 : decode mX9_value.2.1 1 = .ok (.invokestatic 168, 3) := by decide +kernel
theorem dX9_value_4 : decode mX9_value.2.1 4 = .ok (.ifCond .ne 5, 3) := by decide +kernel
theorem dX9_value_7 : decode mX9_value.2.1 7 = .ok (.iconst (-1), 1) := by decide +kernel
theorem dX9_value_8 : decode mX9_value.2.1 8 = .ok (.ireturn, 1) := by decide +kernel
theorem dX9_value_9 : decode mX9_value.2.1 9 = .ok (.aload_n 0, 1) := by decide +kernel
theorem dX9_value_10 : decode mX9_value.2.1 10 = .ok (.iload_n 1, 1) := by decide +kernel
theorem dX9_value_11 : decode mX9_value.2.1 11 = .ok (.invokevirtual 171, 3) := by decide +kernel
theorem dX9_value_14 : decode mX9_value.2.1 14 = .ok (.astore_n 2, 1) := by decide +kernel
theorem dX9_value_15 : decode mX9_value.2.1 15 = .ok (.aload_n 2, 1) := by decide +kernel
theorem dX9_value_16 : decode mX9_value.2.1 16 = .ok (.ifnonnull 8, 3) := by decide +kernel
theorem dX9_value_19 : decode mX9_value.2.1 19 = .ok (.bipush (-2), 2) := by decide +kernel
theorem dX9_value_21 : decode mX9_value.2.1 21 = .ok (.goto 15, 3) := by decide +kernel
theorem dX9_value_24 : decode mX9_value.2.1 24 = .ok (.aload_n 0, 1) := by decide +kernel
theorem dX9_value_25 : decode mX9_value.2.1 25 = .ok (.getfield 49, 3) := by decide +kernel
theorem dX9_value_28 : decode mX9_value.2.1 28 = .ok (.aload_n 2, 1) := by decide +kernel
theorem dX9_value_29 : decode mX9_value.2.1 29 = .ok (.aload_n 0, 1) := by decide +kernel
theorem dX9_value_30 : decode mX9_value.2.1 30 = .ok (.getfield 120, 3) := by decide +kernel
theorem dX9_value_33 : decode mX9_value.2.1 33 = .ok (.invokevirtual 198, 3) := by decide +kernel
theorem dX9_value_36 : decode mX9_value.2.1 36 = .ok (.ireturn, 1) := by decide +kernel
theorem dX0_seeStates_0 : decode mX0_seeStates.2.1 0 = .ok (.aload_n 0, 1) := by decide +kernel
theorem dX0_seeStates_1 : decode mX0_seeStates.2.1 1 = .ok (.aload_n 1, 1) := by decide +kernel
theorem dX0_seeStates_2 : decode mX0_seeStates.2.1 2 = .ok (.invokevirtual 77, 3) := by decide +kernel
theorem dX0_seeStates_5 : decode mX0_seeStates.2.1 5 = .ok (.iconst 0, 1) := by decide +kernel
theorem dX0_seeStates_6 : decode mX0_seeStates.2.1 6 = .ok (.istore_n 2, 1) := by decide +kernel
theorem dX0_seeStates_7 : decode mX0_seeStates.2.1 7 = .ok (.iload_n 2, 1) := by decide +kernel
theorem dX0_seeStates_8 : decode mX0_seeStates.2.1 8 = .ok (.aload_n 0, 1) := by decide +kernel
theorem dX0_seeStates_9 : decode mX0_seeStates.2.1 9 = .ok (.getfield 53, 3) := by decide +kernel
theorem dX0_seeStates_12 : decode mX0_seeStates.2.1 12 = .ok (.getfield 57, 3) := by decide +kernel
theorem dX0_seeStates_15 : decode mX0_seeStates.2.1 15 = .ok (.if_icmp .ge 36, 3) := by decide +kernel
theorem dX0_seeStates_18 : decode mX0_seeStates.2.1 18 = .ok (.aload_n 0, 1) := by decide +kernel
theorem dX0_seeStates_19 : decode mX0_seeStates.2.1 19 = .ok (.getfield 31, 3) := by decide +kernel
theorem dX0_seeStates_22 : decode mX0_seeStates.2.1 22 = .ok (.iconst 0, 1) := by decide +kernel
theorem dX0_seeStates_23 : decode mX0_seeStates.2.1 23 = .ok (.invokestatic 98, 3) := by decide +kernel
theorem dX0_seeStates_26 : decode mX0_seeStates.2.1 26 = .ok (.aload_n 0, 1) := by decide +kernel
theorem dX0_seeStates_27 : decode mX0_seeStates.2.1 27 = .ok (.getfield 31, 3) := by decide +kernel
theorem dX0_seeStates_30 : decode mX0_seeStates.2.1 30 = .ok (.iload_n 2, 1) := by decide +kernel
theorem dX0_seeStates_31 : decode mX0_seeStates.2.1 31 = .ok (.iconst 1, 1) := by decide +kernel
theorem dX0_seeStates_32 : decode mX0_seeStates.2.1 32 = .ok (.iastore, 1) := by decide +kernel
theorem dX0_seeStates_33 : decode mX0_seeStates.2.1 33 = .ok (.aload_n 0, 1) := by decide +kernel
theorem dX0_seeStates_34 : decode mX0_seeStates.2.1 34 = .ok (.getfield 41, 3) := by decide +kernel
theorem dX0_seeStates_37 : decode mX0_seeStates.2.1 37 = .ok (.aload_n 0, 1) := by decide +kernel
theorem dX0_seeStates_38 : decode mX0_seeStates.2.1 38 = .ok (.getfield 31, 3) := by decide +kernel
theorem dX0_seeStates_41 : decode mX0_seeStates.2.1 41 = .ok (.invokevirtual 73, 3) := by decide +kernel
theorem dX0_seeStates_44 : decode mX0_seeStates.2.1 44 = .ok (.pop, 1) := by decide +kernel
theorem dX0_seeStates_45 : decode mX0_seeStates.2.1 45 = .ok (.iinc 2 1, 3) := by decide +kernel
theorem dX0_seeStates_48 : decode mX0_seeStates.2.1 48 = .ok (.goto (-41), 3) := by decide +kernel
theorem dX0_seeStates_51 : decode mX0_seeStates.2.1 51 = .ok (.aload_n 0, 1) := by decide +kernel
theorem dX0_seeStates_52 : decode mX0_seeStates.2.1 52 = .ok (.invokevirtual 95, 3) := by decide +kernel
theorem dX0_seeStates_55 : decode mX0_seeStates.2.1 55 = .ok (.return_, 1) := by decide +kernel
theorem dX9_space_0 : decode mX9_space.2.1 0 = .ok (.iload_n 1, 1) := by decide +kernel
theorem dX9_space_1 : decode mX9_space.2.1 1 = .ok (.invokestatic 168, 3) := by decide +kernel
theorem dX9_space_4 : decode mX9_space.2.1 4 = .ok (.ifCond .eq 12, 3) := by decide +kernel
theorem dX9_space_7 : decode mX9_space.2.1 7 = .ok (.iload_n 2, 1) := by decide +kernel
theorem dX9_space_8 : decode mX9_space.2.1 8 = .ok (.ifCond .lt 8, 3) := by decide +kernel
theorem dX9_space_11 : decode mX9_space.2.1 11 = .ok (.iload_n 2, 1) := by decide +kernel
theorem dX9_space_12 : decode mX9_space.2.1 12 = .ok (.iconst 2, 1) := by decide +kernel
theorem dX9_space_13 : decode mX9_space.2.1 13 = .ok (.if_icmp .le 5, 3) := by decide +kernel
theorem dX9_space_16 : decode mX9_space.2.1 16 = .ok (.iconst (-1), 1) := by decide +kernel
theorem dX9_space_17 : decode mX9_space.2.1 17 = .ok (.ireturn, 1) := by decide +kernel
theorem dX9_space_18 : decode mX9_space.2.1 18 = .ok (.aload_n 0, 1) := by decide +kernel
theorem dX9_space_19 : decode mX9_space.2.1 19 = .ok (.iload_n 1, 1) := by decide +kernel
theorem dX9_space_20 : decode mX9_space.2.1 20 = .ok (.invokevirtual 171, 3) := by decide +kernel
theorem dX9_space_23 : decode mX9_space.2.1 23 = .ok (.astore_n 3, 1) := by decide +kernel
theorem dX9_space_24 : decode mX9_space.2.1 24 = .ok (.aload_n 3, 1) := by decide +kernel
theorem dX9_space_25 : decode mX9_space.2.1 25 = .ok (.ifnonnull 6, 3) := by decide +kernel
theorem dX9_space_28 : decode mX9_space.2.1 28 = .ok (.bipush (-2), 2) := by decide +kernel
theorem dX9_space_30 : decode mX9_space.2.1 30 = .ok (.ireturn, 1) := by decide +kernel
theorem dX9_space_31 : decode mX9_space.2.1 31 = .ok (.iload_n 2, 1) := by decide +kernel
theorem dX9_space_32 : decode mX9_space.2.1 32 = .ok (.ifCond .ne 27, 3) := by decide +kernel
theorem dX9_space_35 : decode mX9_space.2.1 35 = .ok (.aload_n 0, 1) := by decide +kernel
theorem dX9_space_36 : decode mX9_space.2.1 36 = .ok (.getfield 49, 3) := by decide +kernel
theorem dX9_space_39 : decode mX9_space.2.1 39 = .ok (.aload_n 3, 1) := by decide +kernel
theorem dX9_space_40 : decode mX9_space.2.1 40 = .ok (.invokevirtual 202, 3) := by decide +kernel
theorem dX9_space_43 : decode mX9_space.2.1 43 = .ok (.aload_n 0, 1) := by decide +kernel
theorem dX9_space_44 : decode mX9_space.2.1 44 = .ok (.getfield 49, 3) := by decide +kernel
theorem dX9_space_47 : decode mX9_space.2.1 47 = .ok (.invokevirtual 205, 3) := by decide +kernel
theorem dX9_space_50 : decode mX9_space.2.1 50 = .ok (.pop, 1) := by decide +kernel
theorem dX9_space_51 : decode mX9_space.2.1 51 = .ok (.aload_n 0, 1) := by decide +kernel
theorem dX9_space_52 : decode mX9_space.2.1 52 = .ok (.getfield 49, 3) := by decide +kernel
theorem dX9_space_55 : decode mX9_space.2.1 55 = .ok (.getfield 208, 3) := by decide +kernel
theorem dX9_space_58 : decode mX9_space.2.1 58 = .ok (.ireturn, 1) := by decide +kernel
theorem dX9_space_59 : decode mX9_space.2.1 59 = .ok (.aload_n 0, 1) := by decide +kernel
theorem dX9_space_60 : decode mX9_space.2.1 60 = .ok (.getfield 49, 3) := by decide +kernel
theorem dX9_space_63 : decode mX9_space.2.1 63 = .ok (.aload_n 3, 1) := by decide +kernel
theorem dX9_space_64 : decode mX9_space.2.1 64 = .ok (.invokevirtual 211, 3) := by decide +kernel
theorem dX9_space_67 : decode mX9_space.2.1 67 = .ok (.iload_n 2, 1) := by decide +kernel
theorem dX9_space_68 : decode mX9_space.2.1 68 = .ok (.iconst 1, 1) := by decide +kernel
theorem dX9_space_69 : decode mX9_space.2.1 69 = .ok (.if_icmp .ne 14, 3) := by decide +kernel
theorem dX9_space_72 : decode mX9_space.2.1 72 = .ok (.aload_n 0, 1) := by decide +kernel
theorem dX9_space_73 : decode mX9_space.2.1 73 = .ok (.getfield 49, 3) := by decide +kernel
theorem dX9_space_76 : decode mX9_space.2.1 76 = .ok (.getfield 214, 3) := by decide +kernel
theorem dX9_space_79 : decode mX9_space.2.1 79 = .ok (.getfield 218, 3) := by decide +kernel
theorem dX9_space_82 : decode mX9_space.2.1 82 = .ok (.ireturn, 1) := by decide +kernel
theorem dX9_space_83 : decode mX9_space.2.1 83 = .ok (.aload_n 0, 1) := by decide +kernel
theorem dX9_space_84 : decode mX9_space.2.1 84 = .ok (.getfield 49, 3) := by decide +kernel
theorem dX9_space_87 : decode mX9_space.2.1 87 = .ok (.invokevirtual 205, 3) := by decide +kernel
theorem dX9_space_90 : decode mX9_space.2.1 90 = .ok (.pop, 1) := by decide +kernel
theorem dX9_space_91 : decode mX9_space.2.1 91 = .ok (.aload_n 0, 1) := by decide +kernel
theorem dX9_space_92 : decode mX9_space.2.1 92 = .ok (.getfield 49, 3) := by decide +kernel
theorem dX9_space_95 : decode mX9_space.2.1 95 = .ok (.getfield 208, 3) := by decide +kernel
theorem dX9_space_98 : decode mX9_space.2.1 98 = .ok (.ireturn, 1) := by decide +kernel
theorem dX5_firstOfLength_0 : decode mX5_firstOfLength.2.1 0 = .ok (.iconst 0, 1) := by decide +kernel
theorem dX5_firstOfLength_1 : decode mX5_firstOfLength.2.1 1 = .ok (.istore_n 2, 1) := by decide +kernel
theorem dX5_firstOfLength_2 : decode mX5_firstOfLength.2.1 2 = .ok (.iconst 0, 1) := by decide +kernel
theorem dX5_firstOfLength_3 : decode mX5_firstOfLength.2.1 3 = .ok (.istore_n 3, 1) := by decide +kernel
theorem dX5_firstOfLength_4 : decode mX5_firstOfLength.2.1 4 = .ok (.iload_n 3, 1) := by decide +kernel
theorem dX5_firstOfLength_5 : decode mX5_firstOfLength.2.1 5 = .ok (.iload_n 1, 1) := by decide +kernel
theorem dX5_firstOfLength_6 : decode mX5_firstOfLength.2.1 6 = .ok (.if_icmp .ge 16, 3) := by decide +kernel
theorem dX5_firstOfLength_9 : decode mX5_firstOfLength.2.1 9 = .ok (.aload_n 0, 1) := by decide +kernel
theorem dX5_firstOfLength_10 : decode mX5_firstOfLength.2.1 10 = .ok (.iload_n 2, 1) := by decide +kernel
theorem dX5_firstOfLength_11 : decode mX5_firstOfLength.2.1 11 = .ok (.iconst 0, 1) := by decide +kernel
theorem dX5_firstOfLength_12 : decode mX5_firstOfLength.2.1 12 = .ok (.invokevirtual 32, 3) := by decide +kernel
theorem dX5_firstOfLength_15 : decode mX5_firstOfLength.2.1 15 = .ok (.istore_n 2, 1) := by decide +kernel
theorem dX5_firstOfLength_16 : decode mX5_firstOfLength.2.1 16 = .ok (.iinc 3 1, 3) := by decide +kernel
theorem dX5_firstOfLength_19 : decode mX5_firstOfLength.2.1 19 = .ok (.goto (-15), 3) := by decide +kernel
theorem dX5_firstOfLength_22 : decode mX5_firstOfLength.2.1 22 = .ok (.iload_n 2, 1) := by decide +kernel
theorem dX5_firstOfLength_23 : decode mX5_firstOfLength.2.1 23 = .ok (.ireturn, 1) := by decide +kernel
theorem dX5_power_0 : decode mX5_power.2.1 0 = .ok (.iconst 1, 1) := by decide +kernel
theorem dX5_power_1 : decode mX5_power.2.1 1 = .ok (.istore_n 2, 1) := by decide +kernel
theorem dX5_power_2 : decode mX5_power.2.1 2 = .ok (.iconst 0, 1) := by decide +kernel
theorem dX5_power_3 : decode mX5_power.2.1 3 = .ok (.istore_n 3, 1) := by decide +kernel
theorem dX5_power_4 : decode mX5_power.2.1 4 = .ok (.iload_n 3, 1) := by decide +kernel
theorem dX5_power_5 : decode mX5_power.2.1 5 = .ok (.iload_n 1, 1) := by decide +kernel
theorem dX5_power_6 : decode mX5_power.2.1 6 = .ok (.if_icmp .ge 16, 3) := by decide +kernel
theorem dX5_power_9 : decode mX5_power.2.1 9 = .ok (.iload_n 2, 1) := by decide +kernel
theorem dX5_power_10 : decode mX5_power.2.1 10 = .ok (.aload_n 0, 1) := by decide +kernel
theorem dX5_power_11 : decode mX5_power.2.1 11 = .ok (.getfield 15, 3) := by decide +kernel
theorem dX5_power_14 : decode mX5_power.2.1 14 = .ok (.imul, 1) := by decide +kernel
theorem dX5_power_15 : decode mX5_power.2.1 15 = .ok (.istore_n 2, 1) := by decide +kernel
theorem dX5_power_16 : decode mX5_power.2.1 16 = .ok (.iinc 3 1, 3) := by decide +kernel
theorem dX5_power_19 : decode mX5_power.2.1 19 = .ok (.goto (-15), 3) := by decide +kernel
theorem dX5_power_22 : decode mX5_power.2.1 22 = .ok (.iload_n 2, 1) := by decide +kernel
theorem dX5_power_23 : decode mX5_power.2.1 23 = .ok (.ireturn, 1) := by decide +kernel
theorem dX1_walkHeads_0 : decode mX1_walkHeads.2.1 0 = .ok (.aload_n 1, 1) := by decide +kernel
theorem dX1_walkHeads_1 : decode mX1_walkHeads.2.1 1 = .ok (.getfield 55, 3) := by decide +kernel
theorem dX1_walkHeads_4 : decode mX1_walkHeads.2.1 4 = .ok (.iconst 0, 1) := by decide +kernel
theorem dX1_walkHeads_5 : decode mX1_walkHeads.2.1 5 = .ok (.aload_n 0, 1) := by decide +kernel
theorem dX1_walkHeads_6 : decode mX1_walkHeads.2.1 6 = .ok (.getfield 13, 3) := by decide +kernel
theorem dX1_walkHeads_9 : decode mX1_walkHeads.2.1 9 = .ok (.iconst 0, 1) := by decide +kernel
theorem dX1_walkHeads_10 : decode mX1_walkHeads.2.1 10 = .ok (.aaload, 1) := by decide +kernel
theorem dX1_walkHeads_11 : decode mX1_walkHeads.2.1 11 = .ok (.iconst 0, 1) := by decide +kernel
theorem dX1_walkHeads_12 : decode mX1_walkHeads.2.1 12 = .ok (.aload_n 1, 1) := by decide +kernel
theorem dX1_walkHeads_13 : decode mX1_walkHeads.2.1 13 = .ok (.getfield 59, 3) := by decide +kernel
theorem dX1_walkHeads_16 : decode mX1_walkHeads.2.1 16 = .ok (.invokestatic 62, 3) := by decide +kernel
theorem dX1_walkHeads_19 : decode mX1_walkHeads.2.1 19 = .ok (.iconst 1, 1) := by decide +kernel
theorem dX1_walkHeads_20 : decode mX1_walkHeads.2.1 20 = .ok (.istore_n 3, 1) := by decide +kernel
theorem dX1_walkHeads_21 : decode mX1_walkHeads.2.1 21 = .ok (.iload_n 3, 1) := by decide +kernel
theorem dX1_walkHeads_22 : decode mX1_walkHeads.2.1 22 = .ok (.iload_n 2, 1) := by decide +kernel
theorem dX1_walkHeads_23 : decode mX1_walkHeads.2.1 23 = .ok (.if_icmp .ge 40, 3) := by decide +kernel
theorem dX1_walkHeads_26 : decode mX1_walkHeads.2.1 26 = .ok (.aload_n 1, 1) := by decide +kernel
theorem dX1_walkHeads_27 : decode mX1_walkHeads.2.1 27 = .ok (.aload_n 0, 1) := by decide +kernel
theorem dX1_walkHeads_28 : decode mX1_walkHeads.2.1 28 = .ok (.getfield 13, 3) := by decide +kernel
theorem dX1_walkHeads_31 : decode mX1_walkHeads.2.1 31 = .ok (.aload_n 0, 1) := by decide +kernel
theorem dX1_walkHeads_32 : decode mX1_walkHeads.2.1 32 = .ok (.getfield 19, 3) := by decide +kernel
theorem dX1_walkHeads_35 : decode mX1_walkHeads.2.1 35 = .ok (.iload_n 3, 1) := by decide +kernel
theorem dX1_walkHeads_36 : decode mX1_walkHeads.2.1 36 = .ok (.invokevirtual 68, 3) := by decide +kernel
theorem dX1_walkHeads_39 : decode mX1_walkHeads.2.1 39 = .ok (.aaload, 1) := by decide +kernel
theorem dX1_walkHeads_40 : decode mX1_walkHeads.2.1 40 = .ok (.aload_n 0, 1) := by decide +kernel
theorem dX1_walkHeads_41 : decode mX1_walkHeads.2.1 41 = .ok (.getfield 19, 3) := by decide +kernel
theorem dX1_walkHeads_44 : decode mX1_walkHeads.2.1 44 = .ok (.iload_n 3, 1) := by decide +kernel
theorem dX1_walkHeads_45 : decode mX1_walkHeads.2.1 45 = .ok (.invokevirtual 71, 3) := by decide +kernel
theorem dX1_walkHeads_48 : decode mX1_walkHeads.2.1 48 = .ok (.aload_n 0, 1) := by decide +kernel
theorem dX1_walkHeads_49 : decode mX1_walkHeads.2.1 49 = .ok (.getfield 13, 3) := by decide +kernel
theorem dX1_walkHeads_52 : decode mX1_walkHeads.2.1 52 = .ok (.iload_n 3, 1) := by decide +kernel
theorem dX1_walkHeads_53 : decode mX1_walkHeads.2.1 53 = .ok (.aaload, 1) := by decide +kernel
theorem dX1_walkHeads_54 : decode mX1_walkHeads.2.1 54 = .ok (.invokevirtual 74, 3) := by decide +kernel
theorem dX1_walkHeads_57 : decode mX1_walkHeads.2.1 57 = .ok (.iinc 3 1, 3) := by decide +kernel
theorem dX1_walkHeads_60 : decode mX1_walkHeads.2.1 60 = .ok (.goto (-39), 3) := by decide +kernel
theorem dX1_walkHeads_63 : decode mX1_walkHeads.2.1 63 = .ok (.return_, 1) := by decide +kernel
theorem dX1_walkTails_0 : decode mX1_walkTails.2.1 0 = .ok (.aload_n 1, 1) := by decide +kernel
theorem dX1_walkTails_1 : decode mX1_walkTails.2.1 1 = .ok (.getfield 78, 3) := by decide +kernel
theorem dX1_walkTails_4 : decode mX1_walkTails.2.1 4 = .ok (.iconst 0, 1) := by decide +kernel
theorem dX1_walkTails_5 : decode mX1_walkTails.2.1 5 = .ok (.aload_n 0, 1) := by decide +kernel
theorem dX1_walkTails_6 : decode mX1_walkTails.2.1 6 = .ok (.getfield 16, 3) := by decide +kernel
theorem dX1_walkTails_9 : decode mX1_walkTails.2.1 9 = .ok (.iconst 0, 1) := by decide +kernel
theorem dX1_walkTails_10 : decode mX1_walkTails.2.1 10 = .ok (.aaload, 1) := by decide +kernel
theorem dX1_walkTails_11 : decode mX1_walkTails.2.1 11 = .ok (.iconst 0, 1) := by decide +kernel
theorem dX1_walkTails_12 : decode mX1_walkTails.2.1 12 = .ok (.aload_n 1, 1) := by decide +kernel
theorem dX1_walkTails_13 : decode mX1_walkTails.2.1 13 = .ok (.getfield 59, 3) := by decide +kernel
theorem dX1_walkTails_16 : decode mX1_walkTails.2.1 16 = .ok (.invokestatic 62, 3) := by decide +kernel
theorem dX1_walkTails_19 : decode mX1_walkTails.2.1 19 = .ok (.iconst 1, 1) := by decide +kernel
theorem dX1_walkTails_20 : decode mX1_walkTails.2.1 20 = .ok (.istore_n 3, 1) := by decide +kernel
theorem dX1_walkTails_21 : decode mX1_walkTails.2.1 21 = .ok (.iload_n 3, 1) := by decide +kernel
theorem dX1_walkTails_22 : decode mX1_walkTails.2.1 22 = .ok (.iload_n 2, 1) := by decide +kernel
theorem dX1_walkTails_23 : decode mX1_walkTails.2.1 23 = .ok (.if_icmp .ge 40, 3) := by decide +kernel
theorem dX1_walkTails_26 : decode mX1_walkTails.2.1 26 = .ok (.aload_n 1, 1) := by decide +kernel
theorem dX1_walkTails_27 : decode mX1_walkTails.2.1 27 = .ok (.aload_n 0, 1) := by decide +kernel
theorem dX1_walkTails_28 : decode mX1_walkTails.2.1 28 = .ok (.getfield 16, 3) := by decide +kernel
theorem dX1_walkTails_31 : decode mX1_walkTails.2.1 31 = .ok (.aload_n 0, 1) := by decide +kernel
theorem dX1_walkTails_32 : decode mX1_walkTails.2.1 32 = .ok (.getfield 19, 3) := by decide +kernel
theorem dX1_walkTails_35 : decode mX1_walkTails.2.1 35 = .ok (.iload_n 3, 1) := by decide +kernel
theorem dX1_walkTails_36 : decode mX1_walkTails.2.1 36 = .ok (.invokevirtual 68, 3) := by decide +kernel
theorem dX1_walkTails_39 : decode mX1_walkTails.2.1 39 = .ok (.aaload, 1) := by decide +kernel
theorem dX1_walkTails_40 : decode mX1_walkTails.2.1 40 = .ok (.aload_n 0, 1) := by decide +kernel
theorem dX1_walkTails_41 : decode mX1_walkTails.2.1 41 = .ok (.getfield 19, 3) := by decide +kernel
theorem dX1_walkTails_44 : decode mX1_walkTails.2.1 44 = .ok (.iload_n 3, 1) := by decide +kernel
theorem dX1_walkTails_45 : decode mX1_walkTails.2.1 45 = .ok (.invokevirtual 71, 3) := by decide +kernel
theorem dX1_walkTails_48 : decode mX1_walkTails.2.1 48 = .ok (.aload_n 0, 1) := by decide +kernel
theorem dX1_walkTails_49 : decode mX1_walkTails.2.1 49 = .ok (.getfield 16, 3) := by decide +kernel
theorem dX1_walkTails_52 : decode mX1_walkTails.2.1 52 = .ok (.iload_n 3, 1) := by decide +kernel
theorem dX1_walkTails_53 : decode mX1_walkTails.2.1 53 = .ok (.aaload, 1) := by decide +kernel
theorem dX1_walkTails_54 : decode mX1_walkTails.2.1 54 = .ok (.invokevirtual 81, 3) := by decide +kernel
theorem dX1_walkTails_57 : decode mX1_walkTails.2.1 57 = .ok (.iinc 3 1, 3) := by decide +kernel
theorem dX1_walkTails_60 : decode mX1_walkTails.2.1 60 = .ok (.goto (-39), 3) := by decide +kernel
theorem dX1_walkTails_63 : decode mX1_walkTails.2.1 63 = .ok (.return_, 1) := by decide +kernel
theorem dX1_count_0 : decode mX1_count.2.1 0 = .ok (.iload_n 2, 1) := by decide +kernel
theorem dX1_count_1 : decode mX1_count.2.1 1 = .ok (.iconst 2, 1) := by decide +kernel
theorem dX1_count_2 : decode mX1_count.2.1 2 = .ok (.idiv, 1) := by decide +kernel
theorem dX1_count_3 : decode mX1_count.2.1 3 = .ok (.istore_n 3, 1) := by decide +kernel
theorem dX1_count_4 : decode mX1_count.2.1 4 = .ok (.iload_n 2, 1) := by decide +kernel
theorem dX1_count_5 : decode mX1_count.2.1 5 = .ok (.iload_n 3, 1) := by decide +kernel
theorem dX1_count_6 : decode mX1_count.2.1 6 = .ok (.isub, 1) := by decide +kernel
theorem dX1_count_7 : decode mX1_count.2.1 7 = .ok (.istore 4, 2) := by decide +kernel
theorem dX1_count_9 : decode mX1_count.2.1 9 = .ok (.aload_n 0, 1) := by decide +kernel
theorem dX1_count_10 : decode mX1_count.2.1 10 = .ok (.getfield 19, 3) := by decide +kernel
theorem dX1_count_13 : decode mX1_count.2.1 13 = .ok (.iload_n 3, 1) := by decide +kernel
theorem dX1_count_14 : decode mX1_count.2.1 14 = .ok (.invokevirtual 23, 3) := by decide +kernel
theorem dX1_count_17 : decode mX1_count.2.1 17 = .ok (.istore 5, 2) := by decide +kernel
theorem dX1_count_19 : decode mX1_count.2.1 19 = .ok (.aload_n 0, 1) := by decide +kernel
theorem dX1_count_20 : decode mX1_count.2.1 20 = .ok (.getfield 19, 3) := by decide +kernel
theorem dX1_count_23 : decode mX1_count.2.1 23 = .ok (.iload 4, 2) := by decide +kernel
theorem dX1_count_25 : decode mX1_count.2.1 25 = .ok (.invokevirtual 23, 3) := by decide +kernel
theorem dX1_count_28 : decode mX1_count.2.1 28 = .ok (.istore 6, 2) := by decide +kernel
theorem dX1_count_30 : decode mX1_count.2.1 30 = .ok (.aload_n 0, 1) := by decide +kernel
theorem dX1_count_31 : decode mX1_count.2.1 31 = .ok (.getfield 19, 3) := by decide +kernel
theorem dX1_count_34 : decode mX1_count.2.1 34 = .ok (.iload_n 3, 1) := by decide +kernel
theorem dX1_count_35 : decode mX1_count.2.1 35 = .ok (.invokevirtual 29, 3) := by decide +kernel
theorem dX1_count_38 : decode mX1_count.2.1 38 = .ok (.istore 7, 2) := by decide +kernel
theorem dX1_count_40 : decode mX1_count.2.1 40 = .ok (.aload_n 0, 1) := by decide +kernel
theorem dX1_count_41 : decode mX1_count.2.1 41 = .ok (.getfield 19, 3) := by decide +kernel
theorem dX1_count_44 : decode mX1_count.2.1 44 = .ok (.iload 4, 2) := by decide +kernel
theorem dX1_count_46 : decode mX1_count.2.1 46 = .ok (.invokevirtual 29, 3) := by decide +kernel
theorem dX1_count_49 : decode mX1_count.2.1 49 = .ok (.istore 8, 2) := by decide +kernel
theorem dX1_count_51 : decode mX1_count.2.1 51 = .ok (.aload_n 0, 1) := by decide +kernel
theorem dX1_count_52 : decode mX1_count.2.1 52 = .ok (.aload_n 1, 1) := by decide +kernel
theorem dX1_count_53 : decode mX1_count.2.1 53 = .ok (.iload 5, 2) := by decide +kernel
theorem dX1_count_55 : decode mX1_count.2.1 55 = .ok (.iload 7, 2) := by decide +kernel
theorem dX1_count_57 : decode mX1_count.2.1 57 = .ok (.iadd, 1) := by decide +kernel
theorem dX1_count_58 : decode mX1_count.2.1 58 = .ok (.invokevirtual 32, 3) := by decide +kernel
theorem dX1_count_61 : decode mX1_count.2.1 61 = .ok (.aload_n 0, 1) := by decide +kernel
theorem dX1_count_62 : decode mX1_count.2.1 62 = .ok (.aload_n 1, 1) := by decide +kernel
theorem dX1_count_63 : decode mX1_count.2.1 63 = .ok (.iload 6, 2) := by decide +kernel
theorem dX1_count_65 : decode mX1_count.2.1 65 = .ok (.iload 8, 2) := by decide +kernel
theorem dX1_count_67 : decode mX1_count.2.1 67 = .ok (.iadd, 1) := by decide +kernel
theorem dX1_count_68 : decode mX1_count.2.1 68 = .ok (.invokevirtual 36, 3) := by decide +kernel
theorem dX1_count_71 : decode mX1_count.2.1 71 = .ok (.aload_n 0, 1) := by decide +kernel
theorem dX1_count_72 : decode mX1_count.2.1 72 = .ok (.iload 7, 2) := by decide +kernel
theorem dX1_count_74 : decode mX1_count.2.1 74 = .ok (.iload 8, 2) := by decide +kernel
theorem dX1_count_76 : decode mX1_count.2.1 76 = .ok (.imul, 1) := by decide +kernel
theorem dX1_count_77 : decode mX1_count.2.1 77 = .ok (.putfield 39, 3) := by decide +kernel
theorem dX1_count_80 : decode mX1_count.2.1 80 = .ok (.aload_n 0, 1) := by decide +kernel
theorem dX1_count_81 : decode mX1_count.2.1 81 = .ok (.iconst 0, 1) := by decide +kernel
theorem dX1_count_82 : decode mX1_count.2.1 82 = .ok (.putfield 43, 3) := by decide +kernel
theorem dX1_count_85 : decode mX1_count.2.1 85 = .ok (.aload_n 0, 1) := by decide +kernel
theorem dX1_count_86 : decode mX1_count.2.1 86 = .ok (.iconst 0, 1) := by decide +kernel
theorem dX1_count_87 : decode mX1_count.2.1 87 = .ok (.putfield 46, 3) := by decide +kernel
theorem dX1_count_90 : decode mX1_count.2.1 90 = .ok (.iload 5, 2) := by decide +kernel
theorem dX1_count_92 : decode mX1_count.2.1 92 = .ok (.istore 9, 2) := by decide +kernel
theorem dX1_count_94 : decode mX1_count.2.1 94 = .ok (.iload 9, 2) := by decide +kernel
theorem dX1_count_96 : decode mX1_count.2.1 96 = .ok (.iload 5, 2) := by decide +kernel
theorem dX1_count_98 : decode mX1_count.2.1 98 = .ok (.iload 7, 2) := by decide +kernel
theorem dX1_count_100 : decode mX1_count.2.1 100 = .ok (.iadd, 1) := by decide +kernel
theorem dX1_count_101 : decode mX1_count.2.1 101 = .ok (.if_icmp .ge 79, 3) := by decide +kernel
theorem dX1_count_104 : decode mX1_count.2.1 104 = .ok (.iload 6, 2) := by decide +kernel
theorem dX1_count_106 : decode mX1_count.2.1 106 = .ok (.istore 10, 2) := by decide +kernel
theorem dX1_count_108 : decode mX1_count.2.1 108 = .ok (.iload 10, 2) := by decide +kernel
theorem dX1_count_110 : decode mX1_count.2.1 110 = .ok (.iload 6, 2) := by decide +kernel
theorem dX1_count_112 : decode mX1_count.2.1 112 = .ok (.iload 8, 2) := by decide +kernel
theorem dX1_count_114 : decode mX1_count.2.1 114 = .ok (.iadd, 1) := by decide +kernel
theorem dX1_count_115 : decode mX1_count.2.1 115 = .ok (.if_icmp .ge 59, 3) := by decide +kernel
theorem dX1_count_118 : decode mX1_count.2.1 118 = .ok (.aload_n 1, 1) := by decide +kernel
theorem dX1_count_119 : decode mX1_count.2.1 119 = .ok (.aload_n 0, 1) := by decide +kernel
theorem dX1_count_120 : decode mX1_count.2.1 120 = .ok (.getfield 13, 3) := by decide +kernel
theorem dX1_count_123 : decode mX1_count.2.1 123 = .ok (.iload 9, 2) := by decide +kernel
theorem dX1_count_125 : decode mX1_count.2.1 125 = .ok (.aaload, 1) := by decide +kernel
theorem dX1_count_126 : decode mX1_count.2.1 126 = .ok (.aload_n 0, 1) := by decide +kernel
theorem dX1_count_127 : decode mX1_count.2.1 127 = .ok (.getfield 16, 3) := by decide +kernel
theorem dX1_count_130 : decode mX1_count.2.1 130 = .ok (.iload 10, 2) := by decide +kernel
theorem dX1_count_132 : decode mX1_count.2.1 132 = .ok (.aaload, 1) := by decide +kernel
theorem dX1_count_133 : decode mX1_count.2.1 133 = .ok (.invokevirtual 49, 3) := by decide +kernel
theorem dX1_count_136 : decode mX1_count.2.1 136 = .ok (.istore 11, 2) := by decide +kernel
theorem dX1_count_138 : decode mX1_count.2.1 138 = .ok (.aload_n 0, 1) := by decide +kernel
theorem dX1_count_139 : decode mX1_count.2.1 139 = .ok (.dup, 1) := by decide +kernel
theorem dX1_count_140 : decode mX1_count.2.1 140 = .ok (.getfield 43, 3) := by decide +kernel
theorem dX1_count_143 : decode mX1_count.2.1 143 = .ok (.iload 11, 2) := by decide +kernel
theorem dX1_count_145 : decode mX1_count.2.1 145 = .ok (.ifCond .ne 7, 3) := by decide +kernel
theorem dX1_count_148 : decode mX1_count.2.1 148 = .ok (.iconst 1, 1) := by decide +kernel
theorem dX1_count_149 : decode mX1_count.2.1 149 = .ok (.goto 4, 3) := by decide +kernel
theorem dX1_count_152 : decode mX1_count.2.1 152 = .ok (.iconst 0, 1) := by decide +kernel
theorem dX1_count_153 : decode mX1_count.2.1 153 = .ok (.iadd, 1) := by decide +kernel
theorem dX1_count_154 : decode mX1_count.2.1 154 = .ok (.putfield 43, 3) := by decide +kernel
theorem dX1_count_157 : decode mX1_count.2.1 157 = .ok (.aload_n 0, 1) := by decide +kernel
theorem dX1_count_158 : decode mX1_count.2.1 158 = .ok (.dup, 1) := by decide +kernel
theorem dX1_count_159 : decode mX1_count.2.1 159 = .ok (.getfield 46, 3) := by decide +kernel
theorem dX1_count_162 : decode mX1_count.2.1 162 = .ok (.iload 11, 2) := by decide +kernel
theorem dX1_count_164 : decode mX1_count.2.1 164 = .ok (.iadd, 1) := by decide +kernel
theorem dX1_count_165 : decode mX1_count.2.1 165 = .ok (.putfield 46, 3) := by decide +kernel
theorem dX1_count_168 : decode mX1_count.2.1 168 = .ok (.iinc 10 1, 3) := by decide +kernel
theorem dX1_count_171 : decode mX1_count.2.1 171 = .ok (.goto (-63), 3) := by decide +kernel
theorem dX1_count_174 : decode mX1_count.2.1 174 = .ok (.iinc 9 1, 3) := by decide +kernel
theorem dX1_count_177 : decode mX1_count.2.1 177 = .ok (.goto (-83), 3) := by decide +kernel
theorem dX1_count_180 : decode mX1_count.2.1 180 = .ok (.return_, 1) := by decide +kernel
theorem dX1_bitsOfFloat_0 : decode mX1_bitsOfFloat.2.1 0 = .ok (.fload_n 0, 1) := by decide +kernel
theorem dX1_bitsOfFloat_1 : decode mX1_bitsOfFloat.2.1 1 = .ok (.fstore_n 1, 1) := by decide +kernel
theorem dX1_bitsOfFloat_2 : decode mX1_bitsOfFloat.2.1 2 = .ok (.bipush 127, 2) := by decide +kernel
theorem dX1_bitsOfFloat_4 : decode mX1_bitsOfFloat.2.1 4 = .ok (.istore_n 2, 1) := by decide +kernel
theorem dX1_bitsOfFloat_5 : decode mX1_bitsOfFloat.2.1 5 = .ok (.fload_n 1, 1) := by decide +kernel
theorem dX1_bitsOfFloat_6 : decode mX1_bitsOfFloat.2.1 6 = .ok (.fconst 0, 1) := by decide +kernel
theorem dX1_bitsOfFloat_7 : decode mX1_bitsOfFloat.2.1 7 = .ok (.fcmp .g, 1) := by decide +kernel
theorem dX1_bitsOfFloat_8 : decode mX1_bitsOfFloat.2.1 8 = .ok (.ifCond .gt 5, 3) := by decide +kernel
theorem dX1_bitsOfFloat_11 : decode mX1_bitsOfFloat.2.1 11 = .ok (.iconst 0, 1) := by decide +kernel
theorem dX1_bitsOfFloat_12 : decode mX1_bitsOfFloat.2.1 12 = .ok (.ireturn, 1) := by decide +kernel
theorem dX1_bitsOfFloat_13 : decode mX1_bitsOfFloat.2.1 13 = .ok (.iconst 0, 1) := by decide +kernel
theorem dX1_bitsOfFloat_14 : decode mX1_bitsOfFloat.2.1 14 = .ok (.istore_n 3, 1) := by decide +kernel
theorem dX1_bitsOfFloat_15 : decode mX1_bitsOfFloat.2.1 15 = .ok (.iload_n 3, 1) := by decide +kernel
theorem dX1_bitsOfFloat_16 : decode mX1_bitsOfFloat.2.1 16 = .ok (.bipush 100, 2) := by decide +kernel
theorem dX1_bitsOfFloat_18 : decode mX1_bitsOfFloat.2.1 18 = .ok (.if_icmp .ge 22, 3) := by decide +kernel
theorem dX1_bitsOfFloat_21 : decode mX1_bitsOfFloat.2.1 21 = .ok (.fload_n 1, 1) := by decide +kernel
theorem dX1_bitsOfFloat_22 : decode mX1_bitsOfFloat.2.1 22 = .ok (.fconst 1, 1) := by decide +kernel
theorem dX1_bitsOfFloat_23 : decode mX1_bitsOfFloat.2.1 23 = .ok (.fcmp .g, 1) := by decide +kernel
theorem dX1_bitsOfFloat_24 : decode mX1_bitsOfFloat.2.1 24 = .ok (.ifCond .ge 16, 3) := by decide +kernel
theorem dX1_bitsOfFloat_27 : decode mX1_bitsOfFloat.2.1 27 = .ok (.fload_n 1, 1) := by decide +kernel
theorem dX1_bitsOfFloat_28 : decode mX1_bitsOfFloat.2.1 28 = .ok (.fconst 2, 1) := by decide +kernel
theorem dX1_bitsOfFloat_29 : decode mX1_bitsOfFloat.2.1 29 = .ok (.fmul, 1) := by decide +kernel
theorem dX1_bitsOfFloat_30 : decode mX1_bitsOfFloat.2.1 30 = .ok (.fstore_n 1, 1) := by decide +kernel
theorem dX1_bitsOfFloat_31 : decode mX1_bitsOfFloat.2.1 31 = .ok (.iinc 2 (-1), 3) := by decide +kernel
theorem dX1_bitsOfFloat_34 : decode mX1_bitsOfFloat.2.1 34 = .ok (.iinc 3 1, 3) := by decide +kernel
theorem dX1_bitsOfFloat_37 : decode mX1_bitsOfFloat.2.1 37 = .ok (.goto (-22), 3) := by decide +kernel
theorem dX1_bitsOfFloat_40 : decode mX1_bitsOfFloat.2.1 40 = .ok (.iload_n 2, 1) := by decide +kernel
theorem dX1_bitsOfFloat_41 : decode mX1_bitsOfFloat.2.1 41 = .ok (.bipush 23, 2) := by decide +kernel
theorem dX1_bitsOfFloat_43 : decode mX1_bitsOfFloat.2.1 43 = .ok (.ishl, 1) := by decide +kernel
theorem dX1_bitsOfFloat_44 : decode mX1_bitsOfFloat.2.1 44 = .ok (.fload_n 1, 1) := by decide +kernel
theorem dX1_bitsOfFloat_45 : decode mX1_bitsOfFloat.2.1 45 = .ok (.ldc 92, 2) := by decide +kernel
theorem dX1_bitsOfFloat_47 : decode mX1_bitsOfFloat.2.1 47 = .ok (.fmul, 1) := by decide +kernel
theorem dX1_bitsOfFloat_48 : decode mX1_bitsOfFloat.2.1 48 = .ok (.f2i, 1) := by decide +kernel
theorem dX1_bitsOfFloat_49 : decode mX1_bitsOfFloat.2.1 49 = .ok (.ldc 93, 2) := by decide +kernel
theorem dX1_bitsOfFloat_51 : decode mX1_bitsOfFloat.2.1 51 = .ok (.isub, 1) := by decide +kernel
theorem dX1_bitsOfFloat_52 : decode mX1_bitsOfFloat.2.1 52 = .ok (.iadd, 1) := by decide +kernel
theorem dX1_bitsOfFloat_53 : decode mX1_bitsOfFloat.2.1 53 = .ok (.ireturn, 1) := by decide +kernel
theorem dX1_shareBits_0 : decode mX1_shareBits.2.1 0 = .ok (.aload_n 0, 1) := by decide +kernel
theorem dX1_shareBits_1 : decode mX1_shareBits.2.1 1 = .ok (.getfield 39, 3) := by decide +kernel
theorem dX1_shareBits_4 : decode mX1_shareBits.2.1 4 = .ok (.ifCond .le 20, 3) := by decide +kernel
theorem dX1_shareBits_7 : decode mX1_shareBits.2.1 7 = .ok (.aload_n 0, 1) := by decide +kernel
theorem dX1_shareBits_8 : decode mX1_shareBits.2.1 8 = .ok (.getfield 43, 3) := by decide +kernel
theorem dX1_shareBits_11 : decode mX1_shareBits.2.1 11 = .ok (.i2f, 1) := by decide +kernel
theorem dX1_shareBits_12 : decode mX1_shareBits.2.1 12 = .ok (.aload_n 0, 1) := by decide +kernel
theorem dX1_shareBits_13 : decode mX1_shareBits.2.1 13 = .ok (.getfield 39, 3) := by decide +kernel
theorem dX1_shareBits_16 : decode mX1_shareBits.2.1 16 = .ok (.i2f, 1) := by decide +kernel
theorem dX1_shareBits_17 : decode mX1_shareBits.2.1 17 = .ok (.fdiv, 1) := by decide +kernel
theorem dX1_shareBits_18 : decode mX1_shareBits.2.1 18 = .ok (.invokestatic 84, 3) := by decide +kernel
theorem dX1_shareBits_21 : decode mX1_shareBits.2.1 21 = .ok (.goto 4, 3) := by decide +kernel
theorem dX1_shareBits_24 : decode mX1_shareBits.2.1 24 = .ok (.iconst 0, 1) := by decide +kernel
theorem dX1_shareBits_25 : decode mX1_shareBits.2.1 25 = .ok (.ireturn, 1) := by decide +kernel
theorem dX9_share_0 : decode mX9_share.2.1 0 = .ok (.iload_n 1, 1) := by decide +kernel
theorem dX9_share_1 : decode mX9_share.2.1 1 = .ok (.invokestatic 168, 3) := by decide +kernel
theorem dX9_share_4 : decode mX9_share.2.1 4 = .ok (.ifCond .eq 13, 3) := by decide +kernel
theorem dX9_share_7 : decode mX9_share.2.1 7 = .ok (.iload_n 2, 1) := by decide +kernel
theorem dX9_share_8 : decode mX9_share.2.1 8 = .ok (.ifCond .lt 9, 3) := by decide +kernel
theorem dX9_share_11 : decode mX9_share.2.1 11 = .ok (.iload_n 2, 1) := by decide +kernel
theorem dX9_share_12 : decode mX9_share.2.1 12 = .ok (.bipush 6, 2) := by decide +kernel
theorem dX9_share_14 : decode mX9_share.2.1 14 = .ok (.if_icmp .le 5, 3) := by decide +kernel
theorem dX9_share_17 : decode mX9_share.2.1 17 = .ok (.iconst (-1), 1) := by decide +kernel
theorem dX9_share_18 : decode mX9_share.2.1 18 = .ok (.ireturn, 1) := by decide +kernel
theorem dX9_share_19 : decode mX9_share.2.1 19 = .ok (.aload_n 0, 1) := by decide +kernel
theorem dX9_share_20 : decode mX9_share.2.1 20 = .ok (.iload_n 1, 1) := by decide +kernel
theorem dX9_share_21 : decode mX9_share.2.1 21 = .ok (.invokevirtual 171, 3) := by decide +kernel
theorem dX9_share_24 : decode mX9_share.2.1 24 = .ok (.astore_n 3, 1) := by decide +kernel
theorem dX9_share_25 : decode mX9_share.2.1 25 = .ok (.aload_n 3, 1) := by decide +kernel
theorem dX9_share_26 : decode mX9_share.2.1 26 = .ok (.ifnonnull 6, 3) := by decide +kernel
theorem dX9_share_29 : decode mX9_share.2.1 29 = .ok (.bipush (-2), 2) := by decide +kernel
theorem dX9_share_31 : decode mX9_share.2.1 31 = .ok (.ireturn, 1) := by decide +kernel
theorem dX9_share_32 : decode mX9_share.2.1 32 = .ok (.aload_n 0, 1) := by decide +kernel
theorem dX9_share_33 : decode mX9_share.2.1 33 = .ok (.getfield 56, 3) := by decide +kernel
theorem dX9_share_36 : decode mX9_share.2.1 36 = .ok (.aload_n 3, 1) := by decide +kernel
theorem dX9_share_37 : decode mX9_share.2.1 37 = .ok (.iload_n 2, 1) := by decide +kernel
theorem dX9_share_38 : decode mX9_share.2.1 38 = .ok (.invokevirtual 219, 3) := by decide +kernel
theorem dX9_share_41 : decode mX9_share.2.1 41 = .ok (.aload_n 0, 1) := by decide +kernel
theorem dX9_share_42 : decode mX9_share.2.1 42 = .ok (.getfield 56, 3) := by decide +kernel
theorem dX9_share_45 : decode mX9_share.2.1 45 = .ok (.invokevirtual 223, 3) := by decide +kernel
theorem dX9_share_48 : decode mX9_share.2.1 48 = .ok (.ireturn, 1) := by decide +kernel
theorem dJxf58ca_isNaN_12338_0 : decode mJxf58ca_isNaN_12338.2.1 0 = .ok (.fload_n 0, 1) := by decide +kernel
theorem dJxf58ca_isNaN_12338_1 : decode mJxf58ca_isNaN_12338.2.1 1 = .ok (.fload_n 0, 1) := by decide +kernel
theorem dJxf58ca_isNaN_12338_2 : decode mJxf58ca_isNaN_12338.2.1 2 = .ok (.fcmp .l, 1) := by decide +kernel
theorem dJxf58ca_isNaN_12338_3 : decode mJxf58ca_isNaN_12338.2.1 3 = .ok (.ifCond .eq 7, 3) := by decide +kernel
theorem dJxf58ca_isNaN_12338_6 : decode mJxf58ca_isNaN_12338.2.1 6 = .ok (.iconst 1, 1) := by decide +kernel
theorem dJxf58ca_isNaN_12338_7 : decode mJxf58ca_isNaN_12338.2.1 7 = .ok (.goto 4, 3) := by decide +kernel
theorem dJxf58ca_isNaN_12338_10 : decode mJxf58ca_isNaN_12338.2.1 10 = .ok (.iconst 0, 1) := by decide +kernel
theorem dJxf58ca_isNaN_12338_11 : decode mJxf58ca_isNaN_12338.2.1 11 = .ok (.ireturn, 1) := by decide +kernel
theorem dJxf58ca_floatToIntBits_5c35a_0 : decode mJxf58ca_floatToIntBits_5c35a.2.1 0 = .ok (.fload_n 0, 1) := by decide +kernel
theorem dJxf58ca_floatToIntBits_5c35a_1 : decode mJxf58ca_floatToIntBits_5c35a.2.1 1 = .ok (.invokestatic 59, 3) := by decide +kernel
theorem dJxf58ca_floatToIntBits_5c35a_4 : decode mJxf58ca_floatToIntBits_5c35a.2.1 4 = .ok (.ifCond .ne 8, 3) := by decide +kernel
theorem dJxf58ca_floatToIntBits_5c35a_7 : decode mJxf58ca_floatToIntBits_5c35a.2.1 7 = .ok (.fload_n 0, 1) := by decide +kernel
theorem dJxf58ca_floatToIntBits_5c35a_8 : decode mJxf58ca_floatToIntBits_5c35a.2.1 8 = .ok (.invokestatic 74, 3) := by decide +kernel
theorem dJxf58ca_floatToIntBits_5c35a_11 : decode mJxf58ca_floatToIntBits_5c35a.2.1 11 = .ok (.ireturn, 1) := by decide +kernel
theorem dJxf58ca_floatToIntBits_5c35a_12 : decode mJxf58ca_floatToIntBits_5c35a.2.1 12 = .ok (.ldc 77, 2) := by decide +kernel
theorem dJxf58ca_floatToIntBits_5c35a_14 : decode mJxf58ca_floatToIntBits_5c35a.2.1 14 = .ok (.ireturn, 1) := by decide +kernel
theorem dX1_bitsOfDouble_0 : decode mX1_bitsOfDouble.2.1 0 = .ok (.dload_n 0, 1) := by decide +kernel
theorem dX1_bitsOfDouble_1 : decode mX1_bitsOfDouble.2.1 1 = .ok (.dstore_n 2, 1) := by decide +kernel
theorem dX1_bitsOfDouble_2 : decode mX1_bitsOfDouble.2.1 2 = .ok (.sipush 1023, 3) := by decide +kernel
theorem dX1_bitsOfDouble_5 : decode mX1_bitsOfDouble.2.1 5 = .ok (.istore 4, 2) := by decide +kernel
theorem dX1_bitsOfDouble_7 : decode mX1_bitsOfDouble.2.1 7 = .ok (.dload_n 2, 1) := by decide +kernel
theorem dX1_bitsOfDouble_8 : decode mX1_bitsOfDouble.2.1 8 = .ok (.dconst 0, 1) := by decide +kernel
theorem dX1_bitsOfDouble_9 : decode mX1_bitsOfDouble.2.1 9 = .ok (.dcmp .g, 1) := by decide +kernel
theorem dX1_bitsOfDouble_10 : decode mX1_bitsOfDouble.2.1 10 = .ok (.ifCond .gt 5, 3) := by decide +kernel
theorem dX1_bitsOfDouble_13 : decode mX1_bitsOfDouble.2.1 13 = .ok (.lconst 0, 1) := by decide +kernel
theorem dX1_bitsOfDouble_14 : decode mX1_bitsOfDouble.2.1 14 = .ok (.lreturn, 1) := by decide +kernel
theorem dX1_bitsOfDouble_15 : decode mX1_bitsOfDouble.2.1 15 = .ok (.iconst 0, 1) := by decide +kernel
theorem dX1_bitsOfDouble_16 : decode mX1_bitsOfDouble.2.1 16 = .ok (.istore 5, 2) := by decide +kernel
theorem dX1_bitsOfDouble_18 : decode mX1_bitsOfDouble.2.1 18 = .ok (.iload 5, 2) := by decide +kernel
theorem dX1_bitsOfDouble_20 : decode mX1_bitsOfDouble.2.1 20 = .ok (.bipush 100, 2) := by decide +kernel
theorem dX1_bitsOfDouble_22 : decode mX1_bitsOfDouble.2.1 22 = .ok (.if_icmp .ge 24, 3) := by decide +kernel
theorem dX1_bitsOfDouble_25 : decode mX1_bitsOfDouble.2.1 25 = .ok (.dload_n 2, 1) := by decide +kernel
theorem dX1_bitsOfDouble_26 : decode mX1_bitsOfDouble.2.1 26 = .ok (.dconst 1, 1) := by decide +kernel
theorem dX1_bitsOfDouble_27 : decode mX1_bitsOfDouble.2.1 27 = .ok (.dcmp .g, 1) := by decide +kernel
theorem dX1_bitsOfDouble_28 : decode mX1_bitsOfDouble.2.1 28 = .ok (.ifCond .ge 18, 3) := by decide +kernel
theorem dX1_bitsOfDouble_31 : decode mX1_bitsOfDouble.2.1 31 = .ok (.dload_n 2, 1) := by decide +kernel
theorem dX1_bitsOfDouble_32 : decode mX1_bitsOfDouble.2.1 32 = .ok (.ldc2_w 94, 3) := by decide +kernel
theorem dX1_bitsOfDouble_35 : decode mX1_bitsOfDouble.2.1 35 = .ok (.dmul, 1) := by decide +kernel
theorem dX1_bitsOfDouble_36 : decode mX1_bitsOfDouble.2.1 36 = .ok (.dstore_n 2, 1) := by decide +kernel
theorem dX1_bitsOfDouble_37 : decode mX1_bitsOfDouble.2.1 37 = .ok (.iinc 4 (-1), 3) := by decide +kernel
theorem dX1_bitsOfDouble_40 : decode mX1_bitsOfDouble.2.1 40 = .ok (.iinc 5 1, 3) := by decide +kernel
theorem dX1_bitsOfDouble_43 : decode mX1_bitsOfDouble.2.1 43 = .ok (.goto (-25), 3) := by decide +kernel
theorem dX1_bitsOfDouble_46 : decode mX1_bitsOfDouble.2.1 46 = .ok (.iconst 0, 1) := by decide +kernel
theorem dX1_bitsOfDouble_47 : decode mX1_bitsOfDouble.2.1 47 = .ok (.istore 5, 2) := by decide +kernel
theorem dX1_bitsOfDouble_49 : decode mX1_bitsOfDouble.2.1 49 = .ok (.iload 5, 2) := by decide +kernel
theorem dX1_bitsOfDouble_51 : decode mX1_bitsOfDouble.2.1 51 = .ok (.bipush 100, 2) := by decide +kernel
theorem dX1_bitsOfDouble_53 : decode mX1_bitsOfDouble.2.1 53 = .ok (.if_icmp .ge 26, 3) := by decide +kernel
theorem dX1_bitsOfDouble_56 : decode mX1_bitsOfDouble.2.1 56 = .ok (.dload_n 2, 1) := by decide +kernel
theorem dX1_bitsOfDouble_57 : decode mX1_bitsOfDouble.2.1 57 = .ok (.ldc2_w 94, 3) := by decide +kernel
theorem dX1_bitsOfDouble_60 : decode mX1_bitsOfDouble.2.1 60 = .ok (.dcmp .l, 1) := by decide +kernel
theorem dX1_bitsOfDouble_61 : decode mX1_bitsOfDouble.2.1 61 = .ok (.ifCond .lt 18, 3) := by decide +kernel
theorem dX1_bitsOfDouble_64 : decode mX1_bitsOfDouble.2.1 64 = .ok (.dload_n 2, 1) := by decide +kernel
theorem dX1_bitsOfDouble_65 : decode mX1_bitsOfDouble.2.1 65 = .ok (.ldc2_w 94, 3) := by decide +kernel
theorem dX1_bitsOfDouble_68 : decode mX1_bitsOfDouble.2.1 68 = .ok (.ddiv, 1) := by decide +kernel
theorem dX1_bitsOfDouble_69 : decode mX1_bitsOfDouble.2.1 69 = .ok (.dstore_n 2, 1) := by decide +kernel
theorem dX1_bitsOfDouble_70 : decode mX1_bitsOfDouble.2.1 70 = .ok (.iinc 4 1, 3) := by decide +kernel
theorem dX1_bitsOfDouble_73 : decode mX1_bitsOfDouble.2.1 73 = .ok (.iinc 5 1, 3) := by decide +kernel
theorem dX1_bitsOfDouble_76 : decode mX1_bitsOfDouble.2.1 76 = .ok (.goto (-27), 3) := by decide +kernel
theorem dX1_bitsOfDouble_79 : decode mX1_bitsOfDouble.2.1 79 = .ok (.iload 4, 2) := by decide +kernel
theorem dX1_bitsOfDouble_81 : decode mX1_bitsOfDouble.2.1 81 = .ok (.i2l, 1) := by decide +kernel
theorem dX1_bitsOfDouble_82 : decode mX1_bitsOfDouble.2.1 82 = .ok (.bipush 52, 2) := by decide +kernel
theorem dX1_bitsOfDouble_84 : decode mX1_bitsOfDouble.2.1 84 = .ok (.lshl, 1) := by decide +kernel
theorem dX1_bitsOfDouble_85 : decode mX1_bitsOfDouble.2.1 85 = .ok (.dload_n 2, 1) := by decide +kernel
theorem dX1_bitsOfDouble_86 : decode mX1_bitsOfDouble.2.1 86 = .ok (.ldc2_w 96, 3) := by decide +kernel
theorem dX1_bitsOfDouble_89 : decode mX1_bitsOfDouble.2.1 89 = .ok (.dmul, 1) := by decide +kernel
theorem dX1_bitsOfDouble_90 : decode mX1_bitsOfDouble.2.1 90 = .ok (.d2l, 1) := by decide +kernel
theorem dX1_bitsOfDouble_91 : decode mX1_bitsOfDouble.2.1 91 = .ok (.ldc2_w 98, 3) := by decide +kernel
theorem dX1_bitsOfDouble_94 : decode mX1_bitsOfDouble.2.1 94 = .ok (.lsub, 1) := by decide +kernel
theorem dX1_bitsOfDouble_95 : decode mX1_bitsOfDouble.2.1 95 = .ok (.ladd, 1) := by decide +kernel
theorem dX1_bitsOfDouble_96 : decode mX1_bitsOfDouble.2.1 96 = .ok (.lreturn, 1) := by decide +kernel
theorem dX1_meanBits_0 : decode mX1_meanBits.2.1 0 = .ok (.aload_n 0, 1) := by decide +kernel
theorem dX1_meanBits_1 : decode mX1_meanBits.2.1 1 = .ok (.getfield 39, 3) := by decide +kernel
theorem dX1_meanBits_4 : decode mX1_meanBits.2.1 4 = .ok (.ifCond .le 20, 3) := by decide +kernel
theorem dX1_meanBits_7 : decode mX1_meanBits.2.1 7 = .ok (.aload_n 0, 1) := by decide +kernel
theorem dX1_meanBits_8 : decode mX1_meanBits.2.1 8 = .ok (.getfield 46, 3) := by decide +kernel
theorem dX1_meanBits_11 : decode mX1_meanBits.2.1 11 = .ok (.i2d, 1) := by decide +kernel
theorem dX1_meanBits_12 : decode mX1_meanBits.2.1 12 = .ok (.aload_n 0, 1) := by decide +kernel
theorem dX1_meanBits_13 : decode mX1_meanBits.2.1 13 = .ok (.getfield 39, 3) := by decide +kernel
theorem dX1_meanBits_16 : decode mX1_meanBits.2.1 16 = .ok (.i2d, 1) := by decide +kernel
theorem dX1_meanBits_17 : decode mX1_meanBits.2.1 17 = .ok (.ddiv, 1) := by decide +kernel
theorem dX1_meanBits_18 : decode mX1_meanBits.2.1 18 = .ok (.invokestatic 88, 3) := by decide +kernel
theorem dX1_meanBits_21 : decode mX1_meanBits.2.1 21 = .ok (.goto 4, 3) := by decide +kernel
theorem dX1_meanBits_24 : decode mX1_meanBits.2.1 24 = .ok (.lconst 0, 1) := by decide +kernel
theorem dX1_meanBits_25 : decode mX1_meanBits.2.1 25 = .ok (.lreturn, 1) := by decide +kernel
theorem dX9_mean_0 : decode mX9_mean.2.1 0 = .ok (.iload_n 1, 1) := by decide +kernel
theorem dX9_mean_1 : decode mX9_mean.2.1 1 = .ok (.invokestatic 168, 3) := by decide +kernel
theorem dX9_mean_4 : decode mX9_mean.2.1 4 = .ok (.ifCond .eq 13, 3) := by decide +kernel
theorem dX9_mean_7 : decode mX9_mean.2.1 7 = .ok (.iload_n 2, 1) := by decide +kernel
theorem dX9_mean_8 : decode mX9_mean.2.1 8 = .ok (.ifCond .lt 9, 3) := by decide +kernel
theorem dX9_mean_11 : decode mX9_mean.2.1 11 = .ok (.iload_n 2, 1) := by decide +kernel
theorem dX9_mean_12 : decode mX9_mean.2.1 12 = .ok (.bipush 6, 2) := by decide +kernel
theorem dX9_mean_14 : decode mX9_mean.2.1 14 = .ok (.if_icmp .le 7, 3) := by decide +kernel
theorem dX9_mean_17 : decode mX9_mean.2.1 17 = .ok (.ldc2_w 226, 3) := by decide +kernel
theorem dX9_mean_20 : decode mX9_mean.2.1 20 = .ok (.lreturn, 1) := by decide +kernel
theorem dX9_mean_21 : decode mX9_mean.2.1 21 = .ok (.aload_n 0, 1) := by decide +kernel
theorem dX9_mean_22 : decode mX9_mean.2.1 22 = .ok (.iload_n 1, 1) := by decide +kernel
theorem dX9_mean_23 : decode mX9_mean.2.1 23 = .ok (.invokevirtual 171, 3) := by decide +kernel
theorem dX9_mean_26 : decode mX9_mean.2.1 26 = .ok (.astore_n 3, 1) := by decide +kernel
theorem dX9_mean_27 : decode mX9_mean.2.1 27 = .ok (.aload_n 3, 1) := by decide +kernel
theorem dX9_mean_28 : decode mX9_mean.2.1 28 = .ok (.ifnonnull 7, 3) := by decide +kernel
theorem dX9_mean_31 : decode mX9_mean.2.1 31 = .ok (.ldc2_w 228, 3) := by decide +kernel
theorem dX9_mean_34 : decode mX9_mean.2.1 34 = .ok (.lreturn, 1) := by decide +kernel
theorem dX9_mean_35 : decode mX9_mean.2.1 35 = .ok (.aload_n 0, 1) := by decide +kernel
theorem dX9_mean_36 : decode mX9_mean.2.1 36 = .ok (.getfield 56, 3) := by decide +kernel
theorem dX9_mean_39 : decode mX9_mean.2.1 39 = .ok (.aload_n 3, 1) := by decide +kernel
theorem dX9_mean_40 : decode mX9_mean.2.1 40 = .ok (.iload_n 2, 1) := by decide +kernel
theorem dX9_mean_41 : decode mX9_mean.2.1 41 = .ok (.invokevirtual 219, 3) := by decide +kernel
theorem dX9_mean_44 : decode mX9_mean.2.1 44 = .ok (.aload_n 0, 1) := by decide +kernel
theorem dX9_mean_45 : decode mX9_mean.2.1 45 = .ok (.getfield 56, 3) := by decide +kernel
theorem dX9_mean_48 : decode mX9_mean.2.1 48 = .ok (.invokevirtual 230, 3) := by decide +kernel
theorem dX9_mean_51 : decode mX9_mean.2.1 51 = .ok (.lreturn, 1) := by decide +kernel
theorem dJxe99ae_isNaN_b9ae7_0 : decode mJxe99ae_isNaN_b9ae7.2.1 0 = .ok (.dload_n 0, 1) := by decide +kernel
theorem dJxe99ae_isNaN_b9ae7_1 : decode mJxe99ae_isNaN_b9ae7.2.1 1 = .ok (.dload_n 0, 1) := by decide +kernel
theorem dJxe99ae_isNaN_b9ae7_2 : decode mJxe99ae_isNaN_b9ae7.2.1 2 = .ok (.dcmp .l, 1) := by decide +kernel
theorem dJxe99ae_isNaN_b9ae7_3 : decode mJxe99ae_isNaN_b9ae7.2.1 3 = .ok (.ifCond .eq 7, 3) := by decide +kernel
theorem dJxe99ae_isNaN_b9ae7_6 : decode mJxe99ae_isNaN_b9ae7.2.1 6 = .ok (.iconst 1, 1) := by decide +kernel
theorem dJxe99ae_isNaN_b9ae7_7 : decode mJxe99ae_isNaN_b9ae7.2.1 7 = .ok (.goto 4, 3) := by decide +kernel
theorem dJxe99ae_isNaN_b9ae7_10 : decode mJxe99ae_isNaN_b9ae7.2.1 10 = .ok (.iconst 0, 1) := by decide +kernel
theorem dJxe99ae_isNaN_b9ae7_11 : decode mJxe99ae_isNaN_b9ae7.2.1 11 = .ok (.ireturn, 1) := by decide +kernel
theorem dJxe99ae_doubleToLongBits_ccdee_0 : decode mJxe99ae_doubleToLongBits_ccdee.2.1 0 = .ok (.dload_n 0, 1) := by decide +kernel
theorem dJxe99ae_doubleToLongBits_ccdee_1 : decode mJxe99ae_doubleToLongBits_ccdee.2.1 1 = .ok (.invokestatic 122, 3) := by decide +kernel
theorem dJxe99ae_doubleToLongBits_ccdee_4 : decode mJxe99ae_doubleToLongBits_ccdee.2.1 4 = .ok (.ifCond .ne 8, 3) := by decide +kernel
theorem dJxe99ae_doubleToLongBits_ccdee_7 : decode mJxe99ae_doubleToLongBits_ccdee.2.1 7 = .ok (.dload_n 0, 1) := by decide +kernel
theorem dJxe99ae_doubleToLongBits_ccdee_8 : decode mJxe99ae_doubleToLongBits_ccdee.2.1 8 = .ok (.invokestatic 134, 3) := by decide +kernel
theorem dJxe99ae_doubleToLongBits_ccdee_11 : decode mJxe99ae_doubleToLongBits_ccdee.2.1 11 = .ok (.lreturn, 1) := by decide +kernel
theorem dJxe99ae_doubleToLongBits_ccdee_12 : decode mJxe99ae_doubleToLongBits_ccdee.2.1 12 = .ok (.ldc2_w 137, 3) := by decide +kernel
theorem dJxe99ae_doubleToLongBits_ccdee_15 : decode mJxe99ae_doubleToLongBits_ccdee.2.1 15 = .ok (.lreturn, 1) := by decide +kernel
theorem dX9_prefix_0 : decode mX9_prefix.2.1 0 = .ok (.iload_n 1, 1) := by decide +kernel
theorem dX9_prefix_1 : decode mX9_prefix.2.1 1 = .ok (.ifCond .ge 5, 3) := by decide +kernel
theorem dX9_prefix_4 : decode mX9_prefix.2.1 4 = .ok (.iconst (-1), 1) := by decide +kernel
theorem dX9_prefix_5 : decode mX9_prefix.2.1 5 = .ok (.ireturn, 1) := by decide +kernel
theorem dX9_prefix_6 : decode mX9_prefix.2.1 6 = .ok (.iload_n 1, 1) := by decide +kernel
theorem dX9_prefix_7 : decode mX9_prefix.2.1 7 = .ok (.aload_n 0, 1) := by decide +kernel
theorem dX9_prefix_8 : decode mX9_prefix.2.1 8 = .ok (.getfield 28, 3) := by decide +kernel
theorem dX9_prefix_11 : decode mX9_prefix.2.1 11 = .ok (.getfield 145, 3) := by decide +kernel
theorem dX9_prefix_14 : decode mX9_prefix.2.1 14 = .ok (.if_icmp .ge 15, 3) := by decide +kernel
theorem dX9_prefix_17 : decode mX9_prefix.2.1 17 = .ok (.aload_n 0, 1) := by decide +kernel
theorem dX9_prefix_18 : decode mX9_prefix.2.1 18 = .ok (.getfield 28, 3) := by decide +kernel
theorem dX9_prefix_21 : decode mX9_prefix.2.1 21 = .ok (.getfield 234, 3) := by decide +kernel
theorem dX9_prefix_24 : decode mX9_prefix.2.1 24 = .ok (.iload_n 1, 1) := by decide +kernel
theorem dX9_prefix_25 : decode mX9_prefix.2.1 25 = .ok (.iaload, 1) := by decide +kernel
theorem dX9_prefix_26 : decode mX9_prefix.2.1 26 = .ok (.goto 5, 3) := by decide +kernel
theorem dX9_prefix_29 : decode mX9_prefix.2.1 29 = .ok (.bipush (-4), 2) := by decide +kernel
theorem dX9_prefix_31 : decode mX9_prefix.2.1 31 = .ok (.ireturn, 1) := by decide +kernel
theorem dX9_suffix_0 : decode mX9_suffix.2.1 0 = .ok (.iload_n 1, 1) := by decide +kernel
theorem dX9_suffix_1 : decode mX9_suffix.2.1 1 = .ok (.ifCond .ge 5, 3) := by decide +kernel
theorem dX9_suffix_4 : decode mX9_suffix.2.1 4 = .ok (.iconst (-1), 1) := by decide +kernel
theorem dX9_suffix_5 : decode mX9_suffix.2.1 5 = .ok (.ireturn, 1) := by decide +kernel
theorem dX9_suffix_6 : decode mX9_suffix.2.1 6 = .ok (.iload_n 1, 1) := by decide +kernel
theorem dX9_suffix_7 : decode mX9_suffix.2.1 7 = .ok (.aload_n 0, 1) := by decide +kernel
theorem dX9_suffix_8 : decode mX9_suffix.2.1 8 = .ok (.getfield 28, 3) := by decide +kernel
theorem dX9_suffix_11 : decode mX9_suffix.2.1 11 = .ok (.getfield 148, 3) := by decide +kernel
theorem dX9_suffix_14 : decode mX9_suffix.2.1 14 = .ok (.if_icmp .ge 15, 3) := by decide +kernel
theorem dX9_suffix_17 : decode mX9_suffix.2.1 17 = .ok (.aload_n 0, 1) := by decide +kernel
theorem dX9_suffix_18 : decode mX9_suffix.2.1 18 = .ok (.getfield 28, 3) := by decide +kernel
theorem dX9_suffix_21 : decode mX9_suffix.2.1 21 = .ok (.getfield 237, 3) := by decide +kernel
theorem dX9_suffix_24 : decode mX9_suffix.2.1 24 = .ok (.iload_n 1, 1) := by decide +kernel
theorem dX9_suffix_25 : decode mX9_suffix.2.1 25 = .ok (.iaload, 1) := by decide +kernel
theorem dX9_suffix_26 : decode mX9_suffix.2.1 26 = .ok (.goto 5, 3) := by decide +kernel
theorem dX9_suffix_29 : decode mX9_suffix.2.1 29 = .ok (.bipush (-4), 2) := by decide +kernel
theorem dX9_suffix_31 : decode mX9_suffix.2.1 31 = .ok (.ireturn, 1) := by decide +kernel
theorem dX9_isRow_0 : decode mX9_isRow.2.1 0 = .ok (.iload_n 1, 1) := by decide +kernel
theorem dX9_isRow_1 : decode mX9_isRow.2.1 1 = .ok (.ifCond .lt 28, 3) := by decide +kernel
theorem dX9_isRow_4 : decode mX9_isRow.2.1 4 = .ok (.iload_n 1, 1) := by decide +kernel
theorem dX9_isRow_5 : decode mX9_isRow.2.1 5 = .ok (.aload_n 0, 1) := by decide +kernel
theorem dX9_isRow_6 : decode mX9_isRow.2.1 6 = .ok (.getfield 28, 3) := by decide +kernel
theorem dX9_isRow_9 : decode mX9_isRow.2.1 9 = .ok (.getfield 145, 3) := by decide +kernel
theorem dX9_isRow_12 : decode mX9_isRow.2.1 12 = .ok (.iconst 1, 1) := by decide +kernel
theorem dX9_isRow_13 : decode mX9_isRow.2.1 13 = .ok (.aload_n 0, 1) := by decide +kernel
theorem dX9_isRow_14 : decode mX9_isRow.2.1 14 = .ok (.getfield 10, 3) := by decide +kernel
theorem dX9_isRow_17 : decode mX9_isRow.2.1 17 = .ok (.getfield 130, 3) := by decide +kernel
theorem dX9_isRow_20 : decode mX9_isRow.2.1 20 = .ok (.iadd, 1) := by decide +kernel
theorem dX9_isRow_21 : decode mX9_isRow.2.1 21 = .ok (.imul, 1) := by decide +kernel
theorem dX9_isRow_22 : decode mX9_isRow.2.1 22 = .ok (.if_icmp .ge 7, 3) := by decide +kernel
theorem dX9_isRow_25 : decode mX9_isRow.2.1 25 = .ok (.iconst 1, 1) := by decide +kernel
theorem dX9_isRow_26 : decode mX9_isRow.2.1 26 = .ok (.goto 4, 3) := by decide +kernel
theorem dX9_isRow_29 : decode mX9_isRow.2.1 29 = .ok (.iconst 0, 1) := by decide +kernel
theorem dX9_isRow_30 : decode mX9_isRow.2.1 30 = .ok (.ireturn, 1) := by decide +kernel
theorem dX9_wordOfRow_0 : decode mX9_wordOfRow.2.1 0 = .ok (.iload_n 1, 1) := by decide +kernel
theorem dX9_wordOfRow_1 : decode mX9_wordOfRow.2.1 1 = .ok (.aload_n 0, 1) := by decide +kernel
theorem dX9_wordOfRow_2 : decode mX9_wordOfRow.2.1 2 = .ok (.getfield 28, 3) := by decide +kernel
theorem dX9_wordOfRow_5 : decode mX9_wordOfRow.2.1 5 = .ok (.getfield 145, 3) := by decide +kernel
theorem dX9_wordOfRow_8 : decode mX9_wordOfRow.2.1 8 = .ok (.if_icmp .ge 13, 3) := by decide +kernel
theorem dX9_wordOfRow_11 : decode mX9_wordOfRow.2.1 11 = .ok (.aload_n 0, 1) := by decide +kernel
theorem dX9_wordOfRow_12 : decode mX9_wordOfRow.2.1 12 = .ok (.getfield 28, 3) := by decide +kernel
theorem dX9_wordOfRow_15 : decode mX9_wordOfRow.2.1 15 = .ok (.getfield 234, 3) := by decide +kernel
theorem dX9_wordOfRow_18 : decode mX9_wordOfRow.2.1 18 = .ok (.iload_n 1, 1) := by decide +kernel
theorem dX9_wordOfRow_19 : decode mX9_wordOfRow.2.1 19 = .ok (.iaload, 1) := by decide +kernel
theorem dX9_wordOfRow_20 : decode mX9_wordOfRow.2.1 20 = .ok (.ireturn, 1) := by decide +kernel
theorem dX9_wordOfRow_21 : decode mX9_wordOfRow.2.1 21 = .ok (.iload_n 1, 1) := by decide +kernel
theorem dX9_wordOfRow_22 : decode mX9_wordOfRow.2.1 22 = .ok (.aload_n 0, 1) := by decide +kernel
theorem dX9_wordOfRow_23 : decode mX9_wordOfRow.2.1 23 = .ok (.getfield 28, 3) := by decide +kernel
theorem dX9_wordOfRow_26 : decode mX9_wordOfRow.2.1 26 = .ok (.getfield 145, 3) := by decide +kernel
theorem dX9_wordOfRow_29 : decode mX9_wordOfRow.2.1 29 = .ok (.isub, 1) := by decide +kernel
theorem dX9_wordOfRow_30 : decode mX9_wordOfRow.2.1 30 = .ok (.istore_n 2, 1) := by decide +kernel
theorem dX9_wordOfRow_31 : decode mX9_wordOfRow.2.1 31 = .ok (.aload_n 0, 1) := by decide +kernel
theorem dX9_wordOfRow_32 : decode mX9_wordOfRow.2.1 32 = .ok (.getfield 10, 3) := by decide +kernel
theorem dX9_wordOfRow_35 : decode mX9_wordOfRow.2.1 35 = .ok (.aload_n 0, 1) := by decide +kernel
theorem dX9_wordOfRow_36 : decode mX9_wordOfRow.2.1 36 = .ok (.getfield 28, 3) := by decide +kernel
theorem dX9_wordOfRow_39 : decode mX9_wordOfRow.2.1 39 = .ok (.getfield 234, 3) := by decide +kernel
theorem dX9_wordOfRow_42 : decode mX9_wordOfRow.2.1 42 = .ok (.iload_n 2, 1) := by decide +kernel
theorem dX9_wordOfRow_43 : decode mX9_wordOfRow.2.1 43 = .ok (.aload_n 0, 1) := by decide +kernel
theorem dX9_wordOfRow_44 : decode mX9_wordOfRow.2.1 44 = .ok (.getfield 10, 3) := by decide +kernel
theorem dX9_wordOfRow_47 : decode mX9_wordOfRow.2.1 47 = .ok (.getfield 130, 3) := by decide +kernel
theorem dX9_wordOfRow_50 : decode mX9_wordOfRow.2.1 50 = .ok (.idiv, 1) := by decide +kernel
theorem dX9_wordOfRow_51 : decode mX9_wordOfRow.2.1 51 = .ok (.iaload, 1) := by decide +kernel
theorem dX9_wordOfRow_52 : decode mX9_wordOfRow.2.1 52 = .ok (.iload_n 2, 1) := by decide +kernel
theorem dX9_wordOfRow_53 : decode mX9_wordOfRow.2.1 53 = .ok (.aload_n 0, 1) := by decide +kernel
theorem dX9_wordOfRow_54 : decode mX9_wordOfRow.2.1 54 = .ok (.getfield 10, 3) := by decide +kernel
theorem dX9_wordOfRow_57 : decode mX9_wordOfRow.2.1 57 = .ok (.getfield 130, 3) := by decide +kernel
theorem dX9_wordOfRow_60 : decode mX9_wordOfRow.2.1 60 = .ok (.irem, 1) := by decide +kernel
theorem dX9_wordOfRow_61 : decode mX9_wordOfRow.2.1 61 = .ok (.invokevirtual 194, 3) := by decide +kernel
theorem dX9_wordOfRow_64 : decode mX9_wordOfRow.2.1 64 = .ok (.ireturn, 1) := by decide +kernel
theorem dX5_withWord_0 : decode mX5_withWord.2.1 0 = .ok (.iload_n 1, 1) := by decide +kernel
theorem dX5_withWord_1 : decode mX5_withWord.2.1 1 = .ok (.aload_n 0, 1) := by decide +kernel
theorem dX5_withWord_2 : decode mX5_withWord.2.1 2 = .ok (.aload_n 0, 1) := by decide +kernel
theorem dX5_withWord_3 : decode mX5_withWord.2.1 3 = .ok (.iload_n 2, 1) := by decide +kernel
theorem dX5_withWord_4 : decode mX5_withWord.2.1 4 = .ok (.invokevirtual 22, 3) := by decide +kernel
theorem dX5_withWord_7 : decode mX5_withWord.2.1 7 = .ok (.invokevirtual 26, 3) := by decide +kernel
theorem dX5_withWord_10 : decode mX5_withWord.2.1 10 = .ok (.imul, 1) := by decide +kernel
theorem dX5_withWord_11 : decode mX5_withWord.2.1 11 = .ok (.iload_n 2, 1) := by decide +kernel
theorem dX5_withWord_12 : decode mX5_withWord.2.1 12 = .ok (.iadd, 1) := by decide +kernel
theorem dX5_withWord_13 : decode mX5_withWord.2.1 13 = .ok (.ireturn, 1) := by decide +kernel
theorem dX9_cell_0 : decode mX9_cell.2.1 0 = .ok (.aload_n 0, 1) := by decide +kernel
theorem dX9_cell_1 : decode mX9_cell.2.1 1 = .ok (.iload_n 1, 1) := by decide +kernel
theorem dX9_cell_2 : decode mX9_cell.2.1 2 = .ok (.invokevirtual 240, 3) := by decide +kernel
theorem dX9_cell_5 : decode mX9_cell.2.1 5 = .ok (.ifCond .eq 18, 3) := by decide +kernel
theorem dX9_cell_8 : decode mX9_cell.2.1 8 = .ok (.iload_n 2, 1) := by decide +kernel
theorem dX9_cell_9 : decode mX9_cell.2.1 9 = .ok (.ifCond .lt 14, 3) := by decide +kernel
theorem dX9_cell_12 : decode mX9_cell.2.1 12 = .ok (.iload_n 2, 1) := by decide +kernel
theorem dX9_cell_13 : decode mX9_cell.2.1 13 = .ok (.aload_n 0, 1) := by decide +kernel
theorem dX9_cell_14 : decode mX9_cell.2.1 14 = .ok (.getfield 28, 3) := by decide +kernel
theorem dX9_cell_17 : decode mX9_cell.2.1 17 = .ok (.getfield 148, 3) := by decide +kernel
theorem dX9_cell_20 : decode mX9_cell.2.1 20 = .ok (.if_icmp .lt 5, 3) := by decide +kernel
theorem dX9_cell_23 : decode mX9_cell.2.1 23 = .ok (.iconst (-1), 1) := by decide +kernel
theorem dX9_cell_24 : decode mX9_cell.2.1 24 = .ok (.ireturn, 1) := by decide +kernel
theorem dX9_cell_25 : decode mX9_cell.2.1 25 = .ok (.aload_n 0, 1) := by decide +kernel
theorem dX9_cell_26 : decode mX9_cell.2.1 26 = .ok (.getfield 49, 3) := by decide +kernel
theorem dX9_cell_29 : decode mX9_cell.2.1 29 = .ok (.aload_n 0, 1) := by decide +kernel
theorem dX9_cell_30 : decode mX9_cell.2.1 30 = .ok (.getfield 28, 3) := by decide +kernel
theorem dX9_cell_33 : decode mX9_cell.2.1 33 = .ok (.getfield 110, 3) := by decide +kernel
theorem dX9_cell_36 : decode mX9_cell.2.1 36 = .ok (.aload_n 0, 1) := by decide +kernel
theorem dX9_cell_37 : decode mX9_cell.2.1 37 = .ok (.getfield 10, 3) := by decide +kernel
theorem dX9_cell_40 : decode mX9_cell.2.1 40 = .ok (.aload_n 0, 1) := by decide +kernel
theorem dX9_cell_41 : decode mX9_cell.2.1 41 = .ok (.iload_n 1, 1) := by decide +kernel
theorem dX9_cell_42 : decode mX9_cell.2.1 42 = .ok (.invokevirtual 243, 3) := by decide +kernel
theorem dX9_cell_45 : decode mX9_cell.2.1 45 = .ok (.aload_n 0, 1) := by decide +kernel
theorem dX9_cell_46 : decode mX9_cell.2.1 46 = .ok (.getfield 28, 3) := by decide +kernel
theorem dX9_cell_49 : decode mX9_cell.2.1 49 = .ok (.getfield 237, 3) := by decide +kernel
theorem dX9_cell_52 : decode mX9_cell.2.1 52 = .ok (.iload_n 2, 1) := by decide +kernel
theorem dX9_cell_53 : decode mX9_cell.2.1 53 = .ok (.iaload, 1) := by decide +kernel
theorem dX9_cell_54 : decode mX9_cell.2.1 54 = .ok (.invokevirtual 246, 3) := by decide +kernel
theorem dX9_cell_57 : decode mX9_cell.2.1 57 = .ok (.invokevirtual 198, 3) := by decide +kernel
theorem dX9_cell_60 : decode mX9_cell.2.1 60 = .ok (.ireturn, 1) := by decide +kernel
theorem dX0_combines_0 : decode mX0_combines.2.1 0 = .ok (.aload_n 0, 1) := by decide +kernel
theorem dX0_combines_1 : decode mX0_combines.2.1 1 = .ok (.iload_n 1, 1) := by decide +kernel
theorem dX0_combines_2 : decode mX0_combines.2.1 2 = .ok (.invokevirtual 104, 3) := by decide +kernel
theorem dX0_combines_5 : decode mX0_combines.2.1 5 = .ok (.aload_n 0, 1) := by decide +kernel
theorem dX0_combines_6 : decode mX0_combines.2.1 6 = .ok (.invokevirtual 110, 3) := by decide +kernel
theorem dX0_combines_9 : decode mX0_combines.2.1 9 = .ok (.aload_n 0, 1) := by decide +kernel
theorem dX0_combines_10 : decode mX0_combines.2.1 10 = .ok (.getfield 45, 3) := by decide +kernel
theorem dX0_combines_13 : decode mX0_combines.2.1 13 = .ok (.aload_n 0, 1) := by decide +kernel
theorem dX0_combines_14 : decode mX0_combines.2.1 14 = .ok (.getfield 22, 3) := by decide +kernel
theorem dX0_combines_17 : decode mX0_combines.2.1 17 = .ok (.invokevirtual 129, 3) := by decide +kernel
theorem dX0_combines_20 : decode mX0_combines.2.1 20 = .ok (.ireturn, 1) := by decide +kernel
theorem dX9_part_0 : decode mX9_part.2.1 0 = .ok (.aload_n 0, 1) := by decide +kernel
theorem dX9_part_1 : decode mX9_part.2.1 1 = .ok (.iload_n 1, 1) := by decide +kernel
theorem dX9_part_2 : decode mX9_part.2.1 2 = .ok (.invokevirtual 240, 3) := by decide +kernel
theorem dX9_part_5 : decode mX9_part.2.1 5 = .ok (.ifCond .eq 18, 3) := by decide +kernel
theorem dX9_part_8 : decode mX9_part.2.1 8 = .ok (.iload_n 2, 1) := by decide +kernel
theorem dX9_part_9 : decode mX9_part.2.1 9 = .ok (.ifCond .lt 14, 3) := by decide +kernel
theorem dX9_part_12 : decode mX9_part.2.1 12 = .ok (.iload_n 2, 1) := by decide +kernel
theorem dX9_part_13 : decode mX9_part.2.1 13 = .ok (.aload_n 0, 1) := by decide +kernel
theorem dX9_part_14 : decode mX9_part.2.1 14 = .ok (.getfield 28, 3) := by decide +kernel
theorem dX9_part_17 : decode mX9_part.2.1 17 = .ok (.getfield 145, 3) := by decide +kernel
theorem dX9_part_20 : decode mX9_part.2.1 20 = .ok (.if_icmp .lt 5, 3) := by decide +kernel
theorem dX9_part_23 : decode mX9_part.2.1 23 = .ok (.iconst (-1), 1) := by decide +kernel
theorem dX9_part_24 : decode mX9_part.2.1 24 = .ok (.ireturn, 1) := by decide +kernel
theorem dX9_part_25 : decode mX9_part.2.1 25 = .ok (.aload_n 0, 1) := by decide +kernel
theorem dX9_part_26 : decode mX9_part.2.1 26 = .ok (.invokevirtual 249, 3) := by decide +kernel
theorem dX9_part_29 : decode mX9_part.2.1 29 = .ok (.aload_n 0, 1) := by decide +kernel
theorem dX9_part_30 : decode mX9_part.2.1 30 = .ok (.getfield 49, 3) := by decide +kernel
theorem dX9_part_33 : decode mX9_part.2.1 33 = .ok (.aload_n 0, 1) := by decide +kernel
theorem dX9_part_34 : decode mX9_part.2.1 34 = .ok (.iload_n 1, 1) := by decide +kernel
theorem dX9_part_35 : decode mX9_part.2.1 35 = .ok (.invokevirtual 243, 3) := by decide +kernel
theorem dX9_part_38 : decode mX9_part.2.1 38 = .ok (.invokevirtual 252, 3) := by decide +kernel
theorem dX9_part_41 : decode mX9_part.2.1 41 = .ok (.ifCond .eq 18, 3) := by decide +kernel
theorem dX9_part_44 : decode mX9_part.2.1 44 = .ok (.aload_n 0, 1) := by decide +kernel
theorem dX9_part_45 : decode mX9_part.2.1 45 = .ok (.getfield 49, 3) := by decide +kernel
theorem dX9_part_48 : decode mX9_part.2.1 48 = .ok (.getfield 255, 3) := by decide +kernel
theorem dX9_part_51 : decode mX9_part.2.1 51 = .ok (.getfield 258, 3) := by decide +kernel
theorem dX9_part_54 : decode mX9_part.2.1 54 = .ok (.iload_n 2, 1) := by decide +kernel
theorem dX9_part_55 : decode mX9_part.2.1 55 = .ok (.iaload, 1) := by decide +kernel
theorem dX9_part_56 : decode mX9_part.2.1 56 = .ok (.goto 5, 3) := by decide +kernel
theorem dX9_part_59 : decode mX9_part.2.1 59 = .ok (.bipush (-4), 2) := by decide +kernel
theorem dX9_part_61 : decode mX9_part.2.1 61 = .ok (.ireturn, 1) := by decide +kernel
theorem dX8_takePrefixes_0 : decode mX8_takePrefixes.2.1 0 = .ok (.aload_n 0, 1) := by decide +kernel
theorem dX8_takePrefixes_1 : decode mX8_takePrefixes.2.1 1 = .ok (.aload_n 1, 1) := by decide +kernel
theorem dX8_takePrefixes_2 : decode mX8_takePrefixes.2.1 2 = .ok (.getfield 61, 3) := by decide +kernel
theorem dX8_takePrefixes_5 : decode mX8_takePrefixes.2.1 5 = .ok (.iconst 4, 1) := by decide +kernel
theorem dX8_takePrefixes_6 : decode mX8_takePrefixes.2.1 6 = .ok (.if_icmp .gt 10, 3) := by decide +kernel
theorem dX8_takePrefixes_9 : decode mX8_takePrefixes.2.1 9 = .ok (.aload_n 1, 1) := by decide +kernel
theorem dX8_takePrefixes_10 : decode mX8_takePrefixes.2.1 10 = .ok (.getfield 61, 3) := by decide +kernel
theorem dX8_takePrefixes_13 : decode mX8_takePrefixes.2.1 13 = .ok (.goto 4, 3) := by decide +kernel
theorem dX8_takePrefixes_16 : decode mX8_takePrefixes.2.1 16 = .ok (.iconst 4, 1) := by decide +kernel
theorem dX8_takePrefixes_17 : decode mX8_takePrefixes.2.1 17 = .ok (.putfield 37, 3) := by decide +kernel
theorem dX8_takePrefixes_20 : decode mX8_takePrefixes.2.1 20 = .ok (.aload_n 1, 1) := by decide +kernel
theorem dX8_takePrefixes_21 : decode mX8_takePrefixes.2.1 21 = .ok (.getfield 66, 3) := by decide +kernel
theorem dX8_takePrefixes_24 : decode mX8_takePrefixes.2.1 24 = .ok (.iconst 0, 1) := by decide +kernel
theorem dX8_takePrefixes_25 : decode mX8_takePrefixes.2.1 25 = .ok (.aload_n 0, 1) := by decide +kernel
theorem dX8_takePrefixes_26 : decode mX8_takePrefixes.2.1 26 = .ok (.getfield 9, 3) := by decide +kernel
theorem dX8_takePrefixes_29 : decode mX8_takePrefixes.2.1 29 = .ok (.iconst 0, 1) := by decide +kernel
theorem dX8_takePrefixes_30 : decode mX8_takePrefixes.2.1 30 = .ok (.aload_n 0, 1) := by decide +kernel
theorem dX8_takePrefixes_31 : decode mX8_takePrefixes.2.1 31 = .ok (.getfield 37, 3) := by decide +kernel
theorem dX8_takePrefixes_34 : decode mX8_takePrefixes.2.1 34 = .ok (.invokestatic 55, 3) := by decide +kernel
theorem dX8_takePrefixes_37 : decode mX8_takePrefixes.2.1 37 = .ok (.return_, 1) := by decide +kernel
theorem dX9_close_0 : decode mX9_close.2.1 0 = .ok (.aload_n 0, 1) := by decide +kernel
theorem dX9_close_1 : decode mX9_close.2.1 1 = .ok (.invokevirtual 249, 3) := by decide +kernel
theorem dX9_close_4 : decode mX9_close.2.1 4 = .ok (.aload_n 0, 1) := by decide +kernel
theorem dX9_close_5 : decode mX9_close.2.1 5 = .ok (.getfield 49, 3) := by decide +kernel
theorem dX9_close_8 : decode mX9_close.2.1 8 = .ok (.invokevirtual 205, 3) := by decide +kernel
theorem dX9_close_11 : decode mX9_close.2.1 11 = .ok (.istore_n 1, 1) := by decide +kernel
theorem dX9_close_12 : decode mX9_close.2.1 12 = .ok (.aload_n 0, 1) := by decide +kernel
theorem dX9_close_13 : decode mX9_close.2.1 13 = .ok (.getfield 28, 3) := by decide +kernel
theorem dX9_close_16 : decode mX9_close.2.1 16 = .ok (.aload_n 0, 1) := by decide +kernel
theorem dX9_close_17 : decode mX9_close.2.1 17 = .ok (.getfield 49, 3) := by decide +kernel
theorem dX9_close_20 : decode mX9_close.2.1 20 = .ok (.invokevirtual 261, 3) := by decide +kernel
theorem dX9_close_23 : decode mX9_close.2.1 23 = .ok (.iload_n 1, 1) := by decide +kernel
theorem dX9_close_24 : decode mX9_close.2.1 24 = .ok (.ireturn, 1) := by decide +kernel
theorem dX0_firstOfSomeValue_0 : decode mX0_firstOfSomeValue.2.1 0 = .ok (.aload_n 0, 1) := by decide +kernel
theorem dX0_firstOfSomeValue_1 : decode mX0_firstOfSomeValue.2.1 1 = .ok (.aload_n 1, 1) := by decide +kernel
theorem dX0_firstOfSomeValue_2 : decode mX0_firstOfSomeValue.2.1 2 = .ok (.invokevirtual 149, 3) := by decide +kernel
theorem dX0_firstOfSomeValue_5 : decode mX0_firstOfSomeValue.2.1 5 = .ok (.aload_n 0, 1) := by decide +kernel
theorem dX0_firstOfSomeValue_6 : decode mX0_firstOfSomeValue.2.1 6 = .ok (.invokevirtual 152, 3) := by decide +kernel
theorem dX0_firstOfSomeValue_9 : decode mX0_firstOfSomeValue.2.1 9 = .ok (.pop, 1) := by decide +kernel
theorem dX0_firstOfSomeValue_10 : decode mX0_firstOfSomeValue.2.1 10 = .ok (.iconst 0, 1) := by decide +kernel
theorem dX0_firstOfSomeValue_11 : decode mX0_firstOfSomeValue.2.1 11 = .ok (.istore_n 2, 1) := by decide +kernel
theorem dX0_firstOfSomeValue_12 : decode mX0_firstOfSomeValue.2.1 12 = .ok (.iload_n 2, 1) := by decide +kernel
theorem dX0_firstOfSomeValue_13 : decode mX0_firstOfSomeValue.2.1 13 = .ok (.aload_n 0, 1) := by decide +kernel
theorem dX0_firstOfSomeValue_14 : decode mX0_firstOfSomeValue.2.1 14 = .ok (.getfield 65, 3) := by decide +kernel
theorem dX0_firstOfSomeValue_17 : decode mX0_firstOfSomeValue.2.1 17 = .ok (.if_icmp .ge 39, 3) := by decide +kernel
theorem dX0_firstOfSomeValue_20 : decode mX0_firstOfSomeValue.2.1 20 = .ok (.aload_n 0, 1) := by decide +kernel
theorem dX0_firstOfSomeValue_21 : decode mX0_firstOfSomeValue.2.1 21 = .ok (.getfield 53, 3) := by decide +kernel
theorem dX0_firstOfSomeValue_24 : decode mX0_firstOfSomeValue.2.1 24 = .ok (.aload_n 0, 1) := by decide +kernel
theorem dX0_firstOfSomeValue_25 : decode mX0_firstOfSomeValue.2.1 25 = .ok (.getfield 19, 3) := by decide +kernel
theorem dX0_firstOfSomeValue_28 : decode mX0_firstOfSomeValue.2.1 28 = .ok (.iload_n 2, 1) := by decide +kernel
theorem dX0_firstOfSomeValue_29 : decode mX0_firstOfSomeValue.2.1 29 = .ok (.aaload, 1) := by decide +kernel
theorem dX0_firstOfSomeValue_30 : decode mX0_firstOfSomeValue.2.1 30 = .ok (.aload_n 0, 1) := by decide +kernel
theorem dX0_firstOfSomeValue_31 : decode mX0_firstOfSomeValue.2.1 31 = .ok (.getfield 53, 3) := by decide +kernel
theorem dX0_firstOfSomeValue_34 : decode mX0_firstOfSomeValue.2.1 34 = .ok (.getfield 81, 3) := by decide +kernel
theorem dX0_firstOfSomeValue_37 : decode mX0_firstOfSomeValue.2.1 37 = .ok (.invokevirtual 135, 3) := by decide +kernel
theorem dX0_firstOfSomeValue_40 : decode mX0_firstOfSomeValue.2.1 40 = .ok (.ifCond .eq 10, 3) := by decide +kernel
theorem dX0_firstOfSomeValue_43 : decode mX0_firstOfSomeValue.2.1 43 = .ok (.aload_n 0, 1) := by decide +kernel
theorem dX0_firstOfSomeValue_44 : decode mX0_firstOfSomeValue.2.1 44 = .ok (.getfield 11, 3) := by decide +kernel
theorem dX0_firstOfSomeValue_47 : decode mX0_firstOfSomeValue.2.1 47 = .ok (.iload_n 2, 1) := by decide +kernel
theorem dX0_firstOfSomeValue_48 : decode mX0_firstOfSomeValue.2.1 48 = .ok (.iaload, 1) := by decide +kernel
theorem dX0_firstOfSomeValue_49 : decode mX0_firstOfSomeValue.2.1 49 = .ok (.ireturn, 1) := by decide +kernel
theorem dX0_firstOfSomeValue_50 : decode mX0_firstOfSomeValue.2.1 50 = .ok (.iinc 2 1, 3) := by decide +kernel
theorem dX0_firstOfSomeValue_53 : decode mX0_firstOfSomeValue.2.1 53 = .ok (.goto (-41), 3) := by decide +kernel
theorem dX0_firstOfSomeValue_56 : decode mX0_firstOfSomeValue.2.1 56 = .ok (.bipush (-4), 2) := by decide +kernel
theorem dX0_firstOfSomeValue_58 : decode mX0_firstOfSomeValue.2.1 58 = .ok (.ireturn, 1) := by decide +kernel
theorem dX9_firstDifference_0 : decode mX9_firstDifference.2.1 0 = .ok (.aload_n 0, 1) := by decide +kernel
theorem dX9_firstDifference_1 : decode mX9_firstDifference.2.1 1 = .ok (.getfield 67, 3) := by decide +kernel
theorem dX9_firstDifference_4 : decode mX9_firstDifference.2.1 4 = .ok (.iconst 0, 1) := by decide +kernel
theorem dX9_firstDifference_5 : decode mX9_firstDifference.2.1 5 = .ok (.invokevirtual 307, 3) := by decide +kernel
theorem dX9_firstDifference_8 : decode mX9_firstDifference.2.1 8 = .ok (.aload_n 0, 1) := by decide +kernel
theorem dX9_firstDifference_9 : decode mX9_firstDifference.2.1 9 = .ok (.getfield 67, 3) := by decide +kernel
theorem dX9_firstDifference_12 : decode mX9_firstDifference.2.1 12 = .ok (.aload_n 0, 1) := by decide +kernel
theorem dX9_firstDifference_13 : decode mX9_firstDifference.2.1 13 = .ok (.getfield 28, 3) := by decide +kernel
theorem dX9_firstDifference_16 : decode mX9_firstDifference.2.1 16 = .ok (.getfield 110, 3) := by decide +kernel
theorem dX9_firstDifference_19 : decode mX9_firstDifference.2.1 19 = .ok (.iconst 1, 1) := by decide +kernel
theorem dX9_firstDifference_20 : decode mX9_firstDifference.2.1 20 = .ok (.invokevirtual 300, 3) := by decide +kernel
theorem dX9_firstDifference_23 : decode mX9_firstDifference.2.1 23 = .ok (.aload_n 0, 1) := by decide +kernel
theorem dX9_firstDifference_24 : decode mX9_firstDifference.2.1 24 = .ok (.getfield 67, 3) := by decide +kernel
theorem dX9_firstDifference_27 : decode mX9_firstDifference.2.1 27 = .ok (.aload_n 1, 1) := by decide +kernel
theorem dX9_firstDifference_28 : decode mX9_firstDifference.2.1 28 = .ok (.aload_n 0, 1) := by decide +kernel
theorem dX9_firstDifference_29 : decode mX9_firstDifference.2.1 29 = .ok (.getfield 10, 3) := by decide +kernel
theorem dX9_firstDifference_32 : decode mX9_firstDifference.2.1 32 = .ok (.getfield 129, 3) := by decide +kernel
theorem dX9_firstDifference_35 : decode mX9_firstDifference.2.1 35 = .ok (.iconst 1, 1) := by decide +kernel
theorem dX9_firstDifference_36 : decode mX9_firstDifference.2.1 36 = .ok (.isub, 1) := by decide +kernel
theorem dX9_firstDifference_37 : decode mX9_firstDifference.2.1 37 = .ok (.invokevirtual 300, 3) := by decide +kernel
theorem dX9_firstDifference_40 : decode mX9_firstDifference.2.1 40 = .ok (.aload_n 0, 1) := by decide +kernel
theorem dX9_firstDifference_41 : decode mX9_firstDifference.2.1 41 = .ok (.getfield 49, 3) := by decide +kernel
theorem dX9_firstDifference_44 : decode mX9_firstDifference.2.1 44 = .ok (.aload_n 0, 1) := by decide +kernel
theorem dX9_firstDifference_45 : decode mX9_firstDifference.2.1 45 = .ok (.getfield 67, 3) := by decide +kernel
theorem dX9_firstDifference_48 : decode mX9_firstDifference.2.1 48 = .ok (.invokevirtual 368, 3) := by decide +kernel
theorem dX9_firstDifference_51 : decode mX9_firstDifference.2.1 51 = .ok (.ireturn, 1) := by decide +kernel
theorem dX5_ending_0 : decode mX5_ending.2.1 0 = .ok (.iload_n 1, 1) := by decide +kernel
theorem dX5_ending_1 : decode mX5_ending.2.1 1 = .ok (.istore_n 3, 1) := by decide +kernel
theorem dX5_ending_2 : decode mX5_ending.2.1 2 = .ok (.iconst 0, 1) := by decide +kernel
theorem dX5_ending_3 : decode mX5_ending.2.1 3 = .ok (.istore 4, 2) := by decide +kernel
theorem dX5_ending_5 : decode mX5_ending.2.1 5 = .ok (.iload 4, 2) := by decide +kernel
theorem dX5_ending_7 : decode mX5_ending.2.1 7 = .ok (.iload_n 2, 1) := by decide +kernel
theorem dX5_ending_8 : decode mX5_ending.2.1 8 = .ok (.if_icmp .ge 15, 3) := by decide +kernel
theorem dX5_ending_11 : decode mX5_ending.2.1 11 = .ok (.aload_n 0, 1) := by decide +kernel
theorem dX5_ending_12 : decode mX5_ending.2.1 12 = .ok (.iload_n 3, 1) := by decide +kernel
theorem dX5_ending_13 : decode mX5_ending.2.1 13 = .ok (.invokevirtual 29, 3) := by decide +kernel
theorem dX5_ending_16 : decode mX5_ending.2.1 16 = .ok (.istore_n 3, 1) := by decide +kernel
theorem dX5_ending_17 : decode mX5_ending.2.1 17 = .ok (.iinc 4 1, 3) := by decide +kernel
theorem dX5_ending_20 : decode mX5_ending.2.1 20 = .ok (.goto (-15), 3) := by decide +kernel
theorem dX5_ending_23 : decode mX5_ending.2.1 23 = .ok (.iload_n 1, 1) := by decide +kernel
theorem dX5_ending_24 : decode mX5_ending.2.1 24 = .ok (.iload_n 3, 1) := by decide +kernel
theorem dX5_ending_25 : decode mX5_ending.2.1 25 = .ok (.aload_n 0, 1) := by decide +kernel
theorem dX5_ending_26 : decode mX5_ending.2.1 26 = .ok (.iload_n 2, 1) := by decide +kernel
theorem dX5_ending_27 : decode mX5_ending.2.1 27 = .ok (.invokevirtual 26, 3) := by decide +kernel
theorem dX5_ending_30 : decode mX5_ending.2.1 30 = .ok (.imul, 1) := by decide +kernel
theorem dX5_ending_31 : decode mX5_ending.2.1 31 = .ok (.isub, 1) := by decide +kernel
theorem dX5_ending_32 : decode mX5_ending.2.1 32 = .ok (.ireturn, 1) := by decide +kernel
theorem dX8_hasSuffix_0 : decode mX8_hasSuffix.2.1 0 = .ok (.iconst 0, 1) := by decide +kernel
theorem dX8_hasSuffix_1 : decode mX8_hasSuffix.2.1 1 = .ok (.istore_n 2, 1) := by decide +kernel
theorem dX8_hasSuffix_2 : decode mX8_hasSuffix.2.1 2 = .ok (.iload_n 2, 1) := by decide +kernel
theorem dX8_hasSuffix_3 : decode mX8_hasSuffix.2.1 3 = .ok (.aload_n 0, 1) := by decide +kernel
theorem dX8_hasSuffix_4 : decode mX8_hasSuffix.2.1 4 = .ok (.getfield 41, 3) := by decide +kernel
theorem dX8_hasSuffix_7 : decode mX8_hasSuffix.2.1 7 = .ok (.if_icmp .ge 21, 3) := by decide +kernel
theorem dX8_hasSuffix_10 : decode mX8_hasSuffix.2.1 10 = .ok (.aload_n 0, 1) := by decide +kernel
theorem dX8_hasSuffix_11 : decode mX8_hasSuffix.2.1 11 = .ok (.getfield 15, 3) := by decide +kernel
theorem dX8_hasSuffix_14 : decode mX8_hasSuffix.2.1 14 = .ok (.iload_n 2, 1) := by decide +kernel
theorem dX8_hasSuffix_15 : decode mX8_hasSuffix.2.1 15 = .ok (.iaload, 1) := by decide +kernel
theorem dX8_hasSuffix_16 : decode mX8_hasSuffix.2.1 16 = .ok (.iload_n 1, 1) := by decide +kernel
theorem dX8_hasSuffix_17 : decode mX8_hasSuffix.2.1 17 = .ok (.if_icmp .ne 5, 3) := by decide +kernel
theorem dX8_hasSuffix_20 : decode mX8_hasSuffix.2.1 20 = .ok (.iconst 1, 1) := by decide +kernel
theorem dX8_hasSuffix_21 : decode mX8_hasSuffix.2.1 21 = .ok (.ireturn, 1) := by decide +kernel
theorem dX8_hasSuffix_22 : decode mX8_hasSuffix.2.1 22 = .ok (.iinc 2 1, 3) := by decide +kernel
theorem dX8_hasSuffix_25 : decode mX8_hasSuffix.2.1 25 = .ok (.goto (-23), 3) := by decide +kernel
theorem dX8_hasSuffix_28 : decode mX8_hasSuffix.2.1 28 = .ok (.iconst 0, 1) := by decide +kernel
theorem dX8_hasSuffix_29 : decode mX8_hasSuffix.2.1 29 = .ok (.ireturn, 1) := by decide +kernel
theorem dX8_addEndings_0 : decode mX8_addEndings.2.1 0 = .ok (.aload_n 0, 1) := by decide +kernel
theorem dX8_addEndings_1 : decode mX8_addEndings.2.1 1 = .ok (.getfield 18, 3) := by decide +kernel
theorem dX8_addEndings_4 : decode mX8_addEndings.2.1 4 = .ok (.iload_n 1, 1) := by decide +kernel
theorem dX8_addEndings_5 : decode mX8_addEndings.2.1 5 = .ok (.invokevirtual 69, 3) := by decide +kernel
theorem dX8_addEndings_8 : decode mX8_addEndings.2.1 8 = .ok (.istore_n 2, 1) := by decide +kernel
theorem dX8_addEndings_9 : decode mX8_addEndings.2.1 9 = .ok (.iconst 0, 1) := by decide +kernel
theorem dX8_addEndings_10 : decode mX8_addEndings.2.1 10 = .ok (.istore_n 3, 1) := by decide +kernel
theorem dX8_addEndings_11 : decode mX8_addEndings.2.1 11 = .ok (.iload_n 3, 1) := by decide +kernel
theorem dX8_addEndings_12 : decode mX8_addEndings.2.1 12 = .ok (.iload_n 2, 1) := by decide +kernel
theorem dX8_addEndings_13 : decode mX8_addEndings.2.1 13 = .ok (.if_icmp .gt 59, 3) := by decide +kernel
theorem dX8_addEndings_16 : decode mX8_addEndings.2.1 16 = .ok (.aload_n 0, 1) := by decide +kernel
theorem dX8_addEndings_17 : decode mX8_addEndings.2.1 17 = .ok (.getfield 18, 3) := by decide +kernel
theorem dX8_addEndings_20 : decode mX8_addEndings.2.1 20 = .ok (.iload_n 1, 1) := by decide +kernel
theorem dX8_addEndings_21 : decode mX8_addEndings.2.1 21 = .ok (.iload_n 3, 1) := by decide +kernel
theorem dX8_addEndings_22 : decode mX8_addEndings.2.1 22 = .ok (.invokevirtual 75, 3) := by decide +kernel
theorem dX8_addEndings_25 : decode mX8_addEndings.2.1 25 = .ok (.istore 4, 2) := by decide +kernel
theorem dX8_addEndings_27 : decode mX8_addEndings.2.1 27 = .ok (.aload_n 0, 1) := by decide +kernel
theorem dX8_addEndings_28 : decode mX8_addEndings.2.1 28 = .ok (.getfield 41, 3) := by decide +kernel
theorem dX8_addEndings_31 : decode mX8_addEndings.2.1 31 = .ok (.bipush 48, 2) := by decide +kernel
theorem dX8_addEndings_33 : decode mX8_addEndings.2.1 33 = .ok (.if_icmp .ge 33, 3) := by decide +kernel
theorem dX8_addEndings_36 : decode mX8_addEndings.2.1 36 = .ok (.aload_n 0, 1) := by decide +kernel
theorem dX8_addEndings_37 : decode mX8_addEndings.2.1 37 = .ok (.iload 4, 2) := by decide +kernel
theorem dX8_addEndings_39 : decode mX8_addEndings.2.1 39 = .ok (.invokevirtual 79, 3) := by decide +kernel
theorem dX8_addEndings_42 : decode mX8_addEndings.2.1 42 = .ok (.ifCond .ne 24, 3) := by decide +kernel
theorem dX8_addEndings_45 : decode mX8_addEndings.2.1 45 = .ok (.aload_n 0, 1) := by decide +kernel
theorem dX8_addEndings_46 : decode mX8_addEndings.2.1 46 = .ok (.getfield 15, 3) := by decide +kernel
theorem dX8_addEndings_49 : decode mX8_addEndings.2.1 49 = .ok (.aload_n 0, 1) := by decide +kernel
theorem dX8_addEndings_50 : decode mX8_addEndings.2.1 50 = .ok (.getfield 41, 3) := by decide +kernel
theorem dX8_addEndings_53 : decode mX8_addEndings.2.1 53 = .ok (.iload 4, 2) := by decide +kernel
theorem dX8_addEndings_55 : decode mX8_addEndings.2.1 55 = .ok (.iastore, 1) := by decide +kernel
theorem dX8_addEndings_56 : decode mX8_addEndings.2.1 56 = .ok (.aload_n 0, 1) := by decide +kernel
theorem dX8_addEndings_57 : decode mX8_addEndings.2.1 57 = .ok (.dup, 1) := by decide +kernel
theorem dX8_addEndings_58 : decode mX8_addEndings.2.1 58 = .ok (.getfield 41, 3) := by decide +kernel
theorem dX8_addEndings_61 : decode mX8_addEndings.2.1 61 = .ok (.iconst 1, 1) := by decide +kernel
theorem dX8_addEndings_62 : decode mX8_addEndings.2.1 62 = .ok (.iadd, 1) := by decide +kernel
theorem dX8_addEndings_63 : decode mX8_addEndings.2.1 63 = .ok (.putfield 41, 3) := by decide +kernel
theorem dX8_addEndings_66 : decode mX8_addEndings.2.1 66 = .ok (.iinc 3 1, 3) := by decide +kernel
theorem dX8_addEndings_69 : decode mX8_addEndings.2.1 69 = .ok (.goto (-58), 3) := by decide +kernel
theorem dX8_addEndings_72 : decode mX8_addEndings.2.1 72 = .ok (.return_, 1) := by decide +kernel
theorem dX9_learn_0 : decode mX9_learn.2.1 0 = .ok (.aload_n 0, 1) := by decide +kernel
theorem dX9_learn_1 : decode mX9_learn.2.1 1 = .ok (.getfield 28, 3) := by decide +kernel
theorem dX9_learn_4 : decode mX9_learn.2.1 4 = .ok (.dup, 1) := by decide +kernel
theorem dX9_learn_5 : decode mX9_learn.2.1 5 = .ok (.getfield 151, 3) := by decide +kernel
theorem dX9_learn_8 : decode mX9_learn.2.1 8 = .ok (.iconst 1, 1) := by decide +kernel
theorem dX9_learn_9 : decode mX9_learn.2.1 9 = .ok (.iadd, 1) := by decide +kernel
theorem dX9_learn_10 : decode mX9_learn.2.1 10 = .ok (.putfield 151, 3) := by decide +kernel
theorem dX9_learn_13 : decode mX9_learn.2.1 13 = .ok (.aload_n 0, 1) := by decide +kernel
theorem dX9_learn_14 : decode mX9_learn.2.1 14 = .ok (.invokevirtual 249, 3) := by decide +kernel
theorem dX9_learn_17 : decode mX9_learn.2.1 17 = .ok (.aload_n 0, 1) := by decide +kernel
theorem dX9_learn_18 : decode mX9_learn.2.1 18 = .ok (.getfield 49, 3) := by decide +kernel
theorem dX9_learn_21 : decode mX9_learn.2.1 21 = .ok (.invokevirtual 205, 3) := by decide +kernel
theorem dX9_learn_24 : decode mX9_learn.2.1 24 = .ok (.pop, 1) := by decide +kernel
theorem dX9_learn_25 : decode mX9_learn.2.1 25 = .ok (.aload_n 0, 1) := by decide +kernel
theorem dX9_learn_26 : decode mX9_learn.2.1 26 = .ok (.getfield 28, 3) := by decide +kernel
theorem dX9_learn_29 : decode mX9_learn.2.1 29 = .ok (.aload_n 0, 1) := by decide +kernel
theorem dX9_learn_30 : decode mX9_learn.2.1 30 = .ok (.getfield 49, 3) := by decide +kernel
theorem dX9_learn_33 : decode mX9_learn.2.1 33 = .ok (.invokevirtual 261, 3) := by decide +kernel
theorem dX9_learn_36 : decode mX9_learn.2.1 36 = .ok (.aload_n 0, 1) := by decide +kernel
theorem dX9_learn_37 : decode mX9_learn.2.1 37 = .ok (.getfield 49, 3) := by decide +kernel
theorem dX9_learn_40 : decode mX9_learn.2.1 40 = .ok (.aload_n 0, 1) := by decide +kernel
theorem dX9_learn_41 : decode mX9_learn.2.1 41 = .ok (.getfield 28, 3) := by decide +kernel
theorem dX9_learn_44 : decode mX9_learn.2.1 44 = .ok (.getfield 138, 3) := by decide +kernel
theorem dX9_learn_47 : decode mX9_learn.2.1 47 = .ok (.invokevirtual 265, 3) := by decide +kernel
theorem dX9_learn_50 : decode mX9_learn.2.1 50 = .ok (.aload_n 0, 1) := by decide +kernel
theorem dX9_learn_51 : decode mX9_learn.2.1 51 = .ok (.getfield 28, 3) := by decide +kernel
theorem dX9_learn_54 : decode mX9_learn.2.1 54 = .ok (.iconst 1, 1) := by decide +kernel
theorem dX9_learn_55 : decode mX9_learn.2.1 55 = .ok (.putfield 134, 3) := by decide +kernel
theorem dX9_learn_58 : decode mX9_learn.2.1 58 = .ok (.aload_n 0, 1) := by decide +kernel
theorem dX9_learn_59 : decode mX9_learn.2.1 59 = .ok (.aload_n 0, 1) := by decide +kernel
theorem dX9_learn_60 : decode mX9_learn.2.1 60 = .ok (.getfield 28, 3) := by decide +kernel
theorem dX9_learn_63 : decode mX9_learn.2.1 63 = .ok (.getfield 138, 3) := by decide +kernel
theorem dX9_learn_66 : decode mX9_learn.2.1 66 = .ok (.invokevirtual 268, 3) := by decide +kernel
theorem dX9_learn_69 : decode mX9_learn.2.1 69 = .ok (.istore_n 1, 1) := by decide +kernel
theorem dX9_learn_70 : decode mX9_learn.2.1 70 = .ok (.iload_n 1, 1) := by decide +kernel
theorem dX9_learn_71 : decode mX9_learn.2.1 71 = .ok (.bipush (-4), 2) := by decide +kernel
theorem dX9_learn_73 : decode mX9_learn.2.1 73 = .ok (.if_icmp .eq 11, 3) := by decide +kernel
theorem dX9_learn_76 : decode mX9_learn.2.1 76 = .ok (.aload_n 0, 1) := by decide +kernel
theorem dX9_learn_77 : decode mX9_learn.2.1 77 = .ok (.getfield 28, 3) := by decide +kernel
theorem dX9_learn_80 : decode mX9_learn.2.1 80 = .ok (.iload_n 1, 1) := by decide +kernel
theorem dX9_learn_81 : decode mX9_learn.2.1 81 = .ok (.invokevirtual 272, 3) := by decide +kernel
theorem dX9_learn_84 : decode mX9_learn.2.1 84 = .ok (.iload_n 1, 1) := by decide +kernel
theorem dX9_learn_85 : decode mX9_learn.2.1 85 = .ok (.ireturn, 1) := by decide +kernel
theorem dX9_counter_0 : decode mX9_counter.2.1 0 = .ok (.aload_n 0, 1) := by decide +kernel
theorem dX9_counter_1 : decode mX9_counter.2.1 1 = .ok (.getfield 28, 3) := by decide +kernel
theorem dX9_counter_4 : decode mX9_counter.2.1 4 = .ok (.getfield 134, 3) := by decide +kernel
theorem dX9_counter_7 : decode mX9_counter.2.1 7 = .ok (.ifCond .eq 17, 3) := by decide +kernel
theorem dX9_counter_10 : decode mX9_counter.2.1 10 = .ok (.aload_n 0, 1) := by decide +kernel
theorem dX9_counter_11 : decode mX9_counter.2.1 11 = .ok (.aload_n 0, 1) := by decide +kernel
theorem dX9_counter_12 : decode mX9_counter.2.1 12 = .ok (.getfield 28, 3) := by decide +kernel
theorem dX9_counter_15 : decode mX9_counter.2.1 15 = .ok (.getfield 138, 3) := by decide +kernel
theorem dX9_counter_18 : decode mX9_counter.2.1 18 = .ok (.invokevirtual 268, 3) := by decide +kernel
theorem dX9_counter_21 : decode mX9_counter.2.1 21 = .ok (.goto 5, 3) := by decide +kernel
theorem dX9_counter_24 : decode mX9_counter.2.1 24 = .ok (.bipush (-2), 2) := by decide +kernel
theorem dX9_counter_26 : decode mX9_counter.2.1 26 = .ok (.ireturn, 1) := by decide +kernel
theorem dX8_newEndings_0 : decode mX8_newEndings.2.1 0 = .ok (.iconst 0, 1) := by decide +kernel
theorem dX8_newEndings_1 : decode mX8_newEndings.2.1 1 = .ok (.istore_n 2, 1) := by decide +kernel
theorem dX8_newEndings_2 : decode mX8_newEndings.2.1 2 = .ok (.aload_n 0, 1) := by decide +kernel
theorem dX8_newEndings_3 : decode mX8_newEndings.2.1 3 = .ok (.getfield 18, 3) := by decide +kernel
theorem dX8_newEndings_6 : decode mX8_newEndings.2.1 6 = .ok (.iload_n 1, 1) := by decide +kernel
theorem dX8_newEndings_7 : decode mX8_newEndings.2.1 7 = .ok (.invokevirtual 69, 3) := by decide +kernel
theorem dX8_newEndings_10 : decode mX8_newEndings.2.1 10 = .ok (.istore_n 3, 1) := by decide +kernel
theorem dX8_newEndings_11 : decode mX8_newEndings.2.1 11 = .ok (.iconst 0, 1) := by decide +kernel
theorem dX8_newEndings_12 : decode mX8_newEndings.2.1 12 = .ok (.istore 4, 2) := by decide +kernel
theorem dX8_newEndings_14 : decode mX8_newEndings.2.1 14 = .ok (.iload 4, 2) := by decide +kernel
theorem dX8_newEndings_16 : decode mX8_newEndings.2.1 16 = .ok (.iload_n 3, 1) := by decide +kernel
theorem dX8_newEndings_17 : decode mX8_newEndings.2.1 17 = .ok (.if_icmp .gt 34, 3) := by decide +kernel
theorem dX8_newEndings_20 : decode mX8_newEndings.2.1 20 = .ok (.iload_n 2, 1) := by decide +kernel
theorem dX8_newEndings_21 : decode mX8_newEndings.2.1 21 = .ok (.aload_n 0, 1) := by decide +kernel
theorem dX8_newEndings_22 : decode mX8_newEndings.2.1 22 = .ok (.aload_n 0, 1) := by decide +kernel
theorem dX8_newEndings_23 : decode mX8_newEndings.2.1 23 = .ok (.getfield 18, 3) := by decide +kernel
theorem dX8_newEndings_26 : decode mX8_newEndings.2.1 26 = .ok (.iload_n 1, 1) := by decide +kernel
theorem dX8_newEndings_27 : decode mX8_newEndings.2.1 27 = .ok (.iload 4, 2) := by decide +kernel
theorem dX8_newEndings_29 : decode mX8_newEndings.2.1 29 = .ok (.invokevirtual 75, 3) := by decide +kernel
theorem dX8_newEndings_32 : decode mX8_newEndings.2.1 32 = .ok (.invokevirtual 79, 3) := by decide +kernel
theorem dX8_newEndings_35 : decode mX8_newEndings.2.1 35 = .ok (.ifCond .eq 7, 3) := by decide +kernel
theorem dX8_newEndings_38 : decode mX8_newEndings.2.1 38 = .ok (.iconst 0, 1) := by decide +kernel
theorem dX8_newEndings_39 : decode mX8_newEndings.2.1 39 = .ok (.goto 4, 3) := by decide +kernel
theorem dX8_newEndings_42 : decode mX8_newEndings.2.1 42 = .ok (.iconst 1, 1) := by decide +kernel
theorem dX8_newEndings_43 : decode mX8_newEndings.2.1 43 = .ok (.iadd, 1) := by decide +kernel
theorem dX8_newEndings_44 : decode mX8_newEndings.2.1 44 = .ok (.istore_n 2, 1) := by decide +kernel
theorem dX8_newEndings_45 : decode mX8_newEndings.2.1 45 = .ok (.iinc 4 1, 3) := by decide +kernel
theorem dX8_newEndings_48 : decode mX8_newEndings.2.1 48 = .ok (.goto (-34), 3) := by decide +kernel
theorem dX8_newEndings_51 : decode mX8_newEndings.2.1 51 = .ok (.iload_n 2, 1) := by decide +kernel
theorem dX8_newEndings_52 : decode mX8_newEndings.2.1 52 = .ok (.ireturn, 1) := by decide +kernel
theorem dX9_ask_0 : decode mX9_ask.2.1 0 = .ok (.iload_n 1, 1) := by decide +kernel
theorem dX9_ask_1 : decode mX9_ask.2.1 1 = .ok (.ifCond .lt 16, 3) := by decide +kernel
theorem dX9_ask_4 : decode mX9_ask.2.1 4 = .ok (.iload_n 1, 1) := by decide +kernel
theorem dX9_ask_5 : decode mX9_ask.2.1 5 = .ok (.aload_n 0, 1) := by decide +kernel
theorem dX9_ask_6 : decode mX9_ask.2.1 6 = .ok (.getfield 10, 3) := by decide +kernel
theorem dX9_ask_9 : decode mX9_ask.2.1 9 = .ok (.bipush 6, 2) := by decide +kernel
theorem dX9_ask_11 : decode mX9_ask.2.1 11 = .ok (.invokevirtual 276, 3) := by decide +kernel
theorem dX9_ask_14 : decode mX9_ask.2.1 14 = .ok (.if_icmp .lt 5, 3) := by decide +kernel
theorem dX9_ask_17 : decode mX9_ask.2.1 17 = .ok (.iconst (-1), 1) := by decide +kernel
theorem dX9_ask_18 : decode mX9_ask.2.1 18 = .ok (.ireturn, 1) := by decide +kernel
theorem dX9_ask_19 : decode mX9_ask.2.1 19 = .ok (.aload_n 0, 1) := by decide +kernel
theorem dX9_ask_20 : decode mX9_ask.2.1 20 = .ok (.getfield 28, 3) := by decide +kernel
theorem dX9_ask_23 : decode mX9_ask.2.1 23 = .ok (.getfield 148, 3) := by decide +kernel
theorem dX9_ask_26 : decode mX9_ask.2.1 26 = .ok (.aload_n 0, 1) := by decide +kernel
theorem dX9_ask_27 : decode mX9_ask.2.1 27 = .ok (.getfield 28, 3) := by decide +kernel
theorem dX9_ask_30 : decode mX9_ask.2.1 30 = .ok (.iload_n 1, 1) := by decide +kernel
theorem dX9_ask_31 : decode mX9_ask.2.1 31 = .ok (.invokevirtual 279, 3) := by decide +kernel
theorem dX9_ask_34 : decode mX9_ask.2.1 34 = .ok (.iadd, 1) := by decide +kernel
theorem dX9_ask_35 : decode mX9_ask.2.1 35 = .ok (.bipush 24, 2) := by decide +kernel
theorem dX9_ask_37 : decode mX9_ask.2.1 37 = .ok (.if_icmp .le 6, 3) := by decide +kernel
theorem dX9_ask_40 : decode mX9_ask.2.1 40 = .ok (.bipush (-3), 2) := by decide +kernel
theorem dX9_ask_42 : decode mX9_ask.2.1 42 = .ok (.ireturn, 1) := by decide +kernel
theorem dX9_ask_43 : decode mX9_ask.2.1 43 = .ok (.aload_n 0, 1) := by decide +kernel
theorem dX9_ask_44 : decode mX9_ask.2.1 44 = .ok (.getfield 28, 3) := by decide +kernel
theorem dX9_ask_47 : decode mX9_ask.2.1 47 = .ok (.iload_n 1, 1) := by decide +kernel
theorem dX9_ask_48 : decode mX9_ask.2.1 48 = .ok (.invokevirtual 272, 3) := by decide +kernel
theorem dX9_ask_51 : decode mX9_ask.2.1 51 = .ok (.aload_n 0, 1) := by decide +kernel
theorem dX9_ask_52 : decode mX9_ask.2.1 52 = .ok (.getfield 28, 3) := by decide +kernel
theorem dX9_ask_55 : decode mX9_ask.2.1 55 = .ok (.getfield 148, 3) := by decide +kernel
theorem dX9_ask_58 : decode mX9_ask.2.1 58 = .ok (.ireturn, 1) := by decide +kernel
theorem dX9_basis_0 : decode mX9_basis.2.1 0 = .ok (.iload_n 1, 1) := by decide +kernel
theorem dX9_basis_1 : decode mX9_basis.2.1 1 = .ok (.ifCond .ge 5, 3) := by decide +kernel
theorem dX9_basis_4 : decode mX9_basis.2.1 4 = .ok (.iconst (-1), 1) := by decide +kernel
theorem dX9_basis_5 : decode mX9_basis.2.1 5 = .ok (.ireturn, 1) := by decide +kernel
theorem dX9_basis_6 : decode mX9_basis.2.1 6 = .ok (.iload_n 1, 1) := by decide +kernel
theorem dX9_basis_7 : decode mX9_basis.2.1 7 = .ok (.aload_n 0, 1) := by decide +kernel
theorem dX9_basis_8 : decode mX9_basis.2.1 8 = .ok (.invokevirtual 141, 3) := by decide +kernel
theorem dX9_basis_11 : decode mX9_basis.2.1 11 = .ok (.getfield 131, 3) := by decide +kernel
theorem dX9_basis_14 : decode mX9_basis.2.1 14 = .ok (.if_icmp .ge 12, 3) := by decide +kernel
theorem dX9_basis_17 : decode mX9_basis.2.1 17 = .ok (.aload_n 0, 1) := by decide +kernel
theorem dX9_basis_18 : decode mX9_basis.2.1 18 = .ok (.getfield 74, 3) := by decide +kernel
theorem dX9_basis_21 : decode mX9_basis.2.1 21 = .ok (.iload_n 1, 1) := by decide +kernel
theorem dX9_basis_22 : decode mX9_basis.2.1 22 = .ok (.iaload, 1) := by decide +kernel
theorem dX9_basis_23 : decode mX9_basis.2.1 23 = .ok (.goto 5, 3) := by decide +kernel
theorem dX9_basis_26 : decode mX9_basis.2.1 26 = .ok (.bipush (-4), 2) := by decide +kernel
theorem dX9_basis_28 : decode mX9_basis.2.1 28 = .ok (.ireturn, 1) := by decide +kernel
theorem dX5_hasResidue_0 : decode mX5_hasResidue.2.1 0 = .ok (.iload_n 1, 1) := by decide +kernel
theorem dX5_hasResidue_1 : decode mX5_hasResidue.2.1 1 = .ok (.ifCond .lt 15, 3) := by decide +kernel
theorem dX5_hasResidue_4 : decode mX5_hasResidue.2.1 4 = .ok (.iload_n 1, 1) := by decide +kernel
theorem dX5_hasResidue_5 : decode mX5_hasResidue.2.1 5 = .ok (.aload_n 0, 1) := by decide +kernel
theorem dX5_hasResidue_6 : decode mX5_hasResidue.2.1 6 = .ok (.getfield 11, 3) := by decide +kernel
theorem dX5_hasResidue_9 : decode mX5_hasResidue.2.1 9 = .ok (.if_icmp .ge 7, 3) := by decide +kernel
theorem dX5_hasResidue_12 : decode mX5_hasResidue.2.1 12 = .ok (.iconst 1, 1) := by decide +kernel
theorem dX5_hasResidue_13 : decode mX5_hasResidue.2.1 13 = .ok (.goto 4, 3) := by decide +kernel
theorem dX5_hasResidue_16 : decode mX5_hasResidue.2.1 16 = .ok (.iconst 0, 1) := by decide +kernel
theorem dX5_hasResidue_17 : decode mX5_hasResidue.2.1 17 = .ok (.ireturn, 1) := by decide +kernel
theorem dX9_begins_0 : decode mX9_begins.2.1 0 = .ok (.aload_n 0, 1) := by decide +kernel
theorem dX9_begins_1 : decode mX9_begins.2.1 1 = .ok (.getfield 28, 3) := by decide +kernel
theorem dX9_begins_4 : decode mX9_begins.2.1 4 = .ok (.getfield 110, 3) := by decide +kernel
theorem dX9_begins_7 : decode mX9_begins.2.1 7 = .ok (.iload_n 1, 1) := by decide +kernel
theorem dX9_begins_8 : decode mX9_begins.2.1 8 = .ok (.invokevirtual 175, 3) := by decide +kernel
theorem dX9_begins_11 : decode mX9_begins.2.1 11 = .ok (.ifCond .eq 14, 3) := by decide +kernel
theorem dX9_begins_14 : decode mX9_begins.2.1 14 = .ok (.aload_n 0, 1) := by decide +kernel
theorem dX9_begins_15 : decode mX9_begins.2.1 15 = .ok (.getfield 10, 3) := by decide +kernel
theorem dX9_begins_18 : decode mX9_begins.2.1 18 = .ok (.iload_n 2, 1) := by decide +kernel
theorem dX9_begins_19 : decode mX9_begins.2.1 19 = .ok (.invokevirtual 282, 3) := by decide +kernel
theorem dX9_begins_22 : decode mX9_begins.2.1 22 = .ok (.ifCond .ne 5, 3) := by decide +kernel
theorem dX9_begins_25 : decode mX9_begins.2.1 25 = .ok (.iconst (-1), 1) := by decide +kernel
theorem dX9_begins_26 : decode mX9_begins.2.1 26 = .ok (.ireturn, 1) := by decide +kernel
theorem dX9_begins_27 : decode mX9_begins.2.1 27 = .ok (.aload_n 0, 1) := by decide +kernel
theorem dX9_begins_28 : decode mX9_begins.2.1 28 = .ok (.getfield 28, 3) := by decide +kernel
theorem dX9_begins_31 : decode mX9_begins.2.1 31 = .ok (.getfield 110, 3) := by decide +kernel
theorem dX9_begins_34 : decode mX9_begins.2.1 34 = .ok (.getfield 178, 3) := by decide +kernel
theorem dX9_begins_37 : decode mX9_begins.2.1 37 = .ok (.iload_n 1, 1) := by decide +kernel
theorem dX9_begins_38 : decode mX9_begins.2.1 38 = .ok (.iaload, 1) := by decide +kernel
theorem dX9_begins_39 : decode mX9_begins.2.1 39 = .ok (.istore_n 3, 1) := by decide +kernel
theorem dX9_begins_40 : decode mX9_begins.2.1 40 = .ok (.aload_n 0, 1) := by decide +kernel
theorem dX9_begins_41 : decode mX9_begins.2.1 41 = .ok (.getfield 28, 3) := by decide +kernel
theorem dX9_begins_44 : decode mX9_begins.2.1 44 = .ok (.getfield 110, 3) := by decide +kernel
theorem dX9_begins_47 : decode mX9_begins.2.1 47 = .ok (.getfield 178, 3) := by decide +kernel
theorem dX9_begins_50 : decode mX9_begins.2.1 50 = .ok (.iload_n 1, 1) := by decide +kernel
theorem dX9_begins_51 : decode mX9_begins.2.1 51 = .ok (.iload_n 2, 1) := by decide +kernel
theorem dX9_begins_52 : decode mX9_begins.2.1 52 = .ok (.iastore, 1) := by decide +kernel
theorem dX9_begins_53 : decode mX9_begins.2.1 53 = .ok (.aload_n 0, 1) := by decide +kernel
theorem dX9_begins_54 : decode mX9_begins.2.1 54 = .ok (.invokevirtual 117, 3) := by decide +kernel
theorem dX9_begins_57 : decode mX9_begins.2.1 57 = .ok (.iload_n 3, 1) := by decide +kernel
theorem dX9_begins_58 : decode mX9_begins.2.1 58 = .ok (.ireturn, 1) := by decide +kernel
theorem dX9_ends_0 : decode mX9_ends.2.1 0 = .ok (.aload_n 0, 1) := by decide +kernel
theorem dX9_ends_1 : decode mX9_ends.2.1 1 = .ok (.getfield 28, 3) := by decide +kernel
theorem dX9_ends_4 : decode mX9_ends.2.1 4 = .ok (.getfield 110, 3) := by decide +kernel
theorem dX9_ends_7 : decode mX9_ends.2.1 7 = .ok (.iload_n 1, 1) := by decide +kernel
theorem dX9_ends_8 : decode mX9_ends.2.1 8 = .ok (.invokevirtual 175, 3) := by decide +kernel
theorem dX9_ends_11 : decode mX9_ends.2.1 11 = .ok (.ifCond .eq 14, 3) := by decide +kernel
theorem dX9_ends_14 : decode mX9_ends.2.1 14 = .ok (.aload_n 0, 1) := by decide +kernel
theorem dX9_ends_15 : decode mX9_ends.2.1 15 = .ok (.getfield 10, 3) := by decide +kernel
theorem dX9_ends_18 : decode mX9_ends.2.1 18 = .ok (.iload_n 2, 1) := by decide +kernel
theorem dX9_ends_19 : decode mX9_ends.2.1 19 = .ok (.invokevirtual 282, 3) := by decide +kernel
theorem dX9_ends_22 : decode mX9_ends.2.1 22 = .ok (.ifCond .ne 5, 3) := by decide +kernel
theorem dX9_ends_25 : decode mX9_ends.2.1 25 = .ok (.iconst (-1), 1) := by decide +kernel
theorem dX9_ends_26 : decode mX9_ends.2.1 26 = .ok (.ireturn, 1) := by decide +kernel
theorem dX9_ends_27 : decode mX9_ends.2.1 27 = .ok (.aload_n 0, 1) := by decide +kernel
theorem dX9_ends_28 : decode mX9_ends.2.1 28 = .ok (.getfield 28, 3) := by decide +kernel
theorem dX9_ends_31 : decode mX9_ends.2.1 31 = .ok (.getfield 110, 3) := by decide +kernel
theorem dX9_ends_34 : decode mX9_ends.2.1 34 = .ok (.getfield 181, 3) := by decide +kernel
theorem dX9_ends_37 : decode mX9_ends.2.1 37 = .ok (.iload_n 1, 1) := by decide +kernel
theorem dX9_ends_38 : decode mX9_ends.2.1 38 = .ok (.iaload, 1) := by decide +kernel
theorem dX9_ends_39 : decode mX9_ends.2.1 39 = .ok (.istore_n 3, 1) := by decide +kernel
theorem dX9_ends_40 : decode mX9_ends.2.1 40 = .ok (.aload_n 0, 1) := by decide +kernel
theorem dX9_ends_41 : decode mX9_ends.2.1 41 = .ok (.getfield 28, 3) := by decide +kernel
theorem dX9_ends_44 : decode mX9_ends.2.1 44 = .ok (.getfield 110, 3) := by decide +kernel
theorem dX9_ends_47 : decode mX9_ends.2.1 47 = .ok (.getfield 181, 3) := by decide +kernel
theorem dX9_ends_50 : decode mX9_ends.2.1 50 = .ok (.iload_n 1, 1) := by decide +kernel
theorem dX9_ends_51 : decode mX9_ends.2.1 51 = .ok (.iload_n 2, 1) := by decide +kernel
theorem dX9_ends_52 : decode mX9_ends.2.1 52 = .ok (.iastore, 1) := by decide +kernel
theorem dX9_ends_53 : decode mX9_ends.2.1 53 = .ok (.aload_n 0, 1) := by decide +kernel
theorem dX9_ends_54 : decode mX9_ends.2.1 54 = .ok (.invokevirtual 117, 3) := by decide +kernel
theorem dX9_ends_57 : decode mX9_ends.2.1 57 = .ok (.iload_n 3, 1) := by decide +kernel
theorem dX9_ends_58 : decode mX9_ends.2.1 58 = .ok (.ireturn, 1) := by decide +kernel
theorem dX9_leads_0 : decode mX9_leads.2.1 0 = .ok (.aload_n 0, 1) := by decide +kernel
theorem dX9_leads_1 : decode mX9_leads.2.1 1 = .ok (.getfield 28, 3) := by decide +kernel
theorem dX9_leads_4 : decode mX9_leads.2.1 4 = .ok (.getfield 110, 3) := by decide +kernel
theorem dX9_leads_7 : decode mX9_leads.2.1 7 = .ok (.astore 5, 2) := by decide +kernel
theorem dX9_leads_9 : decode mX9_leads.2.1 9 = .ok (.aload 5, 2) := by decide +kernel
theorem dX9_leads_11 : decode mX9_leads.2.1 11 = .ok (.iload_n 1, 1) := by decide +kernel
theorem dX9_leads_12 : decode mX9_leads.2.1 12 = .ok (.invokevirtual 175, 3) := by decide +kernel
theorem dX9_leads_15 : decode mX9_leads.2.1 15 = .ok (.ifCond .eq 35, 3) := by decide +kernel
theorem dX9_leads_18 : decode mX9_leads.2.1 18 = .ok (.aload_n 0, 1) := by decide +kernel
theorem dX9_leads_19 : decode mX9_leads.2.1 19 = .ok (.getfield 10, 3) := by decide +kernel
theorem dX9_leads_22 : decode mX9_leads.2.1 22 = .ok (.iload_n 2, 1) := by decide +kernel
theorem dX9_leads_23 : decode mX9_leads.2.1 23 = .ok (.invokevirtual 184, 3) := by decide +kernel
theorem dX9_leads_26 : decode mX9_leads.2.1 26 = .ok (.ifCond .eq 24, 3) := by decide +kernel
theorem dX9_leads_29 : decode mX9_leads.2.1 29 = .ok (.aload 5, 2) := by decide +kernel
theorem dX9_leads_31 : decode mX9_leads.2.1 31 = .ok (.iload_n 3, 1) := by decide +kernel
theorem dX9_leads_32 : decode mX9_leads.2.1 32 = .ok (.invokevirtual 175, 3) := by decide +kernel
theorem dX9_leads_35 : decode mX9_leads.2.1 35 = .ok (.ifCond .eq 15, 3) := by decide +kernel
theorem dX9_leads_38 : decode mX9_leads.2.1 38 = .ok (.aload_n 0, 1) := by decide +kernel
theorem dX9_leads_39 : decode mX9_leads.2.1 39 = .ok (.getfield 10, 3) := by decide +kernel
theorem dX9_leads_42 : decode mX9_leads.2.1 42 = .ok (.iload 4, 2) := by decide +kernel
theorem dX9_leads_44 : decode mX9_leads.2.1 44 = .ok (.invokevirtual 282, 3) := by decide +kernel
theorem dX9_leads_47 : decode mX9_leads.2.1 47 = .ok (.ifCond .ne 5, 3) := by decide +kernel
theorem dX9_leads_50 : decode mX9_leads.2.1 50 = .ok (.iconst (-1), 1) := by decide +kernel
theorem dX9_leads_51 : decode mX9_leads.2.1 51 = .ok (.ireturn, 1) := by decide +kernel
theorem dX9_leads_52 : decode mX9_leads.2.1 52 = .ok (.aload 5, 2) := by decide +kernel
theorem dX9_leads_54 : decode mX9_leads.2.1 54 = .ok (.iload_n 1, 1) := by decide +kernel
theorem dX9_leads_55 : decode mX9_leads.2.1 55 = .ok (.iload_n 2, 1) := by decide +kernel
theorem dX9_leads_56 : decode mX9_leads.2.1 56 = .ok (.iload_n 3, 1) := by decide +kernel
theorem dX9_leads_57 : decode mX9_leads.2.1 57 = .ok (.invokevirtual 190, 3) := by decide +kernel
theorem dX9_leads_60 : decode mX9_leads.2.1 60 = .ok (.istore 6, 2) := by decide +kernel
theorem dX9_leads_62 : decode mX9_leads.2.1 62 = .ok (.aload 5, 2) := by decide +kernel
theorem dX9_leads_64 : decode mX9_leads.2.1 64 = .ok (.getfield 187, 3) := by decide +kernel
theorem dX9_leads_67 : decode mX9_leads.2.1 67 = .ok (.iload 6, 2) := by decide +kernel
theorem dX9_leads_69 : decode mX9_leads.2.1 69 = .ok (.iaload, 1) := by decide +kernel
theorem dX9_leads_70 : decode mX9_leads.2.1 70 = .ok (.istore 7, 2) := by decide +kernel
theorem dX9_leads_72 : decode mX9_leads.2.1 72 = .ok (.aload 5, 2) := by decide +kernel
theorem dX9_leads_74 : decode mX9_leads.2.1 74 = .ok (.getfield 187, 3) := by decide +kernel
theorem dX9_leads_77 : decode mX9_leads.2.1 77 = .ok (.iload 6, 2) := by decide +kernel
theorem dX9_leads_79 : decode mX9_leads.2.1 79 = .ok (.iload 4, 2) := by decide +kernel
theorem dX9_leads_81 : decode mX9_leads.2.1 81 = .ok (.iastore, 1) := by decide +kernel
theorem dX9_leads_82 : decode mX9_leads.2.1 82 = .ok (.aload_n 0, 1) := by decide +kernel
theorem dX9_leads_83 : decode mX9_leads.2.1 83 = .ok (.invokevirtual 117, 3) := by decide +kernel
theorem dX9_leads_86 : decode mX9_leads.2.1 86 = .ok (.iload 7, 2) := by decide +kernel
theorem dX9_leads_88 : decode mX9_leads.2.1 88 = .ok (.ireturn, 1) := by decide +kernel
theorem dX9_grow_0 : decode mX9_grow.2.1 0 = .ok (.aload_n 0, 1) := by decide +kernel
theorem dX9_grow_1 : decode mX9_grow.2.1 1 = .ok (.getfield 28, 3) := by decide +kernel
theorem dX9_grow_4 : decode mX9_grow.2.1 4 = .ok (.getfield 110, 3) := by decide +kernel
theorem dX9_grow_7 : decode mX9_grow.2.1 7 = .ok (.getfield 131, 3) := by decide +kernel
theorem dX9_grow_10 : decode mX9_grow.2.1 10 = .ok (.iconst 4, 1) := by decide +kernel
theorem dX9_grow_11 : decode mX9_grow.2.1 11 = .ok (.if_icmp .lt 6, 3) := by decide +kernel
theorem dX9_grow_14 : decode mX9_grow.2.1 14 = .ok (.bipush (-3), 2) := by decide +kernel
theorem dX9_grow_16 : decode mX9_grow.2.1 16 = .ok (.ireturn, 1) := by decide +kernel
theorem dX9_grow_17 : decode mX9_grow.2.1 17 = .ok (.aload_n 0, 1) := by decide +kernel
theorem dX9_grow_18 : decode mX9_grow.2.1 18 = .ok (.getfield 28, 3) := by decide +kernel
theorem dX9_grow_21 : decode mX9_grow.2.1 21 = .ok (.getfield 110, 3) := by decide +kernel
theorem dX9_grow_24 : decode mX9_grow.2.1 24 = .ok (.dup, 1) := by decide +kernel
theorem dX9_grow_25 : decode mX9_grow.2.1 25 = .ok (.getfield 131, 3) := by decide +kernel
theorem dX9_grow_28 : decode mX9_grow.2.1 28 = .ok (.iconst 1, 1) := by decide +kernel
theorem dX9_grow_29 : decode mX9_grow.2.1 29 = .ok (.iadd, 1) := by decide +kernel
theorem dX9_grow_30 : decode mX9_grow.2.1 30 = .ok (.putfield 131, 3) := by decide +kernel
theorem dX9_grow_33 : decode mX9_grow.2.1 33 = .ok (.aload_n 0, 1) := by decide +kernel
theorem dX9_grow_34 : decode mX9_grow.2.1 34 = .ok (.invokevirtual 117, 3) := by decide +kernel
theorem dX9_grow_37 : decode mX9_grow.2.1 37 = .ok (.aload_n 0, 1) := by decide +kernel
theorem dX9_grow_38 : decode mX9_grow.2.1 38 = .ok (.getfield 28, 3) := by decide +kernel
theorem dX9_grow_41 : decode mX9_grow.2.1 41 = .ok (.getfield 110, 3) := by decide +kernel
theorem dX9_grow_44 : decode mX9_grow.2.1 44 = .ok (.getfield 131, 3) := by decide +kernel
theorem dX9_grow_47 : decode mX9_grow.2.1 47 = .ok (.ireturn, 1) := by decide +kernel
theorem dX3_clearState_0 : decode mX3_clearState.2.1 0 = .ok (.aload_n 0, 1) := by decide +kernel
theorem dX3_clearState_1 : decode mX3_clearState.2.1 1 = .ok (.getfield 21, 3) := by decide +kernel
theorem dX3_clearState_4 : decode mX3_clearState.2.1 4 = .ok (.iload_n 1, 1) := by decide +kernel
theorem dX3_clearState_5 : decode mX3_clearState.2.1 5 = .ok (.iconst 0, 1) := by decide +kernel
theorem dX3_clearState_6 : decode mX3_clearState.2.1 6 = .ok (.iastore, 1) := by decide +kernel
theorem dX3_clearState_7 : decode mX3_clearState.2.1 7 = .ok (.aload_n 0, 1) := by decide +kernel
theorem dX3_clearState_8 : decode mX3_clearState.2.1 8 = .ok (.getfield 25, 3) := by decide +kernel
theorem dX3_clearState_11 : decode mX3_clearState.2.1 11 = .ok (.iload_n 1, 1) := by decide +kernel
theorem dX3_clearState_12 : decode mX3_clearState.2.1 12 = .ok (.iconst 0, 1) := by decide +kernel
theorem dX3_clearState_13 : decode mX3_clearState.2.1 13 = .ok (.iastore, 1) := by decide +kernel
theorem dX3_clearState_14 : decode mX3_clearState.2.1 14 = .ok (.iconst 0, 1) := by decide +kernel
theorem dX3_clearState_15 : decode mX3_clearState.2.1 15 = .ok (.istore_n 2, 1) := by decide +kernel
theorem dX3_clearState_16 : decode mX3_clearState.2.1 16 = .ok (.iload_n 2, 1) := by decide +kernel
theorem dX3_clearState_17 : decode mX3_clearState.2.1 17 = .ok (.aload_n 0, 1) := by decide +kernel
theorem dX3_clearState_18 : decode mX3_clearState.2.1 18 = .ok (.getfield 9, 3) := by decide +kernel
theorem dX3_clearState_21 : decode mX3_clearState.2.1 21 = .ok (.getfield 53, 3) := by decide +kernel
theorem dX3_clearState_24 : decode mX3_clearState.2.1 24 = .ok (.if_icmp .ge 51, 3) := by decide +kernel
theorem dX3_clearState_27 : decode mX3_clearState.2.1 27 = .ok (.iconst 0, 1) := by decide +kernel
theorem dX3_clearState_28 : decode mX3_clearState.2.1 28 = .ok (.istore_n 3, 1) := by decide +kernel
theorem dX3_clearState_29 : decode mX3_clearState.2.1 29 = .ok (.iload_n 3, 1) := by decide +kernel
theorem dX3_clearState_30 : decode mX3_clearState.2.1 30 = .ok (.aload_n 0, 1) := by decide +kernel
theorem dX3_clearState_31 : decode mX3_clearState.2.1 31 = .ok (.getfield 17, 3) := by decide +kernel
theorem dX3_clearState_34 : decode mX3_clearState.2.1 34 = .ok (.if_icmp .ge 35, 3) := by decide +kernel
theorem dX3_clearState_37 : decode mX3_clearState.2.1 37 = .ok (.aload_n 0, 1) := by decide +kernel
theorem dX3_clearState_38 : decode mX3_clearState.2.1 38 = .ok (.getfield 28, 3) := by decide +kernel
theorem dX3_clearState_41 : decode mX3_clearState.2.1 41 = .ok (.aload_n 0, 1) := by decide +kernel
theorem dX3_clearState_42 : decode mX3_clearState.2.1 42 = .ok (.iload_n 1, 1) := by decide +kernel
theorem dX3_clearState_43 : decode mX3_clearState.2.1 43 = .ok (.iload_n 2, 1) := by decide +kernel
theorem dX3_clearState_44 : decode mX3_clearState.2.1 44 = .ok (.iload_n 3, 1) := by decide +kernel
theorem dX3_clearState_45 : decode mX3_clearState.2.1 45 = .ok (.invokevirtual 56, 3) := by decide +kernel
theorem dX3_clearState_48 : decode mX3_clearState.2.1 48 = .ok (.iconst 0, 1) := by decide +kernel
theorem dX3_clearState_49 : decode mX3_clearState.2.1 49 = .ok (.iastore, 1) := by decide +kernel
theorem dX3_clearState_50 : decode mX3_clearState.2.1 50 = .ok (.aload_n 0, 1) := by decide +kernel
theorem dX3_clearState_51 : decode mX3_clearState.2.1 51 = .ok (.getfield 28, 3) := by decide +kernel
theorem dX3_clearState_54 : decode mX3_clearState.2.1 54 = .ok (.aload_n 0, 1) := by decide +kernel
theorem dX3_clearState_55 : decode mX3_clearState.2.1 55 = .ok (.iload_n 3, 1) := by decide +kernel
theorem dX3_clearState_56 : decode mX3_clearState.2.1 56 = .ok (.iload_n 2, 1) := by decide +kernel
theorem dX3_clearState_57 : decode mX3_clearState.2.1 57 = .ok (.iload_n 1, 1) := by decide +kernel
theorem dX3_clearState_58 : decode mX3_clearState.2.1 58 = .ok (.invokevirtual 56, 3) := by decide +kernel
theorem dX3_clearState_61 : decode mX3_clearState.2.1 61 = .ok (.iconst 0, 1) := by decide +kernel
theorem dX3_clearState_62 : decode mX3_clearState.2.1 62 = .ok (.iastore, 1) := by decide +kernel
theorem dX3_clearState_63 : decode mX3_clearState.2.1 63 = .ok (.iinc 3 1, 3) := by decide +kernel
theorem dX3_clearState_66 : decode mX3_clearState.2.1 66 = .ok (.goto (-37), 3) := by decide +kernel
theorem dX3_clearState_69 : decode mX3_clearState.2.1 69 = .ok (.iinc 2 1, 3) := by decide +kernel
theorem dX3_clearState_72 : decode mX3_clearState.2.1 72 = .ok (.goto (-56), 3) := by decide +kernel
theorem dX3_clearState_75 : decode mX3_clearState.2.1 75 = .ok (.return_, 1) := by decide +kernel
theorem dX3_omit_0 : decode mX3_omit.2.1 0 = .ok (.iload_n 1, 1) := by decide +kernel
theorem dX3_omit_1 : decode mX3_omit.2.1 1 = .ok (.istore_n 2, 1) := by decide +kernel
theorem dX3_omit_2 : decode mX3_omit.2.1 2 = .ok (.iload_n 2, 1) := by decide +kernel
theorem dX3_omit_3 : decode mX3_omit.2.1 3 = .ok (.aload_n 0, 1) := by decide +kernel
theorem dX3_omit_4 : decode mX3_omit.2.1 4 = .ok (.getfield 31, 3) := by decide +kernel
theorem dX3_omit_7 : decode mX3_omit.2.1 7 = .ok (.iconst 1, 1) := by decide +kernel
theorem dX3_omit_8 : decode mX3_omit.2.1 8 = .ok (.isub, 1) := by decide +kernel
theorem dX3_omit_9 : decode mX3_omit.2.1 9 = .ok (.if_icmp .ge 37, 3) := by decide +kernel
theorem dX3_omit_12 : decode mX3_omit.2.1 12 = .ok (.aload_n 0, 1) := by decide +kernel
theorem dX3_omit_13 : decode mX3_omit.2.1 13 = .ok (.getfield 21, 3) := by decide +kernel
theorem dX3_omit_16 : decode mX3_omit.2.1 16 = .ok (.iload_n 2, 1) := by decide +kernel
theorem dX3_omit_17 : decode mX3_omit.2.1 17 = .ok (.aload_n 0, 1) := by decide +kernel
theorem dX3_omit_18 : decode mX3_omit.2.1 18 = .ok (.getfield 21, 3) := by decide +kernel
theorem dX3_omit_21 : decode mX3_omit.2.1 21 = .ok (.iload_n 2, 1) := by decide +kernel
theorem dX3_omit_22 : decode mX3_omit.2.1 22 = .ok (.iconst 1, 1) := by decide +kernel
theorem dX3_omit_23 : decode mX3_omit.2.1 23 = .ok (.iadd, 1) := by decide +kernel
theorem dX3_omit_24 : decode mX3_omit.2.1 24 = .ok (.iaload, 1) := by decide +kernel
theorem dX3_omit_25 : decode mX3_omit.2.1 25 = .ok (.iastore, 1) := by decide +kernel
theorem dX3_omit_26 : decode mX3_omit.2.1 26 = .ok (.aload_n 0, 1) := by decide +kernel
theorem dX3_omit_27 : decode mX3_omit.2.1 27 = .ok (.getfield 25, 3) := by decide +kernel
theorem dX3_omit_30 : decode mX3_omit.2.1 30 = .ok (.iload_n 2, 1) := by decide +kernel
theorem dX3_omit_31 : decode mX3_omit.2.1 31 = .ok (.aload_n 0, 1) := by decide +kernel
theorem dX3_omit_32 : decode mX3_omit.2.1 32 = .ok (.getfield 25, 3) := by decide +kernel
theorem dX3_omit_35 : decode mX3_omit.2.1 35 = .ok (.iload_n 2, 1) := by decide +kernel
theorem dX3_omit_36 : decode mX3_omit.2.1 36 = .ok (.iconst 1, 1) := by decide +kernel
theorem dX3_omit_37 : decode mX3_omit.2.1 37 = .ok (.iadd, 1) := by decide +kernel
theorem dX3_omit_38 : decode mX3_omit.2.1 38 = .ok (.iaload, 1) := by decide +kernel
theorem dX3_omit_39 : decode mX3_omit.2.1 39 = .ok (.iastore, 1) := by decide +kernel
theorem dX3_omit_40 : decode mX3_omit.2.1 40 = .ok (.iinc 2 1, 3) := by decide +kernel
theorem dX3_omit_43 : decode mX3_omit.2.1 43 = .ok (.goto (-41), 3) := by decide +kernel
theorem dX3_omit_46 : decode mX3_omit.2.1 46 = .ok (.iconst 0, 1) := by decide +kernel
theorem dX3_omit_47 : decode mX3_omit.2.1 47 = .ok (.istore_n 2, 1) := by decide +kernel
theorem dX3_omit_48 : decode mX3_omit.2.1 48 = .ok (.iload_n 2, 1) := by decide +kernel
theorem dX3_omit_49 : decode mX3_omit.2.1 49 = .ok (.aload_n 0, 1) := by decide +kernel
theorem dX3_omit_50 : decode mX3_omit.2.1 50 = .ok (.getfield 31, 3) := by decide +kernel
theorem dX3_omit_53 : decode mX3_omit.2.1 53 = .ok (.iconst 1, 1) := by decide +kernel
theorem dX3_omit_54 : decode mX3_omit.2.1 54 = .ok (.isub, 1) := by decide +kernel
theorem dX3_omit_55 : decode mX3_omit.2.1 55 = .ok (.if_icmp .ge 102, 3) := by decide +kernel
theorem dX3_omit_58 : decode mX3_omit.2.1 58 = .ok (.iconst 0, 1) := by decide +kernel
theorem dX3_omit_59 : decode mX3_omit.2.1 59 = .ok (.istore_n 3, 1) := by decide +kernel
theorem dX3_omit_60 : decode mX3_omit.2.1 60 = .ok (.iload_n 3, 1) := by decide +kernel
theorem dX3_omit_61 : decode mX3_omit.2.1 61 = .ok (.aload_n 0, 1) := by decide +kernel
theorem dX3_omit_62 : decode mX3_omit.2.1 62 = .ok (.getfield 9, 3) := by decide +kernel
theorem dX3_omit_65 : decode mX3_omit.2.1 65 = .ok (.getfield 53, 3) := by decide +kernel
theorem dX3_omit_68 : decode mX3_omit.2.1 68 = .ok (.if_icmp .ge 83, 3) := by decide +kernel
theorem dX3_omit_71 : decode mX3_omit.2.1 71 = .ok (.iconst 0, 1) := by decide +kernel
theorem dX3_omit_72 : decode mX3_omit.2.1 72 = .ok (.istore 4, 2) := by decide +kernel
theorem dX3_omit_74 : decode mX3_omit.2.1 74 = .ok (.iload 4, 2) := by decide +kernel
theorem dX3_omit_76 : decode mX3_omit.2.1 76 = .ok (.aload_n 0, 1) := by decide +kernel
theorem dX3_omit_77 : decode mX3_omit.2.1 77 = .ok (.getfield 31, 3) := by decide +kernel
theorem dX3_omit_80 : decode mX3_omit.2.1 80 = .ok (.iconst 1, 1) := by decide +kernel
theorem dX3_omit_81 : decode mX3_omit.2.1 81 = .ok (.isub, 1) := by decide +kernel
theorem dX3_omit_82 : decode mX3_omit.2.1 82 = .ok (.if_icmp .ge 63, 3) := by decide +kernel
theorem dX3_omit_85 : decode mX3_omit.2.1 85 = .ok (.aload_n 0, 1) := by decide +kernel
theorem dX3_omit_86 : decode mX3_omit.2.1 86 = .ok (.iload_n 2, 1) := by decide +kernel
theorem dX3_omit_87 : decode mX3_omit.2.1 87 = .ok (.iload_n 1, 1) := by decide +kernel
theorem dX3_omit_88 : decode mX3_omit.2.1 88 = .ok (.if_icmp .ge 7, 3) := by decide +kernel
theorem dX3_omit_91 : decode mX3_omit.2.1 91 = .ok (.iload_n 2, 1) := by decide +kernel
theorem dX3_omit_92 : decode mX3_omit.2.1 92 = .ok (.goto 6, 3) := by decide +kernel
theorem dX3_omit_95 : decode mX3_omit.2.1 95 = .ok (.iload_n 2, 1) := by decide +kernel
theorem dX3_omit_96 : decode mX3_omit.2.1 96 = .ok (.iconst 1, 1) := by decide +kernel
theorem dX3_omit_97 : decode mX3_omit.2.1 97 = .ok (.iadd, 1) := by decide +kernel
theorem dX3_omit_98 : decode mX3_omit.2.1 98 = .ok (.iload_n 3, 1) := by decide +kernel
theorem dX3_omit_99 : decode mX3_omit.2.1 99 = .ok (.iload 4, 2) := by decide +kernel
theorem dX3_omit_101 : decode mX3_omit.2.1 101 = .ok (.iload_n 1, 1) := by decide +kernel
theorem dX3_omit_102 : decode mX3_omit.2.1 102 = .ok (.if_icmp .ge 8, 3) := by decide +kernel
theorem dX3_omit_105 : decode mX3_omit.2.1 105 = .ok (.iload 4, 2) := by decide +kernel
theorem dX3_omit_107 : decode mX3_omit.2.1 107 = .ok (.goto 7, 3) := by decide +kernel
theorem dX3_omit_110 : decode mX3_omit.2.1 110 = .ok (.iload 4, 2) := by decide +kernel
theorem dX3_omit_112 : decode mX3_omit.2.1 112 = .ok (.iconst 1, 1) := by decide +kernel
theorem dX3_omit_113 : decode mX3_omit.2.1 113 = .ok (.iadd, 1) := by decide +kernel
theorem dX3_omit_114 : decode mX3_omit.2.1 114 = .ok (.invokevirtual 56, 3) := by decide +kernel
theorem dX3_omit_117 : decode mX3_omit.2.1 117 = .ok (.istore 5, 2) := by decide +kernel
theorem dX3_omit_119 : decode mX3_omit.2.1 119 = .ok (.aload_n 0, 1) := by decide +kernel
theorem dX3_omit_120 : decode mX3_omit.2.1 120 = .ok (.getfield 28, 3) := by decide +kernel
theorem dX3_omit_123 : decode mX3_omit.2.1 123 = .ok (.aload_n 0, 1) := by decide +kernel
theorem dX3_omit_124 : decode mX3_omit.2.1 124 = .ok (.iload_n 2, 1) := by decide +kernel
theorem dX3_omit_125 : decode mX3_omit.2.1 125 = .ok (.iload_n 3, 1) := by decide +kernel
theorem dX3_omit_126 : decode mX3_omit.2.1 126 = .ok (.iload 4, 2) := by decide +kernel
theorem dX3_omit_128 : decode mX3_omit.2.1 128 = .ok (.invokevirtual 56, 3) := by decide +kernel
theorem dX3_omit_131 : decode mX3_omit.2.1 131 = .ok (.aload_n 0, 1) := by decide +kernel
theorem dX3_omit_132 : decode mX3_omit.2.1 132 = .ok (.getfield 28, 3) := by decide +kernel
theorem dX3_omit_135 : decode mX3_omit.2.1 135 = .ok (.iload 5, 2) := by decide +kernel
theorem dX3_omit_137 : decode mX3_omit.2.1 137 = .ok (.iaload, 1) := by decide +kernel
theorem dX3_omit_138 : decode mX3_omit.2.1 138 = .ok (.iastore, 1) := by decide +kernel
theorem dX3_omit_139 : decode mX3_omit.2.1 139 = .ok (.iinc 4 1, 3) := by decide +kernel
theorem dX3_omit_142 : decode mX3_omit.2.1 142 = .ok (.goto (-68), 3) := by decide +kernel
theorem dX3_omit_145 : decode mX3_omit.2.1 145 = .ok (.iinc 3 1, 3) := by decide +kernel
theorem dX3_omit_148 : decode mX3_omit.2.1 148 = .ok (.goto (-88), 3) := by decide +kernel
theorem dX3_omit_151 : decode mX3_omit.2.1 151 = .ok (.iinc 2 1, 3) := by decide +kernel
theorem dX3_omit_154 : decode mX3_omit.2.1 154 = .ok (.goto (-106), 3) := by decide +kernel
theorem dX3_omit_157 : decode mX3_omit.2.1 157 = .ok (.aload_n 0, 1) := by decide +kernel
theorem dX3_omit_158 : decode mX3_omit.2.1 158 = .ok (.dup, 1) := by decide +kernel
theorem dX3_omit_159 : decode mX3_omit.2.1 159 = .ok (.getfield 31, 3) := by decide +kernel
theorem dX3_omit_162 : decode mX3_omit.2.1 162 = .ok (.iconst 1, 1) := by decide +kernel
theorem dX3_omit_163 : decode mX3_omit.2.1 163 = .ok (.isub, 1) := by decide +kernel
theorem dX3_omit_164 : decode mX3_omit.2.1 164 = .ok (.putfield 31, 3) := by decide +kernel
theorem dX3_omit_167 : decode mX3_omit.2.1 167 = .ok (.aload_n 0, 1) := by decide +kernel
theorem dX3_omit_168 : decode mX3_omit.2.1 168 = .ok (.aload_n 0, 1) := by decide +kernel
theorem dX3_omit_169 : decode mX3_omit.2.1 169 = .ok (.getfield 31, 3) := by decide +kernel
theorem dX3_omit_172 : decode mX3_omit.2.1 172 = .ok (.invokevirtual 66, 3) := by decide +kernel
theorem dX3_omit_175 : decode mX3_omit.2.1 175 = .ok (.return_, 1) := by decide +kernel
theorem dX9_drop_0 : decode mX9_drop.2.1 0 = .ok (.aload_n 0, 1) := by decide +kernel
theorem dX9_drop_1 : decode mX9_drop.2.1 1 = .ok (.getfield 28, 3) := by decide +kernel
theorem dX9_drop_4 : decode mX9_drop.2.1 4 = .ok (.getfield 110, 3) := by decide +kernel
theorem dX9_drop_7 : decode mX9_drop.2.1 7 = .ok (.iload_n 1, 1) := by decide +kernel
theorem dX9_drop_8 : decode mX9_drop.2.1 8 = .ok (.invokevirtual 175, 3) := by decide +kernel
theorem dX9_drop_11 : decode mX9_drop.2.1 11 = .ok (.ifCond .ne 5, 3) := by decide +kernel
theorem dX9_drop_14 : decode mX9_drop.2.1 14 = .ok (.iconst (-1), 1) := by decide +kernel
theorem dX9_drop_15 : decode mX9_drop.2.1 15 = .ok (.ireturn, 1) := by decide +kernel
theorem dX9_drop_16 : decode mX9_drop.2.1 16 = .ok (.aload_n 0, 1) := by decide +kernel
theorem dX9_drop_17 : decode mX9_drop.2.1 17 = .ok (.getfield 28, 3) := by decide +kernel
theorem dX9_drop_20 : decode mX9_drop.2.1 20 = .ok (.getfield 110, 3) := by decide +kernel
theorem dX9_drop_23 : decode mX9_drop.2.1 23 = .ok (.iload_n 1, 1) := by decide +kernel
theorem dX9_drop_24 : decode mX9_drop.2.1 24 = .ok (.invokevirtual 285, 3) := by decide +kernel
theorem dX9_drop_27 : decode mX9_drop.2.1 27 = .ok (.aload_n 0, 1) := by decide +kernel
theorem dX9_drop_28 : decode mX9_drop.2.1 28 = .ok (.invokevirtual 117, 3) := by decide +kernel
theorem dX9_drop_31 : decode mX9_drop.2.1 31 = .ok (.aload_n 0, 1) := by decide +kernel
theorem dX9_drop_32 : decode mX9_drop.2.1 32 = .ok (.getfield 28, 3) := by decide +kernel
theorem dX9_drop_35 : decode mX9_drop.2.1 35 = .ok (.getfield 110, 3) := by decide +kernel
theorem dX9_drop_38 : decode mX9_drop.2.1 38 = .ok (.getfield 131, 3) := by decide +kernel
theorem dX9_drop_41 : decode mX9_drop.2.1 41 = .ok (.ireturn, 1) := by decide +kernel
theorem dX3_reverse_0 : decode mX3_reverse.2.1 0 = .ok (.iconst 0, 1) := by decide +kernel
theorem dX3_reverse_1 : decode mX3_reverse.2.1 1 = .ok (.istore_n 1, 1) := by decide +kernel
theorem dX3_reverse_2 : decode mX3_reverse.2.1 2 = .ok (.iload_n 1, 1) := by decide +kernel
theorem dX3_reverse_3 : decode mX3_reverse.2.1 3 = .ok (.aload_n 0, 1) := by decide +kernel
theorem dX3_reverse_4 : decode mX3_reverse.2.1 4 = .ok (.getfield 31, 3) := by decide +kernel
theorem dX3_reverse_7 : decode mX3_reverse.2.1 7 = .ok (.if_icmp .ge 125, 3) := by decide +kernel
theorem dX3_reverse_10 : decode mX3_reverse.2.1 10 = .ok (.aload_n 0, 1) := by decide +kernel
theorem dX3_reverse_11 : decode mX3_reverse.2.1 11 = .ok (.getfield 21, 3) := by decide +kernel
theorem dX3_reverse_14 : decode mX3_reverse.2.1 14 = .ok (.iload_n 1, 1) := by decide +kernel
theorem dX3_reverse_15 : decode mX3_reverse.2.1 15 = .ok (.iaload, 1) := by decide +kernel
theorem dX3_reverse_16 : decode mX3_reverse.2.1 16 = .ok (.istore_n 2, 1) := by decide +kernel
theorem dX3_reverse_17 : decode mX3_reverse.2.1 17 = .ok (.aload_n 0, 1) := by decide +kernel
theorem dX3_reverse_18 : decode mX3_reverse.2.1 18 = .ok (.getfield 21, 3) := by decide +kernel
theorem dX3_reverse_21 : decode mX3_reverse.2.1 21 = .ok (.iload_n 1, 1) := by decide +kernel
theorem dX3_reverse_22 : decode mX3_reverse.2.1 22 = .ok (.aload_n 0, 1) := by decide +kernel
theorem dX3_reverse_23 : decode mX3_reverse.2.1 23 = .ok (.getfield 25, 3) := by decide +kernel
theorem dX3_reverse_26 : decode mX3_reverse.2.1 26 = .ok (.iload_n 1, 1) := by decide +kernel
theorem dX3_reverse_27 : decode mX3_reverse.2.1 27 = .ok (.iaload, 1) := by decide +kernel
theorem dX3_reverse_28 : decode mX3_reverse.2.1 28 = .ok (.iastore, 1) := by decide +kernel
theorem dX3_reverse_29 : decode mX3_reverse.2.1 29 = .ok (.aload_n 0, 1) := by decide +kernel
theorem dX3_reverse_30 : decode mX3_reverse.2.1 30 = .ok (.getfield 25, 3) := by decide +kernel
theorem dX3_reverse_33 : decode mX3_reverse.2.1 33 = .ok (.iload_n 1, 1) := by decide +kernel
theorem dX3_reverse_34 : decode mX3_reverse.2.1 34 = .ok (.iload_n 2, 1) := by decide +kernel
theorem dX3_reverse_35 : decode mX3_reverse.2.1 35 = .ok (.iastore, 1) := by decide +kernel
theorem dX3_reverse_36 : decode mX3_reverse.2.1 36 = .ok (.iconst 0, 1) := by decide +kernel
theorem dX3_reverse_37 : decode mX3_reverse.2.1 37 = .ok (.istore_n 3, 1) := by decide +kernel
theorem dX3_reverse_38 : decode mX3_reverse.2.1 38 = .ok (.iload_n 3, 1) := by decide +kernel
theorem dX3_reverse_39 : decode mX3_reverse.2.1 39 = .ok (.aload_n 0, 1) := by decide +kernel
theorem dX3_reverse_40 : decode mX3_reverse.2.1 40 = .ok (.getfield 9, 3) := by decide +kernel
theorem dX3_reverse_43 : decode mX3_reverse.2.1 43 = .ok (.getfield 53, 3) := by decide +kernel
theorem dX3_reverse_46 : decode mX3_reverse.2.1 46 = .ok (.if_icmp .ge 80, 3) := by decide +kernel
theorem dX3_reverse_49 : decode mX3_reverse.2.1 49 = .ok (.iconst 0, 1) := by decide +kernel
theorem dX3_reverse_50 : decode mX3_reverse.2.1 50 = .ok (.istore 4, 2) := by decide +kernel
theorem dX3_reverse_52 : decode mX3_reverse.2.1 52 = .ok (.iload 4, 2) := by decide +kernel
theorem dX3_reverse_54 : decode mX3_reverse.2.1 54 = .ok (.iload_n 1, 1) := by decide +kernel
theorem dX3_reverse_55 : decode mX3_reverse.2.1 55 = .ok (.if_icmp .ge 65, 3) := by decide +kernel
theorem dX3_reverse_58 : decode mX3_reverse.2.1 58 = .ok (.aload_n 0, 1) := by decide +kernel
theorem dX3_reverse_59 : decode mX3_reverse.2.1 59 = .ok (.getfield 28, 3) := by decide +kernel
theorem dX3_reverse_62 : decode mX3_reverse.2.1 62 = .ok (.aload_n 0, 1) := by decide +kernel
theorem dX3_reverse_63 : decode mX3_reverse.2.1 63 = .ok (.iload_n 1, 1) := by decide +kernel
theorem dX3_reverse_64 : decode mX3_reverse.2.1 64 = .ok (.iload_n 3, 1) := by decide +kernel
theorem dX3_reverse_65 : decode mX3_reverse.2.1 65 = .ok (.iload 4, 2) := by decide +kernel
theorem dX3_reverse_67 : decode mX3_reverse.2.1 67 = .ok (.invokevirtual 56, 3) := by decide +kernel
theorem dX3_reverse_70 : decode mX3_reverse.2.1 70 = .ok (.iaload, 1) := by decide +kernel
theorem dX3_reverse_71 : decode mX3_reverse.2.1 71 = .ok (.istore 5, 2) := by decide +kernel
theorem dX3_reverse_73 : decode mX3_reverse.2.1 73 = .ok (.aload_n 0, 1) := by decide +kernel
theorem dX3_reverse_74 : decode mX3_reverse.2.1 74 = .ok (.getfield 28, 3) := by decide +kernel
theorem dX3_reverse_77 : decode mX3_reverse.2.1 77 = .ok (.aload_n 0, 1) := by decide +kernel
theorem dX3_reverse_78 : decode mX3_reverse.2.1 78 = .ok (.iload_n 1, 1) := by decide +kernel
theorem dX3_reverse_79 : decode mX3_reverse.2.1 79 = .ok (.iload_n 3, 1) := by decide +kernel
theorem dX3_reverse_80 : decode mX3_reverse.2.1 80 = .ok (.iload 4, 2) := by decide +kernel
theorem dX3_reverse_82 : decode mX3_reverse.2.1 82 = .ok (.invokevirtual 56, 3) := by decide +kernel
theorem dX3_reverse_85 : decode mX3_reverse.2.1 85 = .ok (.aload_n 0, 1) := by decide +kernel
theorem dX3_reverse_86 : decode mX3_reverse.2.1 86 = .ok (.getfield 28, 3) := by decide +kernel
theorem dX3_reverse_89 : decode mX3_reverse.2.1 89 = .ok (.aload_n 0, 1) := by decide +kernel
theorem dX3_reverse_90 : decode mX3_reverse.2.1 90 = .ok (.iload 4, 2) := by decide +kernel
theorem dX3_reverse_92 : decode mX3_reverse.2.1 92 = .ok (.iload_n 3, 1) := by decide +kernel
theorem dX3_reverse_93 : decode mX3_reverse.2.1 93 = .ok (.iload_n 1, 1) := by decide +kernel
theorem dX3_reverse_94 : decode mX3_reverse.2.1 94 = .ok (.invokevirtual 56, 3) := by decide +kernel
theorem dX3_reverse_97 : decode mX3_reverse.2.1 97 = .ok (.iaload, 1) := by decide +kernel
theorem dX3_reverse_98 : decode mX3_reverse.2.1 98 = .ok (.iastore, 1) := by decide +kernel
theorem dX3_reverse_99 : decode mX3_reverse.2.1 99 = .ok (.aload_n 0, 1) := by decide +kernel
theorem dX3_reverse_100 : decode mX3_reverse.2.1 100 = .ok (.getfield 28, 3) := by decide +kernel
theorem dX3_reverse_103 : decode mX3_reverse.2.1 103 = .ok (.aload_n 0, 1) := by decide +kernel
theorem dX3_reverse_104 : decode mX3_reverse.2.1 104 = .ok (.iload 4, 2) := by decide +kernel
theorem dX3_reverse_106 : decode mX3_reverse.2.1 106 = .ok (.iload_n 3, 1) := by decide +kernel
theorem dX3_reverse_107 : decode mX3_reverse.2.1 107 = .ok (.iload_n 1, 1) := by decide +kernel
theorem dX3_reverse_108 : decode mX3_reverse.2.1 108 = .ok (.invokevirtual 56, 3) := by decide +kernel
theorem dX3_reverse_111 : decode mX3_reverse.2.1 111 = .ok (.iload 5, 2) := by decide +kernel
theorem dX3_reverse_113 : decode mX3_reverse.2.1 113 = .ok (.iastore, 1) := by decide +kernel
theorem dX3_reverse_114 : decode mX3_reverse.2.1 114 = .ok (.iinc 4 1, 3) := by decide +kernel
theorem dX3_reverse_117 : decode mX3_reverse.2.1 117 = .ok (.goto (-65), 3) := by decide +kernel
theorem dX3_reverse_120 : decode mX3_reverse.2.1 120 = .ok (.iinc 3 1, 3) := by decide +kernel
theorem dX3_reverse_123 : decode mX3_reverse.2.1 123 = .ok (.goto (-85), 3) := by decide +kernel
theorem dX3_reverse_126 : decode mX3_reverse.2.1 126 = .ok (.iinc 1 1, 3) := by decide +kernel
theorem dX3_reverse_129 : decode mX3_reverse.2.1 129 = .ok (.goto (-127), 3) := by decide +kernel
theorem dX3_reverse_132 : decode mX3_reverse.2.1 132 = .ok (.return_, 1) := by decide +kernel
theorem dX9_turn_0 : decode mX9_turn.2.1 0 = .ok (.aload_n 0, 1) := by decide +kernel
theorem dX9_turn_1 : decode mX9_turn.2.1 1 = .ok (.getfield 28, 3) := by decide +kernel
theorem dX9_turn_4 : decode mX9_turn.2.1 4 = .ok (.getfield 110, 3) := by decide +kernel
theorem dX9_turn_7 : decode mX9_turn.2.1 7 = .ok (.invokevirtual 288, 3) := by decide +kernel
theorem dX9_turn_10 : decode mX9_turn.2.1 10 = .ok (.aload_n 0, 1) := by decide +kernel
theorem dX9_turn_11 : decode mX9_turn.2.1 11 = .ok (.invokevirtual 117, 3) := by decide +kernel
theorem dX9_turn_14 : decode mX9_turn.2.1 14 = .ok (.aload_n 0, 1) := by decide +kernel
theorem dX9_turn_15 : decode mX9_turn.2.1 15 = .ok (.getfield 28, 3) := by decide +kernel
theorem dX9_turn_18 : decode mX9_turn.2.1 18 = .ok (.getfield 110, 3) := by decide +kernel
theorem dX9_turn_21 : decode mX9_turn.2.1 21 = .ok (.getfield 131, 3) := by decide +kernel
theorem dX9_turn_24 : decode mX9_turn.2.1 24 = .ok (.ireturn, 1) := by decide +kernel
theorem dX3_multiplyStarts_0 : decode mX3_multiplyStarts.2.1 0 = .ok (.iconst 0, 1) := by decide +kernel
theorem dX3_multiplyStarts_1 : decode mX3_multiplyStarts.2.1 1 = .ok (.istore_n 2, 1) := by decide +kernel
theorem dX3_multiplyStarts_2 : decode mX3_multiplyStarts.2.1 2 = .ok (.iload_n 2, 1) := by decide +kernel
theorem dX3_multiplyStarts_3 : decode mX3_multiplyStarts.2.1 3 = .ok (.aload_n 0, 1) := by decide +kernel
theorem dX3_multiplyStarts_4 : decode mX3_multiplyStarts.2.1 4 = .ok (.getfield 31, 3) := by decide +kernel
theorem dX3_multiplyStarts_7 : decode mX3_multiplyStarts.2.1 7 = .ok (.if_icmp .ge 31, 3) := by decide +kernel
theorem dX3_multiplyStarts_10 : decode mX3_multiplyStarts.2.1 10 = .ok (.aload_n 0, 1) := by decide +kernel
theorem dX3_multiplyStarts_11 : decode mX3_multiplyStarts.2.1 11 = .ok (.getfield 21, 3) := by decide +kernel
theorem dX3_multiplyStarts_14 : decode mX3_multiplyStarts.2.1 14 = .ok (.iload_n 2, 1) := by decide +kernel
theorem dX3_multiplyStarts_15 : decode mX3_multiplyStarts.2.1 15 = .ok (.aload_n 0, 1) := by decide +kernel
theorem dX3_multiplyStarts_16 : decode mX3_multiplyStarts.2.1 16 = .ok (.getfield 21, 3) := by decide +kernel
theorem dX3_multiplyStarts_19 : decode mX3_multiplyStarts.2.1 19 = .ok (.iload_n 2, 1) := by decide +kernel
theorem dX3_multiplyStarts_20 : decode mX3_multiplyStarts.2.1 20 = .ok (.iaload, 1) := by decide +kernel
theorem dX3_multiplyStarts_21 : decode mX3_multiplyStarts.2.1 21 = .ok (.iload_n 1, 1) := by decide +kernel
theorem dX3_multiplyStarts_22 : decode mX3_multiplyStarts.2.1 22 = .ok (.imul, 1) := by decide +kernel
theorem dX3_multiplyStarts_23 : decode mX3_multiplyStarts.2.1 23 = .ok (.aload_n 0, 1) := by decide +kernel
theorem dX3_multiplyStarts_24 : decode mX3_multiplyStarts.2.1 24 = .ok (.getfield 9, 3) := by decide +kernel
theorem dX3_multiplyStarts_27 : decode mX3_multiplyStarts.2.1 27 = .ok (.getfield 48, 3) := by decide +kernel
theorem dX3_multiplyStarts_30 : decode mX3_multiplyStarts.2.1 30 = .ok (.irem, 1) := by decide +kernel
theorem dX3_multiplyStarts_31 : decode mX3_multiplyStarts.2.1 31 = .ok (.iastore, 1) := by decide +kernel
theorem dX3_multiplyStarts_32 : decode mX3_multiplyStarts.2.1 32 = .ok (.iinc 2 1, 3) := by decide +kernel
theorem dX3_multiplyStarts_35 : decode mX3_multiplyStarts.2.1 35 = .ok (.goto (-33), 3) := by decide +kernel
theorem dX3_multiplyStarts_38 : decode mX3_multiplyStarts.2.1 38 = .ok (.return_, 1) := by decide +kernel
theorem dX9_scale_0 : decode mX9_scale.2.1 0 = .ok (.aload_n 0, 1) := by decide +kernel
theorem dX9_scale_1 : decode mX9_scale.2.1 1 = .ok (.getfield 10, 3) := by decide +kernel
theorem dX9_scale_4 : decode mX9_scale.2.1 4 = .ok (.iload_n 1, 1) := by decide +kernel
theorem dX9_scale_5 : decode mX9_scale.2.1 5 = .ok (.invokevirtual 282, 3) := by decide +kernel
theorem dX9_scale_8 : decode mX9_scale.2.1 8 = .ok (.ifCond .ne 5, 3) := by decide +kernel
theorem dX9_scale_11 : decode mX9_scale.2.1 11 = .ok (.iconst (-1), 1) := by decide +kernel
theorem dX9_scale_12 : decode mX9_scale.2.1 12 = .ok (.ireturn, 1) := by decide +kernel
theorem dX9_scale_13 : decode mX9_scale.2.1 13 = .ok (.aload_n 0, 1) := by decide +kernel
theorem dX9_scale_14 : decode mX9_scale.2.1 14 = .ok (.getfield 28, 3) := by decide +kernel
theorem dX9_scale_17 : decode mX9_scale.2.1 17 = .ok (.getfield 110, 3) := by decide +kernel
theorem dX9_scale_20 : decode mX9_scale.2.1 20 = .ok (.iload_n 1, 1) := by decide +kernel
theorem dX9_scale_21 : decode mX9_scale.2.1 21 = .ok (.invokevirtual 291, 3) := by decide +kernel
theorem dX9_scale_24 : decode mX9_scale.2.1 24 = .ok (.aload_n 0, 1) := by decide +kernel
theorem dX9_scale_25 : decode mX9_scale.2.1 25 = .ok (.invokevirtual 117, 3) := by decide +kernel
theorem dX9_scale_28 : decode mX9_scale.2.1 28 = .ok (.aload_n 0, 1) := by decide +kernel
theorem dX9_scale_29 : decode mX9_scale.2.1 29 = .ok (.getfield 28, 3) := by decide +kernel
theorem dX9_scale_32 : decode mX9_scale.2.1 32 = .ok (.getfield 110, 3) := by decide +kernel
theorem dX9_scale_35 : decode mX9_scale.2.1 35 = .ok (.getfield 131, 3) := by decide +kernel
theorem dX9_scale_38 : decode mX9_scale.2.1 38 = .ok (.ireturn, 1) := by decide +kernel
theorem dX9_shrink_0 : decode mX9_shrink.2.1 0 = .ok (.aload_n 0, 1) := by decide +kernel
theorem dX9_shrink_1 : decode mX9_shrink.2.1 1 = .ok (.getfield 28, 3) := by decide +kernel
theorem dX9_shrink_4 : decode mX9_shrink.2.1 4 = .ok (.getfield 110, 3) := by decide +kernel
theorem dX9_shrink_7 : decode mX9_shrink.2.1 7 = .ok (.aload_n 0, 1) := by decide +kernel
theorem dX9_shrink_8 : decode mX9_shrink.2.1 8 = .ok (.invokevirtual 141, 3) := by decide +kernel
theorem dX9_shrink_11 : decode mX9_shrink.2.1 11 = .ok (.invokevirtual 294, 3) := by decide +kernel
theorem dX9_shrink_14 : decode mX9_shrink.2.1 14 = .ok (.aload_n 0, 1) := by decide +kernel
theorem dX9_shrink_15 : decode mX9_shrink.2.1 15 = .ok (.invokevirtual 117, 3) := by decide +kernel
theorem dX9_shrink_18 : decode mX9_shrink.2.1 18 = .ok (.aload_n 0, 1) := by decide +kernel
theorem dX9_shrink_19 : decode mX9_shrink.2.1 19 = .ok (.getfield 28, 3) := by decide +kernel
theorem dX9_shrink_22 : decode mX9_shrink.2.1 22 = .ok (.getfield 110, 3) := by decide +kernel
theorem dX9_shrink_25 : decode mX9_shrink.2.1 25 = .ok (.getfield 131, 3) := by decide +kernel
theorem dX9_shrink_28 : decode mX9_shrink.2.1 28 = .ok (.ireturn, 1) := by decide +kernel
theorem dX9_isImage_0 : decode mX9_isImage.2.1 0 = .ok (.iload_n 0, 1) := by decide +kernel
theorem dX9_isImage_1 : decode mX9_isImage.2.1 1 = .ok (.ifCond .lt 12, 3) := by decide +kernel
theorem dX9_isImage_4 : decode mX9_isImage.2.1 4 = .ok (.iload_n 0, 1) := by decide +kernel
theorem dX9_isImage_5 : decode mX9_isImage.2.1 5 = .ok (.iconst 2, 1) := by decide +kernel
theorem dX9_isImage_6 : decode mX9_isImage.2.1 6 = .ok (.if_icmp .ge 7, 3) := by decide +kernel
theorem dX9_isImage_9 : decode mX9_isImage.2.1 9 = .ok (.iconst 1, 1) := by decide +kernel
theorem dX9_isImage_10 : decode mX9_isImage.2.1 10 = .ok (.goto 4, 3) := by decide +kernel
theorem dX9_isImage_13 : decode mX9_isImage.2.1 13 = .ok (.iconst 0, 1) := by decide +kernel
theorem dX9_isImage_14 : decode mX9_isImage.2.1 14 = .ok (.ireturn, 1) := by decide +kernel
theorem dX9_join_0 : decode mX9_join.2.1 0 = .ok (.iload_n 1, 1) := by decide +kernel
theorem dX9_join_1 : decode mX9_join.2.1 1 = .ok (.invokestatic 297, 3) := by decide +kernel
theorem dX9_join_4 : decode mX9_join.2.1 4 = .ok (.ifCond .ne 5, 3) := by decide +kernel
theorem dX9_join_7 : decode mX9_join.2.1 7 = .ok (.iconst (-1), 1) := by decide +kernel
theorem dX9_join_8 : decode mX9_join.2.1 8 = .ok (.ireturn, 1) := by decide +kernel
theorem dX9_join_9 : decode mX9_join.2.1 9 = .ok (.aload_n 0, 1) := by decide +kernel
theorem dX9_join_10 : decode mX9_join.2.1 10 = .ok (.getfield 36, 3) := by decide +kernel
theorem dX9_join_13 : decode mX9_join.2.1 13 = .ok (.iload_n 1, 1) := by decide +kernel
theorem dX9_join_14 : decode mX9_join.2.1 14 = .ok (.baload, 1) := by decide +kernel
theorem dX9_join_15 : decode mX9_join.2.1 15 = .ok (.ifCond .ne 6, 3) := by decide +kernel
theorem dX9_join_18 : decode mX9_join.2.1 18 = .ok (.bipush (-2), 2) := by decide +kernel
theorem dX9_join_20 : decode mX9_join.2.1 20 = .ok (.ireturn, 1) := by decide +kernel
theorem dX9_join_21 : decode mX9_join.2.1 21 = .ok (.aload_n 0, 1) := by decide +kernel
theorem dX9_join_22 : decode mX9_join.2.1 22 = .ok (.getfield 32, 3) := by decide +kernel
theorem dX9_join_25 : decode mX9_join.2.1 25 = .ok (.iload_n 1, 1) := by decide +kernel
theorem dX9_join_26 : decode mX9_join.2.1 26 = .ok (.aaload, 1) := by decide +kernel
theorem dX9_join_27 : decode mX9_join.2.1 27 = .ok (.getfield 110, 3) := by decide +kernel
theorem dX9_join_30 : decode mX9_join.2.1 30 = .ok (.astore_n 2, 1) := by decide +kernel
theorem dX9_join_31 : decode mX9_join.2.1 31 = .ok (.aload_n 0, 1) := by decide +kernel
theorem dX9_join_32 : decode mX9_join.2.1 32 = .ok (.getfield 28, 3) := by decide +kernel
theorem dX9_join_35 : decode mX9_join.2.1 35 = .ok (.getfield 110, 3) := by decide +kernel
theorem dX9_join_38 : decode mX9_join.2.1 38 = .ok (.getfield 131, 3) := by decide +kernel
theorem dX9_join_41 : decode mX9_join.2.1 41 = .ok (.aload_n 2, 1) := by decide +kernel
theorem dX9_join_42 : decode mX9_join.2.1 42 = .ok (.getfield 131, 3) := by decide +kernel
theorem dX9_join_45 : decode mX9_join.2.1 45 = .ok (.iadd, 1) := by decide +kernel
theorem dX9_join_46 : decode mX9_join.2.1 46 = .ok (.iconst 4, 1) := by decide +kernel
theorem dX9_join_47 : decode mX9_join.2.1 47 = .ok (.if_icmp .le 6, 3) := by decide +kernel
theorem dX9_join_50 : decode mX9_join.2.1 50 = .ok (.bipush (-3), 2) := by decide +kernel
theorem dX9_join_52 : decode mX9_join.2.1 52 = .ok (.ireturn, 1) := by decide +kernel
theorem dX9_join_53 : decode mX9_join.2.1 53 = .ok (.aload_n 0, 1) := by decide +kernel
theorem dX9_join_54 : decode mX9_join.2.1 54 = .ok (.getfield 28, 3) := by decide +kernel
theorem dX9_join_57 : decode mX9_join.2.1 57 = .ok (.getfield 110, 3) := by decide +kernel
theorem dX9_join_60 : decode mX9_join.2.1 60 = .ok (.aload_n 2, 1) := by decide +kernel
theorem dX9_join_61 : decode mX9_join.2.1 61 = .ok (.iconst 1, 1) := by decide +kernel
theorem dX9_join_62 : decode mX9_join.2.1 62 = .ok (.invokevirtual 300, 3) := by decide +kernel
theorem dX9_join_65 : decode mX9_join.2.1 65 = .ok (.aload_n 0, 1) := by decide +kernel
theorem dX9_join_66 : decode mX9_join.2.1 66 = .ok (.invokevirtual 117, 3) := by decide +kernel
theorem dX9_join_69 : decode mX9_join.2.1 69 = .ok (.aload_n 0, 1) := by decide +kernel
theorem dX9_join_70 : decode mX9_join.2.1 70 = .ok (.getfield 28, 3) := by decide +kernel
theorem dX9_join_73 : decode mX9_join.2.1 73 = .ok (.getfield 110, 3) := by decide +kernel
theorem dX9_join_76 : decode mX9_join.2.1 76 = .ok (.getfield 131, 3) := by decide +kernel
theorem dX9_join_79 : decode mX9_join.2.1 79 = .ok (.ireturn, 1) := by decide +kernel
theorem dX2_init_0 : decode mX2_init.2.1 0 = .ok (.aload_n 0, 1) := by decide +kernel
theorem dX2_init_1 : decode mX2_init.2.1 1 = .ok (.invokespecial 1, 3) := by decide +kernel
theorem dX2_init_4 : decode mX2_init.2.1 4 = .ok (.aload_n 0, 1) := by decide +kernel
theorem dX2_init_5 : decode mX2_init.2.1 5 = .ok (.iload_n 1, 1) := by decide +kernel
theorem dX2_init_6 : decode mX2_init.2.1 6 = .ok (.putfield 7, 3) := by decide +kernel
theorem dX2_init_9 : decode mX2_init.2.1 9 = .ok (.aload_n 0, 1) := by decide +kernel
theorem dX2_init_10 : decode mX2_init.2.1 10 = .ok (.iload_n 2, 1) := by decide +kernel
theorem dX2_init_11 : decode mX2_init.2.1 11 = .ok (.putfield 13, 3) := by decide +kernel
theorem dX2_init_14 : decode mX2_init.2.1 14 = .ok (.return_, 1) := by decide +kernel
theorem dX2_nextResidue_0 : decode mX2_nextResidue.2.1 0 = .ok (.aload_n 0, 1) := by decide +kernel
theorem dX2_nextResidue_1 : decode mX2_nextResidue.2.1 1 = .ok (.aload_n 0, 1) := by decide +kernel
theorem dX2_nextResidue_2 : decode mX2_nextResidue.2.1 2 = .ok (.getfield 7, 3) := by decide +kernel
theorem dX2_nextResidue_5 : decode mX2_nextResidue.2.1 5 = .ok (.ldc 16, 2) := by decide +kernel
theorem dX2_nextResidue_7 : decode mX2_nextResidue.2.1 7 = .ok (.imul, 1) := by decide +kernel
theorem dX2_nextResidue_8 : decode mX2_nextResidue.2.1 8 = .ok (.sipush 12345, 3) := by decide +kernel
theorem dX2_nextResidue_11 : decode mX2_nextResidue.2.1 11 = .ok (.iadd, 1) := by decide +kernel
theorem dX2_nextResidue_12 : decode mX2_nextResidue.2.1 12 = .ok (.putfield 7, 3) := by decide +kernel
theorem dX2_nextResidue_15 : decode mX2_nextResidue.2.1 15 = .ok (.aload_n 0, 1) := by decide +kernel
theorem dX2_nextResidue_16 : decode mX2_nextResidue.2.1 16 = .ok (.getfield 7, 3) := by decide +kernel
theorem dX2_nextResidue_19 : decode mX2_nextResidue.2.1 19 = .ok (.bipush 16, 2) := by decide +kernel
theorem dX2_nextResidue_21 : decode mX2_nextResidue.2.1 21 = .ok (.iushr, 1) := by decide +kernel
theorem dX2_nextResidue_22 : decode mX2_nextResidue.2.1 22 = .ok (.sipush 32767, 3) := by decide +kernel
theorem dX2_nextResidue_25 : decode mX2_nextResidue.2.1 25 = .ok (.iand, 1) := by decide +kernel
theorem dX2_nextResidue_26 : decode mX2_nextResidue.2.1 26 = .ok (.istore_n 1, 1) := by decide +kernel
theorem dX2_nextResidue_27 : decode mX2_nextResidue.2.1 27 = .ok (.iload_n 1, 1) := by decide +kernel
theorem dX2_nextResidue_28 : decode mX2_nextResidue.2.1 28 = .ok (.sipush 128, 3) := by decide +kernel
theorem dX2_nextResidue_31 : decode mX2_nextResidue.2.1 31 = .ok (.idiv, 1) := by decide +kernel
theorem dX2_nextResidue_32 : decode mX2_nextResidue.2.1 32 = .ok (.iconst 2, 1) := by decide +kernel
theorem dX2_nextResidue_33 : decode mX2_nextResidue.2.1 33 = .ok (.irem, 1) := by decide +kernel
theorem dX2_nextResidue_34 : decode mX2_nextResidue.2.1 34 = .ok (.ifCond .eq 11, 3) := by decide +kernel
theorem dX2_nextResidue_37 : decode mX2_nextResidue.2.1 37 = .ok (.aload_n 0, 1) := by decide +kernel
theorem dX2_nextResidue_38 : decode mX2_nextResidue.2.1 38 = .ok (.getfield 13, 3) := by decide +kernel
theorem dX2_nextResidue_41 : decode mX2_nextResidue.2.1 41 = .ok (.iconst 1, 1) := by decide +kernel
theorem dX2_nextResidue_42 : decode mX2_nextResidue.2.1 42 = .ok (.if_icmp .ge 7, 3) := by decide +kernel
theorem dX2_nextResidue_45 : decode mX2_nextResidue.2.1 45 = .ok (.iconst 0, 1) := by decide +kernel
theorem dX2_nextResidue_46 : decode mX2_nextResidue.2.1 46 = .ok (.goto 9, 3) := by decide +kernel
theorem dX2_nextResidue_49 : decode mX2_nextResidue.2.1 49 = .ok (.iload_n 1, 1) := by decide +kernel
theorem dX2_nextResidue_50 : decode mX2_nextResidue.2.1 50 = .ok (.aload_n 0, 1) := by decide +kernel
theorem dX2_nextResidue_51 : decode mX2_nextResidue.2.1 51 = .ok (.getfield 13, 3) := by decide +kernel
theorem dX2_nextResidue_54 : decode mX2_nextResidue.2.1 54 = .ok (.irem, 1) := by decide +kernel
theorem dX2_nextResidue_55 : decode mX2_nextResidue.2.1 55 = .ok (.ireturn, 1) := by decide +kernel
theorem dX9_draw_0 : decode mX9_draw.2.1 0 = .ok (.iload_n 2, 1) := by decide +kernel
theorem dX9_draw_1 : decode mX9_draw.2.1 1 = .ok (.ifCond .lt 8, 3) := by decide +kernel
theorem dX9_draw_4 : decode mX9_draw.2.1 4 = .ok (.iload_n 2, 1) := by decide +kernel
theorem dX9_draw_5 : decode mX9_draw.2.1 5 = .ok (.iconst 4, 1) := by decide +kernel
theorem dX9_draw_6 : decode mX9_draw.2.1 6 = .ok (.if_icmp .le 5, 3) := by decide +kernel
theorem dX9_draw_9 : decode mX9_draw.2.1 9 = .ok (.iconst (-1), 1) := by decide +kernel
theorem dX9_draw_10 : decode mX9_draw.2.1 10 = .ok (.ireturn, 1) := by decide +kernel
theorem dX9_draw_11 : decode mX9_draw.2.1 11 = .ok (.new 303, 3) := by decide +kernel
theorem dX9_draw_14 : decode mX9_draw.2.1 14 = .ok (.dup, 1) := by decide +kernel
theorem dX9_draw_15 : decode mX9_draw.2.1 15 = .ok (.iload_n 1, 1) := by decide +kernel
theorem dX9_draw_16 : decode mX9_draw.2.1 16 = .ok (.aload_n 0, 1) := by decide +kernel
theorem dX9_draw_17 : decode mX9_draw.2.1 17 = .ok (.getfield 10, 3) := by decide +kernel
theorem dX9_draw_20 : decode mX9_draw.2.1 20 = .ok (.getfield 129, 3) := by decide +kernel
theorem dX9_draw_23 : decode mX9_draw.2.1 23 = .ok (.invokespecial 305, 3) := by decide +kernel
theorem dX9_draw_26 : decode mX9_draw.2.1 26 = .ok (.astore_n 3, 1) := by decide +kernel
theorem dX9_draw_27 : decode mX9_draw.2.1 27 = .ok (.aload_n 0, 1) := by decide +kernel
theorem dX9_draw_28 : decode mX9_draw.2.1 28 = .ok (.getfield 28, 3) := by decide +kernel
theorem dX9_draw_31 : decode mX9_draw.2.1 31 = .ok (.getfield 110, 3) := by decide +kernel
theorem dX9_draw_34 : decode mX9_draw.2.1 34 = .ok (.astore 4, 2) := by decide +kernel
theorem dX9_draw_36 : decode mX9_draw.2.1 36 = .ok (.aload 4, 2) := by decide +kernel
theorem dX9_draw_38 : decode mX9_draw.2.1 38 = .ok (.iload_n 2, 1) := by decide +kernel
theorem dX9_draw_39 : decode mX9_draw.2.1 39 = .ok (.invokevirtual 307, 3) := by decide +kernel
theorem dX9_draw_42 : decode mX9_draw.2.1 42 = .ok (.iconst 0, 1) := by decide +kernel
theorem dX9_draw_43 : decode mX9_draw.2.1 43 = .ok (.istore 5, 2) := by decide +kernel
theorem dX9_draw_45 : decode mX9_draw.2.1 45 = .ok (.iload 5, 2) := by decide +kernel
theorem dX9_draw_47 : decode mX9_draw.2.1 47 = .ok (.iload_n 2, 1) := by decide +kernel
theorem dX9_draw_48 : decode mX9_draw.2.1 48 = .ok (.if_icmp .ge 90, 3) := by decide +kernel
theorem dX9_draw_51 : decode mX9_draw.2.1 51 = .ok (.aload 4, 2) := by decide +kernel
theorem dX9_draw_53 : decode mX9_draw.2.1 53 = .ok (.getfield 178, 3) := by decide +kernel
theorem dX9_draw_56 : decode mX9_draw.2.1 56 = .ok (.iload 5, 2) := by decide +kernel
theorem dX9_draw_58 : decode mX9_draw.2.1 58 = .ok (.aload_n 3, 1) := by decide +kernel
theorem dX9_draw_59 : decode mX9_draw.2.1 59 = .ok (.invokevirtual 309, 3) := by decide +kernel
theorem dX9_draw_62 : decode mX9_draw.2.1 62 = .ok (.iastore, 1) := by decide +kernel
theorem dX9_draw_63 : decode mX9_draw.2.1 63 = .ok (.aload 4, 2) := by decide +kernel
theorem dX9_draw_65 : decode mX9_draw.2.1 65 = .ok (.getfield 181, 3) := by decide +kernel
theorem dX9_draw_68 : decode mX9_draw.2.1 68 = .ok (.iload 5, 2) := by decide +kernel
theorem dX9_draw_70 : decode mX9_draw.2.1 70 = .ok (.aload_n 3, 1) := by decide +kernel
theorem dX9_draw_71 : decode mX9_draw.2.1 71 = .ok (.invokevirtual 309, 3) := by decide +kernel
theorem dX9_draw_74 : decode mX9_draw.2.1 74 = .ok (.iastore, 1) := by decide +kernel
theorem dX9_draw_75 : decode mX9_draw.2.1 75 = .ok (.iconst 0, 1) := by decide +kernel
theorem dX9_draw_76 : decode mX9_draw.2.1 76 = .ok (.istore 6, 2) := by decide +kernel
theorem dX9_draw_78 : decode mX9_draw.2.1 78 = .ok (.iload 6, 2) := by decide +kernel
theorem dX9_draw_80 : decode mX9_draw.2.1 80 = .ok (.aload_n 0, 1) := by decide +kernel
theorem dX9_draw_81 : decode mX9_draw.2.1 81 = .ok (.getfield 10, 3) := by decide +kernel
theorem dX9_draw_84 : decode mX9_draw.2.1 84 = .ok (.getfield 130, 3) := by decide +kernel
theorem dX9_draw_87 : decode mX9_draw.2.1 87 = .ok (.if_icmp .ge 45, 3) := by decide +kernel
theorem dX9_draw_90 : decode mX9_draw.2.1 90 = .ok (.iconst 0, 1) := by decide +kernel
theorem dX9_draw_91 : decode mX9_draw.2.1 91 = .ok (.istore 7, 2) := by decide +kernel
theorem dX9_draw_93 : decode mX9_draw.2.1 93 = .ok (.iload 7, 2) := by decide +kernel
theorem dX9_draw_95 : decode mX9_draw.2.1 95 = .ok (.iload_n 2, 1) := by decide +kernel
theorem dX9_draw_96 : decode mX9_draw.2.1 96 = .ok (.if_icmp .ge 30, 3) := by decide +kernel
theorem dX9_draw_99 : decode mX9_draw.2.1 99 = .ok (.aload 4, 2) := by decide +kernel
theorem dX9_draw_101 : decode mX9_draw.2.1 101 = .ok (.getfield 187, 3) := by decide +kernel
theorem dX9_draw_104 : decode mX9_draw.2.1 104 = .ok (.aload 4, 2) := by decide +kernel
theorem dX9_draw_106 : decode mX9_draw.2.1 106 = .ok (.iload 5, 2) := by decide +kernel
theorem dX9_draw_108 : decode mX9_draw.2.1 108 = .ok (.iload 6, 2) := by decide +kernel
theorem dX9_draw_110 : decode mX9_draw.2.1 110 = .ok (.iload 7, 2) := by decide +kernel
theorem dX9_draw_112 : decode mX9_draw.2.1 112 = .ok (.invokevirtual 190, 3) := by decide +kernel
theorem dX9_draw_115 : decode mX9_draw.2.1 115 = .ok (.aload_n 3, 1) := by decide +kernel
theorem dX9_draw_116 : decode mX9_draw.2.1 116 = .ok (.invokevirtual 309, 3) := by decide +kernel
theorem dX9_draw_119 : decode mX9_draw.2.1 119 = .ok (.iastore, 1) := by decide +kernel
theorem dX9_draw_120 : decode mX9_draw.2.1 120 = .ok (.iinc 7 1, 3) := by decide +kernel
theorem dX9_draw_123 : decode mX9_draw.2.1 123 = .ok (.goto (-30), 3) := by decide +kernel
theorem dX9_draw_126 : decode mX9_draw.2.1 126 = .ok (.iinc 6 1, 3) := by decide +kernel
theorem dX9_draw_129 : decode mX9_draw.2.1 129 = .ok (.goto (-51), 3) := by decide +kernel
theorem dX9_draw_132 : decode mX9_draw.2.1 132 = .ok (.iinc 5 1, 3) := by decide +kernel
theorem dX9_draw_135 : decode mX9_draw.2.1 135 = .ok (.goto (-90), 3) := by decide +kernel
theorem dX9_draw_138 : decode mX9_draw.2.1 138 = .ok (.aload_n 0, 1) := by decide +kernel
theorem dX9_draw_139 : decode mX9_draw.2.1 139 = .ok (.invokevirtual 117, 3) := by decide +kernel
theorem dX9_draw_142 : decode mX9_draw.2.1 142 = .ok (.iconst 1, 1) := by decide +kernel
theorem dX9_draw_143 : decode mX9_draw.2.1 143 = .ok (.ireturn, 1) := by decide +kernel
theorem dX8_copy_0 : decode mX8_copy.2.1 0 = .ok (.aload_n 0, 1) := by decide +kernel
theorem dX8_copy_1 : decode mX8_copy.2.1 1 = .ok (.getfield 27, 3) := by decide +kernel
theorem dX8_copy_4 : decode mX8_copy.2.1 4 = .ok (.aload_n 1, 1) := by decide +kernel
theorem dX8_copy_5 : decode mX8_copy.2.1 5 = .ok (.getfield 27, 3) := by decide +kernel
theorem dX8_copy_8 : decode mX8_copy.2.1 8 = .ok (.invokevirtual 51, 3) := by decide +kernel
theorem dX8_copy_11 : decode mX8_copy.2.1 11 = .ok (.aload_n 0, 1) := by decide +kernel
theorem dX8_copy_12 : decode mX8_copy.2.1 12 = .ok (.getfield 31, 3) := by decide +kernel
theorem dX8_copy_15 : decode mX8_copy.2.1 15 = .ok (.aload_n 1, 1) := by decide +kernel
theorem dX8_copy_16 : decode mX8_copy.2.1 16 = .ok (.getfield 31, 3) := by decide +kernel
theorem dX8_copy_19 : decode mX8_copy.2.1 19 = .ok (.invokevirtual 51, 3) := by decide +kernel
theorem dX8_copy_22 : decode mX8_copy.2.1 22 = .ok (.aload_n 1, 1) := by decide +kernel
theorem dX8_copy_23 : decode mX8_copy.2.1 23 = .ok (.getfield 9, 3) := by decide +kernel
theorem dX8_copy_26 : decode mX8_copy.2.1 26 = .ok (.iconst 0, 1) := by decide +kernel
theorem dX8_copy_27 : decode mX8_copy.2.1 27 = .ok (.aload_n 0, 1) := by decide +kernel
theorem dX8_copy_28 : decode mX8_copy.2.1 28 = .ok (.getfield 9, 3) := by decide +kernel
theorem dX8_copy_31 : decode mX8_copy.2.1 31 = .ok (.iconst 0, 1) := by decide +kernel
theorem dX8_copy_32 : decode mX8_copy.2.1 32 = .ok (.aload_n 1, 1) := by decide +kernel
theorem dX8_copy_33 : decode mX8_copy.2.1 33 = .ok (.getfield 37, 3) := by decide +kernel
theorem dX8_copy_36 : decode mX8_copy.2.1 36 = .ok (.invokestatic 55, 3) := by decide +kernel
theorem dX8_copy_39 : decode mX8_copy.2.1 39 = .ok (.aload_n 1, 1) := by decide +kernel
theorem dX8_copy_40 : decode mX8_copy.2.1 40 = .ok (.getfield 15, 3) := by decide +kernel
theorem dX8_copy_43 : decode mX8_copy.2.1 43 = .ok (.iconst 0, 1) := by decide +kernel
theorem dX8_copy_44 : decode mX8_copy.2.1 44 = .ok (.aload_n 0, 1) := by decide +kernel
theorem dX8_copy_45 : decode mX8_copy.2.1 45 = .ok (.getfield 15, 3) := by decide +kernel
theorem dX8_copy_48 : decode mX8_copy.2.1 48 = .ok (.iconst 0, 1) := by decide +kernel
theorem dX8_copy_49 : decode mX8_copy.2.1 49 = .ok (.aload_n 1, 1) := by decide +kernel
theorem dX8_copy_50 : decode mX8_copy.2.1 50 = .ok (.getfield 41, 3) := by decide +kernel
theorem dX8_copy_53 : decode mX8_copy.2.1 53 = .ok (.invokestatic 55, 3) := by decide +kernel
theorem dX8_copy_56 : decode mX8_copy.2.1 56 = .ok (.aload_n 0, 1) := by decide +kernel
theorem dX8_copy_57 : decode mX8_copy.2.1 57 = .ok (.aload_n 1, 1) := by decide +kernel
theorem dX8_copy_58 : decode mX8_copy.2.1 58 = .ok (.getfield 37, 3) := by decide +kernel
theorem dX8_copy_61 : decode mX8_copy.2.1 61 = .ok (.putfield 37, 3) := by decide +kernel
theorem dX8_copy_64 : decode mX8_copy.2.1 64 = .ok (.aload_n 0, 1) := by decide +kernel
theorem dX8_copy_65 : decode mX8_copy.2.1 65 = .ok (.aload_n 1, 1) := by decide +kernel
theorem dX8_copy_66 : decode mX8_copy.2.1 66 = .ok (.getfield 41, 3) := by decide +kernel
theorem dX8_copy_69 : decode mX8_copy.2.1 69 = .ok (.putfield 41, 3) := by decide +kernel
theorem dX8_copy_72 : decode mX8_copy.2.1 72 = .ok (.aload_n 0, 1) := by decide +kernel
theorem dX8_copy_73 : decode mX8_copy.2.1 73 = .ok (.aload_n 1, 1) := by decide +kernel
theorem dX8_copy_74 : decode mX8_copy.2.1 74 = .ok (.getfield 44, 3) := by decide +kernel
theorem dX8_copy_77 : decode mX8_copy.2.1 77 = .ok (.putfield 44, 3) := by decide +kernel
theorem dX8_copy_80 : decode mX8_copy.2.1 80 = .ok (.aload_n 0, 1) := by decide +kernel
theorem dX8_copy_81 : decode mX8_copy.2.1 81 = .ok (.aload_n 1, 1) := by decide +kernel
theorem dX8_copy_82 : decode mX8_copy.2.1 82 = .ok (.getfield 47, 3) := by decide +kernel
theorem dX8_copy_85 : decode mX8_copy.2.1 85 = .ok (.putfield 47, 3) := by decide +kernel
theorem dX8_copy_88 : decode mX8_copy.2.1 88 = .ok (.return_, 1) := by decide +kernel
theorem dX9_keep_0 : decode mX9_keep.2.1 0 = .ok (.iload_n 1, 1) := by decide +kernel
theorem dX9_keep_1 : decode mX9_keep.2.1 1 = .ok (.invokestatic 297, 3) := by decide +kernel
theorem dX9_keep_4 : decode mX9_keep.2.1 4 = .ok (.ifCond .ne 5, 3) := by decide +kernel
theorem dX9_keep_7 : decode mX9_keep.2.1 7 = .ok (.iconst (-1), 1) := by decide +kernel
theorem dX9_keep_8 : decode mX9_keep.2.1 8 = .ok (.ireturn, 1) := by decide +kernel
theorem dX9_keep_9 : decode mX9_keep.2.1 9 = .ok (.aload_n 0, 1) := by decide +kernel
theorem dX9_keep_10 : decode mX9_keep.2.1 10 = .ok (.getfield 36, 3) := by decide +kernel
theorem dX9_keep_13 : decode mX9_keep.2.1 13 = .ok (.iload_n 1, 1) := by decide +kernel
theorem dX9_keep_14 : decode mX9_keep.2.1 14 = .ok (.baload, 1) := by decide +kernel
theorem dX9_keep_15 : decode mX9_keep.2.1 15 = .ok (.ifCond .eq 7, 3) := by decide +kernel
theorem dX9_keep_18 : decode mX9_keep.2.1 18 = .ok (.iconst 1, 1) := by decide +kernel
theorem dX9_keep_19 : decode mX9_keep.2.1 19 = .ok (.goto 4, 3) := by decide +kernel
theorem dX9_keep_22 : decode mX9_keep.2.1 22 = .ok (.iconst 0, 1) := by decide +kernel
theorem dX9_keep_23 : decode mX9_keep.2.1 23 = .ok (.istore_n 2, 1) := by decide +kernel
theorem dX9_keep_24 : decode mX9_keep.2.1 24 = .ok (.aload_n 0, 1) := by decide +kernel
theorem dX9_keep_25 : decode mX9_keep.2.1 25 = .ok (.getfield 32, 3) := by decide +kernel
theorem dX9_keep_28 : decode mX9_keep.2.1 28 = .ok (.iload_n 1, 1) := by decide +kernel
theorem dX9_keep_29 : decode mX9_keep.2.1 29 = .ok (.aaload, 1) := by decide +kernel
theorem dX9_keep_30 : decode mX9_keep.2.1 30 = .ok (.aload_n 0, 1) := by decide +kernel
theorem dX9_keep_31 : decode mX9_keep.2.1 31 = .ok (.getfield 28, 3) := by decide +kernel
theorem dX9_keep_34 : decode mX9_keep.2.1 34 = .ok (.invokevirtual 312, 3) := by decide +kernel
theorem dX9_keep_37 : decode mX9_keep.2.1 37 = .ok (.aload_n 0, 1) := by decide +kernel
theorem dX9_keep_38 : decode mX9_keep.2.1 38 = .ok (.getfield 36, 3) := by decide +kernel
theorem dX9_keep_41 : decode mX9_keep.2.1 41 = .ok (.iload_n 1, 1) := by decide +kernel
theorem dX9_keep_42 : decode mX9_keep.2.1 42 = .ok (.iconst 1, 1) := by decide +kernel
theorem dX9_keep_43 : decode mX9_keep.2.1 43 = .ok (.bastore, 1) := by decide +kernel
theorem dX9_keep_44 : decode mX9_keep.2.1 44 = .ok (.iload_n 2, 1) := by decide +kernel
theorem dX9_keep_45 : decode mX9_keep.2.1 45 = .ok (.ireturn, 1) := by decide +kernel
theorem dX9_back_0 : decode mX9_back.2.1 0 = .ok (.iload_n 1, 1) := by decide +kernel
theorem dX9_back_1 : decode mX9_back.2.1 1 = .ok (.invokestatic 297, 3) := by decide +kernel
theorem dX9_back_4 : decode mX9_back.2.1 4 = .ok (.ifCond .ne 5, 3) := by decide +kernel
theorem dX9_back_7 : decode mX9_back.2.1 7 = .ok (.iconst (-1), 1) := by decide +kernel
theorem dX9_back_8 : decode mX9_back.2.1 8 = .ok (.ireturn, 1) := by decide +kernel
theorem dX9_back_9 : decode mX9_back.2.1 9 = .ok (.aload_n 0, 1) := by decide +kernel
theorem dX9_back_10 : decode mX9_back.2.1 10 = .ok (.getfield 36, 3) := by decide +kernel
theorem dX9_back_13 : decode mX9_back.2.1 13 = .ok (.iload_n 1, 1) := by decide +kernel
theorem dX9_back_14 : decode mX9_back.2.1 14 = .ok (.baload, 1) := by decide +kernel
theorem dX9_back_15 : decode mX9_back.2.1 15 = .ok (.ifCond .ne 6, 3) := by decide +kernel
theorem dX9_back_18 : decode mX9_back.2.1 18 = .ok (.bipush (-2), 2) := by decide +kernel
theorem dX9_back_20 : decode mX9_back.2.1 20 = .ok (.ireturn, 1) := by decide +kernel
theorem dX9_back_21 : decode mX9_back.2.1 21 = .ok (.aload_n 0, 1) := by decide +kernel
theorem dX9_back_22 : decode mX9_back.2.1 22 = .ok (.getfield 28, 3) := by decide +kernel
theorem dX9_back_25 : decode mX9_back.2.1 25 = .ok (.aload_n 0, 1) := by decide +kernel
theorem dX9_back_26 : decode mX9_back.2.1 26 = .ok (.getfield 32, 3) := by decide +kernel
theorem dX9_back_29 : decode mX9_back.2.1 29 = .ok (.iload_n 1, 1) := by decide +kernel
theorem dX9_back_30 : decode mX9_back.2.1 30 = .ok (.aaload, 1) := by decide +kernel
theorem dX9_back_31 : decode mX9_back.2.1 31 = .ok (.invokevirtual 312, 3) := by decide +kernel
theorem dX9_back_34 : decode mX9_back.2.1 34 = .ok (.aload_n 0, 1) := by decide +kernel
theorem dX9_back_35 : decode mX9_back.2.1 35 = .ok (.iconst 0, 1) := by decide +kernel
theorem dX9_back_36 : decode mX9_back.2.1 36 = .ok (.putfield 315, 3) := by decide +kernel
theorem dX9_back_39 : decode mX9_back.2.1 39 = .ok (.aload_n 0, 1) := by decide +kernel
theorem dX9_back_40 : decode mX9_back.2.1 40 = .ok (.getfield 28, 3) := by decide +kernel
theorem dX9_back_43 : decode mX9_back.2.1 43 = .ok (.getfield 110, 3) := by decide +kernel
theorem dX9_back_46 : decode mX9_back.2.1 46 = .ok (.getfield 131, 3) := by decide +kernel
theorem dX9_back_49 : decode mX9_back.2.1 49 = .ok (.ireturn, 1) := by decide +kernel
theorem dX9_differ_0 : decode mX9_differ.2.1 0 = .ok (.iload_n 1, 1) := by decide +kernel
theorem dX9_differ_1 : decode mX9_differ.2.1 1 = .ok (.invokestatic 297, 3) := by decide +kernel
theorem dX9_differ_4 : decode mX9_differ.2.1 4 = .ok (.ifCond .ne 5, 3) := by decide +kernel
theorem dX9_differ_7 : decode mX9_differ.2.1 7 = .ok (.iconst (-1), 1) := by decide +kernel
theorem dX9_differ_8 : decode mX9_differ.2.1 8 = .ok (.ireturn, 1) := by decide +kernel
theorem dX9_differ_9 : decode mX9_differ.2.1 9 = .ok (.aload_n 0, 1) := by decide +kernel
theorem dX9_differ_10 : decode mX9_differ.2.1 10 = .ok (.getfield 36, 3) := by decide +kernel
theorem dX9_differ_13 : decode mX9_differ.2.1 13 = .ok (.iload_n 1, 1) := by decide +kernel
theorem dX9_differ_14 : decode mX9_differ.2.1 14 = .ok (.baload, 1) := by decide +kernel
theorem dX9_differ_15 : decode mX9_differ.2.1 15 = .ok (.ifCond .eq 19, 3) := by decide +kernel
theorem dX9_differ_18 : decode mX9_differ.2.1 18 = .ok (.aload_n 0, 1) := by decide +kernel
theorem dX9_differ_19 : decode mX9_differ.2.1 19 = .ok (.aload_n 0, 1) := by decide +kernel
theorem dX9_differ_20 : decode mX9_differ.2.1 20 = .ok (.getfield 32, 3) := by decide +kernel
theorem dX9_differ_23 : decode mX9_differ.2.1 23 = .ok (.iload_n 1, 1) := by decide +kernel
theorem dX9_differ_24 : decode mX9_differ.2.1 24 = .ok (.aaload, 1) := by decide +kernel
theorem dX9_differ_25 : decode mX9_differ.2.1 25 = .ok (.getfield 110, 3) := by decide +kernel
theorem dX9_differ_28 : decode mX9_differ.2.1 28 = .ok (.invokevirtual 268, 3) := by decide +kernel
theorem dX9_differ_31 : decode mX9_differ.2.1 31 = .ok (.goto 5, 3) := by decide +kernel
theorem dX9_differ_34 : decode mX9_differ.2.1 34 = .ok (.bipush (-2), 2) := by decide +kernel
theorem dX9_differ_36 : decode mX9_differ.2.1 36 = .ok (.ireturn, 1) := by decide +kernel
theorem dX9_isShelf_0 : decode mX9_isShelf.2.1 0 = .ok (.iload_n 0, 1) := by decide +kernel
theorem dX9_isShelf_1 : decode mX9_isShelf.2.1 1 = .ok (.ifCond .lt 12, 3) := by decide +kernel
theorem dX9_isShelf_4 : decode mX9_isShelf.2.1 4 = .ok (.iload_n 0, 1) := by decide +kernel
theorem dX9_isShelf_5 : decode mX9_isShelf.2.1 5 = .ok (.iconst 3, 1) := by decide +kernel
theorem dX9_isShelf_6 : decode mX9_isShelf.2.1 6 = .ok (.if_icmp .ge 7, 3) := by decide +kernel
theorem dX9_isShelf_9 : decode mX9_isShelf.2.1 9 = .ok (.iconst 1, 1) := by decide +kernel
theorem dX9_isShelf_10 : decode mX9_isShelf.2.1 10 = .ok (.goto 4, 3) := by decide +kernel
theorem dX9_isShelf_13 : decode mX9_isShelf.2.1 13 = .ok (.iconst 0, 1) := by decide +kernel
theorem dX9_isShelf_14 : decode mX9_isShelf.2.1 14 = .ok (.ireturn, 1) := by decide +kernel
theorem dX9_isLane_0 : decode mX9_isLane.2.1 0 = .ok (.iload_n 0, 1) := by decide +kernel
theorem dX9_isLane_1 : decode mX9_isLane.2.1 1 = .ok (.ifCond .lt 12, 3) := by decide +kernel
theorem dX9_isLane_4 : decode mX9_isLane.2.1 4 = .ok (.iload_n 0, 1) := by decide +kernel
theorem dX9_isLane_5 : decode mX9_isLane.2.1 5 = .ok (.iconst 2, 1) := by decide +kernel
theorem dX9_isLane_6 : decode mX9_isLane.2.1 6 = .ok (.if_icmp .gt 7, 3) := by decide +kernel
theorem dX9_isLane_9 : decode mX9_isLane.2.1 9 = .ok (.iconst 1, 1) := by decide +kernel
theorem dX9_isLane_10 : decode mX9_isLane.2.1 10 = .ok (.goto 4, 3) := by decide +kernel
theorem dX9_isLane_13 : decode mX9_isLane.2.1 13 = .ok (.iconst 0, 1) := by decide +kernel
theorem dX9_isLane_14 : decode mX9_isLane.2.1 14 = .ok (.ireturn, 1) := by decide +kernel
theorem dX6_stand_0 : decode mX6_stand.2.1 0 = .ok (.aload_n 0, 1) := by decide +kernel
theorem dX6_stand_1 : decode mX6_stand.2.1 1 = .ok (.iload_n 1, 1) := by decide +kernel
theorem dX6_stand_2 : decode mX6_stand.2.1 2 = .ok (.putfield 29, 3) := by decide +kernel
theorem dX6_stand_5 : decode mX6_stand.2.1 5 = .ok (.aload_n 0, 1) := by decide +kernel
theorem dX6_stand_6 : decode mX6_stand.2.1 6 = .ok (.iload_n 2, 1) := by decide +kernel
theorem dX6_stand_7 : decode mX6_stand.2.1 7 = .ok (.putfield 21, 3) := by decide +kernel
theorem dX6_stand_10 : decode mX6_stand.2.1 10 = .ok (.aload_n 0, 1) := by decide +kernel
theorem dX6_stand_11 : decode mX6_stand.2.1 11 = .ok (.getfield 17, 3) := by decide +kernel
theorem dX6_stand_14 : decode mX6_stand.2.1 14 = .ok (.iconst (-1), 1) := by decide +kernel
theorem dX6_stand_15 : decode mX6_stand.2.1 15 = .ok (.invokestatic 32, 3) := by decide +kernel
theorem dX6_stand_18 : decode mX6_stand.2.1 18 = .ok (.return_, 1) := by decide +kernel
theorem dX9_shelf_0 : decode mX9_shelf.2.1 0 = .ok (.iload_n 1, 1) := by decide +kernel
theorem dX9_shelf_1 : decode mX9_shelf.2.1 1 = .ok (.invokestatic 318, 3) := by decide +kernel
theorem dX9_shelf_4 : decode mX9_shelf.2.1 4 = .ok (.ifCond .eq 16, 3) := by decide +kernel
theorem dX9_shelf_7 : decode mX9_shelf.2.1 7 = .ok (.iload_n 2, 1) := by decide +kernel
theorem dX9_shelf_8 : decode mX9_shelf.2.1 8 = .ok (.invokestatic 321, 3) := by decide +kernel
theorem dX9_shelf_11 : decode mX9_shelf.2.1 11 = .ok (.ifCond .eq 9, 3) := by decide +kernel
theorem dX9_shelf_14 : decode mX9_shelf.2.1 14 = .ok (.iload_n 3, 1) := by decide +kernel
theorem dX9_shelf_15 : decode mX9_shelf.2.1 15 = .ok (.bipush 8, 2) := by decide +kernel
theorem dX9_shelf_17 : decode mX9_shelf.2.1 17 = .ok (.if_icmp .le 5, 3) := by decide +kernel
theorem dX9_shelf_20 : decode mX9_shelf.2.1 20 = .ok (.iconst (-1), 1) := by decide +kernel
theorem dX9_shelf_21 : decode mX9_shelf.2.1 21 = .ok (.ireturn, 1) := by decide +kernel
theorem dX9_shelf_22 : decode mX9_shelf.2.1 22 = .ok (.iload_n 3, 1) := by decide +kernel
theorem dX9_shelf_23 : decode mX9_shelf.2.1 23 = .ok (.ifCond .ge 6, 3) := by decide +kernel
theorem dX9_shelf_26 : decode mX9_shelf.2.1 26 = .ok (.bipush (-16), 2) := by decide +kernel
theorem dX9_shelf_28 : decode mX9_shelf.2.1 28 = .ok (.ireturn, 1) := by decide +kernel
theorem dX9_shelf_29 : decode mX9_shelf.2.1 29 = .ok (.aload_n 0, 1) := by decide +kernel
theorem dX9_shelf_30 : decode mX9_shelf.2.1 30 = .ok (.getfield 42, 3) := by decide +kernel
theorem dX9_shelf_33 : decode mX9_shelf.2.1 33 = .ok (.iload_n 1, 1) := by decide +kernel
theorem dX9_shelf_34 : decode mX9_shelf.2.1 34 = .ok (.aaload, 1) := by decide +kernel
theorem dX9_shelf_35 : decode mX9_shelf.2.1 35 = .ok (.iload_n 2, 1) := by decide +kernel
theorem dX9_shelf_36 : decode mX9_shelf.2.1 36 = .ok (.iload_n 3, 1) := by decide +kernel
theorem dX9_shelf_37 : decode mX9_shelf.2.1 37 = .ok (.invokevirtual 324, 3) := by decide +kernel
theorem dX9_shelf_40 : decode mX9_shelf.2.1 40 = .ok (.iconst 1, 1) := by decide +kernel
theorem dX9_shelf_41 : decode mX9_shelf.2.1 41 = .ok (.ireturn, 1) := by decide +kernel
theorem dX6_hasCell_0 : decode mX6_hasCell.2.1 0 = .ok (.iload_n 1, 1) := by decide +kernel
theorem dX6_hasCell_1 : decode mX6_hasCell.2.1 1 = .ok (.ifCond .lt 15, 3) := by decide +kernel
theorem dX6_hasCell_4 : decode mX6_hasCell.2.1 4 = .ok (.iload_n 1, 1) := by decide +kernel
theorem dX6_hasCell_5 : decode mX6_hasCell.2.1 5 = .ok (.aload_n 0, 1) := by decide +kernel
theorem dX6_hasCell_6 : decode mX6_hasCell.2.1 6 = .ok (.getfield 21, 3) := by decide +kernel
theorem dX6_hasCell_9 : decode mX6_hasCell.2.1 9 = .ok (.if_icmp .ge 7, 3) := by decide +kernel
theorem dX6_hasCell_12 : decode mX6_hasCell.2.1 12 = .ok (.iconst 1, 1) := by decide +kernel
theorem dX6_hasCell_13 : decode mX6_hasCell.2.1 13 = .ok (.goto 4, 3) := by decide +kernel
theorem dX6_hasCell_16 : decode mX6_hasCell.2.1 16 = .ok (.iconst 0, 1) := by decide +kernel
theorem dX6_hasCell_17 : decode mX6_hasCell.2.1 17 = .ok (.ireturn, 1) := by decide +kernel
theorem dX6_faultOfLaying_0 : decode mX6_faultOfLaying.2.1 0 = .ok (.aload_n 0, 1) := by decide +kernel
theorem dX6_faultOfLaying_1 : decode mX6_faultOfLaying.2.1 1 = .ok (.getfield 21, 3) := by decide +kernel
theorem dX6_faultOfLaying_4 : decode mX6_faultOfLaying.2.1 4 = .ok (.iconst (-1), 1) := by decide +kernel
theorem dX6_faultOfLaying_5 : decode mX6_faultOfLaying.2.1 5 = .ok (.if_icmp .ne 5, 3) := by decide +kernel
theorem dX6_faultOfLaying_8 : decode mX6_faultOfLaying.2.1 8 = .ok (.iconst 1, 1) := by decide +kernel
theorem dX6_faultOfLaying_9 : decode mX6_faultOfLaying.2.1 9 = .ok (.ireturn, 1) := by decide +kernel
theorem dX6_faultOfLaying_10 : decode mX6_faultOfLaying.2.1 10 = .ok (.aload_n 0, 1) := by decide +kernel
theorem dX6_faultOfLaying_11 : decode mX6_faultOfLaying.2.1 11 = .ok (.iload_n 1, 1) := by decide +kernel
theorem dX6_faultOfLaying_12 : decode mX6_faultOfLaying.2.1 12 = .ok (.invokevirtual 38, 3) := by decide +kernel
theorem dX6_faultOfLaying_15 : decode mX6_faultOfLaying.2.1 15 = .ok (.ifCond .ne 5, 3) := by decide +kernel
theorem dX6_faultOfLaying_18 : decode mX6_faultOfLaying.2.1 18 = .ok (.iconst 3, 1) := by decide +kernel
theorem dX6_faultOfLaying_19 : decode mX6_faultOfLaying.2.1 19 = .ok (.ireturn, 1) := by decide +kernel
theorem dX6_faultOfLaying_20 : decode mX6_faultOfLaying.2.1 20 = .ok (.aload_n 0, 1) := by decide +kernel
theorem dX6_faultOfLaying_21 : decode mX6_faultOfLaying.2.1 21 = .ok (.getfield 29, 3) := by decide +kernel
theorem dX6_faultOfLaying_24 : decode mX6_faultOfLaying.2.1 24 = .ok (.iconst 2, 1) := by decide +kernel
theorem dX6_faultOfLaying_25 : decode mX6_faultOfLaying.2.1 25 = .ok (.if_icmp .eq 15, 3) := by decide +kernel
theorem dX6_faultOfLaying_28 : decode mX6_faultOfLaying.2.1 28 = .ok (.aload_n 0, 1) := by decide +kernel
theorem dX6_faultOfLaying_29 : decode mX6_faultOfLaying.2.1 29 = .ok (.getfield 29, 3) := by decide +kernel
theorem dX6_faultOfLaying_32 : decode mX6_faultOfLaying.2.1 32 = .ok (.iload_n 2, 1) := by decide +kernel
theorem dX6_faultOfLaying_33 : decode mX6_faultOfLaying.2.1 33 = .ok (.if_icmp .eq 7, 3) := by decide +kernel
theorem dX6_faultOfLaying_36 : decode mX6_faultOfLaying.2.1 36 = .ok (.iconst 4, 1) := by decide +kernel
theorem dX6_faultOfLaying_37 : decode mX6_faultOfLaying.2.1 37 = .ok (.goto 4, 3) := by decide +kernel
theorem dX6_faultOfLaying_40 : decode mX6_faultOfLaying.2.1 40 = .ok (.iconst 0, 1) := by decide +kernel
theorem dX6_faultOfLaying_41 : decode mX6_faultOfLaying.2.1 41 = .ok (.ireturn, 1) := by decide +kernel
theorem dX6_put_0 : decode mX6_put.2.1 0 = .ok (.aload_n 0, 1) := by decide +kernel
theorem dX6_put_1 : decode mX6_put.2.1 1 = .ok (.iload_n 1, 1) := by decide +kernel
theorem dX6_put_2 : decode mX6_put.2.1 2 = .ok (.invokevirtual 38, 3) := by decide +kernel
theorem dX6_put_5 : decode mX6_put.2.1 5 = .ok (.ifCond .ne 4, 3) := by decide +kernel
theorem dX6_put_8 : decode mX6_put.2.1 8 = .ok (.return_, 1) := by decide +kernel
theorem dX6_put_9 : decode mX6_put.2.1 9 = .ok (.aload_n 0, 1) := by decide +kernel
theorem dX6_put_10 : decode mX6_put.2.1 10 = .ok (.getfield 11, 3) := by decide +kernel
theorem dX6_put_13 : decode mX6_put.2.1 13 = .ok (.iload_n 1, 1) := by decide +kernel
theorem dX6_put_14 : decode mX6_put.2.1 14 = .ok (.aaload, 1) := by decide +kernel
theorem dX6_put_15 : decode mX6_put.2.1 15 = .ok (.ifnonnull 21, 3) := by decide +kernel
theorem dX6_put_18 : decode mX6_put.2.1 18 = .ok (.aload_n 0, 1) := by decide +kernel
theorem dX6_put_19 : decode mX6_put.2.1 19 = .ok (.getfield 11, 3) := by decide +kernel
theorem dX6_put_22 : decode mX6_put.2.1 22 = .ok (.iload_n 1, 1) := by decide +kernel
theorem dX6_put_23 : decode mX6_put.2.1 23 = .ok (.new 9, 3) := by decide +kernel
theorem dX6_put_26 : decode mX6_put.2.1 26 = .ok (.dup, 1) := by decide +kernel
theorem dX6_put_27 : decode mX6_put.2.1 27 = .ok (.aload_n 0, 1) := by decide +kernel
theorem dX6_put_28 : decode mX6_put.2.1 28 = .ok (.getfield 25, 3) := by decide +kernel
theorem dX6_put_31 : decode mX6_put.2.1 31 = .ok (.iconst 4, 1) := by decide +kernel
theorem dX6_put_32 : decode mX6_put.2.1 32 = .ok (.invokespecial 42, 3) := by decide +kernel
theorem dX6_put_35 : decode mX6_put.2.1 35 = .ok (.aastore, 1) := by decide +kernel
theorem dX6_put_36 : decode mX6_put.2.1 36 = .ok (.aload_n 0, 1) := by decide +kernel
theorem dX6_put_37 : decode mX6_put.2.1 37 = .ok (.getfield 11, 3) := by decide +kernel
theorem dX6_put_40 : decode mX6_put.2.1 40 = .ok (.iload_n 1, 1) := by decide +kernel
theorem dX6_put_41 : decode mX6_put.2.1 41 = .ok (.aaload, 1) := by decide +kernel
theorem dX6_put_42 : decode mX6_put.2.1 42 = .ok (.aload_n 2, 1) := by decide +kernel
theorem dX6_put_43 : decode mX6_put.2.1 43 = .ok (.invokevirtual 45, 3) := by decide +kernel
theorem dX6_put_46 : decode mX6_put.2.1 46 = .ok (.aload_n 0, 1) := by decide +kernel
theorem dX6_put_47 : decode mX6_put.2.1 47 = .ok (.getfield 17, 3) := by decide +kernel
theorem dX6_put_50 : decode mX6_put.2.1 50 = .ok (.iload_n 1, 1) := by decide +kernel
theorem dX6_put_51 : decode mX6_put.2.1 51 = .ok (.iload_n 3, 1) := by decide +kernel
theorem dX6_put_52 : decode mX6_put.2.1 52 = .ok (.iastore, 1) := by decide +kernel
theorem dX6_put_53 : decode mX6_put.2.1 53 = .ok (.return_, 1) := by decide +kernel
theorem dX9_lay_0 : decode mX9_lay.2.1 0 = .ok (.iload_n 1, 1) := by decide +kernel
theorem dX9_lay_1 : decode mX9_lay.2.1 1 = .ok (.invokestatic 318, 3) := by decide +kernel
theorem dX9_lay_4 : decode mX9_lay.2.1 4 = .ok (.ifCond .eq 10, 3) := by decide +kernel
theorem dX9_lay_7 : decode mX9_lay.2.1 7 = .ok (.iload_n 3, 1) := by decide +kernel
theorem dX9_lay_8 : decode mX9_lay.2.1 8 = .ok (.invokestatic 168, 3) := by decide +kernel
theorem dX9_lay_11 : decode mX9_lay.2.1 11 = .ok (.ifCond .ne 5, 3) := by decide +kernel
theorem dX9_lay_14 : decode mX9_lay.2.1 14 = .ok (.iconst (-1), 1) := by decide +kernel
theorem dX9_lay_15 : decode mX9_lay.2.1 15 = .ok (.ireturn, 1) := by decide +kernel
theorem dX9_lay_16 : decode mX9_lay.2.1 16 = .ok (.aload_n 0, 1) := by decide +kernel
theorem dX9_lay_17 : decode mX9_lay.2.1 17 = .ok (.iload_n 3, 1) := by decide +kernel
theorem dX9_lay_18 : decode mX9_lay.2.1 18 = .ok (.invokevirtual 171, 3) := by decide +kernel
theorem dX9_lay_21 : decode mX9_lay.2.1 21 = .ok (.astore 4, 2) := by decide +kernel
theorem dX9_lay_23 : decode mX9_lay.2.1 23 = .ok (.aload 4, 2) := by decide +kernel
theorem dX9_lay_25 : decode mX9_lay.2.1 25 = .ok (.ifnonnull 6, 3) := by decide +kernel
theorem dX9_lay_28 : decode mX9_lay.2.1 28 = .ok (.bipush (-2), 2) := by decide +kernel
theorem dX9_lay_30 : decode mX9_lay.2.1 30 = .ok (.ireturn, 1) := by decide +kernel
theorem dX9_lay_31 : decode mX9_lay.2.1 31 = .ok (.iload_n 3, 1) := by decide +kernel
theorem dX9_lay_32 : decode mX9_lay.2.1 32 = .ok (.ifCond .ne 7, 3) := by decide +kernel
theorem dX9_lay_35 : decode mX9_lay.2.1 35 = .ok (.iconst 0, 1) := by decide +kernel
theorem dX9_lay_36 : decode mX9_lay.2.1 36 = .ok (.goto 4, 3) := by decide +kernel
theorem dX9_lay_39 : decode mX9_lay.2.1 39 = .ok (.iconst 1, 1) := by decide +kernel
theorem dX9_lay_40 : decode mX9_lay.2.1 40 = .ok (.istore 5, 2) := by decide +kernel
theorem dX9_lay_42 : decode mX9_lay.2.1 42 = .ok (.aload_n 0, 1) := by decide +kernel
theorem dX9_lay_43 : decode mX9_lay.2.1 43 = .ok (.getfield 42, 3) := by decide +kernel
theorem dX9_lay_46 : decode mX9_lay.2.1 46 = .ok (.iload_n 1, 1) := by decide +kernel
theorem dX9_lay_47 : decode mX9_lay.2.1 47 = .ok (.aaload, 1) := by decide +kernel
theorem dX9_lay_48 : decode mX9_lay.2.1 48 = .ok (.iload_n 2, 1) := by decide +kernel
theorem dX9_lay_49 : decode mX9_lay.2.1 49 = .ok (.iload 5, 2) := by decide +kernel
theorem dX9_lay_51 : decode mX9_lay.2.1 51 = .ok (.invokevirtual 327, 3) := by decide +kernel
theorem dX9_lay_54 : decode mX9_lay.2.1 54 = .ok (.istore 6, 2) := by decide +kernel
theorem dX9_lay_56 : decode mX9_lay.2.1 56 = .ok (.iload 6, 2) := by decide +kernel
theorem dX9_lay_58 : decode mX9_lay.2.1 58 = .ok (.ifCond .eq 9, 3) := by decide +kernel
theorem dX9_lay_61 : decode mX9_lay.2.1 61 = .ok (.bipush (-10), 2) := by decide +kernel
theorem dX9_lay_63 : decode mX9_lay.2.1 63 = .ok (.iload 6, 2) := by decide +kernel
theorem dX9_lay_65 : decode mX9_lay.2.1 65 = .ok (.isub, 1) := by decide +kernel
theorem dX9_lay_66 : decode mX9_lay.2.1 66 = .ok (.ireturn, 1) := by decide +kernel
theorem dX9_lay_67 : decode mX9_lay.2.1 67 = .ok (.aload_n 0, 1) := by decide +kernel
theorem dX9_lay_68 : decode mX9_lay.2.1 68 = .ok (.getfield 42, 3) := by decide +kernel
theorem dX9_lay_71 : decode mX9_lay.2.1 71 = .ok (.iload_n 1, 1) := by decide +kernel
theorem dX9_lay_72 : decode mX9_lay.2.1 72 = .ok (.aaload, 1) := by decide +kernel
theorem dX9_lay_73 : decode mX9_lay.2.1 73 = .ok (.iload_n 2, 1) := by decide +kernel
theorem dX9_lay_74 : decode mX9_lay.2.1 74 = .ok (.aload 4, 2) := by decide +kernel
theorem dX9_lay_76 : decode mX9_lay.2.1 76 = .ok (.iload 5, 2) := by decide +kernel
theorem dX9_lay_78 : decode mX9_lay.2.1 78 = .ok (.invokevirtual 330, 3) := by decide +kernel
theorem dX9_lay_81 : decode mX9_lay.2.1 81 = .ok (.iconst 1, 1) := by decide +kernel
theorem dX9_lay_82 : decode mX9_lay.2.1 82 = .ok (.ireturn, 1) := by decide +kernel
theorem dX6_faultOfTaking_0 : decode mX6_faultOfTaking.2.1 0 = .ok (.aload_n 0, 1) := by decide +kernel
theorem dX6_faultOfTaking_1 : decode mX6_faultOfTaking.2.1 1 = .ok (.getfield 21, 3) := by decide +kernel
theorem dX6_faultOfTaking_4 : decode mX6_faultOfTaking.2.1 4 = .ok (.iconst (-1), 1) := by decide +kernel
theorem dX6_faultOfTaking_5 : decode mX6_faultOfTaking.2.1 5 = .ok (.if_icmp .ne 5, 3) := by decide +kernel
theorem dX6_faultOfTaking_8 : decode mX6_faultOfTaking.2.1 8 = .ok (.iconst 1, 1) := by decide +kernel
theorem dX6_faultOfTaking_9 : decode mX6_faultOfTaking.2.1 9 = .ok (.ireturn, 1) := by decide +kernel
theorem dX6_faultOfTaking_10 : decode mX6_faultOfTaking.2.1 10 = .ok (.iload_n 1, 1) := by decide +kernel
theorem dX6_faultOfTaking_11 : decode mX6_faultOfTaking.2.1 11 = .ok (.iconst 2, 1) := by decide +kernel
theorem dX6_faultOfTaking_12 : decode mX6_faultOfTaking.2.1 12 = .ok (.if_icmp .eq 13, 3) := by decide +kernel
theorem dX6_faultOfTaking_15 : decode mX6_faultOfTaking.2.1 15 = .ok (.iload_n 1, 1) := by decide +kernel
theorem dX6_faultOfTaking_16 : decode mX6_faultOfTaking.2.1 16 = .ok (.aload_n 0, 1) := by decide +kernel
theorem dX6_faultOfTaking_17 : decode mX6_faultOfTaking.2.1 17 = .ok (.getfield 29, 3) := by decide +kernel
theorem dX6_faultOfTaking_20 : decode mX6_faultOfTaking.2.1 20 = .ok (.if_icmp .eq 5, 3) := by decide +kernel
theorem dX6_faultOfTaking_23 : decode mX6_faultOfTaking.2.1 23 = .ok (.iconst 2, 1) := by decide +kernel
theorem dX6_faultOfTaking_24 : decode mX6_faultOfTaking.2.1 24 = .ok (.ireturn, 1) := by decide +kernel
theorem dX6_faultOfTaking_25 : decode mX6_faultOfTaking.2.1 25 = .ok (.aload_n 0, 1) := by decide +kernel
theorem dX6_faultOfTaking_26 : decode mX6_faultOfTaking.2.1 26 = .ok (.iload_n 2, 1) := by decide +kernel
theorem dX6_faultOfTaking_27 : decode mX6_faultOfTaking.2.1 27 = .ok (.invokevirtual 38, 3) := by decide +kernel
theorem dX6_faultOfTaking_30 : decode mX6_faultOfTaking.2.1 30 = .ok (.ifCond .ne 5, 3) := by decide +kernel
theorem dX6_faultOfTaking_33 : decode mX6_faultOfTaking.2.1 33 = .ok (.iconst 3, 1) := by decide +kernel
theorem dX6_faultOfTaking_34 : decode mX6_faultOfTaking.2.1 34 = .ok (.ireturn, 1) := by decide +kernel
theorem dX6_faultOfTaking_35 : decode mX6_faultOfTaking.2.1 35 = .ok (.aload_n 0, 1) := by decide +kernel
theorem dX6_faultOfTaking_36 : decode mX6_faultOfTaking.2.1 36 = .ok (.getfield 17, 3) := by decide +kernel
theorem dX6_faultOfTaking_39 : decode mX6_faultOfTaking.2.1 39 = .ok (.iload_n 2, 1) := by decide +kernel
theorem dX6_faultOfTaking_40 : decode mX6_faultOfTaking.2.1 40 = .ok (.iaload, 1) := by decide +kernel
theorem dX6_faultOfTaking_41 : decode mX6_faultOfTaking.2.1 41 = .ok (.iconst (-1), 1) := by decide +kernel
theorem dX6_faultOfTaking_42 : decode mX6_faultOfTaking.2.1 42 = .ok (.if_icmp .eq 12, 3) := by decide +kernel
theorem dX6_faultOfTaking_45 : decode mX6_faultOfTaking.2.1 45 = .ok (.aload_n 0, 1) := by decide +kernel
theorem dX6_faultOfTaking_46 : decode mX6_faultOfTaking.2.1 46 = .ok (.getfield 11, 3) := by decide +kernel
theorem dX6_faultOfTaking_49 : decode mX6_faultOfTaking.2.1 49 = .ok (.iload_n 2, 1) := by decide +kernel
theorem dX6_faultOfTaking_50 : decode mX6_faultOfTaking.2.1 50 = .ok (.aaload, 1) := by decide +kernel
theorem dX6_faultOfTaking_51 : decode mX6_faultOfTaking.2.1 51 = .ok (.ifnonnull 7, 3) := by decide +kernel
theorem dX6_faultOfTaking_54 : decode mX6_faultOfTaking.2.1 54 = .ok (.iconst 5, 1) := by decide +kernel
theorem dX6_faultOfTaking_55 : decode mX6_faultOfTaking.2.1 55 = .ok (.goto 4, 3) := by decide +kernel
theorem dX6_faultOfTaking_58 : decode mX6_faultOfTaking.2.1 58 = .ok (.iconst 0, 1) := by decide +kernel
theorem dX6_faultOfTaking_59 : decode mX6_faultOfTaking.2.1 59 = .ok (.ireturn, 1) := by decide +kernel
theorem dX9_take_0 : decode mX9_take.2.1 0 = .ok (.iload_n 1, 1) := by decide +kernel
theorem dX9_take_1 : decode mX9_take.2.1 1 = .ok (.invokestatic 318, 3) := by decide +kernel
theorem dX9_take_4 : decode mX9_take.2.1 4 = .ok (.ifCond .eq 10, 3) := by decide +kernel
theorem dX9_take_7 : decode mX9_take.2.1 7 = .ok (.iload_n 2, 1) := by decide +kernel
theorem dX9_take_8 : decode mX9_take.2.1 8 = .ok (.invokestatic 321, 3) := by decide +kernel
theorem dX9_take_11 : decode mX9_take.2.1 11 = .ok (.ifCond .ne 5, 3) := by decide +kernel
theorem dX9_take_14 : decode mX9_take.2.1 14 = .ok (.iconst (-1), 1) := by decide +kernel
theorem dX9_take_15 : decode mX9_take.2.1 15 = .ok (.ireturn, 1) := by decide +kernel
theorem dX9_take_16 : decode mX9_take.2.1 16 = .ok (.aload_n 0, 1) := by decide +kernel
theorem dX9_take_17 : decode mX9_take.2.1 17 = .ok (.getfield 42, 3) := by decide +kernel
theorem dX9_take_20 : decode mX9_take.2.1 20 = .ok (.iload_n 1, 1) := by decide +kernel
theorem dX9_take_21 : decode mX9_take.2.1 21 = .ok (.aaload, 1) := by decide +kernel
theorem dX9_take_22 : decode mX9_take.2.1 22 = .ok (.iload_n 2, 1) := by decide +kernel
theorem dX9_take_23 : decode mX9_take.2.1 23 = .ok (.iload_n 3, 1) := by decide +kernel
theorem dX9_take_24 : decode mX9_take.2.1 24 = .ok (.invokevirtual 333, 3) := by decide +kernel
theorem dX9_take_27 : decode mX9_take.2.1 27 = .ok (.istore 4, 2) := by decide +kernel
theorem dX9_take_29 : decode mX9_take.2.1 29 = .ok (.iload 4, 2) := by decide +kernel
theorem dX9_take_31 : decode mX9_take.2.1 31 = .ok (.ifCond .eq 9, 3) := by decide +kernel
theorem dX9_take_34 : decode mX9_take.2.1 34 = .ok (.bipush (-10), 2) := by decide +kernel
theorem dX9_take_36 : decode mX9_take.2.1 36 = .ok (.iload 4, 2) := by decide +kernel
theorem dX9_take_38 : decode mX9_take.2.1 38 = .ok (.isub, 1) := by decide +kernel
theorem dX9_take_39 : decode mX9_take.2.1 39 = .ok (.ireturn, 1) := by decide +kernel
theorem dX9_take_40 : decode mX9_take.2.1 40 = .ok (.aload_n 0, 1) := by decide +kernel
theorem dX9_take_41 : decode mX9_take.2.1 41 = .ok (.getfield 28, 3) := by decide +kernel
theorem dX9_take_44 : decode mX9_take.2.1 44 = .ok (.getfield 110, 3) := by decide +kernel
theorem dX9_take_47 : decode mX9_take.2.1 47 = .ok (.aload_n 0, 1) := by decide +kernel
theorem dX9_take_48 : decode mX9_take.2.1 48 = .ok (.getfield 42, 3) := by decide +kernel
theorem dX9_take_51 : decode mX9_take.2.1 51 = .ok (.iload_n 1, 1) := by decide +kernel
theorem dX9_take_52 : decode mX9_take.2.1 52 = .ok (.aaload, 1) := by decide +kernel
theorem dX9_take_53 : decode mX9_take.2.1 53 = .ok (.getfield 336, 3) := by decide +kernel
theorem dX9_take_56 : decode mX9_take.2.1 56 = .ok (.iload_n 3, 1) := by decide +kernel
theorem dX9_take_57 : decode mX9_take.2.1 57 = .ok (.aaload, 1) := by decide +kernel
theorem dX9_take_58 : decode mX9_take.2.1 58 = .ok (.invokevirtual 294, 3) := by decide +kernel
theorem dX9_take_61 : decode mX9_take.2.1 61 = .ok (.aload_n 0, 1) := by decide +kernel
theorem dX9_take_62 : decode mX9_take.2.1 62 = .ok (.invokevirtual 117, 3) := by decide +kernel
theorem dX9_take_65 : decode mX9_take.2.1 65 = .ok (.aload_n 0, 1) := by decide +kernel
theorem dX9_take_66 : decode mX9_take.2.1 66 = .ok (.getfield 28, 3) := by decide +kernel
theorem dX9_take_69 : decode mX9_take.2.1 69 = .ok (.getfield 110, 3) := by decide +kernel
theorem dX9_take_72 : decode mX9_take.2.1 72 = .ok (.getfield 131, 3) := by decide +kernel
theorem dX9_take_75 : decode mX9_take.2.1 75 = .ok (.ireturn, 1) := by decide +kernel
theorem dX9_kind_0 : decode mX9_kind.2.1 0 = .ok (.iload_n 1, 1) := by decide +kernel
theorem dX9_kind_1 : decode mX9_kind.2.1 1 = .ok (.invokestatic 318, 3) := by decide +kernel
theorem dX9_kind_4 : decode mX9_kind.2.1 4 = .ok (.ifCond .ne 5, 3) := by decide +kernel
theorem dX9_kind_7 : decode mX9_kind.2.1 7 = .ok (.iconst (-1), 1) := by decide +kernel
theorem dX9_kind_8 : decode mX9_kind.2.1 8 = .ok (.ireturn, 1) := by decide +kernel
theorem dX9_kind_9 : decode mX9_kind.2.1 9 = .ok (.aload_n 0, 1) := by decide +kernel
theorem dX9_kind_10 : decode mX9_kind.2.1 10 = .ok (.getfield 42, 3) := by decide +kernel
theorem dX9_kind_13 : decode mX9_kind.2.1 13 = .ok (.iload_n 1, 1) := by decide +kernel
theorem dX9_kind_14 : decode mX9_kind.2.1 14 = .ok (.aaload, 1) := by decide +kernel
theorem dX9_kind_15 : decode mX9_kind.2.1 15 = .ok (.iconst 2, 1) := by decide +kernel
theorem dX9_kind_16 : decode mX9_kind.2.1 16 = .ok (.iload_n 2, 1) := by decide +kernel
theorem dX9_kind_17 : decode mX9_kind.2.1 17 = .ok (.invokevirtual 333, 3) := by decide +kernel
theorem dX9_kind_20 : decode mX9_kind.2.1 20 = .ok (.istore_n 3, 1) := by decide +kernel
theorem dX9_kind_21 : decode mX9_kind.2.1 21 = .ok (.iload_n 3, 1) := by decide +kernel
theorem dX9_kind_22 : decode mX9_kind.2.1 22 = .ok (.ifCond .eq 10, 3) := by decide +kernel
theorem dX9_kind_25 : decode mX9_kind.2.1 25 = .ok (.bipush (-10), 2) := by decide +kernel
theorem dX9_kind_27 : decode mX9_kind.2.1 27 = .ok (.iload_n 3, 1) := by decide +kernel
theorem dX9_kind_28 : decode mX9_kind.2.1 28 = .ok (.isub, 1) := by decide +kernel
theorem dX9_kind_29 : decode mX9_kind.2.1 29 = .ok (.goto 14, 3) := by decide +kernel
theorem dX9_kind_32 : decode mX9_kind.2.1 32 = .ok (.aload_n 0, 1) := by decide +kernel
theorem dX9_kind_33 : decode mX9_kind.2.1 33 = .ok (.getfield 42, 3) := by decide +kernel
theorem dX9_kind_36 : decode mX9_kind.2.1 36 = .ok (.iload_n 1, 1) := by decide +kernel
theorem dX9_kind_37 : decode mX9_kind.2.1 37 = .ok (.aaload, 1) := by decide +kernel
theorem dX9_kind_38 : decode mX9_kind.2.1 38 = .ok (.getfield 340, 3) := by decide +kernel
theorem dX9_kind_41 : decode mX9_kind.2.1 41 = .ok (.iload_n 2, 1) := by decide +kernel
theorem dX9_kind_42 : decode mX9_kind.2.1 42 = .ok (.iaload, 1) := by decide +kernel
theorem dX9_kind_43 : decode mX9_kind.2.1 43 = .ok (.ireturn, 1) := by decide +kernel
