theorem d_Mo_thrown_0 : decode b_Mo_thrown 0 = .ok (.aload_n 0, 1) := by decide +kernel
theorem d_Mo_thrown_1 : decode b_Mo_thrown 1 = .ok (.getfield 72, 3) := by decide +kernel
theorem d_Mo_thrown_4 : decode b_Mo_thrown 4 = .ok (.ireturn, 1) := by decide +kernel
theorem d_Mo_make_0 : decode b_Mo_make 0 = .ok (.aload_n 0, 1) := by decide +kernel
theorem d_Mo_make_1 : decode b_Mo_make 1 = .ok (.getfield 76, 3) := by decide +kernel
theorem d_Mo_make_4 : decode b_Mo_make 4 = .ok (.bipush 40, 2) := by decide +kernel
theorem d_Mo_make_6 : decode b_Mo_make 6 = .ok (.if_icmp .ne 6, 3) := by decide +kernel
theorem d_Mo_make_9 : decode b_Mo_make 9 = .ok (.bipush (-2), 2) := by decide +kernel
theorem d_Mo_make_11 : decode b_Mo_make 11 = .ok (.ireturn, 1) := by decide +kernel
theorem d_Mo_make_12 : decode b_Mo_make 12 = .ok (.aload_n 0, 1) := by decide +kernel
theorem d_Mo_make_13 : decode b_Mo_make 13 = .ok (.getfield 9, 3) := by decide +kernel
theorem d_Mo_make_16 : decode b_Mo_make 16 = .ok (.aload_n 0, 1) := by decide +kernel
theorem d_Mo_make_17 : decode b_Mo_make 17 = .ok (.getfield 76, 3) := by decide +kernel
theorem d_Mo_make_20 : decode b_Mo_make 20 = .ok (.iload_n 1, 1) := by decide +kernel
theorem d_Mo_make_21 : decode b_Mo_make 21 = .ok (.iastore, 1) := by decide +kernel
theorem d_Mo_make_22 : decode b_Mo_make 22 = .ok (.aload_n 0, 1) := by decide +kernel
theorem d_Mo_make_23 : decode b_Mo_make 23 = .ok (.getfield 13, 3) := by decide +kernel
theorem d_Mo_make_26 : decode b_Mo_make 26 = .ok (.aload_n 0, 1) := by decide +kernel
theorem d_Mo_make_27 : decode b_Mo_make 27 = .ok (.getfield 76, 3) := by decide +kernel
theorem d_Mo_make_30 : decode b_Mo_make 30 = .ok (.iconst 0, 1) := by decide +kernel
theorem d_Mo_make_31 : decode b_Mo_make 31 = .ok (.iastore, 1) := by decide +kernel
theorem d_Mo_make_32 : decode b_Mo_make 32 = .ok (.aload_n 0, 1) := by decide +kernel
theorem d_Mo_make_33 : decode b_Mo_make 33 = .ok (.getfield 16, 3) := by decide +kernel
theorem d_Mo_make_36 : decode b_Mo_make 36 = .ok (.aload_n 0, 1) := by decide +kernel
theorem d_Mo_make_37 : decode b_Mo_make 37 = .ok (.getfield 76, 3) := by decide +kernel
theorem d_Mo_make_40 : decode b_Mo_make 40 = .ok (.lload_n 2, 1) := by decide +kernel
theorem d_Mo_make_41 : decode b_Mo_make 41 = .ok (.lastore, 1) := by decide +kernel
theorem d_Mo_make_42 : decode b_Mo_make 42 = .ok (.aload_n 0, 1) := by decide +kernel
theorem d_Mo_make_43 : decode b_Mo_make 43 = .ok (.getfield 20, 3) := by decide +kernel
theorem d_Mo_make_46 : decode b_Mo_make 46 = .ok (.aload_n 0, 1) := by decide +kernel
theorem d_Mo_make_47 : decode b_Mo_make 47 = .ok (.getfield 76, 3) := by decide +kernel
theorem d_Mo_make_50 : decode b_Mo_make 50 = .ok (.lconst 0, 1) := by decide +kernel
theorem d_Mo_make_51 : decode b_Mo_make 51 = .ok (.lastore, 1) := by decide +kernel
theorem d_Mo_make_52 : decode b_Mo_make 52 = .ok (.aload_n 0, 1) := by decide +kernel
theorem d_Mo_make_53 : decode b_Mo_make 53 = .ok (.getfield 23, 3) := by decide +kernel
theorem d_Mo_make_56 : decode b_Mo_make 56 = .ok (.aload_n 0, 1) := by decide +kernel
theorem d_Mo_make_57 : decode b_Mo_make 57 = .ok (.getfield 76, 3) := by decide +kernel
theorem d_Mo_make_60 : decode b_Mo_make 60 = .ok (.iconst 0, 1) := by decide +kernel
theorem d_Mo_make_61 : decode b_Mo_make 61 = .ok (.iastore, 1) := by decide +kernel
theorem d_Mo_make_62 : decode b_Mo_make 62 = .ok (.aload_n 0, 1) := by decide +kernel
theorem d_Mo_make_63 : decode b_Mo_make 63 = .ok (.getfield 26, 3) := by decide +kernel
theorem d_Mo_make_66 : decode b_Mo_make 66 = .ok (.aload_n 0, 1) := by decide +kernel
theorem d_Mo_make_67 : decode b_Mo_make 67 = .ok (.getfield 76, 3) := by decide +kernel
theorem d_Mo_make_70 : decode b_Mo_make 70 = .ok (.iconst 0, 1) := by decide +kernel
theorem d_Mo_make_71 : decode b_Mo_make 71 = .ok (.iastore, 1) := by decide +kernel
theorem d_Mo_make_72 : decode b_Mo_make 72 = .ok (.aload_n 0, 1) := by decide +kernel
theorem d_Mo_make_73 : decode b_Mo_make 73 = .ok (.getfield 29, 3) := by decide +kernel
theorem d_Mo_make_76 : decode b_Mo_make 76 = .ok (.aload_n 0, 1) := by decide +kernel
theorem d_Mo_make_77 : decode b_Mo_make 77 = .ok (.getfield 76, 3) := by decide +kernel
theorem d_Mo_make_80 : decode b_Mo_make 80 = .ok (.iconst (-1), 1) := by decide +kernel
theorem d_Mo_make_81 : decode b_Mo_make 81 = .ok (.iastore, 1) := by decide +kernel
theorem d_Mo_make_82 : decode b_Mo_make 82 = .ok (.iconst 0, 1) := by decide +kernel
theorem d_Mo_make_83 : decode b_Mo_make 83 = .ok (.istore 4, 2) := by decide +kernel
theorem d_Mo_make_85 : decode b_Mo_make 85 = .ok (.iload 4, 2) := by decide +kernel
theorem d_Mo_make_87 : decode b_Mo_make 87 = .ok (.iconst 4, 1) := by decide +kernel
theorem d_Mo_make_88 : decode b_Mo_make 88 = .ok (.if_icmp .ge 24, 3) := by decide +kernel
theorem d_Mo_make_91 : decode b_Mo_make 91 = .ok (.aload_n 0, 1) := by decide +kernel
theorem d_Mo_make_92 : decode b_Mo_make 92 = .ok (.getfield 32, 3) := by decide +kernel
theorem d_Mo_make_95 : decode b_Mo_make 95 = .ok (.iconst 4, 1) := by decide +kernel
theorem d_Mo_make_96 : decode b_Mo_make 96 = .ok (.aload_n 0, 1) := by decide +kernel
theorem d_Mo_make_97 : decode b_Mo_make 97 = .ok (.getfield 76, 3) := by decide +kernel
theorem d_Mo_make_100 : decode b_Mo_make 100 = .ok (.imul, 1) := by decide +kernel
theorem d_Mo_make_101 : decode b_Mo_make 101 = .ok (.iload 4, 2) := by decide +kernel
theorem d_Mo_make_103 : decode b_Mo_make 103 = .ok (.iadd, 1) := by decide +kernel
theorem d_Mo_make_104 : decode b_Mo_make 104 = .ok (.iconst (-1), 1) := by decide +kernel
theorem d_Mo_make_105 : decode b_Mo_make 105 = .ok (.iastore, 1) := by decide +kernel
theorem d_Mo_make_106 : decode b_Mo_make 106 = .ok (.iinc 4 1, 3) := by decide +kernel
theorem d_Mo_make_109 : decode b_Mo_make 109 = .ok (.goto (-24), 3) := by decide +kernel
theorem d_Mo_make_112 : decode b_Mo_make 112 = .ok (.aload_n 0, 1) := by decide +kernel
theorem d_Mo_make_113 : decode b_Mo_make 113 = .ok (.dup, 1) := by decide +kernel
theorem d_Mo_make_114 : decode b_Mo_make 114 = .ok (.getfield 76, 3) := by decide +kernel
theorem d_Mo_make_117 : decode b_Mo_make 117 = .ok (.iconst 1, 1) := by decide +kernel
theorem d_Mo_make_118 : decode b_Mo_make 118 = .ok (.iadd, 1) := by decide +kernel
theorem d_Mo_make_119 : decode b_Mo_make 119 = .ok (.putfield 76, 3) := by decide +kernel
theorem d_Mo_make_122 : decode b_Mo_make 122 = .ok (.aload_n 0, 1) := by decide +kernel
theorem d_Mo_make_123 : decode b_Mo_make 123 = .ok (.getfield 76, 3) := by decide +kernel
theorem d_Mo_make_126 : decode b_Mo_make 126 = .ok (.iconst 1, 1) := by decide +kernel
theorem d_Mo_make_127 : decode b_Mo_make 127 = .ok (.isub, 1) := by decide +kernel
theorem d_Mo_make_128 : decode b_Mo_make 128 = .ok (.ireturn, 1) := by decide +kernel
theorem d_Mo_tank_0 : decode b_Mo_tank 0 = .ok (.aload_n 0, 1) := by decide +kernel
theorem d_Mo_tank_1 : decode b_Mo_tank 1 = .ok (.iconst 0, 1) := by decide +kernel
theorem d_Mo_tank_2 : decode b_Mo_tank 2 = .ok (.putfield 72, 3) := by decide +kernel
theorem d_Mo_tank_5 : decode b_Mo_tank 5 = .ok (.lload_n 1, 1) := by decide +kernel
theorem d_Mo_tank_6 : decode b_Mo_tank 6 = .ok (.lconst 1, 1) := by decide +kernel
theorem d_Mo_tank_7 : decode b_Mo_tank 7 = .ok (.lcmp, 1) := by decide +kernel
theorem d_Mo_tank_8 : decode b_Mo_tank 8 = .ok (.ifCond .lt 11, 3) := by decide +kernel
theorem d_Mo_tank_11 : decode b_Mo_tank 11 = .ok (.lload_n 1, 1) := by decide +kernel
theorem d_Mo_tank_12 : decode b_Mo_tank 12 = .ok (.ldc2_w 79, 3) := by decide +kernel
theorem d_Mo_tank_15 : decode b_Mo_tank 15 = .ok (.lcmp, 1) := by decide +kernel
theorem d_Mo_tank_16 : decode b_Mo_tank 16 = .ok (.ifCond .le 7, 3) := by decide +kernel
theorem d_Mo_tank_19 : decode b_Mo_tank 19 = .ok (.iconst (-1), 1) := by decide +kernel
theorem d_Mo_tank_20 : decode b_Mo_tank 20 = .ok (.goto 9, 3) := by decide +kernel
theorem d_Mo_tank_23 : decode b_Mo_tank 23 = .ok (.aload_n 0, 1) := by decide +kernel
theorem d_Mo_tank_24 : decode b_Mo_tank 24 = .ok (.iconst 0, 1) := by decide +kernel
theorem d_Mo_tank_25 : decode b_Mo_tank 25 = .ok (.lload_n 1, 1) := by decide +kernel
theorem d_Mo_tank_26 : decode b_Mo_tank 26 = .ok (.invokevirtual 81, 3) := by decide +kernel
theorem d_Mo_tank_29 : decode b_Mo_tank 29 = .ok (.ireturn, 1) := by decide +kernel
theorem d_Mo_pump_0 : decode b_Mo_pump 0 = .ok (.aload_n 0, 1) := by decide +kernel
theorem d_Mo_pump_1 : decode b_Mo_pump 1 = .ok (.iconst 0, 1) := by decide +kernel
theorem d_Mo_pump_2 : decode b_Mo_pump 2 = .ok (.putfield 72, 3) := by decide +kernel
theorem d_Mo_pump_5 : decode b_Mo_pump 5 = .ok (.aload_n 0, 1) := by decide +kernel
theorem d_Mo_pump_6 : decode b_Mo_pump 6 = .ok (.iconst 1, 1) := by decide +kernel
theorem d_Mo_pump_7 : decode b_Mo_pump 7 = .ok (.lconst 0, 1) := by decide +kernel
theorem d_Mo_pump_8 : decode b_Mo_pump 8 = .ok (.invokevirtual 81, 3) := by decide +kernel
theorem d_Mo_pump_11 : decode b_Mo_pump 11 = .ok (.ireturn, 1) := by decide +kernel
theorem d_Mo_valve_0 : decode b_Mo_valve 0 = .ok (.aload_n 0, 1) := by decide +kernel
theorem d_Mo_valve_1 : decode b_Mo_valve 1 = .ok (.iconst 0, 1) := by decide +kernel
theorem d_Mo_valve_2 : decode b_Mo_valve 2 = .ok (.putfield 72, 3) := by decide +kernel
theorem d_Mo_valve_5 : decode b_Mo_valve 5 = .ok (.iload_n 1, 1) := by decide +kernel
theorem d_Mo_valve_6 : decode b_Mo_valve 6 = .ok (.ifCond .lt 9, 3) := by decide +kernel
theorem d_Mo_valve_9 : decode b_Mo_valve 9 = .ok (.iload_n 1, 1) := by decide +kernel
theorem d_Mo_valve_10 : decode b_Mo_valve 10 = .ok (.bipush 8, 2) := by decide +kernel
theorem d_Mo_valve_12 : decode b_Mo_valve 12 = .ok (.if_icmp .le 7, 3) := by decide +kernel
theorem d_Mo_valve_15 : decode b_Mo_valve 15 = .ok (.iconst (-1), 1) := by decide +kernel
theorem d_Mo_valve_16 : decode b_Mo_valve 16 = .ok (.goto 11, 3) := by decide +kernel
theorem d_Mo_valve_19 : decode b_Mo_valve 19 = .ok (.aload_n 0, 1) := by decide +kernel
theorem d_Mo_valve_20 : decode b_Mo_valve 20 = .ok (.iconst 2, 1) := by decide +kernel
theorem d_Mo_valve_21 : decode b_Mo_valve 21 = .ok (.iload_n 1, 1) := by decide +kernel
theorem d_Mo_valve_22 : decode b_Mo_valve 22 = .ok (.iadd, 1) := by decide +kernel
theorem d_Mo_valve_23 : decode b_Mo_valve 23 = .ok (.lconst 0, 1) := by decide +kernel
theorem d_Mo_valve_24 : decode b_Mo_valve 24 = .ok (.invokevirtual 81, 3) := by decide +kernel
theorem d_Mo_valve_27 : decode b_Mo_valve 27 = .ok (.ireturn, 1) := by decide +kernel
theorem d_Mo_isThing_0 : decode b_Mo_isThing 0 = .ok (.iload_n 1, 1) := by decide +kernel
theorem d_Mo_isThing_1 : decode b_Mo_isThing 1 = .ok (.ifCond .lt 15, 3) := by decide +kernel
theorem d_Mo_isThing_4 : decode b_Mo_isThing 4 = .ok (.iload_n 1, 1) := by decide +kernel
theorem d_Mo_isThing_5 : decode b_Mo_isThing 5 = .ok (.aload_n 0, 1) := by decide +kernel
theorem d_Mo_isThing_6 : decode b_Mo_isThing 6 = .ok (.getfield 76, 3) := by decide +kernel
theorem d_Mo_isThing_9 : decode b_Mo_isThing 9 = .ok (.if_icmp .ge 7, 3) := by decide +kernel
theorem d_Mo_isThing_12 : decode b_Mo_isThing 12 = .ok (.iconst 1, 1) := by decide +kernel
theorem d_Mo_isThing_13 : decode b_Mo_isThing 13 = .ok (.goto 4, 3) := by decide +kernel
theorem d_Mo_isThing_16 : decode b_Mo_isThing 16 = .ok (.iconst 0, 1) := by decide +kernel
theorem d_Mo_isThing_17 : decode b_Mo_isThing 17 = .ok (.ireturn, 1) := by decide +kernel
theorem d_Mo_isTank_0 : decode b_Mo_isTank 0 = .ok (.aload_n 0, 1) := by decide +kernel
theorem d_Mo_isTank_1 : decode b_Mo_isTank 1 = .ok (.iload_n 1, 1) := by decide +kernel
theorem d_Mo_isTank_2 : decode b_Mo_isTank 2 = .ok (.invokevirtual 85, 3) := by decide +kernel
theorem d_Mo_isTank_5 : decode b_Mo_isTank 5 = .ok (.ifCond .eq 16, 3) := by decide +kernel
theorem d_Mo_isTank_8 : decode b_Mo_isTank 8 = .ok (.aload_n 0, 1) := by decide +kernel
theorem d_Mo_isTank_9 : decode b_Mo_isTank 9 = .ok (.getfield 9, 3) := by decide +kernel
theorem d_Mo_isTank_12 : decode b_Mo_isTank 12 = .ok (.iload_n 1, 1) := by decide +kernel
theorem d_Mo_isTank_13 : decode b_Mo_isTank 13 = .ok (.iaload, 1) := by decide +kernel
theorem d_Mo_isTank_14 : decode b_Mo_isTank 14 = .ok (.ifCond .ne 7, 3) := by decide +kernel
theorem d_Mo_isTank_17 : decode b_Mo_isTank 17 = .ok (.iconst 1, 1) := by decide +kernel
theorem d_Mo_isTank_18 : decode b_Mo_isTank 18 = .ok (.goto 4, 3) := by decide +kernel
theorem d_Mo_isTank_21 : decode b_Mo_isTank 21 = .ok (.iconst 0, 1) := by decide +kernel
theorem d_Mo_isTank_22 : decode b_Mo_isTank 22 = .ok (.ireturn, 1) := by decide +kernel
theorem d_Mo_isValve_0 : decode b_Mo_isValve 0 = .ok (.aload_n 0, 1) := by decide +kernel
theorem d_Mo_isValve_1 : decode b_Mo_isValve 1 = .ok (.iload_n 1, 1) := by decide +kernel
theorem d_Mo_isValve_2 : decode b_Mo_isValve 2 = .ok (.invokevirtual 85, 3) := by decide +kernel
theorem d_Mo_isValve_5 : decode b_Mo_isValve 5 = .ok (.ifCond .eq 17, 3) := by decide +kernel
theorem d_Mo_isValve_8 : decode b_Mo_isValve 8 = .ok (.aload_n 0, 1) := by decide +kernel
theorem d_Mo_isValve_9 : decode b_Mo_isValve 9 = .ok (.getfield 9, 3) := by decide +kernel
theorem d_Mo_isValve_12 : decode b_Mo_isValve 12 = .ok (.iload_n 1, 1) := by decide +kernel
theorem d_Mo_isValve_13 : decode b_Mo_isValve 13 = .ok (.iaload, 1) := by decide +kernel
theorem d_Mo_isValve_14 : decode b_Mo_isValve 14 = .ok (.iconst 2, 1) := by decide +kernel
theorem d_Mo_isValve_15 : decode b_Mo_isValve 15 = .ok (.if_icmp .lt 7, 3) := by decide +kernel
theorem d_Mo_isValve_18 : decode b_Mo_isValve 18 = .ok (.iconst 1, 1) := by decide +kernel
theorem d_Mo_isValve_19 : decode b_Mo_isValve 19 = .ok (.goto 4, 3) := by decide +kernel
theorem d_Mo_isValve_22 : decode b_Mo_isValve 22 = .ok (.iconst 0, 1) := by decide +kernel
theorem d_Mo_isValve_23 : decode b_Mo_isValve 23 = .ok (.ireturn, 1) := by decide +kernel
theorem d_Mo_fits_0 : decode b_Mo_fits 0 = .ok (.iload_n 3, 1) := by decide +kernel
theorem d_Mo_fits_1 : decode b_Mo_fits 1 = .ok (.iconst (-1), 1) := by decide +kernel
theorem d_Mo_fits_2 : decode b_Mo_fits 2 = .ok (.if_icmp .eq 12, 3) := by decide +kernel
theorem d_Mo_fits_5 : decode b_Mo_fits 5 = .ok (.iload_n 3, 1) := by decide +kernel
theorem d_Mo_fits_6 : decode b_Mo_fits 6 = .ok (.ifCond .lt 41, 3) := by decide +kernel
theorem d_Mo_fits_9 : decode b_Mo_fits 9 = .ok (.iload_n 3, 1) := by decide +kernel
theorem d_Mo_fits_10 : decode b_Mo_fits 10 = .ok (.iload_n 2, 1) := by decide +kernel
theorem d_Mo_fits_11 : decode b_Mo_fits 11 = .ok (.if_icmp .ge 36, 3) := by decide +kernel
theorem d_Mo_fits_14 : decode b_Mo_fits 14 = .ok (.iload 4, 2) := by decide +kernel
theorem d_Mo_fits_16 : decode b_Mo_fits 16 = .ok (.iconst (-1), 1) := by decide +kernel
theorem d_Mo_fits_17 : decode b_Mo_fits 17 = .ok (.if_icmp .eq 14, 3) := by decide +kernel
theorem d_Mo_fits_20 : decode b_Mo_fits 20 = .ok (.iload 4, 2) := by decide +kernel
theorem d_Mo_fits_22 : decode b_Mo_fits 22 = .ok (.ifCond .lt 25, 3) := by decide +kernel
theorem d_Mo_fits_25 : decode b_Mo_fits 25 = .ok (.iload 4, 2) := by decide +kernel
theorem d_Mo_fits_27 : decode b_Mo_fits 27 = .ok (.iload_n 2, 1) := by decide +kernel
theorem d_Mo_fits_28 : decode b_Mo_fits 28 = .ok (.if_icmp .ge 19, 3) := by decide +kernel
theorem d_Mo_fits_31 : decode b_Mo_fits 31 = .ok (.lload 5, 2) := by decide +kernel
theorem d_Mo_fits_33 : decode b_Mo_fits 33 = .ok (.lconst 1, 1) := by decide +kernel
theorem d_Mo_fits_34 : decode b_Mo_fits 34 = .ok (.lcmp, 1) := by decide +kernel
theorem d_Mo_fits_35 : decode b_Mo_fits 35 = .ok (.ifCond .lt 12, 3) := by decide +kernel
theorem d_Mo_fits_38 : decode b_Mo_fits 38 = .ok (.lload 5, 2) := by decide +kernel
theorem d_Mo_fits_40 : decode b_Mo_fits 40 = .ok (.ldc2_w 89, 3) := by decide +kernel
theorem d_Mo_fits_43 : decode b_Mo_fits 43 = .ok (.lcmp, 1) := by decide +kernel
theorem d_Mo_fits_44 : decode b_Mo_fits 44 = .ok (.ifCond .le 5, 3) := by decide +kernel
theorem d_Mo_fits_47 : decode b_Mo_fits 47 = .ok (.iconst 0, 1) := by decide +kernel
theorem d_Mo_fits_48 : decode b_Mo_fits 48 = .ok (.ireturn, 1) := by decide +kernel
theorem d_Mo_fits_49 : decode b_Mo_fits 49 = .ok (.iload_n 3, 1) := by decide +kernel
theorem d_Mo_fits_50 : decode b_Mo_fits 50 = .ok (.iload 4, 2) := by decide +kernel
theorem d_Mo_fits_52 : decode b_Mo_fits 52 = .ok (.if_icmp .ne 7, 3) := by decide +kernel
theorem d_Mo_fits_55 : decode b_Mo_fits 55 = .ok (.iconst 1, 1) := by decide +kernel
theorem d_Mo_fits_56 : decode b_Mo_fits 56 = .ok (.goto 4, 3) := by decide +kernel
theorem d_Mo_fits_59 : decode b_Mo_fits 59 = .ok (.iconst 0, 1) := by decide +kernel
theorem d_Mo_fits_60 : decode b_Mo_fits 60 = .ok (.istore 7, 2) := by decide +kernel
theorem d_Mo_fits_62 : decode b_Mo_fits 62 = .ok (.iload_n 3, 1) := by decide +kernel
theorem d_Mo_fits_63 : decode b_Mo_fits 63 = .ok (.iconst (-1), 1) := by decide +kernel
theorem d_Mo_fits_64 : decode b_Mo_fits 64 = .ok (.if_icmp .eq 19, 3) := by decide +kernel
theorem d_Mo_fits_67 : decode b_Mo_fits 67 = .ok (.aload_n 1, 1) := by decide +kernel
theorem d_Mo_fits_68 : decode b_Mo_fits 68 = .ok (.iload_n 3, 1) := by decide +kernel
theorem d_Mo_fits_69 : decode b_Mo_fits 69 = .ok (.iaload, 1) := by decide +kernel
theorem d_Mo_fits_70 : decode b_Mo_fits 70 = .ok (.iload 7, 2) := by decide +kernel
theorem d_Mo_fits_72 : decode b_Mo_fits 72 = .ok (.iadd, 1) := by decide +kernel
theorem d_Mo_fits_73 : decode b_Mo_fits 73 = .ok (.getstatic 91, 3) := by decide +kernel
theorem d_Mo_fits_76 : decode b_Mo_fits 76 = .ok (.aload_n 0, 1) := by decide +kernel
theorem d_Mo_fits_77 : decode b_Mo_fits 77 = .ok (.iload_n 3, 1) := by decide +kernel
theorem d_Mo_fits_78 : decode b_Mo_fits 78 = .ok (.iaload, 1) := by decide +kernel
theorem d_Mo_fits_79 : decode b_Mo_fits 79 = .ok (.iaload, 1) := by decide +kernel
theorem d_Mo_fits_80 : decode b_Mo_fits 80 = .ok (.if_icmp .ge 31, 3) := by decide +kernel
theorem d_Mo_fits_83 : decode b_Mo_fits 83 = .ok (.iload 4, 2) := by decide +kernel
theorem d_Mo_fits_85 : decode b_Mo_fits 85 = .ok (.iconst (-1), 1) := by decide +kernel
theorem d_Mo_fits_86 : decode b_Mo_fits 86 = .ok (.if_icmp .eq 21, 3) := by decide +kernel
theorem d_Mo_fits_89 : decode b_Mo_fits 89 = .ok (.aload_n 1, 1) := by decide +kernel
theorem d_Mo_fits_90 : decode b_Mo_fits 90 = .ok (.iload 4, 2) := by decide +kernel
theorem d_Mo_fits_92 : decode b_Mo_fits 92 = .ok (.iaload, 1) := by decide +kernel
theorem d_Mo_fits_93 : decode b_Mo_fits 93 = .ok (.iload 7, 2) := by decide +kernel
theorem d_Mo_fits_95 : decode b_Mo_fits 95 = .ok (.iadd, 1) := by decide +kernel
theorem d_Mo_fits_96 : decode b_Mo_fits 96 = .ok (.getstatic 91, 3) := by decide +kernel
theorem d_Mo_fits_99 : decode b_Mo_fits 99 = .ok (.aload_n 0, 1) := by decide +kernel
theorem d_Mo_fits_100 : decode b_Mo_fits 100 = .ok (.iload 4, 2) := by decide +kernel
theorem d_Mo_fits_102 : decode b_Mo_fits 102 = .ok (.iaload, 1) := by decide +kernel
theorem d_Mo_fits_103 : decode b_Mo_fits 103 = .ok (.iaload, 1) := by decide +kernel
theorem d_Mo_fits_104 : decode b_Mo_fits 104 = .ok (.if_icmp .ge 7, 3) := by decide +kernel
theorem d_Mo_fits_107 : decode b_Mo_fits 107 = .ok (.iconst 1, 1) := by decide +kernel
theorem d_Mo_fits_108 : decode b_Mo_fits 108 = .ok (.goto 4, 3) := by decide +kernel
theorem d_Mo_fits_111 : decode b_Mo_fits 111 = .ok (.iconst 0, 1) := by decide +kernel
theorem d_Mo_fits_112 : decode b_Mo_fits 112 = .ok (.ireturn, 1) := by decide +kernel
theorem d_Mo_join_0 : decode b_Mo_join 0 = .ok (.aload_n 0, 1) := by decide +kernel
theorem d_Mo_join_1 : decode b_Mo_join 1 = .ok (.getfield 42, 3) := by decide +kernel
theorem d_Mo_join_4 : decode b_Mo_join 4 = .ok (.iload_n 1, 1) := by decide +kernel
theorem d_Mo_join_5 : decode b_Mo_join 5 = .ok (.iload_n 2, 1) := by decide +kernel
theorem d_Mo_join_6 : decode b_Mo_join 6 = .ok (.iastore, 1) := by decide +kernel
theorem d_Mo_join_7 : decode b_Mo_join 7 = .ok (.aload_n 0, 1) := by decide +kernel
theorem d_Mo_join_8 : decode b_Mo_join 8 = .ok (.getfield 48, 3) := by decide +kernel
theorem d_Mo_join_11 : decode b_Mo_join 11 = .ok (.iload_n 1, 1) := by decide +kernel
theorem d_Mo_join_12 : decode b_Mo_join 12 = .ok (.iconst (-1), 1) := by decide +kernel
theorem d_Mo_join_13 : decode b_Mo_join 13 = .ok (.iastore, 1) := by decide +kernel
theorem d_Mo_join_14 : decode b_Mo_join 14 = .ok (.aload_n 0, 1) := by decide +kernel
theorem d_Mo_join_15 : decode b_Mo_join 15 = .ok (.getfield 45, 3) := by decide +kernel
theorem d_Mo_join_18 : decode b_Mo_join 18 = .ok (.iload_n 1, 1) := by decide +kernel
theorem d_Mo_join_19 : decode b_Mo_join 19 = .ok (.iconst (-1), 1) := by decide +kernel
theorem d_Mo_join_20 : decode b_Mo_join 20 = .ok (.iastore, 1) := by decide +kernel
theorem d_Mo_join_21 : decode b_Mo_join 21 = .ok (.iload_n 2, 1) := by decide +kernel
theorem d_Mo_join_22 : decode b_Mo_join 22 = .ok (.iconst (-1), 1) := by decide +kernel
theorem d_Mo_join_23 : decode b_Mo_join 23 = .ok (.if_icmp .eq 50, 3) := by decide +kernel
theorem d_Mo_join_26 : decode b_Mo_join 26 = .ok (.aload_n 0, 1) := by decide +kernel
theorem d_Mo_join_27 : decode b_Mo_join 27 = .ok (.getfield 45, 3) := by decide +kernel
theorem d_Mo_join_30 : decode b_Mo_join 30 = .ok (.iload_n 1, 1) := by decide +kernel
theorem d_Mo_join_31 : decode b_Mo_join 31 = .ok (.aload_n 0, 1) := by decide +kernel
theorem d_Mo_join_32 : decode b_Mo_join 32 = .ok (.getfield 13, 3) := by decide +kernel
theorem d_Mo_join_35 : decode b_Mo_join 35 = .ok (.iload_n 2, 1) := by decide +kernel
theorem d_Mo_join_36 : decode b_Mo_join 36 = .ok (.iaload, 1) := by decide +kernel
theorem d_Mo_join_37 : decode b_Mo_join 37 = .ok (.iastore, 1) := by decide +kernel
theorem d_Mo_join_38 : decode b_Mo_join 38 = .ok (.aload_n 0, 1) := by decide +kernel
theorem d_Mo_join_39 : decode b_Mo_join 39 = .ok (.getfield 9, 3) := by decide +kernel
theorem d_Mo_join_42 : decode b_Mo_join 42 = .ok (.iload_n 2, 1) := by decide +kernel
theorem d_Mo_join_43 : decode b_Mo_join 43 = .ok (.iaload, 1) := by decide +kernel
theorem d_Mo_join_44 : decode b_Mo_join 44 = .ok (.ifCond .eq 19, 3) := by decide +kernel
theorem d_Mo_join_47 : decode b_Mo_join 47 = .ok (.aload_n 0, 1) := by decide +kernel
theorem d_Mo_join_48 : decode b_Mo_join 48 = .ok (.getfield 32, 3) := by decide +kernel
theorem d_Mo_join_51 : decode b_Mo_join 51 = .ok (.iconst 4, 1) := by decide +kernel
theorem d_Mo_join_52 : decode b_Mo_join 52 = .ok (.iload_n 2, 1) := by decide +kernel
theorem d_Mo_join_53 : decode b_Mo_join 53 = .ok (.imul, 1) := by decide +kernel
theorem d_Mo_join_54 : decode b_Mo_join 54 = .ok (.aload_n 0, 1) := by decide +kernel
theorem d_Mo_join_55 : decode b_Mo_join 55 = .ok (.getfield 13, 3) := by decide +kernel
theorem d_Mo_join_58 : decode b_Mo_join 58 = .ok (.iload_n 2, 1) := by decide +kernel
theorem d_Mo_join_59 : decode b_Mo_join 59 = .ok (.iaload, 1) := by decide +kernel
theorem d_Mo_join_60 : decode b_Mo_join 60 = .ok (.iadd, 1) := by decide +kernel
theorem d_Mo_join_61 : decode b_Mo_join 61 = .ok (.iload_n 1, 1) := by decide +kernel
theorem d_Mo_join_62 : decode b_Mo_join 62 = .ok (.iastore, 1) := by decide +kernel
theorem d_Mo_join_63 : decode b_Mo_join 63 = .ok (.aload_n 0, 1) := by decide +kernel
theorem d_Mo_join_64 : decode b_Mo_join 64 = .ok (.getfield 13, 3) := by decide +kernel
theorem d_Mo_join_67 : decode b_Mo_join 67 = .ok (.iload_n 2, 1) := by decide +kernel
theorem d_Mo_join_68 : decode b_Mo_join 68 = .ok (.dup2, 1) := by decide +kernel
theorem d_Mo_join_69 : decode b_Mo_join 69 = .ok (.iaload, 1) := by decide +kernel
theorem d_Mo_join_70 : decode b_Mo_join 70 = .ok (.iconst 1, 1) := by decide +kernel
theorem d_Mo_join_71 : decode b_Mo_join 71 = .ok (.iadd, 1) := by decide +kernel
theorem d_Mo_join_72 : decode b_Mo_join 72 = .ok (.iastore, 1) := by decide +kernel
theorem d_Mo_join_73 : decode b_Mo_join 73 = .ok (.return_, 1) := by decide +kernel
theorem d_Mo_pipe_0 : decode b_Mo_pipe 0 = .ok (.aload_n 0, 1) := by decide +kernel
theorem d_Mo_pipe_1 : decode b_Mo_pipe 1 = .ok (.iconst 0, 1) := by decide +kernel
theorem d_Mo_pipe_2 : decode b_Mo_pipe 2 = .ok (.putfield 72, 3) := by decide +kernel
theorem d_Mo_pipe_5 : decode b_Mo_pipe 5 = .ok (.aload_n 0, 1) := by decide +kernel
theorem d_Mo_pipe_6 : decode b_Mo_pipe 6 = .ok (.getfield 9, 3) := by decide +kernel
theorem d_Mo_pipe_9 : decode b_Mo_pipe 9 = .ok (.aload_n 0, 1) := by decide +kernel
theorem d_Mo_pipe_10 : decode b_Mo_pipe 10 = .ok (.getfield 13, 3) := by decide +kernel
theorem d_Mo_pipe_13 : decode b_Mo_pipe 13 = .ok (.aload_n 0, 1) := by decide +kernel
theorem d_Mo_pipe_14 : decode b_Mo_pipe 14 = .ok (.getfield 76, 3) := by decide +kernel
theorem d_Mo_pipe_17 : decode b_Mo_pipe 17 = .ok (.iload_n 1, 1) := by decide +kernel
theorem d_Mo_pipe_18 : decode b_Mo_pipe 18 = .ok (.iload_n 2, 1) := by decide +kernel
theorem d_Mo_pipe_19 : decode b_Mo_pipe 19 = .ok (.lload_n 3, 1) := by decide +kernel
theorem d_Mo_pipe_20 : decode b_Mo_pipe 20 = .ok (.invokestatic 94, 3) := by decide +kernel
theorem d_Mo_pipe_23 : decode b_Mo_pipe 23 = .ok (.ifCond .ne 5, 3) := by decide +kernel
theorem d_Mo_pipe_26 : decode b_Mo_pipe 26 = .ok (.iconst (-1), 1) := by decide +kernel
theorem d_Mo_pipe_27 : decode b_Mo_pipe 27 = .ok (.ireturn, 1) := by decide +kernel
theorem d_Mo_pipe_28 : decode b_Mo_pipe 28 = .ok (.aload_n 0, 1) := by decide +kernel
theorem d_Mo_pipe_29 : decode b_Mo_pipe 29 = .ok (.getfield 98, 3) := by decide +kernel
theorem d_Mo_pipe_32 : decode b_Mo_pipe 32 = .ok (.bipush 60, 2) := by decide +kernel
theorem d_Mo_pipe_34 : decode b_Mo_pipe 34 = .ok (.if_icmp .ne 6, 3) := by decide +kernel
theorem d_Mo_pipe_37 : decode b_Mo_pipe 37 = .ok (.bipush (-2), 2) := by decide +kernel
theorem d_Mo_pipe_39 : decode b_Mo_pipe 39 = .ok (.ireturn, 1) := by decide +kernel
theorem d_Mo_pipe_40 : decode b_Mo_pipe 40 = .ok (.aload_n 0, 1) := by decide +kernel
theorem d_Mo_pipe_41 : decode b_Mo_pipe 41 = .ok (.getfield 35, 3) := by decide +kernel
theorem d_Mo_pipe_44 : decode b_Mo_pipe 44 = .ok (.aload_n 0, 1) := by decide +kernel
theorem d_Mo_pipe_45 : decode b_Mo_pipe 45 = .ok (.getfield 98, 3) := by decide +kernel
theorem d_Mo_pipe_48 : decode b_Mo_pipe 48 = .ok (.lload_n 3, 1) := by decide +kernel
theorem d_Mo_pipe_49 : decode b_Mo_pipe 49 = .ok (.l2i, 1) := by decide +kernel
theorem d_Mo_pipe_50 : decode b_Mo_pipe 50 = .ok (.iastore, 1) := by decide +kernel
theorem d_Mo_pipe_51 : decode b_Mo_pipe 51 = .ok (.iconst 0, 1) := by decide +kernel
theorem d_Mo_pipe_52 : decode b_Mo_pipe 52 = .ok (.istore 5, 2) := by decide +kernel
theorem d_Mo_pipe_54 : decode b_Mo_pipe 54 = .ok (.iload 5, 2) := by decide +kernel
theorem d_Mo_pipe_56 : decode b_Mo_pipe 56 = .ok (.sipush 200, 3) := by decide +kernel
theorem d_Mo_pipe_59 : decode b_Mo_pipe 59 = .ok (.if_icmp .ge 26, 3) := by decide +kernel
theorem d_Mo_pipe_62 : decode b_Mo_pipe 62 = .ok (.aload_n 0, 1) := by decide +kernel
theorem d_Mo_pipe_63 : decode b_Mo_pipe 63 = .ok (.getfield 38, 3) := by decide +kernel
theorem d_Mo_pipe_66 : decode b_Mo_pipe 66 = .ok (.sipush 200, 3) := by decide +kernel
theorem d_Mo_pipe_69 : decode b_Mo_pipe 69 = .ok (.aload_n 0, 1) := by decide +kernel
theorem d_Mo_pipe_70 : decode b_Mo_pipe 70 = .ok (.getfield 98, 3) := by decide +kernel
theorem d_Mo_pipe_73 : decode b_Mo_pipe 73 = .ok (.imul, 1) := by decide +kernel
theorem d_Mo_pipe_74 : decode b_Mo_pipe 74 = .ok (.iload 5, 2) := by decide +kernel
theorem d_Mo_pipe_76 : decode b_Mo_pipe 76 = .ok (.iadd, 1) := by decide +kernel
theorem d_Mo_pipe_77 : decode b_Mo_pipe 77 = .ok (.iconst 0, 1) := by decide +kernel
theorem d_Mo_pipe_78 : decode b_Mo_pipe 78 = .ok (.bastore, 1) := by decide +kernel
theorem d_Mo_pipe_79 : decode b_Mo_pipe 79 = .ok (.iinc 5 1, 3) := by decide +kernel
theorem d_Mo_pipe_82 : decode b_Mo_pipe 82 = .ok (.goto (-28), 3) := by decide +kernel
theorem d_Mo_pipe_85 : decode b_Mo_pipe 85 = .ok (.aload_n 0, 1) := by decide +kernel
theorem d_Mo_pipe_86 : decode b_Mo_pipe 86 = .ok (.iconst 2, 1) := by decide +kernel
theorem d_Mo_pipe_87 : decode b_Mo_pipe 87 = .ok (.aload_n 0, 1) := by decide +kernel
theorem d_Mo_pipe_88 : decode b_Mo_pipe 88 = .ok (.getfield 98, 3) := by decide +kernel
theorem d_Mo_pipe_91 : decode b_Mo_pipe 91 = .ok (.imul, 1) := by decide +kernel
theorem d_Mo_pipe_92 : decode b_Mo_pipe 92 = .ok (.iload_n 1, 1) := by decide +kernel
theorem d_Mo_pipe_93 : decode b_Mo_pipe 93 = .ok (.invokevirtual 101, 3) := by decide +kernel
theorem d_Mo_pipe_96 : decode b_Mo_pipe 96 = .ok (.aload_n 0, 1) := by decide +kernel
theorem d_Mo_pipe_97 : decode b_Mo_pipe 97 = .ok (.iconst 2, 1) := by decide +kernel
theorem d_Mo_pipe_98 : decode b_Mo_pipe 98 = .ok (.aload_n 0, 1) := by decide +kernel
theorem d_Mo_pipe_99 : decode b_Mo_pipe 99 = .ok (.getfield 98, 3) := by decide +kernel
theorem d_Mo_pipe_102 : decode b_Mo_pipe 102 = .ok (.imul, 1) := by decide +kernel
theorem d_Mo_pipe_103 : decode b_Mo_pipe 103 = .ok (.iconst 1, 1) := by decide +kernel
theorem d_Mo_pipe_104 : decode b_Mo_pipe 104 = .ok (.iadd, 1) := by decide +kernel
theorem d_Mo_pipe_105 : decode b_Mo_pipe 105 = .ok (.iload_n 2, 1) := by decide +kernel
theorem d_Mo_pipe_106 : decode b_Mo_pipe 106 = .ok (.invokevirtual 101, 3) := by decide +kernel
theorem d_Mo_pipe_109 : decode b_Mo_pipe 109 = .ok (.aload_n 0, 1) := by decide +kernel
theorem d_Mo_pipe_110 : decode b_Mo_pipe 110 = .ok (.dup, 1) := by decide +kernel
theorem d_Mo_pipe_111 : decode b_Mo_pipe 111 = .ok (.getfield 98, 3) := by decide +kernel
theorem d_Mo_pipe_114 : decode b_Mo_pipe 114 = .ok (.iconst 1, 1) := by decide +kernel
theorem d_Mo_pipe_115 : decode b_Mo_pipe 115 = .ok (.iadd, 1) := by decide +kernel
theorem d_Mo_pipe_116 : decode b_Mo_pipe 116 = .ok (.putfield 98, 3) := by decide +kernel
theorem d_Mo_pipe_119 : decode b_Mo_pipe 119 = .ok (.aload_n 0, 1) := by decide +kernel
theorem d_Mo_pipe_120 : decode b_Mo_pipe 120 = .ok (.getfield 98, 3) := by decide +kernel
theorem d_Mo_pipe_123 : decode b_Mo_pipe 123 = .ok (.iconst 1, 1) := by decide +kernel
theorem d_Mo_pipe_124 : decode b_Mo_pipe 124 = .ok (.isub, 1) := by decide +kernel
theorem d_Mo_pipe_125 : decode b_Mo_pipe 125 = .ok (.ireturn, 1) := by decide +kernel
theorem d_Mo_isPipe_0 : decode b_Mo_isPipe 0 = .ok (.iload_n 1, 1) := by decide +kernel
theorem d_Mo_isPipe_1 : decode b_Mo_isPipe 1 = .ok (.ifCond .lt 15, 3) := by decide +kernel
theorem d_Mo_isPipe_4 : decode b_Mo_isPipe 4 = .ok (.iload_n 1, 1) := by decide +kernel
theorem d_Mo_isPipe_5 : decode b_Mo_isPipe 5 = .ok (.aload_n 0, 1) := by decide +kernel
theorem d_Mo_isPipe_6 : decode b_Mo_isPipe 6 = .ok (.getfield 98, 3) := by decide +kernel
theorem d_Mo_isPipe_9 : decode b_Mo_isPipe 9 = .ok (.if_icmp .ge 7, 3) := by decide +kernel
theorem d_Mo_isPipe_12 : decode b_Mo_isPipe 12 = .ok (.iconst 1, 1) := by decide +kernel
theorem d_Mo_isPipe_13 : decode b_Mo_isPipe 13 = .ok (.goto 4, 3) := by decide +kernel
theorem d_Mo_isPipe_16 : decode b_Mo_isPipe 16 = .ok (.iconst 0, 1) := by decide +kernel
theorem d_Mo_isPipe_17 : decode b_Mo_isPipe 17 = .ok (.ireturn, 1) := by decide +kernel
theorem d_Mo_free_0 : decode b_Mo_free 0 = .ok (.aload_n 0, 1) := by decide +kernel
theorem d_Mo_free_1 : decode b_Mo_free 1 = .ok (.getfield 42, 3) := by decide +kernel
theorem d_Mo_free_4 : decode b_Mo_free 4 = .ok (.iconst 2, 1) := by decide +kernel
theorem d_Mo_free_5 : decode b_Mo_free 5 = .ok (.iload_n 1, 1) := by decide +kernel
theorem d_Mo_free_6 : decode b_Mo_free 6 = .ok (.imul, 1) := by decide +kernel
theorem d_Mo_free_7 : decode b_Mo_free 7 = .ok (.iaload, 1) := by decide +kernel
theorem d_Mo_free_8 : decode b_Mo_free 8 = .ok (.iconst (-1), 1) := by decide +kernel
theorem d_Mo_free_9 : decode b_Mo_free 9 = .ok (.if_icmp .ne 21, 3) := by decide +kernel
theorem d_Mo_free_12 : decode b_Mo_free 12 = .ok (.aload_n 0, 1) := by decide +kernel
theorem d_Mo_free_13 : decode b_Mo_free 13 = .ok (.getfield 48, 3) := by decide +kernel
theorem d_Mo_free_16 : decode b_Mo_free 16 = .ok (.iconst 2, 1) := by decide +kernel
theorem d_Mo_free_17 : decode b_Mo_free 17 = .ok (.iload_n 1, 1) := by decide +kernel
theorem d_Mo_free_18 : decode b_Mo_free 18 = .ok (.imul, 1) := by decide +kernel
theorem d_Mo_free_19 : decode b_Mo_free 19 = .ok (.iaload, 1) := by decide +kernel
theorem d_Mo_free_20 : decode b_Mo_free 20 = .ok (.iconst (-1), 1) := by decide +kernel
theorem d_Mo_free_21 : decode b_Mo_free 21 = .ok (.if_icmp .ne 9, 3) := by decide +kernel
theorem d_Mo_free_24 : decode b_Mo_free 24 = .ok (.iconst 2, 1) := by decide +kernel
theorem d_Mo_free_25 : decode b_Mo_free 25 = .ok (.iload_n 1, 1) := by decide +kernel
theorem d_Mo_free_26 : decode b_Mo_free 26 = .ok (.imul, 1) := by decide +kernel
theorem d_Mo_free_27 : decode b_Mo_free 27 = .ok (.goto 40, 3) := by decide +kernel
theorem d_Mo_free_30 : decode b_Mo_free 30 = .ok (.aload_n 0, 1) := by decide +kernel
theorem d_Mo_free_31 : decode b_Mo_free 31 = .ok (.getfield 42, 3) := by decide +kernel
theorem d_Mo_free_34 : decode b_Mo_free 34 = .ok (.iconst 2, 1) := by decide +kernel
theorem d_Mo_free_35 : decode b_Mo_free 35 = .ok (.iload_n 1, 1) := by decide +kernel
theorem d_Mo_free_36 : decode b_Mo_free 36 = .ok (.imul, 1) := by decide +kernel
theorem d_Mo_free_37 : decode b_Mo_free 37 = .ok (.iconst 1, 1) := by decide +kernel
theorem d_Mo_free_38 : decode b_Mo_free 38 = .ok (.iadd, 1) := by decide +kernel
theorem d_Mo_free_39 : decode b_Mo_free 39 = .ok (.iaload, 1) := by decide +kernel
theorem d_Mo_free_40 : decode b_Mo_free 40 = .ok (.iconst (-1), 1) := by decide +kernel
theorem d_Mo_free_41 : decode b_Mo_free 41 = .ok (.if_icmp .ne 25, 3) := by decide +kernel
theorem d_Mo_free_44 : decode b_Mo_free 44 = .ok (.aload_n 0, 1) := by decide +kernel
theorem d_Mo_free_45 : decode b_Mo_free 45 = .ok (.getfield 48, 3) := by decide +kernel
theorem d_Mo_free_48 : decode b_Mo_free 48 = .ok (.iconst 2, 1) := by decide +kernel
theorem d_Mo_free_49 : decode b_Mo_free 49 = .ok (.iload_n 1, 1) := by decide +kernel
theorem d_Mo_free_50 : decode b_Mo_free 50 = .ok (.imul, 1) := by decide +kernel
theorem d_Mo_free_51 : decode b_Mo_free 51 = .ok (.iconst 1, 1) := by decide +kernel
theorem d_Mo_free_52 : decode b_Mo_free 52 = .ok (.iadd, 1) := by decide +kernel
theorem d_Mo_free_53 : decode b_Mo_free 53 = .ok (.iaload, 1) := by decide +kernel
theorem d_Mo_free_54 : decode b_Mo_free 54 = .ok (.iconst (-1), 1) := by decide +kernel
theorem d_Mo_free_55 : decode b_Mo_free 55 = .ok (.if_icmp .ne 11, 3) := by decide +kernel
theorem d_Mo_free_58 : decode b_Mo_free 58 = .ok (.iconst 2, 1) := by decide +kernel
theorem d_Mo_free_59 : decode b_Mo_free 59 = .ok (.iload_n 1, 1) := by decide +kernel
theorem d_Mo_free_60 : decode b_Mo_free 60 = .ok (.imul, 1) := by decide +kernel
theorem d_Mo_free_61 : decode b_Mo_free 61 = .ok (.iconst 1, 1) := by decide +kernel
theorem d_Mo_free_62 : decode b_Mo_free 62 = .ok (.iadd, 1) := by decide +kernel
theorem d_Mo_free_63 : decode b_Mo_free 63 = .ok (.goto 4, 3) := by decide +kernel
theorem d_Mo_free_66 : decode b_Mo_free 66 = .ok (.iconst (-1), 1) := by decide +kernel
theorem d_Mo_free_67 : decode b_Mo_free 67 = .ok (.ireturn, 1) := by decide +kernel
theorem d_Mo_bend_0 : decode b_Mo_bend 0 = .ok (.aload_n 0, 1) := by decide +kernel
theorem d_Mo_bend_1 : decode b_Mo_bend 1 = .ok (.iconst 0, 1) := by decide +kernel
theorem d_Mo_bend_2 : decode b_Mo_bend 2 = .ok (.putfield 72, 3) := by decide +kernel
theorem d_Mo_bend_5 : decode b_Mo_bend 5 = .ok (.aload_n 0, 1) := by decide +kernel
theorem d_Mo_bend_6 : decode b_Mo_bend 6 = .ok (.iload_n 1, 1) := by decide +kernel
theorem d_Mo_bend_7 : decode b_Mo_bend 7 = .ok (.invokevirtual 105, 3) := by decide +kernel
theorem d_Mo_bend_10 : decode b_Mo_bend 10 = .ok (.ifCond .eq 16, 3) := by decide +kernel
theorem d_Mo_bend_13 : decode b_Mo_bend 13 = .ok (.aload_n 0, 1) := by decide +kernel
theorem d_Mo_bend_14 : decode b_Mo_bend 14 = .ok (.iload_n 2, 1) := by decide +kernel
theorem d_Mo_bend_15 : decode b_Mo_bend 15 = .ok (.invokevirtual 105, 3) := by decide +kernel
theorem d_Mo_bend_18 : decode b_Mo_bend 18 = .ok (.ifCond .eq 8, 3) := by decide +kernel
theorem d_Mo_bend_21 : decode b_Mo_bend 21 = .ok (.iload_n 1, 1) := by decide +kernel
theorem d_Mo_bend_22 : decode b_Mo_bend 22 = .ok (.iload_n 2, 1) := by decide +kernel
theorem d_Mo_bend_23 : decode b_Mo_bend 23 = .ok (.if_icmp .ne 5, 3) := by decide +kernel
theorem d_Mo_bend_26 : decode b_Mo_bend 26 = .ok (.iconst (-1), 1) := by decide +kernel
theorem d_Mo_bend_27 : decode b_Mo_bend 27 = .ok (.ireturn, 1) := by decide +kernel
theorem d_Mo_bend_28 : decode b_Mo_bend 28 = .ok (.iconst 2, 1) := by decide +kernel
theorem d_Mo_bend_29 : decode b_Mo_bend 29 = .ok (.iload_n 1, 1) := by decide +kernel
theorem d_Mo_bend_30 : decode b_Mo_bend 30 = .ok (.imul, 1) := by decide +kernel
theorem d_Mo_bend_31 : decode b_Mo_bend 31 = .ok (.istore_n 3, 1) := by decide +kernel
theorem d_Mo_bend_32 : decode b_Mo_bend 32 = .ok (.iload_n 3, 1) := by decide +kernel
theorem d_Mo_bend_33 : decode b_Mo_bend 33 = .ok (.iconst 2, 1) := by decide +kernel
theorem d_Mo_bend_34 : decode b_Mo_bend 34 = .ok (.iload_n 1, 1) := by decide +kernel
theorem d_Mo_bend_35 : decode b_Mo_bend 35 = .ok (.imul, 1) := by decide +kernel
theorem d_Mo_bend_36 : decode b_Mo_bend 36 = .ok (.iconst 2, 1) := by decide +kernel
theorem d_Mo_bend_37 : decode b_Mo_bend 37 = .ok (.iadd, 1) := by decide +kernel
theorem d_Mo_bend_38 : decode b_Mo_bend 38 = .ok (.if_icmp .ge 52, 3) := by decide +kernel
theorem d_Mo_bend_41 : decode b_Mo_bend 41 = .ok (.aload_n 0, 1) := by decide +kernel
theorem d_Mo_bend_42 : decode b_Mo_bend 42 = .ok (.getfield 48, 3) := by decide +kernel
theorem d_Mo_bend_45 : decode b_Mo_bend 45 = .ok (.iload_n 3, 1) := by decide +kernel
theorem d_Mo_bend_46 : decode b_Mo_bend 46 = .ok (.iaload, 1) := by decide +kernel
theorem d_Mo_bend_47 : decode b_Mo_bend 47 = .ok (.iconst (-1), 1) := by decide +kernel
theorem d_Mo_bend_48 : decode b_Mo_bend 48 = .ok (.if_icmp .eq 36, 3) := by decide +kernel
theorem d_Mo_bend_51 : decode b_Mo_bend 51 = .ok (.aload_n 0, 1) := by decide +kernel
theorem d_Mo_bend_52 : decode b_Mo_bend 52 = .ok (.getfield 48, 3) := by decide +kernel
theorem d_Mo_bend_55 : decode b_Mo_bend 55 = .ok (.iload_n 3, 1) := by decide +kernel
theorem d_Mo_bend_56 : decode b_Mo_bend 56 = .ok (.iaload, 1) := by decide +kernel
theorem d_Mo_bend_57 : decode b_Mo_bend 57 = .ok (.iconst 2, 1) := by decide +kernel
theorem d_Mo_bend_58 : decode b_Mo_bend 58 = .ok (.idiv, 1) := by decide +kernel
theorem d_Mo_bend_59 : decode b_Mo_bend 59 = .ok (.iload_n 2, 1) := by decide +kernel
theorem d_Mo_bend_60 : decode b_Mo_bend 60 = .ok (.if_icmp .ne 24, 3) := by decide +kernel
theorem d_Mo_bend_63 : decode b_Mo_bend 63 = .ok (.aload_n 0, 1) := by decide +kernel
theorem d_Mo_bend_64 : decode b_Mo_bend 64 = .ok (.getfield 48, 3) := by decide +kernel
theorem d_Mo_bend_67 : decode b_Mo_bend 67 = .ok (.aload_n 0, 1) := by decide +kernel
theorem d_Mo_bend_68 : decode b_Mo_bend 68 = .ok (.getfield 48, 3) := by decide +kernel
theorem d_Mo_bend_71 : decode b_Mo_bend 71 = .ok (.iload_n 3, 1) := by decide +kernel
theorem d_Mo_bend_72 : decode b_Mo_bend 72 = .ok (.iaload, 1) := by decide +kernel
theorem d_Mo_bend_73 : decode b_Mo_bend 73 = .ok (.iconst (-1), 1) := by decide +kernel
theorem d_Mo_bend_74 : decode b_Mo_bend 74 = .ok (.iastore, 1) := by decide +kernel
theorem d_Mo_bend_75 : decode b_Mo_bend 75 = .ok (.aload_n 0, 1) := by decide +kernel
theorem d_Mo_bend_76 : decode b_Mo_bend 76 = .ok (.getfield 48, 3) := by decide +kernel
theorem d_Mo_bend_79 : decode b_Mo_bend 79 = .ok (.iload_n 3, 1) := by decide +kernel
theorem d_Mo_bend_80 : decode b_Mo_bend 80 = .ok (.iconst (-1), 1) := by decide +kernel
theorem d_Mo_bend_81 : decode b_Mo_bend 81 = .ok (.iastore, 1) := by decide +kernel
theorem d_Mo_bend_82 : decode b_Mo_bend 82 = .ok (.iconst 0, 1) := by decide +kernel
theorem d_Mo_bend_83 : decode b_Mo_bend 83 = .ok (.ireturn, 1) := by decide +kernel
theorem d_Mo_bend_84 : decode b_Mo_bend 84 = .ok (.iinc 3 1, 3) := by decide +kernel
theorem d_Mo_bend_87 : decode b_Mo_bend 87 = .ok (.goto (-55), 3) := by decide +kernel
theorem d_Mo_bend_90 : decode b_Mo_bend 90 = .ok (.aload_n 0, 1) := by decide +kernel
theorem d_Mo_bend_91 : decode b_Mo_bend 91 = .ok (.iload_n 1, 1) := by decide +kernel
theorem d_Mo_bend_92 : decode b_Mo_bend 92 = .ok (.invokevirtual 108, 3) := by decide +kernel
theorem d_Mo_bend_95 : decode b_Mo_bend 95 = .ok (.istore_n 3, 1) := by decide +kernel
theorem d_Mo_bend_96 : decode b_Mo_bend 96 = .ok (.aload_n 0, 1) := by decide +kernel
theorem d_Mo_bend_97 : decode b_Mo_bend 97 = .ok (.iload_n 2, 1) := by decide +kernel
theorem d_Mo_bend_98 : decode b_Mo_bend 98 = .ok (.invokevirtual 108, 3) := by decide +kernel
theorem d_Mo_bend_101 : decode b_Mo_bend 101 = .ok (.istore 4, 2) := by decide +kernel
theorem d_Mo_bend_103 : decode b_Mo_bend 103 = .ok (.iload_n 3, 1) := by decide +kernel
theorem d_Mo_bend_104 : decode b_Mo_bend 104 = .ok (.iconst (-1), 1) := by decide +kernel
theorem d_Mo_bend_105 : decode b_Mo_bend 105 = .ok (.if_icmp .eq 9, 3) := by decide +kernel
theorem d_Mo_bend_108 : decode b_Mo_bend 108 = .ok (.iload 4, 2) := by decide +kernel
theorem d_Mo_bend_110 : decode b_Mo_bend 110 = .ok (.iconst (-1), 1) := by decide +kernel
theorem d_Mo_bend_111 : decode b_Mo_bend 111 = .ok (.if_icmp .ne 5, 3) := by decide +kernel
theorem d_Mo_bend_114 : decode b_Mo_bend 114 = .ok (.iconst (-1), 1) := by decide +kernel
theorem d_Mo_bend_115 : decode b_Mo_bend 115 = .ok (.ireturn, 1) := by decide +kernel
theorem d_Mo_bend_116 : decode b_Mo_bend 116 = .ok (.aload_n 0, 1) := by decide +kernel
theorem d_Mo_bend_117 : decode b_Mo_bend 117 = .ok (.getfield 48, 3) := by decide +kernel
theorem d_Mo_bend_120 : decode b_Mo_bend 120 = .ok (.iload_n 3, 1) := by decide +kernel
theorem d_Mo_bend_121 : decode b_Mo_bend 121 = .ok (.iload 4, 2) := by decide +kernel
theorem d_Mo_bend_123 : decode b_Mo_bend 123 = .ok (.iastore, 1) := by decide +kernel
theorem d_Mo_bend_124 : decode b_Mo_bend 124 = .ok (.aload_n 0, 1) := by decide +kernel
theorem d_Mo_bend_125 : decode b_Mo_bend 125 = .ok (.getfield 48, 3) := by decide +kernel
theorem d_Mo_bend_128 : decode b_Mo_bend 128 = .ok (.iload 4, 2) := by decide +kernel
theorem d_Mo_bend_130 : decode b_Mo_bend 130 = .ok (.iload_n 3, 1) := by decide +kernel
theorem d_Mo_bend_131 : decode b_Mo_bend 131 = .ok (.iastore, 1) := by decide +kernel
theorem d_Mo_bend_132 : decode b_Mo_bend 132 = .ok (.iconst 1, 1) := by decide +kernel
theorem d_Mo_bend_133 : decode b_Mo_bend 133 = .ok (.ireturn, 1) := by decide +kernel
theorem kw30_6501a0b : (Cond.fieldLink R_Mo 72 "PlantGraphModel" "thrown" "I" : Cond) ∈ tb := by decide +kernel
theorem kw30_063c233 : (Cond.fieldLink R_Mo 76 "PlantGraphModel" "things" "I" : Cond) ∈ tb := by decide +kernel
theorem kw30_cf02404 : (Cond.fieldLink R_Mo 9 "PlantGraphModel" "kinds" "[I" : Cond) ∈ tb := by decide +kernel
theorem kw30_775b56c : (Cond.fieldLink R_Mo 13 "PlantGraphModel" "taken" "[I" : Cond) ∈ tb := by decide +kernel
theorem kw30_3652779 : (Cond.fieldLink R_Mo 16 "PlantGraphModel" "rooms" "[J" : Cond) ∈ tb := by decide +kernel
theorem kw30_ca8a8d8 : (Cond.fieldLink R_Mo 20 "PlantGraphModel" "litres" "[J" : Cond) ∈ tb := by decide +kernel
theorem kw30_39da439 : (Cond.fieldLink R_Mo 23 "PlantGraphModel" "liquids" "[I" : Cond) ∈ tb := by decide +kernel
theorem kw30_6a57fc2 : (Cond.fieldLink R_Mo 26 "PlantGraphModel" "positions" "[I" : Cond) ∈ tb := by decide +kernel
theorem kw30_f20414e : (Cond.fieldLink R_Mo 29 "PlantGraphModel" "sensors" "[I" : Cond) ∈ tb := by decide +kernel
theorem kw30_c603ba5 : (Cond.fieldLink R_Mo 32 "PlantGraphModel" "ends" "[I" : Cond) ∈ tb := by decide +kernel
theorem kw30_8ce1ef1 : (Cond.constantLong R_Mo 79 100000 : Cond) ∈ tb := by decide +kernel
theorem kw30_64baf7e : (Cond.methodLink R_Mo 81 y_Mo_make : Cond) ∈ tb := by decide +kernel
theorem kw30_9b67bc9 : (Cond.instanceMethod y_Mo_make : Cond) ∈ tb := by decide +kernel
theorem kw30_2545d1d : (Cond.selects R_Mo y_Mo_make y_Mo_make : Cond) ∈ tb := by decide +kernel
theorem kw30_7a5931c : (Cond.initialized R_Mo : Cond) ∈ tb := by decide +kernel
theorem kw30_a7c7078 : (Cond.code y_Mo_make b_Mo_make 5 (some .int) : Cond) ∈ tb := by decide +kernel
theorem kw30_c875823 : (Cond.methodLink R_Mo 85 y_Mo_isThing : Cond) ∈ tb := by decide +kernel
theorem kw30_4435df4 : (Cond.instanceMethod y_Mo_isThing : Cond) ∈ tb := by decide +kernel
theorem kw30_110d942 : (Cond.selects R_Mo y_Mo_isThing y_Mo_isThing : Cond) ∈ tb := by decide +kernel
theorem kw30_9e87649 : (Cond.code y_Mo_isThing b_Mo_isThing 2 (some .boolean) : Cond) ∈ tb := by decide +kernel
theorem kw30_f7c3d95 : (Cond.constantLong R_Mo 89 200 : Cond) ∈ tb := by decide +kernel
theorem kw30_a03fbe5 : (Cond.fieldLink R_Mo 91 "PlantGraphModel" "ROOM" "[I" : Cond) ∈ tb := by decide +kernel
theorem kw30_01baf06 : (Cond.fieldLink R_Mo 42 "PlantGraphModel" "at" "[I" : Cond) ∈ tb := by decide +kernel
theorem kw30_563086a : (Cond.fieldLink R_Mo 48 "PlantGraphModel" "bends" "[I" : Cond) ∈ tb := by decide +kernel
theorem kw30_653085e : (Cond.fieldLink R_Mo 45 "PlantGraphModel" "ports" "[I" : Cond) ∈ tb := by decide +kernel
theorem kw30_b84ccf0 : (Cond.methodLink R_Mo 94 y_Mo_fits : Cond) ∈ tb := by decide +kernel
theorem kw30_0a03b17 : (Cond.static y_Mo_fits : Cond) ∈ tb := by decide +kernel
theorem kw30_e827962 : (Cond.code y_Mo_fits b_Mo_fits 8 (some .boolean) : Cond) ∈ tb := by decide +kernel
theorem kw30_189c50d : (Cond.fieldLink R_Mo 98 "PlantGraphModel" "pipes" "I" : Cond) ∈ tb := by decide +kernel
theorem kw30_b664d45 : (Cond.fieldLink R_Mo 35 "PlantGraphModel" "sizes" "[I" : Cond) ∈ tb := by decide +kernel
theorem kw30_6144e48 : (Cond.methodLink R_Mo 101 y_Mo_join : Cond) ∈ tb := by decide +kernel
theorem kw30_93292b6 : (Cond.instanceMethod y_Mo_join : Cond) ∈ tb := by decide +kernel
theorem kw30_e531c1b : (Cond.selects R_Mo y_Mo_join y_Mo_join : Cond) ∈ tb := by decide +kernel
theorem kw30_6e91e2e : (Cond.code y_Mo_join b_Mo_join 3 none : Cond) ∈ tb := by decide +kernel
theorem kw30_fd4a9fd : (Cond.fieldLink R_Mo 38 "PlantGraphModel" "contents" "[B" : Cond) ∈ tb := by decide +kernel
theorem kw30_d0d3126 : (Cond.methodLink R_Mo 105 y_Mo_isPipe : Cond) ∈ tb := by decide +kernel
theorem kw30_b9b9844 : (Cond.instanceMethod y_Mo_isPipe : Cond) ∈ tb := by decide +kernel
theorem kw30_aa3f293 : (Cond.selects R_Mo y_Mo_isPipe y_Mo_isPipe : Cond) ∈ tb := by decide +kernel
theorem kw30_8736655 : (Cond.code y_Mo_isPipe b_Mo_isPipe 2 (some .boolean) : Cond) ∈ tb := by decide +kernel
theorem kw30_948e1af : (Cond.methodLink R_Mo 108 y_Mo_free : Cond) ∈ tb := by decide +kernel
theorem kw30_804861b : (Cond.instanceMethod y_Mo_free : Cond) ∈ tb := by decide +kernel
theorem kw30_31dc068 : (Cond.selects R_Mo y_Mo_free y_Mo_free : Cond) ∈ tb := by decide +kernel
theorem kw30_875e3a4 : (Cond.code y_Mo_free b_Mo_free 2 (some .int) : Cond) ∈ tb := by decide +kernel
def wp_Mo_thrown (v_t_thrown : Int32) (P : Int32 → Prop) : Prop := P v_t_thrown
def w_Mo_thrown : List Cond := .code y_Mo_thrown b_Mo_thrown 1 (some .int) :: tb
abbrev rm_Mo_thrown : Room := { frames := 0, cells := 0, slots := 0, locals := 0 }
abbrev Q_Mo_thrown (dC : Nat → ClassId) (dI : Nat → Nat → Nat) (cI cL cB : ClassId) (q_t : Nat) (a_t : Nat → Nat) (v_t_things : Int32) (v_t_pipes : Int32) (v_t_wide : Int32) (v_t_size : Int32) (v_t_place : Int32) (v_t_number : Int64) (v_t_thrown : Int32) (v_t_wish : Int32) (v_t_found : Int32) (P : Int32 → Prop) (A : Nat → Prop) : Array Value → State → Outcome → State → Prop := va_Qi (fun (r : Int32) (u : Unit) => P r) (fun u t => va_P (dC, dI) classes [(q_t, .inr (7, o_Mo a_t v_t_things v_t_pipes v_t_wide v_t_size v_t_place v_t_number v_t_thrown v_t_wish v_t_found))] t.heap ∧ va_K (dC, dI) classes [(cI, .int), (cL, .long), (cB, .byte)] t ∧ va_D A [(q_t, .inr (7, o_Mo a_t v_t_things v_t_pipes v_t_wide v_t_size v_t_place v_t_number v_t_thrown v_t_wish v_t_found))]) A
set_option maxHeartbeats 4000000 in
set_option maxRecDepth 100000 in
theorem c_Mo_thrown (l : Launch) (dC : Nat → ClassId) (dI : Nat → Nat → Nat) (cI cL cB : ClassId) (q_t : Nat) (a_t : Nat → Nat) (sz : Nat) (v_t_things : Int32) (v_t_pipes : Int32) (v_t_wide : Int32) (v_t_size : Int32) (v_t_place : Int32) (v_t_number : Int64) (v_t_thrown : Int32) (v_t_wish : Int32) (v_t_found : Int32) (P : Int32 → Prop) (hw : wp_Mo_thrown v_t_thrown P) : Met l y_Mo_thrown w_Mo_thrown rm_Mo_thrown (va_Pc [.ref q_t] (fun U => U.heap.size = sz ∧ va_P (dC, dI) classes [(q_t, .inr (7, o_Mo a_t v_t_things v_t_pipes v_t_wide v_t_size v_t_place v_t_number v_t_thrown v_t_wish v_t_found))] U.heap ∧ va_K (dC, dI) classes [(cI, .int), (cL, .long), (cB, .byte)] U ∧ va_D (fun _ => True) [(q_t, .inr (7, o_Mo a_t v_t_things v_t_pipes v_t_wide v_t_size v_t_place v_t_number v_t_thrown v_t_wish v_t_found))])) (Q_Mo_thrown dC dI cI cL cB q_t a_t v_t_things v_t_pipes v_t_wide v_t_size v_t_place v_t_number v_t_thrown v_t_wish v_t_found P (va_A [(q_t, .inr (7, o_Mo a_t v_t_things v_t_pipes v_t_wide v_t_size v_t_place v_t_number v_t_thrown v_t_wish v_t_found))] sz)) 0 0 (va_A [(q_t, .inr (7, o_Mo a_t v_t_things v_t_pipes v_t_wide v_t_size v_t_place v_t_number v_t_thrown v_t_wish v_t_found))] sz) := by
  refine Met.ofW (cc := b_Mo_thrown) (maxL := 1) (ret := (some .int)) (by decide) rfl ?_
  intro p e s m args below meth c s₁ B hml hv
  obtain ⟨ha, hsz, hP, hK, hD0⟩ := hv
  have hx := B.exec
  have hb := B.bytes
  have hr := B.returns
  have hts0 := atoms_spec (ws := w_Mo_thrown) B.pre
  have hts : ∀ w ∈ tb, w.before args s = true := fun w h => hts0 w (List.mem_cons_of_mem _ h)
  have hown : s.vm.findClass R_Mo = some m.cls := findClass_of_methodNamed B.named
  have hlocks := B.notSynchronized
  subst hsz
  have hD := hD0.self (sz := s.heap.size)
  generalize hAe : va_A [(q_t, .inr (7, o_Mo a_t v_t_things v_t_pipes v_t_wide v_t_size v_t_place v_t_number v_t_thrown v_t_wish v_t_found))] s.heap.size = A at hD ⊢
  have hA : ∀ q : Nat, s.heap.size ≤ q → A q := fun q h => by rw [← hAe]; exact Or.inr h
  have hS : va_S A s.heap s.heap [] := va_S.rf
  have hP : va_P (dC, dI) classes [(q_t, .inr (7, o_Mo a_t v_t_things v_t_pipes v_t_wide v_t_size v_t_place v_t_number v_t_thrown v_t_wish v_t_found))] s.heap := hP
  have hl := lv_entry [.ref q_t] (n := 1) (Nat.le_of_ble_eq_true rfl)
  have he9 : entryFrame m args 1 = F0 m 0 ((lg_sl [.ref q_t] ++ List.replicate (1 - (lg_sl [.ref q_t]).length) Slot.unset).toArray) [] := by rw [ha]; exact lg_entry_eq _ _ _
  rw [he9]
  clear he9
  generalize (lg_sl [.ref q_t] ++ List.replicate (1 - (lg_sl [.ref q_t]).length) Slot.unset).toArray = ls at hl ⊢
  have hl : lv_has ls 1 [(0, .ref q_t)] := hl
  unfold wp_Mo_thrown at hw
  refine lv_aload_n hx hb d_Mo_thrown_0 rfl (lv_at hl 0 rfl) ?_
  refine va_get (D := (dC, dI)) (ci := 7) (v := .int v_t_thrown) (C := R_Mo) (T := F_Mo) (N := 29) hx hb hts i_Mo hown hK hP 0 rfl rfl 26 (by decide) (hts (Cond.fieldLink R_Mo 72 "PlantGraphModel" "thrown" "I") kw30_6501a0b) (fun _ h9 => h9) rfl d_Mo_thrown_1 ?_
  exact W.iret (v := v_t_thrown) hx hb hr (fun t ht hW => ⟨⟨v_t_thrown, (), rfl, hw, by rw [ht]; exact hP, va_K.moved hW.alike hK, hD⟩, hS.F ht⟩) hS.2.2 d_Mo_thrown_4
def wk_Mo_make_112_85 (v_t_things : Int32) (f_t_kinds : (Nat → Int32)) (x1 : Int32) (f_t_taken : (Nat → Int32)) (f_t_rooms : (Nat → Int64)) (x2 : Int64) (f_t_litres : (Nat → Int64)) (f_t_liquids : (Nat → Int32)) (f_t_positions : (Nat → Int32)) (f_t_sensors : (Nat → Int32)) (P : Int32 → Int32 → (Nat → Int32) → (Nat → Int32) → (Nat → Int64) → (Nat → Int64) → (Nat → Int32) → (Nat → Int32) → (Nat → Int32) → (Nat → Int32) → Prop) (x4_L85 : Int32) (f_t_ends_L85 : (Nat → Int32)) : Prop := P ((v_t_things + 1) - 1) (v_t_things + 1) (upd f_t_kinds v_t_things.toNatClampNeg x1) (upd f_t_taken v_t_things.toNatClampNeg 0) (vp_updL f_t_rooms v_t_things.toNatClampNeg x2) (vp_updL f_t_litres v_t_things.toNatClampNeg 0) (upd f_t_liquids v_t_things.toNatClampNeg 0) (upd f_t_positions v_t_things.toNatClampNeg 0) (upd f_t_sensors v_t_things.toNatClampNeg (-1)) f_t_ends_L85
def wl_Mo_make_85 (v_t_things : Int32) (K_112 : Int32 → (Nat → Int32) → Prop) : Nat → Int32 → (Nat → Int32) → Prop
  | 0, _, _ => False
  | k_85 + 1, x4_L85, f_t_ends_L85 => (((4 : Int32) ≤ x4_L85 → K_112 x4_L85 f_t_ends_L85) ∧ (¬ (4 : Int32) ≤ x4_L85 → (vp_in ((4 * v_t_things) + x4_L85) 160 ∧ wl_Mo_make_85 v_t_things K_112 k_85 (x4_L85 + 1) (upd f_t_ends_L85 ((4 * v_t_things) + x4_L85).toNatClampNeg (-1)))))
def wp_Mo_make (v_t_things : Int32) (f_t_kinds : (Nat → Int32)) (f_t_taken : (Nat → Int32)) (f_t_rooms : (Nat → Int64)) (f_t_litres : (Nat → Int64)) (f_t_liquids : (Nat → Int32)) (f_t_positions : (Nat → Int32)) (f_t_sensors : (Nat → Int32)) (f_t_ends : (Nat → Int32)) (x1 : Int32) (x2 : Int64) (P : Int32 → Int32 → (Nat → Int32) → (Nat → Int32) → (Nat → Int64) → (Nat → Int64) → (Nat → Int32) → (Nat → Int32) → (Nat → Int32) → (Nat → Int32) → Prop) : Prop := ((¬ v_t_things = (40 : Int32) → (vp_in v_t_things 40 ∧ (vp_in v_t_things 40 ∧ (vp_in v_t_things 40 ∧ (vp_in v_t_things 40 ∧ (vp_in v_t_things 40 ∧ (vp_in v_t_things 40 ∧ (vp_in v_t_things 40 ∧ (∃ n_85 : Nat, wl_Mo_make_85 v_t_things (wk_Mo_make_112_85 v_t_things f_t_kinds x1 f_t_taken f_t_rooms x2 f_t_litres f_t_liquids f_t_positions f_t_sensors P) n_85 0 f_t_ends))))))))) ∧ (v_t_things = (40 : Int32) → P (-2) v_t_things f_t_kinds f_t_taken f_t_rooms f_t_litres f_t_liquids f_t_positions f_t_sensors f_t_ends))
def w_Mo_make : List Cond := .code y_Mo_make b_Mo_make 5 (some .int) :: tb
abbrev rm_Mo_make : Room := { frames := 0, cells := 0, slots := 0, locals := 0 }
abbrev Q_Mo_make (dC : Nat → ClassId) (dI : Nat → Nat → Nat) (cI cL cB : ClassId) (q_t : Nat) (a_t : Nat → Nat) (v_t_things : Int32) (v_t_pipes : Int32) (v_t_wide : Int32) (v_t_size : Int32) (v_t_place : Int32) (v_t_number : Int64) (v_t_thrown : Int32) (v_t_wish : Int32) (v_t_found : Int32) (f_t_kinds : (Nat → Int32)) (f_t_taken : (Nat → Int32)) (f_t_rooms : (Nat → Int64)) (f_t_litres : (Nat → Int64)) (f_t_liquids : (Nat → Int32)) (f_t_positions : (Nat → Int32)) (f_t_sensors : (Nat → Int32)) (f_t_ends : (Nat → Int32)) (x1 : Int32) (x2 : Int64) (P : Int32 → Int32 → (Nat → Int32) → (Nat → Int32) → (Nat → Int64) → (Nat → Int64) → (Nat → Int32) → (Nat → Int32) → (Nat → Int32) → (Nat → Int32) → Prop) (A : Nat → Prop) : Array Value → State → Outcome → State → Prop := va_Qi (fun (r : Int32) (u : Int32 × (Nat → Int32) × (Nat → Int32) × (Nat → Int64) × (Nat → Int64) × (Nat → Int32) × (Nat → Int32) × (Nat → Int32) × (Nat → Int32)) => P r u.1 u.2.1 u.2.2.1 u.2.2.2.1 u.2.2.2.2.1 u.2.2.2.2.2.1 u.2.2.2.2.2.2.1 u.2.2.2.2.2.2.2.1 u.2.2.2.2.2.2.2.2) (fun u t => va_P (dC, dI) classes [(q_t, .inr (7, o_Mo a_t u.1 v_t_pipes v_t_wide v_t_size v_t_place v_t_number v_t_thrown v_t_wish v_t_found)), ((a_t 1), .inl (cI, 40, .inl u.2.1)), ((a_t 2), .inl (cI, 40, .inl u.2.2.1)), ((a_t 3), .inl (cL, 40, .inr (.inl u.2.2.2.1))), ((a_t 4), .inl (cL, 40, .inr (.inl u.2.2.2.2.1))), ((a_t 5), .inl (cI, 40, .inl u.2.2.2.2.2.1)), ((a_t 6), .inl (cI, 40, .inl u.2.2.2.2.2.2.1)), ((a_t 7), .inl (cI, 40, .inl u.2.2.2.2.2.2.2.1)), ((a_t 8), .inl (cI, 160, .inl u.2.2.2.2.2.2.2.2))] t.heap ∧ va_K (dC, dI) classes [(cI, .int), (cL, .long), (cB, .byte)] t ∧ va_D A [(q_t, .inr (7, o_Mo a_t u.1 v_t_pipes v_t_wide v_t_size v_t_place v_t_number v_t_thrown v_t_wish v_t_found)), ((a_t 1), .inl (cI, 40, .inl u.2.1)), ((a_t 2), .inl (cI, 40, .inl u.2.2.1)), ((a_t 3), .inl (cL, 40, .inr (.inl u.2.2.2.1))), ((a_t 4), .inl (cL, 40, .inr (.inl u.2.2.2.2.1))), ((a_t 5), .inl (cI, 40, .inl u.2.2.2.2.2.1)), ((a_t 6), .inl (cI, 40, .inl u.2.2.2.2.2.2.1)), ((a_t 7), .inl (cI, 40, .inl u.2.2.2.2.2.2.2.1)), ((a_t 8), .inl (cI, 160, .inl u.2.2.2.2.2.2.2.2))]) A
set_option maxHeartbeats 4000000 in
set_option maxRecDepth 100000 in
theorem c_Mo_make (l : Launch) (dC : Nat → ClassId) (dI : Nat → Nat → Nat) (cI cL cB : ClassId) (q_t : Nat) (a_t : Nat → Nat) (sz : Nat) (v_t_things : Int32) (v_t_pipes : Int32) (v_t_wide : Int32) (v_t_size : Int32) (v_t_place : Int32) (v_t_number : Int64) (v_t_thrown : Int32) (v_t_wish : Int32) (v_t_found : Int32) (f_t_kinds : (Nat → Int32)) (f_t_taken : (Nat → Int32)) (f_t_rooms : (Nat → Int64)) (f_t_litres : (Nat → Int64)) (f_t_liquids : (Nat → Int32)) (f_t_positions : (Nat → Int32)) (f_t_sensors : (Nat → Int32)) (f_t_ends : (Nat → Int32)) (x1 : Int32) (x2 : Int64) (P : Int32 → Int32 → (Nat → Int32) → (Nat → Int32) → (Nat → Int64) → (Nat → Int64) → (Nat → Int32) → (Nat → Int32) → (Nat → Int32) → (Nat → Int32) → Prop) (hw : wp_Mo_make v_t_things f_t_kinds f_t_taken f_t_rooms f_t_litres f_t_liquids f_t_positions f_t_sensors f_t_ends x1 x2 P) : Met l y_Mo_make w_Mo_make rm_Mo_make (va_Pc [.ref q_t, .int x1, .long x2] (fun U => U.heap.size = sz ∧ va_P (dC, dI) classes [(q_t, .inr (7, o_Mo a_t v_t_things v_t_pipes v_t_wide v_t_size v_t_place v_t_number v_t_thrown v_t_wish v_t_found)), ((a_t 1), .inl (cI, 40, .inl f_t_kinds)), ((a_t 2), .inl (cI, 40, .inl f_t_taken)), ((a_t 3), .inl (cL, 40, .inr (.inl f_t_rooms))), ((a_t 4), .inl (cL, 40, .inr (.inl f_t_litres))), ((a_t 5), .inl (cI, 40, .inl f_t_liquids)), ((a_t 6), .inl (cI, 40, .inl f_t_positions)), ((a_t 7), .inl (cI, 40, .inl f_t_sensors)), ((a_t 8), .inl (cI, 160, .inl f_t_ends))] U.heap ∧ va_K (dC, dI) classes [(cI, .int), (cL, .long), (cB, .byte)] U ∧ va_D (fun _ => True) [(q_t, .inr (7, o_Mo a_t v_t_things v_t_pipes v_t_wide v_t_size v_t_place v_t_number v_t_thrown v_t_wish v_t_found)), ((a_t 1), .inl (cI, 40, .inl f_t_kinds)), ((a_t 2), .inl (cI, 40, .inl f_t_taken)), ((a_t 3), .inl (cL, 40, .inr (.inl f_t_rooms))), ((a_t 4), .inl (cL, 40, .inr (.inl f_t_litres))), ((a_t 5), .inl (cI, 40, .inl f_t_liquids)), ((a_t 6), .inl (cI, 40, .inl f_t_positions)), ((a_t 7), .inl (cI, 40, .inl f_t_sensors)), ((a_t 8), .inl (cI, 160, .inl f_t_ends))])) (Q_Mo_make dC dI cI cL cB q_t a_t v_t_things v_t_pipes v_t_wide v_t_size v_t_place v_t_number v_t_thrown v_t_wish v_t_found f_t_kinds f_t_taken f_t_rooms f_t_litres f_t_liquids f_t_positions f_t_sensors f_t_ends x1 x2 P (va_A [(q_t, .inr (7, o_Mo a_t v_t_things v_t_pipes v_t_wide v_t_size v_t_place v_t_number v_t_thrown v_t_wish v_t_found)), ((a_t 1), .inl (cI, 40, .inl f_t_kinds)), ((a_t 2), .inl (cI, 40, .inl f_t_taken)), ((a_t 3), .inl (cL, 40, .inr (.inl f_t_rooms))), ((a_t 4), .inl (cL, 40, .inr (.inl f_t_litres))), ((a_t 5), .inl (cI, 40, .inl f_t_liquids)), ((a_t 6), .inl (cI, 40, .inl f_t_positions)), ((a_t 7), .inl (cI, 40, .inl f_t_sensors)), ((a_t 8), .inl (cI, 160, .inl f_t_ends))] sz)) 0 0 (va_A [(q_t, .inr (7, o_Mo a_t v_t_things v_t_pipes v_t_wide v_t_size v_t_place v_t_number v_t_thrown v_t_wish v_t_found)), ((a_t 1), .inl (cI, 40, .inl f_t_kinds)), ((a_t 2), .inl (cI, 40, .inl f_t_taken)), ((a_t 3), .inl (cL, 40, .inr (.inl f_t_rooms))), ((a_t 4), .inl (cL, 40, .inr (.inl f_t_litres))), ((a_t 5), .inl (cI, 40, .inl f_t_liquids)), ((a_t 6), .inl (cI, 40, .inl f_t_positions)), ((a_t 7), .inl (cI, 40, .inl f_t_sensors)), ((a_t 8), .inl (cI, 160, .inl f_t_ends))] sz) := by
  refine Met.ofW (cc := b_Mo_make) (maxL := 5) (ret := (some .int)) (by decide) rfl ?_
  intro p e s m args below meth c s₁ B hml hv
  obtain ⟨ha, hsz, hP, hK, hD0⟩ := hv
  have hx := B.exec
  have hb := B.bytes
  have hr := B.returns
  have hts0 := atoms_spec (ws := w_Mo_make) B.pre
  have hts : ∀ w ∈ tb, w.before args s = true := fun w h => hts0 w (List.mem_cons_of_mem _ h)
  have hown : s.vm.findClass R_Mo = some m.cls := findClass_of_methodNamed B.named
  have hlocks := B.notSynchronized
  subst hsz
  have hD := hD0.self (sz := s.heap.size)
  generalize hAe : va_A [(q_t, .inr (7, o_Mo a_t v_t_things v_t_pipes v_t_wide v_t_size v_t_place v_t_number v_t_thrown v_t_wish v_t_found)), ((a_t 1), .inl (cI, 40, .inl f_t_kinds)), ((a_t 2), .inl (cI, 40, .inl f_t_taken)), ((a_t 3), .inl (cL, 40, .inr (.inl f_t_rooms))), ((a_t 4), .inl (cL, 40, .inr (.inl f_t_litres))), ((a_t 5), .inl (cI, 40, .inl f_t_liquids)), ((a_t 6), .inl (cI, 40, .inl f_t_positions)), ((a_t 7), .inl (cI, 40, .inl f_t_sensors)), ((a_t 8), .inl (cI, 160, .inl f_t_ends))] s.heap.size = A at hD ⊢
  have hA : ∀ q : Nat, s.heap.size ≤ q → A q := fun q h => by rw [← hAe]; exact Or.inr h
  have hS : va_S A s.heap s.heap [] := va_S.rf
  have hP : va_P (dC, dI) classes [(q_t, .inr (7, o_Mo a_t v_t_things v_t_pipes v_t_wide v_t_size v_t_place v_t_number v_t_thrown v_t_wish v_t_found)), ((a_t 1), .inl (cI, 40, .inl f_t_kinds)), ((a_t 2), .inl (cI, 40, .inl f_t_taken)), ((a_t 3), .inl (cL, 40, .inr (.inl f_t_rooms))), ((a_t 4), .inl (cL, 40, .inr (.inl f_t_litres))), ((a_t 5), .inl (cI, 40, .inl f_t_liquids)), ((a_t 6), .inl (cI, 40, .inl f_t_positions)), ((a_t 7), .inl (cI, 40, .inl f_t_sensors)), ((a_t 8), .inl (cI, 160, .inl f_t_ends))] s.heap := hP
  have hl := lv_entry [.ref q_t, .int x1, .long x2] (n := 5) (Nat.le_of_ble_eq_true rfl)
  have he9 : entryFrame m args 5 = F0 m 0 ((lg_sl [.ref q_t, .int x1, .long x2] ++ List.replicate (5 - (lg_sl [.ref q_t, .int x1, .long x2]).length) Slot.unset).toArray) [] := by rw [ha]; exact lg_entry_eq _ _ _
  rw [he9]
  clear he9
  generalize (lg_sl [.ref q_t, .int x1, .long x2] ++ List.replicate (5 - (lg_sl [.ref q_t, .int x1, .long x2]).length) Slot.unset).toArray = ls at hl ⊢
  have hl : lv_has ls 5 [(0, .ref q_t), (1, .int x1), (2, .long x2)] := hl
  unfold wp_Mo_make at hw
  refine lv_aload_n hx hb d_Mo_make_0 rfl (lv_at hl 0 rfl) ?_
  refine va_get (D := (dC, dI)) (ci := 7) (v := .int v_t_things) (C := R_Mo) (T := F_Mo) (N := 29) hx hb hts i_Mo hown hK hP 0 rfl rfl 0 (by decide) (hts (Cond.fieldLink R_Mo 76 "PlantGraphModel" "things" "I") kw30_063c233) (fun _ h9 => h9) rfl d_Mo_make_1 ?_
  refine lv_bipush (v := 40) hx hb d_Mo_make_4 (by decide) ?_
  refine lv_icmp_ne (tgt := 12) hx hb d_Mo_make_6 (by decide) (fun c6 => ?_) (fun c6 => ?_)
  · replace hw := hw.1 c6
    refine lv_aload_n hx hb d_Mo_make_12 rfl (lv_at hl 0 rfl) ?_
    refine va_get (D := (dC, dI)) (ci := 7) (v := .ref (a_t 1)) (C := R_Mo) (T := F_Mo) (N := 29) hx hb hts i_Mo hown hK hP 0 rfl rfl 1 (by decide) (hts (Cond.fieldLink R_Mo 9 "PlantGraphModel" "kinds" "[I") kw30_cf02404) (fun _ h9 => h9) rfl d_Mo_make_13 ?_
    refine lv_aload_n hx hb d_Mo_make_16 rfl (lv_at hl 0 rfl) ?_
    refine va_get (D := (dC, dI)) (ci := 7) (v := .int v_t_things) (C := R_Mo) (T := F_Mo) (N := 29) hx hb hts i_Mo hown hK hP 0 rfl rfl 0 (by decide) (hts (Cond.fieldLink R_Mo 76 "PlantGraphModel" "things" "I") kw30_063c233) (fun _ h9 => h9) rfl d_Mo_make_17 ?_
    refine lv_iload_n hx hb d_Mo_make_20 rfl (lv_at hl 1 rfl) ?_
    refine va_iast hx hb hK hP hD hS 1 0 rfl rfl hw.1 d_Mo_make_21 (fun H locs hP hD hS => ?_)
    replace hw := hw.2
    have hP : va_P (dC, dI) classes [(q_t, .inr (7, o_Mo a_t v_t_things v_t_pipes v_t_wide v_t_size v_t_place v_t_number v_t_thrown v_t_wish v_t_found)), ((a_t 1), .inl (cI, 40, .inl (upd f_t_kinds v_t_things.toNatClampNeg x1))), ((a_t 2), .inl (cI, 40, .inl f_t_taken)), ((a_t 3), .inl (cL, 40, .inr (.inl f_t_rooms))), ((a_t 4), .inl (cL, 40, .inr (.inl f_t_litres))), ((a_t 5), .inl (cI, 40, .inl f_t_liquids)), ((a_t 6), .inl (cI, 40, .inl f_t_positions)), ((a_t 7), .inl (cI, 40, .inl f_t_sensors)), ((a_t 8), .inl (cI, 160, .inl f_t_ends))] H := hP
    have hD : va_D A [(q_t, .inr (7, o_Mo a_t v_t_things v_t_pipes v_t_wide v_t_size v_t_place v_t_number v_t_thrown v_t_wish v_t_found)), ((a_t 1), .inl (cI, 40, .inl (upd f_t_kinds v_t_things.toNatClampNeg x1))), ((a_t 2), .inl (cI, 40, .inl f_t_taken)), ((a_t 3), .inl (cL, 40, .inr (.inl f_t_rooms))), ((a_t 4), .inl (cL, 40, .inr (.inl f_t_litres))), ((a_t 5), .inl (cI, 40, .inl f_t_liquids)), ((a_t 6), .inl (cI, 40, .inl f_t_positions)), ((a_t 7), .inl (cI, 40, .inl f_t_sensors)), ((a_t 8), .inl (cI, 160, .inl f_t_ends))] := hD
    refine lv_aload_n hx hb d_Mo_make_22 rfl (lv_at hl 0 rfl) ?_
    refine va_get (D := (dC, dI)) (ci := 7) (v := .ref (a_t 2)) (C := R_Mo) (T := F_Mo) (N := 29) hx hb hts i_Mo hown hK hP 0 rfl rfl 2 (by decide) (hts (Cond.fieldLink R_Mo 13 "PlantGraphModel" "taken" "[I") kw30_775b56c) (fun _ h9 => h9) rfl d_Mo_make_23 ?_
    refine lv_aload_n hx hb d_Mo_make_26 rfl (lv_at hl 0 rfl) ?_
    refine va_get (D := (dC, dI)) (ci := 7) (v := .int v_t_things) (C := R_Mo) (T := F_Mo) (N := 29) hx hb hts i_Mo hown hK hP 0 rfl rfl 0 (by decide) (hts (Cond.fieldLink R_Mo 76 "PlantGraphModel" "things" "I") kw30_063c233) (fun _ h9 => h9) rfl d_Mo_make_27 ?_
    refine lv_iconst (v := 0) hx hb d_Mo_make_30 (by decide) ?_
    refine va_iast hx hb hK hP hD hS 2 0 rfl rfl hw.1 d_Mo_make_31 (fun H locs hP hD hS => ?_)
    replace hw := hw.2
    have hP : va_P (dC, dI) classes [(q_t, .inr (7, o_Mo a_t v_t_things v_t_pipes v_t_wide v_t_size v_t_place v_t_number v_t_thrown v_t_wish v_t_found)), ((a_t 1), .inl (cI, 40, .inl (upd f_t_kinds v_t_things.toNatClampNeg x1))), ((a_t 2), .inl (cI, 40, .inl (upd f_t_taken v_t_things.toNatClampNeg 0))), ((a_t 3), .inl (cL, 40, .inr (.inl f_t_rooms))), ((a_t 4), .inl (cL, 40, .inr (.inl f_t_litres))), ((a_t 5), .inl (cI, 40, .inl f_t_liquids)), ((a_t 6), .inl (cI, 40, .inl f_t_positions)), ((a_t 7), .inl (cI, 40, .inl f_t_sensors)), ((a_t 8), .inl (cI, 160, .inl f_t_ends))] H := hP
    have hD : va_D A [(q_t, .inr (7, o_Mo a_t v_t_things v_t_pipes v_t_wide v_t_size v_t_place v_t_number v_t_thrown v_t_wish v_t_found)), ((a_t 1), .inl (cI, 40, .inl (upd f_t_kinds v_t_things.toNatClampNeg x1))), ((a_t 2), .inl (cI, 40, .inl (upd f_t_taken v_t_things.toNatClampNeg 0))), ((a_t 3), .inl (cL, 40, .inr (.inl f_t_rooms))), ((a_t 4), .inl (cL, 40, .inr (.inl f_t_litres))), ((a_t 5), .inl (cI, 40, .inl f_t_liquids)), ((a_t 6), .inl (cI, 40, .inl f_t_positions)), ((a_t 7), .inl (cI, 40, .inl f_t_sensors)), ((a_t 8), .inl (cI, 160, .inl f_t_ends))] := hD
    refine lv_aload_n hx hb d_Mo_make_32 rfl (lv_at hl 0 rfl) ?_
    refine va_get (D := (dC, dI)) (ci := 7) (v := .ref (a_t 3)) (C := R_Mo) (T := F_Mo) (N := 29) hx hb hts i_Mo hown hK hP 0 rfl rfl 3 (by decide) (hts (Cond.fieldLink R_Mo 16 "PlantGraphModel" "rooms" "[J") kw30_3652779) (fun _ h9 => h9) rfl d_Mo_make_33 ?_
    refine lv_aload_n hx hb d_Mo_make_36 rfl (lv_at hl 0 rfl) ?_
    refine va_get (D := (dC, dI)) (ci := 7) (v := .int v_t_things) (C := R_Mo) (T := F_Mo) (N := 29) hx hb hts i_Mo hown hK hP 0 rfl rfl 0 (by decide) (hts (Cond.fieldLink R_Mo 76 "PlantGraphModel" "things" "I") kw30_063c233) (fun _ h9 => h9) rfl d_Mo_make_37 ?_
    refine lv_lload_n hx hb d_Mo_make_40 rfl (lv_at hl 2 rfl) ?_
    refine va_last hx hb hK hP hD hS 3 1 rfl rfl hw.1 d_Mo_make_41 (fun H locs hP hD hS => ?_)
    replace hw := hw.2
    have hP : va_P (dC, dI) classes [(q_t, .inr (7, o_Mo a_t v_t_things v_t_pipes v_t_wide v_t_size v_t_place v_t_number v_t_thrown v_t_wish v_t_found)), ((a_t 1), .inl (cI, 40, .inl (upd f_t_kinds v_t_things.toNatClampNeg x1))), ((a_t 2), .inl (cI, 40, .inl (upd f_t_taken v_t_things.toNatClampNeg 0))), ((a_t 3), .inl (cL, 40, .inr (.inl (vp_updL f_t_rooms v_t_things.toNatClampNeg x2)))), ((a_t 4), .inl (cL, 40, .inr (.inl f_t_litres))), ((a_t 5), .inl (cI, 40, .inl f_t_liquids)), ((a_t 6), .inl (cI, 40, .inl f_t_positions)), ((a_t 7), .inl (cI, 40, .inl f_t_sensors)), ((a_t 8), .inl (cI, 160, .inl f_t_ends))] H := hP
    have hD : va_D A [(q_t, .inr (7, o_Mo a_t v_t_things v_t_pipes v_t_wide v_t_size v_t_place v_t_number v_t_thrown v_t_wish v_t_found)), ((a_t 1), .inl (cI, 40, .inl (upd f_t_kinds v_t_things.toNatClampNeg x1))), ((a_t 2), .inl (cI, 40, .inl (upd f_t_taken v_t_things.toNatClampNeg 0))), ((a_t 3), .inl (cL, 40, .inr (.inl (vp_updL f_t_rooms v_t_things.toNatClampNeg x2)))), ((a_t 4), .inl (cL, 40, .inr (.inl f_t_litres))), ((a_t 5), .inl (cI, 40, .inl f_t_liquids)), ((a_t 6), .inl (cI, 40, .inl f_t_positions)), ((a_t 7), .inl (cI, 40, .inl f_t_sensors)), ((a_t 8), .inl (cI, 160, .inl f_t_ends))] := hD
    refine lv_aload_n hx hb d_Mo_make_42 rfl (lv_at hl 0 rfl) ?_
    refine va_get (D := (dC, dI)) (ci := 7) (v := .ref (a_t 4)) (C := R_Mo) (T := F_Mo) (N := 29) hx hb hts i_Mo hown hK hP 0 rfl rfl 4 (by decide) (hts (Cond.fieldLink R_Mo 20 "PlantGraphModel" "litres" "[J") kw30_ca8a8d8) (fun _ h9 => h9) rfl d_Mo_make_43 ?_
    refine lv_aload_n hx hb d_Mo_make_46 rfl (lv_at hl 0 rfl) ?_
    refine va_get (D := (dC, dI)) (ci := 7) (v := .int v_t_things) (C := R_Mo) (T := F_Mo) (N := 29) hx hb hts i_Mo hown hK hP 0 rfl rfl 0 (by decide) (hts (Cond.fieldLink R_Mo 76 "PlantGraphModel" "things" "I") kw30_063c233) (fun _ h9 => h9) rfl d_Mo_make_47 ?_
    refine lv_lconst (v := 0) hx hb d_Mo_make_50 (by decide) ?_
    refine va_last hx hb hK hP hD hS 4 1 rfl rfl hw.1 d_Mo_make_51 (fun H locs hP hD hS => ?_)
    replace hw := hw.2
    have hP : va_P (dC, dI) classes [(q_t, .inr (7, o_Mo a_t v_t_things v_t_pipes v_t_wide v_t_size v_t_place v_t_number v_t_thrown v_t_wish v_t_found)), ((a_t 1), .inl (cI, 40, .inl (upd f_t_kinds v_t_things.toNatClampNeg x1))), ((a_t 2), .inl (cI, 40, .inl (upd f_t_taken v_t_things.toNatClampNeg 0))), ((a_t 3), .inl (cL, 40, .inr (.inl (vp_updL f_t_rooms v_t_things.toNatClampNeg x2)))), ((a_t 4), .inl (cL, 40, .inr (.inl (vp_updL f_t_litres v_t_things.toNatClampNeg 0)))), ((a_t 5), .inl (cI, 40, .inl f_t_liquids)), ((a_t 6), .inl (cI, 40, .inl f_t_positions)), ((a_t 7), .inl (cI, 40, .inl f_t_sensors)), ((a_t 8), .inl (cI, 160, .inl f_t_ends))] H := hP
    have hD : va_D A [(q_t, .inr (7, o_Mo a_t v_t_things v_t_pipes v_t_wide v_t_size v_t_place v_t_number v_t_thrown v_t_wish v_t_found)), ((a_t 1), .inl (cI, 40, .inl (upd f_t_kinds v_t_things.toNatClampNeg x1))), ((a_t 2), .inl (cI, 40, .inl (upd f_t_taken v_t_things.toNatClampNeg 0))), ((a_t 3), .inl (cL, 40, .inr (.inl (vp_updL f_t_rooms v_t_things.toNatClampNeg x2)))), ((a_t 4), .inl (cL, 40, .inr (.inl (vp_updL f_t_litres v_t_things.toNatClampNeg 0)))), ((a_t 5), .inl (cI, 40, .inl f_t_liquids)), ((a_t 6), .inl (cI, 40, .inl f_t_positions)), ((a_t 7), .inl (cI, 40, .inl f_t_sensors)), ((a_t 8), .inl (cI, 160, .inl f_t_ends))] := hD
    refine lv_aload_n hx hb d_Mo_make_52 rfl (lv_at hl 0 rfl) ?_
    refine va_get (D := (dC, dI)) (ci := 7) (v := .ref (a_t 5)) (C := R_Mo) (T := F_Mo) (N := 29) hx hb hts i_Mo hown hK hP 0 rfl rfl 5 (by decide) (hts (Cond.fieldLink R_Mo 23 "PlantGraphModel" "liquids" "[I") kw30_39da439) (fun _ h9 => h9) rfl d_Mo_make_53 ?_
    refine lv_aload_n hx hb d_Mo_make_56 rfl (lv_at hl 0 rfl) ?_
    refine va_get (D := (dC, dI)) (ci := 7) (v := .int v_t_things) (C := R_Mo) (T := F_Mo) (N := 29) hx hb hts i_Mo hown hK hP 0 rfl rfl 0 (by decide) (hts (Cond.fieldLink R_Mo 76 "PlantGraphModel" "things" "I") kw30_063c233) (fun _ h9 => h9) rfl d_Mo_make_57 ?_
    refine lv_iconst (v := 0) hx hb d_Mo_make_60 (by decide) ?_
    refine va_iast hx hb hK hP hD hS 5 0 rfl rfl hw.1 d_Mo_make_61 (fun H locs hP hD hS => ?_)
    replace hw := hw.2
    have hP : va_P (dC, dI) classes [(q_t, .inr (7, o_Mo a_t v_t_things v_t_pipes v_t_wide v_t_size v_t_place v_t_number v_t_thrown v_t_wish v_t_found)), ((a_t 1), .inl (cI, 40, .inl (upd f_t_kinds v_t_things.toNatClampNeg x1))), ((a_t 2), .inl (cI, 40, .inl (upd f_t_taken v_t_things.toNatClampNeg 0))), ((a_t 3), .inl (cL, 40, .inr (.inl (vp_updL f_t_rooms v_t_things.toNatClampNeg x2)))), ((a_t 4), .inl (cL, 40, .inr (.inl (vp_updL f_t_litres v_t_things.toNatClampNeg 0)))), ((a_t 5), .inl (cI, 40, .inl (upd f_t_liquids v_t_things.toNatClampNeg 0))), ((a_t 6), .inl (cI, 40, .inl f_t_positions)), ((a_t 7), .inl (cI, 40, .inl f_t_sensors)), ((a_t 8), .inl (cI, 160, .inl f_t_ends))] H := hP
    have hD : va_D A [(q_t, .inr (7, o_Mo a_t v_t_things v_t_pipes v_t_wide v_t_size v_t_place v_t_number v_t_thrown v_t_wish v_t_found)), ((a_t 1), .inl (cI, 40, .inl (upd f_t_kinds v_t_things.toNatClampNeg x1))), ((a_t 2), .inl (cI, 40, .inl (upd f_t_taken v_t_things.toNatClampNeg 0))), ((a_t 3), .inl (cL, 40, .inr (.inl (vp_updL f_t_rooms v_t_things.toNatClampNeg x2)))), ((a_t 4), .inl (cL, 40, .inr (.inl (vp_updL f_t_litres v_t_things.toNatClampNeg 0)))), ((a_t 5), .inl (cI, 40, .inl (upd f_t_liquids v_t_things.toNatClampNeg 0))), ((a_t 6), .inl (cI, 40, .inl f_t_positions)), ((a_t 7), .inl (cI, 40, .inl f_t_sensors)), ((a_t 8), .inl (cI, 160, .inl f_t_ends))] := hD
    refine lv_aload_n hx hb d_Mo_make_62 rfl (lv_at hl 0 rfl) ?_
    refine va_get (D := (dC, dI)) (ci := 7) (v := .ref (a_t 6)) (C := R_Mo) (T := F_Mo) (N := 29) hx hb hts i_Mo hown hK hP 0 rfl rfl 6 (by decide) (hts (Cond.fieldLink R_Mo 26 "PlantGraphModel" "positions" "[I") kw30_6a57fc2) (fun _ h9 => h9) rfl d_Mo_make_63 ?_
    refine lv_aload_n hx hb d_Mo_make_66 rfl (lv_at hl 0 rfl) ?_
    refine va_get (D := (dC, dI)) (ci := 7) (v := .int v_t_things) (C := R_Mo) (T := F_Mo) (N := 29) hx hb hts i_Mo hown hK hP 0 rfl rfl 0 (by decide) (hts (Cond.fieldLink R_Mo 76 "PlantGraphModel" "things" "I") kw30_063c233) (fun _ h9 => h9) rfl d_Mo_make_67 ?_
    refine lv_iconst (v := 0) hx hb d_Mo_make_70 (by decide) ?_
    refine va_iast hx hb hK hP hD hS 6 0 rfl rfl hw.1 d_Mo_make_71 (fun H locs hP hD hS => ?_)
    replace hw := hw.2
    have hP : va_P (dC, dI) classes [(q_t, .inr (7, o_Mo a_t v_t_things v_t_pipes v_t_wide v_t_size v_t_place v_t_number v_t_thrown v_t_wish v_t_found)), ((a_t 1), .inl (cI, 40, .inl (upd f_t_kinds v_t_things.toNatClampNeg x1))), ((a_t 2), .inl (cI, 40, .inl (upd f_t_taken v_t_things.toNatClampNeg 0))), ((a_t 3), .inl (cL, 40, .inr (.inl (vp_updL f_t_rooms v_t_things.toNatClampNeg x2)))), ((a_t 4), .inl (cL, 40, .inr (.inl (vp_updL f_t_litres v_t_things.toNatClampNeg 0)))), ((a_t 5), .inl (cI, 40, .inl (upd f_t_liquids v_t_things.toNatClampNeg 0))), ((a_t 6), .inl (cI, 40, .inl (upd f_t_positions v_t_things.toNatClampNeg 0))), ((a_t 7), .inl (cI, 40, .inl f_t_sensors)), ((a_t 8), .inl (cI, 160, .inl f_t_ends))] H := hP
    have hD : va_D A [(q_t, .inr (7, o_Mo a_t v_t_things v_t_pipes v_t_wide v_t_size v_t_place v_t_number v_t_thrown v_t_wish v_t_found)), ((a_t 1), .inl (cI, 40, .inl (upd f_t_kinds v_t_things.toNatClampNeg x1))), ((a_t 2), .inl (cI, 40, .inl (upd f_t_taken v_t_things.toNatClampNeg 0))), ((a_t 3), .inl (cL, 40, .inr (.inl (vp_updL f_t_rooms v_t_things.toNatClampNeg x2)))), ((a_t 4), .inl (cL, 40, .inr (.inl (vp_updL f_t_litres v_t_things.toNatClampNeg 0)))), ((a_t 5), .inl (cI, 40, .inl (upd f_t_liquids v_t_things.toNatClampNeg 0))), ((a_t 6), .inl (cI, 40, .inl (upd f_t_positions v_t_things.toNatClampNeg 0))), ((a_t 7), .inl (cI, 40, .inl f_t_sensors)), ((a_t 8), .inl (cI, 160, .inl f_t_ends))] := hD
    refine lv_aload_n hx hb d_Mo_make_72 rfl (lv_at hl 0 rfl) ?_
    refine va_get (D := (dC, dI)) (ci := 7) (v := .ref (a_t 7)) (C := R_Mo) (T := F_Mo) (N := 29) hx hb hts i_Mo hown hK hP 0 rfl rfl 7 (by decide) (hts (Cond.fieldLink R_Mo 29 "PlantGraphModel" "sensors" "[I") kw30_f20414e) (fun _ h9 => h9) rfl d_Mo_make_73 ?_
    refine lv_aload_n hx hb d_Mo_make_76 rfl (lv_at hl 0 rfl) ?_
    refine va_get (D := (dC, dI)) (ci := 7) (v := .int v_t_things) (C := R_Mo) (T := F_Mo) (N := 29) hx hb hts i_Mo hown hK hP 0 rfl rfl 0 (by decide) (hts (Cond.fieldLink R_Mo 76 "PlantGraphModel" "things" "I") kw30_063c233) (fun _ h9 => h9) rfl d_Mo_make_77 ?_
    refine lv_iconst (v := (-1)) hx hb d_Mo_make_80 (by decide) ?_
    refine va_iast hx hb hK hP hD hS 7 0 rfl rfl hw.1 d_Mo_make_81 (fun H locs hP hD hS => ?_)
    replace hw := hw.2
    have hP : va_P (dC, dI) classes [(q_t, .inr (7, o_Mo a_t v_t_things v_t_pipes v_t_wide v_t_size v_t_place v_t_number v_t_thrown v_t_wish v_t_found)), ((a_t 1), .inl (cI, 40, .inl (upd f_t_kinds v_t_things.toNatClampNeg x1))), ((a_t 2), .inl (cI, 40, .inl (upd f_t_taken v_t_things.toNatClampNeg 0))), ((a_t 3), .inl (cL, 40, .inr (.inl (vp_updL f_t_rooms v_t_things.toNatClampNeg x2)))), ((a_t 4), .inl (cL, 40, .inr (.inl (vp_updL f_t_litres v_t_things.toNatClampNeg 0)))), ((a_t 5), .inl (cI, 40, .inl (upd f_t_liquids v_t_things.toNatClampNeg 0))), ((a_t 6), .inl (cI, 40, .inl (upd f_t_positions v_t_things.toNatClampNeg 0))), ((a_t 7), .inl (cI, 40, .inl (upd f_t_sensors v_t_things.toNatClampNeg (-1)))), ((a_t 8), .inl (cI, 160, .inl f_t_ends))] H := hP
    have hD : va_D A [(q_t, .inr (7, o_Mo a_t v_t_things v_t_pipes v_t_wide v_t_size v_t_place v_t_number v_t_thrown v_t_wish v_t_found)), ((a_t 1), .inl (cI, 40, .inl (upd f_t_kinds v_t_things.toNatClampNeg x1))), ((a_t 2), .inl (cI, 40, .inl (upd f_t_taken v_t_things.toNatClampNeg 0))), ((a_t 3), .inl (cL, 40, .inr (.inl (vp_updL f_t_rooms v_t_things.toNatClampNeg x2)))), ((a_t 4), .inl (cL, 40, .inr (.inl (vp_updL f_t_litres v_t_things.toNatClampNeg 0)))), ((a_t 5), .inl (cI, 40, .inl (upd f_t_liquids v_t_things.toNatClampNeg 0))), ((a_t 6), .inl (cI, 40, .inl (upd f_t_positions v_t_things.toNatClampNeg 0))), ((a_t 7), .inl (cI, 40, .inl (upd f_t_sensors v_t_things.toNatClampNeg (-1)))), ((a_t 8), .inl (cI, 160, .inl f_t_ends))] := hD
    refine lv_iconst (v := 0) hx hb d_Mo_make_82 (by decide) ?_
    refine lv_istore (lv' := [(4, .int 0), (0, .ref q_t), (1, .int x1), (2, .long x2)]) hx hb d_Mo_make_83 hl (by decide) rfl (fun ls hl => ?_)
    obtain ⟨n_85, hw⟩ := hw
    have EX_112 : ∀ (x4_L85 : Int32) (f_t_ends_L85 : (Nat → Int32)) (H : Heap) (locs : List Loc) (ls : Array Slot), va_P (dC, dI) classes [(q_t, .inr (7, o_Mo a_t v_t_things v_t_pipes v_t_wide v_t_size v_t_place v_t_number v_t_thrown v_t_wish v_t_found)), ((a_t 1), .inl (cI, 40, .inl (upd f_t_kinds v_t_things.toNatClampNeg x1))), ((a_t 2), .inl (cI, 40, .inl (upd f_t_taken v_t_things.toNatClampNeg 0))), ((a_t 3), .inl (cL, 40, .inr (.inl (vp_updL f_t_rooms v_t_things.toNatClampNeg x2)))), ((a_t 4), .inl (cL, 40, .inr (.inl (vp_updL f_t_litres v_t_things.toNatClampNeg 0)))), ((a_t 5), .inl (cI, 40, .inl (upd f_t_liquids v_t_things.toNatClampNeg 0))), ((a_t 6), .inl (cI, 40, .inl (upd f_t_positions v_t_things.toNatClampNeg 0))), ((a_t 7), .inl (cI, 40, .inl (upd f_t_sensors v_t_things.toNatClampNeg (-1)))), ((a_t 8), .inl (cI, 160, .inl f_t_ends_L85))] H → va_D A [(q_t, .inr (7, o_Mo a_t v_t_things v_t_pipes v_t_wide v_t_size v_t_place v_t_number v_t_thrown v_t_wish v_t_found)), ((a_t 1), .inl (cI, 40, .inl (upd f_t_kinds v_t_things.toNatClampNeg x1))), ((a_t 2), .inl (cI, 40, .inl (upd f_t_taken v_t_things.toNatClampNeg 0))), ((a_t 3), .inl (cL, 40, .inr (.inl (vp_updL f_t_rooms v_t_things.toNatClampNeg x2)))), ((a_t 4), .inl (cL, 40, .inr (.inl (vp_updL f_t_litres v_t_things.toNatClampNeg 0)))), ((a_t 5), .inl (cI, 40, .inl (upd f_t_liquids v_t_things.toNatClampNeg 0))), ((a_t 6), .inl (cI, 40, .inl (upd f_t_positions v_t_things.toNatClampNeg 0))), ((a_t 7), .inl (cI, 40, .inl (upd f_t_sensors v_t_things.toNatClampNeg (-1)))), ((a_t 8), .inl (cI, 160, .inl f_t_ends_L85))] → va_S A s.heap H locs → lv_has ls 5 [(0, .ref q_t), (4, .int x4_L85)] → wk_Mo_make_112_85 v_t_things f_t_kinds x1 f_t_taken f_t_rooms x2 f_t_litres f_t_liquids f_t_positions f_t_sensors P x4_L85 f_t_ends_L85 → W p l e (headSpec w_Mo_make rm_Mo_make).room s m args below meth c H locs 0 0 (MQ below (Q_Mo_make dC dI cI cL cB q_t a_t v_t_things v_t_pipes v_t_wide v_t_size v_t_place v_t_number v_t_thrown v_t_wish v_t_found f_t_kinds f_t_taken f_t_rooms f_t_litres f_t_liquids f_t_positions f_t_sensors f_t_ends x1 x2 P A) args s 0 0 A) (F0 m 112 ls []) := by
      intro x4_L85 f_t_ends_L85 H locs ls hP hD hS hl hw
      unfold wk_Mo_make_112_85 at hw
      refine lv_aload_n hx hb d_Mo_make_112 rfl (lv_at hl 0 rfl) ?_
      refine lv_dup hx hb d_Mo_make_113 rfl ?_
      refine va_get (D := (dC, dI)) (ci := 7) (v := .int v_t_things) (C := R_Mo) (T := F_Mo) (N := 29) hx hb hts i_Mo hown hK hP 0 rfl rfl 0 (by decide) (hts (Cond.fieldLink R_Mo 76 "PlantGraphModel" "things" "I") kw30_063c233) (fun _ h9 => h9) rfl d_Mo_make_114 ?_
      refine lv_iconst (v := 1) hx hb d_Mo_make_117 (by decide) ?_
      refine lv_iadd hx hb d_Mo_make_118 ?_
      refine va_put (D := (dC, dI)) (ci := 7) (v := .int (v_t_things + 1)) (ty := .int) (C := R_Mo) (T := F_Mo) (N := 29) hx hb hts i_Mo t_Mo t_Mo_ok n_Mo hown hK hP hD hS 0 rfl rfl 0 (by decide) (hts (Cond.fieldLink R_Mo 76 "PlantGraphModel" "things" "I") kw30_063c233) (fun _ h9 => h9) rfl (by decide +kernel) rfl rfl (Nat.le_of_ble_eq_true rfl) d_Mo_make_119 (fun H locs hP hD hS => ?_)
      have hP : va_P (dC, dI) classes [(q_t, .inr (7, o_Mo a_t (v_t_things + 1) v_t_pipes v_t_wide v_t_size v_t_place v_t_number v_t_thrown v_t_wish v_t_found)), ((a_t 1), .inl (cI, 40, .inl (upd f_t_kinds v_t_things.toNatClampNeg x1))), ((a_t 2), .inl (cI, 40, .inl (upd f_t_taken v_t_things.toNatClampNeg 0))), ((a_t 3), .inl (cL, 40, .inr (.inl (vp_updL f_t_rooms v_t_things.toNatClampNeg x2)))), ((a_t 4), .inl (cL, 40, .inr (.inl (vp_updL f_t_litres v_t_things.toNatClampNeg 0)))), ((a_t 5), .inl (cI, 40, .inl (upd f_t_liquids v_t_things.toNatClampNeg 0))), ((a_t 6), .inl (cI, 40, .inl (upd f_t_positions v_t_things.toNatClampNeg 0))), ((a_t 7), .inl (cI, 40, .inl (upd f_t_sensors v_t_things.toNatClampNeg (-1)))), ((a_t 8), .inl (cI, 160, .inl f_t_ends_L85))] H := hP
      have hD : va_D A [(q_t, .inr (7, o_Mo a_t (v_t_things + 1) v_t_pipes v_t_wide v_t_size v_t_place v_t_number v_t_thrown v_t_wish v_t_found)), ((a_t 1), .inl (cI, 40, .inl (upd f_t_kinds v_t_things.toNatClampNeg x1))), ((a_t 2), .inl (cI, 40, .inl (upd f_t_taken v_t_things.toNatClampNeg 0))), ((a_t 3), .inl (cL, 40, .inr (.inl (vp_updL f_t_rooms v_t_things.toNatClampNeg x2)))), ((a_t 4), .inl (cL, 40, .inr (.inl (vp_updL f_t_litres v_t_things.toNatClampNeg 0)))), ((a_t 5), .inl (cI, 40, .inl (upd f_t_liquids v_t_things.toNatClampNeg 0))), ((a_t 6), .inl (cI, 40, .inl (upd f_t_positions v_t_things.toNatClampNeg 0))), ((a_t 7), .inl (cI, 40, .inl (upd f_t_sensors v_t_things.toNatClampNeg (-1)))), ((a_t 8), .inl (cI, 160, .inl f_t_ends_L85))] := hD
      refine lv_aload_n hx hb d_Mo_make_122 rfl (lv_at hl 0 rfl) ?_
      refine va_get (D := (dC, dI)) (ci := 7) (v := .int (v_t_things + 1)) (C := R_Mo) (T := F_Mo) (N := 29) hx hb hts i_Mo hown hK hP 0 rfl rfl 0 (by decide) (hts (Cond.fieldLink R_Mo 76 "PlantGraphModel" "things" "I") kw30_063c233) (fun _ h9 => h9) rfl d_Mo_make_123 ?_
      refine lv_iconst (v := 1) hx hb d_Mo_make_126 (by decide) ?_
      refine lv_isub hx hb d_Mo_make_127 ?_
      exact W.iret (v := ((v_t_things + 1) - 1)) hx hb hr (fun t ht hW => ⟨⟨((v_t_things + 1) - 1), ((v_t_things + 1), (upd f_t_kinds v_t_things.toNatClampNeg x1), (upd f_t_taken v_t_things.toNatClampNeg 0), (vp_updL f_t_rooms v_t_things.toNatClampNeg x2), (vp_updL f_t_litres v_t_things.toNatClampNeg 0), (upd f_t_liquids v_t_things.toNatClampNeg 0), (upd f_t_positions v_t_things.toNatClampNeg 0), (upd f_t_sensors v_t_things.toNatClampNeg (-1)), f_t_ends_L85), rfl, hw, by rw [ht]; exact hP, va_K.moved hW.alike hK, hD⟩, hS.F ht⟩) hS.2.2 d_Mo_make_128
    have LP_85 : ∀ (k_85 : Nat) (x4_L85 : Int32) (f_t_ends_L85 : (Nat → Int32)) (H : Heap) (locs : List Loc) (ls : Array Slot), va_P (dC, dI) classes [(q_t, .inr (7, o_Mo a_t v_t_things v_t_pipes v_t_wide v_t_size v_t_place v_t_number v_t_thrown v_t_wish v_t_found)), ((a_t 1), .inl (cI, 40, .inl (upd f_t_kinds v_t_things.toNatClampNeg x1))), ((a_t 2), .inl (cI, 40, .inl (upd f_t_taken v_t_things.toNatClampNeg 0))), ((a_t 3), .inl (cL, 40, .inr (.inl (vp_updL f_t_rooms v_t_things.toNatClampNeg x2)))), ((a_t 4), .inl (cL, 40, .inr (.inl (vp_updL f_t_litres v_t_things.toNatClampNeg 0)))), ((a_t 5), .inl (cI, 40, .inl (upd f_t_liquids v_t_things.toNatClampNeg 0))), ((a_t 6), .inl (cI, 40, .inl (upd f_t_positions v_t_things.toNatClampNeg 0))), ((a_t 7), .inl (cI, 40, .inl (upd f_t_sensors v_t_things.toNatClampNeg (-1)))), ((a_t 8), .inl (cI, 160, .inl f_t_ends_L85))] H → va_D A [(q_t, .inr (7, o_Mo a_t v_t_things v_t_pipes v_t_wide v_t_size v_t_place v_t_number v_t_thrown v_t_wish v_t_found)), ((a_t 1), .inl (cI, 40, .inl (upd f_t_kinds v_t_things.toNatClampNeg x1))), ((a_t 2), .inl (cI, 40, .inl (upd f_t_taken v_t_things.toNatClampNeg 0))), ((a_t 3), .inl (cL, 40, .inr (.inl (vp_updL f_t_rooms v_t_things.toNatClampNeg x2)))), ((a_t 4), .inl (cL, 40, .inr (.inl (vp_updL f_t_litres v_t_things.toNatClampNeg 0)))), ((a_t 5), .inl (cI, 40, .inl (upd f_t_liquids v_t_things.toNatClampNeg 0))), ((a_t 6), .inl (cI, 40, .inl (upd f_t_positions v_t_things.toNatClampNeg 0))), ((a_t 7), .inl (cI, 40, .inl (upd f_t_sensors v_t_things.toNatClampNeg (-1)))), ((a_t 8), .inl (cI, 160, .inl f_t_ends_L85))] → va_S A s.heap H locs → lv_has ls 5 [(0, .ref q_t), (4, .int x4_L85)] → wl_Mo_make_85 v_t_things (wk_Mo_make_112_85 v_t_things f_t_kinds x1 f_t_taken f_t_rooms x2 f_t_litres f_t_liquids f_t_positions f_t_sensors P) k_85 x4_L85 f_t_ends_L85 → W p l e (headSpec w_Mo_make rm_Mo_make).room s m args below meth c H locs 0 0 (MQ below (Q_Mo_make dC dI cI cL cB q_t a_t v_t_things v_t_pipes v_t_wide v_t_size v_t_place v_t_number v_t_thrown v_t_wish v_t_found f_t_kinds f_t_taken f_t_rooms f_t_litres f_t_liquids f_t_positions f_t_sensors f_t_ends x1 x2 P A) args s 0 0 A) (F0 m 85 ls []) := by
      intro k_85
      induction k_85 with
      | zero => intro x4_L85 f_t_ends_L85 H locs ls hP hD hS hl hw; unfold wl_Mo_make_85 at hw; exact hw.elim
      | succ k_85 ih_85 =>
        intro x4_L85 f_t_ends_L85 H locs ls hP hD hS hl hw
        unfold wl_Mo_make_85 at hw
        refine lv_iload hx hb d_Mo_make_85 (lv_at hl 1 rfl) ?_
        refine lv_iconst (v := 4) hx hb d_Mo_make_87 (by decide) ?_
        refine lv_icmp_ge (tgt := 112) hx hb d_Mo_make_88 (by decide) (fun c88 => ?_) (fun c88 => ?_)
        · replace hw := hw.1 c88
          exact EX_112 x4_L85 f_t_ends_L85 H _ _ hP hD hS (lv_sub hl [0, 1] rfl) hw
        · replace hw := hw.2 c88
          refine lv_aload_n hx hb d_Mo_make_91 rfl (lv_at hl 0 rfl) ?_
          refine va_get (D := (dC, dI)) (ci := 7) (v := .ref (a_t 8)) (C := R_Mo) (T := F_Mo) (N := 29) hx hb hts i_Mo hown hK hP 0 rfl rfl 8 (by decide) (hts (Cond.fieldLink R_Mo 32 "PlantGraphModel" "ends" "[I") kw30_c603ba5) (fun _ h9 => h9) rfl d_Mo_make_92 ?_
          refine lv_iconst (v := 4) hx hb d_Mo_make_95 (by decide) ?_
          refine lv_aload_n hx hb d_Mo_make_96 rfl (lv_at hl 0 rfl) ?_
          refine va_get (D := (dC, dI)) (ci := 7) (v := .int v_t_things) (C := R_Mo) (T := F_Mo) (N := 29) hx hb hts i_Mo hown hK hP 0 rfl rfl 0 (by decide) (hts (Cond.fieldLink R_Mo 76 "PlantGraphModel" "things" "I") kw30_063c233) (fun _ h9 => h9) rfl d_Mo_make_97 ?_
          refine lv_imul hx hb d_Mo_make_100 ?_
          refine lv_iload hx hb d_Mo_make_101 (lv_at hl 1 rfl) ?_
          refine lv_iadd hx hb d_Mo_make_103 ?_
          refine lv_iconst (v := (-1)) hx hb d_Mo_make_104 (by decide) ?_
          refine va_iast hx hb hK hP hD hS 8 0 rfl rfl hw.1 d_Mo_make_105 (fun H locs hP hD hS => ?_)
          replace hw := hw.2
          have hP : va_P (dC, dI) classes [(q_t, .inr (7, o_Mo a_t v_t_things v_t_pipes v_t_wide v_t_size v_t_place v_t_number v_t_thrown v_t_wish v_t_found)), ((a_t 1), .inl (cI, 40, .inl (upd f_t_kinds v_t_things.toNatClampNeg x1))), ((a_t 2), .inl (cI, 40, .inl (upd f_t_taken v_t_things.toNatClampNeg 0))), ((a_t 3), .inl (cL, 40, .inr (.inl (vp_updL f_t_rooms v_t_things.toNatClampNeg x2)))), ((a_t 4), .inl (cL, 40, .inr (.inl (vp_updL f_t_litres v_t_things.toNatClampNeg 0)))), ((a_t 5), .inl (cI, 40, .inl (upd f_t_liquids v_t_things.toNatClampNeg 0))), ((a_t 6), .inl (cI, 40, .inl (upd f_t_positions v_t_things.toNatClampNeg 0))), ((a_t 7), .inl (cI, 40, .inl (upd f_t_sensors v_t_things.toNatClampNeg (-1)))), ((a_t 8), .inl (cI, 160, .inl (upd f_t_ends_L85 ((4 * v_t_things) + x4_L85).toNatClampNeg (-1))))] H := hP
          have hD : va_D A [(q_t, .inr (7, o_Mo a_t v_t_things v_t_pipes v_t_wide v_t_size v_t_place v_t_number v_t_thrown v_t_wish v_t_found)), ((a_t 1), .inl (cI, 40, .inl (upd f_t_kinds v_t_things.toNatClampNeg x1))), ((a_t 2), .inl (cI, 40, .inl (upd f_t_taken v_t_things.toNatClampNeg 0))), ((a_t 3), .inl (cL, 40, .inr (.inl (vp_updL f_t_rooms v_t_things.toNatClampNeg x2)))), ((a_t 4), .inl (cL, 40, .inr (.inl (vp_updL f_t_litres v_t_things.toNatClampNeg 0)))), ((a_t 5), .inl (cI, 40, .inl (upd f_t_liquids v_t_things.toNatClampNeg 0))), ((a_t 6), .inl (cI, 40, .inl (upd f_t_positions v_t_things.toNatClampNeg 0))), ((a_t 7), .inl (cI, 40, .inl (upd f_t_sensors v_t_things.toNatClampNeg (-1)))), ((a_t 8), .inl (cI, 160, .inl (upd f_t_ends_L85 ((4 * v_t_things) + x4_L85).toNatClampNeg (-1))))] := hD
          refine lv_iinc (v := (x4_L85 + 1)) (lv' := [(4, .int (x4_L85 + 1)), (0, .ref q_t)]) hx hb d_Mo_make_106 hl (k := 1) rfl rfl (by decide) rfl (fun ls hl => ?_)
          refine lv_goto (tgt := 85) hx hb d_Mo_make_109 (by decide) ?_
          exact ih_85 (x4_L85 + 1) (upd f_t_ends_L85 ((4 * v_t_things) + x4_L85).toNatClampNeg (-1)) H _ _ hP hD hS (lv_sub hl [1, 0] rfl) hw
    exact LP_85 n_85 0 f_t_ends H _ _ hP hD hS (lv_sub hl [1, 0] rfl) hw
  · replace hw := hw.2 c6
    refine lv_bipush (v := (-2)) hx hb d_Mo_make_9 (by decide) ?_
    exact W.iret (v := (-2)) hx hb hr (fun t ht hW => ⟨⟨(-2), (v_t_things, f_t_kinds, f_t_taken, f_t_rooms, f_t_litres, f_t_liquids, f_t_positions, f_t_sensors, f_t_ends), rfl, hw, by rw [ht]; exact hP, va_K.moved hW.alike hK, hD⟩, hS.F ht⟩) hS.2.2 d_Mo_make_11
def wp_Mo_tank (v_t_things : Int32) (v_t_thrown : Int32) (f_t_kinds : (Nat → Int32)) (f_t_taken : (Nat → Int32)) (f_t_rooms : (Nat → Int64)) (f_t_litres : (Nat → Int64)) (f_t_liquids : (Nat → Int32)) (f_t_positions : (Nat → Int32)) (f_t_sensors : (Nat → Int32)) (f_t_ends : (Nat → Int32)) (x1 : Int64) (P : Int32 → Int32 → Int32 → (Nat → Int32) → (Nat → Int32) → (Nat → Int64) → (Nat → Int64) → (Nat → Int32) → (Nat → Int32) → (Nat → Int32) → (Nat → Int32) → Prop) : Prop := (((lg_cmp x1 1) < 0 → P (-1) v_t_things 0 f_t_kinds f_t_taken f_t_rooms f_t_litres f_t_liquids f_t_positions f_t_sensors f_t_ends) ∧ (¬ (lg_cmp x1 1) < 0 → (((lg_cmp x1 100000) ≤ 0 → wp_Mo_make v_t_things f_t_kinds f_t_taken f_t_rooms f_t_litres f_t_liquids f_t_positions f_t_sensors f_t_ends 0 x1 (fun r26 v_t_things_c26 f_t_kinds_c26 f_t_taken_c26 f_t_rooms_c26 f_t_litres_c26 f_t_liquids_c26 f_t_positions_c26 f_t_sensors_c26 f_t_ends_c26 => P r26 v_t_things_c26 0 f_t_kinds_c26 f_t_taken_c26 f_t_rooms_c26 f_t_litres_c26 f_t_liquids_c26 f_t_positions_c26 f_t_sensors_c26 f_t_ends_c26)) ∧ (¬ (lg_cmp x1 100000) ≤ 0 → P (-1) v_t_things 0 f_t_kinds f_t_taken f_t_rooms f_t_litres f_t_liquids f_t_positions f_t_sensors f_t_ends))))
def w_Mo_tank : List Cond := .code y_Mo_tank b_Mo_tank 3 (some .int) :: tb
abbrev rm_Mo_tank : Room := { frames := 1, cells := 0, slots := 0, locals := 24 }
abbrev Q_Mo_tank (dC : Nat → ClassId) (dI : Nat → Nat → Nat) (cI cL cB : ClassId) (q_t : Nat) (a_t : Nat → Nat) (v_t_things : Int32) (v_t_pipes : Int32) (v_t_wide : Int32) (v_t_size : Int32) (v_t_place : Int32) (v_t_number : Int64) (v_t_thrown : Int32) (v_t_wish : Int32) (v_t_found : Int32) (f_t_kinds : (Nat → Int32)) (f_t_taken : (Nat → Int32)) (f_t_rooms : (Nat → Int64)) (f_t_litres : (Nat → Int64)) (f_t_liquids : (Nat → Int32)) (f_t_positions : (Nat → Int32)) (f_t_sensors : (Nat → Int32)) (f_t_ends : (Nat → Int32)) (x1 : Int64) (P : Int32 → Int32 → Int32 → (Nat → Int32) → (Nat → Int32) → (Nat → Int64) → (Nat → Int64) → (Nat → Int32) → (Nat → Int32) → (Nat → Int32) → (Nat → Int32) → Prop) (A : Nat → Prop) : Array Value → State → Outcome → State → Prop := va_Qi (fun (r : Int32) (u : Int32 × Int32 × (Nat → Int32) × (Nat → Int32) × (Nat → Int64) × (Nat → Int64) × (Nat → Int32) × (Nat → Int32) × (Nat → Int32) × (Nat → Int32)) => P r u.1 u.2.1 u.2.2.1 u.2.2.2.1 u.2.2.2.2.1 u.2.2.2.2.2.1 u.2.2.2.2.2.2.1 u.2.2.2.2.2.2.2.1 u.2.2.2.2.2.2.2.2.1 u.2.2.2.2.2.2.2.2.2) (fun u t => va_P (dC, dI) classes [(q_t, .inr (7, o_Mo a_t u.1 v_t_pipes v_t_wide v_t_size v_t_place v_t_number u.2.1 v_t_wish v_t_found)), ((a_t 1), .inl (cI, 40, .inl u.2.2.1)), ((a_t 2), .inl (cI, 40, .inl u.2.2.2.1)), ((a_t 3), .inl (cL, 40, .inr (.inl u.2.2.2.2.1))), ((a_t 4), .inl (cL, 40, .inr (.inl u.2.2.2.2.2.1))), ((a_t 5), .inl (cI, 40, .inl u.2.2.2.2.2.2.1)), ((a_t 6), .inl (cI, 40, .inl u.2.2.2.2.2.2.2.1)), ((a_t 7), .inl (cI, 40, .inl u.2.2.2.2.2.2.2.2.1)), ((a_t 8), .inl (cI, 160, .inl u.2.2.2.2.2.2.2.2.2))] t.heap ∧ va_K (dC, dI) classes [(cI, .int), (cL, .long), (cB, .byte)] t ∧ va_D A [(q_t, .inr (7, o_Mo a_t u.1 v_t_pipes v_t_wide v_t_size v_t_place v_t_number u.2.1 v_t_wish v_t_found)), ((a_t 1), .inl (cI, 40, .inl u.2.2.1)), ((a_t 2), .inl (cI, 40, .inl u.2.2.2.1)), ((a_t 3), .inl (cL, 40, .inr (.inl u.2.2.2.2.1))), ((a_t 4), .inl (cL, 40, .inr (.inl u.2.2.2.2.2.1))), ((a_t 5), .inl (cI, 40, .inl u.2.2.2.2.2.2.1)), ((a_t 6), .inl (cI, 40, .inl u.2.2.2.2.2.2.2.1)), ((a_t 7), .inl (cI, 40, .inl u.2.2.2.2.2.2.2.2.1)), ((a_t 8), .inl (cI, 160, .inl u.2.2.2.2.2.2.2.2.2))]) A
set_option maxHeartbeats 4000000 in
set_option maxRecDepth 100000 in
theorem c_Mo_tank (l : Launch) (dC : Nat → ClassId) (dI : Nat → Nat → Nat) (cI cL cB : ClassId) (q_t : Nat) (a_t : Nat → Nat) (sz : Nat) (v_t_things : Int32) (v_t_pipes : Int32) (v_t_wide : Int32) (v_t_size : Int32) (v_t_place : Int32) (v_t_number : Int64) (v_t_thrown : Int32) (v_t_wish : Int32) (v_t_found : Int32) (f_t_kinds : (Nat → Int32)) (f_t_taken : (Nat → Int32)) (f_t_rooms : (Nat → Int64)) (f_t_litres : (Nat → Int64)) (f_t_liquids : (Nat → Int32)) (f_t_positions : (Nat → Int32)) (f_t_sensors : (Nat → Int32)) (f_t_ends : (Nat → Int32)) (x1 : Int64) (P : Int32 → Int32 → Int32 → (Nat → Int32) → (Nat → Int32) → (Nat → Int64) → (Nat → Int64) → (Nat → Int32) → (Nat → Int32) → (Nat → Int32) → (Nat → Int32) → Prop) (hw : wp_Mo_tank v_t_things v_t_thrown f_t_kinds f_t_taken f_t_rooms f_t_litres f_t_liquids f_t_positions f_t_sensors f_t_ends x1 P) : Met l y_Mo_tank w_Mo_tank rm_Mo_tank (va_Pc [.ref q_t, .long x1] (fun U => U.heap.size = sz ∧ va_P (dC, dI) classes [(q_t, .inr (7, o_Mo a_t v_t_things v_t_pipes v_t_wide v_t_size v_t_place v_t_number v_t_thrown v_t_wish v_t_found)), ((a_t 1), .inl (cI, 40, .inl f_t_kinds)), ((a_t 2), .inl (cI, 40, .inl f_t_taken)), ((a_t 3), .inl (cL, 40, .inr (.inl f_t_rooms))), ((a_t 4), .inl (cL, 40, .inr (.inl f_t_litres))), ((a_t 5), .inl (cI, 40, .inl f_t_liquids)), ((a_t 6), .inl (cI, 40, .inl f_t_positions)), ((a_t 7), .inl (cI, 40, .inl f_t_sensors)), ((a_t 8), .inl (cI, 160, .inl f_t_ends))] U.heap ∧ va_K (dC, dI) classes [(cI, .int), (cL, .long), (cB, .byte)] U ∧ va_D (fun _ => True) [(q_t, .inr (7, o_Mo a_t v_t_things v_t_pipes v_t_wide v_t_size v_t_place v_t_number v_t_thrown v_t_wish v_t_found)), ((a_t 1), .inl (cI, 40, .inl f_t_kinds)), ((a_t 2), .inl (cI, 40, .inl f_t_taken)), ((a_t 3), .inl (cL, 40, .inr (.inl f_t_rooms))), ((a_t 4), .inl (cL, 40, .inr (.inl f_t_litres))), ((a_t 5), .inl (cI, 40, .inl f_t_liquids)), ((a_t 6), .inl (cI, 40, .inl f_t_positions)), ((a_t 7), .inl (cI, 40, .inl f_t_sensors)), ((a_t 8), .inl (cI, 160, .inl f_t_ends))])) (Q_Mo_tank dC dI cI cL cB q_t a_t v_t_things v_t_pipes v_t_wide v_t_size v_t_place v_t_number v_t_thrown v_t_wish v_t_found f_t_kinds f_t_taken f_t_rooms f_t_litres f_t_liquids f_t_positions f_t_sensors f_t_ends x1 P (va_A [(q_t, .inr (7, o_Mo a_t v_t_things v_t_pipes v_t_wide v_t_size v_t_place v_t_number v_t_thrown v_t_wish v_t_found)), ((a_t 1), .inl (cI, 40, .inl f_t_kinds)), ((a_t 2), .inl (cI, 40, .inl f_t_taken)), ((a_t 3), .inl (cL, 40, .inr (.inl f_t_rooms))), ((a_t 4), .inl (cL, 40, .inr (.inl f_t_litres))), ((a_t 5), .inl (cI, 40, .inl f_t_liquids)), ((a_t 6), .inl (cI, 40, .inl f_t_positions)), ((a_t 7), .inl (cI, 40, .inl f_t_sensors)), ((a_t 8), .inl (cI, 160, .inl f_t_ends))] sz)) 0 0 (va_A [(q_t, .inr (7, o_Mo a_t v_t_things v_t_pipes v_t_wide v_t_size v_t_place v_t_number v_t_thrown v_t_wish v_t_found)), ((a_t 1), .inl (cI, 40, .inl f_t_kinds)), ((a_t 2), .inl (cI, 40, .inl f_t_taken)), ((a_t 3), .inl (cL, 40, .inr (.inl f_t_rooms))), ((a_t 4), .inl (cL, 40, .inr (.inl f_t_litres))), ((a_t 5), .inl (cI, 40, .inl f_t_liquids)), ((a_t 6), .inl (cI, 40, .inl f_t_positions)), ((a_t 7), .inl (cI, 40, .inl f_t_sensors)), ((a_t 8), .inl (cI, 160, .inl f_t_ends))] sz) := by
  refine Met.ofW (cc := b_Mo_tank) (maxL := 3) (ret := (some .int)) (by decide) rfl ?_
  intro p e s m args below meth c s₁ B hml hv
  obtain ⟨ha, hsz, hP, hK, hD0⟩ := hv
  have hx := B.exec
  have hb := B.bytes
  have hr := B.returns
  have hts0 := atoms_spec (ws := w_Mo_tank) B.pre
  have hts : ∀ w ∈ tb, w.before args s = true := fun w h => hts0 w (List.mem_cons_of_mem _ h)
  have hown : s.vm.findClass R_Mo = some m.cls := findClass_of_methodNamed B.named
  have hlocks := B.notSynchronized
  subst hsz
  have hD := hD0.self (sz := s.heap.size)
  generalize hAe : va_A [(q_t, .inr (7, o_Mo a_t v_t_things v_t_pipes v_t_wide v_t_size v_t_place v_t_number v_t_thrown v_t_wish v_t_found)), ((a_t 1), .inl (cI, 40, .inl f_t_kinds)), ((a_t 2), .inl (cI, 40, .inl f_t_taken)), ((a_t 3), .inl (cL, 40, .inr (.inl f_t_rooms))), ((a_t 4), .inl (cL, 40, .inr (.inl f_t_litres))), ((a_t 5), .inl (cI, 40, .inl f_t_liquids)), ((a_t 6), .inl (cI, 40, .inl f_t_positions)), ((a_t 7), .inl (cI, 40, .inl f_t_sensors)), ((a_t 8), .inl (cI, 160, .inl f_t_ends))] s.heap.size = A at hD ⊢
  have hA : ∀ q : Nat, s.heap.size ≤ q → A q := fun q h => by rw [← hAe]; exact Or.inr h
  have hS : va_S A s.heap s.heap [] := va_S.rf
  have hP : va_P (dC, dI) classes [(q_t, .inr (7, o_Mo a_t v_t_things v_t_pipes v_t_wide v_t_size v_t_place v_t_number v_t_thrown v_t_wish v_t_found)), ((a_t 1), .inl (cI, 40, .inl f_t_kinds)), ((a_t 2), .inl (cI, 40, .inl f_t_taken)), ((a_t 3), .inl (cL, 40, .inr (.inl f_t_rooms))), ((a_t 4), .inl (cL, 40, .inr (.inl f_t_litres))), ((a_t 5), .inl (cI, 40, .inl f_t_liquids)), ((a_t 6), .inl (cI, 40, .inl f_t_positions)), ((a_t 7), .inl (cI, 40, .inl f_t_sensors)), ((a_t 8), .inl (cI, 160, .inl f_t_ends))] s.heap := hP
  have hl := lv_entry [.ref q_t, .long x1] (n := 3) (Nat.le_of_ble_eq_true rfl)
  have he9 : entryFrame m args 3 = F0 m 0 ((lg_sl [.ref q_t, .long x1] ++ List.replicate (3 - (lg_sl [.ref q_t, .long x1]).length) Slot.unset).toArray) [] := by rw [ha]; exact lg_entry_eq _ _ _
  rw [he9]
  clear he9
  generalize (lg_sl [.ref q_t, .long x1] ++ List.replicate (3 - (lg_sl [.ref q_t, .long x1]).length) Slot.unset).toArray = ls at hl ⊢
  have hl : lv_has ls 3 [(0, .ref q_t), (1, .long x1)] := hl
  unfold wp_Mo_tank at hw
  refine lv_aload_n hx hb d_Mo_tank_0 rfl (lv_at hl 0 rfl) ?_
  refine lv_iconst (v := 0) hx hb d_Mo_tank_1 (by decide) ?_
  refine va_put (D := (dC, dI)) (ci := 7) (v := .int 0) (ty := .int) (C := R_Mo) (T := F_Mo) (N := 29) hx hb hts i_Mo t_Mo t_Mo_ok n_Mo hown hK hP hD hS 0 rfl rfl 26 (by decide) (hts (Cond.fieldLink R_Mo 72 "PlantGraphModel" "thrown" "I") kw30_6501a0b) (fun _ h9 => h9) rfl (by decide +kernel) rfl rfl (Nat.le_of_ble_eq_true rfl) d_Mo_tank_2 (fun H locs hP hD hS => ?_)
  have hP : va_P (dC, dI) classes [(q_t, .inr (7, o_Mo a_t v_t_things v_t_pipes v_t_wide v_t_size v_t_place v_t_number 0 v_t_wish v_t_found)), ((a_t 1), .inl (cI, 40, .inl f_t_kinds)), ((a_t 2), .inl (cI, 40, .inl f_t_taken)), ((a_t 3), .inl (cL, 40, .inr (.inl f_t_rooms))), ((a_t 4), .inl (cL, 40, .inr (.inl f_t_litres))), ((a_t 5), .inl (cI, 40, .inl f_t_liquids)), ((a_t 6), .inl (cI, 40, .inl f_t_positions)), ((a_t 7), .inl (cI, 40, .inl f_t_sensors)), ((a_t 8), .inl (cI, 160, .inl f_t_ends))] H := hP
  have hD : va_D A [(q_t, .inr (7, o_Mo a_t v_t_things v_t_pipes v_t_wide v_t_size v_t_place v_t_number 0 v_t_wish v_t_found)), ((a_t 1), .inl (cI, 40, .inl f_t_kinds)), ((a_t 2), .inl (cI, 40, .inl f_t_taken)), ((a_t 3), .inl (cL, 40, .inr (.inl f_t_rooms))), ((a_t 4), .inl (cL, 40, .inr (.inl f_t_litres))), ((a_t 5), .inl (cI, 40, .inl f_t_liquids)), ((a_t 6), .inl (cI, 40, .inl f_t_positions)), ((a_t 7), .inl (cI, 40, .inl f_t_sensors)), ((a_t 8), .inl (cI, 160, .inl f_t_ends))] := hD
  refine lv_lload_n hx hb d_Mo_tank_5 rfl (lv_at hl 1 rfl) ?_
  refine lv_lconst (v := 1) hx hb d_Mo_tank_6 (by decide) ?_
  refine W.lcmp hx hb d_Mo_tank_7 ?_
  refine lv_if_lt (tgt := 19) hx hb d_Mo_tank_8 (by decide) (fun c8 => ?_) (fun c8 => ?_)
  · replace hw := hw.1 c8
    refine lv_iconst (v := (-1)) hx hb d_Mo_tank_19 (by decide) ?_
    refine lv_goto (tgt := 29) hx hb d_Mo_tank_20 (by decide) ?_
    exact W.iret (v := (-1)) hx hb hr (fun t ht hW => ⟨⟨(-1), (v_t_things, 0, f_t_kinds, f_t_taken, f_t_rooms, f_t_litres, f_t_liquids, f_t_positions, f_t_sensors, f_t_ends), rfl, hw, by rw [ht]; exact hP, va_K.moved hW.alike hK, hD⟩, hS.F ht⟩) hS.2.2 d_Mo_tank_29
  · replace hw := hw.2 c8
    refine lv_lload_n hx hb d_Mo_tank_11 rfl (lv_at hl 1 rfl) ?_
    refine lv_ldc2 (v := 100000) hx hb hown (hts (Cond.constantLong R_Mo 79 100000) kw30_8ce1ef1) d_Mo_tank_12 ?_
    refine W.lcmp hx hb d_Mo_tank_15 ?_
    refine lv_if_le (tgt := 23) hx hb d_Mo_tank_16 (by decide) (fun c16 => ?_) (fun c16 => ?_)
    · replace hw := hw.1 c16
      refine lv_aload_n hx hb d_Mo_tank_23 rfl (lv_at hl 0 rfl) ?_
      refine lv_iconst (v := 0) hx hb d_Mo_tank_24 (by decide) ?_
      refine lv_lload_n hx hb d_Mo_tank_25 rfl (lv_at hl 1 rfl) ?_
      have hPc := hP.sub (ws' := [(q_t, .inr (7, o_Mo a_t v_t_things v_t_pipes v_t_wide v_t_size v_t_place v_t_number 0 v_t_wish v_t_found)), ((a_t 1), .inl (cI, 40, .inl f_t_kinds)), ((a_t 2), .inl (cI, 40, .inl f_t_taken)), ((a_t 3), .inl (cL, 40, .inr (.inl f_t_rooms))), ((a_t 4), .inl (cL, 40, .inr (.inl f_t_litres))), ((a_t 5), .inl (cI, 40, .inl f_t_liquids)), ((a_t 6), .inl (cI, 40, .inl f_t_positions)), ((a_t 7), .inl (cI, 40, .inl f_t_sensors)), ((a_t 8), .inl (cI, 160, .inl f_t_ends))]) [0, 1, 2, 3, 4, 5, 6, 7, 8] rfl
      have hDc := hD.sub (ws' := [(q_t, .inr (7, o_Mo a_t v_t_things v_t_pipes v_t_wide v_t_size v_t_place v_t_number 0 v_t_wish v_t_found)), ((a_t 1), .inl (cI, 40, .inl f_t_kinds)), ((a_t 2), .inl (cI, 40, .inl f_t_taken)), ((a_t 3), .inl (cL, 40, .inr (.inl f_t_rooms))), ((a_t 4), .inl (cL, 40, .inr (.inl f_t_litres))), ((a_t 5), .inl (cI, 40, .inl f_t_liquids)), ((a_t 6), .inl (cI, 40, .inl f_t_positions)), ((a_t 7), .inl (cI, 40, .inl f_t_sensors)), ((a_t 8), .inl (cI, 160, .inl f_t_ends))]) [0, 1, 2, 3, 4, 5, 6, 7, 8] (by decide) rfl
      have hFc := va_free (wc := [(q_t, .inr (7, o_Mo a_t v_t_things v_t_pipes v_t_wide v_t_size v_t_place v_t_number 0 v_t_wish v_t_found)), ((a_t 1), .inl (cI, 40, .inl f_t_kinds)), ((a_t 2), .inl (cI, 40, .inl f_t_taken)), ((a_t 3), .inl (cL, 40, .inr (.inl f_t_rooms))), ((a_t 4), .inl (cL, 40, .inr (.inl f_t_litres))), ((a_t 5), .inl (cI, 40, .inl f_t_liquids)), ((a_t 6), .inl (cI, 40, .inl f_t_positions)), ((a_t 7), .inl (cI, 40, .inl f_t_sensors)), ((a_t 8), .inl (cI, 160, .inl f_t_ends))]) hD hS hA [0, 1, 2, 3, 4, 5, 6, 7, 8] rfl
      refine va_calli (va_runV (As := [.int 0, .long x1]) (rest := []) ⟨hx, hb, hml, hown, hts⟩ (c_Mo_make l dC dI cI cL cB q_t a_t H.size v_t_things v_t_pipes v_t_wide v_t_size v_t_place v_t_number 0 v_t_wish v_t_found f_t_kinds f_t_taken f_t_rooms f_t_litres f_t_liquids f_t_positions f_t_sensors f_t_ends 0 x1 _ hw) (my_cwV 2 hts kw30_64baf7e kw30_9b67bc9 kw30_2545d1d kw30_7a5931c kw30_a7c7078 rfl rfl (by decide +kernel) ⟨Nat.le_of_ble_eq_true rfl, Nat.le_of_ble_eq_true rfl⟩) ⟨fun a U g mk q => by obtain ⟨q0, q1, qP, qK, qD⟩ := q; exact ⟨q0, q1, qP, va_K.moved (u := U) (U := U.calling g mk a) (Vm.Alike.refl U.vm) qK, qD⟩, va_recv hK hP (ci := 7) (q0 := 0) rfl rfl, fun U hU hW => ⟨rfl, by rw [hU], by rw [hU]; exact hPc, va_K.moved hW.alike hK, hDc.weaken (fun _ _ _ _ => trivial)⟩⟩ rfl rfl hl.1 rfl (lv_room (Nat.le_of_ble_eq_true rfl)) d_Mo_tank_26 ⟨Nat.zero_le _, Nat.zero_le _⟩) hS (fun q _ h => hFc q h) hFc (fun r26 u t H locs ht hvm hw hB hz1 hk1 hS => ?_)
      obtain ⟨v_t_things_c26, f_t_kinds_c26, f_t_taken_c26, f_t_rooms_c26, f_t_litres_c26, f_t_liquids_c26, f_t_positions_c26, f_t_sensors_c26, f_t_ends_c26⟩ := u
      obtain ⟨hP1, hK1, hD1⟩ := hB
      rw [ht] at hP1
      obtain ⟨hP, hD⟩ := va_join (wr := []) (w1 := [(q_t, .inr (7, o_Mo a_t v_t_things_c26 v_t_pipes v_t_wide v_t_size v_t_place v_t_number 0 v_t_wish v_t_found)), ((a_t 1), .inl (cI, 40, .inl f_t_kinds_c26)), ((a_t 2), .inl (cI, 40, .inl f_t_taken_c26)), ((a_t 3), .inl (cL, 40, .inr (.inl f_t_rooms_c26))), ((a_t 4), .inl (cL, 40, .inr (.inl f_t_litres_c26))), ((a_t 5), .inl (cI, 40, .inl f_t_liquids_c26)), ((a_t 6), .inl (cI, 40, .inl f_t_positions_c26)), ((a_t 7), .inl (cI, 40, .inl f_t_sensors_c26)), ((a_t 8), .inl (cI, 160, .inl f_t_ends_c26))]) hP hD [0, 1, 2, 3, 4, 5, 6, 7, 8] [] rfl rfl (by decide) (by decide) hk1 hFc hP1 hD1
      have hP : va_P (dC, dI) classes [(q_t, .inr (7, o_Mo a_t v_t_things_c26 v_t_pipes v_t_wide v_t_size v_t_place v_t_number 0 v_t_wish v_t_found)), ((a_t 1), .inl (cI, 40, .inl f_t_kinds_c26)), ((a_t 2), .inl (cI, 40, .inl f_t_taken_c26)), ((a_t 3), .inl (cL, 40, .inr (.inl f_t_rooms_c26))), ((a_t 4), .inl (cL, 40, .inr (.inl f_t_litres_c26))), ((a_t 5), .inl (cI, 40, .inl f_t_liquids_c26)), ((a_t 6), .inl (cI, 40, .inl f_t_positions_c26)), ((a_t 7), .inl (cI, 40, .inl f_t_sensors_c26)), ((a_t 8), .inl (cI, 160, .inl f_t_ends_c26))] H := hP.sub (ws' := [(q_t, .inr (7, o_Mo a_t v_t_things_c26 v_t_pipes v_t_wide v_t_size v_t_place v_t_number 0 v_t_wish v_t_found)), ((a_t 1), .inl (cI, 40, .inl f_t_kinds_c26)), ((a_t 2), .inl (cI, 40, .inl f_t_taken_c26)), ((a_t 3), .inl (cL, 40, .inr (.inl f_t_rooms_c26))), ((a_t 4), .inl (cL, 40, .inr (.inl f_t_litres_c26))), ((a_t 5), .inl (cI, 40, .inl f_t_liquids_c26)), ((a_t 6), .inl (cI, 40, .inl f_t_positions_c26)), ((a_t 7), .inl (cI, 40, .inl f_t_sensors_c26)), ((a_t 8), .inl (cI, 160, .inl f_t_ends_c26))]) [0, 1, 2, 3, 4, 5, 6, 7, 8] rfl
      have hD : va_D A [(q_t, .inr (7, o_Mo a_t v_t_things_c26 v_t_pipes v_t_wide v_t_size v_t_place v_t_number 0 v_t_wish v_t_found)), ((a_t 1), .inl (cI, 40, .inl f_t_kinds_c26)), ((a_t 2), .inl (cI, 40, .inl f_t_taken_c26)), ((a_t 3), .inl (cL, 40, .inr (.inl f_t_rooms_c26))), ((a_t 4), .inl (cL, 40, .inr (.inl f_t_litres_c26))), ((a_t 5), .inl (cI, 40, .inl f_t_liquids_c26)), ((a_t 6), .inl (cI, 40, .inl f_t_positions_c26)), ((a_t 7), .inl (cI, 40, .inl f_t_sensors_c26)), ((a_t 8), .inl (cI, 160, .inl f_t_ends_c26))] := hD.sub (ws' := [(q_t, .inr (7, o_Mo a_t v_t_things_c26 v_t_pipes v_t_wide v_t_size v_t_place v_t_number 0 v_t_wish v_t_found)), ((a_t 1), .inl (cI, 40, .inl f_t_kinds_c26)), ((a_t 2), .inl (cI, 40, .inl f_t_taken_c26)), ((a_t 3), .inl (cL, 40, .inr (.inl f_t_rooms_c26))), ((a_t 4), .inl (cL, 40, .inr (.inl f_t_litres_c26))), ((a_t 5), .inl (cI, 40, .inl f_t_liquids_c26)), ((a_t 6), .inl (cI, 40, .inl f_t_positions_c26)), ((a_t 7), .inl (cI, 40, .inl f_t_sensors_c26)), ((a_t 8), .inl (cI, 160, .inl f_t_ends_c26))]) [0, 1, 2, 3, 4, 5, 6, 7, 8] (by decide) rfl
      exact W.iret (v := r26) hx hb hr (fun t ht hW => ⟨⟨r26, (v_t_things_c26, 0, f_t_kinds_c26, f_t_taken_c26, f_t_rooms_c26, f_t_litres_c26, f_t_liquids_c26, f_t_positions_c26, f_t_sensors_c26, f_t_ends_c26), rfl, hw, by rw [ht]; exact hP, va_K.moved hW.alike hK, hD⟩, hS.F ht⟩) hS.2.2 d_Mo_tank_29
    · replace hw := hw.2 c16
      refine lv_iconst (v := (-1)) hx hb d_Mo_tank_19 (by decide) ?_
      refine lv_goto (tgt := 29) hx hb d_Mo_tank_20 (by decide) ?_
      exact W.iret (v := (-1)) hx hb hr (fun t ht hW => ⟨⟨(-1), (v_t_things, 0, f_t_kinds, f_t_taken, f_t_rooms, f_t_litres, f_t_liquids, f_t_positions, f_t_sensors, f_t_ends), rfl, hw, by rw [ht]; exact hP, va_K.moved hW.alike hK, hD⟩, hS.F ht⟩) hS.2.2 d_Mo_tank_29
def wp_Mo_pump (v_t_things : Int32) (v_t_thrown : Int32) (f_t_kinds : (Nat → Int32)) (f_t_taken : (Nat → Int32)) (f_t_rooms : (Nat → Int64)) (f_t_litres : (Nat → Int64)) (f_t_liquids : (Nat → Int32)) (f_t_positions : (Nat → Int32)) (f_t_sensors : (Nat → Int32)) (f_t_ends : (Nat → Int32)) (P : Int32 → Int32 → Int32 → (Nat → Int32) → (Nat → Int32) → (Nat → Int64) → (Nat → Int64) → (Nat → Int32) → (Nat → Int32) → (Nat → Int32) → (Nat → Int32) → Prop) : Prop := wp_Mo_make v_t_things f_t_kinds f_t_taken f_t_rooms f_t_litres f_t_liquids f_t_positions f_t_sensors f_t_ends 1 0 (fun r8 v_t_things_c8 f_t_kinds_c8 f_t_taken_c8 f_t_rooms_c8 f_t_litres_c8 f_t_liquids_c8 f_t_positions_c8 f_t_sensors_c8 f_t_ends_c8 => P r8 v_t_things_c8 0 f_t_kinds_c8 f_t_taken_c8 f_t_rooms_c8 f_t_litres_c8 f_t_liquids_c8 f_t_positions_c8 f_t_sensors_c8 f_t_ends_c8)
def w_Mo_pump : List Cond := .code y_Mo_pump b_Mo_pump 1 (some .int) :: tb
abbrev rm_Mo_pump : Room := { frames := 1, cells := 0, slots := 0, locals := 24 }
abbrev Q_Mo_pump (dC : Nat → ClassId) (dI : Nat → Nat → Nat) (cI cL cB : ClassId) (q_t : Nat) (a_t : Nat → Nat) (v_t_things : Int32) (v_t_pipes : Int32) (v_t_wide : Int32) (v_t_size : Int32) (v_t_place : Int32) (v_t_number : Int64) (v_t_thrown : Int32) (v_t_wish : Int32) (v_t_found : Int32) (f_t_kinds : (Nat → Int32)) (f_t_taken : (Nat → Int32)) (f_t_rooms : (Nat → Int64)) (f_t_litres : (Nat → Int64)) (f_t_liquids : (Nat → Int32)) (f_t_positions : (Nat → Int32)) (f_t_sensors : (Nat → Int32)) (f_t_ends : (Nat → Int32)) (P : Int32 → Int32 → Int32 → (Nat → Int32) → (Nat → Int32) → (Nat → Int64) → (Nat → Int64) → (Nat → Int32) → (Nat → Int32) → (Nat → Int32) → (Nat → Int32) → Prop) (A : Nat → Prop) : Array Value → State → Outcome → State → Prop := va_Qi (fun (r : Int32) (u : Int32 × Int32 × (Nat → Int32) × (Nat → Int32) × (Nat → Int64) × (Nat → Int64) × (Nat → Int32) × (Nat → Int32) × (Nat → Int32) × (Nat → Int32)) => P r u.1 u.2.1 u.2.2.1 u.2.2.2.1 u.2.2.2.2.1 u.2.2.2.2.2.1 u.2.2.2.2.2.2.1 u.2.2.2.2.2.2.2.1 u.2.2.2.2.2.2.2.2.1 u.2.2.2.2.2.2.2.2.2) (fun u t => va_P (dC, dI) classes [(q_t, .inr (7, o_Mo a_t u.1 v_t_pipes v_t_wide v_t_size v_t_place v_t_number u.2.1 v_t_wish v_t_found)), ((a_t 1), .inl (cI, 40, .inl u.2.2.1)), ((a_t 2), .inl (cI, 40, .inl u.2.2.2.1)), ((a_t 3), .inl (cL, 40, .inr (.inl u.2.2.2.2.1))), ((a_t 4), .inl (cL, 40, .inr (.inl u.2.2.2.2.2.1))), ((a_t 5), .inl (cI, 40, .inl u.2.2.2.2.2.2.1)), ((a_t 6), .inl (cI, 40, .inl u.2.2.2.2.2.2.2.1)), ((a_t 7), .inl (cI, 40, .inl u.2.2.2.2.2.2.2.2.1)), ((a_t 8), .inl (cI, 160, .inl u.2.2.2.2.2.2.2.2.2))] t.heap ∧ va_K (dC, dI) classes [(cI, .int), (cL, .long), (cB, .byte)] t ∧ va_D A [(q_t, .inr (7, o_Mo a_t u.1 v_t_pipes v_t_wide v_t_size v_t_place v_t_number u.2.1 v_t_wish v_t_found)), ((a_t 1), .inl (cI, 40, .inl u.2.2.1)), ((a_t 2), .inl (cI, 40, .inl u.2.2.2.1)), ((a_t 3), .inl (cL, 40, .inr (.inl u.2.2.2.2.1))), ((a_t 4), .inl (cL, 40, .inr (.inl u.2.2.2.2.2.1))), ((a_t 5), .inl (cI, 40, .inl u.2.2.2.2.2.2.1)), ((a_t 6), .inl (cI, 40, .inl u.2.2.2.2.2.2.2.1)), ((a_t 7), .inl (cI, 40, .inl u.2.2.2.2.2.2.2.2.1)), ((a_t 8), .inl (cI, 160, .inl u.2.2.2.2.2.2.2.2.2))]) A
set_option maxHeartbeats 4000000 in
set_option maxRecDepth 100000 in
theorem c_Mo_pump (l : Launch) (dC : Nat → ClassId) (dI : Nat → Nat → Nat) (cI cL cB : ClassId) (q_t : Nat) (a_t : Nat → Nat) (sz : Nat) (v_t_things : Int32) (v_t_pipes : Int32) (v_t_wide : Int32) (v_t_size : Int32) (v_t_place : Int32) (v_t_number : Int64) (v_t_thrown : Int32) (v_t_wish : Int32) (v_t_found : Int32) (f_t_kinds : (Nat → Int32)) (f_t_taken : (Nat → Int32)) (f_t_rooms : (Nat → Int64)) (f_t_litres : (Nat → Int64)) (f_t_liquids : (Nat → Int32)) (f_t_positions : (Nat → Int32)) (f_t_sensors : (Nat → Int32)) (f_t_ends : (Nat → Int32)) (P : Int32 → Int32 → Int32 → (Nat → Int32) → (Nat → Int32) → (Nat → Int64) → (Nat → Int64) → (Nat → Int32) → (Nat → Int32) → (Nat → Int32) → (Nat → Int32) → Prop) (hw : wp_Mo_pump v_t_things v_t_thrown f_t_kinds f_t_taken f_t_rooms f_t_litres f_t_liquids f_t_positions f_t_sensors f_t_ends P) : Met l y_Mo_pump w_Mo_pump rm_Mo_pump (va_Pc [.ref q_t] (fun U => U.heap.size = sz ∧ va_P (dC, dI) classes [(q_t, .inr (7, o_Mo a_t v_t_things v_t_pipes v_t_wide v_t_size v_t_place v_t_number v_t_thrown v_t_wish v_t_found)), ((a_t 1), .inl (cI, 40, .inl f_t_kinds)), ((a_t 2), .inl (cI, 40, .inl f_t_taken)), ((a_t 3), .inl (cL, 40, .inr (.inl f_t_rooms))), ((a_t 4), .inl (cL, 40, .inr (.inl f_t_litres))), ((a_t 5), .inl (cI, 40, .inl f_t_liquids)), ((a_t 6), .inl (cI, 40, .inl f_t_positions)), ((a_t 7), .inl (cI, 40, .inl f_t_sensors)), ((a_t 8), .inl (cI, 160, .inl f_t_ends))] U.heap ∧ va_K (dC, dI) classes [(cI, .int), (cL, .long), (cB, .byte)] U ∧ va_D (fun _ => True) [(q_t, .inr (7, o_Mo a_t v_t_things v_t_pipes v_t_wide v_t_size v_t_place v_t_number v_t_thrown v_t_wish v_t_found)), ((a_t 1), .inl (cI, 40, .inl f_t_kinds)), ((a_t 2), .inl (cI, 40, .inl f_t_taken)), ((a_t 3), .inl (cL, 40, .inr (.inl f_t_rooms))), ((a_t 4), .inl (cL, 40, .inr (.inl f_t_litres))), ((a_t 5), .inl (cI, 40, .inl f_t_liquids)), ((a_t 6), .inl (cI, 40, .inl f_t_positions)), ((a_t 7), .inl (cI, 40, .inl f_t_sensors)), ((a_t 8), .inl (cI, 160, .inl f_t_ends))])) (Q_Mo_pump dC dI cI cL cB q_t a_t v_t_things v_t_pipes v_t_wide v_t_size v_t_place v_t_number v_t_thrown v_t_wish v_t_found f_t_kinds f_t_taken f_t_rooms f_t_litres f_t_liquids f_t_positions f_t_sensors f_t_ends P (va_A [(q_t, .inr (7, o_Mo a_t v_t_things v_t_pipes v_t_wide v_t_size v_t_place v_t_number v_t_thrown v_t_wish v_t_found)), ((a_t 1), .inl (cI, 40, .inl f_t_kinds)), ((a_t 2), .inl (cI, 40, .inl f_t_taken)), ((a_t 3), .inl (cL, 40, .inr (.inl f_t_rooms))), ((a_t 4), .inl (cL, 40, .inr (.inl f_t_litres))), ((a_t 5), .inl (cI, 40, .inl f_t_liquids)), ((a_t 6), .inl (cI, 40, .inl f_t_positions)), ((a_t 7), .inl (cI, 40, .inl f_t_sensors)), ((a_t 8), .inl (cI, 160, .inl f_t_ends))] sz)) 0 0 (va_A [(q_t, .inr (7, o_Mo a_t v_t_things v_t_pipes v_t_wide v_t_size v_t_place v_t_number v_t_thrown v_t_wish v_t_found)), ((a_t 1), .inl (cI, 40, .inl f_t_kinds)), ((a_t 2), .inl (cI, 40, .inl f_t_taken)), ((a_t 3), .inl (cL, 40, .inr (.inl f_t_rooms))), ((a_t 4), .inl (cL, 40, .inr (.inl f_t_litres))), ((a_t 5), .inl (cI, 40, .inl f_t_liquids)), ((a_t 6), .inl (cI, 40, .inl f_t_positions)), ((a_t 7), .inl (cI, 40, .inl f_t_sensors)), ((a_t 8), .inl (cI, 160, .inl f_t_ends))] sz) := by
  refine Met.ofW (cc := b_Mo_pump) (maxL := 1) (ret := (some .int)) (by decide) rfl ?_
  intro p e s m args below meth c s₁ B hml hv
  obtain ⟨ha, hsz, hP, hK, hD0⟩ := hv
  have hx := B.exec
  have hb := B.bytes
  have hr := B.returns
  have hts0 := atoms_spec (ws := w_Mo_pump) B.pre
  have hts : ∀ w ∈ tb, w.before args s = true := fun w h => hts0 w (List.mem_cons_of_mem _ h)
  have hown : s.vm.findClass R_Mo = some m.cls := findClass_of_methodNamed B.named
  have hlocks := B.notSynchronized
  subst hsz
  have hD := hD0.self (sz := s.heap.size)
  generalize hAe : va_A [(q_t, .inr (7, o_Mo a_t v_t_things v_t_pipes v_t_wide v_t_size v_t_place v_t_number v_t_thrown v_t_wish v_t_found)), ((a_t 1), .inl (cI, 40, .inl f_t_kinds)), ((a_t 2), .inl (cI, 40, .inl f_t_taken)), ((a_t 3), .inl (cL, 40, .inr (.inl f_t_rooms))), ((a_t 4), .inl (cL, 40, .inr (.inl f_t_litres))), ((a_t 5), .inl (cI, 40, .inl f_t_liquids)), ((a_t 6), .inl (cI, 40, .inl f_t_positions)), ((a_t 7), .inl (cI, 40, .inl f_t_sensors)), ((a_t 8), .inl (cI, 160, .inl f_t_ends))] s.heap.size = A at hD ⊢
  have hA : ∀ q : Nat, s.heap.size ≤ q → A q := fun q h => by rw [← hAe]; exact Or.inr h
  have hS : va_S A s.heap s.heap [] := va_S.rf
  have hP : va_P (dC, dI) classes [(q_t, .inr (7, o_Mo a_t v_t_things v_t_pipes v_t_wide v_t_size v_t_place v_t_number v_t_thrown v_t_wish v_t_found)), ((a_t 1), .inl (cI, 40, .inl f_t_kinds)), ((a_t 2), .inl (cI, 40, .inl f_t_taken)), ((a_t 3), .inl (cL, 40, .inr (.inl f_t_rooms))), ((a_t 4), .inl (cL, 40, .inr (.inl f_t_litres))), ((a_t 5), .inl (cI, 40, .inl f_t_liquids)), ((a_t 6), .inl (cI, 40, .inl f_t_positions)), ((a_t 7), .inl (cI, 40, .inl f_t_sensors)), ((a_t 8), .inl (cI, 160, .inl f_t_ends))] s.heap := hP
  have hl := lv_entry [.ref q_t] (n := 1) (Nat.le_of_ble_eq_true rfl)
  have he9 : entryFrame m args 1 = F0 m 0 ((lg_sl [.ref q_t] ++ List.replicate (1 - (lg_sl [.ref q_t]).length) Slot.unset).toArray) [] := by rw [ha]; exact lg_entry_eq _ _ _
  rw [he9]
  clear he9
  generalize (lg_sl [.ref q_t] ++ List.replicate (1 - (lg_sl [.ref q_t]).length) Slot.unset).toArray = ls at hl ⊢
  have hl : lv_has ls 1 [(0, .ref q_t)] := hl
  unfold wp_Mo_pump at hw
  refine lv_aload_n hx hb d_Mo_pump_0 rfl (lv_at hl 0 rfl) ?_
  refine lv_iconst (v := 0) hx hb d_Mo_pump_1 (by decide) ?_
  refine va_put (D := (dC, dI)) (ci := 7) (v := .int 0) (ty := .int) (C := R_Mo) (T := F_Mo) (N := 29) hx hb hts i_Mo t_Mo t_Mo_ok n_Mo hown hK hP hD hS 0 rfl rfl 26 (by decide) (hts (Cond.fieldLink R_Mo 72 "PlantGraphModel" "thrown" "I") kw30_6501a0b) (fun _ h9 => h9) rfl (by decide +kernel) rfl rfl (Nat.le_of_ble_eq_true rfl) d_Mo_pump_2 (fun H locs hP hD hS => ?_)
  have hP : va_P (dC, dI) classes [(q_t, .inr (7, o_Mo a_t v_t_things v_t_pipes v_t_wide v_t_size v_t_place v_t_number 0 v_t_wish v_t_found)), ((a_t 1), .inl (cI, 40, .inl f_t_kinds)), ((a_t 2), .inl (cI, 40, .inl f_t_taken)), ((a_t 3), .inl (cL, 40, .inr (.inl f_t_rooms))), ((a_t 4), .inl (cL, 40, .inr (.inl f_t_litres))), ((a_t 5), .inl (cI, 40, .inl f_t_liquids)), ((a_t 6), .inl (cI, 40, .inl f_t_positions)), ((a_t 7), .inl (cI, 40, .inl f_t_sensors)), ((a_t 8), .inl (cI, 160, .inl f_t_ends))] H := hP
  have hD : va_D A [(q_t, .inr (7, o_Mo a_t v_t_things v_t_pipes v_t_wide v_t_size v_t_place v_t_number 0 v_t_wish v_t_found)), ((a_t 1), .inl (cI, 40, .inl f_t_kinds)), ((a_t 2), .inl (cI, 40, .inl f_t_taken)), ((a_t 3), .inl (cL, 40, .inr (.inl f_t_rooms))), ((a_t 4), .inl (cL, 40, .inr (.inl f_t_litres))), ((a_t 5), .inl (cI, 40, .inl f_t_liquids)), ((a_t 6), .inl (cI, 40, .inl f_t_positions)), ((a_t 7), .inl (cI, 40, .inl f_t_sensors)), ((a_t 8), .inl (cI, 160, .inl f_t_ends))] := hD
  refine lv_aload_n hx hb d_Mo_pump_5 rfl (lv_at hl 0 rfl) ?_
  refine lv_iconst (v := 1) hx hb d_Mo_pump_6 (by decide) ?_
  refine lv_lconst (v := 0) hx hb d_Mo_pump_7 (by decide) ?_
  have hPc := hP.sub (ws' := [(q_t, .inr (7, o_Mo a_t v_t_things v_t_pipes v_t_wide v_t_size v_t_place v_t_number 0 v_t_wish v_t_found)), ((a_t 1), .inl (cI, 40, .inl f_t_kinds)), ((a_t 2), .inl (cI, 40, .inl f_t_taken)), ((a_t 3), .inl (cL, 40, .inr (.inl f_t_rooms))), ((a_t 4), .inl (cL, 40, .inr (.inl f_t_litres))), ((a_t 5), .inl (cI, 40, .inl f_t_liquids)), ((a_t 6), .inl (cI, 40, .inl f_t_positions)), ((a_t 7), .inl (cI, 40, .inl f_t_sensors)), ((a_t 8), .inl (cI, 160, .inl f_t_ends))]) [0, 1, 2, 3, 4, 5, 6, 7, 8] rfl
  have hDc := hD.sub (ws' := [(q_t, .inr (7, o_Mo a_t v_t_things v_t_pipes v_t_wide v_t_size v_t_place v_t_number 0 v_t_wish v_t_found)), ((a_t 1), .inl (cI, 40, .inl f_t_kinds)), ((a_t 2), .inl (cI, 40, .inl f_t_taken)), ((a_t 3), .inl (cL, 40, .inr (.inl f_t_rooms))), ((a_t 4), .inl (cL, 40, .inr (.inl f_t_litres))), ((a_t 5), .inl (cI, 40, .inl f_t_liquids)), ((a_t 6), .inl (cI, 40, .inl f_t_positions)), ((a_t 7), .inl (cI, 40, .inl f_t_sensors)), ((a_t 8), .inl (cI, 160, .inl f_t_ends))]) [0, 1, 2, 3, 4, 5, 6, 7, 8] (by decide) rfl
  have hFc := va_free (wc := [(q_t, .inr (7, o_Mo a_t v_t_things v_t_pipes v_t_wide v_t_size v_t_place v_t_number 0 v_t_wish v_t_found)), ((a_t 1), .inl (cI, 40, .inl f_t_kinds)), ((a_t 2), .inl (cI, 40, .inl f_t_taken)), ((a_t 3), .inl (cL, 40, .inr (.inl f_t_rooms))), ((a_t 4), .inl (cL, 40, .inr (.inl f_t_litres))), ((a_t 5), .inl (cI, 40, .inl f_t_liquids)), ((a_t 6), .inl (cI, 40, .inl f_t_positions)), ((a_t 7), .inl (cI, 40, .inl f_t_sensors)), ((a_t 8), .inl (cI, 160, .inl f_t_ends))]) hD hS hA [0, 1, 2, 3, 4, 5, 6, 7, 8] rfl
  refine va_calli (va_runV (As := [.int 1, .long 0]) (rest := []) ⟨hx, hb, hml, hown, hts⟩ (c_Mo_make l dC dI cI cL cB q_t a_t H.size v_t_things v_t_pipes v_t_wide v_t_size v_t_place v_t_number 0 v_t_wish v_t_found f_t_kinds f_t_taken f_t_rooms f_t_litres f_t_liquids f_t_positions f_t_sensors f_t_ends 1 0 _ hw) (my_cwV 2 hts kw30_64baf7e kw30_9b67bc9 kw30_2545d1d kw30_7a5931c kw30_a7c7078 rfl rfl (by decide +kernel) ⟨Nat.le_of_ble_eq_true rfl, Nat.le_of_ble_eq_true rfl⟩) ⟨fun a U g mk q => by obtain ⟨q0, q1, qP, qK, qD⟩ := q; exact ⟨q0, q1, qP, va_K.moved (u := U) (U := U.calling g mk a) (Vm.Alike.refl U.vm) qK, qD⟩, va_recv hK hP (ci := 7) (q0 := 0) rfl rfl, fun U hU hW => ⟨rfl, by rw [hU], by rw [hU]; exact hPc, va_K.moved hW.alike hK, hDc.weaken (fun _ _ _ _ => trivial)⟩⟩ rfl rfl hl.1 rfl (lv_room (Nat.le_of_ble_eq_true rfl)) d_Mo_pump_8 ⟨Nat.zero_le _, Nat.zero_le _⟩) hS (fun q _ h => hFc q h) hFc (fun r8 u t H locs ht hvm hw hB hz1 hk1 hS => ?_)
  obtain ⟨v_t_things_c8, f_t_kinds_c8, f_t_taken_c8, f_t_rooms_c8, f_t_litres_c8, f_t_liquids_c8, f_t_positions_c8, f_t_sensors_c8, f_t_ends_c8⟩ := u
  obtain ⟨hP1, hK1, hD1⟩ := hB
  rw [ht] at hP1
  obtain ⟨hP, hD⟩ := va_join (wr := []) (w1 := [(q_t, .inr (7, o_Mo a_t v_t_things_c8 v_t_pipes v_t_wide v_t_size v_t_place v_t_number 0 v_t_wish v_t_found)), ((a_t 1), .inl (cI, 40, .inl f_t_kinds_c8)), ((a_t 2), .inl (cI, 40, .inl f_t_taken_c8)), ((a_t 3), .inl (cL, 40, .inr (.inl f_t_rooms_c8))), ((a_t 4), .inl (cL, 40, .inr (.inl f_t_litres_c8))), ((a_t 5), .inl (cI, 40, .inl f_t_liquids_c8)), ((a_t 6), .inl (cI, 40, .inl f_t_positions_c8)), ((a_t 7), .inl (cI, 40, .inl f_t_sensors_c8)), ((a_t 8), .inl (cI, 160, .inl f_t_ends_c8))]) hP hD [0, 1, 2, 3, 4, 5, 6, 7, 8] [] rfl rfl (by decide) (by decide) hk1 hFc hP1 hD1
  have hP : va_P (dC, dI) classes [(q_t, .inr (7, o_Mo a_t v_t_things_c8 v_t_pipes v_t_wide v_t_size v_t_place v_t_number 0 v_t_wish v_t_found)), ((a_t 1), .inl (cI, 40, .inl f_t_kinds_c8)), ((a_t 2), .inl (cI, 40, .inl f_t_taken_c8)), ((a_t 3), .inl (cL, 40, .inr (.inl f_t_rooms_c8))), ((a_t 4), .inl (cL, 40, .inr (.inl f_t_litres_c8))), ((a_t 5), .inl (cI, 40, .inl f_t_liquids_c8)), ((a_t 6), .inl (cI, 40, .inl f_t_positions_c8)), ((a_t 7), .inl (cI, 40, .inl f_t_sensors_c8)), ((a_t 8), .inl (cI, 160, .inl f_t_ends_c8))] H := hP.sub (ws' := [(q_t, .inr (7, o_Mo a_t v_t_things_c8 v_t_pipes v_t_wide v_t_size v_t_place v_t_number 0 v_t_wish v_t_found)), ((a_t 1), .inl (cI, 40, .inl f_t_kinds_c8)), ((a_t 2), .inl (cI, 40, .inl f_t_taken_c8)), ((a_t 3), .inl (cL, 40, .inr (.inl f_t_rooms_c8))), ((a_t 4), .inl (cL, 40, .inr (.inl f_t_litres_c8))), ((a_t 5), .inl (cI, 40, .inl f_t_liquids_c8)), ((a_t 6), .inl (cI, 40, .inl f_t_positions_c8)), ((a_t 7), .inl (cI, 40, .inl f_t_sensors_c8)), ((a_t 8), .inl (cI, 160, .inl f_t_ends_c8))]) [0, 1, 2, 3, 4, 5, 6, 7, 8] rfl
  have hD : va_D A [(q_t, .inr (7, o_Mo a_t v_t_things_c8 v_t_pipes v_t_wide v_t_size v_t_place v_t_number 0 v_t_wish v_t_found)), ((a_t 1), .inl (cI, 40, .inl f_t_kinds_c8)), ((a_t 2), .inl (cI, 40, .inl f_t_taken_c8)), ((a_t 3), .inl (cL, 40, .inr (.inl f_t_rooms_c8))), ((a_t 4), .inl (cL, 40, .inr (.inl f_t_litres_c8))), ((a_t 5), .inl (cI, 40, .inl f_t_liquids_c8)), ((a_t 6), .inl (cI, 40, .inl f_t_positions_c8)), ((a_t 7), .inl (cI, 40, .inl f_t_sensors_c8)), ((a_t 8), .inl (cI, 160, .inl f_t_ends_c8))] := hD.sub (ws' := [(q_t, .inr (7, o_Mo a_t v_t_things_c8 v_t_pipes v_t_wide v_t_size v_t_place v_t_number 0 v_t_wish v_t_found)), ((a_t 1), .inl (cI, 40, .inl f_t_kinds_c8)), ((a_t 2), .inl (cI, 40, .inl f_t_taken_c8)), ((a_t 3), .inl (cL, 40, .inr (.inl f_t_rooms_c8))), ((a_t 4), .inl (cL, 40, .inr (.inl f_t_litres_c8))), ((a_t 5), .inl (cI, 40, .inl f_t_liquids_c8)), ((a_t 6), .inl (cI, 40, .inl f_t_positions_c8)), ((a_t 7), .inl (cI, 40, .inl f_t_sensors_c8)), ((a_t 8), .inl (cI, 160, .inl f_t_ends_c8))]) [0, 1, 2, 3, 4, 5, 6, 7, 8] (by decide) rfl
  exact W.iret (v := r8) hx hb hr (fun t ht hW => ⟨⟨r8, (v_t_things_c8, 0, f_t_kinds_c8, f_t_taken_c8, f_t_rooms_c8, f_t_litres_c8, f_t_liquids_c8, f_t_positions_c8, f_t_sensors_c8, f_t_ends_c8), rfl, hw, by rw [ht]; exact hP, va_K.moved hW.alike hK, hD⟩, hS.F ht⟩) hS.2.2 d_Mo_pump_11
def wp_Mo_valve (v_t_things : Int32) (v_t_thrown : Int32) (f_t_kinds : (Nat → Int32)) (f_t_taken : (Nat → Int32)) (f_t_rooms : (Nat → Int64)) (f_t_litres : (Nat → Int64)) (f_t_liquids : (Nat → Int32)) (f_t_positions : (Nat → Int32)) (f_t_sensors : (Nat → Int32)) (f_t_ends : (Nat → Int32)) (x1 : Int32) (P : Int32 → Int32 → Int32 → (Nat → Int32) → (Nat → Int32) → (Nat → Int64) → (Nat → Int64) → (Nat → Int32) → (Nat → Int32) → (Nat → Int32) → (Nat → Int32) → Prop) : Prop := ((x1 < 0 → P (-1) v_t_things 0 f_t_kinds f_t_taken f_t_rooms f_t_litres f_t_liquids f_t_positions f_t_sensors f_t_ends) ∧ (¬ x1 < 0 → ((x1 ≤ (8 : Int32) → wp_Mo_make v_t_things f_t_kinds f_t_taken f_t_rooms f_t_litres f_t_liquids f_t_positions f_t_sensors f_t_ends (2 + x1) 0 (fun r24 v_t_things_c24 f_t_kinds_c24 f_t_taken_c24 f_t_rooms_c24 f_t_litres_c24 f_t_liquids_c24 f_t_positions_c24 f_t_sensors_c24 f_t_ends_c24 => P r24 v_t_things_c24 0 f_t_kinds_c24 f_t_taken_c24 f_t_rooms_c24 f_t_litres_c24 f_t_liquids_c24 f_t_positions_c24 f_t_sensors_c24 f_t_ends_c24)) ∧ (¬ x1 ≤ (8 : Int32) → P (-1) v_t_things 0 f_t_kinds f_t_taken f_t_rooms f_t_litres f_t_liquids f_t_positions f_t_sensors f_t_ends))))
def w_Mo_valve : List Cond := .code y_Mo_valve b_Mo_valve 2 (some .int) :: tb
abbrev rm_Mo_valve : Room := { frames := 1, cells := 0, slots := 0, locals := 24 }
abbrev Q_Mo_valve (dC : Nat → ClassId) (dI : Nat → Nat → Nat) (cI cL cB : ClassId) (q_t : Nat) (a_t : Nat → Nat) (v_t_things : Int32) (v_t_pipes : Int32) (v_t_wide : Int32) (v_t_size : Int32) (v_t_place : Int32) (v_t_number : Int64) (v_t_thrown : Int32) (v_t_wish : Int32) (v_t_found : Int32) (f_t_kinds : (Nat → Int32)) (f_t_taken : (Nat → Int32)) (f_t_rooms : (Nat → Int64)) (f_t_litres : (Nat → Int64)) (f_t_liquids : (Nat → Int32)) (f_t_positions : (Nat → Int32)) (f_t_sensors : (Nat → Int32)) (f_t_ends : (Nat → Int32)) (x1 : Int32) (P : Int32 → Int32 → Int32 → (Nat → Int32) → (Nat → Int32) → (Nat → Int64) → (Nat → Int64) → (Nat → Int32) → (Nat → Int32) → (Nat → Int32) → (Nat → Int32) → Prop) (A : Nat → Prop) : Array Value → State → Outcome → State → Prop := va_Qi (fun (r : Int32) (u : Int32 × Int32 × (Nat → Int32) × (Nat → Int32) × (Nat → Int64) × (Nat → Int64) × (Nat → Int32) × (Nat → Int32) × (Nat → Int32) × (Nat → Int32)) => P r u.1 u.2.1 u.2.2.1 u.2.2.2.1 u.2.2.2.2.1 u.2.2.2.2.2.1 u.2.2.2.2.2.2.1 u.2.2.2.2.2.2.2.1 u.2.2.2.2.2.2.2.2.1 u.2.2.2.2.2.2.2.2.2) (fun u t => va_P (dC, dI) classes [(q_t, .inr (7, o_Mo a_t u.1 v_t_pipes v_t_wide v_t_size v_t_place v_t_number u.2.1 v_t_wish v_t_found)), ((a_t 1), .inl (cI, 40, .inl u.2.2.1)), ((a_t 2), .inl (cI, 40, .inl u.2.2.2.1)), ((a_t 3), .inl (cL, 40, .inr (.inl u.2.2.2.2.1))), ((a_t 4), .inl (cL, 40, .inr (.inl u.2.2.2.2.2.1))), ((a_t 5), .inl (cI, 40, .inl u.2.2.2.2.2.2.1)), ((a_t 6), .inl (cI, 40, .inl u.2.2.2.2.2.2.2.1)), ((a_t 7), .inl (cI, 40, .inl u.2.2.2.2.2.2.2.2.1)), ((a_t 8), .inl (cI, 160, .inl u.2.2.2.2.2.2.2.2.2))] t.heap ∧ va_K (dC, dI) classes [(cI, .int), (cL, .long), (cB, .byte)] t ∧ va_D A [(q_t, .inr (7, o_Mo a_t u.1 v_t_pipes v_t_wide v_t_size v_t_place v_t_number u.2.1 v_t_wish v_t_found)), ((a_t 1), .inl (cI, 40, .inl u.2.2.1)), ((a_t 2), .inl (cI, 40, .inl u.2.2.2.1)), ((a_t 3), .inl (cL, 40, .inr (.inl u.2.2.2.2.1))), ((a_t 4), .inl (cL, 40, .inr (.inl u.2.2.2.2.2.1))), ((a_t 5), .inl (cI, 40, .inl u.2.2.2.2.2.2.1)), ((a_t 6), .inl (cI, 40, .inl u.2.2.2.2.2.2.2.1)), ((a_t 7), .inl (cI, 40, .inl u.2.2.2.2.2.2.2.2.1)), ((a_t 8), .inl (cI, 160, .inl u.2.2.2.2.2.2.2.2.2))]) A
set_option maxHeartbeats 4000000 in
set_option maxRecDepth 100000 in
theorem c_Mo_valve (l : Launch) (dC : Nat → ClassId) (dI : Nat → Nat → Nat) (cI cL cB : ClassId) (q_t : Nat) (a_t : Nat → Nat) (sz : Nat) (v_t_things : Int32) (v_t_pipes : Int32) (v_t_wide : Int32) (v_t_size : Int32) (v_t_place : Int32) (v_t_number : Int64) (v_t_thrown : Int32) (v_t_wish : Int32) (v_t_found : Int32) (f_t_kinds : (Nat → Int32)) (f_t_taken : (Nat → Int32)) (f_t_rooms : (Nat → Int64)) (f_t_litres : (Nat → Int64)) (f_t_liquids : (Nat → Int32)) (f_t_positions : (Nat → Int32)) (f_t_sensors : (Nat → Int32)) (f_t_ends : (Nat → Int32)) (x1 : Int32) (P : Int32 → Int32 → Int32 → (Nat → Int32) → (Nat → Int32) → (Nat → Int64) → (Nat → Int64) → (Nat → Int32) → (Nat → Int32) → (Nat → Int32) → (Nat → Int32) → Prop) (hw : wp_Mo_valve v_t_things v_t_thrown f_t_kinds f_t_taken f_t_rooms f_t_litres f_t_liquids f_t_positions f_t_sensors f_t_ends x1 P) : Met l y_Mo_valve w_Mo_valve rm_Mo_valve (va_Pc [.ref q_t, .int x1] (fun U => U.heap.size = sz ∧ va_P (dC, dI) classes [(q_t, .inr (7, o_Mo a_t v_t_things v_t_pipes v_t_wide v_t_size v_t_place v_t_number v_t_thrown v_t_wish v_t_found)), ((a_t 1), .inl (cI, 40, .inl f_t_kinds)), ((a_t 2), .inl (cI, 40, .inl f_t_taken)), ((a_t 3), .inl (cL, 40, .inr (.inl f_t_rooms))), ((a_t 4), .inl (cL, 40, .inr (.inl f_t_litres))), ((a_t 5), .inl (cI, 40, .inl f_t_liquids)), ((a_t 6), .inl (cI, 40, .inl f_t_positions)), ((a_t 7), .inl (cI, 40, .inl f_t_sensors)), ((a_t 8), .inl (cI, 160, .inl f_t_ends))] U.heap ∧ va_K (dC, dI) classes [(cI, .int), (cL, .long), (cB, .byte)] U ∧ va_D (fun _ => True) [(q_t, .inr (7, o_Mo a_t v_t_things v_t_pipes v_t_wide v_t_size v_t_place v_t_number v_t_thrown v_t_wish v_t_found)), ((a_t 1), .inl (cI, 40, .inl f_t_kinds)), ((a_t 2), .inl (cI, 40, .inl f_t_taken)), ((a_t 3), .inl (cL, 40, .inr (.inl f_t_rooms))), ((a_t 4), .inl (cL, 40, .inr (.inl f_t_litres))), ((a_t 5), .inl (cI, 40, .inl f_t_liquids)), ((a_t 6), .inl (cI, 40, .inl f_t_positions)), ((a_t 7), .inl (cI, 40, .inl f_t_sensors)), ((a_t 8), .inl (cI, 160, .inl f_t_ends))])) (Q_Mo_valve dC dI cI cL cB q_t a_t v_t_things v_t_pipes v_t_wide v_t_size v_t_place v_t_number v_t_thrown v_t_wish v_t_found f_t_kinds f_t_taken f_t_rooms f_t_litres f_t_liquids f_t_positions f_t_sensors f_t_ends x1 P (va_A [(q_t, .inr (7, o_Mo a_t v_t_things v_t_pipes v_t_wide v_t_size v_t_place v_t_number v_t_thrown v_t_wish v_t_found)), ((a_t 1), .inl (cI, 40, .inl f_t_kinds)), ((a_t 2), .inl (cI, 40, .inl f_t_taken)), ((a_t 3), .inl (cL, 40, .inr (.inl f_t_rooms))), ((a_t 4), .inl (cL, 40, .inr (.inl f_t_litres))), ((a_t 5), .inl (cI, 40, .inl f_t_liquids)), ((a_t 6), .inl (cI, 40, .inl f_t_positions)), ((a_t 7), .inl (cI, 40, .inl f_t_sensors)), ((a_t 8), .inl (cI, 160, .inl f_t_ends))] sz)) 0 0 (va_A [(q_t, .inr (7, o_Mo a_t v_t_things v_t_pipes v_t_wide v_t_size v_t_place v_t_number v_t_thrown v_t_wish v_t_found)), ((a_t 1), .inl (cI, 40, .inl f_t_kinds)), ((a_t 2), .inl (cI, 40, .inl f_t_taken)), ((a_t 3), .inl (cL, 40, .inr (.inl f_t_rooms))), ((a_t 4), .inl (cL, 40, .inr (.inl f_t_litres))), ((a_t 5), .inl (cI, 40, .inl f_t_liquids)), ((a_t 6), .inl (cI, 40, .inl f_t_positions)), ((a_t 7), .inl (cI, 40, .inl f_t_sensors)), ((a_t 8), .inl (cI, 160, .inl f_t_ends))] sz) := by
  refine Met.ofW (cc := b_Mo_valve) (maxL := 2) (ret := (some .int)) (by decide) rfl ?_
  intro p e s m args below meth c s₁ B hml hv
  obtain ⟨ha, hsz, hP, hK, hD0⟩ := hv
  have hx := B.exec
  have hb := B.bytes
  have hr := B.returns
  have hts0 := atoms_spec (ws := w_Mo_valve) B.pre
  have hts : ∀ w ∈ tb, w.before args s = true := fun w h => hts0 w (List.mem_cons_of_mem _ h)
  have hown : s.vm.findClass R_Mo = some m.cls := findClass_of_methodNamed B.named
  have hlocks := B.notSynchronized
  subst hsz
  have hD := hD0.self (sz := s.heap.size)
  generalize hAe : va_A [(q_t, .inr (7, o_Mo a_t v_t_things v_t_pipes v_t_wide v_t_size v_t_place v_t_number v_t_thrown v_t_wish v_t_found)), ((a_t 1), .inl (cI, 40, .inl f_t_kinds)), ((a_t 2), .inl (cI, 40, .inl f_t_taken)), ((a_t 3), .inl (cL, 40, .inr (.inl f_t_rooms))), ((a_t 4), .inl (cL, 40, .inr (.inl f_t_litres))), ((a_t 5), .inl (cI, 40, .inl f_t_liquids)), ((a_t 6), .inl (cI, 40, .inl f_t_positions)), ((a_t 7), .inl (cI, 40, .inl f_t_sensors)), ((a_t 8), .inl (cI, 160, .inl f_t_ends))] s.heap.size = A at hD ⊢
  have hA : ∀ q : Nat, s.heap.size ≤ q → A q := fun q h => by rw [← hAe]; exact Or.inr h
  have hS : va_S A s.heap s.heap [] := va_S.rf
  have hP : va_P (dC, dI) classes [(q_t, .inr (7, o_Mo a_t v_t_things v_t_pipes v_t_wide v_t_size v_t_place v_t_number v_t_thrown v_t_wish v_t_found)), ((a_t 1), .inl (cI, 40, .inl f_t_kinds)), ((a_t 2), .inl (cI, 40, .inl f_t_taken)), ((a_t 3), .inl (cL, 40, .inr (.inl f_t_rooms))), ((a_t 4), .inl (cL, 40, .inr (.inl f_t_litres))), ((a_t 5), .inl (cI, 40, .inl f_t_liquids)), ((a_t 6), .inl (cI, 40, .inl f_t_positions)), ((a_t 7), .inl (cI, 40, .inl f_t_sensors)), ((a_t 8), .inl (cI, 160, .inl f_t_ends))] s.heap := hP
  have hl := lv_entry [.ref q_t, .int x1] (n := 2) (Nat.le_of_ble_eq_true rfl)
  have he9 : entryFrame m args 2 = F0 m 0 ((lg_sl [.ref q_t, .int x1] ++ List.replicate (2 - (lg_sl [.ref q_t, .int x1]).length) Slot.unset).toArray) [] := by rw [ha]; exact lg_entry_eq _ _ _
  rw [he9]
  clear he9
  generalize (lg_sl [.ref q_t, .int x1] ++ List.replicate (2 - (lg_sl [.ref q_t, .int x1]).length) Slot.unset).toArray = ls at hl ⊢
  have hl : lv_has ls 2 [(0, .ref q_t), (1, .int x1)] := hl
  unfold wp_Mo_valve at hw
  refine lv_aload_n hx hb d_Mo_valve_0 rfl (lv_at hl 0 rfl) ?_
  refine lv_iconst (v := 0) hx hb d_Mo_valve_1 (by decide) ?_
  refine va_put (D := (dC, dI)) (ci := 7) (v := .int 0) (ty := .int) (C := R_Mo) (T := F_Mo) (N := 29) hx hb hts i_Mo t_Mo t_Mo_ok n_Mo hown hK hP hD hS 0 rfl rfl 26 (by decide) (hts (Cond.fieldLink R_Mo 72 "PlantGraphModel" "thrown" "I") kw30_6501a0b) (fun _ h9 => h9) rfl (by decide +kernel) rfl rfl (Nat.le_of_ble_eq_true rfl) d_Mo_valve_2 (fun H locs hP hD hS => ?_)
  have hP : va_P (dC, dI) classes [(q_t, .inr (7, o_Mo a_t v_t_things v_t_pipes v_t_wide v_t_size v_t_place v_t_number 0 v_t_wish v_t_found)), ((a_t 1), .inl (cI, 40, .inl f_t_kinds)), ((a_t 2), .inl (cI, 40, .inl f_t_taken)), ((a_t 3), .inl (cL, 40, .inr (.inl f_t_rooms))), ((a_t 4), .inl (cL, 40, .inr (.inl f_t_litres))), ((a_t 5), .inl (cI, 40, .inl f_t_liquids)), ((a_t 6), .inl (cI, 40, .inl f_t_positions)), ((a_t 7), .inl (cI, 40, .inl f_t_sensors)), ((a_t 8), .inl (cI, 160, .inl f_t_ends))] H := hP
  have hD : va_D A [(q_t, .inr (7, o_Mo a_t v_t_things v_t_pipes v_t_wide v_t_size v_t_place v_t_number 0 v_t_wish v_t_found)), ((a_t 1), .inl (cI, 40, .inl f_t_kinds)), ((a_t 2), .inl (cI, 40, .inl f_t_taken)), ((a_t 3), .inl (cL, 40, .inr (.inl f_t_rooms))), ((a_t 4), .inl (cL, 40, .inr (.inl f_t_litres))), ((a_t 5), .inl (cI, 40, .inl f_t_liquids)), ((a_t 6), .inl (cI, 40, .inl f_t_positions)), ((a_t 7), .inl (cI, 40, .inl f_t_sensors)), ((a_t 8), .inl (cI, 160, .inl f_t_ends))] := hD
  refine lv_iload_n hx hb d_Mo_valve_5 rfl (lv_at hl 1 rfl) ?_
  refine lv_if_lt (tgt := 15) hx hb d_Mo_valve_6 (by decide) (fun c6 => ?_) (fun c6 => ?_)
  · replace hw := hw.1 c6
    refine lv_iconst (v := (-1)) hx hb d_Mo_valve_15 (by decide) ?_
    refine lv_goto (tgt := 27) hx hb d_Mo_valve_16 (by decide) ?_
    exact W.iret (v := (-1)) hx hb hr (fun t ht hW => ⟨⟨(-1), (v_t_things, 0, f_t_kinds, f_t_taken, f_t_rooms, f_t_litres, f_t_liquids, f_t_positions, f_t_sensors, f_t_ends), rfl, hw, by rw [ht]; exact hP, va_K.moved hW.alike hK, hD⟩, hS.F ht⟩) hS.2.2 d_Mo_valve_27
  · replace hw := hw.2 c6
    refine lv_iload_n hx hb d_Mo_valve_9 rfl (lv_at hl 1 rfl) ?_
    refine lv_bipush (v := 8) hx hb d_Mo_valve_10 (by decide) ?_
    refine lv_icmp_le (tgt := 19) hx hb d_Mo_valve_12 (by decide) (fun c12 => ?_) (fun c12 => ?_)
    · replace hw := hw.1 c12
      refine lv_aload_n hx hb d_Mo_valve_19 rfl (lv_at hl 0 rfl) ?_
      refine lv_iconst (v := 2) hx hb d_Mo_valve_20 (by decide) ?_
      refine lv_iload_n hx hb d_Mo_valve_21 rfl (lv_at hl 1 rfl) ?_
      refine lv_iadd hx hb d_Mo_valve_22 ?_
      refine lv_lconst (v := 0) hx hb d_Mo_valve_23 (by decide) ?_
      have hPc := hP.sub (ws' := [(q_t, .inr (7, o_Mo a_t v_t_things v_t_pipes v_t_wide v_t_size v_t_place v_t_number 0 v_t_wish v_t_found)), ((a_t 1), .inl (cI, 40, .inl f_t_kinds)), ((a_t 2), .inl (cI, 40, .inl f_t_taken)), ((a_t 3), .inl (cL, 40, .inr (.inl f_t_rooms))), ((a_t 4), .inl (cL, 40, .inr (.inl f_t_litres))), ((a_t 5), .inl (cI, 40, .inl f_t_liquids)), ((a_t 6), .inl (cI, 40, .inl f_t_positions)), ((a_t 7), .inl (cI, 40, .inl f_t_sensors)), ((a_t 8), .inl (cI, 160, .inl f_t_ends))]) [0, 1, 2, 3, 4, 5, 6, 7, 8] rfl
      have hDc := hD.sub (ws' := [(q_t, .inr (7, o_Mo a_t v_t_things v_t_pipes v_t_wide v_t_size v_t_place v_t_number 0 v_t_wish v_t_found)), ((a_t 1), .inl (cI, 40, .inl f_t_kinds)), ((a_t 2), .inl (cI, 40, .inl f_t_taken)), ((a_t 3), .inl (cL, 40, .inr (.inl f_t_rooms))), ((a_t 4), .inl (cL, 40, .inr (.inl f_t_litres))), ((a_t 5), .inl (cI, 40, .inl f_t_liquids)), ((a_t 6), .inl (cI, 40, .inl f_t_positions)), ((a_t 7), .inl (cI, 40, .inl f_t_sensors)), ((a_t 8), .inl (cI, 160, .inl f_t_ends))]) [0, 1, 2, 3, 4, 5, 6, 7, 8] (by decide) rfl
      have hFc := va_free (wc := [(q_t, .inr (7, o_Mo a_t v_t_things v_t_pipes v_t_wide v_t_size v_t_place v_t_number 0 v_t_wish v_t_found)), ((a_t 1), .inl (cI, 40, .inl f_t_kinds)), ((a_t 2), .inl (cI, 40, .inl f_t_taken)), ((a_t 3), .inl (cL, 40, .inr (.inl f_t_rooms))), ((a_t 4), .inl (cL, 40, .inr (.inl f_t_litres))), ((a_t 5), .inl (cI, 40, .inl f_t_liquids)), ((a_t 6), .inl (cI, 40, .inl f_t_positions)), ((a_t 7), .inl (cI, 40, .inl f_t_sensors)), ((a_t 8), .inl (cI, 160, .inl f_t_ends))]) hD hS hA [0, 1, 2, 3, 4, 5, 6, 7, 8] rfl
      refine va_calli (va_runV (As := [.int (2 + x1), .long 0]) (rest := []) ⟨hx, hb, hml, hown, hts⟩ (c_Mo_make l dC dI cI cL cB q_t a_t H.size v_t_things v_t_pipes v_t_wide v_t_size v_t_place v_t_number 0 v_t_wish v_t_found f_t_kinds f_t_taken f_t_rooms f_t_litres f_t_liquids f_t_positions f_t_sensors f_t_ends (2 + x1) 0 _ hw) (my_cwV 2 hts kw30_64baf7e kw30_9b67bc9 kw30_2545d1d kw30_7a5931c kw30_a7c7078 rfl rfl (by decide +kernel) ⟨Nat.le_of_ble_eq_true rfl, Nat.le_of_ble_eq_true rfl⟩) ⟨fun a U g mk q => by obtain ⟨q0, q1, qP, qK, qD⟩ := q; exact ⟨q0, q1, qP, va_K.moved (u := U) (U := U.calling g mk a) (Vm.Alike.refl U.vm) qK, qD⟩, va_recv hK hP (ci := 7) (q0 := 0) rfl rfl, fun U hU hW => ⟨rfl, by rw [hU], by rw [hU]; exact hPc, va_K.moved hW.alike hK, hDc.weaken (fun _ _ _ _ => trivial)⟩⟩ rfl rfl hl.1 rfl (lv_room (Nat.le_of_ble_eq_true rfl)) d_Mo_valve_24 ⟨Nat.zero_le _, Nat.zero_le _⟩) hS (fun q _ h => hFc q h) hFc (fun r24 u t H locs ht hvm hw hB hz1 hk1 hS => ?_)
      obtain ⟨v_t_things_c24, f_t_kinds_c24, f_t_taken_c24, f_t_rooms_c24, f_t_litres_c24, f_t_liquids_c24, f_t_positions_c24, f_t_sensors_c24, f_t_ends_c24⟩ := u
      obtain ⟨hP1, hK1, hD1⟩ := hB
      rw [ht] at hP1
      obtain ⟨hP, hD⟩ := va_join (wr := []) (w1 := [(q_t, .inr (7, o_Mo a_t v_t_things_c24 v_t_pipes v_t_wide v_t_size v_t_place v_t_number 0 v_t_wish v_t_found)), ((a_t 1), .inl (cI, 40, .inl f_t_kinds_c24)), ((a_t 2), .inl (cI, 40, .inl f_t_taken_c24)), ((a_t 3), .inl (cL, 40, .inr (.inl f_t_rooms_c24))), ((a_t 4), .inl (cL, 40, .inr (.inl f_t_litres_c24))), ((a_t 5), .inl (cI, 40, .inl f_t_liquids_c24)), ((a_t 6), .inl (cI, 40, .inl f_t_positions_c24)), ((a_t 7), .inl (cI, 40, .inl f_t_sensors_c24)), ((a_t 8), .inl (cI, 160, .inl f_t_ends_c24))]) hP hD [0, 1, 2, 3, 4, 5, 6, 7, 8] [] rfl rfl (by decide) (by decide) hk1 hFc hP1 hD1
      have hP : va_P (dC, dI) classes [(q_t, .inr (7, o_Mo a_t v_t_things_c24 v_t_pipes v_t_wide v_t_size v_t_place v_t_number 0 v_t_wish v_t_found)), ((a_t 1), .inl (cI, 40, .inl f_t_kinds_c24)), ((a_t 2), .inl (cI, 40, .inl f_t_taken_c24)), ((a_t 3), .inl (cL, 40, .inr (.inl f_t_rooms_c24))), ((a_t 4), .inl (cL, 40, .inr (.inl f_t_litres_c24))), ((a_t 5), .inl (cI, 40, .inl f_t_liquids_c24)), ((a_t 6), .inl (cI, 40, .inl f_t_positions_c24)), ((a_t 7), .inl (cI, 40, .inl f_t_sensors_c24)), ((a_t 8), .inl (cI, 160, .inl f_t_ends_c24))] H := hP.sub (ws' := [(q_t, .inr (7, o_Mo a_t v_t_things_c24 v_t_pipes v_t_wide v_t_size v_t_place v_t_number 0 v_t_wish v_t_found)), ((a_t 1), .inl (cI, 40, .inl f_t_kinds_c24)), ((a_t 2), .inl (cI, 40, .inl f_t_taken_c24)), ((a_t 3), .inl (cL, 40, .inr (.inl f_t_rooms_c24))), ((a_t 4), .inl (cL, 40, .inr (.inl f_t_litres_c24))), ((a_t 5), .inl (cI, 40, .inl f_t_liquids_c24)), ((a_t 6), .inl (cI, 40, .inl f_t_positions_c24)), ((a_t 7), .inl (cI, 40, .inl f_t_sensors_c24)), ((a_t 8), .inl (cI, 160, .inl f_t_ends_c24))]) [0, 1, 2, 3, 4, 5, 6, 7, 8] rfl
      have hD : va_D A [(q_t, .inr (7, o_Mo a_t v_t_things_c24 v_t_pipes v_t_wide v_t_size v_t_place v_t_number 0 v_t_wish v_t_found)), ((a_t 1), .inl (cI, 40, .inl f_t_kinds_c24)), ((a_t 2), .inl (cI, 40, .inl f_t_taken_c24)), ((a_t 3), .inl (cL, 40, .inr (.inl f_t_rooms_c24))), ((a_t 4), .inl (cL, 40, .inr (.inl f_t_litres_c24))), ((a_t 5), .inl (cI, 40, .inl f_t_liquids_c24)), ((a_t 6), .inl (cI, 40, .inl f_t_positions_c24)), ((a_t 7), .inl (cI, 40, .inl f_t_sensors_c24)), ((a_t 8), .inl (cI, 160, .inl f_t_ends_c24))] := hD.sub (ws' := [(q_t, .inr (7, o_Mo a_t v_t_things_c24 v_t_pipes v_t_wide v_t_size v_t_place v_t_number 0 v_t_wish v_t_found)), ((a_t 1), .inl (cI, 40, .inl f_t_kinds_c24)), ((a_t 2), .inl (cI, 40, .inl f_t_taken_c24)), ((a_t 3), .inl (cL, 40, .inr (.inl f_t_rooms_c24))), ((a_t 4), .inl (cL, 40, .inr (.inl f_t_litres_c24))), ((a_t 5), .inl (cI, 40, .inl f_t_liquids_c24)), ((a_t 6), .inl (cI, 40, .inl f_t_positions_c24)), ((a_t 7), .inl (cI, 40, .inl f_t_sensors_c24)), ((a_t 8), .inl (cI, 160, .inl f_t_ends_c24))]) [0, 1, 2, 3, 4, 5, 6, 7, 8] (by decide) rfl
      exact W.iret (v := r24) hx hb hr (fun t ht hW => ⟨⟨r24, (v_t_things_c24, 0, f_t_kinds_c24, f_t_taken_c24, f_t_rooms_c24, f_t_litres_c24, f_t_liquids_c24, f_t_positions_c24, f_t_sensors_c24, f_t_ends_c24), rfl, hw, by rw [ht]; exact hP, va_K.moved hW.alike hK, hD⟩, hS.F ht⟩) hS.2.2 d_Mo_valve_27
    · replace hw := hw.2 c12
      refine lv_iconst (v := (-1)) hx hb d_Mo_valve_15 (by decide) ?_
      refine lv_goto (tgt := 27) hx hb d_Mo_valve_16 (by decide) ?_
      exact W.iret (v := (-1)) hx hb hr (fun t ht hW => ⟨⟨(-1), (v_t_things, 0, f_t_kinds, f_t_taken, f_t_rooms, f_t_litres, f_t_liquids, f_t_positions, f_t_sensors, f_t_ends), rfl, hw, by rw [ht]; exact hP, va_K.moved hW.alike hK, hD⟩, hS.F ht⟩) hS.2.2 d_Mo_valve_27
def wp_Mo_isThing (v_t_things : Int32) (x1 : Int32) (P : Int32 → Prop) : Prop := ((x1 < 0 → P 0) ∧ (¬ x1 < 0 → ((v_t_things ≤ x1 → P 0) ∧ (¬ v_t_things ≤ x1 → P 1))))
def w_Mo_isThing : List Cond := .code y_Mo_isThing b_Mo_isThing 2 (some .boolean) :: tb
abbrev rm_Mo_isThing : Room := { frames := 0, cells := 0, slots := 0, locals := 0 }
abbrev Q_Mo_isThing (dC : Nat → ClassId) (dI : Nat → Nat → Nat) (cI cL cB : ClassId) (q_t : Nat) (a_t : Nat → Nat) (v_t_things : Int32) (v_t_pipes : Int32) (v_t_wide : Int32) (v_t_size : Int32) (v_t_place : Int32) (v_t_number : Int64) (v_t_thrown : Int32) (v_t_wish : Int32) (v_t_found : Int32) (x1 : Int32) (P : Int32 → Prop) (A : Nat → Prop) : Array Value → State → Outcome → State → Prop := va_Qi (fun (r : Int32) (u : Unit) => P r) (fun u t => va_P (dC, dI) classes [(q_t, .inr (7, o_Mo a_t v_t_things v_t_pipes v_t_wide v_t_size v_t_place v_t_number v_t_thrown v_t_wish v_t_found))] t.heap ∧ va_K (dC, dI) classes [(cI, .int), (cL, .long), (cB, .byte)] t ∧ va_D A [(q_t, .inr (7, o_Mo a_t v_t_things v_t_pipes v_t_wide v_t_size v_t_place v_t_number v_t_thrown v_t_wish v_t_found))]) A
set_option maxHeartbeats 4000000 in
set_option maxRecDepth 100000 in
theorem c_Mo_isThing (l : Launch) (dC : Nat → ClassId) (dI : Nat → Nat → Nat) (cI cL cB : ClassId) (q_t : Nat) (a_t : Nat → Nat) (sz : Nat) (v_t_things : Int32) (v_t_pipes : Int32) (v_t_wide : Int32) (v_t_size : Int32) (v_t_place : Int32) (v_t_number : Int64) (v_t_thrown : Int32) (v_t_wish : Int32) (v_t_found : Int32) (x1 : Int32) (P : Int32 → Prop) (hw : wp_Mo_isThing v_t_things x1 P) : Met l y_Mo_isThing w_Mo_isThing rm_Mo_isThing (va_Pc [.ref q_t, .int x1] (fun U => U.heap.size = sz ∧ va_P (dC, dI) classes [(q_t, .inr (7, o_Mo a_t v_t_things v_t_pipes v_t_wide v_t_size v_t_place v_t_number v_t_thrown v_t_wish v_t_found))] U.heap ∧ va_K (dC, dI) classes [(cI, .int), (cL, .long), (cB, .byte)] U ∧ va_D (fun _ => True) [(q_t, .inr (7, o_Mo a_t v_t_things v_t_pipes v_t_wide v_t_size v_t_place v_t_number v_t_thrown v_t_wish v_t_found))])) (Q_Mo_isThing dC dI cI cL cB q_t a_t v_t_things v_t_pipes v_t_wide v_t_size v_t_place v_t_number v_t_thrown v_t_wish v_t_found x1 P (va_A [(q_t, .inr (7, o_Mo a_t v_t_things v_t_pipes v_t_wide v_t_size v_t_place v_t_number v_t_thrown v_t_wish v_t_found))] sz)) 0 0 (va_A [(q_t, .inr (7, o_Mo a_t v_t_things v_t_pipes v_t_wide v_t_size v_t_place v_t_number v_t_thrown v_t_wish v_t_found))] sz) := by
  refine Met.ofW (cc := b_Mo_isThing) (maxL := 2) (ret := (some .boolean)) (by decide) rfl ?_
  intro p e s m args below meth c s₁ B hml hv
  obtain ⟨ha, hsz, hP, hK, hD0⟩ := hv
  have hx := B.exec
  have hb := B.bytes
  have hr := B.returns
  have hts0 := atoms_spec (ws := w_Mo_isThing) B.pre
  have hts : ∀ w ∈ tb, w.before args s = true := fun w h => hts0 w (List.mem_cons_of_mem _ h)
  have hown : s.vm.findClass R_Mo = some m.cls := findClass_of_methodNamed B.named
  have hlocks := B.notSynchronized
  subst hsz
  have hD := hD0.self (sz := s.heap.size)
  generalize hAe : va_A [(q_t, .inr (7, o_Mo a_t v_t_things v_t_pipes v_t_wide v_t_size v_t_place v_t_number v_t_thrown v_t_wish v_t_found))] s.heap.size = A at hD ⊢
  have hA : ∀ q : Nat, s.heap.size ≤ q → A q := fun q h => by rw [← hAe]; exact Or.inr h
  have hS : va_S A s.heap s.heap [] := va_S.rf
  have hP : va_P (dC, dI) classes [(q_t, .inr (7, o_Mo a_t v_t_things v_t_pipes v_t_wide v_t_size v_t_place v_t_number v_t_thrown v_t_wish v_t_found))] s.heap := hP
  have hl := lv_entry [.ref q_t, .int x1] (n := 2) (Nat.le_of_ble_eq_true rfl)
  have he9 : entryFrame m args 2 = F0 m 0 ((lg_sl [.ref q_t, .int x1] ++ List.replicate (2 - (lg_sl [.ref q_t, .int x1]).length) Slot.unset).toArray) [] := by rw [ha]; exact lg_entry_eq _ _ _
  rw [he9]
  clear he9
  generalize (lg_sl [.ref q_t, .int x1] ++ List.replicate (2 - (lg_sl [.ref q_t, .int x1]).length) Slot.unset).toArray = ls at hl ⊢
  have hl : lv_has ls 2 [(0, .ref q_t), (1, .int x1)] := hl
  unfold wp_Mo_isThing at hw
  refine lv_iload_n hx hb d_Mo_isThing_0 rfl (lv_at hl 1 rfl) ?_
  refine lv_if_lt (tgt := 16) hx hb d_Mo_isThing_1 (by decide) (fun c1 => ?_) (fun c1 => ?_)
  · replace hw := hw.1 c1
    refine lv_iconst (v := 0) hx hb d_Mo_isThing_16 (by decide) ?_
    exact W.zret (v := 0) hx hb hr (by decide) (fun t ht hW => ⟨⟨0, (), rfl, hw, by rw [ht]; exact hP, va_K.moved hW.alike hK, hD⟩, hS.F ht⟩) hS.2.2 d_Mo_isThing_17
  · replace hw := hw.2 c1
    refine lv_iload_n hx hb d_Mo_isThing_4 rfl (lv_at hl 1 rfl) ?_
    refine lv_aload_n hx hb d_Mo_isThing_5 rfl (lv_at hl 0 rfl) ?_
    refine va_get (D := (dC, dI)) (ci := 7) (v := .int v_t_things) (C := R_Mo) (T := F_Mo) (N := 29) hx hb hts i_Mo hown hK hP 0 rfl rfl 0 (by decide) (hts (Cond.fieldLink R_Mo 76 "PlantGraphModel" "things" "I") kw30_063c233) (fun _ h9 => h9) rfl d_Mo_isThing_6 ?_
    refine lv_icmp_ge (tgt := 16) hx hb d_Mo_isThing_9 (by decide) (fun c9 => ?_) (fun c9 => ?_)
    · replace hw := hw.1 c9
      refine lv_iconst (v := 0) hx hb d_Mo_isThing_16 (by decide) ?_
      exact W.zret (v := 0) hx hb hr (by decide) (fun t ht hW => ⟨⟨0, (), rfl, hw, by rw [ht]; exact hP, va_K.moved hW.alike hK, hD⟩, hS.F ht⟩) hS.2.2 d_Mo_isThing_17
    · replace hw := hw.2 c9
      refine lv_iconst (v := 1) hx hb d_Mo_isThing_12 (by decide) ?_
      refine lv_goto (tgt := 17) hx hb d_Mo_isThing_13 (by decide) ?_
      exact W.zret (v := 1) hx hb hr (by decide) (fun t ht hW => ⟨⟨1, (), rfl, hw, by rw [ht]; exact hP, va_K.moved hW.alike hK, hD⟩, hS.F ht⟩) hS.2.2 d_Mo_isThing_17
def wp_Mo_isTank (v_t_things : Int32) (f_t_kinds : (Nat → Int32)) (x1 : Int32) (P : Int32 → Prop) : Prop := wp_Mo_isThing v_t_things x1 (fun r2 => ((r2 = 0 → P 0) ∧ (¬ r2 = 0 → (vp_in x1 40 ∧ ((¬ (f_t_kinds x1.toNatClampNeg) = 0 → P 0) ∧ ((f_t_kinds x1.toNatClampNeg) = 0 → P 1))))))
def w_Mo_isTank : List Cond := .code y_Mo_isTank b_Mo_isTank 2 (some .boolean) :: tb
abbrev rm_Mo_isTank : Room := { frames := 1, cells := 0, slots := 0, locals := 21 }
abbrev Q_Mo_isTank (dC : Nat → ClassId) (dI : Nat → Nat → Nat) (cI cL cB : ClassId) (q_t : Nat) (a_t : Nat → Nat) (v_t_things : Int32) (v_t_pipes : Int32) (v_t_wide : Int32) (v_t_size : Int32) (v_t_place : Int32) (v_t_number : Int64) (v_t_thrown : Int32) (v_t_wish : Int32) (v_t_found : Int32) (f_t_kinds : (Nat → Int32)) (x1 : Int32) (P : Int32 → Prop) (A : Nat → Prop) : Array Value → State → Outcome → State → Prop := va_Qi (fun (r : Int32) (u : Unit) => P r) (fun u t => va_P (dC, dI) classes [(q_t, .inr (7, o_Mo a_t v_t_things v_t_pipes v_t_wide v_t_size v_t_place v_t_number v_t_thrown v_t_wish v_t_found)), ((a_t 1), .inl (cI, 40, .inl f_t_kinds))] t.heap ∧ va_K (dC, dI) classes [(cI, .int), (cL, .long), (cB, .byte)] t ∧ va_D A [(q_t, .inr (7, o_Mo a_t v_t_things v_t_pipes v_t_wide v_t_size v_t_place v_t_number v_t_thrown v_t_wish v_t_found)), ((a_t 1), .inl (cI, 40, .inl f_t_kinds))]) A
set_option maxHeartbeats 4000000 in
set_option maxRecDepth 100000 in
theorem c_Mo_isTank (l : Launch) (dC : Nat → ClassId) (dI : Nat → Nat → Nat) (cI cL cB : ClassId) (q_t : Nat) (a_t : Nat → Nat) (sz : Nat) (v_t_things : Int32) (v_t_pipes : Int32) (v_t_wide : Int32) (v_t_size : Int32) (v_t_place : Int32) (v_t_number : Int64) (v_t_thrown : Int32) (v_t_wish : Int32) (v_t_found : Int32) (f_t_kinds : (Nat → Int32)) (x1 : Int32) (P : Int32 → Prop) (hw : wp_Mo_isTank v_t_things f_t_kinds x1 P) : Met l y_Mo_isTank w_Mo_isTank rm_Mo_isTank (va_Pc [.ref q_t, .int x1] (fun U => U.heap.size = sz ∧ va_P (dC, dI) classes [(q_t, .inr (7, o_Mo a_t v_t_things v_t_pipes v_t_wide v_t_size v_t_place v_t_number v_t_thrown v_t_wish v_t_found)), ((a_t 1), .inl (cI, 40, .inl f_t_kinds))] U.heap ∧ va_K (dC, dI) classes [(cI, .int), (cL, .long), (cB, .byte)] U ∧ va_D (fun _ => True) [(q_t, .inr (7, o_Mo a_t v_t_things v_t_pipes v_t_wide v_t_size v_t_place v_t_number v_t_thrown v_t_wish v_t_found)), ((a_t 1), .inl (cI, 40, .inl f_t_kinds))])) (Q_Mo_isTank dC dI cI cL cB q_t a_t v_t_things v_t_pipes v_t_wide v_t_size v_t_place v_t_number v_t_thrown v_t_wish v_t_found f_t_kinds x1 P (va_A [(q_t, .inr (7, o_Mo a_t v_t_things v_t_pipes v_t_wide v_t_size v_t_place v_t_number v_t_thrown v_t_wish v_t_found)), ((a_t 1), .inl (cI, 40, .inl f_t_kinds))] sz)) 0 0 (va_A [(q_t, .inr (7, o_Mo a_t v_t_things v_t_pipes v_t_wide v_t_size v_t_place v_t_number v_t_thrown v_t_wish v_t_found)), ((a_t 1), .inl (cI, 40, .inl f_t_kinds))] sz) := by
  refine Met.ofW (cc := b_Mo_isTank) (maxL := 2) (ret := (some .boolean)) (by decide) rfl ?_
  intro p e s m args below meth c s₁ B hml hv
  obtain ⟨ha, hsz, hP, hK, hD0⟩ := hv
  have hx := B.exec
  have hb := B.bytes
  have hr := B.returns
  have hts0 := atoms_spec (ws := w_Mo_isTank) B.pre
  have hts : ∀ w ∈ tb, w.before args s = true := fun w h => hts0 w (List.mem_cons_of_mem _ h)
  have hown : s.vm.findClass R_Mo = some m.cls := findClass_of_methodNamed B.named
  have hlocks := B.notSynchronized
  subst hsz
  have hD := hD0.self (sz := s.heap.size)
  generalize hAe : va_A [(q_t, .inr (7, o_Mo a_t v_t_things v_t_pipes v_t_wide v_t_size v_t_place v_t_number v_t_thrown v_t_wish v_t_found)), ((a_t 1), .inl (cI, 40, .inl f_t_kinds))] s.heap.size = A at hD ⊢
  have hA : ∀ q : Nat, s.heap.size ≤ q → A q := fun q h => by rw [← hAe]; exact Or.inr h
  have hS : va_S A s.heap s.heap [] := va_S.rf
  have hP : va_P (dC, dI) classes [(q_t, .inr (7, o_Mo a_t v_t_things v_t_pipes v_t_wide v_t_size v_t_place v_t_number v_t_thrown v_t_wish v_t_found)), ((a_t 1), .inl (cI, 40, .inl f_t_kinds))] s.heap := hP
  have hl := lv_entry [.ref q_t, .int x1] (n := 2) (Nat.le_of_ble_eq_true rfl)
  have he9 : entryFrame m args 2 = F0 m 0 ((lg_sl [.ref q_t, .int x1] ++ List.replicate (2 - (lg_sl [.ref q_t, .int x1]).length) Slot.unset).toArray) [] := by rw [ha]; exact lg_entry_eq _ _ _
  rw [he9]
  clear he9
  generalize (lg_sl [.ref q_t, .int x1] ++ List.replicate (2 - (lg_sl [.ref q_t, .int x1]).length) Slot.unset).toArray = ls at hl ⊢
  have hl : lv_has ls 2 [(0, .ref q_t), (1, .int x1)] := hl
  unfold wp_Mo_isTank at hw
  refine lv_aload_n hx hb d_Mo_isTank_0 rfl (lv_at hl 0 rfl) ?_
  refine lv_iload_n hx hb d_Mo_isTank_1 rfl (lv_at hl 1 rfl) ?_
  have hPc := hP.sub (ws' := [(q_t, .inr (7, o_Mo a_t v_t_things v_t_pipes v_t_wide v_t_size v_t_place v_t_number v_t_thrown v_t_wish v_t_found))]) [0] rfl
  have hDc := hD.sub (ws' := [(q_t, .inr (7, o_Mo a_t v_t_things v_t_pipes v_t_wide v_t_size v_t_place v_t_number v_t_thrown v_t_wish v_t_found))]) [0] (by decide) rfl
  have hFc := va_free (wc := [(q_t, .inr (7, o_Mo a_t v_t_things v_t_pipes v_t_wide v_t_size v_t_place v_t_number v_t_thrown v_t_wish v_t_found))]) hD hS hA [0] rfl
  refine va_calli (va_runV (As := [.int x1]) (rest := []) ⟨hx, hb, hml, hown, hts⟩ (c_Mo_isThing l dC dI cI cL cB q_t a_t s.heap.size v_t_things v_t_pipes v_t_wide v_t_size v_t_place v_t_number v_t_thrown v_t_wish v_t_found x1 _ hw) (my_cwV 1 hts kw30_c875823 kw30_4435df4 kw30_110d942 kw30_7a5931c kw30_9e87649 rfl rfl (by decide +kernel) ⟨Nat.le_of_ble_eq_true rfl, Nat.le_of_ble_eq_true rfl⟩) ⟨fun a U g mk q => by obtain ⟨q0, q1, qP, qK, qD⟩ := q; exact ⟨q0, q1, qP, va_K.moved (u := U) (U := U.calling g mk a) (Vm.Alike.refl U.vm) qK, qD⟩, va_recv hK hP (ci := 7) (q0 := 0) rfl rfl, fun U hU hW => ⟨rfl, by rw [hU], by rw [hU]; exact hPc, va_K.moved hW.alike hK, hDc.weaken (fun _ _ _ _ => trivial)⟩⟩ rfl rfl hl.1 rfl (lv_room (Nat.le_of_ble_eq_true rfl)) d_Mo_isTank_2 ⟨Nat.zero_le _, Nat.zero_le _⟩) hS (fun q _ h => hFc q h) hFc (fun r2 u t H locs ht hvm hw hB hz1 hk1 hS => ?_)
  obtain ⟨hP1, hK1, hD1⟩ := hB
  rw [ht] at hP1
  obtain ⟨hP, hD⟩ := va_join (wr := [((a_t 1), .inl (cI, 40, .inl f_t_kinds))]) (w1 := [(q_t, .inr (7, o_Mo a_t v_t_things v_t_pipes v_t_wide v_t_size v_t_place v_t_number v_t_thrown v_t_wish v_t_found))]) hP hD [0] [1] rfl rfl (by decide) (by decide) hk1 hFc hP1 hD1
  have hP : va_P (dC, dI) classes [(q_t, .inr (7, o_Mo a_t v_t_things v_t_pipes v_t_wide v_t_size v_t_place v_t_number v_t_thrown v_t_wish v_t_found)), ((a_t 1), .inl (cI, 40, .inl f_t_kinds))] H := hP.sub (ws' := [(q_t, .inr (7, o_Mo a_t v_t_things v_t_pipes v_t_wide v_t_size v_t_place v_t_number v_t_thrown v_t_wish v_t_found)), ((a_t 1), .inl (cI, 40, .inl f_t_kinds))]) [1, 0] rfl
  have hD : va_D A [(q_t, .inr (7, o_Mo a_t v_t_things v_t_pipes v_t_wide v_t_size v_t_place v_t_number v_t_thrown v_t_wish v_t_found)), ((a_t 1), .inl (cI, 40, .inl f_t_kinds))] := hD.sub (ws' := [(q_t, .inr (7, o_Mo a_t v_t_things v_t_pipes v_t_wide v_t_size v_t_place v_t_number v_t_thrown v_t_wish v_t_found)), ((a_t 1), .inl (cI, 40, .inl f_t_kinds))]) [1, 0] (by decide) rfl
  refine lv_if_eq (tgt := 21) hx hb d_Mo_isTank_5 (by decide) (fun c5 => ?_) (fun c5 => ?_)
  · replace hw := hw.1 c5
    refine lv_iconst (v := 0) hx hb d_Mo_isTank_21 (by decide) ?_
    exact W.zret (v := 0) hx hb hr (by decide) (fun t ht hW => ⟨⟨0, (), rfl, hw, by rw [ht]; exact hP, va_K.moved hW.alike hK, hD⟩, hS.F ht⟩) hS.2.2 d_Mo_isTank_22
  · replace hw := hw.2 c5
    refine lv_aload_n hx hb d_Mo_isTank_8 rfl (lv_at hl 0 rfl) ?_
    refine va_get (D := (dC, dI)) (ci := 7) (v := .ref (a_t 1)) (C := R_Mo) (T := F_Mo) (N := 29) hx hb hts i_Mo hown hK hP 0 rfl rfl 1 (by decide) (hts (Cond.fieldLink R_Mo 9 "PlantGraphModel" "kinds" "[I") kw30_cf02404) (fun _ h9 => h9) rfl d_Mo_isTank_9 ?_
    refine lv_iload_n hx hb d_Mo_isTank_12 rfl (lv_at hl 1 rfl) ?_
    refine va_iald hx hb hK hP 1 0 rfl rfl hw.1 d_Mo_isTank_13 ?_
    replace hw := hw.2
    refine lv_if_ne (tgt := 21) hx hb d_Mo_isTank_14 (by decide) (fun c14 => ?_) (fun c14 => ?_)
    · replace hw := hw.1 c14
      refine lv_iconst (v := 0) hx hb d_Mo_isTank_21 (by decide) ?_
      exact W.zret (v := 0) hx hb hr (by decide) (fun t ht hW => ⟨⟨0, (), rfl, hw, by rw [ht]; exact hP, va_K.moved hW.alike hK, hD⟩, hS.F ht⟩) hS.2.2 d_Mo_isTank_22
    · replace hw := hw.2 c14
      refine lv_iconst (v := 1) hx hb d_Mo_isTank_17 (by decide) ?_
      refine lv_goto (tgt := 22) hx hb d_Mo_isTank_18 (by decide) ?_
      exact W.zret (v := 1) hx hb hr (by decide) (fun t ht hW => ⟨⟨1, (), rfl, hw, by rw [ht]; exact hP, va_K.moved hW.alike hK, hD⟩, hS.F ht⟩) hS.2.2 d_Mo_isTank_22
def wp_Mo_isValve (v_t_things : Int32) (f_t_kinds : (Nat → Int32)) (x1 : Int32) (P : Int32 → Prop) : Prop := wp_Mo_isThing v_t_things x1 (fun r2 => ((r2 = 0 → P 0) ∧ (¬ r2 = 0 → (vp_in x1 40 ∧ (((f_t_kinds x1.toNatClampNeg) < (2 : Int32) → P 0) ∧ (¬ (f_t_kinds x1.toNatClampNeg) < (2 : Int32) → P 1))))))
def w_Mo_isValve : List Cond := .code y_Mo_isValve b_Mo_isValve 2 (some .boolean) :: tb
abbrev rm_Mo_isValve : Room := { frames := 1, cells := 0, slots := 0, locals := 21 }
abbrev Q_Mo_isValve (dC : Nat → ClassId) (dI : Nat → Nat → Nat) (cI cL cB : ClassId) (q_t : Nat) (a_t : Nat → Nat) (v_t_things : Int32) (v_t_pipes : Int32) (v_t_wide : Int32) (v_t_size : Int32) (v_t_place : Int32) (v_t_number : Int64) (v_t_thrown : Int32) (v_t_wish : Int32) (v_t_found : Int32) (f_t_kinds : (Nat → Int32)) (x1 : Int32) (P : Int32 → Prop) (A : Nat → Prop) : Array Value → State → Outcome → State → Prop := va_Qi (fun (r : Int32) (u : Unit) => P r) (fun u t => va_P (dC, dI) classes [(q_t, .inr (7, o_Mo a_t v_t_things v_t_pipes v_t_wide v_t_size v_t_place v_t_number v_t_thrown v_t_wish v_t_found)), ((a_t 1), .inl (cI, 40, .inl f_t_kinds))] t.heap ∧ va_K (dC, dI) classes [(cI, .int), (cL, .long), (cB, .byte)] t ∧ va_D A [(q_t, .inr (7, o_Mo a_t v_t_things v_t_pipes v_t_wide v_t_size v_t_place v_t_number v_t_thrown v_t_wish v_t_found)), ((a_t 1), .inl (cI, 40, .inl f_t_kinds))]) A
set_option maxHeartbeats 4000000 in
set_option maxRecDepth 100000 in
theorem c_Mo_isValve (l : Launch) (dC : Nat → ClassId) (dI : Nat → Nat → Nat) (cI cL cB : ClassId) (q_t : Nat) (a_t : Nat → Nat) (sz : Nat) (v_t_things : Int32) (v_t_pipes : Int32) (v_t_wide : Int32) (v_t_size : Int32) (v_t_place : Int32) (v_t_number : Int64) (v_t_thrown : Int32) (v_t_wish : Int32) (v_t_found : Int32) (f_t_kinds : (Nat → Int32)) (x1 : Int32) (P : Int32 → Prop) (hw : wp_Mo_isValve v_t_things f_t_kinds x1 P) : Met l y_Mo_isValve w_Mo_isValve rm_Mo_isValve (va_Pc [.ref q_t, .int x1] (fun U => U.heap.size = sz ∧ va_P (dC, dI) classes [(q_t, .inr (7, o_Mo a_t v_t_things v_t_pipes v_t_wide v_t_size v_t_place v_t_number v_t_thrown v_t_wish v_t_found)), ((a_t 1), .inl (cI, 40, .inl f_t_kinds))] U.heap ∧ va_K (dC, dI) classes [(cI, .int), (cL, .long), (cB, .byte)] U ∧ va_D (fun _ => True) [(q_t, .inr (7, o_Mo a_t v_t_things v_t_pipes v_t_wide v_t_size v_t_place v_t_number v_t_thrown v_t_wish v_t_found)), ((a_t 1), .inl (cI, 40, .inl f_t_kinds))])) (Q_Mo_isValve dC dI cI cL cB q_t a_t v_t_things v_t_pipes v_t_wide v_t_size v_t_place v_t_number v_t_thrown v_t_wish v_t_found f_t_kinds x1 P (va_A [(q_t, .inr (7, o_Mo a_t v_t_things v_t_pipes v_t_wide v_t_size v_t_place v_t_number v_t_thrown v_t_wish v_t_found)), ((a_t 1), .inl (cI, 40, .inl f_t_kinds))] sz)) 0 0 (va_A [(q_t, .inr (7, o_Mo a_t v_t_things v_t_pipes v_t_wide v_t_size v_t_place v_t_number v_t_thrown v_t_wish v_t_found)), ((a_t 1), .inl (cI, 40, .inl f_t_kinds))] sz) := by
  refine Met.ofW (cc := b_Mo_isValve) (maxL := 2) (ret := (some .boolean)) (by decide) rfl ?_
  intro p e s m args below meth c s₁ B hml hv
  obtain ⟨ha, hsz, hP, hK, hD0⟩ := hv
  have hx := B.exec
  have hb := B.bytes
  have hr := B.returns
  have hts0 := atoms_spec (ws := w_Mo_isValve) B.pre
  have hts : ∀ w ∈ tb, w.before args s = true := fun w h => hts0 w (List.mem_cons_of_mem _ h)
  have hown : s.vm.findClass R_Mo = some m.cls := findClass_of_methodNamed B.named
  have hlocks := B.notSynchronized
  subst hsz
  have hD := hD0.self (sz := s.heap.size)
  generalize hAe : va_A [(q_t, .inr (7, o_Mo a_t v_t_things v_t_pipes v_t_wide v_t_size v_t_place v_t_number v_t_thrown v_t_wish v_t_found)), ((a_t 1), .inl (cI, 40, .inl f_t_kinds))] s.heap.size = A at hD ⊢
  have hA : ∀ q : Nat, s.heap.size ≤ q → A q := fun q h => by rw [← hAe]; exact Or.inr h
  have hS : va_S A s.heap s.heap [] := va_S.rf
  have hP : va_P (dC, dI) classes [(q_t, .inr (7, o_Mo a_t v_t_things v_t_pipes v_t_wide v_t_size v_t_place v_t_number v_t_thrown v_t_wish v_t_found)), ((a_t 1), .inl (cI, 40, .inl f_t_kinds))] s.heap := hP
  have hl := lv_entry [.ref q_t, .int x1] (n := 2) (Nat.le_of_ble_eq_true rfl)
  have he9 : entryFrame m args 2 = F0 m 0 ((lg_sl [.ref q_t, .int x1] ++ List.replicate (2 - (lg_sl [.ref q_t, .int x1]).length) Slot.unset).toArray) [] := by rw [ha]; exact lg_entry_eq _ _ _
  rw [he9]
  clear he9
  generalize (lg_sl [.ref q_t, .int x1] ++ List.replicate (2 - (lg_sl [.ref q_t, .int x1]).length) Slot.unset).toArray = ls at hl ⊢
  have hl : lv_has ls 2 [(0, .ref q_t), (1, .int x1)] := hl
  unfold wp_Mo_isValve at hw
  refine lv_aload_n hx hb d_Mo_isValve_0 rfl (lv_at hl 0 rfl) ?_
  refine lv_iload_n hx hb d_Mo_isValve_1 rfl (lv_at hl 1 rfl) ?_
  have hPc := hP.sub (ws' := [(q_t, .inr (7, o_Mo a_t v_t_things v_t_pipes v_t_wide v_t_size v_t_place v_t_number v_t_thrown v_t_wish v_t_found))]) [0] rfl
  have hDc := hD.sub (ws' := [(q_t, .inr (7, o_Mo a_t v_t_things v_t_pipes v_t_wide v_t_size v_t_place v_t_number v_t_thrown v_t_wish v_t_found))]) [0] (by decide) rfl
  have hFc := va_free (wc := [(q_t, .inr (7, o_Mo a_t v_t_things v_t_pipes v_t_wide v_t_size v_t_place v_t_number v_t_thrown v_t_wish v_t_found))]) hD hS hA [0] rfl
  refine va_calli (va_runV (As := [.int x1]) (rest := []) ⟨hx, hb, hml, hown, hts⟩ (c_Mo_isThing l dC dI cI cL cB q_t a_t s.heap.size v_t_things v_t_pipes v_t_wide v_t_size v_t_place v_t_number v_t_thrown v_t_wish v_t_found x1 _ hw) (my_cwV 1 hts kw30_c875823 kw30_4435df4 kw30_110d942 kw30_7a5931c kw30_9e87649 rfl rfl (by decide +kernel) ⟨Nat.le_of_ble_eq_true rfl, Nat.le_of_ble_eq_true rfl⟩) ⟨fun a U g mk q => by obtain ⟨q0, q1, qP, qK, qD⟩ := q; exact ⟨q0, q1, qP, va_K.moved (u := U) (U := U.calling g mk a) (Vm.Alike.refl U.vm) qK, qD⟩, va_recv hK hP (ci := 7) (q0 := 0) rfl rfl, fun U hU hW => ⟨rfl, by rw [hU], by rw [hU]; exact hPc, va_K.moved hW.alike hK, hDc.weaken (fun _ _ _ _ => trivial)⟩⟩ rfl rfl hl.1 rfl (lv_room (Nat.le_of_ble_eq_true rfl)) d_Mo_isValve_2 ⟨Nat.zero_le _, Nat.zero_le _⟩) hS (fun q _ h => hFc q h) hFc (fun r2 u t H locs ht hvm hw hB hz1 hk1 hS => ?_)
  obtain ⟨hP1, hK1, hD1⟩ := hB
  rw [ht] at hP1
  obtain ⟨hP, hD⟩ := va_join (wr := [((a_t 1), .inl (cI, 40, .inl f_t_kinds))]) (w1 := [(q_t, .inr (7, o_Mo a_t v_t_things v_t_pipes v_t_wide v_t_size v_t_place v_t_number v_t_thrown v_t_wish v_t_found))]) hP hD [0] [1] rfl rfl (by decide) (by decide) hk1 hFc hP1 hD1
  have hP : va_P (dC, dI) classes [(q_t, .inr (7, o_Mo a_t v_t_things v_t_pipes v_t_wide v_t_size v_t_place v_t_number v_t_thrown v_t_wish v_t_found)), ((a_t 1), .inl (cI, 40, .inl f_t_kinds))] H := hP.sub (ws' := [(q_t, .inr (7, o_Mo a_t v_t_things v_t_pipes v_t_wide v_t_size v_t_place v_t_number v_t_thrown v_t_wish v_t_found)), ((a_t 1), .inl (cI, 40, .inl f_t_kinds))]) [1, 0] rfl
  have hD : va_D A [(q_t, .inr (7, o_Mo a_t v_t_things v_t_pipes v_t_wide v_t_size v_t_place v_t_number v_t_thrown v_t_wish v_t_found)), ((a_t 1), .inl (cI, 40, .inl f_t_kinds))] := hD.sub (ws' := [(q_t, .inr (7, o_Mo a_t v_t_things v_t_pipes v_t_wide v_t_size v_t_place v_t_number v_t_thrown v_t_wish v_t_found)), ((a_t 1), .inl (cI, 40, .inl f_t_kinds))]) [1, 0] (by decide) rfl
  refine lv_if_eq (tgt := 22) hx hb d_Mo_isValve_5 (by decide) (fun c5 => ?_) (fun c5 => ?_)
  · replace hw := hw.1 c5
    refine lv_iconst (v := 0) hx hb d_Mo_isValve_22 (by decide) ?_
    exact W.zret (v := 0) hx hb hr (by decide) (fun t ht hW => ⟨⟨0, (), rfl, hw, by rw [ht]; exact hP, va_K.moved hW.alike hK, hD⟩, hS.F ht⟩) hS.2.2 d_Mo_isValve_23
  · replace hw := hw.2 c5
    refine lv_aload_n hx hb d_Mo_isValve_8 rfl (lv_at hl 0 rfl) ?_
    refine va_get (D := (dC, dI)) (ci := 7) (v := .ref (a_t 1)) (C := R_Mo) (T := F_Mo) (N := 29) hx hb hts i_Mo hown hK hP 0 rfl rfl 1 (by decide) (hts (Cond.fieldLink R_Mo 9 "PlantGraphModel" "kinds" "[I") kw30_cf02404) (fun _ h9 => h9) rfl d_Mo_isValve_9 ?_
    refine lv_iload_n hx hb d_Mo_isValve_12 rfl (lv_at hl 1 rfl) ?_
    refine va_iald hx hb hK hP 1 0 rfl rfl hw.1 d_Mo_isValve_13 ?_
    replace hw := hw.2
    refine lv_iconst (v := 2) hx hb d_Mo_isValve_14 (by decide) ?_
    refine lv_icmp_lt (tgt := 22) hx hb d_Mo_isValve_15 (by decide) (fun c15 => ?_) (fun c15 => ?_)
    · replace hw := hw.1 c15
      refine lv_iconst (v := 0) hx hb d_Mo_isValve_22 (by decide) ?_
      exact W.zret (v := 0) hx hb hr (by decide) (fun t ht hW => ⟨⟨0, (), rfl, hw, by rw [ht]; exact hP, va_K.moved hW.alike hK, hD⟩, hS.F ht⟩) hS.2.2 d_Mo_isValve_23
    · replace hw := hw.2 c15
      refine lv_iconst (v := 1) hx hb d_Mo_isValve_18 (by decide) ?_
      refine lv_goto (tgt := 23) hx hb d_Mo_isValve_19 (by decide) ?_
      exact W.zret (v := 1) hx hb hr (by decide) (fun t ht hW => ⟨⟨1, (), rfl, hw, by rw [ht]; exact hP, va_K.moved hW.alike hK, hD⟩, hS.F ht⟩) hS.2.2 d_Mo_isValve_23
def wj_Mo_fits_83 (x4 : Int32) (n_p1 : Nat) (n_p0 : Nat) (f_p0 : (Nat → Int32)) (f_p1 : (Nat → Int32)) (P : Int32 → Prop) (x7_J83 : Int32) : Prop := ((x4 = ((-1) : Int32) → P 1) ∧ (¬ x4 = ((-1) : Int32) → (vp_in x4 n_p1 ∧ (vp_in x4 n_p0 ∧ (vp_in (f_p0 x4.toNatClampNeg) 11 ∧ (((roomF (f_p0 x4.toNatClampNeg).toNatClampNeg) ≤ ((f_p1 x4.toNatClampNeg) + x7_J83) → P 0) ∧ (¬ (roomF (f_p0 x4.toNatClampNeg).toNatClampNeg) ≤ ((f_p1 x4.toNatClampNeg) + x7_J83) → P 1)))))))
def wj_Mo_fits_60 (x3 : Int32) (x4 : Int32) (n_p1 : Nat) (n_p0 : Nat) (f_p0 : (Nat → Int32)) (f_p1 : (Nat → Int32)) (P : Int32 → Prop) (s0_J60 : Int32) : Prop := ((x3 = ((-1) : Int32) → wj_Mo_fits_83 x4 n_p1 n_p0 f_p0 f_p1 P s0_J60) ∧ (¬ x3 = ((-1) : Int32) → (vp_in x3 n_p1 ∧ (vp_in x3 n_p0 ∧ (vp_in (f_p0 x3.toNatClampNeg) 11 ∧ (((roomF (f_p0 x3.toNatClampNeg).toNatClampNeg) ≤ ((f_p1 x3.toNatClampNeg) + s0_J60) → P 0) ∧ (¬ (roomF (f_p0 x3.toNatClampNeg).toNatClampNeg) ≤ ((f_p1 x3.toNatClampNeg) + s0_J60) → wj_Mo_fits_83 x4 n_p1 n_p0 f_p0 f_p1 P s0_J60)))))))
def wj_Mo_fits_31 (x5 : Int64) (x3 : Int32) (x4 : Int32) (n_p1 : Nat) (n_p0 : Nat) (f_p0 : (Nat → Int32)) (f_p1 : (Nat → Int32)) (P : Int32 → Prop) : Prop := (((lg_cmp x5 1) < 0 → P 0) ∧ (¬ (lg_cmp x5 1) < 0 → (((lg_cmp x5 200) ≤ 0 → ((¬ x3 = x4 → wj_Mo_fits_60 x3 x4 n_p1 n_p0 f_p0 f_p1 P 0) ∧ (x3 = x4 → wj_Mo_fits_60 x3 x4 n_p1 n_p0 f_p0 f_p1 P 1))) ∧ (¬ (lg_cmp x5 200) ≤ 0 → P 0))))
def wj_Mo_fits_14 (x4 : Int32) (x5 : Int64) (x3 : Int32) (n_p1 : Nat) (n_p0 : Nat) (f_p0 : (Nat → Int32)) (f_p1 : (Nat → Int32)) (x2 : Int32) (P : Int32 → Prop) : Prop := ((x4 = ((-1) : Int32) → wj_Mo_fits_31 x5 x3 x4 n_p1 n_p0 f_p0 f_p1 P ) ∧ (¬ x4 = ((-1) : Int32) → ((x4 < 0 → P 0) ∧ (¬ x4 < 0 → ((x2 ≤ x4 → P 0) ∧ (¬ x2 ≤ x4 → wj_Mo_fits_31 x5 x3 x4 n_p1 n_p0 f_p0 f_p1 P ))))))
def wp_Mo_fits (n_p0 : Nat) (n_p1 : Nat) (f_p0 : (Nat → Int32)) (f_p1 : (Nat → Int32)) (x2 : Int32) (x3 : Int32) (x4 : Int32) (x5 : Int64) (P : Int32 → Prop) : Prop := ((x3 = ((-1) : Int32) → wj_Mo_fits_14 x4 x5 x3 n_p1 n_p0 f_p0 f_p1 x2 P ) ∧ (¬ x3 = ((-1) : Int32) → ((x3 < 0 → P 0) ∧ (¬ x3 < 0 → ((x2 ≤ x3 → P 0) ∧ (¬ x2 ≤ x3 → wj_Mo_fits_14 x4 x5 x3 n_p1 n_p0 f_p0 f_p1 x2 P ))))))
def w_Mo_fits : List Cond := .code y_Mo_fits b_Mo_fits 8 (some .boolean) :: tb
abbrev rm_Mo_fits : Room := { frames := 0, cells := 0, slots := 0, locals := 0 }
abbrev Q_Mo_fits (dC : Nat → ClassId) (dI : Nat → Nat → Nat) (cI cL cB : ClassId) (q_p0 : Nat) (q_p1 : Nat) (f_p0 : (Nat → Int32)) (n_p0 : Nat) (f_p1 : (Nat → Int32)) (n_p1 : Nat) (x2 : Int32) (x3 : Int32) (x4 : Int32) (x5 : Int64) (P : Int32 → Prop) (A : Nat → Prop) : Array Value → State → Outcome → State → Prop := va_Qi (fun (r : Int32) (u : Unit) => P r) (fun u t => va_P (dC, dI) classes [(q_p0, .inl (cI, n_p0, .inl f_p0)), (q_p1, .inl (cI, n_p1, .inl f_p1))] t.heap ∧ va_K (dC, dI) classes [(cI, .int), (cL, .long), (cB, .byte)] t ∧ va_D A [(q_p0, .inl (cI, n_p0, .inl f_p0)), (q_p1, .inl (cI, n_p1, .inl f_p1))]) A
set_option maxHeartbeats 4000000 in
set_option maxRecDepth 100000 in
theorem c_Mo_fits (l : Launch) (dC : Nat → ClassId) (dI : Nat → Nat → Nat) (cI cL cB : ClassId) (tP tR : Nat) (adK adV : Nat → Nat) (q_p0 : Nat) (q_p1 : Nat) (sz : Nat) (f_p0 : (Nat → Int32)) (n_p0 : Nat) (f_p1 : (Nat → Int32)) (n_p1 : Nat) (x2 : Int32) (x3 : Int32) (x4 : Int32) (x5 : Int64) (P : Int32 → Prop) (hw : wp_Mo_fits n_p0 n_p1 f_p0 f_p1 x2 x3 x4 x5 P) : Met l y_Mo_fits w_Mo_fits rm_Mo_fits (va_Pc [.ref q_p0, .ref q_p1, .int x2, .int x3, .int x4, .long x5] (fun U => U.heap.size = sz ∧ va_P (dC, dI) classes [(q_p0, .inl (cI, n_p0, .inl f_p0)), (q_p1, .inl (cI, n_p1, .inl f_p1))] U.heap ∧ va_K (dC, dI) classes [(cI, .int), (cL, .long), (cB, .byte)] U ∧ va_D (fun _ => True) [(q_p0, .inl (cI, n_p0, .inl f_p0)), (q_p1, .inl (cI, n_p1, .inl f_p1))] ∧ gx tP tR adK adV (va_A [(q_p0, .inl (cI, n_p0, .inl f_p0)), (q_p1, .inl (cI, n_p1, .inl f_p1))] sz) U U.heap)) (Q_Mo_fits dC dI cI cL cB q_p0 q_p1 f_p0 n_p0 f_p1 n_p1 x2 x3 x4 x5 P (va_A [(q_p0, .inl (cI, n_p0, .inl f_p0)), (q_p1, .inl (cI, n_p1, .inl f_p1))] sz)) 0 0 (va_A [(q_p0, .inl (cI, n_p0, .inl f_p0)), (q_p1, .inl (cI, n_p1, .inl f_p1))] sz) := by
  refine Met.ofW (cc := b_Mo_fits) (maxL := 8) (ret := (some .boolean)) (by decide) rfl ?_
  intro p e s m args below meth c s₁ B hml hv
  obtain ⟨ha, hsz, hP, hK, hD0, hG⟩ := hv
  have hx := B.exec
  have hb := B.bytes
  have hr := B.returns
  have hts0 := atoms_spec (ws := w_Mo_fits) B.pre
  have hts : ∀ w ∈ tb, w.before args s = true := fun w h => hts0 w (List.mem_cons_of_mem _ h)
  have hown : s.vm.findClass R_Mo = some m.cls := findClass_of_methodNamed B.named
  have hlocks := B.notSynchronized
  subst hsz
  have hD := hD0.self (sz := s.heap.size)
  generalize hAe : va_A [(q_p0, .inl (cI, n_p0, .inl f_p0)), (q_p1, .inl (cI, n_p1, .inl f_p1))] s.heap.size = A at hD hG ⊢
  have hA : ∀ q : Nat, s.heap.size ≤ q → A q := fun q h => by rw [← hAe]; exact Or.inr h
  have hS : va_S A s.heap s.heap [] := va_S.rf
  have hP : va_P (dC, dI) classes [(q_p0, .inl (cI, n_p0, .inl f_p0)), (q_p1, .inl (cI, n_p1, .inl f_p1))] s.heap := hP
  have hl := lv_entry [.ref q_p0, .ref q_p1, .int x2, .int x3, .int x4, .long x5] (n := 8) (Nat.le_of_ble_eq_true rfl)
  have he9 : entryFrame m args 8 = F0 m 0 ((lg_sl [.ref q_p0, .ref q_p1, .int x2, .int x3, .int x4, .long x5] ++ List.replicate (8 - (lg_sl [.ref q_p0, .ref q_p1, .int x2, .int x3, .int x4, .long x5]).length) Slot.unset).toArray) [] := by rw [ha]; exact lg_entry_eq _ _ _
  rw [he9]
  clear he9
  generalize (lg_sl [.ref q_p0, .ref q_p1, .int x2, .int x3, .int x4, .long x5] ++ List.replicate (8 - (lg_sl [.ref q_p0, .ref q_p1, .int x2, .int x3, .int x4, .long x5]).length) Slot.unset).toArray = ls at hl ⊢
  have hl : lv_has ls 8 [(0, .ref q_p0), (1, .ref q_p1), (2, .int x2), (3, .int x3), (4, .int x4), (5, .long x5)] := hl
  unfold wp_Mo_fits at hw
  have J_83 : ∀ (x7_J83 : Int32) (H : Heap) (locs : List Loc) (ls : Array Slot), va_P (dC, dI) classes [(q_p0, .inl (cI, n_p0, .inl f_p0)), (q_p1, .inl (cI, n_p1, .inl f_p1))] H → va_D A [(q_p0, .inl (cI, n_p0, .inl f_p0)), (q_p1, .inl (cI, n_p1, .inl f_p1))] → va_S A s.heap H locs → lv_has ls 8 [(0, .ref q_p0), (1, .ref q_p1), (4, .int x4), (7, .int x7_J83)] → wj_Mo_fits_83 x4 n_p1 n_p0 f_p0 f_p1 P x7_J83 → W p l e (headSpec w_Mo_fits rm_Mo_fits).room s m args below meth c H locs 0 0 (MQ below (Q_Mo_fits dC dI cI cL cB q_p0 q_p1 f_p0 n_p0 f_p1 n_p1 x2 x3 x4 x5 P A) args s 0 0 A) (F0 m 83 ls []) := by
    intro x7_J83 H locs ls hP hD hS hl hw
    unfold wj_Mo_fits_83 at hw
    refine lv_iload hx hb d_Mo_fits_83 (lv_at hl 2 rfl) ?_
    refine lv_iconst (v := (-1)) hx hb d_Mo_fits_85 (by decide) ?_
    refine lv_icmp_eq (tgt := 107) hx hb d_Mo_fits_86 (by decide) (fun c86 => ?_) (fun c86 => ?_)
    · replace hw := hw.1 c86
      refine lv_iconst (v := 1) hx hb d_Mo_fits_107 (by decide) ?_
      refine lv_goto (tgt := 112) hx hb d_Mo_fits_108 (by decide) ?_
      exact W.zret (v := 1) hx hb hr (by decide) (fun t ht hW => ⟨⟨1, (), rfl, hw, by rw [ht]; exact hP, va_K.moved hW.alike hK, hD⟩, hS.F ht⟩) hS.2.2 d_Mo_fits_112
    · replace hw := hw.2 c86
      refine lv_aload_n hx hb d_Mo_fits_89 rfl (lv_at hl 1 rfl) ?_
      refine lv_iload hx hb d_Mo_fits_90 (lv_at hl 2 rfl) ?_
      refine va_iald hx hb hK hP 1 0 rfl rfl hw.1 d_Mo_fits_92 ?_
      replace hw := hw.2
      refine lv_iload hx hb d_Mo_fits_93 (lv_at hl 3 rfl) ?_
      refine lv_iadd hx hb d_Mo_fits_95 ?_
      refine va_gets hx hb hG.2.2.1 hS hown (hts (Cond.fieldLink R_Mo 91 "PlantGraphModel" "ROOM" "[I") kw30_a03fbe5) (fun _ h9 => h9) d_Mo_fits_96 ?_
      refine lv_aload_n hx hb d_Mo_fits_99 rfl (lv_at hl 0 rfl) ?_
      refine lv_iload hx hb d_Mo_fits_100 (lv_at hl 2 rfl) ?_
      refine va_iald hx hb hK hP 0 0 rfl rfl hw.1 d_Mo_fits_102 ?_
      replace hw := hw.2
      refine va_ti hx hb hG.2.2.2.1 hS hw.1 (v := .int (roomF (f_p0 x4.toNatClampNeg).toNatClampNeg)) rfl d_Mo_fits_103 ?_
      replace hw := hw.2
      refine lv_icmp_ge (tgt := 111) hx hb d_Mo_fits_104 (by decide) (fun c104 => ?_) (fun c104 => ?_)
      · replace hw := hw.1 c104
        refine lv_iconst (v := 0) hx hb d_Mo_fits_111 (by decide) ?_
        exact W.zret (v := 0) hx hb hr (by decide) (fun t ht hW => ⟨⟨0, (), rfl, hw, by rw [ht]; exact hP, va_K.moved hW.alike hK, hD⟩, hS.F ht⟩) hS.2.2 d_Mo_fits_112
      · replace hw := hw.2 c104
        refine lv_iconst (v := 1) hx hb d_Mo_fits_107 (by decide) ?_
        refine lv_goto (tgt := 112) hx hb d_Mo_fits_108 (by decide) ?_
        exact W.zret (v := 1) hx hb hr (by decide) (fun t ht hW => ⟨⟨1, (), rfl, hw, by rw [ht]; exact hP, va_K.moved hW.alike hK, hD⟩, hS.F ht⟩) hS.2.2 d_Mo_fits_112
  have J_60 : ∀ (s0_J60 : Int32) (H : Heap) (locs : List Loc) (ls : Array Slot), va_P (dC, dI) classes [(q_p0, .inl (cI, n_p0, .inl f_p0)), (q_p1, .inl (cI, n_p1, .inl f_p1))] H → va_D A [(q_p0, .inl (cI, n_p0, .inl f_p0)), (q_p1, .inl (cI, n_p1, .inl f_p1))] → va_S A s.heap H locs → lv_has ls 8 [(0, .ref q_p0), (1, .ref q_p1), (3, .int x3), (4, .int x4)] → wj_Mo_fits_60 x3 x4 n_p1 n_p0 f_p0 f_p1 P s0_J60 → W p l e (headSpec w_Mo_fits rm_Mo_fits).room s m args below meth c H locs 0 0 (MQ below (Q_Mo_fits dC dI cI cL cB q_p0 q_p1 f_p0 n_p0 f_p1 n_p1 x2 x3 x4 x5 P A) args s 0 0 A) (F0 m 60 ls [.int s0_J60]) := by
    intro s0_J60 H locs ls hP hD hS hl hw
    unfold wj_Mo_fits_60 at hw
    refine lv_istore (lv' := [(7, .int s0_J60), (0, .ref q_p0), (1, .ref q_p1), (3, .int x3), (4, .int x4)]) hx hb d_Mo_fits_60 hl (by decide) rfl (fun ls hl => ?_)
    refine lv_iload_n hx hb d_Mo_fits_62 rfl (lv_at hl 3 rfl) ?_
    refine lv_iconst (v := (-1)) hx hb d_Mo_fits_63 (by decide) ?_
    refine lv_icmp_eq (tgt := 83) hx hb d_Mo_fits_64 (by decide) (fun c64 => ?_) (fun c64 => ?_)
    · replace hw := hw.1 c64
      exact J_83 s0_J60 H _ _ hP hD hS (lv_sub hl [1, 2, 4, 0] rfl) hw
    · replace hw := hw.2 c64
      refine lv_aload_n hx hb d_Mo_fits_67 rfl (lv_at hl 2 rfl) ?_
      refine lv_iload_n hx hb d_Mo_fits_68 rfl (lv_at hl 3 rfl) ?_
      refine va_iald hx hb hK hP 1 0 rfl rfl hw.1 d_Mo_fits_69 ?_
      replace hw := hw.2
      refine lv_iload hx hb d_Mo_fits_70 (lv_at hl 0 rfl) ?_
      refine lv_iadd hx hb d_Mo_fits_72 ?_
      refine va_gets hx hb hG.2.2.1 hS hown (hts (Cond.fieldLink R_Mo 91 "PlantGraphModel" "ROOM" "[I") kw30_a03fbe5) (fun _ h9 => h9) d_Mo_fits_73 ?_
      refine lv_aload_n hx hb d_Mo_fits_76 rfl (lv_at hl 1 rfl) ?_
      refine lv_iload_n hx hb d_Mo_fits_77 rfl (lv_at hl 3 rfl) ?_
      refine va_iald hx hb hK hP 0 0 rfl rfl hw.1 d_Mo_fits_78 ?_
      replace hw := hw.2
      refine va_ti hx hb hG.2.2.2.1 hS hw.1 (v := .int (roomF (f_p0 x3.toNatClampNeg).toNatClampNeg)) rfl d_Mo_fits_79 ?_
      replace hw := hw.2
      refine lv_icmp_ge (tgt := 111) hx hb d_Mo_fits_80 (by decide) (fun c80 => ?_) (fun c80 => ?_)
      · replace hw := hw.1 c80
        refine lv_iconst (v := 0) hx hb d_Mo_fits_111 (by decide) ?_
        exact W.zret (v := 0) hx hb hr (by decide) (fun t ht hW => ⟨⟨0, (), rfl, hw, by rw [ht]; exact hP, va_K.moved hW.alike hK, hD⟩, hS.F ht⟩) hS.2.2 d_Mo_fits_112
      · replace hw := hw.2 c80
        exact J_83 s0_J60 H _ _ hP hD hS (lv_sub hl [1, 2, 4, 0] rfl) hw
  have J_31 : ∀ (H : Heap) (locs : List Loc) (ls : Array Slot), va_P (dC, dI) classes [(q_p0, .inl (cI, n_p0, .inl f_p0)), (q_p1, .inl (cI, n_p1, .inl f_p1))] H → va_D A [(q_p0, .inl (cI, n_p0, .inl f_p0)), (q_p1, .inl (cI, n_p1, .inl f_p1))] → va_S A s.heap H locs → lv_has ls 8 [(0, .ref q_p0), (1, .ref q_p1), (3, .int x3), (4, .int x4), (5, .long x5)] → wj_Mo_fits_31 x5 x3 x4 n_p1 n_p0 f_p0 f_p1 P → W p l e (headSpec w_Mo_fits rm_Mo_fits).room s m args below meth c H locs 0 0 (MQ below (Q_Mo_fits dC dI cI cL cB q_p0 q_p1 f_p0 n_p0 f_p1 n_p1 x2 x3 x4 x5 P A) args s 0 0 A) (F0 m 31 ls []) := by
    intro  H locs ls hP hD hS hl hw
    unfold wj_Mo_fits_31 at hw
    refine lv_lload hx hb d_Mo_fits_31 (lv_at hl 4 rfl) ?_
    refine lv_lconst (v := 1) hx hb d_Mo_fits_33 (by decide) ?_
    refine W.lcmp hx hb d_Mo_fits_34 ?_
    refine lv_if_lt (tgt := 47) hx hb d_Mo_fits_35 (by decide) (fun c35 => ?_) (fun c35 => ?_)
    · replace hw := hw.1 c35
      refine lv_iconst (v := 0) hx hb d_Mo_fits_47 (by decide) ?_
      exact W.zret (v := 0) hx hb hr (by decide) (fun t ht hW => ⟨⟨0, (), rfl, hw, by rw [ht]; exact hP, va_K.moved hW.alike hK, hD⟩, hS.F ht⟩) hS.2.2 d_Mo_fits_48
    · replace hw := hw.2 c35
      refine lv_lload hx hb d_Mo_fits_38 (lv_at hl 4 rfl) ?_
      refine lv_ldc2 (v := 200) hx hb hown (hts (Cond.constantLong R_Mo 89 200) kw30_f7c3d95) d_Mo_fits_40 ?_
      refine W.lcmp hx hb d_Mo_fits_43 ?_
      refine lv_if_le (tgt := 49) hx hb d_Mo_fits_44 (by decide) (fun c44 => ?_) (fun c44 => ?_)
      · replace hw := hw.1 c44
        refine lv_iload_n hx hb d_Mo_fits_49 rfl (lv_at hl 2 rfl) ?_
        refine lv_iload hx hb d_Mo_fits_50 (lv_at hl 3 rfl) ?_
        refine lv_icmp_ne (tgt := 59) hx hb d_Mo_fits_52 (by decide) (fun c52 => ?_) (fun c52 => ?_)
        · replace hw := hw.1 c52
          refine lv_iconst (v := 0) hx hb d_Mo_fits_59 (by decide) ?_
          exact J_60 0 H _ _ hP hD hS (lv_sub hl [0, 1, 2, 3] rfl) hw
        · replace hw := hw.2 c52
          refine lv_iconst (v := 1) hx hb d_Mo_fits_55 (by decide) ?_
          refine lv_goto (tgt := 60) hx hb d_Mo_fits_56 (by decide) ?_
          exact J_60 1 H _ _ hP hD hS (lv_sub hl [0, 1, 2, 3] rfl) hw
      · replace hw := hw.2 c44
        refine lv_iconst (v := 0) hx hb d_Mo_fits_47 (by decide) ?_
        exact W.zret (v := 0) hx hb hr (by decide) (fun t ht hW => ⟨⟨0, (), rfl, hw, by rw [ht]; exact hP, va_K.moved hW.alike hK, hD⟩, hS.F ht⟩) hS.2.2 d_Mo_fits_48
  have J_14 : ∀ (H : Heap) (locs : List Loc) (ls : Array Slot), va_P (dC, dI) classes [(q_p0, .inl (cI, n_p0, .inl f_p0)), (q_p1, .inl (cI, n_p1, .inl f_p1))] H → va_D A [(q_p0, .inl (cI, n_p0, .inl f_p0)), (q_p1, .inl (cI, n_p1, .inl f_p1))] → va_S A s.heap H locs → lv_has ls 8 [(0, .ref q_p0), (1, .ref q_p1), (2, .int x2), (3, .int x3), (4, .int x4), (5, .long x5)] → wj_Mo_fits_14 x4 x5 x3 n_p1 n_p0 f_p0 f_p1 x2 P → W p l e (headSpec w_Mo_fits rm_Mo_fits).room s m args below meth c H locs 0 0 (MQ below (Q_Mo_fits dC dI cI cL cB q_p0 q_p1 f_p0 n_p0 f_p1 n_p1 x2 x3 x4 x5 P A) args s 0 0 A) (F0 m 14 ls []) := by
    intro  H locs ls hP hD hS hl hw
    unfold wj_Mo_fits_14 at hw
    refine lv_iload hx hb d_Mo_fits_14 (lv_at hl 4 rfl) ?_
    refine lv_iconst (v := (-1)) hx hb d_Mo_fits_16 (by decide) ?_
    refine lv_icmp_eq (tgt := 31) hx hb d_Mo_fits_17 (by decide) (fun c17 => ?_) (fun c17 => ?_)
    · replace hw := hw.1 c17
      exact J_31  H _ _ hP hD hS (lv_sub hl [0, 1, 3, 4, 5] rfl) hw
    · replace hw := hw.2 c17
      refine lv_iload hx hb d_Mo_fits_20 (lv_at hl 4 rfl) ?_
      refine lv_if_lt (tgt := 47) hx hb d_Mo_fits_22 (by decide) (fun c22 => ?_) (fun c22 => ?_)
      · replace hw := hw.1 c22
        refine lv_iconst (v := 0) hx hb d_Mo_fits_47 (by decide) ?_
        exact W.zret (v := 0) hx hb hr (by decide) (fun t ht hW => ⟨⟨0, (), rfl, hw, by rw [ht]; exact hP, va_K.moved hW.alike hK, hD⟩, hS.F ht⟩) hS.2.2 d_Mo_fits_48
      · replace hw := hw.2 c22
        refine lv_iload hx hb d_Mo_fits_25 (lv_at hl 4 rfl) ?_
        refine lv_iload_n hx hb d_Mo_fits_27 rfl (lv_at hl 2 rfl) ?_
        refine lv_icmp_ge (tgt := 47) hx hb d_Mo_fits_28 (by decide) (fun c28 => ?_) (fun c28 => ?_)
        · replace hw := hw.1 c28
          refine lv_iconst (v := 0) hx hb d_Mo_fits_47 (by decide) ?_
          exact W.zret (v := 0) hx hb hr (by decide) (fun t ht hW => ⟨⟨0, (), rfl, hw, by rw [ht]; exact hP, va_K.moved hW.alike hK, hD⟩, hS.F ht⟩) hS.2.2 d_Mo_fits_48
        · replace hw := hw.2 c28
          exact J_31  H _ _ hP hD hS (lv_sub hl [0, 1, 3, 4, 5] rfl) hw
  refine lv_iload_n hx hb d_Mo_fits_0 rfl (lv_at hl 3 rfl) ?_
  refine lv_iconst (v := (-1)) hx hb d_Mo_fits_1 (by decide) ?_
  refine lv_icmp_eq (tgt := 14) hx hb d_Mo_fits_2 (by decide) (fun c2 => ?_) (fun c2 => ?_)
  · replace hw := hw.1 c2
    exact J_14  s.heap _ _ hP hD hS (lv_sub hl [0, 1, 2, 3, 4, 5] rfl) hw
  · replace hw := hw.2 c2
    refine lv_iload_n hx hb d_Mo_fits_5 rfl (lv_at hl 3 rfl) ?_
    refine lv_if_lt (tgt := 47) hx hb d_Mo_fits_6 (by decide) (fun c6 => ?_) (fun c6 => ?_)
    · replace hw := hw.1 c6
      refine lv_iconst (v := 0) hx hb d_Mo_fits_47 (by decide) ?_
      exact W.zret (v := 0) hx hb hr (by decide) (fun t ht hW => ⟨⟨0, (), rfl, hw, by rw [ht]; exact hP, va_K.moved hW.alike hK, hD⟩, hS.F ht⟩) hS.2.2 d_Mo_fits_48
    · replace hw := hw.2 c6
      refine lv_iload_n hx hb d_Mo_fits_9 rfl (lv_at hl 3 rfl) ?_
      refine lv_iload_n hx hb d_Mo_fits_10 rfl (lv_at hl 2 rfl) ?_
      refine lv_icmp_ge (tgt := 47) hx hb d_Mo_fits_11 (by decide) (fun c11 => ?_) (fun c11 => ?_)
      · replace hw := hw.1 c11
        refine lv_iconst (v := 0) hx hb d_Mo_fits_47 (by decide) ?_
        exact W.zret (v := 0) hx hb hr (by decide) (fun t ht hW => ⟨⟨0, (), rfl, hw, by rw [ht]; exact hP, va_K.moved hW.alike hK, hD⟩, hS.F ht⟩) hS.2.2 d_Mo_fits_48
      · replace hw := hw.2 c11
        exact J_14  s.heap _ _ hP hD hS (lv_sub hl [0, 1, 2, 3, 4, 5] rfl) hw
def wp_Mo_join (f_t_kinds : (Nat → Int32)) (f_t_taken : (Nat → Int32)) (f_t_ends : (Nat → Int32)) (f_t_at : (Nat → Int32)) (f_t_ports : (Nat → Int32)) (f_t_bends : (Nat → Int32)) (x1 : Int32) (x2 : Int32) (P : (Nat → Int32) → (Nat → Int32) → (Nat → Int32) → (Nat → Int32) → (Nat → Int32) → Prop) : Prop := (vp_in x1 120 ∧ (vp_in x1 120 ∧ (vp_in x1 120 ∧ ((x2 = ((-1) : Int32) → P f_t_taken f_t_ends (upd f_t_at x1.toNatClampNeg x2) (upd f_t_ports x1.toNatClampNeg (-1)) (upd f_t_bends x1.toNatClampNeg (-1))) ∧ (¬ x2 = ((-1) : Int32) → (vp_in x2 40 ∧ (vp_in x1 120 ∧ (vp_in x2 40 ∧ (((f_t_kinds x2.toNatClampNeg) = 0 → (vp_in x2 40 ∧ (vp_in x2 40 ∧ P (upd f_t_taken x2.toNatClampNeg ((f_t_taken x2.toNatClampNeg) + 1)) f_t_ends (upd f_t_at x1.toNatClampNeg x2) (upd (upd f_t_ports x1.toNatClampNeg (-1)) x1.toNatClampNeg (f_t_taken x2.toNatClampNeg)) (upd f_t_bends x1.toNatClampNeg (-1))))) ∧ (¬ (f_t_kinds x2.toNatClampNeg) = 0 → (vp_in x2 40 ∧ (vp_in ((4 * x2) + (f_t_taken x2.toNatClampNeg)) 160 ∧ (vp_in x2 40 ∧ (vp_in x2 40 ∧ P (upd f_t_taken x2.toNatClampNeg ((f_t_taken x2.toNatClampNeg) + 1)) (upd f_t_ends ((4 * x2) + (f_t_taken x2.toNatClampNeg)).toNatClampNeg x1) (upd f_t_at x1.toNatClampNeg x2) (upd (upd f_t_ports x1.toNatClampNeg (-1)) x1.toNatClampNeg (f_t_taken x2.toNatClampNeg)) (upd f_t_bends x1.toNatClampNeg (-1))))))))))))))))
def w_Mo_join : List Cond := .code y_Mo_join b_Mo_join 3 none :: tb
abbrev rm_Mo_join : Room := { frames := 0, cells := 0, slots := 0, locals := 0 }
abbrev Q_Mo_join (dC : Nat → ClassId) (dI : Nat → Nat → Nat) (cI cL cB : ClassId) (q_t : Nat) (a_t : Nat → Nat) (v_t_things : Int32) (v_t_pipes : Int32) (v_t_wide : Int32) (v_t_size : Int32) (v_t_place : Int32) (v_t_number : Int64) (v_t_thrown : Int32) (v_t_wish : Int32) (v_t_found : Int32) (f_t_kinds : (Nat → Int32)) (f_t_taken : (Nat → Int32)) (f_t_ends : (Nat → Int32)) (f_t_at : (Nat → Int32)) (f_t_ports : (Nat → Int32)) (f_t_bends : (Nat → Int32)) (x1 : Int32) (x2 : Int32) (P : (Nat → Int32) → (Nat → Int32) → (Nat → Int32) → (Nat → Int32) → (Nat → Int32) → Prop) (A : Nat → Prop) : Array Value → State → Outcome → State → Prop := va_Qv (fun (u : (Nat → Int32) × (Nat → Int32) × (Nat → Int32) × (Nat → Int32) × (Nat → Int32)) => P u.1 u.2.1 u.2.2.1 u.2.2.2.1 u.2.2.2.2) (fun u t => va_P (dC, dI) classes [(q_t, .inr (7, o_Mo a_t v_t_things v_t_pipes v_t_wide v_t_size v_t_place v_t_number v_t_thrown v_t_wish v_t_found)), ((a_t 1), .inl (cI, 40, .inl f_t_kinds)), ((a_t 2), .inl (cI, 40, .inl u.1)), ((a_t 8), .inl (cI, 160, .inl u.2.1)), ((a_t 12), .inl (cI, 120, .inl u.2.2.1)), ((a_t 13), .inl (cI, 120, .inl u.2.2.2.1)), ((a_t 14), .inl (cI, 120, .inl u.2.2.2.2))] t.heap ∧ va_K (dC, dI) classes [(cI, .int), (cL, .long), (cB, .byte)] t ∧ va_D A [(q_t, .inr (7, o_Mo a_t v_t_things v_t_pipes v_t_wide v_t_size v_t_place v_t_number v_t_thrown v_t_wish v_t_found)), ((a_t 1), .inl (cI, 40, .inl f_t_kinds)), ((a_t 2), .inl (cI, 40, .inl u.1)), ((a_t 8), .inl (cI, 160, .inl u.2.1)), ((a_t 12), .inl (cI, 120, .inl u.2.2.1)), ((a_t 13), .inl (cI, 120, .inl u.2.2.2.1)), ((a_t 14), .inl (cI, 120, .inl u.2.2.2.2))]) A
set_option maxHeartbeats 4000000 in
set_option maxRecDepth 100000 in
theorem c_Mo_join (l : Launch) (dC : Nat → ClassId) (dI : Nat → Nat → Nat) (cI cL cB : ClassId) (q_t : Nat) (a_t : Nat → Nat) (sz : Nat) (v_t_things : Int32) (v_t_pipes : Int32) (v_t_wide : Int32) (v_t_size : Int32) (v_t_place : Int32) (v_t_number : Int64) (v_t_thrown : Int32) (v_t_wish : Int32) (v_t_found : Int32) (f_t_kinds : (Nat → Int32)) (f_t_taken : (Nat → Int32)) (f_t_ends : (Nat → Int32)) (f_t_at : (Nat → Int32)) (f_t_ports : (Nat → Int32)) (f_t_bends : (Nat → Int32)) (x1 : Int32) (x2 : Int32) (P : (Nat → Int32) → (Nat → Int32) → (Nat → Int32) → (Nat → Int32) → (Nat → Int32) → Prop) (hw : wp_Mo_join f_t_kinds f_t_taken f_t_ends f_t_at f_t_ports f_t_bends x1 x2 P) : Met l y_Mo_join w_Mo_join rm_Mo_join (va_Pc [.ref q_t, .int x1, .int x2] (fun U => U.heap.size = sz ∧ va_P (dC, dI) classes [(q_t, .inr (7, o_Mo a_t v_t_things v_t_pipes v_t_wide v_t_size v_t_place v_t_number v_t_thrown v_t_wish v_t_found)), ((a_t 1), .inl (cI, 40, .inl f_t_kinds)), ((a_t 2), .inl (cI, 40, .inl f_t_taken)), ((a_t 8), .inl (cI, 160, .inl f_t_ends)), ((a_t 12), .inl (cI, 120, .inl f_t_at)), ((a_t 13), .inl (cI, 120, .inl f_t_ports)), ((a_t 14), .inl (cI, 120, .inl f_t_bends))] U.heap ∧ va_K (dC, dI) classes [(cI, .int), (cL, .long), (cB, .byte)] U ∧ va_D (fun _ => True) [(q_t, .inr (7, o_Mo a_t v_t_things v_t_pipes v_t_wide v_t_size v_t_place v_t_number v_t_thrown v_t_wish v_t_found)), ((a_t 1), .inl (cI, 40, .inl f_t_kinds)), ((a_t 2), .inl (cI, 40, .inl f_t_taken)), ((a_t 8), .inl (cI, 160, .inl f_t_ends)), ((a_t 12), .inl (cI, 120, .inl f_t_at)), ((a_t 13), .inl (cI, 120, .inl f_t_ports)), ((a_t 14), .inl (cI, 120, .inl f_t_bends))])) (Q_Mo_join dC dI cI cL cB q_t a_t v_t_things v_t_pipes v_t_wide v_t_size v_t_place v_t_number v_t_thrown v_t_wish v_t_found f_t_kinds f_t_taken f_t_ends f_t_at f_t_ports f_t_bends x1 x2 P (va_A [(q_t, .inr (7, o_Mo a_t v_t_things v_t_pipes v_t_wide v_t_size v_t_place v_t_number v_t_thrown v_t_wish v_t_found)), ((a_t 1), .inl (cI, 40, .inl f_t_kinds)), ((a_t 2), .inl (cI, 40, .inl f_t_taken)), ((a_t 8), .inl (cI, 160, .inl f_t_ends)), ((a_t 12), .inl (cI, 120, .inl f_t_at)), ((a_t 13), .inl (cI, 120, .inl f_t_ports)), ((a_t 14), .inl (cI, 120, .inl f_t_bends))] sz)) 0 0 (va_A [(q_t, .inr (7, o_Mo a_t v_t_things v_t_pipes v_t_wide v_t_size v_t_place v_t_number v_t_thrown v_t_wish v_t_found)), ((a_t 1), .inl (cI, 40, .inl f_t_kinds)), ((a_t 2), .inl (cI, 40, .inl f_t_taken)), ((a_t 8), .inl (cI, 160, .inl f_t_ends)), ((a_t 12), .inl (cI, 120, .inl f_t_at)), ((a_t 13), .inl (cI, 120, .inl f_t_ports)), ((a_t 14), .inl (cI, 120, .inl f_t_bends))] sz) := by
  refine Met.ofW (cc := b_Mo_join) (maxL := 3) (ret := none) (by decide) rfl ?_
  intro p e s m args below meth c s₁ B hml hv
  obtain ⟨ha, hsz, hP, hK, hD0⟩ := hv
  have hx := B.exec
  have hb := B.bytes
  have hr := B.returns
  have hts0 := atoms_spec (ws := w_Mo_join) B.pre
  have hts : ∀ w ∈ tb, w.before args s = true := fun w h => hts0 w (List.mem_cons_of_mem _ h)
  have hown : s.vm.findClass R_Mo = some m.cls := findClass_of_methodNamed B.named
  have hlocks := B.notSynchronized
  subst hsz
  have hD := hD0.self (sz := s.heap.size)
  generalize hAe : va_A [(q_t, .inr (7, o_Mo a_t v_t_things v_t_pipes v_t_wide v_t_size v_t_place v_t_number v_t_thrown v_t_wish v_t_found)), ((a_t 1), .inl (cI, 40, .inl f_t_kinds)), ((a_t 2), .inl (cI, 40, .inl f_t_taken)), ((a_t 8), .inl (cI, 160, .inl f_t_ends)), ((a_t 12), .inl (cI, 120, .inl f_t_at)), ((a_t 13), .inl (cI, 120, .inl f_t_ports)), ((a_t 14), .inl (cI, 120, .inl f_t_bends))] s.heap.size = A at hD ⊢
  have hA : ∀ q : Nat, s.heap.size ≤ q → A q := fun q h => by rw [← hAe]; exact Or.inr h
  have hS : va_S A s.heap s.heap [] := va_S.rf
  have hP : va_P (dC, dI) classes [(q_t, .inr (7, o_Mo a_t v_t_things v_t_pipes v_t_wide v_t_size v_t_place v_t_number v_t_thrown v_t_wish v_t_found)), ((a_t 1), .inl (cI, 40, .inl f_t_kinds)), ((a_t 2), .inl (cI, 40, .inl f_t_taken)), ((a_t 8), .inl (cI, 160, .inl f_t_ends)), ((a_t 12), .inl (cI, 120, .inl f_t_at)), ((a_t 13), .inl (cI, 120, .inl f_t_ports)), ((a_t 14), .inl (cI, 120, .inl f_t_bends))] s.heap := hP
  have hl := lv_entry [.ref q_t, .int x1, .int x2] (n := 3) (Nat.le_of_ble_eq_true rfl)
  have he9 : entryFrame m args 3 = F0 m 0 ((lg_sl [.ref q_t, .int x1, .int x2] ++ List.replicate (3 - (lg_sl [.ref q_t, .int x1, .int x2]).length) Slot.unset).toArray) [] := by rw [ha]; exact lg_entry_eq _ _ _
  rw [he9]
  clear he9
  generalize (lg_sl [.ref q_t, .int x1, .int x2] ++ List.replicate (3 - (lg_sl [.ref q_t, .int x1, .int x2]).length) Slot.unset).toArray = ls at hl ⊢
  have hl : lv_has ls 3 [(0, .ref q_t), (1, .int x1), (2, .int x2)] := hl
  unfold wp_Mo_join at hw
  refine lv_aload_n hx hb d_Mo_join_0 rfl (lv_at hl 0 rfl) ?_
  refine va_get (D := (dC, dI)) (ci := 7) (v := .ref (a_t 12)) (C := R_Mo) (T := F_Mo) (N := 29) hx hb hts i_Mo hown hK hP 0 rfl rfl 12 (by decide) (hts (Cond.fieldLink R_Mo 42 "PlantGraphModel" "at" "[I") kw30_01baf06) (fun _ h9 => h9) rfl d_Mo_join_1 ?_
  refine lv_iload_n hx hb d_Mo_join_4 rfl (lv_at hl 1 rfl) ?_
  refine lv_iload_n hx hb d_Mo_join_5 rfl (lv_at hl 2 rfl) ?_
  refine va_iast hx hb hK hP hD hS 4 0 rfl rfl hw.1 d_Mo_join_6 (fun H locs hP hD hS => ?_)
  replace hw := hw.2
  have hP : va_P (dC, dI) classes [(q_t, .inr (7, o_Mo a_t v_t_things v_t_pipes v_t_wide v_t_size v_t_place v_t_number v_t_thrown v_t_wish v_t_found)), ((a_t 1), .inl (cI, 40, .inl f_t_kinds)), ((a_t 2), .inl (cI, 40, .inl f_t_taken)), ((a_t 8), .inl (cI, 160, .inl f_t_ends)), ((a_t 12), .inl (cI, 120, .inl (upd f_t_at x1.toNatClampNeg x2))), ((a_t 13), .inl (cI, 120, .inl f_t_ports)), ((a_t 14), .inl (cI, 120, .inl f_t_bends))] H := hP
  have hD : va_D A [(q_t, .inr (7, o_Mo a_t v_t_things v_t_pipes v_t_wide v_t_size v_t_place v_t_number v_t_thrown v_t_wish v_t_found)), ((a_t 1), .inl (cI, 40, .inl f_t_kinds)), ((a_t 2), .inl (cI, 40, .inl f_t_taken)), ((a_t 8), .inl (cI, 160, .inl f_t_ends)), ((a_t 12), .inl (cI, 120, .inl (upd f_t_at x1.toNatClampNeg x2))), ((a_t 13), .inl (cI, 120, .inl f_t_ports)), ((a_t 14), .inl (cI, 120, .inl f_t_bends))] := hD
  refine lv_aload_n hx hb d_Mo_join_7 rfl (lv_at hl 0 rfl) ?_
  refine va_get (D := (dC, dI)) (ci := 7) (v := .ref (a_t 14)) (C := R_Mo) (T := F_Mo) (N := 29) hx hb hts i_Mo hown hK hP 0 rfl rfl 14 (by decide) (hts (Cond.fieldLink R_Mo 48 "PlantGraphModel" "bends" "[I") kw30_563086a) (fun _ h9 => h9) rfl d_Mo_join_8 ?_
  refine lv_iload_n hx hb d_Mo_join_11 rfl (lv_at hl 1 rfl) ?_
  refine lv_iconst (v := (-1)) hx hb d_Mo_join_12 (by decide) ?_
  refine va_iast hx hb hK hP hD hS 6 0 rfl rfl hw.1 d_Mo_join_13 (fun H locs hP hD hS => ?_)
  replace hw := hw.2
  have hP : va_P (dC, dI) classes [(q_t, .inr (7, o_Mo a_t v_t_things v_t_pipes v_t_wide v_t_size v_t_place v_t_number v_t_thrown v_t_wish v_t_found)), ((a_t 1), .inl (cI, 40, .inl f_t_kinds)), ((a_t 2), .inl (cI, 40, .inl f_t_taken)), ((a_t 8), .inl (cI, 160, .inl f_t_ends)), ((a_t 12), .inl (cI, 120, .inl (upd f_t_at x1.toNatClampNeg x2))), ((a_t 13), .inl (cI, 120, .inl f_t_ports)), ((a_t 14), .inl (cI, 120, .inl (upd f_t_bends x1.toNatClampNeg (-1))))] H := hP
  have hD : va_D A [(q_t, .inr (7, o_Mo a_t v_t_things v_t_pipes v_t_wide v_t_size v_t_place v_t_number v_t_thrown v_t_wish v_t_found)), ((a_t 1), .inl (cI, 40, .inl f_t_kinds)), ((a_t 2), .inl (cI, 40, .inl f_t_taken)), ((a_t 8), .inl (cI, 160, .inl f_t_ends)), ((a_t 12), .inl (cI, 120, .inl (upd f_t_at x1.toNatClampNeg x2))), ((a_t 13), .inl (cI, 120, .inl f_t_ports)), ((a_t 14), .inl (cI, 120, .inl (upd f_t_bends x1.toNatClampNeg (-1))))] := hD
  refine lv_aload_n hx hb d_Mo_join_14 rfl (lv_at hl 0 rfl) ?_
  refine va_get (D := (dC, dI)) (ci := 7) (v := .ref (a_t 13)) (C := R_Mo) (T := F_Mo) (N := 29) hx hb hts i_Mo hown hK hP 0 rfl rfl 13 (by decide) (hts (Cond.fieldLink R_Mo 45 "PlantGraphModel" "ports" "[I") kw30_653085e) (fun _ h9 => h9) rfl d_Mo_join_15 ?_
  refine lv_iload_n hx hb d_Mo_join_18 rfl (lv_at hl 1 rfl) ?_
  refine lv_iconst (v := (-1)) hx hb d_Mo_join_19 (by decide) ?_
  refine va_iast hx hb hK hP hD hS 5 0 rfl rfl hw.1 d_Mo_join_20 (fun H locs hP hD hS => ?_)
  replace hw := hw.2
  have hP : va_P (dC, dI) classes [(q_t, .inr (7, o_Mo a_t v_t_things v_t_pipes v_t_wide v_t_size v_t_place v_t_number v_t_thrown v_t_wish v_t_found)), ((a_t 1), .inl (cI, 40, .inl f_t_kinds)), ((a_t 2), .inl (cI, 40, .inl f_t_taken)), ((a_t 8), .inl (cI, 160, .inl f_t_ends)), ((a_t 12), .inl (cI, 120, .inl (upd f_t_at x1.toNatClampNeg x2))), ((a_t 13), .inl (cI, 120, .inl (upd f_t_ports x1.toNatClampNeg (-1)))), ((a_t 14), .inl (cI, 120, .inl (upd f_t_bends x1.toNatClampNeg (-1))))] H := hP
  have hD : va_D A [(q_t, .inr (7, o_Mo a_t v_t_things v_t_pipes v_t_wide v_t_size v_t_place v_t_number v_t_thrown v_t_wish v_t_found)), ((a_t 1), .inl (cI, 40, .inl f_t_kinds)), ((a_t 2), .inl (cI, 40, .inl f_t_taken)), ((a_t 8), .inl (cI, 160, .inl f_t_ends)), ((a_t 12), .inl (cI, 120, .inl (upd f_t_at x1.toNatClampNeg x2))), ((a_t 13), .inl (cI, 120, .inl (upd f_t_ports x1.toNatClampNeg (-1)))), ((a_t 14), .inl (cI, 120, .inl (upd f_t_bends x1.toNatClampNeg (-1))))] := hD
  refine lv_iload_n hx hb d_Mo_join_21 rfl (lv_at hl 2 rfl) ?_
  refine lv_iconst (v := (-1)) hx hb d_Mo_join_22 (by decide) ?_
  refine lv_icmp_eq (tgt := 73) hx hb d_Mo_join_23 (by decide) (fun c23 => ?_) (fun c23 => ?_)
  · replace hw := hw.1 c23
    exact W.vret hx hb hr (fun t ht hW => ⟨⟨(f_t_taken, f_t_ends, (upd f_t_at x1.toNatClampNeg x2), (upd f_t_ports x1.toNatClampNeg (-1)), (upd f_t_bends x1.toNatClampNeg (-1))), rfl, hw, by rw [ht]; exact hP, va_K.moved hW.alike hK, hD⟩, hS.F ht⟩) hS.2.2 d_Mo_join_73
  · replace hw := hw.2 c23
    refine lv_aload_n hx hb d_Mo_join_26 rfl (lv_at hl 0 rfl) ?_
    refine va_get (D := (dC, dI)) (ci := 7) (v := .ref (a_t 13)) (C := R_Mo) (T := F_Mo) (N := 29) hx hb hts i_Mo hown hK hP 0 rfl rfl 13 (by decide) (hts (Cond.fieldLink R_Mo 45 "PlantGraphModel" "ports" "[I") kw30_653085e) (fun _ h9 => h9) rfl d_Mo_join_27 ?_
    refine lv_iload_n hx hb d_Mo_join_30 rfl (lv_at hl 1 rfl) ?_
    refine lv_aload_n hx hb d_Mo_join_31 rfl (lv_at hl 0 rfl) ?_
    refine va_get (D := (dC, dI)) (ci := 7) (v := .ref (a_t 2)) (C := R_Mo) (T := F_Mo) (N := 29) hx hb hts i_Mo hown hK hP 0 rfl rfl 2 (by decide) (hts (Cond.fieldLink R_Mo 13 "PlantGraphModel" "taken" "[I") kw30_775b56c) (fun _ h9 => h9) rfl d_Mo_join_32 ?_
    refine lv_iload_n hx hb d_Mo_join_35 rfl (lv_at hl 2 rfl) ?_
    refine va_iald hx hb hK hP 2 0 rfl rfl hw.1 d_Mo_join_36 ?_
    replace hw := hw.2
    refine va_iast hx hb hK hP hD hS 5 0 rfl rfl hw.1 d_Mo_join_37 (fun H locs hP hD hS => ?_)
    replace hw := hw.2
    have hP : va_P (dC, dI) classes [(q_t, .inr (7, o_Mo a_t v_t_things v_t_pipes v_t_wide v_t_size v_t_place v_t_number v_t_thrown v_t_wish v_t_found)), ((a_t 1), .inl (cI, 40, .inl f_t_kinds)), ((a_t 2), .inl (cI, 40, .inl f_t_taken)), ((a_t 8), .inl (cI, 160, .inl f_t_ends)), ((a_t 12), .inl (cI, 120, .inl (upd f_t_at x1.toNatClampNeg x2))), ((a_t 13), .inl (cI, 120, .inl (upd (upd f_t_ports x1.toNatClampNeg (-1)) x1.toNatClampNeg (f_t_taken x2.toNatClampNeg)))), ((a_t 14), .inl (cI, 120, .inl (upd f_t_bends x1.toNatClampNeg (-1))))] H := hP
    have hD : va_D A [(q_t, .inr (7, o_Mo a_t v_t_things v_t_pipes v_t_wide v_t_size v_t_place v_t_number v_t_thrown v_t_wish v_t_found)), ((a_t 1), .inl (cI, 40, .inl f_t_kinds)), ((a_t 2), .inl (cI, 40, .inl f_t_taken)), ((a_t 8), .inl (cI, 160, .inl f_t_ends)), ((a_t 12), .inl (cI, 120, .inl (upd f_t_at x1.toNatClampNeg x2))), ((a_t 13), .inl (cI, 120, .inl (upd (upd f_t_ports x1.toNatClampNeg (-1)) x1.toNatClampNeg (f_t_taken x2.toNatClampNeg)))), ((a_t 14), .inl (cI, 120, .inl (upd f_t_bends x1.toNatClampNeg (-1))))] := hD
    refine lv_aload_n hx hb d_Mo_join_38 rfl (lv_at hl 0 rfl) ?_
    refine va_get (D := (dC, dI)) (ci := 7) (v := .ref (a_t 1)) (C := R_Mo) (T := F_Mo) (N := 29) hx hb hts i_Mo hown hK hP 0 rfl rfl 1 (by decide) (hts (Cond.fieldLink R_Mo 9 "PlantGraphModel" "kinds" "[I") kw30_cf02404) (fun _ h9 => h9) rfl d_Mo_join_39 ?_
    refine lv_iload_n hx hb d_Mo_join_42 rfl (lv_at hl 2 rfl) ?_
    refine va_iald hx hb hK hP 1 0 rfl rfl hw.1 d_Mo_join_43 ?_
    replace hw := hw.2
    refine lv_if_eq (tgt := 63) hx hb d_Mo_join_44 (by decide) (fun c44 => ?_) (fun c44 => ?_)
    · replace hw := hw.1 c44
      refine lv_aload_n hx hb d_Mo_join_63 rfl (lv_at hl 0 rfl) ?_
      refine va_get (D := (dC, dI)) (ci := 7) (v := .ref (a_t 2)) (C := R_Mo) (T := F_Mo) (N := 29) hx hb hts i_Mo hown hK hP 0 rfl rfl 2 (by decide) (hts (Cond.fieldLink R_Mo 13 "PlantGraphModel" "taken" "[I") kw30_775b56c) (fun _ h9 => h9) rfl d_Mo_join_64 ?_
      refine lv_iload_n hx hb d_Mo_join_67 rfl (lv_at hl 2 rfl) ?_
      refine lv_dup2_11 hx hb d_Mo_join_68 rfl rfl ?_
      refine va_iald hx hb hK hP 2 0 rfl rfl hw.1 d_Mo_join_69 ?_
      replace hw := hw.2
      refine lv_iconst (v := 1) hx hb d_Mo_join_70 (by decide) ?_
      refine lv_iadd hx hb d_Mo_join_71 ?_
      refine va_iast hx hb hK hP hD hS 2 0 rfl rfl hw.1 d_Mo_join_72 (fun H locs hP hD hS => ?_)
      replace hw := hw.2
      have hP : va_P (dC, dI) classes [(q_t, .inr (7, o_Mo a_t v_t_things v_t_pipes v_t_wide v_t_size v_t_place v_t_number v_t_thrown v_t_wish v_t_found)), ((a_t 1), .inl (cI, 40, .inl f_t_kinds)), ((a_t 2), .inl (cI, 40, .inl (upd f_t_taken x2.toNatClampNeg ((f_t_taken x2.toNatClampNeg) + 1)))), ((a_t 8), .inl (cI, 160, .inl f_t_ends)), ((a_t 12), .inl (cI, 120, .inl (upd f_t_at x1.toNatClampNeg x2))), ((a_t 13), .inl (cI, 120, .inl (upd (upd f_t_ports x1.toNatClampNeg (-1)) x1.toNatClampNeg (f_t_taken x2.toNatClampNeg)))), ((a_t 14), .inl (cI, 120, .inl (upd f_t_bends x1.toNatClampNeg (-1))))] H := hP
      have hD : va_D A [(q_t, .inr (7, o_Mo a_t v_t_things v_t_pipes v_t_wide v_t_size v_t_place v_t_number v_t_thrown v_t_wish v_t_found)), ((a_t 1), .inl (cI, 40, .inl f_t_kinds)), ((a_t 2), .inl (cI, 40, .inl (upd f_t_taken x2.toNatClampNeg ((f_t_taken x2.toNatClampNeg) + 1)))), ((a_t 8), .inl (cI, 160, .inl f_t_ends)), ((a_t 12), .inl (cI, 120, .inl (upd f_t_at x1.toNatClampNeg x2))), ((a_t 13), .inl (cI, 120, .inl (upd (upd f_t_ports x1.toNatClampNeg (-1)) x1.toNatClampNeg (f_t_taken x2.toNatClampNeg)))), ((a_t 14), .inl (cI, 120, .inl (upd f_t_bends x1.toNatClampNeg (-1))))] := hD
      exact W.vret hx hb hr (fun t ht hW => ⟨⟨((upd f_t_taken x2.toNatClampNeg ((f_t_taken x2.toNatClampNeg) + 1)), f_t_ends, (upd f_t_at x1.toNatClampNeg x2), (upd (upd f_t_ports x1.toNatClampNeg (-1)) x1.toNatClampNeg (f_t_taken x2.toNatClampNeg)), (upd f_t_bends x1.toNatClampNeg (-1))), rfl, hw, by rw [ht]; exact hP, va_K.moved hW.alike hK, hD⟩, hS.F ht⟩) hS.2.2 d_Mo_join_73
    · replace hw := hw.2 c44
      refine lv_aload_n hx hb d_Mo_join_47 rfl (lv_at hl 0 rfl) ?_
      refine va_get (D := (dC, dI)) (ci := 7) (v := .ref (a_t 8)) (C := R_Mo) (T := F_Mo) (N := 29) hx hb hts i_Mo hown hK hP 0 rfl rfl 8 (by decide) (hts (Cond.fieldLink R_Mo 32 "PlantGraphModel" "ends" "[I") kw30_c603ba5) (fun _ h9 => h9) rfl d_Mo_join_48 ?_
      refine lv_iconst (v := 4) hx hb d_Mo_join_51 (by decide) ?_
      refine lv_iload_n hx hb d_Mo_join_52 rfl (lv_at hl 2 rfl) ?_
      refine lv_imul hx hb d_Mo_join_53 ?_
      refine lv_aload_n hx hb d_Mo_join_54 rfl (lv_at hl 0 rfl) ?_
      refine va_get (D := (dC, dI)) (ci := 7) (v := .ref (a_t 2)) (C := R_Mo) (T := F_Mo) (N := 29) hx hb hts i_Mo hown hK hP 0 rfl rfl 2 (by decide) (hts (Cond.fieldLink R_Mo 13 "PlantGraphModel" "taken" "[I") kw30_775b56c) (fun _ h9 => h9) rfl d_Mo_join_55 ?_
      refine lv_iload_n hx hb d_Mo_join_58 rfl (lv_at hl 2 rfl) ?_
      refine va_iald hx hb hK hP 2 0 rfl rfl hw.1 d_Mo_join_59 ?_
      replace hw := hw.2
      refine lv_iadd hx hb d_Mo_join_60 ?_
      refine lv_iload_n hx hb d_Mo_join_61 rfl (lv_at hl 1 rfl) ?_
      refine va_iast hx hb hK hP hD hS 3 0 rfl rfl hw.1 d_Mo_join_62 (fun H locs hP hD hS => ?_)
      replace hw := hw.2
      have hP : va_P (dC, dI) classes [(q_t, .inr (7, o_Mo a_t v_t_things v_t_pipes v_t_wide v_t_size v_t_place v_t_number v_t_thrown v_t_wish v_t_found)), ((a_t 1), .inl (cI, 40, .inl f_t_kinds)), ((a_t 2), .inl (cI, 40, .inl f_t_taken)), ((a_t 8), .inl (cI, 160, .inl (upd f_t_ends ((4 * x2) + (f_t_taken x2.toNatClampNeg)).toNatClampNeg x1))), ((a_t 12), .inl (cI, 120, .inl (upd f_t_at x1.toNatClampNeg x2))), ((a_t 13), .inl (cI, 120, .inl (upd (upd f_t_ports x1.toNatClampNeg (-1)) x1.toNatClampNeg (f_t_taken x2.toNatClampNeg)))), ((a_t 14), .inl (cI, 120, .inl (upd f_t_bends x1.toNatClampNeg (-1))))] H := hP
      have hD : va_D A [(q_t, .inr (7, o_Mo a_t v_t_things v_t_pipes v_t_wide v_t_size v_t_place v_t_number v_t_thrown v_t_wish v_t_found)), ((a_t 1), .inl (cI, 40, .inl f_t_kinds)), ((a_t 2), .inl (cI, 40, .inl f_t_taken)), ((a_t 8), .inl (cI, 160, .inl (upd f_t_ends ((4 * x2) + (f_t_taken x2.toNatClampNeg)).toNatClampNeg x1))), ((a_t 12), .inl (cI, 120, .inl (upd f_t_at x1.toNatClampNeg x2))), ((a_t 13), .inl (cI, 120, .inl (upd (upd f_t_ports x1.toNatClampNeg (-1)) x1.toNatClampNeg (f_t_taken x2.toNatClampNeg)))), ((a_t 14), .inl (cI, 120, .inl (upd f_t_bends x1.toNatClampNeg (-1))))] := hD
      refine lv_aload_n hx hb d_Mo_join_63 rfl (lv_at hl 0 rfl) ?_
      refine va_get (D := (dC, dI)) (ci := 7) (v := .ref (a_t 2)) (C := R_Mo) (T := F_Mo) (N := 29) hx hb hts i_Mo hown hK hP 0 rfl rfl 2 (by decide) (hts (Cond.fieldLink R_Mo 13 "PlantGraphModel" "taken" "[I") kw30_775b56c) (fun _ h9 => h9) rfl d_Mo_join_64 ?_
      refine lv_iload_n hx hb d_Mo_join_67 rfl (lv_at hl 2 rfl) ?_
      refine lv_dup2_11 hx hb d_Mo_join_68 rfl rfl ?_
      refine va_iald hx hb hK hP 2 0 rfl rfl hw.1 d_Mo_join_69 ?_
      replace hw := hw.2
      refine lv_iconst (v := 1) hx hb d_Mo_join_70 (by decide) ?_
      refine lv_iadd hx hb d_Mo_join_71 ?_
      refine va_iast hx hb hK hP hD hS 2 0 rfl rfl hw.1 d_Mo_join_72 (fun H locs hP hD hS => ?_)
      replace hw := hw.2
      have hP : va_P (dC, dI) classes [(q_t, .inr (7, o_Mo a_t v_t_things v_t_pipes v_t_wide v_t_size v_t_place v_t_number v_t_thrown v_t_wish v_t_found)), ((a_t 1), .inl (cI, 40, .inl f_t_kinds)), ((a_t 2), .inl (cI, 40, .inl (upd f_t_taken x2.toNatClampNeg ((f_t_taken x2.toNatClampNeg) + 1)))), ((a_t 8), .inl (cI, 160, .inl (upd f_t_ends ((4 * x2) + (f_t_taken x2.toNatClampNeg)).toNatClampNeg x1))), ((a_t 12), .inl (cI, 120, .inl (upd f_t_at x1.toNatClampNeg x2))), ((a_t 13), .inl (cI, 120, .inl (upd (upd f_t_ports x1.toNatClampNeg (-1)) x1.toNatClampNeg (f_t_taken x2.toNatClampNeg)))), ((a_t 14), .inl (cI, 120, .inl (upd f_t_bends x1.toNatClampNeg (-1))))] H := hP
      have hD : va_D A [(q_t, .inr (7, o_Mo a_t v_t_things v_t_pipes v_t_wide v_t_size v_t_place v_t_number v_t_thrown v_t_wish v_t_found)), ((a_t 1), .inl (cI, 40, .inl f_t_kinds)), ((a_t 2), .inl (cI, 40, .inl (upd f_t_taken x2.toNatClampNeg ((f_t_taken x2.toNatClampNeg) + 1)))), ((a_t 8), .inl (cI, 160, .inl (upd f_t_ends ((4 * x2) + (f_t_taken x2.toNatClampNeg)).toNatClampNeg x1))), ((a_t 12), .inl (cI, 120, .inl (upd f_t_at x1.toNatClampNeg x2))), ((a_t 13), .inl (cI, 120, .inl (upd (upd f_t_ports x1.toNatClampNeg (-1)) x1.toNatClampNeg (f_t_taken x2.toNatClampNeg)))), ((a_t 14), .inl (cI, 120, .inl (upd f_t_bends x1.toNatClampNeg (-1))))] := hD
      exact W.vret hx hb hr (fun t ht hW => ⟨⟨((upd f_t_taken x2.toNatClampNeg ((f_t_taken x2.toNatClampNeg) + 1)), (upd f_t_ends ((4 * x2) + (f_t_taken x2.toNatClampNeg)).toNatClampNeg x1), (upd f_t_at x1.toNatClampNeg x2), (upd (upd f_t_ports x1.toNatClampNeg (-1)) x1.toNatClampNeg (f_t_taken x2.toNatClampNeg)), (upd f_t_bends x1.toNatClampNeg (-1))), rfl, hw, by rw [ht]; exact hP, va_K.moved hW.alike hK, hD⟩, hS.F ht⟩) hS.2.2 d_Mo_join_73
def wk_Mo_pipe_85_54 (f_t_kinds : (Nat → Int32)) (f_t_taken : (Nat → Int32)) (f_t_ends : (Nat → Int32)) (f_t_at : (Nat → Int32)) (f_t_ports : (Nat → Int32)) (f_t_bends : (Nat → Int32)) (v_t_pipes : Int32) (x1 : Int32) (x2 : Int32) (f_t_sizes : (Nat → Int32)) (x3 : Int64) (P : Int32 → Int32 → Int32 → (Nat → Int32) → (Nat → Int32) → (Nat → Int32) → (Nat → Int32) → (Nat → Int32) → (Nat → Int32) → (Nat → Int32) → Prop) (x5_L54 : Int32) (f_t_contents_L54 : (Nat → Int32)) : Prop := wp_Mo_join f_t_kinds f_t_taken f_t_ends f_t_at f_t_ports f_t_bends (2 * v_t_pipes) x1 (fun f_t_taken_c93 f_t_ends_c93 f_t_at_c93 f_t_ports_c93 f_t_bends_c93 => wp_Mo_join f_t_kinds f_t_taken_c93 f_t_ends_c93 f_t_at_c93 f_t_ports_c93 f_t_bends_c93 ((2 * v_t_pipes) + 1) x2 (fun f_t_taken_c106 f_t_ends_c106 f_t_at_c106 f_t_ports_c106 f_t_bends_c106 => P ((v_t_pipes + 1) - 1) (v_t_pipes + 1) 0 f_t_taken_c106 f_t_ends_c106 (upd f_t_sizes v_t_pipes.toNatClampNeg ((x3 : Int64).toInt32)) f_t_contents_L54 f_t_at_c106 f_t_ports_c106 f_t_bends_c106))
def wl_Mo_pipe_54 (v_t_pipes : Int32) (K_85 : Int32 → (Nat → Int32) → Prop) : Nat → Int32 → (Nat → Int32) → Prop
  | 0, _, _ => False
  | k_54 + 1, x5_L54, f_t_contents_L54 => (((200 : Int32) ≤ x5_L54 → K_85 x5_L54 f_t_contents_L54) ∧ (¬ (200 : Int32) ≤ x5_L54 → (vp_in ((200 * v_t_pipes) + x5_L54) 12000 ∧ wl_Mo_pipe_54 v_t_pipes K_85 k_54 (x5_L54 + 1) (upd f_t_contents_L54 ((200 * v_t_pipes) + x5_L54).toNatClampNeg (vp_nar .byte 0)))))
def wp_Mo_pipe (v_t_things : Int32) (v_t_pipes : Int32) (v_t_thrown : Int32) (f_t_kinds : (Nat → Int32)) (f_t_taken : (Nat → Int32)) (f_t_ends : (Nat → Int32)) (f_t_sizes : (Nat → Int32)) (f_t_contents : (Nat → Int32)) (f_t_at : (Nat → Int32)) (f_t_ports : (Nat → Int32)) (f_t_bends : (Nat → Int32)) (x1 : Int32) (x2 : Int32) (x3 : Int64) (P : Int32 → Int32 → Int32 → (Nat → Int32) → (Nat → Int32) → (Nat → Int32) → (Nat → Int32) → (Nat → Int32) → (Nat → Int32) → (Nat → Int32) → Prop) : Prop := wp_Mo_fits 40 40 f_t_kinds f_t_taken v_t_things x1 x2 x3 (fun r20 => ((¬ r20 = 0 → ((¬ v_t_pipes = (60 : Int32) → (vp_in v_t_pipes 60 ∧ (∃ n_54 : Nat, wl_Mo_pipe_54 v_t_pipes (wk_Mo_pipe_85_54 f_t_kinds f_t_taken f_t_ends f_t_at f_t_ports f_t_bends v_t_pipes x1 x2 f_t_sizes x3 P) n_54 0 f_t_contents))) ∧ (v_t_pipes = (60 : Int32) → P (-2) v_t_pipes 0 f_t_taken f_t_ends f_t_sizes f_t_contents f_t_at f_t_ports f_t_bends))) ∧ (r20 = 0 → P (-1) v_t_pipes 0 f_t_taken f_t_ends f_t_sizes f_t_contents f_t_at f_t_ports f_t_bends)))
def w_Mo_pipe : List Cond := .code y_Mo_pipe b_Mo_pipe 6 (some .int) :: tb
abbrev rm_Mo_pipe : Room := { frames := 1, cells := 0, slots := 0, locals := 27 }
abbrev Q_Mo_pipe (dC : Nat → ClassId) (dI : Nat → Nat → Nat) (cI cL cB : ClassId) (q_t : Nat) (a_t : Nat → Nat) (v_t_things : Int32) (v_t_pipes : Int32) (v_t_wide : Int32) (v_t_size : Int32) (v_t_place : Int32) (v_t_number : Int64) (v_t_thrown : Int32) (v_t_wish : Int32) (v_t_found : Int32) (f_t_kinds : (Nat → Int32)) (f_t_taken : (Nat → Int32)) (f_t_ends : (Nat → Int32)) (f_t_sizes : (Nat → Int32)) (f_t_contents : (Nat → Int32)) (f_t_at : (Nat → Int32)) (f_t_ports : (Nat → Int32)) (f_t_bends : (Nat → Int32)) (x1 : Int32) (x2 : Int32) (x3 : Int64) (P : Int32 → Int32 → Int32 → (Nat → Int32) → (Nat → Int32) → (Nat → Int32) → (Nat → Int32) → (Nat → Int32) → (Nat → Int32) → (Nat → Int32) → Prop) (A : Nat → Prop) : Array Value → State → Outcome → State → Prop := va_Qi (fun (r : Int32) (u : Int32 × Int32 × (Nat → Int32) × (Nat → Int32) × (Nat → Int32) × (Nat → Int32) × (Nat → Int32) × (Nat → Int32) × (Nat → Int32)) => P r u.1 u.2.1 u.2.2.1 u.2.2.2.1 u.2.2.2.2.1 u.2.2.2.2.2.1 u.2.2.2.2.2.2.1 u.2.2.2.2.2.2.2.1 u.2.2.2.2.2.2.2.2) (fun u t => va_P (dC, dI) classes [(q_t, .inr (7, o_Mo a_t v_t_things u.1 v_t_wide v_t_size v_t_place v_t_number u.2.1 v_t_wish v_t_found)), ((a_t 1), .inl (cI, 40, .inl f_t_kinds)), ((a_t 2), .inl (cI, 40, .inl u.2.2.1)), ((a_t 8), .inl (cI, 160, .inl u.2.2.2.1)), ((a_t 10), .inl (cI, 60, .inl u.2.2.2.2.1)), ((a_t 11), .inl (cB, 12000, .inl u.2.2.2.2.2.1)), ((a_t 12), .inl (cI, 120, .inl u.2.2.2.2.2.2.1)), ((a_t 13), .inl (cI, 120, .inl u.2.2.2.2.2.2.2.1)), ((a_t 14), .inl (cI, 120, .inl u.2.2.2.2.2.2.2.2))] t.heap ∧ va_K (dC, dI) classes [(cI, .int), (cL, .long), (cB, .byte)] t ∧ va_D A [(q_t, .inr (7, o_Mo a_t v_t_things u.1 v_t_wide v_t_size v_t_place v_t_number u.2.1 v_t_wish v_t_found)), ((a_t 1), .inl (cI, 40, .inl f_t_kinds)), ((a_t 2), .inl (cI, 40, .inl u.2.2.1)), ((a_t 8), .inl (cI, 160, .inl u.2.2.2.1)), ((a_t 10), .inl (cI, 60, .inl u.2.2.2.2.1)), ((a_t 11), .inl (cB, 12000, .inl u.2.2.2.2.2.1)), ((a_t 12), .inl (cI, 120, .inl u.2.2.2.2.2.2.1)), ((a_t 13), .inl (cI, 120, .inl u.2.2.2.2.2.2.2.1)), ((a_t 14), .inl (cI, 120, .inl u.2.2.2.2.2.2.2.2))]) A
set_option maxHeartbeats 4000000 in
set_option maxRecDepth 100000 in
theorem c_Mo_pipe (l : Launch) (dC : Nat → ClassId) (dI : Nat → Nat → Nat) (cI cL cB : ClassId) (tP tR : Nat) (adK adV : Nat → Nat) (q_t : Nat) (a_t : Nat → Nat) (sz : Nat) (v_t_things : Int32) (v_t_pipes : Int32) (v_t_wide : Int32) (v_t_size : Int32) (v_t_place : Int32) (v_t_number : Int64) (v_t_thrown : Int32) (v_t_wish : Int32) (v_t_found : Int32) (f_t_kinds : (Nat → Int32)) (f_t_taken : (Nat → Int32)) (f_t_ends : (Nat → Int32)) (f_t_sizes : (Nat → Int32)) (f_t_contents : (Nat → Int32)) (f_t_at : (Nat → Int32)) (f_t_ports : (Nat → Int32)) (f_t_bends : (Nat → Int32)) (x1 : Int32) (x2 : Int32) (x3 : Int64) (P : Int32 → Int32 → Int32 → (Nat → Int32) → (Nat → Int32) → (Nat → Int32) → (Nat → Int32) → (Nat → Int32) → (Nat → Int32) → (Nat → Int32) → Prop) (hw : wp_Mo_pipe v_t_things v_t_pipes v_t_thrown f_t_kinds f_t_taken f_t_ends f_t_sizes f_t_contents f_t_at f_t_ports f_t_bends x1 x2 x3 P) : Met l y_Mo_pipe w_Mo_pipe rm_Mo_pipe (va_Pc [.ref q_t, .int x1, .int x2, .long x3] (fun U => U.heap.size = sz ∧ va_P (dC, dI) classes [(q_t, .inr (7, o_Mo a_t v_t_things v_t_pipes v_t_wide v_t_size v_t_place v_t_number v_t_thrown v_t_wish v_t_found)), ((a_t 1), .inl (cI, 40, .inl f_t_kinds)), ((a_t 2), .inl (cI, 40, .inl f_t_taken)), ((a_t 8), .inl (cI, 160, .inl f_t_ends)), ((a_t 10), .inl (cI, 60, .inl f_t_sizes)), ((a_t 11), .inl (cB, 12000, .inl f_t_contents)), ((a_t 12), .inl (cI, 120, .inl f_t_at)), ((a_t 13), .inl (cI, 120, .inl f_t_ports)), ((a_t 14), .inl (cI, 120, .inl f_t_bends))] U.heap ∧ va_K (dC, dI) classes [(cI, .int), (cL, .long), (cB, .byte)] U ∧ va_D (fun _ => True) [(q_t, .inr (7, o_Mo a_t v_t_things v_t_pipes v_t_wide v_t_size v_t_place v_t_number v_t_thrown v_t_wish v_t_found)), ((a_t 1), .inl (cI, 40, .inl f_t_kinds)), ((a_t 2), .inl (cI, 40, .inl f_t_taken)), ((a_t 8), .inl (cI, 160, .inl f_t_ends)), ((a_t 10), .inl (cI, 60, .inl f_t_sizes)), ((a_t 11), .inl (cB, 12000, .inl f_t_contents)), ((a_t 12), .inl (cI, 120, .inl f_t_at)), ((a_t 13), .inl (cI, 120, .inl f_t_ports)), ((a_t 14), .inl (cI, 120, .inl f_t_bends))] ∧ gx tP tR adK adV (va_A [(q_t, .inr (7, o_Mo a_t v_t_things v_t_pipes v_t_wide v_t_size v_t_place v_t_number v_t_thrown v_t_wish v_t_found)), ((a_t 1), .inl (cI, 40, .inl f_t_kinds)), ((a_t 2), .inl (cI, 40, .inl f_t_taken)), ((a_t 8), .inl (cI, 160, .inl f_t_ends)), ((a_t 10), .inl (cI, 60, .inl f_t_sizes)), ((a_t 11), .inl (cB, 12000, .inl f_t_contents)), ((a_t 12), .inl (cI, 120, .inl f_t_at)), ((a_t 13), .inl (cI, 120, .inl f_t_ports)), ((a_t 14), .inl (cI, 120, .inl f_t_bends))] sz) U U.heap)) (Q_Mo_pipe dC dI cI cL cB q_t a_t v_t_things v_t_pipes v_t_wide v_t_size v_t_place v_t_number v_t_thrown v_t_wish v_t_found f_t_kinds f_t_taken f_t_ends f_t_sizes f_t_contents f_t_at f_t_ports f_t_bends x1 x2 x3 P (va_A [(q_t, .inr (7, o_Mo a_t v_t_things v_t_pipes v_t_wide v_t_size v_t_place v_t_number v_t_thrown v_t_wish v_t_found)), ((a_t 1), .inl (cI, 40, .inl f_t_kinds)), ((a_t 2), .inl (cI, 40, .inl f_t_taken)), ((a_t 8), .inl (cI, 160, .inl f_t_ends)), ((a_t 10), .inl (cI, 60, .inl f_t_sizes)), ((a_t 11), .inl (cB, 12000, .inl f_t_contents)), ((a_t 12), .inl (cI, 120, .inl f_t_at)), ((a_t 13), .inl (cI, 120, .inl f_t_ports)), ((a_t 14), .inl (cI, 120, .inl f_t_bends))] sz)) 0 0 (va_A [(q_t, .inr (7, o_Mo a_t v_t_things v_t_pipes v_t_wide v_t_size v_t_place v_t_number v_t_thrown v_t_wish v_t_found)), ((a_t 1), .inl (cI, 40, .inl f_t_kinds)), ((a_t 2), .inl (cI, 40, .inl f_t_taken)), ((a_t 8), .inl (cI, 160, .inl f_t_ends)), ((a_t 10), .inl (cI, 60, .inl f_t_sizes)), ((a_t 11), .inl (cB, 12000, .inl f_t_contents)), ((a_t 12), .inl (cI, 120, .inl f_t_at)), ((a_t 13), .inl (cI, 120, .inl f_t_ports)), ((a_t 14), .inl (cI, 120, .inl f_t_bends))] sz) := by
  refine Met.ofW (cc := b_Mo_pipe) (maxL := 6) (ret := (some .int)) (by decide) rfl ?_
  intro p e s m args below meth c s₁ B hml hv
  obtain ⟨ha, hsz, hP, hK, hD0, hG⟩ := hv
  have hx := B.exec
  have hb := B.bytes
  have hr := B.returns
  have hts0 := atoms_spec (ws := w_Mo_pipe) B.pre
  have hts : ∀ w ∈ tb, w.before args s = true := fun w h => hts0 w (List.mem_cons_of_mem _ h)
  have hown : s.vm.findClass R_Mo = some m.cls := findClass_of_methodNamed B.named
  have hlocks := B.notSynchronized
  subst hsz
  have hD := hD0.self (sz := s.heap.size)
  generalize hAe : va_A [(q_t, .inr (7, o_Mo a_t v_t_things v_t_pipes v_t_wide v_t_size v_t_place v_t_number v_t_thrown v_t_wish v_t_found)), ((a_t 1), .inl (cI, 40, .inl f_t_kinds)), ((a_t 2), .inl (cI, 40, .inl f_t_taken)), ((a_t 8), .inl (cI, 160, .inl f_t_ends)), ((a_t 10), .inl (cI, 60, .inl f_t_sizes)), ((a_t 11), .inl (cB, 12000, .inl f_t_contents)), ((a_t 12), .inl (cI, 120, .inl f_t_at)), ((a_t 13), .inl (cI, 120, .inl f_t_ports)), ((a_t 14), .inl (cI, 120, .inl f_t_bends))] s.heap.size = A at hD hG ⊢
  have hA : ∀ q : Nat, s.heap.size ≤ q → A q := fun q h => by rw [← hAe]; exact Or.inr h
  have hS : va_S A s.heap s.heap [] := va_S.rf
  have hP : va_P (dC, dI) classes [(q_t, .inr (7, o_Mo a_t v_t_things v_t_pipes v_t_wide v_t_size v_t_place v_t_number v_t_thrown v_t_wish v_t_found)), ((a_t 1), .inl (cI, 40, .inl f_t_kinds)), ((a_t 2), .inl (cI, 40, .inl f_t_taken)), ((a_t 8), .inl (cI, 160, .inl f_t_ends)), ((a_t 10), .inl (cI, 60, .inl f_t_sizes)), ((a_t 11), .inl (cB, 12000, .inl f_t_contents)), ((a_t 12), .inl (cI, 120, .inl f_t_at)), ((a_t 13), .inl (cI, 120, .inl f_t_ports)), ((a_t 14), .inl (cI, 120, .inl f_t_bends))] s.heap := hP
  have hl := lv_entry [.ref q_t, .int x1, .int x2, .long x3] (n := 6) (Nat.le_of_ble_eq_true rfl)
  have he9 : entryFrame m args 6 = F0 m 0 ((lg_sl [.ref q_t, .int x1, .int x2, .long x3] ++ List.replicate (6 - (lg_sl [.ref q_t, .int x1, .int x2, .long x3]).length) Slot.unset).toArray) [] := by rw [ha]; exact lg_entry_eq _ _ _
  rw [he9]
  clear he9
  generalize (lg_sl [.ref q_t, .int x1, .int x2, .long x3] ++ List.replicate (6 - (lg_sl [.ref q_t, .int x1, .int x2, .long x3]).length) Slot.unset).toArray = ls at hl ⊢
  have hl : lv_has ls 6 [(0, .ref q_t), (1, .int x1), (2, .int x2), (3, .long x3)] := hl
  unfold wp_Mo_pipe at hw
  refine lv_aload_n hx hb d_Mo_pipe_0 rfl (lv_at hl 0 rfl) ?_
  refine lv_iconst (v := 0) hx hb d_Mo_pipe_1 (by decide) ?_
  refine va_put (D := (dC, dI)) (ci := 7) (v := .int 0) (ty := .int) (C := R_Mo) (T := F_Mo) (N := 29) hx hb hts i_Mo t_Mo t_Mo_ok n_Mo hown hK hP hD hS 0 rfl rfl 26 (by decide) (hts (Cond.fieldLink R_Mo 72 "PlantGraphModel" "thrown" "I") kw30_6501a0b) (fun _ h9 => h9) rfl (by decide +kernel) rfl rfl (Nat.le_of_ble_eq_true rfl) d_Mo_pipe_2 (fun H locs hP hD hS => ?_)
  have hP : va_P (dC, dI) classes [(q_t, .inr (7, o_Mo a_t v_t_things v_t_pipes v_t_wide v_t_size v_t_place v_t_number 0 v_t_wish v_t_found)), ((a_t 1), .inl (cI, 40, .inl f_t_kinds)), ((a_t 2), .inl (cI, 40, .inl f_t_taken)), ((a_t 8), .inl (cI, 160, .inl f_t_ends)), ((a_t 10), .inl (cI, 60, .inl f_t_sizes)), ((a_t 11), .inl (cB, 12000, .inl f_t_contents)), ((a_t 12), .inl (cI, 120, .inl f_t_at)), ((a_t 13), .inl (cI, 120, .inl f_t_ports)), ((a_t 14), .inl (cI, 120, .inl f_t_bends))] H := hP
  have hD : va_D A [(q_t, .inr (7, o_Mo a_t v_t_things v_t_pipes v_t_wide v_t_size v_t_place v_t_number 0 v_t_wish v_t_found)), ((a_t 1), .inl (cI, 40, .inl f_t_kinds)), ((a_t 2), .inl (cI, 40, .inl f_t_taken)), ((a_t 8), .inl (cI, 160, .inl f_t_ends)), ((a_t 10), .inl (cI, 60, .inl f_t_sizes)), ((a_t 11), .inl (cB, 12000, .inl f_t_contents)), ((a_t 12), .inl (cI, 120, .inl f_t_at)), ((a_t 13), .inl (cI, 120, .inl f_t_ports)), ((a_t 14), .inl (cI, 120, .inl f_t_bends))] := hD
  refine lv_aload_n hx hb d_Mo_pipe_5 rfl (lv_at hl 0 rfl) ?_
  refine va_get (D := (dC, dI)) (ci := 7) (v := .ref (a_t 1)) (C := R_Mo) (T := F_Mo) (N := 29) hx hb hts i_Mo hown hK hP 0 rfl rfl 1 (by decide) (hts (Cond.fieldLink R_Mo 9 "PlantGraphModel" "kinds" "[I") kw30_cf02404) (fun _ h9 => h9) rfl d_Mo_pipe_6 ?_
  refine lv_aload_n hx hb d_Mo_pipe_9 rfl (lv_at hl 0 rfl) ?_
  refine va_get (D := (dC, dI)) (ci := 7) (v := .ref (a_t 2)) (C := R_Mo) (T := F_Mo) (N := 29) hx hb hts i_Mo hown hK hP 0 rfl rfl 2 (by decide) (hts (Cond.fieldLink R_Mo 13 "PlantGraphModel" "taken" "[I") kw30_775b56c) (fun _ h9 => h9) rfl d_Mo_pipe_10 ?_
  refine lv_aload_n hx hb d_Mo_pipe_13 rfl (lv_at hl 0 rfl) ?_
  refine va_get (D := (dC, dI)) (ci := 7) (v := .int v_t_things) (C := R_Mo) (T := F_Mo) (N := 29) hx hb hts i_Mo hown hK hP 0 rfl rfl 0 (by decide) (hts (Cond.fieldLink R_Mo 76 "PlantGraphModel" "things" "I") kw30_063c233) (fun _ h9 => h9) rfl d_Mo_pipe_14 ?_
  refine lv_iload_n hx hb d_Mo_pipe_17 rfl (lv_at hl 1 rfl) ?_
  refine lv_iload_n hx hb d_Mo_pipe_18 rfl (lv_at hl 2 rfl) ?_
  refine lv_lload_n hx hb d_Mo_pipe_19 rfl (lv_at hl 3 rfl) ?_
  have hPc := hP.sub (ws' := [((a_t 1), .inl (cI, 40, .inl f_t_kinds)), ((a_t 2), .inl (cI, 40, .inl f_t_taken))]) [1, 2] rfl
  have hDc := hD.sub (ws' := [((a_t 1), .inl (cI, 40, .inl f_t_kinds)), ((a_t 2), .inl (cI, 40, .inl f_t_taken))]) [1, 2] (by decide) rfl
  have hFc := va_free (wc := [((a_t 1), .inl (cI, 40, .inl f_t_kinds)), ((a_t 2), .inl (cI, 40, .inl f_t_taken))]) hD hS hA [1, 2] rfl
  refine va_calli (va_runS (As := [.ref (a_t 1), .ref (a_t 2), .int v_t_things, .int x1, .int x2, .long x3]) (rest := []) ⟨hx, hb, hml, hown, hts⟩ (c_Mo_fits l dC dI cI cL cB tP tR adK adV (a_t 1) (a_t 2) H.size f_t_kinds 40 f_t_taken 40 v_t_things x1 x2 x3 _ hw) (my_cwS 6 hts kw30_b84ccf0 kw30_0a03b17 kw30_7a5931c kw30_e827962 rfl rfl (by decide +kernel) ⟨Nat.le_of_ble_eq_true rfl, Nat.le_of_ble_eq_true rfl⟩) ⟨fun a U g mk q => by obtain ⟨q0, q1, qP, qK, qD, qG⟩ := q; exact ⟨q0, q1, qP, va_K.moved (u := U) (U := U.calling g mk a) (Vm.Alike.refl U.vm) qK, qD, gx_call qG⟩, fun U hU hW => ⟨rfl, by rw [hU], by rw [hU]; exact hPc, va_K.moved hW.alike hK, hDc.weaken (fun _ _ _ _ => trivial), by rw [hU]; exact gx_pass hW hS.2.1 hFc hG⟩⟩ rfl rfl hl.1 rfl (lv_room (Nat.le_of_ble_eq_true rfl)) d_Mo_pipe_20 ⟨Nat.zero_le _, Nat.zero_le _⟩) hS (fun q _ h => hFc q h) hFc (fun r20 u t H locs ht hvm hw hB hz1 hk1 hS => ?_)
  obtain ⟨hP1, hK1, hD1⟩ := hB
  rw [ht] at hP1
  obtain ⟨hP, hD⟩ := va_join (wr := [(q_t, .inr (7, o_Mo a_t v_t_things v_t_pipes v_t_wide v_t_size v_t_place v_t_number 0 v_t_wish v_t_found)), ((a_t 8), .inl (cI, 160, .inl f_t_ends)), ((a_t 10), .inl (cI, 60, .inl f_t_sizes)), ((a_t 11), .inl (cB, 12000, .inl f_t_contents)), ((a_t 12), .inl (cI, 120, .inl f_t_at)), ((a_t 13), .inl (cI, 120, .inl f_t_ports)), ((a_t 14), .inl (cI, 120, .inl f_t_bends))]) (w1 := [((a_t 1), .inl (cI, 40, .inl f_t_kinds)), ((a_t 2), .inl (cI, 40, .inl f_t_taken))]) hP hD [1, 2] [0, 3, 4, 5, 6, 7, 8] rfl rfl (by decide) (by decide) hk1 hFc hP1 hD1
  have hP : va_P (dC, dI) classes [(q_t, .inr (7, o_Mo a_t v_t_things v_t_pipes v_t_wide v_t_size v_t_place v_t_number 0 v_t_wish v_t_found)), ((a_t 1), .inl (cI, 40, .inl f_t_kinds)), ((a_t 2), .inl (cI, 40, .inl f_t_taken)), ((a_t 8), .inl (cI, 160, .inl f_t_ends)), ((a_t 10), .inl (cI, 60, .inl f_t_sizes)), ((a_t 11), .inl (cB, 12000, .inl f_t_contents)), ((a_t 12), .inl (cI, 120, .inl f_t_at)), ((a_t 13), .inl (cI, 120, .inl f_t_ports)), ((a_t 14), .inl (cI, 120, .inl f_t_bends))] H := hP.sub (ws' := [(q_t, .inr (7, o_Mo a_t v_t_things v_t_pipes v_t_wide v_t_size v_t_place v_t_number 0 v_t_wish v_t_found)), ((a_t 1), .inl (cI, 40, .inl f_t_kinds)), ((a_t 2), .inl (cI, 40, .inl f_t_taken)), ((a_t 8), .inl (cI, 160, .inl f_t_ends)), ((a_t 10), .inl (cI, 60, .inl f_t_sizes)), ((a_t 11), .inl (cB, 12000, .inl f_t_contents)), ((a_t 12), .inl (cI, 120, .inl f_t_at)), ((a_t 13), .inl (cI, 120, .inl f_t_ports)), ((a_t 14), .inl (cI, 120, .inl f_t_bends))]) [0, 7, 8, 1, 2, 3, 4, 5, 6] rfl
  have hD : va_D A [(q_t, .inr (7, o_Mo a_t v_t_things v_t_pipes v_t_wide v_t_size v_t_place v_t_number 0 v_t_wish v_t_found)), ((a_t 1), .inl (cI, 40, .inl f_t_kinds)), ((a_t 2), .inl (cI, 40, .inl f_t_taken)), ((a_t 8), .inl (cI, 160, .inl f_t_ends)), ((a_t 10), .inl (cI, 60, .inl f_t_sizes)), ((a_t 11), .inl (cB, 12000, .inl f_t_contents)), ((a_t 12), .inl (cI, 120, .inl f_t_at)), ((a_t 13), .inl (cI, 120, .inl f_t_ports)), ((a_t 14), .inl (cI, 120, .inl f_t_bends))] := hD.sub (ws' := [(q_t, .inr (7, o_Mo a_t v_t_things v_t_pipes v_t_wide v_t_size v_t_place v_t_number 0 v_t_wish v_t_found)), ((a_t 1), .inl (cI, 40, .inl f_t_kinds)), ((a_t 2), .inl (cI, 40, .inl f_t_taken)), ((a_t 8), .inl (cI, 160, .inl f_t_ends)), ((a_t 10), .inl (cI, 60, .inl f_t_sizes)), ((a_t 11), .inl (cB, 12000, .inl f_t_contents)), ((a_t 12), .inl (cI, 120, .inl f_t_at)), ((a_t 13), .inl (cI, 120, .inl f_t_ports)), ((a_t 14), .inl (cI, 120, .inl f_t_bends))]) [0, 7, 8, 1, 2, 3, 4, 5, 6] (by decide) rfl
  refine lv_if_ne (tgt := 28) hx hb d_Mo_pipe_23 (by decide) (fun c23 => ?_) (fun c23 => ?_)
  · replace hw := hw.1 c23
    refine lv_aload_n hx hb d_Mo_pipe_28 rfl (lv_at hl 0 rfl) ?_
    refine va_get (D := (dC, dI)) (ci := 7) (v := .int v_t_pipes) (C := R_Mo) (T := F_Mo) (N := 29) hx hb hts i_Mo hown hK hP 0 rfl rfl 9 (by decide) (hts (Cond.fieldLink R_Mo 98 "PlantGraphModel" "pipes" "I") kw30_189c50d) (fun _ h9 => h9) rfl d_Mo_pipe_29 ?_
    refine lv_bipush (v := 60) hx hb d_Mo_pipe_32 (by decide) ?_
    refine lv_icmp_ne (tgt := 40) hx hb d_Mo_pipe_34 (by decide) (fun c34 => ?_) (fun c34 => ?_)
    · replace hw := hw.1 c34
      refine lv_aload_n hx hb d_Mo_pipe_40 rfl (lv_at hl 0 rfl) ?_
      refine va_get (D := (dC, dI)) (ci := 7) (v := .ref (a_t 10)) (C := R_Mo) (T := F_Mo) (N := 29) hx hb hts i_Mo hown hK hP 0 rfl rfl 10 (by decide) (hts (Cond.fieldLink R_Mo 35 "PlantGraphModel" "sizes" "[I") kw30_b664d45) (fun _ h9 => h9) rfl d_Mo_pipe_41 ?_
      refine lv_aload_n hx hb d_Mo_pipe_44 rfl (lv_at hl 0 rfl) ?_
      refine va_get (D := (dC, dI)) (ci := 7) (v := .int v_t_pipes) (C := R_Mo) (T := F_Mo) (N := 29) hx hb hts i_Mo hown hK hP 0 rfl rfl 9 (by decide) (hts (Cond.fieldLink R_Mo 98 "PlantGraphModel" "pipes" "I") kw30_189c50d) (fun _ h9 => h9) rfl d_Mo_pipe_45 ?_
      refine lv_lload_n hx hb d_Mo_pipe_48 rfl (lv_at hl 3 rfl) ?_
      refine lv_l2i hx hb d_Mo_pipe_49 rfl ?_
      refine va_iast hx hb hK hP hD hS 4 0 rfl rfl hw.1 d_Mo_pipe_50 (fun H locs hP hD hS => ?_)
      replace hw := hw.2
      have hP : va_P (dC, dI) classes [(q_t, .inr (7, o_Mo a_t v_t_things v_t_pipes v_t_wide v_t_size v_t_place v_t_number 0 v_t_wish v_t_found)), ((a_t 1), .inl (cI, 40, .inl f_t_kinds)), ((a_t 2), .inl (cI, 40, .inl f_t_taken)), ((a_t 8), .inl (cI, 160, .inl f_t_ends)), ((a_t 10), .inl (cI, 60, .inl (upd f_t_sizes v_t_pipes.toNatClampNeg ((x3 : Int64).toInt32)))), ((a_t 11), .inl (cB, 12000, .inl f_t_contents)), ((a_t 12), .inl (cI, 120, .inl f_t_at)), ((a_t 13), .inl (cI, 120, .inl f_t_ports)), ((a_t 14), .inl (cI, 120, .inl f_t_bends))] H := hP
      have hD : va_D A [(q_t, .inr (7, o_Mo a_t v_t_things v_t_pipes v_t_wide v_t_size v_t_place v_t_number 0 v_t_wish v_t_found)), ((a_t 1), .inl (cI, 40, .inl f_t_kinds)), ((a_t 2), .inl (cI, 40, .inl f_t_taken)), ((a_t 8), .inl (cI, 160, .inl f_t_ends)), ((a_t 10), .inl (cI, 60, .inl (upd f_t_sizes v_t_pipes.toNatClampNeg ((x3 : Int64).toInt32)))), ((a_t 11), .inl (cB, 12000, .inl f_t_contents)), ((a_t 12), .inl (cI, 120, .inl f_t_at)), ((a_t 13), .inl (cI, 120, .inl f_t_ports)), ((a_t 14), .inl (cI, 120, .inl f_t_bends))] := hD
      refine lv_iconst (v := 0) hx hb d_Mo_pipe_51 (by decide) ?_
      refine lv_istore (lv' := [(5, .int 0), (0, .ref q_t), (1, .int x1), (2, .int x2), (3, .long x3)]) hx hb d_Mo_pipe_52 hl (by decide) rfl (fun ls hl => ?_)
      obtain ⟨n_54, hw⟩ := hw
      have EX_85 : ∀ (x5_L54 : Int32) (f_t_contents_L54 : (Nat → Int32)) (H : Heap) (locs : List Loc) (ls : Array Slot), va_P (dC, dI) classes [(q_t, .inr (7, o_Mo a_t v_t_things v_t_pipes v_t_wide v_t_size v_t_place v_t_number 0 v_t_wish v_t_found)), ((a_t 1), .inl (cI, 40, .inl f_t_kinds)), ((a_t 2), .inl (cI, 40, .inl f_t_taken)), ((a_t 8), .inl (cI, 160, .inl f_t_ends)), ((a_t 10), .inl (cI, 60, .inl (upd f_t_sizes v_t_pipes.toNatClampNeg ((x3 : Int64).toInt32)))), ((a_t 11), .inl (cB, 12000, .inl f_t_contents_L54)), ((a_t 12), .inl (cI, 120, .inl f_t_at)), ((a_t 13), .inl (cI, 120, .inl f_t_ports)), ((a_t 14), .inl (cI, 120, .inl f_t_bends))] H → va_D A [(q_t, .inr (7, o_Mo a_t v_t_things v_t_pipes v_t_wide v_t_size v_t_place v_t_number 0 v_t_wish v_t_found)), ((a_t 1), .inl (cI, 40, .inl f_t_kinds)), ((a_t 2), .inl (cI, 40, .inl f_t_taken)), ((a_t 8), .inl (cI, 160, .inl f_t_ends)), ((a_t 10), .inl (cI, 60, .inl (upd f_t_sizes v_t_pipes.toNatClampNeg ((x3 : Int64).toInt32)))), ((a_t 11), .inl (cB, 12000, .inl f_t_contents_L54)), ((a_t 12), .inl (cI, 120, .inl f_t_at)), ((a_t 13), .inl (cI, 120, .inl f_t_ports)), ((a_t 14), .inl (cI, 120, .inl f_t_bends))] → va_S A s.heap H locs → lv_has ls 6 [(0, .ref q_t), (1, .int x1), (2, .int x2), (5, .int x5_L54)] → wk_Mo_pipe_85_54 f_t_kinds f_t_taken f_t_ends f_t_at f_t_ports f_t_bends v_t_pipes x1 x2 f_t_sizes x3 P x5_L54 f_t_contents_L54 → W p l e (headSpec w_Mo_pipe rm_Mo_pipe).room s m args below meth c H locs 0 0 (MQ below (Q_Mo_pipe dC dI cI cL cB q_t a_t v_t_things v_t_pipes v_t_wide v_t_size v_t_place v_t_number v_t_thrown v_t_wish v_t_found f_t_kinds f_t_taken f_t_ends f_t_sizes f_t_contents f_t_at f_t_ports f_t_bends x1 x2 x3 P A) args s 0 0 A) (F0 m 85 ls []) := by
        intro x5_L54 f_t_contents_L54 H locs ls hP hD hS hl hw
        unfold wk_Mo_pipe_85_54 at hw
        refine lv_aload_n hx hb d_Mo_pipe_85 rfl (lv_at hl 0 rfl) ?_
        refine lv_iconst (v := 2) hx hb d_Mo_pipe_86 (by decide) ?_
        refine lv_aload_n hx hb d_Mo_pipe_87 rfl (lv_at hl 0 rfl) ?_
        refine va_get (D := (dC, dI)) (ci := 7) (v := .int v_t_pipes) (C := R_Mo) (T := F_Mo) (N := 29) hx hb hts i_Mo hown hK hP 0 rfl rfl 9 (by decide) (hts (Cond.fieldLink R_Mo 98 "PlantGraphModel" "pipes" "I") kw30_189c50d) (fun _ h9 => h9) rfl d_Mo_pipe_88 ?_
        refine lv_imul hx hb d_Mo_pipe_91 ?_
        refine lv_iload_n hx hb d_Mo_pipe_92 rfl (lv_at hl 1 rfl) ?_
        have hPc := hP.sub (ws' := [(q_t, .inr (7, o_Mo a_t v_t_things v_t_pipes v_t_wide v_t_size v_t_place v_t_number 0 v_t_wish v_t_found)), ((a_t 1), .inl (cI, 40, .inl f_t_kinds)), ((a_t 2), .inl (cI, 40, .inl f_t_taken)), ((a_t 8), .inl (cI, 160, .inl f_t_ends)), ((a_t 12), .inl (cI, 120, .inl f_t_at)), ((a_t 13), .inl (cI, 120, .inl f_t_ports)), ((a_t 14), .inl (cI, 120, .inl f_t_bends))]) [0, 1, 2, 3, 6, 7, 8] rfl
        have hDc := hD.sub (ws' := [(q_t, .inr (7, o_Mo a_t v_t_things v_t_pipes v_t_wide v_t_size v_t_place v_t_number 0 v_t_wish v_t_found)), ((a_t 1), .inl (cI, 40, .inl f_t_kinds)), ((a_t 2), .inl (cI, 40, .inl f_t_taken)), ((a_t 8), .inl (cI, 160, .inl f_t_ends)), ((a_t 12), .inl (cI, 120, .inl f_t_at)), ((a_t 13), .inl (cI, 120, .inl f_t_ports)), ((a_t 14), .inl (cI, 120, .inl f_t_bends))]) [0, 1, 2, 3, 6, 7, 8] (by decide) rfl
        have hFc := va_free (wc := [(q_t, .inr (7, o_Mo a_t v_t_things v_t_pipes v_t_wide v_t_size v_t_place v_t_number 0 v_t_wish v_t_found)), ((a_t 1), .inl (cI, 40, .inl f_t_kinds)), ((a_t 2), .inl (cI, 40, .inl f_t_taken)), ((a_t 8), .inl (cI, 160, .inl f_t_ends)), ((a_t 12), .inl (cI, 120, .inl f_t_at)), ((a_t 13), .inl (cI, 120, .inl f_t_ports)), ((a_t 14), .inl (cI, 120, .inl f_t_bends))]) hD hS hA [0, 1, 2, 3, 6, 7, 8] rfl
        refine va_callv (va_runV (As := [.int (2 * v_t_pipes), .int x1]) (rest := []) ⟨hx, hb, hml, hown, hts⟩ (c_Mo_join l dC dI cI cL cB q_t a_t H.size v_t_things v_t_pipes v_t_wide v_t_size v_t_place v_t_number 0 v_t_wish v_t_found f_t_kinds f_t_taken f_t_ends f_t_at f_t_ports f_t_bends (2 * v_t_pipes) x1 _ hw) (my_cwV 2 hts kw30_6144e48 kw30_93292b6 kw30_e531c1b kw30_7a5931c kw30_6e91e2e rfl rfl (by decide +kernel) ⟨Nat.le_of_ble_eq_true rfl, Nat.le_of_ble_eq_true rfl⟩) ⟨fun a U g mk q => by obtain ⟨q0, q1, qP, qK, qD⟩ := q; exact ⟨q0, q1, qP, va_K.moved (u := U) (U := U.calling g mk a) (Vm.Alike.refl U.vm) qK, qD⟩, va_recv hK hP (ci := 7) (q0 := 0) rfl rfl, fun U hU hW => ⟨rfl, by rw [hU], by rw [hU]; exact hPc, va_K.moved hW.alike hK, hDc.weaken (fun _ _ _ _ => trivial)⟩⟩ rfl rfl hl.1 rfl (lv_room (Nat.le_of_ble_eq_true rfl)) d_Mo_pipe_93 ⟨Nat.zero_le _, Nat.zero_le _⟩) hS (fun q _ h => hFc q h) hFc (fun u t H locs ht hvm hw hB hz1 hk1 hS => ?_)
        obtain ⟨f_t_taken_c93, f_t_ends_c93, f_t_at_c93, f_t_ports_c93, f_t_bends_c93⟩ := u
        obtain ⟨hP1, hK1, hD1⟩ := hB
        rw [ht] at hP1
        obtain ⟨hP, hD⟩ := va_join (wr := [((a_t 10), .inl (cI, 60, .inl (upd f_t_sizes v_t_pipes.toNatClampNeg ((x3 : Int64).toInt32)))), ((a_t 11), .inl (cB, 12000, .inl f_t_contents_L54))]) (w1 := [(q_t, .inr (7, o_Mo a_t v_t_things v_t_pipes v_t_wide v_t_size v_t_place v_t_number 0 v_t_wish v_t_found)), ((a_t 1), .inl (cI, 40, .inl f_t_kinds)), ((a_t 2), .inl (cI, 40, .inl f_t_taken_c93)), ((a_t 8), .inl (cI, 160, .inl f_t_ends_c93)), ((a_t 12), .inl (cI, 120, .inl f_t_at_c93)), ((a_t 13), .inl (cI, 120, .inl f_t_ports_c93)), ((a_t 14), .inl (cI, 120, .inl f_t_bends_c93))]) hP hD [0, 1, 2, 3, 6, 7, 8] [4, 5] rfl rfl (by decide) (by decide) hk1 hFc hP1 hD1
        have hP : va_P (dC, dI) classes [(q_t, .inr (7, o_Mo a_t v_t_things v_t_pipes v_t_wide v_t_size v_t_place v_t_number 0 v_t_wish v_t_found)), ((a_t 1), .inl (cI, 40, .inl f_t_kinds)), ((a_t 2), .inl (cI, 40, .inl f_t_taken_c93)), ((a_t 8), .inl (cI, 160, .inl f_t_ends_c93)), ((a_t 10), .inl (cI, 60, .inl (upd f_t_sizes v_t_pipes.toNatClampNeg ((x3 : Int64).toInt32)))), ((a_t 11), .inl (cB, 12000, .inl f_t_contents_L54)), ((a_t 12), .inl (cI, 120, .inl f_t_at_c93)), ((a_t 13), .inl (cI, 120, .inl f_t_ports_c93)), ((a_t 14), .inl (cI, 120, .inl f_t_bends_c93))] H := hP.sub (ws' := [(q_t, .inr (7, o_Mo a_t v_t_things v_t_pipes v_t_wide v_t_size v_t_place v_t_number 0 v_t_wish v_t_found)), ((a_t 1), .inl (cI, 40, .inl f_t_kinds)), ((a_t 2), .inl (cI, 40, .inl f_t_taken_c93)), ((a_t 8), .inl (cI, 160, .inl f_t_ends_c93)), ((a_t 10), .inl (cI, 60, .inl (upd f_t_sizes v_t_pipes.toNatClampNeg ((x3 : Int64).toInt32)))), ((a_t 11), .inl (cB, 12000, .inl f_t_contents_L54)), ((a_t 12), .inl (cI, 120, .inl f_t_at_c93)), ((a_t 13), .inl (cI, 120, .inl f_t_ports_c93)), ((a_t 14), .inl (cI, 120, .inl f_t_bends_c93))]) [2, 3, 4, 5, 0, 1, 6, 7, 8] rfl
        have hD : va_D A [(q_t, .inr (7, o_Mo a_t v_t_things v_t_pipes v_t_wide v_t_size v_t_place v_t_number 0 v_t_wish v_t_found)), ((a_t 1), .inl (cI, 40, .inl f_t_kinds)), ((a_t 2), .inl (cI, 40, .inl f_t_taken_c93)), ((a_t 8), .inl (cI, 160, .inl f_t_ends_c93)), ((a_t 10), .inl (cI, 60, .inl (upd f_t_sizes v_t_pipes.toNatClampNeg ((x3 : Int64).toInt32)))), ((a_t 11), .inl (cB, 12000, .inl f_t_contents_L54)), ((a_t 12), .inl (cI, 120, .inl f_t_at_c93)), ((a_t 13), .inl (cI, 120, .inl f_t_ports_c93)), ((a_t 14), .inl (cI, 120, .inl f_t_bends_c93))] := hD.sub (ws' := [(q_t, .inr (7, o_Mo a_t v_t_things v_t_pipes v_t_wide v_t_size v_t_place v_t_number 0 v_t_wish v_t_found)), ((a_t 1), .inl (cI, 40, .inl f_t_kinds)), ((a_t 2), .inl (cI, 40, .inl f_t_taken_c93)), ((a_t 8), .inl (cI, 160, .inl f_t_ends_c93)), ((a_t 10), .inl (cI, 60, .inl (upd f_t_sizes v_t_pipes.toNatClampNeg ((x3 : Int64).toInt32)))), ((a_t 11), .inl (cB, 12000, .inl f_t_contents_L54)), ((a_t 12), .inl (cI, 120, .inl f_t_at_c93)), ((a_t 13), .inl (cI, 120, .inl f_t_ports_c93)), ((a_t 14), .inl (cI, 120, .inl f_t_bends_c93))]) [2, 3, 4, 5, 0, 1, 6, 7, 8] (by decide) rfl
        refine lv_aload_n hx hb d_Mo_pipe_96 rfl (lv_at hl 0 rfl) ?_
        refine lv_iconst (v := 2) hx hb d_Mo_pipe_97 (by decide) ?_
        refine lv_aload_n hx hb d_Mo_pipe_98 rfl (lv_at hl 0 rfl) ?_
        refine va_get (D := (dC, dI)) (ci := 7) (v := .int v_t_pipes) (C := R_Mo) (T := F_Mo) (N := 29) hx hb hts i_Mo hown hK hP 0 rfl rfl 9 (by decide) (hts (Cond.fieldLink R_Mo 98 "PlantGraphModel" "pipes" "I") kw30_189c50d) (fun _ h9 => h9) rfl d_Mo_pipe_99 ?_
        refine lv_imul hx hb d_Mo_pipe_102 ?_
        refine lv_iconst (v := 1) hx hb d_Mo_pipe_103 (by decide) ?_
        refine lv_iadd hx hb d_Mo_pipe_104 ?_
        refine lv_iload_n hx hb d_Mo_pipe_105 rfl (lv_at hl 2 rfl) ?_
        have hPc := hP.sub (ws' := [(q_t, .inr (7, o_Mo a_t v_t_things v_t_pipes v_t_wide v_t_size v_t_place v_t_number 0 v_t_wish v_t_found)), ((a_t 1), .inl (cI, 40, .inl f_t_kinds)), ((a_t 2), .inl (cI, 40, .inl f_t_taken_c93)), ((a_t 8), .inl (cI, 160, .inl f_t_ends_c93)), ((a_t 12), .inl (cI, 120, .inl f_t_at_c93)), ((a_t 13), .inl (cI, 120, .inl f_t_ports_c93)), ((a_t 14), .inl (cI, 120, .inl f_t_bends_c93))]) [0, 1, 2, 3, 6, 7, 8] rfl
        have hDc := hD.sub (ws' := [(q_t, .inr (7, o_Mo a_t v_t_things v_t_pipes v_t_wide v_t_size v_t_place v_t_number 0 v_t_wish v_t_found)), ((a_t 1), .inl (cI, 40, .inl f_t_kinds)), ((a_t 2), .inl (cI, 40, .inl f_t_taken_c93)), ((a_t 8), .inl (cI, 160, .inl f_t_ends_c93)), ((a_t 12), .inl (cI, 120, .inl f_t_at_c93)), ((a_t 13), .inl (cI, 120, .inl f_t_ports_c93)), ((a_t 14), .inl (cI, 120, .inl f_t_bends_c93))]) [0, 1, 2, 3, 6, 7, 8] (by decide) rfl
        have hFc := va_free (wc := [(q_t, .inr (7, o_Mo a_t v_t_things v_t_pipes v_t_wide v_t_size v_t_place v_t_number 0 v_t_wish v_t_found)), ((a_t 1), .inl (cI, 40, .inl f_t_kinds)), ((a_t 2), .inl (cI, 40, .inl f_t_taken_c93)), ((a_t 8), .inl (cI, 160, .inl f_t_ends_c93)), ((a_t 12), .inl (cI, 120, .inl f_t_at_c93)), ((a_t 13), .inl (cI, 120, .inl f_t_ports_c93)), ((a_t 14), .inl (cI, 120, .inl f_t_bends_c93))]) hD hS hA [0, 1, 2, 3, 6, 7, 8] rfl
        refine va_callv (va_runV (As := [.int ((2 * v_t_pipes) + 1), .int x2]) (rest := []) ⟨hx, hb, hml, hown, hts⟩ (c_Mo_join l dC dI cI cL cB q_t a_t H.size v_t_things v_t_pipes v_t_wide v_t_size v_t_place v_t_number 0 v_t_wish v_t_found f_t_kinds f_t_taken_c93 f_t_ends_c93 f_t_at_c93 f_t_ports_c93 f_t_bends_c93 ((2 * v_t_pipes) + 1) x2 _ hw) (my_cwV 2 hts kw30_6144e48 kw30_93292b6 kw30_e531c1b kw30_7a5931c kw30_6e91e2e rfl rfl (by decide +kernel) ⟨Nat.le_of_ble_eq_true rfl, Nat.le_of_ble_eq_true rfl⟩) ⟨fun a U g mk q => by obtain ⟨q0, q1, qP, qK, qD⟩ := q; exact ⟨q0, q1, qP, va_K.moved (u := U) (U := U.calling g mk a) (Vm.Alike.refl U.vm) qK, qD⟩, va_recv hK hP (ci := 7) (q0 := 0) rfl rfl, fun U hU hW => ⟨rfl, by rw [hU], by rw [hU]; exact hPc, va_K.moved hW.alike hK, hDc.weaken (fun _ _ _ _ => trivial)⟩⟩ rfl rfl hl.1 rfl (lv_room (Nat.le_of_ble_eq_true rfl)) d_Mo_pipe_106 ⟨Nat.zero_le _, Nat.zero_le _⟩) hS (fun q _ h => hFc q h) hFc (fun u t H locs ht hvm hw hB hz1 hk1 hS => ?_)
        obtain ⟨f_t_taken_c106, f_t_ends_c106, f_t_at_c106, f_t_ports_c106, f_t_bends_c106⟩ := u
        obtain ⟨hP1, hK1, hD1⟩ := hB
        rw [ht] at hP1
        obtain ⟨hP, hD⟩ := va_join (wr := [((a_t 10), .inl (cI, 60, .inl (upd f_t_sizes v_t_pipes.toNatClampNeg ((x3 : Int64).toInt32)))), ((a_t 11), .inl (cB, 12000, .inl f_t_contents_L54))]) (w1 := [(q_t, .inr (7, o_Mo a_t v_t_things v_t_pipes v_t_wide v_t_size v_t_place v_t_number 0 v_t_wish v_t_found)), ((a_t 1), .inl (cI, 40, .inl f_t_kinds)), ((a_t 2), .inl (cI, 40, .inl f_t_taken_c106)), ((a_t 8), .inl (cI, 160, .inl f_t_ends_c106)), ((a_t 12), .inl (cI, 120, .inl f_t_at_c106)), ((a_t 13), .inl (cI, 120, .inl f_t_ports_c106)), ((a_t 14), .inl (cI, 120, .inl f_t_bends_c106))]) hP hD [0, 1, 2, 3, 6, 7, 8] [4, 5] rfl rfl (by decide) (by decide) hk1 hFc hP1 hD1
        have hP : va_P (dC, dI) classes [(q_t, .inr (7, o_Mo a_t v_t_things v_t_pipes v_t_wide v_t_size v_t_place v_t_number 0 v_t_wish v_t_found)), ((a_t 1), .inl (cI, 40, .inl f_t_kinds)), ((a_t 2), .inl (cI, 40, .inl f_t_taken_c106)), ((a_t 8), .inl (cI, 160, .inl f_t_ends_c106)), ((a_t 10), .inl (cI, 60, .inl (upd f_t_sizes v_t_pipes.toNatClampNeg ((x3 : Int64).toInt32)))), ((a_t 11), .inl (cB, 12000, .inl f_t_contents_L54)), ((a_t 12), .inl (cI, 120, .inl f_t_at_c106)), ((a_t 13), .inl (cI, 120, .inl f_t_ports_c106)), ((a_t 14), .inl (cI, 120, .inl f_t_bends_c106))] H := hP.sub (ws' := [(q_t, .inr (7, o_Mo a_t v_t_things v_t_pipes v_t_wide v_t_size v_t_place v_t_number 0 v_t_wish v_t_found)), ((a_t 1), .inl (cI, 40, .inl f_t_kinds)), ((a_t 2), .inl (cI, 40, .inl f_t_taken_c106)), ((a_t 8), .inl (cI, 160, .inl f_t_ends_c106)), ((a_t 10), .inl (cI, 60, .inl (upd f_t_sizes v_t_pipes.toNatClampNeg ((x3 : Int64).toInt32)))), ((a_t 11), .inl (cB, 12000, .inl f_t_contents_L54)), ((a_t 12), .inl (cI, 120, .inl f_t_at_c106)), ((a_t 13), .inl (cI, 120, .inl f_t_ports_c106)), ((a_t 14), .inl (cI, 120, .inl f_t_bends_c106))]) [2, 3, 4, 5, 0, 1, 6, 7, 8] rfl
        have hD : va_D A [(q_t, .inr (7, o_Mo a_t v_t_things v_t_pipes v_t_wide v_t_size v_t_place v_t_number 0 v_t_wish v_t_found)), ((a_t 1), .inl (cI, 40, .inl f_t_kinds)), ((a_t 2), .inl (cI, 40, .inl f_t_taken_c106)), ((a_t 8), .inl (cI, 160, .inl f_t_ends_c106)), ((a_t 10), .inl (cI, 60, .inl (upd f_t_sizes v_t_pipes.toNatClampNeg ((x3 : Int64).toInt32)))), ((a_t 11), .inl (cB, 12000, .inl f_t_contents_L54)), ((a_t 12), .inl (cI, 120, .inl f_t_at_c106)), ((a_t 13), .inl (cI, 120, .inl f_t_ports_c106)), ((a_t 14), .inl (cI, 120, .inl f_t_bends_c106))] := hD.sub (ws' := [(q_t, .inr (7, o_Mo a_t v_t_things v_t_pipes v_t_wide v_t_size v_t_place v_t_number 0 v_t_wish v_t_found)), ((a_t 1), .inl (cI, 40, .inl f_t_kinds)), ((a_t 2), .inl (cI, 40, .inl f_t_taken_c106)), ((a_t 8), .inl (cI, 160, .inl f_t_ends_c106)), ((a_t 10), .inl (cI, 60, .inl (upd f_t_sizes v_t_pipes.toNatClampNeg ((x3 : Int64).toInt32)))), ((a_t 11), .inl (cB, 12000, .inl f_t_contents_L54)), ((a_t 12), .inl (cI, 120, .inl f_t_at_c106)), ((a_t 13), .inl (cI, 120, .inl f_t_ports_c106)), ((a_t 14), .inl (cI, 120, .inl f_t_bends_c106))]) [2, 3, 4, 5, 0, 1, 6, 7, 8] (by decide) rfl
        refine lv_aload_n hx hb d_Mo_pipe_109 rfl (lv_at hl 0 rfl) ?_
        refine lv_dup hx hb d_Mo_pipe_110 rfl ?_
        refine va_get (D := (dC, dI)) (ci := 7) (v := .int v_t_pipes) (C := R_Mo) (T := F_Mo) (N := 29) hx hb hts i_Mo hown hK hP 0 rfl rfl 9 (by decide) (hts (Cond.fieldLink R_Mo 98 "PlantGraphModel" "pipes" "I") kw30_189c50d) (fun _ h9 => h9) rfl d_Mo_pipe_111 ?_
        refine lv_iconst (v := 1) hx hb d_Mo_pipe_114 (by decide) ?_
        refine lv_iadd hx hb d_Mo_pipe_115 ?_
        refine va_put (D := (dC, dI)) (ci := 7) (v := .int (v_t_pipes + 1)) (ty := .int) (C := R_Mo) (T := F_Mo) (N := 29) hx hb hts i_Mo t_Mo t_Mo_ok n_Mo hown hK hP hD hS 0 rfl rfl 9 (by decide) (hts (Cond.fieldLink R_Mo 98 "PlantGraphModel" "pipes" "I") kw30_189c50d) (fun _ h9 => h9) rfl (by decide +kernel) rfl rfl (Nat.le_of_ble_eq_true rfl) d_Mo_pipe_116 (fun H locs hP hD hS => ?_)
        have hP : va_P (dC, dI) classes [(q_t, .inr (7, o_Mo a_t v_t_things (v_t_pipes + 1) v_t_wide v_t_size v_t_place v_t_number 0 v_t_wish v_t_found)), ((a_t 1), .inl (cI, 40, .inl f_t_kinds)), ((a_t 2), .inl (cI, 40, .inl f_t_taken_c106)), ((a_t 8), .inl (cI, 160, .inl f_t_ends_c106)), ((a_t 10), .inl (cI, 60, .inl (upd f_t_sizes v_t_pipes.toNatClampNeg ((x3 : Int64).toInt32)))), ((a_t 11), .inl (cB, 12000, .inl f_t_contents_L54)), ((a_t 12), .inl (cI, 120, .inl f_t_at_c106)), ((a_t 13), .inl (cI, 120, .inl f_t_ports_c106)), ((a_t 14), .inl (cI, 120, .inl f_t_bends_c106))] H := hP
        have hD : va_D A [(q_t, .inr (7, o_Mo a_t v_t_things (v_t_pipes + 1) v_t_wide v_t_size v_t_place v_t_number 0 v_t_wish v_t_found)), ((a_t 1), .inl (cI, 40, .inl f_t_kinds)), ((a_t 2), .inl (cI, 40, .inl f_t_taken_c106)), ((a_t 8), .inl (cI, 160, .inl f_t_ends_c106)), ((a_t 10), .inl (cI, 60, .inl (upd f_t_sizes v_t_pipes.toNatClampNeg ((x3 : Int64).toInt32)))), ((a_t 11), .inl (cB, 12000, .inl f_t_contents_L54)), ((a_t 12), .inl (cI, 120, .inl f_t_at_c106)), ((a_t 13), .inl (cI, 120, .inl f_t_ports_c106)), ((a_t 14), .inl (cI, 120, .inl f_t_bends_c106))] := hD
        refine lv_aload_n hx hb d_Mo_pipe_119 rfl (lv_at hl 0 rfl) ?_
        refine va_get (D := (dC, dI)) (ci := 7) (v := .int (v_t_pipes + 1)) (C := R_Mo) (T := F_Mo) (N := 29) hx hb hts i_Mo hown hK hP 0 rfl rfl 9 (by decide) (hts (Cond.fieldLink R_Mo 98 "PlantGraphModel" "pipes" "I") kw30_189c50d) (fun _ h9 => h9) rfl d_Mo_pipe_120 ?_
        refine lv_iconst (v := 1) hx hb d_Mo_pipe_123 (by decide) ?_
        refine lv_isub hx hb d_Mo_pipe_124 ?_
        exact W.iret (v := ((v_t_pipes + 1) - 1)) hx hb hr (fun t ht hW => ⟨⟨((v_t_pipes + 1) - 1), ((v_t_pipes + 1), 0, f_t_taken_c106, f_t_ends_c106, (upd f_t_sizes v_t_pipes.toNatClampNeg ((x3 : Int64).toInt32)), f_t_contents_L54, f_t_at_c106, f_t_ports_c106, f_t_bends_c106), rfl, hw, by rw [ht]; exact hP, va_K.moved hW.alike hK, hD⟩, hS.F ht⟩) hS.2.2 d_Mo_pipe_125
      have LP_54 : ∀ (k_54 : Nat) (x5_L54 : Int32) (f_t_contents_L54 : (Nat → Int32)) (H : Heap) (locs : List Loc) (ls : Array Slot), va_P (dC, dI) classes [(q_t, .inr (7, o_Mo a_t v_t_things v_t_pipes v_t_wide v_t_size v_t_place v_t_number 0 v_t_wish v_t_found)), ((a_t 1), .inl (cI, 40, .inl f_t_kinds)), ((a_t 2), .inl (cI, 40, .inl f_t_taken)), ((a_t 8), .inl (cI, 160, .inl f_t_ends)), ((a_t 10), .inl (cI, 60, .inl (upd f_t_sizes v_t_pipes.toNatClampNeg ((x3 : Int64).toInt32)))), ((a_t 11), .inl (cB, 12000, .inl f_t_contents_L54)), ((a_t 12), .inl (cI, 120, .inl f_t_at)), ((a_t 13), .inl (cI, 120, .inl f_t_ports)), ((a_t 14), .inl (cI, 120, .inl f_t_bends))] H → va_D A [(q_t, .inr (7, o_Mo a_t v_t_things v_t_pipes v_t_wide v_t_size v_t_place v_t_number 0 v_t_wish v_t_found)), ((a_t 1), .inl (cI, 40, .inl f_t_kinds)), ((a_t 2), .inl (cI, 40, .inl f_t_taken)), ((a_t 8), .inl (cI, 160, .inl f_t_ends)), ((a_t 10), .inl (cI, 60, .inl (upd f_t_sizes v_t_pipes.toNatClampNeg ((x3 : Int64).toInt32)))), ((a_t 11), .inl (cB, 12000, .inl f_t_contents_L54)), ((a_t 12), .inl (cI, 120, .inl f_t_at)), ((a_t 13), .inl (cI, 120, .inl f_t_ports)), ((a_t 14), .inl (cI, 120, .inl f_t_bends))] → va_S A s.heap H locs → lv_has ls 6 [(0, .ref q_t), (1, .int x1), (2, .int x2), (5, .int x5_L54)] → wl_Mo_pipe_54 v_t_pipes (wk_Mo_pipe_85_54 f_t_kinds f_t_taken f_t_ends f_t_at f_t_ports f_t_bends v_t_pipes x1 x2 f_t_sizes x3 P) k_54 x5_L54 f_t_contents_L54 → W p l e (headSpec w_Mo_pipe rm_Mo_pipe).room s m args below meth c H locs 0 0 (MQ below (Q_Mo_pipe dC dI cI cL cB q_t a_t v_t_things v_t_pipes v_t_wide v_t_size v_t_place v_t_number v_t_thrown v_t_wish v_t_found f_t_kinds f_t_taken f_t_ends f_t_sizes f_t_contents f_t_at f_t_ports f_t_bends x1 x2 x3 P A) args s 0 0 A) (F0 m 54 ls []) := by
        intro k_54
        induction k_54 with
        | zero => intro x5_L54 f_t_contents_L54 H locs ls hP hD hS hl hw; unfold wl_Mo_pipe_54 at hw; exact hw.elim
        | succ k_54 ih_54 =>
          intro x5_L54 f_t_contents_L54 H locs ls hP hD hS hl hw
          unfold wl_Mo_pipe_54 at hw
          refine lv_iload hx hb d_Mo_pipe_54 (lv_at hl 3 rfl) ?_
          refine lv_sipush (v := 200) hx hb d_Mo_pipe_56 (by decide) ?_
          refine lv_icmp_ge (tgt := 85) hx hb d_Mo_pipe_59 (by decide) (fun c59 => ?_) (fun c59 => ?_)
          · replace hw := hw.1 c59
            exact EX_85 x5_L54 f_t_contents_L54 H _ _ hP hD hS (lv_sub hl [0, 1, 2, 3] rfl) hw
          · replace hw := hw.2 c59
            refine lv_aload_n hx hb d_Mo_pipe_62 rfl (lv_at hl 0 rfl) ?_
            refine va_get (D := (dC, dI)) (ci := 7) (v := .ref (a_t 11)) (C := R_Mo) (T := F_Mo) (N := 29) hx hb hts i_Mo hown hK hP 0 rfl rfl 11 (by decide) (hts (Cond.fieldLink R_Mo 38 "PlantGraphModel" "contents" "[B") kw30_fd4a9fd) (fun _ h9 => h9) rfl d_Mo_pipe_63 ?_
            refine lv_sipush (v := 200) hx hb d_Mo_pipe_66 (by decide) ?_
            refine lv_aload_n hx hb d_Mo_pipe_69 rfl (lv_at hl 0 rfl) ?_
            refine va_get (D := (dC, dI)) (ci := 7) (v := .int v_t_pipes) (C := R_Mo) (T := F_Mo) (N := 29) hx hb hts i_Mo hown hK hP 0 rfl rfl 9 (by decide) (hts (Cond.fieldLink R_Mo 98 "PlantGraphModel" "pipes" "I") kw30_189c50d) (fun _ h9 => h9) rfl d_Mo_pipe_70 ?_
            refine lv_imul hx hb d_Mo_pipe_73 ?_
            refine lv_iload hx hb d_Mo_pipe_74 (lv_at hl 3 rfl) ?_
            refine lv_iadd hx hb d_Mo_pipe_76 ?_
            refine lv_iconst (v := 0) hx hb d_Mo_pipe_77 (by decide) ?_
            refine va_bast hx hb hK hP hD hS 5 2 rfl rfl hw.1 d_Mo_pipe_78 (fun H locs hP hD hS => ?_)
            replace hw := hw.2
            have hP : va_P (dC, dI) classes [(q_t, .inr (7, o_Mo a_t v_t_things v_t_pipes v_t_wide v_t_size v_t_place v_t_number 0 v_t_wish v_t_found)), ((a_t 1), .inl (cI, 40, .inl f_t_kinds)), ((a_t 2), .inl (cI, 40, .inl f_t_taken)), ((a_t 8), .inl (cI, 160, .inl f_t_ends)), ((a_t 10), .inl (cI, 60, .inl (upd f_t_sizes v_t_pipes.toNatClampNeg ((x3 : Int64).toInt32)))), ((a_t 11), .inl (cB, 12000, .inl (upd f_t_contents_L54 ((200 * v_t_pipes) + x5_L54).toNatClampNeg (vp_nar .byte 0)))), ((a_t 12), .inl (cI, 120, .inl f_t_at)), ((a_t 13), .inl (cI, 120, .inl f_t_ports)), ((a_t 14), .inl (cI, 120, .inl f_t_bends))] H := hP
            have hD : va_D A [(q_t, .inr (7, o_Mo a_t v_t_things v_t_pipes v_t_wide v_t_size v_t_place v_t_number 0 v_t_wish v_t_found)), ((a_t 1), .inl (cI, 40, .inl f_t_kinds)), ((a_t 2), .inl (cI, 40, .inl f_t_taken)), ((a_t 8), .inl (cI, 160, .inl f_t_ends)), ((a_t 10), .inl (cI, 60, .inl (upd f_t_sizes v_t_pipes.toNatClampNeg ((x3 : Int64).toInt32)))), ((a_t 11), .inl (cB, 12000, .inl (upd f_t_contents_L54 ((200 * v_t_pipes) + x5_L54).toNatClampNeg (vp_nar .byte 0)))), ((a_t 12), .inl (cI, 120, .inl f_t_at)), ((a_t 13), .inl (cI, 120, .inl f_t_ports)), ((a_t 14), .inl (cI, 120, .inl f_t_bends))] := hD
            refine lv_iinc (v := (x5_L54 + 1)) (lv' := [(5, .int (x5_L54 + 1)), (0, .ref q_t), (1, .int x1), (2, .int x2)]) hx hb d_Mo_pipe_79 hl (k := 3) rfl rfl (by decide) rfl (fun ls hl => ?_)
            refine lv_goto (tgt := 54) hx hb d_Mo_pipe_82 (by decide) ?_
            exact ih_54 (x5_L54 + 1) (upd f_t_contents_L54 ((200 * v_t_pipes) + x5_L54).toNatClampNeg (vp_nar .byte 0)) H _ _ hP hD hS (lv_sub hl [1, 2, 3, 0] rfl) hw
      exact LP_54 n_54 0 f_t_contents H _ _ hP hD hS (lv_sub hl [1, 2, 3, 0] rfl) hw
    · replace hw := hw.2 c34
      refine lv_bipush (v := (-2)) hx hb d_Mo_pipe_37 (by decide) ?_
      exact W.iret (v := (-2)) hx hb hr (fun t ht hW => ⟨⟨(-2), (v_t_pipes, 0, f_t_taken, f_t_ends, f_t_sizes, f_t_contents, f_t_at, f_t_ports, f_t_bends), rfl, hw, by rw [ht]; exact hP, va_K.moved hW.alike hK, hD⟩, hS.F ht⟩) hS.2.2 d_Mo_pipe_39
  · replace hw := hw.2 c23
    refine lv_iconst (v := (-1)) hx hb d_Mo_pipe_26 (by decide) ?_
    exact W.iret (v := (-1)) hx hb hr (fun t ht hW => ⟨⟨(-1), (v_t_pipes, 0, f_t_taken, f_t_ends, f_t_sizes, f_t_contents, f_t_at, f_t_ports, f_t_bends), rfl, hw, by rw [ht]; exact hP, va_K.moved hW.alike hK, hD⟩, hS.F ht⟩) hS.2.2 d_Mo_pipe_27
def wp_Mo_isPipe (v_t_pipes : Int32) (x1 : Int32) (P : Int32 → Prop) : Prop := ((x1 < 0 → P 0) ∧ (¬ x1 < 0 → ((v_t_pipes ≤ x1 → P 0) ∧ (¬ v_t_pipes ≤ x1 → P 1))))
def w_Mo_isPipe : List Cond := .code y_Mo_isPipe b_Mo_isPipe 2 (some .boolean) :: tb
abbrev rm_Mo_isPipe : Room := { frames := 0, cells := 0, slots := 0, locals := 0 }
abbrev Q_Mo_isPipe (dC : Nat → ClassId) (dI : Nat → Nat → Nat) (cI cL cB : ClassId) (q_t : Nat) (a_t : Nat → Nat) (v_t_things : Int32) (v_t_pipes : Int32) (v_t_wide : Int32) (v_t_size : Int32) (v_t_place : Int32) (v_t_number : Int64) (v_t_thrown : Int32) (v_t_wish : Int32) (v_t_found : Int32) (x1 : Int32) (P : Int32 → Prop) (A : Nat → Prop) : Array Value → State → Outcome → State → Prop := va_Qi (fun (r : Int32) (u : Unit) => P r) (fun u t => va_P (dC, dI) classes [(q_t, .inr (7, o_Mo a_t v_t_things v_t_pipes v_t_wide v_t_size v_t_place v_t_number v_t_thrown v_t_wish v_t_found))] t.heap ∧ va_K (dC, dI) classes [(cI, .int), (cL, .long), (cB, .byte)] t ∧ va_D A [(q_t, .inr (7, o_Mo a_t v_t_things v_t_pipes v_t_wide v_t_size v_t_place v_t_number v_t_thrown v_t_wish v_t_found))]) A
set_option maxHeartbeats 4000000 in
set_option maxRecDepth 100000 in
theorem c_Mo_isPipe (l : Launch) (dC : Nat → ClassId) (dI : Nat → Nat → Nat) (cI cL cB : ClassId) (q_t : Nat) (a_t : Nat → Nat) (sz : Nat) (v_t_things : Int32) (v_t_pipes : Int32) (v_t_wide : Int32) (v_t_size : Int32) (v_t_place : Int32) (v_t_number : Int64) (v_t_thrown : Int32) (v_t_wish : Int32) (v_t_found : Int32) (x1 : Int32) (P : Int32 → Prop) (hw : wp_Mo_isPipe v_t_pipes x1 P) : Met l y_Mo_isPipe w_Mo_isPipe rm_Mo_isPipe (va_Pc [.ref q_t, .int x1] (fun U => U.heap.size = sz ∧ va_P (dC, dI) classes [(q_t, .inr (7, o_Mo a_t v_t_things v_t_pipes v_t_wide v_t_size v_t_place v_t_number v_t_thrown v_t_wish v_t_found))] U.heap ∧ va_K (dC, dI) classes [(cI, .int), (cL, .long), (cB, .byte)] U ∧ va_D (fun _ => True) [(q_t, .inr (7, o_Mo a_t v_t_things v_t_pipes v_t_wide v_t_size v_t_place v_t_number v_t_thrown v_t_wish v_t_found))])) (Q_Mo_isPipe dC dI cI cL cB q_t a_t v_t_things v_t_pipes v_t_wide v_t_size v_t_place v_t_number v_t_thrown v_t_wish v_t_found x1 P (va_A [(q_t, .inr (7, o_Mo a_t v_t_things v_t_pipes v_t_wide v_t_size v_t_place v_t_number v_t_thrown v_t_wish v_t_found))] sz)) 0 0 (va_A [(q_t, .inr (7, o_Mo a_t v_t_things v_t_pipes v_t_wide v_t_size v_t_place v_t_number v_t_thrown v_t_wish v_t_found))] sz) := by
  refine Met.ofW (cc := b_Mo_isPipe) (maxL := 2) (ret := (some .boolean)) (by decide) rfl ?_
  intro p e s m args below meth c s₁ B hml hv
  obtain ⟨ha, hsz, hP, hK, hD0⟩ := hv
  have hx := B.exec
  have hb := B.bytes
  have hr := B.returns
  have hts0 := atoms_spec (ws := w_Mo_isPipe) B.pre
  have hts : ∀ w ∈ tb, w.before args s = true := fun w h => hts0 w (List.mem_cons_of_mem _ h)
  have hown : s.vm.findClass R_Mo = some m.cls := findClass_of_methodNamed B.named
  have hlocks := B.notSynchronized
  subst hsz
  have hD := hD0.self (sz := s.heap.size)
  generalize hAe : va_A [(q_t, .inr (7, o_Mo a_t v_t_things v_t_pipes v_t_wide v_t_size v_t_place v_t_number v_t_thrown v_t_wish v_t_found))] s.heap.size = A at hD ⊢
  have hA : ∀ q : Nat, s.heap.size ≤ q → A q := fun q h => by rw [← hAe]; exact Or.inr h
  have hS : va_S A s.heap s.heap [] := va_S.rf
  have hP : va_P (dC, dI) classes [(q_t, .inr (7, o_Mo a_t v_t_things v_t_pipes v_t_wide v_t_size v_t_place v_t_number v_t_thrown v_t_wish v_t_found))] s.heap := hP
  have hl := lv_entry [.ref q_t, .int x1] (n := 2) (Nat.le_of_ble_eq_true rfl)
  have he9 : entryFrame m args 2 = F0 m 0 ((lg_sl [.ref q_t, .int x1] ++ List.replicate (2 - (lg_sl [.ref q_t, .int x1]).length) Slot.unset).toArray) [] := by rw [ha]; exact lg_entry_eq _ _ _
  rw [he9]
  clear he9
  generalize (lg_sl [.ref q_t, .int x1] ++ List.replicate (2 - (lg_sl [.ref q_t, .int x1]).length) Slot.unset).toArray = ls at hl ⊢
  have hl : lv_has ls 2 [(0, .ref q_t), (1, .int x1)] := hl
  unfold wp_Mo_isPipe at hw
  refine lv_iload_n hx hb d_Mo_isPipe_0 rfl (lv_at hl 1 rfl) ?_
  refine lv_if_lt (tgt := 16) hx hb d_Mo_isPipe_1 (by decide) (fun c1 => ?_) (fun c1 => ?_)
  · replace hw := hw.1 c1
    refine lv_iconst (v := 0) hx hb d_Mo_isPipe_16 (by decide) ?_
    exact W.zret (v := 0) hx hb hr (by decide) (fun t ht hW => ⟨⟨0, (), rfl, hw, by rw [ht]; exact hP, va_K.moved hW.alike hK, hD⟩, hS.F ht⟩) hS.2.2 d_Mo_isPipe_17
  · replace hw := hw.2 c1
    refine lv_iload_n hx hb d_Mo_isPipe_4 rfl (lv_at hl 1 rfl) ?_
    refine lv_aload_n hx hb d_Mo_isPipe_5 rfl (lv_at hl 0 rfl) ?_
    refine va_get (D := (dC, dI)) (ci := 7) (v := .int v_t_pipes) (C := R_Mo) (T := F_Mo) (N := 29) hx hb hts i_Mo hown hK hP 0 rfl rfl 9 (by decide) (hts (Cond.fieldLink R_Mo 98 "PlantGraphModel" "pipes" "I") kw30_189c50d) (fun _ h9 => h9) rfl d_Mo_isPipe_6 ?_
    refine lv_icmp_ge (tgt := 16) hx hb d_Mo_isPipe_9 (by decide) (fun c9 => ?_) (fun c9 => ?_)
    · replace hw := hw.1 c9
      refine lv_iconst (v := 0) hx hb d_Mo_isPipe_16 (by decide) ?_
      exact W.zret (v := 0) hx hb hr (by decide) (fun t ht hW => ⟨⟨0, (), rfl, hw, by rw [ht]; exact hP, va_K.moved hW.alike hK, hD⟩, hS.F ht⟩) hS.2.2 d_Mo_isPipe_17
    · replace hw := hw.2 c9
      refine lv_iconst (v := 1) hx hb d_Mo_isPipe_12 (by decide) ?_
      refine lv_goto (tgt := 17) hx hb d_Mo_isPipe_13 (by decide) ?_
      exact W.zret (v := 1) hx hb hr (by decide) (fun t ht hW => ⟨⟨1, (), rfl, hw, by rw [ht]; exact hP, va_K.moved hW.alike hK, hD⟩, hS.F ht⟩) hS.2.2 d_Mo_isPipe_17
def wj_Mo_free_30 (x1 : Int32) (f_t_at : (Nat → Int32)) (f_t_bends : (Nat → Int32)) (P : Int32 → Prop) : Prop := (vp_in ((2 * x1) + 1) 120 ∧ ((¬ (f_t_at ((2 * x1) + 1).toNatClampNeg) = ((-1) : Int32) → P (-1)) ∧ ((f_t_at ((2 * x1) + 1).toNatClampNeg) = ((-1) : Int32) → (vp_in ((2 * x1) + 1) 120 ∧ ((¬ (f_t_bends ((2 * x1) + 1).toNatClampNeg) = ((-1) : Int32) → P (-1)) ∧ ((f_t_bends ((2 * x1) + 1).toNatClampNeg) = ((-1) : Int32) → P ((2 * x1) + 1)))))))
def wp_Mo_free (f_t_at : (Nat → Int32)) (f_t_bends : (Nat → Int32)) (x1 : Int32) (P : Int32 → Prop) : Prop := (vp_in (2 * x1) 120 ∧ ((¬ (f_t_at (2 * x1).toNatClampNeg) = ((-1) : Int32) → wj_Mo_free_30 x1 f_t_at f_t_bends P ) ∧ ((f_t_at (2 * x1).toNatClampNeg) = ((-1) : Int32) → (vp_in (2 * x1) 120 ∧ ((¬ (f_t_bends (2 * x1).toNatClampNeg) = ((-1) : Int32) → wj_Mo_free_30 x1 f_t_at f_t_bends P ) ∧ ((f_t_bends (2 * x1).toNatClampNeg) = ((-1) : Int32) → P (2 * x1)))))))
def w_Mo_free : List Cond := .code y_Mo_free b_Mo_free 2 (some .int) :: tb
abbrev rm_Mo_free : Room := { frames := 0, cells := 0, slots := 0, locals := 0 }
abbrev Q_Mo_free (dC : Nat → ClassId) (dI : Nat → Nat → Nat) (cI cL cB : ClassId) (q_t : Nat) (a_t : Nat → Nat) (v_t_things : Int32) (v_t_pipes : Int32) (v_t_wide : Int32) (v_t_size : Int32) (v_t_place : Int32) (v_t_number : Int64) (v_t_thrown : Int32) (v_t_wish : Int32) (v_t_found : Int32) (f_t_at : (Nat → Int32)) (f_t_bends : (Nat → Int32)) (x1 : Int32) (P : Int32 → Prop) (A : Nat → Prop) : Array Value → State → Outcome → State → Prop := va_Qi (fun (r : Int32) (u : Unit) => P r) (fun u t => va_P (dC, dI) classes [(q_t, .inr (7, o_Mo a_t v_t_things v_t_pipes v_t_wide v_t_size v_t_place v_t_number v_t_thrown v_t_wish v_t_found)), ((a_t 12), .inl (cI, 120, .inl f_t_at)), ((a_t 14), .inl (cI, 120, .inl f_t_bends))] t.heap ∧ va_K (dC, dI) classes [(cI, .int), (cL, .long), (cB, .byte)] t ∧ va_D A [(q_t, .inr (7, o_Mo a_t v_t_things v_t_pipes v_t_wide v_t_size v_t_place v_t_number v_t_thrown v_t_wish v_t_found)), ((a_t 12), .inl (cI, 120, .inl f_t_at)), ((a_t 14), .inl (cI, 120, .inl f_t_bends))]) A
set_option maxHeartbeats 4000000 in
set_option maxRecDepth 100000 in
theorem c_Mo_free (l : Launch) (dC : Nat → ClassId) (dI : Nat → Nat → Nat) (cI cL cB : ClassId) (q_t : Nat) (a_t : Nat → Nat) (sz : Nat) (v_t_things : Int32) (v_t_pipes : Int32) (v_t_wide : Int32) (v_t_size : Int32) (v_t_place : Int32) (v_t_number : Int64) (v_t_thrown : Int32) (v_t_wish : Int32) (v_t_found : Int32) (f_t_at : (Nat → Int32)) (f_t_bends : (Nat → Int32)) (x1 : Int32) (P : Int32 → Prop) (hw : wp_Mo_free f_t_at f_t_bends x1 P) : Met l y_Mo_free w_Mo_free rm_Mo_free (va_Pc [.ref q_t, .int x1] (fun U => U.heap.size = sz ∧ va_P (dC, dI) classes [(q_t, .inr (7, o_Mo a_t v_t_things v_t_pipes v_t_wide v_t_size v_t_place v_t_number v_t_thrown v_t_wish v_t_found)), ((a_t 12), .inl (cI, 120, .inl f_t_at)), ((a_t 14), .inl (cI, 120, .inl f_t_bends))] U.heap ∧ va_K (dC, dI) classes [(cI, .int), (cL, .long), (cB, .byte)] U ∧ va_D (fun _ => True) [(q_t, .inr (7, o_Mo a_t v_t_things v_t_pipes v_t_wide v_t_size v_t_place v_t_number v_t_thrown v_t_wish v_t_found)), ((a_t 12), .inl (cI, 120, .inl f_t_at)), ((a_t 14), .inl (cI, 120, .inl f_t_bends))])) (Q_Mo_free dC dI cI cL cB q_t a_t v_t_things v_t_pipes v_t_wide v_t_size v_t_place v_t_number v_t_thrown v_t_wish v_t_found f_t_at f_t_bends x1 P (va_A [(q_t, .inr (7, o_Mo a_t v_t_things v_t_pipes v_t_wide v_t_size v_t_place v_t_number v_t_thrown v_t_wish v_t_found)), ((a_t 12), .inl (cI, 120, .inl f_t_at)), ((a_t 14), .inl (cI, 120, .inl f_t_bends))] sz)) 0 0 (va_A [(q_t, .inr (7, o_Mo a_t v_t_things v_t_pipes v_t_wide v_t_size v_t_place v_t_number v_t_thrown v_t_wish v_t_found)), ((a_t 12), .inl (cI, 120, .inl f_t_at)), ((a_t 14), .inl (cI, 120, .inl f_t_bends))] sz) := by
  refine Met.ofW (cc := b_Mo_free) (maxL := 2) (ret := (some .int)) (by decide) rfl ?_
  intro p e s m args below meth c s₁ B hml hv
  obtain ⟨ha, hsz, hP, hK, hD0⟩ := hv
  have hx := B.exec
  have hb := B.bytes
  have hr := B.returns
  have hts0 := atoms_spec (ws := w_Mo_free) B.pre
  have hts : ∀ w ∈ tb, w.before args s = true := fun w h => hts0 w (List.mem_cons_of_mem _ h)
  have hown : s.vm.findClass R_Mo = some m.cls := findClass_of_methodNamed B.named
  have hlocks := B.notSynchronized
  subst hsz
  have hD := hD0.self (sz := s.heap.size)
  generalize hAe : va_A [(q_t, .inr (7, o_Mo a_t v_t_things v_t_pipes v_t_wide v_t_size v_t_place v_t_number v_t_thrown v_t_wish v_t_found)), ((a_t 12), .inl (cI, 120, .inl f_t_at)), ((a_t 14), .inl (cI, 120, .inl f_t_bends))] s.heap.size = A at hD ⊢
  have hA : ∀ q : Nat, s.heap.size ≤ q → A q := fun q h => by rw [← hAe]; exact Or.inr h
  have hS : va_S A s.heap s.heap [] := va_S.rf
  have hP : va_P (dC, dI) classes [(q_t, .inr (7, o_Mo a_t v_t_things v_t_pipes v_t_wide v_t_size v_t_place v_t_number v_t_thrown v_t_wish v_t_found)), ((a_t 12), .inl (cI, 120, .inl f_t_at)), ((a_t 14), .inl (cI, 120, .inl f_t_bends))] s.heap := hP
  have hl := lv_entry [.ref q_t, .int x1] (n := 2) (Nat.le_of_ble_eq_true rfl)
  have he9 : entryFrame m args 2 = F0 m 0 ((lg_sl [.ref q_t, .int x1] ++ List.replicate (2 - (lg_sl [.ref q_t, .int x1]).length) Slot.unset).toArray) [] := by rw [ha]; exact lg_entry_eq _ _ _
  rw [he9]
  clear he9
  generalize (lg_sl [.ref q_t, .int x1] ++ List.replicate (2 - (lg_sl [.ref q_t, .int x1]).length) Slot.unset).toArray = ls at hl ⊢
  have hl : lv_has ls 2 [(0, .ref q_t), (1, .int x1)] := hl
  unfold wp_Mo_free at hw
  have J_30 : ∀ (H : Heap) (locs : List Loc) (ls : Array Slot), va_P (dC, dI) classes [(q_t, .inr (7, o_Mo a_t v_t_things v_t_pipes v_t_wide v_t_size v_t_place v_t_number v_t_thrown v_t_wish v_t_found)), ((a_t 12), .inl (cI, 120, .inl f_t_at)), ((a_t 14), .inl (cI, 120, .inl f_t_bends))] H → va_D A [(q_t, .inr (7, o_Mo a_t v_t_things v_t_pipes v_t_wide v_t_size v_t_place v_t_number v_t_thrown v_t_wish v_t_found)), ((a_t 12), .inl (cI, 120, .inl f_t_at)), ((a_t 14), .inl (cI, 120, .inl f_t_bends))] → va_S A s.heap H locs → lv_has ls 2 [(0, .ref q_t), (1, .int x1)] → wj_Mo_free_30 x1 f_t_at f_t_bends P → W p l e (headSpec w_Mo_free rm_Mo_free).room s m args below meth c H locs 0 0 (MQ below (Q_Mo_free dC dI cI cL cB q_t a_t v_t_things v_t_pipes v_t_wide v_t_size v_t_place v_t_number v_t_thrown v_t_wish v_t_found f_t_at f_t_bends x1 P A) args s 0 0 A) (F0 m 30 ls []) := by
    intro  H locs ls hP hD hS hl hw
    unfold wj_Mo_free_30 at hw
    refine lv_aload_n hx hb d_Mo_free_30 rfl (lv_at hl 0 rfl) ?_
    refine va_get (D := (dC, dI)) (ci := 7) (v := .ref (a_t 12)) (C := R_Mo) (T := F_Mo) (N := 29) hx hb hts i_Mo hown hK hP 0 rfl rfl 12 (by decide) (hts (Cond.fieldLink R_Mo 42 "PlantGraphModel" "at" "[I") kw30_01baf06) (fun _ h9 => h9) rfl d_Mo_free_31 ?_
    refine lv_iconst (v := 2) hx hb d_Mo_free_34 (by decide) ?_
    refine lv_iload_n hx hb d_Mo_free_35 rfl (lv_at hl 1 rfl) ?_
    refine lv_imul hx hb d_Mo_free_36 ?_
    refine lv_iconst (v := 1) hx hb d_Mo_free_37 (by decide) ?_
    refine lv_iadd hx hb d_Mo_free_38 ?_
    refine va_iald hx hb hK hP 1 0 rfl rfl hw.1 d_Mo_free_39 ?_
    replace hw := hw.2
    refine lv_iconst (v := (-1)) hx hb d_Mo_free_40 (by decide) ?_
    refine lv_icmp_ne (tgt := 66) hx hb d_Mo_free_41 (by decide) (fun c41 => ?_) (fun c41 => ?_)
    · replace hw := hw.1 c41
      refine lv_iconst (v := (-1)) hx hb d_Mo_free_66 (by decide) ?_
      exact W.iret (v := (-1)) hx hb hr (fun t ht hW => ⟨⟨(-1), (), rfl, hw, by rw [ht]; exact hP, va_K.moved hW.alike hK, hD⟩, hS.F ht⟩) hS.2.2 d_Mo_free_67
    · replace hw := hw.2 c41
      refine lv_aload_n hx hb d_Mo_free_44 rfl (lv_at hl 0 rfl) ?_
      refine va_get (D := (dC, dI)) (ci := 7) (v := .ref (a_t 14)) (C := R_Mo) (T := F_Mo) (N := 29) hx hb hts i_Mo hown hK hP 0 rfl rfl 14 (by decide) (hts (Cond.fieldLink R_Mo 48 "PlantGraphModel" "bends" "[I") kw30_563086a) (fun _ h9 => h9) rfl d_Mo_free_45 ?_
      refine lv_iconst (v := 2) hx hb d_Mo_free_48 (by decide) ?_
      refine lv_iload_n hx hb d_Mo_free_49 rfl (lv_at hl 1 rfl) ?_
      refine lv_imul hx hb d_Mo_free_50 ?_
      refine lv_iconst (v := 1) hx hb d_Mo_free_51 (by decide) ?_
      refine lv_iadd hx hb d_Mo_free_52 ?_
      refine va_iald hx hb hK hP 2 0 rfl rfl hw.1 d_Mo_free_53 ?_
      replace hw := hw.2
      refine lv_iconst (v := (-1)) hx hb d_Mo_free_54 (by decide) ?_
      refine lv_icmp_ne (tgt := 66) hx hb d_Mo_free_55 (by decide) (fun c55 => ?_) (fun c55 => ?_)
      · replace hw := hw.1 c55
        refine lv_iconst (v := (-1)) hx hb d_Mo_free_66 (by decide) ?_
        exact W.iret (v := (-1)) hx hb hr (fun t ht hW => ⟨⟨(-1), (), rfl, hw, by rw [ht]; exact hP, va_K.moved hW.alike hK, hD⟩, hS.F ht⟩) hS.2.2 d_Mo_free_67
      · replace hw := hw.2 c55
        refine lv_iconst (v := 2) hx hb d_Mo_free_58 (by decide) ?_
        refine lv_iload_n hx hb d_Mo_free_59 rfl (lv_at hl 1 rfl) ?_
        refine lv_imul hx hb d_Mo_free_60 ?_
        refine lv_iconst (v := 1) hx hb d_Mo_free_61 (by decide) ?_
        refine lv_iadd hx hb d_Mo_free_62 ?_
        refine lv_goto (tgt := 67) hx hb d_Mo_free_63 (by decide) ?_
        exact W.iret (v := ((2 * x1) + 1)) hx hb hr (fun t ht hW => ⟨⟨((2 * x1) + 1), (), rfl, hw, by rw [ht]; exact hP, va_K.moved hW.alike hK, hD⟩, hS.F ht⟩) hS.2.2 d_Mo_free_67
  refine lv_aload_n hx hb d_Mo_free_0 rfl (lv_at hl 0 rfl) ?_
  refine va_get (D := (dC, dI)) (ci := 7) (v := .ref (a_t 12)) (C := R_Mo) (T := F_Mo) (N := 29) hx hb hts i_Mo hown hK hP 0 rfl rfl 12 (by decide) (hts (Cond.fieldLink R_Mo 42 "PlantGraphModel" "at" "[I") kw30_01baf06) (fun _ h9 => h9) rfl d_Mo_free_1 ?_
  refine lv_iconst (v := 2) hx hb d_Mo_free_4 (by decide) ?_
  refine lv_iload_n hx hb d_Mo_free_5 rfl (lv_at hl 1 rfl) ?_
  refine lv_imul hx hb d_Mo_free_6 ?_
  refine va_iald hx hb hK hP 1 0 rfl rfl hw.1 d_Mo_free_7 ?_
  replace hw := hw.2
  refine lv_iconst (v := (-1)) hx hb d_Mo_free_8 (by decide) ?_
  refine lv_icmp_ne (tgt := 30) hx hb d_Mo_free_9 (by decide) (fun c9 => ?_) (fun c9 => ?_)
  · replace hw := hw.1 c9
    exact J_30  s.heap _ _ hP hD hS (lv_sub hl [0, 1] rfl) hw
  · replace hw := hw.2 c9
    refine lv_aload_n hx hb d_Mo_free_12 rfl (lv_at hl 0 rfl) ?_
    refine va_get (D := (dC, dI)) (ci := 7) (v := .ref (a_t 14)) (C := R_Mo) (T := F_Mo) (N := 29) hx hb hts i_Mo hown hK hP 0 rfl rfl 14 (by decide) (hts (Cond.fieldLink R_Mo 48 "PlantGraphModel" "bends" "[I") kw30_563086a) (fun _ h9 => h9) rfl d_Mo_free_13 ?_
    refine lv_iconst (v := 2) hx hb d_Mo_free_16 (by decide) ?_
    refine lv_iload_n hx hb d_Mo_free_17 rfl (lv_at hl 1 rfl) ?_
    refine lv_imul hx hb d_Mo_free_18 ?_
    refine va_iald hx hb hK hP 2 0 rfl rfl hw.1 d_Mo_free_19 ?_
    replace hw := hw.2
    refine lv_iconst (v := (-1)) hx hb d_Mo_free_20 (by decide) ?_
    refine lv_icmp_ne (tgt := 30) hx hb d_Mo_free_21 (by decide) (fun c21 => ?_) (fun c21 => ?_)
    · replace hw := hw.1 c21
      exact J_30  s.heap _ _ hP hD hS (lv_sub hl [0, 1] rfl) hw
    · replace hw := hw.2 c21
      refine lv_iconst (v := 2) hx hb d_Mo_free_24 (by decide) ?_
      refine lv_iload_n hx hb d_Mo_free_25 rfl (lv_at hl 1 rfl) ?_
      refine lv_imul hx hb d_Mo_free_26 ?_
      refine lv_goto (tgt := 67) hx hb d_Mo_free_27 (by decide) ?_
      exact W.iret (v := (2 * x1)) hx hb hr (fun t ht hW => ⟨⟨(2 * x1), (), rfl, hw, by rw [ht]; exact hP, va_K.moved hW.alike hK, hD⟩, hS.F ht⟩) hS.2.2 d_Mo_free_67
def wk_Mo_bend_63_32 (f_t_bends : (Nat → Int32)) (P : Int32 → Int32 → (Nat → Int32) → Prop) (x3_L32 : Int32) : Prop := (vp_in x3_L32 120 ∧ (vp_in (f_t_bends x3_L32.toNatClampNeg) 120 ∧ (vp_in x3_L32 120 ∧ P 0 0 (upd (upd f_t_bends (f_t_bends x3_L32.toNatClampNeg).toNatClampNeg (-1)) x3_L32.toNatClampNeg (-1)))))
def wk_Mo_bend_90_32 (f_t_at : (Nat → Int32)) (f_t_bends : (Nat → Int32)) (x1 : Int32) (x2 : Int32) (P : Int32 → Int32 → (Nat → Int32) → Prop) (x3_L32 : Int32) : Prop := wp_Mo_free f_t_at f_t_bends x1 (fun r92 => wp_Mo_free f_t_at f_t_bends x2 (fun r98 => ((r92 = ((-1) : Int32) → P (-1) 0 f_t_bends) ∧ (¬ r92 = ((-1) : Int32) → ((¬ r98 = ((-1) : Int32) → (vp_in r92 120 ∧ (vp_in r98 120 ∧ P 1 0 (upd (upd f_t_bends r92.toNatClampNeg r98) r98.toNatClampNeg r92)))) ∧ (r98 = ((-1) : Int32) → P (-1) 0 f_t_bends))))))
def wl_Mo_bend_32 (x1 : Int32) (f_t_bends : (Nat → Int32)) (x2 : Int32) (K_63 : Int32 → Prop) (K_90 : Int32 → Prop) : Nat → Int32 → Prop
  | 0, _ => False
  | k_32 + 1, x3_L32 => ((((2 * x1) + 2) ≤ x3_L32 → K_90 x3_L32) ∧ (¬ ((2 * x1) + 2) ≤ x3_L32 → (vp_in x3_L32 120 ∧ (((f_t_bends x3_L32.toNatClampNeg) = ((-1) : Int32) → wl_Mo_bend_32 x1 f_t_bends x2 K_63 K_90 k_32 (x3_L32 + 1)) ∧ (¬ (f_t_bends x3_L32.toNatClampNeg) = ((-1) : Int32) → (vp_in x3_L32 120 ∧ ((¬ ((f_t_bends x3_L32.toNatClampNeg) / 2) = x2 → wl_Mo_bend_32 x1 f_t_bends x2 K_63 K_90 k_32 (x3_L32 + 1)) ∧ (((f_t_bends x3_L32.toNatClampNeg) / 2) = x2 → K_63 x3_L32))))))))
def wp_Mo_bend (v_t_pipes : Int32) (v_t_thrown : Int32) (f_t_at : (Nat → Int32)) (f_t_bends : (Nat → Int32)) (x1 : Int32) (x2 : Int32) (P : Int32 → Int32 → (Nat → Int32) → Prop) : Prop := wp_Mo_isPipe v_t_pipes x1 (fun r7 => ((r7 = 0 → P (-1) 0 f_t_bends) ∧ (¬ r7 = 0 → wp_Mo_isPipe v_t_pipes x2 (fun r15 => ((r15 = 0 → P (-1) 0 f_t_bends) ∧ (¬ r15 = 0 → ((¬ x1 = x2 → (∃ n_32 : Nat, wl_Mo_bend_32 x1 f_t_bends x2 (wk_Mo_bend_63_32 f_t_bends P) (wk_Mo_bend_90_32 f_t_at f_t_bends x1 x2 P) n_32 (2 * x1))) ∧ (x1 = x2 → P (-1) 0 f_t_bends))))))))
def w_Mo_bend : List Cond := .code y_Mo_bend b_Mo_bend 5 (some .int) :: tb
abbrev rm_Mo_bend : Room := { frames := 1, cells := 0, slots := 0, locals := 21 }
abbrev Q_Mo_bend (dC : Nat → ClassId) (dI : Nat → Nat → Nat) (cI cL cB : ClassId) (q_t : Nat) (a_t : Nat → Nat) (v_t_things : Int32) (v_t_pipes : Int32) (v_t_wide : Int32) (v_t_size : Int32) (v_t_place : Int32) (v_t_number : Int64) (v_t_thrown : Int32) (v_t_wish : Int32) (v_t_found : Int32) (f_t_at : (Nat → Int32)) (f_t_bends : (Nat → Int32)) (x1 : Int32) (x2 : Int32) (P : Int32 → Int32 → (Nat → Int32) → Prop) (A : Nat → Prop) : Array Value → State → Outcome → State → Prop := va_Qi (fun (r : Int32) (u : Int32 × (Nat → Int32)) => P r u.1 u.2) (fun u t => va_P (dC, dI) classes [(q_t, .inr (7, o_Mo a_t v_t_things v_t_pipes v_t_wide v_t_size v_t_place v_t_number u.1 v_t_wish v_t_found)), ((a_t 12), .inl (cI, 120, .inl f_t_at)), ((a_t 14), .inl (cI, 120, .inl u.2))] t.heap ∧ va_K (dC, dI) classes [(cI, .int), (cL, .long), (cB, .byte)] t ∧ va_D A [(q_t, .inr (7, o_Mo a_t v_t_things v_t_pipes v_t_wide v_t_size v_t_place v_t_number u.1 v_t_wish v_t_found)), ((a_t 12), .inl (cI, 120, .inl f_t_at)), ((a_t 14), .inl (cI, 120, .inl u.2))]) A
set_option maxHeartbeats 4000000 in
set_option maxRecDepth 100000 in
theorem c_Mo_bend (l : Launch) (dC : Nat → ClassId) (dI : Nat → Nat → Nat) (cI cL cB : ClassId) (q_t : Nat) (a_t : Nat → Nat) (sz : Nat) (v_t_things : Int32) (v_t_pipes : Int32) (v_t_wide : Int32) (v_t_size : Int32) (v_t_place : Int32) (v_t_number : Int64) (v_t_thrown : Int32) (v_t_wish : Int32) (v_t_found : Int32) (f_t_at : (Nat → Int32)) (f_t_bends : (Nat → Int32)) (x1 : Int32) (x2 : Int32) (P : Int32 → Int32 → (Nat → Int32) → Prop) (hw : wp_Mo_bend v_t_pipes v_t_thrown f_t_at f_t_bends x1 x2 P) : Met l y_Mo_bend w_Mo_bend rm_Mo_bend (va_Pc [.ref q_t, .int x1, .int x2] (fun U => U.heap.size = sz ∧ va_P (dC, dI) classes [(q_t, .inr (7, o_Mo a_t v_t_things v_t_pipes v_t_wide v_t_size v_t_place v_t_number v_t_thrown v_t_wish v_t_found)), ((a_t 12), .inl (cI, 120, .inl f_t_at)), ((a_t 14), .inl (cI, 120, .inl f_t_bends))] U.heap ∧ va_K (dC, dI) classes [(cI, .int), (cL, .long), (cB, .byte)] U ∧ va_D (fun _ => True) [(q_t, .inr (7, o_Mo a_t v_t_things v_t_pipes v_t_wide v_t_size v_t_place v_t_number v_t_thrown v_t_wish v_t_found)), ((a_t 12), .inl (cI, 120, .inl f_t_at)), ((a_t 14), .inl (cI, 120, .inl f_t_bends))])) (Q_Mo_bend dC dI cI cL cB q_t a_t v_t_things v_t_pipes v_t_wide v_t_size v_t_place v_t_number v_t_thrown v_t_wish v_t_found f_t_at f_t_bends x1 x2 P (va_A [(q_t, .inr (7, o_Mo a_t v_t_things v_t_pipes v_t_wide v_t_size v_t_place v_t_number v_t_thrown v_t_wish v_t_found)), ((a_t 12), .inl (cI, 120, .inl f_t_at)), ((a_t 14), .inl (cI, 120, .inl f_t_bends))] sz)) 0 0 (va_A [(q_t, .inr (7, o_Mo a_t v_t_things v_t_pipes v_t_wide v_t_size v_t_place v_t_number v_t_thrown v_t_wish v_t_found)), ((a_t 12), .inl (cI, 120, .inl f_t_at)), ((a_t 14), .inl (cI, 120, .inl f_t_bends))] sz) := by
  refine Met.ofW (cc := b_Mo_bend) (maxL := 5) (ret := (some .int)) (by decide) rfl ?_
  intro p e s m args below meth c s₁ B hml hv
  obtain ⟨ha, hsz, hP, hK, hD0⟩ := hv
  have hx := B.exec
  have hb := B.bytes
  have hr := B.returns
  have hts0 := atoms_spec (ws := w_Mo_bend) B.pre
  have hts : ∀ w ∈ tb, w.before args s = true := fun w h => hts0 w (List.mem_cons_of_mem _ h)
  have hown : s.vm.findClass R_Mo = some m.cls := findClass_of_methodNamed B.named
  have hlocks := B.notSynchronized
  subst hsz
  have hD := hD0.self (sz := s.heap.size)
  generalize hAe : va_A [(q_t, .inr (7, o_Mo a_t v_t_things v_t_pipes v_t_wide v_t_size v_t_place v_t_number v_t_thrown v_t_wish v_t_found)), ((a_t 12), .inl (cI, 120, .inl f_t_at)), ((a_t 14), .inl (cI, 120, .inl f_t_bends))] s.heap.size = A at hD ⊢
  have hA : ∀ q : Nat, s.heap.size ≤ q → A q := fun q h => by rw [← hAe]; exact Or.inr h
  have hS : va_S A s.heap s.heap [] := va_S.rf
  have hP : va_P (dC, dI) classes [(q_t, .inr (7, o_Mo a_t v_t_things v_t_pipes v_t_wide v_t_size v_t_place v_t_number v_t_thrown v_t_wish v_t_found)), ((a_t 12), .inl (cI, 120, .inl f_t_at)), ((a_t 14), .inl (cI, 120, .inl f_t_bends))] s.heap := hP
  have hl := lv_entry [.ref q_t, .int x1, .int x2] (n := 5) (Nat.le_of_ble_eq_true rfl)
  have he9 : entryFrame m args 5 = F0 m 0 ((lg_sl [.ref q_t, .int x1, .int x2] ++ List.replicate (5 - (lg_sl [.ref q_t, .int x1, .int x2]).length) Slot.unset).toArray) [] := by rw [ha]; exact lg_entry_eq _ _ _
  rw [he9]
  clear he9
  generalize (lg_sl [.ref q_t, .int x1, .int x2] ++ List.replicate (5 - (lg_sl [.ref q_t, .int x1, .int x2]).length) Slot.unset).toArray = ls at hl ⊢
  have hl : lv_has ls 5 [(0, .ref q_t), (1, .int x1), (2, .int x2)] := hl
  unfold wp_Mo_bend at hw
  refine lv_aload_n hx hb d_Mo_bend_0 rfl (lv_at hl 0 rfl) ?_
  refine lv_iconst (v := 0) hx hb d_Mo_bend_1 (by decide) ?_
  refine va_put (D := (dC, dI)) (ci := 7) (v := .int 0) (ty := .int) (C := R_Mo) (T := F_Mo) (N := 29) hx hb hts i_Mo t_Mo t_Mo_ok n_Mo hown hK hP hD hS 0 rfl rfl 26 (by decide) (hts (Cond.fieldLink R_Mo 72 "PlantGraphModel" "thrown" "I") kw30_6501a0b) (fun _ h9 => h9) rfl (by decide +kernel) rfl rfl (Nat.le_of_ble_eq_true rfl) d_Mo_bend_2 (fun H locs hP hD hS => ?_)
  have hP : va_P (dC, dI) classes [(q_t, .inr (7, o_Mo a_t v_t_things v_t_pipes v_t_wide v_t_size v_t_place v_t_number 0 v_t_wish v_t_found)), ((a_t 12), .inl (cI, 120, .inl f_t_at)), ((a_t 14), .inl (cI, 120, .inl f_t_bends))] H := hP
  have hD : va_D A [(q_t, .inr (7, o_Mo a_t v_t_things v_t_pipes v_t_wide v_t_size v_t_place v_t_number 0 v_t_wish v_t_found)), ((a_t 12), .inl (cI, 120, .inl f_t_at)), ((a_t 14), .inl (cI, 120, .inl f_t_bends))] := hD
  refine lv_aload_n hx hb d_Mo_bend_5 rfl (lv_at hl 0 rfl) ?_
  refine lv_iload_n hx hb d_Mo_bend_6 rfl (lv_at hl 1 rfl) ?_
  have hPc := hP.sub (ws' := [(q_t, .inr (7, o_Mo a_t v_t_things v_t_pipes v_t_wide v_t_size v_t_place v_t_number 0 v_t_wish v_t_found))]) [0] rfl
  have hDc := hD.sub (ws' := [(q_t, .inr (7, o_Mo a_t v_t_things v_t_pipes v_t_wide v_t_size v_t_place v_t_number 0 v_t_wish v_t_found))]) [0] (by decide) rfl
  have hFc := va_free (wc := [(q_t, .inr (7, o_Mo a_t v_t_things v_t_pipes v_t_wide v_t_size v_t_place v_t_number 0 v_t_wish v_t_found))]) hD hS hA [0] rfl
  refine va_calli (va_runV (As := [.int x1]) (rest := []) ⟨hx, hb, hml, hown, hts⟩ (c_Mo_isPipe l dC dI cI cL cB q_t a_t H.size v_t_things v_t_pipes v_t_wide v_t_size v_t_place v_t_number 0 v_t_wish v_t_found x1 _ hw) (my_cwV 1 hts kw30_d0d3126 kw30_b9b9844 kw30_aa3f293 kw30_7a5931c kw30_8736655 rfl rfl (by decide +kernel) ⟨Nat.le_of_ble_eq_true rfl, Nat.le_of_ble_eq_true rfl⟩) ⟨fun a U g mk q => by obtain ⟨q0, q1, qP, qK, qD⟩ := q; exact ⟨q0, q1, qP, va_K.moved (u := U) (U := U.calling g mk a) (Vm.Alike.refl U.vm) qK, qD⟩, va_recv hK hP (ci := 7) (q0 := 0) rfl rfl, fun U hU hW => ⟨rfl, by rw [hU], by rw [hU]; exact hPc, va_K.moved hW.alike hK, hDc.weaken (fun _ _ _ _ => trivial)⟩⟩ rfl rfl hl.1 rfl (lv_room (Nat.le_of_ble_eq_true rfl)) d_Mo_bend_7 ⟨Nat.zero_le _, Nat.zero_le _⟩) hS (fun q _ h => hFc q h) hFc (fun r7 u t H locs ht hvm hw hB hz1 hk1 hS => ?_)
  obtain ⟨hP1, hK1, hD1⟩ := hB
  rw [ht] at hP1
  obtain ⟨hP, hD⟩ := va_join (wr := [((a_t 12), .inl (cI, 120, .inl f_t_at)), ((a_t 14), .inl (cI, 120, .inl f_t_bends))]) (w1 := [(q_t, .inr (7, o_Mo a_t v_t_things v_t_pipes v_t_wide v_t_size v_t_place v_t_number 0 v_t_wish v_t_found))]) hP hD [0] [1, 2] rfl rfl (by decide) (by decide) hk1 hFc hP1 hD1
  have hP : va_P (dC, dI) classes [(q_t, .inr (7, o_Mo a_t v_t_things v_t_pipes v_t_wide v_t_size v_t_place v_t_number 0 v_t_wish v_t_found)), ((a_t 12), .inl (cI, 120, .inl f_t_at)), ((a_t 14), .inl (cI, 120, .inl f_t_bends))] H := hP.sub (ws' := [(q_t, .inr (7, o_Mo a_t v_t_things v_t_pipes v_t_wide v_t_size v_t_place v_t_number 0 v_t_wish v_t_found)), ((a_t 12), .inl (cI, 120, .inl f_t_at)), ((a_t 14), .inl (cI, 120, .inl f_t_bends))]) [2, 0, 1] rfl
  have hD : va_D A [(q_t, .inr (7, o_Mo a_t v_t_things v_t_pipes v_t_wide v_t_size v_t_place v_t_number 0 v_t_wish v_t_found)), ((a_t 12), .inl (cI, 120, .inl f_t_at)), ((a_t 14), .inl (cI, 120, .inl f_t_bends))] := hD.sub (ws' := [(q_t, .inr (7, o_Mo a_t v_t_things v_t_pipes v_t_wide v_t_size v_t_place v_t_number 0 v_t_wish v_t_found)), ((a_t 12), .inl (cI, 120, .inl f_t_at)), ((a_t 14), .inl (cI, 120, .inl f_t_bends))]) [2, 0, 1] (by decide) rfl
  refine lv_if_eq (tgt := 26) hx hb d_Mo_bend_10 (by decide) (fun c10 => ?_) (fun c10 => ?_)
  · replace hw := hw.1 c10
    refine lv_iconst (v := (-1)) hx hb d_Mo_bend_26 (by decide) ?_
    exact W.iret (v := (-1)) hx hb hr (fun t ht hW => ⟨⟨(-1), (0, f_t_bends), rfl, hw, by rw [ht]; exact hP, va_K.moved hW.alike hK, hD⟩, hS.F ht⟩) hS.2.2 d_Mo_bend_27
  · replace hw := hw.2 c10
    refine lv_aload_n hx hb d_Mo_bend_13 rfl (lv_at hl 0 rfl) ?_
    refine lv_iload_n hx hb d_Mo_bend_14 rfl (lv_at hl 2 rfl) ?_
    have hPc := hP.sub (ws' := [(q_t, .inr (7, o_Mo a_t v_t_things v_t_pipes v_t_wide v_t_size v_t_place v_t_number 0 v_t_wish v_t_found))]) [0] rfl
    have hDc := hD.sub (ws' := [(q_t, .inr (7, o_Mo a_t v_t_things v_t_pipes v_t_wide v_t_size v_t_place v_t_number 0 v_t_wish v_t_found))]) [0] (by decide) rfl
    have hFc := va_free (wc := [(q_t, .inr (7, o_Mo a_t v_t_things v_t_pipes v_t_wide v_t_size v_t_place v_t_number 0 v_t_wish v_t_found))]) hD hS hA [0] rfl
    refine va_calli (va_runV (As := [.int x2]) (rest := []) ⟨hx, hb, hml, hown, hts⟩ (c_Mo_isPipe l dC dI cI cL cB q_t a_t H.size v_t_things v_t_pipes v_t_wide v_t_size v_t_place v_t_number 0 v_t_wish v_t_found x2 _ hw) (my_cwV 1 hts kw30_d0d3126 kw30_b9b9844 kw30_aa3f293 kw30_7a5931c kw30_8736655 rfl rfl (by decide +kernel) ⟨Nat.le_of_ble_eq_true rfl, Nat.le_of_ble_eq_true rfl⟩) ⟨fun a U g mk q => by obtain ⟨q0, q1, qP, qK, qD⟩ := q; exact ⟨q0, q1, qP, va_K.moved (u := U) (U := U.calling g mk a) (Vm.Alike.refl U.vm) qK, qD⟩, va_recv hK hP (ci := 7) (q0 := 0) rfl rfl, fun U hU hW => ⟨rfl, by rw [hU], by rw [hU]; exact hPc, va_K.moved hW.alike hK, hDc.weaken (fun _ _ _ _ => trivial)⟩⟩ rfl rfl hl.1 rfl (lv_room (Nat.le_of_ble_eq_true rfl)) d_Mo_bend_15 ⟨Nat.zero_le _, Nat.zero_le _⟩) hS (fun q _ h => hFc q h) hFc (fun r15 u t H locs ht hvm hw hB hz1 hk1 hS => ?_)
    obtain ⟨hP1, hK1, hD1⟩ := hB
    rw [ht] at hP1
    obtain ⟨hP, hD⟩ := va_join (wr := [((a_t 12), .inl (cI, 120, .inl f_t_at)), ((a_t 14), .inl (cI, 120, .inl f_t_bends))]) (w1 := [(q_t, .inr (7, o_Mo a_t v_t_things v_t_pipes v_t_wide v_t_size v_t_place v_t_number 0 v_t_wish v_t_found))]) hP hD [0] [1, 2] rfl rfl (by decide) (by decide) hk1 hFc hP1 hD1
    have hP : va_P (dC, dI) classes [(q_t, .inr (7, o_Mo a_t v_t_things v_t_pipes v_t_wide v_t_size v_t_place v_t_number 0 v_t_wish v_t_found)), ((a_t 12), .inl (cI, 120, .inl f_t_at)), ((a_t 14), .inl (cI, 120, .inl f_t_bends))] H := hP.sub (ws' := [(q_t, .inr (7, o_Mo a_t v_t_things v_t_pipes v_t_wide v_t_size v_t_place v_t_number 0 v_t_wish v_t_found)), ((a_t 12), .inl (cI, 120, .inl f_t_at)), ((a_t 14), .inl (cI, 120, .inl f_t_bends))]) [2, 0, 1] rfl
    have hD : va_D A [(q_t, .inr (7, o_Mo a_t v_t_things v_t_pipes v_t_wide v_t_size v_t_place v_t_number 0 v_t_wish v_t_found)), ((a_t 12), .inl (cI, 120, .inl f_t_at)), ((a_t 14), .inl (cI, 120, .inl f_t_bends))] := hD.sub (ws' := [(q_t, .inr (7, o_Mo a_t v_t_things v_t_pipes v_t_wide v_t_size v_t_place v_t_number 0 v_t_wish v_t_found)), ((a_t 12), .inl (cI, 120, .inl f_t_at)), ((a_t 14), .inl (cI, 120, .inl f_t_bends))]) [2, 0, 1] (by decide) rfl
    refine lv_if_eq (tgt := 26) hx hb d_Mo_bend_18 (by decide) (fun c18 => ?_) (fun c18 => ?_)
    · replace hw := hw.1 c18
      refine lv_iconst (v := (-1)) hx hb d_Mo_bend_26 (by decide) ?_
      exact W.iret (v := (-1)) hx hb hr (fun t ht hW => ⟨⟨(-1), (0, f_t_bends), rfl, hw, by rw [ht]; exact hP, va_K.moved hW.alike hK, hD⟩, hS.F ht⟩) hS.2.2 d_Mo_bend_27
    · replace hw := hw.2 c18
      refine lv_iload_n hx hb d_Mo_bend_21 rfl (lv_at hl 1 rfl) ?_
      refine lv_iload_n hx hb d_Mo_bend_22 rfl (lv_at hl 2 rfl) ?_
      refine lv_icmp_ne (tgt := 28) hx hb d_Mo_bend_23 (by decide) (fun c23 => ?_) (fun c23 => ?_)
      · replace hw := hw.1 c23
        refine lv_iconst (v := 2) hx hb d_Mo_bend_28 (by decide) ?_
        refine lv_iload_n hx hb d_Mo_bend_29 rfl (lv_at hl 1 rfl) ?_
        refine lv_imul hx hb d_Mo_bend_30 ?_
        refine lv_istore_n (lv' := [(3, .int (2 * x1)), (0, .ref q_t), (1, .int x1), (2, .int x2)]) hx hb d_Mo_bend_31 rfl hl (by decide) rfl (fun ls hl => ?_)
        obtain ⟨n_32, hw⟩ := hw
        have EX_63 : ∀ (x3_L32 : Int32) (H : Heap) (locs : List Loc) (ls : Array Slot), va_P (dC, dI) classes [(q_t, .inr (7, o_Mo a_t v_t_things v_t_pipes v_t_wide v_t_size v_t_place v_t_number 0 v_t_wish v_t_found)), ((a_t 12), .inl (cI, 120, .inl f_t_at)), ((a_t 14), .inl (cI, 120, .inl f_t_bends))] H → va_D A [(q_t, .inr (7, o_Mo a_t v_t_things v_t_pipes v_t_wide v_t_size v_t_place v_t_number 0 v_t_wish v_t_found)), ((a_t 12), .inl (cI, 120, .inl f_t_at)), ((a_t 14), .inl (cI, 120, .inl f_t_bends))] → va_S A s.heap H locs → lv_has ls 5 [(0, .ref q_t), (1, .int x1), (2, .int x2), (3, .int x3_L32)] → wk_Mo_bend_63_32 f_t_bends P x3_L32 → W p l e (headSpec w_Mo_bend rm_Mo_bend).room s m args below meth c H locs 0 0 (MQ below (Q_Mo_bend dC dI cI cL cB q_t a_t v_t_things v_t_pipes v_t_wide v_t_size v_t_place v_t_number v_t_thrown v_t_wish v_t_found f_t_at f_t_bends x1 x2 P A) args s 0 0 A) (F0 m 63 ls []) := by
          intro x3_L32 H locs ls hP hD hS hl hw
          unfold wk_Mo_bend_63_32 at hw
          refine lv_aload_n hx hb d_Mo_bend_63 rfl (lv_at hl 0 rfl) ?_
          refine va_get (D := (dC, dI)) (ci := 7) (v := .ref (a_t 14)) (C := R_Mo) (T := F_Mo) (N := 29) hx hb hts i_Mo hown hK hP 0 rfl rfl 14 (by decide) (hts (Cond.fieldLink R_Mo 48 "PlantGraphModel" "bends" "[I") kw30_563086a) (fun _ h9 => h9) rfl d_Mo_bend_64 ?_
          refine lv_aload_n hx hb d_Mo_bend_67 rfl (lv_at hl 0 rfl) ?_
          refine va_get (D := (dC, dI)) (ci := 7) (v := .ref (a_t 14)) (C := R_Mo) (T := F_Mo) (N := 29) hx hb hts i_Mo hown hK hP 0 rfl rfl 14 (by decide) (hts (Cond.fieldLink R_Mo 48 "PlantGraphModel" "bends" "[I") kw30_563086a) (fun _ h9 => h9) rfl d_Mo_bend_68 ?_
          refine lv_iload_n hx hb d_Mo_bend_71 rfl (lv_at hl 3 rfl) ?_
          refine va_iald hx hb hK hP 2 0 rfl rfl hw.1 d_Mo_bend_72 ?_
          replace hw := hw.2
          refine lv_iconst (v := (-1)) hx hb d_Mo_bend_73 (by decide) ?_
          refine va_iast hx hb hK hP hD hS 2 0 rfl rfl hw.1 d_Mo_bend_74 (fun H locs hP hD hS => ?_)
          replace hw := hw.2
          have hP : va_P (dC, dI) classes [(q_t, .inr (7, o_Mo a_t v_t_things v_t_pipes v_t_wide v_t_size v_t_place v_t_number 0 v_t_wish v_t_found)), ((a_t 12), .inl (cI, 120, .inl f_t_at)), ((a_t 14), .inl (cI, 120, .inl (upd f_t_bends (f_t_bends x3_L32.toNatClampNeg).toNatClampNeg (-1))))] H := hP
          have hD : va_D A [(q_t, .inr (7, o_Mo a_t v_t_things v_t_pipes v_t_wide v_t_size v_t_place v_t_number 0 v_t_wish v_t_found)), ((a_t 12), .inl (cI, 120, .inl f_t_at)), ((a_t 14), .inl (cI, 120, .inl (upd f_t_bends (f_t_bends x3_L32.toNatClampNeg).toNatClampNeg (-1))))] := hD
          refine lv_aload_n hx hb d_Mo_bend_75 rfl (lv_at hl 0 rfl) ?_
          refine va_get (D := (dC, dI)) (ci := 7) (v := .ref (a_t 14)) (C := R_Mo) (T := F_Mo) (N := 29) hx hb hts i_Mo hown hK hP 0 rfl rfl 14 (by decide) (hts (Cond.fieldLink R_Mo 48 "PlantGraphModel" "bends" "[I") kw30_563086a) (fun _ h9 => h9) rfl d_Mo_bend_76 ?_
          refine lv_iload_n hx hb d_Mo_bend_79 rfl (lv_at hl 3 rfl) ?_
          refine lv_iconst (v := (-1)) hx hb d_Mo_bend_80 (by decide) ?_
          refine va_iast hx hb hK hP hD hS 2 0 rfl rfl hw.1 d_Mo_bend_81 (fun H locs hP hD hS => ?_)
          replace hw := hw.2
          have hP : va_P (dC, dI) classes [(q_t, .inr (7, o_Mo a_t v_t_things v_t_pipes v_t_wide v_t_size v_t_place v_t_number 0 v_t_wish v_t_found)), ((a_t 12), .inl (cI, 120, .inl f_t_at)), ((a_t 14), .inl (cI, 120, .inl (upd (upd f_t_bends (f_t_bends x3_L32.toNatClampNeg).toNatClampNeg (-1)) x3_L32.toNatClampNeg (-1))))] H := hP
          have hD : va_D A [(q_t, .inr (7, o_Mo a_t v_t_things v_t_pipes v_t_wide v_t_size v_t_place v_t_number 0 v_t_wish v_t_found)), ((a_t 12), .inl (cI, 120, .inl f_t_at)), ((a_t 14), .inl (cI, 120, .inl (upd (upd f_t_bends (f_t_bends x3_L32.toNatClampNeg).toNatClampNeg (-1)) x3_L32.toNatClampNeg (-1))))] := hD
          refine lv_iconst (v := 0) hx hb d_Mo_bend_82 (by decide) ?_
          exact W.iret (v := 0) hx hb hr (fun t ht hW => ⟨⟨0, (0, (upd (upd f_t_bends (f_t_bends x3_L32.toNatClampNeg).toNatClampNeg (-1)) x3_L32.toNatClampNeg (-1))), rfl, hw, by rw [ht]; exact hP, va_K.moved hW.alike hK, hD⟩, hS.F ht⟩) hS.2.2 d_Mo_bend_83
        have EX_90 : ∀ (x3_L32 : Int32) (H : Heap) (locs : List Loc) (ls : Array Slot), va_P (dC, dI) classes [(q_t, .inr (7, o_Mo a_t v_t_things v_t_pipes v_t_wide v_t_size v_t_place v_t_number 0 v_t_wish v_t_found)), ((a_t 12), .inl (cI, 120, .inl f_t_at)), ((a_t 14), .inl (cI, 120, .inl f_t_bends))] H → va_D A [(q_t, .inr (7, o_Mo a_t v_t_things v_t_pipes v_t_wide v_t_size v_t_place v_t_number 0 v_t_wish v_t_found)), ((a_t 12), .inl (cI, 120, .inl f_t_at)), ((a_t 14), .inl (cI, 120, .inl f_t_bends))] → va_S A s.heap H locs → lv_has ls 5 [(0, .ref q_t), (1, .int x1), (2, .int x2), (3, .int x3_L32)] → wk_Mo_bend_90_32 f_t_at f_t_bends x1 x2 P x3_L32 → W p l e (headSpec w_Mo_bend rm_Mo_bend).room s m args below meth c H locs 0 0 (MQ below (Q_Mo_bend dC dI cI cL cB q_t a_t v_t_things v_t_pipes v_t_wide v_t_size v_t_place v_t_number v_t_thrown v_t_wish v_t_found f_t_at f_t_bends x1 x2 P A) args s 0 0 A) (F0 m 90 ls []) := by
          intro x3_L32 H locs ls hP hD hS hl hw
          unfold wk_Mo_bend_90_32 at hw
          refine lv_aload_n hx hb d_Mo_bend_90 rfl (lv_at hl 0 rfl) ?_
          refine lv_iload_n hx hb d_Mo_bend_91 rfl (lv_at hl 1 rfl) ?_
          have hPc := hP.sub (ws' := [(q_t, .inr (7, o_Mo a_t v_t_things v_t_pipes v_t_wide v_t_size v_t_place v_t_number 0 v_t_wish v_t_found)), ((a_t 12), .inl (cI, 120, .inl f_t_at)), ((a_t 14), .inl (cI, 120, .inl f_t_bends))]) [0, 1, 2] rfl
          have hDc := hD.sub (ws' := [(q_t, .inr (7, o_Mo a_t v_t_things v_t_pipes v_t_wide v_t_size v_t_place v_t_number 0 v_t_wish v_t_found)), ((a_t 12), .inl (cI, 120, .inl f_t_at)), ((a_t 14), .inl (cI, 120, .inl f_t_bends))]) [0, 1, 2] (by decide) rfl
          have hFc := va_free (wc := [(q_t, .inr (7, o_Mo a_t v_t_things v_t_pipes v_t_wide v_t_size v_t_place v_t_number 0 v_t_wish v_t_found)), ((a_t 12), .inl (cI, 120, .inl f_t_at)), ((a_t 14), .inl (cI, 120, .inl f_t_bends))]) hD hS hA [0, 1, 2] rfl
          refine va_calli (va_runV (As := [.int x1]) (rest := []) ⟨hx, hb, hml, hown, hts⟩ (c_Mo_free l dC dI cI cL cB q_t a_t H.size v_t_things v_t_pipes v_t_wide v_t_size v_t_place v_t_number 0 v_t_wish v_t_found f_t_at f_t_bends x1 _ hw) (my_cwV 1 hts kw30_948e1af kw30_804861b kw30_31dc068 kw30_7a5931c kw30_875e3a4 rfl rfl (by decide +kernel) ⟨Nat.le_of_ble_eq_true rfl, Nat.le_of_ble_eq_true rfl⟩) ⟨fun a U g mk q => by obtain ⟨q0, q1, qP, qK, qD⟩ := q; exact ⟨q0, q1, qP, va_K.moved (u := U) (U := U.calling g mk a) (Vm.Alike.refl U.vm) qK, qD⟩, va_recv hK hP (ci := 7) (q0 := 0) rfl rfl, fun U hU hW => ⟨rfl, by rw [hU], by rw [hU]; exact hPc, va_K.moved hW.alike hK, hDc.weaken (fun _ _ _ _ => trivial)⟩⟩ rfl rfl hl.1 rfl (lv_room (Nat.le_of_ble_eq_true rfl)) d_Mo_bend_92 ⟨Nat.zero_le _, Nat.zero_le _⟩) hS (fun q _ h => hFc q h) hFc (fun r92 u t H locs ht hvm hw hB hz1 hk1 hS => ?_)
          obtain ⟨hP1, hK1, hD1⟩ := hB
          rw [ht] at hP1
          obtain ⟨hP, hD⟩ := va_join (wr := []) (w1 := [(q_t, .inr (7, o_Mo a_t v_t_things v_t_pipes v_t_wide v_t_size v_t_place v_t_number 0 v_t_wish v_t_found)), ((a_t 12), .inl (cI, 120, .inl f_t_at)), ((a_t 14), .inl (cI, 120, .inl f_t_bends))]) hP hD [0, 1, 2] [] rfl rfl (by decide) (by decide) hk1 hFc hP1 hD1
          have hP : va_P (dC, dI) classes [(q_t, .inr (7, o_Mo a_t v_t_things v_t_pipes v_t_wide v_t_size v_t_place v_t_number 0 v_t_wish v_t_found)), ((a_t 12), .inl (cI, 120, .inl f_t_at)), ((a_t 14), .inl (cI, 120, .inl f_t_bends))] H := hP.sub (ws' := [(q_t, .inr (7, o_Mo a_t v_t_things v_t_pipes v_t_wide v_t_size v_t_place v_t_number 0 v_t_wish v_t_found)), ((a_t 12), .inl (cI, 120, .inl f_t_at)), ((a_t 14), .inl (cI, 120, .inl f_t_bends))]) [0, 1, 2] rfl
          have hD : va_D A [(q_t, .inr (7, o_Mo a_t v_t_things v_t_pipes v_t_wide v_t_size v_t_place v_t_number 0 v_t_wish v_t_found)), ((a_t 12), .inl (cI, 120, .inl f_t_at)), ((a_t 14), .inl (cI, 120, .inl f_t_bends))] := hD.sub (ws' := [(q_t, .inr (7, o_Mo a_t v_t_things v_t_pipes v_t_wide v_t_size v_t_place v_t_number 0 v_t_wish v_t_found)), ((a_t 12), .inl (cI, 120, .inl f_t_at)), ((a_t 14), .inl (cI, 120, .inl f_t_bends))]) [0, 1, 2] (by decide) rfl
          refine lv_istore_n (lv' := [(3, .int r92), (0, .ref q_t), (1, .int x1), (2, .int x2)]) hx hb d_Mo_bend_95 rfl hl (by decide) rfl (fun ls hl => ?_)
          refine lv_aload_n hx hb d_Mo_bend_96 rfl (lv_at hl 1 rfl) ?_
          refine lv_iload_n hx hb d_Mo_bend_97 rfl (lv_at hl 3 rfl) ?_
          have hPc := hP.sub (ws' := [(q_t, .inr (7, o_Mo a_t v_t_things v_t_pipes v_t_wide v_t_size v_t_place v_t_number 0 v_t_wish v_t_found)), ((a_t 12), .inl (cI, 120, .inl f_t_at)), ((a_t 14), .inl (cI, 120, .inl f_t_bends))]) [0, 1, 2] rfl
          have hDc := hD.sub (ws' := [(q_t, .inr (7, o_Mo a_t v_t_things v_t_pipes v_t_wide v_t_size v_t_place v_t_number 0 v_t_wish v_t_found)), ((a_t 12), .inl (cI, 120, .inl f_t_at)), ((a_t 14), .inl (cI, 120, .inl f_t_bends))]) [0, 1, 2] (by decide) rfl
          have hFc := va_free (wc := [(q_t, .inr (7, o_Mo a_t v_t_things v_t_pipes v_t_wide v_t_size v_t_place v_t_number 0 v_t_wish v_t_found)), ((a_t 12), .inl (cI, 120, .inl f_t_at)), ((a_t 14), .inl (cI, 120, .inl f_t_bends))]) hD hS hA [0, 1, 2] rfl
          refine va_calli (va_runV (As := [.int x2]) (rest := []) ⟨hx, hb, hml, hown, hts⟩ (c_Mo_free l dC dI cI cL cB q_t a_t H.size v_t_things v_t_pipes v_t_wide v_t_size v_t_place v_t_number 0 v_t_wish v_t_found f_t_at f_t_bends x2 _ hw) (my_cwV 1 hts kw30_948e1af kw30_804861b kw30_31dc068 kw30_7a5931c kw30_875e3a4 rfl rfl (by decide +kernel) ⟨Nat.le_of_ble_eq_true rfl, Nat.le_of_ble_eq_true rfl⟩) ⟨fun a U g mk q => by obtain ⟨q0, q1, qP, qK, qD⟩ := q; exact ⟨q0, q1, qP, va_K.moved (u := U) (U := U.calling g mk a) (Vm.Alike.refl U.vm) qK, qD⟩, va_recv hK hP (ci := 7) (q0 := 0) rfl rfl, fun U hU hW => ⟨rfl, by rw [hU], by rw [hU]; exact hPc, va_K.moved hW.alike hK, hDc.weaken (fun _ _ _ _ => trivial)⟩⟩ rfl rfl hl.1 rfl (lv_room (Nat.le_of_ble_eq_true rfl)) d_Mo_bend_98 ⟨Nat.zero_le _, Nat.zero_le _⟩) hS (fun q _ h => hFc q h) hFc (fun r98 u t H locs ht hvm hw hB hz1 hk1 hS => ?_)
          obtain ⟨hP1, hK1, hD1⟩ := hB
          rw [ht] at hP1
          obtain ⟨hP, hD⟩ := va_join (wr := []) (w1 := [(q_t, .inr (7, o_Mo a_t v_t_things v_t_pipes v_t_wide v_t_size v_t_place v_t_number 0 v_t_wish v_t_found)), ((a_t 12), .inl (cI, 120, .inl f_t_at)), ((a_t 14), .inl (cI, 120, .inl f_t_bends))]) hP hD [0, 1, 2] [] rfl rfl (by decide) (by decide) hk1 hFc hP1 hD1
          have hP : va_P (dC, dI) classes [(q_t, .inr (7, o_Mo a_t v_t_things v_t_pipes v_t_wide v_t_size v_t_place v_t_number 0 v_t_wish v_t_found)), ((a_t 12), .inl (cI, 120, .inl f_t_at)), ((a_t 14), .inl (cI, 120, .inl f_t_bends))] H := hP.sub (ws' := [(q_t, .inr (7, o_Mo a_t v_t_things v_t_pipes v_t_wide v_t_size v_t_place v_t_number 0 v_t_wish v_t_found)), ((a_t 12), .inl (cI, 120, .inl f_t_at)), ((a_t 14), .inl (cI, 120, .inl f_t_bends))]) [0, 1, 2] rfl
          have hD : va_D A [(q_t, .inr (7, o_Mo a_t v_t_things v_t_pipes v_t_wide v_t_size v_t_place v_t_number 0 v_t_wish v_t_found)), ((a_t 12), .inl (cI, 120, .inl f_t_at)), ((a_t 14), .inl (cI, 120, .inl f_t_bends))] := hD.sub (ws' := [(q_t, .inr (7, o_Mo a_t v_t_things v_t_pipes v_t_wide v_t_size v_t_place v_t_number 0 v_t_wish v_t_found)), ((a_t 12), .inl (cI, 120, .inl f_t_at)), ((a_t 14), .inl (cI, 120, .inl f_t_bends))]) [0, 1, 2] (by decide) rfl
          refine lv_istore (lv' := [(4, .int r98), (3, .int r92), (0, .ref q_t), (1, .int x1), (2, .int x2)]) hx hb d_Mo_bend_101 hl (by decide) rfl (fun ls hl => ?_)
          refine lv_iload_n hx hb d_Mo_bend_103 rfl (lv_at hl 1 rfl) ?_
          refine lv_iconst (v := (-1)) hx hb d_Mo_bend_104 (by decide) ?_
          refine lv_icmp_eq (tgt := 114) hx hb d_Mo_bend_105 (by decide) (fun c105 => ?_) (fun c105 => ?_)
          · replace hw := hw.1 c105
            refine lv_iconst (v := (-1)) hx hb d_Mo_bend_114 (by decide) ?_
            exact W.iret (v := (-1)) hx hb hr (fun t ht hW => ⟨⟨(-1), (0, f_t_bends), rfl, hw, by rw [ht]; exact hP, va_K.moved hW.alike hK, hD⟩, hS.F ht⟩) hS.2.2 d_Mo_bend_115
          · replace hw := hw.2 c105
            refine lv_iload hx hb d_Mo_bend_108 (lv_at hl 0 rfl) ?_
            refine lv_iconst (v := (-1)) hx hb d_Mo_bend_110 (by decide) ?_
            refine lv_icmp_ne (tgt := 116) hx hb d_Mo_bend_111 (by decide) (fun c111 => ?_) (fun c111 => ?_)
            · replace hw := hw.1 c111
              refine lv_aload_n hx hb d_Mo_bend_116 rfl (lv_at hl 2 rfl) ?_
              refine va_get (D := (dC, dI)) (ci := 7) (v := .ref (a_t 14)) (C := R_Mo) (T := F_Mo) (N := 29) hx hb hts i_Mo hown hK hP 0 rfl rfl 14 (by decide) (hts (Cond.fieldLink R_Mo 48 "PlantGraphModel" "bends" "[I") kw30_563086a) (fun _ h9 => h9) rfl d_Mo_bend_117 ?_
              refine lv_iload_n hx hb d_Mo_bend_120 rfl (lv_at hl 1 rfl) ?_
              refine lv_iload hx hb d_Mo_bend_121 (lv_at hl 0 rfl) ?_
              refine va_iast hx hb hK hP hD hS 2 0 rfl rfl hw.1 d_Mo_bend_123 (fun H locs hP hD hS => ?_)
              replace hw := hw.2
              have hP : va_P (dC, dI) classes [(q_t, .inr (7, o_Mo a_t v_t_things v_t_pipes v_t_wide v_t_size v_t_place v_t_number 0 v_t_wish v_t_found)), ((a_t 12), .inl (cI, 120, .inl f_t_at)), ((a_t 14), .inl (cI, 120, .inl (upd f_t_bends r92.toNatClampNeg r98)))] H := hP
              have hD : va_D A [(q_t, .inr (7, o_Mo a_t v_t_things v_t_pipes v_t_wide v_t_size v_t_place v_t_number 0 v_t_wish v_t_found)), ((a_t 12), .inl (cI, 120, .inl f_t_at)), ((a_t 14), .inl (cI, 120, .inl (upd f_t_bends r92.toNatClampNeg r98)))] := hD
              refine lv_aload_n hx hb d_Mo_bend_124 rfl (lv_at hl 2 rfl) ?_
              refine va_get (D := (dC, dI)) (ci := 7) (v := .ref (a_t 14)) (C := R_Mo) (T := F_Mo) (N := 29) hx hb hts i_Mo hown hK hP 0 rfl rfl 14 (by decide) (hts (Cond.fieldLink R_Mo 48 "PlantGraphModel" "bends" "[I") kw30_563086a) (fun _ h9 => h9) rfl d_Mo_bend_125 ?_
              refine lv_iload hx hb d_Mo_bend_128 (lv_at hl 0 rfl) ?_
              refine lv_iload_n hx hb d_Mo_bend_130 rfl (lv_at hl 1 rfl) ?_
              refine va_iast hx hb hK hP hD hS 2 0 rfl rfl hw.1 d_Mo_bend_131 (fun H locs hP hD hS => ?_)
              replace hw := hw.2
              have hP : va_P (dC, dI) classes [(q_t, .inr (7, o_Mo a_t v_t_things v_t_pipes v_t_wide v_t_size v_t_place v_t_number 0 v_t_wish v_t_found)), ((a_t 12), .inl (cI, 120, .inl f_t_at)), ((a_t 14), .inl (cI, 120, .inl (upd (upd f_t_bends r92.toNatClampNeg r98) r98.toNatClampNeg r92)))] H := hP
              have hD : va_D A [(q_t, .inr (7, o_Mo a_t v_t_things v_t_pipes v_t_wide v_t_size v_t_place v_t_number 0 v_t_wish v_t_found)), ((a_t 12), .inl (cI, 120, .inl f_t_at)), ((a_t 14), .inl (cI, 120, .inl (upd (upd f_t_bends r92.toNatClampNeg r98) r98.toNatClampNeg r92)))] := hD
              refine lv_iconst (v := 1) hx hb d_Mo_bend_132 (by decide) ?_
              exact W.iret (v := 1) hx hb hr (fun t ht hW => ⟨⟨1, (0, (upd (upd f_t_bends r92.toNatClampNeg r98) r98.toNatClampNeg r92)), rfl, hw, by rw [ht]; exact hP, va_K.moved hW.alike hK, hD⟩, hS.F ht⟩) hS.2.2 d_Mo_bend_133
            · replace hw := hw.2 c111
              refine lv_iconst (v := (-1)) hx hb d_Mo_bend_114 (by decide) ?_
              exact W.iret (v := (-1)) hx hb hr (fun t ht hW => ⟨⟨(-1), (0, f_t_bends), rfl, hw, by rw [ht]; exact hP, va_K.moved hW.alike hK, hD⟩, hS.F ht⟩) hS.2.2 d_Mo_bend_115
        have LP_32 : ∀ (k_32 : Nat) (x3_L32 : Int32) (H : Heap) (locs : List Loc) (ls : Array Slot), va_P (dC, dI) classes [(q_t, .inr (7, o_Mo a_t v_t_things v_t_pipes v_t_wide v_t_size v_t_place v_t_number 0 v_t_wish v_t_found)), ((a_t 12), .inl (cI, 120, .inl f_t_at)), ((a_t 14), .inl (cI, 120, .inl f_t_bends))] H → va_D A [(q_t, .inr (7, o_Mo a_t v_t_things v_t_pipes v_t_wide v_t_size v_t_place v_t_number 0 v_t_wish v_t_found)), ((a_t 12), .inl (cI, 120, .inl f_t_at)), ((a_t 14), .inl (cI, 120, .inl f_t_bends))] → va_S A s.heap H locs → lv_has ls 5 [(0, .ref q_t), (1, .int x1), (2, .int x2), (3, .int x3_L32)] → wl_Mo_bend_32 x1 f_t_bends x2 (wk_Mo_bend_63_32 f_t_bends P) (wk_Mo_bend_90_32 f_t_at f_t_bends x1 x2 P) k_32 x3_L32 → W p l e (headSpec w_Mo_bend rm_Mo_bend).room s m args below meth c H locs 0 0 (MQ below (Q_Mo_bend dC dI cI cL cB q_t a_t v_t_things v_t_pipes v_t_wide v_t_size v_t_place v_t_number v_t_thrown v_t_wish v_t_found f_t_at f_t_bends x1 x2 P A) args s 0 0 A) (F0 m 32 ls []) := by
          intro k_32
          induction k_32 with
          | zero => intro x3_L32 H locs ls hP hD hS hl hw; unfold wl_Mo_bend_32 at hw; exact hw.elim
          | succ k_32 ih_32 =>
            intro x3_L32 H locs ls hP hD hS hl hw
            unfold wl_Mo_bend_32 at hw
            refine lv_iload_n hx hb d_Mo_bend_32 rfl (lv_at hl 3 rfl) ?_
            refine lv_iconst (v := 2) hx hb d_Mo_bend_33 (by decide) ?_
            refine lv_iload_n hx hb d_Mo_bend_34 rfl (lv_at hl 1 rfl) ?_
            refine lv_imul hx hb d_Mo_bend_35 ?_
            refine lv_iconst (v := 2) hx hb d_Mo_bend_36 (by decide) ?_
            refine lv_iadd hx hb d_Mo_bend_37 ?_
            refine lv_icmp_ge (tgt := 90) hx hb d_Mo_bend_38 (by decide) (fun c38 => ?_) (fun c38 => ?_)
            · replace hw := hw.1 c38
              exact EX_90 x3_L32 H _ _ hP hD hS (lv_sub hl [0, 1, 2, 3] rfl) hw
            · replace hw := hw.2 c38
              refine lv_aload_n hx hb d_Mo_bend_41 rfl (lv_at hl 0 rfl) ?_
              refine va_get (D := (dC, dI)) (ci := 7) (v := .ref (a_t 14)) (C := R_Mo) (T := F_Mo) (N := 29) hx hb hts i_Mo hown hK hP 0 rfl rfl 14 (by decide) (hts (Cond.fieldLink R_Mo 48 "PlantGraphModel" "bends" "[I") kw30_563086a) (fun _ h9 => h9) rfl d_Mo_bend_42 ?_
              refine lv_iload_n hx hb d_Mo_bend_45 rfl (lv_at hl 3 rfl) ?_
              refine va_iald hx hb hK hP 2 0 rfl rfl hw.1 d_Mo_bend_46 ?_
              replace hw := hw.2
              refine lv_iconst (v := (-1)) hx hb d_Mo_bend_47 (by decide) ?_
              refine lv_icmp_eq (tgt := 84) hx hb d_Mo_bend_48 (by decide) (fun c48 => ?_) (fun c48 => ?_)
              · replace hw := hw.1 c48
                refine lv_iinc (v := (x3_L32 + 1)) (lv' := [(3, .int (x3_L32 + 1)), (0, .ref q_t), (1, .int x1), (2, .int x2)]) hx hb d_Mo_bend_84 hl (k := 3) rfl rfl (by decide) rfl (fun ls hl => ?_)
                refine lv_goto (tgt := 32) hx hb d_Mo_bend_87 (by decide) ?_
                exact ih_32 (x3_L32 + 1) H _ _ hP hD hS (lv_sub hl [1, 2, 3, 0] rfl) hw
              · replace hw := hw.2 c48
                refine lv_aload_n hx hb d_Mo_bend_51 rfl (lv_at hl 0 rfl) ?_
                refine va_get (D := (dC, dI)) (ci := 7) (v := .ref (a_t 14)) (C := R_Mo) (T := F_Mo) (N := 29) hx hb hts i_Mo hown hK hP 0 rfl rfl 14 (by decide) (hts (Cond.fieldLink R_Mo 48 "PlantGraphModel" "bends" "[I") kw30_563086a) (fun _ h9 => h9) rfl d_Mo_bend_52 ?_
                refine lv_iload_n hx hb d_Mo_bend_55 rfl (lv_at hl 3 rfl) ?_
                refine va_iald hx hb hK hP 2 0 rfl rfl hw.1 d_Mo_bend_56 ?_
                replace hw := hw.2
                refine lv_iconst (v := 2) hx hb d_Mo_bend_57 (by decide) ?_
                refine lv_idiv hx hb d_Mo_bend_58 (by decide) ?_
                refine lv_iload_n hx hb d_Mo_bend_59 rfl (lv_at hl 2 rfl) ?_
                refine lv_icmp_ne (tgt := 84) hx hb d_Mo_bend_60 (by decide) (fun c60 => ?_) (fun c60 => ?_)
                · replace hw := hw.1 c60
                  refine lv_iinc (v := (x3_L32 + 1)) (lv' := [(3, .int (x3_L32 + 1)), (0, .ref q_t), (1, .int x1), (2, .int x2)]) hx hb d_Mo_bend_84 hl (k := 3) rfl rfl (by decide) rfl (fun ls hl => ?_)
                  refine lv_goto (tgt := 32) hx hb d_Mo_bend_87 (by decide) ?_
                  exact ih_32 (x3_L32 + 1) H _ _ hP hD hS (lv_sub hl [1, 2, 3, 0] rfl) hw
                · replace hw := hw.2 c60
                  exact EX_63 x3_L32 H _ _ hP hD hS (lv_sub hl [0, 1, 2, 3] rfl) hw
        exact LP_32 n_32 (2 * x1) H _ _ hP hD hS (lv_sub hl [1, 2, 3, 0] rfl) hw
      · replace hw := hw.2 c23
        refine lv_iconst (v := (-1)) hx hb d_Mo_bend_26 (by decide) ?_
        exact W.iret (v := (-1)) hx hb hr (fun t ht hW => ⟨⟨(-1), (0, f_t_bends), rfl, hw, by rw [ht]; exact hP, va_K.moved hW.alike hK, hD⟩, hS.F ht⟩) hS.2.2 d_Mo_bend_27
