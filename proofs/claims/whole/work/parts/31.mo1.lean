theorem d_Mo_position_0 : decode b_Mo_position 0 = .ok (.aload_n 0, 1) := by decide +kernel
theorem d_Mo_position_1 : decode b_Mo_position 1 = .ok (.aload_n 0, 1) := by decide +kernel
theorem d_Mo_position_2 : decode b_Mo_position 2 = .ok (.iload_n 1, 1) := by decide +kernel
theorem d_Mo_position_3 : decode b_Mo_position 3 = .ok (.invokevirtual 85, 3) := by decide +kernel
theorem d_Mo_position_6 : decode b_Mo_position 6 = .ok (.ifCond .eq 7, 3) := by decide +kernel
theorem d_Mo_position_9 : decode b_Mo_position 9 = .ok (.iconst 0, 1) := by decide +kernel
theorem d_Mo_position_10 : decode b_Mo_position 10 = .ok (.goto 4, 3) := by decide +kernel
theorem d_Mo_position_13 : decode b_Mo_position 13 = .ok (.iconst 1, 1) := by decide +kernel
theorem d_Mo_position_14 : decode b_Mo_position 14 = .ok (.putfield 72, 3) := by decide +kernel
theorem d_Mo_position_17 : decode b_Mo_position 17 = .ok (.aload_n 0, 1) := by decide +kernel
theorem d_Mo_position_18 : decode b_Mo_position 18 = .ok (.iload_n 1, 1) := by decide +kernel
theorem d_Mo_position_19 : decode b_Mo_position 19 = .ok (.invokevirtual 112, 3) := by decide +kernel
theorem d_Mo_position_22 : decode b_Mo_position 22 = .ok (.ifCond .eq 13, 3) := by decide +kernel
theorem d_Mo_position_25 : decode b_Mo_position 25 = .ok (.iload_n 2, 1) := by decide +kernel
theorem d_Mo_position_26 : decode b_Mo_position 26 = .ok (.ifCond .lt 9, 3) := by decide +kernel
theorem d_Mo_position_29 : decode b_Mo_position 29 = .ok (.iload_n 2, 1) := by decide +kernel
theorem d_Mo_position_30 : decode b_Mo_position 30 = .ok (.bipush 9, 2) := by decide +kernel
theorem d_Mo_position_32 : decode b_Mo_position 32 = .ok (.if_icmp .le 5, 3) := by decide +kernel
theorem d_Mo_position_35 : decode b_Mo_position 35 = .ok (.iconst 0, 1) := by decide +kernel
theorem d_Mo_position_36 : decode b_Mo_position 36 = .ok (.ireturn, 1) := by decide +kernel
theorem d_Mo_position_37 : decode b_Mo_position 37 = .ok (.aload_n 0, 1) := by decide +kernel
theorem d_Mo_position_38 : decode b_Mo_position 38 = .ok (.getfield 26, 3) := by decide +kernel
theorem d_Mo_position_41 : decode b_Mo_position 41 = .ok (.iload_n 1, 1) := by decide +kernel
theorem d_Mo_position_42 : decode b_Mo_position 42 = .ok (.iload_n 2, 1) := by decide +kernel
theorem d_Mo_position_43 : decode b_Mo_position 43 = .ok (.iastore, 1) := by decide +kernel
theorem d_Mo_position_44 : decode b_Mo_position 44 = .ok (.iconst 1, 1) := by decide +kernel
theorem d_Mo_position_45 : decode b_Mo_position 45 = .ok (.ireturn, 1) := by decide +kernel
theorem d_Mo_sensor_0 : decode b_Mo_sensor 0 = .ok (.aload_n 0, 1) := by decide +kernel
theorem d_Mo_sensor_1 : decode b_Mo_sensor 1 = .ok (.iconst 0, 1) := by decide +kernel
theorem d_Mo_sensor_2 : decode b_Mo_sensor 2 = .ok (.putfield 72, 3) := by decide +kernel
theorem d_Mo_sensor_5 : decode b_Mo_sensor 5 = .ok (.aload_n 0, 1) := by decide +kernel
theorem d_Mo_sensor_6 : decode b_Mo_sensor 6 = .ok (.iload_n 1, 1) := by decide +kernel
theorem d_Mo_sensor_7 : decode b_Mo_sensor 7 = .ok (.invokevirtual 112, 3) := by decide +kernel
theorem d_Mo_sensor_10 : decode b_Mo_sensor 10 = .ok (.ifCond .eq 13, 3) := by decide +kernel
theorem d_Mo_sensor_13 : decode b_Mo_sensor 13 = .ok (.iload_n 2, 1) := by decide +kernel
theorem d_Mo_sensor_14 : decode b_Mo_sensor 14 = .ok (.ifCond .lt 9, 3) := by decide +kernel
theorem d_Mo_sensor_17 : decode b_Mo_sensor 17 = .ok (.iload_n 2, 1) := by decide +kernel
theorem d_Mo_sensor_18 : decode b_Mo_sensor 18 = .ok (.bipush 9, 2) := by decide +kernel
theorem d_Mo_sensor_20 : decode b_Mo_sensor 20 = .ok (.if_icmp .le 5, 3) := by decide +kernel
theorem d_Mo_sensor_23 : decode b_Mo_sensor 23 = .ok (.iconst 0, 1) := by decide +kernel
theorem d_Mo_sensor_24 : decode b_Mo_sensor 24 = .ok (.ireturn, 1) := by decide +kernel
theorem d_Mo_sensor_25 : decode b_Mo_sensor 25 = .ok (.aload_n 0, 1) := by decide +kernel
theorem d_Mo_sensor_26 : decode b_Mo_sensor 26 = .ok (.getfield 29, 3) := by decide +kernel
theorem d_Mo_sensor_29 : decode b_Mo_sensor 29 = .ok (.iload_n 1, 1) := by decide +kernel
theorem d_Mo_sensor_30 : decode b_Mo_sensor 30 = .ok (.iload_n 2, 1) := by decide +kernel
theorem d_Mo_sensor_31 : decode b_Mo_sensor 31 = .ok (.iastore, 1) := by decide +kernel
theorem d_Mo_sensor_32 : decode b_Mo_sensor 32 = .ok (.iconst 1, 1) := by decide +kernel
theorem d_Mo_sensor_33 : decode b_Mo_sensor 33 = .ok (.ireturn, 1) := by decide +kernel
theorem d_Mo_unsure_0 : decode b_Mo_unsure 0 = .ok (.aload_n 0, 1) := by decide +kernel
theorem d_Mo_unsure_1 : decode b_Mo_unsure 1 = .ok (.iconst 0, 1) := by decide +kernel
theorem d_Mo_unsure_2 : decode b_Mo_unsure 2 = .ok (.putfield 72, 3) := by decide +kernel
theorem d_Mo_unsure_5 : decode b_Mo_unsure 5 = .ok (.aload_n 0, 1) := by decide +kernel
theorem d_Mo_unsure_6 : decode b_Mo_unsure 6 = .ok (.iload_n 1, 1) := by decide +kernel
theorem d_Mo_unsure_7 : decode b_Mo_unsure 7 = .ok (.invokevirtual 112, 3) := by decide +kernel
theorem d_Mo_unsure_10 : decode b_Mo_unsure 10 = .ok (.ifCond .eq 32, 3) := by decide +kernel
theorem d_Mo_unsure_13 : decode b_Mo_unsure 13 = .ok (.aload_n 0, 1) := by decide +kernel
theorem d_Mo_unsure_14 : decode b_Mo_unsure 14 = .ok (.getfield 29, 3) := by decide +kernel
theorem d_Mo_unsure_17 : decode b_Mo_unsure 17 = .ok (.iload_n 1, 1) := by decide +kernel
theorem d_Mo_unsure_18 : decode b_Mo_unsure 18 = .ok (.iaload, 1) := by decide +kernel
theorem d_Mo_unsure_19 : decode b_Mo_unsure 19 = .ok (.iconst (-1), 1) := by decide +kernel
theorem d_Mo_unsure_20 : decode b_Mo_unsure 20 = .ok (.if_icmp .eq 22, 3) := by decide +kernel
theorem d_Mo_unsure_23 : decode b_Mo_unsure 23 = .ok (.aload_n 0, 1) := by decide +kernel
theorem d_Mo_unsure_24 : decode b_Mo_unsure 24 = .ok (.getfield 29, 3) := by decide +kernel
theorem d_Mo_unsure_27 : decode b_Mo_unsure 27 = .ok (.iload_n 1, 1) := by decide +kernel
theorem d_Mo_unsure_28 : decode b_Mo_unsure 28 = .ok (.iaload, 1) := by decide +kernel
theorem d_Mo_unsure_29 : decode b_Mo_unsure 29 = .ok (.aload_n 0, 1) := by decide +kernel
theorem d_Mo_unsure_30 : decode b_Mo_unsure 30 = .ok (.getfield 26, 3) := by decide +kernel
theorem d_Mo_unsure_33 : decode b_Mo_unsure 33 = .ok (.iload_n 1, 1) := by decide +kernel
theorem d_Mo_unsure_34 : decode b_Mo_unsure 34 = .ok (.iaload, 1) := by decide +kernel
theorem d_Mo_unsure_35 : decode b_Mo_unsure 35 = .ok (.if_icmp .eq 7, 3) := by decide +kernel
theorem d_Mo_unsure_38 : decode b_Mo_unsure 38 = .ok (.iconst 1, 1) := by decide +kernel
theorem d_Mo_unsure_39 : decode b_Mo_unsure 39 = .ok (.goto 4, 3) := by decide +kernel
theorem d_Mo_unsure_42 : decode b_Mo_unsure 42 = .ok (.iconst 0, 1) := by decide +kernel
theorem d_Mo_unsure_43 : decode b_Mo_unsure 43 = .ok (.ireturn, 1) := by decide +kernel
theorem d_Mo_content_0 : decode b_Mo_content 0 = .ok (.aload_n 0, 1) := by decide +kernel
theorem d_Mo_content_1 : decode b_Mo_content 1 = .ok (.iconst 0, 1) := by decide +kernel
theorem d_Mo_content_2 : decode b_Mo_content 2 = .ok (.putfield 72, 3) := by decide +kernel
theorem d_Mo_content_5 : decode b_Mo_content 5 = .ok (.aload_n 0, 1) := by decide +kernel
theorem d_Mo_content_6 : decode b_Mo_content 6 = .ok (.iload_n 1, 1) := by decide +kernel
theorem d_Mo_content_7 : decode b_Mo_content 7 = .ok (.invokevirtual 105, 3) := by decide +kernel
theorem d_Mo_content_10 : decode b_Mo_content 10 = .ok (.ifCond .ne 5, 3) := by decide +kernel
theorem d_Mo_content_13 : decode b_Mo_content 13 = .ok (.iconst (-1), 1) := by decide +kernel
theorem d_Mo_content_14 : decode b_Mo_content 14 = .ok (.ireturn, 1) := by decide +kernel
theorem d_Mo_content_15 : decode b_Mo_content 15 = .ok (.aload_n 0, 1) := by decide +kernel
theorem d_Mo_content_16 : decode b_Mo_content 16 = .ok (.getfield 38, 3) := by decide +kernel
theorem d_Mo_content_19 : decode b_Mo_content 19 = .ok (.sipush 200, 3) := by decide +kernel
theorem d_Mo_content_22 : decode b_Mo_content 22 = .ok (.iload_n 1, 1) := by decide +kernel
theorem d_Mo_content_23 : decode b_Mo_content 23 = .ok (.imul, 1) := by decide +kernel
theorem d_Mo_content_24 : decode b_Mo_content 24 = .ok (.baload, 1) := by decide +kernel
theorem d_Mo_content_25 : decode b_Mo_content 25 = .ok (.istore_n 2, 1) := by decide +kernel
theorem d_Mo_content_26 : decode b_Mo_content 26 = .ok (.iconst 1, 1) := by decide +kernel
theorem d_Mo_content_27 : decode b_Mo_content 27 = .ok (.istore_n 3, 1) := by decide +kernel
theorem d_Mo_content_28 : decode b_Mo_content 28 = .ok (.iload_n 3, 1) := by decide +kernel
theorem d_Mo_content_29 : decode b_Mo_content 29 = .ok (.aload_n 0, 1) := by decide +kernel
theorem d_Mo_content_30 : decode b_Mo_content 30 = .ok (.getfield 35, 3) := by decide +kernel
theorem d_Mo_content_33 : decode b_Mo_content 33 = .ok (.iload_n 1, 1) := by decide +kernel
theorem d_Mo_content_34 : decode b_Mo_content 34 = .ok (.iaload, 1) := by decide +kernel
theorem d_Mo_content_35 : decode b_Mo_content 35 = .ok (.if_icmp .ge 28, 3) := by decide +kernel
theorem d_Mo_content_38 : decode b_Mo_content 38 = .ok (.aload_n 0, 1) := by decide +kernel
theorem d_Mo_content_39 : decode b_Mo_content 39 = .ok (.getfield 38, 3) := by decide +kernel
theorem d_Mo_content_42 : decode b_Mo_content 42 = .ok (.sipush 200, 3) := by decide +kernel
theorem d_Mo_content_45 : decode b_Mo_content 45 = .ok (.iload_n 1, 1) := by decide +kernel
theorem d_Mo_content_46 : decode b_Mo_content 46 = .ok (.imul, 1) := by decide +kernel
theorem d_Mo_content_47 : decode b_Mo_content 47 = .ok (.iload_n 3, 1) := by decide +kernel
theorem d_Mo_content_48 : decode b_Mo_content 48 = .ok (.iadd, 1) := by decide +kernel
theorem d_Mo_content_49 : decode b_Mo_content 49 = .ok (.baload, 1) := by decide +kernel
theorem d_Mo_content_50 : decode b_Mo_content 50 = .ok (.iload_n 2, 1) := by decide +kernel
theorem d_Mo_content_51 : decode b_Mo_content 51 = .ok (.if_icmp .eq 6, 3) := by decide +kernel
theorem d_Mo_content_54 : decode b_Mo_content 54 = .ok (.bipush 15, 2) := by decide +kernel
theorem d_Mo_content_56 : decode b_Mo_content 56 = .ok (.ireturn, 1) := by decide +kernel
theorem d_Mo_content_57 : decode b_Mo_content 57 = .ok (.iinc 3 1, 3) := by decide +kernel
theorem d_Mo_content_60 : decode b_Mo_content 60 = .ok (.goto (-32), 3) := by decide +kernel
theorem d_Mo_content_63 : decode b_Mo_content 63 = .ok (.iload_n 2, 1) := by decide +kernel
theorem d_Mo_content_64 : decode b_Mo_content 64 = .ok (.ireturn, 1) := by decide +kernel
theorem d_Mo_come_0 : decode b_Mo_come 0 = .ok (.aload_n 0, 1) := by decide +kernel
theorem d_Mo_come_1 : decode b_Mo_come 1 = .ok (.getfield 23, 3) := by decide +kernel
theorem d_Mo_come_4 : decode b_Mo_come 4 = .ok (.iload_n 1, 1) := by decide +kernel
theorem d_Mo_come_5 : decode b_Mo_come 5 = .ok (.aload_n 0, 1) := by decide +kernel
theorem d_Mo_come_6 : decode b_Mo_come 6 = .ok (.getfield 20, 3) := by decide +kernel
theorem d_Mo_come_9 : decode b_Mo_come 9 = .ok (.iload_n 1, 1) := by decide +kernel
theorem d_Mo_come_10 : decode b_Mo_come 10 = .ok (.laload, 1) := by decide +kernel
theorem d_Mo_come_11 : decode b_Mo_come 11 = .ok (.lconst 0, 1) := by decide +kernel
theorem d_Mo_come_12 : decode b_Mo_come 12 = .ok (.lcmp, 1) := by decide +kernel
theorem d_Mo_come_13 : decode b_Mo_come 13 = .ok (.ifCond .eq 13, 3) := by decide +kernel
theorem d_Mo_come_16 : decode b_Mo_come 16 = .ok (.aload_n 0, 1) := by decide +kernel
theorem d_Mo_come_17 : decode b_Mo_come 17 = .ok (.getfield 23, 3) := by decide +kernel
theorem d_Mo_come_20 : decode b_Mo_come 20 = .ok (.iload_n 1, 1) := by decide +kernel
theorem d_Mo_come_21 : decode b_Mo_come 21 = .ok (.iaload, 1) := by decide +kernel
theorem d_Mo_come_22 : decode b_Mo_come 22 = .ok (.iload_n 2, 1) := by decide +kernel
theorem d_Mo_come_23 : decode b_Mo_come 23 = .ok (.if_icmp .ne 7, 3) := by decide +kernel
theorem d_Mo_come_26 : decode b_Mo_come 26 = .ok (.iload_n 2, 1) := by decide +kernel
theorem d_Mo_come_27 : decode b_Mo_come 27 = .ok (.goto 5, 3) := by decide +kernel
theorem d_Mo_come_30 : decode b_Mo_come 30 = .ok (.bipush 15, 2) := by decide +kernel
theorem d_Mo_come_32 : decode b_Mo_come 32 = .ok (.iastore, 1) := by decide +kernel
theorem d_Mo_come_33 : decode b_Mo_come 33 = .ok (.aload_n 0, 1) := by decide +kernel
theorem d_Mo_come_34 : decode b_Mo_come 34 = .ok (.getfield 20, 3) := by decide +kernel
theorem d_Mo_come_37 : decode b_Mo_come 37 = .ok (.iload_n 1, 1) := by decide +kernel
theorem d_Mo_come_38 : decode b_Mo_come 38 = .ok (.dup2, 1) := by decide +kernel
theorem d_Mo_come_39 : decode b_Mo_come 39 = .ok (.laload, 1) := by decide +kernel
theorem d_Mo_come_40 : decode b_Mo_come 40 = .ok (.lload_n 3, 1) := by decide +kernel
theorem d_Mo_come_41 : decode b_Mo_come 41 = .ok (.ladd, 1) := by decide +kernel
theorem d_Mo_come_42 : decode b_Mo_come 42 = .ok (.lastore, 1) := by decide +kernel
theorem d_Mo_come_43 : decode b_Mo_come 43 = .ok (.return_, 1) := by decide +kernel
theorem d_Mo_fill_0 : decode b_Mo_fill 0 = .ok (.aload_n 0, 1) := by decide +kernel
theorem d_Mo_fill_1 : decode b_Mo_fill 1 = .ok (.iconst 0, 1) := by decide +kernel
theorem d_Mo_fill_2 : decode b_Mo_fill 2 = .ok (.putfield 72, 3) := by decide +kernel
theorem d_Mo_fill_5 : decode b_Mo_fill 5 = .ok (.aload_n 0, 1) := by decide +kernel
theorem d_Mo_fill_6 : decode b_Mo_fill 6 = .ok (.iload_n 1, 1) := by decide +kernel
theorem d_Mo_fill_7 : decode b_Mo_fill 7 = .ok (.invokevirtual 115, 3) := by decide +kernel
theorem d_Mo_fill_10 : decode b_Mo_fill 10 = .ok (.ifCond .eq 46, 3) := by decide +kernel
theorem d_Mo_fill_13 : decode b_Mo_fill 13 = .ok (.iload_n 2, 1) := by decide +kernel
theorem d_Mo_fill_14 : decode b_Mo_fill 14 = .ok (.iconst 1, 1) := by decide +kernel
theorem d_Mo_fill_15 : decode b_Mo_fill 15 = .ok (.if_icmp .lt 41, 3) := by decide +kernel
theorem d_Mo_fill_18 : decode b_Mo_fill 18 = .ok (.iload_n 2, 1) := by decide +kernel
theorem d_Mo_fill_19 : decode b_Mo_fill 19 = .ok (.bipush 15, 2) := by decide +kernel
theorem d_Mo_fill_21 : decode b_Mo_fill 21 = .ok (.if_icmp .ge 35, 3) := by decide +kernel
theorem d_Mo_fill_24 : decode b_Mo_fill 24 = .ok (.lload_n 3, 1) := by decide +kernel
theorem d_Mo_fill_25 : decode b_Mo_fill 25 = .ok (.lconst 1, 1) := by decide +kernel
theorem d_Mo_fill_26 : decode b_Mo_fill 26 = .ok (.lcmp, 1) := by decide +kernel
theorem d_Mo_fill_27 : decode b_Mo_fill 27 = .ok (.ifCond .lt 29, 3) := by decide +kernel
theorem d_Mo_fill_30 : decode b_Mo_fill 30 = .ok (.lload_n 3, 1) := by decide +kernel
theorem d_Mo_fill_31 : decode b_Mo_fill 31 = .ok (.ldc2_w 79, 3) := by decide +kernel
theorem d_Mo_fill_34 : decode b_Mo_fill 34 = .ok (.lcmp, 1) := by decide +kernel
theorem d_Mo_fill_35 : decode b_Mo_fill 35 = .ok (.ifCond .gt 21, 3) := by decide +kernel
theorem d_Mo_fill_38 : decode b_Mo_fill 38 = .ok (.aload_n 0, 1) := by decide +kernel
theorem d_Mo_fill_39 : decode b_Mo_fill 39 = .ok (.getfield 20, 3) := by decide +kernel
theorem d_Mo_fill_42 : decode b_Mo_fill 42 = .ok (.iload_n 1, 1) := by decide +kernel
theorem d_Mo_fill_43 : decode b_Mo_fill 43 = .ok (.laload, 1) := by decide +kernel
theorem d_Mo_fill_44 : decode b_Mo_fill 44 = .ok (.lload_n 3, 1) := by decide +kernel
theorem d_Mo_fill_45 : decode b_Mo_fill 45 = .ok (.ladd, 1) := by decide +kernel
theorem d_Mo_fill_46 : decode b_Mo_fill 46 = .ok (.aload_n 0, 1) := by decide +kernel
theorem d_Mo_fill_47 : decode b_Mo_fill 47 = .ok (.getfield 16, 3) := by decide +kernel
theorem d_Mo_fill_50 : decode b_Mo_fill 50 = .ok (.iload_n 1, 1) := by decide +kernel
theorem d_Mo_fill_51 : decode b_Mo_fill 51 = .ok (.laload, 1) := by decide +kernel
theorem d_Mo_fill_52 : decode b_Mo_fill 52 = .ok (.lcmp, 1) := by decide +kernel
theorem d_Mo_fill_53 : decode b_Mo_fill 53 = .ok (.ifCond .le 5, 3) := by decide +kernel
theorem d_Mo_fill_56 : decode b_Mo_fill 56 = .ok (.iconst 0, 1) := by decide +kernel
theorem d_Mo_fill_57 : decode b_Mo_fill 57 = .ok (.ireturn, 1) := by decide +kernel
theorem d_Mo_fill_58 : decode b_Mo_fill 58 = .ok (.aload_n 0, 1) := by decide +kernel
theorem d_Mo_fill_59 : decode b_Mo_fill 59 = .ok (.iload_n 1, 1) := by decide +kernel
theorem d_Mo_fill_60 : decode b_Mo_fill 60 = .ok (.iload_n 2, 1) := by decide +kernel
theorem d_Mo_fill_61 : decode b_Mo_fill 61 = .ok (.lload_n 3, 1) := by decide +kernel
theorem d_Mo_fill_62 : decode b_Mo_fill 62 = .ok (.invokevirtual 118, 3) := by decide +kernel
theorem d_Mo_fill_65 : decode b_Mo_fill 65 = .ok (.iconst 1, 1) := by decide +kernel
theorem d_Mo_fill_66 : decode b_Mo_fill 66 = .ok (.ireturn, 1) := by decide +kernel
theorem d_Mo_passes_0 : decode b_Mo_passes 0 = .ok (.iload_n 2, 1) := by decide +kernel
theorem d_Mo_passes_1 : decode b_Mo_passes 1 = .ok (.iload_n 3, 1) := by decide +kernel
theorem d_Mo_passes_2 : decode b_Mo_passes 2 = .ok (.if_icmp .ge 7, 3) := by decide +kernel
theorem d_Mo_passes_5 : decode b_Mo_passes 5 = .ok (.iload_n 2, 1) := by decide +kernel
theorem d_Mo_passes_6 : decode b_Mo_passes 6 = .ok (.goto 4, 3) := by decide +kernel
theorem d_Mo_passes_9 : decode b_Mo_passes 9 = .ok (.iload_n 3, 1) := by decide +kernel
theorem d_Mo_passes_10 : decode b_Mo_passes 10 = .ok (.istore 4, 2) := by decide +kernel
theorem d_Mo_passes_12 : decode b_Mo_passes 12 = .ok (.iload_n 2, 1) := by decide +kernel
theorem d_Mo_passes_13 : decode b_Mo_passes 13 = .ok (.iload_n 3, 1) := by decide +kernel
theorem d_Mo_passes_14 : decode b_Mo_passes 14 = .ok (.if_icmp .ge 7, 3) := by decide +kernel
theorem d_Mo_passes_17 : decode b_Mo_passes 17 = .ok (.iload_n 3, 1) := by decide +kernel
theorem d_Mo_passes_18 : decode b_Mo_passes 18 = .ok (.goto 4, 3) := by decide +kernel
theorem d_Mo_passes_21 : decode b_Mo_passes 21 = .ok (.iload_n 2, 1) := by decide +kernel
theorem d_Mo_passes_22 : decode b_Mo_passes 22 = .ok (.istore 5, 2) := by decide +kernel
theorem d_Mo_passes_24 : decode b_Mo_passes 24 = .ok (.iload 4, 2) := by decide +kernel
theorem d_Mo_passes_26 : decode b_Mo_passes 26 = .ok (.ifCond .ne 9, 3) := by decide +kernel
theorem d_Mo_passes_29 : decode b_Mo_passes 29 = .ok (.iload 5, 2) := by decide +kernel
theorem d_Mo_passes_31 : decode b_Mo_passes 31 = .ok (.iconst 1, 1) := by decide +kernel
theorem d_Mo_passes_32 : decode b_Mo_passes 32 = .ok (.if_icmp .eq 15, 3) := by decide +kernel
theorem d_Mo_passes_35 : decode b_Mo_passes 35 = .ok (.iload 4, 2) := by decide +kernel
theorem d_Mo_passes_37 : decode b_Mo_passes 37 = .ok (.iconst 2, 1) := by decide +kernel
theorem d_Mo_passes_38 : decode b_Mo_passes 38 = .ok (.if_icmp .ne 13, 3) := by decide +kernel
theorem d_Mo_passes_41 : decode b_Mo_passes 41 = .ok (.iload 5, 2) := by decide +kernel
theorem d_Mo_passes_43 : decode b_Mo_passes 43 = .ok (.iconst 3, 1) := by decide +kernel
theorem d_Mo_passes_44 : decode b_Mo_passes 44 = .ok (.if_icmp .ne 7, 3) := by decide +kernel
theorem d_Mo_passes_47 : decode b_Mo_passes 47 = .ok (.iconst 1, 1) := by decide +kernel
theorem d_Mo_passes_48 : decode b_Mo_passes 48 = .ok (.goto 4, 3) := by decide +kernel
theorem d_Mo_passes_51 : decode b_Mo_passes 51 = .ok (.iconst 0, 1) := by decide +kernel
theorem d_Mo_passes_52 : decode b_Mo_passes 52 = .ok (.istore 6, 2) := by decide +kernel
theorem d_Mo_passes_54 : decode b_Mo_passes 54 = .ok (.iload_n 0, 1) := by decide +kernel
theorem d_Mo_passes_55 : decode b_Mo_passes 55 = .ok (.tableswitch 230 0 8 #[49, 60, 84, 132, 142, 230, 162, 205, 215], 49) := by decide +kernel
theorem d_Mo_passes_104 : decode b_Mo_passes 104 = .ok (.iload_n 1, 1) := by decide +kernel
theorem d_Mo_passes_105 : decode b_Mo_passes 105 = .ok (.iconst 1, 1) := by decide +kernel
theorem d_Mo_passes_106 : decode b_Mo_passes 106 = .ok (.if_icmp .ne 7, 3) := by decide +kernel
theorem d_Mo_passes_109 : decode b_Mo_passes 109 = .ok (.iconst 1, 1) := by decide +kernel
theorem d_Mo_passes_110 : decode b_Mo_passes 110 = .ok (.goto 4, 3) := by decide +kernel
theorem d_Mo_passes_113 : decode b_Mo_passes 113 = .ok (.iconst 0, 1) := by decide +kernel
theorem d_Mo_passes_114 : decode b_Mo_passes 114 = .ok (.ireturn, 1) := by decide +kernel
theorem d_Mo_passes_115 : decode b_Mo_passes 115 = .ok (.iload_n 1, 1) := by decide +kernel
theorem d_Mo_passes_116 : decode b_Mo_passes 116 = .ok (.iconst 2, 1) := by decide +kernel
theorem d_Mo_passes_117 : decode b_Mo_passes 117 = .ok (.if_icmp .ge 20, 3) := by decide +kernel
theorem d_Mo_passes_120 : decode b_Mo_passes 120 = .ok (.iload 4, 2) := by decide +kernel
theorem d_Mo_passes_122 : decode b_Mo_passes 122 = .ok (.ifCond .ne 15, 3) := by decide +kernel
theorem d_Mo_passes_125 : decode b_Mo_passes 125 = .ok (.iload 5, 2) := by decide +kernel
theorem d_Mo_passes_127 : decode b_Mo_passes 127 = .ok (.iload_n 1, 1) := by decide +kernel
theorem d_Mo_passes_128 : decode b_Mo_passes 128 = .ok (.iconst 1, 1) := by decide +kernel
theorem d_Mo_passes_129 : decode b_Mo_passes 129 = .ok (.iadd, 1) := by decide +kernel
theorem d_Mo_passes_130 : decode b_Mo_passes 130 = .ok (.if_icmp .ne 7, 3) := by decide +kernel
theorem d_Mo_passes_133 : decode b_Mo_passes 133 = .ok (.iconst 1, 1) := by decide +kernel
theorem d_Mo_passes_134 : decode b_Mo_passes 134 = .ok (.goto 4, 3) := by decide +kernel
theorem d_Mo_passes_137 : decode b_Mo_passes 137 = .ok (.iconst 0, 1) := by decide +kernel
theorem d_Mo_passes_138 : decode b_Mo_passes 138 = .ok (.ireturn, 1) := by decide +kernel
theorem d_Mo_passes_139 : decode b_Mo_passes 139 = .ok (.iload_n 1, 1) := by decide +kernel
theorem d_Mo_passes_140 : decode b_Mo_passes 140 = .ok (.ifCond .eq 41, 3) := by decide +kernel
theorem d_Mo_passes_143 : decode b_Mo_passes 143 = .ok (.iload_n 1, 1) := by decide +kernel
theorem d_Mo_passes_144 : decode b_Mo_passes 144 = .ok (.iconst 1, 1) := by decide +kernel
theorem d_Mo_passes_145 : decode b_Mo_passes 145 = .ok (.if_icmp .ne 9, 3) := by decide +kernel
theorem d_Mo_passes_148 : decode b_Mo_passes 148 = .ok (.iload 5, 2) := by decide +kernel
theorem d_Mo_passes_150 : decode b_Mo_passes 150 = .ok (.iconst 1, 1) := by decide +kernel
theorem d_Mo_passes_151 : decode b_Mo_passes 151 = .ok (.if_icmp .eq 30, 3) := by decide +kernel
theorem d_Mo_passes_154 : decode b_Mo_passes 154 = .ok (.iload_n 1, 1) := by decide +kernel
theorem d_Mo_passes_155 : decode b_Mo_passes 155 = .ok (.iconst 2, 1) := by decide +kernel
theorem d_Mo_passes_156 : decode b_Mo_passes 156 = .ok (.if_icmp .ne 14, 3) := by decide +kernel
theorem d_Mo_passes_159 : decode b_Mo_passes 159 = .ok (.iload 4, 2) := by decide +kernel
theorem d_Mo_passes_161 : decode b_Mo_passes 161 = .ok (.ifCond .ne 9, 3) := by decide +kernel
theorem d_Mo_passes_164 : decode b_Mo_passes 164 = .ok (.iload 5, 2) := by decide +kernel
theorem d_Mo_passes_166 : decode b_Mo_passes 166 = .ok (.iconst 2, 1) := by decide +kernel
theorem d_Mo_passes_167 : decode b_Mo_passes 167 = .ok (.if_icmp .eq 14, 3) := by decide +kernel
theorem d_Mo_passes_170 : decode b_Mo_passes 170 = .ok (.iload_n 1, 1) := by decide +kernel
theorem d_Mo_passes_171 : decode b_Mo_passes 171 = .ok (.iconst 3, 1) := by decide +kernel
theorem d_Mo_passes_172 : decode b_Mo_passes 172 = .ok (.if_icmp .ne 13, 3) := by decide +kernel
theorem d_Mo_passes_175 : decode b_Mo_passes 175 = .ok (.iload 4, 2) := by decide +kernel
theorem d_Mo_passes_177 : decode b_Mo_passes 177 = .ok (.iconst 1, 1) := by decide +kernel
theorem d_Mo_passes_178 : decode b_Mo_passes 178 = .ok (.if_icmp .ne 7, 3) := by decide +kernel
theorem d_Mo_passes_181 : decode b_Mo_passes 181 = .ok (.iconst 1, 1) := by decide +kernel
theorem d_Mo_passes_182 : decode b_Mo_passes 182 = .ok (.goto 4, 3) := by decide +kernel
theorem d_Mo_passes_185 : decode b_Mo_passes 185 = .ok (.iconst 0, 1) := by decide +kernel
theorem d_Mo_passes_186 : decode b_Mo_passes 186 = .ok (.ireturn, 1) := by decide +kernel
theorem d_Mo_passes_187 : decode b_Mo_passes 187 = .ok (.iload_n 2, 1) := by decide +kernel
theorem d_Mo_passes_188 : decode b_Mo_passes 188 = .ok (.ifCond .ne 7, 3) := by decide +kernel
theorem d_Mo_passes_191 : decode b_Mo_passes 191 = .ok (.iconst 1, 1) := by decide +kernel
theorem d_Mo_passes_192 : decode b_Mo_passes 192 = .ok (.goto 4, 3) := by decide +kernel
theorem d_Mo_passes_195 : decode b_Mo_passes 195 = .ok (.iconst 0, 1) := by decide +kernel
theorem d_Mo_passes_196 : decode b_Mo_passes 196 = .ok (.ireturn, 1) := by decide +kernel
theorem d_Mo_passes_197 : decode b_Mo_passes 197 = .ok (.iload_n 1, 1) := by decide +kernel
theorem d_Mo_passes_198 : decode b_Mo_passes 198 = .ok (.iconst 1, 1) := by decide +kernel
theorem d_Mo_passes_199 : decode b_Mo_passes 199 = .ok (.if_icmp .eq 12, 3) := by decide +kernel
theorem d_Mo_passes_202 : decode b_Mo_passes 202 = .ok (.iload_n 1, 1) := by decide +kernel
theorem d_Mo_passes_203 : decode b_Mo_passes 203 = .ok (.ifCond .ne 12, 3) := by decide +kernel
theorem d_Mo_passes_206 : decode b_Mo_passes 206 = .ok (.iload 6, 2) := by decide +kernel
theorem d_Mo_passes_208 : decode b_Mo_passes 208 = .ok (.ifCond .eq 7, 3) := by decide +kernel
theorem d_Mo_passes_211 : decode b_Mo_passes 211 = .ok (.iconst 1, 1) := by decide +kernel
theorem d_Mo_passes_212 : decode b_Mo_passes 212 = .ok (.goto 4, 3) := by decide +kernel
theorem d_Mo_passes_215 : decode b_Mo_passes 215 = .ok (.iconst 0, 1) := by decide +kernel
theorem d_Mo_passes_216 : decode b_Mo_passes 216 = .ok (.ireturn, 1) := by decide +kernel
theorem d_Mo_passes_217 : decode b_Mo_passes 217 = .ok (.iload_n 1, 1) := by decide +kernel
theorem d_Mo_passes_218 : decode b_Mo_passes 218 = .ok (.ifCond .ne 8, 3) := by decide +kernel
theorem d_Mo_passes_221 : decode b_Mo_passes 221 = .ok (.iload 6, 2) := by decide +kernel
theorem d_Mo_passes_223 : decode b_Mo_passes 223 = .ok (.ifCond .ne 31, 3) := by decide +kernel
theorem d_Mo_passes_226 : decode b_Mo_passes 226 = .ok (.iload_n 1, 1) := by decide +kernel
theorem d_Mo_passes_227 : decode b_Mo_passes 227 = .ok (.iconst 1, 1) := by decide +kernel
theorem d_Mo_passes_228 : decode b_Mo_passes 228 = .ok (.if_icmp .ne 30, 3) := by decide +kernel
theorem d_Mo_passes_231 : decode b_Mo_passes 231 = .ok (.iload 4, 2) := by decide +kernel
theorem d_Mo_passes_233 : decode b_Mo_passes 233 = .ok (.ifCond .ne 9, 3) := by decide +kernel
theorem d_Mo_passes_236 : decode b_Mo_passes 236 = .ok (.iload 5, 2) := by decide +kernel
theorem d_Mo_passes_238 : decode b_Mo_passes 238 = .ok (.iconst 3, 1) := by decide +kernel
theorem d_Mo_passes_239 : decode b_Mo_passes 239 = .ok (.if_icmp .eq 15, 3) := by decide +kernel
theorem d_Mo_passes_242 : decode b_Mo_passes 242 = .ok (.iload 4, 2) := by decide +kernel
theorem d_Mo_passes_244 : decode b_Mo_passes 244 = .ok (.iconst 1, 1) := by decide +kernel
theorem d_Mo_passes_245 : decode b_Mo_passes 245 = .ok (.if_icmp .ne 13, 3) := by decide +kernel
theorem d_Mo_passes_248 : decode b_Mo_passes 248 = .ok (.iload 5, 2) := by decide +kernel
theorem d_Mo_passes_250 : decode b_Mo_passes 250 = .ok (.iconst 2, 1) := by decide +kernel
theorem d_Mo_passes_251 : decode b_Mo_passes 251 = .ok (.if_icmp .ne 7, 3) := by decide +kernel
theorem d_Mo_passes_254 : decode b_Mo_passes 254 = .ok (.iconst 1, 1) := by decide +kernel
theorem d_Mo_passes_255 : decode b_Mo_passes 255 = .ok (.goto 4, 3) := by decide +kernel
theorem d_Mo_passes_258 : decode b_Mo_passes 258 = .ok (.iconst 0, 1) := by decide +kernel
theorem d_Mo_passes_259 : decode b_Mo_passes 259 = .ok (.ireturn, 1) := by decide +kernel
theorem d_Mo_passes_260 : decode b_Mo_passes 260 = .ok (.iload_n 1, 1) := by decide +kernel
theorem d_Mo_passes_261 : decode b_Mo_passes 261 = .ok (.ifCond .eq 7, 3) := by decide +kernel
theorem d_Mo_passes_264 : decode b_Mo_passes 264 = .ok (.iconst 1, 1) := by decide +kernel
theorem d_Mo_passes_265 : decode b_Mo_passes 265 = .ok (.goto 4, 3) := by decide +kernel
theorem d_Mo_passes_268 : decode b_Mo_passes 268 = .ok (.iconst 0, 1) := by decide +kernel
theorem d_Mo_passes_269 : decode b_Mo_passes 269 = .ok (.ireturn, 1) := by decide +kernel
theorem d_Mo_passes_270 : decode b_Mo_passes 270 = .ok (.iload_n 1, 1) := by decide +kernel
theorem d_Mo_passes_271 : decode b_Mo_passes 271 = .ok (.iconst 1, 1) := by decide +kernel
theorem d_Mo_passes_272 : decode b_Mo_passes 272 = .ok (.if_icmp .ne 11, 3) := by decide +kernel
theorem d_Mo_passes_275 : decode b_Mo_passes 275 = .ok (.iload_n 2, 1) := by decide +kernel
theorem d_Mo_passes_276 : decode b_Mo_passes 276 = .ok (.ifCond .ne 7, 3) := by decide +kernel
theorem d_Mo_passes_279 : decode b_Mo_passes 279 = .ok (.iconst 1, 1) := by decide +kernel
theorem d_Mo_passes_280 : decode b_Mo_passes 280 = .ok (.goto 4, 3) := by decide +kernel
theorem d_Mo_passes_283 : decode b_Mo_passes 283 = .ok (.iconst 0, 1) := by decide +kernel
theorem d_Mo_passes_284 : decode b_Mo_passes 284 = .ok (.ireturn, 1) := by decide +kernel
theorem d_Mo_passes_285 : decode b_Mo_passes 285 = .ok (.iconst 0, 1) := by decide +kernel
theorem d_Mo_passes_286 : decode b_Mo_passes 286 = .ok (.ireturn, 1) := by decide +kernel
theorem d_Mo_next_0 : decode b_Mo_next 0 = .ok (.aload_n 0, 1) := by decide +kernel
theorem d_Mo_next_1 : decode b_Mo_next 1 = .ok (.getfield 42, 3) := by decide +kernel
theorem d_Mo_next_4 : decode b_Mo_next 4 = .ok (.iload_n 1, 1) := by decide +kernel
theorem d_Mo_next_5 : decode b_Mo_next 5 = .ok (.iaload, 1) := by decide +kernel
theorem d_Mo_next_6 : decode b_Mo_next 6 = .ok (.istore_n 3, 1) := by decide +kernel
theorem d_Mo_next_7 : decode b_Mo_next 7 = .ok (.iload_n 3, 1) := by decide +kernel
theorem d_Mo_next_8 : decode b_Mo_next 8 = .ok (.iconst (-1), 1) := by decide +kernel
theorem d_Mo_next_9 : decode b_Mo_next 9 = .ok (.if_icmp .ne 18, 3) := by decide +kernel
theorem d_Mo_next_12 : decode b_Mo_next 12 = .ok (.iload_n 2, 1) := by decide +kernel
theorem d_Mo_next_13 : decode b_Mo_next 13 = .ok (.ifCond .ne 12, 3) := by decide +kernel
theorem d_Mo_next_16 : decode b_Mo_next 16 = .ok (.aload_n 0, 1) := by decide +kernel
theorem d_Mo_next_17 : decode b_Mo_next 17 = .ok (.getfield 48, 3) := by decide +kernel
theorem d_Mo_next_20 : decode b_Mo_next 20 = .ok (.iload_n 1, 1) := by decide +kernel
theorem d_Mo_next_21 : decode b_Mo_next 21 = .ok (.iaload, 1) := by decide +kernel
theorem d_Mo_next_22 : decode b_Mo_next 22 = .ok (.goto 4, 3) := by decide +kernel
theorem d_Mo_next_25 : decode b_Mo_next 25 = .ok (.iconst (-1), 1) := by decide +kernel
theorem d_Mo_next_26 : decode b_Mo_next 26 = .ok (.ireturn, 1) := by decide +kernel
theorem d_Mo_next_27 : decode b_Mo_next 27 = .ok (.aload_n 0, 1) := by decide +kernel
theorem d_Mo_next_28 : decode b_Mo_next 28 = .ok (.getfield 9, 3) := by decide +kernel
theorem d_Mo_next_31 : decode b_Mo_next 31 = .ok (.iload_n 3, 1) := by decide +kernel
theorem d_Mo_next_32 : decode b_Mo_next 32 = .ok (.iaload, 1) := by decide +kernel
theorem d_Mo_next_33 : decode b_Mo_next 33 = .ok (.ifCond .eq 27, 3) := by decide +kernel
theorem d_Mo_next_36 : decode b_Mo_next 36 = .ok (.aload_n 0, 1) := by decide +kernel
theorem d_Mo_next_37 : decode b_Mo_next 37 = .ok (.getfield 32, 3) := by decide +kernel
theorem d_Mo_next_40 : decode b_Mo_next 40 = .ok (.iconst 4, 1) := by decide +kernel
theorem d_Mo_next_41 : decode b_Mo_next 41 = .ok (.iload_n 3, 1) := by decide +kernel
theorem d_Mo_next_42 : decode b_Mo_next 42 = .ok (.imul, 1) := by decide +kernel
theorem d_Mo_next_43 : decode b_Mo_next 43 = .ok (.iload_n 2, 1) := by decide +kernel
theorem d_Mo_next_44 : decode b_Mo_next 44 = .ok (.iadd, 1) := by decide +kernel
theorem d_Mo_next_45 : decode b_Mo_next 45 = .ok (.iaload, 1) := by decide +kernel
theorem d_Mo_next_46 : decode b_Mo_next 46 = .ok (.iconst (-1), 1) := by decide +kernel
theorem d_Mo_next_47 : decode b_Mo_next 47 = .ok (.if_icmp .eq 13, 3) := by decide +kernel
theorem d_Mo_next_50 : decode b_Mo_next 50 = .ok (.iload_n 2, 1) := by decide +kernel
theorem d_Mo_next_51 : decode b_Mo_next 51 = .ok (.aload_n 0, 1) := by decide +kernel
theorem d_Mo_next_52 : decode b_Mo_next 52 = .ok (.getfield 45, 3) := by decide +kernel
theorem d_Mo_next_55 : decode b_Mo_next 55 = .ok (.iload_n 1, 1) := by decide +kernel
theorem d_Mo_next_56 : decode b_Mo_next 56 = .ok (.iaload, 1) := by decide +kernel
theorem d_Mo_next_57 : decode b_Mo_next 57 = .ok (.if_icmp .ne 5, 3) := by decide +kernel
theorem d_Mo_next_60 : decode b_Mo_next 60 = .ok (.iconst (-1), 1) := by decide +kernel
theorem d_Mo_next_61 : decode b_Mo_next 61 = .ok (.ireturn, 1) := by decide +kernel
theorem d_Mo_next_62 : decode b_Mo_next 62 = .ok (.aload_n 0, 1) := by decide +kernel
theorem d_Mo_next_63 : decode b_Mo_next 63 = .ok (.getfield 9, 3) := by decide +kernel
theorem d_Mo_next_66 : decode b_Mo_next 66 = .ok (.iload_n 3, 1) := by decide +kernel
theorem d_Mo_next_67 : decode b_Mo_next 67 = .ok (.iaload, 1) := by decide +kernel
theorem d_Mo_next_68 : decode b_Mo_next 68 = .ok (.iconst 1, 1) := by decide +kernel
theorem d_Mo_next_69 : decode b_Mo_next 69 = .ok (.if_icmp .ne 20, 3) := by decide +kernel
theorem d_Mo_next_72 : decode b_Mo_next 72 = .ok (.aload_n 0, 1) := by decide +kernel
theorem d_Mo_next_73 : decode b_Mo_next 73 = .ok (.getfield 45, 3) := by decide +kernel
theorem d_Mo_next_76 : decode b_Mo_next 76 = .ok (.iload_n 1, 1) := by decide +kernel
theorem d_Mo_next_77 : decode b_Mo_next 77 = .ok (.iaload, 1) := by decide +kernel
theorem d_Mo_next_78 : decode b_Mo_next 78 = .ok (.ifCond .ne 7, 3) := by decide +kernel
theorem d_Mo_next_81 : decode b_Mo_next 81 = .ok (.iconst 1, 1) := by decide +kernel
theorem d_Mo_next_82 : decode b_Mo_next 82 = .ok (.goto 31, 3) := by decide +kernel
theorem d_Mo_next_85 : decode b_Mo_next 85 = .ok (.iconst 0, 1) := by decide +kernel
theorem d_Mo_next_86 : decode b_Mo_next 86 = .ok (.goto 27, 3) := by decide +kernel
theorem d_Mo_next_89 : decode b_Mo_next 89 = .ok (.aload_n 0, 1) := by decide +kernel
theorem d_Mo_next_90 : decode b_Mo_next 90 = .ok (.getfield 9, 3) := by decide +kernel
theorem d_Mo_next_93 : decode b_Mo_next 93 = .ok (.iload_n 3, 1) := by decide +kernel
theorem d_Mo_next_94 : decode b_Mo_next 94 = .ok (.iaload, 1) := by decide +kernel
theorem d_Mo_next_95 : decode b_Mo_next 95 = .ok (.iconst 2, 1) := by decide +kernel
theorem d_Mo_next_96 : decode b_Mo_next 96 = .ok (.isub, 1) := by decide +kernel
theorem d_Mo_next_97 : decode b_Mo_next 97 = .ok (.aload_n 0, 1) := by decide +kernel
theorem d_Mo_next_98 : decode b_Mo_next 98 = .ok (.getfield 26, 3) := by decide +kernel
theorem d_Mo_next_101 : decode b_Mo_next 101 = .ok (.iload_n 3, 1) := by decide +kernel
theorem d_Mo_next_102 : decode b_Mo_next 102 = .ok (.iaload, 1) := by decide +kernel
theorem d_Mo_next_103 : decode b_Mo_next 103 = .ok (.aload_n 0, 1) := by decide +kernel
theorem d_Mo_next_104 : decode b_Mo_next 104 = .ok (.getfield 45, 3) := by decide +kernel
theorem d_Mo_next_107 : decode b_Mo_next 107 = .ok (.iload_n 1, 1) := by decide +kernel
theorem d_Mo_next_108 : decode b_Mo_next 108 = .ok (.iaload, 1) := by decide +kernel
theorem d_Mo_next_109 : decode b_Mo_next 109 = .ok (.iload_n 2, 1) := by decide +kernel
theorem d_Mo_next_110 : decode b_Mo_next 110 = .ok (.invokestatic 122, 3) := by decide +kernel
theorem d_Mo_next_113 : decode b_Mo_next 113 = .ok (.istore 4, 2) := by decide +kernel
theorem d_Mo_next_115 : decode b_Mo_next 115 = .ok (.iload 4, 2) := by decide +kernel
theorem d_Mo_next_117 : decode b_Mo_next 117 = .ok (.ifCond .eq 16, 3) := by decide +kernel
theorem d_Mo_next_120 : decode b_Mo_next 120 = .ok (.aload_n 0, 1) := by decide +kernel
theorem d_Mo_next_121 : decode b_Mo_next 121 = .ok (.getfield 32, 3) := by decide +kernel
theorem d_Mo_next_124 : decode b_Mo_next 124 = .ok (.iconst 4, 1) := by decide +kernel
theorem d_Mo_next_125 : decode b_Mo_next 125 = .ok (.iload_n 3, 1) := by decide +kernel
theorem d_Mo_next_126 : decode b_Mo_next 126 = .ok (.imul, 1) := by decide +kernel
theorem d_Mo_next_127 : decode b_Mo_next 127 = .ok (.iload_n 2, 1) := by decide +kernel
theorem d_Mo_next_128 : decode b_Mo_next 128 = .ok (.iadd, 1) := by decide +kernel
theorem d_Mo_next_129 : decode b_Mo_next 129 = .ok (.iaload, 1) := by decide +kernel
theorem d_Mo_next_130 : decode b_Mo_next 130 = .ok (.goto 4, 3) := by decide +kernel
theorem d_Mo_next_133 : decode b_Mo_next 133 = .ok (.iconst (-1), 1) := by decide +kernel
theorem d_Mo_next_134 : decode b_Mo_next 134 = .ok (.ireturn, 1) := by decide +kernel
theorem d_Mo_measure_0 : decode b_Mo_measure 0 = .ok (.iconst 0, 1) := by decide +kernel
theorem d_Mo_measure_1 : decode b_Mo_measure 1 = .ok (.istore_n 2, 1) := by decide +kernel
theorem d_Mo_measure_2 : decode b_Mo_measure 2 = .ok (.iload_n 2, 1) := by decide +kernel
theorem d_Mo_measure_3 : decode b_Mo_measure 3 = .ok (.iconst 2, 1) := by decide +kernel
theorem d_Mo_measure_4 : decode b_Mo_measure 4 = .ok (.aload_n 0, 1) := by decide +kernel
theorem d_Mo_measure_5 : decode b_Mo_measure 5 = .ok (.getfield 98, 3) := by decide +kernel
theorem d_Mo_measure_8 : decode b_Mo_measure 8 = .ok (.imul, 1) := by decide +kernel
theorem d_Mo_measure_9 : decode b_Mo_measure 9 = .ok (.if_icmp .ge 34, 3) := by decide +kernel
theorem d_Mo_measure_12 : decode b_Mo_measure 12 = .ok (.aload_n 0, 1) := by decide +kernel
theorem d_Mo_measure_13 : decode b_Mo_measure 13 = .ok (.getfield 51, 3) := by decide +kernel
theorem d_Mo_measure_16 : decode b_Mo_measure 16 = .ok (.iload_n 2, 1) := by decide +kernel
theorem d_Mo_measure_17 : decode b_Mo_measure 17 = .ok (.aload_n 0, 1) := by decide +kernel
theorem d_Mo_measure_18 : decode b_Mo_measure 18 = .ok (.getfield 42, 3) := by decide +kernel
theorem d_Mo_measure_21 : decode b_Mo_measure 21 = .ok (.iload_n 2, 1) := by decide +kernel
theorem d_Mo_measure_22 : decode b_Mo_measure 22 = .ok (.iconst 1, 1) := by decide +kernel
theorem d_Mo_measure_23 : decode b_Mo_measure 23 = .ok (.ixor, 1) := by decide +kernel
theorem d_Mo_measure_24 : decode b_Mo_measure 24 = .ok (.iaload, 1) := by decide +kernel
theorem d_Mo_measure_25 : decode b_Mo_measure 25 = .ok (.iload_n 1, 1) := by decide +kernel
theorem d_Mo_measure_26 : decode b_Mo_measure 26 = .ok (.if_icmp .ne 7, 3) := by decide +kernel
theorem d_Mo_measure_29 : decode b_Mo_measure 29 = .ok (.iconst 1, 1) := by decide +kernel
theorem d_Mo_measure_30 : decode b_Mo_measure 30 = .ok (.goto 6, 3) := by decide +kernel
theorem d_Mo_measure_33 : decode b_Mo_measure 33 = .ok (.sipush 1000, 3) := by decide +kernel
theorem d_Mo_measure_36 : decode b_Mo_measure 36 = .ok (.iastore, 1) := by decide +kernel
theorem d_Mo_measure_37 : decode b_Mo_measure 37 = .ok (.iinc 2 1, 3) := by decide +kernel
theorem d_Mo_measure_40 : decode b_Mo_measure 40 = .ok (.goto (-38), 3) := by decide +kernel
theorem d_Mo_measure_43 : decode b_Mo_measure 43 = .ok (.iconst 1, 1) := by decide +kernel
theorem d_Mo_measure_44 : decode b_Mo_measure 44 = .ok (.istore_n 2, 1) := by decide +kernel
theorem d_Mo_measure_45 : decode b_Mo_measure 45 = .ok (.iload_n 2, 1) := by decide +kernel
theorem d_Mo_measure_46 : decode b_Mo_measure 46 = .ok (.ifCond .eq 93, 3) := by decide +kernel
theorem d_Mo_measure_49 : decode b_Mo_measure 49 = .ok (.iconst 0, 1) := by decide +kernel
theorem d_Mo_measure_50 : decode b_Mo_measure 50 = .ok (.istore_n 2, 1) := by decide +kernel
theorem d_Mo_measure_51 : decode b_Mo_measure 51 = .ok (.iconst 0, 1) := by decide +kernel
theorem d_Mo_measure_52 : decode b_Mo_measure 52 = .ok (.istore_n 3, 1) := by decide +kernel
theorem d_Mo_measure_53 : decode b_Mo_measure 53 = .ok (.iload_n 3, 1) := by decide +kernel
theorem d_Mo_measure_54 : decode b_Mo_measure 54 = .ok (.iconst 2, 1) := by decide +kernel
theorem d_Mo_measure_55 : decode b_Mo_measure 55 = .ok (.aload_n 0, 1) := by decide +kernel
theorem d_Mo_measure_56 : decode b_Mo_measure 56 = .ok (.getfield 98, 3) := by decide +kernel
theorem d_Mo_measure_59 : decode b_Mo_measure 59 = .ok (.imul, 1) := by decide +kernel
theorem d_Mo_measure_60 : decode b_Mo_measure 60 = .ok (.if_icmp .ge 76, 3) := by decide +kernel
theorem d_Mo_measure_63 : decode b_Mo_measure 63 = .ok (.iconst 0, 1) := by decide +kernel
theorem d_Mo_measure_64 : decode b_Mo_measure 64 = .ok (.istore 4, 2) := by decide +kernel
theorem d_Mo_measure_66 : decode b_Mo_measure 66 = .ok (.iload 4, 2) := by decide +kernel
theorem d_Mo_measure_68 : decode b_Mo_measure 68 = .ok (.iconst 4, 1) := by decide +kernel
theorem d_Mo_measure_69 : decode b_Mo_measure 69 = .ok (.if_icmp .ge 61, 3) := by decide +kernel
theorem d_Mo_measure_72 : decode b_Mo_measure 72 = .ok (.aload_n 0, 1) := by decide +kernel
theorem d_Mo_measure_73 : decode b_Mo_measure 73 = .ok (.iload_n 3, 1) := by decide +kernel
theorem d_Mo_measure_74 : decode b_Mo_measure 74 = .ok (.iconst 1, 1) := by decide +kernel
theorem d_Mo_measure_75 : decode b_Mo_measure 75 = .ok (.ixor, 1) := by decide +kernel
theorem d_Mo_measure_76 : decode b_Mo_measure 76 = .ok (.iload 4, 2) := by decide +kernel
theorem d_Mo_measure_78 : decode b_Mo_measure 78 = .ok (.invokevirtual 126, 3) := by decide +kernel
theorem d_Mo_measure_81 : decode b_Mo_measure 81 = .ok (.istore 5, 2) := by decide +kernel
theorem d_Mo_measure_83 : decode b_Mo_measure 83 = .ok (.iload 5, 2) := by decide +kernel
theorem d_Mo_measure_85 : decode b_Mo_measure 85 = .ok (.iconst (-1), 1) := by decide +kernel
theorem d_Mo_measure_86 : decode b_Mo_measure 86 = .ok (.if_icmp .eq 38, 3) := by decide +kernel
theorem d_Mo_measure_89 : decode b_Mo_measure 89 = .ok (.aload_n 0, 1) := by decide +kernel
theorem d_Mo_measure_90 : decode b_Mo_measure 90 = .ok (.getfield 51, 3) := by decide +kernel
theorem d_Mo_measure_93 : decode b_Mo_measure 93 = .ok (.iload 5, 2) := by decide +kernel
theorem d_Mo_measure_95 : decode b_Mo_measure 95 = .ok (.iaload, 1) := by decide +kernel
theorem d_Mo_measure_96 : decode b_Mo_measure 96 = .ok (.iconst 1, 1) := by decide +kernel
theorem d_Mo_measure_97 : decode b_Mo_measure 97 = .ok (.iadd, 1) := by decide +kernel
theorem d_Mo_measure_98 : decode b_Mo_measure 98 = .ok (.aload_n 0, 1) := by decide +kernel
theorem d_Mo_measure_99 : decode b_Mo_measure 99 = .ok (.getfield 51, 3) := by decide +kernel
theorem d_Mo_measure_102 : decode b_Mo_measure 102 = .ok (.iload_n 3, 1) := by decide +kernel
theorem d_Mo_measure_103 : decode b_Mo_measure 103 = .ok (.iaload, 1) := by decide +kernel
theorem d_Mo_measure_104 : decode b_Mo_measure 104 = .ok (.if_icmp .ge 20, 3) := by decide +kernel
theorem d_Mo_measure_107 : decode b_Mo_measure 107 = .ok (.aload_n 0, 1) := by decide +kernel
theorem d_Mo_measure_108 : decode b_Mo_measure 108 = .ok (.getfield 51, 3) := by decide +kernel
theorem d_Mo_measure_111 : decode b_Mo_measure 111 = .ok (.iload_n 3, 1) := by decide +kernel
theorem d_Mo_measure_112 : decode b_Mo_measure 112 = .ok (.aload_n 0, 1) := by decide +kernel
theorem d_Mo_measure_113 : decode b_Mo_measure 113 = .ok (.getfield 51, 3) := by decide +kernel
theorem d_Mo_measure_116 : decode b_Mo_measure 116 = .ok (.iload 5, 2) := by decide +kernel
theorem d_Mo_measure_118 : decode b_Mo_measure 118 = .ok (.iaload, 1) := by decide +kernel
theorem d_Mo_measure_119 : decode b_Mo_measure 119 = .ok (.iconst 1, 1) := by decide +kernel
theorem d_Mo_measure_120 : decode b_Mo_measure 120 = .ok (.iadd, 1) := by decide +kernel
theorem d_Mo_measure_121 : decode b_Mo_measure 121 = .ok (.iastore, 1) := by decide +kernel
theorem d_Mo_measure_122 : decode b_Mo_measure 122 = .ok (.iconst 1, 1) := by decide +kernel
theorem d_Mo_measure_123 : decode b_Mo_measure 123 = .ok (.istore_n 2, 1) := by decide +kernel
theorem d_Mo_measure_124 : decode b_Mo_measure 124 = .ok (.iinc 4 1, 3) := by decide +kernel
theorem d_Mo_measure_127 : decode b_Mo_measure 127 = .ok (.goto (-61), 3) := by decide +kernel
theorem d_Mo_measure_130 : decode b_Mo_measure 130 = .ok (.iinc 3 1, 3) := by decide +kernel
theorem d_Mo_measure_133 : decode b_Mo_measure 133 = .ok (.goto (-80), 3) := by decide +kernel
theorem d_Mo_measure_136 : decode b_Mo_measure 136 = .ok (.goto (-91), 3) := by decide +kernel
theorem d_Mo_measure_139 : decode b_Mo_measure 139 = .ok (.return_, 1) := by decide +kernel
theorem d_Mo_find_0 : decode b_Mo_find 0 = .ok (.aload_n 0, 1) := by decide +kernel
theorem d_Mo_find_1 : decode b_Mo_find 1 = .ok (.iload_n 2, 1) := by decide +kernel
theorem d_Mo_find_2 : decode b_Mo_find 2 = .ok (.invokevirtual 130, 3) := by decide +kernel
theorem d_Mo_find_5 : decode b_Mo_find 5 = .ok (.aload_n 0, 1) := by decide +kernel
theorem d_Mo_find_6 : decode b_Mo_find 6 = .ok (.iconst 0, 1) := by decide +kernel
theorem d_Mo_find_7 : decode b_Mo_find 7 = .ok (.putfield 134, 3) := by decide +kernel
theorem d_Mo_find_10 : decode b_Mo_find 10 = .ok (.iconst (-1), 1) := by decide +kernel
theorem d_Mo_find_11 : decode b_Mo_find 11 = .ok (.istore_n 3, 1) := by decide +kernel
theorem d_Mo_find_12 : decode b_Mo_find 12 = .ok (.iconst 0, 1) := by decide +kernel
theorem d_Mo_find_13 : decode b_Mo_find 13 = .ok (.istore 4, 2) := by decide +kernel
theorem d_Mo_find_15 : decode b_Mo_find 15 = .ok (.iload 4, 2) := by decide +kernel
theorem d_Mo_find_17 : decode b_Mo_find 17 = .ok (.iconst 2, 1) := by decide +kernel
theorem d_Mo_find_18 : decode b_Mo_find 18 = .ok (.aload_n 0, 1) := by decide +kernel
theorem d_Mo_find_19 : decode b_Mo_find 19 = .ok (.getfield 98, 3) := by decide +kernel
theorem d_Mo_find_22 : decode b_Mo_find 22 = .ok (.imul, 1) := by decide +kernel
theorem d_Mo_find_23 : decode b_Mo_find 23 = .ok (.if_icmp .ge 57, 3) := by decide +kernel
theorem d_Mo_find_26 : decode b_Mo_find 26 = .ok (.aload_n 0, 1) := by decide +kernel
theorem d_Mo_find_27 : decode b_Mo_find 27 = .ok (.getfield 42, 3) := by decide +kernel
theorem d_Mo_find_30 : decode b_Mo_find 30 = .ok (.iload 4, 2) := by decide +kernel
theorem d_Mo_find_32 : decode b_Mo_find 32 = .ok (.iaload, 1) := by decide +kernel
theorem d_Mo_find_33 : decode b_Mo_find 33 = .ok (.iload_n 1, 1) := by decide +kernel
theorem d_Mo_find_34 : decode b_Mo_find 34 = .ok (.if_icmp .ne 40, 3) := by decide +kernel
theorem d_Mo_find_37 : decode b_Mo_find 37 = .ok (.aload_n 0, 1) := by decide +kernel
theorem d_Mo_find_38 : decode b_Mo_find 38 = .ok (.getfield 51, 3) := by decide +kernel
theorem d_Mo_find_41 : decode b_Mo_find 41 = .ok (.iload 4, 2) := by decide +kernel
theorem d_Mo_find_43 : decode b_Mo_find 43 = .ok (.iaload, 1) := by decide +kernel
theorem d_Mo_find_44 : decode b_Mo_find 44 = .ok (.sipush 1000, 3) := by decide +kernel
theorem d_Mo_find_47 : decode b_Mo_find 47 = .ok (.if_icmp .ge 27, 3) := by decide +kernel
theorem d_Mo_find_50 : decode b_Mo_find 50 = .ok (.iload_n 3, 1) := by decide +kernel
theorem d_Mo_find_51 : decode b_Mo_find 51 = .ok (.iconst (-1), 1) := by decide +kernel
theorem d_Mo_find_52 : decode b_Mo_find 52 = .ok (.if_icmp .eq 19, 3) := by decide +kernel
theorem d_Mo_find_55 : decode b_Mo_find 55 = .ok (.aload_n 0, 1) := by decide +kernel
theorem d_Mo_find_56 : decode b_Mo_find 56 = .ok (.getfield 51, 3) := by decide +kernel
theorem d_Mo_find_59 : decode b_Mo_find 59 = .ok (.iload 4, 2) := by decide +kernel
theorem d_Mo_find_61 : decode b_Mo_find 61 = .ok (.iaload, 1) := by decide +kernel
theorem d_Mo_find_62 : decode b_Mo_find 62 = .ok (.aload_n 0, 1) := by decide +kernel
theorem d_Mo_find_63 : decode b_Mo_find 63 = .ok (.getfield 51, 3) := by decide +kernel
theorem d_Mo_find_66 : decode b_Mo_find 66 = .ok (.iload_n 3, 1) := by decide +kernel
theorem d_Mo_find_67 : decode b_Mo_find 67 = .ok (.iaload, 1) := by decide +kernel
theorem d_Mo_find_68 : decode b_Mo_find 68 = .ok (.if_icmp .ge 6, 3) := by decide +kernel
theorem d_Mo_find_71 : decode b_Mo_find 71 = .ok (.iload 4, 2) := by decide +kernel
theorem d_Mo_find_73 : decode b_Mo_find 73 = .ok (.istore_n 3, 1) := by decide +kernel
theorem d_Mo_find_74 : decode b_Mo_find 74 = .ok (.iinc 4 1, 3) := by decide +kernel
theorem d_Mo_find_77 : decode b_Mo_find 77 = .ok (.goto (-62), 3) := by decide +kernel
theorem d_Mo_find_80 : decode b_Mo_find 80 = .ok (.iload_n 3, 1) := by decide +kernel
theorem d_Mo_find_81 : decode b_Mo_find 81 = .ok (.iconst (-1), 1) := by decide +kernel
theorem d_Mo_find_82 : decode b_Mo_find 82 = .ok (.if_icmp .eq 113, 3) := by decide +kernel
theorem d_Mo_find_85 : decode b_Mo_find 85 = .ok (.aload_n 0, 1) := by decide +kernel
theorem d_Mo_find_86 : decode b_Mo_find 86 = .ok (.getfield 54, 3) := by decide +kernel
theorem d_Mo_find_89 : decode b_Mo_find 89 = .ok (.aload_n 0, 1) := by decide +kernel
theorem d_Mo_find_90 : decode b_Mo_find 90 = .ok (.getfield 134, 3) := by decide +kernel
theorem d_Mo_find_93 : decode b_Mo_find 93 = .ok (.iload_n 3, 1) := by decide +kernel
theorem d_Mo_find_94 : decode b_Mo_find 94 = .ok (.iastore, 1) := by decide +kernel
theorem d_Mo_find_95 : decode b_Mo_find 95 = .ok (.aload_n 0, 1) := by decide +kernel
theorem d_Mo_find_96 : decode b_Mo_find 96 = .ok (.dup, 1) := by decide +kernel
theorem d_Mo_find_97 : decode b_Mo_find 97 = .ok (.getfield 134, 3) := by decide +kernel
theorem d_Mo_find_100 : decode b_Mo_find 100 = .ok (.iconst 1, 1) := by decide +kernel
theorem d_Mo_find_101 : decode b_Mo_find 101 = .ok (.iadd, 1) := by decide +kernel
theorem d_Mo_find_102 : decode b_Mo_find 102 = .ok (.putfield 134, 3) := by decide +kernel
theorem d_Mo_find_105 : decode b_Mo_find 105 = .ok (.aload_n 0, 1) := by decide +kernel
theorem d_Mo_find_106 : decode b_Mo_find 106 = .ok (.getfield 51, 3) := by decide +kernel
theorem d_Mo_find_109 : decode b_Mo_find 109 = .ok (.iload_n 3, 1) := by decide +kernel
theorem d_Mo_find_110 : decode b_Mo_find 110 = .ok (.iaload, 1) := by decide +kernel
theorem d_Mo_find_111 : decode b_Mo_find 111 = .ok (.iconst 1, 1) := by decide +kernel
theorem d_Mo_find_112 : decode b_Mo_find 112 = .ok (.isub, 1) := by decide +kernel
theorem d_Mo_find_113 : decode b_Mo_find 113 = .ok (.istore 4, 2) := by decide +kernel
theorem d_Mo_find_115 : decode b_Mo_find 115 = .ok (.iconst (-1), 1) := by decide +kernel
theorem d_Mo_find_116 : decode b_Mo_find 116 = .ok (.istore 5, 2) := by decide +kernel
theorem d_Mo_find_118 : decode b_Mo_find 118 = .ok (.iconst 0, 1) := by decide +kernel
theorem d_Mo_find_119 : decode b_Mo_find 119 = .ok (.istore 6, 2) := by decide +kernel
theorem d_Mo_find_121 : decode b_Mo_find 121 = .ok (.iload 6, 2) := by decide +kernel
theorem d_Mo_find_123 : decode b_Mo_find 123 = .ok (.iconst 4, 1) := by decide +kernel
theorem d_Mo_find_124 : decode b_Mo_find 124 = .ok (.if_icmp .ge 65, 3) := by decide +kernel
theorem d_Mo_find_127 : decode b_Mo_find 127 = .ok (.iload 4, 2) := by decide +kernel
theorem d_Mo_find_129 : decode b_Mo_find 129 = .ok (.ifCond .le 60, 3) := by decide +kernel
theorem d_Mo_find_132 : decode b_Mo_find 132 = .ok (.aload_n 0, 1) := by decide +kernel
theorem d_Mo_find_133 : decode b_Mo_find 133 = .ok (.iload_n 3, 1) := by decide +kernel
theorem d_Mo_find_134 : decode b_Mo_find 134 = .ok (.iconst 1, 1) := by decide +kernel
theorem d_Mo_find_135 : decode b_Mo_find 135 = .ok (.ixor, 1) := by decide +kernel
theorem d_Mo_find_136 : decode b_Mo_find 136 = .ok (.iload 6, 2) := by decide +kernel
theorem d_Mo_find_138 : decode b_Mo_find 138 = .ok (.invokevirtual 126, 3) := by decide +kernel
theorem d_Mo_find_141 : decode b_Mo_find 141 = .ok (.istore 7, 2) := by decide +kernel
theorem d_Mo_find_143 : decode b_Mo_find 143 = .ok (.iload 7, 2) := by decide +kernel
theorem d_Mo_find_145 : decode b_Mo_find 145 = .ok (.iconst (-1), 1) := by decide +kernel
theorem d_Mo_find_146 : decode b_Mo_find 146 = .ok (.if_icmp .eq 33, 3) := by decide +kernel
theorem d_Mo_find_149 : decode b_Mo_find 149 = .ok (.aload_n 0, 1) := by decide +kernel
theorem d_Mo_find_150 : decode b_Mo_find 150 = .ok (.getfield 51, 3) := by decide +kernel
theorem d_Mo_find_153 : decode b_Mo_find 153 = .ok (.iload 7, 2) := by decide +kernel
theorem d_Mo_find_155 : decode b_Mo_find 155 = .ok (.iaload, 1) := by decide +kernel
theorem d_Mo_find_156 : decode b_Mo_find 156 = .ok (.iload 4, 2) := by decide +kernel
theorem d_Mo_find_158 : decode b_Mo_find 158 = .ok (.if_icmp .ne 21, 3) := by decide +kernel
theorem d_Mo_find_161 : decode b_Mo_find 161 = .ok (.iload 5, 2) := by decide +kernel
theorem d_Mo_find_163 : decode b_Mo_find 163 = .ok (.iconst (-1), 1) := by decide +kernel
theorem d_Mo_find_164 : decode b_Mo_find 164 = .ok (.if_icmp .eq 10, 3) := by decide +kernel
theorem d_Mo_find_167 : decode b_Mo_find 167 = .ok (.iload 7, 2) := by decide +kernel
theorem d_Mo_find_169 : decode b_Mo_find 169 = .ok (.iload 5, 2) := by decide +kernel
theorem d_Mo_find_171 : decode b_Mo_find 171 = .ok (.if_icmp .ge 8, 3) := by decide +kernel
theorem d_Mo_find_174 : decode b_Mo_find 174 = .ok (.iload 7, 2) := by decide +kernel
theorem d_Mo_find_176 : decode b_Mo_find 176 = .ok (.goto 5, 3) := by decide +kernel
theorem d_Mo_find_179 : decode b_Mo_find 179 = .ok (.iload 5, 2) := by decide +kernel
theorem d_Mo_find_181 : decode b_Mo_find 181 = .ok (.istore 5, 2) := by decide +kernel
theorem d_Mo_find_183 : decode b_Mo_find 183 = .ok (.iinc 6 1, 3) := by decide +kernel
theorem d_Mo_find_186 : decode b_Mo_find 186 = .ok (.goto (-65), 3) := by decide +kernel
theorem d_Mo_find_189 : decode b_Mo_find 189 = .ok (.iload 5, 2) := by decide +kernel
theorem d_Mo_find_191 : decode b_Mo_find 191 = .ok (.istore_n 3, 1) := by decide +kernel
theorem d_Mo_find_192 : decode b_Mo_find 192 = .ok (.goto (-112), 3) := by decide +kernel
theorem d_Mo_find_195 : decode b_Mo_find 195 = .ok (.aload_n 0, 1) := by decide +kernel
theorem d_Mo_find_196 : decode b_Mo_find 196 = .ok (.getfield 134, 3) := by decide +kernel
theorem d_Mo_find_199 : decode b_Mo_find 199 = .ok (.ifCond .le 7, 3) := by decide +kernel
theorem d_Mo_find_202 : decode b_Mo_find 202 = .ok (.iconst 1, 1) := by decide +kernel
theorem d_Mo_find_203 : decode b_Mo_find 203 = .ok (.goto 4, 3) := by decide +kernel
theorem d_Mo_find_206 : decode b_Mo_find 206 = .ok (.iconst 0, 1) := by decide +kernel
theorem d_Mo_find_207 : decode b_Mo_find 207 = .ok (.ireturn, 1) := by decide +kernel
theorem kw31_c875823 : (Cond.methodLink R_Mo 85 y_Mo_isThing : Cond) ∈ tb := by decide +kernel
theorem kw31_4435df4 : (Cond.instanceMethod y_Mo_isThing : Cond) ∈ tb := by decide +kernel
theorem kw31_110d942 : (Cond.selects R_Mo y_Mo_isThing y_Mo_isThing : Cond) ∈ tb := by decide +kernel
theorem kw31_7a5931c : (Cond.initialized R_Mo : Cond) ∈ tb := by decide +kernel
theorem kw31_9e87649 : (Cond.code y_Mo_isThing b_Mo_isThing 2 (some .boolean) : Cond) ∈ tb := by decide +kernel
theorem kw31_6501a0b : (Cond.fieldLink R_Mo 72 "PlantGraphModel" "thrown" "I" : Cond) ∈ tb := by decide +kernel
theorem kw31_2e4ecc6 : (Cond.methodLink R_Mo 112 y_Mo_isValve : Cond) ∈ tb := by decide +kernel
theorem kw31_f1b771d : (Cond.instanceMethod y_Mo_isValve : Cond) ∈ tb := by decide +kernel
theorem kw31_5f5e83d : (Cond.selects R_Mo y_Mo_isValve y_Mo_isValve : Cond) ∈ tb := by decide +kernel
theorem kw31_d5e479e : (Cond.code y_Mo_isValve b_Mo_isValve 2 (some .boolean) : Cond) ∈ tb := by decide +kernel
theorem kw31_6a57fc2 : (Cond.fieldLink R_Mo 26 "PlantGraphModel" "positions" "[I" : Cond) ∈ tb := by decide +kernel
theorem kw31_f20414e : (Cond.fieldLink R_Mo 29 "PlantGraphModel" "sensors" "[I" : Cond) ∈ tb := by decide +kernel
theorem kw31_d0d3126 : (Cond.methodLink R_Mo 105 y_Mo_isPipe : Cond) ∈ tb := by decide +kernel
theorem kw31_b9b9844 : (Cond.instanceMethod y_Mo_isPipe : Cond) ∈ tb := by decide +kernel
theorem kw31_aa3f293 : (Cond.selects R_Mo y_Mo_isPipe y_Mo_isPipe : Cond) ∈ tb := by decide +kernel
theorem kw31_8736655 : (Cond.code y_Mo_isPipe b_Mo_isPipe 2 (some .boolean) : Cond) ∈ tb := by decide +kernel
theorem kw31_fd4a9fd : (Cond.fieldLink R_Mo 38 "PlantGraphModel" "contents" "[B" : Cond) ∈ tb := by decide +kernel
theorem kw31_b664d45 : (Cond.fieldLink R_Mo 35 "PlantGraphModel" "sizes" "[I" : Cond) ∈ tb := by decide +kernel
theorem kw31_39da439 : (Cond.fieldLink R_Mo 23 "PlantGraphModel" "liquids" "[I" : Cond) ∈ tb := by decide +kernel
theorem kw31_ca8a8d8 : (Cond.fieldLink R_Mo 20 "PlantGraphModel" "litres" "[J" : Cond) ∈ tb := by decide +kernel
theorem kw31_9096378 : (Cond.methodLink R_Mo 115 y_Mo_isTank : Cond) ∈ tb := by decide +kernel
theorem kw31_f60b64a : (Cond.instanceMethod y_Mo_isTank : Cond) ∈ tb := by decide +kernel
theorem kw31_aff81c1 : (Cond.selects R_Mo y_Mo_isTank y_Mo_isTank : Cond) ∈ tb := by decide +kernel
theorem kw31_0b8852f : (Cond.code y_Mo_isTank b_Mo_isTank 2 (some .boolean) : Cond) ∈ tb := by decide +kernel
theorem kw31_8ce1ef1 : (Cond.constantLong R_Mo 79 100000 : Cond) ∈ tb := by decide +kernel
theorem kw31_3652779 : (Cond.fieldLink R_Mo 16 "PlantGraphModel" "rooms" "[J" : Cond) ∈ tb := by decide +kernel
theorem kw31_7460624 : (Cond.methodLink R_Mo 118 y_Mo_come : Cond) ∈ tb := by decide +kernel
theorem kw31_bddea6e : (Cond.instanceMethod y_Mo_come : Cond) ∈ tb := by decide +kernel
theorem kw31_659c46d : (Cond.selects R_Mo y_Mo_come y_Mo_come : Cond) ∈ tb := by decide +kernel
theorem kw31_5eee85d : (Cond.code y_Mo_come b_Mo_come 5 none : Cond) ∈ tb := by decide +kernel
theorem kw31_01baf06 : (Cond.fieldLink R_Mo 42 "PlantGraphModel" "at" "[I" : Cond) ∈ tb := by decide +kernel
theorem kw31_cf02404 : (Cond.fieldLink R_Mo 9 "PlantGraphModel" "kinds" "[I" : Cond) ∈ tb := by decide +kernel
theorem kw31_c603ba5 : (Cond.fieldLink R_Mo 32 "PlantGraphModel" "ends" "[I" : Cond) ∈ tb := by decide +kernel
theorem kw31_653085e : (Cond.fieldLink R_Mo 45 "PlantGraphModel" "ports" "[I" : Cond) ∈ tb := by decide +kernel
theorem kw31_e953a57 : (Cond.methodLink R_Mo 122 y_Mo_passes : Cond) ∈ tb := by decide +kernel
theorem kw31_abba1a4 : (Cond.static y_Mo_passes : Cond) ∈ tb := by decide +kernel
theorem kw31_38c1aab : (Cond.code y_Mo_passes b_Mo_passes 7 (some .boolean) : Cond) ∈ tb := by decide +kernel
theorem kw31_563086a : (Cond.fieldLink R_Mo 48 "PlantGraphModel" "bends" "[I" : Cond) ∈ tb := by decide +kernel
theorem kw31_189c50d : (Cond.fieldLink R_Mo 98 "PlantGraphModel" "pipes" "I" : Cond) ∈ tb := by decide +kernel
theorem kw31_902981b : (Cond.methodLink R_Mo 126 y_Mo_next : Cond) ∈ tb := by decide +kernel
theorem kw31_0ab0422 : (Cond.instanceMethod y_Mo_next : Cond) ∈ tb := by decide +kernel
theorem kw31_57eddd2 : (Cond.selects R_Mo y_Mo_next y_Mo_next : Cond) ∈ tb := by decide +kernel
theorem kw31_1a7ebc2 : (Cond.code y_Mo_next b_Mo_next 5 (some .int) : Cond) ∈ tb := by decide +kernel
theorem kw31_877a595 : (Cond.fieldLink R_Mo 51 "PlantGraphModel" "left" "[I" : Cond) ∈ tb := by decide +kernel
theorem kw31_0c65b72 : (Cond.methodLink R_Mo 130 y_Mo_measure : Cond) ∈ tb := by decide +kernel
theorem kw31_f063ea8 : (Cond.instanceMethod y_Mo_measure : Cond) ∈ tb := by decide +kernel
theorem kw31_fee97ff : (Cond.selects R_Mo y_Mo_measure y_Mo_measure : Cond) ∈ tb := by decide +kernel
theorem kw31_ed057a4 : (Cond.code y_Mo_measure b_Mo_measure 6 none : Cond) ∈ tb := by decide +kernel
theorem kw31_aabbf4f : (Cond.fieldLink R_Mo 134 "PlantGraphModel" "wide" "I" : Cond) ∈ tb := by decide +kernel
theorem kw31_34de539 : (Cond.fieldLink R_Mo 54 "PlantGraphModel" "way" "[I" : Cond) ∈ tb := by decide +kernel
def wj_Mo_position_14 (v_t_things : Int32) (f_t_kinds : (Nat → Int32)) (x1 : Int32) (x2 : Int32) (P : Int32 → Int32 → (Nat → Int32) → Prop) (v_t_thrown_J14 : Int32) (f_t_positions_J14 : (Nat → Int32)) (s0_J14 : Int32) : Prop := wp_Mo_isValve v_t_things f_t_kinds x1 (fun r19 => ((r19 = 0 → P 0 s0_J14 f_t_positions_J14) ∧ (¬ r19 = 0 → ((x2 < 0 → P 0 s0_J14 f_t_positions_J14) ∧ (¬ x2 < 0 → ((x2 ≤ (9 : Int32) → (vp_in x1 40 ∧ P 1 s0_J14 (upd f_t_positions_J14 x1.toNatClampNeg x2))) ∧ (¬ x2 ≤ (9 : Int32) → P 0 s0_J14 f_t_positions_J14)))))))
def wp_Mo_position (v_t_things : Int32) (v_t_thrown : Int32) (f_t_kinds : (Nat → Int32)) (f_t_positions : (Nat → Int32)) (x1 : Int32) (x2 : Int32) (P : Int32 → Int32 → (Nat → Int32) → Prop) : Prop := wp_Mo_isThing v_t_things x1 (fun r3 => ((r3 = 0 → wj_Mo_position_14 v_t_things f_t_kinds x1 x2 P v_t_thrown f_t_positions 1) ∧ (¬ r3 = 0 → wj_Mo_position_14 v_t_things f_t_kinds x1 x2 P v_t_thrown f_t_positions 0)))
def w_Mo_position : List Cond := .code y_Mo_position b_Mo_position 3 (some .boolean) :: tb
abbrev rm_Mo_position : Room := { frames := 2, cells := 0, slots := 0, locals := 42 }
abbrev Q_Mo_position (dC : Nat → ClassId) (dI : Nat → Nat → Nat) (cI cL cB : ClassId) (q_t : Nat) (a_t : Nat → Nat) (v_t_things : Int32) (v_t_pipes : Int32) (v_t_wide : Int32) (v_t_size : Int32) (v_t_place : Int32) (v_t_number : Int64) (v_t_thrown : Int32) (v_t_wish : Int32) (v_t_found : Int32) (f_t_kinds : (Nat → Int32)) (f_t_positions : (Nat → Int32)) (x1 : Int32) (x2 : Int32) (P : Int32 → Int32 → (Nat → Int32) → Prop) (A : Nat → Prop) : Array Value → State → Outcome → State → Prop := va_Qi (fun (r : Int32) (u : Int32 × (Nat → Int32)) => P r u.1 u.2) (fun u t => va_P (dC, dI) classes [(q_t, .inr (7, o_Mo a_t v_t_things v_t_pipes v_t_wide v_t_size v_t_place v_t_number u.1 v_t_wish v_t_found)), ((a_t 1), .inl (cI, 40, .inl f_t_kinds)), ((a_t 6), .inl (cI, 40, .inl u.2))] t.heap ∧ va_K (dC, dI) classes [(cI, .int), (cL, .long), (cB, .byte)] t ∧ va_D A [(q_t, .inr (7, o_Mo a_t v_t_things v_t_pipes v_t_wide v_t_size v_t_place v_t_number u.1 v_t_wish v_t_found)), ((a_t 1), .inl (cI, 40, .inl f_t_kinds)), ((a_t 6), .inl (cI, 40, .inl u.2))]) A
set_option maxHeartbeats 4000000 in
set_option maxRecDepth 100000 in
theorem c_Mo_position (l : Launch) (dC : Nat → ClassId) (dI : Nat → Nat → Nat) (cI cL cB : ClassId) (q_t : Nat) (a_t : Nat → Nat) (sz : Nat) (v_t_things : Int32) (v_t_pipes : Int32) (v_t_wide : Int32) (v_t_size : Int32) (v_t_place : Int32) (v_t_number : Int64) (v_t_thrown : Int32) (v_t_wish : Int32) (v_t_found : Int32) (f_t_kinds : (Nat → Int32)) (f_t_positions : (Nat → Int32)) (x1 : Int32) (x2 : Int32) (P : Int32 → Int32 → (Nat → Int32) → Prop) (hw : wp_Mo_position v_t_things v_t_thrown f_t_kinds f_t_positions x1 x2 P) : Met l y_Mo_position w_Mo_position rm_Mo_position (va_Pc [.ref q_t, .int x1, .int x2] (fun U => U.heap.size = sz ∧ va_P (dC, dI) classes [(q_t, .inr (7, o_Mo a_t v_t_things v_t_pipes v_t_wide v_t_size v_t_place v_t_number v_t_thrown v_t_wish v_t_found)), ((a_t 1), .inl (cI, 40, .inl f_t_kinds)), ((a_t 6), .inl (cI, 40, .inl f_t_positions))] U.heap ∧ va_K (dC, dI) classes [(cI, .int), (cL, .long), (cB, .byte)] U ∧ va_D (fun _ => True) [(q_t, .inr (7, o_Mo a_t v_t_things v_t_pipes v_t_wide v_t_size v_t_place v_t_number v_t_thrown v_t_wish v_t_found)), ((a_t 1), .inl (cI, 40, .inl f_t_kinds)), ((a_t 6), .inl (cI, 40, .inl f_t_positions))])) (Q_Mo_position dC dI cI cL cB q_t a_t v_t_things v_t_pipes v_t_wide v_t_size v_t_place v_t_number v_t_thrown v_t_wish v_t_found f_t_kinds f_t_positions x1 x2 P (va_A [(q_t, .inr (7, o_Mo a_t v_t_things v_t_pipes v_t_wide v_t_size v_t_place v_t_number v_t_thrown v_t_wish v_t_found)), ((a_t 1), .inl (cI, 40, .inl f_t_kinds)), ((a_t 6), .inl (cI, 40, .inl f_t_positions))] sz)) 0 0 (va_A [(q_t, .inr (7, o_Mo a_t v_t_things v_t_pipes v_t_wide v_t_size v_t_place v_t_number v_t_thrown v_t_wish v_t_found)), ((a_t 1), .inl (cI, 40, .inl f_t_kinds)), ((a_t 6), .inl (cI, 40, .inl f_t_positions))] sz) := by
  refine Met.ofW (cc := b_Mo_position) (maxL := 3) (ret := (some .boolean)) (by decide) rfl ?_
  intro p e s m args below meth c s₁ B hml hv
  obtain ⟨ha, hsz, hP, hK, hD0⟩ := hv
  have hx := B.exec
  have hb := B.bytes
  have hr := B.returns
  have hts0 := atoms_spec (ws := w_Mo_position) B.pre
  have hts : ∀ w ∈ tb, w.before args s = true := fun w h => hts0 w (List.mem_cons_of_mem _ h)
  have hown : s.vm.findClass R_Mo = some m.cls := findClass_of_methodNamed B.named
  have hlocks := B.notSynchronized
  subst hsz
  have hD := hD0.self (sz := s.heap.size)
  generalize hAe : va_A [(q_t, .inr (7, o_Mo a_t v_t_things v_t_pipes v_t_wide v_t_size v_t_place v_t_number v_t_thrown v_t_wish v_t_found)), ((a_t 1), .inl (cI, 40, .inl f_t_kinds)), ((a_t 6), .inl (cI, 40, .inl f_t_positions))] s.heap.size = A at hD ⊢
  have hA : ∀ q : Nat, s.heap.size ≤ q → A q := fun q h => by rw [← hAe]; exact Or.inr h
  have hS : va_S A s.heap s.heap [] := va_S.rf
  have hP : va_P (dC, dI) classes [(q_t, .inr (7, o_Mo a_t v_t_things v_t_pipes v_t_wide v_t_size v_t_place v_t_number v_t_thrown v_t_wish v_t_found)), ((a_t 1), .inl (cI, 40, .inl f_t_kinds)), ((a_t 6), .inl (cI, 40, .inl f_t_positions))] s.heap := hP
  have hl := lv_entry [.ref q_t, .int x1, .int x2] (n := 3) (Nat.le_of_ble_eq_true rfl)
  have he9 : entryFrame m args 3 = F0 m 0 ((lg_sl [.ref q_t, .int x1, .int x2] ++ List.replicate (3 - (lg_sl [.ref q_t, .int x1, .int x2]).length) Slot.unset).toArray) [] := by rw [ha]; exact lg_entry_eq _ _ _
  rw [he9]
  clear he9
  generalize (lg_sl [.ref q_t, .int x1, .int x2] ++ List.replicate (3 - (lg_sl [.ref q_t, .int x1, .int x2]).length) Slot.unset).toArray = ls at hl ⊢
  have hl : lv_has ls 3 [(0, .ref q_t), (1, .int x1), (2, .int x2)] := hl
  unfold wp_Mo_position at hw
  have J_14 : ∀ (v_t_thrown_J14 : Int32) (f_t_positions_J14 : (Nat → Int32)) (s0_J14 : Int32) (H : Heap) (locs : List Loc) (ls : Array Slot), va_P (dC, dI) classes [(q_t, .inr (7, o_Mo a_t v_t_things v_t_pipes v_t_wide v_t_size v_t_place v_t_number v_t_thrown_J14 v_t_wish v_t_found)), ((a_t 1), .inl (cI, 40, .inl f_t_kinds)), ((a_t 6), .inl (cI, 40, .inl f_t_positions_J14))] H → va_D A [(q_t, .inr (7, o_Mo a_t v_t_things v_t_pipes v_t_wide v_t_size v_t_place v_t_number v_t_thrown_J14 v_t_wish v_t_found)), ((a_t 1), .inl (cI, 40, .inl f_t_kinds)), ((a_t 6), .inl (cI, 40, .inl f_t_positions_J14))] → va_S A s.heap H locs → lv_has ls 3 [(0, .ref q_t), (1, .int x1), (2, .int x2)] → wj_Mo_position_14 v_t_things f_t_kinds x1 x2 P v_t_thrown_J14 f_t_positions_J14 s0_J14 → W p l e (headSpec w_Mo_position rm_Mo_position).room s m args below meth c H locs 0 0 (MQ below (Q_Mo_position dC dI cI cL cB q_t a_t v_t_things v_t_pipes v_t_wide v_t_size v_t_place v_t_number v_t_thrown v_t_wish v_t_found f_t_kinds f_t_positions x1 x2 P A) args s 0 0 A) (F0 m 14 ls [.int s0_J14, .ref q_t]) := by
    intro v_t_thrown_J14 f_t_positions_J14 s0_J14 H locs ls hP hD hS hl hw
    unfold wj_Mo_position_14 at hw
    refine va_put (D := (dC, dI)) (ci := 7) (v := .int s0_J14) (ty := .int) (C := R_Mo) (T := F_Mo) (N := 29) hx hb hts i_Mo t_Mo t_Mo_ok n_Mo hown hK hP hD hS 0 rfl rfl 26 (by decide) (hts (Cond.fieldLink R_Mo 72 "PlantGraphModel" "thrown" "I") kw31_6501a0b) (fun _ h9 => h9) rfl (by decide +kernel) rfl rfl (Nat.le_of_ble_eq_true rfl) d_Mo_position_14 (fun H locs hP hD hS => ?_)
    have hP : va_P (dC, dI) classes [(q_t, .inr (7, o_Mo a_t v_t_things v_t_pipes v_t_wide v_t_size v_t_place v_t_number s0_J14 v_t_wish v_t_found)), ((a_t 1), .inl (cI, 40, .inl f_t_kinds)), ((a_t 6), .inl (cI, 40, .inl f_t_positions_J14))] H := hP
    have hD : va_D A [(q_t, .inr (7, o_Mo a_t v_t_things v_t_pipes v_t_wide v_t_size v_t_place v_t_number s0_J14 v_t_wish v_t_found)), ((a_t 1), .inl (cI, 40, .inl f_t_kinds)), ((a_t 6), .inl (cI, 40, .inl f_t_positions_J14))] := hD
    refine lv_aload_n hx hb d_Mo_position_17 rfl (lv_at hl 0 rfl) ?_
    refine lv_iload_n hx hb d_Mo_position_18 rfl (lv_at hl 1 rfl) ?_
    have hPc := hP.sub (ws' := [(q_t, .inr (7, o_Mo a_t v_t_things v_t_pipes v_t_wide v_t_size v_t_place v_t_number s0_J14 v_t_wish v_t_found)), ((a_t 1), .inl (cI, 40, .inl f_t_kinds))]) [0, 1] rfl
    have hDc := hD.sub (ws' := [(q_t, .inr (7, o_Mo a_t v_t_things v_t_pipes v_t_wide v_t_size v_t_place v_t_number s0_J14 v_t_wish v_t_found)), ((a_t 1), .inl (cI, 40, .inl f_t_kinds))]) [0, 1] (by decide) rfl
    have hFc := va_free (wc := [(q_t, .inr (7, o_Mo a_t v_t_things v_t_pipes v_t_wide v_t_size v_t_place v_t_number s0_J14 v_t_wish v_t_found)), ((a_t 1), .inl (cI, 40, .inl f_t_kinds))]) hD hS hA [0, 1] rfl
    refine va_calli (va_runV (As := [.int x1]) (rest := []) ⟨hx, hb, hml, hown, hts⟩ (c_Mo_isValve l dC dI cI cL cB q_t a_t H.size v_t_things v_t_pipes v_t_wide v_t_size v_t_place v_t_number s0_J14 v_t_wish v_t_found f_t_kinds x1 _ hw) (my_cwV 1 hts kw31_2e4ecc6 kw31_f1b771d kw31_5f5e83d kw31_7a5931c kw31_d5e479e rfl rfl (by decide +kernel) ⟨Nat.le_of_ble_eq_true rfl, Nat.le_of_ble_eq_true rfl⟩) ⟨fun a U g mk q => by obtain ⟨q0, q1, qP, qK, qD⟩ := q; exact ⟨q0, q1, qP, va_K.moved (u := U) (U := U.calling g mk a) (Vm.Alike.refl U.vm) qK, qD⟩, va_recv hK hP (ci := 7) (q0 := 0) rfl rfl, fun U hU hW => ⟨rfl, by rw [hU], by rw [hU]; exact hPc, va_K.moved hW.alike hK, hDc.weaken (fun _ _ _ _ => trivial)⟩⟩ rfl rfl hl.1 rfl (lv_room (Nat.le_of_ble_eq_true rfl)) d_Mo_position_19 ⟨Nat.zero_le _, Nat.zero_le _⟩) hS (fun q _ h => hFc q h) hFc (fun r19 u t H locs ht hvm hw hB hz1 hk1 hS => ?_)
    obtain ⟨hP1, hK1, hD1⟩ := hB
    rw [ht] at hP1
    obtain ⟨hP, hD⟩ := va_join (wr := [((a_t 6), .inl (cI, 40, .inl f_t_positions_J14))]) (w1 := [(q_t, .inr (7, o_Mo a_t v_t_things v_t_pipes v_t_wide v_t_size v_t_place v_t_number s0_J14 v_t_wish v_t_found)), ((a_t 1), .inl (cI, 40, .inl f_t_kinds))]) hP hD [0, 1] [2] rfl rfl (by decide) (by decide) hk1 hFc hP1 hD1
    have hP : va_P (dC, dI) classes [(q_t, .inr (7, o_Mo a_t v_t_things v_t_pipes v_t_wide v_t_size v_t_place v_t_number s0_J14 v_t_wish v_t_found)), ((a_t 1), .inl (cI, 40, .inl f_t_kinds)), ((a_t 6), .inl (cI, 40, .inl f_t_positions_J14))] H := hP.sub (ws' := [(q_t, .inr (7, o_Mo a_t v_t_things v_t_pipes v_t_wide v_t_size v_t_place v_t_number s0_J14 v_t_wish v_t_found)), ((a_t 1), .inl (cI, 40, .inl f_t_kinds)), ((a_t 6), .inl (cI, 40, .inl f_t_positions_J14))]) [1, 2, 0] rfl
    have hD : va_D A [(q_t, .inr (7, o_Mo a_t v_t_things v_t_pipes v_t_wide v_t_size v_t_place v_t_number s0_J14 v_t_wish v_t_found)), ((a_t 1), .inl (cI, 40, .inl f_t_kinds)), ((a_t 6), .inl (cI, 40, .inl f_t_positions_J14))] := hD.sub (ws' := [(q_t, .inr (7, o_Mo a_t v_t_things v_t_pipes v_t_wide v_t_size v_t_place v_t_number s0_J14 v_t_wish v_t_found)), ((a_t 1), .inl (cI, 40, .inl f_t_kinds)), ((a_t 6), .inl (cI, 40, .inl f_t_positions_J14))]) [1, 2, 0] (by decide) rfl
    refine lv_if_eq (tgt := 35) hx hb d_Mo_position_22 (by decide) (fun c22 => ?_) (fun c22 => ?_)
    · replace hw := hw.1 c22
      refine lv_iconst (v := 0) hx hb d_Mo_position_35 (by decide) ?_
      exact W.zret (v := 0) hx hb hr (by decide) (fun t ht hW => ⟨⟨0, (s0_J14, f_t_positions_J14), rfl, hw, by rw [ht]; exact hP, va_K.moved hW.alike hK, hD⟩, hS.F ht⟩) hS.2.2 d_Mo_position_36
    · replace hw := hw.2 c22
      refine lv_iload_n hx hb d_Mo_position_25 rfl (lv_at hl 2 rfl) ?_
      refine lv_if_lt (tgt := 35) hx hb d_Mo_position_26 (by decide) (fun c26 => ?_) (fun c26 => ?_)
      · replace hw := hw.1 c26
        refine lv_iconst (v := 0) hx hb d_Mo_position_35 (by decide) ?_
        exact W.zret (v := 0) hx hb hr (by decide) (fun t ht hW => ⟨⟨0, (s0_J14, f_t_positions_J14), rfl, hw, by rw [ht]; exact hP, va_K.moved hW.alike hK, hD⟩, hS.F ht⟩) hS.2.2 d_Mo_position_36
      · replace hw := hw.2 c26
        refine lv_iload_n hx hb d_Mo_position_29 rfl (lv_at hl 2 rfl) ?_
        refine lv_bipush (v := 9) hx hb d_Mo_position_30 (by decide) ?_
        refine lv_icmp_le (tgt := 37) hx hb d_Mo_position_32 (by decide) (fun c32 => ?_) (fun c32 => ?_)
        · replace hw := hw.1 c32
          refine lv_aload_n hx hb d_Mo_position_37 rfl (lv_at hl 0 rfl) ?_
          refine va_get (D := (dC, dI)) (ci := 7) (v := .ref (a_t 6)) (C := R_Mo) (T := F_Mo) (N := 29) hx hb hts i_Mo hown hK hP 0 rfl rfl 6 (by decide) (hts (Cond.fieldLink R_Mo 26 "PlantGraphModel" "positions" "[I") kw31_6a57fc2) (fun _ h9 => h9) rfl d_Mo_position_38 ?_
          refine lv_iload_n hx hb d_Mo_position_41 rfl (lv_at hl 1 rfl) ?_
          refine lv_iload_n hx hb d_Mo_position_42 rfl (lv_at hl 2 rfl) ?_
          refine va_iast hx hb hK hP hD hS 2 0 rfl rfl hw.1 d_Mo_position_43 (fun H locs hP hD hS => ?_)
          replace hw := hw.2
          have hP : va_P (dC, dI) classes [(q_t, .inr (7, o_Mo a_t v_t_things v_t_pipes v_t_wide v_t_size v_t_place v_t_number s0_J14 v_t_wish v_t_found)), ((a_t 1), .inl (cI, 40, .inl f_t_kinds)), ((a_t 6), .inl (cI, 40, .inl (upd f_t_positions_J14 x1.toNatClampNeg x2)))] H := hP
          have hD : va_D A [(q_t, .inr (7, o_Mo a_t v_t_things v_t_pipes v_t_wide v_t_size v_t_place v_t_number s0_J14 v_t_wish v_t_found)), ((a_t 1), .inl (cI, 40, .inl f_t_kinds)), ((a_t 6), .inl (cI, 40, .inl (upd f_t_positions_J14 x1.toNatClampNeg x2)))] := hD
          refine lv_iconst (v := 1) hx hb d_Mo_position_44 (by decide) ?_
          exact W.zret (v := 1) hx hb hr (by decide) (fun t ht hW => ⟨⟨1, (s0_J14, (upd f_t_positions_J14 x1.toNatClampNeg x2)), rfl, hw, by rw [ht]; exact hP, va_K.moved hW.alike hK, hD⟩, hS.F ht⟩) hS.2.2 d_Mo_position_45
        · replace hw := hw.2 c32
          refine lv_iconst (v := 0) hx hb d_Mo_position_35 (by decide) ?_
          exact W.zret (v := 0) hx hb hr (by decide) (fun t ht hW => ⟨⟨0, (s0_J14, f_t_positions_J14), rfl, hw, by rw [ht]; exact hP, va_K.moved hW.alike hK, hD⟩, hS.F ht⟩) hS.2.2 d_Mo_position_36
  refine lv_aload_n hx hb d_Mo_position_0 rfl (lv_at hl 0 rfl) ?_
  refine lv_aload_n hx hb d_Mo_position_1 rfl (lv_at hl 0 rfl) ?_
  refine lv_iload_n hx hb d_Mo_position_2 rfl (lv_at hl 1 rfl) ?_
  have hPc := hP.sub (ws' := [(q_t, .inr (7, o_Mo a_t v_t_things v_t_pipes v_t_wide v_t_size v_t_place v_t_number v_t_thrown v_t_wish v_t_found))]) [0] rfl
  have hDc := hD.sub (ws' := [(q_t, .inr (7, o_Mo a_t v_t_things v_t_pipes v_t_wide v_t_size v_t_place v_t_number v_t_thrown v_t_wish v_t_found))]) [0] (by decide) rfl
  have hFc := va_free (wc := [(q_t, .inr (7, o_Mo a_t v_t_things v_t_pipes v_t_wide v_t_size v_t_place v_t_number v_t_thrown v_t_wish v_t_found))]) hD hS hA [0] rfl
  refine va_calli (va_runV (As := [.int x1]) (rest := [.ref q_t]) ⟨hx, hb, hml, hown, hts⟩ (c_Mo_isThing l dC dI cI cL cB q_t a_t s.heap.size v_t_things v_t_pipes v_t_wide v_t_size v_t_place v_t_number v_t_thrown v_t_wish v_t_found x1 _ hw) (my_cwV 1 hts kw31_c875823 kw31_4435df4 kw31_110d942 kw31_7a5931c kw31_9e87649 rfl rfl (by decide +kernel) ⟨Nat.le_of_ble_eq_true rfl, Nat.le_of_ble_eq_true rfl⟩) ⟨fun a U g mk q => by obtain ⟨q0, q1, qP, qK, qD⟩ := q; exact ⟨q0, q1, qP, va_K.moved (u := U) (U := U.calling g mk a) (Vm.Alike.refl U.vm) qK, qD⟩, va_recv hK hP (ci := 7) (q0 := 0) rfl rfl, fun U hU hW => ⟨rfl, by rw [hU], by rw [hU]; exact hPc, va_K.moved hW.alike hK, hDc.weaken (fun _ _ _ _ => trivial)⟩⟩ rfl rfl hl.1 rfl (lv_room (Nat.le_of_ble_eq_true rfl)) d_Mo_position_3 ⟨Nat.zero_le _, Nat.zero_le _⟩) hS (fun q _ h => hFc q h) hFc (fun r3 u t H locs ht hvm hw hB hz1 hk1 hS => ?_)
  obtain ⟨hP1, hK1, hD1⟩ := hB
  rw [ht] at hP1
  obtain ⟨hP, hD⟩ := va_join (wr := [((a_t 1), .inl (cI, 40, .inl f_t_kinds)), ((a_t 6), .inl (cI, 40, .inl f_t_positions))]) (w1 := [(q_t, .inr (7, o_Mo a_t v_t_things v_t_pipes v_t_wide v_t_size v_t_place v_t_number v_t_thrown v_t_wish v_t_found))]) hP hD [0] [1, 2] rfl rfl (by decide) (by decide) hk1 hFc hP1 hD1
  have hP : va_P (dC, dI) classes [(q_t, .inr (7, o_Mo a_t v_t_things v_t_pipes v_t_wide v_t_size v_t_place v_t_number v_t_thrown v_t_wish v_t_found)), ((a_t 1), .inl (cI, 40, .inl f_t_kinds)), ((a_t 6), .inl (cI, 40, .inl f_t_positions))] H := hP.sub (ws' := [(q_t, .inr (7, o_Mo a_t v_t_things v_t_pipes v_t_wide v_t_size v_t_place v_t_number v_t_thrown v_t_wish v_t_found)), ((a_t 1), .inl (cI, 40, .inl f_t_kinds)), ((a_t 6), .inl (cI, 40, .inl f_t_positions))]) [2, 0, 1] rfl
  have hD : va_D A [(q_t, .inr (7, o_Mo a_t v_t_things v_t_pipes v_t_wide v_t_size v_t_place v_t_number v_t_thrown v_t_wish v_t_found)), ((a_t 1), .inl (cI, 40, .inl f_t_kinds)), ((a_t 6), .inl (cI, 40, .inl f_t_positions))] := hD.sub (ws' := [(q_t, .inr (7, o_Mo a_t v_t_things v_t_pipes v_t_wide v_t_size v_t_place v_t_number v_t_thrown v_t_wish v_t_found)), ((a_t 1), .inl (cI, 40, .inl f_t_kinds)), ((a_t 6), .inl (cI, 40, .inl f_t_positions))]) [2, 0, 1] (by decide) rfl
  refine lv_if_eq (tgt := 13) hx hb d_Mo_position_6 (by decide) (fun c6 => ?_) (fun c6 => ?_)
  · replace hw := hw.1 c6
    refine lv_iconst (v := 1) hx hb d_Mo_position_13 (by decide) ?_
    exact J_14 v_t_thrown f_t_positions 1 H _ _ hP hD hS (lv_sub hl [0, 1, 2] rfl) hw
  · replace hw := hw.2 c6
    refine lv_iconst (v := 0) hx hb d_Mo_position_9 (by decide) ?_
    refine lv_goto (tgt := 14) hx hb d_Mo_position_10 (by decide) ?_
    exact J_14 v_t_thrown f_t_positions 0 H _ _ hP hD hS (lv_sub hl [0, 1, 2] rfl) hw
def wp_Mo_sensor (v_t_things : Int32) (v_t_thrown : Int32) (f_t_kinds : (Nat → Int32)) (f_t_sensors : (Nat → Int32)) (x1 : Int32) (x2 : Int32) (P : Int32 → Int32 → (Nat → Int32) → Prop) : Prop := wp_Mo_isValve v_t_things f_t_kinds x1 (fun r7 => ((r7 = 0 → P 0 0 f_t_sensors) ∧ (¬ r7 = 0 → ((x2 < 0 → P 0 0 f_t_sensors) ∧ (¬ x2 < 0 → ((x2 ≤ (9 : Int32) → (vp_in x1 40 ∧ P 1 0 (upd f_t_sensors x1.toNatClampNeg x2))) ∧ (¬ x2 ≤ (9 : Int32) → P 0 0 f_t_sensors)))))))
def w_Mo_sensor : List Cond := .code y_Mo_sensor b_Mo_sensor 3 (some .boolean) :: tb
abbrev rm_Mo_sensor : Room := { frames := 2, cells := 0, slots := 0, locals := 42 }
abbrev Q_Mo_sensor (dC : Nat → ClassId) (dI : Nat → Nat → Nat) (cI cL cB : ClassId) (q_t : Nat) (a_t : Nat → Nat) (v_t_things : Int32) (v_t_pipes : Int32) (v_t_wide : Int32) (v_t_size : Int32) (v_t_place : Int32) (v_t_number : Int64) (v_t_thrown : Int32) (v_t_wish : Int32) (v_t_found : Int32) (f_t_kinds : (Nat → Int32)) (f_t_sensors : (Nat → Int32)) (x1 : Int32) (x2 : Int32) (P : Int32 → Int32 → (Nat → Int32) → Prop) (A : Nat → Prop) : Array Value → State → Outcome → State → Prop := va_Qi (fun (r : Int32) (u : Int32 × (Nat → Int32)) => P r u.1 u.2) (fun u t => va_P (dC, dI) classes [(q_t, .inr (7, o_Mo a_t v_t_things v_t_pipes v_t_wide v_t_size v_t_place v_t_number u.1 v_t_wish v_t_found)), ((a_t 1), .inl (cI, 40, .inl f_t_kinds)), ((a_t 7), .inl (cI, 40, .inl u.2))] t.heap ∧ va_K (dC, dI) classes [(cI, .int), (cL, .long), (cB, .byte)] t ∧ va_D A [(q_t, .inr (7, o_Mo a_t v_t_things v_t_pipes v_t_wide v_t_size v_t_place v_t_number u.1 v_t_wish v_t_found)), ((a_t 1), .inl (cI, 40, .inl f_t_kinds)), ((a_t 7), .inl (cI, 40, .inl u.2))]) A
set_option maxHeartbeats 4000000 in
set_option maxRecDepth 100000 in
theorem c_Mo_sensor (l : Launch) (dC : Nat → ClassId) (dI : Nat → Nat → Nat) (cI cL cB : ClassId) (q_t : Nat) (a_t : Nat → Nat) (sz : Nat) (v_t_things : Int32) (v_t_pipes : Int32) (v_t_wide : Int32) (v_t_size : Int32) (v_t_place : Int32) (v_t_number : Int64) (v_t_thrown : Int32) (v_t_wish : Int32) (v_t_found : Int32) (f_t_kinds : (Nat → Int32)) (f_t_sensors : (Nat → Int32)) (x1 : Int32) (x2 : Int32) (P : Int32 → Int32 → (Nat → Int32) → Prop) (hw : wp_Mo_sensor v_t_things v_t_thrown f_t_kinds f_t_sensors x1 x2 P) : Met l y_Mo_sensor w_Mo_sensor rm_Mo_sensor (va_Pc [.ref q_t, .int x1, .int x2] (fun U => U.heap.size = sz ∧ va_P (dC, dI) classes [(q_t, .inr (7, o_Mo a_t v_t_things v_t_pipes v_t_wide v_t_size v_t_place v_t_number v_t_thrown v_t_wish v_t_found)), ((a_t 1), .inl (cI, 40, .inl f_t_kinds)), ((a_t 7), .inl (cI, 40, .inl f_t_sensors))] U.heap ∧ va_K (dC, dI) classes [(cI, .int), (cL, .long), (cB, .byte)] U ∧ va_D (fun _ => True) [(q_t, .inr (7, o_Mo a_t v_t_things v_t_pipes v_t_wide v_t_size v_t_place v_t_number v_t_thrown v_t_wish v_t_found)), ((a_t 1), .inl (cI, 40, .inl f_t_kinds)), ((a_t 7), .inl (cI, 40, .inl f_t_sensors))])) (Q_Mo_sensor dC dI cI cL cB q_t a_t v_t_things v_t_pipes v_t_wide v_t_size v_t_place v_t_number v_t_thrown v_t_wish v_t_found f_t_kinds f_t_sensors x1 x2 P (va_A [(q_t, .inr (7, o_Mo a_t v_t_things v_t_pipes v_t_wide v_t_size v_t_place v_t_number v_t_thrown v_t_wish v_t_found)), ((a_t 1), .inl (cI, 40, .inl f_t_kinds)), ((a_t 7), .inl (cI, 40, .inl f_t_sensors))] sz)) 0 0 (va_A [(q_t, .inr (7, o_Mo a_t v_t_things v_t_pipes v_t_wide v_t_size v_t_place v_t_number v_t_thrown v_t_wish v_t_found)), ((a_t 1), .inl (cI, 40, .inl f_t_kinds)), ((a_t 7), .inl (cI, 40, .inl f_t_sensors))] sz) := by
  refine Met.ofW (cc := b_Mo_sensor) (maxL := 3) (ret := (some .boolean)) (by decide) rfl ?_
  intro p e s m args below meth c s₁ B hml hv
  obtain ⟨ha, hsz, hP, hK, hD0⟩ := hv
  have hx := B.exec
  have hb := B.bytes
  have hr := B.returns
  have hts0 := atoms_spec (ws := w_Mo_sensor) B.pre
  have hts : ∀ w ∈ tb, w.before args s = true := fun w h => hts0 w (List.mem_cons_of_mem _ h)
  have hown : s.vm.findClass R_Mo = some m.cls := findClass_of_methodNamed B.named
  have hlocks := B.notSynchronized
  subst hsz
  have hD := hD0.self (sz := s.heap.size)
  generalize hAe : va_A [(q_t, .inr (7, o_Mo a_t v_t_things v_t_pipes v_t_wide v_t_size v_t_place v_t_number v_t_thrown v_t_wish v_t_found)), ((a_t 1), .inl (cI, 40, .inl f_t_kinds)), ((a_t 7), .inl (cI, 40, .inl f_t_sensors))] s.heap.size = A at hD ⊢
  have hA : ∀ q : Nat, s.heap.size ≤ q → A q := fun q h => by rw [← hAe]; exact Or.inr h
  have hS : va_S A s.heap s.heap [] := va_S.rf
  have hP : va_P (dC, dI) classes [(q_t, .inr (7, o_Mo a_t v_t_things v_t_pipes v_t_wide v_t_size v_t_place v_t_number v_t_thrown v_t_wish v_t_found)), ((a_t 1), .inl (cI, 40, .inl f_t_kinds)), ((a_t 7), .inl (cI, 40, .inl f_t_sensors))] s.heap := hP
  have hl := lv_entry [.ref q_t, .int x1, .int x2] (n := 3) (Nat.le_of_ble_eq_true rfl)
  have he9 : entryFrame m args 3 = F0 m 0 ((lg_sl [.ref q_t, .int x1, .int x2] ++ List.replicate (3 - (lg_sl [.ref q_t, .int x1, .int x2]).length) Slot.unset).toArray) [] := by rw [ha]; exact lg_entry_eq _ _ _
  rw [he9]
  clear he9
  generalize (lg_sl [.ref q_t, .int x1, .int x2] ++ List.replicate (3 - (lg_sl [.ref q_t, .int x1, .int x2]).length) Slot.unset).toArray = ls at hl ⊢
  have hl : lv_has ls 3 [(0, .ref q_t), (1, .int x1), (2, .int x2)] := hl
  unfold wp_Mo_sensor at hw
  refine lv_aload_n hx hb d_Mo_sensor_0 rfl (lv_at hl 0 rfl) ?_
  refine lv_iconst (v := 0) hx hb d_Mo_sensor_1 (by decide) ?_
  refine va_put (D := (dC, dI)) (ci := 7) (v := .int 0) (ty := .int) (C := R_Mo) (T := F_Mo) (N := 29) hx hb hts i_Mo t_Mo t_Mo_ok n_Mo hown hK hP hD hS 0 rfl rfl 26 (by decide) (hts (Cond.fieldLink R_Mo 72 "PlantGraphModel" "thrown" "I") kw31_6501a0b) (fun _ h9 => h9) rfl (by decide +kernel) rfl rfl (Nat.le_of_ble_eq_true rfl) d_Mo_sensor_2 (fun H locs hP hD hS => ?_)
  have hP : va_P (dC, dI) classes [(q_t, .inr (7, o_Mo a_t v_t_things v_t_pipes v_t_wide v_t_size v_t_place v_t_number 0 v_t_wish v_t_found)), ((a_t 1), .inl (cI, 40, .inl f_t_kinds)), ((a_t 7), .inl (cI, 40, .inl f_t_sensors))] H := hP
  have hD : va_D A [(q_t, .inr (7, o_Mo a_t v_t_things v_t_pipes v_t_wide v_t_size v_t_place v_t_number 0 v_t_wish v_t_found)), ((a_t 1), .inl (cI, 40, .inl f_t_kinds)), ((a_t 7), .inl (cI, 40, .inl f_t_sensors))] := hD
  refine lv_aload_n hx hb d_Mo_sensor_5 rfl (lv_at hl 0 rfl) ?_
  refine lv_iload_n hx hb d_Mo_sensor_6 rfl (lv_at hl 1 rfl) ?_
  have hPc := hP.sub (ws' := [(q_t, .inr (7, o_Mo a_t v_t_things v_t_pipes v_t_wide v_t_size v_t_place v_t_number 0 v_t_wish v_t_found)), ((a_t 1), .inl (cI, 40, .inl f_t_kinds))]) [0, 1] rfl
  have hDc := hD.sub (ws' := [(q_t, .inr (7, o_Mo a_t v_t_things v_t_pipes v_t_wide v_t_size v_t_place v_t_number 0 v_t_wish v_t_found)), ((a_t 1), .inl (cI, 40, .inl f_t_kinds))]) [0, 1] (by decide) rfl
  have hFc := va_free (wc := [(q_t, .inr (7, o_Mo a_t v_t_things v_t_pipes v_t_wide v_t_size v_t_place v_t_number 0 v_t_wish v_t_found)), ((a_t 1), .inl (cI, 40, .inl f_t_kinds))]) hD hS hA [0, 1] rfl
  refine va_calli (va_runV (As := [.int x1]) (rest := []) ⟨hx, hb, hml, hown, hts⟩ (c_Mo_isValve l dC dI cI cL cB q_t a_t H.size v_t_things v_t_pipes v_t_wide v_t_size v_t_place v_t_number 0 v_t_wish v_t_found f_t_kinds x1 _ hw) (my_cwV 1 hts kw31_2e4ecc6 kw31_f1b771d kw31_5f5e83d kw31_7a5931c kw31_d5e479e rfl rfl (by decide +kernel) ⟨Nat.le_of_ble_eq_true rfl, Nat.le_of_ble_eq_true rfl⟩) ⟨fun a U g mk q => by obtain ⟨q0, q1, qP, qK, qD⟩ := q; exact ⟨q0, q1, qP, va_K.moved (u := U) (U := U.calling g mk a) (Vm.Alike.refl U.vm) qK, qD⟩, va_recv hK hP (ci := 7) (q0 := 0) rfl rfl, fun U hU hW => ⟨rfl, by rw [hU], by rw [hU]; exact hPc, va_K.moved hW.alike hK, hDc.weaken (fun _ _ _ _ => trivial)⟩⟩ rfl rfl hl.1 rfl (lv_room (Nat.le_of_ble_eq_true rfl)) d_Mo_sensor_7 ⟨Nat.zero_le _, Nat.zero_le _⟩) hS (fun q _ h => hFc q h) hFc (fun r7 u t H locs ht hvm hw hB hz1 hk1 hS => ?_)
  obtain ⟨hP1, hK1, hD1⟩ := hB
  rw [ht] at hP1
  obtain ⟨hP, hD⟩ := va_join (wr := [((a_t 7), .inl (cI, 40, .inl f_t_sensors))]) (w1 := [(q_t, .inr (7, o_Mo a_t v_t_things v_t_pipes v_t_wide v_t_size v_t_place v_t_number 0 v_t_wish v_t_found)), ((a_t 1), .inl (cI, 40, .inl f_t_kinds))]) hP hD [0, 1] [2] rfl rfl (by decide) (by decide) hk1 hFc hP1 hD1
  have hP : va_P (dC, dI) classes [(q_t, .inr (7, o_Mo a_t v_t_things v_t_pipes v_t_wide v_t_size v_t_place v_t_number 0 v_t_wish v_t_found)), ((a_t 1), .inl (cI, 40, .inl f_t_kinds)), ((a_t 7), .inl (cI, 40, .inl f_t_sensors))] H := hP.sub (ws' := [(q_t, .inr (7, o_Mo a_t v_t_things v_t_pipes v_t_wide v_t_size v_t_place v_t_number 0 v_t_wish v_t_found)), ((a_t 1), .inl (cI, 40, .inl f_t_kinds)), ((a_t 7), .inl (cI, 40, .inl f_t_sensors))]) [1, 2, 0] rfl
  have hD : va_D A [(q_t, .inr (7, o_Mo a_t v_t_things v_t_pipes v_t_wide v_t_size v_t_place v_t_number 0 v_t_wish v_t_found)), ((a_t 1), .inl (cI, 40, .inl f_t_kinds)), ((a_t 7), .inl (cI, 40, .inl f_t_sensors))] := hD.sub (ws' := [(q_t, .inr (7, o_Mo a_t v_t_things v_t_pipes v_t_wide v_t_size v_t_place v_t_number 0 v_t_wish v_t_found)), ((a_t 1), .inl (cI, 40, .inl f_t_kinds)), ((a_t 7), .inl (cI, 40, .inl f_t_sensors))]) [1, 2, 0] (by decide) rfl
  refine lv_if_eq (tgt := 23) hx hb d_Mo_sensor_10 (by decide) (fun c10 => ?_) (fun c10 => ?_)
  · replace hw := hw.1 c10
    refine lv_iconst (v := 0) hx hb d_Mo_sensor_23 (by decide) ?_
    exact W.zret (v := 0) hx hb hr (by decide) (fun t ht hW => ⟨⟨0, (0, f_t_sensors), rfl, hw, by rw [ht]; exact hP, va_K.moved hW.alike hK, hD⟩, hS.F ht⟩) hS.2.2 d_Mo_sensor_24
  · replace hw := hw.2 c10
    refine lv_iload_n hx hb d_Mo_sensor_13 rfl (lv_at hl 2 rfl) ?_
    refine lv_if_lt (tgt := 23) hx hb d_Mo_sensor_14 (by decide) (fun c14 => ?_) (fun c14 => ?_)
    · replace hw := hw.1 c14
      refine lv_iconst (v := 0) hx hb d_Mo_sensor_23 (by decide) ?_
      exact W.zret (v := 0) hx hb hr (by decide) (fun t ht hW => ⟨⟨0, (0, f_t_sensors), rfl, hw, by rw [ht]; exact hP, va_K.moved hW.alike hK, hD⟩, hS.F ht⟩) hS.2.2 d_Mo_sensor_24
    · replace hw := hw.2 c14
      refine lv_iload_n hx hb d_Mo_sensor_17 rfl (lv_at hl 2 rfl) ?_
      refine lv_bipush (v := 9) hx hb d_Mo_sensor_18 (by decide) ?_
      refine lv_icmp_le (tgt := 25) hx hb d_Mo_sensor_20 (by decide) (fun c20 => ?_) (fun c20 => ?_)
      · replace hw := hw.1 c20
        refine lv_aload_n hx hb d_Mo_sensor_25 rfl (lv_at hl 0 rfl) ?_
        refine va_get (D := (dC, dI)) (ci := 7) (v := .ref (a_t 7)) (C := R_Mo) (T := F_Mo) (N := 29) hx hb hts i_Mo hown hK hP 0 rfl rfl 7 (by decide) (hts (Cond.fieldLink R_Mo 29 "PlantGraphModel" "sensors" "[I") kw31_f20414e) (fun _ h9 => h9) rfl d_Mo_sensor_26 ?_
        refine lv_iload_n hx hb d_Mo_sensor_29 rfl (lv_at hl 1 rfl) ?_
        refine lv_iload_n hx hb d_Mo_sensor_30 rfl (lv_at hl 2 rfl) ?_
        refine va_iast hx hb hK hP hD hS 2 0 rfl rfl hw.1 d_Mo_sensor_31 (fun H locs hP hD hS => ?_)
        replace hw := hw.2
        have hP : va_P (dC, dI) classes [(q_t, .inr (7, o_Mo a_t v_t_things v_t_pipes v_t_wide v_t_size v_t_place v_t_number 0 v_t_wish v_t_found)), ((a_t 1), .inl (cI, 40, .inl f_t_kinds)), ((a_t 7), .inl (cI, 40, .inl (upd f_t_sensors x1.toNatClampNeg x2)))] H := hP
        have hD : va_D A [(q_t, .inr (7, o_Mo a_t v_t_things v_t_pipes v_t_wide v_t_size v_t_place v_t_number 0 v_t_wish v_t_found)), ((a_t 1), .inl (cI, 40, .inl f_t_kinds)), ((a_t 7), .inl (cI, 40, .inl (upd f_t_sensors x1.toNatClampNeg x2)))] := hD
        refine lv_iconst (v := 1) hx hb d_Mo_sensor_32 (by decide) ?_
        exact W.zret (v := 1) hx hb hr (by decide) (fun t ht hW => ⟨⟨1, (0, (upd f_t_sensors x1.toNatClampNeg x2)), rfl, hw, by rw [ht]; exact hP, va_K.moved hW.alike hK, hD⟩, hS.F ht⟩) hS.2.2 d_Mo_sensor_33
      · replace hw := hw.2 c20
        refine lv_iconst (v := 0) hx hb d_Mo_sensor_23 (by decide) ?_
        exact W.zret (v := 0) hx hb hr (by decide) (fun t ht hW => ⟨⟨0, (0, f_t_sensors), rfl, hw, by rw [ht]; exact hP, va_K.moved hW.alike hK, hD⟩, hS.F ht⟩) hS.2.2 d_Mo_sensor_24
def wp_Mo_unsure (v_t_things : Int32) (v_t_thrown : Int32) (f_t_kinds : (Nat → Int32)) (f_t_positions : (Nat → Int32)) (f_t_sensors : (Nat → Int32)) (x1 : Int32) (P : Int32 → Int32 → Prop) : Prop := wp_Mo_isValve v_t_things f_t_kinds x1 (fun r7 => ((r7 = 0 → P 0 0) ∧ (¬ r7 = 0 → (vp_in x1 40 ∧ (((f_t_sensors x1.toNatClampNeg) = ((-1) : Int32) → P 0 0) ∧ (¬ (f_t_sensors x1.toNatClampNeg) = ((-1) : Int32) → (vp_in x1 40 ∧ (vp_in x1 40 ∧ (((f_t_sensors x1.toNatClampNeg) = (f_t_positions x1.toNatClampNeg) → P 0 0) ∧ (¬ (f_t_sensors x1.toNatClampNeg) = (f_t_positions x1.toNatClampNeg) → P 1 0))))))))))
def w_Mo_unsure : List Cond := .code y_Mo_unsure b_Mo_unsure 2 (some .boolean) :: tb
abbrev rm_Mo_unsure : Room := { frames := 2, cells := 0, slots := 0, locals := 42 }
abbrev Q_Mo_unsure (dC : Nat → ClassId) (dI : Nat → Nat → Nat) (cI cL cB : ClassId) (q_t : Nat) (a_t : Nat → Nat) (v_t_things : Int32) (v_t_pipes : Int32) (v_t_wide : Int32) (v_t_size : Int32) (v_t_place : Int32) (v_t_number : Int64) (v_t_thrown : Int32) (v_t_wish : Int32) (v_t_found : Int32) (f_t_kinds : (Nat → Int32)) (f_t_positions : (Nat → Int32)) (f_t_sensors : (Nat → Int32)) (x1 : Int32) (P : Int32 → Int32 → Prop) (A : Nat → Prop) : Array Value → State → Outcome → State → Prop := va_Qi (fun (r : Int32) (u : Int32) => P r u) (fun u t => va_P (dC, dI) classes [(q_t, .inr (7, o_Mo a_t v_t_things v_t_pipes v_t_wide v_t_size v_t_place v_t_number u v_t_wish v_t_found)), ((a_t 1), .inl (cI, 40, .inl f_t_kinds)), ((a_t 6), .inl (cI, 40, .inl f_t_positions)), ((a_t 7), .inl (cI, 40, .inl f_t_sensors))] t.heap ∧ va_K (dC, dI) classes [(cI, .int), (cL, .long), (cB, .byte)] t ∧ va_D A [(q_t, .inr (7, o_Mo a_t v_t_things v_t_pipes v_t_wide v_t_size v_t_place v_t_number u v_t_wish v_t_found)), ((a_t 1), .inl (cI, 40, .inl f_t_kinds)), ((a_t 6), .inl (cI, 40, .inl f_t_positions)), ((a_t 7), .inl (cI, 40, .inl f_t_sensors))]) A
set_option maxHeartbeats 4000000 in
set_option maxRecDepth 100000 in
theorem c_Mo_unsure (l : Launch) (dC : Nat → ClassId) (dI : Nat → Nat → Nat) (cI cL cB : ClassId) (q_t : Nat) (a_t : Nat → Nat) (sz : Nat) (v_t_things : Int32) (v_t_pipes : Int32) (v_t_wide : Int32) (v_t_size : Int32) (v_t_place : Int32) (v_t_number : Int64) (v_t_thrown : Int32) (v_t_wish : Int32) (v_t_found : Int32) (f_t_kinds : (Nat → Int32)) (f_t_positions : (Nat → Int32)) (f_t_sensors : (Nat → Int32)) (x1 : Int32) (P : Int32 → Int32 → Prop) (hw : wp_Mo_unsure v_t_things v_t_thrown f_t_kinds f_t_positions f_t_sensors x1 P) : Met l y_Mo_unsure w_Mo_unsure rm_Mo_unsure (va_Pc [.ref q_t, .int x1] (fun U => U.heap.size = sz ∧ va_P (dC, dI) classes [(q_t, .inr (7, o_Mo a_t v_t_things v_t_pipes v_t_wide v_t_size v_t_place v_t_number v_t_thrown v_t_wish v_t_found)), ((a_t 1), .inl (cI, 40, .inl f_t_kinds)), ((a_t 6), .inl (cI, 40, .inl f_t_positions)), ((a_t 7), .inl (cI, 40, .inl f_t_sensors))] U.heap ∧ va_K (dC, dI) classes [(cI, .int), (cL, .long), (cB, .byte)] U ∧ va_D (fun _ => True) [(q_t, .inr (7, o_Mo a_t v_t_things v_t_pipes v_t_wide v_t_size v_t_place v_t_number v_t_thrown v_t_wish v_t_found)), ((a_t 1), .inl (cI, 40, .inl f_t_kinds)), ((a_t 6), .inl (cI, 40, .inl f_t_positions)), ((a_t 7), .inl (cI, 40, .inl f_t_sensors))])) (Q_Mo_unsure dC dI cI cL cB q_t a_t v_t_things v_t_pipes v_t_wide v_t_size v_t_place v_t_number v_t_thrown v_t_wish v_t_found f_t_kinds f_t_positions f_t_sensors x1 P (va_A [(q_t, .inr (7, o_Mo a_t v_t_things v_t_pipes v_t_wide v_t_size v_t_place v_t_number v_t_thrown v_t_wish v_t_found)), ((a_t 1), .inl (cI, 40, .inl f_t_kinds)), ((a_t 6), .inl (cI, 40, .inl f_t_positions)), ((a_t 7), .inl (cI, 40, .inl f_t_sensors))] sz)) 0 0 (va_A [(q_t, .inr (7, o_Mo a_t v_t_things v_t_pipes v_t_wide v_t_size v_t_place v_t_number v_t_thrown v_t_wish v_t_found)), ((a_t 1), .inl (cI, 40, .inl f_t_kinds)), ((a_t 6), .inl (cI, 40, .inl f_t_positions)), ((a_t 7), .inl (cI, 40, .inl f_t_sensors))] sz) := by
  refine Met.ofW (cc := b_Mo_unsure) (maxL := 2) (ret := (some .boolean)) (by decide) rfl ?_
  intro p e s m args below meth c s₁ B hml hv
  obtain ⟨ha, hsz, hP, hK, hD0⟩ := hv
  have hx := B.exec
  have hb := B.bytes
  have hr := B.returns
  have hts0 := atoms_spec (ws := w_Mo_unsure) B.pre
  have hts : ∀ w ∈ tb, w.before args s = true := fun w h => hts0 w (List.mem_cons_of_mem _ h)
  have hown : s.vm.findClass R_Mo = some m.cls := findClass_of_methodNamed B.named
  have hlocks := B.notSynchronized
  subst hsz
  have hD := hD0.self (sz := s.heap.size)
  generalize hAe : va_A [(q_t, .inr (7, o_Mo a_t v_t_things v_t_pipes v_t_wide v_t_size v_t_place v_t_number v_t_thrown v_t_wish v_t_found)), ((a_t 1), .inl (cI, 40, .inl f_t_kinds)), ((a_t 6), .inl (cI, 40, .inl f_t_positions)), ((a_t 7), .inl (cI, 40, .inl f_t_sensors))] s.heap.size = A at hD ⊢
  have hA : ∀ q : Nat, s.heap.size ≤ q → A q := fun q h => by rw [← hAe]; exact Or.inr h
  have hS : va_S A s.heap s.heap [] := va_S.rf
  have hP : va_P (dC, dI) classes [(q_t, .inr (7, o_Mo a_t v_t_things v_t_pipes v_t_wide v_t_size v_t_place v_t_number v_t_thrown v_t_wish v_t_found)), ((a_t 1), .inl (cI, 40, .inl f_t_kinds)), ((a_t 6), .inl (cI, 40, .inl f_t_positions)), ((a_t 7), .inl (cI, 40, .inl f_t_sensors))] s.heap := hP
  have hl := lv_entry [.ref q_t, .int x1] (n := 2) (Nat.le_of_ble_eq_true rfl)
  have he9 : entryFrame m args 2 = F0 m 0 ((lg_sl [.ref q_t, .int x1] ++ List.replicate (2 - (lg_sl [.ref q_t, .int x1]).length) Slot.unset).toArray) [] := by rw [ha]; exact lg_entry_eq _ _ _
  rw [he9]
  clear he9
  generalize (lg_sl [.ref q_t, .int x1] ++ List.replicate (2 - (lg_sl [.ref q_t, .int x1]).length) Slot.unset).toArray = ls at hl ⊢
  have hl : lv_has ls 2 [(0, .ref q_t), (1, .int x1)] := hl
  unfold wp_Mo_unsure at hw
  refine lv_aload_n hx hb d_Mo_unsure_0 rfl (lv_at hl 0 rfl) ?_
  refine lv_iconst (v := 0) hx hb d_Mo_unsure_1 (by decide) ?_
  refine va_put (D := (dC, dI)) (ci := 7) (v := .int 0) (ty := .int) (C := R_Mo) (T := F_Mo) (N := 29) hx hb hts i_Mo t_Mo t_Mo_ok n_Mo hown hK hP hD hS 0 rfl rfl 26 (by decide) (hts (Cond.fieldLink R_Mo 72 "PlantGraphModel" "thrown" "I") kw31_6501a0b) (fun _ h9 => h9) rfl (by decide +kernel) rfl rfl (Nat.le_of_ble_eq_true rfl) d_Mo_unsure_2 (fun H locs hP hD hS => ?_)
  have hP : va_P (dC, dI) classes [(q_t, .inr (7, o_Mo a_t v_t_things v_t_pipes v_t_wide v_t_size v_t_place v_t_number 0 v_t_wish v_t_found)), ((a_t 1), .inl (cI, 40, .inl f_t_kinds)), ((a_t 6), .inl (cI, 40, .inl f_t_positions)), ((a_t 7), .inl (cI, 40, .inl f_t_sensors))] H := hP
  have hD : va_D A [(q_t, .inr (7, o_Mo a_t v_t_things v_t_pipes v_t_wide v_t_size v_t_place v_t_number 0 v_t_wish v_t_found)), ((a_t 1), .inl (cI, 40, .inl f_t_kinds)), ((a_t 6), .inl (cI, 40, .inl f_t_positions)), ((a_t 7), .inl (cI, 40, .inl f_t_sensors))] := hD
  refine lv_aload_n hx hb d_Mo_unsure_5 rfl (lv_at hl 0 rfl) ?_
  refine lv_iload_n hx hb d_Mo_unsure_6 rfl (lv_at hl 1 rfl) ?_
  have hPc := hP.sub (ws' := [(q_t, .inr (7, o_Mo a_t v_t_things v_t_pipes v_t_wide v_t_size v_t_place v_t_number 0 v_t_wish v_t_found)), ((a_t 1), .inl (cI, 40, .inl f_t_kinds))]) [0, 1] rfl
  have hDc := hD.sub (ws' := [(q_t, .inr (7, o_Mo a_t v_t_things v_t_pipes v_t_wide v_t_size v_t_place v_t_number 0 v_t_wish v_t_found)), ((a_t 1), .inl (cI, 40, .inl f_t_kinds))]) [0, 1] (by decide) rfl
  have hFc := va_free (wc := [(q_t, .inr (7, o_Mo a_t v_t_things v_t_pipes v_t_wide v_t_size v_t_place v_t_number 0 v_t_wish v_t_found)), ((a_t 1), .inl (cI, 40, .inl f_t_kinds))]) hD hS hA [0, 1] rfl
  refine va_calli (va_runV (As := [.int x1]) (rest := []) ⟨hx, hb, hml, hown, hts⟩ (c_Mo_isValve l dC dI cI cL cB q_t a_t H.size v_t_things v_t_pipes v_t_wide v_t_size v_t_place v_t_number 0 v_t_wish v_t_found f_t_kinds x1 _ hw) (my_cwV 1 hts kw31_2e4ecc6 kw31_f1b771d kw31_5f5e83d kw31_7a5931c kw31_d5e479e rfl rfl (by decide +kernel) ⟨Nat.le_of_ble_eq_true rfl, Nat.le_of_ble_eq_true rfl⟩) ⟨fun a U g mk q => by obtain ⟨q0, q1, qP, qK, qD⟩ := q; exact ⟨q0, q1, qP, va_K.moved (u := U) (U := U.calling g mk a) (Vm.Alike.refl U.vm) qK, qD⟩, va_recv hK hP (ci := 7) (q0 := 0) rfl rfl, fun U hU hW => ⟨rfl, by rw [hU], by rw [hU]; exact hPc, va_K.moved hW.alike hK, hDc.weaken (fun _ _ _ _ => trivial)⟩⟩ rfl rfl hl.1 rfl (lv_room (Nat.le_of_ble_eq_true rfl)) d_Mo_unsure_7 ⟨Nat.zero_le _, Nat.zero_le _⟩) hS (fun q _ h => hFc q h) hFc (fun r7 u t H locs ht hvm hw hB hz1 hk1 hS => ?_)
  obtain ⟨hP1, hK1, hD1⟩ := hB
  rw [ht] at hP1
  obtain ⟨hP, hD⟩ := va_join (wr := [((a_t 6), .inl (cI, 40, .inl f_t_positions)), ((a_t 7), .inl (cI, 40, .inl f_t_sensors))]) (w1 := [(q_t, .inr (7, o_Mo a_t v_t_things v_t_pipes v_t_wide v_t_size v_t_place v_t_number 0 v_t_wish v_t_found)), ((a_t 1), .inl (cI, 40, .inl f_t_kinds))]) hP hD [0, 1] [2, 3] rfl rfl (by decide) (by decide) hk1 hFc hP1 hD1
  have hP : va_P (dC, dI) classes [(q_t, .inr (7, o_Mo a_t v_t_things v_t_pipes v_t_wide v_t_size v_t_place v_t_number 0 v_t_wish v_t_found)), ((a_t 1), .inl (cI, 40, .inl f_t_kinds)), ((a_t 6), .inl (cI, 40, .inl f_t_positions)), ((a_t 7), .inl (cI, 40, .inl f_t_sensors))] H := hP.sub (ws' := [(q_t, .inr (7, o_Mo a_t v_t_things v_t_pipes v_t_wide v_t_size v_t_place v_t_number 0 v_t_wish v_t_found)), ((a_t 1), .inl (cI, 40, .inl f_t_kinds)), ((a_t 6), .inl (cI, 40, .inl f_t_positions)), ((a_t 7), .inl (cI, 40, .inl f_t_sensors))]) [2, 3, 0, 1] rfl
  have hD : va_D A [(q_t, .inr (7, o_Mo a_t v_t_things v_t_pipes v_t_wide v_t_size v_t_place v_t_number 0 v_t_wish v_t_found)), ((a_t 1), .inl (cI, 40, .inl f_t_kinds)), ((a_t 6), .inl (cI, 40, .inl f_t_positions)), ((a_t 7), .inl (cI, 40, .inl f_t_sensors))] := hD.sub (ws' := [(q_t, .inr (7, o_Mo a_t v_t_things v_t_pipes v_t_wide v_t_size v_t_place v_t_number 0 v_t_wish v_t_found)), ((a_t 1), .inl (cI, 40, .inl f_t_kinds)), ((a_t 6), .inl (cI, 40, .inl f_t_positions)), ((a_t 7), .inl (cI, 40, .inl f_t_sensors))]) [2, 3, 0, 1] (by decide) rfl
  refine lv_if_eq (tgt := 42) hx hb d_Mo_unsure_10 (by decide) (fun c10 => ?_) (fun c10 => ?_)
  · replace hw := hw.1 c10
    refine lv_iconst (v := 0) hx hb d_Mo_unsure_42 (by decide) ?_
    exact W.zret (v := 0) hx hb hr (by decide) (fun t ht hW => ⟨⟨0, 0, rfl, hw, by rw [ht]; exact hP, va_K.moved hW.alike hK, hD⟩, hS.F ht⟩) hS.2.2 d_Mo_unsure_43
  · replace hw := hw.2 c10
    refine lv_aload_n hx hb d_Mo_unsure_13 rfl (lv_at hl 0 rfl) ?_
    refine va_get (D := (dC, dI)) (ci := 7) (v := .ref (a_t 7)) (C := R_Mo) (T := F_Mo) (N := 29) hx hb hts i_Mo hown hK hP 0 rfl rfl 7 (by decide) (hts (Cond.fieldLink R_Mo 29 "PlantGraphModel" "sensors" "[I") kw31_f20414e) (fun _ h9 => h9) rfl d_Mo_unsure_14 ?_
    refine lv_iload_n hx hb d_Mo_unsure_17 rfl (lv_at hl 1 rfl) ?_
    refine va_iald hx hb hK hP 3 0 rfl rfl hw.1 d_Mo_unsure_18 ?_
    replace hw := hw.2
    refine lv_iconst (v := (-1)) hx hb d_Mo_unsure_19 (by decide) ?_
    refine lv_icmp_eq (tgt := 42) hx hb d_Mo_unsure_20 (by decide) (fun c20 => ?_) (fun c20 => ?_)
    · replace hw := hw.1 c20
      refine lv_iconst (v := 0) hx hb d_Mo_unsure_42 (by decide) ?_
      exact W.zret (v := 0) hx hb hr (by decide) (fun t ht hW => ⟨⟨0, 0, rfl, hw, by rw [ht]; exact hP, va_K.moved hW.alike hK, hD⟩, hS.F ht⟩) hS.2.2 d_Mo_unsure_43
    · replace hw := hw.2 c20
      refine lv_aload_n hx hb d_Mo_unsure_23 rfl (lv_at hl 0 rfl) ?_
      refine va_get (D := (dC, dI)) (ci := 7) (v := .ref (a_t 7)) (C := R_Mo) (T := F_Mo) (N := 29) hx hb hts i_Mo hown hK hP 0 rfl rfl 7 (by decide) (hts (Cond.fieldLink R_Mo 29 "PlantGraphModel" "sensors" "[I") kw31_f20414e) (fun _ h9 => h9) rfl d_Mo_unsure_24 ?_
      refine lv_iload_n hx hb d_Mo_unsure_27 rfl (lv_at hl 1 rfl) ?_
      refine va_iald hx hb hK hP 3 0 rfl rfl hw.1 d_Mo_unsure_28 ?_
      replace hw := hw.2
      refine lv_aload_n hx hb d_Mo_unsure_29 rfl (lv_at hl 0 rfl) ?_
      refine va_get (D := (dC, dI)) (ci := 7) (v := .ref (a_t 6)) (C := R_Mo) (T := F_Mo) (N := 29) hx hb hts i_Mo hown hK hP 0 rfl rfl 6 (by decide) (hts (Cond.fieldLink R_Mo 26 "PlantGraphModel" "positions" "[I") kw31_6a57fc2) (fun _ h9 => h9) rfl d_Mo_unsure_30 ?_
      refine lv_iload_n hx hb d_Mo_unsure_33 rfl (lv_at hl 1 rfl) ?_
      refine va_iald hx hb hK hP 2 0 rfl rfl hw.1 d_Mo_unsure_34 ?_
      replace hw := hw.2
      refine lv_icmp_eq (tgt := 42) hx hb d_Mo_unsure_35 (by decide) (fun c35 => ?_) (fun c35 => ?_)
      · replace hw := hw.1 c35
        refine lv_iconst (v := 0) hx hb d_Mo_unsure_42 (by decide) ?_
        exact W.zret (v := 0) hx hb hr (by decide) (fun t ht hW => ⟨⟨0, 0, rfl, hw, by rw [ht]; exact hP, va_K.moved hW.alike hK, hD⟩, hS.F ht⟩) hS.2.2 d_Mo_unsure_43
      · replace hw := hw.2 c35
        refine lv_iconst (v := 1) hx hb d_Mo_unsure_38 (by decide) ?_
        refine lv_goto (tgt := 43) hx hb d_Mo_unsure_39 (by decide) ?_
        exact W.zret (v := 1) hx hb hr (by decide) (fun t ht hW => ⟨⟨1, 0, rfl, hw, by rw [ht]; exact hP, va_K.moved hW.alike hK, hD⟩, hS.F ht⟩) hS.2.2 d_Mo_unsure_43
def wk_Mo_content_54_28 (P : Int32 → Int32 → Prop) (x3_L28 : Int32) : Prop := P 15 0
def wk_Mo_content_63_28 (f_t_contents : (Nat → Int32)) (x1 : Int32) (P : Int32 → Int32 → Prop) (x3_L28 : Int32) : Prop := P (f_t_contents (200 * x1).toNatClampNeg) 0
def wl_Mo_content_28 (x1 : Int32) (f_t_sizes : (Nat → Int32)) (f_t_contents : (Nat → Int32)) (K_54 : Int32 → Prop) (K_63 : Int32 → Prop) : Nat → Int32 → Prop
  | 0, _ => False
  | k_28 + 1, x3_L28 => (vp_in x1 60 ∧ (((f_t_sizes x1.toNatClampNeg) ≤ x3_L28 → K_63 x3_L28) ∧ (¬ (f_t_sizes x1.toNatClampNeg) ≤ x3_L28 → (vp_in ((200 * x1) + x3_L28) 12000 ∧ (((f_t_contents ((200 * x1) + x3_L28).toNatClampNeg) = (f_t_contents (200 * x1).toNatClampNeg) → wl_Mo_content_28 x1 f_t_sizes f_t_contents K_54 K_63 k_28 (x3_L28 + 1)) ∧ (¬ (f_t_contents ((200 * x1) + x3_L28).toNatClampNeg) = (f_t_contents (200 * x1).toNatClampNeg) → K_54 x3_L28))))))
def wp_Mo_content (v_t_pipes : Int32) (v_t_thrown : Int32) (f_t_sizes : (Nat → Int32)) (f_t_contents : (Nat → Int32)) (x1 : Int32) (P : Int32 → Int32 → Prop) : Prop := wp_Mo_isPipe v_t_pipes x1 (fun r7 => ((¬ r7 = 0 → (vp_in (200 * x1) 12000 ∧ (∃ n_28 : Nat, wl_Mo_content_28 x1 f_t_sizes f_t_contents (wk_Mo_content_54_28 P) (wk_Mo_content_63_28 f_t_contents x1 P) n_28 1))) ∧ (r7 = 0 → P (-1) 0)))
def w_Mo_content : List Cond := .code y_Mo_content b_Mo_content 4 (some .int) :: tb
abbrev rm_Mo_content : Room := { frames := 1, cells := 0, slots := 0, locals := 21 }
abbrev Q_Mo_content (dC : Nat → ClassId) (dI : Nat → Nat → Nat) (cI cL cB : ClassId) (q_t : Nat) (a_t : Nat → Nat) (v_t_things : Int32) (v_t_pipes : Int32) (v_t_wide : Int32) (v_t_size : Int32) (v_t_place : Int32) (v_t_number : Int64) (v_t_thrown : Int32) (v_t_wish : Int32) (v_t_found : Int32) (f_t_sizes : (Nat → Int32)) (f_t_contents : (Nat → Int32)) (x1 : Int32) (P : Int32 → Int32 → Prop) (A : Nat → Prop) : Array Value → State → Outcome → State → Prop := va_Qi (fun (r : Int32) (u : Int32) => P r u) (fun u t => va_P (dC, dI) classes [(q_t, .inr (7, o_Mo a_t v_t_things v_t_pipes v_t_wide v_t_size v_t_place v_t_number u v_t_wish v_t_found)), ((a_t 10), .inl (cI, 60, .inl f_t_sizes)), ((a_t 11), .inl (cB, 12000, .inl f_t_contents))] t.heap ∧ va_K (dC, dI) classes [(cI, .int), (cL, .long), (cB, .byte)] t ∧ va_D A [(q_t, .inr (7, o_Mo a_t v_t_things v_t_pipes v_t_wide v_t_size v_t_place v_t_number u v_t_wish v_t_found)), ((a_t 10), .inl (cI, 60, .inl f_t_sizes)), ((a_t 11), .inl (cB, 12000, .inl f_t_contents))]) A
set_option maxHeartbeats 4000000 in
set_option maxRecDepth 100000 in
theorem c_Mo_content (l : Launch) (dC : Nat → ClassId) (dI : Nat → Nat → Nat) (cI cL cB : ClassId) (q_t : Nat) (a_t : Nat → Nat) (sz : Nat) (v_t_things : Int32) (v_t_pipes : Int32) (v_t_wide : Int32) (v_t_size : Int32) (v_t_place : Int32) (v_t_number : Int64) (v_t_thrown : Int32) (v_t_wish : Int32) (v_t_found : Int32) (f_t_sizes : (Nat → Int32)) (f_t_contents : (Nat → Int32)) (x1 : Int32) (P : Int32 → Int32 → Prop) (hw : wp_Mo_content v_t_pipes v_t_thrown f_t_sizes f_t_contents x1 P) : Met l y_Mo_content w_Mo_content rm_Mo_content (va_Pc [.ref q_t, .int x1] (fun U => U.heap.size = sz ∧ va_P (dC, dI) classes [(q_t, .inr (7, o_Mo a_t v_t_things v_t_pipes v_t_wide v_t_size v_t_place v_t_number v_t_thrown v_t_wish v_t_found)), ((a_t 10), .inl (cI, 60, .inl f_t_sizes)), ((a_t 11), .inl (cB, 12000, .inl f_t_contents))] U.heap ∧ va_K (dC, dI) classes [(cI, .int), (cL, .long), (cB, .byte)] U ∧ va_D (fun _ => True) [(q_t, .inr (7, o_Mo a_t v_t_things v_t_pipes v_t_wide v_t_size v_t_place v_t_number v_t_thrown v_t_wish v_t_found)), ((a_t 10), .inl (cI, 60, .inl f_t_sizes)), ((a_t 11), .inl (cB, 12000, .inl f_t_contents))])) (Q_Mo_content dC dI cI cL cB q_t a_t v_t_things v_t_pipes v_t_wide v_t_size v_t_place v_t_number v_t_thrown v_t_wish v_t_found f_t_sizes f_t_contents x1 P (va_A [(q_t, .inr (7, o_Mo a_t v_t_things v_t_pipes v_t_wide v_t_size v_t_place v_t_number v_t_thrown v_t_wish v_t_found)), ((a_t 10), .inl (cI, 60, .inl f_t_sizes)), ((a_t 11), .inl (cB, 12000, .inl f_t_contents))] sz)) 0 0 (va_A [(q_t, .inr (7, o_Mo a_t v_t_things v_t_pipes v_t_wide v_t_size v_t_place v_t_number v_t_thrown v_t_wish v_t_found)), ((a_t 10), .inl (cI, 60, .inl f_t_sizes)), ((a_t 11), .inl (cB, 12000, .inl f_t_contents))] sz) := by
  refine Met.ofW (cc := b_Mo_content) (maxL := 4) (ret := (some .int)) (by decide) rfl ?_
  intro p e s m args below meth c s₁ B hml hv
  obtain ⟨ha, hsz, hP, hK, hD0⟩ := hv
  have hx := B.exec
  have hb := B.bytes
  have hr := B.returns
  have hts0 := atoms_spec (ws := w_Mo_content) B.pre
  have hts : ∀ w ∈ tb, w.before args s = true := fun w h => hts0 w (List.mem_cons_of_mem _ h)
  have hown : s.vm.findClass R_Mo = some m.cls := findClass_of_methodNamed B.named
  have hlocks := B.notSynchronized
  subst hsz
  have hD := hD0.self (sz := s.heap.size)
  generalize hAe : va_A [(q_t, .inr (7, o_Mo a_t v_t_things v_t_pipes v_t_wide v_t_size v_t_place v_t_number v_t_thrown v_t_wish v_t_found)), ((a_t 10), .inl (cI, 60, .inl f_t_sizes)), ((a_t 11), .inl (cB, 12000, .inl f_t_contents))] s.heap.size = A at hD ⊢
  have hA : ∀ q : Nat, s.heap.size ≤ q → A q := fun q h => by rw [← hAe]; exact Or.inr h
  have hS : va_S A s.heap s.heap [] := va_S.rf
  have hP : va_P (dC, dI) classes [(q_t, .inr (7, o_Mo a_t v_t_things v_t_pipes v_t_wide v_t_size v_t_place v_t_number v_t_thrown v_t_wish v_t_found)), ((a_t 10), .inl (cI, 60, .inl f_t_sizes)), ((a_t 11), .inl (cB, 12000, .inl f_t_contents))] s.heap := hP
  have hl := lv_entry [.ref q_t, .int x1] (n := 4) (Nat.le_of_ble_eq_true rfl)
  have he9 : entryFrame m args 4 = F0 m 0 ((lg_sl [.ref q_t, .int x1] ++ List.replicate (4 - (lg_sl [.ref q_t, .int x1]).length) Slot.unset).toArray) [] := by rw [ha]; exact lg_entry_eq _ _ _
  rw [he9]
  clear he9
  generalize (lg_sl [.ref q_t, .int x1] ++ List.replicate (4 - (lg_sl [.ref q_t, .int x1]).length) Slot.unset).toArray = ls at hl ⊢
  have hl : lv_has ls 4 [(0, .ref q_t), (1, .int x1)] := hl
  unfold wp_Mo_content at hw
  refine lv_aload_n hx hb d_Mo_content_0 rfl (lv_at hl 0 rfl) ?_
  refine lv_iconst (v := 0) hx hb d_Mo_content_1 (by decide) ?_
  refine va_put (D := (dC, dI)) (ci := 7) (v := .int 0) (ty := .int) (C := R_Mo) (T := F_Mo) (N := 29) hx hb hts i_Mo t_Mo t_Mo_ok n_Mo hown hK hP hD hS 0 rfl rfl 26 (by decide) (hts (Cond.fieldLink R_Mo 72 "PlantGraphModel" "thrown" "I") kw31_6501a0b) (fun _ h9 => h9) rfl (by decide +kernel) rfl rfl (Nat.le_of_ble_eq_true rfl) d_Mo_content_2 (fun H locs hP hD hS => ?_)
  have hP : va_P (dC, dI) classes [(q_t, .inr (7, o_Mo a_t v_t_things v_t_pipes v_t_wide v_t_size v_t_place v_t_number 0 v_t_wish v_t_found)), ((a_t 10), .inl (cI, 60, .inl f_t_sizes)), ((a_t 11), .inl (cB, 12000, .inl f_t_contents))] H := hP
  have hD : va_D A [(q_t, .inr (7, o_Mo a_t v_t_things v_t_pipes v_t_wide v_t_size v_t_place v_t_number 0 v_t_wish v_t_found)), ((a_t 10), .inl (cI, 60, .inl f_t_sizes)), ((a_t 11), .inl (cB, 12000, .inl f_t_contents))] := hD
  refine lv_aload_n hx hb d_Mo_content_5 rfl (lv_at hl 0 rfl) ?_
  refine lv_iload_n hx hb d_Mo_content_6 rfl (lv_at hl 1 rfl) ?_
  have hPc := hP.sub (ws' := [(q_t, .inr (7, o_Mo a_t v_t_things v_t_pipes v_t_wide v_t_size v_t_place v_t_number 0 v_t_wish v_t_found))]) [0] rfl
  have hDc := hD.sub (ws' := [(q_t, .inr (7, o_Mo a_t v_t_things v_t_pipes v_t_wide v_t_size v_t_place v_t_number 0 v_t_wish v_t_found))]) [0] (by decide) rfl
  have hFc := va_free (wc := [(q_t, .inr (7, o_Mo a_t v_t_things v_t_pipes v_t_wide v_t_size v_t_place v_t_number 0 v_t_wish v_t_found))]) hD hS hA [0] rfl
  refine va_calli (va_runV (As := [.int x1]) (rest := []) ⟨hx, hb, hml, hown, hts⟩ (c_Mo_isPipe l dC dI cI cL cB q_t a_t H.size v_t_things v_t_pipes v_t_wide v_t_size v_t_place v_t_number 0 v_t_wish v_t_found x1 _ hw) (my_cwV 1 hts kw31_d0d3126 kw31_b9b9844 kw31_aa3f293 kw31_7a5931c kw31_8736655 rfl rfl (by decide +kernel) ⟨Nat.le_of_ble_eq_true rfl, Nat.le_of_ble_eq_true rfl⟩) ⟨fun a U g mk q => by obtain ⟨q0, q1, qP, qK, qD⟩ := q; exact ⟨q0, q1, qP, va_K.moved (u := U) (U := U.calling g mk a) (Vm.Alike.refl U.vm) qK, qD⟩, va_recv hK hP (ci := 7) (q0 := 0) rfl rfl, fun U hU hW => ⟨rfl, by rw [hU], by rw [hU]; exact hPc, va_K.moved hW.alike hK, hDc.weaken (fun _ _ _ _ => trivial)⟩⟩ rfl rfl hl.1 rfl (lv_room (Nat.le_of_ble_eq_true rfl)) d_Mo_content_7 ⟨Nat.zero_le _, Nat.zero_le _⟩) hS (fun q _ h => hFc q h) hFc (fun r7 u t H locs ht hvm hw hB hz1 hk1 hS => ?_)
  obtain ⟨hP1, hK1, hD1⟩ := hB
  rw [ht] at hP1
  obtain ⟨hP, hD⟩ := va_join (wr := [((a_t 10), .inl (cI, 60, .inl f_t_sizes)), ((a_t 11), .inl (cB, 12000, .inl f_t_contents))]) (w1 := [(q_t, .inr (7, o_Mo a_t v_t_things v_t_pipes v_t_wide v_t_size v_t_place v_t_number 0 v_t_wish v_t_found))]) hP hD [0] [1, 2] rfl rfl (by decide) (by decide) hk1 hFc hP1 hD1
  have hP : va_P (dC, dI) classes [(q_t, .inr (7, o_Mo a_t v_t_things v_t_pipes v_t_wide v_t_size v_t_place v_t_number 0 v_t_wish v_t_found)), ((a_t 10), .inl (cI, 60, .inl f_t_sizes)), ((a_t 11), .inl (cB, 12000, .inl f_t_contents))] H := hP.sub (ws' := [(q_t, .inr (7, o_Mo a_t v_t_things v_t_pipes v_t_wide v_t_size v_t_place v_t_number 0 v_t_wish v_t_found)), ((a_t 10), .inl (cI, 60, .inl f_t_sizes)), ((a_t 11), .inl (cB, 12000, .inl f_t_contents))]) [2, 0, 1] rfl
  have hD : va_D A [(q_t, .inr (7, o_Mo a_t v_t_things v_t_pipes v_t_wide v_t_size v_t_place v_t_number 0 v_t_wish v_t_found)), ((a_t 10), .inl (cI, 60, .inl f_t_sizes)), ((a_t 11), .inl (cB, 12000, .inl f_t_contents))] := hD.sub (ws' := [(q_t, .inr (7, o_Mo a_t v_t_things v_t_pipes v_t_wide v_t_size v_t_place v_t_number 0 v_t_wish v_t_found)), ((a_t 10), .inl (cI, 60, .inl f_t_sizes)), ((a_t 11), .inl (cB, 12000, .inl f_t_contents))]) [2, 0, 1] (by decide) rfl
  refine lv_if_ne (tgt := 15) hx hb d_Mo_content_10 (by decide) (fun c10 => ?_) (fun c10 => ?_)
  · replace hw := hw.1 c10
    refine lv_aload_n hx hb d_Mo_content_15 rfl (lv_at hl 0 rfl) ?_
    refine va_get (D := (dC, dI)) (ci := 7) (v := .ref (a_t 11)) (C := R_Mo) (T := F_Mo) (N := 29) hx hb hts i_Mo hown hK hP 0 rfl rfl 11 (by decide) (hts (Cond.fieldLink R_Mo 38 "PlantGraphModel" "contents" "[B") kw31_fd4a9fd) (fun _ h9 => h9) rfl d_Mo_content_16 ?_
    refine lv_sipush (v := 200) hx hb d_Mo_content_19 (by decide) ?_
    refine lv_iload_n hx hb d_Mo_content_22 rfl (lv_at hl 1 rfl) ?_
    refine lv_imul hx hb d_Mo_content_23 ?_
    refine va_bald hx hb hK hP 2 2 rfl rfl hw.1 d_Mo_content_24 ?_
    replace hw := hw.2
    refine lv_istore_n (lv' := [(2, .int (f_t_contents (200 * x1).toNatClampNeg)), (0, .ref q_t), (1, .int x1)]) hx hb d_Mo_content_25 rfl hl (by decide) rfl (fun ls hl => ?_)
    refine lv_iconst (v := 1) hx hb d_Mo_content_26 (by decide) ?_
    refine lv_istore_n (lv' := [(3, .int 1), (2, .int (f_t_contents (200 * x1).toNatClampNeg)), (0, .ref q_t), (1, .int x1)]) hx hb d_Mo_content_27 rfl hl (by decide) rfl (fun ls hl => ?_)
    obtain ⟨n_28, hw⟩ := hw
    have EX_54 : ∀ (x3_L28 : Int32) (H : Heap) (locs : List Loc) (ls : Array Slot), va_P (dC, dI) classes [(q_t, .inr (7, o_Mo a_t v_t_things v_t_pipes v_t_wide v_t_size v_t_place v_t_number 0 v_t_wish v_t_found)), ((a_t 10), .inl (cI, 60, .inl f_t_sizes)), ((a_t 11), .inl (cB, 12000, .inl f_t_contents))] H → va_D A [(q_t, .inr (7, o_Mo a_t v_t_things v_t_pipes v_t_wide v_t_size v_t_place v_t_number 0 v_t_wish v_t_found)), ((a_t 10), .inl (cI, 60, .inl f_t_sizes)), ((a_t 11), .inl (cB, 12000, .inl f_t_contents))] → va_S A s.heap H locs → lv_has ls 4 [(0, .ref q_t), (1, .int x1), (2, .int (f_t_contents (200 * x1).toNatClampNeg)), (3, .int x3_L28)] → wk_Mo_content_54_28 P x3_L28 → W p l e (headSpec w_Mo_content rm_Mo_content).room s m args below meth c H locs 0 0 (MQ below (Q_Mo_content dC dI cI cL cB q_t a_t v_t_things v_t_pipes v_t_wide v_t_size v_t_place v_t_number v_t_thrown v_t_wish v_t_found f_t_sizes f_t_contents x1 P A) args s 0 0 A) (F0 m 54 ls []) := by
      intro x3_L28 H locs ls hP hD hS hl hw
      unfold wk_Mo_content_54_28 at hw
      refine lv_bipush (v := 15) hx hb d_Mo_content_54 (by decide) ?_
      exact W.iret (v := 15) hx hb hr (fun t ht hW => ⟨⟨15, 0, rfl, hw, by rw [ht]; exact hP, va_K.moved hW.alike hK, hD⟩, hS.F ht⟩) hS.2.2 d_Mo_content_56
    have EX_63 : ∀ (x3_L28 : Int32) (H : Heap) (locs : List Loc) (ls : Array Slot), va_P (dC, dI) classes [(q_t, .inr (7, o_Mo a_t v_t_things v_t_pipes v_t_wide v_t_size v_t_place v_t_number 0 v_t_wish v_t_found)), ((a_t 10), .inl (cI, 60, .inl f_t_sizes)), ((a_t 11), .inl (cB, 12000, .inl f_t_contents))] H → va_D A [(q_t, .inr (7, o_Mo a_t v_t_things v_t_pipes v_t_wide v_t_size v_t_place v_t_number 0 v_t_wish v_t_found)), ((a_t 10), .inl (cI, 60, .inl f_t_sizes)), ((a_t 11), .inl (cB, 12000, .inl f_t_contents))] → va_S A s.heap H locs → lv_has ls 4 [(0, .ref q_t), (1, .int x1), (2, .int (f_t_contents (200 * x1).toNatClampNeg)), (3, .int x3_L28)] → wk_Mo_content_63_28 f_t_contents x1 P x3_L28 → W p l e (headSpec w_Mo_content rm_Mo_content).room s m args below meth c H locs 0 0 (MQ below (Q_Mo_content dC dI cI cL cB q_t a_t v_t_things v_t_pipes v_t_wide v_t_size v_t_place v_t_number v_t_thrown v_t_wish v_t_found f_t_sizes f_t_contents x1 P A) args s 0 0 A) (F0 m 63 ls []) := by
      intro x3_L28 H locs ls hP hD hS hl hw
      unfold wk_Mo_content_63_28 at hw
      refine lv_iload_n hx hb d_Mo_content_63 rfl (lv_at hl 2 rfl) ?_
      exact W.iret (v := (f_t_contents (200 * x1).toNatClampNeg)) hx hb hr (fun t ht hW => ⟨⟨(f_t_contents (200 * x1).toNatClampNeg), 0, rfl, hw, by rw [ht]; exact hP, va_K.moved hW.alike hK, hD⟩, hS.F ht⟩) hS.2.2 d_Mo_content_64
    have LP_28 : ∀ (k_28 : Nat) (x3_L28 : Int32) (H : Heap) (locs : List Loc) (ls : Array Slot), va_P (dC, dI) classes [(q_t, .inr (7, o_Mo a_t v_t_things v_t_pipes v_t_wide v_t_size v_t_place v_t_number 0 v_t_wish v_t_found)), ((a_t 10), .inl (cI, 60, .inl f_t_sizes)), ((a_t 11), .inl (cB, 12000, .inl f_t_contents))] H → va_D A [(q_t, .inr (7, o_Mo a_t v_t_things v_t_pipes v_t_wide v_t_size v_t_place v_t_number 0 v_t_wish v_t_found)), ((a_t 10), .inl (cI, 60, .inl f_t_sizes)), ((a_t 11), .inl (cB, 12000, .inl f_t_contents))] → va_S A s.heap H locs → lv_has ls 4 [(0, .ref q_t), (1, .int x1), (2, .int (f_t_contents (200 * x1).toNatClampNeg)), (3, .int x3_L28)] → wl_Mo_content_28 x1 f_t_sizes f_t_contents (wk_Mo_content_54_28 P) (wk_Mo_content_63_28 f_t_contents x1 P) k_28 x3_L28 → W p l e (headSpec w_Mo_content rm_Mo_content).room s m args below meth c H locs 0 0 (MQ below (Q_Mo_content dC dI cI cL cB q_t a_t v_t_things v_t_pipes v_t_wide v_t_size v_t_place v_t_number v_t_thrown v_t_wish v_t_found f_t_sizes f_t_contents x1 P A) args s 0 0 A) (F0 m 28 ls []) := by
      intro k_28
      induction k_28 with
      | zero => intro x3_L28 H locs ls hP hD hS hl hw; unfold wl_Mo_content_28 at hw; exact hw.elim
      | succ k_28 ih_28 =>
        intro x3_L28 H locs ls hP hD hS hl hw
        unfold wl_Mo_content_28 at hw
        refine lv_iload_n hx hb d_Mo_content_28 rfl (lv_at hl 3 rfl) ?_
        refine lv_aload_n hx hb d_Mo_content_29 rfl (lv_at hl 0 rfl) ?_
        refine va_get (D := (dC, dI)) (ci := 7) (v := .ref (a_t 10)) (C := R_Mo) (T := F_Mo) (N := 29) hx hb hts i_Mo hown hK hP 0 rfl rfl 10 (by decide) (hts (Cond.fieldLink R_Mo 35 "PlantGraphModel" "sizes" "[I") kw31_b664d45) (fun _ h9 => h9) rfl d_Mo_content_30 ?_
        refine lv_iload_n hx hb d_Mo_content_33 rfl (lv_at hl 1 rfl) ?_
        refine va_iald hx hb hK hP 1 0 rfl rfl hw.1 d_Mo_content_34 ?_
        replace hw := hw.2
        refine lv_icmp_ge (tgt := 63) hx hb d_Mo_content_35 (by decide) (fun c35 => ?_) (fun c35 => ?_)
        · replace hw := hw.1 c35
          exact EX_63 x3_L28 H _ _ hP hD hS (lv_sub hl [0, 1, 2, 3] rfl) hw
        · replace hw := hw.2 c35
          refine lv_aload_n hx hb d_Mo_content_38 rfl (lv_at hl 0 rfl) ?_
          refine va_get (D := (dC, dI)) (ci := 7) (v := .ref (a_t 11)) (C := R_Mo) (T := F_Mo) (N := 29) hx hb hts i_Mo hown hK hP 0 rfl rfl 11 (by decide) (hts (Cond.fieldLink R_Mo 38 "PlantGraphModel" "contents" "[B") kw31_fd4a9fd) (fun _ h9 => h9) rfl d_Mo_content_39 ?_
          refine lv_sipush (v := 200) hx hb d_Mo_content_42 (by decide) ?_
          refine lv_iload_n hx hb d_Mo_content_45 rfl (lv_at hl 1 rfl) ?_
          refine lv_imul hx hb d_Mo_content_46 ?_
          refine lv_iload_n hx hb d_Mo_content_47 rfl (lv_at hl 3 rfl) ?_
          refine lv_iadd hx hb d_Mo_content_48 ?_
          refine va_bald hx hb hK hP 2 2 rfl rfl hw.1 d_Mo_content_49 ?_
          replace hw := hw.2
          refine lv_iload_n hx hb d_Mo_content_50 rfl (lv_at hl 2 rfl) ?_
          refine lv_icmp_eq (tgt := 57) hx hb d_Mo_content_51 (by decide) (fun c51 => ?_) (fun c51 => ?_)
          · replace hw := hw.1 c51
            refine lv_iinc (v := (x3_L28 + 1)) (lv' := [(3, .int (x3_L28 + 1)), (0, .ref q_t), (1, .int x1), (2, .int (f_t_contents (200 * x1).toNatClampNeg))]) hx hb d_Mo_content_57 hl (k := 3) rfl rfl (by decide) rfl (fun ls hl => ?_)
            refine lv_goto (tgt := 28) hx hb d_Mo_content_60 (by decide) ?_
            exact ih_28 (x3_L28 + 1) H _ _ hP hD hS (lv_sub hl [1, 2, 3, 0] rfl) hw
          · replace hw := hw.2 c51
            exact EX_54 x3_L28 H _ _ hP hD hS (lv_sub hl [0, 1, 2, 3] rfl) hw
    exact LP_28 n_28 1 H _ _ hP hD hS (lv_sub hl [2, 3, 1, 0] rfl) hw
  · replace hw := hw.2 c10
    refine lv_iconst (v := (-1)) hx hb d_Mo_content_13 (by decide) ?_
    exact W.iret (v := (-1)) hx hb hr (fun t ht hW => ⟨⟨(-1), 0, rfl, hw, by rw [ht]; exact hP, va_K.moved hW.alike hK, hD⟩, hS.F ht⟩) hS.2.2 d_Mo_content_14
def wj_Mo_come_26 (x1 : Int32) (x3 : Int64) (x2 : Int32) (P : (Nat → Int64) → (Nat → Int32) → Prop) (f_t_litres_J26 : (Nat → Int64)) (f_t_liquids_J26 : (Nat → Int32)) (s0_J26 : Int32) : Prop := (vp_in s0_J26 40 ∧ (vp_in x1 40 ∧ (vp_in x1 40 ∧ P (vp_updL f_t_litres_J26 x1.toNatClampNeg ((f_t_litres_J26 x1.toNatClampNeg) + x3)) (upd f_t_liquids_J26 s0_J26.toNatClampNeg x2))))
def wp_Mo_come (f_t_litres : (Nat → Int64)) (f_t_liquids : (Nat → Int32)) (x1 : Int32) (x2 : Int32) (x3 : Int64) (P : (Nat → Int64) → (Nat → Int32) → Prop) : Prop := (vp_in x1 40 ∧ (((lg_cmp (f_t_litres x1.toNatClampNeg) 0) = 0 → wj_Mo_come_26 x1 x3 x2 P f_t_litres f_t_liquids x1) ∧ (¬ (lg_cmp (f_t_litres x1.toNatClampNeg) 0) = 0 → (vp_in x1 40 ∧ ((¬ (f_t_liquids x1.toNatClampNeg) = x2 → (vp_in x1 40 ∧ (vp_in x1 40 ∧ (vp_in x1 40 ∧ P (vp_updL f_t_litres x1.toNatClampNeg ((f_t_litres x1.toNatClampNeg) + x3)) (upd f_t_liquids x1.toNatClampNeg 15))))) ∧ ((f_t_liquids x1.toNatClampNeg) = x2 → wj_Mo_come_26 x1 x3 x2 P f_t_litres f_t_liquids x1))))))
def w_Mo_come : List Cond := .code y_Mo_come b_Mo_come 5 none :: tb
abbrev rm_Mo_come : Room := { frames := 0, cells := 0, slots := 0, locals := 0 }
abbrev Q_Mo_come (dC : Nat → ClassId) (dI : Nat → Nat → Nat) (cI cL cB : ClassId) (q_t : Nat) (a_t : Nat → Nat) (v_t_things : Int32) (v_t_pipes : Int32) (v_t_wide : Int32) (v_t_size : Int32) (v_t_place : Int32) (v_t_number : Int64) (v_t_thrown : Int32) (v_t_wish : Int32) (v_t_found : Int32) (f_t_litres : (Nat → Int64)) (f_t_liquids : (Nat → Int32)) (x1 : Int32) (x2 : Int32) (x3 : Int64) (P : (Nat → Int64) → (Nat → Int32) → Prop) (A : Nat → Prop) : Array Value → State → Outcome → State → Prop := va_Qv (fun (u : (Nat → Int64) × (Nat → Int32)) => P u.1 u.2) (fun u t => va_P (dC, dI) classes [(q_t, .inr (7, o_Mo a_t v_t_things v_t_pipes v_t_wide v_t_size v_t_place v_t_number v_t_thrown v_t_wish v_t_found)), ((a_t 4), .inl (cL, 40, .inr (.inl u.1))), ((a_t 5), .inl (cI, 40, .inl u.2))] t.heap ∧ va_K (dC, dI) classes [(cI, .int), (cL, .long), (cB, .byte)] t ∧ va_D A [(q_t, .inr (7, o_Mo a_t v_t_things v_t_pipes v_t_wide v_t_size v_t_place v_t_number v_t_thrown v_t_wish v_t_found)), ((a_t 4), .inl (cL, 40, .inr (.inl u.1))), ((a_t 5), .inl (cI, 40, .inl u.2))]) A
set_option maxHeartbeats 4000000 in
set_option maxRecDepth 100000 in
theorem c_Mo_come (l : Launch) (dC : Nat → ClassId) (dI : Nat → Nat → Nat) (cI cL cB : ClassId) (q_t : Nat) (a_t : Nat → Nat) (sz : Nat) (v_t_things : Int32) (v_t_pipes : Int32) (v_t_wide : Int32) (v_t_size : Int32) (v_t_place : Int32) (v_t_number : Int64) (v_t_thrown : Int32) (v_t_wish : Int32) (v_t_found : Int32) (f_t_litres : (Nat → Int64)) (f_t_liquids : (Nat → Int32)) (x1 : Int32) (x2 : Int32) (x3 : Int64) (P : (Nat → Int64) → (Nat → Int32) → Prop) (hw : wp_Mo_come f_t_litres f_t_liquids x1 x2 x3 P) : Met l y_Mo_come w_Mo_come rm_Mo_come (va_Pc [.ref q_t, .int x1, .int x2, .long x3] (fun U => U.heap.size = sz ∧ va_P (dC, dI) classes [(q_t, .inr (7, o_Mo a_t v_t_things v_t_pipes v_t_wide v_t_size v_t_place v_t_number v_t_thrown v_t_wish v_t_found)), ((a_t 4), .inl (cL, 40, .inr (.inl f_t_litres))), ((a_t 5), .inl (cI, 40, .inl f_t_liquids))] U.heap ∧ va_K (dC, dI) classes [(cI, .int), (cL, .long), (cB, .byte)] U ∧ va_D (fun _ => True) [(q_t, .inr (7, o_Mo a_t v_t_things v_t_pipes v_t_wide v_t_size v_t_place v_t_number v_t_thrown v_t_wish v_t_found)), ((a_t 4), .inl (cL, 40, .inr (.inl f_t_litres))), ((a_t 5), .inl (cI, 40, .inl f_t_liquids))])) (Q_Mo_come dC dI cI cL cB q_t a_t v_t_things v_t_pipes v_t_wide v_t_size v_t_place v_t_number v_t_thrown v_t_wish v_t_found f_t_litres f_t_liquids x1 x2 x3 P (va_A [(q_t, .inr (7, o_Mo a_t v_t_things v_t_pipes v_t_wide v_t_size v_t_place v_t_number v_t_thrown v_t_wish v_t_found)), ((a_t 4), .inl (cL, 40, .inr (.inl f_t_litres))), ((a_t 5), .inl (cI, 40, .inl f_t_liquids))] sz)) 0 0 (va_A [(q_t, .inr (7, o_Mo a_t v_t_things v_t_pipes v_t_wide v_t_size v_t_place v_t_number v_t_thrown v_t_wish v_t_found)), ((a_t 4), .inl (cL, 40, .inr (.inl f_t_litres))), ((a_t 5), .inl (cI, 40, .inl f_t_liquids))] sz) := by
  refine Met.ofW (cc := b_Mo_come) (maxL := 5) (ret := none) (by decide) rfl ?_
  intro p e s m args below meth c s₁ B hml hv
  obtain ⟨ha, hsz, hP, hK, hD0⟩ := hv
  have hx := B.exec
  have hb := B.bytes
  have hr := B.returns
  have hts0 := atoms_spec (ws := w_Mo_come) B.pre
  have hts : ∀ w ∈ tb, w.before args s = true := fun w h => hts0 w (List.mem_cons_of_mem _ h)
  have hown : s.vm.findClass R_Mo = some m.cls := findClass_of_methodNamed B.named
  have hlocks := B.notSynchronized
  subst hsz
  have hD := hD0.self (sz := s.heap.size)
  generalize hAe : va_A [(q_t, .inr (7, o_Mo a_t v_t_things v_t_pipes v_t_wide v_t_size v_t_place v_t_number v_t_thrown v_t_wish v_t_found)), ((a_t 4), .inl (cL, 40, .inr (.inl f_t_litres))), ((a_t 5), .inl (cI, 40, .inl f_t_liquids))] s.heap.size = A at hD ⊢
  have hA : ∀ q : Nat, s.heap.size ≤ q → A q := fun q h => by rw [← hAe]; exact Or.inr h
  have hS : va_S A s.heap s.heap [] := va_S.rf
  have hP : va_P (dC, dI) classes [(q_t, .inr (7, o_Mo a_t v_t_things v_t_pipes v_t_wide v_t_size v_t_place v_t_number v_t_thrown v_t_wish v_t_found)), ((a_t 4), .inl (cL, 40, .inr (.inl f_t_litres))), ((a_t 5), .inl (cI, 40, .inl f_t_liquids))] s.heap := hP
  have hl := lv_entry [.ref q_t, .int x1, .int x2, .long x3] (n := 5) (Nat.le_of_ble_eq_true rfl)
  have he9 : entryFrame m args 5 = F0 m 0 ((lg_sl [.ref q_t, .int x1, .int x2, .long x3] ++ List.replicate (5 - (lg_sl [.ref q_t, .int x1, .int x2, .long x3]).length) Slot.unset).toArray) [] := by rw [ha]; exact lg_entry_eq _ _ _
  rw [he9]
  clear he9
  generalize (lg_sl [.ref q_t, .int x1, .int x2, .long x3] ++ List.replicate (5 - (lg_sl [.ref q_t, .int x1, .int x2, .long x3]).length) Slot.unset).toArray = ls at hl ⊢
  have hl : lv_has ls 5 [(0, .ref q_t), (1, .int x1), (2, .int x2), (3, .long x3)] := hl
  unfold wp_Mo_come at hw
  have J_26 : ∀ (f_t_litres_J26 : (Nat → Int64)) (f_t_liquids_J26 : (Nat → Int32)) (s0_J26 : Int32) (H : Heap) (locs : List Loc) (ls : Array Slot), va_P (dC, dI) classes [(q_t, .inr (7, o_Mo a_t v_t_things v_t_pipes v_t_wide v_t_size v_t_place v_t_number v_t_thrown v_t_wish v_t_found)), ((a_t 4), .inl (cL, 40, .inr (.inl f_t_litres_J26))), ((a_t 5), .inl (cI, 40, .inl f_t_liquids_J26))] H → va_D A [(q_t, .inr (7, o_Mo a_t v_t_things v_t_pipes v_t_wide v_t_size v_t_place v_t_number v_t_thrown v_t_wish v_t_found)), ((a_t 4), .inl (cL, 40, .inr (.inl f_t_litres_J26))), ((a_t 5), .inl (cI, 40, .inl f_t_liquids_J26))] → va_S A s.heap H locs → lv_has ls 5 [(0, .ref q_t), (1, .int x1), (2, .int x2), (3, .long x3)] → wj_Mo_come_26 x1 x3 x2 P f_t_litres_J26 f_t_liquids_J26 s0_J26 → W p l e (headSpec w_Mo_come rm_Mo_come).room s m args below meth c H locs 0 0 (MQ below (Q_Mo_come dC dI cI cL cB q_t a_t v_t_things v_t_pipes v_t_wide v_t_size v_t_place v_t_number v_t_thrown v_t_wish v_t_found f_t_litres f_t_liquids x1 x2 x3 P A) args s 0 0 A) (F0 m 26 ls [.int s0_J26, .ref (a_t 5)]) := by
    intro f_t_litres_J26 f_t_liquids_J26 s0_J26 H locs ls hP hD hS hl hw
    unfold wj_Mo_come_26 at hw
    refine lv_iload_n hx hb d_Mo_come_26 rfl (lv_at hl 2 rfl) ?_
    refine lv_goto (tgt := 32) hx hb d_Mo_come_27 (by decide) ?_
    refine va_iast hx hb hK hP hD hS 2 0 rfl rfl hw.1 d_Mo_come_32 (fun H locs hP hD hS => ?_)
    replace hw := hw.2
    have hP : va_P (dC, dI) classes [(q_t, .inr (7, o_Mo a_t v_t_things v_t_pipes v_t_wide v_t_size v_t_place v_t_number v_t_thrown v_t_wish v_t_found)), ((a_t 4), .inl (cL, 40, .inr (.inl f_t_litres_J26))), ((a_t 5), .inl (cI, 40, .inl (upd f_t_liquids_J26 s0_J26.toNatClampNeg x2)))] H := hP
    have hD : va_D A [(q_t, .inr (7, o_Mo a_t v_t_things v_t_pipes v_t_wide v_t_size v_t_place v_t_number v_t_thrown v_t_wish v_t_found)), ((a_t 4), .inl (cL, 40, .inr (.inl f_t_litres_J26))), ((a_t 5), .inl (cI, 40, .inl (upd f_t_liquids_J26 s0_J26.toNatClampNeg x2)))] := hD
    refine lv_aload_n hx hb d_Mo_come_33 rfl (lv_at hl 0 rfl) ?_
    refine va_get (D := (dC, dI)) (ci := 7) (v := .ref (a_t 4)) (C := R_Mo) (T := F_Mo) (N := 29) hx hb hts i_Mo hown hK hP 0 rfl rfl 4 (by decide) (hts (Cond.fieldLink R_Mo 20 "PlantGraphModel" "litres" "[J") kw31_ca8a8d8) (fun _ h9 => h9) rfl d_Mo_come_34 ?_
    refine lv_iload_n hx hb d_Mo_come_37 rfl (lv_at hl 1 rfl) ?_
    refine lv_dup2_11 hx hb d_Mo_come_38 rfl rfl ?_
    refine va_lald hx hb hK hP 1 1 rfl rfl hw.1 d_Mo_come_39 ?_
    replace hw := hw.2
    refine lv_lload_n hx hb d_Mo_come_40 rfl (lv_at hl 3 rfl) ?_
    refine lv_ladd hx hb d_Mo_come_41 ?_
    refine va_last hx hb hK hP hD hS 1 1 rfl rfl hw.1 d_Mo_come_42 (fun H locs hP hD hS => ?_)
    replace hw := hw.2
    have hP : va_P (dC, dI) classes [(q_t, .inr (7, o_Mo a_t v_t_things v_t_pipes v_t_wide v_t_size v_t_place v_t_number v_t_thrown v_t_wish v_t_found)), ((a_t 4), .inl (cL, 40, .inr (.inl (vp_updL f_t_litres_J26 x1.toNatClampNeg ((f_t_litres_J26 x1.toNatClampNeg) + x3))))), ((a_t 5), .inl (cI, 40, .inl (upd f_t_liquids_J26 s0_J26.toNatClampNeg x2)))] H := hP
    have hD : va_D A [(q_t, .inr (7, o_Mo a_t v_t_things v_t_pipes v_t_wide v_t_size v_t_place v_t_number v_t_thrown v_t_wish v_t_found)), ((a_t 4), .inl (cL, 40, .inr (.inl (vp_updL f_t_litres_J26 x1.toNatClampNeg ((f_t_litres_J26 x1.toNatClampNeg) + x3))))), ((a_t 5), .inl (cI, 40, .inl (upd f_t_liquids_J26 s0_J26.toNatClampNeg x2)))] := hD
    exact W.vret hx hb hr (fun t ht hW => ⟨⟨((vp_updL f_t_litres_J26 x1.toNatClampNeg ((f_t_litres_J26 x1.toNatClampNeg) + x3)), (upd f_t_liquids_J26 s0_J26.toNatClampNeg x2)), rfl, hw, by rw [ht]; exact hP, va_K.moved hW.alike hK, hD⟩, hS.F ht⟩) hS.2.2 d_Mo_come_43
  refine lv_aload_n hx hb d_Mo_come_0 rfl (lv_at hl 0 rfl) ?_
  refine va_get (D := (dC, dI)) (ci := 7) (v := .ref (a_t 5)) (C := R_Mo) (T := F_Mo) (N := 29) hx hb hts i_Mo hown hK hP 0 rfl rfl 5 (by decide) (hts (Cond.fieldLink R_Mo 23 "PlantGraphModel" "liquids" "[I") kw31_39da439) (fun _ h9 => h9) rfl d_Mo_come_1 ?_
  refine lv_iload_n hx hb d_Mo_come_4 rfl (lv_at hl 1 rfl) ?_
  refine lv_aload_n hx hb d_Mo_come_5 rfl (lv_at hl 0 rfl) ?_
  refine va_get (D := (dC, dI)) (ci := 7) (v := .ref (a_t 4)) (C := R_Mo) (T := F_Mo) (N := 29) hx hb hts i_Mo hown hK hP 0 rfl rfl 4 (by decide) (hts (Cond.fieldLink R_Mo 20 "PlantGraphModel" "litres" "[J") kw31_ca8a8d8) (fun _ h9 => h9) rfl d_Mo_come_6 ?_
  refine lv_iload_n hx hb d_Mo_come_9 rfl (lv_at hl 1 rfl) ?_
  refine va_lald hx hb hK hP 1 1 rfl rfl hw.1 d_Mo_come_10 ?_
  replace hw := hw.2
  refine lv_lconst (v := 0) hx hb d_Mo_come_11 (by decide) ?_
  refine W.lcmp hx hb d_Mo_come_12 ?_
  refine lv_if_eq (tgt := 26) hx hb d_Mo_come_13 (by decide) (fun c13 => ?_) (fun c13 => ?_)
  · replace hw := hw.1 c13
    exact J_26 f_t_litres f_t_liquids x1 s.heap _ _ hP hD hS (lv_sub hl [0, 1, 2, 3] rfl) hw
  · replace hw := hw.2 c13
    refine lv_aload_n hx hb d_Mo_come_16 rfl (lv_at hl 0 rfl) ?_
    refine va_get (D := (dC, dI)) (ci := 7) (v := .ref (a_t 5)) (C := R_Mo) (T := F_Mo) (N := 29) hx hb hts i_Mo hown hK hP 0 rfl rfl 5 (by decide) (hts (Cond.fieldLink R_Mo 23 "PlantGraphModel" "liquids" "[I") kw31_39da439) (fun _ h9 => h9) rfl d_Mo_come_17 ?_
    refine lv_iload_n hx hb d_Mo_come_20 rfl (lv_at hl 1 rfl) ?_
    refine va_iald hx hb hK hP 2 0 rfl rfl hw.1 d_Mo_come_21 ?_
    replace hw := hw.2
    refine lv_iload_n hx hb d_Mo_come_22 rfl (lv_at hl 2 rfl) ?_
    refine lv_icmp_ne (tgt := 30) hx hb d_Mo_come_23 (by decide) (fun c23 => ?_) (fun c23 => ?_)
    · replace hw := hw.1 c23
      refine lv_bipush (v := 15) hx hb d_Mo_come_30 (by decide) ?_
      refine va_iast hx hb hK hP hD hS 2 0 rfl rfl hw.1 d_Mo_come_32 (fun H locs hP hD hS => ?_)
      replace hw := hw.2
      have hP : va_P (dC, dI) classes [(q_t, .inr (7, o_Mo a_t v_t_things v_t_pipes v_t_wide v_t_size v_t_place v_t_number v_t_thrown v_t_wish v_t_found)), ((a_t 4), .inl (cL, 40, .inr (.inl f_t_litres))), ((a_t 5), .inl (cI, 40, .inl (upd f_t_liquids x1.toNatClampNeg 15)))] H := hP
      have hD : va_D A [(q_t, .inr (7, o_Mo a_t v_t_things v_t_pipes v_t_wide v_t_size v_t_place v_t_number v_t_thrown v_t_wish v_t_found)), ((a_t 4), .inl (cL, 40, .inr (.inl f_t_litres))), ((a_t 5), .inl (cI, 40, .inl (upd f_t_liquids x1.toNatClampNeg 15)))] := hD
      refine lv_aload_n hx hb d_Mo_come_33 rfl (lv_at hl 0 rfl) ?_
      refine va_get (D := (dC, dI)) (ci := 7) (v := .ref (a_t 4)) (C := R_Mo) (T := F_Mo) (N := 29) hx hb hts i_Mo hown hK hP 0 rfl rfl 4 (by decide) (hts (Cond.fieldLink R_Mo 20 "PlantGraphModel" "litres" "[J") kw31_ca8a8d8) (fun _ h9 => h9) rfl d_Mo_come_34 ?_
      refine lv_iload_n hx hb d_Mo_come_37 rfl (lv_at hl 1 rfl) ?_
      refine lv_dup2_11 hx hb d_Mo_come_38 rfl rfl ?_
      refine va_lald hx hb hK hP 1 1 rfl rfl hw.1 d_Mo_come_39 ?_
      replace hw := hw.2
      refine lv_lload_n hx hb d_Mo_come_40 rfl (lv_at hl 3 rfl) ?_
      refine lv_ladd hx hb d_Mo_come_41 ?_
      refine va_last hx hb hK hP hD hS 1 1 rfl rfl hw.1 d_Mo_come_42 (fun H locs hP hD hS => ?_)
      replace hw := hw.2
      have hP : va_P (dC, dI) classes [(q_t, .inr (7, o_Mo a_t v_t_things v_t_pipes v_t_wide v_t_size v_t_place v_t_number v_t_thrown v_t_wish v_t_found)), ((a_t 4), .inl (cL, 40, .inr (.inl (vp_updL f_t_litres x1.toNatClampNeg ((f_t_litres x1.toNatClampNeg) + x3))))), ((a_t 5), .inl (cI, 40, .inl (upd f_t_liquids x1.toNatClampNeg 15)))] H := hP
      have hD : va_D A [(q_t, .inr (7, o_Mo a_t v_t_things v_t_pipes v_t_wide v_t_size v_t_place v_t_number v_t_thrown v_t_wish v_t_found)), ((a_t 4), .inl (cL, 40, .inr (.inl (vp_updL f_t_litres x1.toNatClampNeg ((f_t_litres x1.toNatClampNeg) + x3))))), ((a_t 5), .inl (cI, 40, .inl (upd f_t_liquids x1.toNatClampNeg 15)))] := hD
      exact W.vret hx hb hr (fun t ht hW => ⟨⟨((vp_updL f_t_litres x1.toNatClampNeg ((f_t_litres x1.toNatClampNeg) + x3)), (upd f_t_liquids x1.toNatClampNeg 15)), rfl, hw, by rw [ht]; exact hP, va_K.moved hW.alike hK, hD⟩, hS.F ht⟩) hS.2.2 d_Mo_come_43
    · replace hw := hw.2 c23
      exact J_26 f_t_litres f_t_liquids x1 s.heap _ _ hP hD hS (lv_sub hl [0, 1, 2, 3] rfl) hw
def wp_Mo_fill (v_t_things : Int32) (v_t_thrown : Int32) (f_t_kinds : (Nat → Int32)) (f_t_rooms : (Nat → Int64)) (f_t_litres : (Nat → Int64)) (f_t_liquids : (Nat → Int32)) (x1 : Int32) (x2 : Int32) (x3 : Int64) (P : Int32 → Int32 → (Nat → Int64) → (Nat → Int32) → Prop) : Prop := wp_Mo_isTank v_t_things f_t_kinds x1 (fun r7 => ((r7 = 0 → P 0 0 f_t_litres f_t_liquids) ∧ (¬ r7 = 0 → ((x2 < (1 : Int32) → P 0 0 f_t_litres f_t_liquids) ∧ (¬ x2 < (1 : Int32) → (((15 : Int32) ≤ x2 → P 0 0 f_t_litres f_t_liquids) ∧ (¬ (15 : Int32) ≤ x2 → (((lg_cmp x3 1) < 0 → P 0 0 f_t_litres f_t_liquids) ∧ (¬ (lg_cmp x3 1) < 0 → ((0 < (lg_cmp x3 100000) → P 0 0 f_t_litres f_t_liquids) ∧ (¬ 0 < (lg_cmp x3 100000) → (vp_in x1 40 ∧ (vp_in x1 40 ∧ (((lg_cmp ((f_t_litres x1.toNatClampNeg) + x3) (f_t_rooms x1.toNatClampNeg)) ≤ 0 → wp_Mo_come f_t_litres f_t_liquids x1 x2 x3 (fun f_t_litres_c62 f_t_liquids_c62 => P 1 0 f_t_litres_c62 f_t_liquids_c62)) ∧ (¬ (lg_cmp ((f_t_litres x1.toNatClampNeg) + x3) (f_t_rooms x1.toNatClampNeg)) ≤ 0 → P 0 0 f_t_litres f_t_liquids)))))))))))))))
def w_Mo_fill : List Cond := .code y_Mo_fill b_Mo_fill 5 (some .boolean) :: tb
abbrev rm_Mo_fill : Room := { frames := 2, cells := 0, slots := 0, locals := 42 }
abbrev Q_Mo_fill (dC : Nat → ClassId) (dI : Nat → Nat → Nat) (cI cL cB : ClassId) (q_t : Nat) (a_t : Nat → Nat) (v_t_things : Int32) (v_t_pipes : Int32) (v_t_wide : Int32) (v_t_size : Int32) (v_t_place : Int32) (v_t_number : Int64) (v_t_thrown : Int32) (v_t_wish : Int32) (v_t_found : Int32) (f_t_kinds : (Nat → Int32)) (f_t_rooms : (Nat → Int64)) (f_t_litres : (Nat → Int64)) (f_t_liquids : (Nat → Int32)) (x1 : Int32) (x2 : Int32) (x3 : Int64) (P : Int32 → Int32 → (Nat → Int64) → (Nat → Int32) → Prop) (A : Nat → Prop) : Array Value → State → Outcome → State → Prop := va_Qi (fun (r : Int32) (u : Int32 × (Nat → Int64) × (Nat → Int32)) => P r u.1 u.2.1 u.2.2) (fun u t => va_P (dC, dI) classes [(q_t, .inr (7, o_Mo a_t v_t_things v_t_pipes v_t_wide v_t_size v_t_place v_t_number u.1 v_t_wish v_t_found)), ((a_t 1), .inl (cI, 40, .inl f_t_kinds)), ((a_t 3), .inl (cL, 40, .inr (.inl f_t_rooms))), ((a_t 4), .inl (cL, 40, .inr (.inl u.2.1))), ((a_t 5), .inl (cI, 40, .inl u.2.2))] t.heap ∧ va_K (dC, dI) classes [(cI, .int), (cL, .long), (cB, .byte)] t ∧ va_D A [(q_t, .inr (7, o_Mo a_t v_t_things v_t_pipes v_t_wide v_t_size v_t_place v_t_number u.1 v_t_wish v_t_found)), ((a_t 1), .inl (cI, 40, .inl f_t_kinds)), ((a_t 3), .inl (cL, 40, .inr (.inl f_t_rooms))), ((a_t 4), .inl (cL, 40, .inr (.inl u.2.1))), ((a_t 5), .inl (cI, 40, .inl u.2.2))]) A
set_option maxHeartbeats 4000000 in
set_option maxRecDepth 100000 in
theorem c_Mo_fill (l : Launch) (dC : Nat → ClassId) (dI : Nat → Nat → Nat) (cI cL cB : ClassId) (q_t : Nat) (a_t : Nat → Nat) (sz : Nat) (v_t_things : Int32) (v_t_pipes : Int32) (v_t_wide : Int32) (v_t_size : Int32) (v_t_place : Int32) (v_t_number : Int64) (v_t_thrown : Int32) (v_t_wish : Int32) (v_t_found : Int32) (f_t_kinds : (Nat → Int32)) (f_t_rooms : (Nat → Int64)) (f_t_litres : (Nat → Int64)) (f_t_liquids : (Nat → Int32)) (x1 : Int32) (x2 : Int32) (x3 : Int64) (P : Int32 → Int32 → (Nat → Int64) → (Nat → Int32) → Prop) (hw : wp_Mo_fill v_t_things v_t_thrown f_t_kinds f_t_rooms f_t_litres f_t_liquids x1 x2 x3 P) : Met l y_Mo_fill w_Mo_fill rm_Mo_fill (va_Pc [.ref q_t, .int x1, .int x2, .long x3] (fun U => U.heap.size = sz ∧ va_P (dC, dI) classes [(q_t, .inr (7, o_Mo a_t v_t_things v_t_pipes v_t_wide v_t_size v_t_place v_t_number v_t_thrown v_t_wish v_t_found)), ((a_t 1), .inl (cI, 40, .inl f_t_kinds)), ((a_t 3), .inl (cL, 40, .inr (.inl f_t_rooms))), ((a_t 4), .inl (cL, 40, .inr (.inl f_t_litres))), ((a_t 5), .inl (cI, 40, .inl f_t_liquids))] U.heap ∧ va_K (dC, dI) classes [(cI, .int), (cL, .long), (cB, .byte)] U ∧ va_D (fun _ => True) [(q_t, .inr (7, o_Mo a_t v_t_things v_t_pipes v_t_wide v_t_size v_t_place v_t_number v_t_thrown v_t_wish v_t_found)), ((a_t 1), .inl (cI, 40, .inl f_t_kinds)), ((a_t 3), .inl (cL, 40, .inr (.inl f_t_rooms))), ((a_t 4), .inl (cL, 40, .inr (.inl f_t_litres))), ((a_t 5), .inl (cI, 40, .inl f_t_liquids))])) (Q_Mo_fill dC dI cI cL cB q_t a_t v_t_things v_t_pipes v_t_wide v_t_size v_t_place v_t_number v_t_thrown v_t_wish v_t_found f_t_kinds f_t_rooms f_t_litres f_t_liquids x1 x2 x3 P (va_A [(q_t, .inr (7, o_Mo a_t v_t_things v_t_pipes v_t_wide v_t_size v_t_place v_t_number v_t_thrown v_t_wish v_t_found)), ((a_t 1), .inl (cI, 40, .inl f_t_kinds)), ((a_t 3), .inl (cL, 40, .inr (.inl f_t_rooms))), ((a_t 4), .inl (cL, 40, .inr (.inl f_t_litres))), ((a_t 5), .inl (cI, 40, .inl f_t_liquids))] sz)) 0 0 (va_A [(q_t, .inr (7, o_Mo a_t v_t_things v_t_pipes v_t_wide v_t_size v_t_place v_t_number v_t_thrown v_t_wish v_t_found)), ((a_t 1), .inl (cI, 40, .inl f_t_kinds)), ((a_t 3), .inl (cL, 40, .inr (.inl f_t_rooms))), ((a_t 4), .inl (cL, 40, .inr (.inl f_t_litres))), ((a_t 5), .inl (cI, 40, .inl f_t_liquids))] sz) := by
  refine Met.ofW (cc := b_Mo_fill) (maxL := 5) (ret := (some .boolean)) (by decide) rfl ?_
  intro p e s m args below meth c s₁ B hml hv
  obtain ⟨ha, hsz, hP, hK, hD0⟩ := hv
  have hx := B.exec
  have hb := B.bytes
  have hr := B.returns
  have hts0 := atoms_spec (ws := w_Mo_fill) B.pre
  have hts : ∀ w ∈ tb, w.before args s = true := fun w h => hts0 w (List.mem_cons_of_mem _ h)
  have hown : s.vm.findClass R_Mo = some m.cls := findClass_of_methodNamed B.named
  have hlocks := B.notSynchronized
  subst hsz
  have hD := hD0.self (sz := s.heap.size)
  generalize hAe : va_A [(q_t, .inr (7, o_Mo a_t v_t_things v_t_pipes v_t_wide v_t_size v_t_place v_t_number v_t_thrown v_t_wish v_t_found)), ((a_t 1), .inl (cI, 40, .inl f_t_kinds)), ((a_t 3), .inl (cL, 40, .inr (.inl f_t_rooms))), ((a_t 4), .inl (cL, 40, .inr (.inl f_t_litres))), ((a_t 5), .inl (cI, 40, .inl f_t_liquids))] s.heap.size = A at hD ⊢
  have hA : ∀ q : Nat, s.heap.size ≤ q → A q := fun q h => by rw [← hAe]; exact Or.inr h
  have hS : va_S A s.heap s.heap [] := va_S.rf
  have hP : va_P (dC, dI) classes [(q_t, .inr (7, o_Mo a_t v_t_things v_t_pipes v_t_wide v_t_size v_t_place v_t_number v_t_thrown v_t_wish v_t_found)), ((a_t 1), .inl (cI, 40, .inl f_t_kinds)), ((a_t 3), .inl (cL, 40, .inr (.inl f_t_rooms))), ((a_t 4), .inl (cL, 40, .inr (.inl f_t_litres))), ((a_t 5), .inl (cI, 40, .inl f_t_liquids))] s.heap := hP
  have hl := lv_entry [.ref q_t, .int x1, .int x2, .long x3] (n := 5) (Nat.le_of_ble_eq_true rfl)
  have he9 : entryFrame m args 5 = F0 m 0 ((lg_sl [.ref q_t, .int x1, .int x2, .long x3] ++ List.replicate (5 - (lg_sl [.ref q_t, .int x1, .int x2, .long x3]).length) Slot.unset).toArray) [] := by rw [ha]; exact lg_entry_eq _ _ _
  rw [he9]
  clear he9
  generalize (lg_sl [.ref q_t, .int x1, .int x2, .long x3] ++ List.replicate (5 - (lg_sl [.ref q_t, .int x1, .int x2, .long x3]).length) Slot.unset).toArray = ls at hl ⊢
  have hl : lv_has ls 5 [(0, .ref q_t), (1, .int x1), (2, .int x2), (3, .long x3)] := hl
  unfold wp_Mo_fill at hw
  refine lv_aload_n hx hb d_Mo_fill_0 rfl (lv_at hl 0 rfl) ?_
  refine lv_iconst (v := 0) hx hb d_Mo_fill_1 (by decide) ?_
  refine va_put (D := (dC, dI)) (ci := 7) (v := .int 0) (ty := .int) (C := R_Mo) (T := F_Mo) (N := 29) hx hb hts i_Mo t_Mo t_Mo_ok n_Mo hown hK hP hD hS 0 rfl rfl 26 (by decide) (hts (Cond.fieldLink R_Mo 72 "PlantGraphModel" "thrown" "I") kw31_6501a0b) (fun _ h9 => h9) rfl (by decide +kernel) rfl rfl (Nat.le_of_ble_eq_true rfl) d_Mo_fill_2 (fun H locs hP hD hS => ?_)
  have hP : va_P (dC, dI) classes [(q_t, .inr (7, o_Mo a_t v_t_things v_t_pipes v_t_wide v_t_size v_t_place v_t_number 0 v_t_wish v_t_found)), ((a_t 1), .inl (cI, 40, .inl f_t_kinds)), ((a_t 3), .inl (cL, 40, .inr (.inl f_t_rooms))), ((a_t 4), .inl (cL, 40, .inr (.inl f_t_litres))), ((a_t 5), .inl (cI, 40, .inl f_t_liquids))] H := hP
  have hD : va_D A [(q_t, .inr (7, o_Mo a_t v_t_things v_t_pipes v_t_wide v_t_size v_t_place v_t_number 0 v_t_wish v_t_found)), ((a_t 1), .inl (cI, 40, .inl f_t_kinds)), ((a_t 3), .inl (cL, 40, .inr (.inl f_t_rooms))), ((a_t 4), .inl (cL, 40, .inr (.inl f_t_litres))), ((a_t 5), .inl (cI, 40, .inl f_t_liquids))] := hD
  refine lv_aload_n hx hb d_Mo_fill_5 rfl (lv_at hl 0 rfl) ?_
  refine lv_iload_n hx hb d_Mo_fill_6 rfl (lv_at hl 1 rfl) ?_
  have hPc := hP.sub (ws' := [(q_t, .inr (7, o_Mo a_t v_t_things v_t_pipes v_t_wide v_t_size v_t_place v_t_number 0 v_t_wish v_t_found)), ((a_t 1), .inl (cI, 40, .inl f_t_kinds))]) [0, 1] rfl
  have hDc := hD.sub (ws' := [(q_t, .inr (7, o_Mo a_t v_t_things v_t_pipes v_t_wide v_t_size v_t_place v_t_number 0 v_t_wish v_t_found)), ((a_t 1), .inl (cI, 40, .inl f_t_kinds))]) [0, 1] (by decide) rfl
  have hFc := va_free (wc := [(q_t, .inr (7, o_Mo a_t v_t_things v_t_pipes v_t_wide v_t_size v_t_place v_t_number 0 v_t_wish v_t_found)), ((a_t 1), .inl (cI, 40, .inl f_t_kinds))]) hD hS hA [0, 1] rfl
  refine va_calli (va_runV (As := [.int x1]) (rest := []) ⟨hx, hb, hml, hown, hts⟩ (c_Mo_isTank l dC dI cI cL cB q_t a_t H.size v_t_things v_t_pipes v_t_wide v_t_size v_t_place v_t_number 0 v_t_wish v_t_found f_t_kinds x1 _ hw) (my_cwV 1 hts kw31_9096378 kw31_f60b64a kw31_aff81c1 kw31_7a5931c kw31_0b8852f rfl rfl (by decide +kernel) ⟨Nat.le_of_ble_eq_true rfl, Nat.le_of_ble_eq_true rfl⟩) ⟨fun a U g mk q => by obtain ⟨q0, q1, qP, qK, qD⟩ := q; exact ⟨q0, q1, qP, va_K.moved (u := U) (U := U.calling g mk a) (Vm.Alike.refl U.vm) qK, qD⟩, va_recv hK hP (ci := 7) (q0 := 0) rfl rfl, fun U hU hW => ⟨rfl, by rw [hU], by rw [hU]; exact hPc, va_K.moved hW.alike hK, hDc.weaken (fun _ _ _ _ => trivial)⟩⟩ rfl rfl hl.1 rfl (lv_room (Nat.le_of_ble_eq_true rfl)) d_Mo_fill_7 ⟨Nat.zero_le _, Nat.zero_le _⟩) hS (fun q _ h => hFc q h) hFc (fun r7 u t H locs ht hvm hw hB hz1 hk1 hS => ?_)
  obtain ⟨hP1, hK1, hD1⟩ := hB
  rw [ht] at hP1
  obtain ⟨hP, hD⟩ := va_join (wr := [((a_t 3), .inl (cL, 40, .inr (.inl f_t_rooms))), ((a_t 4), .inl (cL, 40, .inr (.inl f_t_litres))), ((a_t 5), .inl (cI, 40, .inl f_t_liquids))]) (w1 := [(q_t, .inr (7, o_Mo a_t v_t_things v_t_pipes v_t_wide v_t_size v_t_place v_t_number 0 v_t_wish v_t_found)), ((a_t 1), .inl (cI, 40, .inl f_t_kinds))]) hP hD [0, 1] [2, 3, 4] rfl rfl (by decide) (by decide) hk1 hFc hP1 hD1
  have hP : va_P (dC, dI) classes [(q_t, .inr (7, o_Mo a_t v_t_things v_t_pipes v_t_wide v_t_size v_t_place v_t_number 0 v_t_wish v_t_found)), ((a_t 1), .inl (cI, 40, .inl f_t_kinds)), ((a_t 3), .inl (cL, 40, .inr (.inl f_t_rooms))), ((a_t 4), .inl (cL, 40, .inr (.inl f_t_litres))), ((a_t 5), .inl (cI, 40, .inl f_t_liquids))] H := hP.sub (ws' := [(q_t, .inr (7, o_Mo a_t v_t_things v_t_pipes v_t_wide v_t_size v_t_place v_t_number 0 v_t_wish v_t_found)), ((a_t 1), .inl (cI, 40, .inl f_t_kinds)), ((a_t 3), .inl (cL, 40, .inr (.inl f_t_rooms))), ((a_t 4), .inl (cL, 40, .inr (.inl f_t_litres))), ((a_t 5), .inl (cI, 40, .inl f_t_liquids))]) [3, 4, 0, 1, 2] rfl
  have hD : va_D A [(q_t, .inr (7, o_Mo a_t v_t_things v_t_pipes v_t_wide v_t_size v_t_place v_t_number 0 v_t_wish v_t_found)), ((a_t 1), .inl (cI, 40, .inl f_t_kinds)), ((a_t 3), .inl (cL, 40, .inr (.inl f_t_rooms))), ((a_t 4), .inl (cL, 40, .inr (.inl f_t_litres))), ((a_t 5), .inl (cI, 40, .inl f_t_liquids))] := hD.sub (ws' := [(q_t, .inr (7, o_Mo a_t v_t_things v_t_pipes v_t_wide v_t_size v_t_place v_t_number 0 v_t_wish v_t_found)), ((a_t 1), .inl (cI, 40, .inl f_t_kinds)), ((a_t 3), .inl (cL, 40, .inr (.inl f_t_rooms))), ((a_t 4), .inl (cL, 40, .inr (.inl f_t_litres))), ((a_t 5), .inl (cI, 40, .inl f_t_liquids))]) [3, 4, 0, 1, 2] (by decide) rfl
  refine lv_if_eq (tgt := 56) hx hb d_Mo_fill_10 (by decide) (fun c10 => ?_) (fun c10 => ?_)
  · replace hw := hw.1 c10
    refine lv_iconst (v := 0) hx hb d_Mo_fill_56 (by decide) ?_
    exact W.zret (v := 0) hx hb hr (by decide) (fun t ht hW => ⟨⟨0, (0, f_t_litres, f_t_liquids), rfl, hw, by rw [ht]; exact hP, va_K.moved hW.alike hK, hD⟩, hS.F ht⟩) hS.2.2 d_Mo_fill_57
  · replace hw := hw.2 c10
    refine lv_iload_n hx hb d_Mo_fill_13 rfl (lv_at hl 2 rfl) ?_
    refine lv_iconst (v := 1) hx hb d_Mo_fill_14 (by decide) ?_
    refine lv_icmp_lt (tgt := 56) hx hb d_Mo_fill_15 (by decide) (fun c15 => ?_) (fun c15 => ?_)
    · replace hw := hw.1 c15
      refine lv_iconst (v := 0) hx hb d_Mo_fill_56 (by decide) ?_
      exact W.zret (v := 0) hx hb hr (by decide) (fun t ht hW => ⟨⟨0, (0, f_t_litres, f_t_liquids), rfl, hw, by rw [ht]; exact hP, va_K.moved hW.alike hK, hD⟩, hS.F ht⟩) hS.2.2 d_Mo_fill_57
    · replace hw := hw.2 c15
      refine lv_iload_n hx hb d_Mo_fill_18 rfl (lv_at hl 2 rfl) ?_
      refine lv_bipush (v := 15) hx hb d_Mo_fill_19 (by decide) ?_
      refine lv_icmp_ge (tgt := 56) hx hb d_Mo_fill_21 (by decide) (fun c21 => ?_) (fun c21 => ?_)
      · replace hw := hw.1 c21
        refine lv_iconst (v := 0) hx hb d_Mo_fill_56 (by decide) ?_
        exact W.zret (v := 0) hx hb hr (by decide) (fun t ht hW => ⟨⟨0, (0, f_t_litres, f_t_liquids), rfl, hw, by rw [ht]; exact hP, va_K.moved hW.alike hK, hD⟩, hS.F ht⟩) hS.2.2 d_Mo_fill_57
      · replace hw := hw.2 c21
        refine lv_lload_n hx hb d_Mo_fill_24 rfl (lv_at hl 3 rfl) ?_
        refine lv_lconst (v := 1) hx hb d_Mo_fill_25 (by decide) ?_
        refine W.lcmp hx hb d_Mo_fill_26 ?_
        refine lv_if_lt (tgt := 56) hx hb d_Mo_fill_27 (by decide) (fun c27 => ?_) (fun c27 => ?_)
        · replace hw := hw.1 c27
          refine lv_iconst (v := 0) hx hb d_Mo_fill_56 (by decide) ?_
          exact W.zret (v := 0) hx hb hr (by decide) (fun t ht hW => ⟨⟨0, (0, f_t_litres, f_t_liquids), rfl, hw, by rw [ht]; exact hP, va_K.moved hW.alike hK, hD⟩, hS.F ht⟩) hS.2.2 d_Mo_fill_57
        · replace hw := hw.2 c27
          refine lv_lload_n hx hb d_Mo_fill_30 rfl (lv_at hl 3 rfl) ?_
          refine lv_ldc2 (v := 100000) hx hb hown (hts (Cond.constantLong R_Mo 79 100000) kw31_8ce1ef1) d_Mo_fill_31 ?_
          refine W.lcmp hx hb d_Mo_fill_34 ?_
          refine lv_if_gt (tgt := 56) hx hb d_Mo_fill_35 (by decide) (fun c35 => ?_) (fun c35 => ?_)
          · replace hw := hw.1 c35
            refine lv_iconst (v := 0) hx hb d_Mo_fill_56 (by decide) ?_
            exact W.zret (v := 0) hx hb hr (by decide) (fun t ht hW => ⟨⟨0, (0, f_t_litres, f_t_liquids), rfl, hw, by rw [ht]; exact hP, va_K.moved hW.alike hK, hD⟩, hS.F ht⟩) hS.2.2 d_Mo_fill_57
          · replace hw := hw.2 c35
            refine lv_aload_n hx hb d_Mo_fill_38 rfl (lv_at hl 0 rfl) ?_
            refine va_get (D := (dC, dI)) (ci := 7) (v := .ref (a_t 4)) (C := R_Mo) (T := F_Mo) (N := 29) hx hb hts i_Mo hown hK hP 0 rfl rfl 4 (by decide) (hts (Cond.fieldLink R_Mo 20 "PlantGraphModel" "litres" "[J") kw31_ca8a8d8) (fun _ h9 => h9) rfl d_Mo_fill_39 ?_
            refine lv_iload_n hx hb d_Mo_fill_42 rfl (lv_at hl 1 rfl) ?_
            refine va_lald hx hb hK hP 3 1 rfl rfl hw.1 d_Mo_fill_43 ?_
            replace hw := hw.2
            refine lv_lload_n hx hb d_Mo_fill_44 rfl (lv_at hl 3 rfl) ?_
            refine lv_ladd hx hb d_Mo_fill_45 ?_
            refine lv_aload_n hx hb d_Mo_fill_46 rfl (lv_at hl 0 rfl) ?_
            refine va_get (D := (dC, dI)) (ci := 7) (v := .ref (a_t 3)) (C := R_Mo) (T := F_Mo) (N := 29) hx hb hts i_Mo hown hK hP 0 rfl rfl 3 (by decide) (hts (Cond.fieldLink R_Mo 16 "PlantGraphModel" "rooms" "[J") kw31_3652779) (fun _ h9 => h9) rfl d_Mo_fill_47 ?_
            refine lv_iload_n hx hb d_Mo_fill_50 rfl (lv_at hl 1 rfl) ?_
            refine va_lald hx hb hK hP 2 1 rfl rfl hw.1 d_Mo_fill_51 ?_
            replace hw := hw.2
            refine W.lcmp hx hb d_Mo_fill_52 ?_
            refine lv_if_le (tgt := 58) hx hb d_Mo_fill_53 (by decide) (fun c53 => ?_) (fun c53 => ?_)
            · replace hw := hw.1 c53
              refine lv_aload_n hx hb d_Mo_fill_58 rfl (lv_at hl 0 rfl) ?_
              refine lv_iload_n hx hb d_Mo_fill_59 rfl (lv_at hl 1 rfl) ?_
              refine lv_iload_n hx hb d_Mo_fill_60 rfl (lv_at hl 2 rfl) ?_
              refine lv_lload_n hx hb d_Mo_fill_61 rfl (lv_at hl 3 rfl) ?_
              have hPc := hP.sub (ws' := [(q_t, .inr (7, o_Mo a_t v_t_things v_t_pipes v_t_wide v_t_size v_t_place v_t_number 0 v_t_wish v_t_found)), ((a_t 4), .inl (cL, 40, .inr (.inl f_t_litres))), ((a_t 5), .inl (cI, 40, .inl f_t_liquids))]) [0, 3, 4] rfl
              have hDc := hD.sub (ws' := [(q_t, .inr (7, o_Mo a_t v_t_things v_t_pipes v_t_wide v_t_size v_t_place v_t_number 0 v_t_wish v_t_found)), ((a_t 4), .inl (cL, 40, .inr (.inl f_t_litres))), ((a_t 5), .inl (cI, 40, .inl f_t_liquids))]) [0, 3, 4] (by decide) rfl
              have hFc := va_free (wc := [(q_t, .inr (7, o_Mo a_t v_t_things v_t_pipes v_t_wide v_t_size v_t_place v_t_number 0 v_t_wish v_t_found)), ((a_t 4), .inl (cL, 40, .inr (.inl f_t_litres))), ((a_t 5), .inl (cI, 40, .inl f_t_liquids))]) hD hS hA [0, 3, 4] rfl
              refine va_callv (va_runV (As := [.int x1, .int x2, .long x3]) (rest := []) ⟨hx, hb, hml, hown, hts⟩ (c_Mo_come l dC dI cI cL cB q_t a_t H.size v_t_things v_t_pipes v_t_wide v_t_size v_t_place v_t_number 0 v_t_wish v_t_found f_t_litres f_t_liquids x1 x2 x3 _ hw) (my_cwV 3 hts kw31_7460624 kw31_bddea6e kw31_659c46d kw31_7a5931c kw31_5eee85d rfl rfl (by decide +kernel) ⟨Nat.le_of_ble_eq_true rfl, Nat.le_of_ble_eq_true rfl⟩) ⟨fun a U g mk q => by obtain ⟨q0, q1, qP, qK, qD⟩ := q; exact ⟨q0, q1, qP, va_K.moved (u := U) (U := U.calling g mk a) (Vm.Alike.refl U.vm) qK, qD⟩, va_recv hK hP (ci := 7) (q0 := 0) rfl rfl, fun U hU hW => ⟨rfl, by rw [hU], by rw [hU]; exact hPc, va_K.moved hW.alike hK, hDc.weaken (fun _ _ _ _ => trivial)⟩⟩ rfl rfl hl.1 rfl (lv_room (Nat.le_of_ble_eq_true rfl)) d_Mo_fill_62 ⟨Nat.zero_le _, Nat.zero_le _⟩) hS (fun q _ h => hFc q h) hFc (fun u t H locs ht hvm hw hB hz1 hk1 hS => ?_)
              obtain ⟨f_t_litres_c62, f_t_liquids_c62⟩ := u
              obtain ⟨hP1, hK1, hD1⟩ := hB
              rw [ht] at hP1
              obtain ⟨hP, hD⟩ := va_join (wr := [((a_t 1), .inl (cI, 40, .inl f_t_kinds)), ((a_t 3), .inl (cL, 40, .inr (.inl f_t_rooms)))]) (w1 := [(q_t, .inr (7, o_Mo a_t v_t_things v_t_pipes v_t_wide v_t_size v_t_place v_t_number 0 v_t_wish v_t_found)), ((a_t 4), .inl (cL, 40, .inr (.inl f_t_litres_c62))), ((a_t 5), .inl (cI, 40, .inl f_t_liquids_c62))]) hP hD [0, 3, 4] [1, 2] rfl rfl (by decide) (by decide) hk1 hFc hP1 hD1
              have hP : va_P (dC, dI) classes [(q_t, .inr (7, o_Mo a_t v_t_things v_t_pipes v_t_wide v_t_size v_t_place v_t_number 0 v_t_wish v_t_found)), ((a_t 1), .inl (cI, 40, .inl f_t_kinds)), ((a_t 3), .inl (cL, 40, .inr (.inl f_t_rooms))), ((a_t 4), .inl (cL, 40, .inr (.inl f_t_litres_c62))), ((a_t 5), .inl (cI, 40, .inl f_t_liquids_c62))] H := hP.sub (ws' := [(q_t, .inr (7, o_Mo a_t v_t_things v_t_pipes v_t_wide v_t_size v_t_place v_t_number 0 v_t_wish v_t_found)), ((a_t 1), .inl (cI, 40, .inl f_t_kinds)), ((a_t 3), .inl (cL, 40, .inr (.inl f_t_rooms))), ((a_t 4), .inl (cL, 40, .inr (.inl f_t_litres_c62))), ((a_t 5), .inl (cI, 40, .inl f_t_liquids_c62))]) [2, 0, 1, 3, 4] rfl
              have hD : va_D A [(q_t, .inr (7, o_Mo a_t v_t_things v_t_pipes v_t_wide v_t_size v_t_place v_t_number 0 v_t_wish v_t_found)), ((a_t 1), .inl (cI, 40, .inl f_t_kinds)), ((a_t 3), .inl (cL, 40, .inr (.inl f_t_rooms))), ((a_t 4), .inl (cL, 40, .inr (.inl f_t_litres_c62))), ((a_t 5), .inl (cI, 40, .inl f_t_liquids_c62))] := hD.sub (ws' := [(q_t, .inr (7, o_Mo a_t v_t_things v_t_pipes v_t_wide v_t_size v_t_place v_t_number 0 v_t_wish v_t_found)), ((a_t 1), .inl (cI, 40, .inl f_t_kinds)), ((a_t 3), .inl (cL, 40, .inr (.inl f_t_rooms))), ((a_t 4), .inl (cL, 40, .inr (.inl f_t_litres_c62))), ((a_t 5), .inl (cI, 40, .inl f_t_liquids_c62))]) [2, 0, 1, 3, 4] (by decide) rfl
              refine lv_iconst (v := 1) hx hb d_Mo_fill_65 (by decide) ?_
              exact W.zret (v := 1) hx hb hr (by decide) (fun t ht hW => ⟨⟨1, (0, f_t_litres_c62, f_t_liquids_c62), rfl, hw, by rw [ht]; exact hP, va_K.moved hW.alike hK, hD⟩, hS.F ht⟩) hS.2.2 d_Mo_fill_66
            · replace hw := hw.2 c53
              refine lv_iconst (v := 0) hx hb d_Mo_fill_56 (by decide) ?_
              exact W.zret (v := 0) hx hb hr (by decide) (fun t ht hW => ⟨⟨0, (0, f_t_litres, f_t_liquids), rfl, hw, by rw [ht]; exact hP, va_K.moved hW.alike hK, hD⟩, hS.F ht⟩) hS.2.2 d_Mo_fill_57
def wj_Mo_passes_226 (x1 : Int32) (P : Int32 → Prop) (x4_J226 : Int32) (x5_J226 : Int32) : Prop := ((¬ x1 = (1 : Int32) → P 0) ∧ (x1 = (1 : Int32) → ((¬ x4_J226 = 0 → ((¬ x4_J226 = (1 : Int32) → P 0) ∧ (x4_J226 = (1 : Int32) → ((¬ x5_J226 = (2 : Int32) → P 0) ∧ (x5_J226 = (2 : Int32) → P 1))))) ∧ (x4_J226 = 0 → ((x5_J226 = (3 : Int32) → P 1) ∧ (¬ x5_J226 = (3 : Int32) → ((¬ x4_J226 = (1 : Int32) → P 0) ∧ (x4_J226 = (1 : Int32) → ((¬ x5_J226 = (2 : Int32) → P 0) ∧ (x5_J226 = (2 : Int32) → P 1))))))))))
def wj_Mo_passes_154 (x1 : Int32) (P : Int32 → Prop) (x4_J154 : Int32) (x5_J154 : Int32) : Prop := ((¬ x1 = (2 : Int32) → ((¬ x1 = (3 : Int32) → P 0) ∧ (x1 = (3 : Int32) → ((¬ x4_J154 = (1 : Int32) → P 0) ∧ (x4_J154 = (1 : Int32) → P 1))))) ∧ (x1 = (2 : Int32) → ((¬ x4_J154 = 0 → ((¬ x1 = (3 : Int32) → P 0) ∧ (x1 = (3 : Int32) → ((¬ x4_J154 = (1 : Int32) → P 0) ∧ (x4_J154 = (1 : Int32) → P 1))))) ∧ (x4_J154 = 0 → ((x5_J154 = (2 : Int32) → P 1) ∧ (¬ x5_J154 = (2 : Int32) → ((¬ x1 = (3 : Int32) → P 0) ∧ (x1 = (3 : Int32) → ((¬ x4_J154 = (1 : Int32) → P 0) ∧ (x4_J154 = (1 : Int32) → P 1))))))))))
def wj_Mo_passes_52 (x0 : Int32) (x1 : Int32) (x2 : Int32) (P : Int32 → Prop) (x4_J52 : Int32) (x5_J52 : Int32) (s0_J52 : Int32) : Prop := ((x0 = 0 → ((¬ x1 = (1 : Int32) → P 0) ∧ (x1 = (1 : Int32) → P 1))) ∧ (¬ x0 = 0 → ((x0 = 1 → (((2 : Int32) ≤ x1 → P 0) ∧ (¬ (2 : Int32) ≤ x1 → ((¬ x4_J52 = 0 → P 0) ∧ (x4_J52 = 0 → ((¬ x5_J52 = (x1 + 1) → P 0) ∧ (x5_J52 = (x1 + 1) → P 1))))))) ∧ (¬ x0 = 1 → ((x0 = 2 → ((x1 = 0 → P 1) ∧ (¬ x1 = 0 → ((¬ x1 = (1 : Int32) → wj_Mo_passes_154 x1 P x4_J52 x5_J52) ∧ (x1 = (1 : Int32) → ((x5_J52 = (1 : Int32) → P 1) ∧ (¬ x5_J52 = (1 : Int32) → wj_Mo_passes_154 x1 P x4_J52 x5_J52))))))) ∧ (¬ x0 = 2 → ((x0 = 3 → ((¬ x2 = 0 → P 0) ∧ (x2 = 0 → P 1))) ∧ (¬ x0 = 3 → ((x0 = 4 → ((x1 = (1 : Int32) → P 1) ∧ (¬ x1 = (1 : Int32) → ((¬ x1 = 0 → P 0) ∧ (x1 = 0 → ((s0_J52 = 0 → P 0) ∧ (¬ s0_J52 = 0 → P 1))))))) ∧ (¬ x0 = 4 → ((x0 = 5 → P 0) ∧ (¬ x0 = 5 → ((x0 = 6 → ((¬ x1 = 0 → wj_Mo_passes_226 x1 P x4_J52 x5_J52) ∧ (x1 = 0 → ((¬ s0_J52 = 0 → P 1) ∧ (s0_J52 = 0 → wj_Mo_passes_226 x1 P x4_J52 x5_J52))))) ∧ (¬ x0 = 6 → ((x0 = 7 → ((x1 = 0 → P 0) ∧ (¬ x1 = 0 → P 1))) ∧ (¬ x0 = 7 → ((x0 = 8 → ((¬ x1 = (1 : Int32) → P 0) ∧ (x1 = (1 : Int32) → ((¬ x2 = 0 → P 0) ∧ (x2 = 0 → P 1))))) ∧ (¬ x0 = 8 → P 0))))))))))))))))))
def wj_Mo_passes_51 (x0 : Int32) (x1 : Int32) (x2 : Int32) (P : Int32 → Prop) (x4_J51 : Int32) (x5_J51 : Int32) : Prop := wj_Mo_passes_52 x0 x1 x2 P x4_J51 x5_J51 0
def wj_Mo_passes_47 (x0 : Int32) (x1 : Int32) (x2 : Int32) (P : Int32 → Prop) (x4_J47 : Int32) (x5_J47 : Int32) : Prop := wj_Mo_passes_52 x0 x1 x2 P x4_J47 x5_J47 1
def wj_Mo_passes_35 (x0 : Int32) (x1 : Int32) (x2 : Int32) (P : Int32 → Prop) (x4_J35 : Int32) (x5_J35 : Int32) : Prop := ((¬ x4_J35 = (2 : Int32) → wj_Mo_passes_51 x0 x1 x2 P x4_J35 x5_J35) ∧ (x4_J35 = (2 : Int32) → ((¬ x5_J35 = (3 : Int32) → wj_Mo_passes_51 x0 x1 x2 P x4_J35 x5_J35) ∧ (x5_J35 = (3 : Int32) → wj_Mo_passes_47 x0 x1 x2 P x4_J35 x5_J35))))
def wj_Mo_passes_22 (x0 : Int32) (x1 : Int32) (x2 : Int32) (P : Int32 → Prop) (x4_J22 : Int32) (s0_J22 : Int32) : Prop := ((¬ x4_J22 = 0 → wj_Mo_passes_35 x0 x1 x2 P x4_J22 s0_J22) ∧ (x4_J22 = 0 → ((s0_J22 = (1 : Int32) → wj_Mo_passes_47 x0 x1 x2 P x4_J22 s0_J22) ∧ (¬ s0_J22 = (1 : Int32) → wj_Mo_passes_35 x0 x1 x2 P x4_J22 s0_J22))))
def wj_Mo_passes_10 (x3 : Int32) (x2 : Int32) (x0 : Int32) (x1 : Int32) (P : Int32 → Prop) (s0_J10 : Int32) : Prop := ((x3 ≤ x2 → wj_Mo_passes_22 x0 x1 x2 P s0_J10 x2) ∧ (¬ x3 ≤ x2 → wj_Mo_passes_22 x0 x1 x2 P s0_J10 x3))
def wp_Mo_passes (x0 : Int32) (x1 : Int32) (x2 : Int32) (x3 : Int32) (P : Int32 → Prop) : Prop := ((x3 ≤ x2 → wj_Mo_passes_10 x3 x2 x0 x1 P x3) ∧ (¬ x3 ≤ x2 → wj_Mo_passes_10 x3 x2 x0 x1 P x2))
def w_Mo_passes : List Cond := .code y_Mo_passes b_Mo_passes 7 (some .boolean) :: tb
abbrev rm_Mo_passes : Room := { frames := 0, cells := 0, slots := 0, locals := 0 }
abbrev Q_Mo_passes (dC : Nat → ClassId) (dI : Nat → Nat → Nat) (cI cL cB : ClassId) (x0 : Int32) (x1 : Int32) (x2 : Int32) (x3 : Int32) (P : Int32 → Prop) (A : Nat → Prop) : Array Value → State → Outcome → State → Prop := va_Qi (fun (r : Int32) (u : Unit) => P r) (fun u t => va_P (dC, dI) classes [] t.heap ∧ va_K (dC, dI) classes [(cI, .int), (cL, .long), (cB, .byte)] t ∧ va_D A []) A
set_option maxHeartbeats 4000000 in
set_option maxRecDepth 100000 in
theorem c_Mo_passes (l : Launch) (dC : Nat → ClassId) (dI : Nat → Nat → Nat) (cI cL cB : ClassId) (sz : Nat) (x0 : Int32) (x1 : Int32) (x2 : Int32) (x3 : Int32) (P : Int32 → Prop) (hw : wp_Mo_passes x0 x1 x2 x3 P) : Met l y_Mo_passes w_Mo_passes rm_Mo_passes (va_Pc [.int x0, .int x1, .int x2, .int x3] (fun U => U.heap.size = sz ∧ va_P (dC, dI) classes [] U.heap ∧ va_K (dC, dI) classes [(cI, .int), (cL, .long), (cB, .byte)] U ∧ va_D (fun _ => True) [])) (Q_Mo_passes dC dI cI cL cB x0 x1 x2 x3 P (va_A [] sz)) 0 0 (va_A [] sz) := by
  refine Met.ofW (cc := b_Mo_passes) (maxL := 7) (ret := (some .boolean)) (by decide) rfl ?_
  intro p e s m args below meth c s₁ B hml hv
  obtain ⟨ha, hsz, hP, hK, hD0⟩ := hv
  have hx := B.exec
  have hb := B.bytes
  have hr := B.returns
  have hts0 := atoms_spec (ws := w_Mo_passes) B.pre
  have hts : ∀ w ∈ tb, w.before args s = true := fun w h => hts0 w (List.mem_cons_of_mem _ h)
  have hown : s.vm.findClass R_Mo = some m.cls := findClass_of_methodNamed B.named
  have hlocks := B.notSynchronized
  subst hsz
  have hD := hD0.self (sz := s.heap.size)
  generalize hAe : va_A [] s.heap.size = A at hD ⊢
  have hA : ∀ q : Nat, s.heap.size ≤ q → A q := fun q h => by rw [← hAe]; exact Or.inr h
  have hS : va_S A s.heap s.heap [] := va_S.rf
  have hP : va_P (dC, dI) classes [] s.heap := hP
  have hl := lv_entry [.int x0, .int x1, .int x2, .int x3] (n := 7) (Nat.le_of_ble_eq_true rfl)
  have he9 : entryFrame m args 7 = F0 m 0 ((lg_sl [.int x0, .int x1, .int x2, .int x3] ++ List.replicate (7 - (lg_sl [.int x0, .int x1, .int x2, .int x3]).length) Slot.unset).toArray) [] := by rw [ha]; exact lg_entry_eq _ _ _
  rw [he9]
  clear he9
  generalize (lg_sl [.int x0, .int x1, .int x2, .int x3] ++ List.replicate (7 - (lg_sl [.int x0, .int x1, .int x2, .int x3]).length) Slot.unset).toArray = ls at hl ⊢
  have hl : lv_has ls 7 [(0, .int x0), (1, .int x1), (2, .int x2), (3, .int x3)] := hl
  unfold wp_Mo_passes at hw
  have J_226 : ∀ (x4_J226 : Int32) (x5_J226 : Int32) (H : Heap) (locs : List Loc) (ls : Array Slot), va_P (dC, dI) classes [] H → va_D A [] → va_S A s.heap H locs → lv_has ls 7 [(1, .int x1), (4, .int x4_J226), (5, .int x5_J226)] → wj_Mo_passes_226 x1 P x4_J226 x5_J226 → W p l e (headSpec w_Mo_passes rm_Mo_passes).room s m args below meth c H locs 0 0 (MQ below (Q_Mo_passes dC dI cI cL cB x0 x1 x2 x3 P A) args s 0 0 A) (F0 m 226 ls []) := by
    intro x4_J226 x5_J226 H locs ls hP hD hS hl hw
    unfold wj_Mo_passes_226 at hw
    refine lv_iload_n hx hb d_Mo_passes_226 rfl (lv_at hl 0 rfl) ?_
    refine lv_iconst (v := 1) hx hb d_Mo_passes_227 (by decide) ?_
    refine lv_icmp_ne (tgt := 258) hx hb d_Mo_passes_228 (by decide) (fun c228 => ?_) (fun c228 => ?_)
    · replace hw := hw.1 c228
      refine lv_iconst (v := 0) hx hb d_Mo_passes_258 (by decide) ?_
      exact W.zret (v := 0) hx hb hr (by decide) (fun t ht hW => ⟨⟨0, (), rfl, hw, by rw [ht]; exact hP, va_K.moved hW.alike hK, hD⟩, hS.F ht⟩) hS.2.2 d_Mo_passes_259
    · replace hw := hw.2 c228
      refine lv_iload hx hb d_Mo_passes_231 (lv_at hl 1 rfl) ?_
      refine lv_if_ne (tgt := 242) hx hb d_Mo_passes_233 (by decide) (fun c233 => ?_) (fun c233 => ?_)
      · replace hw := hw.1 c233
        refine lv_iload hx hb d_Mo_passes_242 (lv_at hl 1 rfl) ?_
        refine lv_iconst (v := 1) hx hb d_Mo_passes_244 (by decide) ?_
        refine lv_icmp_ne (tgt := 258) hx hb d_Mo_passes_245 (by decide) (fun c245 => ?_) (fun c245 => ?_)
        · replace hw := hw.1 c245
          refine lv_iconst (v := 0) hx hb d_Mo_passes_258 (by decide) ?_
          exact W.zret (v := 0) hx hb hr (by decide) (fun t ht hW => ⟨⟨0, (), rfl, hw, by rw [ht]; exact hP, va_K.moved hW.alike hK, hD⟩, hS.F ht⟩) hS.2.2 d_Mo_passes_259
        · replace hw := hw.2 c245
          refine lv_iload hx hb d_Mo_passes_248 (lv_at hl 2 rfl) ?_
          refine lv_iconst (v := 2) hx hb d_Mo_passes_250 (by decide) ?_
          refine lv_icmp_ne (tgt := 258) hx hb d_Mo_passes_251 (by decide) (fun c251 => ?_) (fun c251 => ?_)
          · replace hw := hw.1 c251
            refine lv_iconst (v := 0) hx hb d_Mo_passes_258 (by decide) ?_
            exact W.zret (v := 0) hx hb hr (by decide) (fun t ht hW => ⟨⟨0, (), rfl, hw, by rw [ht]; exact hP, va_K.moved hW.alike hK, hD⟩, hS.F ht⟩) hS.2.2 d_Mo_passes_259
          · replace hw := hw.2 c251
            refine lv_iconst (v := 1) hx hb d_Mo_passes_254 (by decide) ?_
            refine lv_goto (tgt := 259) hx hb d_Mo_passes_255 (by decide) ?_
            exact W.zret (v := 1) hx hb hr (by decide) (fun t ht hW => ⟨⟨1, (), rfl, hw, by rw [ht]; exact hP, va_K.moved hW.alike hK, hD⟩, hS.F ht⟩) hS.2.2 d_Mo_passes_259
      · replace hw := hw.2 c233
        refine lv_iload hx hb d_Mo_passes_236 (lv_at hl 2 rfl) ?_
        refine lv_iconst (v := 3) hx hb d_Mo_passes_238 (by decide) ?_
        refine lv_icmp_eq (tgt := 254) hx hb d_Mo_passes_239 (by decide) (fun c239 => ?_) (fun c239 => ?_)
        · replace hw := hw.1 c239
          refine lv_iconst (v := 1) hx hb d_Mo_passes_254 (by decide) ?_
          refine lv_goto (tgt := 259) hx hb d_Mo_passes_255 (by decide) ?_
          exact W.zret (v := 1) hx hb hr (by decide) (fun t ht hW => ⟨⟨1, (), rfl, hw, by rw [ht]; exact hP, va_K.moved hW.alike hK, hD⟩, hS.F ht⟩) hS.2.2 d_Mo_passes_259
        · replace hw := hw.2 c239
          refine lv_iload hx hb d_Mo_passes_242 (lv_at hl 1 rfl) ?_
          refine lv_iconst (v := 1) hx hb d_Mo_passes_244 (by decide) ?_
          refine lv_icmp_ne (tgt := 258) hx hb d_Mo_passes_245 (by decide) (fun c245 => ?_) (fun c245 => ?_)
          · replace hw := hw.1 c245
            refine lv_iconst (v := 0) hx hb d_Mo_passes_258 (by decide) ?_
            exact W.zret (v := 0) hx hb hr (by decide) (fun t ht hW => ⟨⟨0, (), rfl, hw, by rw [ht]; exact hP, va_K.moved hW.alike hK, hD⟩, hS.F ht⟩) hS.2.2 d_Mo_passes_259
          · replace hw := hw.2 c245
            refine lv_iload hx hb d_Mo_passes_248 (lv_at hl 2 rfl) ?_
            refine lv_iconst (v := 2) hx hb d_Mo_passes_250 (by decide) ?_
            refine lv_icmp_ne (tgt := 258) hx hb d_Mo_passes_251 (by decide) (fun c251 => ?_) (fun c251 => ?_)
            · replace hw := hw.1 c251
              refine lv_iconst (v := 0) hx hb d_Mo_passes_258 (by decide) ?_
              exact W.zret (v := 0) hx hb hr (by decide) (fun t ht hW => ⟨⟨0, (), rfl, hw, by rw [ht]; exact hP, va_K.moved hW.alike hK, hD⟩, hS.F ht⟩) hS.2.2 d_Mo_passes_259
            · replace hw := hw.2 c251
              refine lv_iconst (v := 1) hx hb d_Mo_passes_254 (by decide) ?_
              refine lv_goto (tgt := 259) hx hb d_Mo_passes_255 (by decide) ?_
              exact W.zret (v := 1) hx hb hr (by decide) (fun t ht hW => ⟨⟨1, (), rfl, hw, by rw [ht]; exact hP, va_K.moved hW.alike hK, hD⟩, hS.F ht⟩) hS.2.2 d_Mo_passes_259
  have J_154 : ∀ (x4_J154 : Int32) (x5_J154 : Int32) (H : Heap) (locs : List Loc) (ls : Array Slot), va_P (dC, dI) classes [] H → va_D A [] → va_S A s.heap H locs → lv_has ls 7 [(1, .int x1), (4, .int x4_J154), (5, .int x5_J154)] → wj_Mo_passes_154 x1 P x4_J154 x5_J154 → W p l e (headSpec w_Mo_passes rm_Mo_passes).room s m args below meth c H locs 0 0 (MQ below (Q_Mo_passes dC dI cI cL cB x0 x1 x2 x3 P A) args s 0 0 A) (F0 m 154 ls []) := by
    intro x4_J154 x5_J154 H locs ls hP hD hS hl hw
    unfold wj_Mo_passes_154 at hw
    refine lv_iload_n hx hb d_Mo_passes_154 rfl (lv_at hl 0 rfl) ?_
    refine lv_iconst (v := 2) hx hb d_Mo_passes_155 (by decide) ?_
    refine lv_icmp_ne (tgt := 170) hx hb d_Mo_passes_156 (by decide) (fun c156 => ?_) (fun c156 => ?_)
    · replace hw := hw.1 c156
      refine lv_iload_n hx hb d_Mo_passes_170 rfl (lv_at hl 0 rfl) ?_
      refine lv_iconst (v := 3) hx hb d_Mo_passes_171 (by decide) ?_
      refine lv_icmp_ne (tgt := 185) hx hb d_Mo_passes_172 (by decide) (fun c172 => ?_) (fun c172 => ?_)
      · replace hw := hw.1 c172
        refine lv_iconst (v := 0) hx hb d_Mo_passes_185 (by decide) ?_
        exact W.zret (v := 0) hx hb hr (by decide) (fun t ht hW => ⟨⟨0, (), rfl, hw, by rw [ht]; exact hP, va_K.moved hW.alike hK, hD⟩, hS.F ht⟩) hS.2.2 d_Mo_passes_186
      · replace hw := hw.2 c172
        refine lv_iload hx hb d_Mo_passes_175 (lv_at hl 1 rfl) ?_
        refine lv_iconst (v := 1) hx hb d_Mo_passes_177 (by decide) ?_
        refine lv_icmp_ne (tgt := 185) hx hb d_Mo_passes_178 (by decide) (fun c178 => ?_) (fun c178 => ?_)
        · replace hw := hw.1 c178
          refine lv_iconst (v := 0) hx hb d_Mo_passes_185 (by decide) ?_
          exact W.zret (v := 0) hx hb hr (by decide) (fun t ht hW => ⟨⟨0, (), rfl, hw, by rw [ht]; exact hP, va_K.moved hW.alike hK, hD⟩, hS.F ht⟩) hS.2.2 d_Mo_passes_186
        · replace hw := hw.2 c178
          refine lv_iconst (v := 1) hx hb d_Mo_passes_181 (by decide) ?_
          refine lv_goto (tgt := 186) hx hb d_Mo_passes_182 (by decide) ?_
          exact W.zret (v := 1) hx hb hr (by decide) (fun t ht hW => ⟨⟨1, (), rfl, hw, by rw [ht]; exact hP, va_K.moved hW.alike hK, hD⟩, hS.F ht⟩) hS.2.2 d_Mo_passes_186
    · replace hw := hw.2 c156
      refine lv_iload hx hb d_Mo_passes_159 (lv_at hl 1 rfl) ?_
      refine lv_if_ne (tgt := 170) hx hb d_Mo_passes_161 (by decide) (fun c161 => ?_) (fun c161 => ?_)
      · replace hw := hw.1 c161
        refine lv_iload_n hx hb d_Mo_passes_170 rfl (lv_at hl 0 rfl) ?_
        refine lv_iconst (v := 3) hx hb d_Mo_passes_171 (by decide) ?_
        refine lv_icmp_ne (tgt := 185) hx hb d_Mo_passes_172 (by decide) (fun c172 => ?_) (fun c172 => ?_)
        · replace hw := hw.1 c172
          refine lv_iconst (v := 0) hx hb d_Mo_passes_185 (by decide) ?_
          exact W.zret (v := 0) hx hb hr (by decide) (fun t ht hW => ⟨⟨0, (), rfl, hw, by rw [ht]; exact hP, va_K.moved hW.alike hK, hD⟩, hS.F ht⟩) hS.2.2 d_Mo_passes_186
        · replace hw := hw.2 c172
          refine lv_iload hx hb d_Mo_passes_175 (lv_at hl 1 rfl) ?_
          refine lv_iconst (v := 1) hx hb d_Mo_passes_177 (by decide) ?_
          refine lv_icmp_ne (tgt := 185) hx hb d_Mo_passes_178 (by decide) (fun c178 => ?_) (fun c178 => ?_)
          · replace hw := hw.1 c178
            refine lv_iconst (v := 0) hx hb d_Mo_passes_185 (by decide) ?_
            exact W.zret (v := 0) hx hb hr (by decide) (fun t ht hW => ⟨⟨0, (), rfl, hw, by rw [ht]; exact hP, va_K.moved hW.alike hK, hD⟩, hS.F ht⟩) hS.2.2 d_Mo_passes_186
          · replace hw := hw.2 c178
            refine lv_iconst (v := 1) hx hb d_Mo_passes_181 (by decide) ?_
            refine lv_goto (tgt := 186) hx hb d_Mo_passes_182 (by decide) ?_
            exact W.zret (v := 1) hx hb hr (by decide) (fun t ht hW => ⟨⟨1, (), rfl, hw, by rw [ht]; exact hP, va_K.moved hW.alike hK, hD⟩, hS.F ht⟩) hS.2.2 d_Mo_passes_186
      · replace hw := hw.2 c161
        refine lv_iload hx hb d_Mo_passes_164 (lv_at hl 2 rfl) ?_
        refine lv_iconst (v := 2) hx hb d_Mo_passes_166 (by decide) ?_
        refine lv_icmp_eq (tgt := 181) hx hb d_Mo_passes_167 (by decide) (fun c167 => ?_) (fun c167 => ?_)
        · replace hw := hw.1 c167
          refine lv_iconst (v := 1) hx hb d_Mo_passes_181 (by decide) ?_
          refine lv_goto (tgt := 186) hx hb d_Mo_passes_182 (by decide) ?_
          exact W.zret (v := 1) hx hb hr (by decide) (fun t ht hW => ⟨⟨1, (), rfl, hw, by rw [ht]; exact hP, va_K.moved hW.alike hK, hD⟩, hS.F ht⟩) hS.2.2 d_Mo_passes_186
        · replace hw := hw.2 c167
          refine lv_iload_n hx hb d_Mo_passes_170 rfl (lv_at hl 0 rfl) ?_
          refine lv_iconst (v := 3) hx hb d_Mo_passes_171 (by decide) ?_
          refine lv_icmp_ne (tgt := 185) hx hb d_Mo_passes_172 (by decide) (fun c172 => ?_) (fun c172 => ?_)
          · replace hw := hw.1 c172
            refine lv_iconst (v := 0) hx hb d_Mo_passes_185 (by decide) ?_
            exact W.zret (v := 0) hx hb hr (by decide) (fun t ht hW => ⟨⟨0, (), rfl, hw, by rw [ht]; exact hP, va_K.moved hW.alike hK, hD⟩, hS.F ht⟩) hS.2.2 d_Mo_passes_186
          · replace hw := hw.2 c172
            refine lv_iload hx hb d_Mo_passes_175 (lv_at hl 1 rfl) ?_
            refine lv_iconst (v := 1) hx hb d_Mo_passes_177 (by decide) ?_
            refine lv_icmp_ne (tgt := 185) hx hb d_Mo_passes_178 (by decide) (fun c178 => ?_) (fun c178 => ?_)
            · replace hw := hw.1 c178
              refine lv_iconst (v := 0) hx hb d_Mo_passes_185 (by decide) ?_
              exact W.zret (v := 0) hx hb hr (by decide) (fun t ht hW => ⟨⟨0, (), rfl, hw, by rw [ht]; exact hP, va_K.moved hW.alike hK, hD⟩, hS.F ht⟩) hS.2.2 d_Mo_passes_186
            · replace hw := hw.2 c178
              refine lv_iconst (v := 1) hx hb d_Mo_passes_181 (by decide) ?_
              refine lv_goto (tgt := 186) hx hb d_Mo_passes_182 (by decide) ?_
              exact W.zret (v := 1) hx hb hr (by decide) (fun t ht hW => ⟨⟨1, (), rfl, hw, by rw [ht]; exact hP, va_K.moved hW.alike hK, hD⟩, hS.F ht⟩) hS.2.2 d_Mo_passes_186
  have J_52 : ∀ (x4_J52 : Int32) (x5_J52 : Int32) (s0_J52 : Int32) (H : Heap) (locs : List Loc) (ls : Array Slot), va_P (dC, dI) classes [] H → va_D A [] → va_S A s.heap H locs → lv_has ls 7 [(0, .int x0), (1, .int x1), (2, .int x2), (4, .int x4_J52), (5, .int x5_J52)] → wj_Mo_passes_52 x0 x1 x2 P x4_J52 x5_J52 s0_J52 → W p l e (headSpec w_Mo_passes rm_Mo_passes).room s m args below meth c H locs 0 0 (MQ below (Q_Mo_passes dC dI cI cL cB x0 x1 x2 x3 P A) args s 0 0 A) (F0 m 52 ls [.int s0_J52]) := by
    intro x4_J52 x5_J52 s0_J52 H locs ls hP hD hS hl hw
    unfold wj_Mo_passes_52 at hw
    refine lv_istore (lv' := [(6, .int s0_J52), (0, .int x0), (1, .int x1), (2, .int x2), (4, .int x4_J52), (5, .int x5_J52)]) hx hb d_Mo_passes_52 hl (by decide) rfl (fun ls hl => ?_)
    refine lv_iload_n hx hb d_Mo_passes_54 rfl (lv_at hl 1 rfl) ?_
    by_cases c55_0 : x0 = 0
    · replace hw := hw.1 c55_0
      refine lv_tableIn (tgt := 104) hx hb d_Mo_passes_55 (by rw [c55_0]; decide) (by rw [c55_0]; decide) (by rw [c55_0]; rfl) (by decide) ?_
      refine lv_iload_n hx hb d_Mo_passes_104 rfl (lv_at hl 2 rfl) ?_
      refine lv_iconst (v := 1) hx hb d_Mo_passes_105 (by decide) ?_
      refine lv_icmp_ne (tgt := 113) hx hb d_Mo_passes_106 (by decide) (fun c106 => ?_) (fun c106 => ?_)
      · replace hw := hw.1 c106
        refine lv_iconst (v := 0) hx hb d_Mo_passes_113 (by decide) ?_
        exact W.zret (v := 0) hx hb hr (by decide) (fun t ht hW => ⟨⟨0, (), rfl, hw, by rw [ht]; exact hP, va_K.moved hW.alike hK, hD⟩, hS.F ht⟩) hS.2.2 d_Mo_passes_114
      · replace hw := hw.2 c106
        refine lv_iconst (v := 1) hx hb d_Mo_passes_109 (by decide) ?_
        refine lv_goto (tgt := 114) hx hb d_Mo_passes_110 (by decide) ?_
        exact W.zret (v := 1) hx hb hr (by decide) (fun t ht hW => ⟨⟨1, (), rfl, hw, by rw [ht]; exact hP, va_K.moved hW.alike hK, hD⟩, hS.F ht⟩) hS.2.2 d_Mo_passes_114
    replace hw := hw.2 c55_0
    by_cases c55_1 : x0 = 1
    · replace hw := hw.1 c55_1
      refine lv_tableIn (tgt := 115) hx hb d_Mo_passes_55 (by rw [c55_1]; decide) (by rw [c55_1]; decide) (by rw [c55_1]; rfl) (by decide) ?_
      refine lv_iload_n hx hb d_Mo_passes_115 rfl (lv_at hl 2 rfl) ?_
      refine lv_iconst (v := 2) hx hb d_Mo_passes_116 (by decide) ?_
      refine lv_icmp_ge (tgt := 137) hx hb d_Mo_passes_117 (by decide) (fun c117 => ?_) (fun c117 => ?_)
      · replace hw := hw.1 c117
        refine lv_iconst (v := 0) hx hb d_Mo_passes_137 (by decide) ?_
        exact W.zret (v := 0) hx hb hr (by decide) (fun t ht hW => ⟨⟨0, (), rfl, hw, by rw [ht]; exact hP, va_K.moved hW.alike hK, hD⟩, hS.F ht⟩) hS.2.2 d_Mo_passes_138
      · replace hw := hw.2 c117
        refine lv_iload hx hb d_Mo_passes_120 (lv_at hl 4 rfl) ?_
        refine lv_if_ne (tgt := 137) hx hb d_Mo_passes_122 (by decide) (fun c122 => ?_) (fun c122 => ?_)
        · replace hw := hw.1 c122
          refine lv_iconst (v := 0) hx hb d_Mo_passes_137 (by decide) ?_
          exact W.zret (v := 0) hx hb hr (by decide) (fun t ht hW => ⟨⟨0, (), rfl, hw, by rw [ht]; exact hP, va_K.moved hW.alike hK, hD⟩, hS.F ht⟩) hS.2.2 d_Mo_passes_138
        · replace hw := hw.2 c122
          refine lv_iload hx hb d_Mo_passes_125 (lv_at hl 5 rfl) ?_
          refine lv_iload_n hx hb d_Mo_passes_127 rfl (lv_at hl 2 rfl) ?_
          refine lv_iconst (v := 1) hx hb d_Mo_passes_128 (by decide) ?_
          refine lv_iadd hx hb d_Mo_passes_129 ?_
          refine lv_icmp_ne (tgt := 137) hx hb d_Mo_passes_130 (by decide) (fun c130 => ?_) (fun c130 => ?_)
          · replace hw := hw.1 c130
            refine lv_iconst (v := 0) hx hb d_Mo_passes_137 (by decide) ?_
            exact W.zret (v := 0) hx hb hr (by decide) (fun t ht hW => ⟨⟨0, (), rfl, hw, by rw [ht]; exact hP, va_K.moved hW.alike hK, hD⟩, hS.F ht⟩) hS.2.2 d_Mo_passes_138
          · replace hw := hw.2 c130
            refine lv_iconst (v := 1) hx hb d_Mo_passes_133 (by decide) ?_
            refine lv_goto (tgt := 138) hx hb d_Mo_passes_134 (by decide) ?_
            exact W.zret (v := 1) hx hb hr (by decide) (fun t ht hW => ⟨⟨1, (), rfl, hw, by rw [ht]; exact hP, va_K.moved hW.alike hK, hD⟩, hS.F ht⟩) hS.2.2 d_Mo_passes_138
    replace hw := hw.2 c55_1
    by_cases c55_2 : x0 = 2
    · replace hw := hw.1 c55_2
      refine lv_tableIn (tgt := 139) hx hb d_Mo_passes_55 (by rw [c55_2]; decide) (by rw [c55_2]; decide) (by rw [c55_2]; rfl) (by decide) ?_
      refine lv_iload_n hx hb d_Mo_passes_139 rfl (lv_at hl 2 rfl) ?_
      refine lv_if_eq (tgt := 181) hx hb d_Mo_passes_140 (by decide) (fun c140 => ?_) (fun c140 => ?_)
      · replace hw := hw.1 c140
        refine lv_iconst (v := 1) hx hb d_Mo_passes_181 (by decide) ?_
        refine lv_goto (tgt := 186) hx hb d_Mo_passes_182 (by decide) ?_
        exact W.zret (v := 1) hx hb hr (by decide) (fun t ht hW => ⟨⟨1, (), rfl, hw, by rw [ht]; exact hP, va_K.moved hW.alike hK, hD⟩, hS.F ht⟩) hS.2.2 d_Mo_passes_186
      · replace hw := hw.2 c140
        refine lv_iload_n hx hb d_Mo_passes_143 rfl (lv_at hl 2 rfl) ?_
        refine lv_iconst (v := 1) hx hb d_Mo_passes_144 (by decide) ?_
        refine lv_icmp_ne (tgt := 154) hx hb d_Mo_passes_145 (by decide) (fun c145 => ?_) (fun c145 => ?_)
        · replace hw := hw.1 c145
          exact J_154 x4_J52 x5_J52 H _ _ hP hD hS (lv_sub hl [2, 4, 5] rfl) hw
        · replace hw := hw.2 c145
          refine lv_iload hx hb d_Mo_passes_148 (lv_at hl 5 rfl) ?_
          refine lv_iconst (v := 1) hx hb d_Mo_passes_150 (by decide) ?_
          refine lv_icmp_eq (tgt := 181) hx hb d_Mo_passes_151 (by decide) (fun c151 => ?_) (fun c151 => ?_)
          · replace hw := hw.1 c151
            refine lv_iconst (v := 1) hx hb d_Mo_passes_181 (by decide) ?_
            refine lv_goto (tgt := 186) hx hb d_Mo_passes_182 (by decide) ?_
            exact W.zret (v := 1) hx hb hr (by decide) (fun t ht hW => ⟨⟨1, (), rfl, hw, by rw [ht]; exact hP, va_K.moved hW.alike hK, hD⟩, hS.F ht⟩) hS.2.2 d_Mo_passes_186
          · replace hw := hw.2 c151
            exact J_154 x4_J52 x5_J52 H _ _ hP hD hS (lv_sub hl [2, 4, 5] rfl) hw
    replace hw := hw.2 c55_2
    by_cases c55_3 : x0 = 3
    · replace hw := hw.1 c55_3
      refine lv_tableIn (tgt := 187) hx hb d_Mo_passes_55 (by rw [c55_3]; decide) (by rw [c55_3]; decide) (by rw [c55_3]; rfl) (by decide) ?_
      refine lv_iload_n hx hb d_Mo_passes_187 rfl (lv_at hl 3 rfl) ?_
      refine lv_if_ne (tgt := 195) hx hb d_Mo_passes_188 (by decide) (fun c188 => ?_) (fun c188 => ?_)
      · replace hw := hw.1 c188
        refine lv_iconst (v := 0) hx hb d_Mo_passes_195 (by decide) ?_
        exact W.zret (v := 0) hx hb hr (by decide) (fun t ht hW => ⟨⟨0, (), rfl, hw, by rw [ht]; exact hP, va_K.moved hW.alike hK, hD⟩, hS.F ht⟩) hS.2.2 d_Mo_passes_196
      · replace hw := hw.2 c188
        refine lv_iconst (v := 1) hx hb d_Mo_passes_191 (by decide) ?_
        refine lv_goto (tgt := 196) hx hb d_Mo_passes_192 (by decide) ?_
        exact W.zret (v := 1) hx hb hr (by decide) (fun t ht hW => ⟨⟨1, (), rfl, hw, by rw [ht]; exact hP, va_K.moved hW.alike hK, hD⟩, hS.F ht⟩) hS.2.2 d_Mo_passes_196
    replace hw := hw.2 c55_3
    by_cases c55_4 : x0 = 4
    · replace hw := hw.1 c55_4
      refine lv_tableIn (tgt := 197) hx hb d_Mo_passes_55 (by rw [c55_4]; decide) (by rw [c55_4]; decide) (by rw [c55_4]; rfl) (by decide) ?_
      refine lv_iload_n hx hb d_Mo_passes_197 rfl (lv_at hl 2 rfl) ?_
      refine lv_iconst (v := 1) hx hb d_Mo_passes_198 (by decide) ?_
      refine lv_icmp_eq (tgt := 211) hx hb d_Mo_passes_199 (by decide) (fun c199 => ?_) (fun c199 => ?_)
      · replace hw := hw.1 c199
        refine lv_iconst (v := 1) hx hb d_Mo_passes_211 (by decide) ?_
        refine lv_goto (tgt := 216) hx hb d_Mo_passes_212 (by decide) ?_
        exact W.zret (v := 1) hx hb hr (by decide) (fun t ht hW => ⟨⟨1, (), rfl, hw, by rw [ht]; exact hP, va_K.moved hW.alike hK, hD⟩, hS.F ht⟩) hS.2.2 d_Mo_passes_216
      · replace hw := hw.2 c199
        refine lv_iload_n hx hb d_Mo_passes_202 rfl (lv_at hl 2 rfl) ?_
        refine lv_if_ne (tgt := 215) hx hb d_Mo_passes_203 (by decide) (fun c203 => ?_) (fun c203 => ?_)
        · replace hw := hw.1 c203
          refine lv_iconst (v := 0) hx hb d_Mo_passes_215 (by decide) ?_
          exact W.zret (v := 0) hx hb hr (by decide) (fun t ht hW => ⟨⟨0, (), rfl, hw, by rw [ht]; exact hP, va_K.moved hW.alike hK, hD⟩, hS.F ht⟩) hS.2.2 d_Mo_passes_216
        · replace hw := hw.2 c203
          refine lv_iload hx hb d_Mo_passes_206 (lv_at hl 0 rfl) ?_
          refine lv_if_eq (tgt := 215) hx hb d_Mo_passes_208 (by decide) (fun c208 => ?_) (fun c208 => ?_)
          · replace hw := hw.1 c208
            refine lv_iconst (v := 0) hx hb d_Mo_passes_215 (by decide) ?_
            exact W.zret (v := 0) hx hb hr (by decide) (fun t ht hW => ⟨⟨0, (), rfl, hw, by rw [ht]; exact hP, va_K.moved hW.alike hK, hD⟩, hS.F ht⟩) hS.2.2 d_Mo_passes_216
          · replace hw := hw.2 c208
            refine lv_iconst (v := 1) hx hb d_Mo_passes_211 (by decide) ?_
            refine lv_goto (tgt := 216) hx hb d_Mo_passes_212 (by decide) ?_
            exact W.zret (v := 1) hx hb hr (by decide) (fun t ht hW => ⟨⟨1, (), rfl, hw, by rw [ht]; exact hP, va_K.moved hW.alike hK, hD⟩, hS.F ht⟩) hS.2.2 d_Mo_passes_216
    replace hw := hw.2 c55_4
    by_cases c55_5 : x0 = 5
    · replace hw := hw.1 c55_5
      refine lv_tableIn (tgt := 285) hx hb d_Mo_passes_55 (by rw [c55_5]; decide) (by rw [c55_5]; decide) (by rw [c55_5]; rfl) (by decide) ?_
      refine lv_iconst (v := 0) hx hb d_Mo_passes_285 (by decide) ?_
      exact W.zret (v := 0) hx hb hr (by decide) (fun t ht hW => ⟨⟨0, (), rfl, hw, by rw [ht]; exact hP, va_K.moved hW.alike hK, hD⟩, hS.F ht⟩) hS.2.2 d_Mo_passes_286
    replace hw := hw.2 c55_5
    by_cases c55_6 : x0 = 6
    · replace hw := hw.1 c55_6
      refine lv_tableIn (tgt := 217) hx hb d_Mo_passes_55 (by rw [c55_6]; decide) (by rw [c55_6]; decide) (by rw [c55_6]; rfl) (by decide) ?_
      refine lv_iload_n hx hb d_Mo_passes_217 rfl (lv_at hl 2 rfl) ?_
      refine lv_if_ne (tgt := 226) hx hb d_Mo_passes_218 (by decide) (fun c218 => ?_) (fun c218 => ?_)
      · replace hw := hw.1 c218
        exact J_226 x4_J52 x5_J52 H _ _ hP hD hS (lv_sub hl [2, 4, 5] rfl) hw
      · replace hw := hw.2 c218
        refine lv_iload hx hb d_Mo_passes_221 (lv_at hl 0 rfl) ?_
        refine lv_if_ne (tgt := 254) hx hb d_Mo_passes_223 (by decide) (fun c223 => ?_) (fun c223 => ?_)
        · replace hw := hw.1 c223
          refine lv_iconst (v := 1) hx hb d_Mo_passes_254 (by decide) ?_
          refine lv_goto (tgt := 259) hx hb d_Mo_passes_255 (by decide) ?_
          exact W.zret (v := 1) hx hb hr (by decide) (fun t ht hW => ⟨⟨1, (), rfl, hw, by rw [ht]; exact hP, va_K.moved hW.alike hK, hD⟩, hS.F ht⟩) hS.2.2 d_Mo_passes_259
        · replace hw := hw.2 c223
          exact J_226 x4_J52 x5_J52 H _ _ hP hD hS (lv_sub hl [2, 4, 5] rfl) hw
    replace hw := hw.2 c55_6
    by_cases c55_7 : x0 = 7
    · replace hw := hw.1 c55_7
      refine lv_tableIn (tgt := 260) hx hb d_Mo_passes_55 (by rw [c55_7]; decide) (by rw [c55_7]; decide) (by rw [c55_7]; rfl) (by decide) ?_
      refine lv_iload_n hx hb d_Mo_passes_260 rfl (lv_at hl 2 rfl) ?_
      refine lv_if_eq (tgt := 268) hx hb d_Mo_passes_261 (by decide) (fun c261 => ?_) (fun c261 => ?_)
      · replace hw := hw.1 c261
        refine lv_iconst (v := 0) hx hb d_Mo_passes_268 (by decide) ?_
        exact W.zret (v := 0) hx hb hr (by decide) (fun t ht hW => ⟨⟨0, (), rfl, hw, by rw [ht]; exact hP, va_K.moved hW.alike hK, hD⟩, hS.F ht⟩) hS.2.2 d_Mo_passes_269
      · replace hw := hw.2 c261
        refine lv_iconst (v := 1) hx hb d_Mo_passes_264 (by decide) ?_
        refine lv_goto (tgt := 269) hx hb d_Mo_passes_265 (by decide) ?_
        exact W.zret (v := 1) hx hb hr (by decide) (fun t ht hW => ⟨⟨1, (), rfl, hw, by rw [ht]; exact hP, va_K.moved hW.alike hK, hD⟩, hS.F ht⟩) hS.2.2 d_Mo_passes_269
    replace hw := hw.2 c55_7
    by_cases c55_8 : x0 = 8
    · replace hw := hw.1 c55_8
      refine lv_tableIn (tgt := 270) hx hb d_Mo_passes_55 (by rw [c55_8]; decide) (by rw [c55_8]; decide) (by rw [c55_8]; rfl) (by decide) ?_
      refine lv_iload_n hx hb d_Mo_passes_270 rfl (lv_at hl 2 rfl) ?_
      refine lv_iconst (v := 1) hx hb d_Mo_passes_271 (by decide) ?_
      refine lv_icmp_ne (tgt := 283) hx hb d_Mo_passes_272 (by decide) (fun c272 => ?_) (fun c272 => ?_)
      · replace hw := hw.1 c272
        refine lv_iconst (v := 0) hx hb d_Mo_passes_283 (by decide) ?_
        exact W.zret (v := 0) hx hb hr (by decide) (fun t ht hW => ⟨⟨0, (), rfl, hw, by rw [ht]; exact hP, va_K.moved hW.alike hK, hD⟩, hS.F ht⟩) hS.2.2 d_Mo_passes_284
      · replace hw := hw.2 c272
        refine lv_iload_n hx hb d_Mo_passes_275 rfl (lv_at hl 3 rfl) ?_
        refine lv_if_ne (tgt := 283) hx hb d_Mo_passes_276 (by decide) (fun c276 => ?_) (fun c276 => ?_)
        · replace hw := hw.1 c276
          refine lv_iconst (v := 0) hx hb d_Mo_passes_283 (by decide) ?_
          exact W.zret (v := 0) hx hb hr (by decide) (fun t ht hW => ⟨⟨0, (), rfl, hw, by rw [ht]; exact hP, va_K.moved hW.alike hK, hD⟩, hS.F ht⟩) hS.2.2 d_Mo_passes_284
        · replace hw := hw.2 c276
          refine lv_iconst (v := 1) hx hb d_Mo_passes_279 (by decide) ?_
          refine lv_goto (tgt := 284) hx hb d_Mo_passes_280 (by decide) ?_
          exact W.zret (v := 1) hx hb hr (by decide) (fun t ht hW => ⟨⟨1, (), rfl, hw, by rw [ht]; exact hP, va_K.moved hW.alike hK, hD⟩, hS.F ht⟩) hS.2.2 d_Mo_passes_284
    replace hw := hw.2 c55_8
    refine lv_tableOut (tgt := 285) hx hb d_Mo_passes_55 (by have z0 := lv_neT c55_0 (a := 0) (by decide); have z1 := lv_neT c55_1 (a := 1) (by decide); have z2 := lv_neT c55_2 (a := 2) (by decide); have z3 := lv_neT c55_3 (a := 3) (by decide); have z4 := lv_neT c55_4 (a := 4) (by decide); have z5 := lv_neT c55_5 (a := 5) (by decide); have z6 := lv_neT c55_6 (a := 6) (by decide); have z7 := lv_neT c55_7 (a := 7) (by decide); have z8 := lv_neT c55_8 (a := 8) (by decide); omega) (by decide) ?_
    refine lv_iconst (v := 0) hx hb d_Mo_passes_285 (by decide) ?_
    exact W.zret (v := 0) hx hb hr (by decide) (fun t ht hW => ⟨⟨0, (), rfl, hw, by rw [ht]; exact hP, va_K.moved hW.alike hK, hD⟩, hS.F ht⟩) hS.2.2 d_Mo_passes_286
  have J_51 : ∀ (x4_J51 : Int32) (x5_J51 : Int32) (H : Heap) (locs : List Loc) (ls : Array Slot), va_P (dC, dI) classes [] H → va_D A [] → va_S A s.heap H locs → lv_has ls 7 [(0, .int x0), (1, .int x1), (2, .int x2), (4, .int x4_J51), (5, .int x5_J51)] → wj_Mo_passes_51 x0 x1 x2 P x4_J51 x5_J51 → W p l e (headSpec w_Mo_passes rm_Mo_passes).room s m args below meth c H locs 0 0 (MQ below (Q_Mo_passes dC dI cI cL cB x0 x1 x2 x3 P A) args s 0 0 A) (F0 m 51 ls []) := by
    intro x4_J51 x5_J51 H locs ls hP hD hS hl hw
    unfold wj_Mo_passes_51 at hw
    refine lv_iconst (v := 0) hx hb d_Mo_passes_51 (by decide) ?_
    exact J_52 x4_J51 x5_J51 0 H _ _ hP hD hS (lv_sub hl [0, 1, 2, 3, 4] rfl) hw
  have J_47 : ∀ (x4_J47 : Int32) (x5_J47 : Int32) (H : Heap) (locs : List Loc) (ls : Array Slot), va_P (dC, dI) classes [] H → va_D A [] → va_S A s.heap H locs → lv_has ls 7 [(0, .int x0), (1, .int x1), (2, .int x2), (4, .int x4_J47), (5, .int x5_J47)] → wj_Mo_passes_47 x0 x1 x2 P x4_J47 x5_J47 → W p l e (headSpec w_Mo_passes rm_Mo_passes).room s m args below meth c H locs 0 0 (MQ below (Q_Mo_passes dC dI cI cL cB x0 x1 x2 x3 P A) args s 0 0 A) (F0 m 47 ls []) := by
    intro x4_J47 x5_J47 H locs ls hP hD hS hl hw
    unfold wj_Mo_passes_47 at hw
    refine lv_iconst (v := 1) hx hb d_Mo_passes_47 (by decide) ?_
    refine lv_goto (tgt := 52) hx hb d_Mo_passes_48 (by decide) ?_
    exact J_52 x4_J47 x5_J47 1 H _ _ hP hD hS (lv_sub hl [0, 1, 2, 3, 4] rfl) hw
  have J_35 : ∀ (x4_J35 : Int32) (x5_J35 : Int32) (H : Heap) (locs : List Loc) (ls : Array Slot), va_P (dC, dI) classes [] H → va_D A [] → va_S A s.heap H locs → lv_has ls 7 [(0, .int x0), (1, .int x1), (2, .int x2), (4, .int x4_J35), (5, .int x5_J35)] → wj_Mo_passes_35 x0 x1 x2 P x4_J35 x5_J35 → W p l e (headSpec w_Mo_passes rm_Mo_passes).room s m args below meth c H locs 0 0 (MQ below (Q_Mo_passes dC dI cI cL cB x0 x1 x2 x3 P A) args s 0 0 A) (F0 m 35 ls []) := by
    intro x4_J35 x5_J35 H locs ls hP hD hS hl hw
    unfold wj_Mo_passes_35 at hw
    refine lv_iload hx hb d_Mo_passes_35 (lv_at hl 3 rfl) ?_
    refine lv_iconst (v := 2) hx hb d_Mo_passes_37 (by decide) ?_
    refine lv_icmp_ne (tgt := 51) hx hb d_Mo_passes_38 (by decide) (fun c38 => ?_) (fun c38 => ?_)
    · replace hw := hw.1 c38
      exact J_51 x4_J35 x5_J35 H _ _ hP hD hS (lv_sub hl [0, 1, 2, 3, 4] rfl) hw
    · replace hw := hw.2 c38
      refine lv_iload hx hb d_Mo_passes_41 (lv_at hl 4 rfl) ?_
      refine lv_iconst (v := 3) hx hb d_Mo_passes_43 (by decide) ?_
      refine lv_icmp_ne (tgt := 51) hx hb d_Mo_passes_44 (by decide) (fun c44 => ?_) (fun c44 => ?_)
      · replace hw := hw.1 c44
        exact J_51 x4_J35 x5_J35 H _ _ hP hD hS (lv_sub hl [0, 1, 2, 3, 4] rfl) hw
      · replace hw := hw.2 c44
        exact J_47 x4_J35 x5_J35 H _ _ hP hD hS (lv_sub hl [0, 1, 2, 3, 4] rfl) hw
  have J_22 : ∀ (x4_J22 : Int32) (s0_J22 : Int32) (H : Heap) (locs : List Loc) (ls : Array Slot), va_P (dC, dI) classes [] H → va_D A [] → va_S A s.heap H locs → lv_has ls 7 [(0, .int x0), (1, .int x1), (2, .int x2), (4, .int x4_J22)] → wj_Mo_passes_22 x0 x1 x2 P x4_J22 s0_J22 → W p l e (headSpec w_Mo_passes rm_Mo_passes).room s m args below meth c H locs 0 0 (MQ below (Q_Mo_passes dC dI cI cL cB x0 x1 x2 x3 P A) args s 0 0 A) (F0 m 22 ls [.int s0_J22]) := by
    intro x4_J22 s0_J22 H locs ls hP hD hS hl hw
    unfold wj_Mo_passes_22 at hw
    refine lv_istore (lv' := [(5, .int s0_J22), (0, .int x0), (1, .int x1), (2, .int x2), (4, .int x4_J22)]) hx hb d_Mo_passes_22 hl (by decide) rfl (fun ls hl => ?_)
    refine lv_iload hx hb d_Mo_passes_24 (lv_at hl 4 rfl) ?_
    refine lv_if_ne (tgt := 35) hx hb d_Mo_passes_26 (by decide) (fun c26 => ?_) (fun c26 => ?_)
    · replace hw := hw.1 c26
      exact J_35 x4_J22 s0_J22 H _ _ hP hD hS (lv_sub hl [1, 2, 3, 4, 0] rfl) hw
    · replace hw := hw.2 c26
      refine lv_iload hx hb d_Mo_passes_29 (lv_at hl 0 rfl) ?_
      refine lv_iconst (v := 1) hx hb d_Mo_passes_31 (by decide) ?_
      refine lv_icmp_eq (tgt := 47) hx hb d_Mo_passes_32 (by decide) (fun c32 => ?_) (fun c32 => ?_)
      · replace hw := hw.1 c32
        exact J_47 x4_J22 s0_J22 H _ _ hP hD hS (lv_sub hl [1, 2, 3, 4, 0] rfl) hw
      · replace hw := hw.2 c32
        exact J_35 x4_J22 s0_J22 H _ _ hP hD hS (lv_sub hl [1, 2, 3, 4, 0] rfl) hw
  have J_10 : ∀ (s0_J10 : Int32) (H : Heap) (locs : List Loc) (ls : Array Slot), va_P (dC, dI) classes [] H → va_D A [] → va_S A s.heap H locs → lv_has ls 7 [(0, .int x0), (1, .int x1), (2, .int x2), (3, .int x3)] → wj_Mo_passes_10 x3 x2 x0 x1 P s0_J10 → W p l e (headSpec w_Mo_passes rm_Mo_passes).room s m args below meth c H locs 0 0 (MQ below (Q_Mo_passes dC dI cI cL cB x0 x1 x2 x3 P A) args s 0 0 A) (F0 m 10 ls [.int s0_J10]) := by
    intro s0_J10 H locs ls hP hD hS hl hw
    unfold wj_Mo_passes_10 at hw
    refine lv_istore (lv' := [(4, .int s0_J10), (0, .int x0), (1, .int x1), (2, .int x2), (3, .int x3)]) hx hb d_Mo_passes_10 hl (by decide) rfl (fun ls hl => ?_)
    refine lv_iload_n hx hb d_Mo_passes_12 rfl (lv_at hl 3 rfl) ?_
    refine lv_iload_n hx hb d_Mo_passes_13 rfl (lv_at hl 4 rfl) ?_
    refine lv_icmp_ge (tgt := 21) hx hb d_Mo_passes_14 (by decide) (fun c14 => ?_) (fun c14 => ?_)
    · replace hw := hw.1 c14
      refine lv_iload_n hx hb d_Mo_passes_21 rfl (lv_at hl 3 rfl) ?_
      exact J_22 s0_J10 x2 H _ _ hP hD hS (lv_sub hl [1, 2, 3, 0] rfl) hw
    · replace hw := hw.2 c14
      refine lv_iload_n hx hb d_Mo_passes_17 rfl (lv_at hl 4 rfl) ?_
      refine lv_goto (tgt := 22) hx hb d_Mo_passes_18 (by decide) ?_
      exact J_22 s0_J10 x3 H _ _ hP hD hS (lv_sub hl [1, 2, 3, 0] rfl) hw
  refine lv_iload_n hx hb d_Mo_passes_0 rfl (lv_at hl 2 rfl) ?_
  refine lv_iload_n hx hb d_Mo_passes_1 rfl (lv_at hl 3 rfl) ?_
  refine lv_icmp_ge (tgt := 9) hx hb d_Mo_passes_2 (by decide) (fun c2 => ?_) (fun c2 => ?_)
  · replace hw := hw.1 c2
    refine lv_iload_n hx hb d_Mo_passes_9 rfl (lv_at hl 3 rfl) ?_
    exact J_10 x3 s.heap _ _ hP hD hS (lv_sub hl [0, 1, 2, 3] rfl) hw
  · replace hw := hw.2 c2
    refine lv_iload_n hx hb d_Mo_passes_5 rfl (lv_at hl 2 rfl) ?_
    refine lv_goto (tgt := 10) hx hb d_Mo_passes_6 (by decide) ?_
    exact J_10 x2 s.heap _ _ hP hD hS (lv_sub hl [0, 1, 2, 3] rfl) hw
def wj_Mo_next_113 (x2 : Int32) (f_t_ends : (Nat → Int32)) (P : Int32 → Prop) (x3_J113 : Int32) (s0_J113 : Int32) : Prop := ((s0_J113 = 0 → P (-1)) ∧ (¬ s0_J113 = 0 → (vp_in ((4 * x3_J113) + x2) 160 ∧ P (f_t_ends ((4 * x3_J113) + x2).toNatClampNeg))))
def wp_Mo_next (f_t_kinds : (Nat → Int32)) (f_t_positions : (Nat → Int32)) (f_t_ends : (Nat → Int32)) (f_t_at : (Nat → Int32)) (f_t_ports : (Nat → Int32)) (f_t_bends : (Nat → Int32)) (x1 : Int32) (x2 : Int32) (P : Int32 → Prop) : Prop := (vp_in x1 120 ∧ ((¬ (f_t_at x1.toNatClampNeg) = ((-1) : Int32) → (vp_in (f_t_at x1.toNatClampNeg) 40 ∧ (((f_t_kinds (f_t_at x1.toNatClampNeg).toNatClampNeg) = 0 → P (-1)) ∧ (¬ (f_t_kinds (f_t_at x1.toNatClampNeg).toNatClampNeg) = 0 → (vp_in ((4 * (f_t_at x1.toNatClampNeg)) + x2) 160 ∧ (((f_t_ends ((4 * (f_t_at x1.toNatClampNeg)) + x2).toNatClampNeg) = ((-1) : Int32) → P (-1)) ∧ (¬ (f_t_ends ((4 * (f_t_at x1.toNatClampNeg)) + x2).toNatClampNeg) = ((-1) : Int32) → (vp_in x1 120 ∧ ((¬ x2 = (f_t_ports x1.toNatClampNeg) → (vp_in (f_t_at x1.toNatClampNeg) 40 ∧ ((¬ (f_t_kinds (f_t_at x1.toNatClampNeg).toNatClampNeg) = (1 : Int32) → (vp_in (f_t_at x1.toNatClampNeg) 40 ∧ (vp_in (f_t_at x1.toNatClampNeg) 40 ∧ (vp_in x1 120 ∧ wp_Mo_passes ((f_t_kinds (f_t_at x1.toNatClampNeg).toNatClampNeg) - 2) (f_t_positions (f_t_at x1.toNatClampNeg).toNatClampNeg) (f_t_ports x1.toNatClampNeg) x2 (fun r110 => wj_Mo_next_113 x2 f_t_ends P (f_t_at x1.toNatClampNeg) r110))))) ∧ ((f_t_kinds (f_t_at x1.toNatClampNeg).toNatClampNeg) = (1 : Int32) → (vp_in x1 120 ∧ ((¬ (f_t_ports x1.toNatClampNeg) = 0 → wj_Mo_next_113 x2 f_t_ends P (f_t_at x1.toNatClampNeg) 0) ∧ ((f_t_ports x1.toNatClampNeg) = 0 → wj_Mo_next_113 x2 f_t_ends P (f_t_at x1.toNatClampNeg) 1))))))) ∧ (x2 = (f_t_ports x1.toNatClampNeg) → P (-1))))))))))) ∧ ((f_t_at x1.toNatClampNeg) = ((-1) : Int32) → ((¬ x2 = 0 → P (-1)) ∧ (x2 = 0 → (vp_in x1 120 ∧ P (f_t_bends x1.toNatClampNeg)))))))
def w_Mo_next : List Cond := .code y_Mo_next b_Mo_next 5 (some .int) :: tb
abbrev rm_Mo_next : Room := { frames := 1, cells := 0, slots := 0, locals := 26 }
abbrev Q_Mo_next (dC : Nat → ClassId) (dI : Nat → Nat → Nat) (cI cL cB : ClassId) (q_t : Nat) (a_t : Nat → Nat) (v_t_things : Int32) (v_t_pipes : Int32) (v_t_wide : Int32) (v_t_size : Int32) (v_t_place : Int32) (v_t_number : Int64) (v_t_thrown : Int32) (v_t_wish : Int32) (v_t_found : Int32) (f_t_kinds : (Nat → Int32)) (f_t_positions : (Nat → Int32)) (f_t_ends : (Nat → Int32)) (f_t_at : (Nat → Int32)) (f_t_ports : (Nat → Int32)) (f_t_bends : (Nat → Int32)) (x1 : Int32) (x2 : Int32) (P : Int32 → Prop) (A : Nat → Prop) : Array Value → State → Outcome → State → Prop := va_Qi (fun (r : Int32) (u : Unit) => P r) (fun u t => va_P (dC, dI) classes [(q_t, .inr (7, o_Mo a_t v_t_things v_t_pipes v_t_wide v_t_size v_t_place v_t_number v_t_thrown v_t_wish v_t_found)), ((a_t 1), .inl (cI, 40, .inl f_t_kinds)), ((a_t 6), .inl (cI, 40, .inl f_t_positions)), ((a_t 8), .inl (cI, 160, .inl f_t_ends)), ((a_t 12), .inl (cI, 120, .inl f_t_at)), ((a_t 13), .inl (cI, 120, .inl f_t_ports)), ((a_t 14), .inl (cI, 120, .inl f_t_bends))] t.heap ∧ va_K (dC, dI) classes [(cI, .int), (cL, .long), (cB, .byte)] t ∧ va_D A [(q_t, .inr (7, o_Mo a_t v_t_things v_t_pipes v_t_wide v_t_size v_t_place v_t_number v_t_thrown v_t_wish v_t_found)), ((a_t 1), .inl (cI, 40, .inl f_t_kinds)), ((a_t 6), .inl (cI, 40, .inl f_t_positions)), ((a_t 8), .inl (cI, 160, .inl f_t_ends)), ((a_t 12), .inl (cI, 120, .inl f_t_at)), ((a_t 13), .inl (cI, 120, .inl f_t_ports)), ((a_t 14), .inl (cI, 120, .inl f_t_bends))]) A
set_option maxHeartbeats 4000000 in
set_option maxRecDepth 100000 in
theorem c_Mo_next (l : Launch) (dC : Nat → ClassId) (dI : Nat → Nat → Nat) (cI cL cB : ClassId) (q_t : Nat) (a_t : Nat → Nat) (sz : Nat) (v_t_things : Int32) (v_t_pipes : Int32) (v_t_wide : Int32) (v_t_size : Int32) (v_t_place : Int32) (v_t_number : Int64) (v_t_thrown : Int32) (v_t_wish : Int32) (v_t_found : Int32) (f_t_kinds : (Nat → Int32)) (f_t_positions : (Nat → Int32)) (f_t_ends : (Nat → Int32)) (f_t_at : (Nat → Int32)) (f_t_ports : (Nat → Int32)) (f_t_bends : (Nat → Int32)) (x1 : Int32) (x2 : Int32) (P : Int32 → Prop) (hw : wp_Mo_next f_t_kinds f_t_positions f_t_ends f_t_at f_t_ports f_t_bends x1 x2 P) : Met l y_Mo_next w_Mo_next rm_Mo_next (va_Pc [.ref q_t, .int x1, .int x2] (fun U => U.heap.size = sz ∧ va_P (dC, dI) classes [(q_t, .inr (7, o_Mo a_t v_t_things v_t_pipes v_t_wide v_t_size v_t_place v_t_number v_t_thrown v_t_wish v_t_found)), ((a_t 1), .inl (cI, 40, .inl f_t_kinds)), ((a_t 6), .inl (cI, 40, .inl f_t_positions)), ((a_t 8), .inl (cI, 160, .inl f_t_ends)), ((a_t 12), .inl (cI, 120, .inl f_t_at)), ((a_t 13), .inl (cI, 120, .inl f_t_ports)), ((a_t 14), .inl (cI, 120, .inl f_t_bends))] U.heap ∧ va_K (dC, dI) classes [(cI, .int), (cL, .long), (cB, .byte)] U ∧ va_D (fun _ => True) [(q_t, .inr (7, o_Mo a_t v_t_things v_t_pipes v_t_wide v_t_size v_t_place v_t_number v_t_thrown v_t_wish v_t_found)), ((a_t 1), .inl (cI, 40, .inl f_t_kinds)), ((a_t 6), .inl (cI, 40, .inl f_t_positions)), ((a_t 8), .inl (cI, 160, .inl f_t_ends)), ((a_t 12), .inl (cI, 120, .inl f_t_at)), ((a_t 13), .inl (cI, 120, .inl f_t_ports)), ((a_t 14), .inl (cI, 120, .inl f_t_bends))])) (Q_Mo_next dC dI cI cL cB q_t a_t v_t_things v_t_pipes v_t_wide v_t_size v_t_place v_t_number v_t_thrown v_t_wish v_t_found f_t_kinds f_t_positions f_t_ends f_t_at f_t_ports f_t_bends x1 x2 P (va_A [(q_t, .inr (7, o_Mo a_t v_t_things v_t_pipes v_t_wide v_t_size v_t_place v_t_number v_t_thrown v_t_wish v_t_found)), ((a_t 1), .inl (cI, 40, .inl f_t_kinds)), ((a_t 6), .inl (cI, 40, .inl f_t_positions)), ((a_t 8), .inl (cI, 160, .inl f_t_ends)), ((a_t 12), .inl (cI, 120, .inl f_t_at)), ((a_t 13), .inl (cI, 120, .inl f_t_ports)), ((a_t 14), .inl (cI, 120, .inl f_t_bends))] sz)) 0 0 (va_A [(q_t, .inr (7, o_Mo a_t v_t_things v_t_pipes v_t_wide v_t_size v_t_place v_t_number v_t_thrown v_t_wish v_t_found)), ((a_t 1), .inl (cI, 40, .inl f_t_kinds)), ((a_t 6), .inl (cI, 40, .inl f_t_positions)), ((a_t 8), .inl (cI, 160, .inl f_t_ends)), ((a_t 12), .inl (cI, 120, .inl f_t_at)), ((a_t 13), .inl (cI, 120, .inl f_t_ports)), ((a_t 14), .inl (cI, 120, .inl f_t_bends))] sz) := by
  refine Met.ofW (cc := b_Mo_next) (maxL := 5) (ret := (some .int)) (by decide) rfl ?_
  intro p e s m args below meth c s₁ B hml hv
  obtain ⟨ha, hsz, hP, hK, hD0⟩ := hv
  have hx := B.exec
  have hb := B.bytes
  have hr := B.returns
  have hts0 := atoms_spec (ws := w_Mo_next) B.pre
  have hts : ∀ w ∈ tb, w.before args s = true := fun w h => hts0 w (List.mem_cons_of_mem _ h)
  have hown : s.vm.findClass R_Mo = some m.cls := findClass_of_methodNamed B.named
  have hlocks := B.notSynchronized
  subst hsz
  have hD := hD0.self (sz := s.heap.size)
  generalize hAe : va_A [(q_t, .inr (7, o_Mo a_t v_t_things v_t_pipes v_t_wide v_t_size v_t_place v_t_number v_t_thrown v_t_wish v_t_found)), ((a_t 1), .inl (cI, 40, .inl f_t_kinds)), ((a_t 6), .inl (cI, 40, .inl f_t_positions)), ((a_t 8), .inl (cI, 160, .inl f_t_ends)), ((a_t 12), .inl (cI, 120, .inl f_t_at)), ((a_t 13), .inl (cI, 120, .inl f_t_ports)), ((a_t 14), .inl (cI, 120, .inl f_t_bends))] s.heap.size = A at hD ⊢
  have hA : ∀ q : Nat, s.heap.size ≤ q → A q := fun q h => by rw [← hAe]; exact Or.inr h
  have hS : va_S A s.heap s.heap [] := va_S.rf
  have hP : va_P (dC, dI) classes [(q_t, .inr (7, o_Mo a_t v_t_things v_t_pipes v_t_wide v_t_size v_t_place v_t_number v_t_thrown v_t_wish v_t_found)), ((a_t 1), .inl (cI, 40, .inl f_t_kinds)), ((a_t 6), .inl (cI, 40, .inl f_t_positions)), ((a_t 8), .inl (cI, 160, .inl f_t_ends)), ((a_t 12), .inl (cI, 120, .inl f_t_at)), ((a_t 13), .inl (cI, 120, .inl f_t_ports)), ((a_t 14), .inl (cI, 120, .inl f_t_bends))] s.heap := hP
  have hl := lv_entry [.ref q_t, .int x1, .int x2] (n := 5) (Nat.le_of_ble_eq_true rfl)
  have he9 : entryFrame m args 5 = F0 m 0 ((lg_sl [.ref q_t, .int x1, .int x2] ++ List.replicate (5 - (lg_sl [.ref q_t, .int x1, .int x2]).length) Slot.unset).toArray) [] := by rw [ha]; exact lg_entry_eq _ _ _
  rw [he9]
  clear he9
  generalize (lg_sl [.ref q_t, .int x1, .int x2] ++ List.replicate (5 - (lg_sl [.ref q_t, .int x1, .int x2]).length) Slot.unset).toArray = ls at hl ⊢
  have hl : lv_has ls 5 [(0, .ref q_t), (1, .int x1), (2, .int x2)] := hl
  unfold wp_Mo_next at hw
  have J_113 : ∀ (x3_J113 : Int32) (s0_J113 : Int32) (H : Heap) (locs : List Loc) (ls : Array Slot), va_P (dC, dI) classes [(q_t, .inr (7, o_Mo a_t v_t_things v_t_pipes v_t_wide v_t_size v_t_place v_t_number v_t_thrown v_t_wish v_t_found)), ((a_t 1), .inl (cI, 40, .inl f_t_kinds)), ((a_t 6), .inl (cI, 40, .inl f_t_positions)), ((a_t 8), .inl (cI, 160, .inl f_t_ends)), ((a_t 12), .inl (cI, 120, .inl f_t_at)), ((a_t 13), .inl (cI, 120, .inl f_t_ports)), ((a_t 14), .inl (cI, 120, .inl f_t_bends))] H → va_D A [(q_t, .inr (7, o_Mo a_t v_t_things v_t_pipes v_t_wide v_t_size v_t_place v_t_number v_t_thrown v_t_wish v_t_found)), ((a_t 1), .inl (cI, 40, .inl f_t_kinds)), ((a_t 6), .inl (cI, 40, .inl f_t_positions)), ((a_t 8), .inl (cI, 160, .inl f_t_ends)), ((a_t 12), .inl (cI, 120, .inl f_t_at)), ((a_t 13), .inl (cI, 120, .inl f_t_ports)), ((a_t 14), .inl (cI, 120, .inl f_t_bends))] → va_S A s.heap H locs → lv_has ls 5 [(0, .ref q_t), (2, .int x2), (3, .int x3_J113)] → wj_Mo_next_113 x2 f_t_ends P x3_J113 s0_J113 → W p l e (headSpec w_Mo_next rm_Mo_next).room s m args below meth c H locs 0 0 (MQ below (Q_Mo_next dC dI cI cL cB q_t a_t v_t_things v_t_pipes v_t_wide v_t_size v_t_place v_t_number v_t_thrown v_t_wish v_t_found f_t_kinds f_t_positions f_t_ends f_t_at f_t_ports f_t_bends x1 x2 P A) args s 0 0 A) (F0 m 113 ls [.int s0_J113]) := by
    intro x3_J113 s0_J113 H locs ls hP hD hS hl hw
    unfold wj_Mo_next_113 at hw
    refine lv_istore (lv' := [(4, .int s0_J113), (0, .ref q_t), (2, .int x2), (3, .int x3_J113)]) hx hb d_Mo_next_113 hl (by decide) rfl (fun ls hl => ?_)
    refine lv_iload hx hb d_Mo_next_115 (lv_at hl 0 rfl) ?_
    refine lv_if_eq (tgt := 133) hx hb d_Mo_next_117 (by decide) (fun c117 => ?_) (fun c117 => ?_)
    · replace hw := hw.1 c117
      refine lv_iconst (v := (-1)) hx hb d_Mo_next_133 (by decide) ?_
      exact W.iret (v := (-1)) hx hb hr (fun t ht hW => ⟨⟨(-1), (), rfl, hw, by rw [ht]; exact hP, va_K.moved hW.alike hK, hD⟩, hS.F ht⟩) hS.2.2 d_Mo_next_134
    · replace hw := hw.2 c117
      refine lv_aload_n hx hb d_Mo_next_120 rfl (lv_at hl 1 rfl) ?_
      refine va_get (D := (dC, dI)) (ci := 7) (v := .ref (a_t 8)) (C := R_Mo) (T := F_Mo) (N := 29) hx hb hts i_Mo hown hK hP 0 rfl rfl 8 (by decide) (hts (Cond.fieldLink R_Mo 32 "PlantGraphModel" "ends" "[I") kw31_c603ba5) (fun _ h9 => h9) rfl d_Mo_next_121 ?_
      refine lv_iconst (v := 4) hx hb d_Mo_next_124 (by decide) ?_
      refine lv_iload_n hx hb d_Mo_next_125 rfl (lv_at hl 3 rfl) ?_
      refine lv_imul hx hb d_Mo_next_126 ?_
      refine lv_iload_n hx hb d_Mo_next_127 rfl (lv_at hl 2 rfl) ?_
      refine lv_iadd hx hb d_Mo_next_128 ?_
      refine va_iald hx hb hK hP 3 0 rfl rfl hw.1 d_Mo_next_129 ?_
      replace hw := hw.2
      refine lv_goto (tgt := 134) hx hb d_Mo_next_130 (by decide) ?_
      exact W.iret (v := (f_t_ends ((4 * x3_J113) + x2).toNatClampNeg)) hx hb hr (fun t ht hW => ⟨⟨(f_t_ends ((4 * x3_J113) + x2).toNatClampNeg), (), rfl, hw, by rw [ht]; exact hP, va_K.moved hW.alike hK, hD⟩, hS.F ht⟩) hS.2.2 d_Mo_next_134
  refine lv_aload_n hx hb d_Mo_next_0 rfl (lv_at hl 0 rfl) ?_
  refine va_get (D := (dC, dI)) (ci := 7) (v := .ref (a_t 12)) (C := R_Mo) (T := F_Mo) (N := 29) hx hb hts i_Mo hown hK hP 0 rfl rfl 12 (by decide) (hts (Cond.fieldLink R_Mo 42 "PlantGraphModel" "at" "[I") kw31_01baf06) (fun _ h9 => h9) rfl d_Mo_next_1 ?_
  refine lv_iload_n hx hb d_Mo_next_4 rfl (lv_at hl 1 rfl) ?_
  refine va_iald hx hb hK hP 4 0 rfl rfl hw.1 d_Mo_next_5 ?_
  replace hw := hw.2
  refine lv_istore_n (lv' := [(3, .int (f_t_at x1.toNatClampNeg)), (0, .ref q_t), (1, .int x1), (2, .int x2)]) hx hb d_Mo_next_6 rfl hl (by decide) rfl (fun ls hl => ?_)
  refine lv_iload_n hx hb d_Mo_next_7 rfl (lv_at hl 0 rfl) ?_
  refine lv_iconst (v := (-1)) hx hb d_Mo_next_8 (by decide) ?_
  refine lv_icmp_ne (tgt := 27) hx hb d_Mo_next_9 (by decide) (fun c9 => ?_) (fun c9 => ?_)
  · replace hw := hw.1 c9
    refine lv_aload_n hx hb d_Mo_next_27 rfl (lv_at hl 1 rfl) ?_
    refine va_get (D := (dC, dI)) (ci := 7) (v := .ref (a_t 1)) (C := R_Mo) (T := F_Mo) (N := 29) hx hb hts i_Mo hown hK hP 0 rfl rfl 1 (by decide) (hts (Cond.fieldLink R_Mo 9 "PlantGraphModel" "kinds" "[I") kw31_cf02404) (fun _ h9 => h9) rfl d_Mo_next_28 ?_
    refine lv_iload_n hx hb d_Mo_next_31 rfl (lv_at hl 0 rfl) ?_
    refine va_iald hx hb hK hP 1 0 rfl rfl hw.1 d_Mo_next_32 ?_
    replace hw := hw.2
    refine lv_if_eq (tgt := 60) hx hb d_Mo_next_33 (by decide) (fun c33 => ?_) (fun c33 => ?_)
    · replace hw := hw.1 c33
      refine lv_iconst (v := (-1)) hx hb d_Mo_next_60 (by decide) ?_
      exact W.iret (v := (-1)) hx hb hr (fun t ht hW => ⟨⟨(-1), (), rfl, hw, by rw [ht]; exact hP, va_K.moved hW.alike hK, hD⟩, hS.F ht⟩) hS.2.2 d_Mo_next_61
    · replace hw := hw.2 c33
      refine lv_aload_n hx hb d_Mo_next_36 rfl (lv_at hl 1 rfl) ?_
      refine va_get (D := (dC, dI)) (ci := 7) (v := .ref (a_t 8)) (C := R_Mo) (T := F_Mo) (N := 29) hx hb hts i_Mo hown hK hP 0 rfl rfl 8 (by decide) (hts (Cond.fieldLink R_Mo 32 "PlantGraphModel" "ends" "[I") kw31_c603ba5) (fun _ h9 => h9) rfl d_Mo_next_37 ?_
      refine lv_iconst (v := 4) hx hb d_Mo_next_40 (by decide) ?_
      refine lv_iload_n hx hb d_Mo_next_41 rfl (lv_at hl 0 rfl) ?_
      refine lv_imul hx hb d_Mo_next_42 ?_
      refine lv_iload_n hx hb d_Mo_next_43 rfl (lv_at hl 3 rfl) ?_
      refine lv_iadd hx hb d_Mo_next_44 ?_
      refine va_iald hx hb hK hP 3 0 rfl rfl hw.1 d_Mo_next_45 ?_
      replace hw := hw.2
      refine lv_iconst (v := (-1)) hx hb d_Mo_next_46 (by decide) ?_
      refine lv_icmp_eq (tgt := 60) hx hb d_Mo_next_47 (by decide) (fun c47 => ?_) (fun c47 => ?_)
      · replace hw := hw.1 c47
        refine lv_iconst (v := (-1)) hx hb d_Mo_next_60 (by decide) ?_
        exact W.iret (v := (-1)) hx hb hr (fun t ht hW => ⟨⟨(-1), (), rfl, hw, by rw [ht]; exact hP, va_K.moved hW.alike hK, hD⟩, hS.F ht⟩) hS.2.2 d_Mo_next_61
      · replace hw := hw.2 c47
        refine lv_iload_n hx hb d_Mo_next_50 rfl (lv_at hl 3 rfl) ?_
        refine lv_aload_n hx hb d_Mo_next_51 rfl (lv_at hl 1 rfl) ?_
        refine va_get (D := (dC, dI)) (ci := 7) (v := .ref (a_t 13)) (C := R_Mo) (T := F_Mo) (N := 29) hx hb hts i_Mo hown hK hP 0 rfl rfl 13 (by decide) (hts (Cond.fieldLink R_Mo 45 "PlantGraphModel" "ports" "[I") kw31_653085e) (fun _ h9 => h9) rfl d_Mo_next_52 ?_
        refine lv_iload_n hx hb d_Mo_next_55 rfl (lv_at hl 2 rfl) ?_
        refine va_iald hx hb hK hP 5 0 rfl rfl hw.1 d_Mo_next_56 ?_
        replace hw := hw.2
        refine lv_icmp_ne (tgt := 62) hx hb d_Mo_next_57 (by decide) (fun c57 => ?_) (fun c57 => ?_)
        · replace hw := hw.1 c57
          refine lv_aload_n hx hb d_Mo_next_62 rfl (lv_at hl 1 rfl) ?_
          refine va_get (D := (dC, dI)) (ci := 7) (v := .ref (a_t 1)) (C := R_Mo) (T := F_Mo) (N := 29) hx hb hts i_Mo hown hK hP 0 rfl rfl 1 (by decide) (hts (Cond.fieldLink R_Mo 9 "PlantGraphModel" "kinds" "[I") kw31_cf02404) (fun _ h9 => h9) rfl d_Mo_next_63 ?_
          refine lv_iload_n hx hb d_Mo_next_66 rfl (lv_at hl 0 rfl) ?_
          refine va_iald hx hb hK hP 1 0 rfl rfl hw.1 d_Mo_next_67 ?_
          replace hw := hw.2
          refine lv_iconst (v := 1) hx hb d_Mo_next_68 (by decide) ?_
          refine lv_icmp_ne (tgt := 89) hx hb d_Mo_next_69 (by decide) (fun c69 => ?_) (fun c69 => ?_)
          · replace hw := hw.1 c69
            refine lv_aload_n hx hb d_Mo_next_89 rfl (lv_at hl 1 rfl) ?_
            refine va_get (D := (dC, dI)) (ci := 7) (v := .ref (a_t 1)) (C := R_Mo) (T := F_Mo) (N := 29) hx hb hts i_Mo hown hK hP 0 rfl rfl 1 (by decide) (hts (Cond.fieldLink R_Mo 9 "PlantGraphModel" "kinds" "[I") kw31_cf02404) (fun _ h9 => h9) rfl d_Mo_next_90 ?_
            refine lv_iload_n hx hb d_Mo_next_93 rfl (lv_at hl 0 rfl) ?_
            refine va_iald hx hb hK hP 1 0 rfl rfl hw.1 d_Mo_next_94 ?_
            replace hw := hw.2
            refine lv_iconst (v := 2) hx hb d_Mo_next_95 (by decide) ?_
            refine lv_isub hx hb d_Mo_next_96 ?_
            refine lv_aload_n hx hb d_Mo_next_97 rfl (lv_at hl 1 rfl) ?_
            refine va_get (D := (dC, dI)) (ci := 7) (v := .ref (a_t 6)) (C := R_Mo) (T := F_Mo) (N := 29) hx hb hts i_Mo hown hK hP 0 rfl rfl 6 (by decide) (hts (Cond.fieldLink R_Mo 26 "PlantGraphModel" "positions" "[I") kw31_6a57fc2) (fun _ h9 => h9) rfl d_Mo_next_98 ?_
            refine lv_iload_n hx hb d_Mo_next_101 rfl (lv_at hl 0 rfl) ?_
            refine va_iald hx hb hK hP 2 0 rfl rfl hw.1 d_Mo_next_102 ?_
            replace hw := hw.2
            refine lv_aload_n hx hb d_Mo_next_103 rfl (lv_at hl 1 rfl) ?_
            refine va_get (D := (dC, dI)) (ci := 7) (v := .ref (a_t 13)) (C := R_Mo) (T := F_Mo) (N := 29) hx hb hts i_Mo hown hK hP 0 rfl rfl 13 (by decide) (hts (Cond.fieldLink R_Mo 45 "PlantGraphModel" "ports" "[I") kw31_653085e) (fun _ h9 => h9) rfl d_Mo_next_104 ?_
            refine lv_iload_n hx hb d_Mo_next_107 rfl (lv_at hl 2 rfl) ?_
            refine va_iald hx hb hK hP 5 0 rfl rfl hw.1 d_Mo_next_108 ?_
            replace hw := hw.2
            refine lv_iload_n hx hb d_Mo_next_109 rfl (lv_at hl 3 rfl) ?_
            have hPc := hP.sub (ws' := []) [] rfl
            have hDc := hD.sub (ws' := []) [] (by decide) rfl
            have hFc := va_free (wc := []) hD hS hA [] rfl
            refine va_calli (va_runS (As := [.int ((f_t_kinds (f_t_at x1.toNatClampNeg).toNatClampNeg) - 2), .int (f_t_positions (f_t_at x1.toNatClampNeg).toNatClampNeg), .int (f_t_ports x1.toNatClampNeg), .int x2]) (rest := []) ⟨hx, hb, hml, hown, hts⟩ (c_Mo_passes l dC dI cI cL cB  s.heap.size  ((f_t_kinds (f_t_at x1.toNatClampNeg).toNatClampNeg) - 2) (f_t_positions (f_t_at x1.toNatClampNeg).toNatClampNeg) (f_t_ports x1.toNatClampNeg) x2 _ hw) (my_cwS 4 hts kw31_e953a57 kw31_abba1a4 kw31_7a5931c kw31_38c1aab rfl rfl (by decide +kernel) ⟨Nat.le_of_ble_eq_true rfl, Nat.le_of_ble_eq_true rfl⟩) ⟨fun a U g mk q => by obtain ⟨q0, q1, qP, qK, qD⟩ := q; exact ⟨q0, q1, qP, va_K.moved (u := U) (U := U.calling g mk a) (Vm.Alike.refl U.vm) qK, qD⟩, fun U hU hW => ⟨rfl, by rw [hU], by rw [hU]; exact hPc, va_K.moved hW.alike hK, hDc.weaken (fun _ _ _ _ => trivial)⟩⟩ rfl rfl hl.1 rfl (lv_room (Nat.le_of_ble_eq_true rfl)) d_Mo_next_110 ⟨Nat.zero_le _, Nat.zero_le _⟩) hS (fun q _ h => hFc q h) hFc (fun r110 u t H locs ht hvm hw hB hz1 hk1 hS => ?_)
            obtain ⟨hP1, hK1, hD1⟩ := hB
            rw [ht] at hP1
            obtain ⟨hP, hD⟩ := va_join (wr := [(q_t, .inr (7, o_Mo a_t v_t_things v_t_pipes v_t_wide v_t_size v_t_place v_t_number v_t_thrown v_t_wish v_t_found)), ((a_t 1), .inl (cI, 40, .inl f_t_kinds)), ((a_t 6), .inl (cI, 40, .inl f_t_positions)), ((a_t 8), .inl (cI, 160, .inl f_t_ends)), ((a_t 12), .inl (cI, 120, .inl f_t_at)), ((a_t 13), .inl (cI, 120, .inl f_t_ports)), ((a_t 14), .inl (cI, 120, .inl f_t_bends))]) (w1 := []) hP hD [] [0, 1, 2, 3, 4, 5, 6] rfl rfl (by decide) (by decide) hk1 hFc hP1 hD1
            have hP : va_P (dC, dI) classes [(q_t, .inr (7, o_Mo a_t v_t_things v_t_pipes v_t_wide v_t_size v_t_place v_t_number v_t_thrown v_t_wish v_t_found)), ((a_t 1), .inl (cI, 40, .inl f_t_kinds)), ((a_t 6), .inl (cI, 40, .inl f_t_positions)), ((a_t 8), .inl (cI, 160, .inl f_t_ends)), ((a_t 12), .inl (cI, 120, .inl f_t_at)), ((a_t 13), .inl (cI, 120, .inl f_t_ports)), ((a_t 14), .inl (cI, 120, .inl f_t_bends))] H := hP.sub (ws' := [(q_t, .inr (7, o_Mo a_t v_t_things v_t_pipes v_t_wide v_t_size v_t_place v_t_number v_t_thrown v_t_wish v_t_found)), ((a_t 1), .inl (cI, 40, .inl f_t_kinds)), ((a_t 6), .inl (cI, 40, .inl f_t_positions)), ((a_t 8), .inl (cI, 160, .inl f_t_ends)), ((a_t 12), .inl (cI, 120, .inl f_t_at)), ((a_t 13), .inl (cI, 120, .inl f_t_ports)), ((a_t 14), .inl (cI, 120, .inl f_t_bends))]) [0, 1, 2, 3, 4, 5, 6] rfl
            have hD : va_D A [(q_t, .inr (7, o_Mo a_t v_t_things v_t_pipes v_t_wide v_t_size v_t_place v_t_number v_t_thrown v_t_wish v_t_found)), ((a_t 1), .inl (cI, 40, .inl f_t_kinds)), ((a_t 6), .inl (cI, 40, .inl f_t_positions)), ((a_t 8), .inl (cI, 160, .inl f_t_ends)), ((a_t 12), .inl (cI, 120, .inl f_t_at)), ((a_t 13), .inl (cI, 120, .inl f_t_ports)), ((a_t 14), .inl (cI, 120, .inl f_t_bends))] := hD.sub (ws' := [(q_t, .inr (7, o_Mo a_t v_t_things v_t_pipes v_t_wide v_t_size v_t_place v_t_number v_t_thrown v_t_wish v_t_found)), ((a_t 1), .inl (cI, 40, .inl f_t_kinds)), ((a_t 6), .inl (cI, 40, .inl f_t_positions)), ((a_t 8), .inl (cI, 160, .inl f_t_ends)), ((a_t 12), .inl (cI, 120, .inl f_t_at)), ((a_t 13), .inl (cI, 120, .inl f_t_ports)), ((a_t 14), .inl (cI, 120, .inl f_t_bends))]) [0, 1, 2, 3, 4, 5, 6] (by decide) rfl
            exact J_113 (f_t_at x1.toNatClampNeg) r110 H _ _ hP hD hS (lv_sub hl [1, 3, 0] rfl) hw
          · replace hw := hw.2 c69
            refine lv_aload_n hx hb d_Mo_next_72 rfl (lv_at hl 1 rfl) ?_
            refine va_get (D := (dC, dI)) (ci := 7) (v := .ref (a_t 13)) (C := R_Mo) (T := F_Mo) (N := 29) hx hb hts i_Mo hown hK hP 0 rfl rfl 13 (by decide) (hts (Cond.fieldLink R_Mo 45 "PlantGraphModel" "ports" "[I") kw31_653085e) (fun _ h9 => h9) rfl d_Mo_next_73 ?_
            refine lv_iload_n hx hb d_Mo_next_76 rfl (lv_at hl 2 rfl) ?_
            refine va_iald hx hb hK hP 5 0 rfl rfl hw.1 d_Mo_next_77 ?_
            replace hw := hw.2
            refine lv_if_ne (tgt := 85) hx hb d_Mo_next_78 (by decide) (fun c78 => ?_) (fun c78 => ?_)
            · replace hw := hw.1 c78
              refine lv_iconst (v := 0) hx hb d_Mo_next_85 (by decide) ?_
              refine lv_goto (tgt := 113) hx hb d_Mo_next_86 (by decide) ?_
              exact J_113 (f_t_at x1.toNatClampNeg) 0 s.heap _ _ hP hD hS (lv_sub hl [1, 3, 0] rfl) hw
            · replace hw := hw.2 c78
              refine lv_iconst (v := 1) hx hb d_Mo_next_81 (by decide) ?_
              refine lv_goto (tgt := 113) hx hb d_Mo_next_82 (by decide) ?_
              exact J_113 (f_t_at x1.toNatClampNeg) 1 s.heap _ _ hP hD hS (lv_sub hl [1, 3, 0] rfl) hw
        · replace hw := hw.2 c57
          refine lv_iconst (v := (-1)) hx hb d_Mo_next_60 (by decide) ?_
          exact W.iret (v := (-1)) hx hb hr (fun t ht hW => ⟨⟨(-1), (), rfl, hw, by rw [ht]; exact hP, va_K.moved hW.alike hK, hD⟩, hS.F ht⟩) hS.2.2 d_Mo_next_61
  · replace hw := hw.2 c9
    refine lv_iload_n hx hb d_Mo_next_12 rfl (lv_at hl 3 rfl) ?_
    refine lv_if_ne (tgt := 25) hx hb d_Mo_next_13 (by decide) (fun c13 => ?_) (fun c13 => ?_)
    · replace hw := hw.1 c13
      refine lv_iconst (v := (-1)) hx hb d_Mo_next_25 (by decide) ?_
      exact W.iret (v := (-1)) hx hb hr (fun t ht hW => ⟨⟨(-1), (), rfl, hw, by rw [ht]; exact hP, va_K.moved hW.alike hK, hD⟩, hS.F ht⟩) hS.2.2 d_Mo_next_26
    · replace hw := hw.2 c13
      refine lv_aload_n hx hb d_Mo_next_16 rfl (lv_at hl 1 rfl) ?_
      refine va_get (D := (dC, dI)) (ci := 7) (v := .ref (a_t 14)) (C := R_Mo) (T := F_Mo) (N := 29) hx hb hts i_Mo hown hK hP 0 rfl rfl 14 (by decide) (hts (Cond.fieldLink R_Mo 48 "PlantGraphModel" "bends" "[I") kw31_563086a) (fun _ h9 => h9) rfl d_Mo_next_17 ?_
      refine lv_iload_n hx hb d_Mo_next_20 rfl (lv_at hl 2 rfl) ?_
      refine va_iald hx hb hK hP 6 0 rfl rfl hw.1 d_Mo_next_21 ?_
      replace hw := hw.2
      refine lv_goto (tgt := 26) hx hb d_Mo_next_22 (by decide) ?_
      exact W.iret (v := (f_t_bends x1.toNatClampNeg)) hx hb hr (fun t ht hW => ⟨⟨(f_t_bends x1.toNatClampNeg), (), rfl, hw, by rw [ht]; exact hP, va_K.moved hW.alike hK, hD⟩, hS.F ht⟩) hS.2.2 d_Mo_next_26
def wk_Mo_measure_130_66 (x3_L53 : Int32) (B_53 : Int32 → Int32 → (Nat → Int32) → Prop) (x2_L66 : Int32) (x4_L66 : Int32) (f_t_left_L66 : (Nat → Int32)) : Prop := B_53 x2_L66 (x3_L53 + 1) f_t_left_L66
def wl_Mo_measure_66 (f_t_kinds : (Nat → Int32)) (f_t_positions : (Nat → Int32)) (f_t_ends : (Nat → Int32)) (f_t_at : (Nat → Int32)) (f_t_ports : (Nat → Int32)) (f_t_bends : (Nat → Int32)) (x3_L53 : Int32) (K_130 : Int32 → Int32 → (Nat → Int32) → Prop) : Nat → Int32 → Int32 → (Nat → Int32) → Prop
  | 0, _, _, _ => False
  | k_66 + 1, x2_L66, x4_L66, f_t_left_L66 => (((4 : Int32) ≤ x4_L66 → K_130 x2_L66 x4_L66 f_t_left_L66) ∧ (¬ (4 : Int32) ≤ x4_L66 → wp_Mo_next f_t_kinds f_t_positions f_t_ends f_t_at f_t_ports f_t_bends (x3_L53 ^^^ 1) x4_L66 (fun r78 => ((r78 = ((-1) : Int32) → wl_Mo_measure_66 f_t_kinds f_t_positions f_t_ends f_t_at f_t_ports f_t_bends x3_L53 K_130 k_66 x2_L66 (x4_L66 + 1) f_t_left_L66) ∧ (¬ r78 = ((-1) : Int32) → (vp_in r78 120 ∧ (vp_in x3_L53 120 ∧ (((f_t_left_L66 x3_L53.toNatClampNeg) ≤ ((f_t_left_L66 r78.toNatClampNeg) + 1) → wl_Mo_measure_66 f_t_kinds f_t_positions f_t_ends f_t_at f_t_ports f_t_bends x3_L53 K_130 k_66 x2_L66 (x4_L66 + 1) f_t_left_L66) ∧ (¬ (f_t_left_L66 x3_L53.toNatClampNeg) ≤ ((f_t_left_L66 r78.toNatClampNeg) + 1) → (vp_in r78 120 ∧ (vp_in x3_L53 120 ∧ wl_Mo_measure_66 f_t_kinds f_t_positions f_t_ends f_t_at f_t_ports f_t_bends x3_L53 K_130 k_66 1 (x4_L66 + 1) (upd f_t_left_L66 x3_L53.toNatClampNeg ((f_t_left_L66 r78.toNatClampNeg) + 1)))))))))))))
def wk_Mo_measure_136_53 (B_45 : Int32 → (Nat → Int32) → Prop) (x2_L53 : Int32) (x3_L53 : Int32) (f_t_left_L53 : (Nat → Int32)) : Prop := B_45 x2_L53 f_t_left_L53
def wk_Mo_measure_139_45 (P : (Nat → Int32) → Prop) (x2_L45 : Int32) (f_t_left_L45 : (Nat → Int32)) : Prop := P f_t_left_L45
def wl_Mo_measure_2 (v_t_pipes : Int32) (f_t_at : (Nat → Int32)) (x1 : Int32) (K_43 : Int32 → (Nat → Int32) → Prop) : Nat → Int32 → (Nat → Int32) → Prop
  | 0, _, _ => False
  | k_2 + 1, x2_L2, f_t_left_L2 => (((2 * v_t_pipes) ≤ x2_L2 → K_43 x2_L2 f_t_left_L2) ∧ (¬ (2 * v_t_pipes) ≤ x2_L2 → (vp_in (x2_L2 ^^^ 1) 120 ∧ ((¬ (f_t_at (x2_L2 ^^^ 1).toNatClampNeg) = x1 → (vp_in x2_L2 120 ∧ wl_Mo_measure_2 v_t_pipes f_t_at x1 K_43 k_2 (x2_L2 + 1) (upd f_t_left_L2 x2_L2.toNatClampNeg 1000))) ∧ ((f_t_at (x2_L2 ^^^ 1).toNatClampNeg) = x1 → (vp_in x2_L2 120 ∧ wl_Mo_measure_2 v_t_pipes f_t_at x1 K_43 k_2 (x2_L2 + 1) (upd f_t_left_L2 x2_L2.toNatClampNeg 1)))))))
def wl_Mo_measure_53 (v_t_pipes : Int32) (f_t_kinds : (Nat → Int32)) (f_t_positions : (Nat → Int32)) (f_t_ends : (Nat → Int32)) (f_t_at : (Nat → Int32)) (f_t_ports : (Nat → Int32)) (f_t_bends : (Nat → Int32)) (K_136 : Int32 → Int32 → (Nat → Int32) → Prop) : Nat → Int32 → Int32 → (Nat → Int32) → Prop
  | 0, _, _, _ => False
  | k_53 + 1, x2_L53, x3_L53, f_t_left_L53 => (((2 * v_t_pipes) ≤ x3_L53 → K_136 x2_L53 x3_L53 f_t_left_L53) ∧ (¬ (2 * v_t_pipes) ≤ x3_L53 → (∃ n_66 : Nat, wl_Mo_measure_66 f_t_kinds f_t_positions f_t_ends f_t_at f_t_ports f_t_bends x3_L53 (wk_Mo_measure_130_66 x3_L53 (wl_Mo_measure_53 v_t_pipes f_t_kinds f_t_positions f_t_ends f_t_at f_t_ports f_t_bends K_136 k_53)) n_66 x2_L53 0 f_t_left_L53)))
def wl_Mo_measure_45 (v_t_pipes : Int32) (f_t_kinds : (Nat → Int32)) (f_t_positions : (Nat → Int32)) (f_t_ends : (Nat → Int32)) (f_t_at : (Nat → Int32)) (f_t_ports : (Nat → Int32)) (f_t_bends : (Nat → Int32)) (K_139 : Int32 → (Nat → Int32) → Prop) : Nat → Int32 → (Nat → Int32) → Prop
  | 0, _, _ => False
  | k_45 + 1, x2_L45, f_t_left_L45 => ((x2_L45 = 0 → K_139 x2_L45 f_t_left_L45) ∧ (¬ x2_L45 = 0 → (∃ n_53 : Nat, wl_Mo_measure_53 v_t_pipes f_t_kinds f_t_positions f_t_ends f_t_at f_t_ports f_t_bends (wk_Mo_measure_136_53 (wl_Mo_measure_45 v_t_pipes f_t_kinds f_t_positions f_t_ends f_t_at f_t_ports f_t_bends K_139 k_45)) n_53 0 0 f_t_left_L45)))
def wk_Mo_measure_43_2 (v_t_pipes : Int32) (f_t_kinds : (Nat → Int32)) (f_t_positions : (Nat → Int32)) (f_t_ends : (Nat → Int32)) (f_t_at : (Nat → Int32)) (f_t_ports : (Nat → Int32)) (f_t_bends : (Nat → Int32)) (P : (Nat → Int32) → Prop) (x2_L2 : Int32) (f_t_left_L2 : (Nat → Int32)) : Prop := (∃ n_45 : Nat, wl_Mo_measure_45 v_t_pipes f_t_kinds f_t_positions f_t_ends f_t_at f_t_ports f_t_bends (wk_Mo_measure_139_45 P) n_45 1 f_t_left_L2)
def wp_Mo_measure (v_t_pipes : Int32) (f_t_kinds : (Nat → Int32)) (f_t_positions : (Nat → Int32)) (f_t_ends : (Nat → Int32)) (f_t_at : (Nat → Int32)) (f_t_ports : (Nat → Int32)) (f_t_bends : (Nat → Int32)) (f_t_left : (Nat → Int32)) (x1 : Int32) (P : (Nat → Int32) → Prop) : Prop := (∃ n_2 : Nat, wl_Mo_measure_2 v_t_pipes f_t_at x1 (wk_Mo_measure_43_2 v_t_pipes f_t_kinds f_t_positions f_t_ends f_t_at f_t_ports f_t_bends P) n_2 0 f_t_left)
def w_Mo_measure : List Cond := .code y_Mo_measure b_Mo_measure 6 none :: tb
abbrev rm_Mo_measure : Room := { frames := 2, cells := 0, slots := 0, locals := 50 }
abbrev Q_Mo_measure (dC : Nat → ClassId) (dI : Nat → Nat → Nat) (cI cL cB : ClassId) (q_t : Nat) (a_t : Nat → Nat) (v_t_things : Int32) (v_t_pipes : Int32) (v_t_wide : Int32) (v_t_size : Int32) (v_t_place : Int32) (v_t_number : Int64) (v_t_thrown : Int32) (v_t_wish : Int32) (v_t_found : Int32) (f_t_kinds : (Nat → Int32)) (f_t_positions : (Nat → Int32)) (f_t_ends : (Nat → Int32)) (f_t_at : (Nat → Int32)) (f_t_ports : (Nat → Int32)) (f_t_bends : (Nat → Int32)) (f_t_left : (Nat → Int32)) (x1 : Int32) (P : (Nat → Int32) → Prop) (A : Nat → Prop) : Array Value → State → Outcome → State → Prop := va_Qv (fun (u : (Nat → Int32)) => P u) (fun u t => va_P (dC, dI) classes [(q_t, .inr (7, o_Mo a_t v_t_things v_t_pipes v_t_wide v_t_size v_t_place v_t_number v_t_thrown v_t_wish v_t_found)), ((a_t 1), .inl (cI, 40, .inl f_t_kinds)), ((a_t 6), .inl (cI, 40, .inl f_t_positions)), ((a_t 8), .inl (cI, 160, .inl f_t_ends)), ((a_t 12), .inl (cI, 120, .inl f_t_at)), ((a_t 13), .inl (cI, 120, .inl f_t_ports)), ((a_t 14), .inl (cI, 120, .inl f_t_bends)), ((a_t 15), .inl (cI, 120, .inl u))] t.heap ∧ va_K (dC, dI) classes [(cI, .int), (cL, .long), (cB, .byte)] t ∧ va_D A [(q_t, .inr (7, o_Mo a_t v_t_things v_t_pipes v_t_wide v_t_size v_t_place v_t_number v_t_thrown v_t_wish v_t_found)), ((a_t 1), .inl (cI, 40, .inl f_t_kinds)), ((a_t 6), .inl (cI, 40, .inl f_t_positions)), ((a_t 8), .inl (cI, 160, .inl f_t_ends)), ((a_t 12), .inl (cI, 120, .inl f_t_at)), ((a_t 13), .inl (cI, 120, .inl f_t_ports)), ((a_t 14), .inl (cI, 120, .inl f_t_bends)), ((a_t 15), .inl (cI, 120, .inl u))]) A
set_option maxHeartbeats 4000000 in
set_option maxRecDepth 100000 in
theorem c_Mo_measure (l : Launch) (dC : Nat → ClassId) (dI : Nat → Nat → Nat) (cI cL cB : ClassId) (q_t : Nat) (a_t : Nat → Nat) (sz : Nat) (v_t_things : Int32) (v_t_pipes : Int32) (v_t_wide : Int32) (v_t_size : Int32) (v_t_place : Int32) (v_t_number : Int64) (v_t_thrown : Int32) (v_t_wish : Int32) (v_t_found : Int32) (f_t_kinds : (Nat → Int32)) (f_t_positions : (Nat → Int32)) (f_t_ends : (Nat → Int32)) (f_t_at : (Nat → Int32)) (f_t_ports : (Nat → Int32)) (f_t_bends : (Nat → Int32)) (f_t_left : (Nat → Int32)) (x1 : Int32) (P : (Nat → Int32) → Prop) (hw : wp_Mo_measure v_t_pipes f_t_kinds f_t_positions f_t_ends f_t_at f_t_ports f_t_bends f_t_left x1 P) : Met l y_Mo_measure w_Mo_measure rm_Mo_measure (va_Pc [.ref q_t, .int x1] (fun U => U.heap.size = sz ∧ va_P (dC, dI) classes [(q_t, .inr (7, o_Mo a_t v_t_things v_t_pipes v_t_wide v_t_size v_t_place v_t_number v_t_thrown v_t_wish v_t_found)), ((a_t 1), .inl (cI, 40, .inl f_t_kinds)), ((a_t 6), .inl (cI, 40, .inl f_t_positions)), ((a_t 8), .inl (cI, 160, .inl f_t_ends)), ((a_t 12), .inl (cI, 120, .inl f_t_at)), ((a_t 13), .inl (cI, 120, .inl f_t_ports)), ((a_t 14), .inl (cI, 120, .inl f_t_bends)), ((a_t 15), .inl (cI, 120, .inl f_t_left))] U.heap ∧ va_K (dC, dI) classes [(cI, .int), (cL, .long), (cB, .byte)] U ∧ va_D (fun _ => True) [(q_t, .inr (7, o_Mo a_t v_t_things v_t_pipes v_t_wide v_t_size v_t_place v_t_number v_t_thrown v_t_wish v_t_found)), ((a_t 1), .inl (cI, 40, .inl f_t_kinds)), ((a_t 6), .inl (cI, 40, .inl f_t_positions)), ((a_t 8), .inl (cI, 160, .inl f_t_ends)), ((a_t 12), .inl (cI, 120, .inl f_t_at)), ((a_t 13), .inl (cI, 120, .inl f_t_ports)), ((a_t 14), .inl (cI, 120, .inl f_t_bends)), ((a_t 15), .inl (cI, 120, .inl f_t_left))])) (Q_Mo_measure dC dI cI cL cB q_t a_t v_t_things v_t_pipes v_t_wide v_t_size v_t_place v_t_number v_t_thrown v_t_wish v_t_found f_t_kinds f_t_positions f_t_ends f_t_at f_t_ports f_t_bends f_t_left x1 P (va_A [(q_t, .inr (7, o_Mo a_t v_t_things v_t_pipes v_t_wide v_t_size v_t_place v_t_number v_t_thrown v_t_wish v_t_found)), ((a_t 1), .inl (cI, 40, .inl f_t_kinds)), ((a_t 6), .inl (cI, 40, .inl f_t_positions)), ((a_t 8), .inl (cI, 160, .inl f_t_ends)), ((a_t 12), .inl (cI, 120, .inl f_t_at)), ((a_t 13), .inl (cI, 120, .inl f_t_ports)), ((a_t 14), .inl (cI, 120, .inl f_t_bends)), ((a_t 15), .inl (cI, 120, .inl f_t_left))] sz)) 0 0 (va_A [(q_t, .inr (7, o_Mo a_t v_t_things v_t_pipes v_t_wide v_t_size v_t_place v_t_number v_t_thrown v_t_wish v_t_found)), ((a_t 1), .inl (cI, 40, .inl f_t_kinds)), ((a_t 6), .inl (cI, 40, .inl f_t_positions)), ((a_t 8), .inl (cI, 160, .inl f_t_ends)), ((a_t 12), .inl (cI, 120, .inl f_t_at)), ((a_t 13), .inl (cI, 120, .inl f_t_ports)), ((a_t 14), .inl (cI, 120, .inl f_t_bends)), ((a_t 15), .inl (cI, 120, .inl f_t_left))] sz) := by
  refine Met.ofW (cc := b_Mo_measure) (maxL := 6) (ret := none) (by decide) rfl ?_
  intro p e s m args below meth c s₁ B hml hv
  obtain ⟨ha, hsz, hP, hK, hD0⟩ := hv
  have hx := B.exec
  have hb := B.bytes
  have hr := B.returns
  have hts0 := atoms_spec (ws := w_Mo_measure) B.pre
  have hts : ∀ w ∈ tb, w.before args s = true := fun w h => hts0 w (List.mem_cons_of_mem _ h)
  have hown : s.vm.findClass R_Mo = some m.cls := findClass_of_methodNamed B.named
  have hlocks := B.notSynchronized
  subst hsz
  have hD := hD0.self (sz := s.heap.size)
  generalize hAe : va_A [(q_t, .inr (7, o_Mo a_t v_t_things v_t_pipes v_t_wide v_t_size v_t_place v_t_number v_t_thrown v_t_wish v_t_found)), ((a_t 1), .inl (cI, 40, .inl f_t_kinds)), ((a_t 6), .inl (cI, 40, .inl f_t_positions)), ((a_t 8), .inl (cI, 160, .inl f_t_ends)), ((a_t 12), .inl (cI, 120, .inl f_t_at)), ((a_t 13), .inl (cI, 120, .inl f_t_ports)), ((a_t 14), .inl (cI, 120, .inl f_t_bends)), ((a_t 15), .inl (cI, 120, .inl f_t_left))] s.heap.size = A at hD ⊢
  have hA : ∀ q : Nat, s.heap.size ≤ q → A q := fun q h => by rw [← hAe]; exact Or.inr h
  have hS : va_S A s.heap s.heap [] := va_S.rf
  have hP : va_P (dC, dI) classes [(q_t, .inr (7, o_Mo a_t v_t_things v_t_pipes v_t_wide v_t_size v_t_place v_t_number v_t_thrown v_t_wish v_t_found)), ((a_t 1), .inl (cI, 40, .inl f_t_kinds)), ((a_t 6), .inl (cI, 40, .inl f_t_positions)), ((a_t 8), .inl (cI, 160, .inl f_t_ends)), ((a_t 12), .inl (cI, 120, .inl f_t_at)), ((a_t 13), .inl (cI, 120, .inl f_t_ports)), ((a_t 14), .inl (cI, 120, .inl f_t_bends)), ((a_t 15), .inl (cI, 120, .inl f_t_left))] s.heap := hP
  have hl := lv_entry [.ref q_t, .int x1] (n := 6) (Nat.le_of_ble_eq_true rfl)
  have he9 : entryFrame m args 6 = F0 m 0 ((lg_sl [.ref q_t, .int x1] ++ List.replicate (6 - (lg_sl [.ref q_t, .int x1]).length) Slot.unset).toArray) [] := by rw [ha]; exact lg_entry_eq _ _ _
  rw [he9]
  clear he9
  generalize (lg_sl [.ref q_t, .int x1] ++ List.replicate (6 - (lg_sl [.ref q_t, .int x1]).length) Slot.unset).toArray = ls at hl ⊢
  have hl : lv_has ls 6 [(0, .ref q_t), (1, .int x1)] := hl
  unfold wp_Mo_measure at hw
  refine lv_iconst (v := 0) hx hb d_Mo_measure_0 (by decide) ?_
  refine lv_istore_n (lv' := [(2, .int 0), (0, .ref q_t), (1, .int x1)]) hx hb d_Mo_measure_1 rfl hl (by decide) rfl (fun ls hl => ?_)
  obtain ⟨n_2, hw⟩ := hw
  have EX_43 : ∀ (x2_L2 : Int32) (f_t_left_L2 : (Nat → Int32)) (H : Heap) (locs : List Loc) (ls : Array Slot), va_P (dC, dI) classes [(q_t, .inr (7, o_Mo a_t v_t_things v_t_pipes v_t_wide v_t_size v_t_place v_t_number v_t_thrown v_t_wish v_t_found)), ((a_t 1), .inl (cI, 40, .inl f_t_kinds)), ((a_t 6), .inl (cI, 40, .inl f_t_positions)), ((a_t 8), .inl (cI, 160, .inl f_t_ends)), ((a_t 12), .inl (cI, 120, .inl f_t_at)), ((a_t 13), .inl (cI, 120, .inl f_t_ports)), ((a_t 14), .inl (cI, 120, .inl f_t_bends)), ((a_t 15), .inl (cI, 120, .inl f_t_left_L2))] H → va_D A [(q_t, .inr (7, o_Mo a_t v_t_things v_t_pipes v_t_wide v_t_size v_t_place v_t_number v_t_thrown v_t_wish v_t_found)), ((a_t 1), .inl (cI, 40, .inl f_t_kinds)), ((a_t 6), .inl (cI, 40, .inl f_t_positions)), ((a_t 8), .inl (cI, 160, .inl f_t_ends)), ((a_t 12), .inl (cI, 120, .inl f_t_at)), ((a_t 13), .inl (cI, 120, .inl f_t_ports)), ((a_t 14), .inl (cI, 120, .inl f_t_bends)), ((a_t 15), .inl (cI, 120, .inl f_t_left_L2))] → va_S A s.heap H locs → lv_has ls 6 [(0, .ref q_t), (1, .int x1), (2, .int x2_L2)] → wk_Mo_measure_43_2 v_t_pipes f_t_kinds f_t_positions f_t_ends f_t_at f_t_ports f_t_bends P x2_L2 f_t_left_L2 → W p l e (headSpec w_Mo_measure rm_Mo_measure).room s m args below meth c H locs 0 0 (MQ below (Q_Mo_measure dC dI cI cL cB q_t a_t v_t_things v_t_pipes v_t_wide v_t_size v_t_place v_t_number v_t_thrown v_t_wish v_t_found f_t_kinds f_t_positions f_t_ends f_t_at f_t_ports f_t_bends f_t_left x1 P A) args s 0 0 A) (F0 m 43 ls []) := by
    intro x2_L2 f_t_left_L2 H locs ls hP hD hS hl hw
    unfold wk_Mo_measure_43_2 at hw
    refine lv_iconst (v := 1) hx hb d_Mo_measure_43 (by decide) ?_
    refine lv_istore_n (lv' := [(2, .int 1), (0, .ref q_t), (1, .int x1)]) hx hb d_Mo_measure_44 rfl hl (by decide) rfl (fun ls hl => ?_)
    obtain ⟨n_45, hw⟩ := hw
    have EX_139 : ∀ (x2_L45 : Int32) (f_t_left_L45 : (Nat → Int32)) (H : Heap) (locs : List Loc) (ls : Array Slot), va_P (dC, dI) classes [(q_t, .inr (7, o_Mo a_t v_t_things v_t_pipes v_t_wide v_t_size v_t_place v_t_number v_t_thrown v_t_wish v_t_found)), ((a_t 1), .inl (cI, 40, .inl f_t_kinds)), ((a_t 6), .inl (cI, 40, .inl f_t_positions)), ((a_t 8), .inl (cI, 160, .inl f_t_ends)), ((a_t 12), .inl (cI, 120, .inl f_t_at)), ((a_t 13), .inl (cI, 120, .inl f_t_ports)), ((a_t 14), .inl (cI, 120, .inl f_t_bends)), ((a_t 15), .inl (cI, 120, .inl f_t_left_L45))] H → va_D A [(q_t, .inr (7, o_Mo a_t v_t_things v_t_pipes v_t_wide v_t_size v_t_place v_t_number v_t_thrown v_t_wish v_t_found)), ((a_t 1), .inl (cI, 40, .inl f_t_kinds)), ((a_t 6), .inl (cI, 40, .inl f_t_positions)), ((a_t 8), .inl (cI, 160, .inl f_t_ends)), ((a_t 12), .inl (cI, 120, .inl f_t_at)), ((a_t 13), .inl (cI, 120, .inl f_t_ports)), ((a_t 14), .inl (cI, 120, .inl f_t_bends)), ((a_t 15), .inl (cI, 120, .inl f_t_left_L45))] → va_S A s.heap H locs → lv_has ls 6 [(0, .ref q_t), (2, .int x2_L45)] → wk_Mo_measure_139_45 P x2_L45 f_t_left_L45 → W p l e (headSpec w_Mo_measure rm_Mo_measure).room s m args below meth c H locs 0 0 (MQ below (Q_Mo_measure dC dI cI cL cB q_t a_t v_t_things v_t_pipes v_t_wide v_t_size v_t_place v_t_number v_t_thrown v_t_wish v_t_found f_t_kinds f_t_positions f_t_ends f_t_at f_t_ports f_t_bends f_t_left x1 P A) args s 0 0 A) (F0 m 139 ls []) := by
      intro x2_L45 f_t_left_L45 H locs ls hP hD hS hl hw
      unfold wk_Mo_measure_139_45 at hw
      exact W.vret hx hb hr (fun t ht hW => ⟨⟨f_t_left_L45, rfl, hw, by rw [ht]; exact hP, va_K.moved hW.alike hK, hD⟩, hS.F ht⟩) hS.2.2 d_Mo_measure_139
    have LP_45 : ∀ (k_45 : Nat) (x2_L45 : Int32) (f_t_left_L45 : (Nat → Int32)) (H : Heap) (locs : List Loc) (ls : Array Slot), va_P (dC, dI) classes [(q_t, .inr (7, o_Mo a_t v_t_things v_t_pipes v_t_wide v_t_size v_t_place v_t_number v_t_thrown v_t_wish v_t_found)), ((a_t 1), .inl (cI, 40, .inl f_t_kinds)), ((a_t 6), .inl (cI, 40, .inl f_t_positions)), ((a_t 8), .inl (cI, 160, .inl f_t_ends)), ((a_t 12), .inl (cI, 120, .inl f_t_at)), ((a_t 13), .inl (cI, 120, .inl f_t_ports)), ((a_t 14), .inl (cI, 120, .inl f_t_bends)), ((a_t 15), .inl (cI, 120, .inl f_t_left_L45))] H → va_D A [(q_t, .inr (7, o_Mo a_t v_t_things v_t_pipes v_t_wide v_t_size v_t_place v_t_number v_t_thrown v_t_wish v_t_found)), ((a_t 1), .inl (cI, 40, .inl f_t_kinds)), ((a_t 6), .inl (cI, 40, .inl f_t_positions)), ((a_t 8), .inl (cI, 160, .inl f_t_ends)), ((a_t 12), .inl (cI, 120, .inl f_t_at)), ((a_t 13), .inl (cI, 120, .inl f_t_ports)), ((a_t 14), .inl (cI, 120, .inl f_t_bends)), ((a_t 15), .inl (cI, 120, .inl f_t_left_L45))] → va_S A s.heap H locs → lv_has ls 6 [(0, .ref q_t), (2, .int x2_L45)] → wl_Mo_measure_45 v_t_pipes f_t_kinds f_t_positions f_t_ends f_t_at f_t_ports f_t_bends (wk_Mo_measure_139_45 P) k_45 x2_L45 f_t_left_L45 → W p l e (headSpec w_Mo_measure rm_Mo_measure).room s m args below meth c H locs 0 0 (MQ below (Q_Mo_measure dC dI cI cL cB q_t a_t v_t_things v_t_pipes v_t_wide v_t_size v_t_place v_t_number v_t_thrown v_t_wish v_t_found f_t_kinds f_t_positions f_t_ends f_t_at f_t_ports f_t_bends f_t_left x1 P A) args s 0 0 A) (F0 m 45 ls []) := by
      intro k_45
      induction k_45 with
      | zero => intro x2_L45 f_t_left_L45 H locs ls hP hD hS hl hw; unfold wl_Mo_measure_45 at hw; exact hw.elim
      | succ k_45 ih_45 =>
        intro x2_L45 f_t_left_L45 H locs ls hP hD hS hl hw
        unfold wl_Mo_measure_45 at hw
        refine lv_iload_n hx hb d_Mo_measure_45 rfl (lv_at hl 1 rfl) ?_
        refine lv_if_eq (tgt := 139) hx hb d_Mo_measure_46 (by decide) (fun c46 => ?_) (fun c46 => ?_)
        · replace hw := hw.1 c46
          exact EX_139 x2_L45 f_t_left_L45 H _ _ hP hD hS (lv_sub hl [0, 1] rfl) hw
        · replace hw := hw.2 c46
          refine lv_iconst (v := 0) hx hb d_Mo_measure_49 (by decide) ?_
          refine lv_istore_n (lv' := [(2, .int 0), (0, .ref q_t)]) hx hb d_Mo_measure_50 rfl hl (by decide) rfl (fun ls hl => ?_)
          refine lv_iconst (v := 0) hx hb d_Mo_measure_51 (by decide) ?_
          refine lv_istore_n (lv' := [(3, .int 0), (2, .int 0), (0, .ref q_t)]) hx hb d_Mo_measure_52 rfl hl (by decide) rfl (fun ls hl => ?_)
          obtain ⟨n_53, hw⟩ := hw
          have EX_136 : ∀ (x2_L53 : Int32) (x3_L53 : Int32) (f_t_left_L53 : (Nat → Int32)) (H : Heap) (locs : List Loc) (ls : Array Slot), va_P (dC, dI) classes [(q_t, .inr (7, o_Mo a_t v_t_things v_t_pipes v_t_wide v_t_size v_t_place v_t_number v_t_thrown v_t_wish v_t_found)), ((a_t 1), .inl (cI, 40, .inl f_t_kinds)), ((a_t 6), .inl (cI, 40, .inl f_t_positions)), ((a_t 8), .inl (cI, 160, .inl f_t_ends)), ((a_t 12), .inl (cI, 120, .inl f_t_at)), ((a_t 13), .inl (cI, 120, .inl f_t_ports)), ((a_t 14), .inl (cI, 120, .inl f_t_bends)), ((a_t 15), .inl (cI, 120, .inl f_t_left_L53))] H → va_D A [(q_t, .inr (7, o_Mo a_t v_t_things v_t_pipes v_t_wide v_t_size v_t_place v_t_number v_t_thrown v_t_wish v_t_found)), ((a_t 1), .inl (cI, 40, .inl f_t_kinds)), ((a_t 6), .inl (cI, 40, .inl f_t_positions)), ((a_t 8), .inl (cI, 160, .inl f_t_ends)), ((a_t 12), .inl (cI, 120, .inl f_t_at)), ((a_t 13), .inl (cI, 120, .inl f_t_ports)), ((a_t 14), .inl (cI, 120, .inl f_t_bends)), ((a_t 15), .inl (cI, 120, .inl f_t_left_L53))] → va_S A s.heap H locs → lv_has ls 6 [(0, .ref q_t), (2, .int x2_L53), (3, .int x3_L53)] → wk_Mo_measure_136_53 (wl_Mo_measure_45 v_t_pipes f_t_kinds f_t_positions f_t_ends f_t_at f_t_ports f_t_bends (wk_Mo_measure_139_45 P) k_45) x2_L53 x3_L53 f_t_left_L53 → W p l e (headSpec w_Mo_measure rm_Mo_measure).room s m args below meth c H locs 0 0 (MQ below (Q_Mo_measure dC dI cI cL cB q_t a_t v_t_things v_t_pipes v_t_wide v_t_size v_t_place v_t_number v_t_thrown v_t_wish v_t_found f_t_kinds f_t_positions f_t_ends f_t_at f_t_ports f_t_bends f_t_left x1 P A) args s 0 0 A) (F0 m 136 ls []) := by
            intro x2_L53 x3_L53 f_t_left_L53 H locs ls hP hD hS hl hw
            unfold wk_Mo_measure_136_53 at hw
            refine lv_goto (tgt := 45) hx hb d_Mo_measure_136 (by decide) ?_
            exact ih_45 x2_L53 f_t_left_L53 H _ _ hP hD hS (lv_sub hl [0, 1] rfl) hw
          have LP_53 : ∀ (k_53 : Nat) (x2_L53 : Int32) (x3_L53 : Int32) (f_t_left_L53 : (Nat → Int32)) (H : Heap) (locs : List Loc) (ls : Array Slot), va_P (dC, dI) classes [(q_t, .inr (7, o_Mo a_t v_t_things v_t_pipes v_t_wide v_t_size v_t_place v_t_number v_t_thrown v_t_wish v_t_found)), ((a_t 1), .inl (cI, 40, .inl f_t_kinds)), ((a_t 6), .inl (cI, 40, .inl f_t_positions)), ((a_t 8), .inl (cI, 160, .inl f_t_ends)), ((a_t 12), .inl (cI, 120, .inl f_t_at)), ((a_t 13), .inl (cI, 120, .inl f_t_ports)), ((a_t 14), .inl (cI, 120, .inl f_t_bends)), ((a_t 15), .inl (cI, 120, .inl f_t_left_L53))] H → va_D A [(q_t, .inr (7, o_Mo a_t v_t_things v_t_pipes v_t_wide v_t_size v_t_place v_t_number v_t_thrown v_t_wish v_t_found)), ((a_t 1), .inl (cI, 40, .inl f_t_kinds)), ((a_t 6), .inl (cI, 40, .inl f_t_positions)), ((a_t 8), .inl (cI, 160, .inl f_t_ends)), ((a_t 12), .inl (cI, 120, .inl f_t_at)), ((a_t 13), .inl (cI, 120, .inl f_t_ports)), ((a_t 14), .inl (cI, 120, .inl f_t_bends)), ((a_t 15), .inl (cI, 120, .inl f_t_left_L53))] → va_S A s.heap H locs → lv_has ls 6 [(0, .ref q_t), (2, .int x2_L53), (3, .int x3_L53)] → wl_Mo_measure_53 v_t_pipes f_t_kinds f_t_positions f_t_ends f_t_at f_t_ports f_t_bends (wk_Mo_measure_136_53 (wl_Mo_measure_45 v_t_pipes f_t_kinds f_t_positions f_t_ends f_t_at f_t_ports f_t_bends (wk_Mo_measure_139_45 P) k_45)) k_53 x2_L53 x3_L53 f_t_left_L53 → W p l e (headSpec w_Mo_measure rm_Mo_measure).room s m args below meth c H locs 0 0 (MQ below (Q_Mo_measure dC dI cI cL cB q_t a_t v_t_things v_t_pipes v_t_wide v_t_size v_t_place v_t_number v_t_thrown v_t_wish v_t_found f_t_kinds f_t_positions f_t_ends f_t_at f_t_ports f_t_bends f_t_left x1 P A) args s 0 0 A) (F0 m 53 ls []) := by
            intro k_53
            induction k_53 with
            | zero => intro x2_L53 x3_L53 f_t_left_L53 H locs ls hP hD hS hl hw; unfold wl_Mo_measure_53 at hw; exact hw.elim
            | succ k_53 ih_53 =>
              intro x2_L53 x3_L53 f_t_left_L53 H locs ls hP hD hS hl hw
              unfold wl_Mo_measure_53 at hw
              refine lv_iload_n hx hb d_Mo_measure_53 rfl (lv_at hl 2 rfl) ?_
              refine lv_iconst (v := 2) hx hb d_Mo_measure_54 (by decide) ?_
              refine lv_aload_n hx hb d_Mo_measure_55 rfl (lv_at hl 0 rfl) ?_
              refine va_get (D := (dC, dI)) (ci := 7) (v := .int v_t_pipes) (C := R_Mo) (T := F_Mo) (N := 29) hx hb hts i_Mo hown hK hP 0 rfl rfl 9 (by decide) (hts (Cond.fieldLink R_Mo 98 "PlantGraphModel" "pipes" "I") kw31_189c50d) (fun _ h9 => h9) rfl d_Mo_measure_56 ?_
              refine lv_imul hx hb d_Mo_measure_59 ?_
              refine lv_icmp_ge (tgt := 136) hx hb d_Mo_measure_60 (by decide) (fun c60 => ?_) (fun c60 => ?_)
              · replace hw := hw.1 c60
                exact EX_136 x2_L53 x3_L53 f_t_left_L53 H _ _ hP hD hS (lv_sub hl [0, 1, 2] rfl) hw
              · replace hw := hw.2 c60
                refine lv_iconst (v := 0) hx hb d_Mo_measure_63 (by decide) ?_
                refine lv_istore (lv' := [(4, .int 0), (0, .ref q_t), (2, .int x2_L53), (3, .int x3_L53)]) hx hb d_Mo_measure_64 hl (by decide) rfl (fun ls hl => ?_)
                obtain ⟨n_66, hw⟩ := hw
                have EX_130 : ∀ (x2_L66 : Int32) (x4_L66 : Int32) (f_t_left_L66 : (Nat → Int32)) (H : Heap) (locs : List Loc) (ls : Array Slot), va_P (dC, dI) classes [(q_t, .inr (7, o_Mo a_t v_t_things v_t_pipes v_t_wide v_t_size v_t_place v_t_number v_t_thrown v_t_wish v_t_found)), ((a_t 1), .inl (cI, 40, .inl f_t_kinds)), ((a_t 6), .inl (cI, 40, .inl f_t_positions)), ((a_t 8), .inl (cI, 160, .inl f_t_ends)), ((a_t 12), .inl (cI, 120, .inl f_t_at)), ((a_t 13), .inl (cI, 120, .inl f_t_ports)), ((a_t 14), .inl (cI, 120, .inl f_t_bends)), ((a_t 15), .inl (cI, 120, .inl f_t_left_L66))] H → va_D A [(q_t, .inr (7, o_Mo a_t v_t_things v_t_pipes v_t_wide v_t_size v_t_place v_t_number v_t_thrown v_t_wish v_t_found)), ((a_t 1), .inl (cI, 40, .inl f_t_kinds)), ((a_t 6), .inl (cI, 40, .inl f_t_positions)), ((a_t 8), .inl (cI, 160, .inl f_t_ends)), ((a_t 12), .inl (cI, 120, .inl f_t_at)), ((a_t 13), .inl (cI, 120, .inl f_t_ports)), ((a_t 14), .inl (cI, 120, .inl f_t_bends)), ((a_t 15), .inl (cI, 120, .inl f_t_left_L66))] → va_S A s.heap H locs → lv_has ls 6 [(0, .ref q_t), (2, .int x2_L66), (3, .int x3_L53), (4, .int x4_L66)] → wk_Mo_measure_130_66 x3_L53 (wl_Mo_measure_53 v_t_pipes f_t_kinds f_t_positions f_t_ends f_t_at f_t_ports f_t_bends (wk_Mo_measure_136_53 (wl_Mo_measure_45 v_t_pipes f_t_kinds f_t_positions f_t_ends f_t_at f_t_ports f_t_bends (wk_Mo_measure_139_45 P) k_45)) k_53) x2_L66 x4_L66 f_t_left_L66 → W p l e (headSpec w_Mo_measure rm_Mo_measure).room s m args below meth c H locs 0 0 (MQ below (Q_Mo_measure dC dI cI cL cB q_t a_t v_t_things v_t_pipes v_t_wide v_t_size v_t_place v_t_number v_t_thrown v_t_wish v_t_found f_t_kinds f_t_positions f_t_ends f_t_at f_t_ports f_t_bends f_t_left x1 P A) args s 0 0 A) (F0 m 130 ls []) := by
                  intro x2_L66 x4_L66 f_t_left_L66 H locs ls hP hD hS hl hw
                  unfold wk_Mo_measure_130_66 at hw
                  refine lv_iinc (v := (x3_L53 + 1)) (lv' := [(3, .int (x3_L53 + 1)), (0, .ref q_t), (2, .int x2_L66), (4, .int x4_L66)]) hx hb d_Mo_measure_130 hl (k := 2) rfl rfl (by decide) rfl (fun ls hl => ?_)
                  refine lv_goto (tgt := 53) hx hb d_Mo_measure_133 (by decide) ?_
                  exact ih_53 x2_L66 (x3_L53 + 1) f_t_left_L66 H _ _ hP hD hS (lv_sub hl [1, 2, 0] rfl) hw
                have LP_66 : ∀ (k_66 : Nat) (x2_L66 : Int32) (x4_L66 : Int32) (f_t_left_L66 : (Nat → Int32)) (H : Heap) (locs : List Loc) (ls : Array Slot), va_P (dC, dI) classes [(q_t, .inr (7, o_Mo a_t v_t_things v_t_pipes v_t_wide v_t_size v_t_place v_t_number v_t_thrown v_t_wish v_t_found)), ((a_t 1), .inl (cI, 40, .inl f_t_kinds)), ((a_t 6), .inl (cI, 40, .inl f_t_positions)), ((a_t 8), .inl (cI, 160, .inl f_t_ends)), ((a_t 12), .inl (cI, 120, .inl f_t_at)), ((a_t 13), .inl (cI, 120, .inl f_t_ports)), ((a_t 14), .inl (cI, 120, .inl f_t_bends)), ((a_t 15), .inl (cI, 120, .inl f_t_left_L66))] H → va_D A [(q_t, .inr (7, o_Mo a_t v_t_things v_t_pipes v_t_wide v_t_size v_t_place v_t_number v_t_thrown v_t_wish v_t_found)), ((a_t 1), .inl (cI, 40, .inl f_t_kinds)), ((a_t 6), .inl (cI, 40, .inl f_t_positions)), ((a_t 8), .inl (cI, 160, .inl f_t_ends)), ((a_t 12), .inl (cI, 120, .inl f_t_at)), ((a_t 13), .inl (cI, 120, .inl f_t_ports)), ((a_t 14), .inl (cI, 120, .inl f_t_bends)), ((a_t 15), .inl (cI, 120, .inl f_t_left_L66))] → va_S A s.heap H locs → lv_has ls 6 [(0, .ref q_t), (2, .int x2_L66), (3, .int x3_L53), (4, .int x4_L66)] → wl_Mo_measure_66 f_t_kinds f_t_positions f_t_ends f_t_at f_t_ports f_t_bends x3_L53 (wk_Mo_measure_130_66 x3_L53 (wl_Mo_measure_53 v_t_pipes f_t_kinds f_t_positions f_t_ends f_t_at f_t_ports f_t_bends (wk_Mo_measure_136_53 (wl_Mo_measure_45 v_t_pipes f_t_kinds f_t_positions f_t_ends f_t_at f_t_ports f_t_bends (wk_Mo_measure_139_45 P) k_45)) k_53)) k_66 x2_L66 x4_L66 f_t_left_L66 → W p l e (headSpec w_Mo_measure rm_Mo_measure).room s m args below meth c H locs 0 0 (MQ below (Q_Mo_measure dC dI cI cL cB q_t a_t v_t_things v_t_pipes v_t_wide v_t_size v_t_place v_t_number v_t_thrown v_t_wish v_t_found f_t_kinds f_t_positions f_t_ends f_t_at f_t_ports f_t_bends f_t_left x1 P A) args s 0 0 A) (F0 m 66 ls []) := by
                  intro k_66
                  induction k_66 with
                  | zero => intro x2_L66 x4_L66 f_t_left_L66 H locs ls hP hD hS hl hw; unfold wl_Mo_measure_66 at hw; exact hw.elim
                  | succ k_66 ih_66 =>
                    intro x2_L66 x4_L66 f_t_left_L66 H locs ls hP hD hS hl hw
                    unfold wl_Mo_measure_66 at hw
                    refine lv_iload hx hb d_Mo_measure_66 (lv_at hl 3 rfl) ?_
                    refine lv_iconst (v := 4) hx hb d_Mo_measure_68 (by decide) ?_
                    refine lv_icmp_ge (tgt := 130) hx hb d_Mo_measure_69 (by decide) (fun c69 => ?_) (fun c69 => ?_)
                    · replace hw := hw.1 c69
                      exact EX_130 x2_L66 x4_L66 f_t_left_L66 H _ _ hP hD hS (lv_sub hl [0, 1, 2, 3] rfl) hw
                    · replace hw := hw.2 c69
                      refine lv_aload_n hx hb d_Mo_measure_72 rfl (lv_at hl 0 rfl) ?_
                      refine lv_iload_n hx hb d_Mo_measure_73 rfl (lv_at hl 2 rfl) ?_
                      refine lv_iconst (v := 1) hx hb d_Mo_measure_74 (by decide) ?_
                      refine lv_ixor hx hb d_Mo_measure_75 ?_
                      refine lv_iload hx hb d_Mo_measure_76 (lv_at hl 3 rfl) ?_
                      have hPc := hP.sub (ws' := [(q_t, .inr (7, o_Mo a_t v_t_things v_t_pipes v_t_wide v_t_size v_t_place v_t_number v_t_thrown v_t_wish v_t_found)), ((a_t 1), .inl (cI, 40, .inl f_t_kinds)), ((a_t 6), .inl (cI, 40, .inl f_t_positions)), ((a_t 8), .inl (cI, 160, .inl f_t_ends)), ((a_t 12), .inl (cI, 120, .inl f_t_at)), ((a_t 13), .inl (cI, 120, .inl f_t_ports)), ((a_t 14), .inl (cI, 120, .inl f_t_bends))]) [0, 1, 2, 3, 4, 5, 6] rfl
                      have hDc := hD.sub (ws' := [(q_t, .inr (7, o_Mo a_t v_t_things v_t_pipes v_t_wide v_t_size v_t_place v_t_number v_t_thrown v_t_wish v_t_found)), ((a_t 1), .inl (cI, 40, .inl f_t_kinds)), ((a_t 6), .inl (cI, 40, .inl f_t_positions)), ((a_t 8), .inl (cI, 160, .inl f_t_ends)), ((a_t 12), .inl (cI, 120, .inl f_t_at)), ((a_t 13), .inl (cI, 120, .inl f_t_ports)), ((a_t 14), .inl (cI, 120, .inl f_t_bends))]) [0, 1, 2, 3, 4, 5, 6] (by decide) rfl
                      have hFc := va_free (wc := [(q_t, .inr (7, o_Mo a_t v_t_things v_t_pipes v_t_wide v_t_size v_t_place v_t_number v_t_thrown v_t_wish v_t_found)), ((a_t 1), .inl (cI, 40, .inl f_t_kinds)), ((a_t 6), .inl (cI, 40, .inl f_t_positions)), ((a_t 8), .inl (cI, 160, .inl f_t_ends)), ((a_t 12), .inl (cI, 120, .inl f_t_at)), ((a_t 13), .inl (cI, 120, .inl f_t_ports)), ((a_t 14), .inl (cI, 120, .inl f_t_bends))]) hD hS hA [0, 1, 2, 3, 4, 5, 6] rfl
                      refine va_calli (va_runV (As := [.int (x3_L53 ^^^ 1), .int x4_L66]) (rest := []) ⟨hx, hb, hml, hown, hts⟩ (c_Mo_next l dC dI cI cL cB q_t a_t H.size v_t_things v_t_pipes v_t_wide v_t_size v_t_place v_t_number v_t_thrown v_t_wish v_t_found f_t_kinds f_t_positions f_t_ends f_t_at f_t_ports f_t_bends (x3_L53 ^^^ 1) x4_L66 _ hw) (my_cwV 2 hts kw31_902981b kw31_0ab0422 kw31_57eddd2 kw31_7a5931c kw31_1a7ebc2 rfl rfl (by decide +kernel) ⟨Nat.le_of_ble_eq_true rfl, Nat.le_of_ble_eq_true rfl⟩) ⟨fun a U g mk q => by obtain ⟨q0, q1, qP, qK, qD⟩ := q; exact ⟨q0, q1, qP, va_K.moved (u := U) (U := U.calling g mk a) (Vm.Alike.refl U.vm) qK, qD⟩, va_recv hK hP (ci := 7) (q0 := 0) rfl rfl, fun U hU hW => ⟨rfl, by rw [hU], by rw [hU]; exact hPc, va_K.moved hW.alike hK, hDc.weaken (fun _ _ _ _ => trivial)⟩⟩ rfl rfl hl.1 rfl (lv_room (Nat.le_of_ble_eq_true rfl)) d_Mo_measure_78 ⟨Nat.zero_le _, Nat.zero_le _⟩) hS (fun q _ h => hFc q h) hFc (fun r78 u t H locs ht hvm hw hB hz1 hk1 hS => ?_)
                      obtain ⟨hP1, hK1, hD1⟩ := hB
                      rw [ht] at hP1
                      obtain ⟨hP, hD⟩ := va_join (wr := [((a_t 15), .inl (cI, 120, .inl f_t_left_L66))]) (w1 := [(q_t, .inr (7, o_Mo a_t v_t_things v_t_pipes v_t_wide v_t_size v_t_place v_t_number v_t_thrown v_t_wish v_t_found)), ((a_t 1), .inl (cI, 40, .inl f_t_kinds)), ((a_t 6), .inl (cI, 40, .inl f_t_positions)), ((a_t 8), .inl (cI, 160, .inl f_t_ends)), ((a_t 12), .inl (cI, 120, .inl f_t_at)), ((a_t 13), .inl (cI, 120, .inl f_t_ports)), ((a_t 14), .inl (cI, 120, .inl f_t_bends))]) hP hD [0, 1, 2, 3, 4, 5, 6] [7] rfl rfl (by decide) (by decide) hk1 hFc hP1 hD1
                      have hP : va_P (dC, dI) classes [(q_t, .inr (7, o_Mo a_t v_t_things v_t_pipes v_t_wide v_t_size v_t_place v_t_number v_t_thrown v_t_wish v_t_found)), ((a_t 1), .inl (cI, 40, .inl f_t_kinds)), ((a_t 6), .inl (cI, 40, .inl f_t_positions)), ((a_t 8), .inl (cI, 160, .inl f_t_ends)), ((a_t 12), .inl (cI, 120, .inl f_t_at)), ((a_t 13), .inl (cI, 120, .inl f_t_ports)), ((a_t 14), .inl (cI, 120, .inl f_t_bends)), ((a_t 15), .inl (cI, 120, .inl f_t_left_L66))] H := hP.sub (ws' := [(q_t, .inr (7, o_Mo a_t v_t_things v_t_pipes v_t_wide v_t_size v_t_place v_t_number v_t_thrown v_t_wish v_t_found)), ((a_t 1), .inl (cI, 40, .inl f_t_kinds)), ((a_t 6), .inl (cI, 40, .inl f_t_positions)), ((a_t 8), .inl (cI, 160, .inl f_t_ends)), ((a_t 12), .inl (cI, 120, .inl f_t_at)), ((a_t 13), .inl (cI, 120, .inl f_t_ports)), ((a_t 14), .inl (cI, 120, .inl f_t_bends)), ((a_t 15), .inl (cI, 120, .inl f_t_left_L66))]) [1, 2, 3, 4, 5, 6, 7, 0] rfl
                      have hD : va_D A [(q_t, .inr (7, o_Mo a_t v_t_things v_t_pipes v_t_wide v_t_size v_t_place v_t_number v_t_thrown v_t_wish v_t_found)), ((a_t 1), .inl (cI, 40, .inl f_t_kinds)), ((a_t 6), .inl (cI, 40, .inl f_t_positions)), ((a_t 8), .inl (cI, 160, .inl f_t_ends)), ((a_t 12), .inl (cI, 120, .inl f_t_at)), ((a_t 13), .inl (cI, 120, .inl f_t_ports)), ((a_t 14), .inl (cI, 120, .inl f_t_bends)), ((a_t 15), .inl (cI, 120, .inl f_t_left_L66))] := hD.sub (ws' := [(q_t, .inr (7, o_Mo a_t v_t_things v_t_pipes v_t_wide v_t_size v_t_place v_t_number v_t_thrown v_t_wish v_t_found)), ((a_t 1), .inl (cI, 40, .inl f_t_kinds)), ((a_t 6), .inl (cI, 40, .inl f_t_positions)), ((a_t 8), .inl (cI, 160, .inl f_t_ends)), ((a_t 12), .inl (cI, 120, .inl f_t_at)), ((a_t 13), .inl (cI, 120, .inl f_t_ports)), ((a_t 14), .inl (cI, 120, .inl f_t_bends)), ((a_t 15), .inl (cI, 120, .inl f_t_left_L66))]) [1, 2, 3, 4, 5, 6, 7, 0] (by decide) rfl
                      refine lv_istore (lv' := [(5, .int r78), (0, .ref q_t), (2, .int x2_L66), (3, .int x3_L53), (4, .int x4_L66)]) hx hb d_Mo_measure_81 hl (by decide) rfl (fun ls hl => ?_)
                      refine lv_iload hx hb d_Mo_measure_83 (lv_at hl 0 rfl) ?_
                      refine lv_iconst (v := (-1)) hx hb d_Mo_measure_85 (by decide) ?_
                      refine lv_icmp_eq (tgt := 124) hx hb d_Mo_measure_86 (by decide) (fun c86 => ?_) (fun c86 => ?_)
                      · replace hw := hw.1 c86
                        refine lv_iinc (v := (x4_L66 + 1)) (lv' := [(4, .int (x4_L66 + 1)), (5, .int r78), (0, .ref q_t), (2, .int x2_L66), (3, .int x3_L53)]) hx hb d_Mo_measure_124 hl (k := 4) rfl rfl (by decide) rfl (fun ls hl => ?_)
                        refine lv_goto (tgt := 66) hx hb d_Mo_measure_127 (by decide) ?_
                        exact ih_66 x2_L66 (x4_L66 + 1) f_t_left_L66 H _ _ hP hD hS (lv_sub hl [2, 3, 4, 0] rfl) hw
                      · replace hw := hw.2 c86
                        refine lv_aload_n hx hb d_Mo_measure_89 rfl (lv_at hl 1 rfl) ?_
                        refine va_get (D := (dC, dI)) (ci := 7) (v := .ref (a_t 15)) (C := R_Mo) (T := F_Mo) (N := 29) hx hb hts i_Mo hown hK hP 0 rfl rfl 15 (by decide) (hts (Cond.fieldLink R_Mo 51 "PlantGraphModel" "left" "[I") kw31_877a595) (fun _ h9 => h9) rfl d_Mo_measure_90 ?_
                        refine lv_iload hx hb d_Mo_measure_93 (lv_at hl 0 rfl) ?_
                        refine va_iald hx hb hK hP 7 0 rfl rfl hw.1 d_Mo_measure_95 ?_
                        replace hw := hw.2
                        refine lv_iconst (v := 1) hx hb d_Mo_measure_96 (by decide) ?_
                        refine lv_iadd hx hb d_Mo_measure_97 ?_
                        refine lv_aload_n hx hb d_Mo_measure_98 rfl (lv_at hl 1 rfl) ?_
                        refine va_get (D := (dC, dI)) (ci := 7) (v := .ref (a_t 15)) (C := R_Mo) (T := F_Mo) (N := 29) hx hb hts i_Mo hown hK hP 0 rfl rfl 15 (by decide) (hts (Cond.fieldLink R_Mo 51 "PlantGraphModel" "left" "[I") kw31_877a595) (fun _ h9 => h9) rfl d_Mo_measure_99 ?_
                        refine lv_iload_n hx hb d_Mo_measure_102 rfl (lv_at hl 3 rfl) ?_
                        refine va_iald hx hb hK hP 7 0 rfl rfl hw.1 d_Mo_measure_103 ?_
                        replace hw := hw.2
                        refine lv_icmp_ge (tgt := 124) hx hb d_Mo_measure_104 (by decide) (fun c104 => ?_) (fun c104 => ?_)
                        · replace hw := hw.1 c104
                          refine lv_iinc (v := (x4_L66 + 1)) (lv' := [(4, .int (x4_L66 + 1)), (5, .int r78), (0, .ref q_t), (2, .int x2_L66), (3, .int x3_L53)]) hx hb d_Mo_measure_124 hl (k := 4) rfl rfl (by decide) rfl (fun ls hl => ?_)
                          refine lv_goto (tgt := 66) hx hb d_Mo_measure_127 (by decide) ?_
                          exact ih_66 x2_L66 (x4_L66 + 1) f_t_left_L66 H _ _ hP hD hS (lv_sub hl [2, 3, 4, 0] rfl) hw
                        · replace hw := hw.2 c104
                          refine lv_aload_n hx hb d_Mo_measure_107 rfl (lv_at hl 1 rfl) ?_
                          refine va_get (D := (dC, dI)) (ci := 7) (v := .ref (a_t 15)) (C := R_Mo) (T := F_Mo) (N := 29) hx hb hts i_Mo hown hK hP 0 rfl rfl 15 (by decide) (hts (Cond.fieldLink R_Mo 51 "PlantGraphModel" "left" "[I") kw31_877a595) (fun _ h9 => h9) rfl d_Mo_measure_108 ?_
                          refine lv_iload_n hx hb d_Mo_measure_111 rfl (lv_at hl 3 rfl) ?_
                          refine lv_aload_n hx hb d_Mo_measure_112 rfl (lv_at hl 1 rfl) ?_
                          refine va_get (D := (dC, dI)) (ci := 7) (v := .ref (a_t 15)) (C := R_Mo) (T := F_Mo) (N := 29) hx hb hts i_Mo hown hK hP 0 rfl rfl 15 (by decide) (hts (Cond.fieldLink R_Mo 51 "PlantGraphModel" "left" "[I") kw31_877a595) (fun _ h9 => h9) rfl d_Mo_measure_113 ?_
                          refine lv_iload hx hb d_Mo_measure_116 (lv_at hl 0 rfl) ?_
                          refine va_iald hx hb hK hP 7 0 rfl rfl hw.1 d_Mo_measure_118 ?_
                          replace hw := hw.2
                          refine lv_iconst (v := 1) hx hb d_Mo_measure_119 (by decide) ?_
                          refine lv_iadd hx hb d_Mo_measure_120 ?_
                          refine va_iast hx hb hK hP hD hS 7 0 rfl rfl hw.1 d_Mo_measure_121 (fun H locs hP hD hS => ?_)
                          replace hw := hw.2
                          have hP : va_P (dC, dI) classes [(q_t, .inr (7, o_Mo a_t v_t_things v_t_pipes v_t_wide v_t_size v_t_place v_t_number v_t_thrown v_t_wish v_t_found)), ((a_t 1), .inl (cI, 40, .inl f_t_kinds)), ((a_t 6), .inl (cI, 40, .inl f_t_positions)), ((a_t 8), .inl (cI, 160, .inl f_t_ends)), ((a_t 12), .inl (cI, 120, .inl f_t_at)), ((a_t 13), .inl (cI, 120, .inl f_t_ports)), ((a_t 14), .inl (cI, 120, .inl f_t_bends)), ((a_t 15), .inl (cI, 120, .inl (upd f_t_left_L66 x3_L53.toNatClampNeg ((f_t_left_L66 r78.toNatClampNeg) + 1))))] H := hP
                          have hD : va_D A [(q_t, .inr (7, o_Mo a_t v_t_things v_t_pipes v_t_wide v_t_size v_t_place v_t_number v_t_thrown v_t_wish v_t_found)), ((a_t 1), .inl (cI, 40, .inl f_t_kinds)), ((a_t 6), .inl (cI, 40, .inl f_t_positions)), ((a_t 8), .inl (cI, 160, .inl f_t_ends)), ((a_t 12), .inl (cI, 120, .inl f_t_at)), ((a_t 13), .inl (cI, 120, .inl f_t_ports)), ((a_t 14), .inl (cI, 120, .inl f_t_bends)), ((a_t 15), .inl (cI, 120, .inl (upd f_t_left_L66 x3_L53.toNatClampNeg ((f_t_left_L66 r78.toNatClampNeg) + 1))))] := hD
                          refine lv_iconst (v := 1) hx hb d_Mo_measure_122 (by decide) ?_
                          refine lv_istore_n (lv' := [(2, .int 1), (5, .int r78), (0, .ref q_t), (3, .int x3_L53), (4, .int x4_L66)]) hx hb d_Mo_measure_123 rfl hl (by decide) rfl (fun ls hl => ?_)
                          refine lv_iinc (v := (x4_L66 + 1)) (lv' := [(4, .int (x4_L66 + 1)), (2, .int 1), (5, .int r78), (0, .ref q_t), (3, .int x3_L53)]) hx hb d_Mo_measure_124 hl (k := 4) rfl rfl (by decide) rfl (fun ls hl => ?_)
                          refine lv_goto (tgt := 66) hx hb d_Mo_measure_127 (by decide) ?_
                          exact ih_66 1 (x4_L66 + 1) (upd f_t_left_L66 x3_L53.toNatClampNeg ((f_t_left_L66 r78.toNatClampNeg) + 1)) H _ _ hP hD hS (lv_sub hl [3, 1, 4, 0] rfl) hw
                exact LP_66 n_66 x2_L53 0 f_t_left_L53 H _ _ hP hD hS (lv_sub hl [1, 2, 3, 0] rfl) hw
          exact LP_53 n_53 0 0 f_t_left_L45 H _ _ hP hD hS (lv_sub hl [2, 1, 0] rfl) hw
    exact LP_45 n_45 1 f_t_left_L2 H _ _ hP hD hS (lv_sub hl [1, 0] rfl) hw
  have LP_2 : ∀ (k_2 : Nat) (x2_L2 : Int32) (f_t_left_L2 : (Nat → Int32)) (H : Heap) (locs : List Loc) (ls : Array Slot), va_P (dC, dI) classes [(q_t, .inr (7, o_Mo a_t v_t_things v_t_pipes v_t_wide v_t_size v_t_place v_t_number v_t_thrown v_t_wish v_t_found)), ((a_t 1), .inl (cI, 40, .inl f_t_kinds)), ((a_t 6), .inl (cI, 40, .inl f_t_positions)), ((a_t 8), .inl (cI, 160, .inl f_t_ends)), ((a_t 12), .inl (cI, 120, .inl f_t_at)), ((a_t 13), .inl (cI, 120, .inl f_t_ports)), ((a_t 14), .inl (cI, 120, .inl f_t_bends)), ((a_t 15), .inl (cI, 120, .inl f_t_left_L2))] H → va_D A [(q_t, .inr (7, o_Mo a_t v_t_things v_t_pipes v_t_wide v_t_size v_t_place v_t_number v_t_thrown v_t_wish v_t_found)), ((a_t 1), .inl (cI, 40, .inl f_t_kinds)), ((a_t 6), .inl (cI, 40, .inl f_t_positions)), ((a_t 8), .inl (cI, 160, .inl f_t_ends)), ((a_t 12), .inl (cI, 120, .inl f_t_at)), ((a_t 13), .inl (cI, 120, .inl f_t_ports)), ((a_t 14), .inl (cI, 120, .inl f_t_bends)), ((a_t 15), .inl (cI, 120, .inl f_t_left_L2))] → va_S A s.heap H locs → lv_has ls 6 [(0, .ref q_t), (1, .int x1), (2, .int x2_L2)] → wl_Mo_measure_2 v_t_pipes f_t_at x1 (wk_Mo_measure_43_2 v_t_pipes f_t_kinds f_t_positions f_t_ends f_t_at f_t_ports f_t_bends P) k_2 x2_L2 f_t_left_L2 → W p l e (headSpec w_Mo_measure rm_Mo_measure).room s m args below meth c H locs 0 0 (MQ below (Q_Mo_measure dC dI cI cL cB q_t a_t v_t_things v_t_pipes v_t_wide v_t_size v_t_place v_t_number v_t_thrown v_t_wish v_t_found f_t_kinds f_t_positions f_t_ends f_t_at f_t_ports f_t_bends f_t_left x1 P A) args s 0 0 A) (F0 m 2 ls []) := by
    intro k_2
    induction k_2 with
    | zero => intro x2_L2 f_t_left_L2 H locs ls hP hD hS hl hw; unfold wl_Mo_measure_2 at hw; exact hw.elim
    | succ k_2 ih_2 =>
      intro x2_L2 f_t_left_L2 H locs ls hP hD hS hl hw
      unfold wl_Mo_measure_2 at hw
      refine lv_iload_n hx hb d_Mo_measure_2 rfl (lv_at hl 2 rfl) ?_
      refine lv_iconst (v := 2) hx hb d_Mo_measure_3 (by decide) ?_
      refine lv_aload_n hx hb d_Mo_measure_4 rfl (lv_at hl 0 rfl) ?_
      refine va_get (D := (dC, dI)) (ci := 7) (v := .int v_t_pipes) (C := R_Mo) (T := F_Mo) (N := 29) hx hb hts i_Mo hown hK hP 0 rfl rfl 9 (by decide) (hts (Cond.fieldLink R_Mo 98 "PlantGraphModel" "pipes" "I") kw31_189c50d) (fun _ h9 => h9) rfl d_Mo_measure_5 ?_
      refine lv_imul hx hb d_Mo_measure_8 ?_
      refine lv_icmp_ge (tgt := 43) hx hb d_Mo_measure_9 (by decide) (fun c9 => ?_) (fun c9 => ?_)
      · replace hw := hw.1 c9
        exact EX_43 x2_L2 f_t_left_L2 H _ _ hP hD hS (lv_sub hl [0, 1, 2] rfl) hw
      · replace hw := hw.2 c9
        refine lv_aload_n hx hb d_Mo_measure_12 rfl (lv_at hl 0 rfl) ?_
        refine va_get (D := (dC, dI)) (ci := 7) (v := .ref (a_t 15)) (C := R_Mo) (T := F_Mo) (N := 29) hx hb hts i_Mo hown hK hP 0 rfl rfl 15 (by decide) (hts (Cond.fieldLink R_Mo 51 "PlantGraphModel" "left" "[I") kw31_877a595) (fun _ h9 => h9) rfl d_Mo_measure_13 ?_
        refine lv_iload_n hx hb d_Mo_measure_16 rfl (lv_at hl 2 rfl) ?_
        refine lv_aload_n hx hb d_Mo_measure_17 rfl (lv_at hl 0 rfl) ?_
        refine va_get (D := (dC, dI)) (ci := 7) (v := .ref (a_t 12)) (C := R_Mo) (T := F_Mo) (N := 29) hx hb hts i_Mo hown hK hP 0 rfl rfl 12 (by decide) (hts (Cond.fieldLink R_Mo 42 "PlantGraphModel" "at" "[I") kw31_01baf06) (fun _ h9 => h9) rfl d_Mo_measure_18 ?_
        refine lv_iload_n hx hb d_Mo_measure_21 rfl (lv_at hl 2 rfl) ?_
        refine lv_iconst (v := 1) hx hb d_Mo_measure_22 (by decide) ?_
        refine lv_ixor hx hb d_Mo_measure_23 ?_
        refine va_iald hx hb hK hP 4 0 rfl rfl hw.1 d_Mo_measure_24 ?_
        replace hw := hw.2
        refine lv_iload_n hx hb d_Mo_measure_25 rfl (lv_at hl 1 rfl) ?_
        refine lv_icmp_ne (tgt := 33) hx hb d_Mo_measure_26 (by decide) (fun c26 => ?_) (fun c26 => ?_)
        · replace hw := hw.1 c26
          refine lv_sipush (v := 1000) hx hb d_Mo_measure_33 (by decide) ?_
          refine va_iast hx hb hK hP hD hS 7 0 rfl rfl hw.1 d_Mo_measure_36 (fun H locs hP hD hS => ?_)
          replace hw := hw.2
          have hP : va_P (dC, dI) classes [(q_t, .inr (7, o_Mo a_t v_t_things v_t_pipes v_t_wide v_t_size v_t_place v_t_number v_t_thrown v_t_wish v_t_found)), ((a_t 1), .inl (cI, 40, .inl f_t_kinds)), ((a_t 6), .inl (cI, 40, .inl f_t_positions)), ((a_t 8), .inl (cI, 160, .inl f_t_ends)), ((a_t 12), .inl (cI, 120, .inl f_t_at)), ((a_t 13), .inl (cI, 120, .inl f_t_ports)), ((a_t 14), .inl (cI, 120, .inl f_t_bends)), ((a_t 15), .inl (cI, 120, .inl (upd f_t_left_L2 x2_L2.toNatClampNeg 1000)))] H := hP
          have hD : va_D A [(q_t, .inr (7, o_Mo a_t v_t_things v_t_pipes v_t_wide v_t_size v_t_place v_t_number v_t_thrown v_t_wish v_t_found)), ((a_t 1), .inl (cI, 40, .inl f_t_kinds)), ((a_t 6), .inl (cI, 40, .inl f_t_positions)), ((a_t 8), .inl (cI, 160, .inl f_t_ends)), ((a_t 12), .inl (cI, 120, .inl f_t_at)), ((a_t 13), .inl (cI, 120, .inl f_t_ports)), ((a_t 14), .inl (cI, 120, .inl f_t_bends)), ((a_t 15), .inl (cI, 120, .inl (upd f_t_left_L2 x2_L2.toNatClampNeg 1000)))] := hD
          refine lv_iinc (v := (x2_L2 + 1)) (lv' := [(2, .int (x2_L2 + 1)), (0, .ref q_t), (1, .int x1)]) hx hb d_Mo_measure_37 hl (k := 2) rfl rfl (by decide) rfl (fun ls hl => ?_)
          refine lv_goto (tgt := 2) hx hb d_Mo_measure_40 (by decide) ?_
          exact ih_2 (x2_L2 + 1) (upd f_t_left_L2 x2_L2.toNatClampNeg 1000) H _ _ hP hD hS (lv_sub hl [1, 2, 0] rfl) hw
        · replace hw := hw.2 c26
          refine lv_iconst (v := 1) hx hb d_Mo_measure_29 (by decide) ?_
          refine lv_goto (tgt := 36) hx hb d_Mo_measure_30 (by decide) ?_
          refine va_iast hx hb hK hP hD hS 7 0 rfl rfl hw.1 d_Mo_measure_36 (fun H locs hP hD hS => ?_)
          replace hw := hw.2
          have hP : va_P (dC, dI) classes [(q_t, .inr (7, o_Mo a_t v_t_things v_t_pipes v_t_wide v_t_size v_t_place v_t_number v_t_thrown v_t_wish v_t_found)), ((a_t 1), .inl (cI, 40, .inl f_t_kinds)), ((a_t 6), .inl (cI, 40, .inl f_t_positions)), ((a_t 8), .inl (cI, 160, .inl f_t_ends)), ((a_t 12), .inl (cI, 120, .inl f_t_at)), ((a_t 13), .inl (cI, 120, .inl f_t_ports)), ((a_t 14), .inl (cI, 120, .inl f_t_bends)), ((a_t 15), .inl (cI, 120, .inl (upd f_t_left_L2 x2_L2.toNatClampNeg 1)))] H := hP
          have hD : va_D A [(q_t, .inr (7, o_Mo a_t v_t_things v_t_pipes v_t_wide v_t_size v_t_place v_t_number v_t_thrown v_t_wish v_t_found)), ((a_t 1), .inl (cI, 40, .inl f_t_kinds)), ((a_t 6), .inl (cI, 40, .inl f_t_positions)), ((a_t 8), .inl (cI, 160, .inl f_t_ends)), ((a_t 12), .inl (cI, 120, .inl f_t_at)), ((a_t 13), .inl (cI, 120, .inl f_t_ports)), ((a_t 14), .inl (cI, 120, .inl f_t_bends)), ((a_t 15), .inl (cI, 120, .inl (upd f_t_left_L2 x2_L2.toNatClampNeg 1)))] := hD
          refine lv_iinc (v := (x2_L2 + 1)) (lv' := [(2, .int (x2_L2 + 1)), (0, .ref q_t), (1, .int x1)]) hx hb d_Mo_measure_37 hl (k := 2) rfl rfl (by decide) rfl (fun ls hl => ?_)
          refine lv_goto (tgt := 2) hx hb d_Mo_measure_40 (by decide) ?_
          exact ih_2 (x2_L2 + 1) (upd f_t_left_L2 x2_L2.toNatClampNeg 1) H _ _ hP hD hS (lv_sub hl [1, 2, 0] rfl) hw
  exact LP_2 n_2 0 f_t_left s.heap _ _ hP hD hS (lv_sub hl [1, 2, 0] rfl) hw
def wk_Mo_find_189_121 (v_t_wide_L80 : Int32) (f_t_way_L80 : (Nat → Int32)) (x3_L80 : Int32) (B_80 : Int32 → Int32 → (Nat → Int32) → Prop) (x5_L121 : Int32) (x6_L121 : Int32) : Prop := B_80 x5_L121 (v_t_wide_L80 + 1) (upd f_t_way_L80 v_t_wide_L80.toNatClampNeg x3_L80)
def wl_Mo_find_121 (f_t_left_c2 : (Nat → Int32)) (x3_L80 : Int32) (f_t_kinds : (Nat → Int32)) (f_t_positions : (Nat → Int32)) (f_t_ends : (Nat → Int32)) (f_t_at : (Nat → Int32)) (f_t_ports : (Nat → Int32)) (f_t_bends : (Nat → Int32)) (K_189 : Int32 → Int32 → Prop) : Nat → Int32 → Int32 → Prop
  | 0, _, _ => False
  | k_121 + 1, x5_L121, x6_L121 => (((4 : Int32) ≤ x6_L121 → K_189 x5_L121 x6_L121) ∧ (¬ (4 : Int32) ≤ x6_L121 → ((((f_t_left_c2 x3_L80.toNatClampNeg) - 1) ≤ 0 → K_189 x5_L121 x6_L121) ∧ (¬ ((f_t_left_c2 x3_L80.toNatClampNeg) - 1) ≤ 0 → wp_Mo_next f_t_kinds f_t_positions f_t_ends f_t_at f_t_ports f_t_bends (x3_L80 ^^^ 1) x6_L121 (fun r138 => ((r138 = ((-1) : Int32) → wl_Mo_find_121 f_t_left_c2 x3_L80 f_t_kinds f_t_positions f_t_ends f_t_at f_t_ports f_t_bends K_189 k_121 x5_L121 (x6_L121 + 1)) ∧ (¬ r138 = ((-1) : Int32) → (vp_in r138 120 ∧ ((¬ (f_t_left_c2 r138.toNatClampNeg) = ((f_t_left_c2 x3_L80.toNatClampNeg) - 1) → wl_Mo_find_121 f_t_left_c2 x3_L80 f_t_kinds f_t_positions f_t_ends f_t_at f_t_ports f_t_bends K_189 k_121 x5_L121 (x6_L121 + 1)) ∧ ((f_t_left_c2 r138.toNatClampNeg) = ((f_t_left_c2 x3_L80.toNatClampNeg) - 1) → ((x5_L121 = ((-1) : Int32) → wl_Mo_find_121 f_t_left_c2 x3_L80 f_t_kinds f_t_positions f_t_ends f_t_at f_t_ports f_t_bends K_189 k_121 r138 (x6_L121 + 1)) ∧ (¬ x5_L121 = ((-1) : Int32) → ((x5_L121 ≤ r138 → wl_Mo_find_121 f_t_left_c2 x3_L80 f_t_kinds f_t_positions f_t_ends f_t_at f_t_ports f_t_bends K_189 k_121 x5_L121 (x6_L121 + 1)) ∧ (¬ x5_L121 ≤ r138 → wl_Mo_find_121 f_t_left_c2 x3_L80 f_t_kinds f_t_positions f_t_ends f_t_at f_t_ports f_t_bends K_189 k_121 r138 (x6_L121 + 1)))))))))))))))
def wk_Mo_find_195_80 (f_t_left_c2 : (Nat → Int32)) (P : Int32 → Int32 → (Nat → Int32) → (Nat → Int32) → Prop) (x3_L80 : Int32) (v_t_wide_L80 : Int32) (f_t_way_L80 : (Nat → Int32)) : Prop := ((v_t_wide_L80 ≤ 0 → P 0 v_t_wide_L80 f_t_left_c2 f_t_way_L80) ∧ (¬ v_t_wide_L80 ≤ 0 → P 1 v_t_wide_L80 f_t_left_c2 f_t_way_L80))
def wl_Mo_find_15 (v_t_pipes : Int32) (f_t_at : (Nat → Int32)) (x1 : Int32) (f_t_left_c2 : (Nat → Int32)) (K_80 : Int32 → Int32 → Prop) : Nat → Int32 → Int32 → Prop
  | 0, _, _ => False
  | k_15 + 1, x3_L15, x4_L15 => (((2 * v_t_pipes) ≤ x4_L15 → K_80 x3_L15 x4_L15) ∧ (¬ (2 * v_t_pipes) ≤ x4_L15 → (vp_in x4_L15 120 ∧ ((¬ (f_t_at x4_L15.toNatClampNeg) = x1 → wl_Mo_find_15 v_t_pipes f_t_at x1 f_t_left_c2 K_80 k_15 x3_L15 (x4_L15 + 1)) ∧ ((f_t_at x4_L15.toNatClampNeg) = x1 → (vp_in x4_L15 120 ∧ (((1000 : Int32) ≤ (f_t_left_c2 x4_L15.toNatClampNeg) → wl_Mo_find_15 v_t_pipes f_t_at x1 f_t_left_c2 K_80 k_15 x3_L15 (x4_L15 + 1)) ∧ (¬ (1000 : Int32) ≤ (f_t_left_c2 x4_L15.toNatClampNeg) → ((x3_L15 = ((-1) : Int32) → wl_Mo_find_15 v_t_pipes f_t_at x1 f_t_left_c2 K_80 k_15 x4_L15 (x4_L15 + 1)) ∧ (¬ x3_L15 = ((-1) : Int32) → (vp_in x4_L15 120 ∧ (vp_in x3_L15 120 ∧ (((f_t_left_c2 x3_L15.toNatClampNeg) ≤ (f_t_left_c2 x4_L15.toNatClampNeg) → wl_Mo_find_15 v_t_pipes f_t_at x1 f_t_left_c2 K_80 k_15 x3_L15 (x4_L15 + 1)) ∧ (¬ (f_t_left_c2 x3_L15.toNatClampNeg) ≤ (f_t_left_c2 x4_L15.toNatClampNeg) → wl_Mo_find_15 v_t_pipes f_t_at x1 f_t_left_c2 K_80 k_15 x4_L15 (x4_L15 + 1)))))))))))))))
def wl_Mo_find_80 (f_t_left_c2 : (Nat → Int32)) (f_t_kinds : (Nat → Int32)) (f_t_positions : (Nat → Int32)) (f_t_ends : (Nat → Int32)) (f_t_at : (Nat → Int32)) (f_t_ports : (Nat → Int32)) (f_t_bends : (Nat → Int32)) (K_195 : Int32 → Int32 → (Nat → Int32) → Prop) : Nat → Int32 → Int32 → (Nat → Int32) → Prop
  | 0, _, _, _ => False
  | k_80 + 1, x3_L80, v_t_wide_L80, f_t_way_L80 => ((x3_L80 = ((-1) : Int32) → K_195 x3_L80 v_t_wide_L80 f_t_way_L80) ∧ (¬ x3_L80 = ((-1) : Int32) → (vp_in v_t_wide_L80 60 ∧ (vp_in x3_L80 120 ∧ (∃ n_121 : Nat, wl_Mo_find_121 f_t_left_c2 x3_L80 f_t_kinds f_t_positions f_t_ends f_t_at f_t_ports f_t_bends (wk_Mo_find_189_121 v_t_wide_L80 f_t_way_L80 x3_L80 (wl_Mo_find_80 f_t_left_c2 f_t_kinds f_t_positions f_t_ends f_t_at f_t_ports f_t_bends K_195 k_80)) n_121 (-1) 0)))))
def wk_Mo_find_80_15 (f_t_left_c2 : (Nat → Int32)) (f_t_kinds : (Nat → Int32)) (f_t_positions : (Nat → Int32)) (f_t_ends : (Nat → Int32)) (f_t_at : (Nat → Int32)) (f_t_ports : (Nat → Int32)) (f_t_bends : (Nat → Int32)) (f_t_way : (Nat → Int32)) (P : Int32 → Int32 → (Nat → Int32) → (Nat → Int32) → Prop) (x3_L15 : Int32) (x4_L15 : Int32) : Prop := (∃ n_80 : Nat, wl_Mo_find_80 f_t_left_c2 f_t_kinds f_t_positions f_t_ends f_t_at f_t_ports f_t_bends (wk_Mo_find_195_80 f_t_left_c2 P) n_80 x3_L15 0 f_t_way)
def wp_Mo_find (v_t_pipes : Int32) (v_t_wide : Int32) (f_t_kinds : (Nat → Int32)) (f_t_positions : (Nat → Int32)) (f_t_ends : (Nat → Int32)) (f_t_at : (Nat → Int32)) (f_t_ports : (Nat → Int32)) (f_t_bends : (Nat → Int32)) (f_t_left : (Nat → Int32)) (f_t_way : (Nat → Int32)) (x1 : Int32) (x2 : Int32) (P : Int32 → Int32 → (Nat → Int32) → (Nat → Int32) → Prop) : Prop := wp_Mo_measure v_t_pipes f_t_kinds f_t_positions f_t_ends f_t_at f_t_ports f_t_bends f_t_left x2 (fun f_t_left_c2 => (∃ n_15 : Nat, wl_Mo_find_15 v_t_pipes f_t_at x1 f_t_left_c2 (wk_Mo_find_80_15 f_t_left_c2 f_t_kinds f_t_positions f_t_ends f_t_at f_t_ports f_t_bends f_t_way P) n_15 (-1) 0))
def w_Mo_find : List Cond := .code y_Mo_find b_Mo_find 8 (some .boolean) :: tb
abbrev rm_Mo_find : Room := { frames := 3, cells := 0, slots := 0, locals := 75 }
abbrev Q_Mo_find (dC : Nat → ClassId) (dI : Nat → Nat → Nat) (cI cL cB : ClassId) (q_t : Nat) (a_t : Nat → Nat) (v_t_things : Int32) (v_t_pipes : Int32) (v_t_wide : Int32) (v_t_size : Int32) (v_t_place : Int32) (v_t_number : Int64) (v_t_thrown : Int32) (v_t_wish : Int32) (v_t_found : Int32) (f_t_kinds : (Nat → Int32)) (f_t_positions : (Nat → Int32)) (f_t_ends : (Nat → Int32)) (f_t_at : (Nat → Int32)) (f_t_ports : (Nat → Int32)) (f_t_bends : (Nat → Int32)) (f_t_left : (Nat → Int32)) (f_t_way : (Nat → Int32)) (x1 : Int32) (x2 : Int32) (P : Int32 → Int32 → (Nat → Int32) → (Nat → Int32) → Prop) (A : Nat → Prop) : Array Value → State → Outcome → State → Prop := va_Qi (fun (r : Int32) (u : Int32 × (Nat → Int32) × (Nat → Int32)) => P r u.1 u.2.1 u.2.2) (fun u t => va_P (dC, dI) classes [(q_t, .inr (7, o_Mo a_t v_t_things v_t_pipes u.1 v_t_size v_t_place v_t_number v_t_thrown v_t_wish v_t_found)), ((a_t 1), .inl (cI, 40, .inl f_t_kinds)), ((a_t 6), .inl (cI, 40, .inl f_t_positions)), ((a_t 8), .inl (cI, 160, .inl f_t_ends)), ((a_t 12), .inl (cI, 120, .inl f_t_at)), ((a_t 13), .inl (cI, 120, .inl f_t_ports)), ((a_t 14), .inl (cI, 120, .inl f_t_bends)), ((a_t 15), .inl (cI, 120, .inl u.2.1)), ((a_t 16), .inl (cI, 60, .inl u.2.2))] t.heap ∧ va_K (dC, dI) classes [(cI, .int), (cL, .long), (cB, .byte)] t ∧ va_D A [(q_t, .inr (7, o_Mo a_t v_t_things v_t_pipes u.1 v_t_size v_t_place v_t_number v_t_thrown v_t_wish v_t_found)), ((a_t 1), .inl (cI, 40, .inl f_t_kinds)), ((a_t 6), .inl (cI, 40, .inl f_t_positions)), ((a_t 8), .inl (cI, 160, .inl f_t_ends)), ((a_t 12), .inl (cI, 120, .inl f_t_at)), ((a_t 13), .inl (cI, 120, .inl f_t_ports)), ((a_t 14), .inl (cI, 120, .inl f_t_bends)), ((a_t 15), .inl (cI, 120, .inl u.2.1)), ((a_t 16), .inl (cI, 60, .inl u.2.2))]) A
set_option maxHeartbeats 4000000 in
set_option maxRecDepth 100000 in
theorem c_Mo_find (l : Launch) (dC : Nat → ClassId) (dI : Nat → Nat → Nat) (cI cL cB : ClassId) (q_t : Nat) (a_t : Nat → Nat) (sz : Nat) (v_t_things : Int32) (v_t_pipes : Int32) (v_t_wide : Int32) (v_t_size : Int32) (v_t_place : Int32) (v_t_number : Int64) (v_t_thrown : Int32) (v_t_wish : Int32) (v_t_found : Int32) (f_t_kinds : (Nat → Int32)) (f_t_positions : (Nat → Int32)) (f_t_ends : (Nat → Int32)) (f_t_at : (Nat → Int32)) (f_t_ports : (Nat → Int32)) (f_t_bends : (Nat → Int32)) (f_t_left : (Nat → Int32)) (f_t_way : (Nat → Int32)) (x1 : Int32) (x2 : Int32) (P : Int32 → Int32 → (Nat → Int32) → (Nat → Int32) → Prop) (hw : wp_Mo_find v_t_pipes v_t_wide f_t_kinds f_t_positions f_t_ends f_t_at f_t_ports f_t_bends f_t_left f_t_way x1 x2 P) : Met l y_Mo_find w_Mo_find rm_Mo_find (va_Pc [.ref q_t, .int x1, .int x2] (fun U => U.heap.size = sz ∧ va_P (dC, dI) classes [(q_t, .inr (7, o_Mo a_t v_t_things v_t_pipes v_t_wide v_t_size v_t_place v_t_number v_t_thrown v_t_wish v_t_found)), ((a_t 1), .inl (cI, 40, .inl f_t_kinds)), ((a_t 6), .inl (cI, 40, .inl f_t_positions)), ((a_t 8), .inl (cI, 160, .inl f_t_ends)), ((a_t 12), .inl (cI, 120, .inl f_t_at)), ((a_t 13), .inl (cI, 120, .inl f_t_ports)), ((a_t 14), .inl (cI, 120, .inl f_t_bends)), ((a_t 15), .inl (cI, 120, .inl f_t_left)), ((a_t 16), .inl (cI, 60, .inl f_t_way))] U.heap ∧ va_K (dC, dI) classes [(cI, .int), (cL, .long), (cB, .byte)] U ∧ va_D (fun _ => True) [(q_t, .inr (7, o_Mo a_t v_t_things v_t_pipes v_t_wide v_t_size v_t_place v_t_number v_t_thrown v_t_wish v_t_found)), ((a_t 1), .inl (cI, 40, .inl f_t_kinds)), ((a_t 6), .inl (cI, 40, .inl f_t_positions)), ((a_t 8), .inl (cI, 160, .inl f_t_ends)), ((a_t 12), .inl (cI, 120, .inl f_t_at)), ((a_t 13), .inl (cI, 120, .inl f_t_ports)), ((a_t 14), .inl (cI, 120, .inl f_t_bends)), ((a_t 15), .inl (cI, 120, .inl f_t_left)), ((a_t 16), .inl (cI, 60, .inl f_t_way))])) (Q_Mo_find dC dI cI cL cB q_t a_t v_t_things v_t_pipes v_t_wide v_t_size v_t_place v_t_number v_t_thrown v_t_wish v_t_found f_t_kinds f_t_positions f_t_ends f_t_at f_t_ports f_t_bends f_t_left f_t_way x1 x2 P (va_A [(q_t, .inr (7, o_Mo a_t v_t_things v_t_pipes v_t_wide v_t_size v_t_place v_t_number v_t_thrown v_t_wish v_t_found)), ((a_t 1), .inl (cI, 40, .inl f_t_kinds)), ((a_t 6), .inl (cI, 40, .inl f_t_positions)), ((a_t 8), .inl (cI, 160, .inl f_t_ends)), ((a_t 12), .inl (cI, 120, .inl f_t_at)), ((a_t 13), .inl (cI, 120, .inl f_t_ports)), ((a_t 14), .inl (cI, 120, .inl f_t_bends)), ((a_t 15), .inl (cI, 120, .inl f_t_left)), ((a_t 16), .inl (cI, 60, .inl f_t_way))] sz)) 0 0 (va_A [(q_t, .inr (7, o_Mo a_t v_t_things v_t_pipes v_t_wide v_t_size v_t_place v_t_number v_t_thrown v_t_wish v_t_found)), ((a_t 1), .inl (cI, 40, .inl f_t_kinds)), ((a_t 6), .inl (cI, 40, .inl f_t_positions)), ((a_t 8), .inl (cI, 160, .inl f_t_ends)), ((a_t 12), .inl (cI, 120, .inl f_t_at)), ((a_t 13), .inl (cI, 120, .inl f_t_ports)), ((a_t 14), .inl (cI, 120, .inl f_t_bends)), ((a_t 15), .inl (cI, 120, .inl f_t_left)), ((a_t 16), .inl (cI, 60, .inl f_t_way))] sz) := by
  refine Met.ofW (cc := b_Mo_find) (maxL := 8) (ret := (some .boolean)) (by decide) rfl ?_
  intro p e s m args below meth c s₁ B hml hv
  obtain ⟨ha, hsz, hP, hK, hD0⟩ := hv
  have hx := B.exec
  have hb := B.bytes
  have hr := B.returns
  have hts0 := atoms_spec (ws := w_Mo_find) B.pre
  have hts : ∀ w ∈ tb, w.before args s = true := fun w h => hts0 w (List.mem_cons_of_mem _ h)
  have hown : s.vm.findClass R_Mo = some m.cls := findClass_of_methodNamed B.named
  have hlocks := B.notSynchronized
  subst hsz
  have hD := hD0.self (sz := s.heap.size)
  generalize hAe : va_A [(q_t, .inr (7, o_Mo a_t v_t_things v_t_pipes v_t_wide v_t_size v_t_place v_t_number v_t_thrown v_t_wish v_t_found)), ((a_t 1), .inl (cI, 40, .inl f_t_kinds)), ((a_t 6), .inl (cI, 40, .inl f_t_positions)), ((a_t 8), .inl (cI, 160, .inl f_t_ends)), ((a_t 12), .inl (cI, 120, .inl f_t_at)), ((a_t 13), .inl (cI, 120, .inl f_t_ports)), ((a_t 14), .inl (cI, 120, .inl f_t_bends)), ((a_t 15), .inl (cI, 120, .inl f_t_left)), ((a_t 16), .inl (cI, 60, .inl f_t_way))] s.heap.size = A at hD ⊢
  have hA : ∀ q : Nat, s.heap.size ≤ q → A q := fun q h => by rw [← hAe]; exact Or.inr h
  have hS : va_S A s.heap s.heap [] := va_S.rf
  have hP : va_P (dC, dI) classes [(q_t, .inr (7, o_Mo a_t v_t_things v_t_pipes v_t_wide v_t_size v_t_place v_t_number v_t_thrown v_t_wish v_t_found)), ((a_t 1), .inl (cI, 40, .inl f_t_kinds)), ((a_t 6), .inl (cI, 40, .inl f_t_positions)), ((a_t 8), .inl (cI, 160, .inl f_t_ends)), ((a_t 12), .inl (cI, 120, .inl f_t_at)), ((a_t 13), .inl (cI, 120, .inl f_t_ports)), ((a_t 14), .inl (cI, 120, .inl f_t_bends)), ((a_t 15), .inl (cI, 120, .inl f_t_left)), ((a_t 16), .inl (cI, 60, .inl f_t_way))] s.heap := hP
  have hl := lv_entry [.ref q_t, .int x1, .int x2] (n := 8) (Nat.le_of_ble_eq_true rfl)
  have he9 : entryFrame m args 8 = F0 m 0 ((lg_sl [.ref q_t, .int x1, .int x2] ++ List.replicate (8 - (lg_sl [.ref q_t, .int x1, .int x2]).length) Slot.unset).toArray) [] := by rw [ha]; exact lg_entry_eq _ _ _
  rw [he9]
  clear he9
  generalize (lg_sl [.ref q_t, .int x1, .int x2] ++ List.replicate (8 - (lg_sl [.ref q_t, .int x1, .int x2]).length) Slot.unset).toArray = ls at hl ⊢
  have hl : lv_has ls 8 [(0, .ref q_t), (1, .int x1), (2, .int x2)] := hl
  unfold wp_Mo_find at hw
  refine lv_aload_n hx hb d_Mo_find_0 rfl (lv_at hl 0 rfl) ?_
  refine lv_iload_n hx hb d_Mo_find_1 rfl (lv_at hl 2 rfl) ?_
  have hPc := hP.sub (ws' := [(q_t, .inr (7, o_Mo a_t v_t_things v_t_pipes v_t_wide v_t_size v_t_place v_t_number v_t_thrown v_t_wish v_t_found)), ((a_t 1), .inl (cI, 40, .inl f_t_kinds)), ((a_t 6), .inl (cI, 40, .inl f_t_positions)), ((a_t 8), .inl (cI, 160, .inl f_t_ends)), ((a_t 12), .inl (cI, 120, .inl f_t_at)), ((a_t 13), .inl (cI, 120, .inl f_t_ports)), ((a_t 14), .inl (cI, 120, .inl f_t_bends)), ((a_t 15), .inl (cI, 120, .inl f_t_left))]) [0, 1, 2, 3, 4, 5, 6, 7] rfl
  have hDc := hD.sub (ws' := [(q_t, .inr (7, o_Mo a_t v_t_things v_t_pipes v_t_wide v_t_size v_t_place v_t_number v_t_thrown v_t_wish v_t_found)), ((a_t 1), .inl (cI, 40, .inl f_t_kinds)), ((a_t 6), .inl (cI, 40, .inl f_t_positions)), ((a_t 8), .inl (cI, 160, .inl f_t_ends)), ((a_t 12), .inl (cI, 120, .inl f_t_at)), ((a_t 13), .inl (cI, 120, .inl f_t_ports)), ((a_t 14), .inl (cI, 120, .inl f_t_bends)), ((a_t 15), .inl (cI, 120, .inl f_t_left))]) [0, 1, 2, 3, 4, 5, 6, 7] (by decide) rfl
  have hFc := va_free (wc := [(q_t, .inr (7, o_Mo a_t v_t_things v_t_pipes v_t_wide v_t_size v_t_place v_t_number v_t_thrown v_t_wish v_t_found)), ((a_t 1), .inl (cI, 40, .inl f_t_kinds)), ((a_t 6), .inl (cI, 40, .inl f_t_positions)), ((a_t 8), .inl (cI, 160, .inl f_t_ends)), ((a_t 12), .inl (cI, 120, .inl f_t_at)), ((a_t 13), .inl (cI, 120, .inl f_t_ports)), ((a_t 14), .inl (cI, 120, .inl f_t_bends)), ((a_t 15), .inl (cI, 120, .inl f_t_left))]) hD hS hA [0, 1, 2, 3, 4, 5, 6, 7] rfl
  refine va_callv (va_runV (As := [.int x2]) (rest := []) ⟨hx, hb, hml, hown, hts⟩ (c_Mo_measure l dC dI cI cL cB q_t a_t s.heap.size v_t_things v_t_pipes v_t_wide v_t_size v_t_place v_t_number v_t_thrown v_t_wish v_t_found f_t_kinds f_t_positions f_t_ends f_t_at f_t_ports f_t_bends f_t_left x2 _ hw) (my_cwV 1 hts kw31_0c65b72 kw31_f063ea8 kw31_fee97ff kw31_7a5931c kw31_ed057a4 rfl rfl (by decide +kernel) ⟨Nat.le_of_ble_eq_true rfl, Nat.le_of_ble_eq_true rfl⟩) ⟨fun a U g mk q => by obtain ⟨q0, q1, qP, qK, qD⟩ := q; exact ⟨q0, q1, qP, va_K.moved (u := U) (U := U.calling g mk a) (Vm.Alike.refl U.vm) qK, qD⟩, va_recv hK hP (ci := 7) (q0 := 0) rfl rfl, fun U hU hW => ⟨rfl, by rw [hU], by rw [hU]; exact hPc, va_K.moved hW.alike hK, hDc.weaken (fun _ _ _ _ => trivial)⟩⟩ rfl rfl hl.1 rfl (lv_room (Nat.le_of_ble_eq_true rfl)) d_Mo_find_2 ⟨Nat.zero_le _, Nat.zero_le _⟩) hS (fun q _ h => hFc q h) hFc (fun f_t_left_c2 t H locs ht hvm hw hB hz1 hk1 hS => ?_)
  obtain ⟨hP1, hK1, hD1⟩ := hB
  rw [ht] at hP1
  obtain ⟨hP, hD⟩ := va_join (wr := [((a_t 16), .inl (cI, 60, .inl f_t_way))]) (w1 := [(q_t, .inr (7, o_Mo a_t v_t_things v_t_pipes v_t_wide v_t_size v_t_place v_t_number v_t_thrown v_t_wish v_t_found)), ((a_t 1), .inl (cI, 40, .inl f_t_kinds)), ((a_t 6), .inl (cI, 40, .inl f_t_positions)), ((a_t 8), .inl (cI, 160, .inl f_t_ends)), ((a_t 12), .inl (cI, 120, .inl f_t_at)), ((a_t 13), .inl (cI, 120, .inl f_t_ports)), ((a_t 14), .inl (cI, 120, .inl f_t_bends)), ((a_t 15), .inl (cI, 120, .inl f_t_left_c2))]) hP hD [0, 1, 2, 3, 4, 5, 6, 7] [8] rfl rfl (by decide) (by decide) hk1 hFc hP1 hD1
  have hP : va_P (dC, dI) classes [(q_t, .inr (7, o_Mo a_t v_t_things v_t_pipes v_t_wide v_t_size v_t_place v_t_number v_t_thrown v_t_wish v_t_found)), ((a_t 1), .inl (cI, 40, .inl f_t_kinds)), ((a_t 6), .inl (cI, 40, .inl f_t_positions)), ((a_t 8), .inl (cI, 160, .inl f_t_ends)), ((a_t 12), .inl (cI, 120, .inl f_t_at)), ((a_t 13), .inl (cI, 120, .inl f_t_ports)), ((a_t 14), .inl (cI, 120, .inl f_t_bends)), ((a_t 15), .inl (cI, 120, .inl f_t_left_c2)), ((a_t 16), .inl (cI, 60, .inl f_t_way))] H := hP.sub (ws' := [(q_t, .inr (7, o_Mo a_t v_t_things v_t_pipes v_t_wide v_t_size v_t_place v_t_number v_t_thrown v_t_wish v_t_found)), ((a_t 1), .inl (cI, 40, .inl f_t_kinds)), ((a_t 6), .inl (cI, 40, .inl f_t_positions)), ((a_t 8), .inl (cI, 160, .inl f_t_ends)), ((a_t 12), .inl (cI, 120, .inl f_t_at)), ((a_t 13), .inl (cI, 120, .inl f_t_ports)), ((a_t 14), .inl (cI, 120, .inl f_t_bends)), ((a_t 15), .inl (cI, 120, .inl f_t_left_c2)), ((a_t 16), .inl (cI, 60, .inl f_t_way))]) [1, 2, 3, 4, 5, 6, 7, 8, 0] rfl
  have hD : va_D A [(q_t, .inr (7, o_Mo a_t v_t_things v_t_pipes v_t_wide v_t_size v_t_place v_t_number v_t_thrown v_t_wish v_t_found)), ((a_t 1), .inl (cI, 40, .inl f_t_kinds)), ((a_t 6), .inl (cI, 40, .inl f_t_positions)), ((a_t 8), .inl (cI, 160, .inl f_t_ends)), ((a_t 12), .inl (cI, 120, .inl f_t_at)), ((a_t 13), .inl (cI, 120, .inl f_t_ports)), ((a_t 14), .inl (cI, 120, .inl f_t_bends)), ((a_t 15), .inl (cI, 120, .inl f_t_left_c2)), ((a_t 16), .inl (cI, 60, .inl f_t_way))] := hD.sub (ws' := [(q_t, .inr (7, o_Mo a_t v_t_things v_t_pipes v_t_wide v_t_size v_t_place v_t_number v_t_thrown v_t_wish v_t_found)), ((a_t 1), .inl (cI, 40, .inl f_t_kinds)), ((a_t 6), .inl (cI, 40, .inl f_t_positions)), ((a_t 8), .inl (cI, 160, .inl f_t_ends)), ((a_t 12), .inl (cI, 120, .inl f_t_at)), ((a_t 13), .inl (cI, 120, .inl f_t_ports)), ((a_t 14), .inl (cI, 120, .inl f_t_bends)), ((a_t 15), .inl (cI, 120, .inl f_t_left_c2)), ((a_t 16), .inl (cI, 60, .inl f_t_way))]) [1, 2, 3, 4, 5, 6, 7, 8, 0] (by decide) rfl
  refine lv_aload_n hx hb d_Mo_find_5 rfl (lv_at hl 0 rfl) ?_
  refine lv_iconst (v := 0) hx hb d_Mo_find_6 (by decide) ?_
  refine va_put (D := (dC, dI)) (ci := 7) (v := .int 0) (ty := .int) (C := R_Mo) (T := F_Mo) (N := 29) hx hb hts i_Mo t_Mo t_Mo_ok n_Mo hown hK hP hD hS 0 rfl rfl 17 (by decide) (hts (Cond.fieldLink R_Mo 134 "PlantGraphModel" "wide" "I") kw31_aabbf4f) (fun _ h9 => h9) rfl (by decide +kernel) rfl rfl (Nat.le_of_ble_eq_true rfl) d_Mo_find_7 (fun H locs hP hD hS => ?_)
  have hP : va_P (dC, dI) classes [(q_t, .inr (7, o_Mo a_t v_t_things v_t_pipes 0 v_t_size v_t_place v_t_number v_t_thrown v_t_wish v_t_found)), ((a_t 1), .inl (cI, 40, .inl f_t_kinds)), ((a_t 6), .inl (cI, 40, .inl f_t_positions)), ((a_t 8), .inl (cI, 160, .inl f_t_ends)), ((a_t 12), .inl (cI, 120, .inl f_t_at)), ((a_t 13), .inl (cI, 120, .inl f_t_ports)), ((a_t 14), .inl (cI, 120, .inl f_t_bends)), ((a_t 15), .inl (cI, 120, .inl f_t_left_c2)), ((a_t 16), .inl (cI, 60, .inl f_t_way))] H := hP
  have hD : va_D A [(q_t, .inr (7, o_Mo a_t v_t_things v_t_pipes 0 v_t_size v_t_place v_t_number v_t_thrown v_t_wish v_t_found)), ((a_t 1), .inl (cI, 40, .inl f_t_kinds)), ((a_t 6), .inl (cI, 40, .inl f_t_positions)), ((a_t 8), .inl (cI, 160, .inl f_t_ends)), ((a_t 12), .inl (cI, 120, .inl f_t_at)), ((a_t 13), .inl (cI, 120, .inl f_t_ports)), ((a_t 14), .inl (cI, 120, .inl f_t_bends)), ((a_t 15), .inl (cI, 120, .inl f_t_left_c2)), ((a_t 16), .inl (cI, 60, .inl f_t_way))] := hD
  refine lv_iconst (v := (-1)) hx hb d_Mo_find_10 (by decide) ?_
  refine lv_istore_n (lv' := [(3, .int (-1)), (0, .ref q_t), (1, .int x1), (2, .int x2)]) hx hb d_Mo_find_11 rfl hl (by decide) rfl (fun ls hl => ?_)
  refine lv_iconst (v := 0) hx hb d_Mo_find_12 (by decide) ?_
  refine lv_istore (lv' := [(4, .int 0), (3, .int (-1)), (0, .ref q_t), (1, .int x1), (2, .int x2)]) hx hb d_Mo_find_13 hl (by decide) rfl (fun ls hl => ?_)
  obtain ⟨n_15, hw⟩ := hw
  have EX_80 : ∀ (x3_L15 : Int32) (x4_L15 : Int32) (H : Heap) (locs : List Loc) (ls : Array Slot), va_P (dC, dI) classes [(q_t, .inr (7, o_Mo a_t v_t_things v_t_pipes 0 v_t_size v_t_place v_t_number v_t_thrown v_t_wish v_t_found)), ((a_t 1), .inl (cI, 40, .inl f_t_kinds)), ((a_t 6), .inl (cI, 40, .inl f_t_positions)), ((a_t 8), .inl (cI, 160, .inl f_t_ends)), ((a_t 12), .inl (cI, 120, .inl f_t_at)), ((a_t 13), .inl (cI, 120, .inl f_t_ports)), ((a_t 14), .inl (cI, 120, .inl f_t_bends)), ((a_t 15), .inl (cI, 120, .inl f_t_left_c2)), ((a_t 16), .inl (cI, 60, .inl f_t_way))] H → va_D A [(q_t, .inr (7, o_Mo a_t v_t_things v_t_pipes 0 v_t_size v_t_place v_t_number v_t_thrown v_t_wish v_t_found)), ((a_t 1), .inl (cI, 40, .inl f_t_kinds)), ((a_t 6), .inl (cI, 40, .inl f_t_positions)), ((a_t 8), .inl (cI, 160, .inl f_t_ends)), ((a_t 12), .inl (cI, 120, .inl f_t_at)), ((a_t 13), .inl (cI, 120, .inl f_t_ports)), ((a_t 14), .inl (cI, 120, .inl f_t_bends)), ((a_t 15), .inl (cI, 120, .inl f_t_left_c2)), ((a_t 16), .inl (cI, 60, .inl f_t_way))] → va_S A s.heap H locs → lv_has ls 8 [(0, .ref q_t), (1, .int x1), (3, .int x3_L15), (4, .int x4_L15)] → wk_Mo_find_80_15 f_t_left_c2 f_t_kinds f_t_positions f_t_ends f_t_at f_t_ports f_t_bends f_t_way P x3_L15 x4_L15 → W p l e (headSpec w_Mo_find rm_Mo_find).room s m args below meth c H locs 0 0 (MQ below (Q_Mo_find dC dI cI cL cB q_t a_t v_t_things v_t_pipes v_t_wide v_t_size v_t_place v_t_number v_t_thrown v_t_wish v_t_found f_t_kinds f_t_positions f_t_ends f_t_at f_t_ports f_t_bends f_t_left f_t_way x1 x2 P A) args s 0 0 A) (F0 m 80 ls []) := by
    intro x3_L15 x4_L15 H locs ls hP hD hS hl hw
    unfold wk_Mo_find_80_15 at hw
    obtain ⟨n_80, hw⟩ := hw
    have EX_195 : ∀ (x3_L80 : Int32) (v_t_wide_L80 : Int32) (f_t_way_L80 : (Nat → Int32)) (H : Heap) (locs : List Loc) (ls : Array Slot), va_P (dC, dI) classes [(q_t, .inr (7, o_Mo a_t v_t_things v_t_pipes v_t_wide_L80 v_t_size v_t_place v_t_number v_t_thrown v_t_wish v_t_found)), ((a_t 1), .inl (cI, 40, .inl f_t_kinds)), ((a_t 6), .inl (cI, 40, .inl f_t_positions)), ((a_t 8), .inl (cI, 160, .inl f_t_ends)), ((a_t 12), .inl (cI, 120, .inl f_t_at)), ((a_t 13), .inl (cI, 120, .inl f_t_ports)), ((a_t 14), .inl (cI, 120, .inl f_t_bends)), ((a_t 15), .inl (cI, 120, .inl f_t_left_c2)), ((a_t 16), .inl (cI, 60, .inl f_t_way_L80))] H → va_D A [(q_t, .inr (7, o_Mo a_t v_t_things v_t_pipes v_t_wide_L80 v_t_size v_t_place v_t_number v_t_thrown v_t_wish v_t_found)), ((a_t 1), .inl (cI, 40, .inl f_t_kinds)), ((a_t 6), .inl (cI, 40, .inl f_t_positions)), ((a_t 8), .inl (cI, 160, .inl f_t_ends)), ((a_t 12), .inl (cI, 120, .inl f_t_at)), ((a_t 13), .inl (cI, 120, .inl f_t_ports)), ((a_t 14), .inl (cI, 120, .inl f_t_bends)), ((a_t 15), .inl (cI, 120, .inl f_t_left_c2)), ((a_t 16), .inl (cI, 60, .inl f_t_way_L80))] → va_S A s.heap H locs → lv_has ls 8 [(0, .ref q_t), (3, .int x3_L80)] → wk_Mo_find_195_80 f_t_left_c2 P x3_L80 v_t_wide_L80 f_t_way_L80 → W p l e (headSpec w_Mo_find rm_Mo_find).room s m args below meth c H locs 0 0 (MQ below (Q_Mo_find dC dI cI cL cB q_t a_t v_t_things v_t_pipes v_t_wide v_t_size v_t_place v_t_number v_t_thrown v_t_wish v_t_found f_t_kinds f_t_positions f_t_ends f_t_at f_t_ports f_t_bends f_t_left f_t_way x1 x2 P A) args s 0 0 A) (F0 m 195 ls []) := by
      intro x3_L80 v_t_wide_L80 f_t_way_L80 H locs ls hP hD hS hl hw
      unfold wk_Mo_find_195_80 at hw
      refine lv_aload_n hx hb d_Mo_find_195 rfl (lv_at hl 0 rfl) ?_
      refine va_get (D := (dC, dI)) (ci := 7) (v := .int v_t_wide_L80) (C := R_Mo) (T := F_Mo) (N := 29) hx hb hts i_Mo hown hK hP 0 rfl rfl 17 (by decide) (hts (Cond.fieldLink R_Mo 134 "PlantGraphModel" "wide" "I") kw31_aabbf4f) (fun _ h9 => h9) rfl d_Mo_find_196 ?_
      refine lv_if_le (tgt := 206) hx hb d_Mo_find_199 (by decide) (fun c199 => ?_) (fun c199 => ?_)
      · replace hw := hw.1 c199
        refine lv_iconst (v := 0) hx hb d_Mo_find_206 (by decide) ?_
        exact W.zret (v := 0) hx hb hr (by decide) (fun t ht hW => ⟨⟨0, (v_t_wide_L80, f_t_left_c2, f_t_way_L80), rfl, hw, by rw [ht]; exact hP, va_K.moved hW.alike hK, hD⟩, hS.F ht⟩) hS.2.2 d_Mo_find_207
      · replace hw := hw.2 c199
        refine lv_iconst (v := 1) hx hb d_Mo_find_202 (by decide) ?_
        refine lv_goto (tgt := 207) hx hb d_Mo_find_203 (by decide) ?_
        exact W.zret (v := 1) hx hb hr (by decide) (fun t ht hW => ⟨⟨1, (v_t_wide_L80, f_t_left_c2, f_t_way_L80), rfl, hw, by rw [ht]; exact hP, va_K.moved hW.alike hK, hD⟩, hS.F ht⟩) hS.2.2 d_Mo_find_207
    have LP_80 : ∀ (k_80 : Nat) (x3_L80 : Int32) (v_t_wide_L80 : Int32) (f_t_way_L80 : (Nat → Int32)) (H : Heap) (locs : List Loc) (ls : Array Slot), va_P (dC, dI) classes [(q_t, .inr (7, o_Mo a_t v_t_things v_t_pipes v_t_wide_L80 v_t_size v_t_place v_t_number v_t_thrown v_t_wish v_t_found)), ((a_t 1), .inl (cI, 40, .inl f_t_kinds)), ((a_t 6), .inl (cI, 40, .inl f_t_positions)), ((a_t 8), .inl (cI, 160, .inl f_t_ends)), ((a_t 12), .inl (cI, 120, .inl f_t_at)), ((a_t 13), .inl (cI, 120, .inl f_t_ports)), ((a_t 14), .inl (cI, 120, .inl f_t_bends)), ((a_t 15), .inl (cI, 120, .inl f_t_left_c2)), ((a_t 16), .inl (cI, 60, .inl f_t_way_L80))] H → va_D A [(q_t, .inr (7, o_Mo a_t v_t_things v_t_pipes v_t_wide_L80 v_t_size v_t_place v_t_number v_t_thrown v_t_wish v_t_found)), ((a_t 1), .inl (cI, 40, .inl f_t_kinds)), ((a_t 6), .inl (cI, 40, .inl f_t_positions)), ((a_t 8), .inl (cI, 160, .inl f_t_ends)), ((a_t 12), .inl (cI, 120, .inl f_t_at)), ((a_t 13), .inl (cI, 120, .inl f_t_ports)), ((a_t 14), .inl (cI, 120, .inl f_t_bends)), ((a_t 15), .inl (cI, 120, .inl f_t_left_c2)), ((a_t 16), .inl (cI, 60, .inl f_t_way_L80))] → va_S A s.heap H locs → lv_has ls 8 [(0, .ref q_t), (3, .int x3_L80)] → wl_Mo_find_80 f_t_left_c2 f_t_kinds f_t_positions f_t_ends f_t_at f_t_ports f_t_bends (wk_Mo_find_195_80 f_t_left_c2 P) k_80 x3_L80 v_t_wide_L80 f_t_way_L80 → W p l e (headSpec w_Mo_find rm_Mo_find).room s m args below meth c H locs 0 0 (MQ below (Q_Mo_find dC dI cI cL cB q_t a_t v_t_things v_t_pipes v_t_wide v_t_size v_t_place v_t_number v_t_thrown v_t_wish v_t_found f_t_kinds f_t_positions f_t_ends f_t_at f_t_ports f_t_bends f_t_left f_t_way x1 x2 P A) args s 0 0 A) (F0 m 80 ls []) := by
      intro k_80
      induction k_80 with
      | zero => intro x3_L80 v_t_wide_L80 f_t_way_L80 H locs ls hP hD hS hl hw; unfold wl_Mo_find_80 at hw; exact hw.elim
      | succ k_80 ih_80 =>
        intro x3_L80 v_t_wide_L80 f_t_way_L80 H locs ls hP hD hS hl hw
        unfold wl_Mo_find_80 at hw
        refine lv_iload_n hx hb d_Mo_find_80 rfl (lv_at hl 1 rfl) ?_
        refine lv_iconst (v := (-1)) hx hb d_Mo_find_81 (by decide) ?_
        refine lv_icmp_eq (tgt := 195) hx hb d_Mo_find_82 (by decide) (fun c82 => ?_) (fun c82 => ?_)
        · replace hw := hw.1 c82
          exact EX_195 x3_L80 v_t_wide_L80 f_t_way_L80 H _ _ hP hD hS (lv_sub hl [0, 1] rfl) hw
        · replace hw := hw.2 c82
          refine lv_aload_n hx hb d_Mo_find_85 rfl (lv_at hl 0 rfl) ?_
          refine va_get (D := (dC, dI)) (ci := 7) (v := .ref (a_t 16)) (C := R_Mo) (T := F_Mo) (N := 29) hx hb hts i_Mo hown hK hP 0 rfl rfl 16 (by decide) (hts (Cond.fieldLink R_Mo 54 "PlantGraphModel" "way" "[I") kw31_34de539) (fun _ h9 => h9) rfl d_Mo_find_86 ?_
          refine lv_aload_n hx hb d_Mo_find_89 rfl (lv_at hl 0 rfl) ?_
          refine va_get (D := (dC, dI)) (ci := 7) (v := .int v_t_wide_L80) (C := R_Mo) (T := F_Mo) (N := 29) hx hb hts i_Mo hown hK hP 0 rfl rfl 17 (by decide) (hts (Cond.fieldLink R_Mo 134 "PlantGraphModel" "wide" "I") kw31_aabbf4f) (fun _ h9 => h9) rfl d_Mo_find_90 ?_
          refine lv_iload_n hx hb d_Mo_find_93 rfl (lv_at hl 1 rfl) ?_
          refine va_iast hx hb hK hP hD hS 8 0 rfl rfl hw.1 d_Mo_find_94 (fun H locs hP hD hS => ?_)
          replace hw := hw.2
          have hP : va_P (dC, dI) classes [(q_t, .inr (7, o_Mo a_t v_t_things v_t_pipes v_t_wide_L80 v_t_size v_t_place v_t_number v_t_thrown v_t_wish v_t_found)), ((a_t 1), .inl (cI, 40, .inl f_t_kinds)), ((a_t 6), .inl (cI, 40, .inl f_t_positions)), ((a_t 8), .inl (cI, 160, .inl f_t_ends)), ((a_t 12), .inl (cI, 120, .inl f_t_at)), ((a_t 13), .inl (cI, 120, .inl f_t_ports)), ((a_t 14), .inl (cI, 120, .inl f_t_bends)), ((a_t 15), .inl (cI, 120, .inl f_t_left_c2)), ((a_t 16), .inl (cI, 60, .inl (upd f_t_way_L80 v_t_wide_L80.toNatClampNeg x3_L80)))] H := hP
          have hD : va_D A [(q_t, .inr (7, o_Mo a_t v_t_things v_t_pipes v_t_wide_L80 v_t_size v_t_place v_t_number v_t_thrown v_t_wish v_t_found)), ((a_t 1), .inl (cI, 40, .inl f_t_kinds)), ((a_t 6), .inl (cI, 40, .inl f_t_positions)), ((a_t 8), .inl (cI, 160, .inl f_t_ends)), ((a_t 12), .inl (cI, 120, .inl f_t_at)), ((a_t 13), .inl (cI, 120, .inl f_t_ports)), ((a_t 14), .inl (cI, 120, .inl f_t_bends)), ((a_t 15), .inl (cI, 120, .inl f_t_left_c2)), ((a_t 16), .inl (cI, 60, .inl (upd f_t_way_L80 v_t_wide_L80.toNatClampNeg x3_L80)))] := hD
          refine lv_aload_n hx hb d_Mo_find_95 rfl (lv_at hl 0 rfl) ?_
          refine lv_dup hx hb d_Mo_find_96 rfl ?_
          refine va_get (D := (dC, dI)) (ci := 7) (v := .int v_t_wide_L80) (C := R_Mo) (T := F_Mo) (N := 29) hx hb hts i_Mo hown hK hP 0 rfl rfl 17 (by decide) (hts (Cond.fieldLink R_Mo 134 "PlantGraphModel" "wide" "I") kw31_aabbf4f) (fun _ h9 => h9) rfl d_Mo_find_97 ?_
          refine lv_iconst (v := 1) hx hb d_Mo_find_100 (by decide) ?_
          refine lv_iadd hx hb d_Mo_find_101 ?_
          refine va_put (D := (dC, dI)) (ci := 7) (v := .int (v_t_wide_L80 + 1)) (ty := .int) (C := R_Mo) (T := F_Mo) (N := 29) hx hb hts i_Mo t_Mo t_Mo_ok n_Mo hown hK hP hD hS 0 rfl rfl 17 (by decide) (hts (Cond.fieldLink R_Mo 134 "PlantGraphModel" "wide" "I") kw31_aabbf4f) (fun _ h9 => h9) rfl (by decide +kernel) rfl rfl (Nat.le_of_ble_eq_true rfl) d_Mo_find_102 (fun H locs hP hD hS => ?_)
          have hP : va_P (dC, dI) classes [(q_t, .inr (7, o_Mo a_t v_t_things v_t_pipes (v_t_wide_L80 + 1) v_t_size v_t_place v_t_number v_t_thrown v_t_wish v_t_found)), ((a_t 1), .inl (cI, 40, .inl f_t_kinds)), ((a_t 6), .inl (cI, 40, .inl f_t_positions)), ((a_t 8), .inl (cI, 160, .inl f_t_ends)), ((a_t 12), .inl (cI, 120, .inl f_t_at)), ((a_t 13), .inl (cI, 120, .inl f_t_ports)), ((a_t 14), .inl (cI, 120, .inl f_t_bends)), ((a_t 15), .inl (cI, 120, .inl f_t_left_c2)), ((a_t 16), .inl (cI, 60, .inl (upd f_t_way_L80 v_t_wide_L80.toNatClampNeg x3_L80)))] H := hP
          have hD : va_D A [(q_t, .inr (7, o_Mo a_t v_t_things v_t_pipes (v_t_wide_L80 + 1) v_t_size v_t_place v_t_number v_t_thrown v_t_wish v_t_found)), ((a_t 1), .inl (cI, 40, .inl f_t_kinds)), ((a_t 6), .inl (cI, 40, .inl f_t_positions)), ((a_t 8), .inl (cI, 160, .inl f_t_ends)), ((a_t 12), .inl (cI, 120, .inl f_t_at)), ((a_t 13), .inl (cI, 120, .inl f_t_ports)), ((a_t 14), .inl (cI, 120, .inl f_t_bends)), ((a_t 15), .inl (cI, 120, .inl f_t_left_c2)), ((a_t 16), .inl (cI, 60, .inl (upd f_t_way_L80 v_t_wide_L80.toNatClampNeg x3_L80)))] := hD
          refine lv_aload_n hx hb d_Mo_find_105 rfl (lv_at hl 0 rfl) ?_
          refine va_get (D := (dC, dI)) (ci := 7) (v := .ref (a_t 15)) (C := R_Mo) (T := F_Mo) (N := 29) hx hb hts i_Mo hown hK hP 0 rfl rfl 15 (by decide) (hts (Cond.fieldLink R_Mo 51 "PlantGraphModel" "left" "[I") kw31_877a595) (fun _ h9 => h9) rfl d_Mo_find_106 ?_
          refine lv_iload_n hx hb d_Mo_find_109 rfl (lv_at hl 1 rfl) ?_
          refine va_iald hx hb hK hP 7 0 rfl rfl hw.1 d_Mo_find_110 ?_
          replace hw := hw.2
          refine lv_iconst (v := 1) hx hb d_Mo_find_111 (by decide) ?_
          refine lv_isub hx hb d_Mo_find_112 ?_
          refine lv_istore (lv' := [(4, .int ((f_t_left_c2 x3_L80.toNatClampNeg) - 1)), (0, .ref q_t), (3, .int x3_L80)]) hx hb d_Mo_find_113 hl (by decide) rfl (fun ls hl => ?_)
          refine lv_iconst (v := (-1)) hx hb d_Mo_find_115 (by decide) ?_
          refine lv_istore (lv' := [(5, .int (-1)), (4, .int ((f_t_left_c2 x3_L80.toNatClampNeg) - 1)), (0, .ref q_t), (3, .int x3_L80)]) hx hb d_Mo_find_116 hl (by decide) rfl (fun ls hl => ?_)
          refine lv_iconst (v := 0) hx hb d_Mo_find_118 (by decide) ?_
          refine lv_istore (lv' := [(6, .int 0), (5, .int (-1)), (4, .int ((f_t_left_c2 x3_L80.toNatClampNeg) - 1)), (0, .ref q_t), (3, .int x3_L80)]) hx hb d_Mo_find_119 hl (by decide) rfl (fun ls hl => ?_)
          obtain ⟨n_121, hw⟩ := hw
          have EX_189 : ∀ (x5_L121 : Int32) (x6_L121 : Int32) (H : Heap) (locs : List Loc) (ls : Array Slot), va_P (dC, dI) classes [(q_t, .inr (7, o_Mo a_t v_t_things v_t_pipes (v_t_wide_L80 + 1) v_t_size v_t_place v_t_number v_t_thrown v_t_wish v_t_found)), ((a_t 1), .inl (cI, 40, .inl f_t_kinds)), ((a_t 6), .inl (cI, 40, .inl f_t_positions)), ((a_t 8), .inl (cI, 160, .inl f_t_ends)), ((a_t 12), .inl (cI, 120, .inl f_t_at)), ((a_t 13), .inl (cI, 120, .inl f_t_ports)), ((a_t 14), .inl (cI, 120, .inl f_t_bends)), ((a_t 15), .inl (cI, 120, .inl f_t_left_c2)), ((a_t 16), .inl (cI, 60, .inl (upd f_t_way_L80 v_t_wide_L80.toNatClampNeg x3_L80)))] H → va_D A [(q_t, .inr (7, o_Mo a_t v_t_things v_t_pipes (v_t_wide_L80 + 1) v_t_size v_t_place v_t_number v_t_thrown v_t_wish v_t_found)), ((a_t 1), .inl (cI, 40, .inl f_t_kinds)), ((a_t 6), .inl (cI, 40, .inl f_t_positions)), ((a_t 8), .inl (cI, 160, .inl f_t_ends)), ((a_t 12), .inl (cI, 120, .inl f_t_at)), ((a_t 13), .inl (cI, 120, .inl f_t_ports)), ((a_t 14), .inl (cI, 120, .inl f_t_bends)), ((a_t 15), .inl (cI, 120, .inl f_t_left_c2)), ((a_t 16), .inl (cI, 60, .inl (upd f_t_way_L80 v_t_wide_L80.toNatClampNeg x3_L80)))] → va_S A s.heap H locs → lv_has ls 8 [(0, .ref q_t), (3, .int x3_L80), (4, .int ((f_t_left_c2 x3_L80.toNatClampNeg) - 1)), (5, .int x5_L121), (6, .int x6_L121)] → wk_Mo_find_189_121 v_t_wide_L80 f_t_way_L80 x3_L80 (wl_Mo_find_80 f_t_left_c2 f_t_kinds f_t_positions f_t_ends f_t_at f_t_ports f_t_bends (wk_Mo_find_195_80 f_t_left_c2 P) k_80) x5_L121 x6_L121 → W p l e (headSpec w_Mo_find rm_Mo_find).room s m args below meth c H locs 0 0 (MQ below (Q_Mo_find dC dI cI cL cB q_t a_t v_t_things v_t_pipes v_t_wide v_t_size v_t_place v_t_number v_t_thrown v_t_wish v_t_found f_t_kinds f_t_positions f_t_ends f_t_at f_t_ports f_t_bends f_t_left f_t_way x1 x2 P A) args s 0 0 A) (F0 m 189 ls []) := by
            intro x5_L121 x6_L121 H locs ls hP hD hS hl hw
            unfold wk_Mo_find_189_121 at hw
            refine lv_iload hx hb d_Mo_find_189 (lv_at hl 3 rfl) ?_
            refine lv_istore_n (lv' := [(3, .int x5_L121), (0, .ref q_t), (4, .int ((f_t_left_c2 x3_L80.toNatClampNeg) - 1)), (5, .int x5_L121), (6, .int x6_L121)]) hx hb d_Mo_find_191 rfl hl (by decide) rfl (fun ls hl => ?_)
            refine lv_goto (tgt := 80) hx hb d_Mo_find_192 (by decide) ?_
            exact ih_80 x5_L121 (v_t_wide_L80 + 1) (upd f_t_way_L80 v_t_wide_L80.toNatClampNeg x3_L80) H _ _ hP hD hS (lv_sub hl [1, 0] rfl) hw
          have LP_121 : ∀ (k_121 : Nat) (x5_L121 : Int32) (x6_L121 : Int32) (H : Heap) (locs : List Loc) (ls : Array Slot), va_P (dC, dI) classes [(q_t, .inr (7, o_Mo a_t v_t_things v_t_pipes (v_t_wide_L80 + 1) v_t_size v_t_place v_t_number v_t_thrown v_t_wish v_t_found)), ((a_t 1), .inl (cI, 40, .inl f_t_kinds)), ((a_t 6), .inl (cI, 40, .inl f_t_positions)), ((a_t 8), .inl (cI, 160, .inl f_t_ends)), ((a_t 12), .inl (cI, 120, .inl f_t_at)), ((a_t 13), .inl (cI, 120, .inl f_t_ports)), ((a_t 14), .inl (cI, 120, .inl f_t_bends)), ((a_t 15), .inl (cI, 120, .inl f_t_left_c2)), ((a_t 16), .inl (cI, 60, .inl (upd f_t_way_L80 v_t_wide_L80.toNatClampNeg x3_L80)))] H → va_D A [(q_t, .inr (7, o_Mo a_t v_t_things v_t_pipes (v_t_wide_L80 + 1) v_t_size v_t_place v_t_number v_t_thrown v_t_wish v_t_found)), ((a_t 1), .inl (cI, 40, .inl f_t_kinds)), ((a_t 6), .inl (cI, 40, .inl f_t_positions)), ((a_t 8), .inl (cI, 160, .inl f_t_ends)), ((a_t 12), .inl (cI, 120, .inl f_t_at)), ((a_t 13), .inl (cI, 120, .inl f_t_ports)), ((a_t 14), .inl (cI, 120, .inl f_t_bends)), ((a_t 15), .inl (cI, 120, .inl f_t_left_c2)), ((a_t 16), .inl (cI, 60, .inl (upd f_t_way_L80 v_t_wide_L80.toNatClampNeg x3_L80)))] → va_S A s.heap H locs → lv_has ls 8 [(0, .ref q_t), (3, .int x3_L80), (4, .int ((f_t_left_c2 x3_L80.toNatClampNeg) - 1)), (5, .int x5_L121), (6, .int x6_L121)] → wl_Mo_find_121 f_t_left_c2 x3_L80 f_t_kinds f_t_positions f_t_ends f_t_at f_t_ports f_t_bends (wk_Mo_find_189_121 v_t_wide_L80 f_t_way_L80 x3_L80 (wl_Mo_find_80 f_t_left_c2 f_t_kinds f_t_positions f_t_ends f_t_at f_t_ports f_t_bends (wk_Mo_find_195_80 f_t_left_c2 P) k_80)) k_121 x5_L121 x6_L121 → W p l e (headSpec w_Mo_find rm_Mo_find).room s m args below meth c H locs 0 0 (MQ below (Q_Mo_find dC dI cI cL cB q_t a_t v_t_things v_t_pipes v_t_wide v_t_size v_t_place v_t_number v_t_thrown v_t_wish v_t_found f_t_kinds f_t_positions f_t_ends f_t_at f_t_ports f_t_bends f_t_left f_t_way x1 x2 P A) args s 0 0 A) (F0 m 121 ls []) := by
            intro k_121
            induction k_121 with
            | zero => intro x5_L121 x6_L121 H locs ls hP hD hS hl hw; unfold wl_Mo_find_121 at hw; exact hw.elim
            | succ k_121 ih_121 =>
              intro x5_L121 x6_L121 H locs ls hP hD hS hl hw
              unfold wl_Mo_find_121 at hw
              refine lv_iload hx hb d_Mo_find_121 (lv_at hl 4 rfl) ?_
              refine lv_iconst (v := 4) hx hb d_Mo_find_123 (by decide) ?_
              refine lv_icmp_ge (tgt := 189) hx hb d_Mo_find_124 (by decide) (fun c124 => ?_) (fun c124 => ?_)
              · replace hw := hw.1 c124
                exact EX_189 x5_L121 x6_L121 H _ _ hP hD hS (lv_sub hl [0, 1, 2, 3, 4] rfl) hw
              · replace hw := hw.2 c124
                refine lv_iload hx hb d_Mo_find_127 (lv_at hl 2 rfl) ?_
                refine lv_if_le (tgt := 189) hx hb d_Mo_find_129 (by decide) (fun c129 => ?_) (fun c129 => ?_)
                · replace hw := hw.1 c129
                  exact EX_189 x5_L121 x6_L121 H _ _ hP hD hS (lv_sub hl [0, 1, 2, 3, 4] rfl) hw
                · replace hw := hw.2 c129
                  refine lv_aload_n hx hb d_Mo_find_132 rfl (lv_at hl 0 rfl) ?_
                  refine lv_iload_n hx hb d_Mo_find_133 rfl (lv_at hl 1 rfl) ?_
                  refine lv_iconst (v := 1) hx hb d_Mo_find_134 (by decide) ?_
                  refine lv_ixor hx hb d_Mo_find_135 ?_
                  refine lv_iload hx hb d_Mo_find_136 (lv_at hl 4 rfl) ?_
                  have hPc := hP.sub (ws' := [(q_t, .inr (7, o_Mo a_t v_t_things v_t_pipes (v_t_wide_L80 + 1) v_t_size v_t_place v_t_number v_t_thrown v_t_wish v_t_found)), ((a_t 1), .inl (cI, 40, .inl f_t_kinds)), ((a_t 6), .inl (cI, 40, .inl f_t_positions)), ((a_t 8), .inl (cI, 160, .inl f_t_ends)), ((a_t 12), .inl (cI, 120, .inl f_t_at)), ((a_t 13), .inl (cI, 120, .inl f_t_ports)), ((a_t 14), .inl (cI, 120, .inl f_t_bends))]) [0, 1, 2, 3, 4, 5, 6] rfl
                  have hDc := hD.sub (ws' := [(q_t, .inr (7, o_Mo a_t v_t_things v_t_pipes (v_t_wide_L80 + 1) v_t_size v_t_place v_t_number v_t_thrown v_t_wish v_t_found)), ((a_t 1), .inl (cI, 40, .inl f_t_kinds)), ((a_t 6), .inl (cI, 40, .inl f_t_positions)), ((a_t 8), .inl (cI, 160, .inl f_t_ends)), ((a_t 12), .inl (cI, 120, .inl f_t_at)), ((a_t 13), .inl (cI, 120, .inl f_t_ports)), ((a_t 14), .inl (cI, 120, .inl f_t_bends))]) [0, 1, 2, 3, 4, 5, 6] (by decide) rfl
                  have hFc := va_free (wc := [(q_t, .inr (7, o_Mo a_t v_t_things v_t_pipes (v_t_wide_L80 + 1) v_t_size v_t_place v_t_number v_t_thrown v_t_wish v_t_found)), ((a_t 1), .inl (cI, 40, .inl f_t_kinds)), ((a_t 6), .inl (cI, 40, .inl f_t_positions)), ((a_t 8), .inl (cI, 160, .inl f_t_ends)), ((a_t 12), .inl (cI, 120, .inl f_t_at)), ((a_t 13), .inl (cI, 120, .inl f_t_ports)), ((a_t 14), .inl (cI, 120, .inl f_t_bends))]) hD hS hA [0, 1, 2, 3, 4, 5, 6] rfl
                  refine va_calli (va_runV (As := [.int (x3_L80 ^^^ 1), .int x6_L121]) (rest := []) ⟨hx, hb, hml, hown, hts⟩ (c_Mo_next l dC dI cI cL cB q_t a_t H.size v_t_things v_t_pipes (v_t_wide_L80 + 1) v_t_size v_t_place v_t_number v_t_thrown v_t_wish v_t_found f_t_kinds f_t_positions f_t_ends f_t_at f_t_ports f_t_bends (x3_L80 ^^^ 1) x6_L121 _ hw) (my_cwV 2 hts kw31_902981b kw31_0ab0422 kw31_57eddd2 kw31_7a5931c kw31_1a7ebc2 rfl rfl (by decide +kernel) ⟨Nat.le_of_ble_eq_true rfl, Nat.le_of_ble_eq_true rfl⟩) ⟨fun a U g mk q => by obtain ⟨q0, q1, qP, qK, qD⟩ := q; exact ⟨q0, q1, qP, va_K.moved (u := U) (U := U.calling g mk a) (Vm.Alike.refl U.vm) qK, qD⟩, va_recv hK hP (ci := 7) (q0 := 0) rfl rfl, fun U hU hW => ⟨rfl, by rw [hU], by rw [hU]; exact hPc, va_K.moved hW.alike hK, hDc.weaken (fun _ _ _ _ => trivial)⟩⟩ rfl rfl hl.1 rfl (lv_room (Nat.le_of_ble_eq_true rfl)) d_Mo_find_138 ⟨Nat.zero_le _, Nat.zero_le _⟩) hS (fun q _ h => hFc q h) hFc (fun r138 u t H locs ht hvm hw hB hz1 hk1 hS => ?_)
                  obtain ⟨hP1, hK1, hD1⟩ := hB
                  rw [ht] at hP1
                  obtain ⟨hP, hD⟩ := va_join (wr := [((a_t 15), .inl (cI, 120, .inl f_t_left_c2)), ((a_t 16), .inl (cI, 60, .inl (upd f_t_way_L80 v_t_wide_L80.toNatClampNeg x3_L80)))]) (w1 := [(q_t, .inr (7, o_Mo a_t v_t_things v_t_pipes (v_t_wide_L80 + 1) v_t_size v_t_place v_t_number v_t_thrown v_t_wish v_t_found)), ((a_t 1), .inl (cI, 40, .inl f_t_kinds)), ((a_t 6), .inl (cI, 40, .inl f_t_positions)), ((a_t 8), .inl (cI, 160, .inl f_t_ends)), ((a_t 12), .inl (cI, 120, .inl f_t_at)), ((a_t 13), .inl (cI, 120, .inl f_t_ports)), ((a_t 14), .inl (cI, 120, .inl f_t_bends))]) hP hD [0, 1, 2, 3, 4, 5, 6] [7, 8] rfl rfl (by decide) (by decide) hk1 hFc hP1 hD1
                  have hP : va_P (dC, dI) classes [(q_t, .inr (7, o_Mo a_t v_t_things v_t_pipes (v_t_wide_L80 + 1) v_t_size v_t_place v_t_number v_t_thrown v_t_wish v_t_found)), ((a_t 1), .inl (cI, 40, .inl f_t_kinds)), ((a_t 6), .inl (cI, 40, .inl f_t_positions)), ((a_t 8), .inl (cI, 160, .inl f_t_ends)), ((a_t 12), .inl (cI, 120, .inl f_t_at)), ((a_t 13), .inl (cI, 120, .inl f_t_ports)), ((a_t 14), .inl (cI, 120, .inl f_t_bends)), ((a_t 15), .inl (cI, 120, .inl f_t_left_c2)), ((a_t 16), .inl (cI, 60, .inl (upd f_t_way_L80 v_t_wide_L80.toNatClampNeg x3_L80)))] H := hP.sub (ws' := [(q_t, .inr (7, o_Mo a_t v_t_things v_t_pipes (v_t_wide_L80 + 1) v_t_size v_t_place v_t_number v_t_thrown v_t_wish v_t_found)), ((a_t 1), .inl (cI, 40, .inl f_t_kinds)), ((a_t 6), .inl (cI, 40, .inl f_t_positions)), ((a_t 8), .inl (cI, 160, .inl f_t_ends)), ((a_t 12), .inl (cI, 120, .inl f_t_at)), ((a_t 13), .inl (cI, 120, .inl f_t_ports)), ((a_t 14), .inl (cI, 120, .inl f_t_bends)), ((a_t 15), .inl (cI, 120, .inl f_t_left_c2)), ((a_t 16), .inl (cI, 60, .inl (upd f_t_way_L80 v_t_wide_L80.toNatClampNeg x3_L80)))]) [2, 3, 4, 5, 6, 7, 8, 0, 1] rfl
                  have hD : va_D A [(q_t, .inr (7, o_Mo a_t v_t_things v_t_pipes (v_t_wide_L80 + 1) v_t_size v_t_place v_t_number v_t_thrown v_t_wish v_t_found)), ((a_t 1), .inl (cI, 40, .inl f_t_kinds)), ((a_t 6), .inl (cI, 40, .inl f_t_positions)), ((a_t 8), .inl (cI, 160, .inl f_t_ends)), ((a_t 12), .inl (cI, 120, .inl f_t_at)), ((a_t 13), .inl (cI, 120, .inl f_t_ports)), ((a_t 14), .inl (cI, 120, .inl f_t_bends)), ((a_t 15), .inl (cI, 120, .inl f_t_left_c2)), ((a_t 16), .inl (cI, 60, .inl (upd f_t_way_L80 v_t_wide_L80.toNatClampNeg x3_L80)))] := hD.sub (ws' := [(q_t, .inr (7, o_Mo a_t v_t_things v_t_pipes (v_t_wide_L80 + 1) v_t_size v_t_place v_t_number v_t_thrown v_t_wish v_t_found)), ((a_t 1), .inl (cI, 40, .inl f_t_kinds)), ((a_t 6), .inl (cI, 40, .inl f_t_positions)), ((a_t 8), .inl (cI, 160, .inl f_t_ends)), ((a_t 12), .inl (cI, 120, .inl f_t_at)), ((a_t 13), .inl (cI, 120, .inl f_t_ports)), ((a_t 14), .inl (cI, 120, .inl f_t_bends)), ((a_t 15), .inl (cI, 120, .inl f_t_left_c2)), ((a_t 16), .inl (cI, 60, .inl (upd f_t_way_L80 v_t_wide_L80.toNatClampNeg x3_L80)))]) [2, 3, 4, 5, 6, 7, 8, 0, 1] (by decide) rfl
                  refine lv_istore (lv' := [(7, .int r138), (0, .ref q_t), (3, .int x3_L80), (4, .int ((f_t_left_c2 x3_L80.toNatClampNeg) - 1)), (5, .int x5_L121), (6, .int x6_L121)]) hx hb d_Mo_find_141 hl (by decide) rfl (fun ls hl => ?_)
                  refine lv_iload hx hb d_Mo_find_143 (lv_at hl 0 rfl) ?_
                  refine lv_iconst (v := (-1)) hx hb d_Mo_find_145 (by decide) ?_
                  refine lv_icmp_eq (tgt := 179) hx hb d_Mo_find_146 (by decide) (fun c146 => ?_) (fun c146 => ?_)
                  · replace hw := hw.1 c146
                    refine lv_iload hx hb d_Mo_find_179 (lv_at hl 4 rfl) ?_
                    refine lv_istore (lv' := [(5, .int x5_L121), (7, .int r138), (0, .ref q_t), (3, .int x3_L80), (4, .int ((f_t_left_c2 x3_L80.toNatClampNeg) - 1)), (6, .int x6_L121)]) hx hb d_Mo_find_181 hl (by decide) rfl (fun ls hl => ?_)
                    refine lv_iinc (v := (x6_L121 + 1)) (lv' := [(6, .int (x6_L121 + 1)), (5, .int x5_L121), (7, .int r138), (0, .ref q_t), (3, .int x3_L80), (4, .int ((f_t_left_c2 x3_L80.toNatClampNeg) - 1))]) hx hb d_Mo_find_183 hl (k := 5) rfl rfl (by decide) rfl (fun ls hl => ?_)
                    refine lv_goto (tgt := 121) hx hb d_Mo_find_186 (by decide) ?_
                    exact ih_121 x5_L121 (x6_L121 + 1) H _ _ hP hD hS (lv_sub hl [3, 4, 5, 1, 0] rfl) hw
                  · replace hw := hw.2 c146
                    refine lv_aload_n hx hb d_Mo_find_149 rfl (lv_at hl 1 rfl) ?_
                    refine va_get (D := (dC, dI)) (ci := 7) (v := .ref (a_t 15)) (C := R_Mo) (T := F_Mo) (N := 29) hx hb hts i_Mo hown hK hP 0 rfl rfl 15 (by decide) (hts (Cond.fieldLink R_Mo 51 "PlantGraphModel" "left" "[I") kw31_877a595) (fun _ h9 => h9) rfl d_Mo_find_150 ?_
                    refine lv_iload hx hb d_Mo_find_153 (lv_at hl 0 rfl) ?_
                    refine va_iald hx hb hK hP 7 0 rfl rfl hw.1 d_Mo_find_155 ?_
                    replace hw := hw.2
                    refine lv_iload hx hb d_Mo_find_156 (lv_at hl 3 rfl) ?_
                    refine lv_icmp_ne (tgt := 179) hx hb d_Mo_find_158 (by decide) (fun c158 => ?_) (fun c158 => ?_)
                    · replace hw := hw.1 c158
                      refine lv_iload hx hb d_Mo_find_179 (lv_at hl 4 rfl) ?_
                      refine lv_istore (lv' := [(5, .int x5_L121), (7, .int r138), (0, .ref q_t), (3, .int x3_L80), (4, .int ((f_t_left_c2 x3_L80.toNatClampNeg) - 1)), (6, .int x6_L121)]) hx hb d_Mo_find_181 hl (by decide) rfl (fun ls hl => ?_)
                      refine lv_iinc (v := (x6_L121 + 1)) (lv' := [(6, .int (x6_L121 + 1)), (5, .int x5_L121), (7, .int r138), (0, .ref q_t), (3, .int x3_L80), (4, .int ((f_t_left_c2 x3_L80.toNatClampNeg) - 1))]) hx hb d_Mo_find_183 hl (k := 5) rfl rfl (by decide) rfl (fun ls hl => ?_)
                      refine lv_goto (tgt := 121) hx hb d_Mo_find_186 (by decide) ?_
                      exact ih_121 x5_L121 (x6_L121 + 1) H _ _ hP hD hS (lv_sub hl [3, 4, 5, 1, 0] rfl) hw
                    · replace hw := hw.2 c158
                      refine lv_iload hx hb d_Mo_find_161 (lv_at hl 4 rfl) ?_
                      refine lv_iconst (v := (-1)) hx hb d_Mo_find_163 (by decide) ?_
                      refine lv_icmp_eq (tgt := 174) hx hb d_Mo_find_164 (by decide) (fun c164 => ?_) (fun c164 => ?_)
                      · replace hw := hw.1 c164
                        refine lv_iload hx hb d_Mo_find_174 (lv_at hl 0 rfl) ?_
                        refine lv_goto (tgt := 181) hx hb d_Mo_find_176 (by decide) ?_
                        refine lv_istore (lv' := [(5, .int r138), (7, .int r138), (0, .ref q_t), (3, .int x3_L80), (4, .int ((f_t_left_c2 x3_L80.toNatClampNeg) - 1)), (6, .int x6_L121)]) hx hb d_Mo_find_181 hl (by decide) rfl (fun ls hl => ?_)
                        refine lv_iinc (v := (x6_L121 + 1)) (lv' := [(6, .int (x6_L121 + 1)), (5, .int r138), (7, .int r138), (0, .ref q_t), (3, .int x3_L80), (4, .int ((f_t_left_c2 x3_L80.toNatClampNeg) - 1))]) hx hb d_Mo_find_183 hl (k := 5) rfl rfl (by decide) rfl (fun ls hl => ?_)
                        refine lv_goto (tgt := 121) hx hb d_Mo_find_186 (by decide) ?_
                        exact ih_121 r138 (x6_L121 + 1) H _ _ hP hD hS (lv_sub hl [3, 4, 5, 1, 0] rfl) hw
                      · replace hw := hw.2 c164
                        refine lv_iload hx hb d_Mo_find_167 (lv_at hl 0 rfl) ?_
                        refine lv_iload hx hb d_Mo_find_169 (lv_at hl 4 rfl) ?_
                        refine lv_icmp_ge (tgt := 179) hx hb d_Mo_find_171 (by decide) (fun c171 => ?_) (fun c171 => ?_)
                        · replace hw := hw.1 c171
                          refine lv_iload hx hb d_Mo_find_179 (lv_at hl 4 rfl) ?_
                          refine lv_istore (lv' := [(5, .int x5_L121), (7, .int r138), (0, .ref q_t), (3, .int x3_L80), (4, .int ((f_t_left_c2 x3_L80.toNatClampNeg) - 1)), (6, .int x6_L121)]) hx hb d_Mo_find_181 hl (by decide) rfl (fun ls hl => ?_)
                          refine lv_iinc (v := (x6_L121 + 1)) (lv' := [(6, .int (x6_L121 + 1)), (5, .int x5_L121), (7, .int r138), (0, .ref q_t), (3, .int x3_L80), (4, .int ((f_t_left_c2 x3_L80.toNatClampNeg) - 1))]) hx hb d_Mo_find_183 hl (k := 5) rfl rfl (by decide) rfl (fun ls hl => ?_)
                          refine lv_goto (tgt := 121) hx hb d_Mo_find_186 (by decide) ?_
                          exact ih_121 x5_L121 (x6_L121 + 1) H _ _ hP hD hS (lv_sub hl [3, 4, 5, 1, 0] rfl) hw
                        · replace hw := hw.2 c171
                          refine lv_iload hx hb d_Mo_find_174 (lv_at hl 0 rfl) ?_
                          refine lv_goto (tgt := 181) hx hb d_Mo_find_176 (by decide) ?_
                          refine lv_istore (lv' := [(5, .int r138), (7, .int r138), (0, .ref q_t), (3, .int x3_L80), (4, .int ((f_t_left_c2 x3_L80.toNatClampNeg) - 1)), (6, .int x6_L121)]) hx hb d_Mo_find_181 hl (by decide) rfl (fun ls hl => ?_)
                          refine lv_iinc (v := (x6_L121 + 1)) (lv' := [(6, .int (x6_L121 + 1)), (5, .int r138), (7, .int r138), (0, .ref q_t), (3, .int x3_L80), (4, .int ((f_t_left_c2 x3_L80.toNatClampNeg) - 1))]) hx hb d_Mo_find_183 hl (k := 5) rfl rfl (by decide) rfl (fun ls hl => ?_)
                          refine lv_goto (tgt := 121) hx hb d_Mo_find_186 (by decide) ?_
                          exact ih_121 r138 (x6_L121 + 1) H _ _ hP hD hS (lv_sub hl [3, 4, 5, 1, 0] rfl) hw
          exact LP_121 n_121 (-1) 0 H _ _ hP hD hS (lv_sub hl [3, 4, 2, 1, 0] rfl) hw
    exact LP_80 n_80 x3_L15 0 f_t_way H _ _ hP hD hS (lv_sub hl [0, 2] rfl) hw
  have LP_15 : ∀ (k_15 : Nat) (x3_L15 : Int32) (x4_L15 : Int32) (H : Heap) (locs : List Loc) (ls : Array Slot), va_P (dC, dI) classes [(q_t, .inr (7, o_Mo a_t v_t_things v_t_pipes 0 v_t_size v_t_place v_t_number v_t_thrown v_t_wish v_t_found)), ((a_t 1), .inl (cI, 40, .inl f_t_kinds)), ((a_t 6), .inl (cI, 40, .inl f_t_positions)), ((a_t 8), .inl (cI, 160, .inl f_t_ends)), ((a_t 12), .inl (cI, 120, .inl f_t_at)), ((a_t 13), .inl (cI, 120, .inl f_t_ports)), ((a_t 14), .inl (cI, 120, .inl f_t_bends)), ((a_t 15), .inl (cI, 120, .inl f_t_left_c2)), ((a_t 16), .inl (cI, 60, .inl f_t_way))] H → va_D A [(q_t, .inr (7, o_Mo a_t v_t_things v_t_pipes 0 v_t_size v_t_place v_t_number v_t_thrown v_t_wish v_t_found)), ((a_t 1), .inl (cI, 40, .inl f_t_kinds)), ((a_t 6), .inl (cI, 40, .inl f_t_positions)), ((a_t 8), .inl (cI, 160, .inl f_t_ends)), ((a_t 12), .inl (cI, 120, .inl f_t_at)), ((a_t 13), .inl (cI, 120, .inl f_t_ports)), ((a_t 14), .inl (cI, 120, .inl f_t_bends)), ((a_t 15), .inl (cI, 120, .inl f_t_left_c2)), ((a_t 16), .inl (cI, 60, .inl f_t_way))] → va_S A s.heap H locs → lv_has ls 8 [(0, .ref q_t), (1, .int x1), (3, .int x3_L15), (4, .int x4_L15)] → wl_Mo_find_15 v_t_pipes f_t_at x1 f_t_left_c2 (wk_Mo_find_80_15 f_t_left_c2 f_t_kinds f_t_positions f_t_ends f_t_at f_t_ports f_t_bends f_t_way P) k_15 x3_L15 x4_L15 → W p l e (headSpec w_Mo_find rm_Mo_find).room s m args below meth c H locs 0 0 (MQ below (Q_Mo_find dC dI cI cL cB q_t a_t v_t_things v_t_pipes v_t_wide v_t_size v_t_place v_t_number v_t_thrown v_t_wish v_t_found f_t_kinds f_t_positions f_t_ends f_t_at f_t_ports f_t_bends f_t_left f_t_way x1 x2 P A) args s 0 0 A) (F0 m 15 ls []) := by
    intro k_15
    induction k_15 with
    | zero => intro x3_L15 x4_L15 H locs ls hP hD hS hl hw; unfold wl_Mo_find_15 at hw; exact hw.elim
    | succ k_15 ih_15 =>
      intro x3_L15 x4_L15 H locs ls hP hD hS hl hw
      unfold wl_Mo_find_15 at hw
      refine lv_iload hx hb d_Mo_find_15 (lv_at hl 3 rfl) ?_
      refine lv_iconst (v := 2) hx hb d_Mo_find_17 (by decide) ?_
      refine lv_aload_n hx hb d_Mo_find_18 rfl (lv_at hl 0 rfl) ?_
      refine va_get (D := (dC, dI)) (ci := 7) (v := .int v_t_pipes) (C := R_Mo) (T := F_Mo) (N := 29) hx hb hts i_Mo hown hK hP 0 rfl rfl 9 (by decide) (hts (Cond.fieldLink R_Mo 98 "PlantGraphModel" "pipes" "I") kw31_189c50d) (fun _ h9 => h9) rfl d_Mo_find_19 ?_
      refine lv_imul hx hb d_Mo_find_22 ?_
      refine lv_icmp_ge (tgt := 80) hx hb d_Mo_find_23 (by decide) (fun c23 => ?_) (fun c23 => ?_)
      · replace hw := hw.1 c23
        exact EX_80 x3_L15 x4_L15 H _ _ hP hD hS (lv_sub hl [0, 1, 2, 3] rfl) hw
      · replace hw := hw.2 c23
        refine lv_aload_n hx hb d_Mo_find_26 rfl (lv_at hl 0 rfl) ?_
        refine va_get (D := (dC, dI)) (ci := 7) (v := .ref (a_t 12)) (C := R_Mo) (T := F_Mo) (N := 29) hx hb hts i_Mo hown hK hP 0 rfl rfl 12 (by decide) (hts (Cond.fieldLink R_Mo 42 "PlantGraphModel" "at" "[I") kw31_01baf06) (fun _ h9 => h9) rfl d_Mo_find_27 ?_
        refine lv_iload hx hb d_Mo_find_30 (lv_at hl 3 rfl) ?_
        refine va_iald hx hb hK hP 4 0 rfl rfl hw.1 d_Mo_find_32 ?_
        replace hw := hw.2
        refine lv_iload_n hx hb d_Mo_find_33 rfl (lv_at hl 1 rfl) ?_
        refine lv_icmp_ne (tgt := 74) hx hb d_Mo_find_34 (by decide) (fun c34 => ?_) (fun c34 => ?_)
        · replace hw := hw.1 c34
          refine lv_iinc (v := (x4_L15 + 1)) (lv' := [(4, .int (x4_L15 + 1)), (0, .ref q_t), (1, .int x1), (3, .int x3_L15)]) hx hb d_Mo_find_74 hl (k := 3) rfl rfl (by decide) rfl (fun ls hl => ?_)
          refine lv_goto (tgt := 15) hx hb d_Mo_find_77 (by decide) ?_
          exact ih_15 x3_L15 (x4_L15 + 1) H _ _ hP hD hS (lv_sub hl [1, 2, 3, 0] rfl) hw
        · replace hw := hw.2 c34
          refine lv_aload_n hx hb d_Mo_find_37 rfl (lv_at hl 0 rfl) ?_
          refine va_get (D := (dC, dI)) (ci := 7) (v := .ref (a_t 15)) (C := R_Mo) (T := F_Mo) (N := 29) hx hb hts i_Mo hown hK hP 0 rfl rfl 15 (by decide) (hts (Cond.fieldLink R_Mo 51 "PlantGraphModel" "left" "[I") kw31_877a595) (fun _ h9 => h9) rfl d_Mo_find_38 ?_
          refine lv_iload hx hb d_Mo_find_41 (lv_at hl 3 rfl) ?_
          refine va_iald hx hb hK hP 7 0 rfl rfl hw.1 d_Mo_find_43 ?_
          replace hw := hw.2
          refine lv_sipush (v := 1000) hx hb d_Mo_find_44 (by decide) ?_
          refine lv_icmp_ge (tgt := 74) hx hb d_Mo_find_47 (by decide) (fun c47 => ?_) (fun c47 => ?_)
          · replace hw := hw.1 c47
            refine lv_iinc (v := (x4_L15 + 1)) (lv' := [(4, .int (x4_L15 + 1)), (0, .ref q_t), (1, .int x1), (3, .int x3_L15)]) hx hb d_Mo_find_74 hl (k := 3) rfl rfl (by decide) rfl (fun ls hl => ?_)
            refine lv_goto (tgt := 15) hx hb d_Mo_find_77 (by decide) ?_
            exact ih_15 x3_L15 (x4_L15 + 1) H _ _ hP hD hS (lv_sub hl [1, 2, 3, 0] rfl) hw
          · replace hw := hw.2 c47
            refine lv_iload_n hx hb d_Mo_find_50 rfl (lv_at hl 2 rfl) ?_
            refine lv_iconst (v := (-1)) hx hb d_Mo_find_51 (by decide) ?_
            refine lv_icmp_eq (tgt := 71) hx hb d_Mo_find_52 (by decide) (fun c52 => ?_) (fun c52 => ?_)
            · replace hw := hw.1 c52
              refine lv_iload hx hb d_Mo_find_71 (lv_at hl 3 rfl) ?_
              refine lv_istore_n (lv' := [(3, .int x4_L15), (0, .ref q_t), (1, .int x1), (4, .int x4_L15)]) hx hb d_Mo_find_73 rfl hl (by decide) rfl (fun ls hl => ?_)
              refine lv_iinc (v := (x4_L15 + 1)) (lv' := [(4, .int (x4_L15 + 1)), (3, .int x4_L15), (0, .ref q_t), (1, .int x1)]) hx hb d_Mo_find_74 hl (k := 3) rfl rfl (by decide) rfl (fun ls hl => ?_)
              refine lv_goto (tgt := 15) hx hb d_Mo_find_77 (by decide) ?_
              exact ih_15 x4_L15 (x4_L15 + 1) H _ _ hP hD hS (lv_sub hl [2, 3, 1, 0] rfl) hw
            · replace hw := hw.2 c52
              refine lv_aload_n hx hb d_Mo_find_55 rfl (lv_at hl 0 rfl) ?_
              refine va_get (D := (dC, dI)) (ci := 7) (v := .ref (a_t 15)) (C := R_Mo) (T := F_Mo) (N := 29) hx hb hts i_Mo hown hK hP 0 rfl rfl 15 (by decide) (hts (Cond.fieldLink R_Mo 51 "PlantGraphModel" "left" "[I") kw31_877a595) (fun _ h9 => h9) rfl d_Mo_find_56 ?_
              refine lv_iload hx hb d_Mo_find_59 (lv_at hl 3 rfl) ?_
              refine va_iald hx hb hK hP 7 0 rfl rfl hw.1 d_Mo_find_61 ?_
              replace hw := hw.2
              refine lv_aload_n hx hb d_Mo_find_62 rfl (lv_at hl 0 rfl) ?_
              refine va_get (D := (dC, dI)) (ci := 7) (v := .ref (a_t 15)) (C := R_Mo) (T := F_Mo) (N := 29) hx hb hts i_Mo hown hK hP 0 rfl rfl 15 (by decide) (hts (Cond.fieldLink R_Mo 51 "PlantGraphModel" "left" "[I") kw31_877a595) (fun _ h9 => h9) rfl d_Mo_find_63 ?_
              refine lv_iload_n hx hb d_Mo_find_66 rfl (lv_at hl 2 rfl) ?_
              refine va_iald hx hb hK hP 7 0 rfl rfl hw.1 d_Mo_find_67 ?_
              replace hw := hw.2
              refine lv_icmp_ge (tgt := 74) hx hb d_Mo_find_68 (by decide) (fun c68 => ?_) (fun c68 => ?_)
              · replace hw := hw.1 c68
                refine lv_iinc (v := (x4_L15 + 1)) (lv' := [(4, .int (x4_L15 + 1)), (0, .ref q_t), (1, .int x1), (3, .int x3_L15)]) hx hb d_Mo_find_74 hl (k := 3) rfl rfl (by decide) rfl (fun ls hl => ?_)
                refine lv_goto (tgt := 15) hx hb d_Mo_find_77 (by decide) ?_
                exact ih_15 x3_L15 (x4_L15 + 1) H _ _ hP hD hS (lv_sub hl [1, 2, 3, 0] rfl) hw
              · replace hw := hw.2 c68
                refine lv_iload hx hb d_Mo_find_71 (lv_at hl 3 rfl) ?_
                refine lv_istore_n (lv' := [(3, .int x4_L15), (0, .ref q_t), (1, .int x1), (4, .int x4_L15)]) hx hb d_Mo_find_73 rfl hl (by decide) rfl (fun ls hl => ?_)
                refine lv_iinc (v := (x4_L15 + 1)) (lv' := [(4, .int (x4_L15 + 1)), (3, .int x4_L15), (0, .ref q_t), (1, .int x1)]) hx hb d_Mo_find_74 hl (k := 3) rfl rfl (by decide) rfl (fun ls hl => ?_)
                refine lv_goto (tgt := 15) hx hb d_Mo_find_77 (by decide) ?_
                exact ih_15 x4_L15 (x4_L15 + 1) H _ _ hP hD hS (lv_sub hl [2, 3, 1, 0] rfl) hw
  exact LP_15 n_15 (-1) 0 H _ _ hP hD hS (lv_sub hl [2, 3, 1, 0] rfl) hw
