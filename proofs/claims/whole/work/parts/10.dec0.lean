theorem d_PG_isBetween_0 : decode b_PG_isBetween 0 = .ok (.lload_n 0, 1) := by decide +kernel
theorem d_PG_isBetween_1 : decode b_PG_isBetween 1 = .ok (.lload_n 2, 1) := by decide +kernel
theorem d_PG_isBetween_2 : decode b_PG_isBetween 2 = .ok (.lcmp, 1) := by decide +kernel
theorem d_PG_isBetween_3 : decode b_PG_isBetween 3 = .ok (.ifCond .lt 14, 3) := by decide +kernel
theorem d_PG_isBetween_6 : decode b_PG_isBetween 6 = .ok (.lload_n 0, 1) := by decide +kernel
theorem d_PG_isBetween_7 : decode b_PG_isBetween 7 = .ok (.lload 4, 2) := by decide +kernel
theorem d_PG_isBetween_9 : decode b_PG_isBetween 9 = .ok (.lcmp, 1) := by decide +kernel
theorem d_PG_isBetween_10 : decode b_PG_isBetween 10 = .ok (.ifCond .gt 7, 3) := by decide +kernel
theorem d_PG_isBetween_13 : decode b_PG_isBetween 13 = .ok (.iconst 1, 1) := by decide +kernel
theorem d_PG_isBetween_14 : decode b_PG_isBetween 14 = .ok (.goto 4, 3) := by decide +kernel
theorem d_PG_isBetween_17 : decode b_PG_isBetween 17 = .ok (.iconst 0, 1) := by decide +kernel
theorem d_PG_isBetween_18 : decode b_PG_isBetween 18 = .ok (.ireturn, 1) := by decide +kernel
theorem d_PG_isPosition_0 : decode b_PG_isPosition 0 = .ok (.iload_n 0, 1) := by decide +kernel
theorem d_PG_isPosition_1 : decode b_PG_isPosition 1 = .ok (.i2l, 1) := by decide +kernel
theorem d_PG_isPosition_2 : decode b_PG_isPosition 2 = .ok (.lconst 0, 1) := by decide +kernel
theorem d_PG_isPosition_3 : decode b_PG_isPosition 3 = .ok (.ldc2_w 170, 3) := by decide +kernel
theorem d_PG_isPosition_6 : decode b_PG_isPosition 6 = .ok (.invokestatic 113, 3) := by decide +kernel
theorem d_PG_isPosition_9 : decode b_PG_isPosition 9 = .ok (.ireturn, 1) := by decide +kernel
theorem d_Pl_isThing_0 : decode b_Pl_isThing 0 = .ok (.iload_n 1, 1) := by decide +kernel
theorem d_Pl_isThing_1 : decode b_Pl_isThing 1 = .ok (.ifCond .lt 15, 3) := by decide +kernel
theorem d_Pl_isThing_4 : decode b_Pl_isThing 4 = .ok (.iload_n 1, 1) := by decide +kernel
theorem d_Pl_isThing_5 : decode b_Pl_isThing 5 = .ok (.aload_n 0, 1) := by decide +kernel
theorem d_Pl_isThing_6 : decode b_Pl_isThing 6 = .ok (.getfield 55, 3) := by decide +kernel
theorem d_Pl_isThing_9 : decode b_Pl_isThing 9 = .ok (.if_icmp .ge 7, 3) := by decide +kernel
theorem d_Pl_isThing_12 : decode b_Pl_isThing 12 = .ok (.iconst 1, 1) := by decide +kernel
theorem d_Pl_isThing_13 : decode b_Pl_isThing 13 = .ok (.goto 4, 3) := by decide +kernel
theorem d_Pl_isThing_16 : decode b_Pl_isThing 16 = .ok (.iconst 0, 1) := by decide +kernel
theorem d_Pl_isThing_17 : decode b_Pl_isThing 17 = .ok (.ireturn, 1) := by decide +kernel
theorem d_Pl_isTank_0 : decode b_Pl_isTank 0 = .ok (.aload_n 0, 1) := by decide +kernel
theorem d_Pl_isTank_1 : decode b_Pl_isTank 1 = .ok (.iload_n 1, 1) := by decide +kernel
theorem d_Pl_isTank_2 : decode b_Pl_isTank 2 = .ok (.invokevirtual 65, 3) := by decide +kernel
theorem d_Pl_isTank_5 : decode b_Pl_isTank 5 = .ok (.ifCond .eq 18, 3) := by decide +kernel
theorem d_Pl_isTank_8 : decode b_Pl_isTank 8 = .ok (.aload_n 0, 1) := by decide +kernel
theorem d_Pl_isTank_9 : decode b_Pl_isTank 9 = .ok (.getfield 9, 3) := by decide +kernel
theorem d_Pl_isTank_12 : decode b_Pl_isTank 12 = .ok (.iload_n 1, 1) := by decide +kernel
theorem d_Pl_isTank_13 : decode b_Pl_isTank 13 = .ok (.iaload, 1) := by decide +kernel
theorem d_Pl_isTank_14 : decode b_Pl_isTank 14 = .ok (.bipush 10, 2) := by decide +kernel
theorem d_Pl_isTank_16 : decode b_Pl_isTank 16 = .ok (.if_icmp .ne 7, 3) := by decide +kernel
theorem d_Pl_isTank_19 : decode b_Pl_isTank 19 = .ok (.iconst 1, 1) := by decide +kernel
theorem d_Pl_isTank_20 : decode b_Pl_isTank 20 = .ok (.goto 4, 3) := by decide +kernel
theorem d_Pl_isTank_23 : decode b_Pl_isTank 23 = .ok (.iconst 0, 1) := by decide +kernel
theorem d_Pl_isTank_24 : decode b_Pl_isTank 24 = .ok (.ireturn, 1) := by decide +kernel
theorem d_Pl_isValve_0 : decode b_Pl_isValve 0 = .ok (.aload_n 0, 1) := by decide +kernel
theorem d_Pl_isValve_1 : decode b_Pl_isValve 1 = .ok (.iload_n 1, 1) := by decide +kernel
theorem d_Pl_isValve_2 : decode b_Pl_isValve 2 = .ok (.invokevirtual 65, 3) := by decide +kernel
theorem d_Pl_isValve_5 : decode b_Pl_isValve 5 = .ok (.ifCond .eq 18, 3) := by decide +kernel
theorem d_Pl_isValve_8 : decode b_Pl_isValve 8 = .ok (.aload_n 0, 1) := by decide +kernel
theorem d_Pl_isValve_9 : decode b_Pl_isValve 9 = .ok (.getfield 9, 3) := by decide +kernel
theorem d_Pl_isValve_12 : decode b_Pl_isValve 12 = .ok (.iload_n 1, 1) := by decide +kernel
theorem d_Pl_isValve_13 : decode b_Pl_isValve 13 = .ok (.iaload, 1) := by decide +kernel
theorem d_Pl_isValve_14 : decode b_Pl_isValve 14 = .ok (.bipush 9, 2) := by decide +kernel
theorem d_Pl_isValve_16 : decode b_Pl_isValve 16 = .ok (.if_icmp .ge 7, 3) := by decide +kernel
theorem d_Pl_isValve_19 : decode b_Pl_isValve 19 = .ok (.iconst 1, 1) := by decide +kernel
theorem d_Pl_isValve_20 : decode b_Pl_isValve 20 = .ok (.goto 4, 3) := by decide +kernel
theorem d_Pl_isValve_23 : decode b_Pl_isValve 23 = .ok (.iconst 0, 1) := by decide +kernel
theorem d_Pl_isValve_24 : decode b_Pl_isValve 24 = .ok (.ireturn, 1) := by decide +kernel
theorem d_Pl_isPipe_0 : decode b_Pl_isPipe 0 = .ok (.iload_n 1, 1) := by decide +kernel
theorem d_Pl_isPipe_1 : decode b_Pl_isPipe 1 = .ok (.ifCond .lt 15, 3) := by decide +kernel
theorem d_Pl_isPipe_4 : decode b_Pl_isPipe 4 = .ok (.iload_n 1, 1) := by decide +kernel
theorem d_Pl_isPipe_5 : decode b_Pl_isPipe 5 = .ok (.aload_n 0, 1) := by decide +kernel
theorem d_Pl_isPipe_6 : decode b_Pl_isPipe 6 = .ok (.getfield 59, 3) := by decide +kernel
theorem d_Pl_isPipe_9 : decode b_Pl_isPipe 9 = .ok (.if_icmp .ge 7, 3) := by decide +kernel
theorem d_Pl_isPipe_12 : decode b_Pl_isPipe 12 = .ok (.iconst 1, 1) := by decide +kernel
theorem d_Pl_isPipe_13 : decode b_Pl_isPipe 13 = .ok (.goto 4, 3) := by decide +kernel
theorem d_Pl_isPipe_16 : decode b_Pl_isPipe 16 = .ok (.iconst 0, 1) := by decide +kernel
theorem d_Pl_isPipe_17 : decode b_Pl_isPipe 17 = .ok (.ireturn, 1) := by decide +kernel
