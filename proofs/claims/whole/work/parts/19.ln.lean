theorem d_Ln_addByte_0 : decode b_Ln_addByte 0 = .ok (.aload_n 0, 1) := by decide +kernel
theorem d_Ln_addByte_1 : decode b_Ln_addByte 1 = .ok (.getfield 15, 3) := by decide +kernel
theorem d_Ln_addByte_4 : decode b_Ln_addByte 4 = .ok (.bipush 15, 2) := by decide +kernel
theorem d_Ln_addByte_6 : decode b_Ln_addByte 6 = .ok (.if_icmp .ge 24, 3) := by decide +kernel
theorem d_Ln_addByte_9 : decode b_Ln_addByte 9 = .ok (.aload_n 0, 1) := by decide +kernel
theorem d_Ln_addByte_10 : decode b_Ln_addByte 10 = .ok (.getfield 11, 3) := by decide +kernel
theorem d_Ln_addByte_13 : decode b_Ln_addByte 13 = .ok (.aload_n 0, 1) := by decide +kernel
theorem d_Ln_addByte_14 : decode b_Ln_addByte 14 = .ok (.getfield 15, 3) := by decide +kernel
theorem d_Ln_addByte_17 : decode b_Ln_addByte 17 = .ok (.iload_n 1, 1) := by decide +kernel
theorem d_Ln_addByte_18 : decode b_Ln_addByte 18 = .ok (.i2b, 1) := by decide +kernel
theorem d_Ln_addByte_19 : decode b_Ln_addByte 19 = .ok (.bastore, 1) := by decide +kernel
theorem d_Ln_addByte_20 : decode b_Ln_addByte 20 = .ok (.aload_n 0, 1) := by decide +kernel
theorem d_Ln_addByte_21 : decode b_Ln_addByte 21 = .ok (.dup, 1) := by decide +kernel
theorem d_Ln_addByte_22 : decode b_Ln_addByte 22 = .ok (.getfield 15, 3) := by decide +kernel
theorem d_Ln_addByte_25 : decode b_Ln_addByte 25 = .ok (.iconst 1, 1) := by decide +kernel
theorem d_Ln_addByte_26 : decode b_Ln_addByte 26 = .ok (.iadd, 1) := by decide +kernel
theorem d_Ln_addByte_27 : decode b_Ln_addByte 27 = .ok (.putfield 15, 3) := by decide +kernel
theorem d_Ln_addByte_30 : decode b_Ln_addByte 30 = .ok (.return_, 1) := by decide +kernel
theorem d_Ln_byteAt_0 : decode b_Ln_byteAt 0 = .ok (.iload_n 1, 1) := by decide +kernel
theorem d_Ln_byteAt_1 : decode b_Ln_byteAt 1 = .ok (.ifCond .lt 26, 3) := by decide +kernel
theorem d_Ln_byteAt_4 : decode b_Ln_byteAt 4 = .ok (.iload_n 1, 1) := by decide +kernel
theorem d_Ln_byteAt_5 : decode b_Ln_byteAt 5 = .ok (.aload_n 0, 1) := by decide +kernel
theorem d_Ln_byteAt_6 : decode b_Ln_byteAt 6 = .ok (.getfield 15, 3) := by decide +kernel
theorem d_Ln_byteAt_9 : decode b_Ln_byteAt 9 = .ok (.if_icmp .ge 18, 3) := by decide +kernel
theorem d_Ln_byteAt_12 : decode b_Ln_byteAt 12 = .ok (.iload_n 1, 1) := by decide +kernel
theorem d_Ln_byteAt_13 : decode b_Ln_byteAt 13 = .ok (.bipush 15, 2) := by decide +kernel
theorem d_Ln_byteAt_15 : decode b_Ln_byteAt 15 = .ok (.if_icmp .ge 12, 3) := by decide +kernel
theorem d_Ln_byteAt_18 : decode b_Ln_byteAt 18 = .ok (.aload_n 0, 1) := by decide +kernel
theorem d_Ln_byteAt_19 : decode b_Ln_byteAt 19 = .ok (.getfield 11, 3) := by decide +kernel
theorem d_Ln_byteAt_22 : decode b_Ln_byteAt 22 = .ok (.iload_n 1, 1) := by decide +kernel
theorem d_Ln_byteAt_23 : decode b_Ln_byteAt 23 = .ok (.baload, 1) := by decide +kernel
theorem d_Ln_byteAt_24 : decode b_Ln_byteAt 24 = .ok (.goto 4, 3) := by decide +kernel
theorem d_Ln_byteAt_27 : decode b_Ln_byteAt 27 = .ok (.iconst (-1), 1) := by decide +kernel
theorem d_Ln_byteAt_28 : decode b_Ln_byteAt 28 = .ok (.ireturn, 1) := by decide +kernel
theorem d_Ln_addWord_0 : decode b_Ln_addWord 0 = .ok (.iconst 0, 1) := by decide +kernel
theorem d_Ln_addWord_1 : decode b_Ln_addWord 1 = .ok (.istore_n 2, 1) := by decide +kernel
theorem d_Ln_addWord_2 : decode b_Ln_addWord 2 = .ok (.iload_n 2, 1) := by decide +kernel
theorem d_Ln_addWord_3 : decode b_Ln_addWord 3 = .ok (.aload_n 1, 1) := by decide +kernel
theorem d_Ln_addWord_4 : decode b_Ln_addWord 4 = .ok (.invokevirtual 61, 3) := by decide +kernel
theorem d_Ln_addWord_7 : decode b_Ln_addWord 7 = .ok (.if_icmp .ge 18, 3) := by decide +kernel
theorem d_Ln_addWord_10 : decode b_Ln_addWord 10 = .ok (.aload_n 0, 1) := by decide +kernel
theorem d_Ln_addWord_11 : decode b_Ln_addWord 11 = .ok (.aload_n 1, 1) := by decide +kernel
theorem d_Ln_addWord_12 : decode b_Ln_addWord 12 = .ok (.iload_n 2, 1) := by decide +kernel
theorem d_Ln_addWord_13 : decode b_Ln_addWord 13 = .ok (.invokevirtual 66, 3) := by decide +kernel
theorem d_Ln_addWord_16 : decode b_Ln_addWord 16 = .ok (.invokevirtual 42, 3) := by decide +kernel
theorem d_Ln_addWord_19 : decode b_Ln_addWord 19 = .ok (.iinc 2 1, 3) := by decide +kernel
theorem d_Ln_addWord_22 : decode b_Ln_addWord 22 = .ok (.goto (-20), 3) := by decide +kernel
theorem d_Ln_addWord_25 : decode b_Ln_addWord 25 = .ok (.return_, 1) := by decide +kernel
theorem d_Ln_addNumber_0 : decode b_Ln_addNumber 0 = .ok (.iconst 0, 1) := by decide +kernel
theorem d_Ln_addNumber_1 : decode b_Ln_addNumber 1 = .ok (.istore_n 2, 1) := by decide +kernel
theorem d_Ln_addNumber_2 : decode b_Ln_addNumber 2 = .ok (.ldc 60, 2) := by decide +kernel
theorem d_Ln_addNumber_4 : decode b_Ln_addNumber 4 = .ok (.istore_n 3, 1) := by decide +kernel
theorem d_Ln_addNumber_5 : decode b_Ln_addNumber 5 = .ok (.iload_n 3, 1) := by decide +kernel
theorem d_Ln_addNumber_6 : decode b_Ln_addNumber 6 = .ok (.iconst 1, 1) := by decide +kernel
theorem d_Ln_addNumber_7 : decode b_Ln_addNumber 7 = .ok (.if_icmp .lt 52, 3) := by decide +kernel
theorem d_Ln_addNumber_10 : decode b_Ln_addNumber 10 = .ok (.iload_n 1, 1) := by decide +kernel
theorem d_Ln_addNumber_11 : decode b_Ln_addNumber 11 = .ok (.iload_n 3, 1) := by decide +kernel
theorem d_Ln_addNumber_12 : decode b_Ln_addNumber 12 = .ok (.idiv, 1) := by decide +kernel
theorem d_Ln_addNumber_13 : decode b_Ln_addNumber 13 = .ok (.bipush 10, 2) := by decide +kernel
theorem d_Ln_addNumber_15 : decode b_Ln_addNumber 15 = .ok (.irem, 1) := by decide +kernel
theorem d_Ln_addNumber_16 : decode b_Ln_addNumber 16 = .ok (.istore 4, 2) := by decide +kernel
theorem d_Ln_addNumber_18 : decode b_Ln_addNumber 18 = .ok (.iload_n 2, 1) := by decide +kernel
theorem d_Ln_addNumber_19 : decode b_Ln_addNumber 19 = .ok (.ifCond .ne 13, 3) := by decide +kernel
theorem d_Ln_addNumber_22 : decode b_Ln_addNumber 22 = .ok (.iload 4, 2) := by decide +kernel
theorem d_Ln_addNumber_24 : decode b_Ln_addNumber 24 = .ok (.ifCond .gt 8, 3) := by decide +kernel
theorem d_Ln_addNumber_27 : decode b_Ln_addNumber 27 = .ok (.iload_n 3, 1) := by decide +kernel
theorem d_Ln_addNumber_28 : decode b_Ln_addNumber 28 = .ok (.iconst 1, 1) := by decide +kernel
theorem d_Ln_addNumber_29 : decode b_Ln_addNumber 29 = .ok (.if_icmp .ne 7, 3) := by decide +kernel
theorem d_Ln_addNumber_32 : decode b_Ln_addNumber 32 = .ok (.iconst 1, 1) := by decide +kernel
theorem d_Ln_addNumber_33 : decode b_Ln_addNumber 33 = .ok (.goto 4, 3) := by decide +kernel
theorem d_Ln_addNumber_36 : decode b_Ln_addNumber 36 = .ok (.iconst 0, 1) := by decide +kernel
theorem d_Ln_addNumber_37 : decode b_Ln_addNumber 37 = .ok (.istore_n 2, 1) := by decide +kernel
theorem d_Ln_addNumber_38 : decode b_Ln_addNumber 38 = .ok (.iload_n 2, 1) := by decide +kernel
theorem d_Ln_addNumber_39 : decode b_Ln_addNumber 39 = .ok (.ifCond .eq 12, 3) := by decide +kernel
theorem d_Ln_addNumber_42 : decode b_Ln_addNumber 42 = .ok (.aload_n 0, 1) := by decide +kernel
theorem d_Ln_addNumber_43 : decode b_Ln_addNumber 43 = .ok (.bipush 48, 2) := by decide +kernel
theorem d_Ln_addNumber_45 : decode b_Ln_addNumber 45 = .ok (.iload 4, 2) := by decide +kernel
theorem d_Ln_addNumber_47 : decode b_Ln_addNumber 47 = .ok (.iadd, 1) := by decide +kernel
theorem d_Ln_addNumber_48 : decode b_Ln_addNumber 48 = .ok (.invokevirtual 42, 3) := by decide +kernel
theorem d_Ln_addNumber_51 : decode b_Ln_addNumber 51 = .ok (.iload_n 3, 1) := by decide +kernel
theorem d_Ln_addNumber_52 : decode b_Ln_addNumber 52 = .ok (.bipush 10, 2) := by decide +kernel
theorem d_Ln_addNumber_54 : decode b_Ln_addNumber 54 = .ok (.idiv, 1) := by decide +kernel
theorem d_Ln_addNumber_55 : decode b_Ln_addNumber 55 = .ok (.istore_n 3, 1) := by decide +kernel
theorem d_Ln_addNumber_56 : decode b_Ln_addNumber 56 = .ok (.goto (-51), 3) := by decide +kernel
theorem d_Ln_addNumber_59 : decode b_Ln_addNumber 59 = .ok (.return_, 1) := by decide +kernel
theorem d_Ln_addEnd_0 : decode b_Ln_addEnd 0 = .ok (.iload_n 1, 1) := by decide +kernel
theorem d_Ln_addEnd_1 : decode b_Ln_addEnd 1 = .ok (.iconst (-1), 1) := by decide +kernel
theorem d_Ln_addEnd_2 : decode b_Ln_addEnd 2 = .ok (.if_icmp .ne 12, 3) := by decide +kernel
theorem d_Ln_addEnd_5 : decode b_Ln_addEnd 5 = .ok (.aload_n 0, 1) := by decide +kernel
theorem d_Ln_addEnd_6 : decode b_Ln_addEnd 6 = .ok (.ldc 58, 2) := by decide +kernel
theorem d_Ln_addEnd_8 : decode b_Ln_addEnd 8 = .ok (.invokevirtual 27, 3) := by decide +kernel
theorem d_Ln_addEnd_11 : decode b_Ln_addEnd 11 = .ok (.goto 8, 3) := by decide +kernel
theorem d_Ln_addEnd_14 : decode b_Ln_addEnd 14 = .ok (.aload_n 0, 1) := by decide +kernel
theorem d_Ln_addEnd_15 : decode b_Ln_addEnd 15 = .ok (.iload_n 1, 1) := by decide +kernel
theorem d_Ln_addEnd_16 : decode b_Ln_addEnd 16 = .ok (.invokevirtual 34, 3) := by decide +kernel
theorem d_Ln_addEnd_19 : decode b_Ln_addEnd 19 = .ok (.return_, 1) := by decide +kernel
theorem d_Ln_setToThing_0 : decode b_Ln_setToThing 0 = .ok (.aload_n 0, 1) := by decide +kernel
theorem d_Ln_setToThing_1 : decode b_Ln_setToThing 1 = .ok (.iconst 0, 1) := by decide +kernel
theorem d_Ln_setToThing_2 : decode b_Ln_setToThing 2 = .ok (.putfield 15, 3) := by decide +kernel
theorem d_Ln_setToThing_5 : decode b_Ln_setToThing 5 = .ok (.aload_n 1, 1) := by decide +kernel
theorem d_Ln_setToThing_6 : decode b_Ln_setToThing 6 = .ok (.getfield 19, 3) := by decide +kernel
theorem d_Ln_setToThing_9 : decode b_Ln_setToThing 9 = .ok (.iload_n 2, 1) := by decide +kernel
theorem d_Ln_setToThing_10 : decode b_Ln_setToThing 10 = .ok (.iaload, 1) := by decide +kernel
theorem d_Ln_setToThing_11 : decode b_Ln_setToThing 11 = .ok (.lookupswitch 53 #[(9, 44), (10, 25)], 25) := by decide +kernel
theorem d_Ln_setToThing_36 : decode b_Ln_setToThing 36 = .ok (.aload_n 0, 1) := by decide +kernel
theorem d_Ln_setToThing_37 : decode b_Ln_setToThing 37 = .ok (.ldc 25, 2) := by decide +kernel
theorem d_Ln_setToThing_39 : decode b_Ln_setToThing 39 = .ok (.invokevirtual 27, 3) := by decide +kernel
theorem d_Ln_setToThing_42 : decode b_Ln_setToThing 42 = .ok (.aload_n 0, 1) := by decide +kernel
theorem d_Ln_setToThing_43 : decode b_Ln_setToThing 43 = .ok (.aload_n 1, 1) := by decide +kernel
theorem d_Ln_setToThing_44 : decode b_Ln_setToThing 44 = .ok (.getfield 31, 3) := by decide +kernel
theorem d_Ln_setToThing_47 : decode b_Ln_setToThing 47 = .ok (.iload_n 2, 1) := by decide +kernel
theorem d_Ln_setToThing_48 : decode b_Ln_setToThing 48 = .ok (.iaload, 1) := by decide +kernel
theorem d_Ln_setToThing_49 : decode b_Ln_setToThing 49 = .ok (.invokevirtual 34, 3) := by decide +kernel
theorem d_Ln_setToThing_52 : decode b_Ln_setToThing 52 = .ok (.goto 28, 3) := by decide +kernel
theorem d_Ln_setToThing_55 : decode b_Ln_setToThing 55 = .ok (.aload_n 0, 1) := by decide +kernel
theorem d_Ln_setToThing_56 : decode b_Ln_setToThing 56 = .ok (.ldc 38, 2) := by decide +kernel
theorem d_Ln_setToThing_58 : decode b_Ln_setToThing 58 = .ok (.invokevirtual 27, 3) := by decide +kernel
theorem d_Ln_setToThing_61 : decode b_Ln_setToThing 61 = .ok (.goto 19, 3) := by decide +kernel
theorem d_Ln_setToThing_64 : decode b_Ln_setToThing 64 = .ok (.aload_n 0, 1) := by decide +kernel
theorem d_Ln_setToThing_65 : decode b_Ln_setToThing 65 = .ok (.ldc 40, 2) := by decide +kernel
theorem d_Ln_setToThing_67 : decode b_Ln_setToThing 67 = .ok (.invokevirtual 27, 3) := by decide +kernel
theorem d_Ln_setToThing_70 : decode b_Ln_setToThing 70 = .ok (.aload_n 0, 1) := by decide +kernel
theorem d_Ln_setToThing_71 : decode b_Ln_setToThing 71 = .ok (.aload_n 1, 1) := by decide +kernel
theorem d_Ln_setToThing_72 : decode b_Ln_setToThing 72 = .ok (.getfield 19, 3) := by decide +kernel
theorem d_Ln_setToThing_75 : decode b_Ln_setToThing 75 = .ok (.iload_n 2, 1) := by decide +kernel
theorem d_Ln_setToThing_76 : decode b_Ln_setToThing 76 = .ok (.iaload, 1) := by decide +kernel
theorem d_Ln_setToThing_77 : decode b_Ln_setToThing 77 = .ok (.invokevirtual 34, 3) := by decide +kernel
theorem d_Ln_setToThing_80 : decode b_Ln_setToThing 80 = .ok (.aload_n 0, 1) := by decide +kernel
theorem d_Ln_setToThing_81 : decode b_Ln_setToThing 81 = .ok (.bipush 10, 2) := by decide +kernel
theorem d_Ln_setToThing_83 : decode b_Ln_setToThing 83 = .ok (.invokevirtual 42, 3) := by decide +kernel
theorem d_Ln_setToThing_86 : decode b_Ln_setToThing 86 = .ok (.return_, 1) := by decide +kernel
theorem d_Ln_setToPipe_0 : decode b_Ln_setToPipe 0 = .ok (.aload_n 0, 1) := by decide +kernel
theorem d_Ln_setToPipe_1 : decode b_Ln_setToPipe 1 = .ok (.iconst 0, 1) := by decide +kernel
theorem d_Ln_setToPipe_2 : decode b_Ln_setToPipe 2 = .ok (.putfield 15, 3) := by decide +kernel
theorem d_Ln_setToPipe_5 : decode b_Ln_setToPipe 5 = .ok (.aload_n 0, 1) := by decide +kernel
theorem d_Ln_setToPipe_6 : decode b_Ln_setToPipe 6 = .ok (.ldc 45, 2) := by decide +kernel
theorem d_Ln_setToPipe_8 : decode b_Ln_setToPipe 8 = .ok (.invokevirtual 27, 3) := by decide +kernel
theorem d_Ln_setToPipe_11 : decode b_Ln_setToPipe 11 = .ok (.aload_n 0, 1) := by decide +kernel
theorem d_Ln_setToPipe_12 : decode b_Ln_setToPipe 12 = .ok (.aload_n 1, 1) := by decide +kernel
theorem d_Ln_setToPipe_13 : decode b_Ln_setToPipe 13 = .ok (.getfield 47, 3) := by decide +kernel
theorem d_Ln_setToPipe_16 : decode b_Ln_setToPipe 16 = .ok (.iconst 2, 1) := by decide +kernel
theorem d_Ln_setToPipe_17 : decode b_Ln_setToPipe 17 = .ok (.iload_n 2, 1) := by decide +kernel
theorem d_Ln_setToPipe_18 : decode b_Ln_setToPipe 18 = .ok (.imul, 1) := by decide +kernel
theorem d_Ln_setToPipe_19 : decode b_Ln_setToPipe 19 = .ok (.iaload, 1) := by decide +kernel
theorem d_Ln_setToPipe_20 : decode b_Ln_setToPipe 20 = .ok (.invokevirtual 50, 3) := by decide +kernel
theorem d_Ln_setToPipe_23 : decode b_Ln_setToPipe 23 = .ok (.aload_n 0, 1) := by decide +kernel
theorem d_Ln_setToPipe_24 : decode b_Ln_setToPipe 24 = .ok (.ldc 53, 2) := by decide +kernel
theorem d_Ln_setToPipe_26 : decode b_Ln_setToPipe 26 = .ok (.invokevirtual 27, 3) := by decide +kernel
theorem d_Ln_setToPipe_29 : decode b_Ln_setToPipe 29 = .ok (.aload_n 0, 1) := by decide +kernel
theorem d_Ln_setToPipe_30 : decode b_Ln_setToPipe 30 = .ok (.aload_n 1, 1) := by decide +kernel
theorem d_Ln_setToPipe_31 : decode b_Ln_setToPipe 31 = .ok (.getfield 47, 3) := by decide +kernel
theorem d_Ln_setToPipe_34 : decode b_Ln_setToPipe 34 = .ok (.iconst 2, 1) := by decide +kernel
theorem d_Ln_setToPipe_35 : decode b_Ln_setToPipe 35 = .ok (.iload_n 2, 1) := by decide +kernel
theorem d_Ln_setToPipe_36 : decode b_Ln_setToPipe 36 = .ok (.imul, 1) := by decide +kernel
theorem d_Ln_setToPipe_37 : decode b_Ln_setToPipe 37 = .ok (.iconst 1, 1) := by decide +kernel
theorem d_Ln_setToPipe_38 : decode b_Ln_setToPipe 38 = .ok (.iadd, 1) := by decide +kernel
theorem d_Ln_setToPipe_39 : decode b_Ln_setToPipe 39 = .ok (.iaload, 1) := by decide +kernel
theorem d_Ln_setToPipe_40 : decode b_Ln_setToPipe 40 = .ok (.invokevirtual 50, 3) := by decide +kernel
theorem d_Ln_setToPipe_43 : decode b_Ln_setToPipe 43 = .ok (.aload_n 0, 1) := by decide +kernel
theorem d_Ln_setToPipe_44 : decode b_Ln_setToPipe 44 = .ok (.ldc 53, 2) := by decide +kernel
theorem d_Ln_setToPipe_46 : decode b_Ln_setToPipe 46 = .ok (.invokevirtual 27, 3) := by decide +kernel
theorem d_Ln_setToPipe_49 : decode b_Ln_setToPipe 49 = .ok (.aload_n 0, 1) := by decide +kernel
theorem d_Ln_setToPipe_50 : decode b_Ln_setToPipe 50 = .ok (.aload_n 1, 1) := by decide +kernel
theorem d_Ln_setToPipe_51 : decode b_Ln_setToPipe 51 = .ok (.getfield 55, 3) := by decide +kernel
theorem d_Ln_setToPipe_54 : decode b_Ln_setToPipe 54 = .ok (.iload_n 2, 1) := by decide +kernel
theorem d_Ln_setToPipe_55 : decode b_Ln_setToPipe 55 = .ok (.iaload, 1) := by decide +kernel
theorem d_Ln_setToPipe_56 : decode b_Ln_setToPipe 56 = .ok (.invokevirtual 34, 3) := by decide +kernel
theorem d_Ln_setToPipe_59 : decode b_Ln_setToPipe 59 = .ok (.aload_n 0, 1) := by decide +kernel
theorem d_Ln_setToPipe_60 : decode b_Ln_setToPipe 60 = .ok (.bipush 10, 2) := by decide +kernel
theorem d_Ln_setToPipe_62 : decode b_Ln_setToPipe 62 = .ok (.invokevirtual 42, 3) := by decide +kernel
theorem d_Ln_setToPipe_65 : decode b_Ln_setToPipe 65 = .ok (.return_, 1) := by decide +kernel
theorem kw19_ddeec2f : (Cond.fieldLink R_Ln 15 "PlantGraph$Line" "length" "I" : Cond) ∈ tb := by decide +kernel
theorem kw19_4c1e67f : (Cond.fieldLink R_Ln 11 "PlantGraph$Line" "bytes" "[B" : Cond) ∈ tb := by decide +kernel
theorem kw19_3d08528 : (Cond.methodLink R_Ln 61 y_Js_length : Cond) ∈ tb := by decide +kernel
theorem kw19_52648e2 : (Cond.instanceMethod y_Js_length : Cond) ∈ tb := by decide +kernel
theorem kw19_208a1f7 : (Cond.selects R_Js y_Js_length y_Js_length : Cond) ∈ tb := by decide +kernel
theorem kw19_224da0b : (Cond.initialized R_Js : Cond) ∈ tb := by decide +kernel
theorem kw19_b78be37 : (Cond.code y_Js_length b_Js_length 1 (some .int) : Cond) ∈ tb := by decide +kernel
theorem kw19_095929c : (Cond.methodLink R_Ln 66 y_Js_charAt : Cond) ∈ tb := by decide +kernel
theorem kw19_98e5460 : (Cond.instanceMethod y_Js_charAt : Cond) ∈ tb := by decide +kernel
theorem kw19_85a5dd6 : (Cond.selects R_Js y_Js_charAt y_Js_charAt : Cond) ∈ tb := by decide +kernel
theorem kw19_fda35e9 : (Cond.code y_Js_charAt b_Js_charAt 2 (some .char) : Cond) ∈ tb := by decide +kernel
theorem kw19_4be27de : (Cond.methodLink R_Ln 42 y_Ln_addByte : Cond) ∈ tb := by decide +kernel
theorem kw19_8d69dd5 : (Cond.instanceMethod y_Ln_addByte : Cond) ∈ tb := by decide +kernel
theorem kw19_252ecb9 : (Cond.selects R_Ln y_Ln_addByte y_Ln_addByte : Cond) ∈ tb := by decide +kernel
theorem kw19_c117f00 : (Cond.initialized R_Ln : Cond) ∈ tb := by decide +kernel
theorem kw19_7946f56 : (Cond.code y_Ln_addByte b_Ln_addByte 2 none : Cond) ∈ tb := by decide +kernel
theorem kw19_597ed11 : (Cond.constant R_Ln 60 100000 : Cond) ∈ tb := by decide +kernel
theorem kw19_d483023 : (Cond.methodLink R_Ln 34 y_Ln_addNumber : Cond) ∈ tb := by decide +kernel
theorem kw19_af35ba1 : (Cond.instanceMethod y_Ln_addNumber : Cond) ∈ tb := by decide +kernel
theorem kw19_a9ea5a0 : (Cond.selects R_Ln y_Ln_addNumber y_Ln_addNumber : Cond) ∈ tb := by decide +kernel
theorem kw19_7f6e5a3 : (Cond.code y_Ln_addNumber b_Ln_addNumber 5 none : Cond) ∈ tb := by decide +kernel
theorem kw19_992d72e : (Cond.methodLink R_Ln 27 y_Ln_addWord : Cond) ∈ tb := by decide +kernel
theorem kw19_ba13119 : (Cond.instanceMethod y_Ln_addWord : Cond) ∈ tb := by decide +kernel
theorem kw19_3a4eb80 : (Cond.selects R_Ln y_Ln_addWord y_Ln_addWord : Cond) ∈ tb := by decide +kernel
theorem kw19_8361cea : (Cond.code y_Ln_addWord b_Ln_addWord 3 none : Cond) ∈ tb := by decide +kernel
theorem kw19_a35f736 : (Cond.fieldLinkNest R_Ln 19 "PlantGraph$Plant" "kind" "[I" "PlantGraph" : Cond) ∈ tb := by decide +kernel
theorem kw19_ff53bc2 : (Cond.fieldLinkNest R_Ln 31 "PlantGraph$Plant" "capacity" "[I" "PlantGraph" : Cond) ∈ tb := by decide +kernel
theorem kw19_350cb23 : (Cond.fieldLinkNest R_Ln 47 "PlantGraph$Plant" "thingAtEnd" "[I" "PlantGraph" : Cond) ∈ tb := by decide +kernel
theorem kw19_ed4173e : (Cond.methodLink R_Ln 50 y_Ln_addEnd : Cond) ∈ tb := by decide +kernel
theorem kw19_929b066 : (Cond.instanceMethod y_Ln_addEnd : Cond) ∈ tb := by decide +kernel
theorem kw19_aba89c7 : (Cond.selects R_Ln y_Ln_addEnd y_Ln_addEnd : Cond) ∈ tb := by decide +kernel
theorem kw19_23fd4d6 : (Cond.code y_Ln_addEnd b_Ln_addEnd 2 none : Cond) ∈ tb := by decide +kernel
theorem kw19_1359592 : (Cond.fieldLinkNest R_Ln 55 "PlantGraph$Plant" "pipeLitres" "[I" "PlantGraph" : Cond) ∈ tb := by decide +kernel
def wp_Ln_addByte (v_t_length : Int32) (f_t_bytes : (Nat → Int32)) (x1 : Int32) (P : Int32 → (Nat → Int32) → Prop) : Prop := (((15 : Int32) ≤ v_t_length → P v_t_length f_t_bytes) ∧ (¬ (15 : Int32) ≤ v_t_length → (vp_in v_t_length 15 ∧ P (v_t_length + 1) (upd f_t_bytes v_t_length.toNatClampNeg (vp_nar .byte ((x1 : Int32).toInt8.toInt32))))))
def w_Ln_addByte : List Cond := .code y_Ln_addByte b_Ln_addByte 2 none :: tb
abbrev rm_Ln_addByte : Room := { frames := 0, cells := 0, slots := 0, locals := 0 }
abbrev Q_Ln_addByte (dC : Nat → ClassId) (dI : Nat → Nat → Nat) (cI cL cB : ClassId) (q_t : Nat) (q_t_bytes : Nat) (v_t_length : Int32) (f_t_bytes : (Nat → Int32)) (x1 : Int32) (P : Int32 → (Nat → Int32) → Prop) (A : Nat → Prop) : Array Value → State → Outcome → State → Prop := va_Qv (fun (u : Int32 × (Nat → Int32)) => P u.1 u.2) (fun u t => va_P (dC, dI) classes [(q_t, .inr (6, [.ref q_t_bytes, .int u.1])), (q_t_bytes, .inl (cB, 15, .inl u.2))] t.heap ∧ va_K (dC, dI) classes [(cI, .int), (cL, .long), (cB, .byte)] t ∧ va_D A [(q_t, .inr (6, [.ref q_t_bytes, .int u.1])), (q_t_bytes, .inl (cB, 15, .inl u.2))]) A
set_option maxHeartbeats 4000000 in
set_option maxRecDepth 100000 in
theorem c_Ln_addByte (l : Launch) (dC : Nat → ClassId) (dI : Nat → Nat → Nat) (cI cL cB : ClassId) (q_t : Nat) (q_t_bytes : Nat) (sz : Nat) (v_t_length : Int32) (f_t_bytes : (Nat → Int32)) (x1 : Int32) (P : Int32 → (Nat → Int32) → Prop) (hw : wp_Ln_addByte v_t_length f_t_bytes x1 P) : Met l y_Ln_addByte w_Ln_addByte rm_Ln_addByte (va_Pc [.ref q_t, .int x1] (fun U => U.heap.size = sz ∧ va_P (dC, dI) classes [(q_t, .inr (6, [.ref q_t_bytes, .int v_t_length])), (q_t_bytes, .inl (cB, 15, .inl f_t_bytes))] U.heap ∧ va_K (dC, dI) classes [(cI, .int), (cL, .long), (cB, .byte)] U ∧ va_D (fun _ => True) [(q_t, .inr (6, [.ref q_t_bytes, .int v_t_length])), (q_t_bytes, .inl (cB, 15, .inl f_t_bytes))])) (Q_Ln_addByte dC dI cI cL cB q_t q_t_bytes v_t_length f_t_bytes x1 P (va_A [(q_t, .inr (6, [.ref q_t_bytes, .int v_t_length])), (q_t_bytes, .inl (cB, 15, .inl f_t_bytes))] sz)) 0 0 (va_A [(q_t, .inr (6, [.ref q_t_bytes, .int v_t_length])), (q_t_bytes, .inl (cB, 15, .inl f_t_bytes))] sz) := by
  refine Met.ofW (cc := b_Ln_addByte) (maxL := 2) (ret := none) (by decide) rfl ?_
  intro p e s m args below meth c s₁ B hml hv
  obtain ⟨ha, hsz, hP, hK, hD0⟩ := hv
  have hx := B.exec
  have hb := B.bytes
  have hr := B.returns
  have hts0 := atoms_spec (ws := w_Ln_addByte) B.pre
  have hts : ∀ w ∈ tb, w.before args s = true := fun w h => hts0 w (List.mem_cons_of_mem _ h)
  have hown : s.vm.findClass R_Ln = some m.cls := findClass_of_methodNamed B.named
  have hlocks := B.notSynchronized
  subst hsz
  have hD := hD0.self (sz := s.heap.size)
  generalize hAe : va_A [(q_t, .inr (6, [.ref q_t_bytes, .int v_t_length])), (q_t_bytes, .inl (cB, 15, .inl f_t_bytes))] s.heap.size = A at hD ⊢
  have hA : ∀ q : Nat, s.heap.size ≤ q → A q := fun q h => by rw [← hAe]; exact Or.inr h
  have hS : va_S A s.heap s.heap [] := va_S.rf
  have hP : va_P (dC, dI) classes [(q_t, .inr (6, [.ref q_t_bytes, .int v_t_length])), (q_t_bytes, .inl (cB, 15, .inl f_t_bytes))] s.heap := hP
  have hl := lv_entry [.ref q_t, .int x1] (n := 2) (Nat.le_of_ble_eq_true rfl)
  have he9 : entryFrame m args 2 = F0 m 0 ((lg_sl [.ref q_t, .int x1] ++ List.replicate (2 - (lg_sl [.ref q_t, .int x1]).length) Slot.unset).toArray) [] := by rw [ha]; exact lg_entry_eq _ _ _
  rw [he9]
  clear he9
  generalize (lg_sl [.ref q_t, .int x1] ++ List.replicate (2 - (lg_sl [.ref q_t, .int x1]).length) Slot.unset).toArray = ls at hl ⊢
  have hl : lv_has ls 2 [(0, .ref q_t), (1, .int x1)] := hl
  unfold wp_Ln_addByte at hw
  refine lv_aload_n hx hb d_Ln_addByte_0 rfl (lv_at hl 0 rfl) ?_
  refine va_get (D := (dC, dI)) (ci := 6) (v := .int v_t_length) (C := R_Ln) (T := F_Ln) (N := 2) hx hb hts i_Ln hown hK hP 0 rfl rfl 1 (by decide) (hts (Cond.fieldLink R_Ln 15 "PlantGraph$Line" "length" "I") kw19_ddeec2f) (fun _ h9 => h9) rfl d_Ln_addByte_1 ?_
  refine lv_bipush (v := 15) hx hb d_Ln_addByte_4 (by decide) ?_
  refine lv_icmp_ge (tgt := 30) hx hb d_Ln_addByte_6 (by decide) (fun c6 => ?_) (fun c6 => ?_)
  · replace hw := hw.1 c6
    exact W.vret hx hb hr (fun t ht hW => ⟨⟨(v_t_length, f_t_bytes), rfl, hw, by rw [ht]; exact hP, va_K.moved hW.alike hK, hD⟩, hS.F ht⟩) hS.2.2 d_Ln_addByte_30
  · replace hw := hw.2 c6
    refine lv_aload_n hx hb d_Ln_addByte_9 rfl (lv_at hl 0 rfl) ?_
    refine va_get (D := (dC, dI)) (ci := 6) (v := .ref q_t_bytes) (C := R_Ln) (T := F_Ln) (N := 2) hx hb hts i_Ln hown hK hP 0 rfl rfl 0 (by decide) (hts (Cond.fieldLink R_Ln 11 "PlantGraph$Line" "bytes" "[B") kw19_4c1e67f) (fun _ h9 => h9) rfl d_Ln_addByte_10 ?_
    refine lv_aload_n hx hb d_Ln_addByte_13 rfl (lv_at hl 0 rfl) ?_
    refine va_get (D := (dC, dI)) (ci := 6) (v := .int v_t_length) (C := R_Ln) (T := F_Ln) (N := 2) hx hb hts i_Ln hown hK hP 0 rfl rfl 1 (by decide) (hts (Cond.fieldLink R_Ln 15 "PlantGraph$Line" "length" "I") kw19_ddeec2f) (fun _ h9 => h9) rfl d_Ln_addByte_14 ?_
    refine lv_iload_n hx hb d_Ln_addByte_17 rfl (lv_at hl 1 rfl) ?_
    refine lv_i2b hx hb d_Ln_addByte_18 rfl ?_
    refine va_bast hx hb hK hP hD hS 1 2 rfl rfl hw.1 d_Ln_addByte_19 (fun H locs hP hD hS => ?_)
    replace hw := hw.2
    have hP : va_P (dC, dI) classes [(q_t, .inr (6, [.ref q_t_bytes, .int v_t_length])), (q_t_bytes, .inl (cB, 15, .inl (upd f_t_bytes v_t_length.toNatClampNeg (vp_nar .byte ((x1 : Int32).toInt8.toInt32)))))] H := hP
    have hD : va_D A [(q_t, .inr (6, [.ref q_t_bytes, .int v_t_length])), (q_t_bytes, .inl (cB, 15, .inl (upd f_t_bytes v_t_length.toNatClampNeg (vp_nar .byte ((x1 : Int32).toInt8.toInt32)))))] := hD
    refine lv_aload_n hx hb d_Ln_addByte_20 rfl (lv_at hl 0 rfl) ?_
    refine lv_dup hx hb d_Ln_addByte_21 rfl ?_
    refine va_get (D := (dC, dI)) (ci := 6) (v := .int v_t_length) (C := R_Ln) (T := F_Ln) (N := 2) hx hb hts i_Ln hown hK hP 0 rfl rfl 1 (by decide) (hts (Cond.fieldLink R_Ln 15 "PlantGraph$Line" "length" "I") kw19_ddeec2f) (fun _ h9 => h9) rfl d_Ln_addByte_22 ?_
    refine lv_iconst (v := 1) hx hb d_Ln_addByte_25 (by decide) ?_
    refine lv_iadd hx hb d_Ln_addByte_26 ?_
    refine va_put (D := (dC, dI)) (ci := 6) (v := .int (v_t_length + 1)) (ty := .int) (C := R_Ln) (T := F_Ln) (N := 2) hx hb hts i_Ln t_Ln t_Ln_ok n_Ln hown hK hP hD hS 0 rfl rfl 1 (by decide) (hts (Cond.fieldLink R_Ln 15 "PlantGraph$Line" "length" "I") kw19_ddeec2f) (fun _ h9 => h9) rfl (by decide +kernel) rfl rfl (Nat.le_of_ble_eq_true rfl) d_Ln_addByte_27 (fun H locs hP hD hS => ?_)
    have hP : va_P (dC, dI) classes [(q_t, .inr (6, [.ref q_t_bytes, .int (v_t_length + 1)])), (q_t_bytes, .inl (cB, 15, .inl (upd f_t_bytes v_t_length.toNatClampNeg (vp_nar .byte ((x1 : Int32).toInt8.toInt32)))))] H := hP
    have hD : va_D A [(q_t, .inr (6, [.ref q_t_bytes, .int (v_t_length + 1)])), (q_t_bytes, .inl (cB, 15, .inl (upd f_t_bytes v_t_length.toNatClampNeg (vp_nar .byte ((x1 : Int32).toInt8.toInt32)))))] := hD
    exact W.vret hx hb hr (fun t ht hW => ⟨⟨((v_t_length + 1), (upd f_t_bytes v_t_length.toNatClampNeg (vp_nar .byte ((x1 : Int32).toInt8.toInt32)))), rfl, hw, by rw [ht]; exact hP, va_K.moved hW.alike hK, hD⟩, hS.F ht⟩) hS.2.2 d_Ln_addByte_30
def wp_Ln_byteAt (v_t_length : Int32) (f_t_bytes : (Nat → Int32)) (x1 : Int32) (P : Int32 → Prop) : Prop := ((x1 < 0 → P (-1)) ∧ (¬ x1 < 0 → ((v_t_length ≤ x1 → P (-1)) ∧ (¬ v_t_length ≤ x1 → (((15 : Int32) ≤ x1 → P (-1)) ∧ (¬ (15 : Int32) ≤ x1 → (vp_in x1 15 ∧ P (f_t_bytes x1.toNatClampNeg))))))))
def w_Ln_byteAt : List Cond := .code y_Ln_byteAt b_Ln_byteAt 2 (some .int) :: tb
abbrev rm_Ln_byteAt : Room := { frames := 0, cells := 0, slots := 0, locals := 0 }
abbrev Q_Ln_byteAt (dC : Nat → ClassId) (dI : Nat → Nat → Nat) (cI cL cB : ClassId) (q_t : Nat) (q_t_bytes : Nat) (v_t_length : Int32) (f_t_bytes : (Nat → Int32)) (x1 : Int32) (P : Int32 → Prop) (A : Nat → Prop) : Array Value → State → Outcome → State → Prop := va_Qi (fun (r : Int32) (u : Unit) => P r) (fun u t => va_P (dC, dI) classes [(q_t, .inr (6, [.ref q_t_bytes, .int v_t_length])), (q_t_bytes, .inl (cB, 15, .inl f_t_bytes))] t.heap ∧ va_K (dC, dI) classes [(cI, .int), (cL, .long), (cB, .byte)] t ∧ va_D A [(q_t, .inr (6, [.ref q_t_bytes, .int v_t_length])), (q_t_bytes, .inl (cB, 15, .inl f_t_bytes))]) A
set_option maxHeartbeats 4000000 in
set_option maxRecDepth 100000 in
theorem c_Ln_byteAt (l : Launch) (dC : Nat → ClassId) (dI : Nat → Nat → Nat) (cI cL cB : ClassId) (q_t : Nat) (q_t_bytes : Nat) (sz : Nat) (v_t_length : Int32) (f_t_bytes : (Nat → Int32)) (x1 : Int32) (P : Int32 → Prop) (hw : wp_Ln_byteAt v_t_length f_t_bytes x1 P) : Met l y_Ln_byteAt w_Ln_byteAt rm_Ln_byteAt (va_Pc [.ref q_t, .int x1] (fun U => U.heap.size = sz ∧ va_P (dC, dI) classes [(q_t, .inr (6, [.ref q_t_bytes, .int v_t_length])), (q_t_bytes, .inl (cB, 15, .inl f_t_bytes))] U.heap ∧ va_K (dC, dI) classes [(cI, .int), (cL, .long), (cB, .byte)] U ∧ va_D (fun _ => True) [(q_t, .inr (6, [.ref q_t_bytes, .int v_t_length])), (q_t_bytes, .inl (cB, 15, .inl f_t_bytes))])) (Q_Ln_byteAt dC dI cI cL cB q_t q_t_bytes v_t_length f_t_bytes x1 P (va_A [(q_t, .inr (6, [.ref q_t_bytes, .int v_t_length])), (q_t_bytes, .inl (cB, 15, .inl f_t_bytes))] sz)) 0 0 (va_A [(q_t, .inr (6, [.ref q_t_bytes, .int v_t_length])), (q_t_bytes, .inl (cB, 15, .inl f_t_bytes))] sz) := by
  refine Met.ofW (cc := b_Ln_byteAt) (maxL := 2) (ret := (some .int)) (by decide) rfl ?_
  intro p e s m args below meth c s₁ B hml hv
  obtain ⟨ha, hsz, hP, hK, hD0⟩ := hv
  have hx := B.exec
  have hb := B.bytes
  have hr := B.returns
  have hts0 := atoms_spec (ws := w_Ln_byteAt) B.pre
  have hts : ∀ w ∈ tb, w.before args s = true := fun w h => hts0 w (List.mem_cons_of_mem _ h)
  have hown : s.vm.findClass R_Ln = some m.cls := findClass_of_methodNamed B.named
  have hlocks := B.notSynchronized
  subst hsz
  have hD := hD0.self (sz := s.heap.size)
  generalize hAe : va_A [(q_t, .inr (6, [.ref q_t_bytes, .int v_t_length])), (q_t_bytes, .inl (cB, 15, .inl f_t_bytes))] s.heap.size = A at hD ⊢
  have hA : ∀ q : Nat, s.heap.size ≤ q → A q := fun q h => by rw [← hAe]; exact Or.inr h
  have hS : va_S A s.heap s.heap [] := va_S.rf
  have hP : va_P (dC, dI) classes [(q_t, .inr (6, [.ref q_t_bytes, .int v_t_length])), (q_t_bytes, .inl (cB, 15, .inl f_t_bytes))] s.heap := hP
  have hl := lv_entry [.ref q_t, .int x1] (n := 2) (Nat.le_of_ble_eq_true rfl)
  have he9 : entryFrame m args 2 = F0 m 0 ((lg_sl [.ref q_t, .int x1] ++ List.replicate (2 - (lg_sl [.ref q_t, .int x1]).length) Slot.unset).toArray) [] := by rw [ha]; exact lg_entry_eq _ _ _
  rw [he9]
  clear he9
  generalize (lg_sl [.ref q_t, .int x1] ++ List.replicate (2 - (lg_sl [.ref q_t, .int x1]).length) Slot.unset).toArray = ls at hl ⊢
  have hl : lv_has ls 2 [(0, .ref q_t), (1, .int x1)] := hl
  unfold wp_Ln_byteAt at hw
  refine lv_iload_n hx hb d_Ln_byteAt_0 rfl (lv_at hl 1 rfl) ?_
  refine lv_if_lt (tgt := 27) hx hb d_Ln_byteAt_1 (by decide) (fun c1 => ?_) (fun c1 => ?_)
  · replace hw := hw.1 c1
    refine lv_iconst (v := (-1)) hx hb d_Ln_byteAt_27 (by decide) ?_
    exact W.iret (v := (-1)) hx hb hr (fun t ht hW => ⟨⟨(-1), (), rfl, hw, by rw [ht]; exact hP, va_K.moved hW.alike hK, hD⟩, hS.F ht⟩) hS.2.2 d_Ln_byteAt_28
  · replace hw := hw.2 c1
    refine lv_iload_n hx hb d_Ln_byteAt_4 rfl (lv_at hl 1 rfl) ?_
    refine lv_aload_n hx hb d_Ln_byteAt_5 rfl (lv_at hl 0 rfl) ?_
    refine va_get (D := (dC, dI)) (ci := 6) (v := .int v_t_length) (C := R_Ln) (T := F_Ln) (N := 2) hx hb hts i_Ln hown hK hP 0 rfl rfl 1 (by decide) (hts (Cond.fieldLink R_Ln 15 "PlantGraph$Line" "length" "I") kw19_ddeec2f) (fun _ h9 => h9) rfl d_Ln_byteAt_6 ?_
    refine lv_icmp_ge (tgt := 27) hx hb d_Ln_byteAt_9 (by decide) (fun c9 => ?_) (fun c9 => ?_)
    · replace hw := hw.1 c9
      refine lv_iconst (v := (-1)) hx hb d_Ln_byteAt_27 (by decide) ?_
      exact W.iret (v := (-1)) hx hb hr (fun t ht hW => ⟨⟨(-1), (), rfl, hw, by rw [ht]; exact hP, va_K.moved hW.alike hK, hD⟩, hS.F ht⟩) hS.2.2 d_Ln_byteAt_28
    · replace hw := hw.2 c9
      refine lv_iload_n hx hb d_Ln_byteAt_12 rfl (lv_at hl 1 rfl) ?_
      refine lv_bipush (v := 15) hx hb d_Ln_byteAt_13 (by decide) ?_
      refine lv_icmp_ge (tgt := 27) hx hb d_Ln_byteAt_15 (by decide) (fun c15 => ?_) (fun c15 => ?_)
      · replace hw := hw.1 c15
        refine lv_iconst (v := (-1)) hx hb d_Ln_byteAt_27 (by decide) ?_
        exact W.iret (v := (-1)) hx hb hr (fun t ht hW => ⟨⟨(-1), (), rfl, hw, by rw [ht]; exact hP, va_K.moved hW.alike hK, hD⟩, hS.F ht⟩) hS.2.2 d_Ln_byteAt_28
      · replace hw := hw.2 c15
        refine lv_aload_n hx hb d_Ln_byteAt_18 rfl (lv_at hl 0 rfl) ?_
        refine va_get (D := (dC, dI)) (ci := 6) (v := .ref q_t_bytes) (C := R_Ln) (T := F_Ln) (N := 2) hx hb hts i_Ln hown hK hP 0 rfl rfl 0 (by decide) (hts (Cond.fieldLink R_Ln 11 "PlantGraph$Line" "bytes" "[B") kw19_4c1e67f) (fun _ h9 => h9) rfl d_Ln_byteAt_19 ?_
        refine lv_iload_n hx hb d_Ln_byteAt_22 rfl (lv_at hl 1 rfl) ?_
        refine va_bald hx hb hK hP 1 2 rfl rfl hw.1 d_Ln_byteAt_23 ?_
        replace hw := hw.2
        refine lv_goto (tgt := 28) hx hb d_Ln_byteAt_24 (by decide) ?_
        exact W.iret (v := (f_t_bytes x1.toNatClampNeg)) hx hb hr (fun t ht hW => ⟨⟨(f_t_bytes x1.toNatClampNeg), (), rfl, hw, by rw [ht]; exact hP, va_K.moved hW.alike hK, hD⟩, hS.F ht⟩) hS.2.2 d_Ln_byteAt_28
def wk_Ln_addWord_25_2 (P : Int32 → (Nat → Int32) → Prop) (x2_L2 : Int32) (v_t_length_L2 : Int32) (f_t_bytes_L2 : (Nat → Int32)) : Prop := P v_t_length_L2 f_t_bytes_L2
def wl_Ln_addWord_2 (i1 : Nat) (K_25 : Int32 → Int32 → (Nat → Int32) → Prop) : Nat → Int32 → Int32 → (Nat → Int32) → Prop
  | 0, _, _, _ => False
  | k_2 + 1, x2_L2, v_t_length_L2, f_t_bytes_L2 => (i1 < nS ∧ wp_Js_length i1 (fun r4 => ((r4 ≤ x2_L2 → K_25 x2_L2 v_t_length_L2 f_t_bytes_L2) ∧ (¬ r4 ≤ x2_L2 → (i1 < nS ∧ wp_Js_charAt i1 x2_L2 (fun r13 => wp_Ln_addByte v_t_length_L2 f_t_bytes_L2 r13 (fun v_t_length_c16 f_t_bytes_c16 => wl_Ln_addWord_2 i1 K_25 k_2 (x2_L2 + 1) v_t_length_c16 f_t_bytes_c16)))))))
def wp_Ln_addWord (v_t_length : Int32) (f_t_bytes : (Nat → Int32)) (i1 : Nat) (P : Int32 → (Nat → Int32) → Prop) : Prop := (∃ n_2 : Nat, wl_Ln_addWord_2 i1 (wk_Ln_addWord_25_2 P) n_2 0 v_t_length f_t_bytes)
def w_Ln_addWord : List Cond := .code y_Ln_addWord b_Ln_addWord 3 none :: tb
abbrev rm_Ln_addWord : Room := { frames := 4, cells := 0, slots := 0, locals := 85 }
abbrev Q_Ln_addWord (dC : Nat → ClassId) (dI : Nat → Nat → Nat) (cI cL cB : ClassId) (q_t : Nat) (q_t_bytes : Nat) (v_t_length : Int32) (f_t_bytes : (Nat → Int32)) (i1 : Nat) (P : Int32 → (Nat → Int32) → Prop) (A : Nat → Prop) : Array Value → State → Outcome → State → Prop := va_Qv (fun (u : Int32 × (Nat → Int32)) => P u.1 u.2) (fun u t => va_P (dC, dI) classes [(q_t, .inr (6, [.ref q_t_bytes, .int u.1])), (q_t_bytes, .inl (cB, 15, .inl u.2))] t.heap ∧ va_K (dC, dI) classes [(cI, .int), (cL, .long), (cB, .byte)] t ∧ va_D A [(q_t, .inr (6, [.ref q_t_bytes, .int u.1])), (q_t_bytes, .inl (cB, 15, .inl u.2))]) A
set_option maxHeartbeats 4000000 in
set_option maxRecDepth 100000 in
theorem c_Ln_addWord (l : Launch) (dC : Nat → ClassId) (dI : Nat → Nat → Nat) (cI cL cB : ClassId) (tP tR : Nat) (adK adV : Nat → Nat) (q_t : Nat) (q_t_bytes : Nat) (sz : Nat) (v_t_length : Int32) (f_t_bytes : (Nat → Int32)) (i1 : Nat) (P : Int32 → (Nat → Int32) → Prop) (hw : wp_Ln_addWord v_t_length f_t_bytes i1 P) : Met l y_Ln_addWord w_Ln_addWord rm_Ln_addWord (va_Pc [.ref q_t, .ref (adK i1)] (fun U => U.heap.size = sz ∧ va_P (dC, dI) classes [(q_t, .inr (6, [.ref q_t_bytes, .int v_t_length])), (q_t_bytes, .inl (cB, 15, .inl f_t_bytes))] U.heap ∧ va_K (dC, dI) classes [(cI, .int), (cL, .long), (cB, .byte)] U ∧ va_D (fun _ => True) [(q_t, .inr (6, [.ref q_t_bytes, .int v_t_length])), (q_t_bytes, .inl (cB, 15, .inl f_t_bytes))] ∧ gx tP tR adK adV (va_A [(q_t, .inr (6, [.ref q_t_bytes, .int v_t_length])), (q_t_bytes, .inl (cB, 15, .inl f_t_bytes))] sz) U U.heap)) (Q_Ln_addWord dC dI cI cL cB q_t q_t_bytes v_t_length f_t_bytes i1 P (va_A [(q_t, .inr (6, [.ref q_t_bytes, .int v_t_length])), (q_t_bytes, .inl (cB, 15, .inl f_t_bytes))] sz)) 0 0 (va_A [(q_t, .inr (6, [.ref q_t_bytes, .int v_t_length])), (q_t_bytes, .inl (cB, 15, .inl f_t_bytes))] sz) := by
  refine Met.ofW (cc := b_Ln_addWord) (maxL := 3) (ret := none) (by decide) rfl ?_
  intro p e s m args below meth c s₁ B hml hv
  obtain ⟨ha, hsz, hP, hK, hD0, hG⟩ := hv
  have hx := B.exec
  have hb := B.bytes
  have hr := B.returns
  have hts0 := atoms_spec (ws := w_Ln_addWord) B.pre
  have hts : ∀ w ∈ tb, w.before args s = true := fun w h => hts0 w (List.mem_cons_of_mem _ h)
  have hown : s.vm.findClass R_Ln = some m.cls := findClass_of_methodNamed B.named
  have hlocks := B.notSynchronized
  subst hsz
  have hD := hD0.self (sz := s.heap.size)
  generalize hAe : va_A [(q_t, .inr (6, [.ref q_t_bytes, .int v_t_length])), (q_t_bytes, .inl (cB, 15, .inl f_t_bytes))] s.heap.size = A at hD hG ⊢
  have hA : ∀ q : Nat, s.heap.size ≤ q → A q := fun q h => by rw [← hAe]; exact Or.inr h
  have hS : va_S A s.heap s.heap [] := va_S.rf
  have hP : va_P (dC, dI) classes [(q_t, .inr (6, [.ref q_t_bytes, .int v_t_length])), (q_t_bytes, .inl (cB, 15, .inl f_t_bytes))] s.heap := hP
  have hl := lv_entry [.ref q_t, .ref (adK i1)] (n := 3) (Nat.le_of_ble_eq_true rfl)
  have he9 : entryFrame m args 3 = F0 m 0 ((lg_sl [.ref q_t, .ref (adK i1)] ++ List.replicate (3 - (lg_sl [.ref q_t, .ref (adK i1)]).length) Slot.unset).toArray) [] := by rw [ha]; exact lg_entry_eq _ _ _
  rw [he9]
  clear he9
  generalize (lg_sl [.ref q_t, .ref (adK i1)] ++ List.replicate (3 - (lg_sl [.ref q_t, .ref (adK i1)]).length) Slot.unset).toArray = ls at hl ⊢
  have hl : lv_has ls 3 [(0, .ref q_t), (1, .ref (adK i1))] := hl
  unfold wp_Ln_addWord at hw
  refine lv_iconst (v := 0) hx hb d_Ln_addWord_0 (by decide) ?_
  refine lv_istore_n (lv' := [(2, .int 0), (0, .ref q_t), (1, .ref (adK i1))]) hx hb d_Ln_addWord_1 rfl hl (by decide) rfl (fun ls hl => ?_)
  obtain ⟨n_2, hw⟩ := hw
  have EX_25 : ∀ (x2_L2 : Int32) (v_t_length_L2 : Int32) (f_t_bytes_L2 : (Nat → Int32)) (H : Heap) (locs : List Loc) (ls : Array Slot), va_P (dC, dI) classes [(q_t, .inr (6, [.ref q_t_bytes, .int v_t_length_L2])), (q_t_bytes, .inl (cB, 15, .inl f_t_bytes_L2))] H → va_D A [(q_t, .inr (6, [.ref q_t_bytes, .int v_t_length_L2])), (q_t_bytes, .inl (cB, 15, .inl f_t_bytes_L2))] → va_S A s.heap H locs → lv_has ls 3 [(0, .ref q_t), (1, .ref (adK i1)), (2, .int x2_L2)] → wk_Ln_addWord_25_2 P x2_L2 v_t_length_L2 f_t_bytes_L2 → W p l e (headSpec w_Ln_addWord rm_Ln_addWord).room s m args below meth c H locs 0 0 (MQ below (Q_Ln_addWord dC dI cI cL cB q_t q_t_bytes v_t_length f_t_bytes i1 P A) args s 0 0 A) (F0 m 25 ls []) := by
    intro x2_L2 v_t_length_L2 f_t_bytes_L2 H locs ls hP hD hS hl hw
    unfold wk_Ln_addWord_25_2 at hw
    exact W.vret hx hb hr (fun t ht hW => ⟨⟨(v_t_length_L2, f_t_bytes_L2), rfl, hw, by rw [ht]; exact hP, va_K.moved hW.alike hK, hD⟩, hS.F ht⟩) hS.2.2 d_Ln_addWord_25
  have LP_2 : ∀ (k_2 : Nat) (x2_L2 : Int32) (v_t_length_L2 : Int32) (f_t_bytes_L2 : (Nat → Int32)) (H : Heap) (locs : List Loc) (ls : Array Slot), va_P (dC, dI) classes [(q_t, .inr (6, [.ref q_t_bytes, .int v_t_length_L2])), (q_t_bytes, .inl (cB, 15, .inl f_t_bytes_L2))] H → va_D A [(q_t, .inr (6, [.ref q_t_bytes, .int v_t_length_L2])), (q_t_bytes, .inl (cB, 15, .inl f_t_bytes_L2))] → va_S A s.heap H locs → lv_has ls 3 [(0, .ref q_t), (1, .ref (adK i1)), (2, .int x2_L2)] → wl_Ln_addWord_2 i1 (wk_Ln_addWord_25_2 P) k_2 x2_L2 v_t_length_L2 f_t_bytes_L2 → W p l e (headSpec w_Ln_addWord rm_Ln_addWord).room s m args below meth c H locs 0 0 (MQ below (Q_Ln_addWord dC dI cI cL cB q_t q_t_bytes v_t_length f_t_bytes i1 P A) args s 0 0 A) (F0 m 2 ls []) := by
    intro k_2
    induction k_2 with
    | zero => intro x2_L2 v_t_length_L2 f_t_bytes_L2 H locs ls hP hD hS hl hw; unfold wl_Ln_addWord_2 at hw; exact hw.elim
    | succ k_2 ih_2 =>
      intro x2_L2 v_t_length_L2 f_t_bytes_L2 H locs ls hP hD hS hl hw
      unfold wl_Ln_addWord_2 at hw
      refine lv_iload_n hx hb d_Ln_addWord_2 rfl (lv_at hl 2 rfl) ?_
      refine lv_aload_n hx hb d_Ln_addWord_3 rfl (lv_at hl 1 rfl) ?_
      have hPc := hP.sub (ws' := []) [] rfl
      have hDc := hD.sub (ws' := []) [] (by decide) rfl
      have hFc := va_free (wc := []) hD hS hA [] rfl
      have hi9 := hw.1
      replace hw := hw.2
      refine va_calli (va_runV (As := []) (rest := [.int x2_L2]) ⟨hx, hb, hml, hown, hts⟩ (c_Js_length l dC dI cI cL cB tP tR adK adV  H.size  i1 _ hw) (my_cwV 0 hts kw19_3d08528 kw19_52648e2 kw19_208a1f7 kw19_224da0b kw19_b78be37 rfl rfl (by decide +kernel) ⟨Nat.le_of_ble_eq_true rfl, Nat.le_of_ble_eq_true rfl⟩) ⟨fun a U g mk q => by obtain ⟨q0, q1, qP, qK, qD, qG⟩ := q; exact ⟨q0, q1, qP, va_K.moved (u := U) (U := U.calling g mk a) (Vm.Alike.refl U.vm) qK, qD, gx_call qG⟩, vk_recv hG.2.2.2.2.2.1 hi9 hS, fun U hU hW => ⟨rfl, by rw [hU], by rw [hU]; exact hPc, va_K.moved hW.alike hK, hDc.weaken (fun _ _ _ _ => trivial), by rw [hU]; exact gx_pass hW hS.2.1 hFc hG⟩⟩ rfl rfl hl.1 rfl (lv_room (Nat.le_of_ble_eq_true rfl)) d_Ln_addWord_4 ⟨Nat.zero_le _, Nat.zero_le _⟩) hS (fun q _ h => hFc q h) hFc (fun r4 u t H locs ht hvm hw hB hz1 hk1 hS => ?_)
      obtain ⟨hP1, hK1, hD1⟩ := hB
      rw [ht] at hP1
      obtain ⟨hP, hD⟩ := va_join (wr := [(q_t, .inr (6, [.ref q_t_bytes, .int v_t_length_L2])), (q_t_bytes, .inl (cB, 15, .inl f_t_bytes_L2))]) (w1 := []) hP hD [] [0, 1] rfl rfl (by decide) (by decide) hk1 hFc hP1 hD1
      have hP : va_P (dC, dI) classes [(q_t, .inr (6, [.ref q_t_bytes, .int v_t_length_L2])), (q_t_bytes, .inl (cB, 15, .inl f_t_bytes_L2))] H := hP.sub (ws' := [(q_t, .inr (6, [.ref q_t_bytes, .int v_t_length_L2])), (q_t_bytes, .inl (cB, 15, .inl f_t_bytes_L2))]) [0, 1] rfl
      have hD : va_D A [(q_t, .inr (6, [.ref q_t_bytes, .int v_t_length_L2])), (q_t_bytes, .inl (cB, 15, .inl f_t_bytes_L2))] := hD.sub (ws' := [(q_t, .inr (6, [.ref q_t_bytes, .int v_t_length_L2])), (q_t_bytes, .inl (cB, 15, .inl f_t_bytes_L2))]) [0, 1] (by decide) rfl
      refine lv_icmp_ge (tgt := 25) hx hb d_Ln_addWord_7 (by decide) (fun c7 => ?_) (fun c7 => ?_)
      · replace hw := hw.1 c7
        exact EX_25 x2_L2 v_t_length_L2 f_t_bytes_L2 H _ _ hP hD hS (lv_sub hl [0, 1, 2] rfl) hw
      · replace hw := hw.2 c7
        refine lv_aload_n hx hb d_Ln_addWord_10 rfl (lv_at hl 0 rfl) ?_
        refine lv_aload_n hx hb d_Ln_addWord_11 rfl (lv_at hl 1 rfl) ?_
        refine lv_iload_n hx hb d_Ln_addWord_12 rfl (lv_at hl 2 rfl) ?_
        have hPc := hP.sub (ws' := []) [] rfl
        have hDc := hD.sub (ws' := []) [] (by decide) rfl
        have hFc := va_free (wc := []) hD hS hA [] rfl
        have hi9 := hw.1
        replace hw := hw.2
        refine va_calli (va_runV (As := [.int x2_L2]) (rest := [.ref q_t]) ⟨hx, hb, hml, hown, hts⟩ (c_Js_charAt l dC dI cI cL cB tP tR adK adV  H.size  i1 x2_L2 _ hw) (my_cwV 1 hts kw19_095929c kw19_98e5460 kw19_85a5dd6 kw19_224da0b kw19_fda35e9 rfl rfl (by decide +kernel) ⟨Nat.le_of_ble_eq_true rfl, Nat.le_of_ble_eq_true rfl⟩) ⟨fun a U g mk q => by obtain ⟨q0, q1, qP, qK, qD, qG⟩ := q; exact ⟨q0, q1, qP, va_K.moved (u := U) (U := U.calling g mk a) (Vm.Alike.refl U.vm) qK, qD, gx_call qG⟩, vk_recv hG.2.2.2.2.2.1 hi9 hS, fun U hU hW => ⟨rfl, by rw [hU], by rw [hU]; exact hPc, va_K.moved hW.alike hK, hDc.weaken (fun _ _ _ _ => trivial), by rw [hU]; exact gx_pass hW hS.2.1 hFc hG⟩⟩ rfl rfl hl.1 rfl (lv_room (Nat.le_of_ble_eq_true rfl)) d_Ln_addWord_13 ⟨Nat.zero_le _, Nat.zero_le _⟩) hS (fun q _ h => hFc q h) hFc (fun r13 u t H locs ht hvm hw hB hz1 hk1 hS => ?_)
        obtain ⟨hP1, hK1, hD1⟩ := hB
        rw [ht] at hP1
        obtain ⟨hP, hD⟩ := va_join (wr := [(q_t, .inr (6, [.ref q_t_bytes, .int v_t_length_L2])), (q_t_bytes, .inl (cB, 15, .inl f_t_bytes_L2))]) (w1 := []) hP hD [] [0, 1] rfl rfl (by decide) (by decide) hk1 hFc hP1 hD1
        have hP : va_P (dC, dI) classes [(q_t, .inr (6, [.ref q_t_bytes, .int v_t_length_L2])), (q_t_bytes, .inl (cB, 15, .inl f_t_bytes_L2))] H := hP.sub (ws' := [(q_t, .inr (6, [.ref q_t_bytes, .int v_t_length_L2])), (q_t_bytes, .inl (cB, 15, .inl f_t_bytes_L2))]) [0, 1] rfl
        have hD : va_D A [(q_t, .inr (6, [.ref q_t_bytes, .int v_t_length_L2])), (q_t_bytes, .inl (cB, 15, .inl f_t_bytes_L2))] := hD.sub (ws' := [(q_t, .inr (6, [.ref q_t_bytes, .int v_t_length_L2])), (q_t_bytes, .inl (cB, 15, .inl f_t_bytes_L2))]) [0, 1] (by decide) rfl
        have hPc := hP.sub (ws' := [(q_t, .inr (6, [.ref q_t_bytes, .int v_t_length_L2])), (q_t_bytes, .inl (cB, 15, .inl f_t_bytes_L2))]) [0, 1] rfl
        have hDc := hD.sub (ws' := [(q_t, .inr (6, [.ref q_t_bytes, .int v_t_length_L2])), (q_t_bytes, .inl (cB, 15, .inl f_t_bytes_L2))]) [0, 1] (by decide) rfl
        have hFc := va_free (wc := [(q_t, .inr (6, [.ref q_t_bytes, .int v_t_length_L2])), (q_t_bytes, .inl (cB, 15, .inl f_t_bytes_L2))]) hD hS hA [0, 1] rfl
        refine va_callv (va_runV (As := [.int r13]) (rest := []) ⟨hx, hb, hml, hown, hts⟩ (c_Ln_addByte l dC dI cI cL cB q_t q_t_bytes H.size v_t_length_L2 f_t_bytes_L2 r13 _ hw) (my_cwV 1 hts kw19_4be27de kw19_8d69dd5 kw19_252ecb9 kw19_c117f00 kw19_7946f56 rfl rfl (by decide +kernel) ⟨Nat.le_of_ble_eq_true rfl, Nat.le_of_ble_eq_true rfl⟩) ⟨fun a U g mk q => by obtain ⟨q0, q1, qP, qK, qD⟩ := q; exact ⟨q0, q1, qP, va_K.moved (u := U) (U := U.calling g mk a) (Vm.Alike.refl U.vm) qK, qD⟩, va_recv hK hP (ci := 6) (q0 := 0) rfl rfl, fun U hU hW => ⟨rfl, by rw [hU], by rw [hU]; exact hPc, va_K.moved hW.alike hK, hDc.weaken (fun _ _ _ _ => trivial)⟩⟩ rfl rfl hl.1 rfl (lv_room (Nat.le_of_ble_eq_true rfl)) d_Ln_addWord_16 ⟨Nat.zero_le _, Nat.zero_le _⟩) hS (fun q _ h => hFc q h) hFc (fun u t H locs ht hvm hw hB hz1 hk1 hS => ?_)
        obtain ⟨v_t_length_c16, f_t_bytes_c16⟩ := u
        obtain ⟨hP1, hK1, hD1⟩ := hB
        rw [ht] at hP1
        obtain ⟨hP, hD⟩ := va_join (wr := []) (w1 := [(q_t, .inr (6, [.ref q_t_bytes, .int v_t_length_c16])), (q_t_bytes, .inl (cB, 15, .inl f_t_bytes_c16))]) hP hD [0, 1] [] rfl rfl (by decide) (by decide) hk1 hFc hP1 hD1
        have hP : va_P (dC, dI) classes [(q_t, .inr (6, [.ref q_t_bytes, .int v_t_length_c16])), (q_t_bytes, .inl (cB, 15, .inl f_t_bytes_c16))] H := hP.sub (ws' := [(q_t, .inr (6, [.ref q_t_bytes, .int v_t_length_c16])), (q_t_bytes, .inl (cB, 15, .inl f_t_bytes_c16))]) [0, 1] rfl
        have hD : va_D A [(q_t, .inr (6, [.ref q_t_bytes, .int v_t_length_c16])), (q_t_bytes, .inl (cB, 15, .inl f_t_bytes_c16))] := hD.sub (ws' := [(q_t, .inr (6, [.ref q_t_bytes, .int v_t_length_c16])), (q_t_bytes, .inl (cB, 15, .inl f_t_bytes_c16))]) [0, 1] (by decide) rfl
        refine lv_iinc (v := (x2_L2 + 1)) (lv' := [(2, .int (x2_L2 + 1)), (0, .ref q_t), (1, .ref (adK i1))]) hx hb d_Ln_addWord_19 hl (k := 2) rfl rfl (by decide) rfl (fun ls hl => ?_)
        refine lv_goto (tgt := 2) hx hb d_Ln_addWord_22 (by decide) ?_
        exact ih_2 (x2_L2 + 1) v_t_length_c16 f_t_bytes_c16 H _ _ hP hD hS (lv_sub hl [1, 2, 0] rfl) hw
  exact LP_2 n_2 0 v_t_length f_t_bytes s.heap _ _ hP hD hS (lv_sub hl [1, 2, 0] rfl) hw
def wk_Ln_addNumber_59_5 (P : Int32 → (Nat → Int32) → Prop) (x2_L5 : Int32) (x3_L5 : Int32) (v_t_length_L5 : Int32) (f_t_bytes_L5 : (Nat → Int32)) : Prop := P v_t_length_L5 f_t_bytes_L5
def wl_Ln_addNumber_5 (x1 : Int32) (K_59 : Int32 → Int32 → Int32 → (Nat → Int32) → Prop) : Nat → Int32 → Int32 → Int32 → (Nat → Int32) → Prop
  | 0, _, _, _, _ => False
  | k_5 + 1, x2_L5, x3_L5, v_t_length_L5, f_t_bytes_L5 => ((x3_L5 < (1 : Int32) → K_59 x2_L5 x3_L5 v_t_length_L5 f_t_bytes_L5) ∧ (¬ x3_L5 < (1 : Int32) → (¬ x3_L5 = 0 ∧ ((¬ x2_L5 = 0 → (((1 : Int32) = 0 → wl_Ln_addNumber_5 x1 K_59 k_5 1 (x3_L5 / 10) v_t_length_L5 f_t_bytes_L5) ∧ (¬ (1 : Int32) = 0 → wp_Ln_addByte v_t_length_L5 f_t_bytes_L5 (48 + ((x1 / x3_L5) - (x1 / x3_L5) / 10 * 10)) (fun v_t_length_c48 f_t_bytes_c48 => wl_Ln_addNumber_5 x1 K_59 k_5 1 (x3_L5 / 10) v_t_length_c48 f_t_bytes_c48)))) ∧ (x2_L5 = 0 → ((0 < ((x1 / x3_L5) - (x1 / x3_L5) / 10 * 10) → (((1 : Int32) = 0 → wl_Ln_addNumber_5 x1 K_59 k_5 1 (x3_L5 / 10) v_t_length_L5 f_t_bytes_L5) ∧ (¬ (1 : Int32) = 0 → wp_Ln_addByte v_t_length_L5 f_t_bytes_L5 (48 + ((x1 / x3_L5) - (x1 / x3_L5) / 10 * 10)) (fun v_t_length_c48 f_t_bytes_c48 => wl_Ln_addNumber_5 x1 K_59 k_5 1 (x3_L5 / 10) v_t_length_c48 f_t_bytes_c48)))) ∧ (¬ 0 < ((x1 / x3_L5) - (x1 / x3_L5) / 10 * 10) → ((¬ x3_L5 = (1 : Int32) → (((0 : Int32) = 0 → wl_Ln_addNumber_5 x1 K_59 k_5 0 (x3_L5 / 10) v_t_length_L5 f_t_bytes_L5) ∧ (¬ (0 : Int32) = 0 → wp_Ln_addByte v_t_length_L5 f_t_bytes_L5 (48 + ((x1 / x3_L5) - (x1 / x3_L5) / 10 * 10)) (fun v_t_length_c48 f_t_bytes_c48 => wl_Ln_addNumber_5 x1 K_59 k_5 0 (x3_L5 / 10) v_t_length_c48 f_t_bytes_c48)))) ∧ (x3_L5 = (1 : Int32) → (((1 : Int32) = 0 → wl_Ln_addNumber_5 x1 K_59 k_5 1 (x3_L5 / 10) v_t_length_L5 f_t_bytes_L5) ∧ (¬ (1 : Int32) = 0 → wp_Ln_addByte v_t_length_L5 f_t_bytes_L5 (48 + ((x1 / x3_L5) - (x1 / x3_L5) / 10 * 10)) (fun v_t_length_c48 f_t_bytes_c48 => wl_Ln_addNumber_5 x1 K_59 k_5 1 (x3_L5 / 10) v_t_length_c48 f_t_bytes_c48))))))))))))
def wp_Ln_addNumber (v_t_length : Int32) (f_t_bytes : (Nat → Int32)) (x1 : Int32) (P : Int32 → (Nat → Int32) → Prop) : Prop := (∃ n_5 : Nat, wl_Ln_addNumber_5 x1 (wk_Ln_addNumber_59_5 P) n_5 0 100000 v_t_length f_t_bytes)
def w_Ln_addNumber : List Cond := .code y_Ln_addNumber b_Ln_addNumber 5 none :: tb
abbrev rm_Ln_addNumber : Room := { frames := 1, cells := 0, slots := 0, locals := 21 }
abbrev Q_Ln_addNumber (dC : Nat → ClassId) (dI : Nat → Nat → Nat) (cI cL cB : ClassId) (q_t : Nat) (q_t_bytes : Nat) (v_t_length : Int32) (f_t_bytes : (Nat → Int32)) (x1 : Int32) (P : Int32 → (Nat → Int32) → Prop) (A : Nat → Prop) : Array Value → State → Outcome → State → Prop := va_Qv (fun (u : Int32 × (Nat → Int32)) => P u.1 u.2) (fun u t => va_P (dC, dI) classes [(q_t, .inr (6, [.ref q_t_bytes, .int u.1])), (q_t_bytes, .inl (cB, 15, .inl u.2))] t.heap ∧ va_K (dC, dI) classes [(cI, .int), (cL, .long), (cB, .byte)] t ∧ va_D A [(q_t, .inr (6, [.ref q_t_bytes, .int u.1])), (q_t_bytes, .inl (cB, 15, .inl u.2))]) A
set_option maxHeartbeats 4000000 in
set_option maxRecDepth 100000 in
theorem c_Ln_addNumber (l : Launch) (dC : Nat → ClassId) (dI : Nat → Nat → Nat) (cI cL cB : ClassId) (q_t : Nat) (q_t_bytes : Nat) (sz : Nat) (v_t_length : Int32) (f_t_bytes : (Nat → Int32)) (x1 : Int32) (P : Int32 → (Nat → Int32) → Prop) (hw : wp_Ln_addNumber v_t_length f_t_bytes x1 P) : Met l y_Ln_addNumber w_Ln_addNumber rm_Ln_addNumber (va_Pc [.ref q_t, .int x1] (fun U => U.heap.size = sz ∧ va_P (dC, dI) classes [(q_t, .inr (6, [.ref q_t_bytes, .int v_t_length])), (q_t_bytes, .inl (cB, 15, .inl f_t_bytes))] U.heap ∧ va_K (dC, dI) classes [(cI, .int), (cL, .long), (cB, .byte)] U ∧ va_D (fun _ => True) [(q_t, .inr (6, [.ref q_t_bytes, .int v_t_length])), (q_t_bytes, .inl (cB, 15, .inl f_t_bytes))])) (Q_Ln_addNumber dC dI cI cL cB q_t q_t_bytes v_t_length f_t_bytes x1 P (va_A [(q_t, .inr (6, [.ref q_t_bytes, .int v_t_length])), (q_t_bytes, .inl (cB, 15, .inl f_t_bytes))] sz)) 0 0 (va_A [(q_t, .inr (6, [.ref q_t_bytes, .int v_t_length])), (q_t_bytes, .inl (cB, 15, .inl f_t_bytes))] sz) := by
  refine Met.ofW (cc := b_Ln_addNumber) (maxL := 5) (ret := none) (by decide) rfl ?_
  intro p e s m args below meth c s₁ B hml hv
  obtain ⟨ha, hsz, hP, hK, hD0⟩ := hv
  have hx := B.exec
  have hb := B.bytes
  have hr := B.returns
  have hts0 := atoms_spec (ws := w_Ln_addNumber) B.pre
  have hts : ∀ w ∈ tb, w.before args s = true := fun w h => hts0 w (List.mem_cons_of_mem _ h)
  have hown : s.vm.findClass R_Ln = some m.cls := findClass_of_methodNamed B.named
  have hlocks := B.notSynchronized
  subst hsz
  have hD := hD0.self (sz := s.heap.size)
  generalize hAe : va_A [(q_t, .inr (6, [.ref q_t_bytes, .int v_t_length])), (q_t_bytes, .inl (cB, 15, .inl f_t_bytes))] s.heap.size = A at hD ⊢
  have hA : ∀ q : Nat, s.heap.size ≤ q → A q := fun q h => by rw [← hAe]; exact Or.inr h
  have hS : va_S A s.heap s.heap [] := va_S.rf
  have hP : va_P (dC, dI) classes [(q_t, .inr (6, [.ref q_t_bytes, .int v_t_length])), (q_t_bytes, .inl (cB, 15, .inl f_t_bytes))] s.heap := hP
  have hl := lv_entry [.ref q_t, .int x1] (n := 5) (Nat.le_of_ble_eq_true rfl)
  have he9 : entryFrame m args 5 = F0 m 0 ((lg_sl [.ref q_t, .int x1] ++ List.replicate (5 - (lg_sl [.ref q_t, .int x1]).length) Slot.unset).toArray) [] := by rw [ha]; exact lg_entry_eq _ _ _
  rw [he9]
  clear he9
  generalize (lg_sl [.ref q_t, .int x1] ++ List.replicate (5 - (lg_sl [.ref q_t, .int x1]).length) Slot.unset).toArray = ls at hl ⊢
  have hl : lv_has ls 5 [(0, .ref q_t), (1, .int x1)] := hl
  unfold wp_Ln_addNumber at hw
  refine lv_iconst (v := 0) hx hb d_Ln_addNumber_0 (by decide) ?_
  refine lv_istore_n (lv' := [(2, .int 0), (0, .ref q_t), (1, .int x1)]) hx hb d_Ln_addNumber_1 rfl hl (by decide) rfl (fun ls hl => ?_)
  refine lv_ldc (v := 100000) hx hb hown (hts (Cond.constant R_Ln 60 100000) kw19_597ed11) d_Ln_addNumber_2 ?_
  refine lv_istore_n (lv' := [(3, .int 100000), (2, .int 0), (0, .ref q_t), (1, .int x1)]) hx hb d_Ln_addNumber_4 rfl hl (by decide) rfl (fun ls hl => ?_)
  obtain ⟨n_5, hw⟩ := hw
  have EX_59 : ∀ (x2_L5 : Int32) (x3_L5 : Int32) (v_t_length_L5 : Int32) (f_t_bytes_L5 : (Nat → Int32)) (H : Heap) (locs : List Loc) (ls : Array Slot), va_P (dC, dI) classes [(q_t, .inr (6, [.ref q_t_bytes, .int v_t_length_L5])), (q_t_bytes, .inl (cB, 15, .inl f_t_bytes_L5))] H → va_D A [(q_t, .inr (6, [.ref q_t_bytes, .int v_t_length_L5])), (q_t_bytes, .inl (cB, 15, .inl f_t_bytes_L5))] → va_S A s.heap H locs → lv_has ls 5 [(0, .ref q_t), (1, .int x1), (2, .int x2_L5), (3, .int x3_L5)] → wk_Ln_addNumber_59_5 P x2_L5 x3_L5 v_t_length_L5 f_t_bytes_L5 → W p l e (headSpec w_Ln_addNumber rm_Ln_addNumber).room s m args below meth c H locs 0 0 (MQ below (Q_Ln_addNumber dC dI cI cL cB q_t q_t_bytes v_t_length f_t_bytes x1 P A) args s 0 0 A) (F0 m 59 ls []) := by
    intro x2_L5 x3_L5 v_t_length_L5 f_t_bytes_L5 H locs ls hP hD hS hl hw
    unfold wk_Ln_addNumber_59_5 at hw
    exact W.vret hx hb hr (fun t ht hW => ⟨⟨(v_t_length_L5, f_t_bytes_L5), rfl, hw, by rw [ht]; exact hP, va_K.moved hW.alike hK, hD⟩, hS.F ht⟩) hS.2.2 d_Ln_addNumber_59
  have LP_5 : ∀ (k_5 : Nat) (x2_L5 : Int32) (x3_L5 : Int32) (v_t_length_L5 : Int32) (f_t_bytes_L5 : (Nat → Int32)) (H : Heap) (locs : List Loc) (ls : Array Slot), va_P (dC, dI) classes [(q_t, .inr (6, [.ref q_t_bytes, .int v_t_length_L5])), (q_t_bytes, .inl (cB, 15, .inl f_t_bytes_L5))] H → va_D A [(q_t, .inr (6, [.ref q_t_bytes, .int v_t_length_L5])), (q_t_bytes, .inl (cB, 15, .inl f_t_bytes_L5))] → va_S A s.heap H locs → lv_has ls 5 [(0, .ref q_t), (1, .int x1), (2, .int x2_L5), (3, .int x3_L5)] → wl_Ln_addNumber_5 x1 (wk_Ln_addNumber_59_5 P) k_5 x2_L5 x3_L5 v_t_length_L5 f_t_bytes_L5 → W p l e (headSpec w_Ln_addNumber rm_Ln_addNumber).room s m args below meth c H locs 0 0 (MQ below (Q_Ln_addNumber dC dI cI cL cB q_t q_t_bytes v_t_length f_t_bytes x1 P A) args s 0 0 A) (F0 m 5 ls []) := by
    intro k_5
    induction k_5 with
    | zero => intro x2_L5 x3_L5 v_t_length_L5 f_t_bytes_L5 H locs ls hP hD hS hl hw; unfold wl_Ln_addNumber_5 at hw; exact hw.elim
    | succ k_5 ih_5 =>
      intro x2_L5 x3_L5 v_t_length_L5 f_t_bytes_L5 H locs ls hP hD hS hl hw
      unfold wl_Ln_addNumber_5 at hw
      refine lv_iload_n hx hb d_Ln_addNumber_5 rfl (lv_at hl 3 rfl) ?_
      refine lv_iconst (v := 1) hx hb d_Ln_addNumber_6 (by decide) ?_
      refine lv_icmp_lt (tgt := 59) hx hb d_Ln_addNumber_7 (by decide) (fun c7 => ?_) (fun c7 => ?_)
      · replace hw := hw.1 c7
        exact EX_59 x2_L5 x3_L5 v_t_length_L5 f_t_bytes_L5 H _ _ hP hD hS (lv_sub hl [0, 1, 2, 3] rfl) hw
      · replace hw := hw.2 c7
        refine lv_iload_n hx hb d_Ln_addNumber_10 rfl (lv_at hl 1 rfl) ?_
        refine lv_iload_n hx hb d_Ln_addNumber_11 rfl (lv_at hl 3 rfl) ?_
        refine lv_idiv hx hb d_Ln_addNumber_12 hw.1 ?_
        replace hw := hw.2
        refine lv_bipush (v := 10) hx hb d_Ln_addNumber_13 (by decide) ?_
        refine lv_irem hx hb d_Ln_addNumber_15 (by decide) ?_
        refine lv_istore (lv' := [(4, .int ((x1 / x3_L5) - (x1 / x3_L5) / 10 * 10)), (0, .ref q_t), (1, .int x1), (2, .int x2_L5), (3, .int x3_L5)]) hx hb d_Ln_addNumber_16 hl (by decide) rfl (fun ls hl => ?_)
        refine lv_iload_n hx hb d_Ln_addNumber_18 rfl (lv_at hl 3 rfl) ?_
        refine lv_if_ne (tgt := 32) hx hb d_Ln_addNumber_19 (by decide) (fun c19 => ?_) (fun c19 => ?_)
        · replace hw := hw.1 c19
          refine lv_iconst (v := 1) hx hb d_Ln_addNumber_32 (by decide) ?_
          refine lv_goto (tgt := 37) hx hb d_Ln_addNumber_33 (by decide) ?_
          refine lv_istore_n (lv' := [(2, .int 1), (4, .int ((x1 / x3_L5) - (x1 / x3_L5) / 10 * 10)), (0, .ref q_t), (1, .int x1), (3, .int x3_L5)]) hx hb d_Ln_addNumber_37 rfl hl (by decide) rfl (fun ls hl => ?_)
          refine lv_iload_n hx hb d_Ln_addNumber_38 rfl (lv_at hl 0 rfl) ?_
          refine lv_if_eq (tgt := 51) hx hb d_Ln_addNumber_39 (by decide) (fun c39 => ?_) (fun c39 => ?_)
          · replace hw := hw.1 c39
            refine lv_iload_n hx hb d_Ln_addNumber_51 rfl (lv_at hl 4 rfl) ?_
            refine lv_bipush (v := 10) hx hb d_Ln_addNumber_52 (by decide) ?_
            refine lv_idiv hx hb d_Ln_addNumber_54 (by decide) ?_
            refine lv_istore_n (lv' := [(3, .int (x3_L5 / 10)), (2, .int 1), (4, .int ((x1 / x3_L5) - (x1 / x3_L5) / 10 * 10)), (0, .ref q_t), (1, .int x1)]) hx hb d_Ln_addNumber_55 rfl hl (by decide) rfl (fun ls hl => ?_)
            refine lv_goto (tgt := 5) hx hb d_Ln_addNumber_56 (by decide) ?_
            exact ih_5 1 (x3_L5 / 10) v_t_length_L5 f_t_bytes_L5 H _ _ hP hD hS (lv_sub hl [3, 4, 1, 0] rfl) hw
          · replace hw := hw.2 c39
            refine lv_aload_n hx hb d_Ln_addNumber_42 rfl (lv_at hl 2 rfl) ?_
            refine lv_bipush (v := 48) hx hb d_Ln_addNumber_43 (by decide) ?_
            refine lv_iload hx hb d_Ln_addNumber_45 (lv_at hl 1 rfl) ?_
            refine lv_iadd hx hb d_Ln_addNumber_47 ?_
            have hPc := hP.sub (ws' := [(q_t, .inr (6, [.ref q_t_bytes, .int v_t_length_L5])), (q_t_bytes, .inl (cB, 15, .inl f_t_bytes_L5))]) [0, 1] rfl
            have hDc := hD.sub (ws' := [(q_t, .inr (6, [.ref q_t_bytes, .int v_t_length_L5])), (q_t_bytes, .inl (cB, 15, .inl f_t_bytes_L5))]) [0, 1] (by decide) rfl
            have hFc := va_free (wc := [(q_t, .inr (6, [.ref q_t_bytes, .int v_t_length_L5])), (q_t_bytes, .inl (cB, 15, .inl f_t_bytes_L5))]) hD hS hA [0, 1] rfl
            refine va_callv (va_runV (As := [.int (48 + ((x1 / x3_L5) - (x1 / x3_L5) / 10 * 10))]) (rest := []) ⟨hx, hb, hml, hown, hts⟩ (c_Ln_addByte l dC dI cI cL cB q_t q_t_bytes H.size v_t_length_L5 f_t_bytes_L5 (48 + ((x1 / x3_L5) - (x1 / x3_L5) / 10 * 10)) _ hw) (my_cwV 1 hts kw19_4be27de kw19_8d69dd5 kw19_252ecb9 kw19_c117f00 kw19_7946f56 rfl rfl (by decide +kernel) ⟨Nat.le_of_ble_eq_true rfl, Nat.le_of_ble_eq_true rfl⟩) ⟨fun a U g mk q => by obtain ⟨q0, q1, qP, qK, qD⟩ := q; exact ⟨q0, q1, qP, va_K.moved (u := U) (U := U.calling g mk a) (Vm.Alike.refl U.vm) qK, qD⟩, va_recv hK hP (ci := 6) (q0 := 0) rfl rfl, fun U hU hW => ⟨rfl, by rw [hU], by rw [hU]; exact hPc, va_K.moved hW.alike hK, hDc.weaken (fun _ _ _ _ => trivial)⟩⟩ rfl rfl hl.1 rfl (lv_room (Nat.le_of_ble_eq_true rfl)) d_Ln_addNumber_48 ⟨Nat.zero_le _, Nat.zero_le _⟩) hS (fun q _ h => hFc q h) hFc (fun u t H locs ht hvm hw hB hz1 hk1 hS => ?_)
            obtain ⟨v_t_length_c48, f_t_bytes_c48⟩ := u
            obtain ⟨hP1, hK1, hD1⟩ := hB
            rw [ht] at hP1
            obtain ⟨hP, hD⟩ := va_join (wr := []) (w1 := [(q_t, .inr (6, [.ref q_t_bytes, .int v_t_length_c48])), (q_t_bytes, .inl (cB, 15, .inl f_t_bytes_c48))]) hP hD [0, 1] [] rfl rfl (by decide) (by decide) hk1 hFc hP1 hD1
            have hP : va_P (dC, dI) classes [(q_t, .inr (6, [.ref q_t_bytes, .int v_t_length_c48])), (q_t_bytes, .inl (cB, 15, .inl f_t_bytes_c48))] H := hP.sub (ws' := [(q_t, .inr (6, [.ref q_t_bytes, .int v_t_length_c48])), (q_t_bytes, .inl (cB, 15, .inl f_t_bytes_c48))]) [0, 1] rfl
            have hD : va_D A [(q_t, .inr (6, [.ref q_t_bytes, .int v_t_length_c48])), (q_t_bytes, .inl (cB, 15, .inl f_t_bytes_c48))] := hD.sub (ws' := [(q_t, .inr (6, [.ref q_t_bytes, .int v_t_length_c48])), (q_t_bytes, .inl (cB, 15, .inl f_t_bytes_c48))]) [0, 1] (by decide) rfl
            refine lv_iload_n hx hb d_Ln_addNumber_51 rfl (lv_at hl 4 rfl) ?_
            refine lv_bipush (v := 10) hx hb d_Ln_addNumber_52 (by decide) ?_
            refine lv_idiv hx hb d_Ln_addNumber_54 (by decide) ?_
            refine lv_istore_n (lv' := [(3, .int (x3_L5 / 10)), (2, .int 1), (4, .int ((x1 / x3_L5) - (x1 / x3_L5) / 10 * 10)), (0, .ref q_t), (1, .int x1)]) hx hb d_Ln_addNumber_55 rfl hl (by decide) rfl (fun ls hl => ?_)
            refine lv_goto (tgt := 5) hx hb d_Ln_addNumber_56 (by decide) ?_
            exact ih_5 1 (x3_L5 / 10) v_t_length_c48 f_t_bytes_c48 H _ _ hP hD hS (lv_sub hl [3, 4, 1, 0] rfl) hw
        · replace hw := hw.2 c19
          refine lv_iload hx hb d_Ln_addNumber_22 (lv_at hl 0 rfl) ?_
          refine lv_if_gt (tgt := 32) hx hb d_Ln_addNumber_24 (by decide) (fun c24 => ?_) (fun c24 => ?_)
          · replace hw := hw.1 c24
            refine lv_iconst (v := 1) hx hb d_Ln_addNumber_32 (by decide) ?_
            refine lv_goto (tgt := 37) hx hb d_Ln_addNumber_33 (by decide) ?_
            refine lv_istore_n (lv' := [(2, .int 1), (4, .int ((x1 / x3_L5) - (x1 / x3_L5) / 10 * 10)), (0, .ref q_t), (1, .int x1), (3, .int x3_L5)]) hx hb d_Ln_addNumber_37 rfl hl (by decide) rfl (fun ls hl => ?_)
            refine lv_iload_n hx hb d_Ln_addNumber_38 rfl (lv_at hl 0 rfl) ?_
            refine lv_if_eq (tgt := 51) hx hb d_Ln_addNumber_39 (by decide) (fun c39 => ?_) (fun c39 => ?_)
            · replace hw := hw.1 c39
              refine lv_iload_n hx hb d_Ln_addNumber_51 rfl (lv_at hl 4 rfl) ?_
              refine lv_bipush (v := 10) hx hb d_Ln_addNumber_52 (by decide) ?_
              refine lv_idiv hx hb d_Ln_addNumber_54 (by decide) ?_
              refine lv_istore_n (lv' := [(3, .int (x3_L5 / 10)), (2, .int 1), (4, .int ((x1 / x3_L5) - (x1 / x3_L5) / 10 * 10)), (0, .ref q_t), (1, .int x1)]) hx hb d_Ln_addNumber_55 rfl hl (by decide) rfl (fun ls hl => ?_)
              refine lv_goto (tgt := 5) hx hb d_Ln_addNumber_56 (by decide) ?_
              exact ih_5 1 (x3_L5 / 10) v_t_length_L5 f_t_bytes_L5 H _ _ hP hD hS (lv_sub hl [3, 4, 1, 0] rfl) hw
            · replace hw := hw.2 c39
              refine lv_aload_n hx hb d_Ln_addNumber_42 rfl (lv_at hl 2 rfl) ?_
              refine lv_bipush (v := 48) hx hb d_Ln_addNumber_43 (by decide) ?_
              refine lv_iload hx hb d_Ln_addNumber_45 (lv_at hl 1 rfl) ?_
              refine lv_iadd hx hb d_Ln_addNumber_47 ?_
              have hPc := hP.sub (ws' := [(q_t, .inr (6, [.ref q_t_bytes, .int v_t_length_L5])), (q_t_bytes, .inl (cB, 15, .inl f_t_bytes_L5))]) [0, 1] rfl
              have hDc := hD.sub (ws' := [(q_t, .inr (6, [.ref q_t_bytes, .int v_t_length_L5])), (q_t_bytes, .inl (cB, 15, .inl f_t_bytes_L5))]) [0, 1] (by decide) rfl
              have hFc := va_free (wc := [(q_t, .inr (6, [.ref q_t_bytes, .int v_t_length_L5])), (q_t_bytes, .inl (cB, 15, .inl f_t_bytes_L5))]) hD hS hA [0, 1] rfl
              refine va_callv (va_runV (As := [.int (48 + ((x1 / x3_L5) - (x1 / x3_L5) / 10 * 10))]) (rest := []) ⟨hx, hb, hml, hown, hts⟩ (c_Ln_addByte l dC dI cI cL cB q_t q_t_bytes H.size v_t_length_L5 f_t_bytes_L5 (48 + ((x1 / x3_L5) - (x1 / x3_L5) / 10 * 10)) _ hw) (my_cwV 1 hts kw19_4be27de kw19_8d69dd5 kw19_252ecb9 kw19_c117f00 kw19_7946f56 rfl rfl (by decide +kernel) ⟨Nat.le_of_ble_eq_true rfl, Nat.le_of_ble_eq_true rfl⟩) ⟨fun a U g mk q => by obtain ⟨q0, q1, qP, qK, qD⟩ := q; exact ⟨q0, q1, qP, va_K.moved (u := U) (U := U.calling g mk a) (Vm.Alike.refl U.vm) qK, qD⟩, va_recv hK hP (ci := 6) (q0 := 0) rfl rfl, fun U hU hW => ⟨rfl, by rw [hU], by rw [hU]; exact hPc, va_K.moved hW.alike hK, hDc.weaken (fun _ _ _ _ => trivial)⟩⟩ rfl rfl hl.1 rfl (lv_room (Nat.le_of_ble_eq_true rfl)) d_Ln_addNumber_48 ⟨Nat.zero_le _, Nat.zero_le _⟩) hS (fun q _ h => hFc q h) hFc (fun u t H locs ht hvm hw hB hz1 hk1 hS => ?_)
              obtain ⟨v_t_length_c48, f_t_bytes_c48⟩ := u
              obtain ⟨hP1, hK1, hD1⟩ := hB
              rw [ht] at hP1
              obtain ⟨hP, hD⟩ := va_join (wr := []) (w1 := [(q_t, .inr (6, [.ref q_t_bytes, .int v_t_length_c48])), (q_t_bytes, .inl (cB, 15, .inl f_t_bytes_c48))]) hP hD [0, 1] [] rfl rfl (by decide) (by decide) hk1 hFc hP1 hD1
              have hP : va_P (dC, dI) classes [(q_t, .inr (6, [.ref q_t_bytes, .int v_t_length_c48])), (q_t_bytes, .inl (cB, 15, .inl f_t_bytes_c48))] H := hP.sub (ws' := [(q_t, .inr (6, [.ref q_t_bytes, .int v_t_length_c48])), (q_t_bytes, .inl (cB, 15, .inl f_t_bytes_c48))]) [0, 1] rfl
              have hD : va_D A [(q_t, .inr (6, [.ref q_t_bytes, .int v_t_length_c48])), (q_t_bytes, .inl (cB, 15, .inl f_t_bytes_c48))] := hD.sub (ws' := [(q_t, .inr (6, [.ref q_t_bytes, .int v_t_length_c48])), (q_t_bytes, .inl (cB, 15, .inl f_t_bytes_c48))]) [0, 1] (by decide) rfl
              refine lv_iload_n hx hb d_Ln_addNumber_51 rfl (lv_at hl 4 rfl) ?_
              refine lv_bipush (v := 10) hx hb d_Ln_addNumber_52 (by decide) ?_
              refine lv_idiv hx hb d_Ln_addNumber_54 (by decide) ?_
              refine lv_istore_n (lv' := [(3, .int (x3_L5 / 10)), (2, .int 1), (4, .int ((x1 / x3_L5) - (x1 / x3_L5) / 10 * 10)), (0, .ref q_t), (1, .int x1)]) hx hb d_Ln_addNumber_55 rfl hl (by decide) rfl (fun ls hl => ?_)
              refine lv_goto (tgt := 5) hx hb d_Ln_addNumber_56 (by decide) ?_
              exact ih_5 1 (x3_L5 / 10) v_t_length_c48 f_t_bytes_c48 H _ _ hP hD hS (lv_sub hl [3, 4, 1, 0] rfl) hw
          · replace hw := hw.2 c24
            refine lv_iload_n hx hb d_Ln_addNumber_27 rfl (lv_at hl 4 rfl) ?_
            refine lv_iconst (v := 1) hx hb d_Ln_addNumber_28 (by decide) ?_
            refine lv_icmp_ne (tgt := 36) hx hb d_Ln_addNumber_29 (by decide) (fun c29 => ?_) (fun c29 => ?_)
            · replace hw := hw.1 c29
              refine lv_iconst (v := 0) hx hb d_Ln_addNumber_36 (by decide) ?_
              refine lv_istore_n (lv' := [(2, .int 0), (4, .int ((x1 / x3_L5) - (x1 / x3_L5) / 10 * 10)), (0, .ref q_t), (1, .int x1), (3, .int x3_L5)]) hx hb d_Ln_addNumber_37 rfl hl (by decide) rfl (fun ls hl => ?_)
              refine lv_iload_n hx hb d_Ln_addNumber_38 rfl (lv_at hl 0 rfl) ?_
              refine lv_if_eq (tgt := 51) hx hb d_Ln_addNumber_39 (by decide) (fun c39 => ?_) (fun c39 => ?_)
              · replace hw := hw.1 c39
                refine lv_iload_n hx hb d_Ln_addNumber_51 rfl (lv_at hl 4 rfl) ?_
                refine lv_bipush (v := 10) hx hb d_Ln_addNumber_52 (by decide) ?_
                refine lv_idiv hx hb d_Ln_addNumber_54 (by decide) ?_
                refine lv_istore_n (lv' := [(3, .int (x3_L5 / 10)), (2, .int 0), (4, .int ((x1 / x3_L5) - (x1 / x3_L5) / 10 * 10)), (0, .ref q_t), (1, .int x1)]) hx hb d_Ln_addNumber_55 rfl hl (by decide) rfl (fun ls hl => ?_)
                refine lv_goto (tgt := 5) hx hb d_Ln_addNumber_56 (by decide) ?_
                exact ih_5 0 (x3_L5 / 10) v_t_length_L5 f_t_bytes_L5 H _ _ hP hD hS (lv_sub hl [3, 4, 1, 0] rfl) hw
              · replace hw := hw.2 c39
                refine lv_aload_n hx hb d_Ln_addNumber_42 rfl (lv_at hl 2 rfl) ?_
                refine lv_bipush (v := 48) hx hb d_Ln_addNumber_43 (by decide) ?_
                refine lv_iload hx hb d_Ln_addNumber_45 (lv_at hl 1 rfl) ?_
                refine lv_iadd hx hb d_Ln_addNumber_47 ?_
                have hPc := hP.sub (ws' := [(q_t, .inr (6, [.ref q_t_bytes, .int v_t_length_L5])), (q_t_bytes, .inl (cB, 15, .inl f_t_bytes_L5))]) [0, 1] rfl
                have hDc := hD.sub (ws' := [(q_t, .inr (6, [.ref q_t_bytes, .int v_t_length_L5])), (q_t_bytes, .inl (cB, 15, .inl f_t_bytes_L5))]) [0, 1] (by decide) rfl
                have hFc := va_free (wc := [(q_t, .inr (6, [.ref q_t_bytes, .int v_t_length_L5])), (q_t_bytes, .inl (cB, 15, .inl f_t_bytes_L5))]) hD hS hA [0, 1] rfl
                refine va_callv (va_runV (As := [.int (48 + ((x1 / x3_L5) - (x1 / x3_L5) / 10 * 10))]) (rest := []) ⟨hx, hb, hml, hown, hts⟩ (c_Ln_addByte l dC dI cI cL cB q_t q_t_bytes H.size v_t_length_L5 f_t_bytes_L5 (48 + ((x1 / x3_L5) - (x1 / x3_L5) / 10 * 10)) _ hw) (my_cwV 1 hts kw19_4be27de kw19_8d69dd5 kw19_252ecb9 kw19_c117f00 kw19_7946f56 rfl rfl (by decide +kernel) ⟨Nat.le_of_ble_eq_true rfl, Nat.le_of_ble_eq_true rfl⟩) ⟨fun a U g mk q => by obtain ⟨q0, q1, qP, qK, qD⟩ := q; exact ⟨q0, q1, qP, va_K.moved (u := U) (U := U.calling g mk a) (Vm.Alike.refl U.vm) qK, qD⟩, va_recv hK hP (ci := 6) (q0 := 0) rfl rfl, fun U hU hW => ⟨rfl, by rw [hU], by rw [hU]; exact hPc, va_K.moved hW.alike hK, hDc.weaken (fun _ _ _ _ => trivial)⟩⟩ rfl rfl hl.1 rfl (lv_room (Nat.le_of_ble_eq_true rfl)) d_Ln_addNumber_48 ⟨Nat.zero_le _, Nat.zero_le _⟩) hS (fun q _ h => hFc q h) hFc (fun u t H locs ht hvm hw hB hz1 hk1 hS => ?_)
                obtain ⟨v_t_length_c48, f_t_bytes_c48⟩ := u
                obtain ⟨hP1, hK1, hD1⟩ := hB
                rw [ht] at hP1
                obtain ⟨hP, hD⟩ := va_join (wr := []) (w1 := [(q_t, .inr (6, [.ref q_t_bytes, .int v_t_length_c48])), (q_t_bytes, .inl (cB, 15, .inl f_t_bytes_c48))]) hP hD [0, 1] [] rfl rfl (by decide) (by decide) hk1 hFc hP1 hD1
                have hP : va_P (dC, dI) classes [(q_t, .inr (6, [.ref q_t_bytes, .int v_t_length_c48])), (q_t_bytes, .inl (cB, 15, .inl f_t_bytes_c48))] H := hP.sub (ws' := [(q_t, .inr (6, [.ref q_t_bytes, .int v_t_length_c48])), (q_t_bytes, .inl (cB, 15, .inl f_t_bytes_c48))]) [0, 1] rfl
                have hD : va_D A [(q_t, .inr (6, [.ref q_t_bytes, .int v_t_length_c48])), (q_t_bytes, .inl (cB, 15, .inl f_t_bytes_c48))] := hD.sub (ws' := [(q_t, .inr (6, [.ref q_t_bytes, .int v_t_length_c48])), (q_t_bytes, .inl (cB, 15, .inl f_t_bytes_c48))]) [0, 1] (by decide) rfl
                refine lv_iload_n hx hb d_Ln_addNumber_51 rfl (lv_at hl 4 rfl) ?_
                refine lv_bipush (v := 10) hx hb d_Ln_addNumber_52 (by decide) ?_
                refine lv_idiv hx hb d_Ln_addNumber_54 (by decide) ?_
                refine lv_istore_n (lv' := [(3, .int (x3_L5 / 10)), (2, .int 0), (4, .int ((x1 / x3_L5) - (x1 / x3_L5) / 10 * 10)), (0, .ref q_t), (1, .int x1)]) hx hb d_Ln_addNumber_55 rfl hl (by decide) rfl (fun ls hl => ?_)
                refine lv_goto (tgt := 5) hx hb d_Ln_addNumber_56 (by decide) ?_
                exact ih_5 0 (x3_L5 / 10) v_t_length_c48 f_t_bytes_c48 H _ _ hP hD hS (lv_sub hl [3, 4, 1, 0] rfl) hw
            · replace hw := hw.2 c29
              refine lv_iconst (v := 1) hx hb d_Ln_addNumber_32 (by decide) ?_
              refine lv_goto (tgt := 37) hx hb d_Ln_addNumber_33 (by decide) ?_
              refine lv_istore_n (lv' := [(2, .int 1), (4, .int ((x1 / x3_L5) - (x1 / x3_L5) / 10 * 10)), (0, .ref q_t), (1, .int x1), (3, .int x3_L5)]) hx hb d_Ln_addNumber_37 rfl hl (by decide) rfl (fun ls hl => ?_)
              refine lv_iload_n hx hb d_Ln_addNumber_38 rfl (lv_at hl 0 rfl) ?_
              refine lv_if_eq (tgt := 51) hx hb d_Ln_addNumber_39 (by decide) (fun c39 => ?_) (fun c39 => ?_)
              · replace hw := hw.1 c39
                refine lv_iload_n hx hb d_Ln_addNumber_51 rfl (lv_at hl 4 rfl) ?_
                refine lv_bipush (v := 10) hx hb d_Ln_addNumber_52 (by decide) ?_
                refine lv_idiv hx hb d_Ln_addNumber_54 (by decide) ?_
                refine lv_istore_n (lv' := [(3, .int (x3_L5 / 10)), (2, .int 1), (4, .int ((x1 / x3_L5) - (x1 / x3_L5) / 10 * 10)), (0, .ref q_t), (1, .int x1)]) hx hb d_Ln_addNumber_55 rfl hl (by decide) rfl (fun ls hl => ?_)
                refine lv_goto (tgt := 5) hx hb d_Ln_addNumber_56 (by decide) ?_
                exact ih_5 1 (x3_L5 / 10) v_t_length_L5 f_t_bytes_L5 H _ _ hP hD hS (lv_sub hl [3, 4, 1, 0] rfl) hw
              · replace hw := hw.2 c39
                refine lv_aload_n hx hb d_Ln_addNumber_42 rfl (lv_at hl 2 rfl) ?_
                refine lv_bipush (v := 48) hx hb d_Ln_addNumber_43 (by decide) ?_
                refine lv_iload hx hb d_Ln_addNumber_45 (lv_at hl 1 rfl) ?_
                refine lv_iadd hx hb d_Ln_addNumber_47 ?_
                have hPc := hP.sub (ws' := [(q_t, .inr (6, [.ref q_t_bytes, .int v_t_length_L5])), (q_t_bytes, .inl (cB, 15, .inl f_t_bytes_L5))]) [0, 1] rfl
                have hDc := hD.sub (ws' := [(q_t, .inr (6, [.ref q_t_bytes, .int v_t_length_L5])), (q_t_bytes, .inl (cB, 15, .inl f_t_bytes_L5))]) [0, 1] (by decide) rfl
                have hFc := va_free (wc := [(q_t, .inr (6, [.ref q_t_bytes, .int v_t_length_L5])), (q_t_bytes, .inl (cB, 15, .inl f_t_bytes_L5))]) hD hS hA [0, 1] rfl
                refine va_callv (va_runV (As := [.int (48 + ((x1 / x3_L5) - (x1 / x3_L5) / 10 * 10))]) (rest := []) ⟨hx, hb, hml, hown, hts⟩ (c_Ln_addByte l dC dI cI cL cB q_t q_t_bytes H.size v_t_length_L5 f_t_bytes_L5 (48 + ((x1 / x3_L5) - (x1 / x3_L5) / 10 * 10)) _ hw) (my_cwV 1 hts kw19_4be27de kw19_8d69dd5 kw19_252ecb9 kw19_c117f00 kw19_7946f56 rfl rfl (by decide +kernel) ⟨Nat.le_of_ble_eq_true rfl, Nat.le_of_ble_eq_true rfl⟩) ⟨fun a U g mk q => by obtain ⟨q0, q1, qP, qK, qD⟩ := q; exact ⟨q0, q1, qP, va_K.moved (u := U) (U := U.calling g mk a) (Vm.Alike.refl U.vm) qK, qD⟩, va_recv hK hP (ci := 6) (q0 := 0) rfl rfl, fun U hU hW => ⟨rfl, by rw [hU], by rw [hU]; exact hPc, va_K.moved hW.alike hK, hDc.weaken (fun _ _ _ _ => trivial)⟩⟩ rfl rfl hl.1 rfl (lv_room (Nat.le_of_ble_eq_true rfl)) d_Ln_addNumber_48 ⟨Nat.zero_le _, Nat.zero_le _⟩) hS (fun q _ h => hFc q h) hFc (fun u t H locs ht hvm hw hB hz1 hk1 hS => ?_)
                obtain ⟨v_t_length_c48, f_t_bytes_c48⟩ := u
                obtain ⟨hP1, hK1, hD1⟩ := hB
                rw [ht] at hP1
                obtain ⟨hP, hD⟩ := va_join (wr := []) (w1 := [(q_t, .inr (6, [.ref q_t_bytes, .int v_t_length_c48])), (q_t_bytes, .inl (cB, 15, .inl f_t_bytes_c48))]) hP hD [0, 1] [] rfl rfl (by decide) (by decide) hk1 hFc hP1 hD1
                have hP : va_P (dC, dI) classes [(q_t, .inr (6, [.ref q_t_bytes, .int v_t_length_c48])), (q_t_bytes, .inl (cB, 15, .inl f_t_bytes_c48))] H := hP.sub (ws' := [(q_t, .inr (6, [.ref q_t_bytes, .int v_t_length_c48])), (q_t_bytes, .inl (cB, 15, .inl f_t_bytes_c48))]) [0, 1] rfl
                have hD : va_D A [(q_t, .inr (6, [.ref q_t_bytes, .int v_t_length_c48])), (q_t_bytes, .inl (cB, 15, .inl f_t_bytes_c48))] := hD.sub (ws' := [(q_t, .inr (6, [.ref q_t_bytes, .int v_t_length_c48])), (q_t_bytes, .inl (cB, 15, .inl f_t_bytes_c48))]) [0, 1] (by decide) rfl
                refine lv_iload_n hx hb d_Ln_addNumber_51 rfl (lv_at hl 4 rfl) ?_
                refine lv_bipush (v := 10) hx hb d_Ln_addNumber_52 (by decide) ?_
                refine lv_idiv hx hb d_Ln_addNumber_54 (by decide) ?_
                refine lv_istore_n (lv' := [(3, .int (x3_L5 / 10)), (2, .int 1), (4, .int ((x1 / x3_L5) - (x1 / x3_L5) / 10 * 10)), (0, .ref q_t), (1, .int x1)]) hx hb d_Ln_addNumber_55 rfl hl (by decide) rfl (fun ls hl => ?_)
                refine lv_goto (tgt := 5) hx hb d_Ln_addNumber_56 (by decide) ?_
                exact ih_5 1 (x3_L5 / 10) v_t_length_c48 f_t_bytes_c48 H _ _ hP hD hS (lv_sub hl [3, 4, 1, 0] rfl) hw
  exact LP_5 n_5 0 100000 v_t_length f_t_bytes s.heap _ _ hP hD hS (lv_sub hl [2, 3, 1, 0] rfl) hw
def wp_Ln_addEnd (v_t_length : Int32) (f_t_bytes : (Nat → Int32)) (x1 : Int32) (P : Int32 → (Nat → Int32) → Prop) : Prop := ((¬ x1 = ((-1) : Int32) → wp_Ln_addNumber v_t_length f_t_bytes x1 (fun v_t_length_c16 f_t_bytes_c16 => P v_t_length_c16 f_t_bytes_c16)) ∧ (x1 = ((-1) : Int32) → wp_Ln_addWord v_t_length f_t_bytes 6 (fun v_t_length_c8 f_t_bytes_c8 => P v_t_length_c8 f_t_bytes_c8)))
def w_Ln_addEnd : List Cond := .code y_Ln_addEnd b_Ln_addEnd 2 none :: tb
abbrev rm_Ln_addEnd : Room := { frames := 5, cells := 0, slots := 0, locals := 107 }
abbrev Q_Ln_addEnd (dC : Nat → ClassId) (dI : Nat → Nat → Nat) (cI cL cB : ClassId) (q_t : Nat) (q_t_bytes : Nat) (v_t_length : Int32) (f_t_bytes : (Nat → Int32)) (x1 : Int32) (P : Int32 → (Nat → Int32) → Prop) (A : Nat → Prop) : Array Value → State → Outcome → State → Prop := va_Qv (fun (u : Int32 × (Nat → Int32)) => P u.1 u.2) (fun u t => va_P (dC, dI) classes [(q_t, .inr (6, [.ref q_t_bytes, .int u.1])), (q_t_bytes, .inl (cB, 15, .inl u.2))] t.heap ∧ va_K (dC, dI) classes [(cI, .int), (cL, .long), (cB, .byte)] t ∧ va_D A [(q_t, .inr (6, [.ref q_t_bytes, .int u.1])), (q_t_bytes, .inl (cB, 15, .inl u.2))]) A
set_option maxHeartbeats 4000000 in
set_option maxRecDepth 100000 in
theorem c_Ln_addEnd (l : Launch) (dC : Nat → ClassId) (dI : Nat → Nat → Nat) (cI cL cB : ClassId) (tP tR : Nat) (adK adV : Nat → Nat) (q_t : Nat) (q_t_bytes : Nat) (sz : Nat) (v_t_length : Int32) (f_t_bytes : (Nat → Int32)) (x1 : Int32) (P : Int32 → (Nat → Int32) → Prop) (hw : wp_Ln_addEnd v_t_length f_t_bytes x1 P) : Met l y_Ln_addEnd w_Ln_addEnd rm_Ln_addEnd (va_Pc [.ref q_t, .int x1] (fun U => U.heap.size = sz ∧ va_P (dC, dI) classes [(q_t, .inr (6, [.ref q_t_bytes, .int v_t_length])), (q_t_bytes, .inl (cB, 15, .inl f_t_bytes))] U.heap ∧ va_K (dC, dI) classes [(cI, .int), (cL, .long), (cB, .byte)] U ∧ va_D (fun _ => True) [(q_t, .inr (6, [.ref q_t_bytes, .int v_t_length])), (q_t_bytes, .inl (cB, 15, .inl f_t_bytes))] ∧ gx tP tR adK adV (va_A [(q_t, .inr (6, [.ref q_t_bytes, .int v_t_length])), (q_t_bytes, .inl (cB, 15, .inl f_t_bytes))] sz) U U.heap)) (Q_Ln_addEnd dC dI cI cL cB q_t q_t_bytes v_t_length f_t_bytes x1 P (va_A [(q_t, .inr (6, [.ref q_t_bytes, .int v_t_length])), (q_t_bytes, .inl (cB, 15, .inl f_t_bytes))] sz)) 0 0 (va_A [(q_t, .inr (6, [.ref q_t_bytes, .int v_t_length])), (q_t_bytes, .inl (cB, 15, .inl f_t_bytes))] sz) := by
  refine Met.ofW (cc := b_Ln_addEnd) (maxL := 2) (ret := none) (by decide) rfl ?_
  intro p e s m args below meth c s₁ B hml hv
  obtain ⟨ha, hsz, hP, hK, hD0, hG⟩ := hv
  have hx := B.exec
  have hb := B.bytes
  have hr := B.returns
  have hts0 := atoms_spec (ws := w_Ln_addEnd) B.pre
  have hts : ∀ w ∈ tb, w.before args s = true := fun w h => hts0 w (List.mem_cons_of_mem _ h)
  have hown : s.vm.findClass R_Ln = some m.cls := findClass_of_methodNamed B.named
  have hlocks := B.notSynchronized
  subst hsz
  have hD := hD0.self (sz := s.heap.size)
  generalize hAe : va_A [(q_t, .inr (6, [.ref q_t_bytes, .int v_t_length])), (q_t_bytes, .inl (cB, 15, .inl f_t_bytes))] s.heap.size = A at hD hG ⊢
  have hA : ∀ q : Nat, s.heap.size ≤ q → A q := fun q h => by rw [← hAe]; exact Or.inr h
  have hS : va_S A s.heap s.heap [] := va_S.rf
  have hP : va_P (dC, dI) classes [(q_t, .inr (6, [.ref q_t_bytes, .int v_t_length])), (q_t_bytes, .inl (cB, 15, .inl f_t_bytes))] s.heap := hP
  have hl := lv_entry [.ref q_t, .int x1] (n := 2) (Nat.le_of_ble_eq_true rfl)
  have he9 : entryFrame m args 2 = F0 m 0 ((lg_sl [.ref q_t, .int x1] ++ List.replicate (2 - (lg_sl [.ref q_t, .int x1]).length) Slot.unset).toArray) [] := by rw [ha]; exact lg_entry_eq _ _ _
  rw [he9]
  clear he9
  generalize (lg_sl [.ref q_t, .int x1] ++ List.replicate (2 - (lg_sl [.ref q_t, .int x1]).length) Slot.unset).toArray = ls at hl ⊢
  have hl : lv_has ls 2 [(0, .ref q_t), (1, .int x1)] := hl
  unfold wp_Ln_addEnd at hw
  refine lv_iload_n hx hb d_Ln_addEnd_0 rfl (lv_at hl 1 rfl) ?_
  refine lv_iconst (v := (-1)) hx hb d_Ln_addEnd_1 (by decide) ?_
  refine lv_icmp_ne (tgt := 14) hx hb d_Ln_addEnd_2 (by decide) (fun c2 => ?_) (fun c2 => ?_)
  · replace hw := hw.1 c2
    refine lv_aload_n hx hb d_Ln_addEnd_14 rfl (lv_at hl 0 rfl) ?_
    refine lv_iload_n hx hb d_Ln_addEnd_15 rfl (lv_at hl 1 rfl) ?_
    have hPc := hP.sub (ws' := [(q_t, .inr (6, [.ref q_t_bytes, .int v_t_length])), (q_t_bytes, .inl (cB, 15, .inl f_t_bytes))]) [0, 1] rfl
    have hDc := hD.sub (ws' := [(q_t, .inr (6, [.ref q_t_bytes, .int v_t_length])), (q_t_bytes, .inl (cB, 15, .inl f_t_bytes))]) [0, 1] (by decide) rfl
    have hFc := va_free (wc := [(q_t, .inr (6, [.ref q_t_bytes, .int v_t_length])), (q_t_bytes, .inl (cB, 15, .inl f_t_bytes))]) hD hS hA [0, 1] rfl
    refine va_callv (va_runV (As := [.int x1]) (rest := []) ⟨hx, hb, hml, hown, hts⟩ (c_Ln_addNumber l dC dI cI cL cB q_t q_t_bytes s.heap.size v_t_length f_t_bytes x1 _ hw) (my_cwV 1 hts kw19_d483023 kw19_af35ba1 kw19_a9ea5a0 kw19_c117f00 kw19_7f6e5a3 rfl rfl (by decide +kernel) ⟨Nat.le_of_ble_eq_true rfl, Nat.le_of_ble_eq_true rfl⟩) ⟨fun a U g mk q => by obtain ⟨q0, q1, qP, qK, qD⟩ := q; exact ⟨q0, q1, qP, va_K.moved (u := U) (U := U.calling g mk a) (Vm.Alike.refl U.vm) qK, qD⟩, va_recv hK hP (ci := 6) (q0 := 0) rfl rfl, fun U hU hW => ⟨rfl, by rw [hU], by rw [hU]; exact hPc, va_K.moved hW.alike hK, hDc.weaken (fun _ _ _ _ => trivial)⟩⟩ rfl rfl hl.1 rfl (lv_room (Nat.le_of_ble_eq_true rfl)) d_Ln_addEnd_16 ⟨Nat.zero_le _, Nat.zero_le _⟩) hS (fun q _ h => hFc q h) hFc (fun u t H locs ht hvm hw hB hz1 hk1 hS => ?_)
    obtain ⟨v_t_length_c16, f_t_bytes_c16⟩ := u
    obtain ⟨hP1, hK1, hD1⟩ := hB
    rw [ht] at hP1
    obtain ⟨hP, hD⟩ := va_join (wr := []) (w1 := [(q_t, .inr (6, [.ref q_t_bytes, .int v_t_length_c16])), (q_t_bytes, .inl (cB, 15, .inl f_t_bytes_c16))]) hP hD [0, 1] [] rfl rfl (by decide) (by decide) hk1 hFc hP1 hD1
    have hP : va_P (dC, dI) classes [(q_t, .inr (6, [.ref q_t_bytes, .int v_t_length_c16])), (q_t_bytes, .inl (cB, 15, .inl f_t_bytes_c16))] H := hP.sub (ws' := [(q_t, .inr (6, [.ref q_t_bytes, .int v_t_length_c16])), (q_t_bytes, .inl (cB, 15, .inl f_t_bytes_c16))]) [0, 1] rfl
    have hD : va_D A [(q_t, .inr (6, [.ref q_t_bytes, .int v_t_length_c16])), (q_t_bytes, .inl (cB, 15, .inl f_t_bytes_c16))] := hD.sub (ws' := [(q_t, .inr (6, [.ref q_t_bytes, .int v_t_length_c16])), (q_t_bytes, .inl (cB, 15, .inl f_t_bytes_c16))]) [0, 1] (by decide) rfl
    exact W.vret hx hb hr (fun t ht hW => ⟨⟨(v_t_length_c16, f_t_bytes_c16), rfl, hw, by rw [ht]; exact hP, va_K.moved hW.alike hK, hD⟩, hS.F ht⟩) hS.2.2 d_Ln_addEnd_19
  · replace hw := hw.2 c2
    refine lv_aload_n hx hb d_Ln_addEnd_5 rfl (lv_at hl 0 rfl) ?_
    refine va_ldcS hx hb hown hG.2.2.2.2.2.2.2.2.2.2.2.2.2.2.2.2.2.1 d_Ln_addEnd_6 ?_
    have hPc := hP.sub (ws' := [(q_t, .inr (6, [.ref q_t_bytes, .int v_t_length])), (q_t_bytes, .inl (cB, 15, .inl f_t_bytes))]) [0, 1] rfl
    have hDc := hD.sub (ws' := [(q_t, .inr (6, [.ref q_t_bytes, .int v_t_length])), (q_t_bytes, .inl (cB, 15, .inl f_t_bytes))]) [0, 1] (by decide) rfl
    have hFc := va_free (wc := [(q_t, .inr (6, [.ref q_t_bytes, .int v_t_length])), (q_t_bytes, .inl (cB, 15, .inl f_t_bytes))]) hD hS hA [0, 1] rfl
    refine va_callv (va_runV (As := [.ref (adK 6)]) (rest := []) ⟨hx, hb, hml, hown, hts⟩ (c_Ln_addWord l dC dI cI cL cB tP tR adK adV q_t q_t_bytes s.heap.size v_t_length f_t_bytes 6 _ hw) (my_cwV 1 hts kw19_992d72e kw19_ba13119 kw19_3a4eb80 kw19_c117f00 kw19_8361cea rfl rfl (by decide +kernel) ⟨Nat.le_of_ble_eq_true rfl, Nat.le_of_ble_eq_true rfl⟩) ⟨fun a U g mk q => by obtain ⟨q0, q1, qP, qK, qD, qG⟩ := q; exact ⟨q0, q1, qP, va_K.moved (u := U) (U := U.calling g mk a) (Vm.Alike.refl U.vm) qK, qD, gx_call qG⟩, va_recv hK hP (ci := 6) (q0 := 0) rfl rfl, fun U hU hW => ⟨rfl, by rw [hU], by rw [hU]; exact hPc, va_K.moved hW.alike hK, hDc.weaken (fun _ _ _ _ => trivial), by rw [hU]; exact gx_pass hW hS.2.1 hFc hG⟩⟩ rfl rfl hl.1 rfl (lv_room (Nat.le_of_ble_eq_true rfl)) d_Ln_addEnd_8 ⟨Nat.zero_le _, Nat.zero_le _⟩) hS (fun q _ h => hFc q h) hFc (fun u t H locs ht hvm hw hB hz1 hk1 hS => ?_)
    obtain ⟨v_t_length_c8, f_t_bytes_c8⟩ := u
    obtain ⟨hP1, hK1, hD1⟩ := hB
    rw [ht] at hP1
    obtain ⟨hP, hD⟩ := va_join (wr := []) (w1 := [(q_t, .inr (6, [.ref q_t_bytes, .int v_t_length_c8])), (q_t_bytes, .inl (cB, 15, .inl f_t_bytes_c8))]) hP hD [0, 1] [] rfl rfl (by decide) (by decide) hk1 hFc hP1 hD1
    have hP : va_P (dC, dI) classes [(q_t, .inr (6, [.ref q_t_bytes, .int v_t_length_c8])), (q_t_bytes, .inl (cB, 15, .inl f_t_bytes_c8))] H := hP.sub (ws' := [(q_t, .inr (6, [.ref q_t_bytes, .int v_t_length_c8])), (q_t_bytes, .inl (cB, 15, .inl f_t_bytes_c8))]) [0, 1] rfl
    have hD : va_D A [(q_t, .inr (6, [.ref q_t_bytes, .int v_t_length_c8])), (q_t_bytes, .inl (cB, 15, .inl f_t_bytes_c8))] := hD.sub (ws' := [(q_t, .inr (6, [.ref q_t_bytes, .int v_t_length_c8])), (q_t_bytes, .inl (cB, 15, .inl f_t_bytes_c8))]) [0, 1] (by decide) rfl
    refine lv_goto (tgt := 19) hx hb d_Ln_addEnd_11 (by decide) ?_
    exact W.vret hx hb hr (fun t ht hW => ⟨⟨(v_t_length_c8, f_t_bytes_c8), rfl, hw, by rw [ht]; exact hP, va_K.moved hW.alike hK, hD⟩, hS.F ht⟩) hS.2.2 d_Ln_addEnd_19
def wp_Ln_setToThing (v_t_length : Int32) (f_t_bytes : (Nat → Int32)) (f_p1_kind : (Nat → Int32)) (f_p1_capacity : (Nat → Int32)) (x2 : Int32) (P : Int32 → (Nat → Int32) → Prop) : Prop := (vp_in x2 40 ∧ (((f_p1_kind x2.toNatClampNeg) = 9 → wp_Ln_addWord 0 f_t_bytes 2 (fun v_t_length_c58 f_t_bytes_c58 => wp_Ln_addByte v_t_length_c58 f_t_bytes_c58 10 (fun v_t_length_c83 f_t_bytes_c83 => P v_t_length_c83 f_t_bytes_c83))) ∧ (¬ (f_p1_kind x2.toNatClampNeg) = 9 → (((f_p1_kind x2.toNatClampNeg) = 10 → wp_Ln_addWord 0 f_t_bytes 0 (fun v_t_length_c39 f_t_bytes_c39 => (vp_in x2 40 ∧ wp_Ln_addNumber v_t_length_c39 f_t_bytes_c39 (f_p1_capacity x2.toNatClampNeg) (fun v_t_length_c49 f_t_bytes_c49 => wp_Ln_addByte v_t_length_c49 f_t_bytes_c49 10 (fun v_t_length_c83 f_t_bytes_c83 => P v_t_length_c83 f_t_bytes_c83))))) ∧ (¬ (f_p1_kind x2.toNatClampNeg) = 10 → wp_Ln_addWord 0 f_t_bytes 1 (fun v_t_length_c67 f_t_bytes_c67 => (vp_in x2 40 ∧ wp_Ln_addNumber v_t_length_c67 f_t_bytes_c67 (f_p1_kind x2.toNatClampNeg) (fun v_t_length_c77 f_t_bytes_c77 => wp_Ln_addByte v_t_length_c77 f_t_bytes_c77 10 (fun v_t_length_c83 f_t_bytes_c83 => P v_t_length_c83 f_t_bytes_c83)))))))))
def w_Ln_setToThing : List Cond := .code y_Ln_setToThing b_Ln_setToThing 3 none :: tb
abbrev rm_Ln_setToThing : Room := { frames := 5, cells := 0, slots := 0, locals := 107 }
abbrev Q_Ln_setToThing (dC : Nat → ClassId) (dI : Nat → Nat → Nat) (cI cL cB : ClassId) (q_t : Nat) (q_p1 : Nat) (q_t_bytes : Nat) (q_p1_kind : Nat) (q_p1_position : Nat) (q_p1_told : Nat) (q_p1_capacity : Nat) (q_p1_amount : Nat) (q_p1_liquid : Nat) (q_p1_portsTaken : Nat) (q_p1_endAtPort : Nat) (q_p1_pipeLitres : Nat) (q_p1_thingAtEnd : Nat) (q_p1_portAtEnd : Nat) (q_p1_bendAtEnd : Nat) (q_p1_inPipes : Nat) (v_t_length : Int32) (f_t_bytes : (Nat → Int32)) (v_p1_things : Int32) (v_p1_pipes : Int32) (f_p1_kind : (Nat → Int32)) (f_p1_capacity : (Nat → Int32)) (x2 : Int32) (P : Int32 → (Nat → Int32) → Prop) (A : Nat → Prop) : Array Value → State → Outcome → State → Prop := va_Qv (fun (u : Int32 × (Nat → Int32)) => P u.1 u.2) (fun u t => va_P (dC, dI) classes [(q_t, .inr (6, [.ref q_t_bytes, .int u.1])), (q_t_bytes, .inl (cB, 15, .inl u.2)), (q_p1, .inr (1, [.int v_p1_things, .ref q_p1_kind, .ref q_p1_position, .ref q_p1_told, .ref q_p1_capacity, .ref q_p1_amount, .ref q_p1_liquid, .ref q_p1_portsTaken, .ref q_p1_endAtPort, .int v_p1_pipes, .ref q_p1_pipeLitres, .ref q_p1_thingAtEnd, .ref q_p1_portAtEnd, .ref q_p1_bendAtEnd, .ref q_p1_inPipes])), (q_p1_kind, .inl (cI, 40, .inl f_p1_kind)), (q_p1_capacity, .inl (cI, 40, .inl f_p1_capacity))] t.heap ∧ va_K (dC, dI) classes [(cI, .int), (cL, .long), (cB, .byte)] t ∧ va_D A [(q_t, .inr (6, [.ref q_t_bytes, .int u.1])), (q_t_bytes, .inl (cB, 15, .inl u.2)), (q_p1, .inr (1, [.int v_p1_things, .ref q_p1_kind, .ref q_p1_position, .ref q_p1_told, .ref q_p1_capacity, .ref q_p1_amount, .ref q_p1_liquid, .ref q_p1_portsTaken, .ref q_p1_endAtPort, .int v_p1_pipes, .ref q_p1_pipeLitres, .ref q_p1_thingAtEnd, .ref q_p1_portAtEnd, .ref q_p1_bendAtEnd, .ref q_p1_inPipes])), (q_p1_kind, .inl (cI, 40, .inl f_p1_kind)), (q_p1_capacity, .inl (cI, 40, .inl f_p1_capacity))]) A
set_option maxHeartbeats 4000000 in
set_option maxRecDepth 100000 in
theorem c_Ln_setToThing (l : Launch) (dC : Nat → ClassId) (dI : Nat → Nat → Nat) (cI cL cB : ClassId) (tP tR : Nat) (adK adV : Nat → Nat) (q_t : Nat) (q_p1 : Nat) (q_t_bytes : Nat) (q_p1_kind : Nat) (q_p1_position : Nat) (q_p1_told : Nat) (q_p1_capacity : Nat) (q_p1_amount : Nat) (q_p1_liquid : Nat) (q_p1_portsTaken : Nat) (q_p1_endAtPort : Nat) (q_p1_pipeLitres : Nat) (q_p1_thingAtEnd : Nat) (q_p1_portAtEnd : Nat) (q_p1_bendAtEnd : Nat) (q_p1_inPipes : Nat) (sz : Nat) (v_t_length : Int32) (f_t_bytes : (Nat → Int32)) (v_p1_things : Int32) (v_p1_pipes : Int32) (f_p1_kind : (Nat → Int32)) (f_p1_capacity : (Nat → Int32)) (x2 : Int32) (P : Int32 → (Nat → Int32) → Prop) (hw : wp_Ln_setToThing v_t_length f_t_bytes f_p1_kind f_p1_capacity x2 P) : Met l y_Ln_setToThing w_Ln_setToThing rm_Ln_setToThing (va_Pc [.ref q_t, .ref q_p1, .int x2] (fun U => U.heap.size = sz ∧ va_P (dC, dI) classes [(q_t, .inr (6, [.ref q_t_bytes, .int v_t_length])), (q_t_bytes, .inl (cB, 15, .inl f_t_bytes)), (q_p1, .inr (1, [.int v_p1_things, .ref q_p1_kind, .ref q_p1_position, .ref q_p1_told, .ref q_p1_capacity, .ref q_p1_amount, .ref q_p1_liquid, .ref q_p1_portsTaken, .ref q_p1_endAtPort, .int v_p1_pipes, .ref q_p1_pipeLitres, .ref q_p1_thingAtEnd, .ref q_p1_portAtEnd, .ref q_p1_bendAtEnd, .ref q_p1_inPipes])), (q_p1_kind, .inl (cI, 40, .inl f_p1_kind)), (q_p1_capacity, .inl (cI, 40, .inl f_p1_capacity))] U.heap ∧ va_K (dC, dI) classes [(cI, .int), (cL, .long), (cB, .byte)] U ∧ va_D (fun _ => True) [(q_t, .inr (6, [.ref q_t_bytes, .int v_t_length])), (q_t_bytes, .inl (cB, 15, .inl f_t_bytes)), (q_p1, .inr (1, [.int v_p1_things, .ref q_p1_kind, .ref q_p1_position, .ref q_p1_told, .ref q_p1_capacity, .ref q_p1_amount, .ref q_p1_liquid, .ref q_p1_portsTaken, .ref q_p1_endAtPort, .int v_p1_pipes, .ref q_p1_pipeLitres, .ref q_p1_thingAtEnd, .ref q_p1_portAtEnd, .ref q_p1_bendAtEnd, .ref q_p1_inPipes])), (q_p1_kind, .inl (cI, 40, .inl f_p1_kind)), (q_p1_capacity, .inl (cI, 40, .inl f_p1_capacity))] ∧ gx tP tR adK adV (va_A [(q_t, .inr (6, [.ref q_t_bytes, .int v_t_length])), (q_t_bytes, .inl (cB, 15, .inl f_t_bytes)), (q_p1, .inr (1, [.int v_p1_things, .ref q_p1_kind, .ref q_p1_position, .ref q_p1_told, .ref q_p1_capacity, .ref q_p1_amount, .ref q_p1_liquid, .ref q_p1_portsTaken, .ref q_p1_endAtPort, .int v_p1_pipes, .ref q_p1_pipeLitres, .ref q_p1_thingAtEnd, .ref q_p1_portAtEnd, .ref q_p1_bendAtEnd, .ref q_p1_inPipes])), (q_p1_kind, .inl (cI, 40, .inl f_p1_kind)), (q_p1_capacity, .inl (cI, 40, .inl f_p1_capacity))] sz) U U.heap)) (Q_Ln_setToThing dC dI cI cL cB q_t q_p1 q_t_bytes q_p1_kind q_p1_position q_p1_told q_p1_capacity q_p1_amount q_p1_liquid q_p1_portsTaken q_p1_endAtPort q_p1_pipeLitres q_p1_thingAtEnd q_p1_portAtEnd q_p1_bendAtEnd q_p1_inPipes v_t_length f_t_bytes v_p1_things v_p1_pipes f_p1_kind f_p1_capacity x2 P (va_A [(q_t, .inr (6, [.ref q_t_bytes, .int v_t_length])), (q_t_bytes, .inl (cB, 15, .inl f_t_bytes)), (q_p1, .inr (1, [.int v_p1_things, .ref q_p1_kind, .ref q_p1_position, .ref q_p1_told, .ref q_p1_capacity, .ref q_p1_amount, .ref q_p1_liquid, .ref q_p1_portsTaken, .ref q_p1_endAtPort, .int v_p1_pipes, .ref q_p1_pipeLitres, .ref q_p1_thingAtEnd, .ref q_p1_portAtEnd, .ref q_p1_bendAtEnd, .ref q_p1_inPipes])), (q_p1_kind, .inl (cI, 40, .inl f_p1_kind)), (q_p1_capacity, .inl (cI, 40, .inl f_p1_capacity))] sz)) 0 0 (va_A [(q_t, .inr (6, [.ref q_t_bytes, .int v_t_length])), (q_t_bytes, .inl (cB, 15, .inl f_t_bytes)), (q_p1, .inr (1, [.int v_p1_things, .ref q_p1_kind, .ref q_p1_position, .ref q_p1_told, .ref q_p1_capacity, .ref q_p1_amount, .ref q_p1_liquid, .ref q_p1_portsTaken, .ref q_p1_endAtPort, .int v_p1_pipes, .ref q_p1_pipeLitres, .ref q_p1_thingAtEnd, .ref q_p1_portAtEnd, .ref q_p1_bendAtEnd, .ref q_p1_inPipes])), (q_p1_kind, .inl (cI, 40, .inl f_p1_kind)), (q_p1_capacity, .inl (cI, 40, .inl f_p1_capacity))] sz) := by
  refine Met.ofW (cc := b_Ln_setToThing) (maxL := 3) (ret := none) (by decide) rfl ?_
  intro p e s m args below meth c s₁ B hml hv
  obtain ⟨ha, hsz, hP, hK, hD0, hG⟩ := hv
  have hx := B.exec
  have hb := B.bytes
  have hr := B.returns
  have hts0 := atoms_spec (ws := w_Ln_setToThing) B.pre
  have hts : ∀ w ∈ tb, w.before args s = true := fun w h => hts0 w (List.mem_cons_of_mem _ h)
  have hown : s.vm.findClass R_Ln = some m.cls := findClass_of_methodNamed B.named
  have hlocks := B.notSynchronized
  subst hsz
  have hD := hD0.self (sz := s.heap.size)
  generalize hAe : va_A [(q_t, .inr (6, [.ref q_t_bytes, .int v_t_length])), (q_t_bytes, .inl (cB, 15, .inl f_t_bytes)), (q_p1, .inr (1, [.int v_p1_things, .ref q_p1_kind, .ref q_p1_position, .ref q_p1_told, .ref q_p1_capacity, .ref q_p1_amount, .ref q_p1_liquid, .ref q_p1_portsTaken, .ref q_p1_endAtPort, .int v_p1_pipes, .ref q_p1_pipeLitres, .ref q_p1_thingAtEnd, .ref q_p1_portAtEnd, .ref q_p1_bendAtEnd, .ref q_p1_inPipes])), (q_p1_kind, .inl (cI, 40, .inl f_p1_kind)), (q_p1_capacity, .inl (cI, 40, .inl f_p1_capacity))] s.heap.size = A at hD hG ⊢
  have hA : ∀ q : Nat, s.heap.size ≤ q → A q := fun q h => by rw [← hAe]; exact Or.inr h
  have hS : va_S A s.heap s.heap [] := va_S.rf
  have hP : va_P (dC, dI) classes [(q_t, .inr (6, [.ref q_t_bytes, .int v_t_length])), (q_t_bytes, .inl (cB, 15, .inl f_t_bytes)), (q_p1, .inr (1, [.int v_p1_things, .ref q_p1_kind, .ref q_p1_position, .ref q_p1_told, .ref q_p1_capacity, .ref q_p1_amount, .ref q_p1_liquid, .ref q_p1_portsTaken, .ref q_p1_endAtPort, .int v_p1_pipes, .ref q_p1_pipeLitres, .ref q_p1_thingAtEnd, .ref q_p1_portAtEnd, .ref q_p1_bendAtEnd, .ref q_p1_inPipes])), (q_p1_kind, .inl (cI, 40, .inl f_p1_kind)), (q_p1_capacity, .inl (cI, 40, .inl f_p1_capacity))] s.heap := hP
  have hl := lv_entry [.ref q_t, .ref q_p1, .int x2] (n := 3) (Nat.le_of_ble_eq_true rfl)
  have he9 : entryFrame m args 3 = F0 m 0 ((lg_sl [.ref q_t, .ref q_p1, .int x2] ++ List.replicate (3 - (lg_sl [.ref q_t, .ref q_p1, .int x2]).length) Slot.unset).toArray) [] := by rw [ha]; exact lg_entry_eq _ _ _
  rw [he9]
  clear he9
  generalize (lg_sl [.ref q_t, .ref q_p1, .int x2] ++ List.replicate (3 - (lg_sl [.ref q_t, .ref q_p1, .int x2]).length) Slot.unset).toArray = ls at hl ⊢
  have hl : lv_has ls 3 [(0, .ref q_t), (1, .ref q_p1), (2, .int x2)] := hl
  unfold wp_Ln_setToThing at hw
  refine lv_aload_n hx hb d_Ln_setToThing_0 rfl (lv_at hl 0 rfl) ?_
  refine lv_iconst (v := 0) hx hb d_Ln_setToThing_1 (by decide) ?_
  refine va_put (D := (dC, dI)) (ci := 6) (v := .int 0) (ty := .int) (C := R_Ln) (T := F_Ln) (N := 2) hx hb hts i_Ln t_Ln t_Ln_ok n_Ln hown hK hP hD hS 0 rfl rfl 1 (by decide) (hts (Cond.fieldLink R_Ln 15 "PlantGraph$Line" "length" "I") kw19_ddeec2f) (fun _ h9 => h9) rfl (by decide +kernel) rfl rfl (Nat.le_of_ble_eq_true rfl) d_Ln_setToThing_2 (fun H locs hP hD hS => ?_)
  have hP : va_P (dC, dI) classes [(q_t, .inr (6, [.ref q_t_bytes, .int 0])), (q_t_bytes, .inl (cB, 15, .inl f_t_bytes)), (q_p1, .inr (1, [.int v_p1_things, .ref q_p1_kind, .ref q_p1_position, .ref q_p1_told, .ref q_p1_capacity, .ref q_p1_amount, .ref q_p1_liquid, .ref q_p1_portsTaken, .ref q_p1_endAtPort, .int v_p1_pipes, .ref q_p1_pipeLitres, .ref q_p1_thingAtEnd, .ref q_p1_portAtEnd, .ref q_p1_bendAtEnd, .ref q_p1_inPipes])), (q_p1_kind, .inl (cI, 40, .inl f_p1_kind)), (q_p1_capacity, .inl (cI, 40, .inl f_p1_capacity))] H := hP
  have hD : va_D A [(q_t, .inr (6, [.ref q_t_bytes, .int 0])), (q_t_bytes, .inl (cB, 15, .inl f_t_bytes)), (q_p1, .inr (1, [.int v_p1_things, .ref q_p1_kind, .ref q_p1_position, .ref q_p1_told, .ref q_p1_capacity, .ref q_p1_amount, .ref q_p1_liquid, .ref q_p1_portsTaken, .ref q_p1_endAtPort, .int v_p1_pipes, .ref q_p1_pipeLitres, .ref q_p1_thingAtEnd, .ref q_p1_portAtEnd, .ref q_p1_bendAtEnd, .ref q_p1_inPipes])), (q_p1_kind, .inl (cI, 40, .inl f_p1_kind)), (q_p1_capacity, .inl (cI, 40, .inl f_p1_capacity))] := hD
  refine lv_aload_n hx hb d_Ln_setToThing_5 rfl (lv_at hl 1 rfl) ?_
  refine va_getN (D := (dC, dI)) (ci := 1) (v := .ref q_p1_kind) (C := R_Pl) (T := F_Pl) (N := 15) hx hb hts i_Pl hown hK hP 2 rfl rfl 1 (by decide) (hts (Cond.fieldLinkNest R_Ln 19 "PlantGraph$Plant" "kind" "[I" "PlantGraph") kw19_a35f736) (fun _ h9 => h9) rfl d_Ln_setToThing_6 ?_
  refine lv_iload_n hx hb d_Ln_setToThing_9 rfl (lv_at hl 2 rfl) ?_
  refine va_iald hx hb hK hP 3 0 rfl rfl hw.1 d_Ln_setToThing_10 ?_
  replace hw := hw.2
  by_cases c11_9 : (f_p1_kind x2.toNatClampNeg) = 9
  · replace hw := hw.1 c11_9
    refine lv_lookup (off := 44) (tgt := 55) hx hb d_Ln_setToThing_11 (by decide) (by rw [c11_9] <;> rfl) (by decide) ?_
    refine lv_aload_n hx hb d_Ln_setToThing_55 rfl (lv_at hl 0 rfl) ?_
    refine va_ldcS hx hb hown hG.2.2.2.2.2.2.2.2.2.2.2.2.2.2.1 d_Ln_setToThing_56 ?_
    have hPc := hP.sub (ws' := [(q_t, .inr (6, [.ref q_t_bytes, .int 0])), (q_t_bytes, .inl (cB, 15, .inl f_t_bytes))]) [0, 1] rfl
    have hDc := hD.sub (ws' := [(q_t, .inr (6, [.ref q_t_bytes, .int 0])), (q_t_bytes, .inl (cB, 15, .inl f_t_bytes))]) [0, 1] (by decide) rfl
    have hFc := va_free (wc := [(q_t, .inr (6, [.ref q_t_bytes, .int 0])), (q_t_bytes, .inl (cB, 15, .inl f_t_bytes))]) hD hS hA [0, 1] rfl
    refine va_callv (va_runV (As := [.ref (adK 2)]) (rest := []) ⟨hx, hb, hml, hown, hts⟩ (c_Ln_addWord l dC dI cI cL cB tP tR adK adV q_t q_t_bytes H.size 0 f_t_bytes 2 _ hw) (my_cwV 1 hts kw19_992d72e kw19_ba13119 kw19_3a4eb80 kw19_c117f00 kw19_8361cea rfl rfl (by decide +kernel) ⟨Nat.le_of_ble_eq_true rfl, Nat.le_of_ble_eq_true rfl⟩) ⟨fun a U g mk q => by obtain ⟨q0, q1, qP, qK, qD, qG⟩ := q; exact ⟨q0, q1, qP, va_K.moved (u := U) (U := U.calling g mk a) (Vm.Alike.refl U.vm) qK, qD, gx_call qG⟩, va_recv hK hP (ci := 6) (q0 := 0) rfl rfl, fun U hU hW => ⟨rfl, by rw [hU], by rw [hU]; exact hPc, va_K.moved hW.alike hK, hDc.weaken (fun _ _ _ _ => trivial), by rw [hU]; exact gx_pass hW hS.2.1 hFc hG⟩⟩ rfl rfl hl.1 rfl (lv_room (Nat.le_of_ble_eq_true rfl)) d_Ln_setToThing_58 ⟨Nat.zero_le _, Nat.zero_le _⟩) hS (fun q _ h => hFc q h) hFc (fun u t H locs ht hvm hw hB hz1 hk1 hS => ?_)
    obtain ⟨v_t_length_c58, f_t_bytes_c58⟩ := u
    obtain ⟨hP1, hK1, hD1⟩ := hB
    rw [ht] at hP1
    obtain ⟨hP, hD⟩ := va_join (wr := [(q_p1, .inr (1, [.int v_p1_things, .ref q_p1_kind, .ref q_p1_position, .ref q_p1_told, .ref q_p1_capacity, .ref q_p1_amount, .ref q_p1_liquid, .ref q_p1_portsTaken, .ref q_p1_endAtPort, .int v_p1_pipes, .ref q_p1_pipeLitres, .ref q_p1_thingAtEnd, .ref q_p1_portAtEnd, .ref q_p1_bendAtEnd, .ref q_p1_inPipes])), (q_p1_kind, .inl (cI, 40, .inl f_p1_kind)), (q_p1_capacity, .inl (cI, 40, .inl f_p1_capacity))]) (w1 := [(q_t, .inr (6, [.ref q_t_bytes, .int v_t_length_c58])), (q_t_bytes, .inl (cB, 15, .inl f_t_bytes_c58))]) hP hD [0, 1] [2, 3, 4] rfl rfl (by decide) (by decide) hk1 hFc hP1 hD1
    have hP : va_P (dC, dI) classes [(q_t, .inr (6, [.ref q_t_bytes, .int v_t_length_c58])), (q_t_bytes, .inl (cB, 15, .inl f_t_bytes_c58)), (q_p1, .inr (1, [.int v_p1_things, .ref q_p1_kind, .ref q_p1_position, .ref q_p1_told, .ref q_p1_capacity, .ref q_p1_amount, .ref q_p1_liquid, .ref q_p1_portsTaken, .ref q_p1_endAtPort, .int v_p1_pipes, .ref q_p1_pipeLitres, .ref q_p1_thingAtEnd, .ref q_p1_portAtEnd, .ref q_p1_bendAtEnd, .ref q_p1_inPipes])), (q_p1_kind, .inl (cI, 40, .inl f_p1_kind)), (q_p1_capacity, .inl (cI, 40, .inl f_p1_capacity))] H := hP.sub (ws' := [(q_t, .inr (6, [.ref q_t_bytes, .int v_t_length_c58])), (q_t_bytes, .inl (cB, 15, .inl f_t_bytes_c58)), (q_p1, .inr (1, [.int v_p1_things, .ref q_p1_kind, .ref q_p1_position, .ref q_p1_told, .ref q_p1_capacity, .ref q_p1_amount, .ref q_p1_liquid, .ref q_p1_portsTaken, .ref q_p1_endAtPort, .int v_p1_pipes, .ref q_p1_pipeLitres, .ref q_p1_thingAtEnd, .ref q_p1_portAtEnd, .ref q_p1_bendAtEnd, .ref q_p1_inPipes])), (q_p1_kind, .inl (cI, 40, .inl f_p1_kind)), (q_p1_capacity, .inl (cI, 40, .inl f_p1_capacity))]) [3, 4, 0, 1, 2] rfl
    have hD : va_D A [(q_t, .inr (6, [.ref q_t_bytes, .int v_t_length_c58])), (q_t_bytes, .inl (cB, 15, .inl f_t_bytes_c58)), (q_p1, .inr (1, [.int v_p1_things, .ref q_p1_kind, .ref q_p1_position, .ref q_p1_told, .ref q_p1_capacity, .ref q_p1_amount, .ref q_p1_liquid, .ref q_p1_portsTaken, .ref q_p1_endAtPort, .int v_p1_pipes, .ref q_p1_pipeLitres, .ref q_p1_thingAtEnd, .ref q_p1_portAtEnd, .ref q_p1_bendAtEnd, .ref q_p1_inPipes])), (q_p1_kind, .inl (cI, 40, .inl f_p1_kind)), (q_p1_capacity, .inl (cI, 40, .inl f_p1_capacity))] := hD.sub (ws' := [(q_t, .inr (6, [.ref q_t_bytes, .int v_t_length_c58])), (q_t_bytes, .inl (cB, 15, .inl f_t_bytes_c58)), (q_p1, .inr (1, [.int v_p1_things, .ref q_p1_kind, .ref q_p1_position, .ref q_p1_told, .ref q_p1_capacity, .ref q_p1_amount, .ref q_p1_liquid, .ref q_p1_portsTaken, .ref q_p1_endAtPort, .int v_p1_pipes, .ref q_p1_pipeLitres, .ref q_p1_thingAtEnd, .ref q_p1_portAtEnd, .ref q_p1_bendAtEnd, .ref q_p1_inPipes])), (q_p1_kind, .inl (cI, 40, .inl f_p1_kind)), (q_p1_capacity, .inl (cI, 40, .inl f_p1_capacity))]) [3, 4, 0, 1, 2] (by decide) rfl
    refine lv_goto (tgt := 80) hx hb d_Ln_setToThing_61 (by decide) ?_
    refine lv_aload_n hx hb d_Ln_setToThing_80 rfl (lv_at hl 0 rfl) ?_
    refine lv_bipush (v := 10) hx hb d_Ln_setToThing_81 (by decide) ?_
    have hPc := hP.sub (ws' := [(q_t, .inr (6, [.ref q_t_bytes, .int v_t_length_c58])), (q_t_bytes, .inl (cB, 15, .inl f_t_bytes_c58))]) [0, 1] rfl
    have hDc := hD.sub (ws' := [(q_t, .inr (6, [.ref q_t_bytes, .int v_t_length_c58])), (q_t_bytes, .inl (cB, 15, .inl f_t_bytes_c58))]) [0, 1] (by decide) rfl
    have hFc := va_free (wc := [(q_t, .inr (6, [.ref q_t_bytes, .int v_t_length_c58])), (q_t_bytes, .inl (cB, 15, .inl f_t_bytes_c58))]) hD hS hA [0, 1] rfl
    refine va_callv (va_runV (As := [.int 10]) (rest := []) ⟨hx, hb, hml, hown, hts⟩ (c_Ln_addByte l dC dI cI cL cB q_t q_t_bytes H.size v_t_length_c58 f_t_bytes_c58 10 _ hw) (my_cwV 1 hts kw19_4be27de kw19_8d69dd5 kw19_252ecb9 kw19_c117f00 kw19_7946f56 rfl rfl (by decide +kernel) ⟨Nat.le_of_ble_eq_true rfl, Nat.le_of_ble_eq_true rfl⟩) ⟨fun a U g mk q => by obtain ⟨q0, q1, qP, qK, qD⟩ := q; exact ⟨q0, q1, qP, va_K.moved (u := U) (U := U.calling g mk a) (Vm.Alike.refl U.vm) qK, qD⟩, va_recv hK hP (ci := 6) (q0 := 0) rfl rfl, fun U hU hW => ⟨rfl, by rw [hU], by rw [hU]; exact hPc, va_K.moved hW.alike hK, hDc.weaken (fun _ _ _ _ => trivial)⟩⟩ rfl rfl hl.1 rfl (lv_room (Nat.le_of_ble_eq_true rfl)) d_Ln_setToThing_83 ⟨Nat.zero_le _, Nat.zero_le _⟩) hS (fun q _ h => hFc q h) hFc (fun u t H locs ht hvm hw hB hz1 hk1 hS => ?_)
    obtain ⟨v_t_length_c83, f_t_bytes_c83⟩ := u
    obtain ⟨hP1, hK1, hD1⟩ := hB
    rw [ht] at hP1
    obtain ⟨hP, hD⟩ := va_join (wr := [(q_p1, .inr (1, [.int v_p1_things, .ref q_p1_kind, .ref q_p1_position, .ref q_p1_told, .ref q_p1_capacity, .ref q_p1_amount, .ref q_p1_liquid, .ref q_p1_portsTaken, .ref q_p1_endAtPort, .int v_p1_pipes, .ref q_p1_pipeLitres, .ref q_p1_thingAtEnd, .ref q_p1_portAtEnd, .ref q_p1_bendAtEnd, .ref q_p1_inPipes])), (q_p1_kind, .inl (cI, 40, .inl f_p1_kind)), (q_p1_capacity, .inl (cI, 40, .inl f_p1_capacity))]) (w1 := [(q_t, .inr (6, [.ref q_t_bytes, .int v_t_length_c83])), (q_t_bytes, .inl (cB, 15, .inl f_t_bytes_c83))]) hP hD [0, 1] [2, 3, 4] rfl rfl (by decide) (by decide) hk1 hFc hP1 hD1
    have hP : va_P (dC, dI) classes [(q_t, .inr (6, [.ref q_t_bytes, .int v_t_length_c83])), (q_t_bytes, .inl (cB, 15, .inl f_t_bytes_c83)), (q_p1, .inr (1, [.int v_p1_things, .ref q_p1_kind, .ref q_p1_position, .ref q_p1_told, .ref q_p1_capacity, .ref q_p1_amount, .ref q_p1_liquid, .ref q_p1_portsTaken, .ref q_p1_endAtPort, .int v_p1_pipes, .ref q_p1_pipeLitres, .ref q_p1_thingAtEnd, .ref q_p1_portAtEnd, .ref q_p1_bendAtEnd, .ref q_p1_inPipes])), (q_p1_kind, .inl (cI, 40, .inl f_p1_kind)), (q_p1_capacity, .inl (cI, 40, .inl f_p1_capacity))] H := hP.sub (ws' := [(q_t, .inr (6, [.ref q_t_bytes, .int v_t_length_c83])), (q_t_bytes, .inl (cB, 15, .inl f_t_bytes_c83)), (q_p1, .inr (1, [.int v_p1_things, .ref q_p1_kind, .ref q_p1_position, .ref q_p1_told, .ref q_p1_capacity, .ref q_p1_amount, .ref q_p1_liquid, .ref q_p1_portsTaken, .ref q_p1_endAtPort, .int v_p1_pipes, .ref q_p1_pipeLitres, .ref q_p1_thingAtEnd, .ref q_p1_portAtEnd, .ref q_p1_bendAtEnd, .ref q_p1_inPipes])), (q_p1_kind, .inl (cI, 40, .inl f_p1_kind)), (q_p1_capacity, .inl (cI, 40, .inl f_p1_capacity))]) [3, 4, 0, 1, 2] rfl
    have hD : va_D A [(q_t, .inr (6, [.ref q_t_bytes, .int v_t_length_c83])), (q_t_bytes, .inl (cB, 15, .inl f_t_bytes_c83)), (q_p1, .inr (1, [.int v_p1_things, .ref q_p1_kind, .ref q_p1_position, .ref q_p1_told, .ref q_p1_capacity, .ref q_p1_amount, .ref q_p1_liquid, .ref q_p1_portsTaken, .ref q_p1_endAtPort, .int v_p1_pipes, .ref q_p1_pipeLitres, .ref q_p1_thingAtEnd, .ref q_p1_portAtEnd, .ref q_p1_bendAtEnd, .ref q_p1_inPipes])), (q_p1_kind, .inl (cI, 40, .inl f_p1_kind)), (q_p1_capacity, .inl (cI, 40, .inl f_p1_capacity))] := hD.sub (ws' := [(q_t, .inr (6, [.ref q_t_bytes, .int v_t_length_c83])), (q_t_bytes, .inl (cB, 15, .inl f_t_bytes_c83)), (q_p1, .inr (1, [.int v_p1_things, .ref q_p1_kind, .ref q_p1_position, .ref q_p1_told, .ref q_p1_capacity, .ref q_p1_amount, .ref q_p1_liquid, .ref q_p1_portsTaken, .ref q_p1_endAtPort, .int v_p1_pipes, .ref q_p1_pipeLitres, .ref q_p1_thingAtEnd, .ref q_p1_portAtEnd, .ref q_p1_bendAtEnd, .ref q_p1_inPipes])), (q_p1_kind, .inl (cI, 40, .inl f_p1_kind)), (q_p1_capacity, .inl (cI, 40, .inl f_p1_capacity))]) [3, 4, 0, 1, 2] (by decide) rfl
    exact W.vret hx hb hr (fun t ht hW => ⟨⟨(v_t_length_c83, f_t_bytes_c83), rfl, hw, by rw [ht]; exact hP, va_K.moved hW.alike hK, hD⟩, hS.F ht⟩) hS.2.2 d_Ln_setToThing_86
  replace hw := hw.2 c11_9
  by_cases c11_10 : (f_p1_kind x2.toNatClampNeg) = 10
  · replace hw := hw.1 c11_10
    refine lv_lookup (off := 25) (tgt := 36) hx hb d_Ln_setToThing_11 (by decide) (by rw [c11_10] <;> rfl) (by decide) ?_
    refine lv_aload_n hx hb d_Ln_setToThing_36 rfl (lv_at hl 0 rfl) ?_
    refine va_ldcS hx hb hown hG.2.2.2.2.2.2.2.2.2.2.2.2.2.1 d_Ln_setToThing_37 ?_
    have hPc := hP.sub (ws' := [(q_t, .inr (6, [.ref q_t_bytes, .int 0])), (q_t_bytes, .inl (cB, 15, .inl f_t_bytes))]) [0, 1] rfl
    have hDc := hD.sub (ws' := [(q_t, .inr (6, [.ref q_t_bytes, .int 0])), (q_t_bytes, .inl (cB, 15, .inl f_t_bytes))]) [0, 1] (by decide) rfl
    have hFc := va_free (wc := [(q_t, .inr (6, [.ref q_t_bytes, .int 0])), (q_t_bytes, .inl (cB, 15, .inl f_t_bytes))]) hD hS hA [0, 1] rfl
    refine va_callv (va_runV (As := [.ref (adK 0)]) (rest := []) ⟨hx, hb, hml, hown, hts⟩ (c_Ln_addWord l dC dI cI cL cB tP tR adK adV q_t q_t_bytes H.size 0 f_t_bytes 0 _ hw) (my_cwV 1 hts kw19_992d72e kw19_ba13119 kw19_3a4eb80 kw19_c117f00 kw19_8361cea rfl rfl (by decide +kernel) ⟨Nat.le_of_ble_eq_true rfl, Nat.le_of_ble_eq_true rfl⟩) ⟨fun a U g mk q => by obtain ⟨q0, q1, qP, qK, qD, qG⟩ := q; exact ⟨q0, q1, qP, va_K.moved (u := U) (U := U.calling g mk a) (Vm.Alike.refl U.vm) qK, qD, gx_call qG⟩, va_recv hK hP (ci := 6) (q0 := 0) rfl rfl, fun U hU hW => ⟨rfl, by rw [hU], by rw [hU]; exact hPc, va_K.moved hW.alike hK, hDc.weaken (fun _ _ _ _ => trivial), by rw [hU]; exact gx_pass hW hS.2.1 hFc hG⟩⟩ rfl rfl hl.1 rfl (lv_room (Nat.le_of_ble_eq_true rfl)) d_Ln_setToThing_39 ⟨Nat.zero_le _, Nat.zero_le _⟩) hS (fun q _ h => hFc q h) hFc (fun u t H locs ht hvm hw hB hz1 hk1 hS => ?_)
    obtain ⟨v_t_length_c39, f_t_bytes_c39⟩ := u
    obtain ⟨hP1, hK1, hD1⟩ := hB
    rw [ht] at hP1
    obtain ⟨hP, hD⟩ := va_join (wr := [(q_p1, .inr (1, [.int v_p1_things, .ref q_p1_kind, .ref q_p1_position, .ref q_p1_told, .ref q_p1_capacity, .ref q_p1_amount, .ref q_p1_liquid, .ref q_p1_portsTaken, .ref q_p1_endAtPort, .int v_p1_pipes, .ref q_p1_pipeLitres, .ref q_p1_thingAtEnd, .ref q_p1_portAtEnd, .ref q_p1_bendAtEnd, .ref q_p1_inPipes])), (q_p1_kind, .inl (cI, 40, .inl f_p1_kind)), (q_p1_capacity, .inl (cI, 40, .inl f_p1_capacity))]) (w1 := [(q_t, .inr (6, [.ref q_t_bytes, .int v_t_length_c39])), (q_t_bytes, .inl (cB, 15, .inl f_t_bytes_c39))]) hP hD [0, 1] [2, 3, 4] rfl rfl (by decide) (by decide) hk1 hFc hP1 hD1
    have hP : va_P (dC, dI) classes [(q_t, .inr (6, [.ref q_t_bytes, .int v_t_length_c39])), (q_t_bytes, .inl (cB, 15, .inl f_t_bytes_c39)), (q_p1, .inr (1, [.int v_p1_things, .ref q_p1_kind, .ref q_p1_position, .ref q_p1_told, .ref q_p1_capacity, .ref q_p1_amount, .ref q_p1_liquid, .ref q_p1_portsTaken, .ref q_p1_endAtPort, .int v_p1_pipes, .ref q_p1_pipeLitres, .ref q_p1_thingAtEnd, .ref q_p1_portAtEnd, .ref q_p1_bendAtEnd, .ref q_p1_inPipes])), (q_p1_kind, .inl (cI, 40, .inl f_p1_kind)), (q_p1_capacity, .inl (cI, 40, .inl f_p1_capacity))] H := hP.sub (ws' := [(q_t, .inr (6, [.ref q_t_bytes, .int v_t_length_c39])), (q_t_bytes, .inl (cB, 15, .inl f_t_bytes_c39)), (q_p1, .inr (1, [.int v_p1_things, .ref q_p1_kind, .ref q_p1_position, .ref q_p1_told, .ref q_p1_capacity, .ref q_p1_amount, .ref q_p1_liquid, .ref q_p1_portsTaken, .ref q_p1_endAtPort, .int v_p1_pipes, .ref q_p1_pipeLitres, .ref q_p1_thingAtEnd, .ref q_p1_portAtEnd, .ref q_p1_bendAtEnd, .ref q_p1_inPipes])), (q_p1_kind, .inl (cI, 40, .inl f_p1_kind)), (q_p1_capacity, .inl (cI, 40, .inl f_p1_capacity))]) [3, 4, 0, 1, 2] rfl
    have hD : va_D A [(q_t, .inr (6, [.ref q_t_bytes, .int v_t_length_c39])), (q_t_bytes, .inl (cB, 15, .inl f_t_bytes_c39)), (q_p1, .inr (1, [.int v_p1_things, .ref q_p1_kind, .ref q_p1_position, .ref q_p1_told, .ref q_p1_capacity, .ref q_p1_amount, .ref q_p1_liquid, .ref q_p1_portsTaken, .ref q_p1_endAtPort, .int v_p1_pipes, .ref q_p1_pipeLitres, .ref q_p1_thingAtEnd, .ref q_p1_portAtEnd, .ref q_p1_bendAtEnd, .ref q_p1_inPipes])), (q_p1_kind, .inl (cI, 40, .inl f_p1_kind)), (q_p1_capacity, .inl (cI, 40, .inl f_p1_capacity))] := hD.sub (ws' := [(q_t, .inr (6, [.ref q_t_bytes, .int v_t_length_c39])), (q_t_bytes, .inl (cB, 15, .inl f_t_bytes_c39)), (q_p1, .inr (1, [.int v_p1_things, .ref q_p1_kind, .ref q_p1_position, .ref q_p1_told, .ref q_p1_capacity, .ref q_p1_amount, .ref q_p1_liquid, .ref q_p1_portsTaken, .ref q_p1_endAtPort, .int v_p1_pipes, .ref q_p1_pipeLitres, .ref q_p1_thingAtEnd, .ref q_p1_portAtEnd, .ref q_p1_bendAtEnd, .ref q_p1_inPipes])), (q_p1_kind, .inl (cI, 40, .inl f_p1_kind)), (q_p1_capacity, .inl (cI, 40, .inl f_p1_capacity))]) [3, 4, 0, 1, 2] (by decide) rfl
    refine lv_aload_n hx hb d_Ln_setToThing_42 rfl (lv_at hl 0 rfl) ?_
    refine lv_aload_n hx hb d_Ln_setToThing_43 rfl (lv_at hl 1 rfl) ?_
    refine va_getN (D := (dC, dI)) (ci := 1) (v := .ref q_p1_capacity) (C := R_Pl) (T := F_Pl) (N := 15) hx hb hts i_Pl hown hK hP 2 rfl rfl 4 (by decide) (hts (Cond.fieldLinkNest R_Ln 31 "PlantGraph$Plant" "capacity" "[I" "PlantGraph") kw19_ff53bc2) (fun _ h9 => h9) rfl d_Ln_setToThing_44 ?_
    refine lv_iload_n hx hb d_Ln_setToThing_47 rfl (lv_at hl 2 rfl) ?_
    refine va_iald hx hb hK hP 4 0 rfl rfl hw.1 d_Ln_setToThing_48 ?_
    replace hw := hw.2
    have hPc := hP.sub (ws' := [(q_t, .inr (6, [.ref q_t_bytes, .int v_t_length_c39])), (q_t_bytes, .inl (cB, 15, .inl f_t_bytes_c39))]) [0, 1] rfl
    have hDc := hD.sub (ws' := [(q_t, .inr (6, [.ref q_t_bytes, .int v_t_length_c39])), (q_t_bytes, .inl (cB, 15, .inl f_t_bytes_c39))]) [0, 1] (by decide) rfl
    have hFc := va_free (wc := [(q_t, .inr (6, [.ref q_t_bytes, .int v_t_length_c39])), (q_t_bytes, .inl (cB, 15, .inl f_t_bytes_c39))]) hD hS hA [0, 1] rfl
    refine va_callv (va_runV (As := [.int (f_p1_capacity x2.toNatClampNeg)]) (rest := []) ⟨hx, hb, hml, hown, hts⟩ (c_Ln_addNumber l dC dI cI cL cB q_t q_t_bytes H.size v_t_length_c39 f_t_bytes_c39 (f_p1_capacity x2.toNatClampNeg) _ hw) (my_cwV 1 hts kw19_d483023 kw19_af35ba1 kw19_a9ea5a0 kw19_c117f00 kw19_7f6e5a3 rfl rfl (by decide +kernel) ⟨Nat.le_of_ble_eq_true rfl, Nat.le_of_ble_eq_true rfl⟩) ⟨fun a U g mk q => by obtain ⟨q0, q1, qP, qK, qD⟩ := q; exact ⟨q0, q1, qP, va_K.moved (u := U) (U := U.calling g mk a) (Vm.Alike.refl U.vm) qK, qD⟩, va_recv hK hP (ci := 6) (q0 := 0) rfl rfl, fun U hU hW => ⟨rfl, by rw [hU], by rw [hU]; exact hPc, va_K.moved hW.alike hK, hDc.weaken (fun _ _ _ _ => trivial)⟩⟩ rfl rfl hl.1 rfl (lv_room (Nat.le_of_ble_eq_true rfl)) d_Ln_setToThing_49 ⟨Nat.zero_le _, Nat.zero_le _⟩) hS (fun q _ h => hFc q h) hFc (fun u t H locs ht hvm hw hB hz1 hk1 hS => ?_)
    obtain ⟨v_t_length_c49, f_t_bytes_c49⟩ := u
    obtain ⟨hP1, hK1, hD1⟩ := hB
    rw [ht] at hP1
    obtain ⟨hP, hD⟩ := va_join (wr := [(q_p1, .inr (1, [.int v_p1_things, .ref q_p1_kind, .ref q_p1_position, .ref q_p1_told, .ref q_p1_capacity, .ref q_p1_amount, .ref q_p1_liquid, .ref q_p1_portsTaken, .ref q_p1_endAtPort, .int v_p1_pipes, .ref q_p1_pipeLitres, .ref q_p1_thingAtEnd, .ref q_p1_portAtEnd, .ref q_p1_bendAtEnd, .ref q_p1_inPipes])), (q_p1_kind, .inl (cI, 40, .inl f_p1_kind)), (q_p1_capacity, .inl (cI, 40, .inl f_p1_capacity))]) (w1 := [(q_t, .inr (6, [.ref q_t_bytes, .int v_t_length_c49])), (q_t_bytes, .inl (cB, 15, .inl f_t_bytes_c49))]) hP hD [0, 1] [2, 3, 4] rfl rfl (by decide) (by decide) hk1 hFc hP1 hD1
    have hP : va_P (dC, dI) classes [(q_t, .inr (6, [.ref q_t_bytes, .int v_t_length_c49])), (q_t_bytes, .inl (cB, 15, .inl f_t_bytes_c49)), (q_p1, .inr (1, [.int v_p1_things, .ref q_p1_kind, .ref q_p1_position, .ref q_p1_told, .ref q_p1_capacity, .ref q_p1_amount, .ref q_p1_liquid, .ref q_p1_portsTaken, .ref q_p1_endAtPort, .int v_p1_pipes, .ref q_p1_pipeLitres, .ref q_p1_thingAtEnd, .ref q_p1_portAtEnd, .ref q_p1_bendAtEnd, .ref q_p1_inPipes])), (q_p1_kind, .inl (cI, 40, .inl f_p1_kind)), (q_p1_capacity, .inl (cI, 40, .inl f_p1_capacity))] H := hP.sub (ws' := [(q_t, .inr (6, [.ref q_t_bytes, .int v_t_length_c49])), (q_t_bytes, .inl (cB, 15, .inl f_t_bytes_c49)), (q_p1, .inr (1, [.int v_p1_things, .ref q_p1_kind, .ref q_p1_position, .ref q_p1_told, .ref q_p1_capacity, .ref q_p1_amount, .ref q_p1_liquid, .ref q_p1_portsTaken, .ref q_p1_endAtPort, .int v_p1_pipes, .ref q_p1_pipeLitres, .ref q_p1_thingAtEnd, .ref q_p1_portAtEnd, .ref q_p1_bendAtEnd, .ref q_p1_inPipes])), (q_p1_kind, .inl (cI, 40, .inl f_p1_kind)), (q_p1_capacity, .inl (cI, 40, .inl f_p1_capacity))]) [3, 4, 0, 1, 2] rfl
    have hD : va_D A [(q_t, .inr (6, [.ref q_t_bytes, .int v_t_length_c49])), (q_t_bytes, .inl (cB, 15, .inl f_t_bytes_c49)), (q_p1, .inr (1, [.int v_p1_things, .ref q_p1_kind, .ref q_p1_position, .ref q_p1_told, .ref q_p1_capacity, .ref q_p1_amount, .ref q_p1_liquid, .ref q_p1_portsTaken, .ref q_p1_endAtPort, .int v_p1_pipes, .ref q_p1_pipeLitres, .ref q_p1_thingAtEnd, .ref q_p1_portAtEnd, .ref q_p1_bendAtEnd, .ref q_p1_inPipes])), (q_p1_kind, .inl (cI, 40, .inl f_p1_kind)), (q_p1_capacity, .inl (cI, 40, .inl f_p1_capacity))] := hD.sub (ws' := [(q_t, .inr (6, [.ref q_t_bytes, .int v_t_length_c49])), (q_t_bytes, .inl (cB, 15, .inl f_t_bytes_c49)), (q_p1, .inr (1, [.int v_p1_things, .ref q_p1_kind, .ref q_p1_position, .ref q_p1_told, .ref q_p1_capacity, .ref q_p1_amount, .ref q_p1_liquid, .ref q_p1_portsTaken, .ref q_p1_endAtPort, .int v_p1_pipes, .ref q_p1_pipeLitres, .ref q_p1_thingAtEnd, .ref q_p1_portAtEnd, .ref q_p1_bendAtEnd, .ref q_p1_inPipes])), (q_p1_kind, .inl (cI, 40, .inl f_p1_kind)), (q_p1_capacity, .inl (cI, 40, .inl f_p1_capacity))]) [3, 4, 0, 1, 2] (by decide) rfl
    refine lv_goto (tgt := 80) hx hb d_Ln_setToThing_52 (by decide) ?_
    refine lv_aload_n hx hb d_Ln_setToThing_80 rfl (lv_at hl 0 rfl) ?_
    refine lv_bipush (v := 10) hx hb d_Ln_setToThing_81 (by decide) ?_
    have hPc := hP.sub (ws' := [(q_t, .inr (6, [.ref q_t_bytes, .int v_t_length_c49])), (q_t_bytes, .inl (cB, 15, .inl f_t_bytes_c49))]) [0, 1] rfl
    have hDc := hD.sub (ws' := [(q_t, .inr (6, [.ref q_t_bytes, .int v_t_length_c49])), (q_t_bytes, .inl (cB, 15, .inl f_t_bytes_c49))]) [0, 1] (by decide) rfl
    have hFc := va_free (wc := [(q_t, .inr (6, [.ref q_t_bytes, .int v_t_length_c49])), (q_t_bytes, .inl (cB, 15, .inl f_t_bytes_c49))]) hD hS hA [0, 1] rfl
    refine va_callv (va_runV (As := [.int 10]) (rest := []) ⟨hx, hb, hml, hown, hts⟩ (c_Ln_addByte l dC dI cI cL cB q_t q_t_bytes H.size v_t_length_c49 f_t_bytes_c49 10 _ hw) (my_cwV 1 hts kw19_4be27de kw19_8d69dd5 kw19_252ecb9 kw19_c117f00 kw19_7946f56 rfl rfl (by decide +kernel) ⟨Nat.le_of_ble_eq_true rfl, Nat.le_of_ble_eq_true rfl⟩) ⟨fun a U g mk q => by obtain ⟨q0, q1, qP, qK, qD⟩ := q; exact ⟨q0, q1, qP, va_K.moved (u := U) (U := U.calling g mk a) (Vm.Alike.refl U.vm) qK, qD⟩, va_recv hK hP (ci := 6) (q0 := 0) rfl rfl, fun U hU hW => ⟨rfl, by rw [hU], by rw [hU]; exact hPc, va_K.moved hW.alike hK, hDc.weaken (fun _ _ _ _ => trivial)⟩⟩ rfl rfl hl.1 rfl (lv_room (Nat.le_of_ble_eq_true rfl)) d_Ln_setToThing_83 ⟨Nat.zero_le _, Nat.zero_le _⟩) hS (fun q _ h => hFc q h) hFc (fun u t H locs ht hvm hw hB hz1 hk1 hS => ?_)
    obtain ⟨v_t_length_c83, f_t_bytes_c83⟩ := u
    obtain ⟨hP1, hK1, hD1⟩ := hB
    rw [ht] at hP1
    obtain ⟨hP, hD⟩ := va_join (wr := [(q_p1, .inr (1, [.int v_p1_things, .ref q_p1_kind, .ref q_p1_position, .ref q_p1_told, .ref q_p1_capacity, .ref q_p1_amount, .ref q_p1_liquid, .ref q_p1_portsTaken, .ref q_p1_endAtPort, .int v_p1_pipes, .ref q_p1_pipeLitres, .ref q_p1_thingAtEnd, .ref q_p1_portAtEnd, .ref q_p1_bendAtEnd, .ref q_p1_inPipes])), (q_p1_kind, .inl (cI, 40, .inl f_p1_kind)), (q_p1_capacity, .inl (cI, 40, .inl f_p1_capacity))]) (w1 := [(q_t, .inr (6, [.ref q_t_bytes, .int v_t_length_c83])), (q_t_bytes, .inl (cB, 15, .inl f_t_bytes_c83))]) hP hD [0, 1] [2, 3, 4] rfl rfl (by decide) (by decide) hk1 hFc hP1 hD1
    have hP : va_P (dC, dI) classes [(q_t, .inr (6, [.ref q_t_bytes, .int v_t_length_c83])), (q_t_bytes, .inl (cB, 15, .inl f_t_bytes_c83)), (q_p1, .inr (1, [.int v_p1_things, .ref q_p1_kind, .ref q_p1_position, .ref q_p1_told, .ref q_p1_capacity, .ref q_p1_amount, .ref q_p1_liquid, .ref q_p1_portsTaken, .ref q_p1_endAtPort, .int v_p1_pipes, .ref q_p1_pipeLitres, .ref q_p1_thingAtEnd, .ref q_p1_portAtEnd, .ref q_p1_bendAtEnd, .ref q_p1_inPipes])), (q_p1_kind, .inl (cI, 40, .inl f_p1_kind)), (q_p1_capacity, .inl (cI, 40, .inl f_p1_capacity))] H := hP.sub (ws' := [(q_t, .inr (6, [.ref q_t_bytes, .int v_t_length_c83])), (q_t_bytes, .inl (cB, 15, .inl f_t_bytes_c83)), (q_p1, .inr (1, [.int v_p1_things, .ref q_p1_kind, .ref q_p1_position, .ref q_p1_told, .ref q_p1_capacity, .ref q_p1_amount, .ref q_p1_liquid, .ref q_p1_portsTaken, .ref q_p1_endAtPort, .int v_p1_pipes, .ref q_p1_pipeLitres, .ref q_p1_thingAtEnd, .ref q_p1_portAtEnd, .ref q_p1_bendAtEnd, .ref q_p1_inPipes])), (q_p1_kind, .inl (cI, 40, .inl f_p1_kind)), (q_p1_capacity, .inl (cI, 40, .inl f_p1_capacity))]) [3, 4, 0, 1, 2] rfl
    have hD : va_D A [(q_t, .inr (6, [.ref q_t_bytes, .int v_t_length_c83])), (q_t_bytes, .inl (cB, 15, .inl f_t_bytes_c83)), (q_p1, .inr (1, [.int v_p1_things, .ref q_p1_kind, .ref q_p1_position, .ref q_p1_told, .ref q_p1_capacity, .ref q_p1_amount, .ref q_p1_liquid, .ref q_p1_portsTaken, .ref q_p1_endAtPort, .int v_p1_pipes, .ref q_p1_pipeLitres, .ref q_p1_thingAtEnd, .ref q_p1_portAtEnd, .ref q_p1_bendAtEnd, .ref q_p1_inPipes])), (q_p1_kind, .inl (cI, 40, .inl f_p1_kind)), (q_p1_capacity, .inl (cI, 40, .inl f_p1_capacity))] := hD.sub (ws' := [(q_t, .inr (6, [.ref q_t_bytes, .int v_t_length_c83])), (q_t_bytes, .inl (cB, 15, .inl f_t_bytes_c83)), (q_p1, .inr (1, [.int v_p1_things, .ref q_p1_kind, .ref q_p1_position, .ref q_p1_told, .ref q_p1_capacity, .ref q_p1_amount, .ref q_p1_liquid, .ref q_p1_portsTaken, .ref q_p1_endAtPort, .int v_p1_pipes, .ref q_p1_pipeLitres, .ref q_p1_thingAtEnd, .ref q_p1_portAtEnd, .ref q_p1_bendAtEnd, .ref q_p1_inPipes])), (q_p1_kind, .inl (cI, 40, .inl f_p1_kind)), (q_p1_capacity, .inl (cI, 40, .inl f_p1_capacity))]) [3, 4, 0, 1, 2] (by decide) rfl
    exact W.vret hx hb hr (fun t ht hW => ⟨⟨(v_t_length_c83, f_t_bytes_c83), rfl, hw, by rw [ht]; exact hP, va_K.moved hW.alike hK, hD⟩, hS.F ht⟩) hS.2.2 d_Ln_setToThing_86
  replace hw := hw.2 c11_10
  refine lv_lookup (off := 53) (tgt := 64) hx hb d_Ln_setToThing_11 (by decide) (by (try simp only [List.toList_toArray]); rw [lv_osw c11_9 (a := 9) (by decide), lv_osw c11_10 (a := 10) (by decide)] <;> rfl) (by decide) ?_
  refine lv_aload_n hx hb d_Ln_setToThing_64 rfl (lv_at hl 0 rfl) ?_
  refine va_ldcS hx hb hown hG.2.2.2.2.2.2.2.2.2.2.2.2.2.2.2.1 d_Ln_setToThing_65 ?_
  have hPc := hP.sub (ws' := [(q_t, .inr (6, [.ref q_t_bytes, .int 0])), (q_t_bytes, .inl (cB, 15, .inl f_t_bytes))]) [0, 1] rfl
  have hDc := hD.sub (ws' := [(q_t, .inr (6, [.ref q_t_bytes, .int 0])), (q_t_bytes, .inl (cB, 15, .inl f_t_bytes))]) [0, 1] (by decide) rfl
  have hFc := va_free (wc := [(q_t, .inr (6, [.ref q_t_bytes, .int 0])), (q_t_bytes, .inl (cB, 15, .inl f_t_bytes))]) hD hS hA [0, 1] rfl
  refine va_callv (va_runV (As := [.ref (adK 1)]) (rest := []) ⟨hx, hb, hml, hown, hts⟩ (c_Ln_addWord l dC dI cI cL cB tP tR adK adV q_t q_t_bytes H.size 0 f_t_bytes 1 _ hw) (my_cwV 1 hts kw19_992d72e kw19_ba13119 kw19_3a4eb80 kw19_c117f00 kw19_8361cea rfl rfl (by decide +kernel) ⟨Nat.le_of_ble_eq_true rfl, Nat.le_of_ble_eq_true rfl⟩) ⟨fun a U g mk q => by obtain ⟨q0, q1, qP, qK, qD, qG⟩ := q; exact ⟨q0, q1, qP, va_K.moved (u := U) (U := U.calling g mk a) (Vm.Alike.refl U.vm) qK, qD, gx_call qG⟩, va_recv hK hP (ci := 6) (q0 := 0) rfl rfl, fun U hU hW => ⟨rfl, by rw [hU], by rw [hU]; exact hPc, va_K.moved hW.alike hK, hDc.weaken (fun _ _ _ _ => trivial), by rw [hU]; exact gx_pass hW hS.2.1 hFc hG⟩⟩ rfl rfl hl.1 rfl (lv_room (Nat.le_of_ble_eq_true rfl)) d_Ln_setToThing_67 ⟨Nat.zero_le _, Nat.zero_le _⟩) hS (fun q _ h => hFc q h) hFc (fun u t H locs ht hvm hw hB hz1 hk1 hS => ?_)
  obtain ⟨v_t_length_c67, f_t_bytes_c67⟩ := u
  obtain ⟨hP1, hK1, hD1⟩ := hB
  rw [ht] at hP1
  obtain ⟨hP, hD⟩ := va_join (wr := [(q_p1, .inr (1, [.int v_p1_things, .ref q_p1_kind, .ref q_p1_position, .ref q_p1_told, .ref q_p1_capacity, .ref q_p1_amount, .ref q_p1_liquid, .ref q_p1_portsTaken, .ref q_p1_endAtPort, .int v_p1_pipes, .ref q_p1_pipeLitres, .ref q_p1_thingAtEnd, .ref q_p1_portAtEnd, .ref q_p1_bendAtEnd, .ref q_p1_inPipes])), (q_p1_kind, .inl (cI, 40, .inl f_p1_kind)), (q_p1_capacity, .inl (cI, 40, .inl f_p1_capacity))]) (w1 := [(q_t, .inr (6, [.ref q_t_bytes, .int v_t_length_c67])), (q_t_bytes, .inl (cB, 15, .inl f_t_bytes_c67))]) hP hD [0, 1] [2, 3, 4] rfl rfl (by decide) (by decide) hk1 hFc hP1 hD1
  have hP : va_P (dC, dI) classes [(q_t, .inr (6, [.ref q_t_bytes, .int v_t_length_c67])), (q_t_bytes, .inl (cB, 15, .inl f_t_bytes_c67)), (q_p1, .inr (1, [.int v_p1_things, .ref q_p1_kind, .ref q_p1_position, .ref q_p1_told, .ref q_p1_capacity, .ref q_p1_amount, .ref q_p1_liquid, .ref q_p1_portsTaken, .ref q_p1_endAtPort, .int v_p1_pipes, .ref q_p1_pipeLitres, .ref q_p1_thingAtEnd, .ref q_p1_portAtEnd, .ref q_p1_bendAtEnd, .ref q_p1_inPipes])), (q_p1_kind, .inl (cI, 40, .inl f_p1_kind)), (q_p1_capacity, .inl (cI, 40, .inl f_p1_capacity))] H := hP.sub (ws' := [(q_t, .inr (6, [.ref q_t_bytes, .int v_t_length_c67])), (q_t_bytes, .inl (cB, 15, .inl f_t_bytes_c67)), (q_p1, .inr (1, [.int v_p1_things, .ref q_p1_kind, .ref q_p1_position, .ref q_p1_told, .ref q_p1_capacity, .ref q_p1_amount, .ref q_p1_liquid, .ref q_p1_portsTaken, .ref q_p1_endAtPort, .int v_p1_pipes, .ref q_p1_pipeLitres, .ref q_p1_thingAtEnd, .ref q_p1_portAtEnd, .ref q_p1_bendAtEnd, .ref q_p1_inPipes])), (q_p1_kind, .inl (cI, 40, .inl f_p1_kind)), (q_p1_capacity, .inl (cI, 40, .inl f_p1_capacity))]) [3, 4, 0, 1, 2] rfl
  have hD : va_D A [(q_t, .inr (6, [.ref q_t_bytes, .int v_t_length_c67])), (q_t_bytes, .inl (cB, 15, .inl f_t_bytes_c67)), (q_p1, .inr (1, [.int v_p1_things, .ref q_p1_kind, .ref q_p1_position, .ref q_p1_told, .ref q_p1_capacity, .ref q_p1_amount, .ref q_p1_liquid, .ref q_p1_portsTaken, .ref q_p1_endAtPort, .int v_p1_pipes, .ref q_p1_pipeLitres, .ref q_p1_thingAtEnd, .ref q_p1_portAtEnd, .ref q_p1_bendAtEnd, .ref q_p1_inPipes])), (q_p1_kind, .inl (cI, 40, .inl f_p1_kind)), (q_p1_capacity, .inl (cI, 40, .inl f_p1_capacity))] := hD.sub (ws' := [(q_t, .inr (6, [.ref q_t_bytes, .int v_t_length_c67])), (q_t_bytes, .inl (cB, 15, .inl f_t_bytes_c67)), (q_p1, .inr (1, [.int v_p1_things, .ref q_p1_kind, .ref q_p1_position, .ref q_p1_told, .ref q_p1_capacity, .ref q_p1_amount, .ref q_p1_liquid, .ref q_p1_portsTaken, .ref q_p1_endAtPort, .int v_p1_pipes, .ref q_p1_pipeLitres, .ref q_p1_thingAtEnd, .ref q_p1_portAtEnd, .ref q_p1_bendAtEnd, .ref q_p1_inPipes])), (q_p1_kind, .inl (cI, 40, .inl f_p1_kind)), (q_p1_capacity, .inl (cI, 40, .inl f_p1_capacity))]) [3, 4, 0, 1, 2] (by decide) rfl
  refine lv_aload_n hx hb d_Ln_setToThing_70 rfl (lv_at hl 0 rfl) ?_
  refine lv_aload_n hx hb d_Ln_setToThing_71 rfl (lv_at hl 1 rfl) ?_
  refine va_getN (D := (dC, dI)) (ci := 1) (v := .ref q_p1_kind) (C := R_Pl) (T := F_Pl) (N := 15) hx hb hts i_Pl hown hK hP 2 rfl rfl 1 (by decide) (hts (Cond.fieldLinkNest R_Ln 19 "PlantGraph$Plant" "kind" "[I" "PlantGraph") kw19_a35f736) (fun _ h9 => h9) rfl d_Ln_setToThing_72 ?_
  refine lv_iload_n hx hb d_Ln_setToThing_75 rfl (lv_at hl 2 rfl) ?_
  refine va_iald hx hb hK hP 3 0 rfl rfl hw.1 d_Ln_setToThing_76 ?_
  replace hw := hw.2
  have hPc := hP.sub (ws' := [(q_t, .inr (6, [.ref q_t_bytes, .int v_t_length_c67])), (q_t_bytes, .inl (cB, 15, .inl f_t_bytes_c67))]) [0, 1] rfl
  have hDc := hD.sub (ws' := [(q_t, .inr (6, [.ref q_t_bytes, .int v_t_length_c67])), (q_t_bytes, .inl (cB, 15, .inl f_t_bytes_c67))]) [0, 1] (by decide) rfl
  have hFc := va_free (wc := [(q_t, .inr (6, [.ref q_t_bytes, .int v_t_length_c67])), (q_t_bytes, .inl (cB, 15, .inl f_t_bytes_c67))]) hD hS hA [0, 1] rfl
  refine va_callv (va_runV (As := [.int (f_p1_kind x2.toNatClampNeg)]) (rest := []) ⟨hx, hb, hml, hown, hts⟩ (c_Ln_addNumber l dC dI cI cL cB q_t q_t_bytes H.size v_t_length_c67 f_t_bytes_c67 (f_p1_kind x2.toNatClampNeg) _ hw) (my_cwV 1 hts kw19_d483023 kw19_af35ba1 kw19_a9ea5a0 kw19_c117f00 kw19_7f6e5a3 rfl rfl (by decide +kernel) ⟨Nat.le_of_ble_eq_true rfl, Nat.le_of_ble_eq_true rfl⟩) ⟨fun a U g mk q => by obtain ⟨q0, q1, qP, qK, qD⟩ := q; exact ⟨q0, q1, qP, va_K.moved (u := U) (U := U.calling g mk a) (Vm.Alike.refl U.vm) qK, qD⟩, va_recv hK hP (ci := 6) (q0 := 0) rfl rfl, fun U hU hW => ⟨rfl, by rw [hU], by rw [hU]; exact hPc, va_K.moved hW.alike hK, hDc.weaken (fun _ _ _ _ => trivial)⟩⟩ rfl rfl hl.1 rfl (lv_room (Nat.le_of_ble_eq_true rfl)) d_Ln_setToThing_77 ⟨Nat.zero_le _, Nat.zero_le _⟩) hS (fun q _ h => hFc q h) hFc (fun u t H locs ht hvm hw hB hz1 hk1 hS => ?_)
  obtain ⟨v_t_length_c77, f_t_bytes_c77⟩ := u
  obtain ⟨hP1, hK1, hD1⟩ := hB
  rw [ht] at hP1
  obtain ⟨hP, hD⟩ := va_join (wr := [(q_p1, .inr (1, [.int v_p1_things, .ref q_p1_kind, .ref q_p1_position, .ref q_p1_told, .ref q_p1_capacity, .ref q_p1_amount, .ref q_p1_liquid, .ref q_p1_portsTaken, .ref q_p1_endAtPort, .int v_p1_pipes, .ref q_p1_pipeLitres, .ref q_p1_thingAtEnd, .ref q_p1_portAtEnd, .ref q_p1_bendAtEnd, .ref q_p1_inPipes])), (q_p1_kind, .inl (cI, 40, .inl f_p1_kind)), (q_p1_capacity, .inl (cI, 40, .inl f_p1_capacity))]) (w1 := [(q_t, .inr (6, [.ref q_t_bytes, .int v_t_length_c77])), (q_t_bytes, .inl (cB, 15, .inl f_t_bytes_c77))]) hP hD [0, 1] [2, 3, 4] rfl rfl (by decide) (by decide) hk1 hFc hP1 hD1
  have hP : va_P (dC, dI) classes [(q_t, .inr (6, [.ref q_t_bytes, .int v_t_length_c77])), (q_t_bytes, .inl (cB, 15, .inl f_t_bytes_c77)), (q_p1, .inr (1, [.int v_p1_things, .ref q_p1_kind, .ref q_p1_position, .ref q_p1_told, .ref q_p1_capacity, .ref q_p1_amount, .ref q_p1_liquid, .ref q_p1_portsTaken, .ref q_p1_endAtPort, .int v_p1_pipes, .ref q_p1_pipeLitres, .ref q_p1_thingAtEnd, .ref q_p1_portAtEnd, .ref q_p1_bendAtEnd, .ref q_p1_inPipes])), (q_p1_kind, .inl (cI, 40, .inl f_p1_kind)), (q_p1_capacity, .inl (cI, 40, .inl f_p1_capacity))] H := hP.sub (ws' := [(q_t, .inr (6, [.ref q_t_bytes, .int v_t_length_c77])), (q_t_bytes, .inl (cB, 15, .inl f_t_bytes_c77)), (q_p1, .inr (1, [.int v_p1_things, .ref q_p1_kind, .ref q_p1_position, .ref q_p1_told, .ref q_p1_capacity, .ref q_p1_amount, .ref q_p1_liquid, .ref q_p1_portsTaken, .ref q_p1_endAtPort, .int v_p1_pipes, .ref q_p1_pipeLitres, .ref q_p1_thingAtEnd, .ref q_p1_portAtEnd, .ref q_p1_bendAtEnd, .ref q_p1_inPipes])), (q_p1_kind, .inl (cI, 40, .inl f_p1_kind)), (q_p1_capacity, .inl (cI, 40, .inl f_p1_capacity))]) [3, 4, 0, 1, 2] rfl
  have hD : va_D A [(q_t, .inr (6, [.ref q_t_bytes, .int v_t_length_c77])), (q_t_bytes, .inl (cB, 15, .inl f_t_bytes_c77)), (q_p1, .inr (1, [.int v_p1_things, .ref q_p1_kind, .ref q_p1_position, .ref q_p1_told, .ref q_p1_capacity, .ref q_p1_amount, .ref q_p1_liquid, .ref q_p1_portsTaken, .ref q_p1_endAtPort, .int v_p1_pipes, .ref q_p1_pipeLitres, .ref q_p1_thingAtEnd, .ref q_p1_portAtEnd, .ref q_p1_bendAtEnd, .ref q_p1_inPipes])), (q_p1_kind, .inl (cI, 40, .inl f_p1_kind)), (q_p1_capacity, .inl (cI, 40, .inl f_p1_capacity))] := hD.sub (ws' := [(q_t, .inr (6, [.ref q_t_bytes, .int v_t_length_c77])), (q_t_bytes, .inl (cB, 15, .inl f_t_bytes_c77)), (q_p1, .inr (1, [.int v_p1_things, .ref q_p1_kind, .ref q_p1_position, .ref q_p1_told, .ref q_p1_capacity, .ref q_p1_amount, .ref q_p1_liquid, .ref q_p1_portsTaken, .ref q_p1_endAtPort, .int v_p1_pipes, .ref q_p1_pipeLitres, .ref q_p1_thingAtEnd, .ref q_p1_portAtEnd, .ref q_p1_bendAtEnd, .ref q_p1_inPipes])), (q_p1_kind, .inl (cI, 40, .inl f_p1_kind)), (q_p1_capacity, .inl (cI, 40, .inl f_p1_capacity))]) [3, 4, 0, 1, 2] (by decide) rfl
  refine lv_aload_n hx hb d_Ln_setToThing_80 rfl (lv_at hl 0 rfl) ?_
  refine lv_bipush (v := 10) hx hb d_Ln_setToThing_81 (by decide) ?_
  have hPc := hP.sub (ws' := [(q_t, .inr (6, [.ref q_t_bytes, .int v_t_length_c77])), (q_t_bytes, .inl (cB, 15, .inl f_t_bytes_c77))]) [0, 1] rfl
  have hDc := hD.sub (ws' := [(q_t, .inr (6, [.ref q_t_bytes, .int v_t_length_c77])), (q_t_bytes, .inl (cB, 15, .inl f_t_bytes_c77))]) [0, 1] (by decide) rfl
  have hFc := va_free (wc := [(q_t, .inr (6, [.ref q_t_bytes, .int v_t_length_c77])), (q_t_bytes, .inl (cB, 15, .inl f_t_bytes_c77))]) hD hS hA [0, 1] rfl
  refine va_callv (va_runV (As := [.int 10]) (rest := []) ⟨hx, hb, hml, hown, hts⟩ (c_Ln_addByte l dC dI cI cL cB q_t q_t_bytes H.size v_t_length_c77 f_t_bytes_c77 10 _ hw) (my_cwV 1 hts kw19_4be27de kw19_8d69dd5 kw19_252ecb9 kw19_c117f00 kw19_7946f56 rfl rfl (by decide +kernel) ⟨Nat.le_of_ble_eq_true rfl, Nat.le_of_ble_eq_true rfl⟩) ⟨fun a U g mk q => by obtain ⟨q0, q1, qP, qK, qD⟩ := q; exact ⟨q0, q1, qP, va_K.moved (u := U) (U := U.calling g mk a) (Vm.Alike.refl U.vm) qK, qD⟩, va_recv hK hP (ci := 6) (q0 := 0) rfl rfl, fun U hU hW => ⟨rfl, by rw [hU], by rw [hU]; exact hPc, va_K.moved hW.alike hK, hDc.weaken (fun _ _ _ _ => trivial)⟩⟩ rfl rfl hl.1 rfl (lv_room (Nat.le_of_ble_eq_true rfl)) d_Ln_setToThing_83 ⟨Nat.zero_le _, Nat.zero_le _⟩) hS (fun q _ h => hFc q h) hFc (fun u t H locs ht hvm hw hB hz1 hk1 hS => ?_)
  obtain ⟨v_t_length_c83, f_t_bytes_c83⟩ := u
  obtain ⟨hP1, hK1, hD1⟩ := hB
  rw [ht] at hP1
  obtain ⟨hP, hD⟩ := va_join (wr := [(q_p1, .inr (1, [.int v_p1_things, .ref q_p1_kind, .ref q_p1_position, .ref q_p1_told, .ref q_p1_capacity, .ref q_p1_amount, .ref q_p1_liquid, .ref q_p1_portsTaken, .ref q_p1_endAtPort, .int v_p1_pipes, .ref q_p1_pipeLitres, .ref q_p1_thingAtEnd, .ref q_p1_portAtEnd, .ref q_p1_bendAtEnd, .ref q_p1_inPipes])), (q_p1_kind, .inl (cI, 40, .inl f_p1_kind)), (q_p1_capacity, .inl (cI, 40, .inl f_p1_capacity))]) (w1 := [(q_t, .inr (6, [.ref q_t_bytes, .int v_t_length_c83])), (q_t_bytes, .inl (cB, 15, .inl f_t_bytes_c83))]) hP hD [0, 1] [2, 3, 4] rfl rfl (by decide) (by decide) hk1 hFc hP1 hD1
  have hP : va_P (dC, dI) classes [(q_t, .inr (6, [.ref q_t_bytes, .int v_t_length_c83])), (q_t_bytes, .inl (cB, 15, .inl f_t_bytes_c83)), (q_p1, .inr (1, [.int v_p1_things, .ref q_p1_kind, .ref q_p1_position, .ref q_p1_told, .ref q_p1_capacity, .ref q_p1_amount, .ref q_p1_liquid, .ref q_p1_portsTaken, .ref q_p1_endAtPort, .int v_p1_pipes, .ref q_p1_pipeLitres, .ref q_p1_thingAtEnd, .ref q_p1_portAtEnd, .ref q_p1_bendAtEnd, .ref q_p1_inPipes])), (q_p1_kind, .inl (cI, 40, .inl f_p1_kind)), (q_p1_capacity, .inl (cI, 40, .inl f_p1_capacity))] H := hP.sub (ws' := [(q_t, .inr (6, [.ref q_t_bytes, .int v_t_length_c83])), (q_t_bytes, .inl (cB, 15, .inl f_t_bytes_c83)), (q_p1, .inr (1, [.int v_p1_things, .ref q_p1_kind, .ref q_p1_position, .ref q_p1_told, .ref q_p1_capacity, .ref q_p1_amount, .ref q_p1_liquid, .ref q_p1_portsTaken, .ref q_p1_endAtPort, .int v_p1_pipes, .ref q_p1_pipeLitres, .ref q_p1_thingAtEnd, .ref q_p1_portAtEnd, .ref q_p1_bendAtEnd, .ref q_p1_inPipes])), (q_p1_kind, .inl (cI, 40, .inl f_p1_kind)), (q_p1_capacity, .inl (cI, 40, .inl f_p1_capacity))]) [3, 4, 0, 1, 2] rfl
  have hD : va_D A [(q_t, .inr (6, [.ref q_t_bytes, .int v_t_length_c83])), (q_t_bytes, .inl (cB, 15, .inl f_t_bytes_c83)), (q_p1, .inr (1, [.int v_p1_things, .ref q_p1_kind, .ref q_p1_position, .ref q_p1_told, .ref q_p1_capacity, .ref q_p1_amount, .ref q_p1_liquid, .ref q_p1_portsTaken, .ref q_p1_endAtPort, .int v_p1_pipes, .ref q_p1_pipeLitres, .ref q_p1_thingAtEnd, .ref q_p1_portAtEnd, .ref q_p1_bendAtEnd, .ref q_p1_inPipes])), (q_p1_kind, .inl (cI, 40, .inl f_p1_kind)), (q_p1_capacity, .inl (cI, 40, .inl f_p1_capacity))] := hD.sub (ws' := [(q_t, .inr (6, [.ref q_t_bytes, .int v_t_length_c83])), (q_t_bytes, .inl (cB, 15, .inl f_t_bytes_c83)), (q_p1, .inr (1, [.int v_p1_things, .ref q_p1_kind, .ref q_p1_position, .ref q_p1_told, .ref q_p1_capacity, .ref q_p1_amount, .ref q_p1_liquid, .ref q_p1_portsTaken, .ref q_p1_endAtPort, .int v_p1_pipes, .ref q_p1_pipeLitres, .ref q_p1_thingAtEnd, .ref q_p1_portAtEnd, .ref q_p1_bendAtEnd, .ref q_p1_inPipes])), (q_p1_kind, .inl (cI, 40, .inl f_p1_kind)), (q_p1_capacity, .inl (cI, 40, .inl f_p1_capacity))]) [3, 4, 0, 1, 2] (by decide) rfl
  exact W.vret hx hb hr (fun t ht hW => ⟨⟨(v_t_length_c83, f_t_bytes_c83), rfl, hw, by rw [ht]; exact hP, va_K.moved hW.alike hK, hD⟩, hS.F ht⟩) hS.2.2 d_Ln_setToThing_86
def wp_Ln_setToPipe (v_t_length : Int32) (f_t_bytes : (Nat → Int32)) (f_p1_pipeLitres : (Nat → Int32)) (f_p1_thingAtEnd : (Nat → Int32)) (x2 : Int32) (P : Int32 → (Nat → Int32) → Prop) : Prop := wp_Ln_addWord 0 f_t_bytes 3 (fun v_t_length_c8 f_t_bytes_c8 => (vp_in (2 * x2) 120 ∧ wp_Ln_addEnd v_t_length_c8 f_t_bytes_c8 (f_p1_thingAtEnd (2 * x2).toNatClampNeg) (fun v_t_length_c20 f_t_bytes_c20 => wp_Ln_addWord v_t_length_c20 f_t_bytes_c20 4 (fun v_t_length_c26 f_t_bytes_c26 => (vp_in ((2 * x2) + 1) 120 ∧ wp_Ln_addEnd v_t_length_c26 f_t_bytes_c26 (f_p1_thingAtEnd ((2 * x2) + 1).toNatClampNeg) (fun v_t_length_c40 f_t_bytes_c40 => wp_Ln_addWord v_t_length_c40 f_t_bytes_c40 4 (fun v_t_length_c46 f_t_bytes_c46 => (vp_in x2 60 ∧ wp_Ln_addNumber v_t_length_c46 f_t_bytes_c46 (f_p1_pipeLitres x2.toNatClampNeg) (fun v_t_length_c56 f_t_bytes_c56 => wp_Ln_addByte v_t_length_c56 f_t_bytes_c56 10 (fun v_t_length_c62 f_t_bytes_c62 => P v_t_length_c62 f_t_bytes_c62))))))))))
def w_Ln_setToPipe : List Cond := .code y_Ln_setToPipe b_Ln_setToPipe 3 none :: tb
abbrev rm_Ln_setToPipe : Room := { frames := 6, cells := 0, slots := 0, locals := 128 }
abbrev Q_Ln_setToPipe (dC : Nat → ClassId) (dI : Nat → Nat → Nat) (cI cL cB : ClassId) (q_t : Nat) (q_p1 : Nat) (q_t_bytes : Nat) (q_p1_kind : Nat) (q_p1_position : Nat) (q_p1_told : Nat) (q_p1_capacity : Nat) (q_p1_amount : Nat) (q_p1_liquid : Nat) (q_p1_portsTaken : Nat) (q_p1_endAtPort : Nat) (q_p1_pipeLitres : Nat) (q_p1_thingAtEnd : Nat) (q_p1_portAtEnd : Nat) (q_p1_bendAtEnd : Nat) (q_p1_inPipes : Nat) (v_t_length : Int32) (f_t_bytes : (Nat → Int32)) (v_p1_things : Int32) (v_p1_pipes : Int32) (f_p1_pipeLitres : (Nat → Int32)) (f_p1_thingAtEnd : (Nat → Int32)) (x2 : Int32) (P : Int32 → (Nat → Int32) → Prop) (A : Nat → Prop) : Array Value → State → Outcome → State → Prop := va_Qv (fun (u : Int32 × (Nat → Int32)) => P u.1 u.2) (fun u t => va_P (dC, dI) classes [(q_t, .inr (6, [.ref q_t_bytes, .int u.1])), (q_t_bytes, .inl (cB, 15, .inl u.2)), (q_p1, .inr (1, [.int v_p1_things, .ref q_p1_kind, .ref q_p1_position, .ref q_p1_told, .ref q_p1_capacity, .ref q_p1_amount, .ref q_p1_liquid, .ref q_p1_portsTaken, .ref q_p1_endAtPort, .int v_p1_pipes, .ref q_p1_pipeLitres, .ref q_p1_thingAtEnd, .ref q_p1_portAtEnd, .ref q_p1_bendAtEnd, .ref q_p1_inPipes])), (q_p1_pipeLitres, .inl (cI, 60, .inl f_p1_pipeLitres)), (q_p1_thingAtEnd, .inl (cI, 120, .inl f_p1_thingAtEnd))] t.heap ∧ va_K (dC, dI) classes [(cI, .int), (cL, .long), (cB, .byte)] t ∧ va_D A [(q_t, .inr (6, [.ref q_t_bytes, .int u.1])), (q_t_bytes, .inl (cB, 15, .inl u.2)), (q_p1, .inr (1, [.int v_p1_things, .ref q_p1_kind, .ref q_p1_position, .ref q_p1_told, .ref q_p1_capacity, .ref q_p1_amount, .ref q_p1_liquid, .ref q_p1_portsTaken, .ref q_p1_endAtPort, .int v_p1_pipes, .ref q_p1_pipeLitres, .ref q_p1_thingAtEnd, .ref q_p1_portAtEnd, .ref q_p1_bendAtEnd, .ref q_p1_inPipes])), (q_p1_pipeLitres, .inl (cI, 60, .inl f_p1_pipeLitres)), (q_p1_thingAtEnd, .inl (cI, 120, .inl f_p1_thingAtEnd))]) A
set_option maxHeartbeats 4000000 in
set_option maxRecDepth 100000 in
theorem c_Ln_setToPipe (l : Launch) (dC : Nat → ClassId) (dI : Nat → Nat → Nat) (cI cL cB : ClassId) (tP tR : Nat) (adK adV : Nat → Nat) (q_t : Nat) (q_p1 : Nat) (q_t_bytes : Nat) (q_p1_kind : Nat) (q_p1_position : Nat) (q_p1_told : Nat) (q_p1_capacity : Nat) (q_p1_amount : Nat) (q_p1_liquid : Nat) (q_p1_portsTaken : Nat) (q_p1_endAtPort : Nat) (q_p1_pipeLitres : Nat) (q_p1_thingAtEnd : Nat) (q_p1_portAtEnd : Nat) (q_p1_bendAtEnd : Nat) (q_p1_inPipes : Nat) (sz : Nat) (v_t_length : Int32) (f_t_bytes : (Nat → Int32)) (v_p1_things : Int32) (v_p1_pipes : Int32) (f_p1_pipeLitres : (Nat → Int32)) (f_p1_thingAtEnd : (Nat → Int32)) (x2 : Int32) (P : Int32 → (Nat → Int32) → Prop) (hw : wp_Ln_setToPipe v_t_length f_t_bytes f_p1_pipeLitres f_p1_thingAtEnd x2 P) : Met l y_Ln_setToPipe w_Ln_setToPipe rm_Ln_setToPipe (va_Pc [.ref q_t, .ref q_p1, .int x2] (fun U => U.heap.size = sz ∧ va_P (dC, dI) classes [(q_t, .inr (6, [.ref q_t_bytes, .int v_t_length])), (q_t_bytes, .inl (cB, 15, .inl f_t_bytes)), (q_p1, .inr (1, [.int v_p1_things, .ref q_p1_kind, .ref q_p1_position, .ref q_p1_told, .ref q_p1_capacity, .ref q_p1_amount, .ref q_p1_liquid, .ref q_p1_portsTaken, .ref q_p1_endAtPort, .int v_p1_pipes, .ref q_p1_pipeLitres, .ref q_p1_thingAtEnd, .ref q_p1_portAtEnd, .ref q_p1_bendAtEnd, .ref q_p1_inPipes])), (q_p1_pipeLitres, .inl (cI, 60, .inl f_p1_pipeLitres)), (q_p1_thingAtEnd, .inl (cI, 120, .inl f_p1_thingAtEnd))] U.heap ∧ va_K (dC, dI) classes [(cI, .int), (cL, .long), (cB, .byte)] U ∧ va_D (fun _ => True) [(q_t, .inr (6, [.ref q_t_bytes, .int v_t_length])), (q_t_bytes, .inl (cB, 15, .inl f_t_bytes)), (q_p1, .inr (1, [.int v_p1_things, .ref q_p1_kind, .ref q_p1_position, .ref q_p1_told, .ref q_p1_capacity, .ref q_p1_amount, .ref q_p1_liquid, .ref q_p1_portsTaken, .ref q_p1_endAtPort, .int v_p1_pipes, .ref q_p1_pipeLitres, .ref q_p1_thingAtEnd, .ref q_p1_portAtEnd, .ref q_p1_bendAtEnd, .ref q_p1_inPipes])), (q_p1_pipeLitres, .inl (cI, 60, .inl f_p1_pipeLitres)), (q_p1_thingAtEnd, .inl (cI, 120, .inl f_p1_thingAtEnd))] ∧ gx tP tR adK adV (va_A [(q_t, .inr (6, [.ref q_t_bytes, .int v_t_length])), (q_t_bytes, .inl (cB, 15, .inl f_t_bytes)), (q_p1, .inr (1, [.int v_p1_things, .ref q_p1_kind, .ref q_p1_position, .ref q_p1_told, .ref q_p1_capacity, .ref q_p1_amount, .ref q_p1_liquid, .ref q_p1_portsTaken, .ref q_p1_endAtPort, .int v_p1_pipes, .ref q_p1_pipeLitres, .ref q_p1_thingAtEnd, .ref q_p1_portAtEnd, .ref q_p1_bendAtEnd, .ref q_p1_inPipes])), (q_p1_pipeLitres, .inl (cI, 60, .inl f_p1_pipeLitres)), (q_p1_thingAtEnd, .inl (cI, 120, .inl f_p1_thingAtEnd))] sz) U U.heap)) (Q_Ln_setToPipe dC dI cI cL cB q_t q_p1 q_t_bytes q_p1_kind q_p1_position q_p1_told q_p1_capacity q_p1_amount q_p1_liquid q_p1_portsTaken q_p1_endAtPort q_p1_pipeLitres q_p1_thingAtEnd q_p1_portAtEnd q_p1_bendAtEnd q_p1_inPipes v_t_length f_t_bytes v_p1_things v_p1_pipes f_p1_pipeLitres f_p1_thingAtEnd x2 P (va_A [(q_t, .inr (6, [.ref q_t_bytes, .int v_t_length])), (q_t_bytes, .inl (cB, 15, .inl f_t_bytes)), (q_p1, .inr (1, [.int v_p1_things, .ref q_p1_kind, .ref q_p1_position, .ref q_p1_told, .ref q_p1_capacity, .ref q_p1_amount, .ref q_p1_liquid, .ref q_p1_portsTaken, .ref q_p1_endAtPort, .int v_p1_pipes, .ref q_p1_pipeLitres, .ref q_p1_thingAtEnd, .ref q_p1_portAtEnd, .ref q_p1_bendAtEnd, .ref q_p1_inPipes])), (q_p1_pipeLitres, .inl (cI, 60, .inl f_p1_pipeLitres)), (q_p1_thingAtEnd, .inl (cI, 120, .inl f_p1_thingAtEnd))] sz)) 0 0 (va_A [(q_t, .inr (6, [.ref q_t_bytes, .int v_t_length])), (q_t_bytes, .inl (cB, 15, .inl f_t_bytes)), (q_p1, .inr (1, [.int v_p1_things, .ref q_p1_kind, .ref q_p1_position, .ref q_p1_told, .ref q_p1_capacity, .ref q_p1_amount, .ref q_p1_liquid, .ref q_p1_portsTaken, .ref q_p1_endAtPort, .int v_p1_pipes, .ref q_p1_pipeLitres, .ref q_p1_thingAtEnd, .ref q_p1_portAtEnd, .ref q_p1_bendAtEnd, .ref q_p1_inPipes])), (q_p1_pipeLitres, .inl (cI, 60, .inl f_p1_pipeLitres)), (q_p1_thingAtEnd, .inl (cI, 120, .inl f_p1_thingAtEnd))] sz) := by
  refine Met.ofW (cc := b_Ln_setToPipe) (maxL := 3) (ret := none) (by decide) rfl ?_
  intro p e s m args below meth c s₁ B hml hv
  obtain ⟨ha, hsz, hP, hK, hD0, hG⟩ := hv
  have hx := B.exec
  have hb := B.bytes
  have hr := B.returns
  have hts0 := atoms_spec (ws := w_Ln_setToPipe) B.pre
  have hts : ∀ w ∈ tb, w.before args s = true := fun w h => hts0 w (List.mem_cons_of_mem _ h)
  have hown : s.vm.findClass R_Ln = some m.cls := findClass_of_methodNamed B.named
  have hlocks := B.notSynchronized
  subst hsz
  have hD := hD0.self (sz := s.heap.size)
  generalize hAe : va_A [(q_t, .inr (6, [.ref q_t_bytes, .int v_t_length])), (q_t_bytes, .inl (cB, 15, .inl f_t_bytes)), (q_p1, .inr (1, [.int v_p1_things, .ref q_p1_kind, .ref q_p1_position, .ref q_p1_told, .ref q_p1_capacity, .ref q_p1_amount, .ref q_p1_liquid, .ref q_p1_portsTaken, .ref q_p1_endAtPort, .int v_p1_pipes, .ref q_p1_pipeLitres, .ref q_p1_thingAtEnd, .ref q_p1_portAtEnd, .ref q_p1_bendAtEnd, .ref q_p1_inPipes])), (q_p1_pipeLitres, .inl (cI, 60, .inl f_p1_pipeLitres)), (q_p1_thingAtEnd, .inl (cI, 120, .inl f_p1_thingAtEnd))] s.heap.size = A at hD hG ⊢
  have hA : ∀ q : Nat, s.heap.size ≤ q → A q := fun q h => by rw [← hAe]; exact Or.inr h
  have hS : va_S A s.heap s.heap [] := va_S.rf
  have hP : va_P (dC, dI) classes [(q_t, .inr (6, [.ref q_t_bytes, .int v_t_length])), (q_t_bytes, .inl (cB, 15, .inl f_t_bytes)), (q_p1, .inr (1, [.int v_p1_things, .ref q_p1_kind, .ref q_p1_position, .ref q_p1_told, .ref q_p1_capacity, .ref q_p1_amount, .ref q_p1_liquid, .ref q_p1_portsTaken, .ref q_p1_endAtPort, .int v_p1_pipes, .ref q_p1_pipeLitres, .ref q_p1_thingAtEnd, .ref q_p1_portAtEnd, .ref q_p1_bendAtEnd, .ref q_p1_inPipes])), (q_p1_pipeLitres, .inl (cI, 60, .inl f_p1_pipeLitres)), (q_p1_thingAtEnd, .inl (cI, 120, .inl f_p1_thingAtEnd))] s.heap := hP
  have hl := lv_entry [.ref q_t, .ref q_p1, .int x2] (n := 3) (Nat.le_of_ble_eq_true rfl)
  have he9 : entryFrame m args 3 = F0 m 0 ((lg_sl [.ref q_t, .ref q_p1, .int x2] ++ List.replicate (3 - (lg_sl [.ref q_t, .ref q_p1, .int x2]).length) Slot.unset).toArray) [] := by rw [ha]; exact lg_entry_eq _ _ _
  rw [he9]
  clear he9
  generalize (lg_sl [.ref q_t, .ref q_p1, .int x2] ++ List.replicate (3 - (lg_sl [.ref q_t, .ref q_p1, .int x2]).length) Slot.unset).toArray = ls at hl ⊢
  have hl : lv_has ls 3 [(0, .ref q_t), (1, .ref q_p1), (2, .int x2)] := hl
  unfold wp_Ln_setToPipe at hw
  refine lv_aload_n hx hb d_Ln_setToPipe_0 rfl (lv_at hl 0 rfl) ?_
  refine lv_iconst (v := 0) hx hb d_Ln_setToPipe_1 (by decide) ?_
  refine va_put (D := (dC, dI)) (ci := 6) (v := .int 0) (ty := .int) (C := R_Ln) (T := F_Ln) (N := 2) hx hb hts i_Ln t_Ln t_Ln_ok n_Ln hown hK hP hD hS 0 rfl rfl 1 (by decide) (hts (Cond.fieldLink R_Ln 15 "PlantGraph$Line" "length" "I") kw19_ddeec2f) (fun _ h9 => h9) rfl (by decide +kernel) rfl rfl (Nat.le_of_ble_eq_true rfl) d_Ln_setToPipe_2 (fun H locs hP hD hS => ?_)
  have hP : va_P (dC, dI) classes [(q_t, .inr (6, [.ref q_t_bytes, .int 0])), (q_t_bytes, .inl (cB, 15, .inl f_t_bytes)), (q_p1, .inr (1, [.int v_p1_things, .ref q_p1_kind, .ref q_p1_position, .ref q_p1_told, .ref q_p1_capacity, .ref q_p1_amount, .ref q_p1_liquid, .ref q_p1_portsTaken, .ref q_p1_endAtPort, .int v_p1_pipes, .ref q_p1_pipeLitres, .ref q_p1_thingAtEnd, .ref q_p1_portAtEnd, .ref q_p1_bendAtEnd, .ref q_p1_inPipes])), (q_p1_pipeLitres, .inl (cI, 60, .inl f_p1_pipeLitres)), (q_p1_thingAtEnd, .inl (cI, 120, .inl f_p1_thingAtEnd))] H := hP
  have hD : va_D A [(q_t, .inr (6, [.ref q_t_bytes, .int 0])), (q_t_bytes, .inl (cB, 15, .inl f_t_bytes)), (q_p1, .inr (1, [.int v_p1_things, .ref q_p1_kind, .ref q_p1_position, .ref q_p1_told, .ref q_p1_capacity, .ref q_p1_amount, .ref q_p1_liquid, .ref q_p1_portsTaken, .ref q_p1_endAtPort, .int v_p1_pipes, .ref q_p1_pipeLitres, .ref q_p1_thingAtEnd, .ref q_p1_portAtEnd, .ref q_p1_bendAtEnd, .ref q_p1_inPipes])), (q_p1_pipeLitres, .inl (cI, 60, .inl f_p1_pipeLitres)), (q_p1_thingAtEnd, .inl (cI, 120, .inl f_p1_thingAtEnd))] := hD
  refine lv_aload_n hx hb d_Ln_setToPipe_5 rfl (lv_at hl 0 rfl) ?_
  refine va_ldcS hx hb hown hG.2.2.2.2.2.2.2.2.2.2.2.2.2.2.2.2.1 d_Ln_setToPipe_6 ?_
  have hPc := hP.sub (ws' := [(q_t, .inr (6, [.ref q_t_bytes, .int 0])), (q_t_bytes, .inl (cB, 15, .inl f_t_bytes))]) [0, 1] rfl
  have hDc := hD.sub (ws' := [(q_t, .inr (6, [.ref q_t_bytes, .int 0])), (q_t_bytes, .inl (cB, 15, .inl f_t_bytes))]) [0, 1] (by decide) rfl
  have hFc := va_free (wc := [(q_t, .inr (6, [.ref q_t_bytes, .int 0])), (q_t_bytes, .inl (cB, 15, .inl f_t_bytes))]) hD hS hA [0, 1] rfl
  refine va_callv (va_runV (As := [.ref (adK 3)]) (rest := []) ⟨hx, hb, hml, hown, hts⟩ (c_Ln_addWord l dC dI cI cL cB tP tR adK adV q_t q_t_bytes H.size 0 f_t_bytes 3 _ hw) (my_cwV 1 hts kw19_992d72e kw19_ba13119 kw19_3a4eb80 kw19_c117f00 kw19_8361cea rfl rfl (by decide +kernel) ⟨Nat.le_of_ble_eq_true rfl, Nat.le_of_ble_eq_true rfl⟩) ⟨fun a U g mk q => by obtain ⟨q0, q1, qP, qK, qD, qG⟩ := q; exact ⟨q0, q1, qP, va_K.moved (u := U) (U := U.calling g mk a) (Vm.Alike.refl U.vm) qK, qD, gx_call qG⟩, va_recv hK hP (ci := 6) (q0 := 0) rfl rfl, fun U hU hW => ⟨rfl, by rw [hU], by rw [hU]; exact hPc, va_K.moved hW.alike hK, hDc.weaken (fun _ _ _ _ => trivial), by rw [hU]; exact gx_pass hW hS.2.1 hFc hG⟩⟩ rfl rfl hl.1 rfl (lv_room (Nat.le_of_ble_eq_true rfl)) d_Ln_setToPipe_8 ⟨Nat.zero_le _, Nat.zero_le _⟩) hS (fun q _ h => hFc q h) hFc (fun u t H locs ht hvm hw hB hz1 hk1 hS => ?_)
  obtain ⟨v_t_length_c8, f_t_bytes_c8⟩ := u
  obtain ⟨hP1, hK1, hD1⟩ := hB
  rw [ht] at hP1
  obtain ⟨hP, hD⟩ := va_join (wr := [(q_p1, .inr (1, [.int v_p1_things, .ref q_p1_kind, .ref q_p1_position, .ref q_p1_told, .ref q_p1_capacity, .ref q_p1_amount, .ref q_p1_liquid, .ref q_p1_portsTaken, .ref q_p1_endAtPort, .int v_p1_pipes, .ref q_p1_pipeLitres, .ref q_p1_thingAtEnd, .ref q_p1_portAtEnd, .ref q_p1_bendAtEnd, .ref q_p1_inPipes])), (q_p1_pipeLitres, .inl (cI, 60, .inl f_p1_pipeLitres)), (q_p1_thingAtEnd, .inl (cI, 120, .inl f_p1_thingAtEnd))]) (w1 := [(q_t, .inr (6, [.ref q_t_bytes, .int v_t_length_c8])), (q_t_bytes, .inl (cB, 15, .inl f_t_bytes_c8))]) hP hD [0, 1] [2, 3, 4] rfl rfl (by decide) (by decide) hk1 hFc hP1 hD1
  have hP : va_P (dC, dI) classes [(q_t, .inr (6, [.ref q_t_bytes, .int v_t_length_c8])), (q_t_bytes, .inl (cB, 15, .inl f_t_bytes_c8)), (q_p1, .inr (1, [.int v_p1_things, .ref q_p1_kind, .ref q_p1_position, .ref q_p1_told, .ref q_p1_capacity, .ref q_p1_amount, .ref q_p1_liquid, .ref q_p1_portsTaken, .ref q_p1_endAtPort, .int v_p1_pipes, .ref q_p1_pipeLitres, .ref q_p1_thingAtEnd, .ref q_p1_portAtEnd, .ref q_p1_bendAtEnd, .ref q_p1_inPipes])), (q_p1_pipeLitres, .inl (cI, 60, .inl f_p1_pipeLitres)), (q_p1_thingAtEnd, .inl (cI, 120, .inl f_p1_thingAtEnd))] H := hP.sub (ws' := [(q_t, .inr (6, [.ref q_t_bytes, .int v_t_length_c8])), (q_t_bytes, .inl (cB, 15, .inl f_t_bytes_c8)), (q_p1, .inr (1, [.int v_p1_things, .ref q_p1_kind, .ref q_p1_position, .ref q_p1_told, .ref q_p1_capacity, .ref q_p1_amount, .ref q_p1_liquid, .ref q_p1_portsTaken, .ref q_p1_endAtPort, .int v_p1_pipes, .ref q_p1_pipeLitres, .ref q_p1_thingAtEnd, .ref q_p1_portAtEnd, .ref q_p1_bendAtEnd, .ref q_p1_inPipes])), (q_p1_pipeLitres, .inl (cI, 60, .inl f_p1_pipeLitres)), (q_p1_thingAtEnd, .inl (cI, 120, .inl f_p1_thingAtEnd))]) [3, 4, 0, 1, 2] rfl
  have hD : va_D A [(q_t, .inr (6, [.ref q_t_bytes, .int v_t_length_c8])), (q_t_bytes, .inl (cB, 15, .inl f_t_bytes_c8)), (q_p1, .inr (1, [.int v_p1_things, .ref q_p1_kind, .ref q_p1_position, .ref q_p1_told, .ref q_p1_capacity, .ref q_p1_amount, .ref q_p1_liquid, .ref q_p1_portsTaken, .ref q_p1_endAtPort, .int v_p1_pipes, .ref q_p1_pipeLitres, .ref q_p1_thingAtEnd, .ref q_p1_portAtEnd, .ref q_p1_bendAtEnd, .ref q_p1_inPipes])), (q_p1_pipeLitres, .inl (cI, 60, .inl f_p1_pipeLitres)), (q_p1_thingAtEnd, .inl (cI, 120, .inl f_p1_thingAtEnd))] := hD.sub (ws' := [(q_t, .inr (6, [.ref q_t_bytes, .int v_t_length_c8])), (q_t_bytes, .inl (cB, 15, .inl f_t_bytes_c8)), (q_p1, .inr (1, [.int v_p1_things, .ref q_p1_kind, .ref q_p1_position, .ref q_p1_told, .ref q_p1_capacity, .ref q_p1_amount, .ref q_p1_liquid, .ref q_p1_portsTaken, .ref q_p1_endAtPort, .int v_p1_pipes, .ref q_p1_pipeLitres, .ref q_p1_thingAtEnd, .ref q_p1_portAtEnd, .ref q_p1_bendAtEnd, .ref q_p1_inPipes])), (q_p1_pipeLitres, .inl (cI, 60, .inl f_p1_pipeLitres)), (q_p1_thingAtEnd, .inl (cI, 120, .inl f_p1_thingAtEnd))]) [3, 4, 0, 1, 2] (by decide) rfl
  refine lv_aload_n hx hb d_Ln_setToPipe_11 rfl (lv_at hl 0 rfl) ?_
  refine lv_aload_n hx hb d_Ln_setToPipe_12 rfl (lv_at hl 1 rfl) ?_
  refine va_getN (D := (dC, dI)) (ci := 1) (v := .ref q_p1_thingAtEnd) (C := R_Pl) (T := F_Pl) (N := 15) hx hb hts i_Pl hown hK hP 2 rfl rfl 11 (by decide) (hts (Cond.fieldLinkNest R_Ln 47 "PlantGraph$Plant" "thingAtEnd" "[I" "PlantGraph") kw19_350cb23) (fun _ h9 => h9) rfl d_Ln_setToPipe_13 ?_
  refine lv_iconst (v := 2) hx hb d_Ln_setToPipe_16 (by decide) ?_
  refine lv_iload_n hx hb d_Ln_setToPipe_17 rfl (lv_at hl 2 rfl) ?_
  refine lv_imul hx hb d_Ln_setToPipe_18 ?_
  refine va_iald hx hb hK hP 4 0 rfl rfl hw.1 d_Ln_setToPipe_19 ?_
  replace hw := hw.2
  have hPc := hP.sub (ws' := [(q_t, .inr (6, [.ref q_t_bytes, .int v_t_length_c8])), (q_t_bytes, .inl (cB, 15, .inl f_t_bytes_c8))]) [0, 1] rfl
  have hDc := hD.sub (ws' := [(q_t, .inr (6, [.ref q_t_bytes, .int v_t_length_c8])), (q_t_bytes, .inl (cB, 15, .inl f_t_bytes_c8))]) [0, 1] (by decide) rfl
  have hFc := va_free (wc := [(q_t, .inr (6, [.ref q_t_bytes, .int v_t_length_c8])), (q_t_bytes, .inl (cB, 15, .inl f_t_bytes_c8))]) hD hS hA [0, 1] rfl
  refine va_callv (va_runV (As := [.int (f_p1_thingAtEnd (2 * x2).toNatClampNeg)]) (rest := []) ⟨hx, hb, hml, hown, hts⟩ (c_Ln_addEnd l dC dI cI cL cB tP tR adK adV q_t q_t_bytes H.size v_t_length_c8 f_t_bytes_c8 (f_p1_thingAtEnd (2 * x2).toNatClampNeg) _ hw) (my_cwV 1 hts kw19_ed4173e kw19_929b066 kw19_aba89c7 kw19_c117f00 kw19_23fd4d6 rfl rfl (by decide +kernel) ⟨Nat.le_of_ble_eq_true rfl, Nat.le_of_ble_eq_true rfl⟩) ⟨fun a U g mk q => by obtain ⟨q0, q1, qP, qK, qD, qG⟩ := q; exact ⟨q0, q1, qP, va_K.moved (u := U) (U := U.calling g mk a) (Vm.Alike.refl U.vm) qK, qD, gx_call qG⟩, va_recv hK hP (ci := 6) (q0 := 0) rfl rfl, fun U hU hW => ⟨rfl, by rw [hU], by rw [hU]; exact hPc, va_K.moved hW.alike hK, hDc.weaken (fun _ _ _ _ => trivial), by rw [hU]; exact gx_pass hW hS.2.1 hFc hG⟩⟩ rfl rfl hl.1 rfl (lv_room (Nat.le_of_ble_eq_true rfl)) d_Ln_setToPipe_20 ⟨Nat.zero_le _, Nat.zero_le _⟩) hS (fun q _ h => hFc q h) hFc (fun u t H locs ht hvm hw hB hz1 hk1 hS => ?_)
  obtain ⟨v_t_length_c20, f_t_bytes_c20⟩ := u
  obtain ⟨hP1, hK1, hD1⟩ := hB
  rw [ht] at hP1
  obtain ⟨hP, hD⟩ := va_join (wr := [(q_p1, .inr (1, [.int v_p1_things, .ref q_p1_kind, .ref q_p1_position, .ref q_p1_told, .ref q_p1_capacity, .ref q_p1_amount, .ref q_p1_liquid, .ref q_p1_portsTaken, .ref q_p1_endAtPort, .int v_p1_pipes, .ref q_p1_pipeLitres, .ref q_p1_thingAtEnd, .ref q_p1_portAtEnd, .ref q_p1_bendAtEnd, .ref q_p1_inPipes])), (q_p1_pipeLitres, .inl (cI, 60, .inl f_p1_pipeLitres)), (q_p1_thingAtEnd, .inl (cI, 120, .inl f_p1_thingAtEnd))]) (w1 := [(q_t, .inr (6, [.ref q_t_bytes, .int v_t_length_c20])), (q_t_bytes, .inl (cB, 15, .inl f_t_bytes_c20))]) hP hD [0, 1] [2, 3, 4] rfl rfl (by decide) (by decide) hk1 hFc hP1 hD1
  have hP : va_P (dC, dI) classes [(q_t, .inr (6, [.ref q_t_bytes, .int v_t_length_c20])), (q_t_bytes, .inl (cB, 15, .inl f_t_bytes_c20)), (q_p1, .inr (1, [.int v_p1_things, .ref q_p1_kind, .ref q_p1_position, .ref q_p1_told, .ref q_p1_capacity, .ref q_p1_amount, .ref q_p1_liquid, .ref q_p1_portsTaken, .ref q_p1_endAtPort, .int v_p1_pipes, .ref q_p1_pipeLitres, .ref q_p1_thingAtEnd, .ref q_p1_portAtEnd, .ref q_p1_bendAtEnd, .ref q_p1_inPipes])), (q_p1_pipeLitres, .inl (cI, 60, .inl f_p1_pipeLitres)), (q_p1_thingAtEnd, .inl (cI, 120, .inl f_p1_thingAtEnd))] H := hP.sub (ws' := [(q_t, .inr (6, [.ref q_t_bytes, .int v_t_length_c20])), (q_t_bytes, .inl (cB, 15, .inl f_t_bytes_c20)), (q_p1, .inr (1, [.int v_p1_things, .ref q_p1_kind, .ref q_p1_position, .ref q_p1_told, .ref q_p1_capacity, .ref q_p1_amount, .ref q_p1_liquid, .ref q_p1_portsTaken, .ref q_p1_endAtPort, .int v_p1_pipes, .ref q_p1_pipeLitres, .ref q_p1_thingAtEnd, .ref q_p1_portAtEnd, .ref q_p1_bendAtEnd, .ref q_p1_inPipes])), (q_p1_pipeLitres, .inl (cI, 60, .inl f_p1_pipeLitres)), (q_p1_thingAtEnd, .inl (cI, 120, .inl f_p1_thingAtEnd))]) [3, 4, 0, 1, 2] rfl
  have hD : va_D A [(q_t, .inr (6, [.ref q_t_bytes, .int v_t_length_c20])), (q_t_bytes, .inl (cB, 15, .inl f_t_bytes_c20)), (q_p1, .inr (1, [.int v_p1_things, .ref q_p1_kind, .ref q_p1_position, .ref q_p1_told, .ref q_p1_capacity, .ref q_p1_amount, .ref q_p1_liquid, .ref q_p1_portsTaken, .ref q_p1_endAtPort, .int v_p1_pipes, .ref q_p1_pipeLitres, .ref q_p1_thingAtEnd, .ref q_p1_portAtEnd, .ref q_p1_bendAtEnd, .ref q_p1_inPipes])), (q_p1_pipeLitres, .inl (cI, 60, .inl f_p1_pipeLitres)), (q_p1_thingAtEnd, .inl (cI, 120, .inl f_p1_thingAtEnd))] := hD.sub (ws' := [(q_t, .inr (6, [.ref q_t_bytes, .int v_t_length_c20])), (q_t_bytes, .inl (cB, 15, .inl f_t_bytes_c20)), (q_p1, .inr (1, [.int v_p1_things, .ref q_p1_kind, .ref q_p1_position, .ref q_p1_told, .ref q_p1_capacity, .ref q_p1_amount, .ref q_p1_liquid, .ref q_p1_portsTaken, .ref q_p1_endAtPort, .int v_p1_pipes, .ref q_p1_pipeLitres, .ref q_p1_thingAtEnd, .ref q_p1_portAtEnd, .ref q_p1_bendAtEnd, .ref q_p1_inPipes])), (q_p1_pipeLitres, .inl (cI, 60, .inl f_p1_pipeLitres)), (q_p1_thingAtEnd, .inl (cI, 120, .inl f_p1_thingAtEnd))]) [3, 4, 0, 1, 2] (by decide) rfl
  refine lv_aload_n hx hb d_Ln_setToPipe_23 rfl (lv_at hl 0 rfl) ?_
  refine va_ldcS hx hb hown hG.2.2.2.2.2.2.2.2.2.2.2.2.2.2.2.2.2.2.1 d_Ln_setToPipe_24 ?_
  have hPc := hP.sub (ws' := [(q_t, .inr (6, [.ref q_t_bytes, .int v_t_length_c20])), (q_t_bytes, .inl (cB, 15, .inl f_t_bytes_c20))]) [0, 1] rfl
  have hDc := hD.sub (ws' := [(q_t, .inr (6, [.ref q_t_bytes, .int v_t_length_c20])), (q_t_bytes, .inl (cB, 15, .inl f_t_bytes_c20))]) [0, 1] (by decide) rfl
  have hFc := va_free (wc := [(q_t, .inr (6, [.ref q_t_bytes, .int v_t_length_c20])), (q_t_bytes, .inl (cB, 15, .inl f_t_bytes_c20))]) hD hS hA [0, 1] rfl
  refine va_callv (va_runV (As := [.ref (adK 4)]) (rest := []) ⟨hx, hb, hml, hown, hts⟩ (c_Ln_addWord l dC dI cI cL cB tP tR adK adV q_t q_t_bytes H.size v_t_length_c20 f_t_bytes_c20 4 _ hw) (my_cwV 1 hts kw19_992d72e kw19_ba13119 kw19_3a4eb80 kw19_c117f00 kw19_8361cea rfl rfl (by decide +kernel) ⟨Nat.le_of_ble_eq_true rfl, Nat.le_of_ble_eq_true rfl⟩) ⟨fun a U g mk q => by obtain ⟨q0, q1, qP, qK, qD, qG⟩ := q; exact ⟨q0, q1, qP, va_K.moved (u := U) (U := U.calling g mk a) (Vm.Alike.refl U.vm) qK, qD, gx_call qG⟩, va_recv hK hP (ci := 6) (q0 := 0) rfl rfl, fun U hU hW => ⟨rfl, by rw [hU], by rw [hU]; exact hPc, va_K.moved hW.alike hK, hDc.weaken (fun _ _ _ _ => trivial), by rw [hU]; exact gx_pass hW hS.2.1 hFc hG⟩⟩ rfl rfl hl.1 rfl (lv_room (Nat.le_of_ble_eq_true rfl)) d_Ln_setToPipe_26 ⟨Nat.zero_le _, Nat.zero_le _⟩) hS (fun q _ h => hFc q h) hFc (fun u t H locs ht hvm hw hB hz1 hk1 hS => ?_)
  obtain ⟨v_t_length_c26, f_t_bytes_c26⟩ := u
  obtain ⟨hP1, hK1, hD1⟩ := hB
  rw [ht] at hP1
  obtain ⟨hP, hD⟩ := va_join (wr := [(q_p1, .inr (1, [.int v_p1_things, .ref q_p1_kind, .ref q_p1_position, .ref q_p1_told, .ref q_p1_capacity, .ref q_p1_amount, .ref q_p1_liquid, .ref q_p1_portsTaken, .ref q_p1_endAtPort, .int v_p1_pipes, .ref q_p1_pipeLitres, .ref q_p1_thingAtEnd, .ref q_p1_portAtEnd, .ref q_p1_bendAtEnd, .ref q_p1_inPipes])), (q_p1_pipeLitres, .inl (cI, 60, .inl f_p1_pipeLitres)), (q_p1_thingAtEnd, .inl (cI, 120, .inl f_p1_thingAtEnd))]) (w1 := [(q_t, .inr (6, [.ref q_t_bytes, .int v_t_length_c26])), (q_t_bytes, .inl (cB, 15, .inl f_t_bytes_c26))]) hP hD [0, 1] [2, 3, 4] rfl rfl (by decide) (by decide) hk1 hFc hP1 hD1
  have hP : va_P (dC, dI) classes [(q_t, .inr (6, [.ref q_t_bytes, .int v_t_length_c26])), (q_t_bytes, .inl (cB, 15, .inl f_t_bytes_c26)), (q_p1, .inr (1, [.int v_p1_things, .ref q_p1_kind, .ref q_p1_position, .ref q_p1_told, .ref q_p1_capacity, .ref q_p1_amount, .ref q_p1_liquid, .ref q_p1_portsTaken, .ref q_p1_endAtPort, .int v_p1_pipes, .ref q_p1_pipeLitres, .ref q_p1_thingAtEnd, .ref q_p1_portAtEnd, .ref q_p1_bendAtEnd, .ref q_p1_inPipes])), (q_p1_pipeLitres, .inl (cI, 60, .inl f_p1_pipeLitres)), (q_p1_thingAtEnd, .inl (cI, 120, .inl f_p1_thingAtEnd))] H := hP.sub (ws' := [(q_t, .inr (6, [.ref q_t_bytes, .int v_t_length_c26])), (q_t_bytes, .inl (cB, 15, .inl f_t_bytes_c26)), (q_p1, .inr (1, [.int v_p1_things, .ref q_p1_kind, .ref q_p1_position, .ref q_p1_told, .ref q_p1_capacity, .ref q_p1_amount, .ref q_p1_liquid, .ref q_p1_portsTaken, .ref q_p1_endAtPort, .int v_p1_pipes, .ref q_p1_pipeLitres, .ref q_p1_thingAtEnd, .ref q_p1_portAtEnd, .ref q_p1_bendAtEnd, .ref q_p1_inPipes])), (q_p1_pipeLitres, .inl (cI, 60, .inl f_p1_pipeLitres)), (q_p1_thingAtEnd, .inl (cI, 120, .inl f_p1_thingAtEnd))]) [3, 4, 0, 1, 2] rfl
  have hD : va_D A [(q_t, .inr (6, [.ref q_t_bytes, .int v_t_length_c26])), (q_t_bytes, .inl (cB, 15, .inl f_t_bytes_c26)), (q_p1, .inr (1, [.int v_p1_things, .ref q_p1_kind, .ref q_p1_position, .ref q_p1_told, .ref q_p1_capacity, .ref q_p1_amount, .ref q_p1_liquid, .ref q_p1_portsTaken, .ref q_p1_endAtPort, .int v_p1_pipes, .ref q_p1_pipeLitres, .ref q_p1_thingAtEnd, .ref q_p1_portAtEnd, .ref q_p1_bendAtEnd, .ref q_p1_inPipes])), (q_p1_pipeLitres, .inl (cI, 60, .inl f_p1_pipeLitres)), (q_p1_thingAtEnd, .inl (cI, 120, .inl f_p1_thingAtEnd))] := hD.sub (ws' := [(q_t, .inr (6, [.ref q_t_bytes, .int v_t_length_c26])), (q_t_bytes, .inl (cB, 15, .inl f_t_bytes_c26)), (q_p1, .inr (1, [.int v_p1_things, .ref q_p1_kind, .ref q_p1_position, .ref q_p1_told, .ref q_p1_capacity, .ref q_p1_amount, .ref q_p1_liquid, .ref q_p1_portsTaken, .ref q_p1_endAtPort, .int v_p1_pipes, .ref q_p1_pipeLitres, .ref q_p1_thingAtEnd, .ref q_p1_portAtEnd, .ref q_p1_bendAtEnd, .ref q_p1_inPipes])), (q_p1_pipeLitres, .inl (cI, 60, .inl f_p1_pipeLitres)), (q_p1_thingAtEnd, .inl (cI, 120, .inl f_p1_thingAtEnd))]) [3, 4, 0, 1, 2] (by decide) rfl
  refine lv_aload_n hx hb d_Ln_setToPipe_29 rfl (lv_at hl 0 rfl) ?_
  refine lv_aload_n hx hb d_Ln_setToPipe_30 rfl (lv_at hl 1 rfl) ?_
  refine va_getN (D := (dC, dI)) (ci := 1) (v := .ref q_p1_thingAtEnd) (C := R_Pl) (T := F_Pl) (N := 15) hx hb hts i_Pl hown hK hP 2 rfl rfl 11 (by decide) (hts (Cond.fieldLinkNest R_Ln 47 "PlantGraph$Plant" "thingAtEnd" "[I" "PlantGraph") kw19_350cb23) (fun _ h9 => h9) rfl d_Ln_setToPipe_31 ?_
  refine lv_iconst (v := 2) hx hb d_Ln_setToPipe_34 (by decide) ?_
  refine lv_iload_n hx hb d_Ln_setToPipe_35 rfl (lv_at hl 2 rfl) ?_
  refine lv_imul hx hb d_Ln_setToPipe_36 ?_
  refine lv_iconst (v := 1) hx hb d_Ln_setToPipe_37 (by decide) ?_
  refine lv_iadd hx hb d_Ln_setToPipe_38 ?_
  refine va_iald hx hb hK hP 4 0 rfl rfl hw.1 d_Ln_setToPipe_39 ?_
  replace hw := hw.2
  have hPc := hP.sub (ws' := [(q_t, .inr (6, [.ref q_t_bytes, .int v_t_length_c26])), (q_t_bytes, .inl (cB, 15, .inl f_t_bytes_c26))]) [0, 1] rfl
  have hDc := hD.sub (ws' := [(q_t, .inr (6, [.ref q_t_bytes, .int v_t_length_c26])), (q_t_bytes, .inl (cB, 15, .inl f_t_bytes_c26))]) [0, 1] (by decide) rfl
  have hFc := va_free (wc := [(q_t, .inr (6, [.ref q_t_bytes, .int v_t_length_c26])), (q_t_bytes, .inl (cB, 15, .inl f_t_bytes_c26))]) hD hS hA [0, 1] rfl
  refine va_callv (va_runV (As := [.int (f_p1_thingAtEnd ((2 * x2) + 1).toNatClampNeg)]) (rest := []) ⟨hx, hb, hml, hown, hts⟩ (c_Ln_addEnd l dC dI cI cL cB tP tR adK adV q_t q_t_bytes H.size v_t_length_c26 f_t_bytes_c26 (f_p1_thingAtEnd ((2 * x2) + 1).toNatClampNeg) _ hw) (my_cwV 1 hts kw19_ed4173e kw19_929b066 kw19_aba89c7 kw19_c117f00 kw19_23fd4d6 rfl rfl (by decide +kernel) ⟨Nat.le_of_ble_eq_true rfl, Nat.le_of_ble_eq_true rfl⟩) ⟨fun a U g mk q => by obtain ⟨q0, q1, qP, qK, qD, qG⟩ := q; exact ⟨q0, q1, qP, va_K.moved (u := U) (U := U.calling g mk a) (Vm.Alike.refl U.vm) qK, qD, gx_call qG⟩, va_recv hK hP (ci := 6) (q0 := 0) rfl rfl, fun U hU hW => ⟨rfl, by rw [hU], by rw [hU]; exact hPc, va_K.moved hW.alike hK, hDc.weaken (fun _ _ _ _ => trivial), by rw [hU]; exact gx_pass hW hS.2.1 hFc hG⟩⟩ rfl rfl hl.1 rfl (lv_room (Nat.le_of_ble_eq_true rfl)) d_Ln_setToPipe_40 ⟨Nat.zero_le _, Nat.zero_le _⟩) hS (fun q _ h => hFc q h) hFc (fun u t H locs ht hvm hw hB hz1 hk1 hS => ?_)
  obtain ⟨v_t_length_c40, f_t_bytes_c40⟩ := u
  obtain ⟨hP1, hK1, hD1⟩ := hB
  rw [ht] at hP1
  obtain ⟨hP, hD⟩ := va_join (wr := [(q_p1, .inr (1, [.int v_p1_things, .ref q_p1_kind, .ref q_p1_position, .ref q_p1_told, .ref q_p1_capacity, .ref q_p1_amount, .ref q_p1_liquid, .ref q_p1_portsTaken, .ref q_p1_endAtPort, .int v_p1_pipes, .ref q_p1_pipeLitres, .ref q_p1_thingAtEnd, .ref q_p1_portAtEnd, .ref q_p1_bendAtEnd, .ref q_p1_inPipes])), (q_p1_pipeLitres, .inl (cI, 60, .inl f_p1_pipeLitres)), (q_p1_thingAtEnd, .inl (cI, 120, .inl f_p1_thingAtEnd))]) (w1 := [(q_t, .inr (6, [.ref q_t_bytes, .int v_t_length_c40])), (q_t_bytes, .inl (cB, 15, .inl f_t_bytes_c40))]) hP hD [0, 1] [2, 3, 4] rfl rfl (by decide) (by decide) hk1 hFc hP1 hD1
  have hP : va_P (dC, dI) classes [(q_t, .inr (6, [.ref q_t_bytes, .int v_t_length_c40])), (q_t_bytes, .inl (cB, 15, .inl f_t_bytes_c40)), (q_p1, .inr (1, [.int v_p1_things, .ref q_p1_kind, .ref q_p1_position, .ref q_p1_told, .ref q_p1_capacity, .ref q_p1_amount, .ref q_p1_liquid, .ref q_p1_portsTaken, .ref q_p1_endAtPort, .int v_p1_pipes, .ref q_p1_pipeLitres, .ref q_p1_thingAtEnd, .ref q_p1_portAtEnd, .ref q_p1_bendAtEnd, .ref q_p1_inPipes])), (q_p1_pipeLitres, .inl (cI, 60, .inl f_p1_pipeLitres)), (q_p1_thingAtEnd, .inl (cI, 120, .inl f_p1_thingAtEnd))] H := hP.sub (ws' := [(q_t, .inr (6, [.ref q_t_bytes, .int v_t_length_c40])), (q_t_bytes, .inl (cB, 15, .inl f_t_bytes_c40)), (q_p1, .inr (1, [.int v_p1_things, .ref q_p1_kind, .ref q_p1_position, .ref q_p1_told, .ref q_p1_capacity, .ref q_p1_amount, .ref q_p1_liquid, .ref q_p1_portsTaken, .ref q_p1_endAtPort, .int v_p1_pipes, .ref q_p1_pipeLitres, .ref q_p1_thingAtEnd, .ref q_p1_portAtEnd, .ref q_p1_bendAtEnd, .ref q_p1_inPipes])), (q_p1_pipeLitres, .inl (cI, 60, .inl f_p1_pipeLitres)), (q_p1_thingAtEnd, .inl (cI, 120, .inl f_p1_thingAtEnd))]) [3, 4, 0, 1, 2] rfl
  have hD : va_D A [(q_t, .inr (6, [.ref q_t_bytes, .int v_t_length_c40])), (q_t_bytes, .inl (cB, 15, .inl f_t_bytes_c40)), (q_p1, .inr (1, [.int v_p1_things, .ref q_p1_kind, .ref q_p1_position, .ref q_p1_told, .ref q_p1_capacity, .ref q_p1_amount, .ref q_p1_liquid, .ref q_p1_portsTaken, .ref q_p1_endAtPort, .int v_p1_pipes, .ref q_p1_pipeLitres, .ref q_p1_thingAtEnd, .ref q_p1_portAtEnd, .ref q_p1_bendAtEnd, .ref q_p1_inPipes])), (q_p1_pipeLitres, .inl (cI, 60, .inl f_p1_pipeLitres)), (q_p1_thingAtEnd, .inl (cI, 120, .inl f_p1_thingAtEnd))] := hD.sub (ws' := [(q_t, .inr (6, [.ref q_t_bytes, .int v_t_length_c40])), (q_t_bytes, .inl (cB, 15, .inl f_t_bytes_c40)), (q_p1, .inr (1, [.int v_p1_things, .ref q_p1_kind, .ref q_p1_position, .ref q_p1_told, .ref q_p1_capacity, .ref q_p1_amount, .ref q_p1_liquid, .ref q_p1_portsTaken, .ref q_p1_endAtPort, .int v_p1_pipes, .ref q_p1_pipeLitres, .ref q_p1_thingAtEnd, .ref q_p1_portAtEnd, .ref q_p1_bendAtEnd, .ref q_p1_inPipes])), (q_p1_pipeLitres, .inl (cI, 60, .inl f_p1_pipeLitres)), (q_p1_thingAtEnd, .inl (cI, 120, .inl f_p1_thingAtEnd))]) [3, 4, 0, 1, 2] (by decide) rfl
  refine lv_aload_n hx hb d_Ln_setToPipe_43 rfl (lv_at hl 0 rfl) ?_
  refine va_ldcS hx hb hown hG.2.2.2.2.2.2.2.2.2.2.2.2.2.2.2.2.2.2.1 d_Ln_setToPipe_44 ?_
  have hPc := hP.sub (ws' := [(q_t, .inr (6, [.ref q_t_bytes, .int v_t_length_c40])), (q_t_bytes, .inl (cB, 15, .inl f_t_bytes_c40))]) [0, 1] rfl
  have hDc := hD.sub (ws' := [(q_t, .inr (6, [.ref q_t_bytes, .int v_t_length_c40])), (q_t_bytes, .inl (cB, 15, .inl f_t_bytes_c40))]) [0, 1] (by decide) rfl
  have hFc := va_free (wc := [(q_t, .inr (6, [.ref q_t_bytes, .int v_t_length_c40])), (q_t_bytes, .inl (cB, 15, .inl f_t_bytes_c40))]) hD hS hA [0, 1] rfl
  refine va_callv (va_runV (As := [.ref (adK 4)]) (rest := []) ⟨hx, hb, hml, hown, hts⟩ (c_Ln_addWord l dC dI cI cL cB tP tR adK adV q_t q_t_bytes H.size v_t_length_c40 f_t_bytes_c40 4 _ hw) (my_cwV 1 hts kw19_992d72e kw19_ba13119 kw19_3a4eb80 kw19_c117f00 kw19_8361cea rfl rfl (by decide +kernel) ⟨Nat.le_of_ble_eq_true rfl, Nat.le_of_ble_eq_true rfl⟩) ⟨fun a U g mk q => by obtain ⟨q0, q1, qP, qK, qD, qG⟩ := q; exact ⟨q0, q1, qP, va_K.moved (u := U) (U := U.calling g mk a) (Vm.Alike.refl U.vm) qK, qD, gx_call qG⟩, va_recv hK hP (ci := 6) (q0 := 0) rfl rfl, fun U hU hW => ⟨rfl, by rw [hU], by rw [hU]; exact hPc, va_K.moved hW.alike hK, hDc.weaken (fun _ _ _ _ => trivial), by rw [hU]; exact gx_pass hW hS.2.1 hFc hG⟩⟩ rfl rfl hl.1 rfl (lv_room (Nat.le_of_ble_eq_true rfl)) d_Ln_setToPipe_46 ⟨Nat.zero_le _, Nat.zero_le _⟩) hS (fun q _ h => hFc q h) hFc (fun u t H locs ht hvm hw hB hz1 hk1 hS => ?_)
  obtain ⟨v_t_length_c46, f_t_bytes_c46⟩ := u
  obtain ⟨hP1, hK1, hD1⟩ := hB
  rw [ht] at hP1
  obtain ⟨hP, hD⟩ := va_join (wr := [(q_p1, .inr (1, [.int v_p1_things, .ref q_p1_kind, .ref q_p1_position, .ref q_p1_told, .ref q_p1_capacity, .ref q_p1_amount, .ref q_p1_liquid, .ref q_p1_portsTaken, .ref q_p1_endAtPort, .int v_p1_pipes, .ref q_p1_pipeLitres, .ref q_p1_thingAtEnd, .ref q_p1_portAtEnd, .ref q_p1_bendAtEnd, .ref q_p1_inPipes])), (q_p1_pipeLitres, .inl (cI, 60, .inl f_p1_pipeLitres)), (q_p1_thingAtEnd, .inl (cI, 120, .inl f_p1_thingAtEnd))]) (w1 := [(q_t, .inr (6, [.ref q_t_bytes, .int v_t_length_c46])), (q_t_bytes, .inl (cB, 15, .inl f_t_bytes_c46))]) hP hD [0, 1] [2, 3, 4] rfl rfl (by decide) (by decide) hk1 hFc hP1 hD1
  have hP : va_P (dC, dI) classes [(q_t, .inr (6, [.ref q_t_bytes, .int v_t_length_c46])), (q_t_bytes, .inl (cB, 15, .inl f_t_bytes_c46)), (q_p1, .inr (1, [.int v_p1_things, .ref q_p1_kind, .ref q_p1_position, .ref q_p1_told, .ref q_p1_capacity, .ref q_p1_amount, .ref q_p1_liquid, .ref q_p1_portsTaken, .ref q_p1_endAtPort, .int v_p1_pipes, .ref q_p1_pipeLitres, .ref q_p1_thingAtEnd, .ref q_p1_portAtEnd, .ref q_p1_bendAtEnd, .ref q_p1_inPipes])), (q_p1_pipeLitres, .inl (cI, 60, .inl f_p1_pipeLitres)), (q_p1_thingAtEnd, .inl (cI, 120, .inl f_p1_thingAtEnd))] H := hP.sub (ws' := [(q_t, .inr (6, [.ref q_t_bytes, .int v_t_length_c46])), (q_t_bytes, .inl (cB, 15, .inl f_t_bytes_c46)), (q_p1, .inr (1, [.int v_p1_things, .ref q_p1_kind, .ref q_p1_position, .ref q_p1_told, .ref q_p1_capacity, .ref q_p1_amount, .ref q_p1_liquid, .ref q_p1_portsTaken, .ref q_p1_endAtPort, .int v_p1_pipes, .ref q_p1_pipeLitres, .ref q_p1_thingAtEnd, .ref q_p1_portAtEnd, .ref q_p1_bendAtEnd, .ref q_p1_inPipes])), (q_p1_pipeLitres, .inl (cI, 60, .inl f_p1_pipeLitres)), (q_p1_thingAtEnd, .inl (cI, 120, .inl f_p1_thingAtEnd))]) [3, 4, 0, 1, 2] rfl
  have hD : va_D A [(q_t, .inr (6, [.ref q_t_bytes, .int v_t_length_c46])), (q_t_bytes, .inl (cB, 15, .inl f_t_bytes_c46)), (q_p1, .inr (1, [.int v_p1_things, .ref q_p1_kind, .ref q_p1_position, .ref q_p1_told, .ref q_p1_capacity, .ref q_p1_amount, .ref q_p1_liquid, .ref q_p1_portsTaken, .ref q_p1_endAtPort, .int v_p1_pipes, .ref q_p1_pipeLitres, .ref q_p1_thingAtEnd, .ref q_p1_portAtEnd, .ref q_p1_bendAtEnd, .ref q_p1_inPipes])), (q_p1_pipeLitres, .inl (cI, 60, .inl f_p1_pipeLitres)), (q_p1_thingAtEnd, .inl (cI, 120, .inl f_p1_thingAtEnd))] := hD.sub (ws' := [(q_t, .inr (6, [.ref q_t_bytes, .int v_t_length_c46])), (q_t_bytes, .inl (cB, 15, .inl f_t_bytes_c46)), (q_p1, .inr (1, [.int v_p1_things, .ref q_p1_kind, .ref q_p1_position, .ref q_p1_told, .ref q_p1_capacity, .ref q_p1_amount, .ref q_p1_liquid, .ref q_p1_portsTaken, .ref q_p1_endAtPort, .int v_p1_pipes, .ref q_p1_pipeLitres, .ref q_p1_thingAtEnd, .ref q_p1_portAtEnd, .ref q_p1_bendAtEnd, .ref q_p1_inPipes])), (q_p1_pipeLitres, .inl (cI, 60, .inl f_p1_pipeLitres)), (q_p1_thingAtEnd, .inl (cI, 120, .inl f_p1_thingAtEnd))]) [3, 4, 0, 1, 2] (by decide) rfl
  refine lv_aload_n hx hb d_Ln_setToPipe_49 rfl (lv_at hl 0 rfl) ?_
  refine lv_aload_n hx hb d_Ln_setToPipe_50 rfl (lv_at hl 1 rfl) ?_
  refine va_getN (D := (dC, dI)) (ci := 1) (v := .ref q_p1_pipeLitres) (C := R_Pl) (T := F_Pl) (N := 15) hx hb hts i_Pl hown hK hP 2 rfl rfl 10 (by decide) (hts (Cond.fieldLinkNest R_Ln 55 "PlantGraph$Plant" "pipeLitres" "[I" "PlantGraph") kw19_1359592) (fun _ h9 => h9) rfl d_Ln_setToPipe_51 ?_
  refine lv_iload_n hx hb d_Ln_setToPipe_54 rfl (lv_at hl 2 rfl) ?_
  refine va_iald hx hb hK hP 3 0 rfl rfl hw.1 d_Ln_setToPipe_55 ?_
  replace hw := hw.2
  have hPc := hP.sub (ws' := [(q_t, .inr (6, [.ref q_t_bytes, .int v_t_length_c46])), (q_t_bytes, .inl (cB, 15, .inl f_t_bytes_c46))]) [0, 1] rfl
  have hDc := hD.sub (ws' := [(q_t, .inr (6, [.ref q_t_bytes, .int v_t_length_c46])), (q_t_bytes, .inl (cB, 15, .inl f_t_bytes_c46))]) [0, 1] (by decide) rfl
  have hFc := va_free (wc := [(q_t, .inr (6, [.ref q_t_bytes, .int v_t_length_c46])), (q_t_bytes, .inl (cB, 15, .inl f_t_bytes_c46))]) hD hS hA [0, 1] rfl
  refine va_callv (va_runV (As := [.int (f_p1_pipeLitres x2.toNatClampNeg)]) (rest := []) ⟨hx, hb, hml, hown, hts⟩ (c_Ln_addNumber l dC dI cI cL cB q_t q_t_bytes H.size v_t_length_c46 f_t_bytes_c46 (f_p1_pipeLitres x2.toNatClampNeg) _ hw) (my_cwV 1 hts kw19_d483023 kw19_af35ba1 kw19_a9ea5a0 kw19_c117f00 kw19_7f6e5a3 rfl rfl (by decide +kernel) ⟨Nat.le_of_ble_eq_true rfl, Nat.le_of_ble_eq_true rfl⟩) ⟨fun a U g mk q => by obtain ⟨q0, q1, qP, qK, qD⟩ := q; exact ⟨q0, q1, qP, va_K.moved (u := U) (U := U.calling g mk a) (Vm.Alike.refl U.vm) qK, qD⟩, va_recv hK hP (ci := 6) (q0 := 0) rfl rfl, fun U hU hW => ⟨rfl, by rw [hU], by rw [hU]; exact hPc, va_K.moved hW.alike hK, hDc.weaken (fun _ _ _ _ => trivial)⟩⟩ rfl rfl hl.1 rfl (lv_room (Nat.le_of_ble_eq_true rfl)) d_Ln_setToPipe_56 ⟨Nat.zero_le _, Nat.zero_le _⟩) hS (fun q _ h => hFc q h) hFc (fun u t H locs ht hvm hw hB hz1 hk1 hS => ?_)
  obtain ⟨v_t_length_c56, f_t_bytes_c56⟩ := u
  obtain ⟨hP1, hK1, hD1⟩ := hB
  rw [ht] at hP1
  obtain ⟨hP, hD⟩ := va_join (wr := [(q_p1, .inr (1, [.int v_p1_things, .ref q_p1_kind, .ref q_p1_position, .ref q_p1_told, .ref q_p1_capacity, .ref q_p1_amount, .ref q_p1_liquid, .ref q_p1_portsTaken, .ref q_p1_endAtPort, .int v_p1_pipes, .ref q_p1_pipeLitres, .ref q_p1_thingAtEnd, .ref q_p1_portAtEnd, .ref q_p1_bendAtEnd, .ref q_p1_inPipes])), (q_p1_pipeLitres, .inl (cI, 60, .inl f_p1_pipeLitres)), (q_p1_thingAtEnd, .inl (cI, 120, .inl f_p1_thingAtEnd))]) (w1 := [(q_t, .inr (6, [.ref q_t_bytes, .int v_t_length_c56])), (q_t_bytes, .inl (cB, 15, .inl f_t_bytes_c56))]) hP hD [0, 1] [2, 3, 4] rfl rfl (by decide) (by decide) hk1 hFc hP1 hD1
  have hP : va_P (dC, dI) classes [(q_t, .inr (6, [.ref q_t_bytes, .int v_t_length_c56])), (q_t_bytes, .inl (cB, 15, .inl f_t_bytes_c56)), (q_p1, .inr (1, [.int v_p1_things, .ref q_p1_kind, .ref q_p1_position, .ref q_p1_told, .ref q_p1_capacity, .ref q_p1_amount, .ref q_p1_liquid, .ref q_p1_portsTaken, .ref q_p1_endAtPort, .int v_p1_pipes, .ref q_p1_pipeLitres, .ref q_p1_thingAtEnd, .ref q_p1_portAtEnd, .ref q_p1_bendAtEnd, .ref q_p1_inPipes])), (q_p1_pipeLitres, .inl (cI, 60, .inl f_p1_pipeLitres)), (q_p1_thingAtEnd, .inl (cI, 120, .inl f_p1_thingAtEnd))] H := hP.sub (ws' := [(q_t, .inr (6, [.ref q_t_bytes, .int v_t_length_c56])), (q_t_bytes, .inl (cB, 15, .inl f_t_bytes_c56)), (q_p1, .inr (1, [.int v_p1_things, .ref q_p1_kind, .ref q_p1_position, .ref q_p1_told, .ref q_p1_capacity, .ref q_p1_amount, .ref q_p1_liquid, .ref q_p1_portsTaken, .ref q_p1_endAtPort, .int v_p1_pipes, .ref q_p1_pipeLitres, .ref q_p1_thingAtEnd, .ref q_p1_portAtEnd, .ref q_p1_bendAtEnd, .ref q_p1_inPipes])), (q_p1_pipeLitres, .inl (cI, 60, .inl f_p1_pipeLitres)), (q_p1_thingAtEnd, .inl (cI, 120, .inl f_p1_thingAtEnd))]) [3, 4, 0, 1, 2] rfl
  have hD : va_D A [(q_t, .inr (6, [.ref q_t_bytes, .int v_t_length_c56])), (q_t_bytes, .inl (cB, 15, .inl f_t_bytes_c56)), (q_p1, .inr (1, [.int v_p1_things, .ref q_p1_kind, .ref q_p1_position, .ref q_p1_told, .ref q_p1_capacity, .ref q_p1_amount, .ref q_p1_liquid, .ref q_p1_portsTaken, .ref q_p1_endAtPort, .int v_p1_pipes, .ref q_p1_pipeLitres, .ref q_p1_thingAtEnd, .ref q_p1_portAtEnd, .ref q_p1_bendAtEnd, .ref q_p1_inPipes])), (q_p1_pipeLitres, .inl (cI, 60, .inl f_p1_pipeLitres)), (q_p1_thingAtEnd, .inl (cI, 120, .inl f_p1_thingAtEnd))] := hD.sub (ws' := [(q_t, .inr (6, [.ref q_t_bytes, .int v_t_length_c56])), (q_t_bytes, .inl (cB, 15, .inl f_t_bytes_c56)), (q_p1, .inr (1, [.int v_p1_things, .ref q_p1_kind, .ref q_p1_position, .ref q_p1_told, .ref q_p1_capacity, .ref q_p1_amount, .ref q_p1_liquid, .ref q_p1_portsTaken, .ref q_p1_endAtPort, .int v_p1_pipes, .ref q_p1_pipeLitres, .ref q_p1_thingAtEnd, .ref q_p1_portAtEnd, .ref q_p1_bendAtEnd, .ref q_p1_inPipes])), (q_p1_pipeLitres, .inl (cI, 60, .inl f_p1_pipeLitres)), (q_p1_thingAtEnd, .inl (cI, 120, .inl f_p1_thingAtEnd))]) [3, 4, 0, 1, 2] (by decide) rfl
  refine lv_aload_n hx hb d_Ln_setToPipe_59 rfl (lv_at hl 0 rfl) ?_
  refine lv_bipush (v := 10) hx hb d_Ln_setToPipe_60 (by decide) ?_
  have hPc := hP.sub (ws' := [(q_t, .inr (6, [.ref q_t_bytes, .int v_t_length_c56])), (q_t_bytes, .inl (cB, 15, .inl f_t_bytes_c56))]) [0, 1] rfl
  have hDc := hD.sub (ws' := [(q_t, .inr (6, [.ref q_t_bytes, .int v_t_length_c56])), (q_t_bytes, .inl (cB, 15, .inl f_t_bytes_c56))]) [0, 1] (by decide) rfl
  have hFc := va_free (wc := [(q_t, .inr (6, [.ref q_t_bytes, .int v_t_length_c56])), (q_t_bytes, .inl (cB, 15, .inl f_t_bytes_c56))]) hD hS hA [0, 1] rfl
  refine va_callv (va_runV (As := [.int 10]) (rest := []) ⟨hx, hb, hml, hown, hts⟩ (c_Ln_addByte l dC dI cI cL cB q_t q_t_bytes H.size v_t_length_c56 f_t_bytes_c56 10 _ hw) (my_cwV 1 hts kw19_4be27de kw19_8d69dd5 kw19_252ecb9 kw19_c117f00 kw19_7946f56 rfl rfl (by decide +kernel) ⟨Nat.le_of_ble_eq_true rfl, Nat.le_of_ble_eq_true rfl⟩) ⟨fun a U g mk q => by obtain ⟨q0, q1, qP, qK, qD⟩ := q; exact ⟨q0, q1, qP, va_K.moved (u := U) (U := U.calling g mk a) (Vm.Alike.refl U.vm) qK, qD⟩, va_recv hK hP (ci := 6) (q0 := 0) rfl rfl, fun U hU hW => ⟨rfl, by rw [hU], by rw [hU]; exact hPc, va_K.moved hW.alike hK, hDc.weaken (fun _ _ _ _ => trivial)⟩⟩ rfl rfl hl.1 rfl (lv_room (Nat.le_of_ble_eq_true rfl)) d_Ln_setToPipe_62 ⟨Nat.zero_le _, Nat.zero_le _⟩) hS (fun q _ h => hFc q h) hFc (fun u t H locs ht hvm hw hB hz1 hk1 hS => ?_)
  obtain ⟨v_t_length_c62, f_t_bytes_c62⟩ := u
  obtain ⟨hP1, hK1, hD1⟩ := hB
  rw [ht] at hP1
  obtain ⟨hP, hD⟩ := va_join (wr := [(q_p1, .inr (1, [.int v_p1_things, .ref q_p1_kind, .ref q_p1_position, .ref q_p1_told, .ref q_p1_capacity, .ref q_p1_amount, .ref q_p1_liquid, .ref q_p1_portsTaken, .ref q_p1_endAtPort, .int v_p1_pipes, .ref q_p1_pipeLitres, .ref q_p1_thingAtEnd, .ref q_p1_portAtEnd, .ref q_p1_bendAtEnd, .ref q_p1_inPipes])), (q_p1_pipeLitres, .inl (cI, 60, .inl f_p1_pipeLitres)), (q_p1_thingAtEnd, .inl (cI, 120, .inl f_p1_thingAtEnd))]) (w1 := [(q_t, .inr (6, [.ref q_t_bytes, .int v_t_length_c62])), (q_t_bytes, .inl (cB, 15, .inl f_t_bytes_c62))]) hP hD [0, 1] [2, 3, 4] rfl rfl (by decide) (by decide) hk1 hFc hP1 hD1
  have hP : va_P (dC, dI) classes [(q_t, .inr (6, [.ref q_t_bytes, .int v_t_length_c62])), (q_t_bytes, .inl (cB, 15, .inl f_t_bytes_c62)), (q_p1, .inr (1, [.int v_p1_things, .ref q_p1_kind, .ref q_p1_position, .ref q_p1_told, .ref q_p1_capacity, .ref q_p1_amount, .ref q_p1_liquid, .ref q_p1_portsTaken, .ref q_p1_endAtPort, .int v_p1_pipes, .ref q_p1_pipeLitres, .ref q_p1_thingAtEnd, .ref q_p1_portAtEnd, .ref q_p1_bendAtEnd, .ref q_p1_inPipes])), (q_p1_pipeLitres, .inl (cI, 60, .inl f_p1_pipeLitres)), (q_p1_thingAtEnd, .inl (cI, 120, .inl f_p1_thingAtEnd))] H := hP.sub (ws' := [(q_t, .inr (6, [.ref q_t_bytes, .int v_t_length_c62])), (q_t_bytes, .inl (cB, 15, .inl f_t_bytes_c62)), (q_p1, .inr (1, [.int v_p1_things, .ref q_p1_kind, .ref q_p1_position, .ref q_p1_told, .ref q_p1_capacity, .ref q_p1_amount, .ref q_p1_liquid, .ref q_p1_portsTaken, .ref q_p1_endAtPort, .int v_p1_pipes, .ref q_p1_pipeLitres, .ref q_p1_thingAtEnd, .ref q_p1_portAtEnd, .ref q_p1_bendAtEnd, .ref q_p1_inPipes])), (q_p1_pipeLitres, .inl (cI, 60, .inl f_p1_pipeLitres)), (q_p1_thingAtEnd, .inl (cI, 120, .inl f_p1_thingAtEnd))]) [3, 4, 0, 1, 2] rfl
  have hD : va_D A [(q_t, .inr (6, [.ref q_t_bytes, .int v_t_length_c62])), (q_t_bytes, .inl (cB, 15, .inl f_t_bytes_c62)), (q_p1, .inr (1, [.int v_p1_things, .ref q_p1_kind, .ref q_p1_position, .ref q_p1_told, .ref q_p1_capacity, .ref q_p1_amount, .ref q_p1_liquid, .ref q_p1_portsTaken, .ref q_p1_endAtPort, .int v_p1_pipes, .ref q_p1_pipeLitres, .ref q_p1_thingAtEnd, .ref q_p1_portAtEnd, .ref q_p1_bendAtEnd, .ref q_p1_inPipes])), (q_p1_pipeLitres, .inl (cI, 60, .inl f_p1_pipeLitres)), (q_p1_thingAtEnd, .inl (cI, 120, .inl f_p1_thingAtEnd))] := hD.sub (ws' := [(q_t, .inr (6, [.ref q_t_bytes, .int v_t_length_c62])), (q_t_bytes, .inl (cB, 15, .inl f_t_bytes_c62)), (q_p1, .inr (1, [.int v_p1_things, .ref q_p1_kind, .ref q_p1_position, .ref q_p1_told, .ref q_p1_capacity, .ref q_p1_amount, .ref q_p1_liquid, .ref q_p1_portsTaken, .ref q_p1_endAtPort, .int v_p1_pipes, .ref q_p1_pipeLitres, .ref q_p1_thingAtEnd, .ref q_p1_portAtEnd, .ref q_p1_bendAtEnd, .ref q_p1_inPipes])), (q_p1_pipeLitres, .inl (cI, 60, .inl f_p1_pipeLitres)), (q_p1_thingAtEnd, .inl (cI, 120, .inl f_p1_thingAtEnd))]) [3, 4, 0, 1, 2] (by decide) rfl
  exact W.vret hx hb hr (fun t ht hW => ⟨⟨(v_t_length_c62, f_t_bytes_c62), rfl, hw, by rw [ht]; exact hP, va_K.moved hW.alike hK, hD⟩, hS.F ht⟩) hS.2.2 d_Ln_setToPipe_65
