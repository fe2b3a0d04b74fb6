theorem dX0_init_0 : decode cX0_init 0 = .ok (.aload_n 0, 1) := by decide +kernel
theorem dX0_init_1 : decode cX0_init 1 = .ok (.invokespecial 3, 3) := by decide +kernel
theorem dX0_init_4 : decode cX0_init 4 = .ok (.aload_n 0, 1) := by decide +kernel
theorem dX0_init_5 : decode cX0_init 5 = .ok (.iconst 1, 1) := by decide +kernel
theorem dX0_init_6 : decode cX0_init 6 = .ok (.putfield 9, 3) := by decide +kernel
theorem dX0_init_9 : decode cX0_init 9 = .ok (.aload_n 0, 1) := by decide +kernel
theorem dX0_init_10 : decode cX0_init 10 = .ok (.bipush 15, 2) := by decide +kernel
theorem dX0_init_12 : decode cX0_init 12 = .ok (.newarray .int, 2) := by decide +kernel
theorem dX0_init_14 : decode cX0_init 14 = .ok (.putfield 15, 3) := by decide +kernel
theorem dX0_init_17 : decode cX0_init 17 = .ok (.aload_n 0, 1) := by decide +kernel
theorem dX0_init_18 : decode cX0_init 18 = .ok (.bipush 15, 2) := by decide +kernel
theorem dX0_init_20 : decode cX0_init 20 = .ok (.newarray .int, 2) := by decide +kernel
theorem dX0_init_22 : decode cX0_init 22 = .ok (.putfield 19, 3) := by decide +kernel
theorem dX0_init_25 : decode cX0_init 25 = .ok (.aload_n 0, 1) := by decide +kernel
theorem dX0_init_26 : decode cX0_init 26 = .ok (.bipush 15, 2) := by decide +kernel
theorem dX0_init_28 : decode cX0_init 28 = .ok (.newarray .int, 2) := by decide +kernel
theorem dX0_init_30 : decode cX0_init 30 = .ok (.putfield 22, 3) := by decide +kernel
theorem dX0_init_33 : decode cX0_init 33 = .ok (.return_, 1) := by decide +kernel
theorem dX0_readFrom_0 : decode cX0_readFrom 0 = .ok (.aload_n 0, 1) := by decide +kernel
theorem dX0_readFrom_1 : decode cX0_readFrom 1 = .ok (.iconst 0, 1) := by decide +kernel
theorem dX0_readFrom_2 : decode cX0_readFrom 2 = .ok (.putfield 25, 3) := by decide +kernel
theorem dX0_readFrom_5 : decode cX0_readFrom 5 = .ok (.iconst 0, 1) := by decide +kernel
theorem dX0_readFrom_6 : decode cX0_readFrom 6 = .ok (.istore_n 3, 1) := by decide +kernel
theorem dX0_readFrom_7 : decode cX0_readFrom 7 = .ok (.iconst 0, 1) := by decide +kernel
theorem dX0_readFrom_8 : decode cX0_readFrom 8 = .ok (.istore 4, 2) := by decide +kernel
theorem dX0_readFrom_10 : decode cX0_readFrom 10 = .ok (.iload 4, 2) := by decide +kernel
theorem dX0_readFrom_12 : decode cX0_readFrom 12 = .ok (.iload_n 2, 1) := by decide +kernel
theorem dX0_readFrom_13 : decode cX0_readFrom 13 = .ok (.if_icmp .ge 27, 3) := by decide +kernel
theorem dX0_readFrom_16 : decode cX0_readFrom 16 = .ok (.aload_n 0, 1) := by decide +kernel
theorem dX0_readFrom_17 : decode cX0_readFrom 17 = .ok (.iload_n 3, 1) := by decide +kernel
theorem dX0_readFrom_18 : decode cX0_readFrom 18 = .ok (.aload_n 1, 1) := by decide +kernel
theorem dX0_readFrom_19 : decode cX0_readFrom 19 = .ok (.iload 4, 2) := by decide +kernel
theorem dX0_readFrom_21 : decode cX0_readFrom 21 = .ok (.iaload, 1) := by decide +kernel
theorem dX0_readFrom_22 : decode cX0_readFrom 22 = .ok (.invokevirtual 28, 3) := by decide +kernel
theorem dX0_readFrom_25 : decode cX0_readFrom 25 = .ok (.istore_n 3, 1) := by decide +kernel
theorem dX0_readFrom_26 : decode cX0_readFrom 26 = .ok (.iload_n 3, 1) := by decide +kernel
theorem dX0_readFrom_27 : decode cX0_readFrom 27 = .ok (.iconst (-1), 1) := by decide +kernel
theorem dX0_readFrom_28 : decode cX0_readFrom 28 = .ok (.if_icmp .ne 6, 3) := by decide +kernel
theorem dX0_readFrom_31 : decode cX0_readFrom 31 = .ok (.iload 4, 2) := by decide +kernel
theorem dX0_readFrom_33 : decode cX0_readFrom 33 = .ok (.ireturn, 1) := by decide +kernel
theorem dX0_readFrom_34 : decode cX0_readFrom 34 = .ok (.iinc 4 1, 3) := by decide +kernel
theorem dX0_readFrom_37 : decode cX0_readFrom 37 = .ok (.goto (-27), 3) := by decide +kernel
theorem dX0_readFrom_40 : decode cX0_readFrom 40 = .ok (.iload_n 3, 1) := by decide +kernel
theorem dX0_readFrom_41 : decode cX0_readFrom 41 = .ok (.bipush 8, 2) := by decide +kernel
theorem dX0_readFrom_43 : decode cX0_readFrom 43 = .ok (.if_icmp .ne 7, 3) := by decide +kernel
theorem dX0_readFrom_46 : decode cX0_readFrom 46 = .ok (.iconst (-1), 1) := by decide +kernel
theorem dX0_readFrom_47 : decode cX0_readFrom 47 = .ok (.goto 4, 3) := by decide +kernel
theorem dX0_readFrom_50 : decode cX0_readFrom 50 = .ok (.iload_n 2, 1) := by decide +kernel
theorem dX0_readFrom_51 : decode cX0_readFrom 51 = .ok (.ireturn, 1) := by decide +kernel
theorem dX0_stateAfter_0 : decode cX0_stateAfter 0 = .ok (.iload_n 1, 1) := by decide +kernel
theorem dX0_stateAfter_1 : decode cX0_stateAfter 1 = .ok (.tableswitch 123 0 7 #[47, 64, 70, 76, 82, 88, 111, 117], 47) := by decide +kernel
theorem dX0_stateAfter_48 : decode cX0_stateAfter 48 = .ok (.iload_n 2, 1) := by decide +kernel
theorem dX0_stateAfter_49 : decode cX0_stateAfter 49 = .ok (.bipush 58, 2) := by decide +kernel
theorem dX0_stateAfter_51 : decode cX0_stateAfter 51 = .ok (.if_icmp .ne 8, 3) := by decide +kernel
theorem dX0_stateAfter_54 : decode cX0_stateAfter 54 = .ok (.bipush 6, 2) := by decide +kernel
theorem dX0_stateAfter_56 : decode cX0_stateAfter 56 = .ok (.goto 8, 3) := by decide +kernel
theorem dX0_stateAfter_59 : decode cX0_stateAfter 59 = .ok (.aload_n 0, 1) := by decide +kernel
theorem dX0_stateAfter_60 : decode cX0_stateAfter 60 = .ok (.iload_n 2, 1) := by decide +kernel
theorem dX0_stateAfter_61 : decode cX0_stateAfter 61 = .ok (.invokevirtual 32, 3) := by decide +kernel
theorem dX0_stateAfter_64 : decode cX0_stateAfter 64 = .ok (.ireturn, 1) := by decide +kernel
theorem dX0_stateAfter_65 : decode cX0_stateAfter 65 = .ok (.aload_n 0, 1) := by decide +kernel
theorem dX0_stateAfter_66 : decode cX0_stateAfter 66 = .ok (.iload_n 2, 1) := by decide +kernel
theorem dX0_stateAfter_67 : decode cX0_stateAfter 67 = .ok (.invokevirtual 32, 3) := by decide +kernel
theorem dX0_stateAfter_70 : decode cX0_stateAfter 70 = .ok (.ireturn, 1) := by decide +kernel
theorem dX0_stateAfter_71 : decode cX0_stateAfter 71 = .ok (.aload_n 0, 1) := by decide +kernel
theorem dX0_stateAfter_72 : decode cX0_stateAfter 72 = .ok (.iload_n 2, 1) := by decide +kernel
theorem dX0_stateAfter_73 : decode cX0_stateAfter 73 = .ok (.invokevirtual 36, 3) := by decide +kernel
theorem dX0_stateAfter_76 : decode cX0_stateAfter 76 = .ok (.ireturn, 1) := by decide +kernel
theorem dX0_stateAfter_77 : decode cX0_stateAfter 77 = .ok (.aload_n 0, 1) := by decide +kernel
theorem dX0_stateAfter_78 : decode cX0_stateAfter 78 = .ok (.iload_n 2, 1) := by decide +kernel
theorem dX0_stateAfter_79 : decode cX0_stateAfter 79 = .ok (.invokevirtual 39, 3) := by decide +kernel
theorem dX0_stateAfter_82 : decode cX0_stateAfter 82 = .ok (.ireturn, 1) := by decide +kernel
theorem dX0_stateAfter_83 : decode cX0_stateAfter 83 = .ok (.aload_n 0, 1) := by decide +kernel
theorem dX0_stateAfter_84 : decode cX0_stateAfter 84 = .ok (.iload_n 2, 1) := by decide +kernel
theorem dX0_stateAfter_85 : decode cX0_stateAfter 85 = .ok (.invokevirtual 42, 3) := by decide +kernel
theorem dX0_stateAfter_88 : decode cX0_stateAfter 88 = .ok (.ireturn, 1) := by decide +kernel
theorem dX0_stateAfter_89 : decode cX0_stateAfter 89 = .ok (.iload_n 2, 1) := by decide +kernel
theorem dX0_stateAfter_90 : decode cX0_stateAfter 90 = .ok (.bipush 38, 2) := by decide +kernel
theorem dX0_stateAfter_92 : decode cX0_stateAfter 92 = .ok (.if_icmp .ne 7, 3) := by decide +kernel
theorem dX0_stateAfter_95 : decode cX0_stateAfter 95 = .ok (.iconst 1, 1) := by decide +kernel
theorem dX0_stateAfter_96 : decode cX0_stateAfter 96 = .ok (.goto 15, 3) := by decide +kernel
theorem dX0_stateAfter_99 : decode cX0_stateAfter 99 = .ok (.iload_n 2, 1) := by decide +kernel
theorem dX0_stateAfter_100 : decode cX0_stateAfter 100 = .ok (.bipush 58, 2) := by decide +kernel
theorem dX0_stateAfter_102 : decode cX0_stateAfter 102 = .ok (.if_icmp .ne 8, 3) := by decide +kernel
theorem dX0_stateAfter_105 : decode cX0_stateAfter 105 = .ok (.bipush 6, 2) := by decide +kernel
theorem dX0_stateAfter_107 : decode cX0_stateAfter 107 = .ok (.goto 4, 3) := by decide +kernel
theorem dX0_stateAfter_110 : decode cX0_stateAfter 110 = .ok (.iconst (-1), 1) := by decide +kernel
theorem dX0_stateAfter_111 : decode cX0_stateAfter 111 = .ok (.ireturn, 1) := by decide +kernel
theorem dX0_stateAfter_112 : decode cX0_stateAfter 112 = .ok (.aload_n 0, 1) := by decide +kernel
theorem dX0_stateAfter_113 : decode cX0_stateAfter 113 = .ok (.iload_n 2, 1) := by decide +kernel
theorem dX0_stateAfter_114 : decode cX0_stateAfter 114 = .ok (.invokevirtual 45, 3) := by decide +kernel
theorem dX0_stateAfter_117 : decode cX0_stateAfter 117 = .ok (.ireturn, 1) := by decide +kernel
theorem dX0_stateAfter_118 : decode cX0_stateAfter 118 = .ok (.aload_n 0, 1) := by decide +kernel
theorem dX0_stateAfter_119 : decode cX0_stateAfter 119 = .ok (.iload_n 2, 1) := by decide +kernel
theorem dX0_stateAfter_120 : decode cX0_stateAfter 120 = .ok (.invokevirtual 48, 3) := by decide +kernel
theorem dX0_stateAfter_123 : decode cX0_stateAfter 123 = .ok (.ireturn, 1) := by decide +kernel
theorem dX0_stateAfter_124 : decode cX0_stateAfter 124 = .ok (.iconst (-1), 1) := by decide +kernel
theorem dX0_stateAfter_125 : decode cX0_stateAfter 125 = .ok (.ireturn, 1) := by decide +kernel
theorem dX0_readField_0 : decode cX0_readField 0 = .ok (.iload_n 1, 1) := by decide +kernel
theorem dX0_readField_1 : decode cX0_readField 1 = .ok (.bipush 48, 2) := by decide +kernel
theorem dX0_readField_3 : decode cX0_readField 3 = .ok (.bipush 51, 2) := by decide +kernel
theorem dX0_readField_5 : decode cX0_readField 5 = .ok (.invokestatic 51, 3) := by decide +kernel
theorem dX0_readField_8 : decode cX0_readField 8 = .ok (.ifCond .eq 12, 3) := by decide +kernel
theorem dX0_readField_11 : decode cX0_readField 11 = .ok (.aload_n 0, 1) := by decide +kernel
theorem dX0_readField_12 : decode cX0_readField 12 = .ok (.getfield 25, 3) := by decide +kernel
theorem dX0_readField_15 : decode cX0_readField 15 = .ok (.bipush 15, 2) := by decide +kernel
theorem dX0_readField_17 : decode cX0_readField 17 = .ok (.if_icmp .lt 5, 3) := by decide +kernel
theorem dX0_readField_20 : decode cX0_readField 20 = .ok (.iconst (-1), 1) := by decide +kernel
theorem dX0_readField_21 : decode cX0_readField 21 = .ok (.ireturn, 1) := by decide +kernel
theorem dX0_readField_22 : decode cX0_readField 22 = .ok (.aload_n 0, 1) := by decide +kernel
theorem dX0_readField_23 : decode cX0_readField 23 = .ok (.getfield 15, 3) := by decide +kernel
theorem dX0_readField_26 : decode cX0_readField 26 = .ok (.aload_n 0, 1) := by decide +kernel
theorem dX0_readField_27 : decode cX0_readField 27 = .ok (.getfield 25, 3) := by decide +kernel
theorem dX0_readField_30 : decode cX0_readField 30 = .ok (.iload_n 1, 1) := by decide +kernel
theorem dX0_readField_31 : decode cX0_readField 31 = .ok (.bipush 48, 2) := by decide +kernel
theorem dX0_readField_33 : decode cX0_readField 33 = .ok (.isub, 1) := by decide +kernel
theorem dX0_readField_34 : decode cX0_readField 34 = .ok (.iastore, 1) := by decide +kernel
theorem dX0_readField_35 : decode cX0_readField 35 = .ok (.iconst 2, 1) := by decide +kernel
theorem dX0_readField_36 : decode cX0_readField 36 = .ok (.ireturn, 1) := by decide +kernel
theorem dX0_readSign_0 : decode cX0_readSign 0 = .ok (.iload_n 1, 1) := by decide +kernel
theorem dX0_readSign_1 : decode cX0_readSign 1 = .ok (.bipush 61, 2) := by decide +kernel
theorem dX0_readSign_3 : decode cX0_readSign 3 = .ok (.if_icmp .eq 17, 3) := by decide +kernel
theorem dX0_readSign_6 : decode cX0_readSign 6 = .ok (.iload_n 1, 1) := by decide +kernel
theorem dX0_readSign_7 : decode cX0_readSign 7 = .ok (.bipush 60, 2) := by decide +kernel
theorem dX0_readSign_9 : decode cX0_readSign 9 = .ok (.if_icmp .eq 11, 3) := by decide +kernel
theorem dX0_readSign_12 : decode cX0_readSign 12 = .ok (.iload_n 1, 1) := by decide +kernel
theorem dX0_readSign_13 : decode cX0_readSign 13 = .ok (.bipush 62, 2) := by decide +kernel
theorem dX0_readSign_15 : decode cX0_readSign 15 = .ok (.if_icmp .eq 5, 3) := by decide +kernel
theorem dX0_readSign_18 : decode cX0_readSign 18 = .ok (.iconst (-1), 1) := by decide +kernel
theorem dX0_readSign_19 : decode cX0_readSign 19 = .ok (.ireturn, 1) := by decide +kernel
theorem dX0_readSign_20 : decode cX0_readSign 20 = .ok (.aload_n 0, 1) := by decide +kernel
theorem dX0_readSign_21 : decode cX0_readSign 21 = .ok (.getfield 19, 3) := by decide +kernel
theorem dX0_readSign_24 : decode cX0_readSign 24 = .ok (.aload_n 0, 1) := by decide +kernel
theorem dX0_readSign_25 : decode cX0_readSign 25 = .ok (.getfield 25, 3) := by decide +kernel
theorem dX0_readSign_28 : decode cX0_readSign 28 = .ok (.iload_n 1, 1) := by decide +kernel
theorem dX0_readSign_29 : decode cX0_readSign 29 = .ok (.iastore, 1) := by decide +kernel
theorem dX0_readSign_30 : decode cX0_readSign 30 = .ok (.iconst 3, 1) := by decide +kernel
theorem dX0_readSign_31 : decode cX0_readSign 31 = .ok (.ireturn, 1) := by decide +kernel
theorem dX0_readValue_0 : decode cX0_readValue 0 = .ok (.iload_n 1, 1) := by decide +kernel
theorem dX0_readValue_1 : decode cX0_readValue 1 = .ok (.bipush 48, 2) := by decide +kernel
theorem dX0_readValue_3 : decode cX0_readValue 3 = .ok (.bipush 57, 2) := by decide +kernel
theorem dX0_readValue_5 : decode cX0_readValue 5 = .ok (.invokestatic 51, 3) := by decide +kernel
theorem dX0_readValue_8 : decode cX0_readValue 8 = .ok (.ifCond .eq 21, 3) := by decide +kernel
theorem dX0_readValue_11 : decode cX0_readValue 11 = .ok (.aload_n 0, 1) := by decide +kernel
theorem dX0_readValue_12 : decode cX0_readValue 12 = .ok (.getfield 22, 3) := by decide +kernel
theorem dX0_readValue_15 : decode cX0_readValue 15 = .ok (.aload_n 0, 1) := by decide +kernel
theorem dX0_readValue_16 : decode cX0_readValue 16 = .ok (.getfield 25, 3) := by decide +kernel
theorem dX0_readValue_19 : decode cX0_readValue 19 = .ok (.iload_n 1, 1) := by decide +kernel
theorem dX0_readValue_20 : decode cX0_readValue 20 = .ok (.bipush 48, 2) := by decide +kernel
theorem dX0_readValue_22 : decode cX0_readValue 22 = .ok (.isub, 1) := by decide +kernel
theorem dX0_readValue_23 : decode cX0_readValue 23 = .ok (.bipush 10, 2) := by decide +kernel
theorem dX0_readValue_25 : decode cX0_readValue 25 = .ok (.imul, 1) := by decide +kernel
theorem dX0_readValue_26 : decode cX0_readValue 26 = .ok (.iastore, 1) := by decide +kernel
theorem dX0_readValue_27 : decode cX0_readValue 27 = .ok (.iconst 4, 1) := by decide +kernel
theorem dX0_readValue_28 : decode cX0_readValue 28 = .ok (.ireturn, 1) := by decide +kernel
theorem dX0_readValue_29 : decode cX0_readValue 29 = .ok (.iload_n 1, 1) := by decide +kernel
theorem dX0_readValue_30 : decode cX0_readValue 30 = .ok (.bipush 97, 2) := by decide +kernel
theorem dX0_readValue_32 : decode cX0_readValue 32 = .ok (.if_icmp .eq 11, 3) := by decide +kernel
theorem dX0_readValue_35 : decode cX0_readValue 35 = .ok (.iload_n 1, 1) := by decide +kernel
theorem dX0_readValue_36 : decode cX0_readValue 36 = .ok (.bipush 98, 2) := by decide +kernel
theorem dX0_readValue_38 : decode cX0_readValue 38 = .ok (.if_icmp .eq 5, 3) := by decide +kernel
theorem dX0_readValue_41 : decode cX0_readValue 41 = .ok (.iconst (-1), 1) := by decide +kernel
theorem dX0_readValue_42 : decode cX0_readValue 42 = .ok (.ireturn, 1) := by decide +kernel
theorem dX0_readValue_43 : decode cX0_readValue 43 = .ok (.aload_n 0, 1) := by decide +kernel
theorem dX0_readValue_44 : decode cX0_readValue 44 = .ok (.getfield 22, 3) := by decide +kernel
theorem dX0_readValue_47 : decode cX0_readValue 47 = .ok (.aload_n 0, 1) := by decide +kernel
theorem dX0_readValue_48 : decode cX0_readValue 48 = .ok (.getfield 25, 3) := by decide +kernel
theorem dX0_readValue_51 : decode cX0_readValue 51 = .ok (.iload_n 1, 1) := by decide +kernel
theorem dX0_readValue_52 : decode cX0_readValue 52 = .ok (.bipush 97, 2) := by decide +kernel
theorem dX0_readValue_54 : decode cX0_readValue 54 = .ok (.if_icmp .ne 8, 3) := by decide +kernel
theorem dX0_readValue_57 : decode cX0_readValue 57 = .ok (.bipush 100, 2) := by decide +kernel
theorem dX0_readValue_59 : decode cX0_readValue 59 = .ok (.goto 5, 3) := by decide +kernel
theorem dX0_readValue_62 : decode cX0_readValue 62 = .ok (.bipush 101, 2) := by decide +kernel
theorem dX0_readValue_64 : decode cX0_readValue 64 = .ok (.iastore, 1) := by decide +kernel
theorem dX0_readValue_65 : decode cX0_readValue 65 = .ok (.aload_n 0, 1) := by decide +kernel
theorem dX0_readValue_66 : decode cX0_readValue 66 = .ok (.dup, 1) := by decide +kernel
theorem dX0_readValue_67 : decode cX0_readValue 67 = .ok (.getfield 25, 3) := by decide +kernel
theorem dX0_readValue_70 : decode cX0_readValue 70 = .ok (.iconst 1, 1) := by decide +kernel
theorem dX0_readValue_71 : decode cX0_readValue 71 = .ok (.iadd, 1) := by decide +kernel
theorem dX0_readValue_72 : decode cX0_readValue 72 = .ok (.putfield 25, 3) := by decide +kernel
theorem dX0_readValue_75 : decode cX0_readValue 75 = .ok (.iconst 5, 1) := by decide +kernel
theorem dX0_readValue_76 : decode cX0_readValue 76 = .ok (.ireturn, 1) := by decide +kernel
theorem dX0_readDigit_0 : decode cX0_readDigit 0 = .ok (.iload_n 1, 1) := by decide +kernel
theorem dX0_readDigit_1 : decode cX0_readDigit 1 = .ok (.bipush 48, 2) := by decide +kernel
theorem dX0_readDigit_3 : decode cX0_readDigit 3 = .ok (.bipush 57, 2) := by decide +kernel
theorem dX0_readDigit_5 : decode cX0_readDigit 5 = .ok (.invokestatic 51, 3) := by decide +kernel
theorem dX0_readDigit_8 : decode cX0_readDigit 8 = .ok (.ifCond .ne 5, 3) := by decide +kernel
theorem dX0_readDigit_11 : decode cX0_readDigit 11 = .ok (.iconst (-1), 1) := by decide +kernel
theorem dX0_readDigit_12 : decode cX0_readDigit 12 = .ok (.ireturn, 1) := by decide +kernel
theorem dX0_readDigit_13 : decode cX0_readDigit 13 = .ok (.aload_n 0, 1) := by decide +kernel
theorem dX0_readDigit_14 : decode cX0_readDigit 14 = .ok (.getfield 22, 3) := by decide +kernel
theorem dX0_readDigit_17 : decode cX0_readDigit 17 = .ok (.aload_n 0, 1) := by decide +kernel
theorem dX0_readDigit_18 : decode cX0_readDigit 18 = .ok (.getfield 25, 3) := by decide +kernel
theorem dX0_readDigit_21 : decode cX0_readDigit 21 = .ok (.dup2, 1) := by decide +kernel
theorem dX0_readDigit_22 : decode cX0_readDigit 22 = .ok (.iaload, 1) := by decide +kernel
theorem dX0_readDigit_23 : decode cX0_readDigit 23 = .ok (.iload_n 1, 1) := by decide +kernel
theorem dX0_readDigit_24 : decode cX0_readDigit 24 = .ok (.bipush 48, 2) := by decide +kernel
theorem dX0_readDigit_26 : decode cX0_readDigit 26 = .ok (.isub, 1) := by decide +kernel
theorem dX0_readDigit_27 : decode cX0_readDigit 27 = .ok (.iadd, 1) := by decide +kernel
theorem dX0_readDigit_28 : decode cX0_readDigit 28 = .ok (.iastore, 1) := by decide +kernel
theorem dX0_readDigit_29 : decode cX0_readDigit 29 = .ok (.aload_n 0, 1) := by decide +kernel
theorem dX0_readDigit_30 : decode cX0_readDigit 30 = .ok (.dup, 1) := by decide +kernel
theorem dX0_readDigit_31 : decode cX0_readDigit 31 = .ok (.getfield 25, 3) := by decide +kernel
theorem dX0_readDigit_34 : decode cX0_readDigit 34 = .ok (.iconst 1, 1) := by decide +kernel
theorem dX0_readDigit_35 : decode cX0_readDigit 35 = .ok (.iadd, 1) := by decide +kernel
theorem dX0_readDigit_36 : decode cX0_readDigit 36 = .ok (.putfield 25, 3) := by decide +kernel
theorem dX0_readDigit_39 : decode cX0_readDigit 39 = .ok (.iconst 5, 1) := by decide +kernel
theorem dX0_readDigit_40 : decode cX0_readDigit 40 = .ok (.ireturn, 1) := by decide +kernel
theorem dX0_readOutcome_0 : decode cX0_readOutcome 0 = .ok (.aload_n 0, 1) := by decide +kernel
theorem dX0_readOutcome_1 : decode cX0_readOutcome 1 = .ok (.iload_n 1, 1) := by decide +kernel
theorem dX0_readOutcome_2 : decode cX0_readOutcome 2 = .ok (.putfield 55, 3) := by decide +kernel
theorem dX0_readOutcome_5 : decode cX0_readOutcome 5 = .ok (.iload_n 1, 1) := by decide +kernel
theorem dX0_readOutcome_6 : decode cX0_readOutcome 6 = .ok (.bipush 110, 2) := by decide +kernel
theorem dX0_readOutcome_8 : decode cX0_readOutcome 8 = .ok (.if_icmp .ne 6, 3) := by decide +kernel
theorem dX0_readOutcome_11 : decode cX0_readOutcome 11 = .ok (.bipush 8, 2) := by decide +kernel
theorem dX0_readOutcome_13 : decode cX0_readOutcome 13 = .ok (.ireturn, 1) := by decide +kernel
theorem dX0_readOutcome_14 : decode cX0_readOutcome 14 = .ok (.iload_n 1, 1) := by decide +kernel
theorem dX0_readOutcome_15 : decode cX0_readOutcome 15 = .ok (.bipush 109, 2) := by decide +kernel
theorem dX0_readOutcome_17 : decode cX0_readOutcome 17 = .ok (.if_icmp .eq 15, 3) := by decide +kernel
theorem dX0_readOutcome_20 : decode cX0_readOutcome 20 = .ok (.iload_n 1, 1) := by decide +kernel
theorem dX0_readOutcome_21 : decode cX0_readOutcome 21 = .ok (.bipush 120, 2) := by decide +kernel
theorem dX0_readOutcome_23 : decode cX0_readOutcome 23 = .ok (.if_icmp .eq 9, 3) := by decide +kernel
theorem dX0_readOutcome_26 : decode cX0_readOutcome 26 = .ok (.iload_n 1, 1) := by decide +kernel
theorem dX0_readOutcome_27 : decode cX0_readOutcome 27 = .ok (.bipush 115, 2) := by decide +kernel
theorem dX0_readOutcome_29 : decode cX0_readOutcome 29 = .ok (.if_icmp .ne 8, 3) := by decide +kernel
theorem dX0_readOutcome_32 : decode cX0_readOutcome 32 = .ok (.bipush 7, 2) := by decide +kernel
theorem dX0_readOutcome_34 : decode cX0_readOutcome 34 = .ok (.goto 4, 3) := by decide +kernel
theorem dX0_readOutcome_37 : decode cX0_readOutcome 37 = .ok (.iconst (-1), 1) := by decide +kernel
theorem dX0_readOutcome_38 : decode cX0_readOutcome 38 = .ok (.ireturn, 1) := by decide +kernel
theorem dX0_readOutField_0 : decode cX0_readOutField 0 = .ok (.iload_n 1, 1) := by decide +kernel
theorem dX0_readOutField_1 : decode cX0_readOutField 1 = .ok (.bipush 48, 2) := by decide +kernel
theorem dX0_readOutField_3 : decode cX0_readOutField 3 = .ok (.bipush 51, 2) := by decide +kernel
theorem dX0_readOutField_5 : decode cX0_readOutField 5 = .ok (.invokestatic 51, 3) := by decide +kernel
theorem dX0_readOutField_8 : decode cX0_readOutField 8 = .ok (.ifCond .ne 5, 3) := by decide +kernel
theorem dX0_readOutField_11 : decode cX0_readOutField 11 = .ok (.iconst (-1), 1) := by decide +kernel
theorem dX0_readOutField_12 : decode cX0_readOutField 12 = .ok (.ireturn, 1) := by decide +kernel
theorem dX0_readOutField_13 : decode cX0_readOutField 13 = .ok (.aload_n 0, 1) := by decide +kernel
theorem dX0_readOutField_14 : decode cX0_readOutField 14 = .ok (.iload_n 1, 1) := by decide +kernel
theorem dX0_readOutField_15 : decode cX0_readOutField 15 = .ok (.bipush 48, 2) := by decide +kernel
theorem dX0_readOutField_17 : decode cX0_readOutField 17 = .ok (.isub, 1) := by decide +kernel
theorem dX0_readOutField_18 : decode cX0_readOutField 18 = .ok (.putfield 58, 3) := by decide +kernel
theorem dX0_readOutField_21 : decode cX0_readOutField 21 = .ok (.bipush 8, 2) := by decide +kernel
theorem dX0_readOutField_23 : decode cX0_readOutField 23 = .ok (.ireturn, 1) := by decide +kernel
theorem dX0_begin_0 : decode cX0_begin 0 = .ok (.aload_n 0, 1) := by decide +kernel
theorem dX0_begin_1 : decode cX0_begin 1 = .ok (.iload_n 1, 1) := by decide +kernel
theorem dX0_begin_2 : decode cX0_begin 2 = .ok (.putfield 61, 3) := by decide +kernel
theorem dX0_begin_5 : decode cX0_begin 5 = .ok (.aload_n 0, 1) := by decide +kernel
theorem dX0_begin_6 : decode cX0_begin 6 = .ok (.iload_n 2, 1) := by decide +kernel
theorem dX0_begin_7 : decode cX0_begin 7 = .ok (.putfield 64, 3) := by decide +kernel
theorem dX0_begin_10 : decode cX0_begin 10 = .ok (.aload_n 0, 1) := by decide +kernel
theorem dX0_begin_11 : decode cX0_begin 11 = .ok (.iconst 0, 1) := by decide +kernel
theorem dX0_begin_12 : decode cX0_begin 12 = .ok (.putfield 67, 3) := by decide +kernel
theorem dX0_begin_15 : decode cX0_begin 15 = .ok (.aload_n 0, 1) := by decide +kernel
theorem dX0_begin_16 : decode cX0_begin 16 = .ok (.iconst 0, 1) := by decide +kernel
theorem dX0_begin_17 : decode cX0_begin 17 = .ok (.putfield 70, 3) := by decide +kernel
theorem dX0_begin_20 : decode cX0_begin 20 = .ok (.aload_n 0, 1) := by decide +kernel
theorem dX0_begin_21 : decode cX0_begin 21 = .ok (.iconst (-1), 1) := by decide +kernel
theorem dX0_begin_22 : decode cX0_begin 22 = .ok (.putfield 73, 3) := by decide +kernel
theorem dX0_begin_25 : decode cX0_begin 25 = .ok (.aload_n 0, 1) := by decide +kernel
theorem dX0_begin_26 : decode cX0_begin 26 = .ok (.iconst 0, 1) := by decide +kernel
theorem dX0_begin_27 : decode cX0_begin 27 = .ok (.putfield 76, 3) := by decide +kernel
theorem dX0_begin_30 : decode cX0_begin 30 = .ok (.return_, 1) := by decide +kernel
theorem dX0_see_0 : decode cX0_see 0 = .ok (.iconst 0, 1) := by decide +kernel
theorem dX0_see_1 : decode cX0_see 1 = .ok (.istore_n 3, 1) := by decide +kernel
theorem dX0_see_2 : decode cX0_see 2 = .ok (.iload_n 3, 1) := by decide +kernel
theorem dX0_see_3 : decode cX0_see 3 = .ok (.aload_n 0, 1) := by decide +kernel
theorem dX0_see_4 : decode cX0_see 4 = .ok (.getfield 25, 3) := by decide +kernel
theorem dX0_see_7 : decode cX0_see 7 = .ok (.if_icmp .ge 29, 3) := by decide +kernel
theorem dX0_see_10 : decode cX0_see 10 = .ok (.aload_n 0, 1) := by decide +kernel
theorem dX0_see_11 : decode cX0_see 11 = .ok (.iload_n 3, 1) := by decide +kernel
theorem dX0_see_12 : decode cX0_see 12 = .ok (.aload_n 1, 1) := by decide +kernel
theorem dX0_see_13 : decode cX0_see 13 = .ok (.iload_n 2, 1) := by decide +kernel
theorem dX0_see_14 : decode cX0_see 14 = .ok (.aload_n 0, 1) := by decide +kernel
theorem dX0_see_15 : decode cX0_see 15 = .ok (.getfield 15, 3) := by decide +kernel
theorem dX0_see_18 : decode cX0_see 18 = .ok (.iload_n 3, 1) := by decide +kernel
theorem dX0_see_19 : decode cX0_see 19 = .ok (.iaload, 1) := by decide +kernel
theorem dX0_see_20 : decode cX0_see 20 = .ok (.invokevirtual 79, 3) := by decide +kernel
theorem dX0_see_23 : decode cX0_see 23 = .ok (.invokevirtual 84, 3) := by decide +kernel
theorem dX0_see_26 : decode cX0_see 26 = .ok (.ifCond .ne 4, 3) := by decide +kernel
theorem dX0_see_29 : decode cX0_see 29 = .ok (.return_, 1) := by decide +kernel
theorem dX0_see_30 : decode cX0_see 30 = .ok (.iinc 3 1, 3) := by decide +kernel
theorem dX0_see_33 : decode cX0_see 33 = .ok (.goto (-31), 3) := by decide +kernel
theorem dX0_see_36 : decode cX0_see 36 = .ok (.aload_n 1, 1) := by decide +kernel
theorem dX0_see_37 : decode cX0_see 37 = .ok (.iload_n 2, 1) := by decide +kernel
theorem dX0_see_38 : decode cX0_see 38 = .ok (.aload_n 0, 1) := by decide +kernel
theorem dX0_see_39 : decode cX0_see 39 = .ok (.getfield 58, 3) := by decide +kernel
theorem dX0_see_42 : decode cX0_see 42 = .ok (.invokevirtual 79, 3) := by decide +kernel
theorem dX0_see_45 : decode cX0_see 45 = .ok (.istore_n 3, 1) := by decide +kernel
theorem dX0_see_46 : decode cX0_see 46 = .ok (.aload_n 0, 1) := by decide +kernel
theorem dX0_see_47 : decode cX0_see 47 = .ok (.dup, 1) := by decide +kernel
theorem dX0_see_48 : decode cX0_see 48 = .ok (.getfield 67, 3) := by decide +kernel
theorem dX0_see_51 : decode cX0_see 51 = .ok (.iconst 1, 1) := by decide +kernel
theorem dX0_see_52 : decode cX0_see 52 = .ok (.iadd, 1) := by decide +kernel
theorem dX0_see_53 : decode cX0_see 53 = .ok (.putfield 67, 3) := by decide +kernel
theorem dX0_see_56 : decode cX0_see 56 = .ok (.aload_n 0, 1) := by decide +kernel
theorem dX0_see_57 : decode cX0_see 57 = .ok (.dup, 1) := by decide +kernel
theorem dX0_see_58 : decode cX0_see 58 = .ok (.getfield 70, 3) := by decide +kernel
theorem dX0_see_61 : decode cX0_see 61 = .ok (.iload_n 3, 1) := by decide +kernel
theorem dX0_see_62 : decode cX0_see 62 = .ok (.iadd, 1) := by decide +kernel
theorem dX0_see_63 : decode cX0_see 63 = .ok (.putfield 70, 3) := by decide +kernel
theorem dX0_see_66 : decode cX0_see 66 = .ok (.aload_n 0, 1) := by decide +kernel
theorem dX0_see_67 : decode cX0_see 67 = .ok (.getfield 73, 3) := by decide +kernel
theorem dX0_see_70 : decode cX0_see 70 = .ok (.iconst (-1), 1) := by decide +kernel
theorem dX0_see_71 : decode cX0_see 71 = .ok (.if_icmp .eq 12, 3) := by decide +kernel
theorem dX0_see_74 : decode cX0_see 74 = .ok (.aload_n 0, 1) := by decide +kernel
theorem dX0_see_75 : decode cX0_see 75 = .ok (.iload_n 3, 1) := by decide +kernel
theorem dX0_see_76 : decode cX0_see 76 = .ok (.iload_n 2, 1) := by decide +kernel
theorem dX0_see_77 : decode cX0_see 77 = .ok (.invokevirtual 88, 3) := by decide +kernel
theorem dX0_see_80 : decode cX0_see 80 = .ok (.ifCond .eq 13, 3) := by decide +kernel
theorem dX0_see_83 : decode cX0_see 83 = .ok (.aload_n 0, 1) := by decide +kernel
theorem dX0_see_84 : decode cX0_see 84 = .ok (.iload_n 2, 1) := by decide +kernel
theorem dX0_see_85 : decode cX0_see 85 = .ok (.putfield 73, 3) := by decide +kernel
theorem dX0_see_88 : decode cX0_see 88 = .ok (.aload_n 0, 1) := by decide +kernel
theorem dX0_see_89 : decode cX0_see 89 = .ok (.iload_n 3, 1) := by decide +kernel
theorem dX0_see_90 : decode cX0_see 90 = .ok (.putfield 76, 3) := by decide +kernel
theorem dX0_see_93 : decode cX0_see 93 = .ok (.return_, 1) := by decide +kernel
theorem dX0_holds_0 : decode cX0_holds 0 = .ok (.aload_n 0, 1) := by decide +kernel
theorem dX0_holds_1 : decode cX0_holds 1 = .ok (.getfield 19, 3) := by decide +kernel
theorem dX0_holds_4 : decode cX0_holds 4 = .ok (.iload_n 1, 1) := by decide +kernel
theorem dX0_holds_5 : decode cX0_holds 5 = .ok (.iaload, 1) := by decide +kernel
theorem dX0_holds_6 : decode cX0_holds 6 = .ok (.lookupswitch 56 #[(60, 41), (61, 26)], 26) := by decide +kernel
theorem dX0_holds_32 : decode cX0_holds 32 = .ok (.iload_n 2, 1) := by decide +kernel
theorem dX0_holds_33 : decode cX0_holds 33 = .ok (.aload_n 0, 1) := by decide +kernel
theorem dX0_holds_34 : decode cX0_holds 34 = .ok (.iload_n 1, 1) := by decide +kernel
theorem dX0_holds_35 : decode cX0_holds 35 = .ok (.invokevirtual 91, 3) := by decide +kernel
theorem dX0_holds_38 : decode cX0_holds 38 = .ok (.if_icmp .ne 7, 3) := by decide +kernel
theorem dX0_holds_41 : decode cX0_holds 41 = .ok (.iconst 1, 1) := by decide +kernel
theorem dX0_holds_42 : decode cX0_holds 42 = .ok (.goto 4, 3) := by decide +kernel
theorem dX0_holds_45 : decode cX0_holds 45 = .ok (.iconst 0, 1) := by decide +kernel
theorem dX0_holds_46 : decode cX0_holds 46 = .ok (.ireturn, 1) := by decide +kernel
theorem dX0_holds_47 : decode cX0_holds 47 = .ok (.iload_n 2, 1) := by decide +kernel
theorem dX0_holds_48 : decode cX0_holds 48 = .ok (.aload_n 0, 1) := by decide +kernel
theorem dX0_holds_49 : decode cX0_holds 49 = .ok (.iload_n 1, 1) := by decide +kernel
theorem dX0_holds_50 : decode cX0_holds 50 = .ok (.invokevirtual 91, 3) := by decide +kernel
theorem dX0_holds_53 : decode cX0_holds 53 = .ok (.if_icmp .ge 7, 3) := by decide +kernel
theorem dX0_holds_56 : decode cX0_holds 56 = .ok (.iconst 1, 1) := by decide +kernel
theorem dX0_holds_57 : decode cX0_holds 57 = .ok (.goto 4, 3) := by decide +kernel
theorem dX0_holds_60 : decode cX0_holds 60 = .ok (.iconst 0, 1) := by decide +kernel
theorem dX0_holds_61 : decode cX0_holds 61 = .ok (.ireturn, 1) := by decide +kernel
theorem dX0_holds_62 : decode cX0_holds 62 = .ok (.iload_n 2, 1) := by decide +kernel
theorem dX0_holds_63 : decode cX0_holds 63 = .ok (.aload_n 0, 1) := by decide +kernel
theorem dX0_holds_64 : decode cX0_holds 64 = .ok (.iload_n 1, 1) := by decide +kernel
theorem dX0_holds_65 : decode cX0_holds 65 = .ok (.invokevirtual 91, 3) := by decide +kernel
theorem dX0_holds_68 : decode cX0_holds 68 = .ok (.if_icmp .le 7, 3) := by decide +kernel
theorem dX0_holds_71 : decode cX0_holds 71 = .ok (.iconst 1, 1) := by decide +kernel
theorem dX0_holds_72 : decode cX0_holds 72 = .ok (.goto 4, 3) := by decide +kernel
theorem dX0_holds_75 : decode cX0_holds 75 = .ok (.iconst 0, 1) := by decide +kernel
theorem dX0_holds_76 : decode cX0_holds 76 = .ok (.ireturn, 1) := by decide +kernel
theorem dX0_isBetter_0 : decode cX0_isBetter 0 = .ok (.iload_n 1, 1) := by decide +kernel
theorem dX0_isBetter_1 : decode cX0_isBetter 1 = .ok (.aload_n 0, 1) := by decide +kernel
theorem dX0_isBetter_2 : decode cX0_isBetter 2 = .ok (.getfield 76, 3) := by decide +kernel
theorem dX0_isBetter_5 : decode cX0_isBetter 5 = .ok (.if_icmp .ne 17, 3) := by decide +kernel
theorem dX0_isBetter_8 : decode cX0_isBetter 8 = .ok (.iload_n 2, 1) := by decide +kernel
theorem dX0_isBetter_9 : decode cX0_isBetter 9 = .ok (.aload_n 0, 1) := by decide +kernel
theorem dX0_isBetter_10 : decode cX0_isBetter 10 = .ok (.getfield 73, 3) := by decide +kernel
theorem dX0_isBetter_13 : decode cX0_isBetter 13 = .ok (.if_icmp .ge 7, 3) := by decide +kernel
theorem dX0_isBetter_16 : decode cX0_isBetter 16 = .ok (.iconst 1, 1) := by decide +kernel
theorem dX0_isBetter_17 : decode cX0_isBetter 17 = .ok (.goto 4, 3) := by decide +kernel
theorem dX0_isBetter_20 : decode cX0_isBetter 20 = .ok (.iconst 0, 1) := by decide +kernel
theorem dX0_isBetter_21 : decode cX0_isBetter 21 = .ok (.ireturn, 1) := by decide +kernel
theorem dX0_isBetter_22 : decode cX0_isBetter 22 = .ok (.aload_n 0, 1) := by decide +kernel
theorem dX0_isBetter_23 : decode cX0_isBetter 23 = .ok (.getfield 55, 3) := by decide +kernel
theorem dX0_isBetter_26 : decode cX0_isBetter 26 = .ok (.bipush 109, 2) := by decide +kernel
theorem dX0_isBetter_28 : decode cX0_isBetter 28 = .ok (.if_icmp .ne 19, 3) := by decide +kernel
theorem dX0_isBetter_31 : decode cX0_isBetter 31 = .ok (.iload_n 1, 1) := by decide +kernel
theorem dX0_isBetter_32 : decode cX0_isBetter 32 = .ok (.aload_n 0, 1) := by decide +kernel
theorem dX0_isBetter_33 : decode cX0_isBetter 33 = .ok (.getfield 76, 3) := by decide +kernel
theorem dX0_isBetter_36 : decode cX0_isBetter 36 = .ok (.if_icmp .ge 7, 3) := by decide +kernel
theorem dX0_isBetter_39 : decode cX0_isBetter 39 = .ok (.iconst 1, 1) := by decide +kernel
theorem dX0_isBetter_40 : decode cX0_isBetter 40 = .ok (.goto 20, 3) := by decide +kernel
theorem dX0_isBetter_43 : decode cX0_isBetter 43 = .ok (.iconst 0, 1) := by decide +kernel
theorem dX0_isBetter_44 : decode cX0_isBetter 44 = .ok (.goto 16, 3) := by decide +kernel
theorem dX0_isBetter_47 : decode cX0_isBetter 47 = .ok (.iload_n 1, 1) := by decide +kernel
theorem dX0_isBetter_48 : decode cX0_isBetter 48 = .ok (.aload_n 0, 1) := by decide +kernel
theorem dX0_isBetter_49 : decode cX0_isBetter 49 = .ok (.getfield 76, 3) := by decide +kernel
theorem dX0_isBetter_52 : decode cX0_isBetter 52 = .ok (.if_icmp .le 7, 3) := by decide +kernel
theorem dX0_isBetter_55 : decode cX0_isBetter 55 = .ok (.iconst 1, 1) := by decide +kernel
theorem dX0_isBetter_56 : decode cX0_isBetter 56 = .ok (.goto 4, 3) := by decide +kernel
theorem dX0_isBetter_59 : decode cX0_isBetter 59 = .ok (.iconst 0, 1) := by decide +kernel
theorem dX0_isBetter_60 : decode cX0_isBetter 60 = .ok (.ireturn, 1) := by decide +kernel
theorem dX0_result_0 : decode cX0_result 0 = .ok (.aload_n 0, 1) := by decide +kernel
theorem dX0_result_1 : decode cX0_result 1 = .ok (.getfield 55, 3) := by decide +kernel
theorem dX0_result_4 : decode cX0_result 4 = .ok (.lookupswitch 38 #[(110, 28), (115, 33)], 28) := by decide +kernel
theorem dX0_result_32 : decode cX0_result 32 = .ok (.aload_n 0, 1) := by decide +kernel
theorem dX0_result_33 : decode cX0_result 33 = .ok (.getfield 67, 3) := by decide +kernel
theorem dX0_result_36 : decode cX0_result 36 = .ok (.ireturn, 1) := by decide +kernel
theorem dX0_result_37 : decode cX0_result 37 = .ok (.aload_n 0, 1) := by decide +kernel
theorem dX0_result_38 : decode cX0_result 38 = .ok (.getfield 70, 3) := by decide +kernel
theorem dX0_result_41 : decode cX0_result 41 = .ok (.ireturn, 1) := by decide +kernel
theorem dX0_result_42 : decode cX0_result 42 = .ok (.aload_n 0, 1) := by decide +kernel
theorem dX0_result_43 : decode cX0_result 43 = .ok (.getfield 73, 3) := by decide +kernel
theorem dX0_result_46 : decode cX0_result 46 = .ok (.ireturn, 1) := by decide +kernel
theorem dX0_wanted_0 : decode cX0_wanted 0 = .ok (.aload_n 0, 1) := by decide +kernel
theorem dX0_wanted_1 : decode cX0_wanted 1 = .ok (.getfield 22, 3) := by decide +kernel
theorem dX0_wanted_4 : decode cX0_wanted 4 = .ok (.iload_n 1, 1) := by decide +kernel
theorem dX0_wanted_5 : decode cX0_wanted 5 = .ok (.iaload, 1) := by decide +kernel
theorem dX0_wanted_6 : decode cX0_wanted 6 = .ok (.bipush 100, 2) := by decide +kernel
theorem dX0_wanted_8 : decode cX0_wanted 8 = .ok (.if_icmp .ne 10, 3) := by decide +kernel
theorem dX0_wanted_11 : decode cX0_wanted 11 = .ok (.aload_n 0, 1) := by decide +kernel
theorem dX0_wanted_12 : decode cX0_wanted 12 = .ok (.getfield 61, 3) := by decide +kernel
theorem dX0_wanted_15 : decode cX0_wanted 15 = .ok (.goto 27, 3) := by decide +kernel
theorem dX0_wanted_18 : decode cX0_wanted 18 = .ok (.aload_n 0, 1) := by decide +kernel
theorem dX0_wanted_19 : decode cX0_wanted 19 = .ok (.getfield 22, 3) := by decide +kernel
theorem dX0_wanted_22 : decode cX0_wanted 22 = .ok (.iload_n 1, 1) := by decide +kernel
theorem dX0_wanted_23 : decode cX0_wanted 23 = .ok (.iaload, 1) := by decide +kernel
theorem dX0_wanted_24 : decode cX0_wanted 24 = .ok (.bipush 101, 2) := by decide +kernel
theorem dX0_wanted_26 : decode cX0_wanted 26 = .ok (.if_icmp .ne 10, 3) := by decide +kernel
theorem dX0_wanted_29 : decode cX0_wanted 29 = .ok (.aload_n 0, 1) := by decide +kernel
theorem dX0_wanted_30 : decode cX0_wanted 30 = .ok (.getfield 64, 3) := by decide +kernel
theorem dX0_wanted_33 : decode cX0_wanted 33 = .ok (.goto 9, 3) := by decide +kernel
theorem dX0_wanted_36 : decode cX0_wanted 36 = .ok (.aload_n 0, 1) := by decide +kernel
theorem dX0_wanted_37 : decode cX0_wanted 37 = .ok (.getfield 22, 3) := by decide +kernel
theorem dX0_wanted_40 : decode cX0_wanted 40 = .ok (.iload_n 1, 1) := by decide +kernel
theorem dX0_wanted_41 : decode cX0_wanted 41 = .ok (.iaload, 1) := by decide +kernel
theorem dX0_wanted_42 : decode cX0_wanted 42 = .ok (.ireturn, 1) := by decide +kernel
theorem dX0_lowEnd_0 : decode cX0_lowEnd 0 = .ok (.iconst 0, 1) := by decide +kernel
theorem dX0_lowEnd_1 : decode cX0_lowEnd 1 = .ok (.istore_n 2, 1) := by decide +kernel
theorem dX0_lowEnd_2 : decode cX0_lowEnd 2 = .ok (.iconst 0, 1) := by decide +kernel
theorem dX0_lowEnd_3 : decode cX0_lowEnd 3 = .ok (.istore_n 3, 1) := by decide +kernel
theorem dX0_lowEnd_4 : decode cX0_lowEnd 4 = .ok (.iload_n 3, 1) := by decide +kernel
theorem dX0_lowEnd_5 : decode cX0_lowEnd 5 = .ok (.aload_n 0, 1) := by decide +kernel
theorem dX0_lowEnd_6 : decode cX0_lowEnd 6 = .ok (.getfield 25, 3) := by decide +kernel
theorem dX0_lowEnd_9 : decode cX0_lowEnd 9 = .ok (.if_icmp .ge 61, 3) := by decide +kernel
theorem dX0_lowEnd_12 : decode cX0_lowEnd 12 = .ok (.aload_n 0, 1) := by decide +kernel
theorem dX0_lowEnd_13 : decode cX0_lowEnd 13 = .ok (.getfield 15, 3) := by decide +kernel
theorem dX0_lowEnd_16 : decode cX0_lowEnd 16 = .ok (.iload_n 3, 1) := by decide +kernel
theorem dX0_lowEnd_17 : decode cX0_lowEnd 17 = .ok (.iaload, 1) := by decide +kernel
theorem dX0_lowEnd_18 : decode cX0_lowEnd 18 = .ok (.iload_n 1, 1) := by decide +kernel
theorem dX0_lowEnd_19 : decode cX0_lowEnd 19 = .ok (.if_icmp .ne 45, 3) := by decide +kernel
theorem dX0_lowEnd_22 : decode cX0_lowEnd 22 = .ok (.aload_n 0, 1) := by decide +kernel
theorem dX0_lowEnd_23 : decode cX0_lowEnd 23 = .ok (.getfield 19, 3) := by decide +kernel
theorem dX0_lowEnd_26 : decode cX0_lowEnd 26 = .ok (.iload_n 3, 1) := by decide +kernel
theorem dX0_lowEnd_27 : decode cX0_lowEnd 27 = .ok (.iaload, 1) := by decide +kernel
theorem dX0_lowEnd_28 : decode cX0_lowEnd 28 = .ok (.bipush 60, 2) := by decide +kernel
theorem dX0_lowEnd_30 : decode cX0_lowEnd 30 = .ok (.if_icmp .eq 34, 3) := by decide +kernel
theorem dX0_lowEnd_33 : decode cX0_lowEnd 33 = .ok (.iload_n 2, 1) := by decide +kernel
theorem dX0_lowEnd_34 : decode cX0_lowEnd 34 = .ok (.aload_n 0, 1) := by decide +kernel
theorem dX0_lowEnd_35 : decode cX0_lowEnd 35 = .ok (.getfield 19, 3) := by decide +kernel
theorem dX0_lowEnd_38 : decode cX0_lowEnd 38 = .ok (.iload_n 3, 1) := by decide +kernel
theorem dX0_lowEnd_39 : decode cX0_lowEnd 39 = .ok (.iaload, 1) := by decide +kernel
theorem dX0_lowEnd_40 : decode cX0_lowEnd 40 = .ok (.bipush 62, 2) := by decide +kernel
theorem dX0_lowEnd_42 : decode cX0_lowEnd 42 = .ok (.if_icmp .ne 13, 3) := by decide +kernel
theorem dX0_lowEnd_45 : decode cX0_lowEnd 45 = .ok (.aload_n 0, 1) := by decide +kernel
theorem dX0_lowEnd_46 : decode cX0_lowEnd 46 = .ok (.iload_n 3, 1) := by decide +kernel
theorem dX0_lowEnd_47 : decode cX0_lowEnd 47 = .ok (.invokevirtual 91, 3) := by decide +kernel
theorem dX0_lowEnd_50 : decode cX0_lowEnd 50 = .ok (.iconst 1, 1) := by decide +kernel
theorem dX0_lowEnd_51 : decode cX0_lowEnd 51 = .ok (.iadd, 1) := by decide +kernel
theorem dX0_lowEnd_52 : decode cX0_lowEnd 52 = .ok (.goto 8, 3) := by decide +kernel
theorem dX0_lowEnd_55 : decode cX0_lowEnd 55 = .ok (.aload_n 0, 1) := by decide +kernel
theorem dX0_lowEnd_56 : decode cX0_lowEnd 56 = .ok (.iload_n 3, 1) := by decide +kernel
theorem dX0_lowEnd_57 : decode cX0_lowEnd 57 = .ok (.invokevirtual 91, 3) := by decide +kernel
theorem dX0_lowEnd_60 : decode cX0_lowEnd 60 = .ok (.invokestatic 94, 3) := by decide +kernel
theorem dX0_lowEnd_63 : decode cX0_lowEnd 63 = .ok (.istore_n 2, 1) := by decide +kernel
theorem dX0_lowEnd_64 : decode cX0_lowEnd 64 = .ok (.iinc 3 1, 3) := by decide +kernel
theorem dX0_lowEnd_67 : decode cX0_lowEnd 67 = .ok (.goto (-63), 3) := by decide +kernel
theorem dX0_lowEnd_70 : decode cX0_lowEnd 70 = .ok (.iload_n 2, 1) := by decide +kernel
theorem dX0_lowEnd_71 : decode cX0_lowEnd 71 = .ok (.ireturn, 1) := by decide +kernel
theorem dX0_highEnd_0 : decode cX0_highEnd 0 = .ok (.bipush 99, 2) := by decide +kernel
theorem dX0_highEnd_2 : decode cX0_highEnd 2 = .ok (.istore_n 2, 1) := by decide +kernel
theorem dX0_highEnd_3 : decode cX0_highEnd 3 = .ok (.iconst 0, 1) := by decide +kernel
theorem dX0_highEnd_4 : decode cX0_highEnd 4 = .ok (.istore_n 3, 1) := by decide +kernel
theorem dX0_highEnd_5 : decode cX0_highEnd 5 = .ok (.iload_n 3, 1) := by decide +kernel
theorem dX0_highEnd_6 : decode cX0_highEnd 6 = .ok (.aload_n 0, 1) := by decide +kernel
theorem dX0_highEnd_7 : decode cX0_highEnd 7 = .ok (.getfield 25, 3) := by decide +kernel
theorem dX0_highEnd_10 : decode cX0_highEnd 10 = .ok (.if_icmp .ge 61, 3) := by decide +kernel
theorem dX0_highEnd_13 : decode cX0_highEnd 13 = .ok (.aload_n 0, 1) := by decide +kernel
theorem dX0_highEnd_14 : decode cX0_highEnd 14 = .ok (.getfield 15, 3) := by decide +kernel
theorem dX0_highEnd_17 : decode cX0_highEnd 17 = .ok (.iload_n 3, 1) := by decide +kernel
theorem dX0_highEnd_18 : decode cX0_highEnd 18 = .ok (.iaload, 1) := by decide +kernel
theorem dX0_highEnd_19 : decode cX0_highEnd 19 = .ok (.iload_n 1, 1) := by decide +kernel
theorem dX0_highEnd_20 : decode cX0_highEnd 20 = .ok (.if_icmp .ne 45, 3) := by decide +kernel
theorem dX0_highEnd_23 : decode cX0_highEnd 23 = .ok (.aload_n 0, 1) := by decide +kernel
theorem dX0_highEnd_24 : decode cX0_highEnd 24 = .ok (.getfield 19, 3) := by decide +kernel
theorem dX0_highEnd_27 : decode cX0_highEnd 27 = .ok (.iload_n 3, 1) := by decide +kernel
theorem dX0_highEnd_28 : decode cX0_highEnd 28 = .ok (.iaload, 1) := by decide +kernel
theorem dX0_highEnd_29 : decode cX0_highEnd 29 = .ok (.bipush 62, 2) := by decide +kernel
theorem dX0_highEnd_31 : decode cX0_highEnd 31 = .ok (.if_icmp .eq 34, 3) := by decide +kernel
theorem dX0_highEnd_34 : decode cX0_highEnd 34 = .ok (.iload_n 2, 1) := by decide +kernel
theorem dX0_highEnd_35 : decode cX0_highEnd 35 = .ok (.aload_n 0, 1) := by decide +kernel
theorem dX0_highEnd_36 : decode cX0_highEnd 36 = .ok (.getfield 19, 3) := by decide +kernel
theorem dX0_highEnd_39 : decode cX0_highEnd 39 = .ok (.iload_n 3, 1) := by decide +kernel
theorem dX0_highEnd_40 : decode cX0_highEnd 40 = .ok (.iaload, 1) := by decide +kernel
theorem dX0_highEnd_41 : decode cX0_highEnd 41 = .ok (.bipush 60, 2) := by decide +kernel
theorem dX0_highEnd_43 : decode cX0_highEnd 43 = .ok (.if_icmp .ne 13, 3) := by decide +kernel
theorem dX0_highEnd_46 : decode cX0_highEnd 46 = .ok (.aload_n 0, 1) := by decide +kernel
theorem dX0_highEnd_47 : decode cX0_highEnd 47 = .ok (.iload_n 3, 1) := by decide +kernel
theorem dX0_highEnd_48 : decode cX0_highEnd 48 = .ok (.invokevirtual 91, 3) := by decide +kernel
theorem dX0_highEnd_51 : decode cX0_highEnd 51 = .ok (.iconst 1, 1) := by decide +kernel
theorem dX0_highEnd_52 : decode cX0_highEnd 52 = .ok (.isub, 1) := by decide +kernel
theorem dX0_highEnd_53 : decode cX0_highEnd 53 = .ok (.goto 8, 3) := by decide +kernel
theorem dX0_highEnd_56 : decode cX0_highEnd 56 = .ok (.aload_n 0, 1) := by decide +kernel
theorem dX0_highEnd_57 : decode cX0_highEnd 57 = .ok (.iload_n 3, 1) := by decide +kernel
theorem dX0_highEnd_58 : decode cX0_highEnd 58 = .ok (.invokevirtual 91, 3) := by decide +kernel
theorem dX0_highEnd_61 : decode cX0_highEnd 61 = .ok (.invokestatic 99, 3) := by decide +kernel
theorem dX0_highEnd_64 : decode cX0_highEnd 64 = .ok (.istore_n 2, 1) := by decide +kernel
theorem dX0_highEnd_65 : decode cX0_highEnd 65 = .ok (.iinc 3 1, 3) := by decide +kernel
theorem dX0_highEnd_68 : decode cX0_highEnd 68 = .ok (.goto (-63), 3) := by decide +kernel
theorem dX0_highEnd_71 : decode cX0_highEnd 71 = .ok (.iload_n 2, 1) := by decide +kernel
theorem dX0_highEnd_72 : decode cX0_highEnd 72 = .ok (.ireturn, 1) := by decide +kernel
theorem dX0_isAbout_0 : decode cX0_isAbout 0 = .ok (.iconst 0, 1) := by decide +kernel
theorem dX0_isAbout_1 : decode cX0_isAbout 1 = .ok (.istore_n 2, 1) := by decide +kernel
theorem dX0_isAbout_2 : decode cX0_isAbout 2 = .ok (.iload_n 2, 1) := by decide +kernel
theorem dX0_isAbout_3 : decode cX0_isAbout 3 = .ok (.aload_n 0, 1) := by decide +kernel
theorem dX0_isAbout_4 : decode cX0_isAbout 4 = .ok (.getfield 25, 3) := by decide +kernel
theorem dX0_isAbout_7 : decode cX0_isAbout 7 = .ok (.if_icmp .ge 21, 3) := by decide +kernel
theorem dX0_isAbout_10 : decode cX0_isAbout 10 = .ok (.aload_n 0, 1) := by decide +kernel
theorem dX0_isAbout_11 : decode cX0_isAbout 11 = .ok (.getfield 15, 3) := by decide +kernel
theorem dX0_isAbout_14 : decode cX0_isAbout 14 = .ok (.iload_n 2, 1) := by decide +kernel
theorem dX0_isAbout_15 : decode cX0_isAbout 15 = .ok (.iaload, 1) := by decide +kernel
theorem dX0_isAbout_16 : decode cX0_isAbout 16 = .ok (.iload_n 1, 1) := by decide +kernel
theorem dX0_isAbout_17 : decode cX0_isAbout 17 = .ok (.if_icmp .ne 5, 3) := by decide +kernel
theorem dX0_isAbout_20 : decode cX0_isAbout 20 = .ok (.iconst 1, 1) := by decide +kernel
theorem dX0_isAbout_21 : decode cX0_isAbout 21 = .ok (.ireturn, 1) := by decide +kernel
theorem dX0_isAbout_22 : decode cX0_isAbout 22 = .ok (.iinc 2 1, 3) := by decide +kernel
theorem dX0_isAbout_25 : decode cX0_isAbout 25 = .ok (.goto (-23), 3) := by decide +kernel
theorem dX0_isAbout_28 : decode cX0_isAbout 28 = .ok (.iconst 0, 1) := by decide +kernel
theorem dX0_isAbout_29 : decode cX0_isAbout 29 = .ok (.ireturn, 1) := by decide +kernel
theorem dX0_hasEqual_0 : decode cX0_hasEqual 0 = .ok (.aload_n 0, 1) := by decide +kernel
theorem dX0_hasEqual_1 : decode cX0_hasEqual 1 = .ok (.iload_n 1, 1) := by decide +kernel
theorem dX0_hasEqual_2 : decode cX0_hasEqual 2 = .ok (.invokevirtual 102, 3) := by decide +kernel
theorem dX0_hasEqual_5 : decode cX0_hasEqual 5 = .ok (.iconst (-1), 1) := by decide +kernel
theorem dX0_hasEqual_6 : decode cX0_hasEqual 6 = .ok (.if_icmp .eq 7, 3) := by decide +kernel
theorem dX0_hasEqual_9 : decode cX0_hasEqual 9 = .ok (.iconst 1, 1) := by decide +kernel
theorem dX0_hasEqual_10 : decode cX0_hasEqual 10 = .ok (.goto 4, 3) := by decide +kernel
theorem dX0_hasEqual_13 : decode cX0_hasEqual 13 = .ok (.iconst 0, 1) := by decide +kernel
theorem dX0_hasEqual_14 : decode cX0_hasEqual 14 = .ok (.ireturn, 1) := by decide +kernel
theorem dX0_firstEqual_0 : decode cX0_firstEqual 0 = .ok (.aload_n 0, 1) := by decide +kernel
theorem dX0_firstEqual_1 : decode cX0_firstEqual 1 = .ok (.iload_n 1, 1) := by decide +kernel
theorem dX0_firstEqual_2 : decode cX0_firstEqual 2 = .ok (.invokevirtual 102, 3) := by decide +kernel
theorem dX0_firstEqual_5 : decode cX0_firstEqual 5 = .ok (.istore_n 2, 1) := by decide +kernel
theorem dX0_firstEqual_6 : decode cX0_firstEqual 6 = .ok (.iload_n 2, 1) := by decide +kernel
theorem dX0_firstEqual_7 : decode cX0_firstEqual 7 = .ok (.iconst (-1), 1) := by decide +kernel
theorem dX0_firstEqual_8 : decode cX0_firstEqual 8 = .ok (.if_icmp .ne 7, 3) := by decide +kernel
theorem dX0_firstEqual_11 : decode cX0_firstEqual 11 = .ok (.iconst 0, 1) := by decide +kernel
theorem dX0_firstEqual_12 : decode cX0_firstEqual 12 = .ok (.goto 8, 3) := by decide +kernel
theorem dX0_firstEqual_15 : decode cX0_firstEqual 15 = .ok (.aload_n 0, 1) := by decide +kernel
theorem dX0_firstEqual_16 : decode cX0_firstEqual 16 = .ok (.iload_n 2, 1) := by decide +kernel
theorem dX0_firstEqual_17 : decode cX0_firstEqual 17 = .ok (.invokevirtual 91, 3) := by decide +kernel
theorem dX0_firstEqual_20 : decode cX0_firstEqual 20 = .ok (.ireturn, 1) := by decide +kernel
theorem dX0_equalAt_0 : decode cX0_equalAt 0 = .ok (.iconst 0, 1) := by decide +kernel
theorem dX0_equalAt_1 : decode cX0_equalAt 1 = .ok (.istore_n 2, 1) := by decide +kernel
theorem dX0_equalAt_2 : decode cX0_equalAt 2 = .ok (.iload_n 2, 1) := by decide +kernel
theorem dX0_equalAt_3 : decode cX0_equalAt 3 = .ok (.aload_n 0, 1) := by decide +kernel
theorem dX0_equalAt_4 : decode cX0_equalAt 4 = .ok (.getfield 25, 3) := by decide +kernel
theorem dX0_equalAt_7 : decode cX0_equalAt 7 = .ok (.if_icmp .ge 32, 3) := by decide +kernel
theorem dX0_equalAt_10 : decode cX0_equalAt 10 = .ok (.aload_n 0, 1) := by decide +kernel
theorem dX0_equalAt_11 : decode cX0_equalAt 11 = .ok (.getfield 15, 3) := by decide +kernel
theorem dX0_equalAt_14 : decode cX0_equalAt 14 = .ok (.iload_n 2, 1) := by decide +kernel
theorem dX0_equalAt_15 : decode cX0_equalAt 15 = .ok (.iaload, 1) := by decide +kernel
theorem dX0_equalAt_16 : decode cX0_equalAt 16 = .ok (.iload_n 1, 1) := by decide +kernel
theorem dX0_equalAt_17 : decode cX0_equalAt 17 = .ok (.if_icmp .ne 16, 3) := by decide +kernel
theorem dX0_equalAt_20 : decode cX0_equalAt 20 = .ok (.aload_n 0, 1) := by decide +kernel
theorem dX0_equalAt_21 : decode cX0_equalAt 21 = .ok (.getfield 19, 3) := by decide +kernel
theorem dX0_equalAt_24 : decode cX0_equalAt 24 = .ok (.iload_n 2, 1) := by decide +kernel
theorem dX0_equalAt_25 : decode cX0_equalAt 25 = .ok (.iaload, 1) := by decide +kernel
theorem dX0_equalAt_26 : decode cX0_equalAt 26 = .ok (.bipush 61, 2) := by decide +kernel
theorem dX0_equalAt_28 : decode cX0_equalAt 28 = .ok (.if_icmp .ne 5, 3) := by decide +kernel
theorem dX0_equalAt_31 : decode cX0_equalAt 31 = .ok (.iload_n 2, 1) := by decide +kernel
theorem dX0_equalAt_32 : decode cX0_equalAt 32 = .ok (.ireturn, 1) := by decide +kernel
theorem dX0_equalAt_33 : decode cX0_equalAt 33 = .ok (.iinc 2 1, 3) := by decide +kernel
theorem dX0_equalAt_36 : decode cX0_equalAt 36 = .ok (.goto (-34), 3) := by decide +kernel
theorem dX0_equalAt_39 : decode cX0_equalAt 39 = .ok (.iconst (-1), 1) := by decide +kernel
theorem dX0_equalAt_40 : decode cX0_equalAt 40 = .ok (.ireturn, 1) := by decide +kernel
theorem dX0_isLeastOfAll_0 : decode cX0_isLeastOfAll 0 = .ok (.aload_n 0, 1) := by decide +kernel
theorem dX0_isLeastOfAll_1 : decode cX0_isLeastOfAll 1 = .ok (.getfield 25, 3) := by decide +kernel
theorem dX0_isLeastOfAll_4 : decode cX0_isLeastOfAll 4 = .ok (.ifCond .ne 24, 3) := by decide +kernel
theorem dX0_isLeastOfAll_7 : decode cX0_isLeastOfAll 7 = .ok (.aload_n 0, 1) := by decide +kernel
theorem dX0_isLeastOfAll_8 : decode cX0_isLeastOfAll 8 = .ok (.getfield 55, 3) := by decide +kernel
theorem dX0_isLeastOfAll_11 : decode cX0_isLeastOfAll 11 = .ok (.bipush 109, 2) := by decide +kernel
theorem dX0_isLeastOfAll_13 : decode cX0_isLeastOfAll 13 = .ok (.if_icmp .ne 15, 3) := by decide +kernel
theorem dX0_isLeastOfAll_16 : decode cX0_isLeastOfAll 16 = .ok (.aload_n 0, 1) := by decide +kernel
theorem dX0_isLeastOfAll_17 : decode cX0_isLeastOfAll 17 = .ok (.getfield 58, 3) := by decide +kernel
theorem dX0_isLeastOfAll_20 : decode cX0_isLeastOfAll 20 = .ok (.iload_n 1, 1) := by decide +kernel
theorem dX0_isLeastOfAll_21 : decode cX0_isLeastOfAll 21 = .ok (.if_icmp .ne 7, 3) := by decide +kernel
theorem dX0_isLeastOfAll_24 : decode cX0_isLeastOfAll 24 = .ok (.iconst 1, 1) := by decide +kernel
theorem dX0_isLeastOfAll_25 : decode cX0_isLeastOfAll 25 = .ok (.goto 4, 3) := by decide +kernel
theorem dX0_isLeastOfAll_28 : decode cX0_isLeastOfAll 28 = .ok (.iconst 0, 1) := by decide +kernel
theorem dX0_isLeastOfAll_29 : decode cX0_isLeastOfAll 29 = .ok (.ireturn, 1) := by decide +kernel
theorem dX0_isCount_0 : decode cX0_isCount 0 = .ok (.aload_n 0, 1) := by decide +kernel
theorem dX0_isCount_1 : decode cX0_isCount 1 = .ok (.getfield 55, 3) := by decide +kernel
theorem dX0_isCount_4 : decode cX0_isCount 4 = .ok (.bipush 110, 2) := by decide +kernel
theorem dX0_isCount_6 : decode cX0_isCount 6 = .ok (.if_icmp .ne 7, 3) := by decide +kernel
theorem dX0_isCount_9 : decode cX0_isCount 9 = .ok (.iconst 1, 1) := by decide +kernel
theorem dX0_isCount_10 : decode cX0_isCount 10 = .ok (.goto 4, 3) := by decide +kernel
theorem dX0_isCount_13 : decode cX0_isCount 13 = .ok (.iconst 0, 1) := by decide +kernel
theorem dX0_isCount_14 : decode cX0_isCount 14 = .ok (.ireturn, 1) := by decide +kernel
theorem dX0_isCountOfOneValue_0 : decode cX0_isCountOfOneValue 0 = .ok (.aload_n 0, 1) := by decide +kernel
theorem dX0_isCountOfOneValue_1 : decode cX0_isCountOfOneValue 1 = .ok (.invokevirtual 105, 3) := by decide +kernel
theorem dX0_isCountOfOneValue_4 : decode cX0_isCountOfOneValue 4 = .ok (.ifCond .eq 23, 3) := by decide +kernel
theorem dX0_isCountOfOneValue_7 : decode cX0_isCountOfOneValue 7 = .ok (.aload_n 0, 1) := by decide +kernel
theorem dX0_isCountOfOneValue_8 : decode cX0_isCountOfOneValue 8 = .ok (.getfield 25, 3) := by decide +kernel
theorem dX0_isCountOfOneValue_11 : decode cX0_isCountOfOneValue 11 = .ok (.iconst 1, 1) := by decide +kernel
theorem dX0_isCountOfOneValue_12 : decode cX0_isCountOfOneValue 12 = .ok (.if_icmp .ne 15, 3) := by decide +kernel
theorem dX0_isCountOfOneValue_15 : decode cX0_isCountOfOneValue 15 = .ok (.aload_n 0, 1) := by decide +kernel
theorem dX0_isCountOfOneValue_16 : decode cX0_isCountOfOneValue 16 = .ok (.iload_n 1, 1) := by decide +kernel
theorem dX0_isCountOfOneValue_17 : decode cX0_isCountOfOneValue 17 = .ok (.invokevirtual 109, 3) := by decide +kernel
theorem dX0_isCountOfOneValue_20 : decode cX0_isCountOfOneValue 20 = .ok (.ifCond .eq 7, 3) := by decide +kernel
theorem dX0_isCountOfOneValue_23 : decode cX0_isCountOfOneValue 23 = .ok (.iconst 1, 1) := by decide +kernel
theorem dX0_isCountOfOneValue_24 : decode cX0_isCountOfOneValue 24 = .ok (.goto 4, 3) := by decide +kernel
theorem dX0_isCountOfOneValue_27 : decode cX0_isCountOfOneValue 27 = .ok (.iconst 0, 1) := by decide +kernel
theorem dX0_isCountOfOneValue_28 : decode cX0_isCountOfOneValue 28 = .ok (.ireturn, 1) := by decide +kernel
theorem dX0_isFromSums_0 : decode cX0_isFromSums 0 = .ok (.iconst 0, 1) := by decide +kernel
theorem dX0_isFromSums_1 : decode cX0_isFromSums 1 = .ok (.istore_n 2, 1) := by decide +kernel
theorem dX0_isFromSums_2 : decode cX0_isFromSums 2 = .ok (.iload_n 2, 1) := by decide +kernel
theorem dX0_isFromSums_3 : decode cX0_isFromSums 3 = .ok (.aload_n 0, 1) := by decide +kernel
theorem dX0_isFromSums_4 : decode cX0_isFromSums 4 = .ok (.getfield 25, 3) := by decide +kernel
theorem dX0_isFromSums_7 : decode cX0_isFromSums 7 = .ok (.if_icmp .ge 21, 3) := by decide +kernel
theorem dX0_isFromSums_10 : decode cX0_isFromSums 10 = .ok (.aload_n 0, 1) := by decide +kernel
theorem dX0_isFromSums_11 : decode cX0_isFromSums 11 = .ok (.getfield 15, 3) := by decide +kernel
theorem dX0_isFromSums_14 : decode cX0_isFromSums 14 = .ok (.iload_n 2, 1) := by decide +kernel
theorem dX0_isFromSums_15 : decode cX0_isFromSums 15 = .ok (.iaload, 1) := by decide +kernel
theorem dX0_isFromSums_16 : decode cX0_isFromSums 16 = .ok (.iload_n 1, 1) := by decide +kernel
theorem dX0_isFromSums_17 : decode cX0_isFromSums 17 = .ok (.if_icmp .eq 5, 3) := by decide +kernel
theorem dX0_isFromSums_20 : decode cX0_isFromSums 20 = .ok (.iconst 0, 1) := by decide +kernel
theorem dX0_isFromSums_21 : decode cX0_isFromSums 21 = .ok (.ireturn, 1) := by decide +kernel
theorem dX0_isFromSums_22 : decode cX0_isFromSums 22 = .ok (.iinc 2 1, 3) := by decide +kernel
theorem dX0_isFromSums_25 : decode cX0_isFromSums 25 = .ok (.goto (-23), 3) := by decide +kernel
theorem dX0_isFromSums_28 : decode cX0_isFromSums 28 = .ok (.aload_n 0, 1) := by decide +kernel
theorem dX0_isFromSums_29 : decode cX0_isFromSums 29 = .ok (.invokevirtual 105, 3) := by decide +kernel
theorem dX0_isFromSums_32 : decode cX0_isFromSums 32 = .ok (.ifCond .ne 20, 3) := by decide +kernel
theorem dX0_isFromSums_35 : decode cX0_isFromSums 35 = .ok (.aload_n 0, 1) := by decide +kernel
theorem dX0_isFromSums_36 : decode cX0_isFromSums 36 = .ok (.getfield 55, 3) := by decide +kernel
theorem dX0_isFromSums_39 : decode cX0_isFromSums 39 = .ok (.bipush 115, 2) := by decide +kernel
theorem dX0_isFromSums_41 : decode cX0_isFromSums 41 = .ok (.if_icmp .ne 15, 3) := by decide +kernel
theorem dX0_isFromSums_44 : decode cX0_isFromSums 44 = .ok (.aload_n 0, 1) := by decide +kernel
theorem dX0_isFromSums_45 : decode cX0_isFromSums 45 = .ok (.getfield 58, 3) := by decide +kernel
theorem dX0_isFromSums_48 : decode cX0_isFromSums 48 = .ok (.iload_n 1, 1) := by decide +kernel
theorem dX0_isFromSums_49 : decode cX0_isFromSums 49 = .ok (.if_icmp .ne 7, 3) := by decide +kernel
theorem dX0_isFromSums_52 : decode cX0_isFromSums 52 = .ok (.iconst 1, 1) := by decide +kernel
theorem dX0_isFromSums_53 : decode cX0_isFromSums 53 = .ok (.goto 4, 3) := by decide +kernel
theorem dX0_isFromSums_56 : decode cX0_isFromSums 56 = .ok (.iconst 0, 1) := by decide +kernel
theorem dX0_isFromSums_57 : decode cX0_isFromSums 57 = .ok (.ireturn, 1) := by decide +kernel
theorem dX1_init_0 : decode cX1_init 0 = .ok (.aload_n 0, 1) := by decide +kernel
theorem dX1_init_1 : decode cX1_init 1 = .ok (.aload_n 1, 1) := by decide +kernel
theorem dX1_init_2 : decode cX1_init 2 = .ok (.iload_n 2, 1) := by decide +kernel
theorem dX1_init_3 : decode cX1_init 3 = .ok (.iload_n 3, 1) := by decide +kernel
theorem dX1_init_4 : decode cX1_init 4 = .ok (.iconst 0, 1) := by decide +kernel
theorem dX1_init_5 : decode cX1_init 5 = .ok (.invokespecial 3, 3) := by decide +kernel
theorem dX1_init_8 : decode cX1_init 8 = .ok (.return_, 1) := by decide +kernel
theorem dX1_kind_0 : decode cX1_kind 0 = .ok (.bipush 6, 2) := by decide +kernel
theorem dX1_kind_2 : decode cX1_kind 2 = .ok (.ireturn, 1) := by decide +kernel
theorem dX1_bitsOf_0 : decode cX1_bitsOf 0 = .ok (.iconst 1, 1) := by decide +kernel
theorem dX1_bitsOf_1 : decode cX1_bitsOf 1 = .ok (.iload_n 0, 1) := by decide +kernel
theorem dX1_bitsOf_2 : decode cX1_bitsOf 2 = .ok (.bipush 7, 2) := by decide +kernel
theorem dX1_bitsOf_4 : decode cX1_bitsOf 4 = .ok (.imul, 1) := by decide +kernel
theorem dX1_bitsOf_5 : decode cX1_bitsOf 5 = .ok (.bipush 32, 2) := by decide +kernel
theorem dX1_bitsOf_7 : decode cX1_bitsOf 7 = .ok (.irem, 1) := by decide +kernel
theorem dX1_bitsOf_8 : decode cX1_bitsOf 8 = .ok (.ishl, 1) := by decide +kernel
theorem dX1_bitsOf_9 : decode cX1_bitsOf 9 = .ok (.iconst 1, 1) := by decide +kernel
theorem dX1_bitsOf_10 : decode cX1_bitsOf 10 = .ok (.iload_n 0, 1) := by decide +kernel
theorem dX1_bitsOf_11 : decode cX1_bitsOf 11 = .ok (.bipush 11, 2) := by decide +kernel
theorem dX1_bitsOf_13 : decode cX1_bitsOf 13 = .ok (.imul, 1) := by decide +kernel
theorem dX1_bitsOf_14 : decode cX1_bitsOf 14 = .ok (.bipush 32, 2) := by decide +kernel
theorem dX1_bitsOf_16 : decode cX1_bitsOf 16 = .ok (.irem, 1) := by decide +kernel
theorem dX1_bitsOf_17 : decode cX1_bitsOf 17 = .ok (.ishl, 1) := by decide +kernel
theorem dX1_bitsOf_18 : decode cX1_bitsOf 18 = .ok (.ior, 1) := by decide +kernel
theorem dX1_bitsOf_19 : decode cX1_bitsOf 19 = .ok (.ireturn, 1) := by decide +kernel
theorem dX1_putName_0 : decode cX1_putName 0 = .ok (.aload_n 0, 1) := by decide +kernel
theorem dX1_putName_1 : decode cX1_putName 1 = .ok (.dup, 1) := by decide +kernel
theorem dX1_putName_2 : decode cX1_putName 2 = .ok (.getfield 9, 3) := by decide +kernel
theorem dX1_putName_5 : decode cX1_putName 5 = .ok (.iconst 2, 1) := by decide +kernel
theorem dX1_putName_6 : decode cX1_putName 6 = .ok (.iadd, 1) := by decide +kernel
theorem dX1_putName_7 : decode cX1_putName 7 = .ok (.putfield 9, 3) := by decide +kernel
theorem dX1_putName_10 : decode cX1_putName 10 = .ok (.aload_n 0, 1) := by decide +kernel
theorem dX1_putName_11 : decode cX1_putName 11 = .ok (.dup, 1) := by decide +kernel
theorem dX1_putName_12 : decode cX1_putName 12 = .ok (.getfield 15, 3) := by decide +kernel
theorem dX1_putName_15 : decode cX1_putName 15 = .ok (.aload_n 0, 1) := by decide +kernel
theorem dX1_putName_16 : decode cX1_putName 16 = .ok (.getfield 18, 3) := by decide +kernel
theorem dX1_putName_19 : decode cX1_putName 19 = .ok (.iload_n 1, 1) := by decide +kernel
theorem dX1_putName_20 : decode cX1_putName 20 = .ok (.iaload, 1) := by decide +kernel
theorem dX1_putName_21 : decode cX1_putName 21 = .ok (.invokestatic 22, 3) := by decide +kernel
theorem dX1_putName_24 : decode cX1_putName 24 = .ok (.ior, 1) := by decide +kernel
theorem dX1_putName_25 : decode cX1_putName 25 = .ok (.putfield 15, 3) := by decide +kernel
theorem dX1_putName_28 : decode cX1_putName 28 = .ok (.return_, 1) := by decide +kernel
theorem dX1_takeName_0 : decode cX1_takeName 0 = .ok (.aload_n 0, 1) := by decide +kernel
theorem dX1_takeName_1 : decode cX1_takeName 1 = .ok (.dup, 1) := by decide +kernel
theorem dX1_takeName_2 : decode cX1_takeName 2 = .ok (.getfield 9, 3) := by decide +kernel
theorem dX1_takeName_5 : decode cX1_takeName 5 = .ok (.iconst 1, 1) := by decide +kernel
theorem dX1_takeName_6 : decode cX1_takeName 6 = .ok (.iadd, 1) := by decide +kernel
theorem dX1_takeName_7 : decode cX1_takeName 7 = .ok (.putfield 9, 3) := by decide +kernel
theorem dX1_takeName_10 : decode cX1_takeName 10 = .ok (.return_, 1) := by decide +kernel
theorem dX1_howMany_0 : decode cX1_howMany 0 = .ok (.aload_n 0, 1) := by decide +kernel
theorem dX1_howMany_1 : decode cX1_howMany 1 = .ok (.getfield 15, 3) := by decide +kernel
theorem dX1_howMany_4 : decode cX1_howMany 4 = .ok (.invokestatic 26, 3) := by decide +kernel
theorem dX1_howMany_7 : decode cX1_howMany 7 = .ok (.ireturn, 1) := by decide +kernel
theorem dX1_nameIn_0 : decode cX1_nameIn 0 = .ok (.iconst (-1), 1) := by decide +kernel
theorem dX1_nameIn_1 : decode cX1_nameIn 1 = .ok (.ireturn, 1) := by decide +kernel
theorem dX1_run_0 : decode cX1_run 0 = .ok (.aload_n 1, 1) := by decide +kernel
theorem dX1_run_1 : decode cX1_run 1 = .ok (.aload_n 0, 1) := by decide +kernel
theorem dX1_run_2 : decode cX1_run 2 = .ok (.getfield 31, 3) := by decide +kernel
theorem dX1_run_5 : decode cX1_run 5 = .ok (.invokevirtual 34, 3) := by decide +kernel
theorem dX1_run_8 : decode cX1_run 8 = .ok (.ifCond .ne 6, 3) := by decide +kernel
theorem dX1_run_11 : decode cX1_run 11 = .ok (.bipush (-2), 2) := by decide +kernel
theorem dX1_run_13 : decode cX1_run 13 = .ok (.ireturn, 1) := by decide +kernel
theorem dX1_run_14 : decode cX1_run 14 = .ok (.aload_n 0, 1) := by decide +kernel
theorem dX1_run_15 : decode cX1_run 15 = .ok (.dup, 1) := by decide +kernel
theorem dX1_run_16 : decode cX1_run 16 = .ok (.getfield 9, 3) := by decide +kernel
theorem dX1_run_19 : decode cX1_run 19 = .ok (.iconst 2, 1) := by decide +kernel
theorem dX1_run_20 : decode cX1_run 20 = .ok (.iadd, 1) := by decide +kernel
theorem dX1_run_21 : decode cX1_run 21 = .ok (.putfield 9, 3) := by decide +kernel
theorem dX1_run_24 : decode cX1_run 24 = .ok (.aload_n 1, 1) := by decide +kernel
theorem dX1_run_25 : decode cX1_run 25 = .ok (.aload_n 0, 1) := by decide +kernel
theorem dX1_run_26 : decode cX1_run 26 = .ok (.getfield 31, 3) := by decide +kernel
theorem dX1_run_29 : decode cX1_run 29 = .ok (.invokevirtual 40, 3) := by decide +kernel
theorem dX1_run_32 : decode cX1_run 32 = .ok (.invokestatic 22, 3) := by decide +kernel
theorem dX1_run_35 : decode cX1_run 35 = .ok (.istore_n 2, 1) := by decide +kernel
theorem dX1_run_36 : decode cX1_run 36 = .ok (.aload_n 0, 1) := by decide +kernel
theorem dX1_run_37 : decode cX1_run 37 = .ok (.getfield 15, 3) := by decide +kernel
theorem dX1_run_40 : decode cX1_run 40 = .ok (.iload_n 2, 1) := by decide +kernel
theorem dX1_run_41 : decode cX1_run 41 = .ok (.iand, 1) := by decide +kernel
theorem dX1_run_42 : decode cX1_run 42 = .ok (.iload_n 2, 1) := by decide +kernel
theorem dX1_run_43 : decode cX1_run 43 = .ok (.if_icmp .ne 8, 3) := by decide +kernel
theorem dX1_run_46 : decode cX1_run 46 = .ok (.bipush (-6), 2) := by decide +kernel
theorem dX1_run_48 : decode cX1_run 48 = .ok (.goto 4, 3) := by decide +kernel
theorem dX1_run_51 : decode cX1_run 51 = .ok (.iconst 0, 1) := by decide +kernel
theorem dX1_run_52 : decode cX1_run 52 = .ok (.ireturn, 1) := by decide +kernel
theorem dX1_priceFor_0 : decode cX1_priceFor 0 = .ok (.aload_n 1, 1) := by decide +kernel
theorem dX1_priceFor_1 : decode cX1_priceFor 1 = .ok (.aload_n 0, 1) := by decide +kernel
theorem dX1_priceFor_2 : decode cX1_priceFor 2 = .ok (.getfield 31, 3) := by decide +kernel
theorem dX1_priceFor_5 : decode cX1_priceFor 5 = .ok (.invokevirtual 34, 3) := by decide +kernel
theorem dX1_priceFor_8 : decode cX1_priceFor 8 = .ok (.ifCond .eq 7, 3) := by decide +kernel
theorem dX1_priceFor_11 : decode cX1_priceFor 11 = .ok (.iconst 2, 1) := by decide +kernel
theorem dX1_priceFor_12 : decode cX1_priceFor 12 = .ok (.goto 5, 3) := by decide +kernel
theorem dX1_priceFor_15 : decode cX1_priceFor 15 = .ok (.bipush (-2), 2) := by decide +kernel
theorem dX1_priceFor_17 : decode cX1_priceFor 17 = .ok (.ireturn, 1) := by decide +kernel
theorem dX1_priceOfPut_0 : decode cX1_priceOfPut 0 = .ok (.iconst 2, 1) := by decide +kernel
theorem dX1_priceOfPut_1 : decode cX1_priceOfPut 1 = .ok (.ireturn, 1) := by decide +kernel
theorem dX1_finds_0 : decode cX1_finds 0 = .ok (.aload_n 0, 1) := by decide +kernel
theorem dX1_finds_1 : decode cX1_finds 1 = .ok (.bipush 70, 2) := by decide +kernel
theorem dX1_finds_3 : decode cX1_finds 3 = .ok (.invokevirtual 43, 3) := by decide +kernel
theorem dX1_finds_6 : decode cX1_finds 6 = .ok (.aload_n 0, 1) := by decide +kernel
theorem dX1_finds_7 : decode cX1_finds 7 = .ok (.iload_n 1, 1) := by decide +kernel
theorem dX1_finds_8 : decode cX1_finds 8 = .ok (.iconst 1, 1) := by decide +kernel
theorem dX1_finds_9 : decode cX1_finds 9 = .ok (.iadd, 1) := by decide +kernel
theorem dX1_finds_10 : decode cX1_finds 10 = .ok (.invokespecial 47, 3) := by decide +kernel
theorem dX1_finds_13 : decode cX1_finds 13 = .ok (.ineg, 1) := by decide +kernel
theorem dX1_finds_14 : decode cX1_finds 14 = .ok (.ireturn, 1) := by decide +kernel
theorem dX1_keeps_0 : decode cX1_keeps 0 = .ok (.aload_n 0, 1) := by decide +kernel
theorem dX1_keeps_1 : decode cX1_keeps 1 = .ok (.bipush 71, 2) := by decide +kernel
theorem dX1_keeps_3 : decode cX1_keeps 3 = .ok (.invokevirtual 43, 3) := by decide +kernel
theorem dX1_keeps_6 : decode cX1_keeps 6 = .ok (.aload_n 0, 1) := by decide +kernel
theorem dX1_keeps_7 : decode cX1_keeps 7 = .ok (.iload_n 1, 1) := by decide +kernel
theorem dX1_keeps_8 : decode cX1_keeps 8 = .ok (.invokespecial 50, 3) := by decide +kernel
theorem dX1_keeps_11 : decode cX1_keeps 11 = .ok (.iconst 2, 1) := by decide +kernel
theorem dX1_keeps_12 : decode cX1_keeps 12 = .ok (.imul, 1) := by decide +kernel
theorem dX1_keeps_13 : decode cX1_keeps 13 = .ok (.ireturn, 1) := by decide +kernel
theorem dX2_init_0 : decode cX2_init 0 = .ok (.aload_n 0, 1) := by decide +kernel
theorem dX2_init_1 : decode cX2_init 1 = .ok (.aload_n 1, 1) := by decide +kernel
theorem dX2_init_2 : decode cX2_init 2 = .ok (.iload_n 2, 1) := by decide +kernel
theorem dX2_init_3 : decode cX2_init 3 = .ok (.iload_n 3, 1) := by decide +kernel
theorem dX2_init_4 : decode cX2_init 4 = .ok (.invokespecial 1, 3) := by decide +kernel
theorem dX2_init_7 : decode cX2_init 7 = .ok (.return_, 1) := by decide +kernel
theorem dX2_kind_0 : decode cX2_kind 0 = .ok (.iconst 3, 1) := by decide +kernel
theorem dX2_kind_1 : decode cX2_kind 1 = .ok (.ireturn, 1) := by decide +kernel
theorem dX2_putName_0 : decode cX2_putName 0 = .ok (.aload_n 0, 1) := by decide +kernel
theorem dX2_putName_1 : decode cX2_putName 1 = .ok (.aload_n 0, 1) := by decide +kernel
theorem dX2_putName_2 : decode cX2_putName 2 = .ok (.getfield 7, 3) := by decide +kernel
theorem dX2_putName_5 : decode cX2_putName 5 = .ok (.iload_n 1, 1) := by decide +kernel
theorem dX2_putName_6 : decode cX2_putName 6 = .ok (.invokevirtual 13, 3) := by decide +kernel
theorem dX2_putName_9 : decode cX2_putName 9 = .ok (.aload_n 0, 1) := by decide +kernel
theorem dX2_putName_10 : decode cX2_putName 10 = .ok (.aload_n 0, 1) := by decide +kernel
theorem dX2_putName_11 : decode cX2_putName 11 = .ok (.getfield 7, 3) := by decide +kernel
theorem dX2_putName_14 : decode cX2_putName 14 = .ok (.iconst 1, 1) := by decide +kernel
theorem dX2_putName_15 : decode cX2_putName 15 = .ok (.isub, 1) := by decide +kernel
theorem dX2_putName_16 : decode cX2_putName 16 = .ok (.invokevirtual 17, 3) := by decide +kernel
theorem dX2_putName_19 : decode cX2_putName 19 = .ok (.pop, 1) := by decide +kernel
theorem dX2_putName_20 : decode cX2_putName 20 = .ok (.return_, 1) := by decide +kernel
theorem dX2_takeName_0 : decode cX2_takeName 0 = .ok (.aload_n 0, 1) := by decide +kernel
theorem dX2_takeName_1 : decode cX2_takeName 1 = .ok (.iload_n 1, 1) := by decide +kernel
theorem dX2_takeName_2 : decode cX2_takeName 2 = .ok (.invokevirtual 21, 3) := by decide +kernel
theorem dX2_takeName_5 : decode cX2_takeName 5 = .ok (.istore_n 2, 1) := by decide +kernel
theorem dX2_takeName_6 : decode cX2_takeName 6 = .ok (.iload_n 2, 1) := by decide +kernel
theorem dX2_takeName_7 : decode cX2_takeName 7 = .ok (.aload_n 0, 1) := by decide +kernel
theorem dX2_takeName_8 : decode cX2_takeName 8 = .ok (.getfield 7, 3) := by decide +kernel
theorem dX2_takeName_11 : decode cX2_takeName 11 = .ok (.if_icmp .lt 4, 3) := by decide +kernel
theorem dX2_takeName_14 : decode cX2_takeName 14 = .ok (.return_, 1) := by decide +kernel
theorem dX2_takeName_15 : decode cX2_takeName 15 = .ok (.aload_n 0, 1) := by decide +kernel
theorem dX2_takeName_16 : decode cX2_takeName 16 = .ok (.dup, 1) := by decide +kernel
theorem dX2_takeName_17 : decode cX2_takeName 17 = .ok (.getfield 24, 3) := by decide +kernel
theorem dX2_takeName_20 : decode cX2_takeName 20 = .ok (.iload_n 2, 1) := by decide +kernel
theorem dX2_takeName_21 : decode cX2_takeName 21 = .ok (.iconst 1, 1) := by decide +kernel
theorem dX2_takeName_22 : decode cX2_takeName 22 = .ok (.iadd, 1) := by decide +kernel
theorem dX2_takeName_23 : decode cX2_takeName 23 = .ok (.iadd, 1) := by decide +kernel
theorem dX2_takeName_24 : decode cX2_takeName 24 = .ok (.putfield 24, 3) := by decide +kernel
theorem dX2_takeName_27 : decode cX2_takeName 27 = .ok (.aload_n 0, 1) := by decide +kernel
theorem dX2_takeName_28 : decode cX2_takeName 28 = .ok (.dup, 1) := by decide +kernel
theorem dX2_takeName_29 : decode cX2_takeName 29 = .ok (.getfield 7, 3) := by decide +kernel
theorem dX2_takeName_32 : decode cX2_takeName 32 = .ok (.iconst 1, 1) := by decide +kernel
theorem dX2_takeName_33 : decode cX2_takeName 33 = .ok (.isub, 1) := by decide +kernel
theorem dX2_takeName_34 : decode cX2_takeName 34 = .ok (.putfield 7, 3) := by decide +kernel
theorem dX2_takeName_37 : decode cX2_takeName 37 = .ok (.iload_n 2, 1) := by decide +kernel
theorem dX2_takeName_38 : decode cX2_takeName 38 = .ok (.aload_n 0, 1) := by decide +kernel
theorem dX2_takeName_39 : decode cX2_takeName 39 = .ok (.getfield 7, 3) := by decide +kernel
theorem dX2_takeName_42 : decode cX2_takeName 42 = .ok (.if_icmp .ne 4, 3) := by decide +kernel
theorem dX2_takeName_45 : decode cX2_takeName 45 = .ok (.return_, 1) := by decide +kernel
theorem dX2_takeName_46 : decode cX2_takeName 46 = .ok (.aload_n 0, 1) := by decide +kernel
theorem dX2_takeName_47 : decode cX2_takeName 47 = .ok (.getfield 27, 3) := by decide +kernel
theorem dX2_takeName_50 : decode cX2_takeName 50 = .ok (.iload_n 2, 1) := by decide +kernel
theorem dX2_takeName_51 : decode cX2_takeName 51 = .ok (.aload_n 0, 1) := by decide +kernel
theorem dX2_takeName_52 : decode cX2_takeName 52 = .ok (.getfield 27, 3) := by decide +kernel
theorem dX2_takeName_55 : decode cX2_takeName 55 = .ok (.aload_n 0, 1) := by decide +kernel
theorem dX2_takeName_56 : decode cX2_takeName 56 = .ok (.getfield 7, 3) := by decide +kernel
theorem dX2_takeName_59 : decode cX2_takeName 59 = .ok (.iaload, 1) := by decide +kernel
theorem dX2_takeName_60 : decode cX2_takeName 60 = .ok (.iastore, 1) := by decide +kernel
theorem dX2_takeName_61 : decode cX2_takeName 61 = .ok (.aload_n 0, 1) := by decide +kernel
theorem dX2_takeName_62 : decode cX2_takeName 62 = .ok (.iload_n 2, 1) := by decide +kernel
theorem dX2_takeName_63 : decode cX2_takeName 63 = .ok (.invokevirtual 17, 3) := by decide +kernel
theorem dX2_takeName_66 : decode cX2_takeName 66 = .ok (.iload_n 2, 1) := by decide +kernel
theorem dX2_takeName_67 : decode cX2_takeName 67 = .ok (.if_icmp .ne 8, 3) := by decide +kernel
theorem dX2_takeName_70 : decode cX2_takeName 70 = .ok (.aload_n 0, 1) := by decide +kernel
theorem dX2_takeName_71 : decode cX2_takeName 71 = .ok (.iload_n 2, 1) := by decide +kernel
theorem dX2_takeName_72 : decode cX2_takeName 72 = .ok (.invokevirtual 31, 3) := by decide +kernel
theorem dX2_takeName_75 : decode cX2_takeName 75 = .ok (.return_, 1) := by decide +kernel
theorem dX2_rise_0 : decode cX2_rise 0 = .ok (.iload_n 1, 1) := by decide +kernel
theorem dX2_rise_1 : decode cX2_rise 1 = .ok (.istore_n 2, 1) := by decide +kernel
theorem dX2_rise_2 : decode cX2_rise 2 = .ok (.iload_n 2, 1) := by decide +kernel
theorem dX2_rise_3 : decode cX2_rise 3 = .ok (.ifCond .le 42, 3) := by decide +kernel
theorem dX2_rise_6 : decode cX2_rise 6 = .ok (.iload_n 2, 1) := by decide +kernel
theorem dX2_rise_7 : decode cX2_rise 7 = .ok (.iconst 1, 1) := by decide +kernel
theorem dX2_rise_8 : decode cX2_rise 8 = .ok (.isub, 1) := by decide +kernel
theorem dX2_rise_9 : decode cX2_rise 9 = .ok (.iconst 2, 1) := by decide +kernel
theorem dX2_rise_10 : decode cX2_rise 10 = .ok (.idiv, 1) := by decide +kernel
theorem dX2_rise_11 : decode cX2_rise 11 = .ok (.istore_n 3, 1) := by decide +kernel
theorem dX2_rise_12 : decode cX2_rise 12 = .ok (.aload_n 0, 1) := by decide +kernel
theorem dX2_rise_13 : decode cX2_rise 13 = .ok (.dup, 1) := by decide +kernel
theorem dX2_rise_14 : decode cX2_rise 14 = .ok (.getfield 24, 3) := by decide +kernel
theorem dX2_rise_17 : decode cX2_rise 17 = .ok (.iconst 1, 1) := by decide +kernel
theorem dX2_rise_18 : decode cX2_rise 18 = .ok (.iadd, 1) := by decide +kernel
theorem dX2_rise_19 : decode cX2_rise 19 = .ok (.putfield 24, 3) := by decide +kernel
theorem dX2_rise_22 : decode cX2_rise 22 = .ok (.aload_n 0, 1) := by decide +kernel
theorem dX2_rise_23 : decode cX2_rise 23 = .ok (.iload_n 2, 1) := by decide +kernel
theorem dX2_rise_24 : decode cX2_rise 24 = .ok (.iload_n 3, 1) := by decide +kernel
theorem dX2_rise_25 : decode cX2_rise 25 = .ok (.invokevirtual 35, 3) := by decide +kernel
theorem dX2_rise_28 : decode cX2_rise 28 = .ok (.ifCond .ne 6, 3) := by decide +kernel
theorem dX2_rise_31 : decode cX2_rise 31 = .ok (.goto 14, 3) := by decide +kernel
theorem dX2_rise_34 : decode cX2_rise 34 = .ok (.aload_n 0, 1) := by decide +kernel
theorem dX2_rise_35 : decode cX2_rise 35 = .ok (.iload_n 2, 1) := by decide +kernel
theorem dX2_rise_36 : decode cX2_rise 36 = .ok (.iload_n 3, 1) := by decide +kernel
theorem dX2_rise_37 : decode cX2_rise 37 = .ok (.invokevirtual 39, 3) := by decide +kernel
theorem dX2_rise_40 : decode cX2_rise 40 = .ok (.iload_n 3, 1) := by decide +kernel
theorem dX2_rise_41 : decode cX2_rise 41 = .ok (.istore_n 2, 1) := by decide +kernel
theorem dX2_rise_42 : decode cX2_rise 42 = .ok (.goto (-40), 3) := by decide +kernel
theorem dX2_rise_45 : decode cX2_rise 45 = .ok (.iload_n 2, 1) := by decide +kernel
theorem dX2_rise_46 : decode cX2_rise 46 = .ok (.ireturn, 1) := by decide +kernel
theorem dX2_sink_0 : decode cX2_sink 0 = .ok (.iload_n 1, 1) := by decide +kernel
theorem dX2_sink_1 : decode cX2_sink 1 = .ok (.istore_n 2, 1) := by decide +kernel
theorem dX2_sink_2 : decode cX2_sink 2 = .ok (.iconst 0, 1) := by decide +kernel
theorem dX2_sink_3 : decode cX2_sink 3 = .ok (.istore_n 3, 1) := by decide +kernel
theorem dX2_sink_4 : decode cX2_sink 4 = .ok (.iload_n 3, 1) := by decide +kernel
theorem dX2_sink_5 : decode cX2_sink 5 = .ok (.aload_n 0, 1) := by decide +kernel
theorem dX2_sink_6 : decode cX2_sink 6 = .ok (.getfield 7, 3) := by decide +kernel
theorem dX2_sink_9 : decode cX2_sink 9 = .ok (.if_icmp .ge 61, 3) := by decide +kernel
theorem dX2_sink_12 : decode cX2_sink 12 = .ok (.iconst 2, 1) := by decide +kernel
theorem dX2_sink_13 : decode cX2_sink 13 = .ok (.iload_n 2, 1) := by decide +kernel
theorem dX2_sink_14 : decode cX2_sink 14 = .ok (.imul, 1) := by decide +kernel
theorem dX2_sink_15 : decode cX2_sink 15 = .ok (.iconst 1, 1) := by decide +kernel
theorem dX2_sink_16 : decode cX2_sink 16 = .ok (.iadd, 1) := by decide +kernel
theorem dX2_sink_17 : decode cX2_sink 17 = .ok (.aload_n 0, 1) := by decide +kernel
theorem dX2_sink_18 : decode cX2_sink 18 = .ok (.getfield 7, 3) := by decide +kernel
theorem dX2_sink_21 : decode cX2_sink 21 = .ok (.if_icmp .ge 49, 3) := by decide +kernel
theorem dX2_sink_24 : decode cX2_sink 24 = .ok (.aload_n 0, 1) := by decide +kernel
theorem dX2_sink_25 : decode cX2_sink 25 = .ok (.iload_n 2, 1) := by decide +kernel
theorem dX2_sink_26 : decode cX2_sink 26 = .ok (.invokevirtual 42, 3) := by decide +kernel
theorem dX2_sink_29 : decode cX2_sink 29 = .ok (.istore 4, 2) := by decide +kernel
theorem dX2_sink_31 : decode cX2_sink 31 = .ok (.aload_n 0, 1) := by decide +kernel
theorem dX2_sink_32 : decode cX2_sink 32 = .ok (.dup, 1) := by decide +kernel
theorem dX2_sink_33 : decode cX2_sink 33 = .ok (.getfield 24, 3) := by decide +kernel
theorem dX2_sink_36 : decode cX2_sink 36 = .ok (.iconst 1, 1) := by decide +kernel
theorem dX2_sink_37 : decode cX2_sink 37 = .ok (.iadd, 1) := by decide +kernel
theorem dX2_sink_38 : decode cX2_sink 38 = .ok (.putfield 24, 3) := by decide +kernel
theorem dX2_sink_41 : decode cX2_sink 41 = .ok (.aload_n 0, 1) := by decide +kernel
theorem dX2_sink_42 : decode cX2_sink 42 = .ok (.iload 4, 2) := by decide +kernel
theorem dX2_sink_44 : decode cX2_sink 44 = .ok (.iload_n 2, 1) := by decide +kernel
theorem dX2_sink_45 : decode cX2_sink 45 = .ok (.invokevirtual 35, 3) := by decide +kernel
theorem dX2_sink_48 : decode cX2_sink 48 = .ok (.ifCond .ne 6, 3) := by decide +kernel
theorem dX2_sink_51 : decode cX2_sink 51 = .ok (.goto 19, 3) := by decide +kernel
theorem dX2_sink_54 : decode cX2_sink 54 = .ok (.aload_n 0, 1) := by decide +kernel
theorem dX2_sink_55 : decode cX2_sink 55 = .ok (.iload_n 2, 1) := by decide +kernel
theorem dX2_sink_56 : decode cX2_sink 56 = .ok (.iload 4, 2) := by decide +kernel
theorem dX2_sink_58 : decode cX2_sink 58 = .ok (.invokevirtual 39, 3) := by decide +kernel
theorem dX2_sink_61 : decode cX2_sink 61 = .ok (.iload 4, 2) := by decide +kernel
theorem dX2_sink_63 : decode cX2_sink 63 = .ok (.istore_n 2, 1) := by decide +kernel
theorem dX2_sink_64 : decode cX2_sink 64 = .ok (.iinc 3 1, 3) := by decide +kernel
theorem dX2_sink_67 : decode cX2_sink 67 = .ok (.goto (-63), 3) := by decide +kernel
theorem dX2_sink_70 : decode cX2_sink 70 = .ok (.return_, 1) := by decide +kernel
theorem dX2_lesserBelow_0 : decode cX2_lesserBelow 0 = .ok (.iconst 2, 1) := by decide +kernel
theorem dX2_lesserBelow_1 : decode cX2_lesserBelow 1 = .ok (.iload_n 1, 1) := by decide +kernel
theorem dX2_lesserBelow_2 : decode cX2_lesserBelow 2 = .ok (.imul, 1) := by decide +kernel
theorem dX2_lesserBelow_3 : decode cX2_lesserBelow 3 = .ok (.iconst 1, 1) := by decide +kernel
theorem dX2_lesserBelow_4 : decode cX2_lesserBelow 4 = .ok (.iadd, 1) := by decide +kernel
theorem dX2_lesserBelow_5 : decode cX2_lesserBelow 5 = .ok (.istore_n 2, 1) := by decide +kernel
theorem dX2_lesserBelow_6 : decode cX2_lesserBelow 6 = .ok (.iload_n 2, 1) := by decide +kernel
theorem dX2_lesserBelow_7 : decode cX2_lesserBelow 7 = .ok (.iconst 1, 1) := by decide +kernel
theorem dX2_lesserBelow_8 : decode cX2_lesserBelow 8 = .ok (.iadd, 1) := by decide +kernel
theorem dX2_lesserBelow_9 : decode cX2_lesserBelow 9 = .ok (.aload_n 0, 1) := by decide +kernel
theorem dX2_lesserBelow_10 : decode cX2_lesserBelow 10 = .ok (.getfield 7, 3) := by decide +kernel
theorem dX2_lesserBelow_13 : decode cX2_lesserBelow 13 = .ok (.if_icmp .lt 5, 3) := by decide +kernel
theorem dX2_lesserBelow_16 : decode cX2_lesserBelow 16 = .ok (.iload_n 2, 1) := by decide +kernel
theorem dX2_lesserBelow_17 : decode cX2_lesserBelow 17 = .ok (.ireturn, 1) := by decide +kernel
theorem dX2_lesserBelow_18 : decode cX2_lesserBelow 18 = .ok (.aload_n 0, 1) := by decide +kernel
theorem dX2_lesserBelow_19 : decode cX2_lesserBelow 19 = .ok (.dup, 1) := by decide +kernel
theorem dX2_lesserBelow_20 : decode cX2_lesserBelow 20 = .ok (.getfield 24, 3) := by decide +kernel
theorem dX2_lesserBelow_23 : decode cX2_lesserBelow 23 = .ok (.iconst 1, 1) := by decide +kernel
theorem dX2_lesserBelow_24 : decode cX2_lesserBelow 24 = .ok (.iadd, 1) := by decide +kernel
theorem dX2_lesserBelow_25 : decode cX2_lesserBelow 25 = .ok (.putfield 24, 3) := by decide +kernel
theorem dX2_lesserBelow_28 : decode cX2_lesserBelow 28 = .ok (.aload_n 0, 1) := by decide +kernel
theorem dX2_lesserBelow_29 : decode cX2_lesserBelow 29 = .ok (.iload_n 2, 1) := by decide +kernel
theorem dX2_lesserBelow_30 : decode cX2_lesserBelow 30 = .ok (.iconst 1, 1) := by decide +kernel
theorem dX2_lesserBelow_31 : decode cX2_lesserBelow 31 = .ok (.iadd, 1) := by decide +kernel
theorem dX2_lesserBelow_32 : decode cX2_lesserBelow 32 = .ok (.iload_n 2, 1) := by decide +kernel
theorem dX2_lesserBelow_33 : decode cX2_lesserBelow 33 = .ok (.invokevirtual 35, 3) := by decide +kernel
theorem dX2_lesserBelow_36 : decode cX2_lesserBelow 36 = .ok (.ifCond .eq 9, 3) := by decide +kernel
theorem dX2_lesserBelow_39 : decode cX2_lesserBelow 39 = .ok (.iload_n 2, 1) := by decide +kernel
theorem dX2_lesserBelow_40 : decode cX2_lesserBelow 40 = .ok (.iconst 1, 1) := by decide +kernel
theorem dX2_lesserBelow_41 : decode cX2_lesserBelow 41 = .ok (.iadd, 1) := by decide +kernel
theorem dX2_lesserBelow_42 : decode cX2_lesserBelow 42 = .ok (.goto 4, 3) := by decide +kernel
theorem dX2_lesserBelow_45 : decode cX2_lesserBelow 45 = .ok (.iload_n 2, 1) := by decide +kernel
theorem dX2_lesserBelow_46 : decode cX2_lesserBelow 46 = .ok (.ireturn, 1) := by decide +kernel
theorem dX2_isLess_0 : decode cX2_isLess 0 = .ok (.aload_n 0, 1) := by decide +kernel
theorem dX2_isLess_1 : decode cX2_isLess 1 = .ok (.aload_n 0, 1) := by decide +kernel
theorem dX2_isLess_2 : decode cX2_isLess 2 = .ok (.getfield 27, 3) := by decide +kernel
theorem dX2_isLess_5 : decode cX2_isLess 5 = .ok (.iload_n 1, 1) := by decide +kernel
theorem dX2_isLess_6 : decode cX2_isLess 6 = .ok (.iaload, 1) := by decide +kernel
theorem dX2_isLess_7 : decode cX2_isLess 7 = .ok (.aload_n 0, 1) := by decide +kernel
theorem dX2_isLess_8 : decode cX2_isLess 8 = .ok (.getfield 45, 3) := by decide +kernel
theorem dX2_isLess_11 : decode cX2_isLess 11 = .ok (.aload_n 0, 1) := by decide +kernel
theorem dX2_isLess_12 : decode cX2_isLess 12 = .ok (.getfield 27, 3) := by decide +kernel
theorem dX2_isLess_15 : decode cX2_isLess 15 = .ok (.iload_n 2, 1) := by decide +kernel
theorem dX2_isLess_16 : decode cX2_isLess 16 = .ok (.iaload, 1) := by decide +kernel
theorem dX2_isLess_17 : decode cX2_isLess 17 = .ok (.iaload, 1) := by decide +kernel
theorem dX2_isLess_18 : decode cX2_isLess 18 = .ok (.aload_n 0, 1) := by decide +kernel
theorem dX2_isLess_19 : decode cX2_isLess 19 = .ok (.getfield 27, 3) := by decide +kernel
theorem dX2_isLess_22 : decode cX2_isLess 22 = .ok (.iload_n 2, 1) := by decide +kernel
theorem dX2_isLess_23 : decode cX2_isLess 23 = .ok (.iaload, 1) := by decide +kernel
theorem dX2_isLess_24 : decode cX2_isLess 24 = .ok (.invokevirtual 48, 3) := by decide +kernel
theorem dX2_isLess_27 : decode cX2_isLess 27 = .ok (.ireturn, 1) := by decide +kernel
theorem dX2_change_0 : decode cX2_change 0 = .ok (.aload_n 0, 1) := by decide +kernel
theorem dX2_change_1 : decode cX2_change 1 = .ok (.getfield 27, 3) := by decide +kernel
theorem dX2_change_4 : decode cX2_change 4 = .ok (.iload_n 1, 1) := by decide +kernel
theorem dX2_change_5 : decode cX2_change 5 = .ok (.iaload, 1) := by decide +kernel
theorem dX2_change_6 : decode cX2_change 6 = .ok (.istore_n 3, 1) := by decide +kernel
theorem dX2_change_7 : decode cX2_change 7 = .ok (.aload_n 0, 1) := by decide +kernel
theorem dX2_change_8 : decode cX2_change 8 = .ok (.getfield 27, 3) := by decide +kernel
theorem dX2_change_11 : decode cX2_change 11 = .ok (.iload_n 1, 1) := by decide +kernel
theorem dX2_change_12 : decode cX2_change 12 = .ok (.aload_n 0, 1) := by decide +kernel
theorem dX2_change_13 : decode cX2_change 13 = .ok (.getfield 27, 3) := by decide +kernel
theorem dX2_change_16 : decode cX2_change 16 = .ok (.iload_n 2, 1) := by decide +kernel
theorem dX2_change_17 : decode cX2_change 17 = .ok (.iaload, 1) := by decide +kernel
theorem dX2_change_18 : decode cX2_change 18 = .ok (.iastore, 1) := by decide +kernel
theorem dX2_change_19 : decode cX2_change 19 = .ok (.aload_n 0, 1) := by decide +kernel
theorem dX2_change_20 : decode cX2_change 20 = .ok (.getfield 27, 3) := by decide +kernel
theorem dX2_change_23 : decode cX2_change 23 = .ok (.iload_n 2, 1) := by decide +kernel
theorem dX2_change_24 : decode cX2_change 24 = .ok (.iload_n 3, 1) := by decide +kernel
theorem dX2_change_25 : decode cX2_change 25 = .ok (.iastore, 1) := by decide +kernel
theorem dX2_change_26 : decode cX2_change 26 = .ok (.return_, 1) := by decide +kernel
theorem dX2_run_0 : decode cX2_run 0 = .ok (.aload_n 1, 1) := by decide +kernel
theorem dX2_run_1 : decode cX2_run 1 = .ok (.aload_n 0, 1) := by decide +kernel
theorem dX2_run_2 : decode cX2_run 2 = .ok (.getfield 52, 3) := by decide +kernel
theorem dX2_run_5 : decode cX2_run 5 = .ok (.invokevirtual 55, 3) := by decide +kernel
theorem dX2_run_8 : decode cX2_run 8 = .ok (.ifCond .ne 9, 3) := by decide +kernel
theorem dX2_run_11 : decode cX2_run 11 = .ok (.aload_n 0, 1) := by decide +kernel
theorem dX2_run_12 : decode cX2_run 12 = .ok (.aload_n 1, 1) := by decide +kernel
theorem dX2_run_13 : decode cX2_run 13 = .ok (.invokespecial 61, 3) := by decide +kernel
theorem dX2_run_16 : decode cX2_run 16 = .ok (.ireturn, 1) := by decide +kernel
theorem dX2_run_17 : decode cX2_run 17 = .ok (.aload_n 0, 1) := by decide +kernel
theorem dX2_run_18 : decode cX2_run 18 = .ok (.getfield 7, 3) := by decide +kernel
theorem dX2_run_21 : decode cX2_run 21 = .ok (.ifCond .le 27, 3) := by decide +kernel
theorem dX2_run_24 : decode cX2_run 24 = .ok (.aload_n 0, 1) := by decide +kernel
theorem dX2_run_25 : decode cX2_run 25 = .ok (.dup, 1) := by decide +kernel
theorem dX2_run_26 : decode cX2_run 26 = .ok (.getfield 24, 3) := by decide +kernel
theorem dX2_run_29 : decode cX2_run 29 = .ok (.iconst 1, 1) := by decide +kernel
theorem dX2_run_30 : decode cX2_run 30 = .ok (.iadd, 1) := by decide +kernel
theorem dX2_run_31 : decode cX2_run 31 = .ok (.putfield 24, 3) := by decide +kernel
theorem dX2_run_34 : decode cX2_run 34 = .ok (.aload_n 1, 1) := by decide +kernel
theorem dX2_run_35 : decode cX2_run 35 = .ok (.aload_n 0, 1) := by decide +kernel
theorem dX2_run_36 : decode cX2_run 36 = .ok (.getfield 65, 3) := by decide +kernel
theorem dX2_run_39 : decode cX2_run 39 = .ok (.aload_n 0, 1) := by decide +kernel
theorem dX2_run_40 : decode cX2_run 40 = .ok (.getfield 27, 3) := by decide +kernel
theorem dX2_run_43 : decode cX2_run 43 = .ok (.iconst 0, 1) := by decide +kernel
theorem dX2_run_44 : decode cX2_run 44 = .ok (.iaload, 1) := by decide +kernel
theorem dX2_run_45 : decode cX2_run 45 = .ok (.invokevirtual 69, 3) := by decide +kernel
theorem dX2_run_48 : decode cX2_run 48 = .ok (.aload_n 1, 1) := by decide +kernel
theorem dX2_run_49 : decode cX2_run 49 = .ok (.invokevirtual 73, 3) := by decide +kernel
theorem dX2_run_52 : decode cX2_run 52 = .ok (.ireturn, 1) := by decide +kernel
theorem dX2_priceFor_0 : decode cX2_priceFor 0 = .ok (.aload_n 1, 1) := by decide +kernel
theorem dX2_priceFor_1 : decode cX2_priceFor 1 = .ok (.aload_n 0, 1) := by decide +kernel
theorem dX2_priceFor_2 : decode cX2_priceFor 2 = .ok (.getfield 52, 3) := by decide +kernel
theorem dX2_priceFor_5 : decode cX2_priceFor 5 = .ok (.invokevirtual 55, 3) := by decide +kernel
theorem dX2_priceFor_8 : decode cX2_priceFor 8 = .ok (.ifCond .eq 7, 3) := by decide +kernel
theorem dX2_priceFor_11 : decode cX2_priceFor 11 = .ok (.iconst 1, 1) := by decide +kernel
theorem dX2_priceFor_12 : decode cX2_priceFor 12 = .ok (.goto 4, 3) := by decide +kernel
theorem dX2_priceFor_15 : decode cX2_priceFor 15 = .ok (.iload_n 2, 1) := by decide +kernel
theorem dX2_priceFor_16 : decode cX2_priceFor 16 = .ok (.ireturn, 1) := by decide +kernel
theorem dX2_priceOfPut_0 : decode cX2_priceOfPut 0 = .ok (.iload_n 1, 1) := by decide +kernel
theorem dX2_priceOfPut_1 : decode cX2_priceOfPut 1 = .ok (.invokestatic 77, 3) := by decide +kernel
theorem dX2_priceOfPut_4 : decode cX2_priceOfPut 4 = .ok (.ireturn, 1) := by decide +kernel
theorem dX2_keeps_0 : decode cX2_keeps 0 = .ok (.aload_n 0, 1) := by decide +kernel
theorem dX2_keeps_1 : decode cX2_keeps 1 = .ok (.bipush 40, 2) := by decide +kernel
theorem dX2_keeps_3 : decode cX2_keeps 3 = .ok (.invokevirtual 80, 3) := by decide +kernel
theorem dX2_keeps_6 : decode cX2_keeps 6 = .ok (.aload_n 0, 1) := by decide +kernel
theorem dX2_keeps_7 : decode cX2_keeps 7 = .ok (.iload_n 1, 1) := by decide +kernel
theorem dX2_keeps_8 : decode cX2_keeps 8 = .ok (.invokespecial 83, 3) := by decide +kernel
theorem dX2_keeps_11 : decode cX2_keeps 11 = .ok (.aload_n 0, 1) := by decide +kernel
theorem dX2_keeps_12 : decode cX2_keeps 12 = .ok (.iconst 2, 1) := by decide +kernel
theorem dX2_keeps_13 : decode cX2_keeps 13 = .ok (.invokevirtual 86, 3) := by decide +kernel
theorem dX2_keeps_16 : decode cX2_keeps 16 = .ok (.iadd, 1) := by decide +kernel
theorem dX2_keeps_17 : decode cX2_keeps 17 = .ok (.ireturn, 1) := by decide +kernel
theorem dX3_init_0 : decode cX3_init 0 = .ok (.aload_n 0, 1) := by decide +kernel
theorem dX3_init_1 : decode cX3_init 1 = .ok (.aload_n 1, 1) := by decide +kernel
theorem dX3_init_2 : decode cX3_init 2 = .ok (.iload_n 2, 1) := by decide +kernel
theorem dX3_init_3 : decode cX3_init 3 = .ok (.iload_n 3, 1) := by decide +kernel
theorem dX3_init_4 : decode cX3_init 4 = .ok (.invokespecial 3, 3) := by decide +kernel
theorem dX3_init_7 : decode cX3_init 7 = .ok (.aload_n 0, 1) := by decide +kernel
theorem dX3_init_8 : decode cX3_init 8 = .ok (.bipush 80, 2) := by decide +kernel
theorem dX3_init_10 : decode cX3_init 10 = .ok (.newarray .int, 2) := by decide +kernel
theorem dX3_init_12 : decode cX3_init 12 = .ok (.putfield 9, 3) := by decide +kernel
theorem dX3_init_15 : decode cX3_init 15 = .ok (.return_, 1) := by decide +kernel
theorem dX3_kind_0 : decode cX3_kind 0 = .ok (.iconst 1, 1) := by decide +kernel
theorem dX3_kind_1 : decode cX3_kind 1 = .ok (.ireturn, 1) := by decide +kernel
theorem dX3_putName_0 : decode cX3_putName 0 = .ok (.aload_n 0, 1) := by decide +kernel
theorem dX3_putName_1 : decode cX3_putName 1 = .ok (.dup, 1) := by decide +kernel
theorem dX3_putName_2 : decode cX3_putName 2 = .ok (.getfield 15, 3) := by decide +kernel
theorem dX3_putName_5 : decode cX3_putName 5 = .ok (.iconst 1, 1) := by decide +kernel
theorem dX3_putName_6 : decode cX3_putName 6 = .ok (.iadd, 1) := by decide +kernel
theorem dX3_putName_7 : decode cX3_putName 7 = .ok (.putfield 15, 3) := by decide +kernel
theorem dX3_putName_10 : decode cX3_putName 10 = .ok (.aload_n 0, 1) := by decide +kernel
theorem dX3_putName_11 : decode cX3_putName 11 = .ok (.aload_n 0, 1) := by decide +kernel
theorem dX3_putName_12 : decode cX3_putName 12 = .ok (.getfield 19, 3) := by decide +kernel
theorem dX3_putName_15 : decode cX3_putName 15 = .ok (.iload_n 1, 1) := by decide +kernel
theorem dX3_putName_16 : decode cX3_putName 16 = .ok (.invokevirtual 22, 3) := by decide +kernel
theorem dX3_putName_19 : decode cX3_putName 19 = .ok (.return_, 1) := by decide +kernel
theorem dX3_takeName_0 : decode cX3_takeName 0 = .ok (.aload_n 0, 1) := by decide +kernel
theorem dX3_takeName_1 : decode cX3_takeName 1 = .ok (.iload_n 1, 1) := by decide +kernel
theorem dX3_takeName_2 : decode cX3_takeName 2 = .ok (.invokevirtual 26, 3) := by decide +kernel
theorem dX3_takeName_5 : decode cX3_takeName 5 = .ok (.istore_n 2, 1) := by decide +kernel
theorem dX3_takeName_6 : decode cX3_takeName 6 = .ok (.aload_n 0, 1) := by decide +kernel
theorem dX3_takeName_7 : decode cX3_takeName 7 = .ok (.dup, 1) := by decide +kernel
theorem dX3_takeName_8 : decode cX3_takeName 8 = .ok (.getfield 15, 3) := by decide +kernel
theorem dX3_takeName_11 : decode cX3_takeName 11 = .ok (.iload_n 2, 1) := by decide +kernel
theorem dX3_takeName_12 : decode cX3_takeName 12 = .ok (.iconst 1, 1) := by decide +kernel
theorem dX3_takeName_13 : decode cX3_takeName 13 = .ok (.iadd, 1) := by decide +kernel
theorem dX3_takeName_14 : decode cX3_takeName 14 = .ok (.iadd, 1) := by decide +kernel
theorem dX3_takeName_15 : decode cX3_takeName 15 = .ok (.putfield 15, 3) := by decide +kernel
theorem dX3_takeName_18 : decode cX3_takeName 18 = .ok (.aload_n 0, 1) := by decide +kernel
theorem dX3_takeName_19 : decode cX3_takeName 19 = .ok (.iload_n 2, 1) := by decide +kernel
theorem dX3_takeName_20 : decode cX3_takeName 20 = .ok (.invokevirtual 30, 3) := by decide +kernel
theorem dX3_takeName_23 : decode cX3_takeName 23 = .ok (.return_, 1) := by decide +kernel
theorem dX3_placeOf_0 : decode cX3_placeOf 0 = .ok (.iconst 0, 1) := by decide +kernel
theorem dX3_placeOf_1 : decode cX3_placeOf 1 = .ok (.istore_n 2, 1) := by decide +kernel
theorem dX3_placeOf_2 : decode cX3_placeOf 2 = .ok (.iload_n 2, 1) := by decide +kernel
theorem dX3_placeOf_3 : decode cX3_placeOf 3 = .ok (.aload_n 0, 1) := by decide +kernel
theorem dX3_placeOf_4 : decode cX3_placeOf 4 = .ok (.getfield 19, 3) := by decide +kernel
theorem dX3_placeOf_7 : decode cX3_placeOf 7 = .ok (.if_icmp .ge 19, 3) := by decide +kernel
theorem dX3_placeOf_10 : decode cX3_placeOf 10 = .ok (.aload_n 0, 1) := by decide +kernel
theorem dX3_placeOf_11 : decode cX3_placeOf 11 = .ok (.getfield 9, 3) := by decide +kernel
theorem dX3_placeOf_14 : decode cX3_placeOf 14 = .ok (.iload_n 2, 1) := by decide +kernel
theorem dX3_placeOf_15 : decode cX3_placeOf 15 = .ok (.iaload, 1) := by decide +kernel
theorem dX3_placeOf_16 : decode cX3_placeOf 16 = .ok (.iload_n 1, 1) := by decide +kernel
theorem dX3_placeOf_17 : decode cX3_placeOf 17 = .ok (.if_icmp .eq 9, 3) := by decide +kernel
theorem dX3_placeOf_20 : decode cX3_placeOf 20 = .ok (.iinc 2 1, 3) := by decide +kernel
theorem dX3_placeOf_23 : decode cX3_placeOf 23 = .ok (.goto (-21), 3) := by decide +kernel
theorem dX3_placeOf_26 : decode cX3_placeOf 26 = .ok (.iload_n 2, 1) := by decide +kernel
theorem dX3_placeOf_27 : decode cX3_placeOf 27 = .ok (.ireturn, 1) := by decide +kernel
theorem dX3_insertAt_0 : decode cX3_insertAt 0 = .ok (.aload_n 0, 1) := by decide +kernel
theorem dX3_insertAt_1 : decode cX3_insertAt 1 = .ok (.getfield 19, 3) := by decide +kernel
theorem dX3_insertAt_4 : decode cX3_insertAt 4 = .ok (.bipush 80, 2) := by decide +kernel
theorem dX3_insertAt_6 : decode cX3_insertAt 6 = .ok (.if_icmp .ge 11, 3) := by decide +kernel
theorem dX3_insertAt_9 : decode cX3_insertAt 9 = .ok (.iload_n 1, 1) := by decide +kernel
theorem dX3_insertAt_10 : decode cX3_insertAt 10 = .ok (.aload_n 0, 1) := by decide +kernel
theorem dX3_insertAt_11 : decode cX3_insertAt 11 = .ok (.getfield 19, 3) := by decide +kernel
theorem dX3_insertAt_14 : decode cX3_insertAt 14 = .ok (.if_icmp .le 4, 3) := by decide +kernel
theorem dX3_insertAt_17 : decode cX3_insertAt 17 = .ok (.return_, 1) := by decide +kernel
theorem dX3_insertAt_18 : decode cX3_insertAt 18 = .ok (.aload_n 0, 1) := by decide +kernel
theorem dX3_insertAt_19 : decode cX3_insertAt 19 = .ok (.getfield 9, 3) := by decide +kernel
theorem dX3_insertAt_22 : decode cX3_insertAt 22 = .ok (.iload_n 1, 1) := by decide +kernel
theorem dX3_insertAt_23 : decode cX3_insertAt 23 = .ok (.aload_n 0, 1) := by decide +kernel
theorem dX3_insertAt_24 : decode cX3_insertAt 24 = .ok (.getfield 9, 3) := by decide +kernel
theorem dX3_insertAt_27 : decode cX3_insertAt 27 = .ok (.iload_n 1, 1) := by decide +kernel
theorem dX3_insertAt_28 : decode cX3_insertAt 28 = .ok (.iconst 1, 1) := by decide +kernel
theorem dX3_insertAt_29 : decode cX3_insertAt 29 = .ok (.iadd, 1) := by decide +kernel
theorem dX3_insertAt_30 : decode cX3_insertAt 30 = .ok (.aload_n 0, 1) := by decide +kernel
theorem dX3_insertAt_31 : decode cX3_insertAt 31 = .ok (.getfield 19, 3) := by decide +kernel
theorem dX3_insertAt_34 : decode cX3_insertAt 34 = .ok (.iload_n 1, 1) := by decide +kernel
theorem dX3_insertAt_35 : decode cX3_insertAt 35 = .ok (.isub, 1) := by decide +kernel
theorem dX3_insertAt_36 : decode cX3_insertAt 36 = .ok (.invokestatic 34, 3) := by decide +kernel
theorem dX3_insertAt_39 : decode cX3_insertAt 39 = .ok (.aload_n 0, 1) := by decide +kernel
theorem dX3_insertAt_40 : decode cX3_insertAt 40 = .ok (.getfield 9, 3) := by decide +kernel
theorem dX3_insertAt_43 : decode cX3_insertAt 43 = .ok (.iload_n 1, 1) := by decide +kernel
theorem dX3_insertAt_44 : decode cX3_insertAt 44 = .ok (.iload_n 2, 1) := by decide +kernel
theorem dX3_insertAt_45 : decode cX3_insertAt 45 = .ok (.iastore, 1) := by decide +kernel
theorem dX3_insertAt_46 : decode cX3_insertAt 46 = .ok (.aload_n 0, 1) := by decide +kernel
theorem dX3_insertAt_47 : decode cX3_insertAt 47 = .ok (.dup, 1) := by decide +kernel
theorem dX3_insertAt_48 : decode cX3_insertAt 48 = .ok (.getfield 19, 3) := by decide +kernel
theorem dX3_insertAt_51 : decode cX3_insertAt 51 = .ok (.iconst 1, 1) := by decide +kernel
theorem dX3_insertAt_52 : decode cX3_insertAt 52 = .ok (.iadd, 1) := by decide +kernel
theorem dX3_insertAt_53 : decode cX3_insertAt 53 = .ok (.putfield 19, 3) := by decide +kernel
theorem dX3_insertAt_56 : decode cX3_insertAt 56 = .ok (.return_, 1) := by decide +kernel
theorem dX3_removeAt_0 : decode cX3_removeAt 0 = .ok (.iload_n 1, 1) := by decide +kernel
theorem dX3_removeAt_1 : decode cX3_removeAt 1 = .ok (.aload_n 0, 1) := by decide +kernel
theorem dX3_removeAt_2 : decode cX3_removeAt 2 = .ok (.getfield 19, 3) := by decide +kernel
theorem dX3_removeAt_5 : decode cX3_removeAt 5 = .ok (.if_icmp .lt 4, 3) := by decide +kernel
theorem dX3_removeAt_8 : decode cX3_removeAt 8 = .ok (.return_, 1) := by decide +kernel
theorem dX3_removeAt_9 : decode cX3_removeAt 9 = .ok (.aload_n 0, 1) := by decide +kernel
theorem dX3_removeAt_10 : decode cX3_removeAt 10 = .ok (.dup, 1) := by decide +kernel
theorem dX3_removeAt_11 : decode cX3_removeAt 11 = .ok (.getfield 19, 3) := by decide +kernel
theorem dX3_removeAt_14 : decode cX3_removeAt 14 = .ok (.iconst 1, 1) := by decide +kernel
theorem dX3_removeAt_15 : decode cX3_removeAt 15 = .ok (.isub, 1) := by decide +kernel
theorem dX3_removeAt_16 : decode cX3_removeAt 16 = .ok (.putfield 19, 3) := by decide +kernel
theorem dX3_removeAt_19 : decode cX3_removeAt 19 = .ok (.aload_n 0, 1) := by decide +kernel
theorem dX3_removeAt_20 : decode cX3_removeAt 20 = .ok (.getfield 9, 3) := by decide +kernel
theorem dX3_removeAt_23 : decode cX3_removeAt 23 = .ok (.iload_n 1, 1) := by decide +kernel
theorem dX3_removeAt_24 : decode cX3_removeAt 24 = .ok (.iconst 1, 1) := by decide +kernel
theorem dX3_removeAt_25 : decode cX3_removeAt 25 = .ok (.iadd, 1) := by decide +kernel
theorem dX3_removeAt_26 : decode cX3_removeAt 26 = .ok (.aload_n 0, 1) := by decide +kernel
theorem dX3_removeAt_27 : decode cX3_removeAt 27 = .ok (.getfield 9, 3) := by decide +kernel
theorem dX3_removeAt_30 : decode cX3_removeAt 30 = .ok (.iload_n 1, 1) := by decide +kernel
theorem dX3_removeAt_31 : decode cX3_removeAt 31 = .ok (.aload_n 0, 1) := by decide +kernel
theorem dX3_removeAt_32 : decode cX3_removeAt 32 = .ok (.getfield 19, 3) := by decide +kernel
theorem dX3_removeAt_35 : decode cX3_removeAt 35 = .ok (.iload_n 1, 1) := by decide +kernel
theorem dX3_removeAt_36 : decode cX3_removeAt 36 = .ok (.isub, 1) := by decide +kernel
theorem dX3_removeAt_37 : decode cX3_removeAt 37 = .ok (.invokestatic 34, 3) := by decide +kernel
theorem dX3_removeAt_40 : decode cX3_removeAt 40 = .ok (.return_, 1) := by decide +kernel
theorem dX3_howMany_0 : decode cX3_howMany 0 = .ok (.aload_n 0, 1) := by decide +kernel
theorem dX3_howMany_1 : decode cX3_howMany 1 = .ok (.getfield 19, 3) := by decide +kernel
theorem dX3_howMany_4 : decode cX3_howMany 4 = .ok (.ireturn, 1) := by decide +kernel
theorem dX3_nameIn_0 : decode cX3_nameIn 0 = .ok (.iload_n 1, 1) := by decide +kernel
theorem dX3_nameIn_1 : decode cX3_nameIn 1 = .ok (.iconst 0, 1) := by decide +kernel
theorem dX3_nameIn_2 : decode cX3_nameIn 2 = .ok (.aload_n 0, 1) := by decide +kernel
theorem dX3_nameIn_3 : decode cX3_nameIn 3 = .ok (.getfield 19, 3) := by decide +kernel
theorem dX3_nameIn_6 : decode cX3_nameIn 6 = .ok (.iconst 1, 1) := by decide +kernel
theorem dX3_nameIn_7 : decode cX3_nameIn 7 = .ok (.isub, 1) := by decide +kernel
theorem dX3_nameIn_8 : decode cX3_nameIn 8 = .ok (.invokestatic 40, 3) := by decide +kernel
theorem dX3_nameIn_11 : decode cX3_nameIn 11 = .ok (.ifCond .eq 12, 3) := by decide +kernel
theorem dX3_nameIn_14 : decode cX3_nameIn 14 = .ok (.aload_n 0, 1) := by decide +kernel
theorem dX3_nameIn_15 : decode cX3_nameIn 15 = .ok (.getfield 9, 3) := by decide +kernel
theorem dX3_nameIn_18 : decode cX3_nameIn 18 = .ok (.iload_n 1, 1) := by decide +kernel
theorem dX3_nameIn_19 : decode cX3_nameIn 19 = .ok (.iaload, 1) := by decide +kernel
theorem dX3_nameIn_20 : decode cX3_nameIn 20 = .ok (.goto 4, 3) := by decide +kernel
theorem dX3_nameIn_23 : decode cX3_nameIn 23 = .ok (.iconst (-1), 1) := by decide +kernel
theorem dX3_nameIn_24 : decode cX3_nameIn 24 = .ok (.ireturn, 1) := by decide +kernel
theorem dX3_run_0 : decode cX3_run 0 = .ok (.iconst 0, 1) := by decide +kernel
theorem dX3_run_1 : decode cX3_run 1 = .ok (.istore_n 2, 1) := by decide +kernel
theorem dX3_run_2 : decode cX3_run 2 = .ok (.iload_n 2, 1) := by decide +kernel
theorem dX3_run_3 : decode cX3_run 3 = .ok (.aload_n 0, 1) := by decide +kernel
theorem dX3_run_4 : decode cX3_run 4 = .ok (.getfield 19, 3) := by decide +kernel
theorem dX3_run_7 : decode cX3_run 7 = .ok (.if_icmp .ge 33, 3) := by decide +kernel
theorem dX3_run_10 : decode cX3_run 10 = .ok (.aload_n 0, 1) := by decide +kernel
theorem dX3_run_11 : decode cX3_run 11 = .ok (.dup, 1) := by decide +kernel
theorem dX3_run_12 : decode cX3_run 12 = .ok (.getfield 15, 3) := by decide +kernel
theorem dX3_run_15 : decode cX3_run 15 = .ok (.iconst 1, 1) := by decide +kernel
theorem dX3_run_16 : decode cX3_run 16 = .ok (.iadd, 1) := by decide +kernel
theorem dX3_run_17 : decode cX3_run 17 = .ok (.putfield 15, 3) := by decide +kernel
theorem dX3_run_20 : decode cX3_run 20 = .ok (.aload_n 1, 1) := by decide +kernel
theorem dX3_run_21 : decode cX3_run 21 = .ok (.aload_n 0, 1) := by decide +kernel
theorem dX3_run_22 : decode cX3_run 22 = .ok (.getfield 44, 3) := by decide +kernel
theorem dX3_run_25 : decode cX3_run 25 = .ok (.aload_n 0, 1) := by decide +kernel
theorem dX3_run_26 : decode cX3_run 26 = .ok (.getfield 9, 3) := by decide +kernel
theorem dX3_run_29 : decode cX3_run 29 = .ok (.iload_n 2, 1) := by decide +kernel
theorem dX3_run_30 : decode cX3_run 30 = .ok (.iaload, 1) := by decide +kernel
theorem dX3_run_31 : decode cX3_run 31 = .ok (.invokevirtual 48, 3) := by decide +kernel
theorem dX3_run_34 : decode cX3_run 34 = .ok (.iinc 2 1, 3) := by decide +kernel
theorem dX3_run_37 : decode cX3_run 37 = .ok (.goto (-35), 3) := by decide +kernel
theorem dX3_run_40 : decode cX3_run 40 = .ok (.aload_n 1, 1) := by decide +kernel
theorem dX3_run_41 : decode cX3_run 41 = .ok (.invokevirtual 54, 3) := by decide +kernel
theorem dX3_run_44 : decode cX3_run 44 = .ok (.ireturn, 1) := by decide +kernel
theorem dX3_priceFor_0 : decode cX3_priceFor 0 = .ok (.iload_n 2, 1) := by decide +kernel
theorem dX3_priceFor_1 : decode cX3_priceFor 1 = .ok (.ireturn, 1) := by decide +kernel
theorem dX3_priceOfPut_0 : decode cX3_priceOfPut 0 = .ok (.iconst 1, 1) := by decide +kernel
theorem dX3_priceOfPut_1 : decode cX3_priceOfPut 1 = .ok (.ireturn, 1) := by decide +kernel
theorem dX3_finds_0 : decode cX3_finds 0 = .ok (.aload_n 0, 1) := by decide +kernel
theorem dX3_finds_1 : decode cX3_finds 1 = .ok (.bipush 20, 2) := by decide +kernel
theorem dX3_finds_3 : decode cX3_finds 3 = .ok (.invokevirtual 58, 3) := by decide +kernel
theorem dX3_finds_6 : decode cX3_finds 6 = .ok (.aload_n 0, 1) := by decide +kernel
theorem dX3_finds_7 : decode cX3_finds 7 = .ok (.iload_n 1, 1) := by decide +kernel
theorem dX3_finds_8 : decode cX3_finds 8 = .ok (.invokespecial 61, 3) := by decide +kernel
theorem dX3_finds_11 : decode cX3_finds 11 = .ok (.aload_n 0, 1) := by decide +kernel
theorem dX3_finds_12 : decode cX3_finds 12 = .ok (.getfield 64, 3) := by decide +kernel
theorem dX3_finds_15 : decode cX3_finds 15 = .ok (.iadd, 1) := by decide +kernel
theorem dX3_finds_16 : decode cX3_finds 16 = .ok (.ireturn, 1) := by decide +kernel
theorem dX4_init_0 : decode cX4_init 0 = .ok (.aload_n 0, 1) := by decide +kernel
theorem dX4_init_1 : decode cX4_init 1 = .ok (.aload_n 1, 1) := by decide +kernel
theorem dX4_init_2 : decode cX4_init 2 = .ok (.iload_n 2, 1) := by decide +kernel
theorem dX4_init_3 : decode cX4_init 3 = .ok (.iload_n 3, 1) := by decide +kernel
theorem dX4_init_4 : decode cX4_init 4 = .ok (.invokespecial 3, 3) := by decide +kernel
theorem dX4_init_7 : decode cX4_init 7 = .ok (.return_, 1) := by decide +kernel
theorem dX4_kind_0 : decode cX4_kind 0 = .ok (.iconst 2, 1) := by decide +kernel
theorem dX4_kind_1 : decode cX4_kind 1 = .ok (.ireturn, 1) := by decide +kernel
theorem dX4_placeFor_0 : decode cX4_placeFor 0 = .ok (.iconst 0, 1) := by decide +kernel
theorem dX4_placeFor_1 : decode cX4_placeFor 1 = .ok (.istore_n 3, 1) := by decide +kernel
theorem dX4_placeFor_2 : decode cX4_placeFor 2 = .ok (.aload_n 0, 1) := by decide +kernel
theorem dX4_placeFor_3 : decode cX4_placeFor 3 = .ok (.getfield 9, 3) := by decide +kernel
theorem dX4_placeFor_6 : decode cX4_placeFor 6 = .ok (.istore 4, 2) := by decide +kernel
theorem dX4_placeFor_8 : decode cX4_placeFor 8 = .ok (.iload_n 3, 1) := by decide +kernel
theorem dX4_placeFor_9 : decode cX4_placeFor 9 = .ok (.iload 4, 2) := by decide +kernel
theorem dX4_placeFor_11 : decode cX4_placeFor 11 = .ok (.if_icmp .ge 52, 3) := by decide +kernel
theorem dX4_placeFor_14 : decode cX4_placeFor 14 = .ok (.iload_n 3, 1) := by decide +kernel
theorem dX4_placeFor_15 : decode cX4_placeFor 15 = .ok (.iload 4, 2) := by decide +kernel
theorem dX4_placeFor_17 : decode cX4_placeFor 17 = .ok (.iadd, 1) := by decide +kernel
theorem dX4_placeFor_18 : decode cX4_placeFor 18 = .ok (.iconst 2, 1) := by decide +kernel
theorem dX4_placeFor_19 : decode cX4_placeFor 19 = .ok (.idiv, 1) := by decide +kernel
theorem dX4_placeFor_20 : decode cX4_placeFor 20 = .ok (.istore 5, 2) := by decide +kernel
theorem dX4_placeFor_22 : decode cX4_placeFor 22 = .ok (.aload_n 0, 1) := by decide +kernel
theorem dX4_placeFor_23 : decode cX4_placeFor 23 = .ok (.dup, 1) := by decide +kernel
theorem dX4_placeFor_24 : decode cX4_placeFor 24 = .ok (.getfield 15, 3) := by decide +kernel
theorem dX4_placeFor_27 : decode cX4_placeFor 27 = .ok (.iconst 1, 1) := by decide +kernel
theorem dX4_placeFor_28 : decode cX4_placeFor 28 = .ok (.iadd, 1) := by decide +kernel
theorem dX4_placeFor_29 : decode cX4_placeFor 29 = .ok (.putfield 15, 3) := by decide +kernel
theorem dX4_placeFor_32 : decode cX4_placeFor 32 = .ok (.aload_n 0, 1) := by decide +kernel
theorem dX4_placeFor_33 : decode cX4_placeFor 33 = .ok (.aload_n 0, 1) := by decide +kernel
theorem dX4_placeFor_34 : decode cX4_placeFor 34 = .ok (.getfield 18, 3) := by decide +kernel
theorem dX4_placeFor_37 : decode cX4_placeFor 37 = .ok (.iload 5, 2) := by decide +kernel
theorem dX4_placeFor_39 : decode cX4_placeFor 39 = .ok (.iaload, 1) := by decide +kernel
theorem dX4_placeFor_40 : decode cX4_placeFor 40 = .ok (.iload_n 1, 1) := by decide +kernel
theorem dX4_placeFor_41 : decode cX4_placeFor 41 = .ok (.iload_n 2, 1) := by decide +kernel
theorem dX4_placeFor_42 : decode cX4_placeFor 42 = .ok (.invokevirtual 22, 3) := by decide +kernel
theorem dX4_placeFor_45 : decode cX4_placeFor 45 = .ok (.ifCond .eq 11, 3) := by decide +kernel
theorem dX4_placeFor_48 : decode cX4_placeFor 48 = .ok (.iload 5, 2) := by decide +kernel
theorem dX4_placeFor_50 : decode cX4_placeFor 50 = .ok (.iconst 1, 1) := by decide +kernel
theorem dX4_placeFor_51 : decode cX4_placeFor 51 = .ok (.iadd, 1) := by decide +kernel
theorem dX4_placeFor_52 : decode cX4_placeFor 52 = .ok (.istore_n 3, 1) := by decide +kernel
theorem dX4_placeFor_53 : decode cX4_placeFor 53 = .ok (.goto 7, 3) := by decide +kernel
theorem dX4_placeFor_56 : decode cX4_placeFor 56 = .ok (.iload 5, 2) := by decide +kernel
theorem dX4_placeFor_58 : decode cX4_placeFor 58 = .ok (.istore 4, 2) := by decide +kernel
theorem dX4_placeFor_60 : decode cX4_placeFor 60 = .ok (.goto (-52), 3) := by decide +kernel
theorem dX4_placeFor_63 : decode cX4_placeFor 63 = .ok (.iload_n 3, 1) := by decide +kernel
theorem dX4_placeFor_64 : decode cX4_placeFor 64 = .ok (.ireturn, 1) := by decide +kernel
theorem dX4_putName_0 : decode cX4_putName 0 = .ok (.aload_n 0, 1) := by decide +kernel
theorem dX4_putName_1 : decode cX4_putName 1 = .ok (.aload_n 0, 1) := by decide +kernel
theorem dX4_putName_2 : decode cX4_putName 2 = .ok (.getfield 26, 3) := by decide +kernel
theorem dX4_putName_5 : decode cX4_putName 5 = .ok (.iload_n 1, 1) := by decide +kernel
theorem dX4_putName_6 : decode cX4_putName 6 = .ok (.iaload, 1) := by decide +kernel
theorem dX4_putName_7 : decode cX4_putName 7 = .ok (.iload_n 1, 1) := by decide +kernel
theorem dX4_putName_8 : decode cX4_putName 8 = .ok (.invokevirtual 29, 3) := by decide +kernel
theorem dX4_putName_11 : decode cX4_putName 11 = .ok (.istore_n 2, 1) := by decide +kernel
theorem dX4_putName_12 : decode cX4_putName 12 = .ok (.aload_n 0, 1) := by decide +kernel
theorem dX4_putName_13 : decode cX4_putName 13 = .ok (.dup, 1) := by decide +kernel
theorem dX4_putName_14 : decode cX4_putName 14 = .ok (.getfield 15, 3) := by decide +kernel
theorem dX4_putName_17 : decode cX4_putName 17 = .ok (.aload_n 0, 1) := by decide +kernel
theorem dX4_putName_18 : decode cX4_putName 18 = .ok (.getfield 9, 3) := by decide +kernel
theorem dX4_putName_21 : decode cX4_putName 21 = .ok (.iload_n 2, 1) := by decide +kernel
theorem dX4_putName_22 : decode cX4_putName 22 = .ok (.isub, 1) := by decide +kernel
theorem dX4_putName_23 : decode cX4_putName 23 = .ok (.iadd, 1) := by decide +kernel
theorem dX4_putName_24 : decode cX4_putName 24 = .ok (.putfield 15, 3) := by decide +kernel
theorem dX4_putName_27 : decode cX4_putName 27 = .ok (.aload_n 0, 1) := by decide +kernel
theorem dX4_putName_28 : decode cX4_putName 28 = .ok (.iload_n 2, 1) := by decide +kernel
theorem dX4_putName_29 : decode cX4_putName 29 = .ok (.iload_n 1, 1) := by decide +kernel
theorem dX4_putName_30 : decode cX4_putName 30 = .ok (.invokevirtual 33, 3) := by decide +kernel
theorem dX4_putName_33 : decode cX4_putName 33 = .ok (.return_, 1) := by decide +kernel
theorem dX4_takeName_0 : decode cX4_takeName 0 = .ok (.aload_n 0, 1) := by decide +kernel
theorem dX4_takeName_1 : decode cX4_takeName 1 = .ok (.aload_n 0, 1) := by decide +kernel
theorem dX4_takeName_2 : decode cX4_takeName 2 = .ok (.getfield 26, 3) := by decide +kernel
theorem dX4_takeName_5 : decode cX4_takeName 5 = .ok (.iload_n 1, 1) := by decide +kernel
theorem dX4_takeName_6 : decode cX4_takeName 6 = .ok (.iaload, 1) := by decide +kernel
theorem dX4_takeName_7 : decode cX4_takeName 7 = .ok (.iload_n 1, 1) := by decide +kernel
theorem dX4_takeName_8 : decode cX4_takeName 8 = .ok (.invokevirtual 29, 3) := by decide +kernel
theorem dX4_takeName_11 : decode cX4_takeName 11 = .ok (.istore_n 2, 1) := by decide +kernel
theorem dX4_takeName_12 : decode cX4_takeName 12 = .ok (.aload_n 0, 1) := by decide +kernel
theorem dX4_takeName_13 : decode cX4_takeName 13 = .ok (.dup, 1) := by decide +kernel
theorem dX4_takeName_14 : decode cX4_takeName 14 = .ok (.getfield 15, 3) := by decide +kernel
theorem dX4_takeName_17 : decode cX4_takeName 17 = .ok (.aload_n 0, 1) := by decide +kernel
theorem dX4_takeName_18 : decode cX4_takeName 18 = .ok (.getfield 9, 3) := by decide +kernel
theorem dX4_takeName_21 : decode cX4_takeName 21 = .ok (.iconst 1, 1) := by decide +kernel
theorem dX4_takeName_22 : decode cX4_takeName 22 = .ok (.isub, 1) := by decide +kernel
theorem dX4_takeName_23 : decode cX4_takeName 23 = .ok (.iload_n 2, 1) := by decide +kernel
theorem dX4_takeName_24 : decode cX4_takeName 24 = .ok (.isub, 1) := by decide +kernel
theorem dX4_takeName_25 : decode cX4_takeName 25 = .ok (.iadd, 1) := by decide +kernel
theorem dX4_takeName_26 : decode cX4_takeName 26 = .ok (.putfield 15, 3) := by decide +kernel
theorem dX4_takeName_29 : decode cX4_takeName 29 = .ok (.aload_n 0, 1) := by decide +kernel
theorem dX4_takeName_30 : decode cX4_takeName 30 = .ok (.iload_n 2, 1) := by decide +kernel
theorem dX4_takeName_31 : decode cX4_takeName 31 = .ok (.invokevirtual 37, 3) := by decide +kernel
theorem dX4_takeName_34 : decode cX4_takeName 34 = .ok (.return_, 1) := by decide +kernel
theorem dX4_run_0 : decode cX4_run 0 = .ok (.aload_n 1, 1) := by decide +kernel
theorem dX4_run_1 : decode cX4_run 1 = .ok (.aload_n 0, 1) := by decide +kernel
theorem dX4_run_2 : decode cX4_run 2 = .ok (.getfield 41, 3) := by decide +kernel
theorem dX4_run_5 : decode cX4_run 5 = .ok (.invokevirtual 44, 3) := by decide +kernel
theorem dX4_run_8 : decode cX4_run 8 = .ok (.istore_n 2, 1) := by decide +kernel
theorem dX4_run_9 : decode cX4_run 9 = .ok (.aload_n 0, 1) := by decide +kernel
theorem dX4_run_10 : decode cX4_run 10 = .ok (.aload_n 1, 1) := by decide +kernel
theorem dX4_run_11 : decode cX4_run 11 = .ok (.aload_n 0, 1) := by decide +kernel
theorem dX4_run_12 : decode cX4_run 12 = .ok (.getfield 41, 3) := by decide +kernel
theorem dX4_run_15 : decode cX4_run 15 = .ok (.invokevirtual 50, 3) := by decide +kernel
theorem dX4_run_18 : decode cX4_run 18 = .ok (.iconst (-1), 1) := by decide +kernel
theorem dX4_run_19 : decode cX4_run 19 = .ok (.invokevirtual 29, 3) := by decide +kernel
theorem dX4_run_22 : decode cX4_run 22 = .ok (.istore_n 3, 1) := by decide +kernel
theorem dX4_run_23 : decode cX4_run 23 = .ok (.iload_n 3, 1) := by decide +kernel
theorem dX4_run_24 : decode cX4_run 24 = .ok (.aload_n 0, 1) := by decide +kernel
theorem dX4_run_25 : decode cX4_run 25 = .ok (.getfield 9, 3) := by decide +kernel
theorem dX4_run_28 : decode cX4_run 28 = .ok (.if_icmp .ge 51, 3) := by decide +kernel
theorem dX4_run_31 : decode cX4_run 31 = .ok (.aload_n 0, 1) := by decide +kernel
theorem dX4_run_32 : decode cX4_run 32 = .ok (.dup, 1) := by decide +kernel
theorem dX4_run_33 : decode cX4_run 33 = .ok (.getfield 15, 3) := by decide +kernel
theorem dX4_run_36 : decode cX4_run 36 = .ok (.iconst 1, 1) := by decide +kernel
theorem dX4_run_37 : decode cX4_run 37 = .ok (.iadd, 1) := by decide +kernel
theorem dX4_run_38 : decode cX4_run 38 = .ok (.putfield 15, 3) := by decide +kernel
theorem dX4_run_41 : decode cX4_run 41 = .ok (.aload_n 0, 1) := by decide +kernel
theorem dX4_run_42 : decode cX4_run 42 = .ok (.getfield 26, 3) := by decide +kernel
theorem dX4_run_45 : decode cX4_run 45 = .ok (.aload_n 0, 1) := by decide +kernel
theorem dX4_run_46 : decode cX4_run 46 = .ok (.getfield 18, 3) := by decide +kernel
theorem dX4_run_49 : decode cX4_run 49 = .ok (.iload_n 3, 1) := by decide +kernel
theorem dX4_run_50 : decode cX4_run 50 = .ok (.iaload, 1) := by decide +kernel
theorem dX4_run_51 : decode cX4_run 51 = .ok (.iaload, 1) := by decide +kernel
theorem dX4_run_52 : decode cX4_run 52 = .ok (.iload_n 2, 1) := by decide +kernel
theorem dX4_run_53 : decode cX4_run 53 = .ok (.if_icmp .le 6, 3) := by decide +kernel
theorem dX4_run_56 : decode cX4_run 56 = .ok (.goto 23, 3) := by decide +kernel
theorem dX4_run_59 : decode cX4_run 59 = .ok (.aload_n 1, 1) := by decide +kernel
theorem dX4_run_60 : decode cX4_run 60 = .ok (.aload_n 0, 1) := by decide +kernel
theorem dX4_run_61 : decode cX4_run 61 = .ok (.getfield 53, 3) := by decide +kernel
theorem dX4_run_64 : decode cX4_run 64 = .ok (.aload_n 0, 1) := by decide +kernel
theorem dX4_run_65 : decode cX4_run 65 = .ok (.getfield 18, 3) := by decide +kernel
theorem dX4_run_68 : decode cX4_run 68 = .ok (.iload_n 3, 1) := by decide +kernel
theorem dX4_run_69 : decode cX4_run 69 = .ok (.iaload, 1) := by decide +kernel
theorem dX4_run_70 : decode cX4_run 70 = .ok (.invokevirtual 57, 3) := by decide +kernel
theorem dX4_run_73 : decode cX4_run 73 = .ok (.iinc 3 1, 3) := by decide +kernel
theorem dX4_run_76 : decode cX4_run 76 = .ok (.goto (-53), 3) := by decide +kernel
theorem dX4_run_79 : decode cX4_run 79 = .ok (.aload_n 1, 1) := by decide +kernel
theorem dX4_run_80 : decode cX4_run 80 = .ok (.invokevirtual 61, 3) := by decide +kernel
theorem dX4_run_83 : decode cX4_run 83 = .ok (.ireturn, 1) := by decide +kernel
theorem dX4_priceFor_0 : decode cX4_priceFor 0 = .ok (.aload_n 1, 1) := by decide +kernel
theorem dX4_priceFor_1 : decode cX4_priceFor 1 = .ok (.aload_n 0, 1) := by decide +kernel
theorem dX4_priceFor_2 : decode cX4_priceFor 2 = .ok (.getfield 41, 3) := by decide +kernel
theorem dX4_priceFor_5 : decode cX4_priceFor 5 = .ok (.iload_n 2, 1) := by decide +kernel
theorem dX4_priceFor_6 : decode cX4_priceFor 6 = .ok (.invokestatic 65, 3) := by decide +kernel
theorem dX4_priceFor_9 : decode cX4_priceFor 9 = .ok (.ireturn, 1) := by decide +kernel
theorem dX4_priceOfPut_0 : decode cX4_priceOfPut 0 = .ok (.iload_n 1, 1) := by decide +kernel
theorem dX4_priceOfPut_1 : decode cX4_priceOfPut 1 = .ok (.invokestatic 69, 3) := by decide +kernel
theorem dX4_priceOfPut_4 : decode cX4_priceOfPut 4 = .ok (.iload_n 1, 1) := by decide +kernel
theorem dX4_priceOfPut_5 : decode cX4_priceOfPut 5 = .ok (.iconst 2, 1) := by decide +kernel
theorem dX4_priceOfPut_6 : decode cX4_priceOfPut 6 = .ok (.idiv, 1) := by decide +kernel
theorem dX4_priceOfPut_7 : decode cX4_priceOfPut 7 = .ok (.iadd, 1) := by decide +kernel
theorem dX4_priceOfPut_8 : decode cX4_priceOfPut 8 = .ok (.ireturn, 1) := by decide +kernel
theorem dX4_mends_0 : decode cX4_mends 0 = .ok (.aload_n 0, 1) := by decide +kernel
theorem dX4_mends_1 : decode cX4_mends 1 = .ok (.bipush 30, 2) := by decide +kernel
theorem dX4_mends_3 : decode cX4_mends 3 = .ok (.invokevirtual 72, 3) := by decide +kernel
theorem dX4_mends_6 : decode cX4_mends 6 = .ok (.aload_n 0, 1) := by decide +kernel
theorem dX4_mends_7 : decode cX4_mends 7 = .ok (.iload_n 1, 1) := by decide +kernel
theorem dX4_mends_8 : decode cX4_mends 8 = .ok (.invokespecial 75, 3) := by decide +kernel
theorem dX4_mends_11 : decode cX4_mends 11 = .ok (.iconst 1, 1) := by decide +kernel
theorem dX4_mends_12 : decode cX4_mends 12 = .ok (.isub, 1) := by decide +kernel
theorem dX4_mends_13 : decode cX4_mends 13 = .ok (.ireturn, 1) := by decide +kernel
theorem dX5_init_0 : decode cX5_init 0 = .ok (.aload_n 0, 1) := by decide +kernel
theorem dX5_init_1 : decode cX5_init 1 = .ok (.invokespecial 3, 3) := by decide +kernel
theorem dX5_init_4 : decode cX5_init 4 = .ok (.aload_n 0, 1) := by decide +kernel
theorem dX5_init_5 : decode cX5_init 5 = .ok (.bipush 24, 2) := by decide +kernel
theorem dX5_init_7 : decode cX5_init 7 = .ok (.newarray .int, 2) := by decide +kernel
theorem dX5_init_9 : decode cX5_init 9 = .ok (.putfield 9, 3) := by decide +kernel
theorem dX5_init_12 : decode cX5_init 12 = .ok (.aload_n 0, 1) := by decide +kernel
theorem dX5_init_13 : decode cX5_init 13 = .ok (.aload_n 1, 1) := by decide +kernel
theorem dX5_init_14 : decode cX5_init 14 = .ok (.putfield 15, 3) := by decide +kernel
theorem dX5_init_17 : decode cX5_init 17 = .ok (.aload_n 0, 1) := by decide +kernel
theorem dX5_init_18 : decode cX5_init 18 = .ok (.iload_n 2, 1) := by decide +kernel
theorem dX5_init_19 : decode cX5_init 19 = .ok (.putfield 19, 3) := by decide +kernel
theorem dX5_init_22 : decode cX5_init 22 = .ok (.aload_n 0, 1) := by decide +kernel
theorem dX5_init_23 : decode cX5_init 23 = .ok (.iload_n 3, 1) := by decide +kernel
theorem dX5_init_24 : decode cX5_init 24 = .ok (.putfield 23, 3) := by decide +kernel
theorem dX5_init_27 : decode cX5_init 27 = .ok (.aload_n 0, 1) := by decide +kernel
theorem dX5_init_28 : decode cX5_init 28 = .ok (.aload_n 1, 1) := by decide +kernel
theorem dX5_init_29 : decode cX5_init 29 = .ok (.getfield 26, 3) := by decide +kernel
theorem dX5_init_32 : decode cX5_init 32 = .ok (.iload_n 3, 1) := by decide +kernel
theorem dX5_init_33 : decode cX5_init 33 = .ok (.aaload, 1) := by decide +kernel
theorem dX5_init_34 : decode cX5_init 34 = .ok (.putfield 32, 3) := by decide +kernel
theorem dX5_init_37 : decode cX5_init 37 = .ok (.return_, 1) := by decide +kernel
theorem dX5_enter_0 : decode cX5_enter 0 = .ok (.aload_n 0, 1) := by decide +kernel
theorem dX5_enter_1 : decode cX5_enter 1 = .ok (.iconst 0, 1) := by decide +kernel
theorem dX5_enter_2 : decode cX5_enter 2 = .ok (.putfield 35, 3) := by decide +kernel
theorem dX5_enter_5 : decode cX5_enter 5 = .ok (.aload_n 0, 1) := by decide +kernel
theorem dX5_enter_6 : decode cX5_enter 6 = .ok (.iload_n 1, 1) := by decide +kernel
theorem dX5_enter_7 : decode cX5_enter 7 = .ok (.invokevirtual 38, 3) := by decide +kernel
theorem dX5_enter_10 : decode cX5_enter 10 = .ok (.aload_n 0, 1) := by decide +kernel
theorem dX5_enter_11 : decode cX5_enter 11 = .ok (.aload_n 0, 1) := by decide +kernel
theorem dX5_enter_12 : decode cX5_enter 12 = .ok (.getfield 35, 3) := by decide +kernel
theorem dX5_enter_15 : decode cX5_enter 15 = .ok (.putfield 42, 3) := by decide +kernel
theorem dX5_enter_18 : decode cX5_enter 18 = .ok (.aload_n 0, 1) := by decide +kernel
theorem dX5_enter_19 : decode cX5_enter 19 = .ok (.dup, 1) := by decide +kernel
theorem dX5_enter_20 : decode cX5_enter 20 = .ok (.getfield 45, 3) := by decide +kernel
theorem dX5_enter_23 : decode cX5_enter 23 = .ok (.aload_n 0, 1) := by decide +kernel
theorem dX5_enter_24 : decode cX5_enter 24 = .ok (.getfield 35, 3) := by decide +kernel
theorem dX5_enter_27 : decode cX5_enter 27 = .ok (.iadd, 1) := by decide +kernel
theorem dX5_enter_28 : decode cX5_enter 28 = .ok (.putfield 45, 3) := by decide +kernel
theorem dX5_enter_31 : decode cX5_enter 31 = .ok (.return_, 1) := by decide +kernel
theorem dX5_leave_0 : decode cX5_leave 0 = .ok (.aload_n 0, 1) := by decide +kernel
theorem dX5_leave_1 : decode cX5_leave 1 = .ok (.iconst 0, 1) := by decide +kernel
theorem dX5_leave_2 : decode cX5_leave 2 = .ok (.putfield 35, 3) := by decide +kernel
theorem dX5_leave_5 : decode cX5_leave 5 = .ok (.aload_n 0, 1) := by decide +kernel
theorem dX5_leave_6 : decode cX5_leave 6 = .ok (.iload_n 1, 1) := by decide +kernel
theorem dX5_leave_7 : decode cX5_leave 7 = .ok (.invokevirtual 48, 3) := by decide +kernel
theorem dX5_leave_10 : decode cX5_leave 10 = .ok (.aload_n 0, 1) := by decide +kernel
theorem dX5_leave_11 : decode cX5_leave 11 = .ok (.aload_n 0, 1) := by decide +kernel
theorem dX5_leave_12 : decode cX5_leave 12 = .ok (.getfield 35, 3) := by decide +kernel
theorem dX5_leave_15 : decode cX5_leave 15 = .ok (.putfield 42, 3) := by decide +kernel
theorem dX5_leave_18 : decode cX5_leave 18 = .ok (.aload_n 0, 1) := by decide +kernel
theorem dX5_leave_19 : decode cX5_leave 19 = .ok (.dup, 1) := by decide +kernel
theorem dX5_leave_20 : decode cX5_leave 20 = .ok (.getfield 45, 3) := by decide +kernel
theorem dX5_leave_23 : decode cX5_leave 23 = .ok (.aload_n 0, 1) := by decide +kernel
theorem dX5_leave_24 : decode cX5_leave 24 = .ok (.getfield 35, 3) := by decide +kernel
theorem dX5_leave_27 : decode cX5_leave 27 = .ok (.iadd, 1) := by decide +kernel
theorem dX5_leave_28 : decode cX5_leave 28 = .ok (.putfield 45, 3) := by decide +kernel
theorem dX5_leave_31 : decode cX5_leave 31 = .ok (.return_, 1) := by decide +kernel
theorem dX5_kind_0 : decode cX5_kind 0 = .ok (.iconst 0, 1) := by decide +kernel
theorem dX5_kind_1 : decode cX5_kind 1 = .ok (.ireturn, 1) := by decide +kernel
theorem dX5_putName_0 : decode cX5_putName 0 = .ok (.return_, 1) := by decide +kernel
theorem dX5_takeName_0 : decode cX5_takeName 0 = .ok (.return_, 1) := by decide +kernel
theorem dX5_howMany_0 : decode cX5_howMany 0 = .ok (.iconst 0, 1) := by decide +kernel
theorem dX5_howMany_1 : decode cX5_howMany 1 = .ok (.ireturn, 1) := by decide +kernel
theorem dX5_nameIn_0 : decode cX5_nameIn 0 = .ok (.iconst (-1), 1) := by decide +kernel
theorem dX5_nameIn_1 : decode cX5_nameIn 1 = .ok (.ireturn, 1) := by decide +kernel
theorem dX5_run_0 : decode cX5_run 0 = .ok (.bipush (-2), 2) := by decide +kernel
theorem dX5_run_2 : decode cX5_run 2 = .ok (.ireturn, 1) := by decide +kernel
theorem dX5_priceFor_0 : decode cX5_priceFor 0 = .ok (.bipush (-2), 2) := by decide +kernel
theorem dX5_priceFor_2 : decode cX5_priceFor 2 = .ok (.ireturn, 1) := by decide +kernel
theorem dX5_priceOfPut_0 : decode cX5_priceOfPut 0 = .ok (.iconst 0, 1) := by decide +kernel
theorem dX5_priceOfPut_1 : decode cX5_priceOfPut 1 = .ok (.ireturn, 1) := by decide +kernel
theorem dX5_comesAhead_0 : decode cX5_comesAhead 0 = .ok (.aload_n 0, 1) := by decide +kernel
theorem dX5_comesAhead_1 : decode cX5_comesAhead 1 = .ok (.getfield 32, 3) := by decide +kernel
theorem dX5_comesAhead_4 : decode cX5_comesAhead 4 = .ok (.iload_n 1, 1) := by decide +kernel
theorem dX5_comesAhead_5 : decode cX5_comesAhead 5 = .ok (.iaload, 1) := by decide +kernel
theorem dX5_comesAhead_6 : decode cX5_comesAhead 6 = .ok (.iload_n 2, 1) := by decide +kernel
theorem dX5_comesAhead_7 : decode cX5_comesAhead 7 = .ok (.if_icmp .lt 18, 3) := by decide +kernel
theorem dX5_comesAhead_10 : decode cX5_comesAhead 10 = .ok (.aload_n 0, 1) := by decide +kernel
theorem dX5_comesAhead_11 : decode cX5_comesAhead 11 = .ok (.getfield 32, 3) := by decide +kernel
theorem dX5_comesAhead_14 : decode cX5_comesAhead 14 = .ok (.iload_n 1, 1) := by decide +kernel
theorem dX5_comesAhead_15 : decode cX5_comesAhead 15 = .ok (.iaload, 1) := by decide +kernel
theorem dX5_comesAhead_16 : decode cX5_comesAhead 16 = .ok (.iload_n 2, 1) := by decide +kernel
theorem dX5_comesAhead_17 : decode cX5_comesAhead 17 = .ok (.if_icmp .ne 12, 3) := by decide +kernel
theorem dX5_comesAhead_20 : decode cX5_comesAhead 20 = .ok (.iload_n 1, 1) := by decide +kernel
theorem dX5_comesAhead_21 : decode cX5_comesAhead 21 = .ok (.iload_n 3, 1) := by decide +kernel
theorem dX5_comesAhead_22 : decode cX5_comesAhead 22 = .ok (.if_icmp .ge 7, 3) := by decide +kernel
theorem dX5_comesAhead_25 : decode cX5_comesAhead 25 = .ok (.iconst 1, 1) := by decide +kernel
theorem dX5_comesAhead_26 : decode cX5_comesAhead 26 = .ok (.goto 4, 3) := by decide +kernel
theorem dX5_comesAhead_29 : decode cX5_comesAhead 29 = .ok (.iconst 0, 1) := by decide +kernel
theorem dX5_comesAhead_30 : decode cX5_comesAhead 30 = .ok (.ireturn, 1) := by decide +kernel
theorem dX5_levels_0 : decode cX5_levels 0 = .ok (.iconst 0, 1) := by decide +kernel
theorem dX5_levels_1 : decode cX5_levels 1 = .ok (.istore_n 1, 1) := by decide +kernel
theorem dX5_levels_2 : decode cX5_levels 2 = .ok (.iload_n 1, 1) := by decide +kernel
theorem dX5_levels_3 : decode cX5_levels 3 = .ok (.bipush 30, 2) := by decide +kernel
theorem dX5_levels_5 : decode cX5_levels 5 = .ok (.if_icmp .ge 16, 3) := by decide +kernel
theorem dX5_levels_8 : decode cX5_levels 8 = .ok (.iconst 1, 1) := by decide +kernel
theorem dX5_levels_9 : decode cX5_levels 9 = .ok (.iload_n 1, 1) := by decide +kernel
theorem dX5_levels_10 : decode cX5_levels 10 = .ok (.ishl, 1) := by decide +kernel
theorem dX5_levels_11 : decode cX5_levels 11 = .ok (.iload_n 0, 1) := by decide +kernel
theorem dX5_levels_12 : decode cX5_levels 12 = .ok (.if_icmp .gt 9, 3) := by decide +kernel
theorem dX5_levels_15 : decode cX5_levels 15 = .ok (.iinc 1 1, 3) := by decide +kernel
theorem dX5_levels_18 : decode cX5_levels 18 = .ok (.goto (-16), 3) := by decide +kernel
theorem dX5_levels_21 : decode cX5_levels 21 = .ok (.iload_n 1, 1) := by decide +kernel
theorem dX5_levels_22 : decode cX5_levels 22 = .ok (.ireturn, 1) := by decide +kernel
theorem dX5_orderedPrice_0 : decode cX5_orderedPrice 0 = .ok (.iload_n 2, 1) := by decide +kernel
theorem dX5_orderedPrice_1 : decode cX5_orderedPrice 1 = .ok (.invokestatic 51, 3) := by decide +kernel
theorem dX5_orderedPrice_4 : decode cX5_orderedPrice 4 = .ok (.istore_n 3, 1) := by decide +kernel
theorem dX5_orderedPrice_5 : decode cX5_orderedPrice 5 = .ok (.aload_n 0, 1) := by decide +kernel
theorem dX5_orderedPrice_6 : decode cX5_orderedPrice 6 = .ok (.iload_n 1, 1) := by decide +kernel
theorem dX5_orderedPrice_7 : decode cX5_orderedPrice 7 = .ok (.invokevirtual 55, 3) := by decide +kernel
theorem dX5_orderedPrice_10 : decode cX5_orderedPrice 10 = .ok (.ifCond .eq 7, 3) := by decide +kernel
theorem dX5_orderedPrice_13 : decode cX5_orderedPrice 13 = .ok (.iload_n 3, 1) := by decide +kernel
theorem dX5_orderedPrice_14 : decode cX5_orderedPrice 14 = .ok (.iconst 2, 1) := by decide +kernel
theorem dX5_orderedPrice_15 : decode cX5_orderedPrice 15 = .ok (.iadd, 1) := by decide +kernel
theorem dX5_orderedPrice_16 : decode cX5_orderedPrice 16 = .ok (.ireturn, 1) := by decide +kernel
theorem dX5_orderedPrice_17 : decode cX5_orderedPrice 17 = .ok (.aload_n 0, 1) := by decide +kernel
theorem dX5_orderedPrice_18 : decode cX5_orderedPrice 18 = .ok (.iload_n 1, 1) := by decide +kernel
theorem dX5_orderedPrice_19 : decode cX5_orderedPrice 19 = .ok (.invokevirtual 61, 3) := by decide +kernel
theorem dX5_orderedPrice_22 : decode cX5_orderedPrice 22 = .ok (.ifCond .eq 13, 3) := by decide +kernel
theorem dX5_orderedPrice_25 : decode cX5_orderedPrice 25 = .ok (.iload_n 3, 1) := by decide +kernel
theorem dX5_orderedPrice_26 : decode cX5_orderedPrice 26 = .ok (.iload_n 2, 1) := by decide +kernel
theorem dX5_orderedPrice_27 : decode cX5_orderedPrice 27 = .ok (.iconst 4, 1) := by decide +kernel
theorem dX5_orderedPrice_28 : decode cX5_orderedPrice 28 = .ok (.idiv, 1) := by decide +kernel
theorem dX5_orderedPrice_29 : decode cX5_orderedPrice 29 = .ok (.iadd, 1) := by decide +kernel
theorem dX5_orderedPrice_30 : decode cX5_orderedPrice 30 = .ok (.iconst 1, 1) := by decide +kernel
theorem dX5_orderedPrice_31 : decode cX5_orderedPrice 31 = .ok (.iadd, 1) := by decide +kernel
theorem dX5_orderedPrice_32 : decode cX5_orderedPrice 32 = .ok (.goto 6, 3) := by decide +kernel
theorem dX5_orderedPrice_35 : decode cX5_orderedPrice 35 = .ok (.iload_n 2, 1) := by decide +kernel
theorem dX5_orderedPrice_36 : decode cX5_orderedPrice 36 = .ok (.iload_n 3, 1) := by decide +kernel
theorem dX5_orderedPrice_37 : decode cX5_orderedPrice 37 = .ok (.iadd, 1) := by decide +kernel
theorem dX5_orderedPrice_38 : decode cX5_orderedPrice 38 = .ok (.ireturn, 1) := by decide +kernel
theorem dX5_led_0 : decode cX5_led 0 = .ok (.aload_n 0, 1) := by decide +kernel
theorem dX5_led_1 : decode cX5_led 1 = .ok (.getfield 64, 3) := by decide +kernel
theorem dX5_led_4 : decode cX5_led 4 = .ok (.bipush 24, 2) := by decide +kernel
theorem dX5_led_6 : decode cX5_led 6 = .ok (.if_icmp .ge 13, 3) := by decide +kernel
theorem dX5_led_9 : decode cX5_led 9 = .ok (.aload_n 0, 1) := by decide +kernel
theorem dX5_led_10 : decode cX5_led 10 = .ok (.getfield 9, 3) := by decide +kernel
theorem dX5_led_13 : decode cX5_led 13 = .ok (.aload_n 0, 1) := by decide +kernel
theorem dX5_led_14 : decode cX5_led 14 = .ok (.getfield 64, 3) := by decide +kernel
theorem dX5_led_17 : decode cX5_led 17 = .ok (.iload_n 1, 1) := by decide +kernel
theorem dX5_led_18 : decode cX5_led 18 = .ok (.iastore, 1) := by decide +kernel
theorem dX5_led_19 : decode cX5_led 19 = .ok (.aload_n 0, 1) := by decide +kernel
theorem dX5_led_20 : decode cX5_led 20 = .ok (.dup, 1) := by decide +kernel
theorem dX5_led_21 : decode cX5_led 21 = .ok (.getfield 64, 3) := by decide +kernel
theorem dX5_led_24 : decode cX5_led 24 = .ok (.iconst 1, 1) := by decide +kernel
theorem dX5_led_25 : decode cX5_led 25 = .ok (.iadd, 1) := by decide +kernel
theorem dX5_led_26 : decode cX5_led 26 = .ok (.putfield 64, 3) := by decide +kernel
theorem dX5_led_29 : decode cX5_led 29 = .ok (.return_, 1) := by decide +kernel
theorem dX5_finds_0 : decode cX5_finds 0 = .ok (.aload_n 0, 1) := by decide +kernel
theorem dX5_finds_1 : decode cX5_finds 1 = .ok (.iconst 1, 1) := by decide +kernel
theorem dX5_finds_2 : decode cX5_finds 2 = .ok (.invokevirtual 67, 3) := by decide +kernel
theorem dX5_finds_5 : decode cX5_finds 5 = .ok (.iload_n 1, 1) := by decide +kernel
theorem dX5_finds_6 : decode cX5_finds 6 = .ok (.aload_n 0, 1) := by decide +kernel
theorem dX5_finds_7 : decode cX5_finds 7 = .ok (.getfield 19, 3) := by decide +kernel
theorem dX5_finds_10 : decode cX5_finds 10 = .ok (.iadd, 1) := by decide +kernel
theorem dX5_finds_11 : decode cX5_finds 11 = .ok (.ireturn, 1) := by decide +kernel
theorem dX5_mends_0 : decode cX5_mends 0 = .ok (.aload_n 0, 1) := by decide +kernel
theorem dX5_mends_1 : decode cX5_mends 1 = .ok (.bipush 10, 2) := by decide +kernel
theorem dX5_mends_3 : decode cX5_mends 3 = .ok (.invokevirtual 67, 3) := by decide +kernel
theorem dX5_mends_6 : decode cX5_mends 6 = .ok (.aload_n 0, 1) := by decide +kernel
theorem dX5_mends_7 : decode cX5_mends 7 = .ok (.iload_n 1, 1) := by decide +kernel
theorem dX5_mends_8 : decode cX5_mends 8 = .ok (.invokevirtual 70, 3) := by decide +kernel
theorem dX5_mends_11 : decode cX5_mends 11 = .ok (.iconst 2, 1) := by decide +kernel
theorem dX5_mends_12 : decode cX5_mends 12 = .ok (.imul, 1) := by decide +kernel
theorem dX5_mends_13 : decode cX5_mends 13 = .ok (.ireturn, 1) := by decide +kernel
theorem dX5_keeps_0 : decode cX5_keeps 0 = .ok (.aload_n 0, 1) := by decide +kernel
theorem dX5_keeps_1 : decode cX5_keeps 1 = .ok (.bipush 11, 2) := by decide +kernel
theorem dX5_keeps_3 : decode cX5_keeps 3 = .ok (.invokevirtual 67, 3) := by decide +kernel
theorem dX5_keeps_6 : decode cX5_keeps 6 = .ok (.iload_n 1, 1) := by decide +kernel
theorem dX5_keeps_7 : decode cX5_keeps 7 = .ok (.aload_n 0, 1) := by decide +kernel
theorem dX5_keeps_8 : decode cX5_keeps 8 = .ok (.getfield 19, 3) := by decide +kernel
theorem dX5_keeps_11 : decode cX5_keeps 11 = .ok (.ixor, 1) := by decide +kernel
theorem dX5_keeps_12 : decode cX5_keeps 12 = .ok (.ireturn, 1) := by decide +kernel
theorem dX5_tells_0 : decode cX5_tells 0 = .ok (.aload_n 0, 1) := by decide +kernel
theorem dX5_tells_1 : decode cX5_tells 1 = .ok (.iconst 2, 1) := by decide +kernel
theorem dX5_tells_2 : decode cX5_tells 2 = .ok (.invokevirtual 67, 3) := by decide +kernel
theorem dX5_tells_5 : decode cX5_tells 5 = .ok (.aload_n 0, 1) := by decide +kernel
theorem dX5_tells_6 : decode cX5_tells 6 = .ok (.iload_n 1, 1) := by decide +kernel
theorem dX5_tells_7 : decode cX5_tells 7 = .ok (.invokevirtual 73, 3) := by decide +kernel
theorem dX5_tells_10 : decode cX5_tells 10 = .ok (.aload_n 0, 1) := by decide +kernel
theorem dX5_tells_11 : decode cX5_tells 11 = .ok (.iconst 1, 1) := by decide +kernel
theorem dX5_tells_12 : decode cX5_tells 12 = .ok (.invokevirtual 76, 3) := by decide +kernel
theorem dX5_tells_15 : decode cX5_tells 15 = .ok (.isub, 1) := by decide +kernel
theorem dX5_tells_16 : decode cX5_tells 16 = .ok (.ireturn, 1) := by decide +kernel
theorem dX6_init_0 : decode cX6_init 0 = .ok (.aload_n 0, 1) := by decide +kernel
theorem dX6_init_1 : decode cX6_init 1 = .ok (.aload_n 1, 1) := by decide +kernel
theorem dX6_init_2 : decode cX6_init 2 = .ok (.iload_n 2, 1) := by decide +kernel
theorem dX6_init_3 : decode cX6_init 3 = .ok (.iload_n 3, 1) := by decide +kernel
theorem dX6_init_4 : decode cX6_init 4 = .ok (.invokespecial 3, 3) := by decide +kernel
theorem dX6_init_7 : decode cX6_init 7 = .ok (.aload_n 0, 1) := by decide +kernel
theorem dX6_init_8 : decode cX6_init 8 = .ok (.bipush 81, 2) := by decide +kernel
theorem dX6_init_10 : decode cX6_init 10 = .ok (.newarray .int, 2) := by decide +kernel
theorem dX6_init_12 : decode cX6_init 12 = .ok (.putfield 9, 3) := by decide +kernel
theorem dX6_init_15 : decode cX6_init 15 = .ok (.return_, 1) := by decide +kernel
theorem dX6_kind_0 : decode cX6_kind 0 = .ok (.bipush 7, 2) := by decide +kernel
theorem dX6_kind_2 : decode cX6_kind 2 = .ok (.ireturn, 1) := by decide +kernel
theorem dX6_putName_0 : decode cX6_putName 0 = .ok (.aload_n 0, 1) := by decide +kernel
theorem dX6_putName_1 : decode cX6_putName 1 = .ok (.iload_n 1, 1) := by decide +kernel
theorem dX6_putName_2 : decode cX6_putName 2 = .ok (.invokespecial 15, 3) := by decide +kernel
theorem dX6_putName_5 : decode cX6_putName 5 = .ok (.aload_n 0, 1) := by decide +kernel
theorem dX6_putName_6 : decode cX6_putName 6 = .ok (.invokevirtual 19, 3) := by decide +kernel
theorem dX6_putName_9 : decode cX6_putName 9 = .ok (.return_, 1) := by decide +kernel
theorem dX6_takeName_0 : decode cX6_takeName 0 = .ok (.aload_n 0, 1) := by decide +kernel
theorem dX6_takeName_1 : decode cX6_takeName 1 = .ok (.iload_n 1, 1) := by decide +kernel
theorem dX6_takeName_2 : decode cX6_takeName 2 = .ok (.invokespecial 23, 3) := by decide +kernel
theorem dX6_takeName_5 : decode cX6_takeName 5 = .ok (.aload_n 0, 1) := by decide +kernel
theorem dX6_takeName_6 : decode cX6_takeName 6 = .ok (.invokevirtual 19, 3) := by decide +kernel
theorem dX6_takeName_9 : decode cX6_takeName 9 = .ok (.return_, 1) := by decide +kernel
theorem dX6_sumUp_0 : decode cX6_sumUp 0 = .ok (.iconst 0, 1) := by decide +kernel
theorem dX6_sumUp_1 : decode cX6_sumUp 1 = .ok (.istore_n 1, 1) := by decide +kernel
theorem dX6_sumUp_2 : decode cX6_sumUp 2 = .ok (.iload_n 1, 1) := by decide +kernel
theorem dX6_sumUp_3 : decode cX6_sumUp 3 = .ok (.aload_n 0, 1) := by decide +kernel
theorem dX6_sumUp_4 : decode cX6_sumUp 4 = .ok (.getfield 26, 3) := by decide +kernel
theorem dX6_sumUp_7 : decode cX6_sumUp 7 = .ok (.if_icmp .ge 35, 3) := by decide +kernel
theorem dX6_sumUp_10 : decode cX6_sumUp 10 = .ok (.aload_n 0, 1) := by decide +kernel
theorem dX6_sumUp_11 : decode cX6_sumUp 11 = .ok (.getfield 9, 3) := by decide +kernel
theorem dX6_sumUp_14 : decode cX6_sumUp 14 = .ok (.iload_n 1, 1) := by decide +kernel
theorem dX6_sumUp_15 : decode cX6_sumUp 15 = .ok (.iconst 1, 1) := by decide +kernel
theorem dX6_sumUp_16 : decode cX6_sumUp 16 = .ok (.iadd, 1) := by decide +kernel
theorem dX6_sumUp_17 : decode cX6_sumUp 17 = .ok (.aload_n 0, 1) := by decide +kernel
theorem dX6_sumUp_18 : decode cX6_sumUp 18 = .ok (.getfield 9, 3) := by decide +kernel
theorem dX6_sumUp_21 : decode cX6_sumUp 21 = .ok (.iload_n 1, 1) := by decide +kernel
theorem dX6_sumUp_22 : decode cX6_sumUp 22 = .ok (.iaload, 1) := by decide +kernel
theorem dX6_sumUp_23 : decode cX6_sumUp 23 = .ok (.aload_n 0, 1) := by decide +kernel
theorem dX6_sumUp_24 : decode cX6_sumUp 24 = .ok (.getfield 30, 3) := by decide +kernel
theorem dX6_sumUp_27 : decode cX6_sumUp 27 = .ok (.aload_n 0, 1) := by decide +kernel
theorem dX6_sumUp_28 : decode cX6_sumUp 28 = .ok (.getfield 33, 3) := by decide +kernel
theorem dX6_sumUp_31 : decode cX6_sumUp 31 = .ok (.iload_n 1, 1) := by decide +kernel
theorem dX6_sumUp_32 : decode cX6_sumUp 32 = .ok (.iaload, 1) := by decide +kernel
theorem dX6_sumUp_33 : decode cX6_sumUp 33 = .ok (.iaload, 1) := by decide +kernel
theorem dX6_sumUp_34 : decode cX6_sumUp 34 = .ok (.iadd, 1) := by decide +kernel
theorem dX6_sumUp_35 : decode cX6_sumUp 35 = .ok (.iastore, 1) := by decide +kernel
theorem dX6_sumUp_36 : decode cX6_sumUp 36 = .ok (.iinc 1 1, 3) := by decide +kernel
theorem dX6_sumUp_39 : decode cX6_sumUp 39 = .ok (.goto (-37), 3) := by decide +kernel
theorem dX6_sumUp_42 : decode cX6_sumUp 42 = .ok (.return_, 1) := by decide +kernel
theorem dX6_run_0 : decode cX6_run 0 = .ok (.aload_n 1, 1) := by decide +kernel
theorem dX6_run_1 : decode cX6_run 1 = .ok (.aload_n 0, 1) := by decide +kernel
theorem dX6_run_2 : decode cX6_run 2 = .ok (.getfield 36, 3) := by decide +kernel
theorem dX6_run_5 : decode cX6_run 5 = .ok (.invokevirtual 39, 3) := by decide +kernel
theorem dX6_run_8 : decode cX6_run 8 = .ok (.ifCond .ne 9, 3) := by decide +kernel
theorem dX6_run_11 : decode cX6_run 11 = .ok (.aload_n 0, 1) := by decide +kernel
theorem dX6_run_12 : decode cX6_run 12 = .ok (.aload_n 1, 1) := by decide +kernel
theorem dX6_run_13 : decode cX6_run 13 = .ok (.invokespecial 45, 3) := by decide +kernel
theorem dX6_run_16 : decode cX6_run 16 = .ok (.ireturn, 1) := by decide +kernel
theorem dX6_run_17 : decode cX6_run 17 = .ok (.aload_n 0, 1) := by decide +kernel
theorem dX6_run_18 : decode cX6_run 18 = .ok (.aload_n 1, 1) := by decide +kernel
theorem dX6_run_19 : decode cX6_run 19 = .ok (.aload_n 0, 1) := by decide +kernel
theorem dX6_run_20 : decode cX6_run 20 = .ok (.getfield 36, 3) := by decide +kernel
theorem dX6_run_23 : decode cX6_run 23 = .ok (.invokevirtual 49, 3) := by decide +kernel
theorem dX6_run_26 : decode cX6_run 26 = .ok (.iconst (-1), 1) := by decide +kernel
theorem dX6_run_27 : decode cX6_run 27 = .ok (.invokevirtual 53, 3) := by decide +kernel
theorem dX6_run_30 : decode cX6_run 30 = .ok (.istore_n 2, 1) := by decide +kernel
theorem dX6_run_31 : decode cX6_run 31 = .ok (.aload_n 0, 1) := by decide +kernel
theorem dX6_run_32 : decode cX6_run 32 = .ok (.aload_n 1, 1) := by decide +kernel
theorem dX6_run_33 : decode cX6_run 33 = .ok (.aload_n 0, 1) := by decide +kernel
theorem dX6_run_34 : decode cX6_run 34 = .ok (.getfield 36, 3) := by decide +kernel
theorem dX6_run_37 : decode cX6_run 37 = .ok (.invokevirtual 57, 3) := by decide +kernel
theorem dX6_run_40 : decode cX6_run 40 = .ok (.iconst 1, 1) := by decide +kernel
theorem dX6_run_41 : decode cX6_run 41 = .ok (.iadd, 1) := by decide +kernel
theorem dX6_run_42 : decode cX6_run 42 = .ok (.iconst (-1), 1) := by decide +kernel
theorem dX6_run_43 : decode cX6_run 43 = .ok (.invokevirtual 53, 3) := by decide +kernel
theorem dX6_run_46 : decode cX6_run 46 = .ok (.istore_n 3, 1) := by decide +kernel
theorem dX6_run_47 : decode cX6_run 47 = .ok (.iload_n 3, 1) := by decide +kernel
theorem dX6_run_48 : decode cX6_run 48 = .ok (.iload_n 2, 1) := by decide +kernel
theorem dX6_run_49 : decode cX6_run 49 = .ok (.if_icmp .gt 5, 3) := by decide +kernel
theorem dX6_run_52 : decode cX6_run 52 = .ok (.iconst 0, 1) := by decide +kernel
theorem dX6_run_53 : decode cX6_run 53 = .ok (.ireturn, 1) := by decide +kernel
theorem dX6_run_54 : decode cX6_run 54 = .ok (.aload_n 1, 1) := by decide +kernel
theorem dX6_run_55 : decode cX6_run 55 = .ok (.invokevirtual 60, 3) := by decide +kernel
theorem dX6_run_58 : decode cX6_run 58 = .ok (.ifCond .eq 9, 3) := by decide +kernel
theorem dX6_run_61 : decode cX6_run 61 = .ok (.iload_n 3, 1) := by decide +kernel
theorem dX6_run_62 : decode cX6_run 62 = .ok (.iload_n 2, 1) := by decide +kernel
theorem dX6_run_63 : decode cX6_run 63 = .ok (.isub, 1) := by decide +kernel
theorem dX6_run_64 : decode cX6_run 64 = .ok (.goto 16, 3) := by decide +kernel
theorem dX6_run_67 : decode cX6_run 67 = .ok (.aload_n 0, 1) := by decide +kernel
theorem dX6_run_68 : decode cX6_run 68 = .ok (.getfield 9, 3) := by decide +kernel
theorem dX6_run_71 : decode cX6_run 71 = .ok (.iload_n 3, 1) := by decide +kernel
theorem dX6_run_72 : decode cX6_run 72 = .ok (.iaload, 1) := by decide +kernel
theorem dX6_run_73 : decode cX6_run 73 = .ok (.aload_n 0, 1) := by decide +kernel
theorem dX6_run_74 : decode cX6_run 74 = .ok (.getfield 9, 3) := by decide +kernel
theorem dX6_run_77 : decode cX6_run 77 = .ok (.iload_n 2, 1) := by decide +kernel
theorem dX6_run_78 : decode cX6_run 78 = .ok (.iaload, 1) := by decide +kernel
theorem dX6_run_79 : decode cX6_run 79 = .ok (.isub, 1) := by decide +kernel
theorem dX6_run_80 : decode cX6_run 80 = .ok (.ireturn, 1) := by decide +kernel
theorem dX6_priceFor_0 : decode cX6_priceFor 0 = .ok (.aload_n 1, 1) := by decide +kernel
theorem dX6_priceFor_1 : decode cX6_priceFor 1 = .ok (.aload_n 0, 1) := by decide +kernel
theorem dX6_priceFor_2 : decode cX6_priceFor 2 = .ok (.getfield 36, 3) := by decide +kernel
theorem dX6_priceFor_5 : decode cX6_priceFor 5 = .ok (.invokevirtual 39, 3) := by decide +kernel
theorem dX6_priceFor_8 : decode cX6_priceFor 8 = .ok (.ifCond .eq 12, 3) := by decide +kernel
theorem dX6_priceFor_11 : decode cX6_priceFor 11 = .ok (.iconst 2, 1) := by decide +kernel
theorem dX6_priceFor_12 : decode cX6_priceFor 12 = .ok (.iload_n 2, 1) := by decide +kernel
theorem dX6_priceFor_13 : decode cX6_priceFor 13 = .ok (.invokestatic 64, 3) := by decide +kernel
theorem dX6_priceFor_16 : decode cX6_priceFor 16 = .ok (.imul, 1) := by decide +kernel
theorem dX6_priceFor_17 : decode cX6_priceFor 17 = .ok (.goto 9, 3) := by decide +kernel
theorem dX6_priceFor_20 : decode cX6_priceFor 20 = .ok (.aload_n 0, 1) := by decide +kernel
theorem dX6_priceFor_21 : decode cX6_priceFor 21 = .ok (.aload_n 1, 1) := by decide +kernel
theorem dX6_priceFor_22 : decode cX6_priceFor 22 = .ok (.iload_n 2, 1) := by decide +kernel
theorem dX6_priceFor_23 : decode cX6_priceFor 23 = .ok (.invokespecial 67, 3) := by decide +kernel
theorem dX6_priceFor_26 : decode cX6_priceFor 26 = .ok (.ireturn, 1) := by decide +kernel
theorem dX6_mends_0 : decode cX6_mends 0 = .ok (.aload_n 0, 1) := by decide +kernel
theorem dX6_mends_1 : decode cX6_mends 1 = .ok (.bipush 80, 2) := by decide +kernel
theorem dX6_mends_3 : decode cX6_mends 3 = .ok (.invokevirtual 71, 3) := by decide +kernel
theorem dX6_mends_6 : decode cX6_mends 6 = .ok (.aload_n 0, 1) := by decide +kernel
theorem dX6_mends_7 : decode cX6_mends 7 = .ok (.iload_n 1, 1) := by decide +kernel
theorem dX6_mends_8 : decode cX6_mends 8 = .ok (.invokespecial 74, 3) := by decide +kernel
theorem dX6_mends_11 : decode cX6_mends 11 = .ok (.aload_n 0, 1) := by decide +kernel
theorem dX6_mends_12 : decode cX6_mends 12 = .ok (.iload_n 1, 1) := by decide +kernel
theorem dX6_mends_13 : decode cX6_mends 13 = .ok (.invokespecial 77, 3) := by decide +kernel
theorem dX6_mends_16 : decode cX6_mends 16 = .ok (.iadd, 1) := by decide +kernel
theorem dX6_mends_17 : decode cX6_mends 17 = .ok (.ireturn, 1) := by decide +kernel
theorem dX7_init_0 : decode cX7_init 0 = .ok (.aload_n 0, 1) := by decide +kernel
theorem dX7_init_1 : decode cX7_init 1 = .ok (.aload_n 1, 1) := by decide +kernel
theorem dX7_init_2 : decode cX7_init 2 = .ok (.iload_n 2, 1) := by decide +kernel
theorem dX7_init_3 : decode cX7_init 3 = .ok (.iload_n 3, 1) := by decide +kernel
theorem dX7_init_4 : decode cX7_init 4 = .ok (.invokespecial 3, 3) := by decide +kernel
theorem dX7_init_7 : decode cX7_init 7 = .ok (.aload_n 0, 1) := by decide +kernel
theorem dX7_init_8 : decode cX7_init 8 = .ok (.iload 4, 2) := by decide +kernel
theorem dX7_init_10 : decode cX7_init 10 = .ok (.iconst 0, 1) := by decide +kernel
theorem dX7_init_11 : decode cX7_init 11 = .ok (.invokestatic 9, 3) := by decide +kernel
theorem dX7_init_14 : decode cX7_init 14 = .ok (.newarray .int, 2) := by decide +kernel
theorem dX7_init_16 : decode cX7_init 16 = .ok (.putfield 15, 3) := by decide +kernel
theorem dX7_init_19 : decode cX7_init 19 = .ok (.return_, 1) := by decide +kernel
theorem dX7_kind_0 : decode cX7_kind 0 = .ok (.iconst 4, 1) := by decide +kernel
theorem dX7_kind_1 : decode cX7_kind 1 = .ok (.ireturn, 1) := by decide +kernel
theorem dX7_bucketOf_0 : decode cX7_bucketOf 0 = .ok (.aload_n 0, 1) := by decide +kernel
theorem dX7_bucketOf_1 : decode cX7_bucketOf 1 = .ok (.getfield 21, 3) := by decide +kernel
theorem dX7_bucketOf_4 : decode cX7_bucketOf 4 = .ok (.iload_n 1, 1) := by decide +kernel
theorem dX7_bucketOf_5 : decode cX7_bucketOf 5 = .ok (.iaload, 1) := by decide +kernel
theorem dX7_bucketOf_6 : decode cX7_bucketOf 6 = .ok (.bipush 8, 2) := by decide +kernel
theorem dX7_bucketOf_8 : decode cX7_bucketOf 8 = .ok (.irem, 1) := by decide +kernel
theorem dX7_bucketOf_9 : decode cX7_bucketOf 9 = .ok (.ireturn, 1) := by decide +kernel
theorem dX7_startOf_0 : decode cX7_startOf 0 = .ok (.iconst 0, 1) := by decide +kernel
theorem dX7_startOf_1 : decode cX7_startOf 1 = .ok (.istore_n 2, 1) := by decide +kernel
theorem dX7_startOf_2 : decode cX7_startOf 2 = .ok (.iload_n 2, 1) := by decide +kernel
theorem dX7_startOf_3 : decode cX7_startOf 3 = .ok (.aload_n 0, 1) := by decide +kernel
theorem dX7_startOf_4 : decode cX7_startOf 4 = .ok (.getfield 24, 3) := by decide +kernel
theorem dX7_startOf_7 : decode cX7_startOf 7 = .ok (.if_icmp .ge 23, 3) := by decide +kernel
theorem dX7_startOf_10 : decode cX7_startOf 10 = .ok (.aload_n 0, 1) := by decide +kernel
theorem dX7_startOf_11 : decode cX7_startOf 11 = .ok (.aload_n 0, 1) := by decide +kernel
theorem dX7_startOf_12 : decode cX7_startOf 12 = .ok (.getfield 15, 3) := by decide +kernel
theorem dX7_startOf_15 : decode cX7_startOf 15 = .ok (.iload_n 2, 1) := by decide +kernel
theorem dX7_startOf_16 : decode cX7_startOf 16 = .ok (.iaload, 1) := by decide +kernel
theorem dX7_startOf_17 : decode cX7_startOf 17 = .ok (.invokevirtual 28, 3) := by decide +kernel
theorem dX7_startOf_20 : decode cX7_startOf 20 = .ok (.iload_n 1, 1) := by decide +kernel
theorem dX7_startOf_21 : decode cX7_startOf 21 = .ok (.if_icmp .ge 9, 3) := by decide +kernel
theorem dX7_startOf_24 : decode cX7_startOf 24 = .ok (.iinc 2 1, 3) := by decide +kernel
theorem dX7_startOf_27 : decode cX7_startOf 27 = .ok (.goto (-25), 3) := by decide +kernel
theorem dX7_startOf_30 : decode cX7_startOf 30 = .ok (.iload_n 2, 1) := by decide +kernel
theorem dX7_startOf_31 : decode cX7_startOf 31 = .ok (.ireturn, 1) := by decide +kernel
theorem dX7_putName_0 : decode cX7_putName 0 = .ok (.aload_n 0, 1) := by decide +kernel
theorem dX7_putName_1 : decode cX7_putName 1 = .ok (.dup, 1) := by decide +kernel
theorem dX7_putName_2 : decode cX7_putName 2 = .ok (.getfield 32, 3) := by decide +kernel
theorem dX7_putName_5 : decode cX7_putName 5 = .ok (.iconst 1, 1) := by decide +kernel
theorem dX7_putName_6 : decode cX7_putName 6 = .ok (.iadd, 1) := by decide +kernel
theorem dX7_putName_7 : decode cX7_putName 7 = .ok (.putfield 32, 3) := by decide +kernel
theorem dX7_putName_10 : decode cX7_putName 10 = .ok (.aload_n 0, 1) := by decide +kernel
theorem dX7_putName_11 : decode cX7_putName 11 = .ok (.getfield 24, 3) := by decide +kernel
theorem dX7_putName_14 : decode cX7_putName 14 = .ok (.aload_n 0, 1) := by decide +kernel
theorem dX7_putName_15 : decode cX7_putName 15 = .ok (.getfield 15, 3) := by decide +kernel
theorem dX7_putName_18 : decode cX7_putName 18 = .ok (.arraylength, 1) := by decide +kernel
theorem dX7_putName_19 : decode cX7_putName 19 = .ok (.if_icmp .lt 4, 3) := by decide +kernel
theorem dX7_putName_22 : decode cX7_putName 22 = .ok (.return_, 1) := by decide +kernel
theorem dX7_putName_23 : decode cX7_putName 23 = .ok (.aload_n 0, 1) := by decide +kernel
theorem dX7_putName_24 : decode cX7_putName 24 = .ok (.aload_n 0, 1) := by decide +kernel
theorem dX7_putName_25 : decode cX7_putName 25 = .ok (.iload_n 1, 1) := by decide +kernel
theorem dX7_putName_26 : decode cX7_putName 26 = .ok (.invokevirtual 28, 3) := by decide +kernel
theorem dX7_putName_29 : decode cX7_putName 29 = .ok (.iconst 1, 1) := by decide +kernel
theorem dX7_putName_30 : decode cX7_putName 30 = .ok (.iadd, 1) := by decide +kernel
theorem dX7_putName_31 : decode cX7_putName 31 = .ok (.invokevirtual 35, 3) := by decide +kernel
theorem dX7_putName_34 : decode cX7_putName 34 = .ok (.istore_n 2, 1) := by decide +kernel
theorem dX7_putName_35 : decode cX7_putName 35 = .ok (.aload_n 0, 1) := by decide +kernel
theorem dX7_putName_36 : decode cX7_putName 36 = .ok (.getfield 15, 3) := by decide +kernel
theorem dX7_putName_39 : decode cX7_putName 39 = .ok (.iload_n 2, 1) := by decide +kernel
theorem dX7_putName_40 : decode cX7_putName 40 = .ok (.aload_n 0, 1) := by decide +kernel
theorem dX7_putName_41 : decode cX7_putName 41 = .ok (.getfield 15, 3) := by decide +kernel
theorem dX7_putName_44 : decode cX7_putName 44 = .ok (.iload_n 2, 1) := by decide +kernel
theorem dX7_putName_45 : decode cX7_putName 45 = .ok (.iconst 1, 1) := by decide +kernel
theorem dX7_putName_46 : decode cX7_putName 46 = .ok (.iadd, 1) := by decide +kernel
theorem dX7_putName_47 : decode cX7_putName 47 = .ok (.aload_n 0, 1) := by decide +kernel
theorem dX7_putName_48 : decode cX7_putName 48 = .ok (.getfield 24, 3) := by decide +kernel
theorem dX7_putName_51 : decode cX7_putName 51 = .ok (.iload_n 2, 1) := by decide +kernel
theorem dX7_putName_52 : decode cX7_putName 52 = .ok (.isub, 1) := by decide +kernel
theorem dX7_putName_53 : decode cX7_putName 53 = .ok (.invokestatic 38, 3) := by decide +kernel
theorem dX7_putName_56 : decode cX7_putName 56 = .ok (.aload_n 0, 1) := by decide +kernel
theorem dX7_putName_57 : decode cX7_putName 57 = .ok (.getfield 15, 3) := by decide +kernel
theorem dX7_putName_60 : decode cX7_putName 60 = .ok (.iload_n 2, 1) := by decide +kernel
theorem dX7_putName_61 : decode cX7_putName 61 = .ok (.iload_n 1, 1) := by decide +kernel
theorem dX7_putName_62 : decode cX7_putName 62 = .ok (.iastore, 1) := by decide +kernel
theorem dX7_putName_63 : decode cX7_putName 63 = .ok (.aload_n 0, 1) := by decide +kernel
theorem dX7_putName_64 : decode cX7_putName 64 = .ok (.dup, 1) := by decide +kernel
theorem dX7_putName_65 : decode cX7_putName 65 = .ok (.getfield 24, 3) := by decide +kernel
theorem dX7_putName_68 : decode cX7_putName 68 = .ok (.iconst 1, 1) := by decide +kernel
theorem dX7_putName_69 : decode cX7_putName 69 = .ok (.iadd, 1) := by decide +kernel
theorem dX7_putName_70 : decode cX7_putName 70 = .ok (.putfield 24, 3) := by decide +kernel
theorem dX7_putName_73 : decode cX7_putName 73 = .ok (.return_, 1) := by decide +kernel
theorem dX7_takeName_0 : decode cX7_takeName 0 = .ok (.aload_n 0, 1) := by decide +kernel
theorem dX7_takeName_1 : decode cX7_takeName 1 = .ok (.aload_n 0, 1) := by decide +kernel
theorem dX7_takeName_2 : decode cX7_takeName 2 = .ok (.iload_n 1, 1) := by decide +kernel
theorem dX7_takeName_3 : decode cX7_takeName 3 = .ok (.invokevirtual 28, 3) := by decide +kernel
theorem dX7_takeName_6 : decode cX7_takeName 6 = .ok (.invokevirtual 35, 3) := by decide +kernel
theorem dX7_takeName_9 : decode cX7_takeName 9 = .ok (.istore_n 2, 1) := by decide +kernel
theorem dX7_takeName_10 : decode cX7_takeName 10 = .ok (.iload_n 2, 1) := by decide +kernel
theorem dX7_takeName_11 : decode cX7_takeName 11 = .ok (.aload_n 0, 1) := by decide +kernel
theorem dX7_takeName_12 : decode cX7_takeName 12 = .ok (.getfield 24, 3) := by decide +kernel
theorem dX7_takeName_15 : decode cX7_takeName 15 = .ok (.if_icmp .ge 29, 3) := by decide +kernel
theorem dX7_takeName_18 : decode cX7_takeName 18 = .ok (.aload_n 0, 1) := by decide +kernel
theorem dX7_takeName_19 : decode cX7_takeName 19 = .ok (.getfield 15, 3) := by decide +kernel
theorem dX7_takeName_22 : decode cX7_takeName 22 = .ok (.iload_n 2, 1) := by decide +kernel
theorem dX7_takeName_23 : decode cX7_takeName 23 = .ok (.iaload, 1) := by decide +kernel
theorem dX7_takeName_24 : decode cX7_takeName 24 = .ok (.iload_n 1, 1) := by decide +kernel
theorem dX7_takeName_25 : decode cX7_takeName 25 = .ok (.if_icmp .eq 19, 3) := by decide +kernel
theorem dX7_takeName_28 : decode cX7_takeName 28 = .ok (.aload_n 0, 1) := by decide +kernel
theorem dX7_takeName_29 : decode cX7_takeName 29 = .ok (.dup, 1) := by decide +kernel
theorem dX7_takeName_30 : decode cX7_takeName 30 = .ok (.getfield 32, 3) := by decide +kernel
theorem dX7_takeName_33 : decode cX7_takeName 33 = .ok (.iconst 1, 1) := by decide +kernel
theorem dX7_takeName_34 : decode cX7_takeName 34 = .ok (.iadd, 1) := by decide +kernel
theorem dX7_takeName_35 : decode cX7_takeName 35 = .ok (.putfield 32, 3) := by decide +kernel
theorem dX7_takeName_38 : decode cX7_takeName 38 = .ok (.iinc 2 1, 3) := by decide +kernel
theorem dX7_takeName_41 : decode cX7_takeName 41 = .ok (.goto (-31), 3) := by decide +kernel
theorem dX7_takeName_44 : decode cX7_takeName 44 = .ok (.iload_n 2, 1) := by decide +kernel
theorem dX7_takeName_45 : decode cX7_takeName 45 = .ok (.aload_n 0, 1) := by decide +kernel
theorem dX7_takeName_46 : decode cX7_takeName 46 = .ok (.getfield 24, 3) := by decide +kernel
theorem dX7_takeName_49 : decode cX7_takeName 49 = .ok (.if_icmp .lt 4, 3) := by decide +kernel
theorem dX7_takeName_52 : decode cX7_takeName 52 = .ok (.return_, 1) := by decide +kernel
theorem dX7_takeName_53 : decode cX7_takeName 53 = .ok (.aload_n 0, 1) := by decide +kernel
theorem dX7_takeName_54 : decode cX7_takeName 54 = .ok (.dup, 1) := by decide +kernel
theorem dX7_takeName_55 : decode cX7_takeName 55 = .ok (.getfield 32, 3) := by decide +kernel
theorem dX7_takeName_58 : decode cX7_takeName 58 = .ok (.iconst 1, 1) := by decide +kernel
theorem dX7_takeName_59 : decode cX7_takeName 59 = .ok (.iadd, 1) := by decide +kernel
theorem dX7_takeName_60 : decode cX7_takeName 60 = .ok (.putfield 32, 3) := by decide +kernel
theorem dX7_takeName_63 : decode cX7_takeName 63 = .ok (.aload_n 0, 1) := by decide +kernel
theorem dX7_takeName_64 : decode cX7_takeName 64 = .ok (.dup, 1) := by decide +kernel
theorem dX7_takeName_65 : decode cX7_takeName 65 = .ok (.getfield 24, 3) := by decide +kernel
theorem dX7_takeName_68 : decode cX7_takeName 68 = .ok (.iconst 1, 1) := by decide +kernel
theorem dX7_takeName_69 : decode cX7_takeName 69 = .ok (.isub, 1) := by decide +kernel
theorem dX7_takeName_70 : decode cX7_takeName 70 = .ok (.putfield 24, 3) := by decide +kernel
theorem dX7_takeName_73 : decode cX7_takeName 73 = .ok (.aload_n 0, 1) := by decide +kernel
theorem dX7_takeName_74 : decode cX7_takeName 74 = .ok (.getfield 15, 3) := by decide +kernel
theorem dX7_takeName_77 : decode cX7_takeName 77 = .ok (.iload_n 2, 1) := by decide +kernel
theorem dX7_takeName_78 : decode cX7_takeName 78 = .ok (.iconst 1, 1) := by decide +kernel
theorem dX7_takeName_79 : decode cX7_takeName 79 = .ok (.iadd, 1) := by decide +kernel
theorem dX7_takeName_80 : decode cX7_takeName 80 = .ok (.aload_n 0, 1) := by decide +kernel
theorem dX7_takeName_81 : decode cX7_takeName 81 = .ok (.getfield 15, 3) := by decide +kernel
theorem dX7_takeName_84 : decode cX7_takeName 84 = .ok (.iload_n 2, 1) := by decide +kernel
theorem dX7_takeName_85 : decode cX7_takeName 85 = .ok (.aload_n 0, 1) := by decide +kernel
theorem dX7_takeName_86 : decode cX7_takeName 86 = .ok (.getfield 24, 3) := by decide +kernel
theorem dX7_takeName_89 : decode cX7_takeName 89 = .ok (.iload_n 2, 1) := by decide +kernel
theorem dX7_takeName_90 : decode cX7_takeName 90 = .ok (.isub, 1) := by decide +kernel
theorem dX7_takeName_91 : decode cX7_takeName 91 = .ok (.invokestatic 38, 3) := by decide +kernel
theorem dX7_takeName_94 : decode cX7_takeName 94 = .ok (.return_, 1) := by decide +kernel
theorem dX7_howMany_0 : decode cX7_howMany 0 = .ok (.aload_n 0, 1) := by decide +kernel
theorem dX7_howMany_1 : decode cX7_howMany 1 = .ok (.getfield 24, 3) := by decide +kernel
theorem dX7_howMany_4 : decode cX7_howMany 4 = .ok (.ireturn, 1) := by decide +kernel
theorem dX7_nameIn_0 : decode cX7_nameIn 0 = .ok (.iload_n 1, 1) := by decide +kernel
theorem dX7_nameIn_1 : decode cX7_nameIn 1 = .ok (.iconst 0, 1) := by decide +kernel
theorem dX7_nameIn_2 : decode cX7_nameIn 2 = .ok (.aload_n 0, 1) := by decide +kernel
theorem dX7_nameIn_3 : decode cX7_nameIn 3 = .ok (.getfield 24, 3) := by decide +kernel
theorem dX7_nameIn_6 : decode cX7_nameIn 6 = .ok (.iconst 1, 1) := by decide +kernel
theorem dX7_nameIn_7 : decode cX7_nameIn 7 = .ok (.isub, 1) := by decide +kernel
theorem dX7_nameIn_8 : decode cX7_nameIn 8 = .ok (.invokestatic 44, 3) := by decide +kernel
theorem dX7_nameIn_11 : decode cX7_nameIn 11 = .ok (.ifCond .eq 12, 3) := by decide +kernel
theorem dX7_nameIn_14 : decode cX7_nameIn 14 = .ok (.aload_n 0, 1) := by decide +kernel
theorem dX7_nameIn_15 : decode cX7_nameIn 15 = .ok (.getfield 15, 3) := by decide +kernel
theorem dX7_nameIn_18 : decode cX7_nameIn 18 = .ok (.iload_n 1, 1) := by decide +kernel
theorem dX7_nameIn_19 : decode cX7_nameIn 19 = .ok (.iaload, 1) := by decide +kernel
theorem dX7_nameIn_20 : decode cX7_nameIn 20 = .ok (.goto 4, 3) := by decide +kernel
theorem dX7_nameIn_23 : decode cX7_nameIn 23 = .ok (.iconst (-1), 1) := by decide +kernel
theorem dX7_nameIn_24 : decode cX7_nameIn 24 = .ok (.ireturn, 1) := by decide +kernel
theorem dX7_run_0 : decode cX7_run 0 = .ok (.aload_n 1, 1) := by decide +kernel
theorem dX7_run_1 : decode cX7_run 1 = .ok (.aload_n 0, 1) := by decide +kernel
theorem dX7_run_2 : decode cX7_run 2 = .ok (.getfield 48, 3) := by decide +kernel
theorem dX7_run_5 : decode cX7_run 5 = .ok (.invokevirtual 51, 3) := by decide +kernel
theorem dX7_run_8 : decode cX7_run 8 = .ok (.istore_n 2, 1) := by decide +kernel
theorem dX7_run_9 : decode cX7_run 9 = .ok (.aload_n 1, 1) := by decide +kernel
theorem dX7_run_10 : decode cX7_run 10 = .ok (.aload_n 0, 1) := by decide +kernel
theorem dX7_run_11 : decode cX7_run 11 = .ok (.getfield 48, 3) := by decide +kernel
theorem dX7_run_14 : decode cX7_run 14 = .ok (.invokevirtual 57, 3) := by decide +kernel
theorem dX7_run_17 : decode cX7_run 17 = .ok (.bipush 8, 2) := by decide +kernel
theorem dX7_run_19 : decode cX7_run 19 = .ok (.irem, 1) := by decide +kernel
theorem dX7_run_20 : decode cX7_run 20 = .ok (.istore_n 3, 1) := by decide +kernel
theorem dX7_run_21 : decode cX7_run 21 = .ok (.iconst 0, 1) := by decide +kernel
theorem dX7_run_22 : decode cX7_run 22 = .ok (.istore 4, 2) := by decide +kernel
theorem dX7_run_24 : decode cX7_run 24 = .ok (.iload 4, 2) := by decide +kernel
theorem dX7_run_26 : decode cX7_run 26 = .ok (.aload_n 0, 1) := by decide +kernel
theorem dX7_run_27 : decode cX7_run 27 = .ok (.getfield 24, 3) := by decide +kernel
theorem dX7_run_30 : decode cX7_run 30 = .ok (.if_icmp .ge 53, 3) := by decide +kernel
theorem dX7_run_33 : decode cX7_run 33 = .ok (.iload_n 2, 1) := by decide +kernel
theorem dX7_run_34 : decode cX7_run 34 = .ok (.ifCond .eq 18, 3) := by decide +kernel
theorem dX7_run_37 : decode cX7_run 37 = .ok (.aload_n 0, 1) := by decide +kernel
theorem dX7_run_38 : decode cX7_run 38 = .ok (.aload_n 0, 1) := by decide +kernel
theorem dX7_run_39 : decode cX7_run 39 = .ok (.getfield 15, 3) := by decide +kernel
theorem dX7_run_42 : decode cX7_run 42 = .ok (.iload 4, 2) := by decide +kernel
theorem dX7_run_44 : decode cX7_run 44 = .ok (.iaload, 1) := by decide +kernel
theorem dX7_run_45 : decode cX7_run 45 = .ok (.invokevirtual 28, 3) := by decide +kernel
theorem dX7_run_48 : decode cX7_run 48 = .ok (.iload_n 3, 1) := by decide +kernel
theorem dX7_run_49 : decode cX7_run 49 = .ok (.if_icmp .ne 28, 3) := by decide +kernel
theorem dX7_run_52 : decode cX7_run 52 = .ok (.aload_n 0, 1) := by decide +kernel
theorem dX7_run_53 : decode cX7_run 53 = .ok (.dup, 1) := by decide +kernel
theorem dX7_run_54 : decode cX7_run 54 = .ok (.getfield 32, 3) := by decide +kernel
theorem dX7_run_57 : decode cX7_run 57 = .ok (.iconst 1, 1) := by decide +kernel
theorem dX7_run_58 : decode cX7_run 58 = .ok (.iadd, 1) := by decide +kernel
theorem dX7_run_59 : decode cX7_run 59 = .ok (.putfield 32, 3) := by decide +kernel
theorem dX7_run_62 : decode cX7_run 62 = .ok (.aload_n 1, 1) := by decide +kernel
theorem dX7_run_63 : decode cX7_run 63 = .ok (.aload_n 0, 1) := by decide +kernel
theorem dX7_run_64 : decode cX7_run 64 = .ok (.getfield 60, 3) := by decide +kernel
theorem dX7_run_67 : decode cX7_run 67 = .ok (.aload_n 0, 1) := by decide +kernel
theorem dX7_run_68 : decode cX7_run 68 = .ok (.getfield 15, 3) := by decide +kernel
theorem dX7_run_71 : decode cX7_run 71 = .ok (.iload 4, 2) := by decide +kernel
theorem dX7_run_73 : decode cX7_run 73 = .ok (.iaload, 1) := by decide +kernel
theorem dX7_run_74 : decode cX7_run 74 = .ok (.invokevirtual 64, 3) := by decide +kernel
theorem dX7_run_77 : decode cX7_run 77 = .ok (.iinc 4 1, 3) := by decide +kernel
theorem dX7_run_80 : decode cX7_run 80 = .ok (.goto (-56), 3) := by decide +kernel
theorem dX7_run_83 : decode cX7_run 83 = .ok (.aload_n 1, 1) := by decide +kernel
theorem dX7_run_84 : decode cX7_run 84 = .ok (.invokevirtual 68, 3) := by decide +kernel
theorem dX7_run_87 : decode cX7_run 87 = .ok (.ireturn, 1) := by decide +kernel
theorem dX7_priceFor_0 : decode cX7_priceFor 0 = .ok (.aload_n 1, 1) := by decide +kernel
theorem dX7_priceFor_1 : decode cX7_priceFor 1 = .ok (.aload_n 0, 1) := by decide +kernel
theorem dX7_priceFor_2 : decode cX7_priceFor 2 = .ok (.getfield 48, 3) := by decide +kernel
theorem dX7_priceFor_5 : decode cX7_priceFor 5 = .ok (.invokevirtual 51, 3) := by decide +kernel
theorem dX7_priceFor_8 : decode cX7_priceFor 8 = .ok (.ifCond .eq 12, 3) := by decide +kernel
theorem dX7_priceFor_11 : decode cX7_priceFor 11 = .ok (.iload_n 2, 1) := by decide +kernel
theorem dX7_priceFor_12 : decode cX7_priceFor 12 = .ok (.bipush 8, 2) := by decide +kernel
theorem dX7_priceFor_14 : decode cX7_priceFor 14 = .ok (.idiv, 1) := by decide +kernel
theorem dX7_priceFor_15 : decode cX7_priceFor 15 = .ok (.iconst 1, 1) := by decide +kernel
theorem dX7_priceFor_16 : decode cX7_priceFor 16 = .ok (.iadd, 1) := by decide +kernel
theorem dX7_priceFor_17 : decode cX7_priceFor 17 = .ok (.goto 4, 3) := by decide +kernel
theorem dX7_priceFor_20 : decode cX7_priceFor 20 = .ok (.iload_n 2, 1) := by decide +kernel
theorem dX7_priceFor_21 : decode cX7_priceFor 21 = .ok (.ireturn, 1) := by decide +kernel
theorem dX7_priceOfPut_0 : decode cX7_priceOfPut 0 = .ok (.iconst 1, 1) := by decide +kernel
theorem dX7_priceOfPut_1 : decode cX7_priceOfPut 1 = .ok (.ireturn, 1) := by decide +kernel
theorem dX7_finds_0 : decode cX7_finds 0 = .ok (.aload_n 0, 1) := by decide +kernel
theorem dX7_finds_1 : decode cX7_finds 1 = .ok (.bipush 50, 2) := by decide +kernel
theorem dX7_finds_3 : decode cX7_finds 3 = .ok (.invokevirtual 72, 3) := by decide +kernel
theorem dX7_finds_6 : decode cX7_finds 6 = .ok (.aload_n 0, 1) := by decide +kernel
theorem dX7_finds_7 : decode cX7_finds 7 = .ok (.iload_n 1, 1) := by decide +kernel
theorem dX7_finds_8 : decode cX7_finds 8 = .ok (.invokespecial 76, 3) := by decide +kernel
theorem dX7_finds_11 : decode cX7_finds 11 = .ok (.iconst 3, 1) := by decide +kernel
theorem dX7_finds_12 : decode cX7_finds 12 = .ok (.imul, 1) := by decide +kernel
theorem dX7_finds_13 : decode cX7_finds 13 = .ok (.ireturn, 1) := by decide +kernel
theorem dX8_init_0 : decode cX8_init 0 = .ok (.aload_n 0, 1) := by decide +kernel
theorem dX8_init_1 : decode cX8_init 1 = .ok (.invokespecial 3, 3) := by decide +kernel
theorem dX8_init_4 : decode cX8_init 4 = .ok (.aload_n 0, 1) := by decide +kernel
theorem dX8_init_5 : decode cX8_init 5 = .ok (.iconst 4, 1) := by decide +kernel
theorem dX8_init_6 : decode cX8_init 6 = .ok (.newarray .int, 2) := by decide +kernel
theorem dX8_init_8 : decode cX8_init 8 = .ok (.putfield 9, 3) := by decide +kernel
theorem dX8_init_11 : decode cX8_init 11 = .ok (.aload_n 0, 1) := by decide +kernel
theorem dX8_init_12 : decode cX8_init 12 = .ok (.iconst 4, 1) := by decide +kernel
theorem dX8_init_13 : decode cX8_init 13 = .ok (.newarray .int, 2) := by decide +kernel
theorem dX8_init_15 : decode cX8_init 15 = .ok (.putfield 15, 3) := by decide +kernel
theorem dX8_init_18 : decode cX8_init 18 = .ok (.aload_n 0, 1) := by decide +kernel
theorem dX8_init_19 : decode cX8_init 19 = .ok (.iconst 4, 1) := by decide +kernel
theorem dX8_init_20 : decode cX8_init 20 = .ok (.bipush 80, 2) := by decide +kernel
theorem dX8_init_22 : decode cX8_init 22 = .ok (.multianewarray 18 2, 4) := by decide +kernel
theorem dX8_init_26 : decode cX8_init 26 = .ok (.putfield 20, 3) := by decide +kernel
theorem dX8_init_29 : decode cX8_init 29 = .ok (.aload_n 0, 1) := by decide +kernel
theorem dX8_init_30 : decode cX8_init 30 = .ok (.bipush 80, 2) := by decide +kernel
theorem dX8_init_32 : decode cX8_init 32 = .ok (.newarray .int, 2) := by decide +kernel
theorem dX8_init_34 : decode cX8_init 34 = .ok (.putfield 23, 3) := by decide +kernel
theorem dX8_init_37 : decode cX8_init 37 = .ok (.aload_n 0, 1) := by decide +kernel
theorem dX8_init_38 : decode cX8_init 38 = .ok (.iconst 4, 1) := by decide +kernel
theorem dX8_init_39 : decode cX8_init 39 = .ok (.newarray .int, 2) := by decide +kernel
theorem dX8_init_41 : decode cX8_init 41 = .ok (.putfield 26, 3) := by decide +kernel
theorem dX8_init_44 : decode cX8_init 44 = .ok (.aload_n 0, 1) := by decide +kernel
theorem dX8_init_45 : decode cX8_init 45 = .ok (.iconst 4, 1) := by decide +kernel
theorem dX8_init_46 : decode cX8_init 46 = .ok (.newarray .int, 2) := by decide +kernel
theorem dX8_init_48 : decode cX8_init 48 = .ok (.putfield 29, 3) := by decide +kernel
theorem dX8_init_51 : decode cX8_init 51 = .ok (.aload_n 0, 1) := by decide +kernel
theorem dX8_init_52 : decode cX8_init 52 = .ok (.iconst 4, 1) := by decide +kernel
theorem dX8_init_53 : decode cX8_init 53 = .ok (.newarray .int, 2) := by decide +kernel
theorem dX8_init_55 : decode cX8_init 55 = .ok (.putfield 32, 3) := by decide +kernel
theorem dX8_init_58 : decode cX8_init 58 = .ok (.aload_n 0, 1) := by decide +kernel
theorem dX8_init_59 : decode cX8_init 59 = .ok (.getfield 15, 3) := by decide +kernel
theorem dX8_init_62 : decode cX8_init 62 = .ok (.iconst (-1), 1) := by decide +kernel
theorem dX8_init_63 : decode cX8_init 63 = .ok (.invokestatic 35, 3) := by decide +kernel
theorem dX8_init_66 : decode cX8_init 66 = .ok (.return_, 1) := by decide +kernel
theorem dX8_has_0 : decode cX8_has 0 = .ok (.iload_n 1, 1) := by decide +kernel
theorem dX8_has_1 : decode cX8_has 1 = .ok (.iconst 0, 1) := by decide +kernel
theorem dX8_has_2 : decode cX8_has 2 = .ok (.aload_n 0, 1) := by decide +kernel
theorem dX8_has_3 : decode cX8_has 3 = .ok (.getfield 41, 3) := by decide +kernel
theorem dX8_has_6 : decode cX8_has 6 = .ok (.iconst 1, 1) := by decide +kernel
theorem dX8_has_7 : decode cX8_has 7 = .ok (.isub, 1) := by decide +kernel
theorem dX8_has_8 : decode cX8_has 8 = .ok (.invokestatic 45, 3) := by decide +kernel
theorem dX8_has_11 : decode cX8_has 11 = .ok (.ireturn, 1) := by decide +kernel
theorem dX8_isIn_0 : decode cX8_isIn 0 = .ok (.aload_n 0, 1) := by decide +kernel
theorem dX8_isIn_1 : decode cX8_isIn 1 = .ok (.getfield 23, 3) := by decide +kernel
theorem dX8_isIn_4 : decode cX8_isIn 4 = .ok (.iload_n 1, 1) := by decide +kernel
theorem dX8_isIn_5 : decode cX8_isIn 5 = .ok (.iaload, 1) := by decide +kernel
theorem dX8_isIn_6 : decode cX8_isIn 6 = .ok (.sipush 1000, 3) := by decide +kernel
theorem dX8_isIn_9 : decode cX8_isIn 9 = .ok (.if_icmp .ne 7, 3) := by decide +kernel
theorem dX8_isIn_12 : decode cX8_isIn 12 = .ok (.iconst 1, 1) := by decide +kernel
theorem dX8_isIn_13 : decode cX8_isIn 13 = .ok (.goto 4, 3) := by decide +kernel
theorem dX8_isIn_16 : decode cX8_isIn 16 = .ok (.iconst 0, 1) := by decide +kernel
theorem dX8_isIn_17 : decode cX8_isIn 17 = .ok (.ireturn, 1) := by decide +kernel
theorem dX8_value_0 : decode cX8_value 0 = .ok (.aload_n 0, 1) := by decide +kernel
theorem dX8_value_1 : decode cX8_value 1 = .ok (.getfield 20, 3) := by decide +kernel
theorem dX8_value_4 : decode cX8_value 4 = .ok (.iload_n 2, 1) := by decide +kernel
theorem dX8_value_5 : decode cX8_value 5 = .ok (.aaload, 1) := by decide +kernel
theorem dX8_value_6 : decode cX8_value 6 = .ok (.iload_n 1, 1) := by decide +kernel
theorem dX8_value_7 : decode cX8_value 7 = .ok (.iaload, 1) := by decide +kernel
theorem dX8_value_8 : decode cX8_value 8 = .ok (.ireturn, 1) := by decide +kernel
theorem dX8_countIn_0 : decode cX8_countIn 0 = .ok (.aload_n 0, 1) := by decide +kernel
theorem dX8_countIn_1 : decode cX8_countIn 1 = .ok (.getfield 41, 3) := by decide +kernel
theorem dX8_countIn_4 : decode cX8_countIn 4 = .ok (.aload_n 0, 1) := by decide +kernel
theorem dX8_countIn_5 : decode cX8_countIn 5 = .ok (.getfield 49, 3) := by decide +kernel
theorem dX8_countIn_8 : decode cX8_countIn 8 = .ok (.isub, 1) := by decide +kernel
theorem dX8_countIn_9 : decode cX8_countIn 9 = .ok (.ireturn, 1) := by decide +kernel
theorem dX8_sum_0 : decode cX8_sum 0 = .ok (.iconst 0, 1) := by decide +kernel
theorem dX8_sum_1 : decode cX8_sum 1 = .ok (.istore_n 2, 1) := by decide +kernel
theorem dX8_sum_2 : decode cX8_sum 2 = .ok (.iconst 0, 1) := by decide +kernel
theorem dX8_sum_3 : decode cX8_sum 3 = .ok (.istore_n 3, 1) := by decide +kernel
theorem dX8_sum_4 : decode cX8_sum 4 = .ok (.iload_n 3, 1) := by decide +kernel
theorem dX8_sum_5 : decode cX8_sum 5 = .ok (.aload_n 0, 1) := by decide +kernel
theorem dX8_sum_6 : decode cX8_sum 6 = .ok (.getfield 41, 3) := by decide +kernel
theorem dX8_sum_9 : decode cX8_sum 9 = .ok (.if_icmp .ge 30, 3) := by decide +kernel
theorem dX8_sum_12 : decode cX8_sum 12 = .ok (.iload_n 2, 1) := by decide +kernel
theorem dX8_sum_13 : decode cX8_sum 13 = .ok (.aload_n 0, 1) := by decide +kernel
theorem dX8_sum_14 : decode cX8_sum 14 = .ok (.iload_n 3, 1) := by decide +kernel
theorem dX8_sum_15 : decode cX8_sum 15 = .ok (.invokevirtual 52, 3) := by decide +kernel
theorem dX8_sum_18 : decode cX8_sum 18 = .ok (.ifCond .eq 12, 3) := by decide +kernel
theorem dX8_sum_21 : decode cX8_sum 21 = .ok (.aload_n 0, 1) := by decide +kernel
theorem dX8_sum_22 : decode cX8_sum 22 = .ok (.iload_n 3, 1) := by decide +kernel
theorem dX8_sum_23 : decode cX8_sum 23 = .ok (.iload_n 1, 1) := by decide +kernel
theorem dX8_sum_24 : decode cX8_sum 24 = .ok (.invokevirtual 56, 3) := by decide +kernel
theorem dX8_sum_27 : decode cX8_sum 27 = .ok (.goto 4, 3) := by decide +kernel
theorem dX8_sum_30 : decode cX8_sum 30 = .ok (.iconst 0, 1) := by decide +kernel
theorem dX8_sum_31 : decode cX8_sum 31 = .ok (.iadd, 1) := by decide +kernel
theorem dX8_sum_32 : decode cX8_sum 32 = .ok (.istore_n 2, 1) := by decide +kernel
theorem dX8_sum_33 : decode cX8_sum 33 = .ok (.iinc 3 1, 3) := by decide +kernel
theorem dX8_sum_36 : decode cX8_sum 36 = .ok (.goto (-32), 3) := by decide +kernel
theorem dX8_sum_39 : decode cX8_sum 39 = .ok (.iload_n 2, 1) := by decide +kernel
theorem dX8_sum_40 : decode cX8_sum 40 = .ok (.ireturn, 1) := by decide +kernel
theorem dX8_hasLikes_0 : decode cX8_hasLikes 0 = .ok (.iconst 0, 1) := by decide +kernel
theorem dX8_hasLikes_1 : decode cX8_hasLikes 1 = .ok (.istore_n 2, 1) := by decide +kernel
theorem dX8_hasLikes_2 : decode cX8_hasLikes 2 = .ok (.iload_n 2, 1) := by decide +kernel
theorem dX8_hasLikes_3 : decode cX8_hasLikes 3 = .ok (.aload_n 0, 1) := by decide +kernel
theorem dX8_hasLikes_4 : decode cX8_hasLikes 4 = .ok (.getfield 41, 3) := by decide +kernel
theorem dX8_hasLikes_7 : decode cX8_hasLikes 7 = .ok (.if_icmp .ge 34, 3) := by decide +kernel
theorem dX8_hasLikes_10 : decode cX8_hasLikes 10 = .ok (.aload_n 0, 1) := by decide +kernel
theorem dX8_hasLikes_11 : decode cX8_hasLikes 11 = .ok (.iload_n 2, 1) := by decide +kernel
theorem dX8_hasLikes_12 : decode cX8_hasLikes 12 = .ok (.invokevirtual 52, 3) := by decide +kernel
theorem dX8_hasLikes_15 : decode cX8_hasLikes 15 = .ok (.ifCond .eq 20, 3) := by decide +kernel
theorem dX8_hasLikes_18 : decode cX8_hasLikes 18 = .ok (.aload_n 0, 1) := by decide +kernel
theorem dX8_hasLikes_19 : decode cX8_hasLikes 19 = .ok (.iload_n 2, 1) := by decide +kernel
theorem dX8_hasLikes_20 : decode cX8_hasLikes 20 = .ok (.iload_n 1, 1) := by decide +kernel
theorem dX8_hasLikes_21 : decode cX8_hasLikes 21 = .ok (.aload_n 0, 1) := by decide +kernel
theorem dX8_hasLikes_22 : decode cX8_hasLikes 22 = .ok (.iload_n 2, 1) := by decide +kernel
theorem dX8_hasLikes_23 : decode cX8_hasLikes 23 = .ok (.iload_n 1, 1) := by decide +kernel
theorem dX8_hasLikes_24 : decode cX8_hasLikes 24 = .ok (.invokevirtual 56, 3) := by decide +kernel
theorem dX8_hasLikes_27 : decode cX8_hasLikes 27 = .ok (.invokevirtual 60, 3) := by decide +kernel
theorem dX8_hasLikes_30 : decode cX8_hasLikes 30 = .ok (.ifCond .eq 5, 3) := by decide +kernel
theorem dX8_hasLikes_33 : decode cX8_hasLikes 33 = .ok (.iconst 1, 1) := by decide +kernel
theorem dX8_hasLikes_34 : decode cX8_hasLikes 34 = .ok (.ireturn, 1) := by decide +kernel
theorem dX8_hasLikes_35 : decode cX8_hasLikes 35 = .ok (.iinc 2 1, 3) := by decide +kernel
theorem dX8_hasLikes_38 : decode cX8_hasLikes 38 = .ok (.goto (-36), 3) := by decide +kernel
theorem dX8_hasLikes_41 : decode cX8_hasLikes 41 = .ok (.iconst 0, 1) := by decide +kernel
theorem dX8_hasLikes_42 : decode cX8_hasLikes 42 = .ok (.ireturn, 1) := by decide +kernel
theorem dX8_hasAhead_0 : decode cX8_hasAhead 0 = .ok (.iconst 0, 1) := by decide +kernel
theorem dX8_hasAhead_1 : decode cX8_hasAhead 1 = .ok (.istore 4, 2) := by decide +kernel
theorem dX8_hasAhead_3 : decode cX8_hasAhead 3 = .ok (.iload 4, 2) := by decide +kernel
theorem dX8_hasAhead_5 : decode cX8_hasAhead 5 = .ok (.iload_n 1, 1) := by decide +kernel
theorem dX8_hasAhead_6 : decode cX8_hasAhead 6 = .ok (.if_icmp .ge 31, 3) := by decide +kernel
theorem dX8_hasAhead_9 : decode cX8_hasAhead 9 = .ok (.aload_n 0, 1) := by decide +kernel
theorem dX8_hasAhead_10 : decode cX8_hasAhead 10 = .ok (.iload 4, 2) := by decide +kernel
theorem dX8_hasAhead_12 : decode cX8_hasAhead 12 = .ok (.invokevirtual 52, 3) := by decide +kernel
theorem dX8_hasAhead_15 : decode cX8_hasAhead 15 = .ok (.ifCond .eq 16, 3) := by decide +kernel
theorem dX8_hasAhead_18 : decode cX8_hasAhead 18 = .ok (.aload_n 0, 1) := by decide +kernel
theorem dX8_hasAhead_19 : decode cX8_hasAhead 19 = .ok (.iload 4, 2) := by decide +kernel
theorem dX8_hasAhead_21 : decode cX8_hasAhead 21 = .ok (.iload_n 2, 1) := by decide +kernel
theorem dX8_hasAhead_22 : decode cX8_hasAhead 22 = .ok (.invokevirtual 56, 3) := by decide +kernel
theorem dX8_hasAhead_25 : decode cX8_hasAhead 25 = .ok (.iload_n 3, 1) := by decide +kernel
theorem dX8_hasAhead_26 : decode cX8_hasAhead 26 = .ok (.if_icmp .ne 5, 3) := by decide +kernel
theorem dX8_hasAhead_29 : decode cX8_hasAhead 29 = .ok (.iconst 1, 1) := by decide +kernel
theorem dX8_hasAhead_30 : decode cX8_hasAhead 30 = .ok (.ireturn, 1) := by decide +kernel
theorem dX8_hasAhead_31 : decode cX8_hasAhead 31 = .ok (.iinc 4 1, 3) := by decide +kernel
theorem dX8_hasAhead_34 : decode cX8_hasAhead 34 = .ok (.goto (-31), 3) := by decide +kernel
theorem dX8_hasAhead_37 : decode cX8_hasAhead 37 = .ok (.iconst 0, 1) := by decide +kernel
theorem dX8_hasAhead_38 : decode cX8_hasAhead 38 = .ok (.ireturn, 1) := by decide +kernel
theorem dX8_wouldBreak_0 : decode cX8_wouldBreak 0 = .ok (.aload_n 0, 1) := by decide +kernel
theorem dX8_wouldBreak_1 : decode cX8_wouldBreak 1 = .ok (.getfield 9, 3) := by decide +kernel
theorem dX8_wouldBreak_4 : decode cX8_wouldBreak 4 = .ok (.iload_n 1, 1) := by decide +kernel
theorem dX8_wouldBreak_5 : decode cX8_wouldBreak 5 = .ok (.iaload, 1) := by decide +kernel
theorem dX8_wouldBreak_6 : decode cX8_wouldBreak 6 = .ok (.iconst 1, 1) := by decide +kernel
theorem dX8_wouldBreak_7 : decode cX8_wouldBreak 7 = .ok (.if_icmp .ne 18, 3) := by decide +kernel
theorem dX8_wouldBreak_10 : decode cX8_wouldBreak 10 = .ok (.aload_n 0, 1) := by decide +kernel
theorem dX8_wouldBreak_11 : decode cX8_wouldBreak 11 = .ok (.aload_n 0, 1) := by decide +kernel
theorem dX8_wouldBreak_12 : decode cX8_wouldBreak 12 = .ok (.getfield 41, 3) := by decide +kernel
theorem dX8_wouldBreak_15 : decode cX8_wouldBreak 15 = .ok (.iload_n 1, 1) := by decide +kernel
theorem dX8_wouldBreak_16 : decode cX8_wouldBreak 16 = .ok (.iload_n 2, 1) := by decide +kernel
theorem dX8_wouldBreak_17 : decode cX8_wouldBreak 17 = .ok (.invokevirtual 60, 3) := by decide +kernel
theorem dX8_wouldBreak_20 : decode cX8_wouldBreak 20 = .ok (.ifCond .eq 5, 3) := by decide +kernel
theorem dX8_wouldBreak_23 : decode cX8_wouldBreak 23 = .ok (.iconst 1, 1) := by decide +kernel
theorem dX8_wouldBreak_24 : decode cX8_wouldBreak 24 = .ok (.ireturn, 1) := by decide +kernel
theorem dX8_wouldBreak_25 : decode cX8_wouldBreak 25 = .ok (.aload_n 0, 1) := by decide +kernel
theorem dX8_wouldBreak_26 : decode cX8_wouldBreak 26 = .ok (.getfield 15, 3) := by decide +kernel
theorem dX8_wouldBreak_29 : decode cX8_wouldBreak 29 = .ok (.iload_n 1, 1) := by decide +kernel
theorem dX8_wouldBreak_30 : decode cX8_wouldBreak 30 = .ok (.iaload, 1) := by decide +kernel
theorem dX8_wouldBreak_31 : decode cX8_wouldBreak 31 = .ok (.iconst (-1), 1) := by decide +kernel
theorem dX8_wouldBreak_32 : decode cX8_wouldBreak 32 = .ok (.if_icmp .eq 23, 3) := by decide +kernel
theorem dX8_wouldBreak_35 : decode cX8_wouldBreak 35 = .ok (.aload_n 0, 1) := by decide +kernel
theorem dX8_wouldBreak_36 : decode cX8_wouldBreak 36 = .ok (.iload_n 1, 1) := by decide +kernel
theorem dX8_wouldBreak_37 : decode cX8_wouldBreak 37 = .ok (.invokevirtual 63, 3) := by decide +kernel
theorem dX8_wouldBreak_40 : decode cX8_wouldBreak 40 = .ok (.iload_n 2, 1) := by decide +kernel
theorem dX8_wouldBreak_41 : decode cX8_wouldBreak 41 = .ok (.iadd, 1) := by decide +kernel
theorem dX8_wouldBreak_42 : decode cX8_wouldBreak 42 = .ok (.aload_n 0, 1) := by decide +kernel
theorem dX8_wouldBreak_43 : decode cX8_wouldBreak 43 = .ok (.getfield 15, 3) := by decide +kernel
theorem dX8_wouldBreak_46 : decode cX8_wouldBreak 46 = .ok (.iload_n 1, 1) := by decide +kernel
theorem dX8_wouldBreak_47 : decode cX8_wouldBreak 47 = .ok (.iaload, 1) := by decide +kernel
theorem dX8_wouldBreak_48 : decode cX8_wouldBreak 48 = .ok (.if_icmp .le 7, 3) := by decide +kernel
theorem dX8_wouldBreak_51 : decode cX8_wouldBreak 51 = .ok (.iconst 1, 1) := by decide +kernel
theorem dX8_wouldBreak_52 : decode cX8_wouldBreak 52 = .ok (.goto 4, 3) := by decide +kernel
theorem dX8_wouldBreak_55 : decode cX8_wouldBreak 55 = .ok (.iconst 0, 1) := by decide +kernel
theorem dX8_wouldBreak_56 : decode cX8_wouldBreak 56 = .ok (.ireturn, 1) := by decide +kernel
theorem dX8_add_0 : decode cX8_add 0 = .ok (.aload_n 0, 1) := by decide +kernel
theorem dX8_add_1 : decode cX8_add 1 = .ok (.getfield 20, 3) := by decide +kernel
theorem dX8_add_4 : decode cX8_add 4 = .ok (.iconst 0, 1) := by decide +kernel
theorem dX8_add_5 : decode cX8_add 5 = .ok (.aaload, 1) := by decide +kernel
theorem dX8_add_6 : decode cX8_add 6 = .ok (.aload_n 0, 1) := by decide +kernel
theorem dX8_add_7 : decode cX8_add 7 = .ok (.getfield 41, 3) := by decide +kernel
theorem dX8_add_10 : decode cX8_add 10 = .ok (.iload_n 1, 1) := by decide +kernel
theorem dX8_add_11 : decode cX8_add 11 = .ok (.iastore, 1) := by decide +kernel
theorem dX8_add_12 : decode cX8_add 12 = .ok (.aload_n 0, 1) := by decide +kernel
theorem dX8_add_13 : decode cX8_add 13 = .ok (.getfield 20, 3) := by decide +kernel
theorem dX8_add_16 : decode cX8_add 16 = .ok (.iconst 1, 1) := by decide +kernel
theorem dX8_add_17 : decode cX8_add 17 = .ok (.aaload, 1) := by decide +kernel
theorem dX8_add_18 : decode cX8_add 18 = .ok (.aload_n 0, 1) := by decide +kernel
theorem dX8_add_19 : decode cX8_add 19 = .ok (.getfield 41, 3) := by decide +kernel
theorem dX8_add_22 : decode cX8_add 22 = .ok (.iload_n 2, 1) := by decide +kernel
theorem dX8_add_23 : decode cX8_add 23 = .ok (.iastore, 1) := by decide +kernel
theorem dX8_add_24 : decode cX8_add 24 = .ok (.aload_n 0, 1) := by decide +kernel
theorem dX8_add_25 : decode cX8_add 25 = .ok (.getfield 20, 3) := by decide +kernel
theorem dX8_add_28 : decode cX8_add 28 = .ok (.iconst 2, 1) := by decide +kernel
theorem dX8_add_29 : decode cX8_add 29 = .ok (.aaload, 1) := by decide +kernel
theorem dX8_add_30 : decode cX8_add 30 = .ok (.aload_n 0, 1) := by decide +kernel
theorem dX8_add_31 : decode cX8_add 31 = .ok (.getfield 41, 3) := by decide +kernel
theorem dX8_add_34 : decode cX8_add 34 = .ok (.iload_n 3, 1) := by decide +kernel
theorem dX8_add_35 : decode cX8_add 35 = .ok (.iastore, 1) := by decide +kernel
theorem dX8_add_36 : decode cX8_add 36 = .ok (.aload_n 0, 1) := by decide +kernel
theorem dX8_add_37 : decode cX8_add 37 = .ok (.getfield 20, 3) := by decide +kernel
theorem dX8_add_40 : decode cX8_add 40 = .ok (.iconst 3, 1) := by decide +kernel
theorem dX8_add_41 : decode cX8_add 41 = .ok (.aaload, 1) := by decide +kernel
theorem dX8_add_42 : decode cX8_add 42 = .ok (.aload_n 0, 1) := by decide +kernel
theorem dX8_add_43 : decode cX8_add 43 = .ok (.getfield 41, 3) := by decide +kernel
theorem dX8_add_46 : decode cX8_add 46 = .ok (.iload 4, 2) := by decide +kernel
theorem dX8_add_48 : decode cX8_add 48 = .ok (.iastore, 1) := by decide +kernel
theorem dX8_add_49 : decode cX8_add 49 = .ok (.aload_n 0, 1) := by decide +kernel
theorem dX8_add_50 : decode cX8_add 50 = .ok (.getfield 23, 3) := by decide +kernel
theorem dX8_add_53 : decode cX8_add 53 = .ok (.aload_n 0, 1) := by decide +kernel
theorem dX8_add_54 : decode cX8_add 54 = .ok (.getfield 41, 3) := by decide +kernel
theorem dX8_add_57 : decode cX8_add 57 = .ok (.sipush 1000, 3) := by decide +kernel
theorem dX8_add_60 : decode cX8_add 60 = .ok (.iastore, 1) := by decide +kernel
theorem dX8_add_61 : decode cX8_add 61 = .ok (.aload_n 0, 1) := by decide +kernel
theorem dX8_add_62 : decode cX8_add 62 = .ok (.dup, 1) := by decide +kernel
theorem dX8_add_63 : decode cX8_add 63 = .ok (.getfield 41, 3) := by decide +kernel
theorem dX8_add_66 : decode cX8_add 66 = .ok (.iconst 1, 1) := by decide +kernel
theorem dX8_add_67 : decode cX8_add 67 = .ok (.iadd, 1) := by decide +kernel
theorem dX8_add_68 : decode cX8_add 68 = .ok (.putfield 41, 3) := by decide +kernel
theorem dX8_add_71 : decode cX8_add 71 = .ok (.aload_n 0, 1) := by decide +kernel
theorem dX8_add_72 : decode cX8_add 72 = .ok (.getfield 41, 3) := by decide +kernel
theorem dX8_add_75 : decode cX8_add 75 = .ok (.iconst 1, 1) := by decide +kernel
theorem dX8_add_76 : decode cX8_add 76 = .ok (.isub, 1) := by decide +kernel
theorem dX8_add_77 : decode cX8_add 77 = .ok (.ireturn, 1) := by decide +kernel
theorem dX8_remove_0 : decode cX8_remove 0 = .ok (.aload_n 0, 1) := by decide +kernel
theorem dX8_remove_1 : decode cX8_remove 1 = .ok (.getfield 23, 3) := by decide +kernel
theorem dX8_remove_4 : decode cX8_remove 4 = .ok (.iload_n 1, 1) := by decide +kernel
theorem dX8_remove_5 : decode cX8_remove 5 = .ok (.aload_n 0, 1) := by decide +kernel
theorem dX8_remove_6 : decode cX8_remove 6 = .ok (.getfield 49, 3) := by decide +kernel
theorem dX8_remove_9 : decode cX8_remove 9 = .ok (.iastore, 1) := by decide +kernel
theorem dX8_remove_10 : decode cX8_remove 10 = .ok (.aload_n 0, 1) := by decide +kernel
theorem dX8_remove_11 : decode cX8_remove 11 = .ok (.dup, 1) := by decide +kernel
theorem dX8_remove_12 : decode cX8_remove 12 = .ok (.getfield 49, 3) := by decide +kernel
theorem dX8_remove_15 : decode cX8_remove 15 = .ok (.iconst 1, 1) := by decide +kernel
theorem dX8_remove_16 : decode cX8_remove 16 = .ok (.iadd, 1) := by decide +kernel
theorem dX8_remove_17 : decode cX8_remove 17 = .ok (.putfield 49, 3) := by decide +kernel
theorem dX8_remove_20 : decode cX8_remove 20 = .ok (.return_, 1) := by decide +kernel
theorem dX8_addWalk_0 : decode cX8_addWalk 0 = .ok (.aload_n 0, 1) := by decide +kernel
theorem dX8_addWalk_1 : decode cX8_addWalk 1 = .ok (.getfield 26, 3) := by decide +kernel
theorem dX8_addWalk_4 : decode cX8_addWalk 4 = .ok (.aload_n 0, 1) := by decide +kernel
theorem dX8_addWalk_5 : decode cX8_addWalk 5 = .ok (.getfield 67, 3) := by decide +kernel
theorem dX8_addWalk_8 : decode cX8_addWalk 8 = .ok (.iconst 0, 1) := by decide +kernel
theorem dX8_addWalk_9 : decode cX8_addWalk 9 = .ok (.iastore, 1) := by decide +kernel
theorem dX8_addWalk_10 : decode cX8_addWalk 10 = .ok (.aload_n 0, 1) := by decide +kernel
theorem dX8_addWalk_11 : decode cX8_addWalk 11 = .ok (.getfield 29, 3) := by decide +kernel
theorem dX8_addWalk_14 : decode cX8_addWalk 14 = .ok (.aload_n 0, 1) := by decide +kernel
theorem dX8_addWalk_15 : decode cX8_addWalk 15 = .ok (.getfield 67, 3) := by decide +kernel
theorem dX8_addWalk_18 : decode cX8_addWalk 18 = .ok (.iload_n 1, 1) := by decide +kernel
theorem dX8_addWalk_19 : decode cX8_addWalk 19 = .ok (.ifCond .eq 10, 3) := by decide +kernel
theorem dX8_addWalk_22 : decode cX8_addWalk 22 = .ok (.aload_n 0, 1) := by decide +kernel
theorem dX8_addWalk_23 : decode cX8_addWalk 23 = .ok (.getfield 41, 3) := by decide +kernel
theorem dX8_addWalk_26 : decode cX8_addWalk 26 = .ok (.goto 5, 3) := by decide +kernel
theorem dX8_addWalk_29 : decode cX8_addWalk 29 = .ok (.bipush 80, 2) := by decide +kernel
theorem dX8_addWalk_31 : decode cX8_addWalk 31 = .ok (.iastore, 1) := by decide +kernel
theorem dX8_addWalk_32 : decode cX8_addWalk 32 = .ok (.aload_n 0, 1) := by decide +kernel
theorem dX8_addWalk_33 : decode cX8_addWalk 33 = .ok (.getfield 32, 3) := by decide +kernel
theorem dX8_addWalk_36 : decode cX8_addWalk 36 = .ok (.aload_n 0, 1) := by decide +kernel
theorem dX8_addWalk_37 : decode cX8_addWalk 37 = .ok (.getfield 67, 3) := by decide +kernel
theorem dX8_addWalk_40 : decode cX8_addWalk 40 = .ok (.iload_n 1, 1) := by decide +kernel
theorem dX8_addWalk_41 : decode cX8_addWalk 41 = .ok (.ifCond .eq 10, 3) := by decide +kernel
theorem dX8_addWalk_44 : decode cX8_addWalk 44 = .ok (.aload_n 0, 1) := by decide +kernel
theorem dX8_addWalk_45 : decode cX8_addWalk 45 = .ok (.getfield 49, 3) := by decide +kernel
theorem dX8_addWalk_48 : decode cX8_addWalk 48 = .ok (.goto 6, 3) := by decide +kernel
theorem dX8_addWalk_51 : decode cX8_addWalk 51 = .ok (.sipush 1000, 3) := by decide +kernel
theorem dX8_addWalk_54 : decode cX8_addWalk 54 = .ok (.iastore, 1) := by decide +kernel
theorem dX8_addWalk_55 : decode cX8_addWalk 55 = .ok (.aload_n 0, 1) := by decide +kernel
theorem dX8_addWalk_56 : decode cX8_addWalk 56 = .ok (.dup, 1) := by decide +kernel
theorem dX8_addWalk_57 : decode cX8_addWalk 57 = .ok (.getfield 67, 3) := by decide +kernel
theorem dX8_addWalk_60 : decode cX8_addWalk 60 = .ok (.iconst 1, 1) := by decide +kernel
theorem dX8_addWalk_61 : decode cX8_addWalk 61 = .ok (.iadd, 1) := by decide +kernel
theorem dX8_addWalk_62 : decode cX8_addWalk 62 = .ok (.putfield 67, 3) := by decide +kernel
theorem dX8_addWalk_65 : decode cX8_addWalk 65 = .ok (.aload_n 0, 1) := by decide +kernel
theorem dX8_addWalk_66 : decode cX8_addWalk 66 = .ok (.getfield 67, 3) := by decide +kernel
theorem dX8_addWalk_69 : decode cX8_addWalk 69 = .ok (.iconst 1, 1) := by decide +kernel
theorem dX8_addWalk_70 : decode cX8_addWalk 70 = .ok (.isub, 1) := by decide +kernel
theorem dX8_addWalk_71 : decode cX8_addWalk 71 = .ok (.ireturn, 1) := by decide +kernel
theorem dX8_walkOn_0 : decode cX8_walkOn 0 = .ok (.aload_n 0, 1) := by decide +kernel
theorem dX8_walkOn_1 : decode cX8_walkOn 1 = .ok (.getfield 41, 3) := by decide +kernel
theorem dX8_walkOn_4 : decode cX8_walkOn 4 = .ok (.aload_n 0, 1) := by decide +kernel
theorem dX8_walkOn_5 : decode cX8_walkOn 5 = .ok (.getfield 29, 3) := by decide +kernel
theorem dX8_walkOn_8 : decode cX8_walkOn 8 = .ok (.iload_n 1, 1) := by decide +kernel
theorem dX8_walkOn_9 : decode cX8_walkOn 9 = .ok (.iaload, 1) := by decide +kernel
theorem dX8_walkOn_10 : decode cX8_walkOn 10 = .ok (.invokestatic 70, 3) := by decide +kernel
theorem dX8_walkOn_13 : decode cX8_walkOn 13 = .ok (.istore_n 2, 1) := by decide +kernel
theorem dX8_walkOn_14 : decode cX8_walkOn 14 = .ok (.aload_n 0, 1) := by decide +kernel
theorem dX8_walkOn_15 : decode cX8_walkOn 15 = .ok (.getfield 26, 3) := by decide +kernel
theorem dX8_walkOn_18 : decode cX8_walkOn 18 = .ok (.iload_n 1, 1) := by decide +kernel
theorem dX8_walkOn_19 : decode cX8_walkOn 19 = .ok (.iaload, 1) := by decide +kernel
theorem dX8_walkOn_20 : decode cX8_walkOn 20 = .ok (.istore_n 3, 1) := by decide +kernel
theorem dX8_walkOn_21 : decode cX8_walkOn 21 = .ok (.iload_n 3, 1) := by decide +kernel
theorem dX8_walkOn_22 : decode cX8_walkOn 22 = .ok (.iload_n 2, 1) := by decide +kernel
theorem dX8_walkOn_23 : decode cX8_walkOn 23 = .ok (.if_icmp .ge 35, 3) := by decide +kernel
theorem dX8_walkOn_26 : decode cX8_walkOn 26 = .ok (.aload_n 0, 1) := by decide +kernel
theorem dX8_walkOn_27 : decode cX8_walkOn 27 = .ok (.getfield 23, 3) := by decide +kernel
theorem dX8_walkOn_30 : decode cX8_walkOn 30 = .ok (.iload_n 3, 1) := by decide +kernel
theorem dX8_walkOn_31 : decode cX8_walkOn 31 = .ok (.iaload, 1) := by decide +kernel
theorem dX8_walkOn_32 : decode cX8_walkOn 32 = .ok (.aload_n 0, 1) := by decide +kernel
theorem dX8_walkOn_33 : decode cX8_walkOn 33 = .ok (.getfield 32, 3) := by decide +kernel
theorem dX8_walkOn_36 : decode cX8_walkOn 36 = .ok (.iload_n 1, 1) := by decide +kernel
theorem dX8_walkOn_37 : decode cX8_walkOn 37 = .ok (.iaload, 1) := by decide +kernel
theorem dX8_walkOn_38 : decode cX8_walkOn 38 = .ok (.if_icmp .lt 14, 3) := by decide +kernel
theorem dX8_walkOn_41 : decode cX8_walkOn 41 = .ok (.aload_n 0, 1) := by decide +kernel
theorem dX8_walkOn_42 : decode cX8_walkOn 42 = .ok (.getfield 26, 3) := by decide +kernel
theorem dX8_walkOn_45 : decode cX8_walkOn 45 = .ok (.iload_n 1, 1) := by decide +kernel
theorem dX8_walkOn_46 : decode cX8_walkOn 46 = .ok (.iload_n 3, 1) := by decide +kernel
theorem dX8_walkOn_47 : decode cX8_walkOn 47 = .ok (.iconst 1, 1) := by decide +kernel
theorem dX8_walkOn_48 : decode cX8_walkOn 48 = .ok (.iadd, 1) := by decide +kernel
theorem dX8_walkOn_49 : decode cX8_walkOn 49 = .ok (.iastore, 1) := by decide +kernel
theorem dX8_walkOn_50 : decode cX8_walkOn 50 = .ok (.iload_n 3, 1) := by decide +kernel
theorem dX8_walkOn_51 : decode cX8_walkOn 51 = .ok (.ireturn, 1) := by decide +kernel
theorem dX8_walkOn_52 : decode cX8_walkOn 52 = .ok (.iinc 3 1, 3) := by decide +kernel
theorem dX8_walkOn_55 : decode cX8_walkOn 55 = .ok (.goto (-34), 3) := by decide +kernel
theorem dX8_walkOn_58 : decode cX8_walkOn 58 = .ok (.aload_n 0, 1) := by decide +kernel
theorem dX8_walkOn_59 : decode cX8_walkOn 59 = .ok (.getfield 26, 3) := by decide +kernel
theorem dX8_walkOn_62 : decode cX8_walkOn 62 = .ok (.iload_n 1, 1) := by decide +kernel
theorem dX8_walkOn_63 : decode cX8_walkOn 63 = .ok (.iload_n 2, 1) := by decide +kernel
theorem dX8_walkOn_64 : decode cX8_walkOn 64 = .ok (.iastore, 1) := by decide +kernel
theorem dX8_walkOn_65 : decode cX8_walkOn 65 = .ok (.iconst (-1), 1) := by decide +kernel
theorem dX8_walkOn_66 : decode cX8_walkOn 66 = .ok (.ireturn, 1) := by decide +kernel
theorem dX9_init_0 : decode cX9_init 0 = .ok (.aload_n 0, 1) := by decide +kernel
theorem dX9_init_1 : decode cX9_init 1 = .ok (.invokespecial 3, 3) := by decide +kernel
theorem dX9_init_4 : decode cX9_init 4 = .ok (.aload_n 0, 1) := by decide +kernel
theorem dX9_init_5 : decode cX9_init 5 = .ok (.iconst (-1), 1) := by decide +kernel
theorem dX9_init_6 : decode cX9_init 6 = .ok (.putfield 9, 3) := by decide +kernel
theorem dX9_init_9 : decode cX9_init 9 = .ok (.aload_n 0, 1) := by decide +kernel
theorem dX9_init_10 : decode cX9_init 10 = .ok (.bipush 12, 2) := by decide +kernel
theorem dX9_init_12 : decode cX9_init 12 = .ok (.newarray .int, 2) := by decide +kernel
theorem dX9_init_14 : decode cX9_init 14 = .ok (.putfield 15, 3) := by decide +kernel
theorem dX9_init_17 : decode cX9_init 17 = .ok (.aload_n 0, 1) := by decide +kernel
theorem dX9_init_18 : decode cX9_init 18 = .ok (.bipush 12, 2) := by decide +kernel
theorem dX9_init_20 : decode cX9_init 20 = .ok (.newarray .int, 2) := by decide +kernel
theorem dX9_init_22 : decode cX9_init 22 = .ok (.putfield 19, 3) := by decide +kernel
theorem dX9_init_25 : decode cX9_init 25 = .ok (.aload_n 0, 1) := by decide +kernel
theorem dX9_init_26 : decode cX9_init 26 = .ok (.bipush 60, 2) := by decide +kernel
theorem dX9_init_28 : decode cX9_init 28 = .ok (.newarray .int, 2) := by decide +kernel
theorem dX9_init_30 : decode cX9_init 30 = .ok (.putfield 22, 3) := by decide +kernel
theorem dX9_init_33 : decode cX9_init 33 = .ok (.aload_n 0, 1) := by decide +kernel
theorem dX9_init_34 : decode cX9_init 34 = .ok (.bipush 8, 2) := by decide +kernel
theorem dX9_init_36 : decode cX9_init 36 = .ok (.newarray .int, 2) := by decide +kernel
theorem dX9_init_38 : decode cX9_init 38 = .ok (.putfield 25, 3) := by decide +kernel
theorem dX9_init_41 : decode cX9_init 41 = .ok (.aload_n 0, 1) := by decide +kernel
theorem dX9_init_42 : decode cX9_init 42 = .ok (.bipush 9, 2) := by decide +kernel
theorem dX9_init_44 : decode cX9_init 44 = .ok (.newarray .int, 2) := by decide +kernel
theorem dX9_init_46 : decode cX9_init 46 = .ok (.putfield 28, 3) := by decide +kernel
theorem dX9_init_49 : decode cX9_init 49 = .ok (.aload_n 0, 1) := by decide +kernel
theorem dX9_init_50 : decode cX9_init 50 = .ok (.bipush 10, 2) := by decide +kernel
theorem dX9_init_52 : decode cX9_init 52 = .ok (.newarray .int, 2) := by decide +kernel
theorem dX9_init_54 : decode cX9_init 54 = .ok (.putfield 31, 3) := by decide +kernel
theorem dX9_init_57 : decode cX9_init 57 = .ok (.aload_n 0, 1) := by decide +kernel
theorem dX9_init_58 : decode cX9_init 58 = .ok (.bipush 10, 2) := by decide +kernel
theorem dX9_init_60 : decode cX9_init 60 = .ok (.bipush 10, 2) := by decide +kernel
theorem dX9_init_62 : decode cX9_init 62 = .ok (.multianewarray 34 2, 4) := by decide +kernel
theorem dX9_init_66 : decode cX9_init 66 = .ok (.putfield 36, 3) := by decide +kernel
theorem dX9_init_69 : decode cX9_init 69 = .ok (.return_, 1) := by decide +kernel
theorem dX9_addDay_0 : decode cX9_addDay 0 = .ok (.aload_n 0, 1) := by decide +kernel
theorem dX9_addDay_1 : decode cX9_addDay 1 = .ok (.getfield 15, 3) := by decide +kernel
theorem dX9_addDay_4 : decode cX9_addDay 4 = .ok (.aload_n 0, 1) := by decide +kernel
theorem dX9_addDay_5 : decode cX9_addDay 5 = .ok (.getfield 39, 3) := by decide +kernel
theorem dX9_addDay_8 : decode cX9_addDay 8 = .ok (.iload_n 1, 1) := by decide +kernel
theorem dX9_addDay_9 : decode cX9_addDay 9 = .ok (.iastore, 1) := by decide +kernel
theorem dX9_addDay_10 : decode cX9_addDay 10 = .ok (.aload_n 0, 1) := by decide +kernel
theorem dX9_addDay_11 : decode cX9_addDay 11 = .ok (.getfield 19, 3) := by decide +kernel
theorem dX9_addDay_14 : decode cX9_addDay 14 = .ok (.aload_n 0, 1) := by decide +kernel
theorem dX9_addDay_15 : decode cX9_addDay 15 = .ok (.getfield 39, 3) := by decide +kernel
theorem dX9_addDay_18 : decode cX9_addDay 18 = .ok (.iload_n 2, 1) := by decide +kernel
theorem dX9_addDay_19 : decode cX9_addDay 19 = .ok (.iastore, 1) := by decide +kernel
theorem dX9_addDay_20 : decode cX9_addDay 20 = .ok (.aload_n 0, 1) := by decide +kernel
theorem dX9_addDay_21 : decode cX9_addDay 21 = .ok (.dup, 1) := by decide +kernel
theorem dX9_addDay_22 : decode cX9_addDay 22 = .ok (.getfield 39, 3) := by decide +kernel
theorem dX9_addDay_25 : decode cX9_addDay 25 = .ok (.iconst 1, 1) := by decide +kernel
theorem dX9_addDay_26 : decode cX9_addDay 26 = .ok (.iadd, 1) := by decide +kernel
theorem dX9_addDay_27 : decode cX9_addDay 27 = .ok (.putfield 39, 3) := by decide +kernel
theorem dX9_addDay_30 : decode cX9_addDay 30 = .ok (.aload_n 0, 1) := by decide +kernel
theorem dX9_addDay_31 : decode cX9_addDay 31 = .ok (.getfield 39, 3) := by decide +kernel
theorem dX9_addDay_34 : decode cX9_addDay 34 = .ok (.ireturn, 1) := by decide +kernel
theorem dX9_leastDrift_0 : decode cX9_leastDrift 0 = .ok (.iconst 0, 1) := by decide +kernel
theorem dX9_leastDrift_1 : decode cX9_leastDrift 1 = .ok (.istore_n 2, 1) := by decide +kernel
theorem dX9_leastDrift_2 : decode cX9_leastDrift 2 = .ok (.iconst 0, 1) := by decide +kernel
theorem dX9_leastDrift_3 : decode cX9_leastDrift 3 = .ok (.istore_n 3, 1) := by decide +kernel
theorem dX9_leastDrift_4 : decode cX9_leastDrift 4 = .ok (.iconst 0, 1) := by decide +kernel
theorem dX9_leastDrift_5 : decode cX9_leastDrift 5 = .ok (.istore 4, 2) := by decide +kernel
theorem dX9_leastDrift_7 : decode cX9_leastDrift 7 = .ok (.iload 4, 2) := by decide +kernel
theorem dX9_leastDrift_9 : decode cX9_leastDrift 9 = .ok (.aload_n 0, 1) := by decide +kernel
theorem dX9_leastDrift_10 : decode cX9_leastDrift 10 = .ok (.getfield 39, 3) := by decide +kernel
theorem dX9_leastDrift_13 : decode cX9_leastDrift 13 = .ok (.if_icmp .ge 67, 3) := by decide +kernel
theorem dX9_leastDrift_16 : decode cX9_leastDrift 16 = .ok (.iload 4, 2) := by decide +kernel
theorem dX9_leastDrift_18 : decode cX9_leastDrift 18 = .ok (.ifCond .ne 7, 3) := by decide +kernel
theorem dX9_leastDrift_21 : decode cX9_leastDrift 21 = .ok (.iload_n 2, 1) := by decide +kernel
theorem dX9_leastDrift_22 : decode cX9_leastDrift 22 = .ok (.goto 10, 3) := by decide +kernel
theorem dX9_leastDrift_25 : decode cX9_leastDrift 25 = .ok (.iload_n 2, 1) := by decide +kernel
theorem dX9_leastDrift_26 : decode cX9_leastDrift 26 = .ok (.iload_n 3, 1) := by decide +kernel
theorem dX9_leastDrift_27 : decode cX9_leastDrift 27 = .ok (.iload_n 1, 1) := by decide +kernel
theorem dX9_leastDrift_28 : decode cX9_leastDrift 28 = .ok (.iadd, 1) := by decide +kernel
theorem dX9_leastDrift_29 : decode cX9_leastDrift 29 = .ok (.invokestatic 42, 3) := by decide +kernel
theorem dX9_leastDrift_32 : decode cX9_leastDrift 32 = .ok (.istore 5, 2) := by decide +kernel
theorem dX9_leastDrift_34 : decode cX9_leastDrift 34 = .ok (.iload 4, 2) := by decide +kernel
theorem dX9_leastDrift_36 : decode cX9_leastDrift 36 = .ok (.ifCond .ne 7, 3) := by decide +kernel
theorem dX9_leastDrift_39 : decode cX9_leastDrift 39 = .ok (.iload_n 3, 1) := by decide +kernel
theorem dX9_leastDrift_40 : decode cX9_leastDrift 40 = .ok (.goto 10, 3) := by decide +kernel
theorem dX9_leastDrift_43 : decode cX9_leastDrift 43 = .ok (.iload_n 3, 1) := by decide +kernel
theorem dX9_leastDrift_44 : decode cX9_leastDrift 44 = .ok (.iload_n 2, 1) := by decide +kernel
theorem dX9_leastDrift_45 : decode cX9_leastDrift 45 = .ok (.iload_n 1, 1) := by decide +kernel
theorem dX9_leastDrift_46 : decode cX9_leastDrift 46 = .ok (.iadd, 1) := by decide +kernel
theorem dX9_leastDrift_47 : decode cX9_leastDrift 47 = .ok (.invokestatic 42, 3) := by decide +kernel
theorem dX9_leastDrift_50 : decode cX9_leastDrift 50 = .ok (.istore 6, 2) := by decide +kernel
theorem dX9_leastDrift_52 : decode cX9_leastDrift 52 = .ok (.iload 5, 2) := by decide +kernel
theorem dX9_leastDrift_54 : decode cX9_leastDrift 54 = .ok (.aload_n 0, 1) := by decide +kernel
theorem dX9_leastDrift_55 : decode cX9_leastDrift 55 = .ok (.getfield 15, 3) := by decide +kernel
theorem dX9_leastDrift_58 : decode cX9_leastDrift 58 = .ok (.iload 4, 2) := by decide +kernel
theorem dX9_leastDrift_60 : decode cX9_leastDrift 60 = .ok (.iaload, 1) := by decide +kernel
theorem dX9_leastDrift_61 : decode cX9_leastDrift 61 = .ok (.iadd, 1) := by decide +kernel
theorem dX9_leastDrift_62 : decode cX9_leastDrift 62 = .ok (.istore_n 2, 1) := by decide +kernel
theorem dX9_leastDrift_63 : decode cX9_leastDrift 63 = .ok (.iload 6, 2) := by decide +kernel
theorem dX9_leastDrift_65 : decode cX9_leastDrift 65 = .ok (.aload_n 0, 1) := by decide +kernel
theorem dX9_leastDrift_66 : decode cX9_leastDrift 66 = .ok (.getfield 19, 3) := by decide +kernel
theorem dX9_leastDrift_69 : decode cX9_leastDrift 69 = .ok (.iload 4, 2) := by decide +kernel
theorem dX9_leastDrift_71 : decode cX9_leastDrift 71 = .ok (.iaload, 1) := by decide +kernel
theorem dX9_leastDrift_72 : decode cX9_leastDrift 72 = .ok (.iadd, 1) := by decide +kernel
theorem dX9_leastDrift_73 : decode cX9_leastDrift 73 = .ok (.istore_n 3, 1) := by decide +kernel
theorem dX9_leastDrift_74 : decode cX9_leastDrift 74 = .ok (.iinc 4 1, 3) := by decide +kernel
theorem dX9_leastDrift_77 : decode cX9_leastDrift 77 = .ok (.goto (-70), 3) := by decide +kernel
theorem dX9_leastDrift_80 : decode cX9_leastDrift 80 = .ok (.iload_n 2, 1) := by decide +kernel
theorem dX9_leastDrift_81 : decode cX9_leastDrift 81 = .ok (.iload_n 3, 1) := by decide +kernel
theorem dX9_leastDrift_82 : decode cX9_leastDrift 82 = .ok (.invokestatic 42, 3) := by decide +kernel
theorem dX9_leastDrift_85 : decode cX9_leastDrift 85 = .ok (.ireturn, 1) := by decide +kernel
theorem dX9_ruledDrift_0 : decode cX9_ruledDrift 0 = .ok (.iconst 0, 1) := by decide +kernel
theorem dX9_ruledDrift_1 : decode cX9_ruledDrift 1 = .ok (.istore_n 3, 1) := by decide +kernel
theorem dX9_ruledDrift_2 : decode cX9_ruledDrift 2 = .ok (.iconst 0, 1) := by decide +kernel
theorem dX9_ruledDrift_3 : decode cX9_ruledDrift 3 = .ok (.istore 4, 2) := by decide +kernel
theorem dX9_ruledDrift_5 : decode cX9_ruledDrift 5 = .ok (.iconst 0, 1) := by decide +kernel
theorem dX9_ruledDrift_6 : decode cX9_ruledDrift 6 = .ok (.istore 5, 2) := by decide +kernel
theorem dX9_ruledDrift_8 : decode cX9_ruledDrift 8 = .ok (.iconst 0, 1) := by decide +kernel
theorem dX9_ruledDrift_9 : decode cX9_ruledDrift 9 = .ok (.istore 6, 2) := by decide +kernel
theorem dX9_ruledDrift_11 : decode cX9_ruledDrift 11 = .ok (.iconst 0, 1) := by decide +kernel
theorem dX9_ruledDrift_12 : decode cX9_ruledDrift 12 = .ok (.istore 7, 2) := by decide +kernel
theorem dX9_ruledDrift_14 : decode cX9_ruledDrift 14 = .ok (.iload 7, 2) := by decide +kernel
theorem dX9_ruledDrift_16 : decode cX9_ruledDrift 16 = .ok (.aload_n 0, 1) := by decide +kernel
theorem dX9_ruledDrift_17 : decode cX9_ruledDrift 17 = .ok (.getfield 39, 3) := by decide +kernel
theorem dX9_ruledDrift_20 : decode cX9_ruledDrift 20 = .ok (.if_icmp .ge 109, 3) := by decide +kernel
theorem dX9_ruledDrift_23 : decode cX9_ruledDrift 23 = .ok (.iload 7, 2) := by decide +kernel
theorem dX9_ruledDrift_25 : decode cX9_ruledDrift 25 = .ok (.ifCond .le 31, 3) := by decide +kernel
theorem dX9_ruledDrift_28 : decode cX9_ruledDrift 28 = .ok (.iload 6, 2) := by decide +kernel
theorem dX9_ruledDrift_30 : decode cX9_ruledDrift 30 = .ok (.iload_n 1, 1) := by decide +kernel
theorem dX9_ruledDrift_31 : decode cX9_ruledDrift 31 = .ok (.if_icmp .lt 25, 3) := by decide +kernel
theorem dX9_ruledDrift_34 : decode cX9_ruledDrift 34 = .ok (.iload_n 3, 1) := by decide +kernel
theorem dX9_ruledDrift_35 : decode cX9_ruledDrift 35 = .ok (.ifCond .ne 7, 3) := by decide +kernel
theorem dX9_ruledDrift_38 : decode cX9_ruledDrift 38 = .ok (.iconst 1, 1) := by decide +kernel
theorem dX9_ruledDrift_39 : decode cX9_ruledDrift 39 = .ok (.goto 4, 3) := by decide +kernel
theorem dX9_ruledDrift_42 : decode cX9_ruledDrift 42 = .ok (.iconst 0, 1) := by decide +kernel
theorem dX9_ruledDrift_43 : decode cX9_ruledDrift 43 = .ok (.istore_n 3, 1) := by decide +kernel
theorem dX9_ruledDrift_44 : decode cX9_ruledDrift 44 = .ok (.iinc 5 1, 3) := by decide +kernel
theorem dX9_ruledDrift_47 : decode cX9_ruledDrift 47 = .ok (.iload 4, 2) := by decide +kernel
theorem dX9_ruledDrift_49 : decode cX9_ruledDrift 49 = .ok (.iload_n 1, 1) := by decide +kernel
theorem dX9_ruledDrift_50 : decode cX9_ruledDrift 50 = .ok (.iadd, 1) := by decide +kernel
theorem dX9_ruledDrift_51 : decode cX9_ruledDrift 51 = .ok (.istore 4, 2) := by decide +kernel
theorem dX9_ruledDrift_53 : decode cX9_ruledDrift 53 = .ok (.iconst 0, 1) := by decide +kernel
theorem dX9_ruledDrift_54 : decode cX9_ruledDrift 54 = .ok (.istore 6, 2) := by decide +kernel
theorem dX9_ruledDrift_56 : decode cX9_ruledDrift 56 = .ok (.iload_n 3, 1) := by decide +kernel
theorem dX9_ruledDrift_57 : decode cX9_ruledDrift 57 = .ok (.ifCond .eq 13, 3) := by decide +kernel
theorem dX9_ruledDrift_60 : decode cX9_ruledDrift 60 = .ok (.aload_n 0, 1) := by decide +kernel
theorem dX9_ruledDrift_61 : decode cX9_ruledDrift 61 = .ok (.getfield 19, 3) := by decide +kernel
theorem dX9_ruledDrift_64 : decode cX9_ruledDrift 64 = .ok (.iload 7, 2) := by decide +kernel
theorem dX9_ruledDrift_66 : decode cX9_ruledDrift 66 = .ok (.iaload, 1) := by decide +kernel
theorem dX9_ruledDrift_67 : decode cX9_ruledDrift 67 = .ok (.goto 10, 3) := by decide +kernel
theorem dX9_ruledDrift_70 : decode cX9_ruledDrift 70 = .ok (.aload_n 0, 1) := by decide +kernel
theorem dX9_ruledDrift_71 : decode cX9_ruledDrift 71 = .ok (.getfield 15, 3) := by decide +kernel
theorem dX9_ruledDrift_74 : decode cX9_ruledDrift 74 = .ok (.iload 7, 2) := by decide +kernel
theorem dX9_ruledDrift_76 : decode cX9_ruledDrift 76 = .ok (.iaload, 1) := by decide +kernel
theorem dX9_ruledDrift_77 : decode cX9_ruledDrift 77 = .ok (.istore 8, 2) := by decide +kernel
theorem dX9_ruledDrift_79 : decode cX9_ruledDrift 79 = .ok (.iload_n 3, 1) := by decide +kernel
theorem dX9_ruledDrift_80 : decode cX9_ruledDrift 80 = .ok (.ifCond .eq 13, 3) := by decide +kernel
theorem dX9_ruledDrift_83 : decode cX9_ruledDrift 83 = .ok (.aload_n 0, 1) := by decide +kernel
theorem dX9_ruledDrift_84 : decode cX9_ruledDrift 84 = .ok (.getfield 15, 3) := by decide +kernel
theorem dX9_ruledDrift_87 : decode cX9_ruledDrift 87 = .ok (.iload 7, 2) := by decide +kernel
theorem dX9_ruledDrift_89 : decode cX9_ruledDrift 89 = .ok (.iaload, 1) := by decide +kernel
theorem dX9_ruledDrift_90 : decode cX9_ruledDrift 90 = .ok (.goto 10, 3) := by decide +kernel
theorem dX9_ruledDrift_93 : decode cX9_ruledDrift 93 = .ok (.aload_n 0, 1) := by decide +kernel
theorem dX9_ruledDrift_94 : decode cX9_ruledDrift 94 = .ok (.getfield 19, 3) := by decide +kernel
theorem dX9_ruledDrift_97 : decode cX9_ruledDrift 97 = .ok (.iload 7, 2) := by decide +kernel
theorem dX9_ruledDrift_99 : decode cX9_ruledDrift 99 = .ok (.iaload, 1) := by decide +kernel
theorem dX9_ruledDrift_100 : decode cX9_ruledDrift 100 = .ok (.istore 9, 2) := by decide +kernel
theorem dX9_ruledDrift_102 : decode cX9_ruledDrift 102 = .ok (.iload 4, 2) := by decide +kernel
theorem dX9_ruledDrift_104 : decode cX9_ruledDrift 104 = .ok (.iload 8, 2) := by decide +kernel
theorem dX9_ruledDrift_106 : decode cX9_ruledDrift 106 = .ok (.iadd, 1) := by decide +kernel
theorem dX9_ruledDrift_107 : decode cX9_ruledDrift 107 = .ok (.istore 4, 2) := by decide +kernel
theorem dX9_ruledDrift_109 : decode cX9_ruledDrift 109 = .ok (.iload 6, 2) := by decide +kernel
theorem dX9_ruledDrift_111 : decode cX9_ruledDrift 111 = .ok (.iload 8, 2) := by decide +kernel
theorem dX9_ruledDrift_113 : decode cX9_ruledDrift 113 = .ok (.iadd, 1) := by decide +kernel
theorem dX9_ruledDrift_114 : decode cX9_ruledDrift 114 = .ok (.iload 9, 2) := by decide +kernel
theorem dX9_ruledDrift_116 : decode cX9_ruledDrift 116 = .ok (.isub, 1) := by decide +kernel
theorem dX9_ruledDrift_117 : decode cX9_ruledDrift 117 = .ok (.iconst 0, 1) := by decide +kernel
theorem dX9_ruledDrift_118 : decode cX9_ruledDrift 118 = .ok (.invokestatic 48, 3) := by decide +kernel
theorem dX9_ruledDrift_121 : decode cX9_ruledDrift 121 = .ok (.istore 6, 2) := by decide +kernel
theorem dX9_ruledDrift_123 : decode cX9_ruledDrift 123 = .ok (.iinc 7 1, 3) := by decide +kernel
theorem dX9_ruledDrift_126 : decode cX9_ruledDrift 126 = .ok (.goto (-112), 3) := by decide +kernel
theorem dX9_ruledDrift_129 : decode cX9_ruledDrift 129 = .ok (.iload_n 2, 1) := by decide +kernel
theorem dX9_ruledDrift_130 : decode cX9_ruledDrift 130 = .ok (.ifCond .eq 8, 3) := by decide +kernel
theorem dX9_ruledDrift_133 : decode cX9_ruledDrift 133 = .ok (.iload 5, 2) := by decide +kernel
theorem dX9_ruledDrift_135 : decode cX9_ruledDrift 135 = .ok (.goto 5, 3) := by decide +kernel
theorem dX9_ruledDrift_138 : decode cX9_ruledDrift 138 = .ok (.iload 4, 2) := by decide +kernel
theorem dX9_ruledDrift_140 : decode cX9_ruledDrift 140 = .ok (.ireturn, 1) := by decide +kernel
theorem dX9_addCell_0 : decode cX9_addCell 0 = .ok (.aload_n 0, 1) := by decide +kernel
theorem dX9_addCell_1 : decode cX9_addCell 1 = .ok (.getfield 22, 3) := by decide +kernel
theorem dX9_addCell_4 : decode cX9_addCell 4 = .ok (.aload_n 0, 1) := by decide +kernel
theorem dX9_addCell_5 : decode cX9_addCell 5 = .ok (.getfield 51, 3) := by decide +kernel
theorem dX9_addCell_8 : decode cX9_addCell 8 = .ok (.iload_n 1, 1) := by decide +kernel
theorem dX9_addCell_9 : decode cX9_addCell 9 = .ok (.iastore, 1) := by decide +kernel
theorem dX9_addCell_10 : decode cX9_addCell 10 = .ok (.aload_n 0, 1) := by decide +kernel
theorem dX9_addCell_11 : decode cX9_addCell 11 = .ok (.dup, 1) := by decide +kernel
theorem dX9_addCell_12 : decode cX9_addCell 12 = .ok (.getfield 51, 3) := by decide +kernel
theorem dX9_addCell_15 : decode cX9_addCell 15 = .ok (.iconst 1, 1) := by decide +kernel
theorem dX9_addCell_16 : decode cX9_addCell 16 = .ok (.iadd, 1) := by decide +kernel
theorem dX9_addCell_17 : decode cX9_addCell 17 = .ok (.putfield 51, 3) := by decide +kernel
theorem dX9_addCell_20 : decode cX9_addCell 20 = .ok (.aload_n 0, 1) := by decide +kernel
theorem dX9_addCell_21 : decode cX9_addCell 21 = .ok (.getfield 51, 3) := by decide +kernel
theorem dX9_addCell_24 : decode cX9_addCell 24 = .ok (.ireturn, 1) := by decide +kernel
theorem dX9_missesByUsed_0 : decode cX9_missesByUsed 0 = .ok (.iconst 0, 1) := by decide +kernel
theorem dX9_missesByUsed_1 : decode cX9_missesByUsed 1 = .ok (.istore_n 3, 1) := by decide +kernel
theorem dX9_missesByUsed_2 : decode cX9_missesByUsed 2 = .ok (.iconst 0, 1) := by decide +kernel
theorem dX9_missesByUsed_3 : decode cX9_missesByUsed 3 = .ok (.istore 4, 2) := by decide +kernel
theorem dX9_missesByUsed_5 : decode cX9_missesByUsed 5 = .ok (.iconst 0, 1) := by decide +kernel
theorem dX9_missesByUsed_6 : decode cX9_missesByUsed 6 = .ok (.istore 5, 2) := by decide +kernel
theorem dX9_missesByUsed_8 : decode cX9_missesByUsed 8 = .ok (.iload 5, 2) := by decide +kernel
theorem dX9_missesByUsed_10 : decode cX9_missesByUsed 10 = .ok (.aload_n 0, 1) := by decide +kernel
theorem dX9_missesByUsed_11 : decode cX9_missesByUsed 11 = .ok (.getfield 51, 3) := by decide +kernel
theorem dX9_missesByUsed_14 : decode cX9_missesByUsed 14 = .ok (.if_icmp .ge 74, 3) := by decide +kernel
theorem dX9_missesByUsed_17 : decode cX9_missesByUsed 17 = .ok (.aload_n 0, 1) := by decide +kernel
theorem dX9_missesByUsed_18 : decode cX9_missesByUsed 18 = .ok (.getfield 22, 3) := by decide +kernel
theorem dX9_missesByUsed_21 : decode cX9_missesByUsed 21 = .ok (.iload 5, 2) := by decide +kernel
theorem dX9_missesByUsed_23 : decode cX9_missesByUsed 23 = .ok (.iaload, 1) := by decide +kernel
theorem dX9_missesByUsed_24 : decode cX9_missesByUsed 24 = .ok (.iload_n 1, 1) := by decide +kernel
theorem dX9_missesByUsed_25 : decode cX9_missesByUsed 25 = .ok (.idiv, 1) := by decide +kernel
theorem dX9_missesByUsed_26 : decode cX9_missesByUsed 26 = .ok (.istore 6, 2) := by decide +kernel
theorem dX9_missesByUsed_28 : decode cX9_missesByUsed 28 = .ok (.aload_n 0, 1) := by decide +kernel
theorem dX9_missesByUsed_29 : decode cX9_missesByUsed 29 = .ok (.iload 6, 2) := by decide +kernel
theorem dX9_missesByUsed_31 : decode cX9_missesByUsed 31 = .ok (.iload_n 3, 1) := by decide +kernel
theorem dX9_missesByUsed_32 : decode cX9_missesByUsed 32 = .ok (.invokevirtual 54, 3) := by decide +kernel
theorem dX9_missesByUsed_35 : decode cX9_missesByUsed 35 = .ok (.istore 7, 2) := by decide +kernel
theorem dX9_missesByUsed_37 : decode cX9_missesByUsed 37 = .ok (.iload 7, 2) := by decide +kernel
theorem dX9_missesByUsed_39 : decode cX9_missesByUsed 39 = .ok (.iconst (-1), 1) := by decide +kernel
theorem dX9_missesByUsed_40 : decode cX9_missesByUsed 40 = .ok (.if_icmp .ne 19, 3) := by decide +kernel
theorem dX9_missesByUsed_43 : decode cX9_missesByUsed 43 = .ok (.iinc 4 1, 3) := by decide +kernel
theorem dX9_missesByUsed_46 : decode cX9_missesByUsed 46 = .ok (.iload_n 3, 1) := by decide +kernel
theorem dX9_missesByUsed_47 : decode cX9_missesByUsed 47 = .ok (.iconst 1, 1) := by decide +kernel
theorem dX9_missesByUsed_48 : decode cX9_missesByUsed 48 = .ok (.iadd, 1) := by decide +kernel
theorem dX9_missesByUsed_49 : decode cX9_missesByUsed 49 = .ok (.iload_n 2, 1) := by decide +kernel
theorem dX9_missesByUsed_50 : decode cX9_missesByUsed 50 = .ok (.invokestatic 42, 3) := by decide +kernel
theorem dX9_missesByUsed_53 : decode cX9_missesByUsed 53 = .ok (.istore_n 3, 1) := by decide +kernel
theorem dX9_missesByUsed_54 : decode cX9_missesByUsed 54 = .ok (.iload_n 3, 1) := by decide +kernel
theorem dX9_missesByUsed_55 : decode cX9_missesByUsed 55 = .ok (.iconst 1, 1) := by decide +kernel
theorem dX9_missesByUsed_56 : decode cX9_missesByUsed 56 = .ok (.isub, 1) := by decide +kernel
theorem dX9_missesByUsed_57 : decode cX9_missesByUsed 57 = .ok (.istore 7, 2) := by decide +kernel
theorem dX9_missesByUsed_59 : decode cX9_missesByUsed 59 = .ok (.aload_n 0, 1) := by decide +kernel
theorem dX9_missesByUsed_60 : decode cX9_missesByUsed 60 = .ok (.getfield 25, 3) := by decide +kernel
theorem dX9_missesByUsed_63 : decode cX9_missesByUsed 63 = .ok (.iconst 0, 1) := by decide +kernel
theorem dX9_missesByUsed_64 : decode cX9_missesByUsed 64 = .ok (.aload_n 0, 1) := by decide +kernel
theorem dX9_missesByUsed_65 : decode cX9_missesByUsed 65 = .ok (.getfield 25, 3) := by decide +kernel
theorem dX9_missesByUsed_68 : decode cX9_missesByUsed 68 = .ok (.iconst 1, 1) := by decide +kernel
theorem dX9_missesByUsed_69 : decode cX9_missesByUsed 69 = .ok (.iload 7, 2) := by decide +kernel
theorem dX9_missesByUsed_71 : decode cX9_missesByUsed 71 = .ok (.invokestatic 57, 3) := by decide +kernel
theorem dX9_missesByUsed_74 : decode cX9_missesByUsed 74 = .ok (.aload_n 0, 1) := by decide +kernel
theorem dX9_missesByUsed_75 : decode cX9_missesByUsed 75 = .ok (.getfield 25, 3) := by decide +kernel
theorem dX9_missesByUsed_78 : decode cX9_missesByUsed 78 = .ok (.iconst 0, 1) := by decide +kernel
theorem dX9_missesByUsed_79 : decode cX9_missesByUsed 79 = .ok (.iload 6, 2) := by decide +kernel
theorem dX9_missesByUsed_81 : decode cX9_missesByUsed 81 = .ok (.iastore, 1) := by decide +kernel
theorem dX9_missesByUsed_82 : decode cX9_missesByUsed 82 = .ok (.iinc 5 1, 3) := by decide +kernel
theorem dX9_missesByUsed_85 : decode cX9_missesByUsed 85 = .ok (.goto (-77), 3) := by decide +kernel
theorem dX9_missesByUsed_88 : decode cX9_missesByUsed 88 = .ok (.iload 4, 2) := by decide +kernel
theorem dX9_missesByUsed_90 : decode cX9_missesByUsed 90 = .ok (.ireturn, 1) := by decide +kernel
theorem dX9_missesByComing_0 : decode cX9_missesByComing 0 = .ok (.iconst 0, 1) := by decide +kernel
theorem dX9_missesByComing_1 : decode cX9_missesByComing 1 = .ok (.istore_n 3, 1) := by decide +kernel
theorem dX9_missesByComing_2 : decode cX9_missesByComing 2 = .ok (.iconst 0, 1) := by decide +kernel
theorem dX9_missesByComing_3 : decode cX9_missesByComing 3 = .ok (.istore 4, 2) := by decide +kernel
theorem dX9_missesByComing_5 : decode cX9_missesByComing 5 = .ok (.iconst 0, 1) := by decide +kernel
theorem dX9_missesByComing_6 : decode cX9_missesByComing 6 = .ok (.istore 5, 2) := by decide +kernel
theorem dX9_missesByComing_8 : decode cX9_missesByComing 8 = .ok (.iload 5, 2) := by decide +kernel
theorem dX9_missesByComing_10 : decode cX9_missesByComing 10 = .ok (.aload_n 0, 1) := by decide +kernel
theorem dX9_missesByComing_11 : decode cX9_missesByComing 11 = .ok (.getfield 51, 3) := by decide +kernel
theorem dX9_missesByComing_14 : decode cX9_missesByComing 14 = .ok (.if_icmp .ge 73, 3) := by decide +kernel
theorem dX9_missesByComing_17 : decode cX9_missesByComing 17 = .ok (.aload_n 0, 1) := by decide +kernel
theorem dX9_missesByComing_18 : decode cX9_missesByComing 18 = .ok (.getfield 22, 3) := by decide +kernel
theorem dX9_missesByComing_21 : decode cX9_missesByComing 21 = .ok (.iload 5, 2) := by decide +kernel
theorem dX9_missesByComing_23 : decode cX9_missesByComing 23 = .ok (.iaload, 1) := by decide +kernel
theorem dX9_missesByComing_24 : decode cX9_missesByComing 24 = .ok (.iload_n 1, 1) := by decide +kernel
theorem dX9_missesByComing_25 : decode cX9_missesByComing 25 = .ok (.idiv, 1) := by decide +kernel
theorem dX9_missesByComing_26 : decode cX9_missesByComing 26 = .ok (.istore 6, 2) := by decide +kernel
theorem dX9_missesByComing_28 : decode cX9_missesByComing 28 = .ok (.aload_n 0, 1) := by decide +kernel
theorem dX9_missesByComing_29 : decode cX9_missesByComing 29 = .ok (.iload 6, 2) := by decide +kernel
theorem dX9_missesByComing_31 : decode cX9_missesByComing 31 = .ok (.iload_n 3, 1) := by decide +kernel
theorem dX9_missesByComing_32 : decode cX9_missesByComing 32 = .ok (.invokevirtual 54, 3) := by decide +kernel
theorem dX9_missesByComing_35 : decode cX9_missesByComing 35 = .ok (.iconst (-1), 1) := by decide +kernel
theorem dX9_missesByComing_36 : decode cX9_missesByComing 36 = .ok (.if_icmp .eq 6, 3) := by decide +kernel
theorem dX9_missesByComing_39 : decode cX9_missesByComing 39 = .ok (.goto 42, 3) := by decide +kernel
theorem dX9_missesByComing_42 : decode cX9_missesByComing 42 = .ok (.iinc 4 1, 3) := by decide +kernel
theorem dX9_missesByComing_45 : decode cX9_missesByComing 45 = .ok (.iload_n 3, 1) := by decide +kernel
theorem dX9_missesByComing_46 : decode cX9_missesByComing 46 = .ok (.iload_n 2, 1) := by decide +kernel
theorem dX9_missesByComing_47 : decode cX9_missesByComing 47 = .ok (.if_icmp .ge 17, 3) := by decide +kernel
theorem dX9_missesByComing_50 : decode cX9_missesByComing 50 = .ok (.aload_n 0, 1) := by decide +kernel
theorem dX9_missesByComing_51 : decode cX9_missesByComing 51 = .ok (.getfield 25, 3) := by decide +kernel
theorem dX9_missesByComing_54 : decode cX9_missesByComing 54 = .ok (.iload_n 3, 1) := by decide +kernel
theorem dX9_missesByComing_55 : decode cX9_missesByComing 55 = .ok (.iload 6, 2) := by decide +kernel
theorem dX9_missesByComing_57 : decode cX9_missesByComing 57 = .ok (.iastore, 1) := by decide +kernel
theorem dX9_missesByComing_58 : decode cX9_missesByComing 58 = .ok (.iinc 3 1, 3) := by decide +kernel
theorem dX9_missesByComing_61 : decode cX9_missesByComing 61 = .ok (.goto 20, 3) := by decide +kernel
theorem dX9_missesByComing_64 : decode cX9_missesByComing 64 = .ok (.aload_n 0, 1) := by decide +kernel
theorem dX9_missesByComing_65 : decode cX9_missesByComing 65 = .ok (.getfield 25, 3) := by decide +kernel
theorem dX9_missesByComing_68 : decode cX9_missesByComing 68 = .ok (.aload_n 0, 1) := by decide +kernel
theorem dX9_missesByComing_69 : decode cX9_missesByComing 69 = .ok (.iload_n 1, 1) := by decide +kernel
theorem dX9_missesByComing_70 : decode cX9_missesByComing 70 = .ok (.iload_n 3, 1) := by decide +kernel
theorem dX9_missesByComing_71 : decode cX9_missesByComing 71 = .ok (.iload 5, 2) := by decide +kernel
theorem dX9_missesByComing_73 : decode cX9_missesByComing 73 = .ok (.iconst 1, 1) := by decide +kernel
theorem dX9_missesByComing_74 : decode cX9_missesByComing 74 = .ok (.iadd, 1) := by decide +kernel
theorem dX9_missesByComing_75 : decode cX9_missesByComing 75 = .ok (.invokevirtual 63, 3) := by decide +kernel
theorem dX9_missesByComing_78 : decode cX9_missesByComing 78 = .ok (.iload 6, 2) := by decide +kernel
theorem dX9_missesByComing_80 : decode cX9_missesByComing 80 = .ok (.iastore, 1) := by decide +kernel
theorem dX9_missesByComing_81 : decode cX9_missesByComing 81 = .ok (.iinc 5 1, 3) := by decide +kernel
theorem dX9_missesByComing_84 : decode cX9_missesByComing 84 = .ok (.goto (-76), 3) := by decide +kernel
theorem dX9_missesByComing_87 : decode cX9_missesByComing 87 = .ok (.iload 4, 2) := by decide +kernel
theorem dX9_missesByComing_89 : decode cX9_missesByComing 89 = .ok (.ireturn, 1) := by decide +kernel
theorem dX9_heldAt_0 : decode cX9_heldAt 0 = .ok (.iconst 0, 1) := by decide +kernel
theorem dX9_heldAt_1 : decode cX9_heldAt 1 = .ok (.istore_n 3, 1) := by decide +kernel
theorem dX9_heldAt_2 : decode cX9_heldAt 2 = .ok (.iload_n 3, 1) := by decide +kernel
theorem dX9_heldAt_3 : decode cX9_heldAt 3 = .ok (.iload_n 2, 1) := by decide +kernel
theorem dX9_heldAt_4 : decode cX9_heldAt 4 = .ok (.if_icmp .ge 21, 3) := by decide +kernel
theorem dX9_heldAt_7 : decode cX9_heldAt 7 = .ok (.aload_n 0, 1) := by decide +kernel
theorem dX9_heldAt_8 : decode cX9_heldAt 8 = .ok (.getfield 25, 3) := by decide +kernel
theorem dX9_heldAt_11 : decode cX9_heldAt 11 = .ok (.iload_n 3, 1) := by decide +kernel
theorem dX9_heldAt_12 : decode cX9_heldAt 12 = .ok (.iaload, 1) := by decide +kernel
theorem dX9_heldAt_13 : decode cX9_heldAt 13 = .ok (.iload_n 1, 1) := by decide +kernel
theorem dX9_heldAt_14 : decode cX9_heldAt 14 = .ok (.if_icmp .ne 5, 3) := by decide +kernel
theorem dX9_heldAt_17 : decode cX9_heldAt 17 = .ok (.iload_n 3, 1) := by decide +kernel
theorem dX9_heldAt_18 : decode cX9_heldAt 18 = .ok (.ireturn, 1) := by decide +kernel
theorem dX9_heldAt_19 : decode cX9_heldAt 19 = .ok (.iinc 3 1, 3) := by decide +kernel
theorem dX9_heldAt_22 : decode cX9_heldAt 22 = .ok (.goto (-20), 3) := by decide +kernel
theorem dX9_heldAt_25 : decode cX9_heldAt 25 = .ok (.iconst (-1), 1) := by decide +kernel
theorem dX9_heldAt_26 : decode cX9_heldAt 26 = .ok (.ireturn, 1) := by decide +kernel
theorem dX9_latestNeeded_0 : decode cX9_latestNeeded 0 = .ok (.iconst 0, 1) := by decide +kernel
theorem dX9_latestNeeded_1 : decode cX9_latestNeeded 1 = .ok (.istore 4, 2) := by decide +kernel
theorem dX9_latestNeeded_3 : decode cX9_latestNeeded 3 = .ok (.iconst (-1), 1) := by decide +kernel
theorem dX9_latestNeeded_4 : decode cX9_latestNeeded 4 = .ok (.istore 5, 2) := by decide +kernel
theorem dX9_latestNeeded_6 : decode cX9_latestNeeded 6 = .ok (.iconst 0, 1) := by decide +kernel
theorem dX9_latestNeeded_7 : decode cX9_latestNeeded 7 = .ok (.istore 6, 2) := by decide +kernel
theorem dX9_latestNeeded_9 : decode cX9_latestNeeded 9 = .ok (.iload 6, 2) := by decide +kernel
theorem dX9_latestNeeded_11 : decode cX9_latestNeeded 11 = .ok (.iload_n 2, 1) := by decide +kernel
theorem dX9_latestNeeded_12 : decode cX9_latestNeeded 12 = .ok (.if_icmp .ge 63, 3) := by decide +kernel
theorem dX9_latestNeeded_15 : decode cX9_latestNeeded 15 = .ok (.aload_n 0, 1) := by decide +kernel
theorem dX9_latestNeeded_16 : decode cX9_latestNeeded 16 = .ok (.aload_n 0, 1) := by decide +kernel
theorem dX9_latestNeeded_17 : decode cX9_latestNeeded 17 = .ok (.getfield 25, 3) := by decide +kernel
theorem dX9_latestNeeded_20 : decode cX9_latestNeeded 20 = .ok (.iload 6, 2) := by decide +kernel
theorem dX9_latestNeeded_22 : decode cX9_latestNeeded 22 = .ok (.iaload, 1) := by decide +kernel
theorem dX9_latestNeeded_23 : decode cX9_latestNeeded 23 = .ok (.iload_n 1, 1) := by decide +kernel
theorem dX9_latestNeeded_24 : decode cX9_latestNeeded 24 = .ok (.iload_n 3, 1) := by decide +kernel
theorem dX9_latestNeeded_25 : decode cX9_latestNeeded 25 = .ok (.invokevirtual 67, 3) := by decide +kernel
theorem dX9_latestNeeded_28 : decode cX9_latestNeeded 28 = .ok (.istore 7, 2) := by decide +kernel
theorem dX9_latestNeeded_30 : decode cX9_latestNeeded 30 = .ok (.iload 7, 2) := by decide +kernel
theorem dX9_latestNeeded_32 : decode cX9_latestNeeded 32 = .ok (.iload 5, 2) := by decide +kernel
theorem dX9_latestNeeded_34 : decode cX9_latestNeeded 34 = .ok (.if_icmp .gt 27, 3) := by decide +kernel
theorem dX9_latestNeeded_37 : decode cX9_latestNeeded 37 = .ok (.iload 7, 2) := by decide +kernel
theorem dX9_latestNeeded_39 : decode cX9_latestNeeded 39 = .ok (.iload 5, 2) := by decide +kernel
theorem dX9_latestNeeded_41 : decode cX9_latestNeeded 41 = .ok (.if_icmp .ne 28, 3) := by decide +kernel
theorem dX9_latestNeeded_44 : decode cX9_latestNeeded 44 = .ok (.aload_n 0, 1) := by decide +kernel
theorem dX9_latestNeeded_45 : decode cX9_latestNeeded 45 = .ok (.getfield 25, 3) := by decide +kernel
theorem dX9_latestNeeded_48 : decode cX9_latestNeeded 48 = .ok (.iload 6, 2) := by decide +kernel
theorem dX9_latestNeeded_50 : decode cX9_latestNeeded 50 = .ok (.iaload, 1) := by decide +kernel
theorem dX9_latestNeeded_51 : decode cX9_latestNeeded 51 = .ok (.aload_n 0, 1) := by decide +kernel
theorem dX9_latestNeeded_52 : decode cX9_latestNeeded 52 = .ok (.getfield 25, 3) := by decide +kernel
theorem dX9_latestNeeded_55 : decode cX9_latestNeeded 55 = .ok (.iload 4, 2) := by decide +kernel
theorem dX9_latestNeeded_57 : decode cX9_latestNeeded 57 = .ok (.iaload, 1) := by decide +kernel
theorem dX9_latestNeeded_58 : decode cX9_latestNeeded 58 = .ok (.if_icmp .ge 11, 3) := by decide +kernel
theorem dX9_latestNeeded_61 : decode cX9_latestNeeded 61 = .ok (.iload 6, 2) := by decide +kernel
theorem dX9_latestNeeded_63 : decode cX9_latestNeeded 63 = .ok (.istore 4, 2) := by decide +kernel
theorem dX9_latestNeeded_65 : decode cX9_latestNeeded 65 = .ok (.iload 7, 2) := by decide +kernel
theorem dX9_latestNeeded_67 : decode cX9_latestNeeded 67 = .ok (.istore 5, 2) := by decide +kernel
theorem dX9_latestNeeded_69 : decode cX9_latestNeeded 69 = .ok (.iinc 6 1, 3) := by decide +kernel
theorem dX9_latestNeeded_72 : decode cX9_latestNeeded 72 = .ok (.goto (-63), 3) := by decide +kernel
theorem dX9_latestNeeded_75 : decode cX9_latestNeeded 75 = .ok (.iload 4, 2) := by decide +kernel
theorem dX9_latestNeeded_77 : decode cX9_latestNeeded 77 = .ok (.ireturn, 1) := by decide +kernel
theorem dX9_nextUse_0 : decode cX9_nextUse 0 = .ok (.iload_n 3, 1) := by decide +kernel
theorem dX9_nextUse_1 : decode cX9_nextUse 1 = .ok (.istore 4, 2) := by decide +kernel
theorem dX9_nextUse_3 : decode cX9_nextUse 3 = .ok (.iload 4, 2) := by decide +kernel
theorem dX9_nextUse_5 : decode cX9_nextUse 5 = .ok (.aload_n 0, 1) := by decide +kernel
theorem dX9_nextUse_6 : decode cX9_nextUse 6 = .ok (.getfield 51, 3) := by decide +kernel
theorem dX9_nextUse_9 : decode cX9_nextUse 9 = .ok (.if_icmp .ge 22, 3) := by decide +kernel
theorem dX9_nextUse_12 : decode cX9_nextUse 12 = .ok (.aload_n 0, 1) := by decide +kernel
theorem dX9_nextUse_13 : decode cX9_nextUse 13 = .ok (.getfield 22, 3) := by decide +kernel
theorem dX9_nextUse_16 : decode cX9_nextUse 16 = .ok (.iload 4, 2) := by decide +kernel
theorem dX9_nextUse_18 : decode cX9_nextUse 18 = .ok (.iaload, 1) := by decide +kernel
theorem dX9_nextUse_19 : decode cX9_nextUse 19 = .ok (.iload_n 2, 1) := by decide +kernel
theorem dX9_nextUse_20 : decode cX9_nextUse 20 = .ok (.idiv, 1) := by decide +kernel
theorem dX9_nextUse_21 : decode cX9_nextUse 21 = .ok (.iload_n 1, 1) := by decide +kernel
theorem dX9_nextUse_22 : decode cX9_nextUse 22 = .ok (.if_icmp .eq 9, 3) := by decide +kernel
theorem dX9_nextUse_25 : decode cX9_nextUse 25 = .ok (.iinc 4 1, 3) := by decide +kernel
theorem dX9_nextUse_28 : decode cX9_nextUse 28 = .ok (.goto (-25), 3) := by decide +kernel
theorem dX9_nextUse_31 : decode cX9_nextUse 31 = .ok (.iload 4, 2) := by decide +kernel
theorem dX9_nextUse_33 : decode cX9_nextUse 33 = .ok (.ireturn, 1) := by decide +kernel
theorem dX9_addKey_0 : decode cX9_addKey 0 = .ok (.aload_n 0, 1) := by decide +kernel
theorem dX9_addKey_1 : decode cX9_addKey 1 = .ok (.getfield 28, 3) := by decide +kernel
theorem dX9_addKey_4 : decode cX9_addKey 4 = .ok (.aload_n 0, 1) := by decide +kernel
theorem dX9_addKey_5 : decode cX9_addKey 5 = .ok (.getfield 70, 3) := by decide +kernel
theorem dX9_addKey_8 : decode cX9_addKey 8 = .ok (.iload_n 1, 1) := by decide +kernel
theorem dX9_addKey_9 : decode cX9_addKey 9 = .ok (.iastore, 1) := by decide +kernel
theorem dX9_addKey_10 : decode cX9_addKey 10 = .ok (.aload_n 0, 1) := by decide +kernel
theorem dX9_addKey_11 : decode cX9_addKey 11 = .ok (.getfield 31, 3) := by decide +kernel
theorem dX9_addKey_14 : decode cX9_addKey 14 = .ok (.aload_n 0, 1) := by decide +kernel
theorem dX9_addKey_15 : decode cX9_addKey 15 = .ok (.getfield 70, 3) := by decide +kernel
theorem dX9_addKey_18 : decode cX9_addKey 18 = .ok (.iload_n 2, 1) := by decide +kernel
theorem dX9_addKey_19 : decode cX9_addKey 19 = .ok (.iastore, 1) := by decide +kernel
theorem dX9_addKey_20 : decode cX9_addKey 20 = .ok (.aload_n 0, 1) := by decide +kernel
theorem dX9_addKey_21 : decode cX9_addKey 21 = .ok (.dup, 1) := by decide +kernel
theorem dX9_addKey_22 : decode cX9_addKey 22 = .ok (.getfield 70, 3) := by decide +kernel
theorem dX9_addKey_25 : decode cX9_addKey 25 = .ok (.iconst 1, 1) := by decide +kernel
theorem dX9_addKey_26 : decode cX9_addKey 26 = .ok (.iadd, 1) := by decide +kernel
theorem dX9_addKey_27 : decode cX9_addKey 27 = .ok (.putfield 70, 3) := by decide +kernel
theorem dX9_addKey_30 : decode cX9_addKey 30 = .ok (.aload_n 0, 1) := by decide +kernel
theorem dX9_addKey_31 : decode cX9_addKey 31 = .ok (.getfield 70, 3) := by decide +kernel
theorem dX9_addKey_34 : decode cX9_addKey 34 = .ok (.ireturn, 1) := by decide +kernel
theorem dX9_fewestLooks_0 : decode cX9_fewestLooks 0 = .ok (.aload_n 0, 1) := by decide +kernel
theorem dX9_fewestLooks_1 : decode cX9_fewestLooks 1 = .ok (.getfield 31, 3) := by decide +kernel
theorem dX9_fewestLooks_4 : decode cX9_fewestLooks 4 = .ok (.aload_n 0, 1) := by decide +kernel
theorem dX9_fewestLooks_5 : decode cX9_fewestLooks 5 = .ok (.getfield 70, 3) := by decide +kernel
theorem dX9_fewestLooks_8 : decode cX9_fewestLooks 8 = .ok (.iload_n 1, 1) := by decide +kernel
theorem dX9_fewestLooks_9 : decode cX9_fewestLooks 9 = .ok (.iastore, 1) := by decide +kernel
theorem dX9_fewestLooks_10 : decode cX9_fewestLooks 10 = .ok (.iconst 1, 1) := by decide +kernel
theorem dX9_fewestLooks_11 : decode cX9_fewestLooks 11 = .ok (.istore_n 2, 1) := by decide +kernel
theorem dX9_fewestLooks_12 : decode cX9_fewestLooks 12 = .ok (.iload_n 2, 1) := by decide +kernel
theorem dX9_fewestLooks_13 : decode cX9_fewestLooks 13 = .ok (.aload_n 0, 1) := by decide +kernel
theorem dX9_fewestLooks_14 : decode cX9_fewestLooks 14 = .ok (.getfield 70, 3) := by decide +kernel
theorem dX9_fewestLooks_17 : decode cX9_fewestLooks 17 = .ok (.if_icmp .gt 72, 3) := by decide +kernel
theorem dX9_fewestLooks_20 : decode cX9_fewestLooks 20 = .ok (.iconst 0, 1) := by decide +kernel
theorem dX9_fewestLooks_21 : decode cX9_fewestLooks 21 = .ok (.istore_n 3, 1) := by decide +kernel
theorem dX9_fewestLooks_22 : decode cX9_fewestLooks 22 = .ok (.iload_n 3, 1) := by decide +kernel
theorem dX9_fewestLooks_23 : decode cX9_fewestLooks 23 = .ok (.iload_n 2, 1) := by decide +kernel
theorem dX9_fewestLooks_24 : decode cX9_fewestLooks 24 = .ok (.iadd, 1) := by decide +kernel
theorem dX9_fewestLooks_25 : decode cX9_fewestLooks 25 = .ok (.aload_n 0, 1) := by decide +kernel
theorem dX9_fewestLooks_26 : decode cX9_fewestLooks 26 = .ok (.getfield 70, 3) := by decide +kernel
theorem dX9_fewestLooks_29 : decode cX9_fewestLooks 29 = .ok (.if_icmp .gt 54, 3) := by decide +kernel
theorem dX9_fewestLooks_32 : decode cX9_fewestLooks 32 = .ok (.aload_n 0, 1) := by decide +kernel
theorem dX9_fewestLooks_33 : decode cX9_fewestLooks 33 = .ok (.iload_n 3, 1) := by decide +kernel
theorem dX9_fewestLooks_34 : decode cX9_fewestLooks 34 = .ok (.iload_n 3, 1) := by decide +kernel
theorem dX9_fewestLooks_35 : decode cX9_fewestLooks 35 = .ok (.iload_n 2, 1) := by decide +kernel
theorem dX9_fewestLooks_36 : decode cX9_fewestLooks 36 = .ok (.iadd, 1) := by decide +kernel
theorem dX9_fewestLooks_37 : decode cX9_fewestLooks 37 = .ok (.invokevirtual 73, 3) := by decide +kernel
theorem dX9_fewestLooks_40 : decode cX9_fewestLooks 40 = .ok (.istore 4, 2) := by decide +kernel
theorem dX9_fewestLooks_42 : decode cX9_fewestLooks 42 = .ok (.aload_n 0, 1) := by decide +kernel
theorem dX9_fewestLooks_43 : decode cX9_fewestLooks 43 = .ok (.getfield 36, 3) := by decide +kernel
theorem dX9_fewestLooks_46 : decode cX9_fewestLooks 46 = .ok (.iload_n 3, 1) := by decide +kernel
theorem dX9_fewestLooks_47 : decode cX9_fewestLooks 47 = .ok (.aaload, 1) := by decide +kernel
theorem dX9_fewestLooks_48 : decode cX9_fewestLooks 48 = .ok (.iload_n 3, 1) := by decide +kernel
theorem dX9_fewestLooks_49 : decode cX9_fewestLooks 49 = .ok (.iload_n 2, 1) := by decide +kernel
theorem dX9_fewestLooks_50 : decode cX9_fewestLooks 50 = .ok (.iadd, 1) := by decide +kernel
theorem dX9_fewestLooks_51 : decode cX9_fewestLooks 51 = .ok (.aload_n 0, 1) := by decide +kernel
theorem dX9_fewestLooks_52 : decode cX9_fewestLooks 52 = .ok (.iload_n 3, 1) := by decide +kernel
theorem dX9_fewestLooks_53 : decode cX9_fewestLooks 53 = .ok (.iload_n 3, 1) := by decide +kernel
theorem dX9_fewestLooks_54 : decode cX9_fewestLooks 54 = .ok (.iload_n 2, 1) := by decide +kernel
theorem dX9_fewestLooks_55 : decode cX9_fewestLooks 55 = .ok (.iadd, 1) := by decide +kernel
theorem dX9_fewestLooks_56 : decode cX9_fewestLooks 56 = .ok (.iload 4, 2) := by decide +kernel
theorem dX9_fewestLooks_58 : decode cX9_fewestLooks 58 = .ok (.invokevirtual 76, 3) := by decide +kernel
theorem dX9_fewestLooks_61 : decode cX9_fewestLooks 61 = .ok (.aload_n 0, 1) := by decide +kernel
theorem dX9_fewestLooks_62 : decode cX9_fewestLooks 62 = .ok (.iload_n 3, 1) := by decide +kernel
theorem dX9_fewestLooks_63 : decode cX9_fewestLooks 63 = .ok (.iload_n 3, 1) := by decide +kernel
theorem dX9_fewestLooks_64 : decode cX9_fewestLooks 64 = .ok (.iload_n 2, 1) := by decide +kernel
theorem dX9_fewestLooks_65 : decode cX9_fewestLooks 65 = .ok (.iadd, 1) := by decide +kernel
theorem dX9_fewestLooks_66 : decode cX9_fewestLooks 66 = .ok (.invokevirtual 79, 3) := by decide +kernel
theorem dX9_fewestLooks_69 : decode cX9_fewestLooks 69 = .ok (.iadd, 1) := by decide +kernel
theorem dX9_fewestLooks_70 : decode cX9_fewestLooks 70 = .ok (.iastore, 1) := by decide +kernel
theorem dX9_fewestLooks_71 : decode cX9_fewestLooks 71 = .ok (.aload_n 0, 1) := by decide +kernel
theorem dX9_fewestLooks_72 : decode cX9_fewestLooks 72 = .ok (.iload 4, 2) := by decide +kernel
theorem dX9_fewestLooks_74 : decode cX9_fewestLooks 74 = .ok (.putfield 9, 3) := by decide +kernel
theorem dX9_fewestLooks_77 : decode cX9_fewestLooks 77 = .ok (.iinc 3 1, 3) := by decide +kernel
theorem dX9_fewestLooks_80 : decode cX9_fewestLooks 80 = .ok (.goto (-58), 3) := by decide +kernel
theorem dX9_fewestLooks_83 : decode cX9_fewestLooks 83 = .ok (.iinc 2 1, 3) := by decide +kernel
theorem dX9_fewestLooks_86 : decode cX9_fewestLooks 86 = .ok (.goto (-74), 3) := by decide +kernel
theorem dX9_fewestLooks_89 : decode cX9_fewestLooks 89 = .ok (.aload_n 0, 1) := by decide +kernel
theorem dX9_fewestLooks_90 : decode cX9_fewestLooks 90 = .ok (.getfield 36, 3) := by decide +kernel
theorem dX9_fewestLooks_93 : decode cX9_fewestLooks 93 = .ok (.iconst 0, 1) := by decide +kernel
theorem dX9_fewestLooks_94 : decode cX9_fewestLooks 94 = .ok (.aaload, 1) := by decide +kernel
theorem dX9_fewestLooks_95 : decode cX9_fewestLooks 95 = .ok (.aload_n 0, 1) := by decide +kernel
theorem dX9_fewestLooks_96 : decode cX9_fewestLooks 96 = .ok (.getfield 70, 3) := by decide +kernel
theorem dX9_fewestLooks_99 : decode cX9_fewestLooks 99 = .ok (.iaload, 1) := by decide +kernel
theorem dX9_fewestLooks_100 : decode cX9_fewestLooks 100 = .ok (.istore_n 2, 1) := by decide +kernel
theorem dX9_fewestLooks_101 : decode cX9_fewestLooks 101 = .ok (.aload_n 0, 1) := by decide +kernel
theorem dX9_fewestLooks_102 : decode cX9_fewestLooks 102 = .ok (.iconst 0, 1) := by decide +kernel
theorem dX9_fewestLooks_103 : decode cX9_fewestLooks 103 = .ok (.putfield 70, 3) := by decide +kernel
theorem dX9_fewestLooks_106 : decode cX9_fewestLooks 106 = .ok (.iload_n 2, 1) := by decide +kernel
theorem dX9_fewestLooks_107 : decode cX9_fewestLooks 107 = .ok (.ireturn, 1) := by decide +kernel
theorem dX9_bestRoot_0 : decode cX9_bestRoot 0 = .ok (.iload_n 1, 1) := by decide +kernel
theorem dX9_bestRoot_1 : decode cX9_bestRoot 1 = .ok (.istore_n 3, 1) := by decide +kernel
theorem dX9_bestRoot_2 : decode cX9_bestRoot 2 = .ok (.iload_n 1, 1) := by decide +kernel
theorem dX9_bestRoot_3 : decode cX9_bestRoot 3 = .ok (.iconst 1, 1) := by decide +kernel
theorem dX9_bestRoot_4 : decode cX9_bestRoot 4 = .ok (.iadd, 1) := by decide +kernel
theorem dX9_bestRoot_5 : decode cX9_bestRoot 5 = .ok (.istore 4, 2) := by decide +kernel
theorem dX9_bestRoot_7 : decode cX9_bestRoot 7 = .ok (.iload 4, 2) := by decide +kernel
theorem dX9_bestRoot_9 : decode cX9_bestRoot 9 = .ok (.iload_n 2, 1) := by decide +kernel
theorem dX9_bestRoot_10 : decode cX9_bestRoot 10 = .ok (.if_icmp .ge 30, 3) := by decide +kernel
theorem dX9_bestRoot_13 : decode cX9_bestRoot 13 = .ok (.aload_n 0, 1) := by decide +kernel
theorem dX9_bestRoot_14 : decode cX9_bestRoot 14 = .ok (.iload_n 1, 1) := by decide +kernel
theorem dX9_bestRoot_15 : decode cX9_bestRoot 15 = .ok (.iload_n 2, 1) := by decide +kernel
theorem dX9_bestRoot_16 : decode cX9_bestRoot 16 = .ok (.iload 4, 2) := by decide +kernel
theorem dX9_bestRoot_18 : decode cX9_bestRoot 18 = .ok (.invokevirtual 76, 3) := by decide +kernel
theorem dX9_bestRoot_21 : decode cX9_bestRoot 21 = .ok (.aload_n 0, 1) := by decide +kernel
theorem dX9_bestRoot_22 : decode cX9_bestRoot 22 = .ok (.iload_n 1, 1) := by decide +kernel
theorem dX9_bestRoot_23 : decode cX9_bestRoot 23 = .ok (.iload_n 2, 1) := by decide +kernel
theorem dX9_bestRoot_24 : decode cX9_bestRoot 24 = .ok (.iload_n 3, 1) := by decide +kernel
theorem dX9_bestRoot_25 : decode cX9_bestRoot 25 = .ok (.invokevirtual 76, 3) := by decide +kernel
theorem dX9_bestRoot_28 : decode cX9_bestRoot 28 = .ok (.if_icmp .ge 6, 3) := by decide +kernel
theorem dX9_bestRoot_31 : decode cX9_bestRoot 31 = .ok (.iload 4, 2) := by decide +kernel
theorem dX9_bestRoot_33 : decode cX9_bestRoot 33 = .ok (.istore_n 3, 1) := by decide +kernel
theorem dX9_bestRoot_34 : decode cX9_bestRoot 34 = .ok (.iinc 4 1, 3) := by decide +kernel
theorem dX9_bestRoot_37 : decode cX9_bestRoot 37 = .ok (.goto (-30), 3) := by decide +kernel
theorem dX9_bestRoot_40 : decode cX9_bestRoot 40 = .ok (.iload_n 3, 1) := by decide +kernel
theorem dX9_bestRoot_41 : decode cX9_bestRoot 41 = .ok (.ireturn, 1) := by decide +kernel
theorem dX9_withRoot_0 : decode cX9_withRoot 0 = .ok (.aload_n 0, 1) := by decide +kernel
theorem dX9_withRoot_1 : decode cX9_withRoot 1 = .ok (.getfield 36, 3) := by decide +kernel
theorem dX9_withRoot_4 : decode cX9_withRoot 4 = .ok (.iload_n 1, 1) := by decide +kernel
theorem dX9_withRoot_5 : decode cX9_withRoot 5 = .ok (.aaload, 1) := by decide +kernel
theorem dX9_withRoot_6 : decode cX9_withRoot 6 = .ok (.iload_n 3, 1) := by decide +kernel
theorem dX9_withRoot_7 : decode cX9_withRoot 7 = .ok (.iaload, 1) := by decide +kernel
theorem dX9_withRoot_8 : decode cX9_withRoot 8 = .ok (.aload_n 0, 1) := by decide +kernel
theorem dX9_withRoot_9 : decode cX9_withRoot 9 = .ok (.getfield 36, 3) := by decide +kernel
theorem dX9_withRoot_12 : decode cX9_withRoot 12 = .ok (.iload_n 3, 1) := by decide +kernel
theorem dX9_withRoot_13 : decode cX9_withRoot 13 = .ok (.iconst 1, 1) := by decide +kernel
theorem dX9_withRoot_14 : decode cX9_withRoot 14 = .ok (.iadd, 1) := by decide +kernel
theorem dX9_withRoot_15 : decode cX9_withRoot 15 = .ok (.aaload, 1) := by decide +kernel
theorem dX9_withRoot_16 : decode cX9_withRoot 16 = .ok (.iload_n 2, 1) := by decide +kernel
theorem dX9_withRoot_17 : decode cX9_withRoot 17 = .ok (.iaload, 1) := by decide +kernel
theorem dX9_withRoot_18 : decode cX9_withRoot 18 = .ok (.iadd, 1) := by decide +kernel
theorem dX9_withRoot_19 : decode cX9_withRoot 19 = .ok (.ireturn, 1) := by decide +kernel
theorem dX9_soughtIn_0 : decode cX9_soughtIn 0 = .ok (.aload_n 0, 1) := by decide +kernel
theorem dX9_soughtIn_1 : decode cX9_soughtIn 1 = .ok (.getfield 31, 3) := by decide +kernel
theorem dX9_soughtIn_4 : decode cX9_soughtIn 4 = .ok (.iload_n 1, 1) := by decide +kernel
theorem dX9_soughtIn_5 : decode cX9_soughtIn 5 = .ok (.iaload, 1) := by decide +kernel
theorem dX9_soughtIn_6 : decode cX9_soughtIn 6 = .ok (.istore_n 3, 1) := by decide +kernel
theorem dX9_soughtIn_7 : decode cX9_soughtIn 7 = .ok (.iload_n 1, 1) := by decide +kernel
theorem dX9_soughtIn_8 : decode cX9_soughtIn 8 = .ok (.istore 4, 2) := by decide +kernel
theorem dX9_soughtIn_10 : decode cX9_soughtIn 10 = .ok (.iload 4, 2) := by decide +kernel
theorem dX9_soughtIn_12 : decode cX9_soughtIn 12 = .ok (.iload_n 2, 1) := by decide +kernel
theorem dX9_soughtIn_13 : decode cX9_soughtIn 13 = .ok (.if_icmp .ge 29, 3) := by decide +kernel
theorem dX9_soughtIn_16 : decode cX9_soughtIn 16 = .ok (.iload_n 3, 1) := by decide +kernel
theorem dX9_soughtIn_17 : decode cX9_soughtIn 17 = .ok (.aload_n 0, 1) := by decide +kernel
theorem dX9_soughtIn_18 : decode cX9_soughtIn 18 = .ok (.getfield 28, 3) := by decide +kernel
theorem dX9_soughtIn_21 : decode cX9_soughtIn 21 = .ok (.iload 4, 2) := by decide +kernel
theorem dX9_soughtIn_23 : decode cX9_soughtIn 23 = .ok (.iaload, 1) := by decide +kernel
theorem dX9_soughtIn_24 : decode cX9_soughtIn 24 = .ok (.aload_n 0, 1) := by decide +kernel
theorem dX9_soughtIn_25 : decode cX9_soughtIn 25 = .ok (.getfield 31, 3) := by decide +kernel
theorem dX9_soughtIn_28 : decode cX9_soughtIn 28 = .ok (.iload 4, 2) := by decide +kernel
theorem dX9_soughtIn_30 : decode cX9_soughtIn 30 = .ok (.iconst 1, 1) := by decide +kernel
theorem dX9_soughtIn_31 : decode cX9_soughtIn 31 = .ok (.iadd, 1) := by decide +kernel
theorem dX9_soughtIn_32 : decode cX9_soughtIn 32 = .ok (.iaload, 1) := by decide +kernel
theorem dX9_soughtIn_33 : decode cX9_soughtIn 33 = .ok (.iadd, 1) := by decide +kernel
theorem dX9_soughtIn_34 : decode cX9_soughtIn 34 = .ok (.iadd, 1) := by decide +kernel
theorem dX9_soughtIn_35 : decode cX9_soughtIn 35 = .ok (.istore_n 3, 1) := by decide +kernel
theorem dX9_soughtIn_36 : decode cX9_soughtIn 36 = .ok (.iinc 4 1, 3) := by decide +kernel
theorem dX9_soughtIn_39 : decode cX9_soughtIn 39 = .ok (.goto (-29), 3) := by decide +kernel
theorem dX9_soughtIn_42 : decode cX9_soughtIn 42 = .ok (.iload_n 3, 1) := by decide +kernel
theorem dX9_soughtIn_43 : decode cX9_soughtIn 43 = .ok (.ireturn, 1) := by decide +kernel
theorem dX10_init_0 : decode cX10_init 0 = .ok (.aload_n 0, 1) := by decide +kernel
theorem dX10_init_1 : decode cX10_init 1 = .ok (.aload_n 1, 1) := by decide +kernel
theorem dX10_init_2 : decode cX10_init 2 = .ok (.iload_n 2, 1) := by decide +kernel
theorem dX10_init_3 : decode cX10_init 3 = .ok (.iload_n 3, 1) := by decide +kernel
theorem dX10_init_4 : decode cX10_init 4 = .ok (.invokespecial 3, 3) := by decide +kernel
theorem dX10_init_7 : decode cX10_init 7 = .ok (.aload_n 0, 1) := by decide +kernel
theorem dX10_init_8 : decode cX10_init 8 = .ok (.bipush 80, 2) := by decide +kernel
theorem dX10_init_10 : decode cX10_init 10 = .ok (.newarray .int, 2) := by decide +kernel
theorem dX10_init_12 : decode cX10_init 12 = .ok (.putfield 9, 3) := by decide +kernel
theorem dX10_init_15 : decode cX10_init 15 = .ok (.aload_n 0, 1) := by decide +kernel
theorem dX10_init_16 : decode cX10_init 16 = .ok (.bipush 80, 2) := by decide +kernel
theorem dX10_init_18 : decode cX10_init 18 = .ok (.newarray .int, 2) := by decide +kernel
theorem dX10_init_20 : decode cX10_init 20 = .ok (.putfield 15, 3) := by decide +kernel
theorem dX10_init_23 : decode cX10_init 23 = .ok (.aload_n 0, 1) := by decide +kernel
theorem dX10_init_24 : decode cX10_init 24 = .ok (.bipush 80, 2) := by decide +kernel
theorem dX10_init_26 : decode cX10_init 26 = .ok (.newarray .int, 2) := by decide +kernel
theorem dX10_init_28 : decode cX10_init 28 = .ok (.putfield 18, 3) := by decide +kernel
theorem dX10_init_31 : decode cX10_init 31 = .ok (.aload_n 0, 1) := by decide +kernel
theorem dX10_init_32 : decode cX10_init 32 = .ok (.iconst (-1), 1) := by decide +kernel
theorem dX10_init_33 : decode cX10_init 33 = .ok (.putfield 21, 3) := by decide +kernel
theorem dX10_init_36 : decode cX10_init 36 = .ok (.return_, 1) := by decide +kernel
theorem dX10_kind_0 : decode cX10_kind 0 = .ok (.iconst 5, 1) := by decide +kernel
theorem dX10_kind_1 : decode cX10_kind 1 = .ok (.ireturn, 1) := by decide +kernel
theorem dX10_sideFor_0 : decode cX10_sideFor 0 = .ok (.aload_n 0, 1) := by decide +kernel
theorem dX10_sideFor_1 : decode cX10_sideFor 1 = .ok (.iload_n 1, 1) := by decide +kernel
theorem dX10_sideFor_2 : decode cX10_sideFor 2 = .ok (.aload_n 0, 1) := by decide +kernel
theorem dX10_sideFor_3 : decode cX10_sideFor 3 = .ok (.getfield 25, 3) := by decide +kernel
theorem dX10_sideFor_6 : decode cX10_sideFor 6 = .ok (.iload_n 2, 1) := by decide +kernel
theorem dX10_sideFor_7 : decode cX10_sideFor 7 = .ok (.iaload, 1) := by decide +kernel
theorem dX10_sideFor_8 : decode cX10_sideFor 8 = .ok (.iload_n 2, 1) := by decide +kernel
theorem dX10_sideFor_9 : decode cX10_sideFor 9 = .ok (.invokevirtual 28, 3) := by decide +kernel
theorem dX10_sideFor_12 : decode cX10_sideFor 12 = .ok (.ifCond .eq 12, 3) := by decide +kernel
theorem dX10_sideFor_15 : decode cX10_sideFor 15 = .ok (.aload_n 0, 1) := by decide +kernel
theorem dX10_sideFor_16 : decode cX10_sideFor 16 = .ok (.getfield 9, 3) := by decide +kernel
theorem dX10_sideFor_19 : decode cX10_sideFor 19 = .ok (.iload_n 2, 1) := by decide +kernel
theorem dX10_sideFor_20 : decode cX10_sideFor 20 = .ok (.iaload, 1) := by decide +kernel
theorem dX10_sideFor_21 : decode cX10_sideFor 21 = .ok (.goto 9, 3) := by decide +kernel
theorem dX10_sideFor_24 : decode cX10_sideFor 24 = .ok (.aload_n 0, 1) := by decide +kernel
theorem dX10_sideFor_25 : decode cX10_sideFor 25 = .ok (.getfield 15, 3) := by decide +kernel
theorem dX10_sideFor_28 : decode cX10_sideFor 28 = .ok (.iload_n 2, 1) := by decide +kernel
theorem dX10_sideFor_29 : decode cX10_sideFor 29 = .ok (.iaload, 1) := by decide +kernel
theorem dX10_sideFor_30 : decode cX10_sideFor 30 = .ok (.ireturn, 1) := by decide +kernel
theorem dX10_hang_0 : decode cX10_hang 0 = .ok (.iload_n 1, 1) := by decide +kernel
theorem dX10_hang_1 : decode cX10_hang 1 = .ok (.iconst (-1), 1) := by decide +kernel
theorem dX10_hang_2 : decode cX10_hang 2 = .ok (.if_icmp .ne 11, 3) := by decide +kernel
theorem dX10_hang_5 : decode cX10_hang 5 = .ok (.aload_n 0, 1) := by decide +kernel
theorem dX10_hang_6 : decode cX10_hang 6 = .ok (.iload_n 3, 1) := by decide +kernel
theorem dX10_hang_7 : decode cX10_hang 7 = .ok (.putfield 21, 3) := by decide +kernel
theorem dX10_hang_10 : decode cX10_hang 10 = .ok (.goto 30, 3) := by decide +kernel
theorem dX10_hang_13 : decode cX10_hang 13 = .ok (.aload_n 0, 1) := by decide +kernel
theorem dX10_hang_14 : decode cX10_hang 14 = .ok (.getfield 9, 3) := by decide +kernel
theorem dX10_hang_17 : decode cX10_hang 17 = .ok (.iload_n 1, 1) := by decide +kernel
theorem dX10_hang_18 : decode cX10_hang 18 = .ok (.iaload, 1) := by decide +kernel
theorem dX10_hang_19 : decode cX10_hang 19 = .ok (.iload_n 2, 1) := by decide +kernel
theorem dX10_hang_20 : decode cX10_hang 20 = .ok (.if_icmp .ne 13, 3) := by decide +kernel
theorem dX10_hang_23 : decode cX10_hang 23 = .ok (.aload_n 0, 1) := by decide +kernel
theorem dX10_hang_24 : decode cX10_hang 24 = .ok (.getfield 9, 3) := by decide +kernel
theorem dX10_hang_27 : decode cX10_hang 27 = .ok (.iload_n 1, 1) := by decide +kernel
theorem dX10_hang_28 : decode cX10_hang 28 = .ok (.iload_n 3, 1) := by decide +kernel
theorem dX10_hang_29 : decode cX10_hang 29 = .ok (.iastore, 1) := by decide +kernel
theorem dX10_hang_30 : decode cX10_hang 30 = .ok (.goto 10, 3) := by decide +kernel
theorem dX10_hang_33 : decode cX10_hang 33 = .ok (.aload_n 0, 1) := by decide +kernel
theorem dX10_hang_34 : decode cX10_hang 34 = .ok (.getfield 15, 3) := by decide +kernel
theorem dX10_hang_37 : decode cX10_hang 37 = .ok (.iload_n 1, 1) := by decide +kernel
theorem dX10_hang_38 : decode cX10_hang 38 = .ok (.iload_n 3, 1) := by decide +kernel
theorem dX10_hang_39 : decode cX10_hang 39 = .ok (.iastore, 1) := by decide +kernel
theorem dX10_hang_40 : decode cX10_hang 40 = .ok (.return_, 1) := by decide +kernel
theorem dX10_putName_0 : decode cX10_putName 0 = .ok (.iconst (-1), 1) := by decide +kernel
theorem dX10_putName_1 : decode cX10_putName 1 = .ok (.istore_n 2, 1) := by decide +kernel
theorem dX10_putName_2 : decode cX10_putName 2 = .ok (.aload_n 0, 1) := by decide +kernel
theorem dX10_putName_3 : decode cX10_putName 3 = .ok (.getfield 21, 3) := by decide +kernel
theorem dX10_putName_6 : decode cX10_putName 6 = .ok (.istore_n 3, 1) := by decide +kernel
theorem dX10_putName_7 : decode cX10_putName 7 = .ok (.iload_n 3, 1) := by decide +kernel
theorem dX10_putName_8 : decode cX10_putName 8 = .ok (.iconst (-1), 1) := by decide +kernel
theorem dX10_putName_9 : decode cX10_putName 9 = .ok (.if_icmp .eq 36, 3) := by decide +kernel
theorem dX10_putName_12 : decode cX10_putName 12 = .ok (.aload_n 0, 1) := by decide +kernel
theorem dX10_putName_13 : decode cX10_putName 13 = .ok (.getfield 32, 3) := by decide +kernel
theorem dX10_putName_16 : decode cX10_putName 16 = .ok (.aload_n 0, 1) := by decide +kernel
theorem dX10_putName_17 : decode cX10_putName 17 = .ok (.getfield 35, 3) := by decide +kernel
theorem dX10_putName_20 : decode cX10_putName 20 = .ok (.if_icmp .ge 25, 3) := by decide +kernel
theorem dX10_putName_23 : decode cX10_putName 23 = .ok (.aload_n 0, 1) := by decide +kernel
theorem dX10_putName_24 : decode cX10_putName 24 = .ok (.dup, 1) := by decide +kernel
theorem dX10_putName_25 : decode cX10_putName 25 = .ok (.getfield 32, 3) := by decide +kernel
theorem dX10_putName_28 : decode cX10_putName 28 = .ok (.iconst 1, 1) := by decide +kernel
theorem dX10_putName_29 : decode cX10_putName 29 = .ok (.iadd, 1) := by decide +kernel
theorem dX10_putName_30 : decode cX10_putName 30 = .ok (.putfield 32, 3) := by decide +kernel
theorem dX10_putName_33 : decode cX10_putName 33 = .ok (.iload_n 3, 1) := by decide +kernel
theorem dX10_putName_34 : decode cX10_putName 34 = .ok (.istore_n 2, 1) := by decide +kernel
theorem dX10_putName_35 : decode cX10_putName 35 = .ok (.aload_n 0, 1) := by decide +kernel
theorem dX10_putName_36 : decode cX10_putName 36 = .ok (.iload_n 1, 1) := by decide +kernel
theorem dX10_putName_37 : decode cX10_putName 37 = .ok (.iload_n 3, 1) := by decide +kernel
theorem dX10_putName_38 : decode cX10_putName 38 = .ok (.invokevirtual 38, 3) := by decide +kernel
theorem dX10_putName_41 : decode cX10_putName 41 = .ok (.istore_n 3, 1) := by decide +kernel
theorem dX10_putName_42 : decode cX10_putName 42 = .ok (.goto (-35), 3) := by decide +kernel
theorem dX10_putName_45 : decode cX10_putName 45 = .ok (.aload_n 0, 1) := by decide +kernel
theorem dX10_putName_46 : decode cX10_putName 46 = .ok (.getfield 9, 3) := by decide +kernel
theorem dX10_putName_49 : decode cX10_putName 49 = .ok (.iload_n 1, 1) := by decide +kernel
theorem dX10_putName_50 : decode cX10_putName 50 = .ok (.iconst (-1), 1) := by decide +kernel
theorem dX10_putName_51 : decode cX10_putName 51 = .ok (.iastore, 1) := by decide +kernel
theorem dX10_putName_52 : decode cX10_putName 52 = .ok (.aload_n 0, 1) := by decide +kernel
theorem dX10_putName_53 : decode cX10_putName 53 = .ok (.getfield 15, 3) := by decide +kernel
theorem dX10_putName_56 : decode cX10_putName 56 = .ok (.iload_n 1, 1) := by decide +kernel
theorem dX10_putName_57 : decode cX10_putName 57 = .ok (.iconst (-1), 1) := by decide +kernel
theorem dX10_putName_58 : decode cX10_putName 58 = .ok (.iastore, 1) := by decide +kernel
theorem dX10_putName_59 : decode cX10_putName 59 = .ok (.aload_n 0, 1) := by decide +kernel
theorem dX10_putName_60 : decode cX10_putName 60 = .ok (.dup, 1) := by decide +kernel
theorem dX10_putName_61 : decode cX10_putName 61 = .ok (.getfield 35, 3) := by decide +kernel
theorem dX10_putName_64 : decode cX10_putName 64 = .ok (.iconst 1, 1) := by decide +kernel
theorem dX10_putName_65 : decode cX10_putName 65 = .ok (.iadd, 1) := by decide +kernel
theorem dX10_putName_66 : decode cX10_putName 66 = .ok (.putfield 35, 3) := by decide +kernel
theorem dX10_putName_69 : decode cX10_putName 69 = .ok (.iload_n 2, 1) := by decide +kernel
theorem dX10_putName_70 : decode cX10_putName 70 = .ok (.iconst (-1), 1) := by decide +kernel
theorem dX10_putName_71 : decode cX10_putName 71 = .ok (.if_icmp .ne 11, 3) := by decide +kernel
theorem dX10_putName_74 : decode cX10_putName 74 = .ok (.aload_n 0, 1) := by decide +kernel
theorem dX10_putName_75 : decode cX10_putName 75 = .ok (.iload_n 1, 1) := by decide +kernel
theorem dX10_putName_76 : decode cX10_putName 76 = .ok (.putfield 21, 3) := by decide +kernel
theorem dX10_putName_79 : decode cX10_putName 79 = .ok (.goto 35, 3) := by decide +kernel
theorem dX10_putName_82 : decode cX10_putName 82 = .ok (.aload_n 0, 1) := by decide +kernel
theorem dX10_putName_83 : decode cX10_putName 83 = .ok (.iload_n 1, 1) := by decide +kernel
theorem dX10_putName_84 : decode cX10_putName 84 = .ok (.aload_n 0, 1) := by decide +kernel
theorem dX10_putName_85 : decode cX10_putName 85 = .ok (.getfield 25, 3) := by decide +kernel
theorem dX10_putName_88 : decode cX10_putName 88 = .ok (.iload_n 2, 1) := by decide +kernel
theorem dX10_putName_89 : decode cX10_putName 89 = .ok (.iaload, 1) := by decide +kernel
theorem dX10_putName_90 : decode cX10_putName 90 = .ok (.iload_n 2, 1) := by decide +kernel
theorem dX10_putName_91 : decode cX10_putName 91 = .ok (.invokevirtual 28, 3) := by decide +kernel
theorem dX10_putName_94 : decode cX10_putName 94 = .ok (.ifCond .eq 13, 3) := by decide +kernel
theorem dX10_putName_97 : decode cX10_putName 97 = .ok (.aload_n 0, 1) := by decide +kernel
theorem dX10_putName_98 : decode cX10_putName 98 = .ok (.getfield 9, 3) := by decide +kernel
theorem dX10_putName_101 : decode cX10_putName 101 = .ok (.iload_n 2, 1) := by decide +kernel
theorem dX10_putName_102 : decode cX10_putName 102 = .ok (.iload_n 1, 1) := by decide +kernel
theorem dX10_putName_103 : decode cX10_putName 103 = .ok (.iastore, 1) := by decide +kernel
theorem dX10_putName_104 : decode cX10_putName 104 = .ok (.goto 10, 3) := by decide +kernel
theorem dX10_putName_107 : decode cX10_putName 107 = .ok (.aload_n 0, 1) := by decide +kernel
theorem dX10_putName_108 : decode cX10_putName 108 = .ok (.getfield 15, 3) := by decide +kernel
theorem dX10_putName_111 : decode cX10_putName 111 = .ok (.iload_n 2, 1) := by decide +kernel
theorem dX10_putName_112 : decode cX10_putName 112 = .ok (.iload_n 1, 1) := by decide +kernel
theorem dX10_putName_113 : decode cX10_putName 113 = .ok (.iastore, 1) := by decide +kernel
theorem dX10_putName_114 : decode cX10_putName 114 = .ok (.return_, 1) := by decide +kernel
theorem dX10_takeName_0 : decode cX10_takeName 0 = .ok (.iconst (-1), 1) := by decide +kernel
theorem dX10_takeName_1 : decode cX10_takeName 1 = .ok (.istore_n 2, 1) := by decide +kernel
theorem dX10_takeName_2 : decode cX10_takeName 2 = .ok (.aload_n 0, 1) := by decide +kernel
theorem dX10_takeName_3 : decode cX10_takeName 3 = .ok (.getfield 21, 3) := by decide +kernel
theorem dX10_takeName_6 : decode cX10_takeName 6 = .ok (.istore_n 3, 1) := by decide +kernel
theorem dX10_takeName_7 : decode cX10_takeName 7 = .ok (.iload_n 3, 1) := by decide +kernel
theorem dX10_takeName_8 : decode cX10_takeName 8 = .ok (.iconst (-1), 1) := by decide +kernel
theorem dX10_takeName_9 : decode cX10_takeName 9 = .ok (.if_icmp .eq 41, 3) := by decide +kernel
theorem dX10_takeName_12 : decode cX10_takeName 12 = .ok (.iload_n 3, 1) := by decide +kernel
theorem dX10_takeName_13 : decode cX10_takeName 13 = .ok (.iload_n 1, 1) := by decide +kernel
theorem dX10_takeName_14 : decode cX10_takeName 14 = .ok (.if_icmp .eq 36, 3) := by decide +kernel
theorem dX10_takeName_17 : decode cX10_takeName 17 = .ok (.aload_n 0, 1) := by decide +kernel
theorem dX10_takeName_18 : decode cX10_takeName 18 = .ok (.getfield 32, 3) := by decide +kernel
theorem dX10_takeName_21 : decode cX10_takeName 21 = .ok (.aload_n 0, 1) := by decide +kernel
theorem dX10_takeName_22 : decode cX10_takeName 22 = .ok (.getfield 35, 3) := by decide +kernel
theorem dX10_takeName_25 : decode cX10_takeName 25 = .ok (.if_icmp .ge 25, 3) := by decide +kernel
theorem dX10_takeName_28 : decode cX10_takeName 28 = .ok (.aload_n 0, 1) := by decide +kernel
theorem dX10_takeName_29 : decode cX10_takeName 29 = .ok (.dup, 1) := by decide +kernel
theorem dX10_takeName_30 : decode cX10_takeName 30 = .ok (.getfield 32, 3) := by decide +kernel
theorem dX10_takeName_33 : decode cX10_takeName 33 = .ok (.iconst 1, 1) := by decide +kernel
theorem dX10_takeName_34 : decode cX10_takeName 34 = .ok (.iadd, 1) := by decide +kernel
theorem dX10_takeName_35 : decode cX10_takeName 35 = .ok (.putfield 32, 3) := by decide +kernel
theorem dX10_takeName_38 : decode cX10_takeName 38 = .ok (.iload_n 3, 1) := by decide +kernel
theorem dX10_takeName_39 : decode cX10_takeName 39 = .ok (.istore_n 2, 1) := by decide +kernel
theorem dX10_takeName_40 : decode cX10_takeName 40 = .ok (.aload_n 0, 1) := by decide +kernel
theorem dX10_takeName_41 : decode cX10_takeName 41 = .ok (.iload_n 1, 1) := by decide +kernel
theorem dX10_takeName_42 : decode cX10_takeName 42 = .ok (.iload_n 3, 1) := by decide +kernel
theorem dX10_takeName_43 : decode cX10_takeName 43 = .ok (.invokevirtual 38, 3) := by decide +kernel
theorem dX10_takeName_46 : decode cX10_takeName 46 = .ok (.istore_n 3, 1) := by decide +kernel
theorem dX10_takeName_47 : decode cX10_takeName 47 = .ok (.goto (-40), 3) := by decide +kernel
theorem dX10_takeName_50 : decode cX10_takeName 50 = .ok (.iload_n 3, 1) := by decide +kernel
theorem dX10_takeName_51 : decode cX10_takeName 51 = .ok (.iload_n 1, 1) := by decide +kernel
theorem dX10_takeName_52 : decode cX10_takeName 52 = .ok (.if_icmp .eq 4, 3) := by decide +kernel
theorem dX10_takeName_55 : decode cX10_takeName 55 = .ok (.return_, 1) := by decide +kernel
theorem dX10_takeName_56 : decode cX10_takeName 56 = .ok (.aload_n 0, 1) := by decide +kernel
theorem dX10_takeName_57 : decode cX10_takeName 57 = .ok (.dup, 1) := by decide +kernel
theorem dX10_takeName_58 : decode cX10_takeName 58 = .ok (.getfield 32, 3) := by decide +kernel
theorem dX10_takeName_61 : decode cX10_takeName 61 = .ok (.iconst 1, 1) := by decide +kernel
theorem dX10_takeName_62 : decode cX10_takeName 62 = .ok (.iadd, 1) := by decide +kernel
theorem dX10_takeName_63 : decode cX10_takeName 63 = .ok (.putfield 32, 3) := by decide +kernel
theorem dX10_takeName_66 : decode cX10_takeName 66 = .ok (.aload_n 0, 1) := by decide +kernel
theorem dX10_takeName_67 : decode cX10_takeName 67 = .ok (.iload_n 2, 1) := by decide +kernel
theorem dX10_takeName_68 : decode cX10_takeName 68 = .ok (.iload_n 1, 1) := by decide +kernel
theorem dX10_takeName_69 : decode cX10_takeName 69 = .ok (.aload_n 0, 1) := by decide +kernel
theorem dX10_takeName_70 : decode cX10_takeName 70 = .ok (.iload_n 1, 1) := by decide +kernel
theorem dX10_takeName_71 : decode cX10_takeName 71 = .ok (.invokevirtual 42, 3) := by decide +kernel
theorem dX10_takeName_74 : decode cX10_takeName 74 = .ok (.invokevirtual 46, 3) := by decide +kernel
theorem dX10_takeName_77 : decode cX10_takeName 77 = .ok (.aload_n 0, 1) := by decide +kernel
theorem dX10_takeName_78 : decode cX10_takeName 78 = .ok (.dup, 1) := by decide +kernel
theorem dX10_takeName_79 : decode cX10_takeName 79 = .ok (.getfield 35, 3) := by decide +kernel
theorem dX10_takeName_82 : decode cX10_takeName 82 = .ok (.iconst 1, 1) := by decide +kernel
theorem dX10_takeName_83 : decode cX10_takeName 83 = .ok (.isub, 1) := by decide +kernel
theorem dX10_takeName_84 : decode cX10_takeName 84 = .ok (.putfield 35, 3) := by decide +kernel
theorem dX10_takeName_87 : decode cX10_takeName 87 = .ok (.return_, 1) := by decide +kernel
theorem dX10_heirOf_0 : decode cX10_heirOf 0 = .ok (.aload_n 0, 1) := by decide +kernel
theorem dX10_heirOf_1 : decode cX10_heirOf 1 = .ok (.getfield 9, 3) := by decide +kernel
theorem dX10_heirOf_4 : decode cX10_heirOf 4 = .ok (.iload_n 1, 1) := by decide +kernel
theorem dX10_heirOf_5 : decode cX10_heirOf 5 = .ok (.iaload, 1) := by decide +kernel
theorem dX10_heirOf_6 : decode cX10_heirOf 6 = .ok (.iconst (-1), 1) := by decide +kernel
theorem dX10_heirOf_7 : decode cX10_heirOf 7 = .ok (.if_icmp .eq 13, 3) := by decide +kernel
theorem dX10_heirOf_10 : decode cX10_heirOf 10 = .ok (.aload_n 0, 1) := by decide +kernel
theorem dX10_heirOf_11 : decode cX10_heirOf 11 = .ok (.getfield 15, 3) := by decide +kernel
theorem dX10_heirOf_14 : decode cX10_heirOf 14 = .ok (.iload_n 1, 1) := by decide +kernel
theorem dX10_heirOf_15 : decode cX10_heirOf 15 = .ok (.iaload, 1) := by decide +kernel
theorem dX10_heirOf_16 : decode cX10_heirOf 16 = .ok (.iconst (-1), 1) := by decide +kernel
theorem dX10_heirOf_17 : decode cX10_heirOf 17 = .ok (.if_icmp .ne 29, 3) := by decide +kernel
theorem dX10_heirOf_20 : decode cX10_heirOf 20 = .ok (.aload_n 0, 1) := by decide +kernel
theorem dX10_heirOf_21 : decode cX10_heirOf 21 = .ok (.getfield 9, 3) := by decide +kernel
theorem dX10_heirOf_24 : decode cX10_heirOf 24 = .ok (.iload_n 1, 1) := by decide +kernel
theorem dX10_heirOf_25 : decode cX10_heirOf 25 = .ok (.iaload, 1) := by decide +kernel
theorem dX10_heirOf_26 : decode cX10_heirOf 26 = .ok (.iconst (-1), 1) := by decide +kernel
theorem dX10_heirOf_27 : decode cX10_heirOf 27 = .ok (.if_icmp .ne 12, 3) := by decide +kernel
theorem dX10_heirOf_30 : decode cX10_heirOf 30 = .ok (.aload_n 0, 1) := by decide +kernel
theorem dX10_heirOf_31 : decode cX10_heirOf 31 = .ok (.getfield 15, 3) := by decide +kernel
theorem dX10_heirOf_34 : decode cX10_heirOf 34 = .ok (.iload_n 1, 1) := by decide +kernel
theorem dX10_heirOf_35 : decode cX10_heirOf 35 = .ok (.iaload, 1) := by decide +kernel
theorem dX10_heirOf_36 : decode cX10_heirOf 36 = .ok (.goto 9, 3) := by decide +kernel
theorem dX10_heirOf_39 : decode cX10_heirOf 39 = .ok (.aload_n 0, 1) := by decide +kernel
theorem dX10_heirOf_40 : decode cX10_heirOf 40 = .ok (.getfield 9, 3) := by decide +kernel
theorem dX10_heirOf_43 : decode cX10_heirOf 43 = .ok (.iload_n 1, 1) := by decide +kernel
theorem dX10_heirOf_44 : decode cX10_heirOf 44 = .ok (.iaload, 1) := by decide +kernel
theorem dX10_heirOf_45 : decode cX10_heirOf 45 = .ok (.ireturn, 1) := by decide +kernel
theorem dX10_heirOf_46 : decode cX10_heirOf 46 = .ok (.iload_n 1, 1) := by decide +kernel
theorem dX10_heirOf_47 : decode cX10_heirOf 47 = .ok (.istore_n 2, 1) := by decide +kernel
theorem dX10_heirOf_48 : decode cX10_heirOf 48 = .ok (.aload_n 0, 1) := by decide +kernel
theorem dX10_heirOf_49 : decode cX10_heirOf 49 = .ok (.getfield 15, 3) := by decide +kernel
theorem dX10_heirOf_52 : decode cX10_heirOf 52 = .ok (.iload_n 1, 1) := by decide +kernel
theorem dX10_heirOf_53 : decode cX10_heirOf 53 = .ok (.iaload, 1) := by decide +kernel
theorem dX10_heirOf_54 : decode cX10_heirOf 54 = .ok (.istore_n 3, 1) := by decide +kernel
theorem dX10_heirOf_55 : decode cX10_heirOf 55 = .ok (.aload_n 0, 1) := by decide +kernel
theorem dX10_heirOf_56 : decode cX10_heirOf 56 = .ok (.dup, 1) := by decide +kernel
theorem dX10_heirOf_57 : decode cX10_heirOf 57 = .ok (.getfield 32, 3) := by decide +kernel
theorem dX10_heirOf_60 : decode cX10_heirOf 60 = .ok (.iconst 1, 1) := by decide +kernel
theorem dX10_heirOf_61 : decode cX10_heirOf 61 = .ok (.iadd, 1) := by decide +kernel
theorem dX10_heirOf_62 : decode cX10_heirOf 62 = .ok (.putfield 32, 3) := by decide +kernel
theorem dX10_heirOf_65 : decode cX10_heirOf 65 = .ok (.iconst 0, 1) := by decide +kernel
theorem dX10_heirOf_66 : decode cX10_heirOf 66 = .ok (.istore 4, 2) := by decide +kernel
theorem dX10_heirOf_68 : decode cX10_heirOf 68 = .ok (.iload 4, 2) := by decide +kernel
theorem dX10_heirOf_70 : decode cX10_heirOf 70 = .ok (.aload_n 0, 1) := by decide +kernel
theorem dX10_heirOf_71 : decode cX10_heirOf 71 = .ok (.getfield 35, 3) := by decide +kernel
theorem dX10_heirOf_74 : decode cX10_heirOf 74 = .ok (.if_icmp .ge 38, 3) := by decide +kernel
theorem dX10_heirOf_77 : decode cX10_heirOf 77 = .ok (.aload_n 0, 1) := by decide +kernel
theorem dX10_heirOf_78 : decode cX10_heirOf 78 = .ok (.getfield 9, 3) := by decide +kernel
theorem dX10_heirOf_81 : decode cX10_heirOf 81 = .ok (.iload_n 3, 1) := by decide +kernel
theorem dX10_heirOf_82 : decode cX10_heirOf 82 = .ok (.iaload, 1) := by decide +kernel
theorem dX10_heirOf_83 : decode cX10_heirOf 83 = .ok (.iconst (-1), 1) := by decide +kernel
theorem dX10_heirOf_84 : decode cX10_heirOf 84 = .ok (.if_icmp .eq 28, 3) := by decide +kernel
theorem dX10_heirOf_87 : decode cX10_heirOf 87 = .ok (.iload_n 3, 1) := by decide +kernel
theorem dX10_heirOf_88 : decode cX10_heirOf 88 = .ok (.istore_n 2, 1) := by decide +kernel
theorem dX10_heirOf_89 : decode cX10_heirOf 89 = .ok (.aload_n 0, 1) := by decide +kernel
theorem dX10_heirOf_90 : decode cX10_heirOf 90 = .ok (.getfield 9, 3) := by decide +kernel
theorem dX10_heirOf_93 : decode cX10_heirOf 93 = .ok (.iload_n 3, 1) := by decide +kernel
theorem dX10_heirOf_94 : decode cX10_heirOf 94 = .ok (.iaload, 1) := by decide +kernel
theorem dX10_heirOf_95 : decode cX10_heirOf 95 = .ok (.istore_n 3, 1) := by decide +kernel
theorem dX10_heirOf_96 : decode cX10_heirOf 96 = .ok (.aload_n 0, 1) := by decide +kernel
theorem dX10_heirOf_97 : decode cX10_heirOf 97 = .ok (.dup, 1) := by decide +kernel
theorem dX10_heirOf_98 : decode cX10_heirOf 98 = .ok (.getfield 32, 3) := by decide +kernel
theorem dX10_heirOf_101 : decode cX10_heirOf 101 = .ok (.iconst 1, 1) := by decide +kernel
theorem dX10_heirOf_102 : decode cX10_heirOf 102 = .ok (.iadd, 1) := by decide +kernel
theorem dX10_heirOf_103 : decode cX10_heirOf 103 = .ok (.putfield 32, 3) := by decide +kernel
theorem dX10_heirOf_106 : decode cX10_heirOf 106 = .ok (.iinc 4 1, 3) := by decide +kernel
theorem dX10_heirOf_109 : decode cX10_heirOf 109 = .ok (.goto (-41), 3) := by decide +kernel
theorem dX10_heirOf_112 : decode cX10_heirOf 112 = .ok (.iload_n 2, 1) := by decide +kernel
theorem dX10_heirOf_113 : decode cX10_heirOf 113 = .ok (.iload_n 1, 1) := by decide +kernel
theorem dX10_heirOf_114 : decode cX10_heirOf 114 = .ok (.if_icmp .eq 27, 3) := by decide +kernel
theorem dX10_heirOf_117 : decode cX10_heirOf 117 = .ok (.aload_n 0, 1) := by decide +kernel
theorem dX10_heirOf_118 : decode cX10_heirOf 118 = .ok (.getfield 9, 3) := by decide +kernel
theorem dX10_heirOf_121 : decode cX10_heirOf 121 = .ok (.iload_n 2, 1) := by decide +kernel
theorem dX10_heirOf_122 : decode cX10_heirOf 122 = .ok (.aload_n 0, 1) := by decide +kernel
theorem dX10_heirOf_123 : decode cX10_heirOf 123 = .ok (.getfield 15, 3) := by decide +kernel
theorem dX10_heirOf_126 : decode cX10_heirOf 126 = .ok (.iload_n 3, 1) := by decide +kernel
theorem dX10_heirOf_127 : decode cX10_heirOf 127 = .ok (.iaload, 1) := by decide +kernel
theorem dX10_heirOf_128 : decode cX10_heirOf 128 = .ok (.iastore, 1) := by decide +kernel
theorem dX10_heirOf_129 : decode cX10_heirOf 129 = .ok (.aload_n 0, 1) := by decide +kernel
theorem dX10_heirOf_130 : decode cX10_heirOf 130 = .ok (.getfield 15, 3) := by decide +kernel
theorem dX10_heirOf_133 : decode cX10_heirOf 133 = .ok (.iload_n 3, 1) := by decide +kernel
theorem dX10_heirOf_134 : decode cX10_heirOf 134 = .ok (.aload_n 0, 1) := by decide +kernel
theorem dX10_heirOf_135 : decode cX10_heirOf 135 = .ok (.getfield 15, 3) := by decide +kernel
theorem dX10_heirOf_138 : decode cX10_heirOf 138 = .ok (.iload_n 1, 1) := by decide +kernel
theorem dX10_heirOf_139 : decode cX10_heirOf 139 = .ok (.iaload, 1) := by decide +kernel
theorem dX10_heirOf_140 : decode cX10_heirOf 140 = .ok (.iastore, 1) := by decide +kernel
theorem dX10_heirOf_141 : decode cX10_heirOf 141 = .ok (.aload_n 0, 1) := by decide +kernel
theorem dX10_heirOf_142 : decode cX10_heirOf 142 = .ok (.getfield 9, 3) := by decide +kernel
theorem dX10_heirOf_145 : decode cX10_heirOf 145 = .ok (.iload_n 3, 1) := by decide +kernel
theorem dX10_heirOf_146 : decode cX10_heirOf 146 = .ok (.aload_n 0, 1) := by decide +kernel
theorem dX10_heirOf_147 : decode cX10_heirOf 147 = .ok (.getfield 9, 3) := by decide +kernel
theorem dX10_heirOf_150 : decode cX10_heirOf 150 = .ok (.iload_n 1, 1) := by decide +kernel
theorem dX10_heirOf_151 : decode cX10_heirOf 151 = .ok (.iaload, 1) := by decide +kernel
theorem dX10_heirOf_152 : decode cX10_heirOf 152 = .ok (.iastore, 1) := by decide +kernel
theorem dX10_heirOf_153 : decode cX10_heirOf 153 = .ok (.iload_n 3, 1) := by decide +kernel
theorem dX10_heirOf_154 : decode cX10_heirOf 154 = .ok (.ireturn, 1) := by decide +kernel
theorem dX10_howMany_0 : decode cX10_howMany 0 = .ok (.aload_n 0, 1) := by decide +kernel
theorem dX10_howMany_1 : decode cX10_howMany 1 = .ok (.getfield 35, 3) := by decide +kernel
theorem dX10_howMany_4 : decode cX10_howMany 4 = .ok (.ireturn, 1) := by decide +kernel
theorem dX10_nameIn_0 : decode cX10_nameIn 0 = .ok (.iload_n 1, 1) := by decide +kernel
theorem dX10_nameIn_1 : decode cX10_nameIn 1 = .ok (.istore_n 2, 1) := by decide +kernel
theorem dX10_nameIn_2 : decode cX10_nameIn 2 = .ok (.aload_n 0, 1) := by decide +kernel
theorem dX10_nameIn_3 : decode cX10_nameIn 3 = .ok (.getfield 21, 3) := by decide +kernel
theorem dX10_nameIn_6 : decode cX10_nameIn 6 = .ok (.istore_n 3, 1) := by decide +kernel
theorem dX10_nameIn_7 : decode cX10_nameIn 7 = .ok (.iconst 0, 1) := by decide +kernel
theorem dX10_nameIn_8 : decode cX10_nameIn 8 = .ok (.istore 4, 2) := by decide +kernel
theorem dX10_nameIn_10 : decode cX10_nameIn 10 = .ok (.iconst 0, 1) := by decide +kernel
theorem dX10_nameIn_11 : decode cX10_nameIn 11 = .ok (.istore 5, 2) := by decide +kernel
theorem dX10_nameIn_13 : decode cX10_nameIn 13 = .ok (.iload 5, 2) := by decide +kernel
theorem dX10_nameIn_15 : decode cX10_nameIn 15 = .ok (.iconst 2, 1) := by decide +kernel
theorem dX10_nameIn_16 : decode cX10_nameIn 16 = .ok (.aload_n 0, 1) := by decide +kernel
theorem dX10_nameIn_17 : decode cX10_nameIn 17 = .ok (.getfield 35, 3) := by decide +kernel
theorem dX10_nameIn_20 : decode cX10_nameIn 20 = .ok (.imul, 1) := by decide +kernel
theorem dX10_nameIn_21 : decode cX10_nameIn 21 = .ok (.if_icmp .ge 76, 3) := by decide +kernel
theorem dX10_nameIn_24 : decode cX10_nameIn 24 = .ok (.iload_n 3, 1) := by decide +kernel
theorem dX10_nameIn_25 : decode cX10_nameIn 25 = .ok (.iconst (-1), 1) := by decide +kernel
theorem dX10_nameIn_26 : decode cX10_nameIn 26 = .ok (.if_icmp .ne 8, 3) := by decide +kernel
theorem dX10_nameIn_29 : decode cX10_nameIn 29 = .ok (.iload 4, 2) := by decide +kernel
theorem dX10_nameIn_31 : decode cX10_nameIn 31 = .ok (.ifCond .le 66, 3) := by decide +kernel
theorem dX10_nameIn_34 : decode cX10_nameIn 34 = .ok (.iload_n 3, 1) := by decide +kernel
theorem dX10_nameIn_35 : decode cX10_nameIn 35 = .ok (.iconst (-1), 1) := by decide +kernel
theorem dX10_nameIn_36 : decode cX10_nameIn 36 = .ok (.if_icmp .eq 24, 3) := by decide +kernel
theorem dX10_nameIn_39 : decode cX10_nameIn 39 = .ok (.aload_n 0, 1) := by decide +kernel
theorem dX10_nameIn_40 : decode cX10_nameIn 40 = .ok (.getfield 18, 3) := by decide +kernel
theorem dX10_nameIn_43 : decode cX10_nameIn 43 = .ok (.iload 4, 2) := by decide +kernel
theorem dX10_nameIn_45 : decode cX10_nameIn 45 = .ok (.iload_n 3, 1) := by decide +kernel
theorem dX10_nameIn_46 : decode cX10_nameIn 46 = .ok (.iastore, 1) := by decide +kernel
theorem dX10_nameIn_47 : decode cX10_nameIn 47 = .ok (.iinc 4 1, 3) := by decide +kernel
theorem dX10_nameIn_50 : decode cX10_nameIn 50 = .ok (.aload_n 0, 1) := by decide +kernel
theorem dX10_nameIn_51 : decode cX10_nameIn 51 = .ok (.getfield 9, 3) := by decide +kernel
theorem dX10_nameIn_54 : decode cX10_nameIn 54 = .ok (.iload_n 3, 1) := by decide +kernel
theorem dX10_nameIn_55 : decode cX10_nameIn 55 = .ok (.iaload, 1) := by decide +kernel
theorem dX10_nameIn_56 : decode cX10_nameIn 56 = .ok (.istore_n 3, 1) := by decide +kernel
theorem dX10_nameIn_57 : decode cX10_nameIn 57 = .ok (.goto 34, 3) := by decide +kernel
theorem dX10_nameIn_60 : decode cX10_nameIn 60 = .ok (.iinc 4 (-1), 3) := by decide +kernel
theorem dX10_nameIn_63 : decode cX10_nameIn 63 = .ok (.iload_n 2, 1) := by decide +kernel
theorem dX10_nameIn_64 : decode cX10_nameIn 64 = .ok (.ifCond .ne 11, 3) := by decide +kernel
theorem dX10_nameIn_67 : decode cX10_nameIn 67 = .ok (.aload_n 0, 1) := by decide +kernel
theorem dX10_nameIn_68 : decode cX10_nameIn 68 = .ok (.getfield 18, 3) := by decide +kernel
theorem dX10_nameIn_71 : decode cX10_nameIn 71 = .ok (.iload 4, 2) := by decide +kernel
theorem dX10_nameIn_73 : decode cX10_nameIn 73 = .ok (.iaload, 1) := by decide +kernel
theorem dX10_nameIn_74 : decode cX10_nameIn 74 = .ok (.ireturn, 1) := by decide +kernel
theorem dX10_nameIn_75 : decode cX10_nameIn 75 = .ok (.iinc 2 (-1), 3) := by decide +kernel
theorem dX10_nameIn_78 : decode cX10_nameIn 78 = .ok (.aload_n 0, 1) := by decide +kernel
theorem dX10_nameIn_79 : decode cX10_nameIn 79 = .ok (.getfield 15, 3) := by decide +kernel
theorem dX10_nameIn_82 : decode cX10_nameIn 82 = .ok (.aload_n 0, 1) := by decide +kernel
theorem dX10_nameIn_83 : decode cX10_nameIn 83 = .ok (.getfield 18, 3) := by decide +kernel
theorem dX10_nameIn_86 : decode cX10_nameIn 86 = .ok (.iload 4, 2) := by decide +kernel
theorem dX10_nameIn_88 : decode cX10_nameIn 88 = .ok (.iaload, 1) := by decide +kernel
theorem dX10_nameIn_89 : decode cX10_nameIn 89 = .ok (.iaload, 1) := by decide +kernel
theorem dX10_nameIn_90 : decode cX10_nameIn 90 = .ok (.istore_n 3, 1) := by decide +kernel
theorem dX10_nameIn_91 : decode cX10_nameIn 91 = .ok (.iinc 5 1, 3) := by decide +kernel
theorem dX10_nameIn_94 : decode cX10_nameIn 94 = .ok (.goto (-81), 3) := by decide +kernel
theorem dX10_nameIn_97 : decode cX10_nameIn 97 = .ok (.iconst (-1), 1) := by decide +kernel
theorem dX10_nameIn_98 : decode cX10_nameIn 98 = .ok (.ireturn, 1) := by decide +kernel
theorem dX10_run_0 : decode cX10_run 0 = .ok (.aload_n 1, 1) := by decide +kernel
theorem dX10_run_1 : decode cX10_run 1 = .ok (.aload_n 0, 1) := by decide +kernel
theorem dX10_run_2 : decode cX10_run 2 = .ok (.getfield 50, 3) := by decide +kernel
theorem dX10_run_5 : decode cX10_run 5 = .ok (.invokevirtual 53, 3) := by decide +kernel
theorem dX10_run_8 : decode cX10_run 8 = .ok (.istore_n 2, 1) := by decide +kernel
theorem dX10_run_9 : decode cX10_run 9 = .ok (.aload_n 1, 1) := by decide +kernel
theorem dX10_run_10 : decode cX10_run 10 = .ok (.aload_n 0, 1) := by decide +kernel
theorem dX10_run_11 : decode cX10_run 11 = .ok (.getfield 50, 3) := by decide +kernel
theorem dX10_run_14 : decode cX10_run 14 = .ok (.invokevirtual 58, 3) := by decide +kernel
theorem dX10_run_17 : decode cX10_run 17 = .ok (.istore_n 3, 1) := by decide +kernel
theorem dX10_run_18 : decode cX10_run 18 = .ok (.iconst 0, 1) := by decide +kernel
theorem dX10_run_19 : decode cX10_run 19 = .ok (.istore 4, 2) := by decide +kernel
theorem dX10_run_21 : decode cX10_run 21 = .ok (.aload_n 0, 1) := by decide +kernel
theorem dX10_run_22 : decode cX10_run 22 = .ok (.getfield 21, 3) := by decide +kernel
theorem dX10_run_25 : decode cX10_run 25 = .ok (.istore 5, 2) := by decide +kernel
theorem dX10_run_27 : decode cX10_run 27 = .ok (.iconst 0, 1) := by decide +kernel
theorem dX10_run_28 : decode cX10_run 28 = .ok (.istore 6, 2) := by decide +kernel
theorem dX10_run_30 : decode cX10_run 30 = .ok (.iload 6, 2) := by decide +kernel
theorem dX10_run_32 : decode cX10_run 32 = .ok (.aload_n 0, 1) := by decide +kernel
theorem dX10_run_33 : decode cX10_run 33 = .ok (.getfield 35, 3) := by decide +kernel
theorem dX10_run_36 : decode cX10_run 36 = .ok (.if_icmp .ge 132, 3) := by decide +kernel
theorem dX10_run_39 : decode cX10_run 39 = .ok (.iload 5, 2) := by decide +kernel
theorem dX10_run_41 : decode cX10_run 41 = .ok (.iconst (-1), 1) := by decide +kernel
theorem dX10_run_42 : decode cX10_run 42 = .ok (.if_icmp .eq 126, 3) := by decide +kernel
theorem dX10_run_45 : decode cX10_run 45 = .ok (.aload_n 0, 1) := by decide +kernel
theorem dX10_run_46 : decode cX10_run 46 = .ok (.dup, 1) := by decide +kernel
theorem dX10_run_47 : decode cX10_run 47 = .ok (.getfield 32, 3) := by decide +kernel
theorem dX10_run_50 : decode cX10_run 50 = .ok (.iconst 1, 1) := by decide +kernel
theorem dX10_run_51 : decode cX10_run 51 = .ok (.iadd, 1) := by decide +kernel
theorem dX10_run_52 : decode cX10_run 52 = .ok (.putfield 32, 3) := by decide +kernel
theorem dX10_run_55 : decode cX10_run 55 = .ok (.aload_n 0, 1) := by decide +kernel
theorem dX10_run_56 : decode cX10_run 56 = .ok (.getfield 25, 3) := by decide +kernel
theorem dX10_run_59 : decode cX10_run 59 = .ok (.iload 5, 2) := by decide +kernel
theorem dX10_run_61 : decode cX10_run 61 = .ok (.iaload, 1) := by decide +kernel
theorem dX10_run_62 : decode cX10_run 62 = .ok (.istore 7, 2) := by decide +kernel
theorem dX10_run_64 : decode cX10_run 64 = .ok (.iload 7, 2) := by decide +kernel
theorem dX10_run_66 : decode cX10_run 66 = .ok (.iload_n 2, 1) := by decide +kernel
theorem dX10_run_67 : decode cX10_run 67 = .ok (.if_icmp .lt 19, 3) := by decide +kernel
theorem dX10_run_70 : decode cX10_run 70 = .ok (.iload 7, 2) := by decide +kernel
theorem dX10_run_72 : decode cX10_run 72 = .ok (.iload_n 3, 1) := by decide +kernel
theorem dX10_run_73 : decode cX10_run 73 = .ok (.if_icmp .gt 13, 3) := by decide +kernel
theorem dX10_run_76 : decode cX10_run 76 = .ok (.aload_n 1, 1) := by decide +kernel
theorem dX10_run_77 : decode cX10_run 77 = .ok (.aload_n 0, 1) := by decide +kernel
theorem dX10_run_78 : decode cX10_run 78 = .ok (.getfield 61, 3) := by decide +kernel
theorem dX10_run_81 : decode cX10_run 81 = .ok (.iload 5, 2) := by decide +kernel
theorem dX10_run_83 : decode cX10_run 83 = .ok (.invokevirtual 65, 3) := by decide +kernel
theorem dX10_run_86 : decode cX10_run 86 = .ok (.iload 7, 2) := by decide +kernel
theorem dX10_run_88 : decode cX10_run 88 = .ok (.iload_n 3, 1) := by decide +kernel
theorem dX10_run_89 : decode cX10_run 89 = .ok (.if_icmp .gt 31, 3) := by decide +kernel
theorem dX10_run_92 : decode cX10_run 92 = .ok (.aload_n 0, 1) := by decide +kernel
theorem dX10_run_93 : decode cX10_run 93 = .ok (.getfield 15, 3) := by decide +kernel
theorem dX10_run_96 : decode cX10_run 96 = .ok (.iload 5, 2) := by decide +kernel
theorem dX10_run_98 : decode cX10_run 98 = .ok (.iaload, 1) := by decide +kernel
theorem dX10_run_99 : decode cX10_run 99 = .ok (.iconst (-1), 1) := by decide +kernel
theorem dX10_run_100 : decode cX10_run 100 = .ok (.if_icmp .eq 20, 3) := by decide +kernel
theorem dX10_run_103 : decode cX10_run 103 = .ok (.aload_n 0, 1) := by decide +kernel
theorem dX10_run_104 : decode cX10_run 104 = .ok (.getfield 18, 3) := by decide +kernel
theorem dX10_run_107 : decode cX10_run 107 = .ok (.iload 4, 2) := by decide +kernel
theorem dX10_run_109 : decode cX10_run 109 = .ok (.aload_n 0, 1) := by decide +kernel
theorem dX10_run_110 : decode cX10_run 110 = .ok (.getfield 15, 3) := by decide +kernel
theorem dX10_run_113 : decode cX10_run 113 = .ok (.iload 5, 2) := by decide +kernel
theorem dX10_run_115 : decode cX10_run 115 = .ok (.iaload, 1) := by decide +kernel
theorem dX10_run_116 : decode cX10_run 116 = .ok (.iastore, 1) := by decide +kernel
theorem dX10_run_117 : decode cX10_run 117 = .ok (.iinc 4 1, 3) := by decide +kernel
theorem dX10_run_120 : decode cX10_run 120 = .ok (.iload 7, 2) := by decide +kernel
theorem dX10_run_122 : decode cX10_run 122 = .ok (.iload_n 2, 1) := by decide +kernel
theorem dX10_run_123 : decode cX10_run 123 = .ok (.if_icmp .lt 13, 3) := by decide +kernel
theorem dX10_run_126 : decode cX10_run 126 = .ok (.aload_n 0, 1) := by decide +kernel
theorem dX10_run_127 : decode cX10_run 127 = .ok (.getfield 9, 3) := by decide +kernel
theorem dX10_run_130 : decode cX10_run 130 = .ok (.iload 5, 2) := by decide +kernel
theorem dX10_run_132 : decode cX10_run 132 = .ok (.iaload, 1) := by decide +kernel
theorem dX10_run_133 : decode cX10_run 133 = .ok (.goto 4, 3) := by decide +kernel
theorem dX10_run_136 : decode cX10_run 136 = .ok (.iconst (-1), 1) := by decide +kernel
theorem dX10_run_137 : decode cX10_run 137 = .ok (.istore 5, 2) := by decide +kernel
theorem dX10_run_139 : decode cX10_run 139 = .ok (.iload 5, 2) := by decide +kernel
theorem dX10_run_141 : decode cX10_run 141 = .ok (.iconst (-1), 1) := by decide +kernel
theorem dX10_run_142 : decode cX10_run 142 = .ok (.if_icmp .ne 20, 3) := by decide +kernel
theorem dX10_run_145 : decode cX10_run 145 = .ok (.iload 4, 2) := by decide +kernel
theorem dX10_run_147 : decode cX10_run 147 = .ok (.ifCond .le 15, 3) := by decide +kernel
theorem dX10_run_150 : decode cX10_run 150 = .ok (.iinc 4 (-1), 3) := by decide +kernel
theorem dX10_run_153 : decode cX10_run 153 = .ok (.aload_n 0, 1) := by decide +kernel
theorem dX10_run_154 : decode cX10_run 154 = .ok (.getfield 18, 3) := by decide +kernel
theorem dX10_run_157 : decode cX10_run 157 = .ok (.iload 4, 2) := by decide +kernel
theorem dX10_run_159 : decode cX10_run 159 = .ok (.iaload, 1) := by decide +kernel
theorem dX10_run_160 : decode cX10_run 160 = .ok (.istore 5, 2) := by decide +kernel
theorem dX10_run_162 : decode cX10_run 162 = .ok (.iinc 6 1, 3) := by decide +kernel
theorem dX10_run_165 : decode cX10_run 165 = .ok (.goto (-135), 3) := by decide +kernel
theorem dX10_run_168 : decode cX10_run 168 = .ok (.aload_n 1, 1) := by decide +kernel
theorem dX10_run_169 : decode cX10_run 169 = .ok (.invokevirtual 69, 3) := by decide +kernel
theorem dX10_run_172 : decode cX10_run 172 = .ok (.ireturn, 1) := by decide +kernel
theorem dX10_priceFor_0 : decode cX10_priceFor 0 = .ok (.aload_n 1, 1) := by decide +kernel
theorem dX10_priceFor_1 : decode cX10_priceFor 1 = .ok (.aload_n 0, 1) := by decide +kernel
theorem dX10_priceFor_2 : decode cX10_priceFor 2 = .ok (.getfield 50, 3) := by decide +kernel
theorem dX10_priceFor_5 : decode cX10_priceFor 5 = .ok (.iload_n 2, 1) := by decide +kernel
theorem dX10_priceFor_6 : decode cX10_priceFor 6 = .ok (.invokestatic 73, 3) := by decide +kernel
theorem dX10_priceFor_9 : decode cX10_priceFor 9 = .ok (.ireturn, 1) := by decide +kernel
theorem dX10_priceOfPut_0 : decode cX10_priceOfPut 0 = .ok (.iconst 2, 1) := by decide +kernel
theorem dX10_priceOfPut_1 : decode cX10_priceOfPut 1 = .ok (.iload_n 1, 1) := by decide +kernel
theorem dX10_priceOfPut_2 : decode cX10_priceOfPut 2 = .ok (.invokestatic 77, 3) := by decide +kernel
theorem dX10_priceOfPut_5 : decode cX10_priceOfPut 5 = .ok (.imul, 1) := by decide +kernel
theorem dX10_priceOfPut_6 : decode cX10_priceOfPut 6 = .ok (.ireturn, 1) := by decide +kernel
theorem dX10_tells_0 : decode cX10_tells 0 = .ok (.aload_n 0, 1) := by decide +kernel
theorem dX10_tells_1 : decode cX10_tells 1 = .ok (.bipush 60, 2) := by decide +kernel
theorem dX10_tells_3 : decode cX10_tells 3 = .ok (.invokevirtual 80, 3) := by decide +kernel
theorem dX10_tells_6 : decode cX10_tells 6 = .ok (.aload_n 0, 1) := by decide +kernel
theorem dX10_tells_7 : decode cX10_tells 7 = .ok (.iload_n 1, 1) := by decide +kernel
theorem dX10_tells_8 : decode cX10_tells 8 = .ok (.invokespecial 84, 3) := by decide +kernel
theorem dX10_tells_11 : decode cX10_tells 11 = .ok (.iconst 5, 1) := by decide +kernel
theorem dX10_tells_12 : decode cX10_tells 12 = .ok (.ixor, 1) := by decide +kernel
theorem dX10_tells_13 : decode cX10_tells 13 = .ok (.ireturn, 1) := by decide +kernel
