theorem dX11_init_0 : decode cX11_init 0 = .ok (.aload_n 0, 1) := by decide +kernel
theorem dX11_init_1 : decode cX11_init 1 = .ok (.invokespecial 1, 3) := by decide +kernel
theorem dX11_init_4 : decode cX11_init 4 = .ok (.aload_n 0, 1) := by decide +kernel
theorem dX11_init_5 : decode cX11_init 5 = .ok (.new 7, 3) := by decide +kernel
theorem dX11_init_8 : decode cX11_init 8 = .ok (.dup, 1) := by decide +kernel
theorem dX11_init_9 : decode cX11_init 9 = .ok (.invokespecial 9, 3) := by decide +kernel
theorem dX11_init_12 : decode cX11_init 12 = .ok (.putfield 10, 3) := by decide +kernel
theorem dX11_init_15 : decode cX11_init 15 = .ok (.aload_n 0, 1) := by decide +kernel
theorem dX11_init_16 : decode cX11_init 16 = .ok (.new 16, 3) := by decide +kernel
theorem dX11_init_19 : decode cX11_init 19 = .ok (.dup, 1) := by decide +kernel
theorem dX11_init_20 : decode cX11_init 20 = .ok (.invokespecial 18, 3) := by decide +kernel
theorem dX11_init_23 : decode cX11_init 23 = .ok (.putfield 19, 3) := by decide +kernel
theorem dX11_init_26 : decode cX11_init 26 = .ok (.aload_n 0, 1) := by decide +kernel
theorem dX11_init_27 : decode cX11_init 27 = .ok (.bipush 60, 2) := by decide +kernel
theorem dX11_init_29 : decode cX11_init 29 = .ok (.newarray .int, 2) := by decide +kernel
theorem dX11_init_31 : decode cX11_init 31 = .ok (.putfield 23, 3) := by decide +kernel
theorem dX11_init_34 : decode cX11_init 34 = .ok (.aload_n 0, 1) := by decide +kernel
theorem dX11_init_35 : decode cX11_init 35 = .ok (.bipush 10, 2) := by decide +kernel
theorem dX11_init_37 : decode cX11_init 37 = .ok (.anewarray 27, 3) := by decide +kernel
theorem dX11_init_40 : decode cX11_init 40 = .ok (.putfield 29, 3) := by decide +kernel
theorem dX11_init_43 : decode cX11_init 43 = .ok (.aload_n 0, 1) := by decide +kernel
theorem dX11_init_44 : decode cX11_init 44 = .ok (.new 27, 3) := by decide +kernel
theorem dX11_init_47 : decode cX11_init 47 = .ok (.dup, 1) := by decide +kernel
theorem dX11_init_48 : decode cX11_init 48 = .ok (.invokespecial 33, 3) := by decide +kernel
theorem dX11_init_51 : decode cX11_init 51 = .ok (.putfield 34, 3) := by decide +kernel
theorem dX11_init_54 : decode cX11_init 54 = .ok (.aload_n 0, 1) := by decide +kernel
theorem dX11_init_55 : decode cX11_init 55 = .ok (.bipush 10, 2) := by decide +kernel
theorem dX11_init_57 : decode cX11_init 57 = .ok (.anewarray 38, 3) := by decide +kernel
theorem dX11_init_60 : decode cX11_init 60 = .ok (.putfield 40, 3) := by decide +kernel
theorem dX11_init_63 : decode cX11_init 63 = .ok (.aload_n 0, 1) := by decide +kernel
theorem dX11_init_64 : decode cX11_init 64 = .ok (.bipush 10, 2) := by decide +kernel
theorem dX11_init_66 : decode cX11_init 66 = .ok (.bipush 10, 2) := by decide +kernel
theorem dX11_init_68 : decode cX11_init 68 = .ok (.multianewarray 44 2, 4) := by decide +kernel
theorem dX11_init_72 : decode cX11_init 72 = .ok (.putfield 46, 3) := by decide +kernel
theorem dX11_init_75 : decode cX11_init 75 = .ok (.aload_n 0, 1) := by decide +kernel
theorem dX11_init_76 : decode cX11_init 76 = .ok (.bipush 10, 2) := by decide +kernel
theorem dX11_init_78 : decode cX11_init 78 = .ok (.newarray .int, 2) := by decide +kernel
theorem dX11_init_80 : decode cX11_init 80 = .ok (.putfield 49, 3) := by decide +kernel
theorem dX11_init_83 : decode cX11_init 83 = .ok (.aload_n 0, 1) := by decide +kernel
theorem dX11_init_84 : decode cX11_init 84 = .ok (.bipush 10, 2) := by decide +kernel
theorem dX11_init_86 : decode cX11_init 86 = .ok (.newarray .int, 2) := by decide +kernel
theorem dX11_init_88 : decode cX11_init 88 = .ok (.putfield 52, 3) := by decide +kernel
theorem dX11_init_91 : decode cX11_init 91 = .ok (.aload_n 0, 1) := by decide +kernel
theorem dX11_init_92 : decode cX11_init 92 = .ok (.bipush 6, 2) := by decide +kernel
theorem dX11_init_94 : decode cX11_init 94 = .ok (.anewarray 38, 3) := by decide +kernel
theorem dX11_init_97 : decode cX11_init 97 = .ok (.putfield 55, 3) := by decide +kernel
theorem dX11_init_100 : decode cX11_init 100 = .ok (.aload_n 0, 1) := by decide +kernel
theorem dX11_init_101 : decode cX11_init 101 = .ok (.bipush 6, 2) := by decide +kernel
theorem dX11_init_103 : decode cX11_init 103 = .ok (.newarray .int, 2) := by decide +kernel
theorem dX11_init_105 : decode cX11_init 105 = .ok (.putfield 58, 3) := by decide +kernel
theorem dX11_init_108 : decode cX11_init 108 = .ok (.aload_n 0, 1) := by decide +kernel
theorem dX11_init_109 : decode cX11_init 109 = .ok (.bipush 6, 2) := by decide +kernel
theorem dX11_init_111 : decode cX11_init 111 = .ok (.newarray .int, 2) := by decide +kernel
theorem dX11_init_113 : decode cX11_init 113 = .ok (.putfield 61, 3) := by decide +kernel
theorem dX11_init_116 : decode cX11_init 116 = .ok (.aload_n 0, 1) := by decide +kernel
theorem dX11_init_117 : decode cX11_init 117 = .ok (.bipush 6, 2) := by decide +kernel
theorem dX11_init_119 : decode cX11_init 119 = .ok (.bipush 60, 2) := by decide +kernel
theorem dX11_init_121 : decode cX11_init 121 = .ok (.multianewarray 64 2, 4) := by decide +kernel
theorem dX11_init_125 : decode cX11_init 125 = .ok (.putfield 66, 3) := by decide +kernel
theorem dX11_init_128 : decode cX11_init 128 = .ok (.aload_n 0, 1) := by decide +kernel
theorem dX11_init_129 : decode cX11_init 129 = .ok (.getfield 58, 3) := by decide +kernel
theorem dX11_init_132 : decode cX11_init 132 = .ok (.iconst (-1), 1) := by decide +kernel
theorem dX11_init_133 : decode cX11_init 133 = .ok (.invokestatic 69, 3) := by decide +kernel
theorem dX11_init_136 : decode cX11_init 136 = .ok (.return_, 1) := by decide +kernel
theorem dX11_put_0 : decode cX11_put 0 = .ok (.iload_n 1, 1) := by decide +kernel
theorem dX11_put_1 : decode cX11_put 1 = .ok (.invokestatic 75, 3) := by decide +kernel
theorem dX11_put_4 : decode cX11_put 4 = .ok (.ifCond .eq 25, 3) := by decide +kernel
theorem dX11_put_7 : decode cX11_put 7 = .ok (.iload_n 2, 1) := by decide +kernel
theorem dX11_put_8 : decode cX11_put 8 = .ok (.invokestatic 75, 3) := by decide +kernel
theorem dX11_put_11 : decode cX11_put 11 = .ok (.ifCond .eq 18, 3) := by decide +kernel
theorem dX11_put_14 : decode cX11_put 14 = .ok (.iload_n 3, 1) := by decide +kernel
theorem dX11_put_15 : decode cX11_put 15 = .ok (.invokestatic 75, 3) := by decide +kernel
theorem dX11_put_18 : decode cX11_put 18 = .ok (.ifCond .eq 11, 3) := by decide +kernel
theorem dX11_put_21 : decode cX11_put 21 = .ok (.iload 4, 2) := by decide +kernel
theorem dX11_put_23 : decode cX11_put 23 = .ok (.invokestatic 75, 3) := by decide +kernel
theorem dX11_put_26 : decode cX11_put 26 = .ok (.ifCond .ne 5, 3) := by decide +kernel
theorem dX11_put_29 : decode cX11_put 29 = .ok (.iconst (-1), 1) := by decide +kernel
theorem dX11_put_30 : decode cX11_put 30 = .ok (.ireturn, 1) := by decide +kernel
theorem dX11_put_31 : decode cX11_put 31 = .ok (.aload_n 0, 1) := by decide +kernel
theorem dX11_put_32 : decode cX11_put 32 = .ok (.getfield 10, 3) := by decide +kernel
theorem dX11_put_35 : decode cX11_put 35 = .ok (.iconst 0, 1) := by decide +kernel
theorem dX11_put_36 : decode cX11_put 36 = .ok (.iload_n 1, 1) := by decide +kernel
theorem dX11_put_37 : decode cX11_put 37 = .ok (.invokevirtual 79, 3) := by decide +kernel
theorem dX11_put_40 : decode cX11_put 40 = .ok (.ifCond .ne 40, 3) := by decide +kernel
theorem dX11_put_43 : decode cX11_put 43 = .ok (.aload_n 0, 1) := by decide +kernel
theorem dX11_put_44 : decode cX11_put 44 = .ok (.getfield 10, 3) := by decide +kernel
theorem dX11_put_47 : decode cX11_put 47 = .ok (.iconst 1, 1) := by decide +kernel
theorem dX11_put_48 : decode cX11_put 48 = .ok (.iload_n 2, 1) := by decide +kernel
theorem dX11_put_49 : decode cX11_put 49 = .ok (.invokevirtual 79, 3) := by decide +kernel
theorem dX11_put_52 : decode cX11_put 52 = .ok (.ifCond .ne 28, 3) := by decide +kernel
theorem dX11_put_55 : decode cX11_put 55 = .ok (.aload_n 0, 1) := by decide +kernel
theorem dX11_put_56 : decode cX11_put 56 = .ok (.getfield 10, 3) := by decide +kernel
theorem dX11_put_59 : decode cX11_put 59 = .ok (.iconst 2, 1) := by decide +kernel
theorem dX11_put_60 : decode cX11_put 60 = .ok (.iload_n 3, 1) := by decide +kernel
theorem dX11_put_61 : decode cX11_put 61 = .ok (.invokevirtual 79, 3) := by decide +kernel
theorem dX11_put_64 : decode cX11_put 64 = .ok (.ifCond .ne 16, 3) := by decide +kernel
theorem dX11_put_67 : decode cX11_put 67 = .ok (.aload_n 0, 1) := by decide +kernel
theorem dX11_put_68 : decode cX11_put 68 = .ok (.getfield 10, 3) := by decide +kernel
theorem dX11_put_71 : decode cX11_put 71 = .ok (.iconst 3, 1) := by decide +kernel
theorem dX11_put_72 : decode cX11_put 72 = .ok (.iload 4, 2) := by decide +kernel
theorem dX11_put_74 : decode cX11_put 74 = .ok (.invokevirtual 79, 3) := by decide +kernel
theorem dX11_put_77 : decode cX11_put 77 = .ok (.ifCond .eq 6, 3) := by decide +kernel
theorem dX11_put_80 : decode cX11_put 80 = .ok (.bipush (-5), 2) := by decide +kernel
theorem dX11_put_82 : decode cX11_put 82 = .ok (.ireturn, 1) := by decide +kernel
theorem dX11_put_83 : decode cX11_put 83 = .ok (.aload_n 0, 1) := by decide +kernel
theorem dX11_put_84 : decode cX11_put 84 = .ok (.getfield 10, 3) := by decide +kernel
theorem dX11_put_87 : decode cX11_put 87 = .ok (.getfield 83, 3) := by decide +kernel
theorem dX11_put_90 : decode cX11_put 90 = .ok (.bipush 80, 2) := by decide +kernel
theorem dX11_put_92 : decode cX11_put 92 = .ok (.if_icmp .lt 6, 3) := by decide +kernel
theorem dX11_put_95 : decode cX11_put 95 = .ok (.bipush (-3), 2) := by decide +kernel
theorem dX11_put_97 : decode cX11_put 97 = .ok (.ireturn, 1) := by decide +kernel
theorem dX11_put_98 : decode cX11_put 98 = .ok (.aload_n 0, 1) := by decide +kernel
theorem dX11_put_99 : decode cX11_put 99 = .ok (.getfield 10, 3) := by decide +kernel
theorem dX11_put_102 : decode cX11_put 102 = .ok (.iload_n 1, 1) := by decide +kernel
theorem dX11_put_103 : decode cX11_put 103 = .ok (.iload_n 2, 1) := by decide +kernel
theorem dX11_put_104 : decode cX11_put 104 = .ok (.iload_n 3, 1) := by decide +kernel
theorem dX11_put_105 : decode cX11_put 105 = .ok (.iload 4, 2) := by decide +kernel
theorem dX11_put_107 : decode cX11_put 107 = .ok (.invokevirtual 87, 3) := by decide +kernel
theorem dX11_put_110 : decode cX11_put 110 = .ok (.istore 5, 2) := by decide +kernel
theorem dX11_put_112 : decode cX11_put 112 = .ok (.iconst 0, 1) := by decide +kernel
theorem dX11_put_113 : decode cX11_put 113 = .ok (.istore 6, 2) := by decide +kernel
theorem dX11_put_115 : decode cX11_put 115 = .ok (.iload 6, 2) := by decide +kernel
theorem dX11_put_117 : decode cX11_put 117 = .ok (.aload_n 0, 1) := by decide +kernel
theorem dX11_put_118 : decode cX11_put 118 = .ok (.getfield 91, 3) := by decide +kernel
theorem dX11_put_121 : decode cX11_put 121 = .ok (.if_icmp .ge 21, 3) := by decide +kernel
theorem dX11_put_124 : decode cX11_put 124 = .ok (.aload_n 0, 1) := by decide +kernel
theorem dX11_put_125 : decode cX11_put 125 = .ok (.getfield 40, 3) := by decide +kernel
theorem dX11_put_128 : decode cX11_put 128 = .ok (.iload 6, 2) := by decide +kernel
theorem dX11_put_130 : decode cX11_put 130 = .ok (.aaload, 1) := by decide +kernel
theorem dX11_put_131 : decode cX11_put 131 = .ok (.iload 5, 2) := by decide +kernel
theorem dX11_put_133 : decode cX11_put 133 = .ok (.invokevirtual 94, 3) := by decide +kernel
theorem dX11_put_136 : decode cX11_put 136 = .ok (.iinc 6 1, 3) := by decide +kernel
theorem dX11_put_139 : decode cX11_put 139 = .ok (.goto (-24), 3) := by decide +kernel
theorem dX11_put_142 : decode cX11_put 142 = .ok (.iload 5, 2) := by decide +kernel
theorem dX11_put_144 : decode cX11_put 144 = .ok (.ireturn, 1) := by decide +kernel
theorem dX11_take_0 : decode cX11_take 0 = .ok (.aload_n 0, 1) := by decide +kernel
theorem dX11_take_1 : decode cX11_take 1 = .ok (.getfield 10, 3) := by decide +kernel
theorem dX11_take_4 : decode cX11_take 4 = .ok (.iload_n 1, 1) := by decide +kernel
theorem dX11_take_5 : decode cX11_take 5 = .ok (.invokevirtual 98, 3) := by decide +kernel
theorem dX11_take_8 : decode cX11_take 8 = .ok (.ifCond .ne 5, 3) := by decide +kernel
theorem dX11_take_11 : decode cX11_take 11 = .ok (.iconst (-1), 1) := by decide +kernel
theorem dX11_take_12 : decode cX11_take 12 = .ok (.ireturn, 1) := by decide +kernel
theorem dX11_take_13 : decode cX11_take 13 = .ok (.aload_n 0, 1) := by decide +kernel
theorem dX11_take_14 : decode cX11_take 14 = .ok (.getfield 10, 3) := by decide +kernel
theorem dX11_take_17 : decode cX11_take 17 = .ok (.iload_n 1, 1) := by decide +kernel
theorem dX11_take_18 : decode cX11_take 18 = .ok (.invokevirtual 101, 3) := by decide +kernel
theorem dX11_take_21 : decode cX11_take 21 = .ok (.ifCond .ne 6, 3) := by decide +kernel
theorem dX11_take_24 : decode cX11_take 24 = .ok (.bipush (-2), 2) := by decide +kernel
theorem dX11_take_26 : decode cX11_take 26 = .ok (.ireturn, 1) := by decide +kernel
theorem dX11_take_27 : decode cX11_take 27 = .ok (.aload_n 0, 1) := by decide +kernel
theorem dX11_take_28 : decode cX11_take 28 = .ok (.getfield 10, 3) := by decide +kernel
theorem dX11_take_31 : decode cX11_take 31 = .ok (.iload_n 1, 1) := by decide +kernel
theorem dX11_take_32 : decode cX11_take 32 = .ok (.invokevirtual 104, 3) := by decide +kernel
theorem dX11_take_35 : decode cX11_take 35 = .ok (.iconst 0, 1) := by decide +kernel
theorem dX11_take_36 : decode cX11_take 36 = .ok (.istore_n 2, 1) := by decide +kernel
theorem dX11_take_37 : decode cX11_take 37 = .ok (.iload_n 2, 1) := by decide +kernel
theorem dX11_take_38 : decode cX11_take 38 = .ok (.aload_n 0, 1) := by decide +kernel
theorem dX11_take_39 : decode cX11_take 39 = .ok (.getfield 91, 3) := by decide +kernel
theorem dX11_take_42 : decode cX11_take 42 = .ok (.if_icmp .ge 19, 3) := by decide +kernel
theorem dX11_take_45 : decode cX11_take 45 = .ok (.aload_n 0, 1) := by decide +kernel
theorem dX11_take_46 : decode cX11_take 46 = .ok (.getfield 40, 3) := by decide +kernel
theorem dX11_take_49 : decode cX11_take 49 = .ok (.iload_n 2, 1) := by decide +kernel
theorem dX11_take_50 : decode cX11_take 50 = .ok (.aaload, 1) := by decide +kernel
theorem dX11_take_51 : decode cX11_take 51 = .ok (.iload_n 1, 1) := by decide +kernel
theorem dX11_take_52 : decode cX11_take 52 = .ok (.invokevirtual 107, 3) := by decide +kernel
theorem dX11_take_55 : decode cX11_take 55 = .ok (.iinc 2 1, 3) := by decide +kernel
theorem dX11_take_58 : decode cX11_take 58 = .ok (.goto (-21), 3) := by decide +kernel
theorem dX11_take_61 : decode cX11_take 61 = .ok (.iconst 1, 1) := by decide +kernel
theorem dX11_take_62 : decode cX11_take 62 = .ok (.ireturn, 1) := by decide +kernel
theorem dX11_of_0 : decode cX11_of 0 = .ok (.aload_n 0, 1) := by decide +kernel
theorem dX11_of_1 : decode cX11_of 1 = .ok (.getfield 10, 3) := by decide +kernel
theorem dX11_of_4 : decode cX11_of 4 = .ok (.iload_n 1, 1) := by decide +kernel
theorem dX11_of_5 : decode cX11_of 5 = .ok (.invokevirtual 98, 3) := by decide +kernel
theorem dX11_of_8 : decode cX11_of 8 = .ok (.ifCond .eq 12, 3) := by decide +kernel
theorem dX11_of_11 : decode cX11_of 11 = .ok (.iload_n 2, 1) := by decide +kernel
theorem dX11_of_12 : decode cX11_of 12 = .ok (.iconst 0, 1) := by decide +kernel
theorem dX11_of_13 : decode cX11_of 13 = .ok (.iconst 4, 1) := by decide +kernel
theorem dX11_of_14 : decode cX11_of 14 = .ok (.invokestatic 110, 3) := by decide +kernel
theorem dX11_of_17 : decode cX11_of 17 = .ok (.ifCond .ne 5, 3) := by decide +kernel
theorem dX11_of_20 : decode cX11_of 20 = .ok (.iconst (-1), 1) := by decide +kernel
theorem dX11_of_21 : decode cX11_of 21 = .ok (.ireturn, 1) := by decide +kernel
theorem dX11_of_22 : decode cX11_of 22 = .ok (.iload_n 2, 1) := by decide +kernel
theorem dX11_of_23 : decode cX11_of 23 = .ok (.iconst 4, 1) := by decide +kernel
theorem dX11_of_24 : decode cX11_of 24 = .ok (.if_icmp .ne 20, 3) := by decide +kernel
theorem dX11_of_27 : decode cX11_of 27 = .ok (.aload_n 0, 1) := by decide +kernel
theorem dX11_of_28 : decode cX11_of 28 = .ok (.getfield 10, 3) := by decide +kernel
theorem dX11_of_31 : decode cX11_of 31 = .ok (.iload_n 1, 1) := by decide +kernel
theorem dX11_of_32 : decode cX11_of 32 = .ok (.invokevirtual 101, 3) := by decide +kernel
theorem dX11_of_35 : decode cX11_of 35 = .ok (.ifCond .eq 7, 3) := by decide +kernel
theorem dX11_of_38 : decode cX11_of 38 = .ok (.iconst 1, 1) := by decide +kernel
theorem dX11_of_39 : decode cX11_of 39 = .ok (.goto 4, 3) := by decide +kernel
theorem dX11_of_42 : decode cX11_of 42 = .ok (.iconst 0, 1) := by decide +kernel
theorem dX11_of_43 : decode cX11_of 43 = .ok (.ireturn, 1) := by decide +kernel
theorem dX11_of_44 : decode cX11_of 44 = .ok (.aload_n 0, 1) := by decide +kernel
theorem dX11_of_45 : decode cX11_of 45 = .ok (.getfield 10, 3) := by decide +kernel
theorem dX11_of_48 : decode cX11_of 48 = .ok (.iload_n 1, 1) := by decide +kernel
theorem dX11_of_49 : decode cX11_of 49 = .ok (.iload_n 2, 1) := by decide +kernel
theorem dX11_of_50 : decode cX11_of 50 = .ok (.invokevirtual 114, 3) := by decide +kernel
theorem dX11_of_53 : decode cX11_of 53 = .ok (.ireturn, 1) := by decide +kernel
theorem dX11_unlike_0 : decode cX11_unlike 0 = .ok (.iload_n 1, 1) := by decide +kernel
theorem dX11_unlike_1 : decode cX11_unlike 1 = .ok (.invokestatic 118, 3) := by decide +kernel
theorem dX11_unlike_4 : decode cX11_unlike 4 = .ok (.ifCond .eq 12, 3) := by decide +kernel
theorem dX11_unlike_7 : decode cX11_unlike 7 = .ok (.iload_n 2, 1) := by decide +kernel
theorem dX11_unlike_8 : decode cX11_unlike 8 = .ok (.iconst 0, 1) := by decide +kernel
theorem dX11_unlike_9 : decode cX11_unlike 9 = .ok (.iconst 1, 1) := by decide +kernel
theorem dX11_unlike_10 : decode cX11_unlike 10 = .ok (.invokestatic 110, 3) := by decide +kernel
theorem dX11_unlike_13 : decode cX11_unlike 13 = .ok (.ifCond .ne 5, 3) := by decide +kernel
theorem dX11_unlike_16 : decode cX11_unlike 16 = .ok (.iconst (-1), 1) := by decide +kernel
theorem dX11_unlike_17 : decode cX11_unlike 17 = .ok (.ireturn, 1) := by decide +kernel
theorem dX11_unlike_18 : decode cX11_unlike 18 = .ok (.iload_n 2, 1) := by decide +kernel
theorem dX11_unlike_19 : decode cX11_unlike 19 = .ok (.iconst 1, 1) := by decide +kernel
theorem dX11_unlike_20 : decode cX11_unlike 20 = .ok (.if_icmp .ne 17, 3) := by decide +kernel
theorem dX11_unlike_23 : decode cX11_unlike 23 = .ok (.aload_n 0, 1) := by decide +kernel
theorem dX11_unlike_24 : decode cX11_unlike 24 = .ok (.getfield 10, 3) := by decide +kernel
theorem dX11_unlike_27 : decode cX11_unlike 27 = .ok (.iload_n 1, 1) := by decide +kernel
theorem dX11_unlike_28 : decode cX11_unlike 28 = .ok (.invokevirtual 121, 3) := by decide +kernel
theorem dX11_unlike_31 : decode cX11_unlike 31 = .ok (.ifCond .eq 6, 3) := by decide +kernel
theorem dX11_unlike_34 : decode cX11_unlike 34 = .ok (.bipush (-5), 2) := by decide +kernel
theorem dX11_unlike_36 : decode cX11_unlike 36 = .ok (.ireturn, 1) := by decide +kernel
theorem dX11_unlike_37 : decode cX11_unlike 37 = .ok (.aload_n 0, 1) := by decide +kernel
theorem dX11_unlike_38 : decode cX11_unlike 38 = .ok (.getfield 10, 3) := by decide +kernel
theorem dX11_unlike_41 : decode cX11_unlike 41 = .ok (.getfield 124, 3) := by decide +kernel
theorem dX11_unlike_44 : decode cX11_unlike 44 = .ok (.iload_n 1, 1) := by decide +kernel
theorem dX11_unlike_45 : decode cX11_unlike 45 = .ok (.iaload, 1) := by decide +kernel
theorem dX11_unlike_46 : decode cX11_unlike 46 = .ok (.istore_n 3, 1) := by decide +kernel
theorem dX11_unlike_47 : decode cX11_unlike 47 = .ok (.aload_n 0, 1) := by decide +kernel
theorem dX11_unlike_48 : decode cX11_unlike 48 = .ok (.getfield 10, 3) := by decide +kernel
theorem dX11_unlike_51 : decode cX11_unlike 51 = .ok (.getfield 124, 3) := by decide +kernel
theorem dX11_unlike_54 : decode cX11_unlike 54 = .ok (.iload_n 1, 1) := by decide +kernel
theorem dX11_unlike_55 : decode cX11_unlike 55 = .ok (.iload_n 2, 1) := by decide +kernel
theorem dX11_unlike_56 : decode cX11_unlike 56 = .ok (.iastore, 1) := by decide +kernel
theorem dX11_unlike_57 : decode cX11_unlike 57 = .ok (.iload_n 3, 1) := by decide +kernel
theorem dX11_unlike_58 : decode cX11_unlike 58 = .ok (.ireturn, 1) := by decide +kernel
theorem dX11_most_0 : decode cX11_most 0 = .ok (.iload_n 1, 1) := by decide +kernel
theorem dX11_most_1 : decode cX11_most 1 = .ok (.invokestatic 118, 3) := by decide +kernel
theorem dX11_most_4 : decode cX11_most 4 = .ok (.ifCond .eq 14, 3) := by decide +kernel
theorem dX11_most_7 : decode cX11_most 7 = .ok (.iload_n 2, 1) := by decide +kernel
theorem dX11_most_8 : decode cX11_most 8 = .ok (.iconst (-1), 1) := by decide +kernel
theorem dX11_most_9 : decode cX11_most 9 = .ok (.sipush 9999, 3) := by decide +kernel
theorem dX11_most_12 : decode cX11_most 12 = .ok (.invokestatic 110, 3) := by decide +kernel
theorem dX11_most_15 : decode cX11_most 15 = .ok (.ifCond .ne 6, 3) := by decide +kernel
theorem dX11_most_18 : decode cX11_most 18 = .ok (.ldc 127, 2) := by decide +kernel
theorem dX11_most_20 : decode cX11_most 20 = .ok (.ireturn, 1) := by decide +kernel
theorem dX11_most_21 : decode cX11_most 21 = .ok (.iload_n 2, 1) := by decide +kernel
theorem dX11_most_22 : decode cX11_most 22 = .ok (.iconst (-1), 1) := by decide +kernel
theorem dX11_most_23 : decode cX11_most 23 = .ok (.if_icmp .eq 18, 3) := by decide +kernel
theorem dX11_most_26 : decode cX11_most 26 = .ok (.aload_n 0, 1) := by decide +kernel
theorem dX11_most_27 : decode cX11_most 27 = .ok (.getfield 10, 3) := by decide +kernel
theorem dX11_most_30 : decode cX11_most 30 = .ok (.iload_n 1, 1) := by decide +kernel
theorem dX11_most_31 : decode cX11_most 31 = .ok (.invokevirtual 128, 3) := by decide +kernel
theorem dX11_most_34 : decode cX11_most 34 = .ok (.iload_n 2, 1) := by decide +kernel
theorem dX11_most_35 : decode cX11_most 35 = .ok (.if_icmp .le 6, 3) := by decide +kernel
theorem dX11_most_38 : decode cX11_most 38 = .ok (.bipush (-2), 2) := by decide +kernel
theorem dX11_most_40 : decode cX11_most 40 = .ok (.ireturn, 1) := by decide +kernel
theorem dX11_most_41 : decode cX11_most 41 = .ok (.aload_n 0, 1) := by decide +kernel
theorem dX11_most_42 : decode cX11_most 42 = .ok (.getfield 10, 3) := by decide +kernel
theorem dX11_most_45 : decode cX11_most 45 = .ok (.getfield 132, 3) := by decide +kernel
theorem dX11_most_48 : decode cX11_most 48 = .ok (.iload_n 1, 1) := by decide +kernel
theorem dX11_most_49 : decode cX11_most 49 = .ok (.iaload, 1) := by decide +kernel
theorem dX11_most_50 : decode cX11_most 50 = .ok (.istore_n 3, 1) := by decide +kernel
theorem dX11_most_51 : decode cX11_most 51 = .ok (.aload_n 0, 1) := by decide +kernel
theorem dX11_most_52 : decode cX11_most 52 = .ok (.getfield 10, 3) := by decide +kernel
theorem dX11_most_55 : decode cX11_most 55 = .ok (.getfield 132, 3) := by decide +kernel
theorem dX11_most_58 : decode cX11_most 58 = .ok (.iload_n 1, 1) := by decide +kernel
theorem dX11_most_59 : decode cX11_most 59 = .ok (.iload_n 2, 1) := by decide +kernel
theorem dX11_most_60 : decode cX11_most 60 = .ok (.iastore, 1) := by decide +kernel
theorem dX11_most_61 : decode cX11_most 61 = .ok (.iload_n 3, 1) := by decide +kernel
theorem dX11_most_62 : decode cX11_most 62 = .ok (.ireturn, 1) := by decide +kernel
theorem dX11_feed_0 : decode cX11_feed 0 = .ok (.iload_n 1, 1) := by decide +kernel
theorem dX11_feed_1 : decode cX11_feed 1 = .ok (.iconst 1, 1) := by decide +kernel
theorem dX11_feed_2 : decode cX11_feed 2 = .ok (.iconst 4, 1) := by decide +kernel
theorem dX11_feed_3 : decode cX11_feed 3 = .ok (.invokestatic 110, 3) := by decide +kernel
theorem dX11_feed_6 : decode cX11_feed 6 = .ok (.ifCond .ne 5, 3) := by decide +kernel
theorem dX11_feed_9 : decode cX11_feed 9 = .ok (.iconst (-1), 1) := by decide +kernel
theorem dX11_feed_10 : decode cX11_feed 10 = .ok (.ireturn, 1) := by decide +kernel
theorem dX11_feed_11 : decode cX11_feed 11 = .ok (.aload_n 0, 1) := by decide +kernel
theorem dX11_feed_12 : decode cX11_feed 12 = .ok (.getfield 135, 3) := by decide +kernel
theorem dX11_feed_15 : decode cX11_feed 15 = .ok (.iload_n 1, 1) := by decide +kernel
theorem dX11_feed_16 : decode cX11_feed 16 = .ok (.iadd, 1) := by decide +kernel
theorem dX11_feed_17 : decode cX11_feed 17 = .ok (.bipush 60, 2) := by decide +kernel
theorem dX11_feed_19 : decode cX11_feed 19 = .ok (.if_icmp .le 6, 3) := by decide +kernel
theorem dX11_feed_22 : decode cX11_feed 22 = .ok (.bipush (-3), 2) := by decide +kernel
theorem dX11_feed_24 : decode cX11_feed 24 = .ok (.ireturn, 1) := by decide +kernel
theorem dX11_feed_25 : decode cX11_feed 25 = .ok (.iconst 0, 1) := by decide +kernel
theorem dX11_feed_26 : decode cX11_feed 26 = .ok (.istore_n 3, 1) := by decide +kernel
theorem dX11_feed_27 : decode cX11_feed 27 = .ok (.iload_n 3, 1) := by decide +kernel
theorem dX11_feed_28 : decode cX11_feed 28 = .ok (.iload_n 1, 1) := by decide +kernel
theorem dX11_feed_29 : decode cX11_feed 29 = .ok (.if_icmp .ge 38, 3) := by decide +kernel
theorem dX11_feed_32 : decode cX11_feed 32 = .ok (.aload_n 0, 1) := by decide +kernel
theorem dX11_feed_33 : decode cX11_feed 33 = .ok (.getfield 23, 3) := by decide +kernel
theorem dX11_feed_36 : decode cX11_feed 36 = .ok (.aload_n 0, 1) := by decide +kernel
theorem dX11_feed_37 : decode cX11_feed 37 = .ok (.getfield 135, 3) := by decide +kernel
theorem dX11_feed_40 : decode cX11_feed 40 = .ok (.iload_n 2, 1) := by decide +kernel
theorem dX11_feed_41 : decode cX11_feed 41 = .ok (.bipush 8, 2) := by decide +kernel
theorem dX11_feed_43 : decode cX11_feed 43 = .ok (.iload_n 3, 1) := by decide +kernel
theorem dX11_feed_44 : decode cX11_feed 44 = .ok (.imul, 1) := by decide +kernel
theorem dX11_feed_45 : decode cX11_feed 45 = .ok (.iushr, 1) := by decide +kernel
theorem dX11_feed_46 : decode cX11_feed 46 = .ok (.sipush 255, 3) := by decide +kernel
theorem dX11_feed_49 : decode cX11_feed 49 = .ok (.iand, 1) := by decide +kernel
theorem dX11_feed_50 : decode cX11_feed 50 = .ok (.iastore, 1) := by decide +kernel
theorem dX11_feed_51 : decode cX11_feed 51 = .ok (.aload_n 0, 1) := by decide +kernel
theorem dX11_feed_52 : decode cX11_feed 52 = .ok (.dup, 1) := by decide +kernel
theorem dX11_feed_53 : decode cX11_feed 53 = .ok (.getfield 135, 3) := by decide +kernel
theorem dX11_feed_56 : decode cX11_feed 56 = .ok (.iconst 1, 1) := by decide +kernel
theorem dX11_feed_57 : decode cX11_feed 57 = .ok (.iadd, 1) := by decide +kernel
theorem dX11_feed_58 : decode cX11_feed 58 = .ok (.putfield 135, 3) := by decide +kernel
theorem dX11_feed_61 : decode cX11_feed 61 = .ok (.iinc 3 1, 3) := by decide +kernel
theorem dX11_feed_64 : decode cX11_feed 64 = .ok (.goto (-37), 3) := by decide +kernel
theorem dX11_feed_67 : decode cX11_feed 67 = .ok (.aload_n 0, 1) := by decide +kernel
theorem dX11_feed_68 : decode cX11_feed 68 = .ok (.getfield 135, 3) := by decide +kernel
theorem dX11_feed_71 : decode cX11_feed 71 = .ok (.ireturn, 1) := by decide +kernel
theorem dX11_ask_0 : decode cX11_ask 0 = .ok (.aload_n 0, 1) := by decide +kernel
theorem dX11_ask_1 : decode cX11_ask 1 = .ok (.getfield 138, 3) := by decide +kernel
theorem dX11_ask_4 : decode cX11_ask 4 = .ok (.bipush 10, 2) := by decide +kernel
theorem dX11_ask_6 : decode cX11_ask 6 = .ok (.if_icmp .lt 6, 3) := by decide +kernel
theorem dX11_ask_9 : decode cX11_ask 9 = .ok (.bipush (-3), 2) := by decide +kernel
theorem dX11_ask_11 : decode cX11_ask 11 = .ok (.ireturn, 1) := by decide +kernel
theorem dX11_ask_12 : decode cX11_ask 12 = .ok (.aload_n 0, 1) := by decide +kernel
theorem dX11_ask_13 : decode cX11_ask 13 = .ok (.getfield 34, 3) := by decide +kernel
theorem dX11_ask_16 : decode cX11_ask 16 = .ok (.aload_n 0, 1) := by decide +kernel
theorem dX11_ask_17 : decode cX11_ask 17 = .ok (.getfield 23, 3) := by decide +kernel
theorem dX11_ask_20 : decode cX11_ask 20 = .ok (.aload_n 0, 1) := by decide +kernel
theorem dX11_ask_21 : decode cX11_ask 21 = .ok (.getfield 135, 3) := by decide +kernel
theorem dX11_ask_24 : decode cX11_ask 24 = .ok (.invokevirtual 141, 3) := by decide +kernel
theorem dX11_ask_27 : decode cX11_ask 27 = .ok (.istore_n 1, 1) := by decide +kernel
theorem dX11_ask_28 : decode cX11_ask 28 = .ok (.aload_n 0, 1) := by decide +kernel
theorem dX11_ask_29 : decode cX11_ask 29 = .ok (.iconst 0, 1) := by decide +kernel
theorem dX11_ask_30 : decode cX11_ask 30 = .ok (.putfield 135, 3) := by decide +kernel
theorem dX11_ask_33 : decode cX11_ask 33 = .ok (.iload_n 1, 1) := by decide +kernel
theorem dX11_ask_34 : decode cX11_ask 34 = .ok (.iconst (-1), 1) := by decide +kernel
theorem dX11_ask_35 : decode cX11_ask 35 = .ok (.if_icmp .eq 8, 3) := by decide +kernel
theorem dX11_ask_38 : decode cX11_ask 38 = .ok (.bipush (-100), 2) := by decide +kernel
theorem dX11_ask_40 : decode cX11_ask 40 = .ok (.iload_n 1, 1) := by decide +kernel
theorem dX11_ask_41 : decode cX11_ask 41 = .ok (.isub, 1) := by decide +kernel
theorem dX11_ask_42 : decode cX11_ask 42 = .ok (.ireturn, 1) := by decide +kernel
theorem dX11_ask_43 : decode cX11_ask 43 = .ok (.aload_n 0, 1) := by decide +kernel
theorem dX11_ask_44 : decode cX11_ask 44 = .ok (.getfield 29, 3) := by decide +kernel
theorem dX11_ask_47 : decode cX11_ask 47 = .ok (.aload_n 0, 1) := by decide +kernel
theorem dX11_ask_48 : decode cX11_ask 48 = .ok (.getfield 138, 3) := by decide +kernel
theorem dX11_ask_51 : decode cX11_ask 51 = .ok (.aload_n 0, 1) := by decide +kernel
theorem dX11_ask_52 : decode cX11_ask 52 = .ok (.getfield 34, 3) := by decide +kernel
theorem dX11_ask_55 : decode cX11_ask 55 = .ok (.aastore, 1) := by decide +kernel
theorem dX11_ask_56 : decode cX11_ask 56 = .ok (.aload_n 0, 1) := by decide +kernel
theorem dX11_ask_57 : decode cX11_ask 57 = .ok (.new 27, 3) := by decide +kernel
theorem dX11_ask_60 : decode cX11_ask 60 = .ok (.dup, 1) := by decide +kernel
theorem dX11_ask_61 : decode cX11_ask 61 = .ok (.invokespecial 33, 3) := by decide +kernel
theorem dX11_ask_64 : decode cX11_ask 64 = .ok (.putfield 34, 3) := by decide +kernel
theorem dX11_ask_67 : decode cX11_ask 67 = .ok (.aload_n 0, 1) := by decide +kernel
theorem dX11_ask_68 : decode cX11_ask 68 = .ok (.dup, 1) := by decide +kernel
theorem dX11_ask_69 : decode cX11_ask 69 = .ok (.getfield 138, 3) := by decide +kernel
theorem dX11_ask_72 : decode cX11_ask 72 = .ok (.iconst 1, 1) := by decide +kernel
theorem dX11_ask_73 : decode cX11_ask 73 = .ok (.iadd, 1) := by decide +kernel
theorem dX11_ask_74 : decode cX11_ask 74 = .ok (.putfield 138, 3) := by decide +kernel
theorem dX11_ask_77 : decode cX11_ask 77 = .ok (.aload_n 0, 1) := by decide +kernel
theorem dX11_ask_78 : decode cX11_ask 78 = .ok (.getfield 138, 3) := by decide +kernel
theorem dX11_ask_81 : decode cX11_ask 81 = .ok (.iconst 1, 1) := by decide +kernel
theorem dX11_ask_82 : decode cX11_ask 82 = .ok (.isub, 1) := by decide +kernel
theorem dX11_ask_83 : decode cX11_ask 83 = .ok (.ireturn, 1) := by decide +kernel
theorem dX11_often_0 : decode cX11_often 0 = .ok (.aload_n 0, 1) := by decide +kernel
theorem dX11_often_1 : decode cX11_often 1 = .ok (.iload_n 1, 1) := by decide +kernel
theorem dX11_often_2 : decode cX11_often 2 = .ok (.invokevirtual 145, 3) := by decide +kernel
theorem dX11_often_5 : decode cX11_often 5 = .ok (.astore_n 3, 1) := by decide +kernel
theorem dX11_often_6 : decode cX11_often 6 = .ok (.aload_n 3, 1) := by decide +kernel
theorem dX11_often_7 : decode cX11_often 7 = .ok (.ifnull 13, 3) := by decide +kernel
theorem dX11_often_10 : decode cX11_often 10 = .ok (.iload_n 2, 1) := by decide +kernel
theorem dX11_often_11 : decode cX11_often 11 = .ok (.iconst 0, 1) := by decide +kernel
theorem dX11_often_12 : decode cX11_often 12 = .ok (.bipush 99, 2) := by decide +kernel
theorem dX11_often_14 : decode cX11_often 14 = .ok (.invokestatic 110, 3) := by decide +kernel
theorem dX11_often_17 : decode cX11_often 17 = .ok (.ifCond .ne 5, 3) := by decide +kernel
theorem dX11_often_20 : decode cX11_often 20 = .ok (.iconst (-1), 1) := by decide +kernel
theorem dX11_often_21 : decode cX11_often 21 = .ok (.ireturn, 1) := by decide +kernel
theorem dX11_often_22 : decode cX11_often 22 = .ok (.aload_n 3, 1) := by decide +kernel
theorem dX11_often_23 : decode cX11_often 23 = .ok (.getfield 149, 3) := by decide +kernel
theorem dX11_often_26 : decode cX11_often 26 = .ok (.istore 4, 2) := by decide +kernel
theorem dX11_often_28 : decode cX11_often 28 = .ok (.aload_n 3, 1) := by decide +kernel
theorem dX11_often_29 : decode cX11_often 29 = .ok (.iload_n 2, 1) := by decide +kernel
theorem dX11_often_30 : decode cX11_often 30 = .ok (.putfield 149, 3) := by decide +kernel
theorem dX11_often_33 : decode cX11_often 33 = .ok (.iload 4, 2) := by decide +kernel
theorem dX11_often_35 : decode cX11_often 35 = .ok (.ireturn, 1) := by decide +kernel
theorem dX11_answer_0 : decode cX11_answer 0 = .ok (.aload_n 0, 1) := by decide +kernel
theorem dX11_answer_1 : decode cX11_answer 1 = .ok (.iload_n 1, 1) := by decide +kernel
theorem dX11_answer_2 : decode cX11_answer 2 = .ok (.invokevirtual 145, 3) := by decide +kernel
theorem dX11_answer_5 : decode cX11_answer 5 = .ok (.astore 4, 2) := by decide +kernel
theorem dX11_answer_7 : decode cX11_answer 7 = .ok (.aload 4, 2) := by decide +kernel
theorem dX11_answer_9 : decode cX11_answer 9 = .ok (.ifnull 17, 3) := by decide +kernel
theorem dX11_answer_12 : decode cX11_answer 12 = .ok (.iload_n 2, 1) := by decide +kernel
theorem dX11_answer_13 : decode cX11_answer 13 = .ok (.invokestatic 75, 3) := by decide +kernel
theorem dX11_answer_16 : decode cX11_answer 16 = .ok (.ifCond .eq 10, 3) := by decide +kernel
theorem dX11_answer_19 : decode cX11_answer 19 = .ok (.iload_n 3, 1) := by decide +kernel
theorem dX11_answer_20 : decode cX11_answer 20 = .ok (.invokestatic 75, 3) := by decide +kernel
theorem dX11_answer_23 : decode cX11_answer 23 = .ok (.ifCond .ne 6, 3) := by decide +kernel
theorem dX11_answer_26 : decode cX11_answer 26 = .ok (.ldc 127, 2) := by decide +kernel
theorem dX11_answer_28 : decode cX11_answer 28 = .ok (.ireturn, 1) := by decide +kernel
theorem dX11_answer_29 : decode cX11_answer 29 = .ok (.aload_n 0, 1) := by decide +kernel
theorem dX11_answer_30 : decode cX11_answer 30 = .ok (.aload 4, 2) := by decide +kernel
theorem dX11_answer_32 : decode cX11_answer 32 = .ok (.iload_n 2, 1) := by decide +kernel
theorem dX11_answer_33 : decode cX11_answer 33 = .ok (.iload_n 3, 1) := by decide +kernel
theorem dX11_answer_34 : decode cX11_answer 34 = .ok (.invokevirtual 152, 3) := by decide +kernel
theorem dX11_answer_37 : decode cX11_answer 37 = .ok (.ireturn, 1) := by decide +kernel
theorem dX11_plainAnswer_0 : decode cX11_plainAnswer 0 = .ok (.aload_n 1, 1) := by decide +kernel
theorem dX11_plainAnswer_1 : decode cX11_plainAnswer 1 = .ok (.iload_n 2, 1) := by decide +kernel
theorem dX11_plainAnswer_2 : decode cX11_plainAnswer 2 = .ok (.iload_n 3, 1) := by decide +kernel
theorem dX11_plainAnswer_3 : decode cX11_plainAnswer 3 = .ok (.invokevirtual 156, 3) := by decide +kernel
theorem dX11_plainAnswer_6 : decode cX11_plainAnswer 6 = .ok (.iconst 0, 1) := by decide +kernel
theorem dX11_plainAnswer_7 : decode cX11_plainAnswer 7 = .ok (.istore 4, 2) := by decide +kernel
theorem dX11_plainAnswer_9 : decode cX11_plainAnswer 9 = .ok (.iload 4, 2) := by decide +kernel
theorem dX11_plainAnswer_11 : decode cX11_plainAnswer 11 = .ok (.aload_n 0, 1) := by decide +kernel
theorem dX11_plainAnswer_12 : decode cX11_plainAnswer 12 = .ok (.getfield 10, 3) := by decide +kernel
theorem dX11_plainAnswer_15 : decode cX11_plainAnswer 15 = .ok (.getfield 83, 3) := by decide +kernel
theorem dX11_plainAnswer_18 : decode cX11_plainAnswer 18 = .ok (.if_icmp .ge 31, 3) := by decide +kernel
theorem dX11_plainAnswer_21 : decode cX11_plainAnswer 21 = .ok (.aload_n 0, 1) := by decide +kernel
theorem dX11_plainAnswer_22 : decode cX11_plainAnswer 22 = .ok (.getfield 10, 3) := by decide +kernel
theorem dX11_plainAnswer_25 : decode cX11_plainAnswer 25 = .ok (.iload 4, 2) := by decide +kernel
theorem dX11_plainAnswer_27 : decode cX11_plainAnswer 27 = .ok (.invokevirtual 101, 3) := by decide +kernel
theorem dX11_plainAnswer_30 : decode cX11_plainAnswer 30 = .ok (.ifCond .eq 13, 3) := by decide +kernel
theorem dX11_plainAnswer_33 : decode cX11_plainAnswer 33 = .ok (.aload_n 1, 1) := by decide +kernel
theorem dX11_plainAnswer_34 : decode cX11_plainAnswer 34 = .ok (.aload_n 0, 1) := by decide +kernel
theorem dX11_plainAnswer_35 : decode cX11_plainAnswer 35 = .ok (.getfield 10, 3) := by decide +kernel
theorem dX11_plainAnswer_38 : decode cX11_plainAnswer 38 = .ok (.iload 4, 2) := by decide +kernel
theorem dX11_plainAnswer_40 : decode cX11_plainAnswer 40 = .ok (.invokevirtual 160, 3) := by decide +kernel
theorem dX11_plainAnswer_43 : decode cX11_plainAnswer 43 = .ok (.iinc 4 1, 3) := by decide +kernel
theorem dX11_plainAnswer_46 : decode cX11_plainAnswer 46 = .ok (.goto (-37), 3) := by decide +kernel
theorem dX11_plainAnswer_49 : decode cX11_plainAnswer 49 = .ok (.aload_n 1, 1) := by decide +kernel
theorem dX11_plainAnswer_50 : decode cX11_plainAnswer 50 = .ok (.invokevirtual 164, 3) := by decide +kernel
theorem dX11_plainAnswer_53 : decode cX11_plainAnswer 53 = .ok (.ireturn, 1) := by decide +kernel
theorem dX11_stone_0 : decode cX11_stone 0 = .ok (.iload_n 1, 1) := by decide +kernel
theorem dX11_stone_1 : decode cX11_stone 1 = .ok (.iconst 0, 1) := by decide +kernel
theorem dX11_stone_2 : decode cX11_stone 2 = .ok (.bipush 7, 2) := by decide +kernel
theorem dX11_stone_4 : decode cX11_stone 4 = .ok (.invokestatic 110, 3) := by decide +kernel
theorem dX11_stone_7 : decode cX11_stone 7 = .ok (.ifCond .eq 10, 3) := by decide +kernel
theorem dX11_stone_10 : decode cX11_stone 10 = .ok (.iload_n 2, 1) := by decide +kernel
theorem dX11_stone_11 : decode cX11_stone 11 = .ok (.invokestatic 118, 3) := by decide +kernel
theorem dX11_stone_14 : decode cX11_stone 14 = .ok (.ifCond .ne 5, 3) := by decide +kernel
theorem dX11_stone_17 : decode cX11_stone 17 = .ok (.iconst (-1), 1) := by decide +kernel
theorem dX11_stone_18 : decode cX11_stone 18 = .ok (.ireturn, 1) := by decide +kernel
theorem dX11_stone_19 : decode cX11_stone 19 = .ok (.aload_n 0, 1) := by decide +kernel
theorem dX11_stone_20 : decode cX11_stone 20 = .ok (.getfield 91, 3) := by decide +kernel
theorem dX11_stone_23 : decode cX11_stone 23 = .ok (.bipush 10, 2) := by decide +kernel
theorem dX11_stone_25 : decode cX11_stone 25 = .ok (.if_icmp .lt 6, 3) := by decide +kernel
theorem dX11_stone_28 : decode cX11_stone 28 = .ok (.bipush (-3), 2) := by decide +kernel
theorem dX11_stone_30 : decode cX11_stone 30 = .ok (.ireturn, 1) := by decide +kernel
theorem dX11_stone_31 : decode cX11_stone 31 = .ok (.aload_n 0, 1) := by decide +kernel
theorem dX11_stone_32 : decode cX11_stone 32 = .ok (.iload_n 1, 1) := by decide +kernel
theorem dX11_stone_33 : decode cX11_stone 33 = .ok (.aload_n 0, 1) := by decide +kernel
theorem dX11_stone_34 : decode cX11_stone 34 = .ok (.getfield 91, 3) := by decide +kernel
theorem dX11_stone_37 : decode cX11_stone 37 = .ok (.iload_n 2, 1) := by decide +kernel
theorem dX11_stone_38 : decode cX11_stone 38 = .ok (.invokevirtual 168, 3) := by decide +kernel
theorem dX11_stone_41 : decode cX11_stone 41 = .ok (.astore_n 3, 1) := by decide +kernel
theorem dX11_stone_42 : decode cX11_stone 42 = .ok (.iconst 0, 1) := by decide +kernel
theorem dX11_stone_43 : decode cX11_stone 43 = .ok (.istore 4, 2) := by decide +kernel
theorem dX11_stone_45 : decode cX11_stone 45 = .ok (.iload 4, 2) := by decide +kernel
theorem dX11_stone_47 : decode cX11_stone 47 = .ok (.aload_n 0, 1) := by decide +kernel
theorem dX11_stone_48 : decode cX11_stone 48 = .ok (.getfield 10, 3) := by decide +kernel
theorem dX11_stone_51 : decode cX11_stone 51 = .ok (.getfield 83, 3) := by decide +kernel
theorem dX11_stone_54 : decode cX11_stone 54 = .ok (.if_icmp .ge 27, 3) := by decide +kernel
theorem dX11_stone_57 : decode cX11_stone 57 = .ok (.aload_n 0, 1) := by decide +kernel
theorem dX11_stone_58 : decode cX11_stone 58 = .ok (.getfield 10, 3) := by decide +kernel
theorem dX11_stone_61 : decode cX11_stone 61 = .ok (.iload 4, 2) := by decide +kernel
theorem dX11_stone_63 : decode cX11_stone 63 = .ok (.invokevirtual 101, 3) := by decide +kernel
theorem dX11_stone_66 : decode cX11_stone 66 = .ok (.ifCond .eq 9, 3) := by decide +kernel
theorem dX11_stone_69 : decode cX11_stone 69 = .ok (.aload_n 3, 1) := by decide +kernel
theorem dX11_stone_70 : decode cX11_stone 70 = .ok (.iload 4, 2) := by decide +kernel
theorem dX11_stone_72 : decode cX11_stone 72 = .ok (.invokevirtual 94, 3) := by decide +kernel
theorem dX11_stone_75 : decode cX11_stone 75 = .ok (.iinc 4 1, 3) := by decide +kernel
theorem dX11_stone_78 : decode cX11_stone 78 = .ok (.goto (-33), 3) := by decide +kernel
theorem dX11_stone_81 : decode cX11_stone 81 = .ok (.aload_n 0, 1) := by decide +kernel
theorem dX11_stone_82 : decode cX11_stone 82 = .ok (.getfield 40, 3) := by decide +kernel
theorem dX11_stone_85 : decode cX11_stone 85 = .ok (.aload_n 0, 1) := by decide +kernel
theorem dX11_stone_86 : decode cX11_stone 86 = .ok (.getfield 91, 3) := by decide +kernel
theorem dX11_stone_89 : decode cX11_stone 89 = .ok (.aload_n 3, 1) := by decide +kernel
theorem dX11_stone_90 : decode cX11_stone 90 = .ok (.aastore, 1) := by decide +kernel
theorem dX11_stone_91 : decode cX11_stone 91 = .ok (.aload_n 0, 1) := by decide +kernel
theorem dX11_stone_92 : decode cX11_stone 92 = .ok (.dup, 1) := by decide +kernel
theorem dX11_stone_93 : decode cX11_stone 93 = .ok (.getfield 91, 3) := by decide +kernel
theorem dX11_stone_96 : decode cX11_stone 96 = .ok (.iconst 1, 1) := by decide +kernel
theorem dX11_stone_97 : decode cX11_stone 97 = .ok (.iadd, 1) := by decide +kernel
theorem dX11_stone_98 : decode cX11_stone 98 = .ok (.putfield 91, 3) := by decide +kernel
theorem dX11_stone_101 : decode cX11_stone 101 = .ok (.aload_n 0, 1) := by decide +kernel
theorem dX11_stone_102 : decode cX11_stone 102 = .ok (.getfield 91, 3) := by decide +kernel
theorem dX11_stone_105 : decode cX11_stone 105 = .ok (.iconst 1, 1) := by decide +kernel
theorem dX11_stone_106 : decode cX11_stone 106 = .ok (.isub, 1) := by decide +kernel
theorem dX11_stone_107 : decode cX11_stone 107 = .ok (.ireturn, 1) := by decide +kernel
theorem dX11_newStone_0 : decode cX11_newStone 0 = .ok (.iload_n 1, 1) := by decide +kernel
theorem dX11_newStone_1 : decode cX11_newStone 1 = .ok (.tableswitch 143 1 7 #[43, 57, 71, 85, 101, 115, 129], 43) := by decide +kernel
theorem dX11_newStone_44 : decode cX11_newStone 44 = .ok (.new 172, 3) := by decide +kernel
theorem dX11_newStone_47 : decode cX11_newStone 47 = .ok (.dup, 1) := by decide +kernel
theorem dX11_newStone_48 : decode cX11_newStone 48 = .ok (.aload_n 0, 1) := by decide +kernel
theorem dX11_newStone_49 : decode cX11_newStone 49 = .ok (.getfield 10, 3) := by decide +kernel
theorem dX11_newStone_52 : decode cX11_newStone 52 = .ok (.iload_n 2, 1) := by decide +kernel
theorem dX11_newStone_53 : decode cX11_newStone 53 = .ok (.iload_n 3, 1) := by decide +kernel
theorem dX11_newStone_54 : decode cX11_newStone 54 = .ok (.invokespecial 174, 3) := by decide +kernel
theorem dX11_newStone_57 : decode cX11_newStone 57 = .ok (.areturn, 1) := by decide +kernel
theorem dX11_newStone_58 : decode cX11_newStone 58 = .ok (.new 177, 3) := by decide +kernel
theorem dX11_newStone_61 : decode cX11_newStone 61 = .ok (.dup, 1) := by decide +kernel
theorem dX11_newStone_62 : decode cX11_newStone 62 = .ok (.aload_n 0, 1) := by decide +kernel
theorem dX11_newStone_63 : decode cX11_newStone 63 = .ok (.getfield 10, 3) := by decide +kernel
theorem dX11_newStone_66 : decode cX11_newStone 66 = .ok (.iload_n 2, 1) := by decide +kernel
theorem dX11_newStone_67 : decode cX11_newStone 67 = .ok (.iload_n 3, 1) := by decide +kernel
theorem dX11_newStone_68 : decode cX11_newStone 68 = .ok (.invokespecial 179, 3) := by decide +kernel
theorem dX11_newStone_71 : decode cX11_newStone 71 = .ok (.areturn, 1) := by decide +kernel
theorem dX11_newStone_72 : decode cX11_newStone 72 = .ok (.new 180, 3) := by decide +kernel
theorem dX11_newStone_75 : decode cX11_newStone 75 = .ok (.dup, 1) := by decide +kernel
theorem dX11_newStone_76 : decode cX11_newStone 76 = .ok (.aload_n 0, 1) := by decide +kernel
theorem dX11_newStone_77 : decode cX11_newStone 77 = .ok (.getfield 10, 3) := by decide +kernel
theorem dX11_newStone_80 : decode cX11_newStone 80 = .ok (.iload_n 2, 1) := by decide +kernel
theorem dX11_newStone_81 : decode cX11_newStone 81 = .ok (.iload_n 3, 1) := by decide +kernel
theorem dX11_newStone_82 : decode cX11_newStone 82 = .ok (.invokespecial 182, 3) := by decide +kernel
theorem dX11_newStone_85 : decode cX11_newStone 85 = .ok (.areturn, 1) := by decide +kernel
theorem dX11_newStone_86 : decode cX11_newStone 86 = .ok (.new 183, 3) := by decide +kernel
theorem dX11_newStone_89 : decode cX11_newStone 89 = .ok (.dup, 1) := by decide +kernel
theorem dX11_newStone_90 : decode cX11_newStone 90 = .ok (.aload_n 0, 1) := by decide +kernel
theorem dX11_newStone_91 : decode cX11_newStone 91 = .ok (.getfield 10, 3) := by decide +kernel
theorem dX11_newStone_94 : decode cX11_newStone 94 = .ok (.iload_n 2, 1) := by decide +kernel
theorem dX11_newStone_95 : decode cX11_newStone 95 = .ok (.iload_n 3, 1) := by decide +kernel
theorem dX11_newStone_96 : decode cX11_newStone 96 = .ok (.bipush 80, 2) := by decide +kernel
theorem dX11_newStone_98 : decode cX11_newStone 98 = .ok (.invokespecial 185, 3) := by decide +kernel
theorem dX11_newStone_101 : decode cX11_newStone 101 = .ok (.areturn, 1) := by decide +kernel
theorem dX11_newStone_102 : decode cX11_newStone 102 = .ok (.new 188, 3) := by decide +kernel
theorem dX11_newStone_105 : decode cX11_newStone 105 = .ok (.dup, 1) := by decide +kernel
theorem dX11_newStone_106 : decode cX11_newStone 106 = .ok (.aload_n 0, 1) := by decide +kernel
theorem dX11_newStone_107 : decode cX11_newStone 107 = .ok (.getfield 10, 3) := by decide +kernel
theorem dX11_newStone_110 : decode cX11_newStone 110 = .ok (.iload_n 2, 1) := by decide +kernel
theorem dX11_newStone_111 : decode cX11_newStone 111 = .ok (.iload_n 3, 1) := by decide +kernel
theorem dX11_newStone_112 : decode cX11_newStone 112 = .ok (.invokespecial 190, 3) := by decide +kernel
theorem dX11_newStone_115 : decode cX11_newStone 115 = .ok (.areturn, 1) := by decide +kernel
theorem dX11_newStone_116 : decode cX11_newStone 116 = .ok (.new 191, 3) := by decide +kernel
theorem dX11_newStone_119 : decode cX11_newStone 119 = .ok (.dup, 1) := by decide +kernel
theorem dX11_newStone_120 : decode cX11_newStone 120 = .ok (.aload_n 0, 1) := by decide +kernel
theorem dX11_newStone_121 : decode cX11_newStone 121 = .ok (.getfield 10, 3) := by decide +kernel
theorem dX11_newStone_124 : decode cX11_newStone 124 = .ok (.iload_n 2, 1) := by decide +kernel
theorem dX11_newStone_125 : decode cX11_newStone 125 = .ok (.iload_n 3, 1) := by decide +kernel
theorem dX11_newStone_126 : decode cX11_newStone 126 = .ok (.invokespecial 193, 3) := by decide +kernel
theorem dX11_newStone_129 : decode cX11_newStone 129 = .ok (.areturn, 1) := by decide +kernel
theorem dX11_newStone_130 : decode cX11_newStone 130 = .ok (.new 194, 3) := by decide +kernel
theorem dX11_newStone_133 : decode cX11_newStone 133 = .ok (.dup, 1) := by decide +kernel
theorem dX11_newStone_134 : decode cX11_newStone 134 = .ok (.aload_n 0, 1) := by decide +kernel
theorem dX11_newStone_135 : decode cX11_newStone 135 = .ok (.getfield 10, 3) := by decide +kernel
theorem dX11_newStone_138 : decode cX11_newStone 138 = .ok (.iload_n 2, 1) := by decide +kernel
theorem dX11_newStone_139 : decode cX11_newStone 139 = .ok (.iload_n 3, 1) := by decide +kernel
theorem dX11_newStone_140 : decode cX11_newStone 140 = .ok (.invokespecial 196, 3) := by decide +kernel
theorem dX11_newStone_143 : decode cX11_newStone 143 = .ok (.areturn, 1) := by decide +kernel
theorem dX11_newStone_144 : decode cX11_newStone 144 = .ok (.new 38, 3) := by decide +kernel
theorem dX11_newStone_147 : decode cX11_newStone 147 = .ok (.dup, 1) := by decide +kernel
theorem dX11_newStone_148 : decode cX11_newStone 148 = .ok (.aload_n 0, 1) := by decide +kernel
theorem dX11_newStone_149 : decode cX11_newStone 149 = .ok (.getfield 10, 3) := by decide +kernel
theorem dX11_newStone_152 : decode cX11_newStone 152 = .ok (.iload_n 2, 1) := by decide +kernel
theorem dX11_newStone_153 : decode cX11_newStone 153 = .ok (.iload_n 3, 1) := by decide +kernel
theorem dX11_newStone_154 : decode cX11_newStone 154 = .ok (.invokespecial 197, 3) := by decide +kernel
theorem dX11_newStone_157 : decode cX11_newStone 157 = .ok (.areturn, 1) := by decide +kernel
theorem dX11_ofStone_0 : decode cX11_ofStone 0 = .ok (.aload_n 0, 1) := by decide +kernel
theorem dX11_ofStone_1 : decode cX11_ofStone 1 = .ok (.iload_n 1, 1) := by decide +kernel
theorem dX11_ofStone_2 : decode cX11_ofStone 2 = .ok (.invokevirtual 198, 3) := by decide +kernel
theorem dX11_ofStone_5 : decode cX11_ofStone 5 = .ok (.astore_n 3, 1) := by decide +kernel
theorem dX11_ofStone_6 : decode cX11_ofStone 6 = .ok (.aload_n 3, 1) := by decide +kernel
theorem dX11_ofStone_7 : decode cX11_ofStone 7 = .ok (.ifnonnull 5, 3) := by decide +kernel
theorem dX11_ofStone_10 : decode cX11_ofStone 10 = .ok (.iconst (-1), 1) := by decide +kernel
theorem dX11_ofStone_11 : decode cX11_ofStone 11 = .ok (.ireturn, 1) := by decide +kernel
theorem dX11_ofStone_12 : decode cX11_ofStone 12 = .ok (.iload_n 2, 1) := by decide +kernel
theorem dX11_ofStone_13 : decode cX11_ofStone 13 = .ok (.tableswitch 60 0 4 #[35, 40, 45, 50, 55], 35) := by decide +kernel
theorem dX11_ofStone_48 : decode cX11_ofStone 48 = .ok (.aload_n 3, 1) := by decide +kernel
theorem dX11_ofStone_49 : decode cX11_ofStone 49 = .ok (.invokevirtual 202, 3) := by decide +kernel
theorem dX11_ofStone_52 : decode cX11_ofStone 52 = .ok (.ireturn, 1) := by decide +kernel
theorem dX11_ofStone_53 : decode cX11_ofStone 53 = .ok (.aload_n 3, 1) := by decide +kernel
theorem dX11_ofStone_54 : decode cX11_ofStone 54 = .ok (.getfield 205, 3) := by decide +kernel
theorem dX11_ofStone_57 : decode cX11_ofStone 57 = .ok (.ireturn, 1) := by decide +kernel
theorem dX11_ofStone_58 : decode cX11_ofStone 58 = .ok (.aload_n 3, 1) := by decide +kernel
theorem dX11_ofStone_59 : decode cX11_ofStone 59 = .ok (.invokevirtual 208, 3) := by decide +kernel
theorem dX11_ofStone_62 : decode cX11_ofStone 62 = .ok (.ireturn, 1) := by decide +kernel
theorem dX11_ofStone_63 : decode cX11_ofStone 63 = .ok (.aload_n 3, 1) := by decide +kernel
theorem dX11_ofStone_64 : decode cX11_ofStone 64 = .ok (.getfield 211, 3) := by decide +kernel
theorem dX11_ofStone_67 : decode cX11_ofStone 67 = .ok (.ireturn, 1) := by decide +kernel
theorem dX11_ofStone_68 : decode cX11_ofStone 68 = .ok (.aload_n 3, 1) := by decide +kernel
theorem dX11_ofStone_69 : decode cX11_ofStone 69 = .ok (.getfield 214, 3) := by decide +kernel
theorem dX11_ofStone_72 : decode cX11_ofStone 72 = .ok (.ireturn, 1) := by decide +kernel
theorem dX11_ofStone_73 : decode cX11_ofStone 73 = .ok (.iconst (-1), 1) := by decide +kernel
theorem dX11_ofStone_74 : decode cX11_ofStone 74 = .ok (.ireturn, 1) := by decide +kernel
theorem dX11_nameAt_0 : decode cX11_nameAt 0 = .ok (.aload_n 0, 1) := by decide +kernel
theorem dX11_nameAt_1 : decode cX11_nameAt 1 = .ok (.iload_n 1, 1) := by decide +kernel
theorem dX11_nameAt_2 : decode cX11_nameAt 2 = .ok (.invokevirtual 198, 3) := by decide +kernel
theorem dX11_nameAt_5 : decode cX11_nameAt 5 = .ok (.astore_n 3, 1) := by decide +kernel
theorem dX11_nameAt_6 : decode cX11_nameAt 6 = .ok (.aload_n 3, 1) := by decide +kernel
theorem dX11_nameAt_7 : decode cX11_nameAt 7 = .ok (.ifnonnull 7, 3) := by decide +kernel
theorem dX11_nameAt_10 : decode cX11_nameAt 10 = .ok (.iconst (-1), 1) := by decide +kernel
theorem dX11_nameAt_11 : decode cX11_nameAt 11 = .ok (.goto 8, 3) := by decide +kernel
theorem dX11_nameAt_14 : decode cX11_nameAt 14 = .ok (.aload_n 3, 1) := by decide +kernel
theorem dX11_nameAt_15 : decode cX11_nameAt 15 = .ok (.iload_n 2, 1) := by decide +kernel
theorem dX11_nameAt_16 : decode cX11_nameAt 16 = .ok (.invokevirtual 217, 3) := by decide +kernel
theorem dX11_nameAt_19 : decode cX11_nameAt 19 = .ok (.ireturn, 1) := by decide +kernel
theorem dX11_through_0 : decode cX11_through 0 = .ok (.aload_n 0, 1) := by decide +kernel
theorem dX11_through_1 : decode cX11_through 1 = .ok (.iload_n 1, 1) := by decide +kernel
theorem dX11_through_2 : decode cX11_through 2 = .ok (.invokevirtual 198, 3) := by decide +kernel
theorem dX11_through_5 : decode cX11_through 5 = .ok (.astore 5, 2) := by decide +kernel
theorem dX11_through_7 : decode cX11_through 7 = .ok (.aload_n 0, 1) := by decide +kernel
theorem dX11_through_8 : decode cX11_through 8 = .ok (.iload_n 2, 1) := by decide +kernel
theorem dX11_through_9 : decode cX11_through 9 = .ok (.invokevirtual 145, 3) := by decide +kernel
theorem dX11_through_12 : decode cX11_through 12 = .ok (.astore 6, 2) := by decide +kernel
theorem dX11_through_14 : decode cX11_through 14 = .ok (.aload 5, 2) := by decide +kernel
theorem dX11_through_16 : decode cX11_through 16 = .ok (.ifnull 23, 3) := by decide +kernel
theorem dX11_through_19 : decode cX11_through 19 = .ok (.aload 6, 2) := by decide +kernel
theorem dX11_through_21 : decode cX11_through 21 = .ok (.ifnull 18, 3) := by decide +kernel
theorem dX11_through_24 : decode cX11_through 24 = .ok (.iload_n 3, 1) := by decide +kernel
theorem dX11_through_25 : decode cX11_through 25 = .ok (.invokestatic 75, 3) := by decide +kernel
theorem dX11_through_28 : decode cX11_through 28 = .ok (.ifCond .eq 11, 3) := by decide +kernel
theorem dX11_through_31 : decode cX11_through 31 = .ok (.iload 4, 2) := by decide +kernel
theorem dX11_through_33 : decode cX11_through 33 = .ok (.invokestatic 75, 3) := by decide +kernel
theorem dX11_through_36 : decode cX11_through 36 = .ok (.ifCond .ne 6, 3) := by decide +kernel
theorem dX11_through_39 : decode cX11_through 39 = .ok (.ldc 127, 2) := by decide +kernel
theorem dX11_through_41 : decode cX11_through 41 = .ok (.ireturn, 1) := by decide +kernel
theorem dX11_through_42 : decode cX11_through 42 = .ok (.aload 5, 2) := by decide +kernel
theorem dX11_through_44 : decode cX11_through 44 = .ok (.aload 6, 2) := by decide +kernel
theorem dX11_through_46 : decode cX11_through 46 = .ok (.iload_n 3, 1) := by decide +kernel
theorem dX11_through_47 : decode cX11_through 47 = .ok (.iload 4, 2) := by decide +kernel
theorem dX11_through_49 : decode cX11_through 49 = .ok (.invokestatic 220, 3) := by decide +kernel
theorem dX11_through_52 : decode cX11_through 52 = .ok (.istore 7, 2) := by decide +kernel
theorem dX11_through_54 : decode cX11_through 54 = .ok (.iload 7, 2) := by decide +kernel
theorem dX11_through_56 : decode cX11_through 56 = .ok (.bipush (-2), 2) := by decide +kernel
theorem dX11_through_58 : decode cX11_through 58 = .ok (.if_icmp .eq 12, 3) := by decide +kernel
theorem dX11_through_61 : decode cX11_through 61 = .ok (.aload_n 0, 1) := by decide +kernel
theorem dX11_through_62 : decode cX11_through 62 = .ok (.aload 5, 2) := by decide +kernel
theorem dX11_through_64 : decode cX11_through 64 = .ok (.getfield 224, 3) := by decide +kernel
theorem dX11_through_67 : decode cX11_through 67 = .ok (.putfield 227, 3) := by decide +kernel
theorem dX11_through_70 : decode cX11_through 70 = .ok (.iload 7, 2) := by decide +kernel
theorem dX11_through_72 : decode cX11_through 72 = .ok (.ireturn, 1) := by decide +kernel
theorem dX11_answerThrough_0 : decode cX11_answerThrough 0 = .ok (.aload_n 1, 1) := by decide +kernel
theorem dX11_answerThrough_1 : decode cX11_answerThrough 1 = .ok (.iload_n 2, 1) := by decide +kernel
theorem dX11_answerThrough_2 : decode cX11_answerThrough 2 = .ok (.iload_n 3, 1) := by decide +kernel
theorem dX11_answerThrough_3 : decode cX11_answerThrough 3 = .ok (.invokevirtual 156, 3) := by decide +kernel
theorem dX11_answerThrough_6 : decode cX11_answerThrough 6 = .ok (.aload_n 0, 1) := by decide +kernel
theorem dX11_answerThrough_7 : decode cX11_answerThrough 7 = .ok (.iconst 0, 1) := by decide +kernel
theorem dX11_answerThrough_8 : decode cX11_answerThrough 8 = .ok (.putfield 224, 3) := by decide +kernel
theorem dX11_answerThrough_11 : decode cX11_answerThrough 11 = .ok (.aload_n 0, 1) := by decide +kernel
theorem dX11_answerThrough_12 : decode cX11_answerThrough 12 = .ok (.aload_n 1, 1) := by decide +kernel
theorem dX11_answerThrough_13 : decode cX11_answerThrough 13 = .ok (.invokevirtual 230, 3) := by decide +kernel
theorem dX11_answerThrough_16 : decode cX11_answerThrough 16 = .ok (.ireturn, 1) := by decide +kernel
theorem dX11_looks_0 : decode cX11_looks 0 = .ok (.aload_n 0, 1) := by decide +kernel
theorem dX11_looks_1 : decode cX11_looks 1 = .ok (.getfield 227, 3) := by decide +kernel
theorem dX11_looks_4 : decode cX11_looks 4 = .ok (.ireturn, 1) := by decide +kernel
theorem dX11_firstUnlike_0 : decode cX11_firstUnlike 0 = .ok (.aload_n 0, 1) := by decide +kernel
theorem dX11_firstUnlike_1 : decode cX11_firstUnlike 1 = .ok (.iload_n 1, 1) := by decide +kernel
theorem dX11_firstUnlike_2 : decode cX11_firstUnlike 2 = .ok (.invokevirtual 145, 3) := by decide +kernel
theorem dX11_firstUnlike_5 : decode cX11_firstUnlike 5 = .ok (.astore 4, 2) := by decide +kernel
theorem dX11_firstUnlike_7 : decode cX11_firstUnlike 7 = .ok (.aload 4, 2) := by decide +kernel
theorem dX11_firstUnlike_9 : decode cX11_firstUnlike 9 = .ok (.ifnull 17, 3) := by decide +kernel
theorem dX11_firstUnlike_12 : decode cX11_firstUnlike 12 = .ok (.iload_n 2, 1) := by decide +kernel
theorem dX11_firstUnlike_13 : decode cX11_firstUnlike 13 = .ok (.invokestatic 75, 3) := by decide +kernel
theorem dX11_firstUnlike_16 : decode cX11_firstUnlike 16 = .ok (.ifCond .eq 10, 3) := by decide +kernel
theorem dX11_firstUnlike_19 : decode cX11_firstUnlike 19 = .ok (.iload_n 3, 1) := by decide +kernel
theorem dX11_firstUnlike_20 : decode cX11_firstUnlike 20 = .ok (.invokestatic 75, 3) := by decide +kernel
theorem dX11_firstUnlike_23 : decode cX11_firstUnlike 23 = .ok (.ifCond .ne 5, 3) := by decide +kernel
theorem dX11_firstUnlike_26 : decode cX11_firstUnlike 26 = .ok (.iconst (-1), 1) := by decide +kernel
theorem dX11_firstUnlike_27 : decode cX11_firstUnlike 27 = .ok (.ireturn, 1) := by decide +kernel
theorem dX11_firstUnlike_28 : decode cX11_firstUnlike 28 = .ok (.aload_n 0, 1) := by decide +kernel
theorem dX11_firstUnlike_29 : decode cX11_firstUnlike 29 = .ok (.aload 4, 2) := by decide +kernel
theorem dX11_firstUnlike_31 : decode cX11_firstUnlike 31 = .ok (.iload_n 2, 1) := by decide +kernel
theorem dX11_firstUnlike_32 : decode cX11_firstUnlike 32 = .ok (.iload_n 3, 1) := by decide +kernel
theorem dX11_firstUnlike_33 : decode cX11_firstUnlike 33 = .ok (.invokevirtual 152, 3) := by decide +kernel
theorem dX11_firstUnlike_36 : decode cX11_firstUnlike 36 = .ok (.istore 5, 2) := by decide +kernel
theorem dX11_firstUnlike_38 : decode cX11_firstUnlike 38 = .ok (.iconst 0, 1) := by decide +kernel
theorem dX11_firstUnlike_39 : decode cX11_firstUnlike 39 = .ok (.istore 6, 2) := by decide +kernel
theorem dX11_firstUnlike_41 : decode cX11_firstUnlike 41 = .ok (.iload 6, 2) := by decide +kernel
theorem dX11_firstUnlike_43 : decode cX11_firstUnlike 43 = .ok (.aload_n 0, 1) := by decide +kernel
theorem dX11_firstUnlike_44 : decode cX11_firstUnlike 44 = .ok (.getfield 91, 3) := by decide +kernel
theorem dX11_firstUnlike_47 : decode cX11_firstUnlike 47 = .ok (.if_icmp .ge 49, 3) := by decide +kernel
theorem dX11_firstUnlike_50 : decode cX11_firstUnlike 50 = .ok (.aload_n 0, 1) := by decide +kernel
theorem dX11_firstUnlike_51 : decode cX11_firstUnlike 51 = .ok (.getfield 40, 3) := by decide +kernel
theorem dX11_firstUnlike_54 : decode cX11_firstUnlike 54 = .ok (.iload 6, 2) := by decide +kernel
theorem dX11_firstUnlike_56 : decode cX11_firstUnlike 56 = .ok (.aaload, 1) := by decide +kernel
theorem dX11_firstUnlike_57 : decode cX11_firstUnlike 57 = .ok (.aload 4, 2) := by decide +kernel
theorem dX11_firstUnlike_59 : decode cX11_firstUnlike 59 = .ok (.iload_n 2, 1) := by decide +kernel
theorem dX11_firstUnlike_60 : decode cX11_firstUnlike 60 = .ok (.iload_n 3, 1) := by decide +kernel
theorem dX11_firstUnlike_61 : decode cX11_firstUnlike 61 = .ok (.invokestatic 220, 3) := by decide +kernel
theorem dX11_firstUnlike_64 : decode cX11_firstUnlike 64 = .ok (.istore 7, 2) := by decide +kernel
theorem dX11_firstUnlike_66 : decode cX11_firstUnlike 66 = .ok (.iload 7, 2) := by decide +kernel
theorem dX11_firstUnlike_68 : decode cX11_firstUnlike 68 = .ok (.bipush (-2), 2) := by decide +kernel
theorem dX11_firstUnlike_70 : decode cX11_firstUnlike 70 = .ok (.if_icmp .eq 20, 3) := by decide +kernel
theorem dX11_firstUnlike_73 : decode cX11_firstUnlike 73 = .ok (.iload 7, 2) := by decide +kernel
theorem dX11_firstUnlike_75 : decode cX11_firstUnlike 75 = .ok (.bipush (-6), 2) := by decide +kernel
theorem dX11_firstUnlike_77 : decode cX11_firstUnlike 77 = .ok (.if_icmp .eq 13, 3) := by decide +kernel
theorem dX11_firstUnlike_80 : decode cX11_firstUnlike 80 = .ok (.iload 7, 2) := by decide +kernel
theorem dX11_firstUnlike_82 : decode cX11_firstUnlike 82 = .ok (.iload 5, 2) := by decide +kernel
theorem dX11_firstUnlike_84 : decode cX11_firstUnlike 84 = .ok (.if_icmp .eq 6, 3) := by decide +kernel
theorem dX11_firstUnlike_87 : decode cX11_firstUnlike 87 = .ok (.iload 6, 2) := by decide +kernel
theorem dX11_firstUnlike_89 : decode cX11_firstUnlike 89 = .ok (.ireturn, 1) := by decide +kernel
theorem dX11_firstUnlike_90 : decode cX11_firstUnlike 90 = .ok (.iinc 6 1, 3) := by decide +kernel
theorem dX11_firstUnlike_93 : decode cX11_firstUnlike 93 = .ok (.goto (-52), 3) := by decide +kernel
theorem dX11_firstUnlike_96 : decode cX11_firstUnlike 96 = .ok (.bipush (-2), 2) := by decide +kernel
theorem dX11_firstUnlike_98 : decode cX11_firstUnlike 98 = .ok (.ireturn, 1) := by decide +kernel
theorem dX11_price_0 : decode cX11_price 0 = .ok (.aload_n 0, 1) := by decide +kernel
theorem dX11_price_1 : decode cX11_price 1 = .ok (.iload_n 1, 1) := by decide +kernel
theorem dX11_price_2 : decode cX11_price 2 = .ok (.invokevirtual 198, 3) := by decide +kernel
theorem dX11_price_5 : decode cX11_price 5 = .ok (.astore 4, 2) := by decide +kernel
theorem dX11_price_7 : decode cX11_price 7 = .ok (.aload_n 0, 1) := by decide +kernel
theorem dX11_price_8 : decode cX11_price 8 = .ok (.iload_n 2, 1) := by decide +kernel
theorem dX11_price_9 : decode cX11_price 9 = .ok (.invokevirtual 145, 3) := by decide +kernel
theorem dX11_price_12 : decode cX11_price 12 = .ok (.astore 5, 2) := by decide +kernel
theorem dX11_price_14 : decode cX11_price 14 = .ok (.aload 4, 2) := by decide +kernel
theorem dX11_price_16 : decode cX11_price 16 = .ok (.ifnull 15, 3) := by decide +kernel
theorem dX11_price_19 : decode cX11_price 19 = .ok (.aload 5, 2) := by decide +kernel
theorem dX11_price_21 : decode cX11_price 21 = .ok (.ifnull 10, 3) := by decide +kernel
theorem dX11_price_24 : decode cX11_price 24 = .ok (.iload_n 3, 1) := by decide +kernel
theorem dX11_price_25 : decode cX11_price 25 = .ok (.invokestatic 234, 3) := by decide +kernel
theorem dX11_price_28 : decode cX11_price 28 = .ok (.ifCond .ne 5, 3) := by decide +kernel
theorem dX11_price_31 : decode cX11_price 31 = .ok (.iconst (-1), 1) := by decide +kernel
theorem dX11_price_32 : decode cX11_price 32 = .ok (.ireturn, 1) := by decide +kernel
theorem dX11_price_33 : decode cX11_price 33 = .ok (.aload 4, 2) := by decide +kernel
theorem dX11_price_35 : decode cX11_price 35 = .ok (.aload 5, 2) := by decide +kernel
theorem dX11_price_37 : decode cX11_price 37 = .ok (.iload_n 3, 1) := by decide +kernel
theorem dX11_price_38 : decode cX11_price 38 = .ok (.invokevirtual 237, 3) := by decide +kernel
theorem dX11_price_41 : decode cX11_price 41 = .ok (.ireturn, 1) := by decide +kernel
theorem dX11_putPrice_0 : decode cX11_putPrice 0 = .ok (.aload_n 0, 1) := by decide +kernel
theorem dX11_putPrice_1 : decode cX11_putPrice 1 = .ok (.iload_n 1, 1) := by decide +kernel
theorem dX11_putPrice_2 : decode cX11_putPrice 2 = .ok (.invokevirtual 198, 3) := by decide +kernel
theorem dX11_putPrice_5 : decode cX11_putPrice 5 = .ok (.astore_n 3, 1) := by decide +kernel
theorem dX11_putPrice_6 : decode cX11_putPrice 6 = .ok (.aload_n 3, 1) := by decide +kernel
theorem dX11_putPrice_7 : decode cX11_putPrice 7 = .ok (.ifnull 10, 3) := by decide +kernel
theorem dX11_putPrice_10 : decode cX11_putPrice 10 = .ok (.iload_n 2, 1) := by decide +kernel
theorem dX11_putPrice_11 : decode cX11_putPrice 11 = .ok (.invokestatic 234, 3) := by decide +kernel
theorem dX11_putPrice_14 : decode cX11_putPrice 14 = .ok (.ifCond .ne 7, 3) := by decide +kernel
theorem dX11_putPrice_17 : decode cX11_putPrice 17 = .ok (.iconst (-1), 1) := by decide +kernel
theorem dX11_putPrice_18 : decode cX11_putPrice 18 = .ok (.goto 8, 3) := by decide +kernel
theorem dX11_putPrice_21 : decode cX11_putPrice 21 = .ok (.aload_n 3, 1) := by decide +kernel
theorem dX11_putPrice_22 : decode cX11_putPrice 22 = .ok (.iload_n 2, 1) := by decide +kernel
theorem dX11_putPrice_23 : decode cX11_putPrice 23 = .ok (.invokevirtual 241, 3) := by decide +kernel
theorem dX11_putPrice_26 : decode cX11_putPrice 26 = .ok (.ireturn, 1) := by decide +kernel
theorem dX11_plan_0 : decode cX11_plan 0 = .ok (.aload_n 0, 1) := by decide +kernel
theorem dX11_plan_1 : decode cX11_plan 1 = .ok (.iload_n 1, 1) := by decide +kernel
theorem dX11_plan_2 : decode cX11_plan 2 = .ok (.invokevirtual 244, 3) := by decide +kernel
theorem dX11_plan_5 : decode cX11_plan 5 = .ok (.ifCond .eq 21, 3) := by decide +kernel
theorem dX11_plan_8 : decode cX11_plan 8 = .ok (.iload_n 2, 1) := by decide +kernel
theorem dX11_plan_9 : decode cX11_plan 9 = .ok (.invokestatic 234, 3) := by decide +kernel
theorem dX11_plan_12 : decode cX11_plan 12 = .ok (.ifCond .eq 14, 3) := by decide +kernel
theorem dX11_plan_15 : decode cX11_plan 15 = .ok (.iload_n 3, 1) := by decide +kernel
theorem dX11_plan_16 : decode cX11_plan 16 = .ok (.iconst 0, 1) := by decide +kernel
theorem dX11_plan_17 : decode cX11_plan 17 = .ok (.sipush 999, 3) := by decide +kernel
theorem dX11_plan_20 : decode cX11_plan 20 = .ok (.invokestatic 110, 3) := by decide +kernel
theorem dX11_plan_23 : decode cX11_plan 23 = .ok (.ifCond .ne 5, 3) := by decide +kernel
theorem dX11_plan_26 : decode cX11_plan 26 = .ok (.iconst (-1), 1) := by decide +kernel
theorem dX11_plan_27 : decode cX11_plan 27 = .ok (.ireturn, 1) := by decide +kernel
theorem dX11_plan_28 : decode cX11_plan 28 = .ok (.aload_n 0, 1) := by decide +kernel
theorem dX11_plan_29 : decode cX11_plan 29 = .ok (.iload_n 2, 1) := by decide +kernel
theorem dX11_plan_30 : decode cX11_plan 30 = .ok (.invokevirtual 247, 3) := by decide +kernel
theorem dX11_plan_33 : decode cX11_plan 33 = .ok (.aload_n 0, 1) := by decide +kernel
theorem dX11_plan_34 : decode cX11_plan 34 = .ok (.iload_n 1, 1) := by decide +kernel
theorem dX11_plan_35 : decode cX11_plan 35 = .ok (.iload_n 3, 1) := by decide +kernel
theorem dX11_plan_36 : decode cX11_plan 36 = .ok (.invokevirtual 250, 3) := by decide +kernel
theorem dX11_plan_39 : decode cX11_plan 39 = .ok (.ireturn, 1) := by decide +kernel
theorem dX11_leastPlan_0 : decode cX11_leastPlan 0 = .ok (.iload_n 1, 1) := by decide +kernel
theorem dX11_leastPlan_1 : decode cX11_leastPlan 1 = .ok (.invokestatic 234, 3) := by decide +kernel
theorem dX11_leastPlan_4 : decode cX11_leastPlan 4 = .ok (.ifCond .eq 23, 3) := by decide +kernel
theorem dX11_leastPlan_7 : decode cX11_leastPlan 7 = .ok (.iload_n 2, 1) := by decide +kernel
theorem dX11_leastPlan_8 : decode cX11_leastPlan 8 = .ok (.iconst 0, 1) := by decide +kernel
theorem dX11_leastPlan_9 : decode cX11_leastPlan 9 = .ok (.sipush 999, 3) := by decide +kernel
theorem dX11_leastPlan_12 : decode cX11_leastPlan 12 = .ok (.invokestatic 110, 3) := by decide +kernel
theorem dX11_leastPlan_15 : decode cX11_leastPlan 15 = .ok (.ifCond .eq 12, 3) := by decide +kernel
theorem dX11_leastPlan_18 : decode cX11_leastPlan 18 = .ok (.iload_n 3, 1) := by decide +kernel
theorem dX11_leastPlan_19 : decode cX11_leastPlan 19 = .ok (.iconst 1, 1) := by decide +kernel
theorem dX11_leastPlan_20 : decode cX11_leastPlan 20 = .ok (.iconst 4, 1) := by decide +kernel
theorem dX11_leastPlan_21 : decode cX11_leastPlan 21 = .ok (.invokestatic 110, 3) := by decide +kernel
theorem dX11_leastPlan_24 : decode cX11_leastPlan 24 = .ok (.ifCond .ne 5, 3) := by decide +kernel
theorem dX11_leastPlan_27 : decode cX11_leastPlan 27 = .ok (.iconst (-1), 1) := by decide +kernel
theorem dX11_leastPlan_28 : decode cX11_leastPlan 28 = .ok (.ireturn, 1) := by decide +kernel
theorem dX11_leastPlan_29 : decode cX11_leastPlan 29 = .ok (.aload_n 0, 1) := by decide +kernel
theorem dX11_leastPlan_30 : decode cX11_leastPlan 30 = .ok (.iload_n 1, 1) := by decide +kernel
theorem dX11_leastPlan_31 : decode cX11_leastPlan 31 = .ok (.invokevirtual 247, 3) := by decide +kernel
theorem dX11_leastPlan_34 : decode cX11_leastPlan 34 = .ok (.bipush (-2), 2) := by decide +kernel
theorem dX11_leastPlan_36 : decode cX11_leastPlan 36 = .ok (.istore 4, 2) := by decide +kernel
theorem dX11_leastPlan_38 : decode cX11_leastPlan 38 = .ok (.iconst 0, 1) := by decide +kernel
theorem dX11_leastPlan_39 : decode cX11_leastPlan 39 = .ok (.istore 5, 2) := by decide +kernel
theorem dX11_leastPlan_41 : decode cX11_leastPlan 41 = .ok (.iconst 0, 1) := by decide +kernel
theorem dX11_leastPlan_42 : decode cX11_leastPlan 42 = .ok (.istore 6, 2) := by decide +kernel
theorem dX11_leastPlan_44 : decode cX11_leastPlan 44 = .ok (.iload 6, 2) := by decide +kernel
theorem dX11_leastPlan_46 : decode cX11_leastPlan 46 = .ok (.iconst 1, 1) := by decide +kernel
theorem dX11_leastPlan_47 : decode cX11_leastPlan 47 = .ok (.aload_n 0, 1) := by decide +kernel
theorem dX11_leastPlan_48 : decode cX11_leastPlan 48 = .ok (.getfield 91, 3) := by decide +kernel
theorem dX11_leastPlan_51 : decode cX11_leastPlan 51 = .ok (.ishl, 1) := by decide +kernel
theorem dX11_leastPlan_52 : decode cX11_leastPlan 52 = .ok (.if_icmp .ge 85, 3) := by decide +kernel
theorem dX11_leastPlan_55 : decode cX11_leastPlan 55 = .ok (.iload 6, 2) := by decide +kernel
theorem dX11_leastPlan_57 : decode cX11_leastPlan 57 = .ok (.invokestatic 253, 3) := by decide +kernel
theorem dX11_leastPlan_60 : decode cX11_leastPlan 60 = .ok (.istore 7, 2) := by decide +kernel
theorem dX11_leastPlan_62 : decode cX11_leastPlan 62 = .ok (.iload 7, 2) := by decide +kernel
theorem dX11_leastPlan_64 : decode cX11_leastPlan 64 = .ok (.iload_n 3, 1) := by decide +kernel
theorem dX11_leastPlan_65 : decode cX11_leastPlan 65 = .ok (.if_icmp .le 8, 3) := by decide +kernel
theorem dX11_leastPlan_68 : decode cX11_leastPlan 68 = .ok (.bipush (-2), 2) := by decide +kernel
theorem dX11_leastPlan_70 : decode cX11_leastPlan 70 = .ok (.goto 10, 3) := by decide +kernel
theorem dX11_leastPlan_73 : decode cX11_leastPlan 73 = .ok (.aload_n 0, 1) := by decide +kernel
theorem dX11_leastPlan_74 : decode cX11_leastPlan 74 = .ok (.iload 6, 2) := by decide +kernel
theorem dX11_leastPlan_76 : decode cX11_leastPlan 76 = .ok (.iload_n 2, 1) := by decide +kernel
theorem dX11_leastPlan_77 : decode cX11_leastPlan 77 = .ok (.invokevirtual 250, 3) := by decide +kernel
theorem dX11_leastPlan_80 : decode cX11_leastPlan 80 = .ok (.istore 8, 2) := by decide +kernel
theorem dX11_leastPlan_82 : decode cX11_leastPlan 82 = .ok (.iload 8, 2) := by decide +kernel
theorem dX11_leastPlan_84 : decode cX11_leastPlan 84 = .ok (.bipush (-2), 2) := by decide +kernel
theorem dX11_leastPlan_86 : decode cX11_leastPlan 86 = .ok (.if_icmp .ne 6, 3) := by decide +kernel
theorem dX11_leastPlan_89 : decode cX11_leastPlan 89 = .ok (.goto 42, 3) := by decide +kernel
theorem dX11_leastPlan_92 : decode cX11_leastPlan 92 = .ok (.iload 4, 2) := by decide +kernel
theorem dX11_leastPlan_94 : decode cX11_leastPlan 94 = .ok (.bipush (-2), 2) := by decide +kernel
theorem dX11_leastPlan_96 : decode cX11_leastPlan 96 = .ok (.if_icmp .eq 27, 3) := by decide +kernel
theorem dX11_leastPlan_99 : decode cX11_leastPlan 99 = .ok (.iload 8, 2) := by decide +kernel
theorem dX11_leastPlan_101 : decode cX11_leastPlan 101 = .ok (.iload 5, 2) := by decide +kernel
theorem dX11_leastPlan_103 : decode cX11_leastPlan 103 = .ok (.if_icmp .lt 20, 3) := by decide +kernel
theorem dX11_leastPlan_106 : decode cX11_leastPlan 106 = .ok (.iload 8, 2) := by decide +kernel
theorem dX11_leastPlan_108 : decode cX11_leastPlan 108 = .ok (.iload 5, 2) := by decide +kernel
theorem dX11_leastPlan_110 : decode cX11_leastPlan 110 = .ok (.if_icmp .ne 21, 3) := by decide +kernel
theorem dX11_leastPlan_113 : decode cX11_leastPlan 113 = .ok (.iload 7, 2) := by decide +kernel
theorem dX11_leastPlan_115 : decode cX11_leastPlan 115 = .ok (.iload 4, 2) := by decide +kernel
theorem dX11_leastPlan_117 : decode cX11_leastPlan 117 = .ok (.invokestatic 253, 3) := by decide +kernel
theorem dX11_leastPlan_120 : decode cX11_leastPlan 120 = .ok (.if_icmp .ge 11, 3) := by decide +kernel
theorem dX11_leastPlan_123 : decode cX11_leastPlan 123 = .ok (.iload 6, 2) := by decide +kernel
theorem dX11_leastPlan_125 : decode cX11_leastPlan 125 = .ok (.istore 4, 2) := by decide +kernel
theorem dX11_leastPlan_127 : decode cX11_leastPlan 127 = .ok (.iload 8, 2) := by decide +kernel
theorem dX11_leastPlan_129 : decode cX11_leastPlan 129 = .ok (.istore 5, 2) := by decide +kernel
theorem dX11_leastPlan_131 : decode cX11_leastPlan 131 = .ok (.iinc 6 1, 3) := by decide +kernel
theorem dX11_leastPlan_134 : decode cX11_leastPlan 134 = .ok (.goto (-90), 3) := by decide +kernel
theorem dX11_leastPlan_137 : decode cX11_leastPlan 137 = .ok (.iload 4, 2) := by decide +kernel
theorem dX11_leastPlan_139 : decode cX11_leastPlan 139 = .ok (.ireturn, 1) := by decide +kernel
theorem dX11_goesThrough_0 : decode cX11_goesThrough 0 = .ok (.aload_n 0, 1) := by decide +kernel
theorem dX11_goesThrough_1 : decode cX11_goesThrough 1 = .ok (.iload_n 1, 1) := by decide +kernel
theorem dX11_goesThrough_2 : decode cX11_goesThrough 2 = .ok (.invokevirtual 244, 3) := by decide +kernel
theorem dX11_goesThrough_5 : decode cX11_goesThrough 5 = .ok (.ifCond .eq 18, 3) := by decide +kernel
theorem dX11_goesThrough_8 : decode cX11_goesThrough 8 = .ok (.aload_n 0, 1) := by decide +kernel
theorem dX11_goesThrough_9 : decode cX11_goesThrough 9 = .ok (.iload_n 2, 1) := by decide +kernel
theorem dX11_goesThrough_10 : decode cX11_goesThrough 10 = .ok (.invokevirtual 145, 3) := by decide +kernel
theorem dX11_goesThrough_13 : decode cX11_goesThrough 13 = .ok (.ifnull 10, 3) := by decide +kernel
theorem dX11_goesThrough_16 : decode cX11_goesThrough 16 = .ok (.iload_n 3, 1) := by decide +kernel
theorem dX11_goesThrough_17 : decode cX11_goesThrough 17 = .ok (.invokestatic 234, 3) := by decide +kernel
theorem dX11_goesThrough_20 : decode cX11_goesThrough 20 = .ok (.ifCond .ne 5, 3) := by decide +kernel
theorem dX11_goesThrough_23 : decode cX11_goesThrough 23 = .ok (.iconst (-1), 1) := by decide +kernel
theorem dX11_goesThrough_24 : decode cX11_goesThrough 24 = .ok (.ireturn, 1) := by decide +kernel
theorem dX11_goesThrough_25 : decode cX11_goesThrough 25 = .ok (.aload_n 0, 1) := by decide +kernel
theorem dX11_goesThrough_26 : decode cX11_goesThrough 26 = .ok (.iload_n 3, 1) := by decide +kernel
theorem dX11_goesThrough_27 : decode cX11_goesThrough 27 = .ok (.invokevirtual 247, 3) := by decide +kernel
theorem dX11_goesThrough_30 : decode cX11_goesThrough 30 = .ok (.aload_n 0, 1) := by decide +kernel
theorem dX11_goesThrough_31 : decode cX11_goesThrough 31 = .ok (.iload_n 2, 1) := by decide +kernel
theorem dX11_goesThrough_32 : decode cX11_goesThrough 32 = .ok (.aload_n 0, 1) := by decide +kernel
theorem dX11_goesThrough_33 : decode cX11_goesThrough 33 = .ok (.iload_n 1, 1) := by decide +kernel
theorem dX11_goesThrough_34 : decode cX11_goesThrough 34 = .ok (.invokevirtual 258, 3) := by decide +kernel
theorem dX11_goesThrough_37 : decode cX11_goesThrough 37 = .ok (.invokevirtual 261, 3) := by decide +kernel
theorem dX11_goesThrough_40 : decode cX11_goesThrough 40 = .ok (.ireturn, 1) := by decide +kernel
theorem dX11_learnPrices_0 : decode cX11_learnPrices 0 = .ok (.iconst 0, 1) := by decide +kernel
theorem dX11_learnPrices_1 : decode cX11_learnPrices 1 = .ok (.istore_n 2, 1) := by decide +kernel
theorem dX11_learnPrices_2 : decode cX11_learnPrices 2 = .ok (.iload_n 2, 1) := by decide +kernel
theorem dX11_learnPrices_3 : decode cX11_learnPrices 3 = .ok (.aload_n 0, 1) := by decide +kernel
theorem dX11_learnPrices_4 : decode cX11_learnPrices 4 = .ok (.getfield 91, 3) := by decide +kernel
theorem dX11_learnPrices_7 : decode cX11_learnPrices 7 = .ok (.if_icmp .ge 65, 3) := by decide +kernel
theorem dX11_learnPrices_10 : decode cX11_learnPrices 10 = .ok (.aload_n 0, 1) := by decide +kernel
theorem dX11_learnPrices_11 : decode cX11_learnPrices 11 = .ok (.getfield 49, 3) := by decide +kernel
theorem dX11_learnPrices_14 : decode cX11_learnPrices 14 = .ok (.iload_n 2, 1) := by decide +kernel
theorem dX11_learnPrices_15 : decode cX11_learnPrices 15 = .ok (.aload_n 0, 1) := by decide +kernel
theorem dX11_learnPrices_16 : decode cX11_learnPrices 16 = .ok (.getfield 40, 3) := by decide +kernel
theorem dX11_learnPrices_19 : decode cX11_learnPrices 19 = .ok (.iload_n 2, 1) := by decide +kernel
theorem dX11_learnPrices_20 : decode cX11_learnPrices 20 = .ok (.aaload, 1) := by decide +kernel
theorem dX11_learnPrices_21 : decode cX11_learnPrices 21 = .ok (.iload_n 1, 1) := by decide +kernel
theorem dX11_learnPrices_22 : decode cX11_learnPrices 22 = .ok (.invokevirtual 241, 3) := by decide +kernel
theorem dX11_learnPrices_25 : decode cX11_learnPrices 25 = .ok (.iastore, 1) := by decide +kernel
theorem dX11_learnPrices_26 : decode cX11_learnPrices 26 = .ok (.iconst 0, 1) := by decide +kernel
theorem dX11_learnPrices_27 : decode cX11_learnPrices 27 = .ok (.istore_n 3, 1) := by decide +kernel
theorem dX11_learnPrices_28 : decode cX11_learnPrices 28 = .ok (.iload_n 3, 1) := by decide +kernel
theorem dX11_learnPrices_29 : decode cX11_learnPrices 29 = .ok (.aload_n 0, 1) := by decide +kernel
theorem dX11_learnPrices_30 : decode cX11_learnPrices 30 = .ok (.getfield 138, 3) := by decide +kernel
theorem dX11_learnPrices_33 : decode cX11_learnPrices 33 = .ok (.if_icmp .ge 33, 3) := by decide +kernel
theorem dX11_learnPrices_36 : decode cX11_learnPrices 36 = .ok (.aload_n 0, 1) := by decide +kernel
theorem dX11_learnPrices_37 : decode cX11_learnPrices 37 = .ok (.getfield 46, 3) := by decide +kernel
theorem dX11_learnPrices_40 : decode cX11_learnPrices 40 = .ok (.iload_n 3, 1) := by decide +kernel
theorem dX11_learnPrices_41 : decode cX11_learnPrices 41 = .ok (.aaload, 1) := by decide +kernel
theorem dX11_learnPrices_42 : decode cX11_learnPrices 42 = .ok (.iload_n 2, 1) := by decide +kernel
theorem dX11_learnPrices_43 : decode cX11_learnPrices 43 = .ok (.aload_n 0, 1) := by decide +kernel
theorem dX11_learnPrices_44 : decode cX11_learnPrices 44 = .ok (.getfield 40, 3) := by decide +kernel
theorem dX11_learnPrices_47 : decode cX11_learnPrices 47 = .ok (.iload_n 2, 1) := by decide +kernel
theorem dX11_learnPrices_48 : decode cX11_learnPrices 48 = .ok (.aaload, 1) := by decide +kernel
theorem dX11_learnPrices_49 : decode cX11_learnPrices 49 = .ok (.aload_n 0, 1) := by decide +kernel
theorem dX11_learnPrices_50 : decode cX11_learnPrices 50 = .ok (.getfield 29, 3) := by decide +kernel
theorem dX11_learnPrices_53 : decode cX11_learnPrices 53 = .ok (.iload_n 3, 1) := by decide +kernel
theorem dX11_learnPrices_54 : decode cX11_learnPrices 54 = .ok (.aaload, 1) := by decide +kernel
theorem dX11_learnPrices_55 : decode cX11_learnPrices 55 = .ok (.iload_n 1, 1) := by decide +kernel
theorem dX11_learnPrices_56 : decode cX11_learnPrices 56 = .ok (.invokevirtual 237, 3) := by decide +kernel
theorem dX11_learnPrices_59 : decode cX11_learnPrices 59 = .ok (.iastore, 1) := by decide +kernel
theorem dX11_learnPrices_60 : decode cX11_learnPrices 60 = .ok (.iinc 3 1, 3) := by decide +kernel
theorem dX11_learnPrices_63 : decode cX11_learnPrices 63 = .ok (.goto (-35), 3) := by decide +kernel
theorem dX11_learnPrices_66 : decode cX11_learnPrices 66 = .ok (.iinc 2 1, 3) := by decide +kernel
theorem dX11_learnPrices_69 : decode cX11_learnPrices 69 = .ok (.goto (-67), 3) := by decide +kernel
theorem dX11_learnPrices_72 : decode cX11_learnPrices 72 = .ok (.return_, 1) := by decide +kernel
theorem dX11_planned_0 : decode cX11_planned 0 = .ok (.aload_n 0, 1) := by decide +kernel
theorem dX11_planned_1 : decode cX11_planned 1 = .ok (.iload_n 1, 1) := by decide +kernel
theorem dX11_planned_2 : decode cX11_planned 2 = .ok (.invokevirtual 258, 3) := by decide +kernel
theorem dX11_planned_5 : decode cX11_planned 5 = .ok (.istore_n 3, 1) := by decide +kernel
theorem dX11_planned_6 : decode cX11_planned 6 = .ok (.lconst 0, 1) := by decide +kernel
theorem dX11_planned_7 : decode cX11_planned 7 = .ok (.lstore 4, 2) := by decide +kernel
theorem dX11_planned_9 : decode cX11_planned 9 = .ok (.iconst 0, 1) := by decide +kernel
theorem dX11_planned_10 : decode cX11_planned 10 = .ok (.istore 6, 2) := by decide +kernel
theorem dX11_planned_12 : decode cX11_planned 12 = .ok (.iload 6, 2) := by decide +kernel
theorem dX11_planned_14 : decode cX11_planned 14 = .ok (.aload_n 0, 1) := by decide +kernel
theorem dX11_planned_15 : decode cX11_planned 15 = .ok (.getfield 138, 3) := by decide +kernel
theorem dX11_planned_18 : decode cX11_planned 18 = .ok (.if_icmp .ge 72, 3) := by decide +kernel
theorem dX11_planned_21 : decode cX11_planned 21 = .ok (.aload_n 0, 1) := by decide +kernel
theorem dX11_planned_22 : decode cX11_planned 22 = .ok (.getfield 29, 3) := by decide +kernel
theorem dX11_planned_25 : decode cX11_planned 25 = .ok (.iload 6, 2) := by decide +kernel
theorem dX11_planned_27 : decode cX11_planned 27 = .ok (.aaload, 1) := by decide +kernel
theorem dX11_planned_28 : decode cX11_planned 28 = .ok (.getfield 149, 3) := by decide +kernel
theorem dX11_planned_31 : decode cX11_planned 31 = .ok (.ifCond .ne 6, 3) := by decide +kernel
theorem dX11_planned_34 : decode cX11_planned 34 = .ok (.goto 50, 3) := by decide +kernel
theorem dX11_planned_37 : decode cX11_planned 37 = .ok (.aload_n 0, 1) := by decide +kernel
theorem dX11_planned_38 : decode cX11_planned 38 = .ok (.iload 6, 2) := by decide +kernel
theorem dX11_planned_40 : decode cX11_planned 40 = .ok (.iload_n 3, 1) := by decide +kernel
theorem dX11_planned_41 : decode cX11_planned 41 = .ok (.invokevirtual 261, 3) := by decide +kernel
theorem dX11_planned_44 : decode cX11_planned 44 = .ok (.istore 7, 2) := by decide +kernel
theorem dX11_planned_46 : decode cX11_planned 46 = .ok (.iload 7, 2) := by decide +kernel
theorem dX11_planned_48 : decode cX11_planned 48 = .ok (.bipush (-2), 2) := by decide +kernel
theorem dX11_planned_50 : decode cX11_planned 50 = .ok (.if_icmp .ne 6, 3) := by decide +kernel
theorem dX11_planned_53 : decode cX11_planned 53 = .ok (.bipush (-2), 2) := by decide +kernel
theorem dX11_planned_55 : decode cX11_planned 55 = .ok (.ireturn, 1) := by decide +kernel
theorem dX11_planned_56 : decode cX11_planned 56 = .ok (.lload 4, 2) := by decide +kernel
theorem dX11_planned_58 : decode cX11_planned 58 = .ok (.aload_n 0, 1) := by decide +kernel
theorem dX11_planned_59 : decode cX11_planned 59 = .ok (.getfield 29, 3) := by decide +kernel
theorem dX11_planned_62 : decode cX11_planned 62 = .ok (.iload 6, 2) := by decide +kernel
theorem dX11_planned_64 : decode cX11_planned 64 = .ok (.aaload, 1) := by decide +kernel
theorem dX11_planned_65 : decode cX11_planned 65 = .ok (.getfield 149, 3) := by decide +kernel
theorem dX11_planned_68 : decode cX11_planned 68 = .ok (.i2l, 1) := by decide +kernel
theorem dX11_planned_69 : decode cX11_planned 69 = .ok (.aload_n 0, 1) := by decide +kernel
theorem dX11_planned_70 : decode cX11_planned 70 = .ok (.getfield 46, 3) := by decide +kernel
theorem dX11_planned_73 : decode cX11_planned 73 = .ok (.iload 6, 2) := by decide +kernel
theorem dX11_planned_75 : decode cX11_planned 75 = .ok (.aaload, 1) := by decide +kernel
theorem dX11_planned_76 : decode cX11_planned 76 = .ok (.iload 7, 2) := by decide +kernel
theorem dX11_planned_78 : decode cX11_planned 78 = .ok (.iaload, 1) := by decide +kernel
theorem dX11_planned_79 : decode cX11_planned 79 = .ok (.i2l, 1) := by decide +kernel
theorem dX11_planned_80 : decode cX11_planned 80 = .ok (.lmul, 1) := by decide +kernel
theorem dX11_planned_81 : decode cX11_planned 81 = .ok (.ladd, 1) := by decide +kernel
theorem dX11_planned_82 : decode cX11_planned 82 = .ok (.lstore 4, 2) := by decide +kernel
theorem dX11_planned_84 : decode cX11_planned 84 = .ok (.iinc 6 1, 3) := by decide +kernel
theorem dX11_planned_87 : decode cX11_planned 87 = .ok (.goto (-75), 3) := by decide +kernel
theorem dX11_planned_90 : decode cX11_planned 90 = .ok (.iconst 0, 1) := by decide +kernel
theorem dX11_planned_91 : decode cX11_planned 91 = .ok (.istore 6, 2) := by decide +kernel
theorem dX11_planned_93 : decode cX11_planned 93 = .ok (.iload 6, 2) := by decide +kernel
theorem dX11_planned_95 : decode cX11_planned 95 = .ok (.iload_n 3, 1) := by decide +kernel
theorem dX11_planned_96 : decode cX11_planned 96 = .ok (.if_icmp .ge 30, 3) := by decide +kernel
theorem dX11_planned_99 : decode cX11_planned 99 = .ok (.lload 4, 2) := by decide +kernel
theorem dX11_planned_101 : decode cX11_planned 101 = .ok (.iload_n 2, 1) := by decide +kernel
theorem dX11_planned_102 : decode cX11_planned 102 = .ok (.i2l, 1) := by decide +kernel
theorem dX11_planned_103 : decode cX11_planned 103 = .ok (.aload_n 0, 1) := by decide +kernel
theorem dX11_planned_104 : decode cX11_planned 104 = .ok (.getfield 49, 3) := by decide +kernel
theorem dX11_planned_107 : decode cX11_planned 107 = .ok (.aload_n 0, 1) := by decide +kernel
theorem dX11_planned_108 : decode cX11_planned 108 = .ok (.getfield 52, 3) := by decide +kernel
theorem dX11_planned_111 : decode cX11_planned 111 = .ok (.iload 6, 2) := by decide +kernel
theorem dX11_planned_113 : decode cX11_planned 113 = .ok (.iaload, 1) := by decide +kernel
theorem dX11_planned_114 : decode cX11_planned 114 = .ok (.iaload, 1) := by decide +kernel
theorem dX11_planned_115 : decode cX11_planned 115 = .ok (.i2l, 1) := by decide +kernel
theorem dX11_planned_116 : decode cX11_planned 116 = .ok (.lmul, 1) := by decide +kernel
theorem dX11_planned_117 : decode cX11_planned 117 = .ok (.ladd, 1) := by decide +kernel
theorem dX11_planned_118 : decode cX11_planned 118 = .ok (.lstore 4, 2) := by decide +kernel
theorem dX11_planned_120 : decode cX11_planned 120 = .ok (.iinc 6 1, 3) := by decide +kernel
theorem dX11_planned_123 : decode cX11_planned 123 = .ok (.goto (-30), 3) := by decide +kernel
theorem dX11_planned_126 : decode cX11_planned 126 = .ok (.lload 4, 2) := by decide +kernel
theorem dX11_planned_128 : decode cX11_planned 128 = .ok (.ldc2_w 264, 3) := by decide +kernel
theorem dX11_planned_131 : decode cX11_planned 131 = .ok (.invokestatic 266, 3) := by decide +kernel
theorem dX11_planned_134 : decode cX11_planned 134 = .ok (.l2i, 1) := by decide +kernel
theorem dX11_planned_135 : decode cX11_planned 135 = .ok (.ireturn, 1) := by decide +kernel
theorem dX11_choose_0 : decode cX11_choose 0 = .ok (.iconst 0, 1) := by decide +kernel
theorem dX11_choose_1 : decode cX11_choose 1 = .ok (.istore_n 2, 1) := by decide +kernel
theorem dX11_choose_2 : decode cX11_choose 2 = .ok (.iconst 0, 1) := by decide +kernel
theorem dX11_choose_3 : decode cX11_choose 3 = .ok (.istore_n 3, 1) := by decide +kernel
theorem dX11_choose_4 : decode cX11_choose 4 = .ok (.iload_n 3, 1) := by decide +kernel
theorem dX11_choose_5 : decode cX11_choose 5 = .ok (.aload_n 0, 1) := by decide +kernel
theorem dX11_choose_6 : decode cX11_choose 6 = .ok (.getfield 91, 3) := by decide +kernel
theorem dX11_choose_9 : decode cX11_choose 9 = .ok (.if_icmp .ge 28, 3) := by decide +kernel
theorem dX11_choose_12 : decode cX11_choose 12 = .ok (.iload_n 1, 1) := by decide +kernel
theorem dX11_choose_13 : decode cX11_choose 13 = .ok (.iload_n 3, 1) := by decide +kernel
theorem dX11_choose_14 : decode cX11_choose 14 = .ok (.ishr, 1) := by decide +kernel
theorem dX11_choose_15 : decode cX11_choose 15 = .ok (.iconst 1, 1) := by decide +kernel
theorem dX11_choose_16 : decode cX11_choose 16 = .ok (.iand, 1) := by decide +kernel
theorem dX11_choose_17 : decode cX11_choose 17 = .ok (.iconst 1, 1) := by decide +kernel
theorem dX11_choose_18 : decode cX11_choose 18 = .ok (.if_icmp .ne 13, 3) := by decide +kernel
theorem dX11_choose_21 : decode cX11_choose 21 = .ok (.aload_n 0, 1) := by decide +kernel
theorem dX11_choose_22 : decode cX11_choose 22 = .ok (.getfield 52, 3) := by decide +kernel
theorem dX11_choose_25 : decode cX11_choose 25 = .ok (.iload_n 2, 1) := by decide +kernel
theorem dX11_choose_26 : decode cX11_choose 26 = .ok (.iload_n 3, 1) := by decide +kernel
theorem dX11_choose_27 : decode cX11_choose 27 = .ok (.iastore, 1) := by decide +kernel
theorem dX11_choose_28 : decode cX11_choose 28 = .ok (.iinc 2 1, 3) := by decide +kernel
theorem dX11_choose_31 : decode cX11_choose 31 = .ok (.iinc 3 1, 3) := by decide +kernel
theorem dX11_choose_34 : decode cX11_choose 34 = .ok (.goto (-30), 3) := by decide +kernel
theorem dX11_choose_37 : decode cX11_choose 37 = .ok (.iload_n 2, 1) := by decide +kernel
theorem dX11_choose_38 : decode cX11_choose 38 = .ok (.ireturn, 1) := by decide +kernel
theorem dX11_cheapest_0 : decode cX11_cheapest 0 = .ok (.bipush (-2), 2) := by decide +kernel
theorem dX11_cheapest_2 : decode cX11_cheapest 2 = .ok (.istore_n 3, 1) := by decide +kernel
theorem dX11_cheapest_3 : decode cX11_cheapest 3 = .ok (.iconst 0, 1) := by decide +kernel
theorem dX11_cheapest_4 : decode cX11_cheapest 4 = .ok (.istore 4, 2) := by decide +kernel
theorem dX11_cheapest_6 : decode cX11_cheapest 6 = .ok (.iload 4, 2) := by decide +kernel
theorem dX11_cheapest_8 : decode cX11_cheapest 8 = .ok (.iload_n 2, 1) := by decide +kernel
theorem dX11_cheapest_9 : decode cX11_cheapest 9 = .ok (.if_icmp .ge 59, 3) := by decide +kernel
theorem dX11_cheapest_12 : decode cX11_cheapest 12 = .ok (.aload_n 0, 1) := by decide +kernel
theorem dX11_cheapest_13 : decode cX11_cheapest 13 = .ok (.getfield 46, 3) := by decide +kernel
theorem dX11_cheapest_16 : decode cX11_cheapest 16 = .ok (.iload_n 1, 1) := by decide +kernel
theorem dX11_cheapest_17 : decode cX11_cheapest 17 = .ok (.aaload, 1) := by decide +kernel
theorem dX11_cheapest_18 : decode cX11_cheapest 18 = .ok (.aload_n 0, 1) := by decide +kernel
theorem dX11_cheapest_19 : decode cX11_cheapest 19 = .ok (.getfield 52, 3) := by decide +kernel
theorem dX11_cheapest_22 : decode cX11_cheapest 22 = .ok (.iload 4, 2) := by decide +kernel
theorem dX11_cheapest_24 : decode cX11_cheapest 24 = .ok (.iaload, 1) := by decide +kernel
theorem dX11_cheapest_25 : decode cX11_cheapest 25 = .ok (.iaload, 1) := by decide +kernel
theorem dX11_cheapest_26 : decode cX11_cheapest 26 = .ok (.istore 5, 2) := by decide +kernel
theorem dX11_cheapest_28 : decode cX11_cheapest 28 = .ok (.iload 5, 2) := by decide +kernel
theorem dX11_cheapest_30 : decode cX11_cheapest 30 = .ok (.bipush (-2), 2) := by decide +kernel
theorem dX11_cheapest_32 : decode cX11_cheapest 32 = .ok (.if_icmp .eq 30, 3) := by decide +kernel
theorem dX11_cheapest_35 : decode cX11_cheapest 35 = .ok (.iload_n 3, 1) := by decide +kernel
theorem dX11_cheapest_36 : decode cX11_cheapest 36 = .ok (.bipush (-2), 2) := by decide +kernel
theorem dX11_cheapest_38 : decode cX11_cheapest 38 = .ok (.if_icmp .eq 16, 3) := by decide +kernel
theorem dX11_cheapest_41 : decode cX11_cheapest 41 = .ok (.iload 5, 2) := by decide +kernel
theorem dX11_cheapest_43 : decode cX11_cheapest 43 = .ok (.aload_n 0, 1) := by decide +kernel
theorem dX11_cheapest_44 : decode cX11_cheapest 44 = .ok (.getfield 46, 3) := by decide +kernel
theorem dX11_cheapest_47 : decode cX11_cheapest 47 = .ok (.iload_n 1, 1) := by decide +kernel
theorem dX11_cheapest_48 : decode cX11_cheapest 48 = .ok (.aaload, 1) := by decide +kernel
theorem dX11_cheapest_49 : decode cX11_cheapest 49 = .ok (.iload_n 3, 1) := by decide +kernel
theorem dX11_cheapest_50 : decode cX11_cheapest 50 = .ok (.iaload, 1) := by decide +kernel
theorem dX11_cheapest_51 : decode cX11_cheapest 51 = .ok (.if_icmp .ge 11, 3) := by decide +kernel
theorem dX11_cheapest_54 : decode cX11_cheapest 54 = .ok (.aload_n 0, 1) := by decide +kernel
theorem dX11_cheapest_55 : decode cX11_cheapest 55 = .ok (.getfield 52, 3) := by decide +kernel
theorem dX11_cheapest_58 : decode cX11_cheapest 58 = .ok (.iload 4, 2) := by decide +kernel
theorem dX11_cheapest_60 : decode cX11_cheapest 60 = .ok (.iaload, 1) := by decide +kernel
theorem dX11_cheapest_61 : decode cX11_cheapest 61 = .ok (.istore_n 3, 1) := by decide +kernel
theorem dX11_cheapest_62 : decode cX11_cheapest 62 = .ok (.iinc 4 1, 3) := by decide +kernel
theorem dX11_cheapest_65 : decode cX11_cheapest 65 = .ok (.goto (-59), 3) := by decide +kernel
theorem dX11_cheapest_68 : decode cX11_cheapest 68 = .ok (.iload_n 3, 1) := by decide +kernel
theorem dX11_cheapest_69 : decode cX11_cheapest 69 = .ok (.ireturn, 1) := by decide +kernel
theorem dX11_drift_0 : decode cX11_drift 0 = .ok (.iload_n 1, 1) := by decide +kernel
theorem dX11_drift_1 : decode cX11_drift 1 = .ok (.iconst 0, 1) := by decide +kernel
theorem dX11_drift_2 : decode cX11_drift 2 = .ok (.sipush 999, 3) := by decide +kernel
theorem dX11_drift_5 : decode cX11_drift 5 = .ok (.invokestatic 110, 3) := by decide +kernel
theorem dX11_drift_8 : decode cX11_drift 8 = .ok (.ifCond .eq 14, 3) := by decide +kernel
theorem dX11_drift_11 : decode cX11_drift 11 = .ok (.iload_n 2, 1) := by decide +kernel
theorem dX11_drift_12 : decode cX11_drift 12 = .ok (.iconst 0, 1) := by decide +kernel
theorem dX11_drift_13 : decode cX11_drift 13 = .ok (.sipush 999, 3) := by decide +kernel
theorem dX11_drift_16 : decode cX11_drift 16 = .ok (.invokestatic 110, 3) := by decide +kernel
theorem dX11_drift_19 : decode cX11_drift 19 = .ok (.ifCond .ne 5, 3) := by decide +kernel
theorem dX11_drift_22 : decode cX11_drift 22 = .ok (.iconst (-1), 1) := by decide +kernel
theorem dX11_drift_23 : decode cX11_drift 23 = .ok (.ireturn, 1) := by decide +kernel
theorem dX11_drift_24 : decode cX11_drift 24 = .ok (.aload_n 0, 1) := by decide +kernel
theorem dX11_drift_25 : decode cX11_drift 25 = .ok (.getfield 19, 3) := by decide +kernel
theorem dX11_drift_28 : decode cX11_drift 28 = .ok (.getfield 272, 3) := by decide +kernel
theorem dX11_drift_31 : decode cX11_drift 31 = .ok (.bipush 12, 2) := by decide +kernel
theorem dX11_drift_33 : decode cX11_drift 33 = .ok (.if_icmp .lt 8, 3) := by decide +kernel
theorem dX11_drift_36 : decode cX11_drift 36 = .ok (.bipush (-3), 2) := by decide +kernel
theorem dX11_drift_38 : decode cX11_drift 38 = .ok (.goto 12, 3) := by decide +kernel
theorem dX11_drift_41 : decode cX11_drift 41 = .ok (.aload_n 0, 1) := by decide +kernel
theorem dX11_drift_42 : decode cX11_drift 42 = .ok (.getfield 19, 3) := by decide +kernel
theorem dX11_drift_45 : decode cX11_drift 45 = .ok (.iload_n 1, 1) := by decide +kernel
theorem dX11_drift_46 : decode cX11_drift 46 = .ok (.iload_n 2, 1) := by decide +kernel
theorem dX11_drift_47 : decode cX11_drift 47 = .ok (.invokevirtual 275, 3) := by decide +kernel
theorem dX11_drift_50 : decode cX11_drift 50 = .ok (.ireturn, 1) := by decide +kernel
theorem dX11_drifted_0 : decode cX11_drifted 0 = .ok (.iload_n 1, 1) := by decide +kernel
theorem dX11_drifted_1 : decode cX11_drifted 1 = .ok (.iconst 0, 1) := by decide +kernel
theorem dX11_drifted_2 : decode cX11_drifted 2 = .ok (.sipush 999, 3) := by decide +kernel
theorem dX11_drifted_5 : decode cX11_drifted 5 = .ok (.invokestatic 110, 3) := by decide +kernel
theorem dX11_drifted_8 : decode cX11_drifted 8 = .ok (.ifCond .eq 13, 3) := by decide +kernel
theorem dX11_drifted_11 : decode cX11_drifted 11 = .ok (.aload_n 0, 1) := by decide +kernel
theorem dX11_drifted_12 : decode cX11_drifted 12 = .ok (.getfield 19, 3) := by decide +kernel
theorem dX11_drifted_15 : decode cX11_drifted 15 = .ok (.getfield 272, 3) := by decide +kernel
theorem dX11_drifted_18 : decode cX11_drifted 18 = .ok (.ifCond .ne 5, 3) := by decide +kernel
theorem dX11_drifted_21 : decode cX11_drifted 21 = .ok (.iconst (-1), 1) := by decide +kernel
theorem dX11_drifted_22 : decode cX11_drifted 22 = .ok (.ireturn, 1) := by decide +kernel
theorem dX11_drifted_23 : decode cX11_drifted 23 = .ok (.iload_n 2, 1) := by decide +kernel
theorem dX11_drifted_24 : decode cX11_drifted 24 = .ok (.tableswitch 57 0 2 #[28, 37, 47], 28) := by decide +kernel
theorem dX11_drifted_52 : decode cX11_drifted 52 = .ok (.aload_n 0, 1) := by decide +kernel
theorem dX11_drifted_53 : decode cX11_drifted 53 = .ok (.getfield 19, 3) := by decide +kernel
theorem dX11_drifted_56 : decode cX11_drifted 56 = .ok (.iload_n 1, 1) := by decide +kernel
theorem dX11_drifted_57 : decode cX11_drifted 57 = .ok (.invokevirtual 278, 3) := by decide +kernel
theorem dX11_drifted_60 : decode cX11_drifted 60 = .ok (.ireturn, 1) := by decide +kernel
theorem dX11_drifted_61 : decode cX11_drifted 61 = .ok (.aload_n 0, 1) := by decide +kernel
theorem dX11_drifted_62 : decode cX11_drifted 62 = .ok (.getfield 19, 3) := by decide +kernel
theorem dX11_drifted_65 : decode cX11_drifted 65 = .ok (.iload_n 1, 1) := by decide +kernel
theorem dX11_drifted_66 : decode cX11_drifted 66 = .ok (.iconst 0, 1) := by decide +kernel
theorem dX11_drifted_67 : decode cX11_drifted 67 = .ok (.invokevirtual 281, 3) := by decide +kernel
theorem dX11_drifted_70 : decode cX11_drifted 70 = .ok (.ireturn, 1) := by decide +kernel
theorem dX11_drifted_71 : decode cX11_drifted 71 = .ok (.aload_n 0, 1) := by decide +kernel
theorem dX11_drifted_72 : decode cX11_drifted 72 = .ok (.getfield 19, 3) := by decide +kernel
theorem dX11_drifted_75 : decode cX11_drifted 75 = .ok (.iload_n 1, 1) := by decide +kernel
theorem dX11_drifted_76 : decode cX11_drifted 76 = .ok (.iconst 1, 1) := by decide +kernel
theorem dX11_drifted_77 : decode cX11_drifted 77 = .ok (.invokevirtual 281, 3) := by decide +kernel
theorem dX11_drifted_80 : decode cX11_drifted 80 = .ok (.ireturn, 1) := by decide +kernel
theorem dX11_drifted_81 : decode cX11_drifted 81 = .ok (.iconst (-1), 1) := by decide +kernel
theorem dX11_drifted_82 : decode cX11_drifted 82 = .ok (.ireturn, 1) := by decide +kernel
theorem dX11_undrift_0 : decode cX11_undrift 0 = .ok (.aload_n 0, 1) := by decide +kernel
theorem dX11_undrift_1 : decode cX11_undrift 1 = .ok (.getfield 19, 3) := by decide +kernel
theorem dX11_undrift_4 : decode cX11_undrift 4 = .ok (.getfield 272, 3) := by decide +kernel
theorem dX11_undrift_7 : decode cX11_undrift 7 = .ok (.istore_n 1, 1) := by decide +kernel
theorem dX11_undrift_8 : decode cX11_undrift 8 = .ok (.aload_n 0, 1) := by decide +kernel
theorem dX11_undrift_9 : decode cX11_undrift 9 = .ok (.getfield 19, 3) := by decide +kernel
theorem dX11_undrift_12 : decode cX11_undrift 12 = .ok (.iconst 0, 1) := by decide +kernel
theorem dX11_undrift_13 : decode cX11_undrift 13 = .ok (.putfield 272, 3) := by decide +kernel
theorem dX11_undrift_16 : decode cX11_undrift 16 = .ok (.iload_n 1, 1) := by decide +kernel
theorem dX11_undrift_17 : decode cX11_undrift 17 = .ok (.ireturn, 1) := by decide +kernel
theorem dX11_cell_0 : decode cX11_cell 0 = .ok (.iload_n 1, 1) := by decide +kernel
theorem dX11_cell_1 : decode cX11_cell 1 = .ok (.invokestatic 75, 3) := by decide +kernel
theorem dX11_cell_4 : decode cX11_cell 4 = .ok (.ifCond .ne 5, 3) := by decide +kernel
theorem dX11_cell_7 : decode cX11_cell 7 = .ok (.iconst (-1), 1) := by decide +kernel
theorem dX11_cell_8 : decode cX11_cell 8 = .ok (.ireturn, 1) := by decide +kernel
theorem dX11_cell_9 : decode cX11_cell 9 = .ok (.aload_n 0, 1) := by decide +kernel
theorem dX11_cell_10 : decode cX11_cell 10 = .ok (.getfield 19, 3) := by decide +kernel
theorem dX11_cell_13 : decode cX11_cell 13 = .ok (.getfield 285, 3) := by decide +kernel
theorem dX11_cell_16 : decode cX11_cell 16 = .ok (.bipush 60, 2) := by decide +kernel
theorem dX11_cell_18 : decode cX11_cell 18 = .ok (.if_icmp .lt 8, 3) := by decide +kernel
theorem dX11_cell_21 : decode cX11_cell 21 = .ok (.bipush (-3), 2) := by decide +kernel
theorem dX11_cell_23 : decode cX11_cell 23 = .ok (.goto 11, 3) := by decide +kernel
theorem dX11_cell_26 : decode cX11_cell 26 = .ok (.aload_n 0, 1) := by decide +kernel
theorem dX11_cell_27 : decode cX11_cell 27 = .ok (.getfield 19, 3) := by decide +kernel
theorem dX11_cell_30 : decode cX11_cell 30 = .ok (.iload_n 1, 1) := by decide +kernel
theorem dX11_cell_31 : decode cX11_cell 31 = .ok (.invokevirtual 288, 3) := by decide +kernel
theorem dX11_cell_34 : decode cX11_cell 34 = .ok (.ireturn, 1) := by decide +kernel
theorem dX11_misses_0 : decode cX11_misses 0 = .ok (.iload_n 1, 1) := by decide +kernel
theorem dX11_misses_1 : decode cX11_misses 1 = .ok (.iconst 1, 1) := by decide +kernel
theorem dX11_misses_2 : decode cX11_misses 2 = .ok (.bipush 8, 2) := by decide +kernel
theorem dX11_misses_4 : decode cX11_misses 4 = .ok (.invokestatic 110, 3) := by decide +kernel
theorem dX11_misses_7 : decode cX11_misses 7 = .ok (.ifCond .eq 23, 3) := by decide +kernel
theorem dX11_misses_10 : decode cX11_misses 10 = .ok (.iload_n 2, 1) := by decide +kernel
theorem dX11_misses_11 : decode cX11_misses 11 = .ok (.iconst 1, 1) := by decide +kernel
theorem dX11_misses_12 : decode cX11_misses 12 = .ok (.bipush 8, 2) := by decide +kernel
theorem dX11_misses_14 : decode cX11_misses 14 = .ok (.invokestatic 110, 3) := by decide +kernel
theorem dX11_misses_17 : decode cX11_misses 17 = .ok (.ifCond .eq 13, 3) := by decide +kernel
theorem dX11_misses_20 : decode cX11_misses 20 = .ok (.aload_n 0, 1) := by decide +kernel
theorem dX11_misses_21 : decode cX11_misses 21 = .ok (.getfield 19, 3) := by decide +kernel
theorem dX11_misses_24 : decode cX11_misses 24 = .ok (.getfield 285, 3) := by decide +kernel
theorem dX11_misses_27 : decode cX11_misses 27 = .ok (.ifCond .ne 5, 3) := by decide +kernel
theorem dX11_misses_30 : decode cX11_misses 30 = .ok (.iconst (-1), 1) := by decide +kernel
theorem dX11_misses_31 : decode cX11_misses 31 = .ok (.ireturn, 1) := by decide +kernel
theorem dX11_misses_32 : decode cX11_misses 32 = .ok (.iload_n 3, 1) := by decide +kernel
theorem dX11_misses_33 : decode cX11_misses 33 = .ok (.lookupswitch 47 #[(0, 27), (1, 37)], 27) := by decide +kernel
theorem dX11_misses_60 : decode cX11_misses 60 = .ok (.aload_n 0, 1) := by decide +kernel
theorem dX11_misses_61 : decode cX11_misses 61 = .ok (.getfield 19, 3) := by decide +kernel
theorem dX11_misses_64 : decode cX11_misses 64 = .ok (.iload_n 1, 1) := by decide +kernel
theorem dX11_misses_65 : decode cX11_misses 65 = .ok (.iload_n 2, 1) := by decide +kernel
theorem dX11_misses_66 : decode cX11_misses 66 = .ok (.invokevirtual 291, 3) := by decide +kernel
theorem dX11_misses_69 : decode cX11_misses 69 = .ok (.ireturn, 1) := by decide +kernel
theorem dX11_misses_70 : decode cX11_misses 70 = .ok (.aload_n 0, 1) := by decide +kernel
theorem dX11_misses_71 : decode cX11_misses 71 = .ok (.getfield 19, 3) := by decide +kernel
theorem dX11_misses_74 : decode cX11_misses 74 = .ok (.iload_n 1, 1) := by decide +kernel
theorem dX11_misses_75 : decode cX11_misses 75 = .ok (.iload_n 2, 1) := by decide +kernel
theorem dX11_misses_76 : decode cX11_misses 76 = .ok (.invokevirtual 294, 3) := by decide +kernel
theorem dX11_misses_79 : decode cX11_misses 79 = .ok (.ireturn, 1) := by decide +kernel
theorem dX11_misses_80 : decode cX11_misses 80 = .ok (.iconst (-1), 1) := by decide +kernel
theorem dX11_misses_81 : decode cX11_misses 81 = .ok (.ireturn, 1) := by decide +kernel
theorem dX11_uncell_0 : decode cX11_uncell 0 = .ok (.aload_n 0, 1) := by decide +kernel
theorem dX11_uncell_1 : decode cX11_uncell 1 = .ok (.getfield 19, 3) := by decide +kernel
theorem dX11_uncell_4 : decode cX11_uncell 4 = .ok (.getfield 285, 3) := by decide +kernel
theorem dX11_uncell_7 : decode cX11_uncell 7 = .ok (.istore_n 1, 1) := by decide +kernel
theorem dX11_uncell_8 : decode cX11_uncell 8 = .ok (.aload_n 0, 1) := by decide +kernel
theorem dX11_uncell_9 : decode cX11_uncell 9 = .ok (.getfield 19, 3) := by decide +kernel
theorem dX11_uncell_12 : decode cX11_uncell 12 = .ok (.iconst 0, 1) := by decide +kernel
theorem dX11_uncell_13 : decode cX11_uncell 13 = .ok (.putfield 285, 3) := by decide +kernel
theorem dX11_uncell_16 : decode cX11_uncell 16 = .ok (.iload_n 1, 1) := by decide +kernel
theorem dX11_uncell_17 : decode cX11_uncell 17 = .ok (.ireturn, 1) := by decide +kernel
theorem dX11_key_0 : decode cX11_key 0 = .ok (.iload_n 1, 1) := by decide +kernel
theorem dX11_key_1 : decode cX11_key 1 = .ok (.iconst 0, 1) := by decide +kernel
theorem dX11_key_2 : decode cX11_key 2 = .ok (.bipush 99, 2) := by decide +kernel
theorem dX11_key_4 : decode cX11_key 4 = .ok (.invokestatic 110, 3) := by decide +kernel
theorem dX11_key_7 : decode cX11_key 7 = .ok (.ifCond .eq 13, 3) := by decide +kernel
theorem dX11_key_10 : decode cX11_key 10 = .ok (.iload_n 2, 1) := by decide +kernel
theorem dX11_key_11 : decode cX11_key 11 = .ok (.iconst 0, 1) := by decide +kernel
theorem dX11_key_12 : decode cX11_key 12 = .ok (.bipush 99, 2) := by decide +kernel
theorem dX11_key_14 : decode cX11_key 14 = .ok (.invokestatic 110, 3) := by decide +kernel
theorem dX11_key_17 : decode cX11_key 17 = .ok (.ifCond .ne 5, 3) := by decide +kernel
theorem dX11_key_20 : decode cX11_key 20 = .ok (.iconst (-1), 1) := by decide +kernel
theorem dX11_key_21 : decode cX11_key 21 = .ok (.ireturn, 1) := by decide +kernel
theorem dX11_key_22 : decode cX11_key 22 = .ok (.aload_n 0, 1) := by decide +kernel
theorem dX11_key_23 : decode cX11_key 23 = .ok (.getfield 19, 3) := by decide +kernel
theorem dX11_key_26 : decode cX11_key 26 = .ok (.getfield 297, 3) := by decide +kernel
theorem dX11_key_29 : decode cX11_key 29 = .ok (.bipush 9, 2) := by decide +kernel
theorem dX11_key_31 : decode cX11_key 31 = .ok (.if_icmp .lt 8, 3) := by decide +kernel
theorem dX11_key_34 : decode cX11_key 34 = .ok (.bipush (-3), 2) := by decide +kernel
theorem dX11_key_36 : decode cX11_key 36 = .ok (.goto 12, 3) := by decide +kernel
theorem dX11_key_39 : decode cX11_key 39 = .ok (.aload_n 0, 1) := by decide +kernel
theorem dX11_key_40 : decode cX11_key 40 = .ok (.getfield 19, 3) := by decide +kernel
theorem dX11_key_43 : decode cX11_key 43 = .ok (.iload_n 1, 1) := by decide +kernel
theorem dX11_key_44 : decode cX11_key 44 = .ok (.iload_n 2, 1) := by decide +kernel
theorem dX11_key_45 : decode cX11_key 45 = .ok (.invokevirtual 300, 3) := by decide +kernel
theorem dX11_key_48 : decode cX11_key 48 = .ok (.ireturn, 1) := by decide +kernel
theorem dX11_leastLooks_0 : decode cX11_leastLooks 0 = .ok (.iload_n 1, 1) := by decide +kernel
theorem dX11_leastLooks_1 : decode cX11_leastLooks 1 = .ok (.iconst 0, 1) := by decide +kernel
theorem dX11_leastLooks_2 : decode cX11_leastLooks 2 = .ok (.bipush 99, 2) := by decide +kernel
theorem dX11_leastLooks_4 : decode cX11_leastLooks 4 = .ok (.invokestatic 110, 3) := by decide +kernel
theorem dX11_leastLooks_7 : decode cX11_leastLooks 7 = .ok (.ifCond .eq 13, 3) := by decide +kernel
theorem dX11_leastLooks_10 : decode cX11_leastLooks 10 = .ok (.aload_n 0, 1) := by decide +kernel
theorem dX11_leastLooks_11 : decode cX11_leastLooks 11 = .ok (.getfield 19, 3) := by decide +kernel
theorem dX11_leastLooks_14 : decode cX11_leastLooks 14 = .ok (.getfield 297, 3) := by decide +kernel
theorem dX11_leastLooks_17 : decode cX11_leastLooks 17 = .ok (.ifCond .ne 5, 3) := by decide +kernel
theorem dX11_leastLooks_20 : decode cX11_leastLooks 20 = .ok (.iconst (-1), 1) := by decide +kernel
theorem dX11_leastLooks_21 : decode cX11_leastLooks 21 = .ok (.ireturn, 1) := by decide +kernel
theorem dX11_leastLooks_22 : decode cX11_leastLooks 22 = .ok (.aload_n 0, 1) := by decide +kernel
theorem dX11_leastLooks_23 : decode cX11_leastLooks 23 = .ok (.getfield 19, 3) := by decide +kernel
theorem dX11_leastLooks_26 : decode cX11_leastLooks 26 = .ok (.iload_n 1, 1) := by decide +kernel
theorem dX11_leastLooks_27 : decode cX11_leastLooks 27 = .ok (.invokevirtual 303, 3) := by decide +kernel
theorem dX11_leastLooks_30 : decode cX11_leastLooks 30 = .ok (.ireturn, 1) := by decide +kernel
theorem dX11_root_0 : decode cX11_root 0 = .ok (.aload_n 0, 1) := by decide +kernel
theorem dX11_root_1 : decode cX11_root 1 = .ok (.getfield 19, 3) := by decide +kernel
theorem dX11_root_4 : decode cX11_root 4 = .ok (.getfield 306, 3) := by decide +kernel
theorem dX11_root_7 : decode cX11_root 7 = .ok (.ireturn, 1) := by decide +kernel
theorem dX11_walk_0 : decode cX11_walk 0 = .ok (.iload_n 1, 1) := by decide +kernel
theorem dX11_walk_1 : decode cX11_walk 1 = .ok (.iconst 0, 1) := by decide +kernel
theorem dX11_walk_2 : decode cX11_walk 2 = .ok (.iconst 1, 1) := by decide +kernel
theorem dX11_walk_3 : decode cX11_walk 3 = .ok (.invokestatic 110, 3) := by decide +kernel
theorem dX11_walk_6 : decode cX11_walk 6 = .ok (.ifCond .ne 5, 3) := by decide +kernel
theorem dX11_walk_9 : decode cX11_walk 9 = .ok (.iconst (-1), 1) := by decide +kernel
theorem dX11_walk_10 : decode cX11_walk 10 = .ok (.ireturn, 1) := by decide +kernel
theorem dX11_walk_11 : decode cX11_walk 11 = .ok (.aload_n 0, 1) := by decide +kernel
theorem dX11_walk_12 : decode cX11_walk 12 = .ok (.getfield 10, 3) := by decide +kernel
theorem dX11_walk_15 : decode cX11_walk 15 = .ok (.getfield 309, 3) := by decide +kernel
theorem dX11_walk_18 : decode cX11_walk 18 = .ok (.iconst 4, 1) := by decide +kernel
theorem dX11_walk_19 : decode cX11_walk 19 = .ok (.if_icmp .lt 8, 3) := by decide +kernel
theorem dX11_walk_22 : decode cX11_walk 22 = .ok (.bipush (-3), 2) := by decide +kernel
theorem dX11_walk_24 : decode cX11_walk 24 = .ok (.goto 20, 3) := by decide +kernel
theorem dX11_walk_27 : decode cX11_walk 27 = .ok (.aload_n 0, 1) := by decide +kernel
theorem dX11_walk_28 : decode cX11_walk 28 = .ok (.getfield 10, 3) := by decide +kernel
theorem dX11_walk_31 : decode cX11_walk 31 = .ok (.iload_n 1, 1) := by decide +kernel
theorem dX11_walk_32 : decode cX11_walk 32 = .ok (.iconst 1, 1) := by decide +kernel
theorem dX11_walk_33 : decode cX11_walk 33 = .ok (.if_icmp .ne 7, 3) := by decide +kernel
theorem dX11_walk_36 : decode cX11_walk 36 = .ok (.iconst 1, 1) := by decide +kernel
theorem dX11_walk_37 : decode cX11_walk 37 = .ok (.goto 4, 3) := by decide +kernel
theorem dX11_walk_40 : decode cX11_walk 40 = .ok (.iconst 0, 1) := by decide +kernel
theorem dX11_walk_41 : decode cX11_walk 41 = .ok (.invokevirtual 312, 3) := by decide +kernel
theorem dX11_walk_44 : decode cX11_walk 44 = .ok (.ireturn, 1) := by decide +kernel
theorem dX11_next_0 : decode cX11_next 0 = .ok (.iload_n 1, 1) := by decide +kernel
theorem dX11_next_1 : decode cX11_next 1 = .ok (.iconst 0, 1) := by decide +kernel
theorem dX11_next_2 : decode cX11_next 2 = .ok (.aload_n 0, 1) := by decide +kernel
theorem dX11_next_3 : decode cX11_next 3 = .ok (.getfield 10, 3) := by decide +kernel
theorem dX11_next_6 : decode cX11_next 6 = .ok (.getfield 309, 3) := by decide +kernel
theorem dX11_next_9 : decode cX11_next 9 = .ok (.iconst 1, 1) := by decide +kernel
theorem dX11_next_10 : decode cX11_next 10 = .ok (.isub, 1) := by decide +kernel
theorem dX11_next_11 : decode cX11_next 11 = .ok (.invokestatic 110, 3) := by decide +kernel
theorem dX11_next_14 : decode cX11_next 14 = .ok (.ifCond .eq 14, 3) := by decide +kernel
theorem dX11_next_17 : decode cX11_next 17 = .ok (.aload_n 0, 1) := by decide +kernel
theorem dX11_next_18 : decode cX11_next 18 = .ok (.getfield 10, 3) := by decide +kernel
theorem dX11_next_21 : decode cX11_next 21 = .ok (.iload_n 1, 1) := by decide +kernel
theorem dX11_next_22 : decode cX11_next 22 = .ok (.invokevirtual 316, 3) := by decide +kernel
theorem dX11_next_25 : decode cX11_next 25 = .ok (.goto 4, 3) := by decide +kernel
theorem dX11_next_28 : decode cX11_next 28 = .ok (.iconst (-1), 1) := by decide +kernel
theorem dX11_next_29 : decode cX11_next 29 = .ok (.ireturn, 1) := by decide +kernel
theorem dX11_act_0 : decode cX11_act 0 = .ok (.aload_n 0, 1) := by decide +kernel
theorem dX11_act_1 : decode cX11_act 1 = .ok (.iload_n 2, 1) := by decide +kernel
theorem dX11_act_2 : decode cX11_act 2 = .ok (.iconst 0, 1) := by decide +kernel
theorem dX11_act_3 : decode cX11_act 3 = .ok (.iconst 3, 1) := by decide +kernel
theorem dX11_act_4 : decode cX11_act 4 = .ok (.invokestatic 110, 3) := by decide +kernel
theorem dX11_act_7 : decode cX11_act 7 = .ok (.ifCond .eq 11, 3) := by decide +kernel
theorem dX11_act_10 : decode cX11_act 10 = .ok (.aload_n 0, 1) := by decide +kernel
theorem dX11_act_11 : decode cX11_act 11 = .ok (.iload_n 1, 1) := by decide +kernel
theorem dX11_act_12 : decode cX11_act 12 = .ok (.invokevirtual 198, 3) := by decide +kernel
theorem dX11_act_15 : decode cX11_act 15 = .ok (.goto 4, 3) := by decide +kernel
theorem dX11_act_18 : decode cX11_act 18 = .ok (.aconst_null, 1) := by decide +kernel
theorem dX11_act_19 : decode cX11_act 19 = .ok (.putfield 319, 3) := by decide +kernel
theorem dX11_act_22 : decode cX11_act 22 = .ok (.aload_n 0, 1) := by decide +kernel
theorem dX11_act_23 : decode cX11_act 23 = .ok (.getfield 319, 3) := by decide +kernel
theorem dX11_act_26 : decode cX11_act 26 = .ok (.ifnonnull 5, 3) := by decide +kernel
theorem dX11_act_29 : decode cX11_act 29 = .ok (.iconst 0, 1) := by decide +kernel
theorem dX11_act_30 : decode cX11_act 30 = .ok (.ireturn, 1) := by decide +kernel
theorem dX11_act_31 : decode cX11_act 31 = .ok (.aload_n 0, 1) := by decide +kernel
theorem dX11_act_32 : decode cX11_act 32 = .ok (.getfield 319, 3) := by decide +kernel
theorem dX11_act_35 : decode cX11_act 35 = .ok (.iconst 0, 1) := by decide +kernel
theorem dX11_act_36 : decode cX11_act 36 = .ok (.putfield 323, 3) := by decide +kernel
theorem dX11_act_39 : decode cX11_act 39 = .ok (.iload_n 2, 1) := by decide +kernel
theorem dX11_act_40 : decode cX11_act 40 = .ok (.tableswitch 55 0 2 #[28, 37, 46], 28) := by decide +kernel
theorem dX11_act_68 : decode cX11_act 68 = .ok (.aload_n 0, 1) := by decide +kernel
theorem dX11_act_69 : decode cX11_act 69 = .ok (.getfield 319, 3) := by decide +kernel
theorem dX11_act_72 : decode cX11_act 72 = .ok (.iload_n 3, 1) := by decide +kernel
theorem dX11_act_73 : decode cX11_act 73 = .ok (.invokevirtual 326, 3) := by decide +kernel
theorem dX11_act_76 : decode cX11_act 76 = .ok (.ireturn, 1) := by decide +kernel
theorem dX11_act_77 : decode cX11_act 77 = .ok (.aload_n 0, 1) := by decide +kernel
theorem dX11_act_78 : decode cX11_act 78 = .ok (.getfield 319, 3) := by decide +kernel
theorem dX11_act_81 : decode cX11_act 81 = .ok (.iload_n 3, 1) := by decide +kernel
theorem dX11_act_82 : decode cX11_act 82 = .ok (.invokevirtual 329, 3) := by decide +kernel
theorem dX11_act_85 : decode cX11_act 85 = .ok (.ireturn, 1) := by decide +kernel
theorem dX11_act_86 : decode cX11_act 86 = .ok (.aload_n 0, 1) := by decide +kernel
theorem dX11_act_87 : decode cX11_act 87 = .ok (.getfield 319, 3) := by decide +kernel
theorem dX11_act_90 : decode cX11_act 90 = .ok (.iload_n 3, 1) := by decide +kernel
theorem dX11_act_91 : decode cX11_act 91 = .ok (.invokevirtual 332, 3) := by decide +kernel
theorem dX11_act_94 : decode cX11_act 94 = .ok (.ireturn, 1) := by decide +kernel
theorem dX11_act_95 : decode cX11_act 95 = .ok (.aload_n 0, 1) := by decide +kernel
theorem dX11_act_96 : decode cX11_act 96 = .ok (.getfield 319, 3) := by decide +kernel
theorem dX11_act_99 : decode cX11_act 99 = .ok (.iload_n 3, 1) := by decide +kernel
theorem dX11_act_100 : decode cX11_act 100 = .ok (.invokevirtual 335, 3) := by decide +kernel
theorem dX11_act_103 : decode cX11_act 103 = .ok (.ireturn, 1) := by decide +kernel
theorem dX11_trace_0 : decode cX11_trace 0 = .ok (.aload_n 0, 1) := by decide +kernel
theorem dX11_trace_1 : decode cX11_trace 1 = .ok (.getfield 319, 3) := by decide +kernel
theorem dX11_trace_4 : decode cX11_trace 4 = .ok (.ifnonnull 5, 3) := by decide +kernel
theorem dX11_trace_7 : decode cX11_trace 7 = .ok (.iconst (-1), 1) := by decide +kernel
theorem dX11_trace_8 : decode cX11_trace 8 = .ok (.ireturn, 1) := by decide +kernel
theorem dX11_trace_9 : decode cX11_trace 9 = .ok (.aload_n 0, 1) := by decide +kernel
theorem dX11_trace_10 : decode cX11_trace 10 = .ok (.getfield 319, 3) := by decide +kernel
theorem dX11_trace_13 : decode cX11_trace 13 = .ok (.getfield 323, 3) := by decide +kernel
theorem dX11_trace_16 : decode cX11_trace 16 = .ok (.bipush 24, 2) := by decide +kernel
theorem dX11_trace_18 : decode cX11_trace 18 = .ok (.invokestatic 338, 3) := by decide +kernel
theorem dX11_trace_21 : decode cX11_trace 21 = .ok (.istore_n 2, 1) := by decide +kernel
theorem dX11_trace_22 : decode cX11_trace 22 = .ok (.iload_n 1, 1) := by decide +kernel
theorem dX11_trace_23 : decode cX11_trace 23 = .ok (.iconst 0, 1) := by decide +kernel
theorem dX11_trace_24 : decode cX11_trace 24 = .ok (.iload_n 2, 1) := by decide +kernel
theorem dX11_trace_25 : decode cX11_trace 25 = .ok (.iconst 1, 1) := by decide +kernel
theorem dX11_trace_26 : decode cX11_trace 26 = .ok (.isub, 1) := by decide +kernel
theorem dX11_trace_27 : decode cX11_trace 27 = .ok (.invokestatic 110, 3) := by decide +kernel
theorem dX11_trace_30 : decode cX11_trace 30 = .ok (.ifCond .eq 15, 3) := by decide +kernel
theorem dX11_trace_33 : decode cX11_trace 33 = .ok (.aload_n 0, 1) := by decide +kernel
theorem dX11_trace_34 : decode cX11_trace 34 = .ok (.getfield 319, 3) := by decide +kernel
theorem dX11_trace_37 : decode cX11_trace 37 = .ok (.getfield 340, 3) := by decide +kernel
theorem dX11_trace_40 : decode cX11_trace 40 = .ok (.iload_n 1, 1) := by decide +kernel
theorem dX11_trace_41 : decode cX11_trace 41 = .ok (.iaload, 1) := by decide +kernel
theorem dX11_trace_42 : decode cX11_trace 42 = .ok (.goto 4, 3) := by decide +kernel
theorem dX11_trace_45 : decode cX11_trace 45 = .ok (.iconst (-1), 1) := by decide +kernel
theorem dX11_trace_46 : decode cX11_trace 46 = .ok (.ireturn, 1) := by decide +kernel
theorem dX11_bodiesRun_0 : decode cX11_bodiesRun 0 = .ok (.aload_n 0, 1) := by decide +kernel
theorem dX11_bodiesRun_1 : decode cX11_bodiesRun 1 = .ok (.getfield 319, 3) := by decide +kernel
theorem dX11_bodiesRun_4 : decode cX11_bodiesRun 4 = .ok (.ifnonnull 7, 3) := by decide +kernel
theorem dX11_bodiesRun_7 : decode cX11_bodiesRun 7 = .ok (.iconst 0, 1) := by decide +kernel
theorem dX11_bodiesRun_8 : decode cX11_bodiesRun 8 = .ok (.goto 10, 3) := by decide +kernel
theorem dX11_bodiesRun_11 : decode cX11_bodiesRun 11 = .ok (.aload_n 0, 1) := by decide +kernel
theorem dX11_bodiesRun_12 : decode cX11_bodiesRun 12 = .ok (.getfield 319, 3) := by decide +kernel
theorem dX11_bodiesRun_15 : decode cX11_bodiesRun 15 = .ok (.getfield 323, 3) := by decide +kernel
theorem dX11_bodiesRun_18 : decode cX11_bodiesRun 18 = .ok (.ireturn, 1) := by decide +kernel
theorem dX11_keep_0 : decode cX11_keep 0 = .ok (.iload_n 1, 1) := by decide +kernel
theorem dX11_keep_1 : decode cX11_keep 1 = .ok (.invokestatic 343, 3) := by decide +kernel
theorem dX11_keep_4 : decode cX11_keep 4 = .ok (.ifCond .eq 16, 3) := by decide +kernel
theorem dX11_keep_7 : decode cX11_keep 7 = .ok (.iload_n 2, 1) := by decide +kernel
theorem dX11_keep_8 : decode cX11_keep 8 = .ok (.iconst (-1), 1) := by decide +kernel
theorem dX11_keep_9 : decode cX11_keep 9 = .ok (.if_icmp .eq 13, 3) := by decide +kernel
theorem dX11_keep_12 : decode cX11_keep 12 = .ok (.aload_n 0, 1) := by decide +kernel
theorem dX11_keep_13 : decode cX11_keep 13 = .ok (.iload_n 2, 1) := by decide +kernel
theorem dX11_keep_14 : decode cX11_keep 14 = .ok (.invokevirtual 198, 3) := by decide +kernel
theorem dX11_keep_17 : decode cX11_keep 17 = .ok (.ifnonnull 5, 3) := by decide +kernel
theorem dX11_keep_20 : decode cX11_keep 20 = .ok (.iconst (-1), 1) := by decide +kernel
theorem dX11_keep_21 : decode cX11_keep 21 = .ok (.ireturn, 1) := by decide +kernel
theorem dX11_keep_22 : decode cX11_keep 22 = .ok (.aload_n 0, 1) := by decide +kernel
theorem dX11_keep_23 : decode cX11_keep 23 = .ok (.getfield 55, 3) := by decide +kernel
theorem dX11_keep_26 : decode cX11_keep 26 = .ok (.iload_n 1, 1) := by decide +kernel
theorem dX11_keep_27 : decode cX11_keep 27 = .ok (.aload_n 0, 1) := by decide +kernel
theorem dX11_keep_28 : decode cX11_keep 28 = .ok (.iload_n 2, 1) := by decide +kernel
theorem dX11_keep_29 : decode cX11_keep 29 = .ok (.invokevirtual 198, 3) := by decide +kernel
theorem dX11_keep_32 : decode cX11_keep 32 = .ok (.aastore, 1) := by decide +kernel
theorem dX11_keep_33 : decode cX11_keep 33 = .ok (.aload_n 0, 1) := by decide +kernel
theorem dX11_keep_34 : decode cX11_keep 34 = .ok (.getfield 58, 3) := by decide +kernel
theorem dX11_keep_37 : decode cX11_keep 37 = .ok (.iload_n 1, 1) := by decide +kernel
theorem dX11_keep_38 : decode cX11_keep 38 = .ok (.iconst (-1), 1) := by decide +kernel
theorem dX11_keep_39 : decode cX11_keep 39 = .ok (.iastore, 1) := by decide +kernel
theorem dX11_keep_40 : decode cX11_keep 40 = .ok (.iconst 1, 1) := by decide +kernel
theorem dX11_keep_41 : decode cX11_keep 41 = .ok (.ireturn, 1) := by decide +kernel
theorem dX11_row_0 : decode cX11_row 0 = .ok (.iload_n 1, 1) := by decide +kernel
theorem dX11_row_1 : decode cX11_row 1 = .ok (.invokestatic 343, 3) := by decide +kernel
theorem dX11_row_4 : decode cX11_row 4 = .ok (.ifCond .eq 18, 3) := by decide +kernel
theorem dX11_row_7 : decode cX11_row 7 = .ok (.iload_n 2, 1) := by decide +kernel
theorem dX11_row_8 : decode cX11_row 8 = .ok (.iconst 0, 1) := by decide +kernel
theorem dX11_row_9 : decode cX11_row 9 = .ok (.iconst 4, 1) := by decide +kernel
theorem dX11_row_10 : decode cX11_row 10 = .ok (.invokestatic 110, 3) := by decide +kernel
theorem dX11_row_13 : decode cX11_row 13 = .ok (.ifCond .eq 9, 3) := by decide +kernel
theorem dX11_row_16 : decode cX11_row 16 = .ok (.iload_n 3, 1) := by decide +kernel
theorem dX11_row_17 : decode cX11_row 17 = .ok (.bipush 60, 2) := by decide +kernel
theorem dX11_row_19 : decode cX11_row 19 = .ok (.if_icmp .le 5, 3) := by decide +kernel
theorem dX11_row_22 : decode cX11_row 22 = .ok (.iconst (-1), 1) := by decide +kernel
theorem dX11_row_23 : decode cX11_row 23 = .ok (.ireturn, 1) := by decide +kernel
theorem dX11_row_24 : decode cX11_row 24 = .ok (.iload_n 3, 1) := by decide +kernel
theorem dX11_row_25 : decode cX11_row 25 = .ok (.ifCond .ge 6, 3) := by decide +kernel
theorem dX11_row_28 : decode cX11_row 28 = .ok (.bipush (-14), 2) := by decide +kernel
theorem dX11_row_30 : decode cX11_row 30 = .ok (.ireturn, 1) := by decide +kernel
theorem dX11_row_31 : decode cX11_row 31 = .ok (.aload_n 0, 1) := by decide +kernel
theorem dX11_row_32 : decode cX11_row 32 = .ok (.getfield 55, 3) := by decide +kernel
theorem dX11_row_35 : decode cX11_row 35 = .ok (.iload_n 1, 1) := by decide +kernel
theorem dX11_row_36 : decode cX11_row 36 = .ok (.aconst_null, 1) := by decide +kernel
theorem dX11_row_37 : decode cX11_row 37 = .ok (.aastore, 1) := by decide +kernel
theorem dX11_row_38 : decode cX11_row 38 = .ok (.aload_n 0, 1) := by decide +kernel
theorem dX11_row_39 : decode cX11_row 39 = .ok (.getfield 58, 3) := by decide +kernel
theorem dX11_row_42 : decode cX11_row 42 = .ok (.iload_n 1, 1) := by decide +kernel
theorem dX11_row_43 : decode cX11_row 43 = .ok (.iload_n 2, 1) := by decide +kernel
theorem dX11_row_44 : decode cX11_row 44 = .ok (.iastore, 1) := by decide +kernel
theorem dX11_row_45 : decode cX11_row 45 = .ok (.aload_n 0, 1) := by decide +kernel
theorem dX11_row_46 : decode cX11_row 46 = .ok (.getfield 61, 3) := by decide +kernel
theorem dX11_row_49 : decode cX11_row 49 = .ok (.iload_n 1, 1) := by decide +kernel
theorem dX11_row_50 : decode cX11_row 50 = .ok (.iload_n 3, 1) := by decide +kernel
theorem dX11_row_51 : decode cX11_row 51 = .ok (.iastore, 1) := by decide +kernel
theorem dX11_row_52 : decode cX11_row 52 = .ok (.aload_n 0, 1) := by decide +kernel
theorem dX11_row_53 : decode cX11_row 53 = .ok (.getfield 66, 3) := by decide +kernel
theorem dX11_row_56 : decode cX11_row 56 = .ok (.iload_n 1, 1) := by decide +kernel
theorem dX11_row_57 : decode cX11_row 57 = .ok (.aaload, 1) := by decide +kernel
theorem dX11_row_58 : decode cX11_row 58 = .ok (.lconst 0, 1) := by decide +kernel
theorem dX11_row_59 : decode cX11_row 59 = .ok (.invokestatic 346, 3) := by decide +kernel
theorem dX11_row_62 : decode cX11_row 62 = .ok (.iconst 1, 1) := by decide +kernel
theorem dX11_row_63 : decode cX11_row 63 = .ok (.ireturn, 1) := by decide +kernel
theorem dX11_set_0 : decode cX11_set 0 = .ok (.aload_n 0, 1) := by decide +kernel
theorem dX11_set_1 : decode cX11_set 1 = .ok (.iload_n 1, 1) := by decide +kernel
theorem dX11_set_2 : decode cX11_set 2 = .ok (.iload_n 2, 1) := by decide +kernel
theorem dX11_set_3 : decode cX11_set 3 = .ok (.invokevirtual 349, 3) := by decide +kernel
theorem dX11_set_6 : decode cX11_set 6 = .ok (.istore 5, 2) := by decide +kernel
theorem dX11_set_8 : decode cX11_set 8 = .ok (.iload 5, 2) := by decide +kernel
theorem dX11_set_10 : decode cX11_set 10 = .ok (.ifCond .eq 6, 3) := by decide +kernel
theorem dX11_set_13 : decode cX11_set 13 = .ok (.iload 5, 2) := by decide +kernel
theorem dX11_set_15 : decode cX11_set 15 = .ok (.ireturn, 1) := by decide +kernel
theorem dX11_set_16 : decode cX11_set 16 = .ok (.aload_n 0, 1) := by decide +kernel
theorem dX11_set_17 : decode cX11_set 17 = .ok (.getfield 66, 3) := by decide +kernel
theorem dX11_set_20 : decode cX11_set 20 = .ok (.iload_n 1, 1) := by decide +kernel
theorem dX11_set_21 : decode cX11_set 21 = .ok (.aaload, 1) := by decide +kernel
theorem dX11_set_22 : decode cX11_set 22 = .ok (.iload_n 2, 1) := by decide +kernel
theorem dX11_set_23 : decode cX11_set 23 = .ok (.aload_n 0, 1) := by decide +kernel
theorem dX11_set_24 : decode cX11_set 24 = .ok (.getfield 58, 3) := by decide +kernel
theorem dX11_set_27 : decode cX11_set 27 = .ok (.iload_n 1, 1) := by decide +kernel
theorem dX11_set_28 : decode cX11_set 28 = .ok (.iaload, 1) := by decide +kernel
theorem dX11_set_29 : decode cX11_set 29 = .ok (.lload_n 3, 1) := by decide +kernel
theorem dX11_set_30 : decode cX11_set 30 = .ok (.invokestatic 352, 3) := by decide +kernel
theorem dX11_set_33 : decode cX11_set 33 = .ok (.lastore, 1) := by decide +kernel
theorem dX11_set_34 : decode cX11_set 34 = .ok (.iconst 1, 1) := by decide +kernel
theorem dX11_set_35 : decode cX11_set 35 = .ok (.ireturn, 1) := by decide +kernel
theorem dX11_element_0 : decode cX11_element 0 = .ok (.aload_n 0, 1) := by decide +kernel
theorem dX11_element_1 : decode cX11_element 1 = .ok (.iload_n 1, 1) := by decide +kernel
theorem dX11_element_2 : decode cX11_element 2 = .ok (.iload_n 2, 1) := by decide +kernel
theorem dX11_element_3 : decode cX11_element 3 = .ok (.invokevirtual 349, 3) := by decide +kernel
theorem dX11_element_6 : decode cX11_element 6 = .ok (.ifCond .eq 9, 3) := by decide +kernel
theorem dX11_element_9 : decode cX11_element 9 = .ok (.ldc2_w 356, 3) := by decide +kernel
theorem dX11_element_12 : decode cX11_element 12 = .ok (.goto 11, 3) := by decide +kernel
theorem dX11_element_15 : decode cX11_element 15 = .ok (.aload_n 0, 1) := by decide +kernel
theorem dX11_element_16 : decode cX11_element 16 = .ok (.getfield 66, 3) := by decide +kernel
theorem dX11_element_19 : decode cX11_element 19 = .ok (.iload_n 1, 1) := by decide +kernel
theorem dX11_element_20 : decode cX11_element 20 = .ok (.aaload, 1) := by decide +kernel
theorem dX11_element_21 : decode cX11_element 21 = .ok (.iload_n 2, 1) := by decide +kernel
theorem dX11_element_22 : decode cX11_element 22 = .ok (.laload, 1) := by decide +kernel
theorem dX11_element_23 : decode cX11_element 23 = .ok (.lreturn, 1) := by decide +kernel
theorem dX11_shift_0 : decode cX11_shift 0 = .ok (.iload_n 1, 1) := by decide +kernel
theorem dX11_shift_1 : decode cX11_shift 1 = .ok (.invokestatic 343, 3) := by decide +kernel
theorem dX11_shift_4 : decode cX11_shift 4 = .ok (.ifCond .eq 10, 3) := by decide +kernel
theorem dX11_shift_7 : decode cX11_shift 7 = .ok (.iload_n 3, 1) := by decide +kernel
theorem dX11_shift_8 : decode cX11_shift 8 = .ok (.invokestatic 343, 3) := by decide +kernel
theorem dX11_shift_11 : decode cX11_shift 11 = .ok (.ifCond .ne 5, 3) := by decide +kernel
theorem dX11_shift_14 : decode cX11_shift 14 = .ok (.iconst (-1), 1) := by decide +kernel
theorem dX11_shift_15 : decode cX11_shift 15 = .ok (.ireturn, 1) := by decide +kernel
theorem dX11_shift_16 : decode cX11_shift 16 = .ok (.aload_n 0, 1) := by decide +kernel
theorem dX11_shift_17 : decode cX11_shift 17 = .ok (.iload_n 1, 1) := by decide +kernel
theorem dX11_shift_18 : decode cX11_shift 18 = .ok (.invokevirtual 358, 3) := by decide +kernel
theorem dX11_shift_21 : decode cX11_shift 21 = .ok (.ifCond .ne 11, 3) := by decide +kernel
theorem dX11_shift_24 : decode cX11_shift 24 = .ok (.aload_n 0, 1) := by decide +kernel
theorem dX11_shift_25 : decode cX11_shift 25 = .ok (.iload_n 3, 1) := by decide +kernel
theorem dX11_shift_26 : decode cX11_shift 26 = .ok (.invokevirtual 358, 3) := by decide +kernel
theorem dX11_shift_29 : decode cX11_shift 29 = .ok (.ifCond .eq 6, 3) := by decide +kernel
theorem dX11_shift_32 : decode cX11_shift 32 = .ok (.bipush (-11), 2) := by decide +kernel
theorem dX11_shift_34 : decode cX11_shift 34 = .ok (.ireturn, 1) := by decide +kernel
theorem dX11_shift_35 : decode cX11_shift 35 = .ok (.aload_n 0, 1) := by decide +kernel
theorem dX11_shift_36 : decode cX11_shift 36 = .ok (.getfield 58, 3) := by decide +kernel
theorem dX11_shift_39 : decode cX11_shift 39 = .ok (.iload_n 1, 1) := by decide +kernel
theorem dX11_shift_40 : decode cX11_shift 40 = .ok (.iaload, 1) := by decide +kernel
theorem dX11_shift_41 : decode cX11_shift 41 = .ok (.iconst (-1), 1) := by decide +kernel
theorem dX11_shift_42 : decode cX11_shift 42 = .ok (.if_icmp .eq 18, 3) := by decide +kernel
theorem dX11_shift_45 : decode cX11_shift 45 = .ok (.aload_n 0, 1) := by decide +kernel
theorem dX11_shift_46 : decode cX11_shift 46 = .ok (.getfield 58, 3) := by decide +kernel
theorem dX11_shift_49 : decode cX11_shift 49 = .ok (.iload_n 1, 1) := by decide +kernel
theorem dX11_shift_50 : decode cX11_shift 50 = .ok (.iaload, 1) := by decide +kernel
theorem dX11_shift_51 : decode cX11_shift 51 = .ok (.aload_n 0, 1) := by decide +kernel
theorem dX11_shift_52 : decode cX11_shift 52 = .ok (.getfield 58, 3) := by decide +kernel
theorem dX11_shift_55 : decode cX11_shift 55 = .ok (.iload_n 3, 1) := by decide +kernel
theorem dX11_shift_56 : decode cX11_shift 56 = .ok (.iaload, 1) := by decide +kernel
theorem dX11_shift_57 : decode cX11_shift 57 = .ok (.if_icmp .eq 6, 3) := by decide +kernel
theorem dX11_shift_60 : decode cX11_shift 60 = .ok (.bipush (-12), 2) := by decide +kernel
theorem dX11_shift_62 : decode cX11_shift 62 = .ok (.ireturn, 1) := by decide +kernel
theorem dX11_shift_63 : decode cX11_shift 63 = .ok (.aload_n 0, 1) := by decide +kernel
theorem dX11_shift_64 : decode cX11_shift 64 = .ok (.iload_n 1, 1) := by decide +kernel
theorem dX11_shift_65 : decode cX11_shift 65 = .ok (.iload_n 2, 1) := by decide +kernel
theorem dX11_shift_66 : decode cX11_shift 66 = .ok (.iload 5, 2) := by decide +kernel
theorem dX11_shift_68 : decode cX11_shift 68 = .ok (.invokevirtual 361, 3) := by decide +kernel
theorem dX11_shift_71 : decode cX11_shift 71 = .ok (.ifCond .eq 15, 3) := by decide +kernel
theorem dX11_shift_74 : decode cX11_shift 74 = .ok (.aload_n 0, 1) := by decide +kernel
theorem dX11_shift_75 : decode cX11_shift 75 = .ok (.iload_n 3, 1) := by decide +kernel
theorem dX11_shift_76 : decode cX11_shift 76 = .ok (.iload 4, 2) := by decide +kernel
theorem dX11_shift_78 : decode cX11_shift 78 = .ok (.iload 5, 2) := by decide +kernel
theorem dX11_shift_80 : decode cX11_shift 80 = .ok (.invokevirtual 361, 3) := by decide +kernel
theorem dX11_shift_83 : decode cX11_shift 83 = .ok (.ifCond .ne 6, 3) := by decide +kernel
theorem dX11_shift_86 : decode cX11_shift 86 = .ok (.bipush (-13), 2) := by decide +kernel
theorem dX11_shift_88 : decode cX11_shift 88 = .ok (.ireturn, 1) := by decide +kernel
theorem dX11_shift_89 : decode cX11_shift 89 = .ok (.aload_n 0, 1) := by decide +kernel
theorem dX11_shift_90 : decode cX11_shift 90 = .ok (.getfield 66, 3) := by decide +kernel
theorem dX11_shift_93 : decode cX11_shift 93 = .ok (.iload_n 1, 1) := by decide +kernel
theorem dX11_shift_94 : decode cX11_shift 94 = .ok (.aaload, 1) := by decide +kernel
theorem dX11_shift_95 : decode cX11_shift 95 = .ok (.iload_n 2, 1) := by decide +kernel
theorem dX11_shift_96 : decode cX11_shift 96 = .ok (.aload_n 0, 1) := by decide +kernel
theorem dX11_shift_97 : decode cX11_shift 97 = .ok (.getfield 66, 3) := by decide +kernel
theorem dX11_shift_100 : decode cX11_shift 100 = .ok (.iload_n 3, 1) := by decide +kernel
theorem dX11_shift_101 : decode cX11_shift 101 = .ok (.aaload, 1) := by decide +kernel
theorem dX11_shift_102 : decode cX11_shift 102 = .ok (.iload 4, 2) := by decide +kernel
theorem dX11_shift_104 : decode cX11_shift 104 = .ok (.iload 5, 2) := by decide +kernel
theorem dX11_shift_106 : decode cX11_shift 106 = .ok (.invokestatic 364, 3) := by decide +kernel
theorem dX11_shift_109 : decode cX11_shift 109 = .ok (.iload 5, 2) := by decide +kernel
theorem dX11_shift_111 : decode cX11_shift 111 = .ok (.ireturn, 1) := by decide +kernel
theorem dX11_taken_0 : decode cX11_taken 0 = .ok (.iload_n 1, 1) := by decide +kernel
theorem dX11_taken_1 : decode cX11_taken 1 = .ok (.invokestatic 343, 3) := by decide +kernel
theorem dX11_taken_4 : decode cX11_taken 4 = .ok (.ifCond .eq 13, 3) := by decide +kernel
theorem dX11_taken_7 : decode cX11_taken 7 = .ok (.iload_n 2, 1) := by decide +kernel
theorem dX11_taken_8 : decode cX11_taken 8 = .ok (.iconst 0, 1) := by decide +kernel
theorem dX11_taken_9 : decode cX11_taken 9 = .ok (.bipush 7, 2) := by decide +kernel
theorem dX11_taken_11 : decode cX11_taken 11 = .ok (.invokestatic 110, 3) := by decide +kernel
theorem dX11_taken_14 : decode cX11_taken 14 = .ok (.ifCond .ne 5, 3) := by decide +kernel
theorem dX11_taken_17 : decode cX11_taken 17 = .ok (.iconst (-1), 1) := by decide +kernel
theorem dX11_taken_18 : decode cX11_taken 18 = .ok (.ireturn, 1) := by decide +kernel
theorem dX11_taken_19 : decode cX11_taken 19 = .ok (.aload_n 0, 1) := by decide +kernel
theorem dX11_taken_20 : decode cX11_taken 20 = .ok (.iload_n 1, 1) := by decide +kernel
theorem dX11_taken_21 : decode cX11_taken 21 = .ok (.invokevirtual 358, 3) := by decide +kernel
theorem dX11_taken_24 : decode cX11_taken 24 = .ok (.ifCond .eq 6, 3) := by decide +kernel
theorem dX11_taken_27 : decode cX11_taken 27 = .ok (.bipush (-11), 2) := by decide +kernel
theorem dX11_taken_29 : decode cX11_taken 29 = .ok (.ireturn, 1) := by decide +kernel
theorem dX11_taken_30 : decode cX11_taken 30 = .ok (.aload_n 0, 1) := by decide +kernel
theorem dX11_taken_31 : decode cX11_taken 31 = .ok (.getfield 55, 3) := by decide +kernel
theorem dX11_taken_34 : decode cX11_taken 34 = .ok (.iload_n 1, 1) := by decide +kernel
theorem dX11_taken_35 : decode cX11_taken 35 = .ok (.aaload, 1) := by decide +kernel
theorem dX11_taken_36 : decode cX11_taken 36 = .ok (.astore_n 3, 1) := by decide +kernel
theorem dX11_taken_37 : decode cX11_taken 37 = .ok (.aload_n 3, 1) := by decide +kernel
theorem dX11_taken_38 : decode cX11_taken 38 = .ok (.ifnull 11, 3) := by decide +kernel
theorem dX11_taken_41 : decode cX11_taken 41 = .ok (.aload_n 3, 1) := by decide +kernel
theorem dX11_taken_42 : decode cX11_taken 42 = .ok (.iload_n 2, 1) := by decide +kernel
theorem dX11_taken_43 : decode cX11_taken 43 = .ok (.invokestatic 370, 3) := by decide +kernel
theorem dX11_taken_46 : decode cX11_taken 46 = .ok (.ifCond .ne 8, 3) := by decide +kernel
theorem dX11_taken_49 : decode cX11_taken 49 = .ok (.bipush (-12), 2) := by decide +kernel
theorem dX11_taken_51 : decode cX11_taken 51 = .ok (.goto 7, 3) := by decide +kernel
theorem dX11_taken_54 : decode cX11_taken 54 = .ok (.aload_n 3, 1) := by decide +kernel
theorem dX11_taken_55 : decode cX11_taken 55 = .ok (.invokevirtual 202, 3) := by decide +kernel
theorem dX11_taken_58 : decode cX11_taken 58 = .ok (.ireturn, 1) := by decide +kernel
theorem dX11_things_0 : decode cX11_things 0 = .ok (.iload_n 1, 1) := by decide +kernel
theorem dX11_things_1 : decode cX11_things 1 = .ok (.invokestatic 343, 3) := by decide +kernel
theorem dX11_things_4 : decode cX11_things 4 = .ok (.ifCond .eq 13, 3) := by decide +kernel
theorem dX11_things_7 : decode cX11_things 7 = .ok (.iload_n 3, 1) := by decide +kernel
theorem dX11_things_8 : decode cX11_things 8 = .ok (.iconst 1, 1) := by decide +kernel
theorem dX11_things_9 : decode cX11_things 9 = .ok (.bipush 15, 2) := by decide +kernel
theorem dX11_things_11 : decode cX11_things 11 = .ok (.invokestatic 110, 3) := by decide +kernel
theorem dX11_things_14 : decode cX11_things 14 = .ok (.ifCond .ne 5, 3) := by decide +kernel
theorem dX11_things_17 : decode cX11_things 17 = .ok (.iconst (-1), 1) := by decide +kernel
theorem dX11_things_18 : decode cX11_things 18 = .ok (.ireturn, 1) := by decide +kernel
theorem dX11_things_19 : decode cX11_things 19 = .ok (.aload_n 0, 1) := by decide +kernel
theorem dX11_things_20 : decode cX11_things 20 = .ok (.iload_n 1, 1) := by decide +kernel
theorem dX11_things_21 : decode cX11_things 21 = .ok (.invokevirtual 358, 3) := by decide +kernel
theorem dX11_things_24 : decode cX11_things 24 = .ok (.ifCond .eq 5, 3) := by decide +kernel
theorem dX11_things_27 : decode cX11_things 27 = .ok (.iconst 0, 1) := by decide +kernel
theorem dX11_things_28 : decode cX11_things 28 = .ok (.ireturn, 1) := by decide +kernel
theorem dX11_things_29 : decode cX11_things 29 = .ok (.aload_n 0, 1) := by decide +kernel
theorem dX11_things_30 : decode cX11_things 30 = .ok (.getfield 58, 3) := by decide +kernel
theorem dX11_things_33 : decode cX11_things 33 = .ok (.iload_n 1, 1) := by decide +kernel
theorem dX11_things_34 : decode cX11_things 34 = .ok (.iaload, 1) := by decide +kernel
theorem dX11_things_35 : decode cX11_things 35 = .ok (.ifCond .eq 6, 3) := by decide +kernel
theorem dX11_things_38 : decode cX11_things 38 = .ok (.bipush (-12), 2) := by decide +kernel
theorem dX11_things_40 : decode cX11_things 40 = .ok (.ireturn, 1) := by decide +kernel
theorem dX11_things_41 : decode cX11_things 41 = .ok (.aload_n 0, 1) := by decide +kernel
theorem dX11_things_42 : decode cX11_things 42 = .ok (.getfield 66, 3) := by decide +kernel
theorem dX11_things_45 : decode cX11_things 45 = .ok (.iload_n 1, 1) := by decide +kernel
theorem dX11_things_46 : decode cX11_things 46 = .ok (.aaload, 1) := by decide +kernel
theorem dX11_things_47 : decode cX11_things 47 = .ok (.astore 4, 2) := by decide +kernel
theorem dX11_things_49 : decode cX11_things 49 = .ok (.iconst 0, 1) := by decide +kernel
theorem dX11_things_50 : decode cX11_things 50 = .ok (.istore 5, 2) := by decide +kernel
theorem dX11_things_52 : decode cX11_things 52 = .ok (.iload 5, 2) := by decide +kernel
theorem dX11_things_54 : decode cX11_things 54 = .ok (.iload_n 3, 1) := by decide +kernel
theorem dX11_things_55 : decode cX11_things 55 = .ok (.if_icmp .ge 72, 3) := by decide +kernel
theorem dX11_things_58 : decode cX11_things 58 = .ok (.aload_n 0, 1) := by decide +kernel
theorem dX11_things_59 : decode cX11_things 59 = .ok (.iload_n 1, 1) := by decide +kernel
theorem dX11_things_60 : decode cX11_things 60 = .ok (.iload_n 2, 1) := by decide +kernel
theorem dX11_things_61 : decode cX11_things 61 = .ok (.iconst 4, 1) := by decide +kernel
theorem dX11_things_62 : decode cX11_things 62 = .ok (.iload 5, 2) := by decide +kernel
theorem dX11_things_64 : decode cX11_things 64 = .ok (.iconst 1, 1) := by decide +kernel
theorem dX11_things_65 : decode cX11_things 65 = .ok (.iadd, 1) := by decide +kernel
theorem dX11_things_66 : decode cX11_things 66 = .ok (.imul, 1) := by decide +kernel
theorem dX11_things_67 : decode cX11_things 67 = .ok (.invokevirtual 361, 3) := by decide +kernel
theorem dX11_things_70 : decode cX11_things 70 = .ok (.ifCond .eq 57, 3) := by decide +kernel
theorem dX11_things_73 : decode cX11_things 73 = .ok (.iload_n 2, 1) := by decide +kernel
theorem dX11_things_74 : decode cX11_things 74 = .ok (.iconst 4, 1) := by decide +kernel
theorem dX11_things_75 : decode cX11_things 75 = .ok (.iload 5, 2) := by decide +kernel
theorem dX11_things_77 : decode cX11_things 77 = .ok (.imul, 1) := by decide +kernel
theorem dX11_things_78 : decode cX11_things 78 = .ok (.iadd, 1) := by decide +kernel
theorem dX11_things_79 : decode cX11_things 79 = .ok (.istore 6, 2) := by decide +kernel
theorem dX11_things_81 : decode cX11_things 81 = .ok (.aload_n 0, 1) := by decide +kernel
theorem dX11_things_82 : decode cX11_things 82 = .ok (.aload 4, 2) := by decide +kernel
theorem dX11_things_84 : decode cX11_things 84 = .ok (.iload 6, 2) := by decide +kernel
theorem dX11_things_86 : decode cX11_things 86 = .ok (.laload, 1) := by decide +kernel
theorem dX11_things_87 : decode cX11_things 87 = .ok (.l2i, 1) := by decide +kernel
theorem dX11_things_88 : decode cX11_things 88 = .ok (.aload 4, 2) := by decide +kernel
theorem dX11_things_90 : decode cX11_things 90 = .ok (.iload 6, 2) := by decide +kernel
theorem dX11_things_92 : decode cX11_things 92 = .ok (.iconst 1, 1) := by decide +kernel
theorem dX11_things_93 : decode cX11_things 93 = .ok (.iadd, 1) := by decide +kernel
theorem dX11_things_94 : decode cX11_things 94 = .ok (.laload, 1) := by decide +kernel
theorem dX11_things_95 : decode cX11_things 95 = .ok (.l2i, 1) := by decide +kernel
theorem dX11_things_96 : decode cX11_things 96 = .ok (.aload 4, 2) := by decide +kernel
theorem dX11_things_98 : decode cX11_things 98 = .ok (.iload 6, 2) := by decide +kernel
theorem dX11_things_100 : decode cX11_things 100 = .ok (.iconst 2, 1) := by decide +kernel
theorem dX11_things_101 : decode cX11_things 101 = .ok (.iadd, 1) := by decide +kernel
theorem dX11_things_102 : decode cX11_things 102 = .ok (.laload, 1) := by decide +kernel
theorem dX11_things_103 : decode cX11_things 103 = .ok (.l2i, 1) := by decide +kernel
theorem dX11_things_104 : decode cX11_things 104 = .ok (.aload 4, 2) := by decide +kernel
theorem dX11_things_106 : decode cX11_things 106 = .ok (.iload 6, 2) := by decide +kernel
theorem dX11_things_108 : decode cX11_things 108 = .ok (.iconst 3, 1) := by decide +kernel
theorem dX11_things_109 : decode cX11_things 109 = .ok (.iadd, 1) := by decide +kernel
theorem dX11_things_110 : decode cX11_things 110 = .ok (.laload, 1) := by decide +kernel
theorem dX11_things_111 : decode cX11_things 111 = .ok (.l2i, 1) := by decide +kernel
theorem dX11_things_112 : decode cX11_things 112 = .ok (.invokevirtual 374, 3) := by decide +kernel
theorem dX11_things_115 : decode cX11_things 115 = .ok (.ifCond .ge 6, 3) := by decide +kernel
theorem dX11_things_118 : decode cX11_things 118 = .ok (.goto 9, 3) := by decide +kernel
theorem dX11_things_121 : decode cX11_things 121 = .ok (.iinc 5 1, 3) := by decide +kernel
theorem dX11_things_124 : decode cX11_things 124 = .ok (.goto (-72), 3) := by decide +kernel
theorem dX11_things_127 : decode cX11_things 127 = .ok (.iload 5, 2) := by decide +kernel
theorem dX11_things_129 : decode cX11_things 129 = .ok (.ireturn, 1) := by decide +kernel
theorem dX11_count_0 : decode cX11_count 0 = .ok (.iload_n 1, 1) := by decide +kernel
theorem dX11_count_1 : decode cX11_count 1 = .ok (.tableswitch 87 0 6 #[43, 51, 59, 64, 69, 74, 82], 43) := by decide +kernel
theorem dX11_count_44 : decode cX11_count 44 = .ok (.aload_n 0, 1) := by decide +kernel
theorem dX11_count_45 : decode cX11_count 45 = .ok (.getfield 10, 3) := by decide +kernel
theorem dX11_count_48 : decode cX11_count 48 = .ok (.getfield 83, 3) := by decide +kernel
theorem dX11_count_51 : decode cX11_count 51 = .ok (.ireturn, 1) := by decide +kernel
theorem dX11_count_52 : decode cX11_count 52 = .ok (.aload_n 0, 1) := by decide +kernel
theorem dX11_count_53 : decode cX11_count 53 = .ok (.getfield 10, 3) := by decide +kernel
theorem dX11_count_56 : decode cX11_count 56 = .ok (.invokevirtual 377, 3) := by decide +kernel
theorem dX11_count_59 : decode cX11_count 59 = .ok (.ireturn, 1) := by decide +kernel
theorem dX11_count_60 : decode cX11_count 60 = .ok (.aload_n 0, 1) := by decide +kernel
theorem dX11_count_61 : decode cX11_count 61 = .ok (.getfield 138, 3) := by decide +kernel
theorem dX11_count_64 : decode cX11_count 64 = .ok (.ireturn, 1) := by decide +kernel
theorem dX11_count_65 : decode cX11_count 65 = .ok (.aload_n 0, 1) := by decide +kernel
theorem dX11_count_66 : decode cX11_count 66 = .ok (.getfield 91, 3) := by decide +kernel
theorem dX11_count_69 : decode cX11_count 69 = .ok (.ireturn, 1) := by decide +kernel
theorem dX11_count_70 : decode cX11_count 70 = .ok (.aload_n 0, 1) := by decide +kernel
theorem dX11_count_71 : decode cX11_count 71 = .ok (.getfield 135, 3) := by decide +kernel
theorem dX11_count_74 : decode cX11_count 74 = .ok (.ireturn, 1) := by decide +kernel
theorem dX11_count_75 : decode cX11_count 75 = .ok (.aload_n 0, 1) := by decide +kernel
theorem dX11_count_76 : decode cX11_count 76 = .ok (.getfield 10, 3) := by decide +kernel
theorem dX11_count_79 : decode cX11_count 79 = .ok (.getfield 309, 3) := by decide +kernel
theorem dX11_count_82 : decode cX11_count 82 = .ok (.ireturn, 1) := by decide +kernel
theorem dX11_count_83 : decode cX11_count 83 = .ok (.aload_n 0, 1) := by decide +kernel
theorem dX11_count_84 : decode cX11_count 84 = .ok (.invokevirtual 380, 3) := by decide +kernel
theorem dX11_count_87 : decode cX11_count 87 = .ok (.ireturn, 1) := by decide +kernel
theorem dX11_count_88 : decode cX11_count 88 = .ok (.iconst (-1), 1) := by decide +kernel
theorem dX11_count_89 : decode cX11_count 89 = .ok (.ireturn, 1) := by decide +kernel
theorem dX11_refusalAt_0 : decode cX11_refusalAt 0 = .ok (.iload_n 1, 1) := by decide +kernel
theorem dX11_refusalAt_1 : decode cX11_refusalAt 1 = .ok (.invokestatic 343, 3) := by decide +kernel
theorem dX11_refusalAt_4 : decode cX11_refusalAt 4 = .ok (.ifCond .ne 5, 3) := by decide +kernel
theorem dX11_refusalAt_7 : decode cX11_refusalAt 7 = .ok (.iconst (-1), 1) := by decide +kernel
theorem dX11_refusalAt_8 : decode cX11_refusalAt 8 = .ok (.ireturn, 1) := by decide +kernel
theorem dX11_refusalAt_9 : decode cX11_refusalAt 9 = .ok (.aload_n 0, 1) := by decide +kernel
theorem dX11_refusalAt_10 : decode cX11_refusalAt 10 = .ok (.iload_n 1, 1) := by decide +kernel
theorem dX11_refusalAt_11 : decode cX11_refusalAt 11 = .ok (.invokevirtual 358, 3) := by decide +kernel
theorem dX11_refusalAt_14 : decode cX11_refusalAt 14 = .ok (.ifCond .eq 6, 3) := by decide +kernel
theorem dX11_refusalAt_17 : decode cX11_refusalAt 17 = .ok (.bipush (-11), 2) := by decide +kernel
theorem dX11_refusalAt_19 : decode cX11_refusalAt 19 = .ok (.ireturn, 1) := by decide +kernel
theorem dX11_refusalAt_20 : decode cX11_refusalAt 20 = .ok (.aload_n 0, 1) := by decide +kernel
theorem dX11_refusalAt_21 : decode cX11_refusalAt 21 = .ok (.getfield 58, 3) := by decide +kernel
theorem dX11_refusalAt_24 : decode cX11_refusalAt 24 = .ok (.iload_n 1, 1) := by decide +kernel
theorem dX11_refusalAt_25 : decode cX11_refusalAt 25 = .ok (.iaload, 1) := by decide +kernel
theorem dX11_refusalAt_26 : decode cX11_refusalAt 26 = .ok (.iconst (-1), 1) := by decide +kernel
theorem dX11_refusalAt_27 : decode cX11_refusalAt 27 = .ok (.if_icmp .ne 6, 3) := by decide +kernel
theorem dX11_refusalAt_30 : decode cX11_refusalAt 30 = .ok (.bipush (-12), 2) := by decide +kernel
theorem dX11_refusalAt_32 : decode cX11_refusalAt 32 = .ok (.ireturn, 1) := by decide +kernel
theorem dX11_refusalAt_33 : decode cX11_refusalAt 33 = .ok (.aload_n 0, 1) := by decide +kernel
theorem dX11_refusalAt_34 : decode cX11_refusalAt 34 = .ok (.iload_n 1, 1) := by decide +kernel
theorem dX11_refusalAt_35 : decode cX11_refusalAt 35 = .ok (.iload_n 2, 1) := by decide +kernel
theorem dX11_refusalAt_36 : decode cX11_refusalAt 36 = .ok (.iconst 1, 1) := by decide +kernel
theorem dX11_refusalAt_37 : decode cX11_refusalAt 37 = .ok (.invokevirtual 361, 3) := by decide +kernel
theorem dX11_refusalAt_40 : decode cX11_refusalAt 40 = .ok (.ifCond .eq 7, 3) := by decide +kernel
theorem dX11_refusalAt_43 : decode cX11_refusalAt 43 = .ok (.iconst 0, 1) := by decide +kernel
theorem dX11_refusalAt_44 : decode cX11_refusalAt 44 = .ok (.goto 5, 3) := by decide +kernel
theorem dX11_refusalAt_47 : decode cX11_refusalAt 47 = .ok (.bipush (-13), 2) := by decide +kernel
theorem dX11_refusalAt_49 : decode cX11_refusalAt 49 = .ok (.ireturn, 1) := by decide +kernel
theorem dX11_holdsNothing_0 : decode cX11_holdsNothing 0 = .ok (.aload_n 0, 1) := by decide +kernel
theorem dX11_holdsNothing_1 : decode cX11_holdsNothing 1 = .ok (.getfield 55, 3) := by decide +kernel
theorem dX11_holdsNothing_4 : decode cX11_holdsNothing 4 = .ok (.iload_n 1, 1) := by decide +kernel
theorem dX11_holdsNothing_5 : decode cX11_holdsNothing 5 = .ok (.aaload, 1) := by decide +kernel
theorem dX11_holdsNothing_6 : decode cX11_holdsNothing 6 = .ok (.ifnonnull 17, 3) := by decide +kernel
theorem dX11_holdsNothing_9 : decode cX11_holdsNothing 9 = .ok (.aload_n 0, 1) := by decide +kernel
theorem dX11_holdsNothing_10 : decode cX11_holdsNothing 10 = .ok (.getfield 58, 3) := by decide +kernel
theorem dX11_holdsNothing_13 : decode cX11_holdsNothing 13 = .ok (.iload_n 1, 1) := by decide +kernel
theorem dX11_holdsNothing_14 : decode cX11_holdsNothing 14 = .ok (.iaload, 1) := by decide +kernel
theorem dX11_holdsNothing_15 : decode cX11_holdsNothing 15 = .ok (.iconst (-1), 1) := by decide +kernel
theorem dX11_holdsNothing_16 : decode cX11_holdsNothing 16 = .ok (.if_icmp .ne 7, 3) := by decide +kernel
theorem dX11_holdsNothing_19 : decode cX11_holdsNothing 19 = .ok (.iconst 1, 1) := by decide +kernel
theorem dX11_holdsNothing_20 : decode cX11_holdsNothing 20 = .ok (.goto 4, 3) := by decide +kernel
theorem dX11_holdsNothing_23 : decode cX11_holdsNothing 23 = .ok (.iconst 0, 1) := by decide +kernel
theorem dX11_holdsNothing_24 : decode cX11_holdsNothing 24 = .ok (.ireturn, 1) := by decide +kernel
theorem dX11_hasPlaces_0 : decode cX11_hasPlaces 0 = .ok (.iload_n 2, 1) := by decide +kernel
theorem dX11_hasPlaces_1 : decode cX11_hasPlaces 1 = .ok (.ifCond .lt 33, 3) := by decide +kernel
theorem dX11_hasPlaces_4 : decode cX11_hasPlaces 4 = .ok (.iload_n 3, 1) := by decide +kernel
theorem dX11_hasPlaces_5 : decode cX11_hasPlaces 5 = .ok (.ifCond .lt 29, 3) := by decide +kernel
theorem dX11_hasPlaces_8 : decode cX11_hasPlaces 8 = .ok (.iload_n 3, 1) := by decide +kernel
theorem dX11_hasPlaces_9 : decode cX11_hasPlaces 9 = .ok (.aload_n 0, 1) := by decide +kernel
theorem dX11_hasPlaces_10 : decode cX11_hasPlaces 10 = .ok (.getfield 61, 3) := by decide +kernel
theorem dX11_hasPlaces_13 : decode cX11_hasPlaces 13 = .ok (.iload_n 1, 1) := by decide +kernel
theorem dX11_hasPlaces_14 : decode cX11_hasPlaces 14 = .ok (.iaload, 1) := by decide +kernel
theorem dX11_hasPlaces_15 : decode cX11_hasPlaces 15 = .ok (.if_icmp .gt 19, 3) := by decide +kernel
theorem dX11_hasPlaces_18 : decode cX11_hasPlaces 18 = .ok (.iload_n 2, 1) := by decide +kernel
theorem dX11_hasPlaces_19 : decode cX11_hasPlaces 19 = .ok (.aload_n 0, 1) := by decide +kernel
theorem dX11_hasPlaces_20 : decode cX11_hasPlaces 20 = .ok (.getfield 61, 3) := by decide +kernel
theorem dX11_hasPlaces_23 : decode cX11_hasPlaces 23 = .ok (.iload_n 1, 1) := by decide +kernel
theorem dX11_hasPlaces_24 : decode cX11_hasPlaces 24 = .ok (.iaload, 1) := by decide +kernel
theorem dX11_hasPlaces_25 : decode cX11_hasPlaces 25 = .ok (.iload_n 3, 1) := by decide +kernel
theorem dX11_hasPlaces_26 : decode cX11_hasPlaces 26 = .ok (.isub, 1) := by decide +kernel
theorem dX11_hasPlaces_27 : decode cX11_hasPlaces 27 = .ok (.if_icmp .gt 7, 3) := by decide +kernel
theorem dX11_hasPlaces_30 : decode cX11_hasPlaces 30 = .ok (.iconst 1, 1) := by decide +kernel
theorem dX11_hasPlaces_31 : decode cX11_hasPlaces 31 = .ok (.goto 4, 3) := by decide +kernel
theorem dX11_hasPlaces_34 : decode cX11_hasPlaces 34 = .ok (.iconst 0, 1) := by decide +kernel
theorem dX11_hasPlaces_35 : decode cX11_hasPlaces 35 = .ok (.ireturn, 1) := by decide +kernel
theorem dX11_cut_0 : decode cX11_cut 0 = .ok (.iload_n 0, 1) := by decide +kernel
theorem dX11_cut_1 : decode cX11_cut 1 = .ok (.tableswitch 47 0 3 #[31, 36, 41, 45], 31) := by decide +kernel
theorem dX11_cut_32 : decode cX11_cut 32 = .ok (.lload_n 1, 1) := by decide +kernel
theorem dX11_cut_33 : decode cX11_cut 33 = .ok (.l2i, 1) := by decide +kernel
theorem dX11_cut_34 : decode cX11_cut 34 = .ok (.i2b, 1) := by decide +kernel
theorem dX11_cut_35 : decode cX11_cut 35 = .ok (.i2l, 1) := by decide +kernel
theorem dX11_cut_36 : decode cX11_cut 36 = .ok (.lreturn, 1) := by decide +kernel
theorem dX11_cut_37 : decode cX11_cut 37 = .ok (.lload_n 1, 1) := by decide +kernel
theorem dX11_cut_38 : decode cX11_cut 38 = .ok (.l2i, 1) := by decide +kernel
theorem dX11_cut_39 : decode cX11_cut 39 = .ok (.i2s, 1) := by decide +kernel
theorem dX11_cut_40 : decode cX11_cut 40 = .ok (.i2l, 1) := by decide +kernel
theorem dX11_cut_41 : decode cX11_cut 41 = .ok (.lreturn, 1) := by decide +kernel
theorem dX11_cut_42 : decode cX11_cut 42 = .ok (.lload_n 1, 1) := by decide +kernel
theorem dX11_cut_43 : decode cX11_cut 43 = .ok (.l2i, 1) := by decide +kernel
theorem dX11_cut_44 : decode cX11_cut 44 = .ok (.i2l, 1) := by decide +kernel
theorem dX11_cut_45 : decode cX11_cut 45 = .ok (.lreturn, 1) := by decide +kernel
theorem dX11_cut_46 : decode cX11_cut 46 = .ok (.lload_n 1, 1) := by decide +kernel
theorem dX11_cut_47 : decode cX11_cut 47 = .ok (.lreturn, 1) := by decide +kernel
theorem dX11_cut_48 : decode cX11_cut 48 = .ok (.lload_n 1, 1) := by decide +kernel
theorem dX11_cut_49 : decode cX11_cut 49 = .ok (.lconst 0, 1) := by decide +kernel
theorem dX11_cut_50 : decode cX11_cut 50 = .ok (.lcmp, 1) := by decide +kernel
theorem dX11_cut_51 : decode cX11_cut 51 = .ok (.ifCond .eq 7, 3) := by decide +kernel
theorem dX11_cut_54 : decode cX11_cut 54 = .ok (.lconst 1, 1) := by decide +kernel
theorem dX11_cut_55 : decode cX11_cut 55 = .ok (.goto 4, 3) := by decide +kernel
theorem dX11_cut_58 : decode cX11_cut 58 = .ok (.lconst 0, 1) := by decide +kernel
theorem dX11_cut_59 : decode cX11_cut 59 = .ok (.lreturn, 1) := by decide +kernel
theorem dX11_isOfKind_0 : decode cX11_isOfKind 0 = .ok (.iload_n 1, 1) := by decide +kernel
theorem dX11_isOfKind_1 : decode cX11_isOfKind 1 = .ok (.tableswitch 75 0 6 #[43, 45, 50, 55, 60, 65, 70], 43) := by decide +kernel
theorem dX11_isOfKind_44 : decode cX11_isOfKind 44 = .ok (.iconst 1, 1) := by decide +kernel
theorem dX11_isOfKind_45 : decode cX11_isOfKind 45 = .ok (.ireturn, 1) := by decide +kernel
theorem dX11_isOfKind_46 : decode cX11_isOfKind 46 = .ok (.aload_n 0, 1) := by decide +kernel
theorem dX11_isOfKind_47 : decode cX11_isOfKind 47 = .ok (.instanceof 172, 3) := by decide +kernel
theorem dX11_isOfKind_50 : decode cX11_isOfKind 50 = .ok (.ireturn, 1) := by decide +kernel
theorem dX11_isOfKind_51 : decode cX11_isOfKind 51 = .ok (.aload_n 0, 1) := by decide +kernel
theorem dX11_isOfKind_52 : decode cX11_isOfKind 52 = .ok (.instanceof 177, 3) := by decide +kernel
theorem dX11_isOfKind_55 : decode cX11_isOfKind 55 = .ok (.ireturn, 1) := by decide +kernel
theorem dX11_isOfKind_56 : decode cX11_isOfKind 56 = .ok (.aload_n 0, 1) := by decide +kernel
theorem dX11_isOfKind_57 : decode cX11_isOfKind 57 = .ok (.instanceof 180, 3) := by decide +kernel
theorem dX11_isOfKind_60 : decode cX11_isOfKind 60 = .ok (.ireturn, 1) := by decide +kernel
theorem dX11_isOfKind_61 : decode cX11_isOfKind 61 = .ok (.aload_n 0, 1) := by decide +kernel
theorem dX11_isOfKind_62 : decode cX11_isOfKind 62 = .ok (.instanceof 183, 3) := by decide +kernel
theorem dX11_isOfKind_65 : decode cX11_isOfKind 65 = .ok (.ireturn, 1) := by decide +kernel
theorem dX11_isOfKind_66 : decode cX11_isOfKind 66 = .ok (.aload_n 0, 1) := by decide +kernel
theorem dX11_isOfKind_67 : decode cX11_isOfKind 67 = .ok (.instanceof 188, 3) := by decide +kernel
theorem dX11_isOfKind_70 : decode cX11_isOfKind 70 = .ok (.ireturn, 1) := by decide +kernel
theorem dX11_isOfKind_71 : decode cX11_isOfKind 71 = .ok (.aload_n 0, 1) := by decide +kernel
theorem dX11_isOfKind_72 : decode cX11_isOfKind 72 = .ok (.instanceof 191, 3) := by decide +kernel
theorem dX11_isOfKind_75 : decode cX11_isOfKind 75 = .ok (.ireturn, 1) := by decide +kernel
theorem dX11_isOfKind_76 : decode cX11_isOfKind 76 = .ok (.aload_n 0, 1) := by decide +kernel
theorem dX11_isOfKind_77 : decode cX11_isOfKind 77 = .ok (.instanceof 194, 3) := by decide +kernel
theorem dX11_isOfKind_80 : decode cX11_isOfKind 80 = .ok (.ireturn, 1) := by decide +kernel
theorem dX11_askAt_0 : decode cX11_askAt 0 = .ok (.iload_n 1, 1) := by decide +kernel
theorem dX11_askAt_1 : decode cX11_askAt 1 = .ok (.iconst 0, 1) := by decide +kernel
theorem dX11_askAt_2 : decode cX11_askAt 2 = .ok (.aload_n 0, 1) := by decide +kernel
theorem dX11_askAt_3 : decode cX11_askAt 3 = .ok (.getfield 138, 3) := by decide +kernel
theorem dX11_askAt_6 : decode cX11_askAt 6 = .ok (.iconst 1, 1) := by decide +kernel
theorem dX11_askAt_7 : decode cX11_askAt 7 = .ok (.isub, 1) := by decide +kernel
theorem dX11_askAt_8 : decode cX11_askAt 8 = .ok (.invokestatic 110, 3) := by decide +kernel
theorem dX11_askAt_11 : decode cX11_askAt 11 = .ok (.ifCond .eq 12, 3) := by decide +kernel
theorem dX11_askAt_14 : decode cX11_askAt 14 = .ok (.aload_n 0, 1) := by decide +kernel
theorem dX11_askAt_15 : decode cX11_askAt 15 = .ok (.getfield 29, 3) := by decide +kernel
theorem dX11_askAt_18 : decode cX11_askAt 18 = .ok (.iload_n 1, 1) := by decide +kernel
theorem dX11_askAt_19 : decode cX11_askAt 19 = .ok (.aaload, 1) := by decide +kernel
theorem dX11_askAt_20 : decode cX11_askAt 20 = .ok (.goto 4, 3) := by decide +kernel
theorem dX11_askAt_23 : decode cX11_askAt 23 = .ok (.aconst_null, 1) := by decide +kernel
theorem dX11_askAt_24 : decode cX11_askAt 24 = .ok (.areturn, 1) := by decide +kernel
theorem dX11_stoneAt_0 : decode cX11_stoneAt 0 = .ok (.iload_n 1, 1) := by decide +kernel
theorem dX11_stoneAt_1 : decode cX11_stoneAt 1 = .ok (.iconst 0, 1) := by decide +kernel
theorem dX11_stoneAt_2 : decode cX11_stoneAt 2 = .ok (.aload_n 0, 1) := by decide +kernel
theorem dX11_stoneAt_3 : decode cX11_stoneAt 3 = .ok (.getfield 91, 3) := by decide +kernel
theorem dX11_stoneAt_6 : decode cX11_stoneAt 6 = .ok (.iconst 1, 1) := by decide +kernel
theorem dX11_stoneAt_7 : decode cX11_stoneAt 7 = .ok (.isub, 1) := by decide +kernel
theorem dX11_stoneAt_8 : decode cX11_stoneAt 8 = .ok (.invokestatic 110, 3) := by decide +kernel
theorem dX11_stoneAt_11 : decode cX11_stoneAt 11 = .ok (.ifCond .eq 12, 3) := by decide +kernel
theorem dX11_stoneAt_14 : decode cX11_stoneAt 14 = .ok (.aload_n 0, 1) := by decide +kernel
theorem dX11_stoneAt_15 : decode cX11_stoneAt 15 = .ok (.getfield 40, 3) := by decide +kernel
theorem dX11_stoneAt_18 : decode cX11_stoneAt 18 = .ok (.iload_n 1, 1) := by decide +kernel
theorem dX11_stoneAt_19 : decode cX11_stoneAt 19 = .ok (.aaload, 1) := by decide +kernel
theorem dX11_stoneAt_20 : decode cX11_stoneAt 20 = .ok (.goto 4, 3) := by decide +kernel
theorem dX11_stoneAt_23 : decode cX11_stoneAt 23 = .ok (.aconst_null, 1) := by decide +kernel
theorem dX11_stoneAt_24 : decode cX11_stoneAt 24 = .ok (.areturn, 1) := by decide +kernel
theorem dX11_isPlan_0 : decode cX11_isPlan 0 = .ok (.iload_n 1, 1) := by decide +kernel
theorem dX11_isPlan_1 : decode cX11_isPlan 1 = .ok (.iconst 0, 1) := by decide +kernel
theorem dX11_isPlan_2 : decode cX11_isPlan 2 = .ok (.iconst 1, 1) := by decide +kernel
theorem dX11_isPlan_3 : decode cX11_isPlan 3 = .ok (.aload_n 0, 1) := by decide +kernel
theorem dX11_isPlan_4 : decode cX11_isPlan 4 = .ok (.getfield 91, 3) := by decide +kernel
theorem dX11_isPlan_7 : decode cX11_isPlan 7 = .ok (.ishl, 1) := by decide +kernel
theorem dX11_isPlan_8 : decode cX11_isPlan 8 = .ok (.iconst 1, 1) := by decide +kernel
theorem dX11_isPlan_9 : decode cX11_isPlan 9 = .ok (.isub, 1) := by decide +kernel
theorem dX11_isPlan_10 : decode cX11_isPlan 10 = .ok (.invokestatic 110, 3) := by decide +kernel
theorem dX11_isPlan_13 : decode cX11_isPlan 13 = .ok (.ireturn, 1) := by decide +kernel
theorem dX11_isShelf_0 : decode cX11_isShelf 0 = .ok (.iload_n 0, 1) := by decide +kernel
theorem dX11_isShelf_1 : decode cX11_isShelf 1 = .ok (.iconst 0, 1) := by decide +kernel
theorem dX11_isShelf_2 : decode cX11_isShelf 2 = .ok (.iconst 5, 1) := by decide +kernel
theorem dX11_isShelf_3 : decode cX11_isShelf 3 = .ok (.invokestatic 110, 3) := by decide +kernel
theorem dX11_isShelf_6 : decode cX11_isShelf 6 = .ok (.ireturn, 1) := by decide +kernel
theorem dX11_isSize_0 : decode cX11_isSize 0 = .ok (.iload_n 0, 1) := by decide +kernel
theorem dX11_isSize_1 : decode cX11_isSize 1 = .ok (.iconst 1, 1) := by decide +kernel
theorem dX11_isSize_2 : decode cX11_isSize 2 = .ok (.sipush 999, 3) := by decide +kernel
theorem dX11_isSize_5 : decode cX11_isSize 5 = .ok (.invokestatic 110, 3) := by decide +kernel
theorem dX11_isSize_8 : decode cX11_isSize 8 = .ok (.ireturn, 1) := by decide +kernel
theorem dX11_isField_0 : decode cX11_isField 0 = .ok (.iload_n 0, 1) := by decide +kernel
theorem dX11_isField_1 : decode cX11_isField 1 = .ok (.iconst 0, 1) := by decide +kernel
theorem dX11_isField_2 : decode cX11_isField 2 = .ok (.iconst 3, 1) := by decide +kernel
theorem dX11_isField_3 : decode cX11_isField 3 = .ok (.invokestatic 110, 3) := by decide +kernel
theorem dX11_isField_6 : decode cX11_isField 6 = .ok (.ireturn, 1) := by decide +kernel
theorem dX11_isValue_0 : decode cX11_isValue 0 = .ok (.iload_n 0, 1) := by decide +kernel
theorem dX11_isValue_1 : decode cX11_isValue 1 = .ok (.iconst 0, 1) := by decide +kernel
theorem dX11_isValue_2 : decode cX11_isValue 2 = .ok (.bipush 99, 2) := by decide +kernel
theorem dX11_isValue_4 : decode cX11_isValue 4 = .ok (.invokestatic 110, 3) := by decide +kernel
theorem dX11_isValue_7 : decode cX11_isValue 7 = .ok (.ireturn, 1) := by decide +kernel
theorem dX11_isWithin_0 : decode cX11_isWithin 0 = .ok (.iload_n 0, 1) := by decide +kernel
theorem dX11_isWithin_1 : decode cX11_isWithin 1 = .ok (.iload_n 1, 1) := by decide +kernel
theorem dX11_isWithin_2 : decode cX11_isWithin 2 = .ok (.if_icmp .lt 12, 3) := by decide +kernel
theorem dX11_isWithin_5 : decode cX11_isWithin 5 = .ok (.iload_n 0, 1) := by decide +kernel
theorem dX11_isWithin_6 : decode cX11_isWithin 6 = .ok (.iload_n 2, 1) := by decide +kernel
theorem dX11_isWithin_7 : decode cX11_isWithin 7 = .ok (.if_icmp .gt 7, 3) := by decide +kernel
theorem dX11_isWithin_10 : decode cX11_isWithin 10 = .ok (.iconst 1, 1) := by decide +kernel
theorem dX11_isWithin_11 : decode cX11_isWithin 11 = .ok (.goto 4, 3) := by decide +kernel
theorem dX11_isWithin_14 : decode cX11_isWithin 14 = .ok (.iconst 0, 1) := by decide +kernel
theorem dX11_isWithin_15 : decode cX11_isWithin 15 = .ok (.ireturn, 1) := by decide +kernel
theorem dJ6_bitCount_0f7a4_0 : decode cJ6_bitCount_0f7a4 0 = .ok (.iload_n 0, 1) := by decide +kernel
theorem dJ6_bitCount_0f7a4_1 : decode cJ6_bitCount_0f7a4 1 = .ok (.iload_n 0, 1) := by decide +kernel
theorem dJ6_bitCount_0f7a4_2 : decode cJ6_bitCount_0f7a4 2 = .ok (.iconst 1, 1) := by decide +kernel
theorem dJ6_bitCount_0f7a4_3 : decode cJ6_bitCount_0f7a4 3 = .ok (.iushr, 1) := by decide +kernel
theorem dJ6_bitCount_0f7a4_4 : decode cJ6_bitCount_0f7a4 4 = .ok (.ldc_w 265, 3) := by decide +kernel
theorem dJ6_bitCount_0f7a4_7 : decode cJ6_bitCount_0f7a4 7 = .ok (.iand, 1) := by decide +kernel
theorem dJ6_bitCount_0f7a4_8 : decode cJ6_bitCount_0f7a4 8 = .ok (.isub, 1) := by decide +kernel
theorem dJ6_bitCount_0f7a4_9 : decode cJ6_bitCount_0f7a4 9 = .ok (.istore_n 0, 1) := by decide +kernel
theorem dJ6_bitCount_0f7a4_10 : decode cJ6_bitCount_0f7a4 10 = .ok (.iload_n 0, 1) := by decide +kernel
theorem dJ6_bitCount_0f7a4_11 : decode cJ6_bitCount_0f7a4 11 = .ok (.ldc_w 266, 3) := by decide +kernel
theorem dJ6_bitCount_0f7a4_14 : decode cJ6_bitCount_0f7a4 14 = .ok (.iand, 1) := by decide +kernel
theorem dJ6_bitCount_0f7a4_15 : decode cJ6_bitCount_0f7a4 15 = .ok (.iload_n 0, 1) := by decide +kernel
theorem dJ6_bitCount_0f7a4_16 : decode cJ6_bitCount_0f7a4 16 = .ok (.iconst 2, 1) := by decide +kernel
theorem dJ6_bitCount_0f7a4_17 : decode cJ6_bitCount_0f7a4 17 = .ok (.iushr, 1) := by decide +kernel
theorem dJ6_bitCount_0f7a4_18 : decode cJ6_bitCount_0f7a4 18 = .ok (.ldc_w 266, 3) := by decide +kernel
theorem dJ6_bitCount_0f7a4_21 : decode cJ6_bitCount_0f7a4 21 = .ok (.iand, 1) := by decide +kernel
theorem dJ6_bitCount_0f7a4_22 : decode cJ6_bitCount_0f7a4 22 = .ok (.iadd, 1) := by decide +kernel
theorem dJ6_bitCount_0f7a4_23 : decode cJ6_bitCount_0f7a4 23 = .ok (.istore_n 0, 1) := by decide +kernel
theorem dJ6_bitCount_0f7a4_24 : decode cJ6_bitCount_0f7a4 24 = .ok (.iload_n 0, 1) := by decide +kernel
theorem dJ6_bitCount_0f7a4_25 : decode cJ6_bitCount_0f7a4 25 = .ok (.iload_n 0, 1) := by decide +kernel
theorem dJ6_bitCount_0f7a4_26 : decode cJ6_bitCount_0f7a4 26 = .ok (.iconst 4, 1) := by decide +kernel
theorem dJ6_bitCount_0f7a4_27 : decode cJ6_bitCount_0f7a4 27 = .ok (.iushr, 1) := by decide +kernel
theorem dJ6_bitCount_0f7a4_28 : decode cJ6_bitCount_0f7a4 28 = .ok (.iadd, 1) := by decide +kernel
theorem dJ6_bitCount_0f7a4_29 : decode cJ6_bitCount_0f7a4 29 = .ok (.ldc_w 267, 3) := by decide +kernel
theorem dJ6_bitCount_0f7a4_32 : decode cJ6_bitCount_0f7a4 32 = .ok (.iand, 1) := by decide +kernel
theorem dJ6_bitCount_0f7a4_33 : decode cJ6_bitCount_0f7a4 33 = .ok (.istore_n 0, 1) := by decide +kernel
theorem dJ6_bitCount_0f7a4_34 : decode cJ6_bitCount_0f7a4 34 = .ok (.iload_n 0, 1) := by decide +kernel
theorem dJ6_bitCount_0f7a4_35 : decode cJ6_bitCount_0f7a4 35 = .ok (.iload_n 0, 1) := by decide +kernel
theorem dJ6_bitCount_0f7a4_36 : decode cJ6_bitCount_0f7a4 36 = .ok (.bipush 8, 2) := by decide +kernel
theorem dJ6_bitCount_0f7a4_38 : decode cJ6_bitCount_0f7a4 38 = .ok (.iushr, 1) := by decide +kernel
theorem dJ6_bitCount_0f7a4_39 : decode cJ6_bitCount_0f7a4 39 = .ok (.iadd, 1) := by decide +kernel
theorem dJ6_bitCount_0f7a4_40 : decode cJ6_bitCount_0f7a4 40 = .ok (.istore_n 0, 1) := by decide +kernel
theorem dJ6_bitCount_0f7a4_41 : decode cJ6_bitCount_0f7a4 41 = .ok (.iload_n 0, 1) := by decide +kernel
theorem dJ6_bitCount_0f7a4_42 : decode cJ6_bitCount_0f7a4 42 = .ok (.iload_n 0, 1) := by decide +kernel
theorem dJ6_bitCount_0f7a4_43 : decode cJ6_bitCount_0f7a4 43 = .ok (.bipush 16, 2) := by decide +kernel
theorem dJ6_bitCount_0f7a4_45 : decode cJ6_bitCount_0f7a4 45 = .ok (.iushr, 1) := by decide +kernel
theorem dJ6_bitCount_0f7a4_46 : decode cJ6_bitCount_0f7a4 46 = .ok (.iadd, 1) := by decide +kernel
theorem dJ6_bitCount_0f7a4_47 : decode cJ6_bitCount_0f7a4 47 = .ok (.istore_n 0, 1) := by decide +kernel
theorem dJ6_bitCount_0f7a4_48 : decode cJ6_bitCount_0f7a4 48 = .ok (.iload_n 0, 1) := by decide +kernel
theorem dJ6_bitCount_0f7a4_49 : decode cJ6_bitCount_0f7a4 49 = .ok (.bipush 63, 2) := by decide +kernel
theorem dJ6_bitCount_0f7a4_51 : decode cJ6_bitCount_0f7a4 51 = .ok (.iand, 1) := by decide +kernel
theorem dJ6_bitCount_0f7a4_52 : decode cJ6_bitCount_0f7a4 52 = .ok (.ireturn, 1) := by decide +kernel
theorem dJ9_max_7cf53_0 : decode cJ9_max_7cf53 0 = .ok (.iload_n 0, 1) := by decide +kernel
theorem dJ9_max_7cf53_1 : decode cJ9_max_7cf53 1 = .ok (.iload_n 1, 1) := by decide +kernel
theorem dJ9_max_7cf53_2 : decode cJ9_max_7cf53 2 = .ok (.if_icmp .lt 7, 3) := by decide +kernel
theorem dJ9_max_7cf53_5 : decode cJ9_max_7cf53 5 = .ok (.iload_n 0, 1) := by decide +kernel
theorem dJ9_max_7cf53_6 : decode cJ9_max_7cf53 6 = .ok (.goto 4, 3) := by decide +kernel
theorem dJ9_max_7cf53_9 : decode cJ9_max_7cf53 9 = .ok (.iload_n 1, 1) := by decide +kernel
theorem dJ9_max_7cf53_10 : decode cJ9_max_7cf53 10 = .ok (.ireturn, 1) := by decide +kernel
theorem dJ9_min_7cf53_0 : decode cJ9_min_7cf53 0 = .ok (.iload_n 0, 1) := by decide +kernel
theorem dJ9_min_7cf53_1 : decode cJ9_min_7cf53 1 = .ok (.iload_n 1, 1) := by decide +kernel
theorem dJ9_min_7cf53_2 : decode cJ9_min_7cf53 2 = .ok (.if_icmp .gt 7, 3) := by decide +kernel
theorem dJ9_min_7cf53_5 : decode cJ9_min_7cf53 5 = .ok (.iload_n 0, 1) := by decide +kernel
theorem dJ9_min_7cf53_6 : decode cJ9_min_7cf53 6 = .ok (.goto 4, 3) := by decide +kernel
theorem dJ9_min_7cf53_9 : decode cJ9_min_7cf53 9 = .ok (.iload_n 1, 1) := by decide +kernel
theorem dJ9_min_7cf53_10 : decode cJ9_min_7cf53 10 = .ok (.ireturn, 1) := by decide +kernel
theorem dJ9_min_f86c9_0 : decode cJ9_min_f86c9 0 = .ok (.lload_n 0, 1) := by decide +kernel
theorem dJ9_min_f86c9_1 : decode cJ9_min_f86c9 1 = .ok (.lload_n 2, 1) := by decide +kernel
theorem dJ9_min_f86c9_2 : decode cJ9_min_f86c9 2 = .ok (.lcmp, 1) := by decide +kernel
theorem dJ9_min_f86c9_3 : decode cJ9_min_f86c9 3 = .ok (.ifCond .gt 7, 3) := by decide +kernel
theorem dJ9_min_f86c9_6 : decode cJ9_min_f86c9 6 = .ok (.lload_n 0, 1) := by decide +kernel
theorem dJ9_min_f86c9_7 : decode cJ9_min_f86c9 7 = .ok (.goto 4, 3) := by decide +kernel
theorem dJ9_min_f86c9_10 : decode cJ9_min_f86c9 10 = .ok (.lload_n 2, 1) := by decide +kernel
theorem dJ9_min_f86c9_11 : decode cJ9_min_f86c9 11 = .ok (.lreturn, 1) := by decide +kernel
theorem dJ7_fill_d0a16_0 : decode cJ7_fill_d0a16 0 = .ok (.iconst 0, 1) := by decide +kernel
theorem dJ7_fill_d0a16_1 : decode cJ7_fill_d0a16 1 = .ok (.istore_n 3, 1) := by decide +kernel
theorem dJ7_fill_d0a16_2 : decode cJ7_fill_d0a16 2 = .ok (.aload_n 0, 1) := by decide +kernel
theorem dJ7_fill_d0a16_3 : decode cJ7_fill_d0a16 3 = .ok (.arraylength, 1) := by decide +kernel
theorem dJ7_fill_d0a16_4 : decode cJ7_fill_d0a16 4 = .ok (.istore 4, 2) := by decide +kernel
theorem dJ7_fill_d0a16_6 : decode cJ7_fill_d0a16 6 = .ok (.iload_n 3, 1) := by decide +kernel
theorem dJ7_fill_d0a16_7 : decode cJ7_fill_d0a16 7 = .ok (.iload 4, 2) := by decide +kernel
theorem dJ7_fill_d0a16_9 : decode cJ7_fill_d0a16 9 = .ok (.if_icmp .ge 13, 3) := by decide +kernel
theorem dJ7_fill_d0a16_12 : decode cJ7_fill_d0a16 12 = .ok (.aload_n 0, 1) := by decide +kernel
theorem dJ7_fill_d0a16_13 : decode cJ7_fill_d0a16 13 = .ok (.iload_n 3, 1) := by decide +kernel
theorem dJ7_fill_d0a16_14 : decode cJ7_fill_d0a16 14 = .ok (.lload_n 1, 1) := by decide +kernel
theorem dJ7_fill_d0a16_15 : decode cJ7_fill_d0a16 15 = .ok (.lastore, 1) := by decide +kernel
theorem dJ7_fill_d0a16_16 : decode cJ7_fill_d0a16 16 = .ok (.iinc 3 1, 3) := by decide +kernel
theorem dJ7_fill_d0a16_19 : decode cJ7_fill_d0a16 19 = .ok (.goto (-13), 3) := by decide +kernel
theorem dJ7_fill_d0a16_22 : decode cJ7_fill_d0a16 22 = .ok (.return_, 1) := by decide +kernel
theorem dJ7_fill_53178_0 : decode cJ7_fill_53178 0 = .ok (.iconst 0, 1) := by decide +kernel
theorem dJ7_fill_53178_1 : decode cJ7_fill_53178 1 = .ok (.istore_n 2, 1) := by decide +kernel
theorem dJ7_fill_53178_2 : decode cJ7_fill_53178 2 = .ok (.aload_n 0, 1) := by decide +kernel
theorem dJ7_fill_53178_3 : decode cJ7_fill_53178 3 = .ok (.arraylength, 1) := by decide +kernel
theorem dJ7_fill_53178_4 : decode cJ7_fill_53178 4 = .ok (.istore_n 3, 1) := by decide +kernel
theorem dJ7_fill_53178_5 : decode cJ7_fill_53178 5 = .ok (.iload_n 2, 1) := by decide +kernel
theorem dJ7_fill_53178_6 : decode cJ7_fill_53178 6 = .ok (.iload_n 3, 1) := by decide +kernel
theorem dJ7_fill_53178_7 : decode cJ7_fill_53178 7 = .ok (.if_icmp .ge 13, 3) := by decide +kernel
theorem dJ7_fill_53178_10 : decode cJ7_fill_53178 10 = .ok (.aload_n 0, 1) := by decide +kernel
theorem dJ7_fill_53178_11 : decode cJ7_fill_53178 11 = .ok (.iload_n 2, 1) := by decide +kernel
theorem dJ7_fill_53178_12 : decode cJ7_fill_53178 12 = .ok (.iload_n 1, 1) := by decide +kernel
theorem dJ7_fill_53178_13 : decode cJ7_fill_53178 13 = .ok (.iastore, 1) := by decide +kernel
theorem dJ7_fill_53178_14 : decode cJ7_fill_53178 14 = .ok (.iinc 2 1, 3) := by decide +kernel
theorem dJ7_fill_53178_17 : decode cJ7_fill_53178 17 = .ok (.goto (-12), 3) := by decide +kernel
theorem dJ7_fill_53178_20 : decode cJ7_fill_53178 20 = .ok (.return_, 1) := by decide +kernel
