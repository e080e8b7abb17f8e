/-! decode rows -/
theorem dX11_order_58 : decode cX11_order 58 = .ok (.iload_n 3, 1) := by decide +kernel
theorem dX11_order_59 : decode cX11_order 59 = .ok (.iconst (-1), 1) := by decide +kernel
theorem dX11_order_60 : decode cX11_order 60 = .ok (.if_icmp .eq 8, 3) := by decide +kernel
theorem dX11_order_63 : decode cX11_order 63 = .ok (.iload_n 2, 1) := by decide +kernel
theorem dX11_order_64 : decode cX11_order 64 = .ok (.iload_n 1, 1) := by decide +kernel
theorem dX11_order_65 : decode cX11_order 65 = .ok (.if_icmp .ne 14, 3) := by decide +kernel
theorem dX11_order_68 : decode cX11_order 68 = .ok (.iload_n 1, 1) := by decide +kernel
theorem dX11_order_69 : decode cX11_order 69 = .ok (.iconst (-1), 1) := by decide +kernel
theorem dX11_order_70 : decode cX11_order 70 = .ok (.if_icmp .ne 7, 3) := by decide +kernel
theorem dX11_order_73 : decode cX11_order 73 = .ok (.iload_n 2, 1) := by decide +kernel
theorem dX11_order_74 : decode cX11_order 74 = .ok (.goto 4, 3) := by decide +kernel
theorem dX11_order_77 : decode cX11_order 77 = .ok (.iload_n 3, 1) := by decide +kernel
theorem dX11_order_78 : decode cX11_order 78 = .ok (.ireturn, 1) := by decide +kernel
theorem dX11_order_79 : decode cX11_order 79 = .ok (.aload_n 0, 1) := by decide +kernel
theorem dX11_order_80 : decode cX11_order 80 = .ok (.getfield 68, 3) := by decide +kernel
theorem dX11_order_83 : decode cX11_order 83 = .ok (.getfield 267, 3) := by decide +kernel
theorem dX11_order_86 : decode cX11_order 86 = .ok (.iload_n 3, 1) := by decide +kernel
theorem dX11_order_87 : decode cX11_order 87 = .ok (.iconst 5, 1) := by decide +kernel
theorem dX11_order_88 : decode cX11_order 88 = .ok (.iconst 2, 1) := by decide +kernel
theorem dX11_order_89 : decode cX11_order 89 = .ok (.invokevirtual 128, 3) := by decide +kernel
theorem dX11_order_92 : decode cX11_order 92 = .ok (.iinc 2 1, 3) := by decide +kernel
theorem dX11_order_95 : decode cX11_order 95 = .ok (.goto (-56), 3) := by decide +kernel
theorem dX11_order_98 : decode cX11_order 98 = .ok (.iload_n 1, 1) := by decide +kernel
theorem dX11_order_99 : decode cX11_order 99 = .ok (.iconst (-1), 1) := by decide +kernel
theorem dX11_order_100 : decode cX11_order 100 = .ok (.if_icmp .ne 8, 3) := by decide +kernel
theorem dX11_order_103 : decode cX11_order 103 = .ok (.bipush 16, 2) := by decide +kernel
theorem dX11_order_105 : decode cX11_order 105 = .ok (.goto 4, 3) := by decide +kernel
theorem dX11_order_108 : decode cX11_order 108 = .ok (.iconst (-1), 1) := by decide +kernel
theorem dX11_order_109 : decode cX11_order 109 = .ok (.ireturn, 1) := by decide +kernel
theorem dX11_dawn_0 : decode cX11_dawn 0 = .ok (.aload_n 0, 1) := by decide +kernel
theorem dX11_dawn_1 : decode cX11_dawn 1 = .ok (.invokevirtual 294, 3) := by decide +kernel
theorem dX11_dawn_4 : decode cX11_dawn 4 = .ok (.istore_n 1, 1) := by decide +kernel
theorem dX11_dawn_5 : decode cX11_dawn 5 = .ok (.iload_n 1, 1) := by decide +kernel
theorem dX11_dawn_6 : decode cX11_dawn 6 = .ok (.ifCond .ge 11, 3) := by decide +kernel
theorem dX11_dawn_9 : decode cX11_dawn 9 = .ok (.aload_n 0, 1) := by decide +kernel
theorem dX11_dawn_10 : decode cX11_dawn 10 = .ok (.iload_n 1, 1) := by decide +kernel
theorem dX11_dawn_11 : decode cX11_dawn 11 = .ok (.invokevirtual 117, 3) := by decide +kernel
theorem dX11_dawn_14 : decode cX11_dawn 14 = .ok (.goto 8, 3) := by decide +kernel
theorem dX11_dawn_17 : decode cX11_dawn 17 = .ok (.aload_n 0, 1) := by decide +kernel
theorem dX11_dawn_18 : decode cX11_dawn 18 = .ok (.iload_n 1, 1) := by decide +kernel
theorem dX11_dawn_19 : decode cX11_dawn 19 = .ok (.invokevirtual 132, 3) := by decide +kernel
theorem dX11_dawn_22 : decode cX11_dawn 22 = .ok (.ireturn, 1) := by decide +kernel
theorem dX11_undo_0 : decode cX11_undo 0 = .ok (.aload_n 0, 1) := by decide +kernel
theorem dX11_undo_1 : decode cX11_undo 1 = .ok (.getfield 75, 3) := by decide +kernel
theorem dX11_undo_4 : decode cX11_undo 4 = .ok (.getfield 188, 3) := by decide +kernel
theorem dX11_undo_7 : decode cX11_undo 7 = .ok (.ifCond .ne 10, 3) := by decide +kernel
theorem dX11_undo_10 : decode cX11_undo 10 = .ok (.aload_n 0, 1) := by decide +kernel
theorem dX11_undo_11 : decode cX11_undo 11 = .ok (.bipush (-3), 2) := by decide +kernel
theorem dX11_undo_13 : decode cX11_undo 13 = .ok (.invokevirtual 117, 3) := by decide +kernel
theorem dX11_undo_16 : decode cX11_undo 16 = .ok (.ireturn, 1) := by decide +kernel
theorem dX11_undo_17 : decode cX11_undo 17 = .ok (.aload_n 0, 1) := by decide +kernel
theorem dX11_undo_18 : decode cX11_undo 18 = .ok (.getfield 75, 3) := by decide +kernel
theorem dX11_undo_21 : decode cX11_undo 21 = .ok (.aload_n 0, 1) := by decide +kernel
theorem dX11_undo_22 : decode cX11_undo 22 = .ok (.getfield 75, 3) := by decide +kernel
theorem dX11_undo_25 : decode cX11_undo 25 = .ok (.getfield 188, 3) := by decide +kernel
theorem dX11_undo_28 : decode cX11_undo 28 = .ok (.iconst 1, 1) := by decide +kernel
theorem dX11_undo_29 : decode cX11_undo 29 = .ok (.isub, 1) := by decide +kernel
theorem dX11_undo_30 : decode cX11_undo 30 = .ok (.iconst 0, 1) := by decide +kernel
theorem dX11_undo_31 : decode cX11_undo 31 = .ok (.invokevirtual 135, 3) := by decide +kernel
theorem dX11_undo_34 : decode cX11_undo 34 = .ok (.istore_n 1, 1) := by decide +kernel
theorem dX11_undo_35 : decode cX11_undo 35 = .ok (.aload_n 0, 1) := by decide +kernel
theorem dX11_undo_36 : decode cX11_undo 36 = .ok (.getfield 75, 3) := by decide +kernel
theorem dX11_undo_39 : decode cX11_undo 39 = .ok (.aload_n 0, 1) := by decide +kernel
theorem dX11_undo_40 : decode cX11_undo 40 = .ok (.getfield 75, 3) := by decide +kernel
theorem dX11_undo_43 : decode cX11_undo 43 = .ok (.getfield 188, 3) := by decide +kernel
theorem dX11_undo_46 : decode cX11_undo 46 = .ok (.iconst 1, 1) := by decide +kernel
theorem dX11_undo_47 : decode cX11_undo 47 = .ok (.isub, 1) := by decide +kernel
theorem dX11_undo_48 : decode cX11_undo 48 = .ok (.invokevirtual 184, 3) := by decide +kernel
theorem dX11_undo_51 : decode cX11_undo 51 = .ok (.iload_n 1, 1) := by decide +kernel
theorem dX11_undo_52 : decode cX11_undo 52 = .ok (.ifCond .ne 37, 3) := by decide +kernel
theorem dX11_undo_55 : decode cX11_undo 55 = .ok (.aload_n 0, 1) := by decide +kernel
theorem dX11_undo_56 : decode cX11_undo 56 = .ok (.getfield 10, 3) := by decide +kernel
theorem dX11_undo_59 : decode cX11_undo 59 = .ok (.getfield 162, 3) := by decide +kernel
theorem dX11_undo_62 : decode cX11_undo 62 = .ok (.getfield 267, 3) := by decide +kernel
theorem dX11_undo_65 : decode cX11_undo 65 = .ok (.aload_n 0, 1) := by decide +kernel
theorem dX11_undo_66 : decode cX11_undo 66 = .ok (.getfield 10, 3) := by decide +kernel
theorem dX11_undo_69 : decode cX11_undo 69 = .ok (.getfield 162, 3) := by decide +kernel
theorem dX11_undo_72 : decode cX11_undo 72 = .ok (.getfield 267, 3) := by decide +kernel
theorem dX11_undo_75 : decode cX11_undo 75 = .ok (.getfield 188, 3) := by decide +kernel
theorem dX11_undo_78 : decode cX11_undo 78 = .ok (.iconst 1, 1) := by decide +kernel
theorem dX11_undo_79 : decode cX11_undo 79 = .ok (.isub, 1) := by decide +kernel
theorem dX11_undo_80 : decode cX11_undo 80 = .ok (.invokevirtual 184, 3) := by decide +kernel
theorem dX11_undo_83 : decode cX11_undo 83 = .ok (.aload_n 0, 1) := by decide +kernel
theorem dX11_undo_84 : decode cX11_undo 84 = .ok (.iconst 0, 1) := by decide +kernel
theorem dX11_undo_85 : decode cX11_undo 85 = .ok (.invokevirtual 132, 3) := by decide +kernel
theorem dX11_undo_88 : decode cX11_undo 88 = .ok (.ireturn, 1) := by decide +kernel
theorem dX11_undo_89 : decode cX11_undo 89 = .ok (.aload_n 0, 1) := by decide +kernel
theorem dX11_undo_90 : decode cX11_undo 90 = .ok (.getfield 10, 3) := by decide +kernel
theorem dX11_undo_93 : decode cX11_undo 93 = .ok (.getfield 162, 3) := by decide +kernel
theorem dX11_undo_96 : decode cX11_undo 96 = .ok (.iload_n 1, 1) := by decide +kernel
theorem dX11_undo_97 : decode cX11_undo 97 = .ok (.iconst 1, 1) := by decide +kernel
theorem dX11_undo_98 : decode cX11_undo 98 = .ok (.ishr, 1) := by decide +kernel
theorem dX11_undo_99 : decode cX11_undo 99 = .ok (.invokevirtual 297, 3) := by decide +kernel
theorem dX11_undo_102 : decode cX11_undo 102 = .ok (.aload_n 0, 1) := by decide +kernel
theorem dX11_undo_103 : decode cX11_undo 103 = .ok (.iconst 1, 1) := by decide +kernel
theorem dX11_undo_104 : decode cX11_undo 104 = .ok (.invokevirtual 132, 3) := by decide +kernel
theorem dX11_undo_107 : decode cX11_undo 107 = .ok (.ireturn, 1) := by decide +kernel
theorem dX11_sweep_0 : decode cX11_sweep 0 = .ok (.aload_n 0, 1) := by decide +kernel
theorem dX11_sweep_1 : decode cX11_sweep 1 = .ok (.getfield 75, 3) := by decide +kernel
theorem dX11_sweep_4 : decode cX11_sweep 4 = .ok (.iconst 0, 1) := by decide +kernel
theorem dX11_sweep_5 : decode cX11_sweep 5 = .ok (.invokevirtual 184, 3) := by decide +kernel
theorem dX11_sweep_8 : decode cX11_sweep 8 = .ok (.aload_n 0, 1) := by decide +kernel
theorem dX11_sweep_9 : decode cX11_sweep 9 = .ok (.getfield 10, 3) := by decide +kernel
theorem dX11_sweep_12 : decode cX11_sweep 12 = .ok (.getfield 162, 3) := by decide +kernel
theorem dX11_sweep_15 : decode cX11_sweep 15 = .ok (.invokevirtual 300, 3) := by decide +kernel
theorem dX11_sweep_18 : decode cX11_sweep 18 = .ok (.ireturn, 1) := by decide +kernel
theorem dX11_code_0 : decode cX11_code 0 = .ok (.iload_n 2, 1) := by decide +kernel
theorem dX11_code_1 : decode cX11_code 1 = .ok (.iconst 0, 1) := by decide +kernel
theorem dX11_code_2 : decode cX11_code 2 = .ok (.bipush 8, 2) := by decide +kernel
theorem dX11_code_4 : decode cX11_code 4 = .ok (.invokestatic 113, 3) := by decide +kernel
theorem dX11_code_7 : decode cX11_code 7 = .ok (.ifCond .eq 18, 3) := by decide +kernel
theorem dX11_code_10 : decode cX11_code 10 = .ok (.aload_n 0, 1) := by decide +kernel
theorem dX11_code_11 : decode cX11_code 11 = .ok (.getfield 91, 3) := by decide +kernel
theorem dX11_code_14 : decode cX11_code 14 = .ok (.aload_n 0, 1) := by decide +kernel
theorem dX11_code_15 : decode cX11_code 15 = .ok (.getfield 10, 3) := by decide +kernel
theorem dX11_code_18 : decode cX11_code 18 = .ok (.iload_n 1, 1) := by decide +kernel
theorem dX11_code_19 : decode cX11_code 19 = .ok (.invokevirtual 303, 3) := by decide +kernel
theorem dX11_code_22 : decode cX11_code 22 = .ok (.ifCond .ne 5, 3) := by decide +kernel
theorem dX11_code_25 : decode cX11_code 25 = .ok (.iconst (-1), 1) := by decide +kernel
theorem dX11_code_26 : decode cX11_code 26 = .ok (.ireturn, 1) := by decide +kernel
theorem dX11_code_27 : decode cX11_code 27 = .ok (.iload_n 2, 1) := by decide +kernel
theorem dX11_code_28 : decode cX11_code 28 = .ok (.ifCond .ne 13, 3) := by decide +kernel
theorem dX11_code_31 : decode cX11_code 31 = .ok (.aload_n 0, 1) := by decide +kernel
theorem dX11_code_32 : decode cX11_code 32 = .ok (.getfield 91, 3) := by decide +kernel
theorem dX11_code_35 : decode cX11_code 35 = .ok (.invokevirtual 306, 3) := by decide +kernel
theorem dX11_code_38 : decode cX11_code 38 = .ok (.goto 13, 3) := by decide +kernel
theorem dX11_code_41 : decode cX11_code 41 = .ok (.aload_n 0, 1) := by decide +kernel
theorem dX11_code_42 : decode cX11_code 42 = .ok (.getfield 91, 3) := by decide +kernel
theorem dX11_code_45 : decode cX11_code 45 = .ok (.iload_n 2, 1) := by decide +kernel
theorem dX11_code_46 : decode cX11_code 46 = .ok (.iconst 1, 1) := by decide +kernel
theorem dX11_code_47 : decode cX11_code 47 = .ok (.isub, 1) := by decide +kernel
theorem dX11_code_48 : decode cX11_code 48 = .ok (.invokevirtual 309, 3) := by decide +kernel
theorem dX11_code_51 : decode cX11_code 51 = .ok (.ireturn, 1) := by decide +kernel
theorem dX11_bundle_0 : decode cX11_bundle 0 = .ok (.iload_n 1, 1) := by decide +kernel
theorem dX11_bundle_1 : decode cX11_bundle 1 = .ok (.iconst 1, 1) := by decide +kernel
theorem dX11_bundle_2 : decode cX11_bundle 2 = .ok (.sipush 255, 3) := by decide +kernel
theorem dX11_bundle_5 : decode cX11_bundle 5 = .ok (.invokestatic 113, 3) := by decide +kernel
theorem dX11_bundle_8 : decode cX11_bundle 8 = .ok (.ifCond .eq 13, 3) := by decide +kernel
theorem dX11_bundle_11 : decode cX11_bundle 11 = .ok (.iload_n 2, 1) := by decide +kernel
theorem dX11_bundle_12 : decode cX11_bundle 12 = .ok (.iconst 1, 1) := by decide +kernel
theorem dX11_bundle_13 : decode cX11_bundle 13 = .ok (.bipush 99, 2) := by decide +kernel
theorem dX11_bundle_15 : decode cX11_bundle 15 = .ok (.invokestatic 113, 3) := by decide +kernel
theorem dX11_bundle_18 : decode cX11_bundle 18 = .ok (.ifCond .ne 9, 3) := by decide +kernel
theorem dX11_bundle_21 : decode cX11_bundle 21 = .ok (.aload_n 0, 1) := by decide +kernel
theorem dX11_bundle_22 : decode cX11_bundle 22 = .ok (.iconst (-1), 1) := by decide +kernel
theorem dX11_bundle_23 : decode cX11_bundle 23 = .ok (.invokevirtual 117, 3) := by decide +kernel
theorem dX11_bundle_26 : decode cX11_bundle 26 = .ok (.ireturn, 1) := by decide +kernel
theorem dX11_bundle_27 : decode cX11_bundle 27 = .ok (.aload_n 0, 1) := by decide +kernel
theorem dX11_bundle_28 : decode cX11_bundle 28 = .ok (.getfield 10, 3) := by decide +kernel
theorem dX11_bundle_31 : decode cX11_bundle 31 = .ok (.getfield 310, 3) := by decide +kernel
theorem dX11_bundle_34 : decode cX11_bundle 34 = .ok (.invokevirtual 124, 3) := by decide +kernel
theorem dX11_bundle_37 : decode cX11_bundle 37 = .ok (.istore_n 3, 1) := by decide +kernel
theorem dX11_bundle_38 : decode cX11_bundle 38 = .ok (.iload_n 3, 1) := by decide +kernel
theorem dX11_bundle_39 : decode cX11_bundle 39 = .ok (.iconst (-1), 1) := by decide +kernel
theorem dX11_bundle_40 : decode cX11_bundle 40 = .ok (.if_icmp .ne 10, 3) := by decide +kernel
theorem dX11_bundle_43 : decode cX11_bundle 43 = .ok (.aload_n 0, 1) := by decide +kernel
theorem dX11_bundle_44 : decode cX11_bundle 44 = .ok (.bipush (-5), 2) := by decide +kernel
theorem dX11_bundle_46 : decode cX11_bundle 46 = .ok (.invokevirtual 117, 3) := by decide +kernel
theorem dX11_bundle_49 : decode cX11_bundle 49 = .ok (.ireturn, 1) := by decide +kernel
theorem dX11_bundle_50 : decode cX11_bundle 50 = .ok (.aload_n 0, 1) := by decide +kernel
theorem dX11_bundle_51 : decode cX11_bundle 51 = .ok (.getfield 10, 3) := by decide +kernel
theorem dX11_bundle_54 : decode cX11_bundle 54 = .ok (.getfield 310, 3) := by decide +kernel
theorem dX11_bundle_57 : decode cX11_bundle 57 = .ok (.iload_n 3, 1) := by decide +kernel
theorem dX11_bundle_58 : decode cX11_bundle 58 = .ok (.iconst 0, 1) := by decide +kernel
theorem dX11_bundle_59 : decode cX11_bundle 59 = .ok (.iload_n 1, 1) := by decide +kernel
theorem dX11_bundle_60 : decode cX11_bundle 60 = .ok (.invokevirtual 128, 3) := by decide +kernel
theorem dX11_bundle_63 : decode cX11_bundle 63 = .ok (.aload_n 0, 1) := by decide +kernel
theorem dX11_bundle_64 : decode cX11_bundle 64 = .ok (.getfield 10, 3) := by decide +kernel
theorem dX11_bundle_67 : decode cX11_bundle 67 = .ok (.getfield 310, 3) := by decide +kernel
theorem dX11_bundle_70 : decode cX11_bundle 70 = .ok (.iload_n 3, 1) := by decide +kernel
theorem dX11_bundle_71 : decode cX11_bundle 71 = .ok (.iconst 1, 1) := by decide +kernel
theorem dX11_bundle_72 : decode cX11_bundle 72 = .ok (.iload_n 2, 1) := by decide +kernel
theorem dX11_bundle_73 : decode cX11_bundle 73 = .ok (.invokevirtual 128, 3) := by decide +kernel
theorem dX11_bundle_76 : decode cX11_bundle 76 = .ok (.aload_n 0, 1) := by decide +kernel
theorem dX11_bundle_77 : decode cX11_bundle 77 = .ok (.iload_n 3, 1) := by decide +kernel
theorem dX11_bundle_78 : decode cX11_bundle 78 = .ok (.invokevirtual 132, 3) := by decide +kernel
theorem dX11_bundle_81 : decode cX11_bundle 81 = .ok (.ireturn, 1) := by decide +kernel
theorem dX11_cover_0 : decode cX11_cover 0 = .ok (.iload_n 1, 1) := by decide +kernel
theorem dX11_cover_1 : decode cX11_cover 1 = .ok (.iconst 1, 1) := by decide +kernel
theorem dX11_cover_2 : decode cX11_cover 2 = .ok (.sipush 255, 3) := by decide +kernel
theorem dX11_cover_5 : decode cX11_cover 5 = .ok (.invokestatic 113, 3) := by decide +kernel
theorem dX11_cover_8 : decode cX11_cover 8 = .ok (.ifCond .eq 12, 3) := by decide +kernel
theorem dX11_cover_11 : decode cX11_cover 11 = .ok (.iload_n 2, 1) := by decide +kernel
theorem dX11_cover_12 : decode cX11_cover 12 = .ok (.iconst 0, 1) := by decide +kernel
theorem dX11_cover_13 : decode cX11_cover 13 = .ok (.iconst 1, 1) := by decide +kernel
theorem dX11_cover_14 : decode cX11_cover 14 = .ok (.invokestatic 113, 3) := by decide +kernel
theorem dX11_cover_17 : decode cX11_cover 17 = .ok (.ifCond .ne 5, 3) := by decide +kernel
theorem dX11_cover_20 : decode cX11_cover 20 = .ok (.iconst (-1), 1) := by decide +kernel
theorem dX11_cover_21 : decode cX11_cover 21 = .ok (.ireturn, 1) := by decide +kernel
theorem dX11_cover_22 : decode cX11_cover 22 = .ok (.iconst (-1), 1) := by decide +kernel
theorem dX11_cover_23 : decode cX11_cover 23 = .ok (.istore_n 3, 1) := by decide +kernel
theorem dX11_cover_24 : decode cX11_cover 24 = .ok (.iconst 0, 1) := by decide +kernel
theorem dX11_cover_25 : decode cX11_cover 25 = .ok (.istore 4, 2) := by decide +kernel
theorem dX11_cover_27 : decode cX11_cover 27 = .ok (.iconst 1, 1) := by decide +kernel
theorem dX11_cover_28 : decode cX11_cover 28 = .ok (.istore 5, 2) := by decide +kernel
theorem dX11_cover_30 : decode cX11_cover 30 = .ok (.iload 5, 2) := by decide +kernel
theorem dX11_cover_32 : decode cX11_cover 32 = .ok (.iconst 1, 1) := by decide +kernel
theorem dX11_cover_33 : decode cX11_cover 33 = .ok (.aload_n 0, 1) := by decide +kernel
theorem dX11_cover_34 : decode cX11_cover 34 = .ok (.getfield 10, 3) := by decide +kernel
theorem dX11_cover_37 : decode cX11_cover 37 = .ok (.getfield 310, 3) := by decide +kernel
theorem dX11_cover_40 : decode cX11_cover 40 = .ok (.getfield 188, 3) := by decide +kernel
theorem dX11_cover_43 : decode cX11_cover 43 = .ok (.ishl, 1) := by decide +kernel
theorem dX11_cover_44 : decode cX11_cover 44 = .ok (.if_icmp .ge 46, 3) := by decide +kernel
theorem dX11_cover_47 : decode cX11_cover 47 = .ok (.aload_n 0, 1) := by decide +kernel
theorem dX11_cover_48 : decode cX11_cover 48 = .ok (.getfield 10, 3) := by decide +kernel
theorem dX11_cover_51 : decode cX11_cover 51 = .ok (.iload 5, 2) := by decide +kernel
theorem dX11_cover_53 : decode cX11_cover 53 = .ok (.iload_n 1, 1) := by decide +kernel
theorem dX11_cover_54 : decode cX11_cover 54 = .ok (.invokevirtual 313, 3) := by decide +kernel
theorem dX11_cover_57 : decode cX11_cover 57 = .ok (.istore 6, 2) := by decide +kernel
theorem dX11_cover_59 : decode cX11_cover 59 = .ok (.iload 6, 2) := by decide +kernel
theorem dX11_cover_61 : decode cX11_cover 61 = .ok (.iconst (-1), 1) := by decide +kernel
theorem dX11_cover_62 : decode cX11_cover 62 = .ok (.if_icmp .eq 22, 3) := by decide +kernel
theorem dX11_cover_65 : decode cX11_cover 65 = .ok (.iload_n 3, 1) := by decide +kernel
theorem dX11_cover_66 : decode cX11_cover 66 = .ok (.iconst (-1), 1) := by decide +kernel
theorem dX11_cover_67 : decode cX11_cover 67 = .ok (.if_icmp .eq 10, 3) := by decide +kernel
theorem dX11_cover_70 : decode cX11_cover 70 = .ok (.iload 6, 2) := by decide +kernel
theorem dX11_cover_72 : decode cX11_cover 72 = .ok (.iload 4, 2) := by decide +kernel
theorem dX11_cover_74 : decode cX11_cover 74 = .ok (.if_icmp .ge 10, 3) := by decide +kernel
theorem dX11_cover_77 : decode cX11_cover 77 = .ok (.iload 5, 2) := by decide +kernel
theorem dX11_cover_79 : decode cX11_cover 79 = .ok (.istore_n 3, 1) := by decide +kernel
theorem dX11_cover_80 : decode cX11_cover 80 = .ok (.iload 6, 2) := by decide +kernel
theorem dX11_cover_82 : decode cX11_cover 82 = .ok (.istore 4, 2) := by decide +kernel
theorem dX11_cover_84 : decode cX11_cover 84 = .ok (.iinc 5 1, 3) := by decide +kernel
theorem dX11_cover_87 : decode cX11_cover 87 = .ok (.goto (-57), 3) := by decide +kernel
theorem dX11_cover_90 : decode cX11_cover 90 = .ok (.iload_n 3, 1) := by decide +kernel
theorem dX11_cover_91 : decode cX11_cover 91 = .ok (.iconst (-1), 1) := by decide +kernel
theorem dX11_cover_92 : decode cX11_cover 92 = .ok (.if_icmp .ne 5, 3) := by decide +kernel
theorem dX11_cover_95 : decode cX11_cover 95 = .ok (.iconst (-1), 1) := by decide +kernel
theorem dX11_cover_96 : decode cX11_cover 96 = .ok (.ireturn, 1) := by decide +kernel
theorem dX11_cover_97 : decode cX11_cover 97 = .ok (.iload_n 2, 1) := by decide +kernel
theorem dX11_cover_98 : decode cX11_cover 98 = .ok (.ifCond .ne 11, 3) := by decide +kernel
theorem dX11_cover_101 : decode cX11_cover 101 = .ok (.iload 4, 2) := by decide +kernel
theorem dX11_cover_103 : decode cX11_cover 103 = .ok (.bipush 16, 2) := by decide +kernel
theorem dX11_cover_105 : decode cX11_cover 105 = .ok (.idiv, 1) := by decide +kernel
theorem dX11_cover_106 : decode cX11_cover 106 = .ok (.goto 4, 3) := by decide +kernel
theorem dX11_cover_109 : decode cX11_cover 109 = .ok (.iload_n 3, 1) := by decide +kernel
theorem dX11_cover_110 : decode cX11_cover 110 = .ok (.ireturn, 1) := by decide +kernel
theorem dX11_when_0 : decode cX11_when 0 = .ok (.aload_n 0, 1) := by decide +kernel
theorem dX11_when_1 : decode cX11_when 1 = .ok (.getfield 10, 3) := by decide +kernel
theorem dX11_when_4 : decode cX11_when 4 = .ok (.getfield 162, 3) := by decide +kernel
theorem dX11_when_7 : decode cX11_when 7 = .ok (.iload_n 1, 1) := by decide +kernel
theorem dX11_when_8 : decode cX11_when 8 = .ok (.invokevirtual 270, 3) := by decide +kernel
theorem dX11_when_11 : decode cX11_when 11 = .ok (.ifCond .eq 22, 3) := by decide +kernel
theorem dX11_when_14 : decode cX11_when 14 = .ok (.iload_n 2, 1) := by decide +kernel
theorem dX11_when_15 : decode cX11_when 15 = .ok (.iconst 1, 1) := by decide +kernel
theorem dX11_when_16 : decode cX11_when 16 = .ok (.bipush 50, 2) := by decide +kernel
theorem dX11_when_18 : decode cX11_when 18 = .ok (.invokestatic 113, 3) := by decide +kernel
theorem dX11_when_21 : decode cX11_when 21 = .ok (.ifCond .eq 12, 3) := by decide +kernel
theorem dX11_when_24 : decode cX11_when 24 = .ok (.iload_n 3, 1) := by decide +kernel
theorem dX11_when_25 : decode cX11_when 25 = .ok (.iconst 0, 1) := by decide +kernel
theorem dX11_when_26 : decode cX11_when 26 = .ok (.iconst 1, 1) := by decide +kernel
theorem dX11_when_27 : decode cX11_when 27 = .ok (.invokestatic 113, 3) := by decide +kernel
theorem dX11_when_30 : decode cX11_when 30 = .ok (.ifCond .ne 5, 3) := by decide +kernel
theorem dX11_when_33 : decode cX11_when 33 = .ok (.iconst (-1), 1) := by decide +kernel
theorem dX11_when_34 : decode cX11_when 34 = .ok (.ireturn, 1) := by decide +kernel
theorem dX11_when_35 : decode cX11_when 35 = .ok (.aload_n 0, 1) := by decide +kernel
theorem dX11_when_36 : decode cX11_when 36 = .ok (.getfield 68, 3) := by decide +kernel
theorem dX11_when_39 : decode cX11_when 39 = .ok (.aload_n 0, 1) := by decide +kernel
theorem dX11_when_40 : decode cX11_when 40 = .ok (.getfield 10, 3) := by decide +kernel
theorem dX11_when_43 : decode cX11_when 43 = .ok (.getfield 162, 3) := by decide +kernel
theorem dX11_when_46 : decode cX11_when 46 = .ok (.invokevirtual 216, 3) := by decide +kernel
theorem dX11_when_49 : decode cX11_when 49 = .ok (.iconst 0, 1) := by decide +kernel
theorem dX11_when_50 : decode cX11_when 50 = .ok (.istore 4, 2) := by decide +kernel
theorem dX11_when_52 : decode cX11_when 52 = .ok (.iload 4, 2) := by decide +kernel
theorem dX11_when_54 : decode cX11_when 54 = .ok (.iload_n 2, 1) := by decide +kernel
theorem dX11_when_55 : decode cX11_when 55 = .ok (.if_icmp .ge 66, 3) := by decide +kernel
theorem dX11_when_58 : decode cX11_when 58 = .ok (.aload_n 0, 1) := by decide +kernel
theorem dX11_when_59 : decode cX11_when 59 = .ok (.getfield 68, 3) := by decide +kernel
theorem dX11_when_62 : decode cX11_when 62 = .ok (.iload_n 1, 1) := by decide +kernel
theorem dX11_when_63 : decode cX11_when 63 = .ok (.invokevirtual 270, 3) := by decide +kernel
theorem dX11_when_66 : decode cX11_when 66 = .ok (.ifCond .eq 55, 3) := by decide +kernel
theorem dX11_when_69 : decode cX11_when 69 = .ok (.aload_n 0, 1) := by decide +kernel
theorem dX11_when_70 : decode cX11_when 70 = .ok (.getfield 68, 3) := by decide +kernel
theorem dX11_when_73 : decode cX11_when 73 = .ok (.getfield 165, 3) := by decide +kernel
theorem dX11_when_76 : decode cX11_when 76 = .ok (.sipush 999, 3) := by decide +kernel
theorem dX11_when_79 : decode cX11_when 79 = .ok (.if_icmp .ge 42, 3) := by decide +kernel
theorem dX11_when_82 : decode cX11_when 82 = .ok (.aload_n 0, 1) := by decide +kernel
theorem dX11_when_83 : decode cX11_when 83 = .ok (.getfield 61, 3) := by decide +kernel
theorem dX11_when_86 : decode cX11_when 86 = .ok (.aload_n 0, 1) := by decide +kernel
theorem dX11_when_87 : decode cX11_when 87 = .ok (.getfield 10, 3) := by decide +kernel
theorem dX11_when_90 : decode cX11_when 90 = .ok (.aload_n 0, 1) := by decide +kernel
theorem dX11_when_91 : decode cX11_when 91 = .ok (.getfield 68, 3) := by decide +kernel
theorem dX11_when_94 : decode cX11_when 94 = .ok (.iconst 1, 1) := by decide +kernel
theorem dX11_when_95 : decode cX11_when 95 = .ok (.invokevirtual 286, 3) := by decide +kernel
theorem dX11_when_98 : decode cX11_when 98 = .ok (.aload_n 0, 1) := by decide +kernel
theorem dX11_when_99 : decode cX11_when 99 = .ok (.getfield 61, 3) := by decide +kernel
theorem dX11_when_102 : decode cX11_when 102 = .ok (.aload_n 0, 1) := by decide +kernel
theorem dX11_when_103 : decode cX11_when 103 = .ok (.getfield 10, 3) := by decide +kernel
theorem dX11_when_106 : decode cX11_when 106 = .ok (.aload_n 0, 1) := by decide +kernel
theorem dX11_when_107 : decode cX11_when 107 = .ok (.getfield 68, 3) := by decide +kernel
theorem dX11_when_110 : decode cX11_when 110 = .ok (.iconst 1, 1) := by decide +kernel
theorem dX11_when_111 : decode cX11_when 111 = .ok (.invokevirtual 316, 3) := by decide +kernel
theorem dX11_when_114 : decode cX11_when 114 = .ok (.pop, 1) := by decide +kernel
theorem dX11_when_115 : decode cX11_when 115 = .ok (.iinc 4 1, 3) := by decide +kernel
theorem dX11_when_118 : decode cX11_when 118 = .ok (.goto (-66), 3) := by decide +kernel
theorem dX11_when_121 : decode cX11_when 121 = .ok (.aload_n 0, 1) := by decide +kernel
theorem dX11_when_122 : decode cX11_when 122 = .ok (.getfield 68, 3) := by decide +kernel
theorem dX11_when_125 : decode cX11_when 125 = .ok (.iload_n 1, 1) := by decide +kernel
theorem dX11_when_126 : decode cX11_when 126 = .ok (.invokevirtual 270, 3) := by decide +kernel
theorem dX11_when_129 : decode cX11_when 129 = .ok (.ifCond .eq 5, 3) := by decide +kernel
theorem dX11_when_132 : decode cX11_when 132 = .ok (.iconst (-1), 1) := by decide +kernel
theorem dX11_when_133 : decode cX11_when 133 = .ok (.ireturn, 1) := by decide +kernel
theorem dX11_when_134 : decode cX11_when 134 = .ok (.aload_n 0, 1) := by decide +kernel
theorem dX11_when_135 : decode cX11_when 135 = .ok (.getfield 68, 3) := by decide +kernel
theorem dX11_when_138 : decode cX11_when 138 = .ok (.getfield 267, 3) := by decide +kernel
theorem dX11_when_141 : decode cX11_when 141 = .ok (.iload_n 1, 1) := by decide +kernel
theorem dX11_when_142 : decode cX11_when 142 = .ok (.iconst 5, 1) := by decide +kernel
theorem dX11_when_143 : decode cX11_when 143 = .ok (.invokevirtual 135, 3) := by decide +kernel
theorem dX11_when_146 : decode cX11_when 146 = .ok (.iconst 1, 1) := by decide +kernel
theorem dX11_when_147 : decode cX11_when 147 = .ok (.if_icmp .ne 7, 3) := by decide +kernel
theorem dX11_when_150 : decode cX11_when 150 = .ok (.iconst 1, 1) := by decide +kernel
theorem dX11_when_151 : decode cX11_when 151 = .ok (.goto 4, 3) := by decide +kernel
theorem dX11_when_154 : decode cX11_when 154 = .ok (.iconst 0, 1) := by decide +kernel
theorem dX11_when_155 : decode cX11_when 155 = .ok (.istore 4, 2) := by decide +kernel
theorem dX11_when_157 : decode cX11_when 157 = .ok (.iload_n 3, 1) := by decide +kernel
theorem dX11_when_158 : decode cX11_when 158 = .ok (.ifCond .ne 19, 3) := by decide +kernel
theorem dX11_when_161 : decode cX11_when 161 = .ok (.aload_n 0, 1) := by decide +kernel
theorem dX11_when_162 : decode cX11_when 162 = .ok (.getfield 68, 3) := by decide +kernel
theorem dX11_when_165 : decode cX11_when 165 = .ok (.getfield 267, 3) := by decide +kernel
theorem dX11_when_168 : decode cX11_when 168 = .ok (.iload_n 1, 1) := by decide +kernel
theorem dX11_when_169 : decode cX11_when 169 = .ok (.bipush 6, 2) := by decide +kernel
theorem dX11_when_171 : decode cX11_when 171 = .ok (.invokevirtual 135, 3) := by decide +kernel
theorem dX11_when_174 : decode cX11_when 174 = .ok (.goto 5, 3) := by decide +kernel
theorem dX11_when_177 : decode cX11_when 177 = .ok (.iload 4, 2) := by decide +kernel
theorem dX11_when_179 : decode cX11_when 179 = .ok (.ireturn, 1) := by decide +kernel
theorem dX11_longest_0 : decode cX11_longest 0 = .ok (.aload_n 0, 1) := by decide +kernel
theorem dX11_longest_1 : decode cX11_longest 1 = .ok (.getfield 10, 3) := by decide +kernel
theorem dX11_longest_4 : decode cX11_longest 4 = .ok (.getfield 156, 3) := by decide +kernel
theorem dX11_longest_7 : decode cX11_longest 7 = .ok (.iload_n 1, 1) := by decide +kernel
theorem dX11_longest_8 : decode cX11_longest 8 = .ok (.invokevirtual 159, 3) := by decide +kernel
theorem dX11_longest_11 : decode cX11_longest 11 = .ok (.ifCond .eq 36, 3) := by decide +kernel
theorem dX11_longest_14 : decode cX11_longest 14 = .ok (.iload_n 2, 1) := by decide +kernel
theorem dX11_longest_15 : decode cX11_longest 15 = .ok (.invokestatic 139, 3) := by decide +kernel
theorem dX11_longest_18 : decode cX11_longest 18 = .ok (.ifCond .eq 29, 3) := by decide +kernel
theorem dX11_longest_21 : decode cX11_longest 21 = .ok (.iload_n 3, 1) := by decide +kernel
theorem dX11_longest_22 : decode cX11_longest 22 = .ok (.iconst 1, 1) := by decide +kernel
theorem dX11_longest_23 : decode cX11_longest 23 = .ok (.bipush 6, 2) := by decide +kernel
theorem dX11_longest_25 : decode cX11_longest 25 = .ok (.invokestatic 113, 3) := by decide +kernel
theorem dX11_longest_28 : decode cX11_longest 28 = .ok (.ifCond .eq 19, 3) := by decide +kernel
theorem dX11_longest_31 : decode cX11_longest 31 = .ok (.aload_n 0, 1) := by decide +kernel
theorem dX11_longest_32 : decode cX11_longest 32 = .ok (.getfield 10, 3) := by decide +kernel
theorem dX11_longest_35 : decode cX11_longest 35 = .ok (.getfield 162, 3) := by decide +kernel
theorem dX11_longest_38 : decode cX11_longest 38 = .ok (.getfield 165, 3) := by decide +kernel
theorem dX11_longest_41 : decode cX11_longest 41 = .ok (.sipush 999, 3) := by decide +kernel
theorem dX11_longest_44 : decode cX11_longest 44 = .ok (.if_icmp .lt 5, 3) := by decide +kernel
theorem dX11_longest_47 : decode cX11_longest 47 = .ok (.iconst (-1), 1) := by decide +kernel
theorem dX11_longest_48 : decode cX11_longest 48 = .ok (.ireturn, 1) := by decide +kernel
theorem dX11_longest_49 : decode cX11_longest 49 = .ok (.aload_n 0, 1) := by decide +kernel
theorem dX11_longest_50 : decode cX11_longest 50 = .ok (.getfield 61, 3) := by decide +kernel
theorem dX11_longest_53 : decode cX11_longest 53 = .ok (.aload_n 0, 1) := by decide +kernel
theorem dX11_longest_54 : decode cX11_longest 54 = .ok (.getfield 10, 3) := by decide +kernel
theorem dX11_longest_57 : decode cX11_longest 57 = .ok (.aload_n 0, 1) := by decide +kernel
theorem dX11_longest_58 : decode cX11_longest 58 = .ok (.getfield 10, 3) := by decide +kernel
theorem dX11_longest_61 : decode cX11_longest 61 = .ok (.getfield 162, 3) := by decide +kernel
theorem dX11_longest_64 : decode cX11_longest 64 = .ok (.iconst 1, 1) := by decide +kernel
theorem dX11_longest_65 : decode cX11_longest 65 = .ok (.invokevirtual 286, 3) := by decide +kernel
theorem dX11_longest_68 : decode cX11_longest 68 = .ok (.aload_n 0, 1) := by decide +kernel
theorem dX11_longest_69 : decode cX11_longest 69 = .ok (.getfield 52, 3) := by decide +kernel
theorem dX11_longest_72 : decode cX11_longest 72 = .ok (.aload_n 0, 1) := by decide +kernel
theorem dX11_longest_73 : decode cX11_longest 73 = .ok (.getfield 10, 3) := by decide +kernel
theorem dX11_longest_76 : decode cX11_longest 76 = .ok (.iload_n 1, 1) := by decide +kernel
theorem dX11_longest_77 : decode cX11_longest 77 = .ok (.aload_n 0, 1) := by decide +kernel
theorem dX11_longest_78 : decode cX11_longest 78 = .ok (.getfield 10, 3) := by decide +kernel
theorem dX11_longest_81 : decode cX11_longest 81 = .ok (.getfield 162, 3) := by decide +kernel
theorem dX11_longest_84 : decode cX11_longest 84 = .ok (.getfield 165, 3) := by decide +kernel
theorem dX11_longest_87 : decode cX11_longest 87 = .ok (.invokevirtual 168, 3) := by decide +kernel
theorem dX11_longest_90 : decode cX11_longest 90 = .ok (.istore 4, 2) := by decide +kernel
theorem dX11_longest_92 : decode cX11_longest 92 = .ok (.iload 4, 2) := by decide +kernel
theorem dX11_longest_94 : decode cX11_longest 94 = .ok (.ifCond .le 101, 3) := by decide +kernel
theorem dX11_longest_97 : decode cX11_longest 97 = .ok (.aload_n 0, 1) := by decide +kernel
theorem dX11_longest_98 : decode cX11_longest 98 = .ok (.getfield 68, 3) := by decide +kernel
theorem dX11_longest_101 : decode cX11_longest 101 = .ok (.aload_n 0, 1) := by decide +kernel
theorem dX11_longest_102 : decode cX11_longest 102 = .ok (.getfield 10, 3) := by decide +kernel
theorem dX11_longest_105 : decode cX11_longest 105 = .ok (.getfield 162, 3) := by decide +kernel
theorem dX11_longest_108 : decode cX11_longest 108 = .ok (.invokevirtual 216, 3) := by decide +kernel
theorem dX11_longest_111 : decode cX11_longest 111 = .ok (.aload_n 0, 1) := by decide +kernel
theorem dX11_longest_112 : decode cX11_longest 112 = .ok (.getfield 68, 3) := by decide +kernel
theorem dX11_longest_115 : decode cX11_longest 115 = .ok (.iload_n 1, 1) := by decide +kernel
theorem dX11_longest_116 : decode cX11_longest 116 = .ok (.iload_n 2, 1) := by decide +kernel
theorem dX11_longest_117 : decode cX11_longest 117 = .ok (.iload 4, 2) := by decide +kernel
theorem dX11_longest_119 : decode cX11_longest 119 = .ok (.iload_n 3, 1) := by decide +kernel
theorem dX11_longest_120 : decode cX11_longest 120 = .ok (.invokevirtual 320, 3) := by decide +kernel
theorem dX11_longest_123 : decode cX11_longest 123 = .ok (.istore 5, 2) := by decide +kernel
theorem dX11_longest_125 : decode cX11_longest 125 = .ok (.aload_n 0, 1) := by decide +kernel
theorem dX11_longest_126 : decode cX11_longest 126 = .ok (.getfield 61, 3) := by decide +kernel
theorem dX11_longest_129 : decode cX11_longest 129 = .ok (.aload_n 0, 1) := by decide +kernel
theorem dX11_longest_130 : decode cX11_longest 130 = .ok (.getfield 10, 3) := by decide +kernel
theorem dX11_longest_133 : decode cX11_longest 133 = .ok (.aload_n 0, 1) := by decide +kernel
theorem dX11_longest_134 : decode cX11_longest 134 = .ok (.getfield 68, 3) := by decide +kernel
theorem dX11_longest_137 : decode cX11_longest 137 = .ok (.iload 5, 2) := by decide +kernel
theorem dX11_longest_139 : decode cX11_longest 139 = .ok (.iconst 1, 1) := by decide +kernel
theorem dX11_longest_140 : decode cX11_longest 140 = .ok (.aload_n 0, 1) := by decide +kernel
theorem dX11_longest_141 : decode cX11_longest 141 = .ok (.getfield 68, 3) := by decide +kernel
theorem dX11_longest_144 : decode cX11_longest 144 = .ok (.getfield 165, 3) := by decide +kernel
theorem dX11_longest_147 : decode cX11_longest 147 = .ok (.iconst 1, 1) := by decide +kernel
theorem dX11_longest_148 : decode cX11_longest 148 = .ok (.iadd, 1) := by decide +kernel
theorem dX11_longest_149 : decode cX11_longest 149 = .ok (.invokevirtual 324, 3) := by decide +kernel
theorem dX11_longest_152 : decode cX11_longest 152 = .ok (.aload_n 0, 1) := by decide +kernel
theorem dX11_longest_153 : decode cX11_longest 153 = .ok (.getfield 61, 3) := by decide +kernel
theorem dX11_longest_156 : decode cX11_longest 156 = .ok (.aload_n 0, 1) := by decide +kernel
theorem dX11_longest_157 : decode cX11_longest 157 = .ok (.getfield 10, 3) := by decide +kernel
theorem dX11_longest_160 : decode cX11_longest 160 = .ok (.aload_n 0, 1) := by decide +kernel
theorem dX11_longest_161 : decode cX11_longest 161 = .ok (.getfield 68, 3) := by decide +kernel
theorem dX11_longest_164 : decode cX11_longest 164 = .ok (.iconst 1, 1) := by decide +kernel
theorem dX11_longest_165 : decode cX11_longest 165 = .ok (.invokevirtual 316, 3) := by decide +kernel
theorem dX11_longest_168 : decode cX11_longest 168 = .ok (.pop, 1) := by decide +kernel
theorem dX11_longest_169 : decode cX11_longest 169 = .ok (.aload_n 0, 1) := by decide +kernel
theorem dX11_longest_170 : decode cX11_longest 170 = .ok (.getfield 68, 3) := by decide +kernel
theorem dX11_longest_173 : decode cX11_longest 173 = .ok (.getfield 267, 3) := by decide +kernel
theorem dX11_longest_176 : decode cX11_longest 176 = .ok (.iload 5, 2) := by decide +kernel
theorem dX11_longest_178 : decode cX11_longest 178 = .ok (.iconst 5, 1) := by decide +kernel
theorem dX11_longest_179 : decode cX11_longest 179 = .ok (.invokevirtual 135, 3) := by decide +kernel
theorem dX11_longest_182 : decode cX11_longest 182 = .ok (.iconst 1, 1) := by decide +kernel
theorem dX11_longest_183 : decode cX11_longest 183 = .ok (.if_icmp .ne 6, 3) := by decide +kernel
theorem dX11_longest_186 : decode cX11_longest 186 = .ok (.iload 4, 2) := by decide +kernel
theorem dX11_longest_188 : decode cX11_longest 188 = .ok (.ireturn, 1) := by decide +kernel
theorem dX11_longest_189 : decode cX11_longest 189 = .ok (.iinc 4 (-1), 3) := by decide +kernel
theorem dX11_longest_192 : decode cX11_longest 192 = .ok (.goto (-100), 3) := by decide +kernel
theorem dX11_longest_195 : decode cX11_longest 195 = .ok (.iconst (-1), 1) := by decide +kernel
theorem dX11_longest_196 : decode cX11_longest 196 = .ok (.ireturn, 1) := by decide +kernel
theorem dX11_keep_0 : decode cX11_keep 0 = .ok (.aload_n 0, 1) := by decide +kernel
theorem dX11_keep_1 : decode cX11_keep 1 = .ok (.getfield 10, 3) := by decide +kernel
theorem dX11_keep_4 : decode cX11_keep 4 = .ok (.getfield 162, 3) := by decide +kernel
theorem dX11_keep_7 : decode cX11_keep 7 = .ok (.iload_n 1, 1) := by decide +kernel
theorem dX11_keep_8 : decode cX11_keep 8 = .ok (.invokevirtual 270, 3) := by decide +kernel
theorem dX11_keep_11 : decode cX11_keep 11 = .ok (.ifCond .eq 66, 3) := by decide +kernel
theorem dX11_keep_14 : decode cX11_keep 14 = .ok (.iload_n 2, 1) := by decide +kernel
theorem dX11_keep_15 : decode cX11_keep 15 = .ok (.iconst 1, 1) := by decide +kernel
theorem dX11_keep_16 : decode cX11_keep 16 = .ok (.bipush 20, 2) := by decide +kernel
theorem dX11_keep_18 : decode cX11_keep 18 = .ok (.invokestatic 113, 3) := by decide +kernel
theorem dX11_keep_21 : decode cX11_keep 21 = .ok (.ifCond .eq 56, 3) := by decide +kernel
theorem dX11_keep_24 : decode cX11_keep 24 = .ok (.aload_n 0, 1) := by decide +kernel
theorem dX11_keep_25 : decode cX11_keep 25 = .ok (.getfield 10, 3) := by decide +kernel
theorem dX11_keep_28 : decode cX11_keep 28 = .ok (.getfield 156, 3) := by decide +kernel
theorem dX11_keep_31 : decode cX11_keep 31 = .ok (.iload_n 3, 1) := by decide +kernel
theorem dX11_keep_32 : decode cX11_keep 32 = .ok (.invokevirtual 159, 3) := by decide +kernel
theorem dX11_keep_35 : decode cX11_keep 35 = .ok (.ifCond .eq 42, 3) := by decide +kernel
theorem dX11_keep_38 : decode cX11_keep 38 = .ok (.iload 4, 2) := by decide +kernel
theorem dX11_keep_40 : decode cX11_keep 40 = .ok (.invokestatic 139, 3) := by decide +kernel
theorem dX11_keep_43 : decode cX11_keep 43 = .ok (.ifCond .eq 34, 3) := by decide +kernel
theorem dX11_keep_46 : decode cX11_keep 46 = .ok (.iload 5, 2) := by decide +kernel
theorem dX11_keep_48 : decode cX11_keep 48 = .ok (.iconst 1, 1) := by decide +kernel
theorem dX11_keep_49 : decode cX11_keep 49 = .ok (.aload_n 0, 1) := by decide +kernel
theorem dX11_keep_50 : decode cX11_keep 50 = .ok (.getfield 52, 3) := by decide +kernel
theorem dX11_keep_53 : decode cX11_keep 53 = .ok (.aload_n 0, 1) := by decide +kernel
theorem dX11_keep_54 : decode cX11_keep 54 = .ok (.getfield 10, 3) := by decide +kernel
theorem dX11_keep_57 : decode cX11_keep 57 = .ok (.iload_n 3, 1) := by decide +kernel
theorem dX11_keep_58 : decode cX11_keep 58 = .ok (.aload_n 0, 1) := by decide +kernel
theorem dX11_keep_59 : decode cX11_keep 59 = .ok (.getfield 10, 3) := by decide +kernel
theorem dX11_keep_62 : decode cX11_keep 62 = .ok (.getfield 162, 3) := by decide +kernel
theorem dX11_keep_65 : decode cX11_keep 65 = .ok (.getfield 165, 3) := by decide +kernel
theorem dX11_keep_68 : decode cX11_keep 68 = .ok (.invokevirtual 168, 3) := by decide +kernel
theorem dX11_keep_71 : decode cX11_keep 71 = .ok (.invokestatic 113, 3) := by decide +kernel
theorem dX11_keep_74 : decode cX11_keep 74 = .ok (.ifCond .ne 5, 3) := by decide +kernel
theorem dX11_keep_77 : decode cX11_keep 77 = .ok (.iconst (-1), 1) := by decide +kernel
theorem dX11_keep_78 : decode cX11_keep 78 = .ok (.ireturn, 1) := by decide +kernel
theorem dX11_keep_79 : decode cX11_keep 79 = .ok (.iload_n 2, 1) := by decide +kernel
theorem dX11_keep_80 : decode cX11_keep 80 = .ok (.sipush 999, 3) := by decide +kernel
theorem dX11_keep_83 : decode cX11_keep 83 = .ok (.aload_n 0, 1) := by decide +kernel
theorem dX11_keep_84 : decode cX11_keep 84 = .ok (.getfield 10, 3) := by decide +kernel
theorem dX11_keep_87 : decode cX11_keep 87 = .ok (.getfield 162, 3) := by decide +kernel
theorem dX11_keep_90 : decode cX11_keep 90 = .ok (.getfield 165, 3) := by decide +kernel
theorem dX11_keep_93 : decode cX11_keep 93 = .ok (.isub, 1) := by decide +kernel
theorem dX11_keep_94 : decode cX11_keep 94 = .ok (.invokestatic 328, 3) := by decide +kernel
theorem dX11_keep_97 : decode cX11_keep 97 = .ok (.istore 6, 2) := by decide +kernel
theorem dX11_keep_99 : decode cX11_keep 99 = .ok (.aload_n 0, 1) := by decide +kernel
theorem dX11_keep_100 : decode cX11_keep 100 = .ok (.getfield 68, 3) := by decide +kernel
theorem dX11_keep_103 : decode cX11_keep 103 = .ok (.aload_n 0, 1) := by decide +kernel
theorem dX11_keep_104 : decode cX11_keep 104 = .ok (.getfield 10, 3) := by decide +kernel
theorem dX11_keep_107 : decode cX11_keep 107 = .ok (.getfield 162, 3) := by decide +kernel
theorem dX11_keep_110 : decode cX11_keep 110 = .ok (.invokevirtual 216, 3) := by decide +kernel
theorem dX11_keep_113 : decode cX11_keep 113 = .ok (.iconst 0, 1) := by decide +kernel
theorem dX11_keep_114 : decode cX11_keep 114 = .ok (.istore 7, 2) := by decide +kernel
theorem dX11_keep_116 : decode cX11_keep 116 = .ok (.iload 7, 2) := by decide +kernel
theorem dX11_keep_118 : decode cX11_keep 118 = .ok (.bipush 8, 2) := by decide +kernel
theorem dX11_keep_120 : decode cX11_keep 120 = .ok (.if_icmp .ge 23, 3) := by decide +kernel
theorem dX11_keep_123 : decode cX11_keep 123 = .ok (.aload_n 0, 1) := by decide +kernel
theorem dX11_keep_124 : decode cX11_keep 124 = .ok (.getfield 68, 3) := by decide +kernel
theorem dX11_keep_127 : decode cX11_keep 127 = .ok (.iload_n 3, 1) := by decide +kernel
theorem dX11_keep_128 : decode cX11_keep 128 = .ok (.iload 4, 2) := by decide +kernel
theorem dX11_keep_130 : decode cX11_keep 130 = .ok (.iload 5, 2) := by decide +kernel
theorem dX11_keep_132 : decode cX11_keep 132 = .ok (.iconst 1, 1) := by decide +kernel
theorem dX11_keep_133 : decode cX11_keep 133 = .ok (.invokevirtual 320, 3) := by decide +kernel
theorem dX11_keep_136 : decode cX11_keep 136 = .ok (.pop, 1) := by decide +kernel
theorem dX11_keep_137 : decode cX11_keep 137 = .ok (.iinc 7 1, 3) := by decide +kernel
theorem dX11_keep_140 : decode cX11_keep 140 = .ok (.goto (-24), 3) := by decide +kernel
theorem dX11_keep_143 : decode cX11_keep 143 = .ok (.aload_n 0, 1) := by decide +kernel
theorem dX11_keep_144 : decode cX11_keep 144 = .ok (.getfield 61, 3) := by decide +kernel
theorem dX11_keep_147 : decode cX11_keep 147 = .ok (.aload_n 0, 1) := by decide +kernel
theorem dX11_keep_148 : decode cX11_keep 148 = .ok (.getfield 10, 3) := by decide +kernel
theorem dX11_keep_151 : decode cX11_keep 151 = .ok (.aload_n 0, 1) := by decide +kernel
theorem dX11_keep_152 : decode cX11_keep 152 = .ok (.getfield 68, 3) := by decide +kernel
theorem dX11_keep_155 : decode cX11_keep 155 = .ok (.iload 6, 2) := by decide +kernel
theorem dX11_keep_157 : decode cX11_keep 157 = .ok (.invokevirtual 286, 3) := by decide +kernel
theorem dX11_keep_160 : decode cX11_keep 160 = .ok (.iconst 0, 1) := by decide +kernel
theorem dX11_keep_161 : decode cX11_keep 161 = .ok (.istore 7, 2) := by decide +kernel
theorem dX11_keep_163 : decode cX11_keep 163 = .ok (.iload 7, 2) := by decide +kernel
theorem dX11_keep_165 : decode cX11_keep 165 = .ok (.bipush 8, 2) := by decide +kernel
theorem dX11_keep_167 : decode cX11_keep 167 = .ok (.if_icmp .gt 66, 3) := by decide +kernel
theorem dX11_keep_170 : decode cX11_keep 170 = .ok (.aload_n 0, 1) := by decide +kernel
theorem dX11_keep_171 : decode cX11_keep 171 = .ok (.getfield 68, 3) := by decide +kernel
theorem dX11_keep_174 : decode cX11_keep 174 = .ok (.aload_n 0, 1) := by decide +kernel
theorem dX11_keep_175 : decode cX11_keep 175 = .ok (.getfield 10, 3) := by decide +kernel
theorem dX11_keep_178 : decode cX11_keep 178 = .ok (.getfield 162, 3) := by decide +kernel
theorem dX11_keep_181 : decode cX11_keep 181 = .ok (.invokevirtual 216, 3) := by decide +kernel
theorem dX11_keep_184 : decode cX11_keep 184 = .ok (.iconst 0, 1) := by decide +kernel
theorem dX11_keep_185 : decode cX11_keep 185 = .ok (.istore 8, 2) := by decide +kernel
theorem dX11_keep_187 : decode cX11_keep 187 = .ok (.iload 8, 2) := by decide +kernel
theorem dX11_keep_189 : decode cX11_keep 189 = .ok (.iload 7, 2) := by decide +kernel
theorem dX11_keep_191 : decode cX11_keep 191 = .ok (.if_icmp .ge 23, 3) := by decide +kernel
theorem dX11_keep_194 : decode cX11_keep 194 = .ok (.aload_n 0, 1) := by decide +kernel
theorem dX11_keep_195 : decode cX11_keep 195 = .ok (.getfield 68, 3) := by decide +kernel
theorem dX11_keep_198 : decode cX11_keep 198 = .ok (.iload_n 3, 1) := by decide +kernel
theorem dX11_keep_199 : decode cX11_keep 199 = .ok (.iload 4, 2) := by decide +kernel
theorem dX11_keep_201 : decode cX11_keep 201 = .ok (.iload 5, 2) := by decide +kernel
theorem dX11_keep_203 : decode cX11_keep 203 = .ok (.iconst 1, 1) := by decide +kernel
theorem dX11_keep_204 : decode cX11_keep 204 = .ok (.invokevirtual 320, 3) := by decide +kernel
theorem dX11_keep_207 : decode cX11_keep 207 = .ok (.pop, 1) := by decide +kernel
theorem dX11_keep_208 : decode cX11_keep 208 = .ok (.iinc 8 1, 3) := by decide +kernel
theorem dX11_keep_211 : decode cX11_keep 211 = .ok (.goto (-24), 3) := by decide +kernel
theorem dX11_keep_214 : decode cX11_keep 214 = .ok (.aload_n 0, 1) := by decide +kernel
theorem dX11_keep_215 : decode cX11_keep 215 = .ok (.iload_n 1, 1) := by decide +kernel
theorem dX11_keep_216 : decode cX11_keep 216 = .ok (.iload 6, 2) := by decide +kernel
theorem dX11_keep_218 : decode cX11_keep 218 = .ok (.invokevirtual 333, 3) := by decide +kernel
theorem dX11_keep_221 : decode cX11_keep 221 = .ok (.ifCond .ne 6, 3) := by decide +kernel
theorem dX11_keep_224 : decode cX11_keep 224 = .ok (.iload 7, 2) := by decide +kernel
theorem dX11_keep_226 : decode cX11_keep 226 = .ok (.ireturn, 1) := by decide +kernel
theorem dX11_keep_227 : decode cX11_keep 227 = .ok (.iinc 7 1, 3) := by decide +kernel
theorem dX11_keep_230 : decode cX11_keep 230 = .ok (.goto (-67), 3) := by decide +kernel
theorem dX11_keep_233 : decode cX11_keep 233 = .ok (.iconst (-1), 1) := by decide +kernel
theorem dX11_keep_234 : decode cX11_keep 234 = .ok (.ireturn, 1) := by decide +kernel
theorem dX11_answer_0 : decode cX11_answer 0 = .ok (.iload_n 1, 1) := by decide +kernel
theorem dX11_answer_1 : decode cX11_answer 1 = .ok (.iconst 1, 1) := by decide +kernel
theorem dX11_answer_2 : decode cX11_answer 2 = .ok (.bipush 9, 2) := by decide +kernel
theorem dX11_answer_4 : decode cX11_answer 4 = .ok (.invokestatic 113, 3) := by decide +kernel
theorem dX11_answer_7 : decode cX11_answer 7 = .ok (.ifCond .eq 19, 3) := by decide +kernel
theorem dX11_answer_10 : decode cX11_answer 10 = .ok (.iload_n 2, 1) := by decide +kernel
theorem dX11_answer_11 : decode cX11_answer 11 = .ok (.invokestatic 139, 3) := by decide +kernel
theorem dX11_answer_14 : decode cX11_answer 14 = .ok (.ifCond .eq 12, 3) := by decide +kernel
theorem dX11_answer_17 : decode cX11_answer 17 = .ok (.iload_n 3, 1) := by decide +kernel
theorem dX11_answer_18 : decode cX11_answer 18 = .ok (.iconst 0, 1) := by decide +kernel
theorem dX11_answer_19 : decode cX11_answer 19 = .ok (.iconst 1, 1) := by decide +kernel
theorem dX11_answer_20 : decode cX11_answer 20 = .ok (.invokestatic 113, 3) := by decide +kernel
theorem dX11_answer_23 : decode cX11_answer 23 = .ok (.ifCond .ne 9, 3) := by decide +kernel
theorem dX11_answer_26 : decode cX11_answer 26 = .ok (.aload_n 0, 1) := by decide +kernel
theorem dX11_answer_27 : decode cX11_answer 27 = .ok (.iconst (-1), 1) := by decide +kernel
theorem dX11_answer_28 : decode cX11_answer 28 = .ok (.invokevirtual 117, 3) := by decide +kernel
theorem dX11_answer_31 : decode cX11_answer 31 = .ok (.ireturn, 1) := by decide +kernel
theorem dX11_answer_32 : decode cX11_answer 32 = .ok (.aload_n 0, 1) := by decide +kernel
theorem dX11_answer_33 : decode cX11_answer 33 = .ok (.getfield 10, 3) := by decide +kernel
theorem dX11_answer_36 : decode cX11_answer 36 = .ok (.getfield 337, 3) := by decide +kernel
theorem dX11_answer_39 : decode cX11_answer 39 = .ok (.invokevirtual 124, 3) := by decide +kernel
theorem dX11_answer_42 : decode cX11_answer 42 = .ok (.istore 4, 2) := by decide +kernel
theorem dX11_answer_44 : decode cX11_answer 44 = .ok (.iload 4, 2) := by decide +kernel
theorem dX11_answer_46 : decode cX11_answer 46 = .ok (.iconst (-1), 1) := by decide +kernel
theorem dX11_answer_47 : decode cX11_answer 47 = .ok (.if_icmp .ne 10, 3) := by decide +kernel
theorem dX11_answer_50 : decode cX11_answer 50 = .ok (.aload_n 0, 1) := by decide +kernel
theorem dX11_answer_51 : decode cX11_answer 51 = .ok (.bipush (-5), 2) := by decide +kernel
theorem dX11_answer_53 : decode cX11_answer 53 = .ok (.invokevirtual 117, 3) := by decide +kernel
theorem dX11_answer_56 : decode cX11_answer 56 = .ok (.ireturn, 1) := by decide +kernel
theorem dX11_answer_57 : decode cX11_answer 57 = .ok (.aload_n 0, 1) := by decide +kernel
theorem dX11_answer_58 : decode cX11_answer 58 = .ok (.getfield 10, 3) := by decide +kernel
theorem dX11_answer_61 : decode cX11_answer 61 = .ok (.getfield 337, 3) := by decide +kernel
theorem dX11_answer_64 : decode cX11_answer 64 = .ok (.iload 4, 2) := by decide +kernel
theorem dX11_answer_66 : decode cX11_answer 66 = .ok (.iconst 0, 1) := by decide +kernel
theorem dX11_answer_67 : decode cX11_answer 67 = .ok (.iload_n 1, 1) := by decide +kernel
theorem dX11_answer_68 : decode cX11_answer 68 = .ok (.invokevirtual 128, 3) := by decide +kernel
theorem dX11_answer_71 : decode cX11_answer 71 = .ok (.aload_n 0, 1) := by decide +kernel
theorem dX11_answer_72 : decode cX11_answer 72 = .ok (.getfield 10, 3) := by decide +kernel
theorem dX11_answer_75 : decode cX11_answer 75 = .ok (.getfield 337, 3) := by decide +kernel
theorem dX11_answer_78 : decode cX11_answer 78 = .ok (.iload 4, 2) := by decide +kernel
theorem dX11_answer_80 : decode cX11_answer 80 = .ok (.iconst 1, 1) := by decide +kernel
theorem dX11_answer_81 : decode cX11_answer 81 = .ok (.iload_n 2, 1) := by decide +kernel
theorem dX11_answer_82 : decode cX11_answer 82 = .ok (.invokevirtual 128, 3) := by decide +kernel
theorem dX11_answer_85 : decode cX11_answer 85 = .ok (.aload_n 0, 1) := by decide +kernel
theorem dX11_answer_86 : decode cX11_answer 86 = .ok (.getfield 10, 3) := by decide +kernel
theorem dX11_answer_89 : decode cX11_answer 89 = .ok (.getfield 337, 3) := by decide +kernel
theorem dX11_answer_92 : decode cX11_answer 92 = .ok (.iload 4, 2) := by decide +kernel
theorem dX11_answer_94 : decode cX11_answer 94 = .ok (.iconst 2, 1) := by decide +kernel
theorem dX11_answer_95 : decode cX11_answer 95 = .ok (.iload_n 3, 1) := by decide +kernel
theorem dX11_answer_96 : decode cX11_answer 96 = .ok (.invokevirtual 128, 3) := by decide +kernel
theorem dX11_answer_99 : decode cX11_answer 99 = .ok (.aload_n 0, 1) := by decide +kernel
theorem dX11_answer_100 : decode cX11_answer 100 = .ok (.aload_n 0, 1) := by decide +kernel
theorem dX11_answer_101 : decode cX11_answer 101 = .ok (.getfield 10, 3) := by decide +kernel
theorem dX11_answer_104 : decode cX11_answer 104 = .ok (.getfield 337, 3) := by decide +kernel
theorem dX11_answer_107 : decode cX11_answer 107 = .ok (.getfield 188, 3) := by decide +kernel
theorem dX11_answer_110 : decode cX11_answer 110 = .ok (.invokevirtual 132, 3) := by decide +kernel
theorem dX11_answer_113 : decode cX11_answer 113 = .ok (.ireturn, 1) := by decide +kernel
theorem dX11_forget_0 : decode cX11_forget 0 = .ok (.aload_n 0, 1) := by decide +kernel
theorem dX11_forget_1 : decode cX11_forget 1 = .ok (.getfield 10, 3) := by decide +kernel
theorem dX11_forget_4 : decode cX11_forget 4 = .ok (.getfield 337, 3) := by decide +kernel
theorem dX11_forget_7 : decode cX11_forget 7 = .ok (.getfield 188, 3) := by decide +kernel
theorem dX11_forget_10 : decode cX11_forget 10 = .ok (.istore_n 1, 1) := by decide +kernel
theorem dX11_forget_11 : decode cX11_forget 11 = .ok (.aload_n 0, 1) := by decide +kernel
theorem dX11_forget_12 : decode cX11_forget 12 = .ok (.getfield 10, 3) := by decide +kernel
theorem dX11_forget_15 : decode cX11_forget 15 = .ok (.getfield 337, 3) := by decide +kernel
theorem dX11_forget_18 : decode cX11_forget 18 = .ok (.iconst 0, 1) := by decide +kernel
theorem dX11_forget_19 : decode cX11_forget 19 = .ok (.invokevirtual 184, 3) := by decide +kernel
theorem dX11_forget_22 : decode cX11_forget 22 = .ok (.iload_n 1, 1) := by decide +kernel
theorem dX11_forget_23 : decode cX11_forget 23 = .ok (.ireturn, 1) := by decide +kernel
theorem dX11_hidden_0 : decode cX11_hidden 0 = .ok (.iload_n 1, 1) := by decide +kernel
theorem dX11_hidden_1 : decode cX11_hidden 1 = .ok (.iconst (-1), 1) := by decide +kernel
theorem dX11_hidden_2 : decode cX11_hidden 2 = .ok (.if_icmp .ge 5, 3) := by decide +kernel
theorem dX11_hidden_5 : decode cX11_hidden 5 = .ok (.iconst (-1), 1) := by decide +kernel
theorem dX11_hidden_6 : decode cX11_hidden 6 = .ok (.ireturn, 1) := by decide +kernel
theorem dX11_hidden_7 : decode cX11_hidden 7 = .ok (.aload_n 0, 1) := by decide +kernel
theorem dX11_hidden_8 : decode cX11_hidden 8 = .ok (.getfield 10, 3) := by decide +kernel
theorem dX11_hidden_11 : decode cX11_hidden 11 = .ok (.invokevirtual 340, 3) := by decide +kernel
theorem dX11_hidden_14 : decode cX11_hidden 14 = .ok (.sipush 999, 3) := by decide +kernel
theorem dX11_hidden_17 : decode cX11_hidden 17 = .ok (.aload_n 0, 1) := by decide +kernel
theorem dX11_hidden_18 : decode cX11_hidden 18 = .ok (.getfield 10, 3) := by decide +kernel
theorem dX11_hidden_21 : decode cX11_hidden 21 = .ok (.getfield 162, 3) := by decide +kernel
theorem dX11_hidden_24 : decode cX11_hidden 24 = .ok (.getfield 165, 3) := by decide +kernel
theorem dX11_hidden_27 : decode cX11_hidden 27 = .ok (.isub, 1) := by decide +kernel
theorem dX11_hidden_28 : decode cX11_hidden 28 = .ok (.invokestatic 328, 3) := by decide +kernel
theorem dX11_hidden_31 : decode cX11_hidden 31 = .ok (.istore_n 2, 1) := by decide +kernel
theorem dX11_hidden_32 : decode cX11_hidden 32 = .ok (.aload_n 0, 1) := by decide +kernel
theorem dX11_hidden_33 : decode cX11_hidden 33 = .ok (.getfield 61, 3) := by decide +kernel
theorem dX11_hidden_36 : decode cX11_hidden 36 = .ok (.aload_n 0, 1) := by decide +kernel
theorem dX11_hidden_37 : decode cX11_hidden 37 = .ok (.getfield 10, 3) := by decide +kernel
theorem dX11_hidden_40 : decode cX11_hidden 40 = .ok (.aload_n 0, 1) := by decide +kernel
theorem dX11_hidden_41 : decode cX11_hidden 41 = .ok (.getfield 10, 3) := by decide +kernel
theorem dX11_hidden_44 : decode cX11_hidden 44 = .ok (.getfield 162, 3) := by decide +kernel
theorem dX11_hidden_47 : decode cX11_hidden 47 = .ok (.iload_n 2, 1) := by decide +kernel
theorem dX11_hidden_48 : decode cX11_hidden 48 = .ok (.invokevirtual 286, 3) := by decide +kernel
theorem dX11_hidden_51 : decode cX11_hidden 51 = .ok (.iconst 0, 1) := by decide +kernel
theorem dX11_hidden_52 : decode cX11_hidden 52 = .ok (.istore_n 3, 1) := by decide +kernel
theorem dX11_hidden_53 : decode cX11_hidden 53 = .ok (.iconst 0, 1) := by decide +kernel
theorem dX11_hidden_54 : decode cX11_hidden 54 = .ok (.istore 4, 2) := by decide +kernel
theorem dX11_hidden_56 : decode cX11_hidden 56 = .ok (.iload 4, 2) := by decide +kernel
theorem dX11_hidden_58 : decode cX11_hidden 58 = .ok (.aload_n 0, 1) := by decide +kernel
theorem dX11_hidden_59 : decode cX11_hidden 59 = .ok (.getfield 10, 3) := by decide +kernel
theorem dX11_hidden_62 : decode cX11_hidden 62 = .ok (.getfield 156, 3) := by decide +kernel
theorem dX11_hidden_65 : decode cX11_hidden 65 = .ok (.getfield 188, 3) := by decide +kernel
theorem dX11_hidden_68 : decode cX11_hidden 68 = .ok (.bipush 8, 2) := by decide +kernel
theorem dX11_hidden_70 : decode cX11_hidden 70 = .ok (.imul, 1) := by decide +kernel
theorem dX11_hidden_71 : decode cX11_hidden 71 = .ok (.bipush 30, 2) := by decide +kernel
theorem dX11_hidden_73 : decode cX11_hidden 73 = .ok (.imul, 1) := by decide +kernel
theorem dX11_hidden_74 : decode cX11_hidden 74 = .ok (.if_icmp .ge 30, 3) := by decide +kernel
theorem dX11_hidden_77 : decode cX11_hidden 77 = .ok (.aload_n 0, 1) := by decide +kernel
theorem dX11_hidden_78 : decode cX11_hidden 78 = .ok (.iload 4, 2) := by decide +kernel
theorem dX11_hidden_80 : decode cX11_hidden 80 = .ok (.iload_n 2, 1) := by decide +kernel
theorem dX11_hidden_81 : decode cX11_hidden 81 = .ok (.invokevirtual 343, 3) := by decide +kernel
theorem dX11_hidden_84 : decode cX11_hidden 84 = .ok (.ifCond .eq 14, 3) := by decide +kernel
theorem dX11_hidden_87 : decode cX11_hidden 87 = .ok (.iload_n 3, 1) := by decide +kernel
theorem dX11_hidden_88 : decode cX11_hidden 88 = .ok (.iload_n 1, 1) := by decide +kernel
theorem dX11_hidden_89 : decode cX11_hidden 89 = .ok (.if_icmp .ne 6, 3) := by decide +kernel
theorem dX11_hidden_92 : decode cX11_hidden 92 = .ok (.iload 4, 2) := by decide +kernel
theorem dX11_hidden_94 : decode cX11_hidden 94 = .ok (.ireturn, 1) := by decide +kernel
theorem dX11_hidden_95 : decode cX11_hidden 95 = .ok (.iinc 3 1, 3) := by decide +kernel
theorem dX11_hidden_98 : decode cX11_hidden 98 = .ok (.iinc 4 1, 3) := by decide +kernel
theorem dX11_hidden_101 : decode cX11_hidden 101 = .ok (.goto (-45), 3) := by decide +kernel
theorem dX11_hidden_104 : decode cX11_hidden 104 = .ok (.iload_n 1, 1) := by decide +kernel
theorem dX11_hidden_105 : decode cX11_hidden 105 = .ok (.iconst (-1), 1) := by decide +kernel
theorem dX11_hidden_106 : decode cX11_hidden 106 = .ok (.if_icmp .ne 7, 3) := by decide +kernel
theorem dX11_hidden_109 : decode cX11_hidden 109 = .ok (.iload_n 3, 1) := by decide +kernel
theorem dX11_hidden_110 : decode cX11_hidden 110 = .ok (.goto 4, 3) := by decide +kernel
theorem dX11_hidden_113 : decode cX11_hidden 113 = .ok (.iconst (-1), 1) := by decide +kernel
theorem dX11_hidden_114 : decode cX11_hidden 114 = .ok (.ireturn, 1) := by decide +kernel
theorem dX11_season_0 : decode cX11_season 0 = .ok (.iload_n 1, 1) := by decide +kernel
theorem dX11_season_1 : decode cX11_season 1 = .ok (.iconst 0, 1) := by decide +kernel
theorem dX11_season_2 : decode cX11_season 2 = .ok (.ldc_w 346, 3) := by decide +kernel
theorem dX11_season_5 : decode cX11_season 5 = .ok (.invokestatic 113, 3) := by decide +kernel
theorem dX11_season_8 : decode cX11_season 8 = .ok (.ifCond .eq 13, 3) := by decide +kernel
theorem dX11_season_11 : decode cX11_season 11 = .ok (.iload_n 2, 1) := by decide +kernel
theorem dX11_season_12 : decode cX11_season 12 = .ok (.iconst 1, 1) := by decide +kernel
theorem dX11_season_13 : decode cX11_season 13 = .ok (.bipush 60, 2) := by decide +kernel
theorem dX11_season_15 : decode cX11_season 15 = .ok (.invokestatic 113, 3) := by decide +kernel
theorem dX11_season_18 : decode cX11_season 18 = .ok (.ifCond .ne 9, 3) := by decide +kernel
theorem dX11_season_21 : decode cX11_season 21 = .ok (.aload_n 0, 1) := by decide +kernel
theorem dX11_season_22 : decode cX11_season 22 = .ok (.iconst (-1), 1) := by decide +kernel
theorem dX11_season_23 : decode cX11_season 23 = .ok (.invokevirtual 117, 3) := by decide +kernel
theorem dX11_season_26 : decode cX11_season 26 = .ok (.ireturn, 1) := by decide +kernel
theorem dX11_season_27 : decode cX11_season 27 = .ok (.aload_n 0, 1) := by decide +kernel
theorem dX11_season_28 : decode cX11_season 28 = .ok (.getfield 10, 3) := by decide +kernel
theorem dX11_season_31 : decode cX11_season 31 = .ok (.getfield 156, 3) := by decide +kernel
theorem dX11_season_34 : decode cX11_season 34 = .ok (.getfield 188, 3) := by decide +kernel
theorem dX11_season_37 : decode cX11_season 37 = .ok (.ifCond .ne 10, 3) := by decide +kernel
theorem dX11_season_40 : decode cX11_season 40 = .ok (.aload_n 0, 1) := by decide +kernel
theorem dX11_season_41 : decode cX11_season 41 = .ok (.bipush (-3), 2) := by decide +kernel
theorem dX11_season_43 : decode cX11_season 43 = .ok (.invokevirtual 117, 3) := by decide +kernel
theorem dX11_season_46 : decode cX11_season 46 = .ok (.ireturn, 1) := by decide +kernel
theorem dX11_season_47 : decode cX11_season 47 = .ok (.aload_n 0, 1) := by decide +kernel
theorem dX11_season_48 : decode cX11_season 48 = .ok (.getfield 98, 3) := by decide +kernel
theorem dX11_season_51 : decode cX11_season 51 = .ok (.iload_n 1, 1) := by decide +kernel
theorem dX11_season_52 : decode cX11_season 52 = .ok (.aload_n 0, 1) := by decide +kernel
theorem dX11_season_53 : decode cX11_season 53 = .ok (.getfield 10, 3) := by decide +kernel
theorem dX11_season_56 : decode cX11_season 56 = .ok (.getfield 156, 3) := by decide +kernel
theorem dX11_season_59 : decode cX11_season 59 = .ok (.getfield 188, 3) := by decide +kernel
theorem dX11_season_62 : decode cX11_season 62 = .ok (.invokevirtual 347, 3) := by decide +kernel
theorem dX11_season_65 : decode cX11_season 65 = .ok (.aload_n 0, 1) := by decide +kernel
theorem dX11_season_66 : decode cX11_season 66 = .ok (.getfield 68, 3) := by decide +kernel
theorem dX11_season_69 : decode cX11_season 69 = .ok (.aload_n 0, 1) := by decide +kernel
theorem dX11_season_70 : decode cX11_season 70 = .ok (.getfield 10, 3) := by decide +kernel
theorem dX11_season_73 : decode cX11_season 73 = .ok (.getfield 162, 3) := by decide +kernel
theorem dX11_season_76 : decode cX11_season 76 = .ok (.invokevirtual 216, 3) := by decide +kernel
theorem dX11_season_79 : decode cX11_season 79 = .ok (.iconst 0, 1) := by decide +kernel
theorem dX11_season_80 : decode cX11_season 80 = .ok (.istore_n 3, 1) := by decide +kernel
theorem dX11_season_81 : decode cX11_season 81 = .ok (.iconst 0, 1) := by decide +kernel
theorem dX11_season_82 : decode cX11_season 82 = .ok (.istore 4, 2) := by decide +kernel
theorem dX11_season_84 : decode cX11_season 84 = .ok (.iload 4, 2) := by decide +kernel
theorem dX11_season_86 : decode cX11_season 86 = .ok (.iload_n 2, 1) := by decide +kernel
theorem dX11_season_87 : decode cX11_season 87 = .ok (.if_icmp .ge 64, 3) := by decide +kernel
theorem dX11_season_90 : decode cX11_season 90 = .ok (.aload_n 0, 1) := by decide +kernel
theorem dX11_season_91 : decode cX11_season 91 = .ok (.invokevirtual 350, 3) := by decide +kernel
theorem dX11_season_94 : decode cX11_season 94 = .ok (.aload_n 0, 1) := by decide +kernel
theorem dX11_season_95 : decode cX11_season 95 = .ok (.getfield 68, 3) := by decide +kernel
theorem dX11_season_98 : decode cX11_season 98 = .ok (.getfield 165, 3) := by decide +kernel
theorem dX11_season_101 : decode cX11_season 101 = .ok (.sipush 999, 3) := by decide +kernel
theorem dX11_season_104 : decode cX11_season 104 = .ok (.if_icmp .lt 6, 3) := by decide +kernel
theorem dX11_season_107 : decode cX11_season 107 = .ok (.goto 44, 3) := by decide +kernel
theorem dX11_season_110 : decode cX11_season 110 = .ok (.aload_n 0, 1) := by decide +kernel
theorem dX11_season_111 : decode cX11_season 111 = .ok (.getfield 61, 3) := by decide +kernel
theorem dX11_season_114 : decode cX11_season 114 = .ok (.aload_n 0, 1) := by decide +kernel
theorem dX11_season_115 : decode cX11_season 115 = .ok (.getfield 10, 3) := by decide +kernel
theorem dX11_season_118 : decode cX11_season 118 = .ok (.aload_n 0, 1) := by decide +kernel
theorem dX11_season_119 : decode cX11_season 119 = .ok (.getfield 68, 3) := by decide +kernel
theorem dX11_season_122 : decode cX11_season 122 = .ok (.iconst 1, 1) := by decide +kernel
theorem dX11_season_123 : decode cX11_season 123 = .ok (.invokevirtual 286, 3) := by decide +kernel
theorem dX11_season_126 : decode cX11_season 126 = .ok (.iload_n 3, 1) := by decide +kernel
theorem dX11_season_127 : decode cX11_season 127 = .ok (.aload_n 0, 1) := by decide +kernel
theorem dX11_season_128 : decode cX11_season 128 = .ok (.getfield 61, 3) := by decide +kernel
theorem dX11_season_131 : decode cX11_season 131 = .ok (.aload_n 0, 1) := by decide +kernel
theorem dX11_season_132 : decode cX11_season 132 = .ok (.getfield 10, 3) := by decide +kernel
theorem dX11_season_135 : decode cX11_season 135 = .ok (.aload_n 0, 1) := by decide +kernel
theorem dX11_season_136 : decode cX11_season 136 = .ok (.getfield 68, 3) := by decide +kernel
theorem dX11_season_139 : decode cX11_season 139 = .ok (.iconst 1, 1) := by decide +kernel
theorem dX11_season_140 : decode cX11_season 140 = .ok (.invokevirtual 316, 3) := by decide +kernel
theorem dX11_season_143 : decode cX11_season 143 = .ok (.iadd, 1) := by decide +kernel
theorem dX11_season_144 : decode cX11_season 144 = .ok (.istore_n 3, 1) := by decide +kernel
theorem dX11_season_145 : decode cX11_season 145 = .ok (.iinc 4 1, 3) := by decide +kernel
theorem dX11_season_148 : decode cX11_season 148 = .ok (.goto (-64), 3) := by decide +kernel
theorem dX11_season_151 : decode cX11_season 151 = .ok (.aload_n 0, 1) := by decide +kernel
theorem dX11_season_152 : decode cX11_season 152 = .ok (.getfield 98, 3) := by decide +kernel
theorem dX11_season_155 : decode cX11_season 155 = .ok (.aload_n 0, 1) := by decide +kernel
theorem dX11_season_156 : decode cX11_season 156 = .ok (.getfield 68, 3) := by decide +kernel
theorem dX11_season_159 : decode cX11_season 159 = .ok (.invokevirtual 353, 3) := by decide +kernel
theorem dX11_season_162 : decode cX11_season 162 = .ok (.aload_n 0, 1) := by decide +kernel
theorem dX11_season_163 : decode cX11_season 163 = .ok (.iload_n 3, 1) := by decide +kernel
theorem dX11_season_164 : decode cX11_season 164 = .ok (.invokevirtual 132, 3) := by decide +kernel
theorem dX11_season_167 : decode cX11_season 167 = .ok (.ireturn, 1) := by decide +kernel
theorem dX11_drawn_0 : decode cX11_drawn 0 = .ok (.aload_n 0, 1) := by decide +kernel
theorem dX11_drawn_1 : decode cX11_drawn 1 = .ok (.getfield 98, 3) := by decide +kernel
theorem dX11_drawn_4 : decode cX11_drawn 4 = .ok (.iload_n 1, 1) := by decide +kernel
theorem dX11_drawn_5 : decode cX11_drawn 5 = .ok (.iload_n 2, 1) := by decide +kernel
theorem dX11_drawn_6 : decode cX11_drawn 6 = .ok (.invokevirtual 356, 3) := by decide +kernel
theorem dX11_drawn_9 : decode cX11_drawn 9 = .ok (.ireturn, 1) := by decide +kernel
theorem dX11_image_0 : decode cX11_image 0 = .ok (.iload_n 1, 1) := by decide +kernel
theorem dX11_image_1 : decode cX11_image 1 = .ok (.iconst 0, 1) := by decide +kernel
theorem dX11_image_2 : decode cX11_image 2 = .ok (.aload_n 0, 1) := by decide +kernel
theorem dX11_image_3 : decode cX11_image 3 = .ok (.getfield 16, 3) := by decide +kernel
theorem dX11_image_6 : decode cX11_image 6 = .ok (.arraylength, 1) := by decide +kernel
theorem dX11_image_7 : decode cX11_image 7 = .ok (.iconst 1, 1) := by decide +kernel
theorem dX11_image_8 : decode cX11_image 8 = .ok (.isub, 1) := by decide +kernel
theorem dX11_image_9 : decode cX11_image 9 = .ok (.invokestatic 113, 3) := by decide +kernel
theorem dX11_image_12 : decode cX11_image 12 = .ok (.ifCond .ne 9, 3) := by decide +kernel
theorem dX11_image_15 : decode cX11_image 15 = .ok (.aload_n 0, 1) := by decide +kernel
theorem dX11_image_16 : decode cX11_image 16 = .ok (.iconst (-1), 1) := by decide +kernel
theorem dX11_image_17 : decode cX11_image 17 = .ok (.invokevirtual 117, 3) := by decide +kernel
theorem dX11_image_20 : decode cX11_image 20 = .ok (.ireturn, 1) := by decide +kernel
theorem dX11_image_21 : decode cX11_image 21 = .ok (.aload_n 0, 1) := by decide +kernel
theorem dX11_image_22 : decode cX11_image 22 = .ok (.getfield 16, 3) := by decide +kernel
theorem dX11_image_25 : decode cX11_image 25 = .ok (.iload_n 1, 1) := by decide +kernel
theorem dX11_image_26 : decode cX11_image 26 = .ok (.aaload, 1) := by decide +kernel
theorem dX11_image_27 : decode cX11_image 27 = .ok (.aload_n 0, 1) := by decide +kernel
theorem dX11_image_28 : decode cX11_image 28 = .ok (.getfield 10, 3) := by decide +kernel
theorem dX11_image_31 : decode cX11_image 31 = .ok (.invokevirtual 359, 3) := by decide +kernel
theorem dX11_image_34 : decode cX11_image 34 = .ok (.aload_n 0, 1) := by decide +kernel
theorem dX11_image_35 : decode cX11_image 35 = .ok (.getfield 20, 3) := by decide +kernel
theorem dX11_image_38 : decode cX11_image 38 = .ok (.iload_n 1, 1) := by decide +kernel
theorem dX11_image_39 : decode cX11_image 39 = .ok (.iconst 1, 1) := by decide +kernel
theorem dX11_image_40 : decode cX11_image 40 = .ok (.bastore, 1) := by decide +kernel
theorem dX11_image_41 : decode cX11_image 41 = .ok (.aload_n 0, 1) := by decide +kernel
theorem dX11_image_42 : decode cX11_image 42 = .ok (.iconst 0, 1) := by decide +kernel
theorem dX11_image_43 : decode cX11_image 43 = .ok (.invokevirtual 132, 3) := by decide +kernel
theorem dX11_image_46 : decode cX11_image 46 = .ok (.ireturn, 1) := by decide +kernel
theorem dX11_back_0 : decode cX11_back 0 = .ok (.iload_n 1, 1) := by decide +kernel
theorem dX11_back_1 : decode cX11_back 1 = .ok (.iconst 0, 1) := by decide +kernel
theorem dX11_back_2 : decode cX11_back 2 = .ok (.aload_n 0, 1) := by decide +kernel
theorem dX11_back_3 : decode cX11_back 3 = .ok (.getfield 16, 3) := by decide +kernel
theorem dX11_back_6 : decode cX11_back 6 = .ok (.arraylength, 1) := by decide +kernel
theorem dX11_back_7 : decode cX11_back 7 = .ok (.iconst 1, 1) := by decide +kernel
theorem dX11_back_8 : decode cX11_back 8 = .ok (.isub, 1) := by decide +kernel
theorem dX11_back_9 : decode cX11_back 9 = .ok (.invokestatic 113, 3) := by decide +kernel
theorem dX11_back_12 : decode cX11_back 12 = .ok (.ifCond .ne 9, 3) := by decide +kernel
theorem dX11_back_15 : decode cX11_back 15 = .ok (.aload_n 0, 1) := by decide +kernel
theorem dX11_back_16 : decode cX11_back 16 = .ok (.iconst (-1), 1) := by decide +kernel
theorem dX11_back_17 : decode cX11_back 17 = .ok (.invokevirtual 117, 3) := by decide +kernel
theorem dX11_back_20 : decode cX11_back 20 = .ok (.ireturn, 1) := by decide +kernel
theorem dX11_back_21 : decode cX11_back 21 = .ok (.aload_n 0, 1) := by decide +kernel
theorem dX11_back_22 : decode cX11_back 22 = .ok (.getfield 20, 3) := by decide +kernel
theorem dX11_back_25 : decode cX11_back 25 = .ok (.iload_n 1, 1) := by decide +kernel
theorem dX11_back_26 : decode cX11_back 26 = .ok (.baload, 1) := by decide +kernel
theorem dX11_back_27 : decode cX11_back 27 = .ok (.ifCond .ne 10, 3) := by decide +kernel
theorem dX11_back_30 : decode cX11_back 30 = .ok (.aload_n 0, 1) := by decide +kernel
theorem dX11_back_31 : decode cX11_back 31 = .ok (.bipush (-2), 2) := by decide +kernel
theorem dX11_back_33 : decode cX11_back 33 = .ok (.invokevirtual 117, 3) := by decide +kernel
theorem dX11_back_36 : decode cX11_back 36 = .ok (.ireturn, 1) := by decide +kernel
theorem dX11_back_37 : decode cX11_back 37 = .ok (.aload_n 0, 1) := by decide +kernel
theorem dX11_back_38 : decode cX11_back 38 = .ok (.getfield 10, 3) := by decide +kernel
theorem dX11_back_41 : decode cX11_back 41 = .ok (.aload_n 0, 1) := by decide +kernel
theorem dX11_back_42 : decode cX11_back 42 = .ok (.getfield 16, 3) := by decide +kernel
theorem dX11_back_45 : decode cX11_back 45 = .ok (.iload_n 1, 1) := by decide +kernel
theorem dX11_back_46 : decode cX11_back 46 = .ok (.aaload, 1) := by decide +kernel
theorem dX11_back_47 : decode cX11_back 47 = .ok (.invokevirtual 359, 3) := by decide +kernel
theorem dX11_back_50 : decode cX11_back 50 = .ok (.aload_n 0, 1) := by decide +kernel
theorem dX11_back_51 : decode cX11_back 51 = .ok (.getfield 75, 3) := by decide +kernel
theorem dX11_back_54 : decode cX11_back 54 = .ok (.iconst 0, 1) := by decide +kernel
theorem dX11_back_55 : decode cX11_back 55 = .ok (.invokevirtual 184, 3) := by decide +kernel
theorem dX11_back_58 : decode cX11_back 58 = .ok (.aload_n 0, 1) := by decide +kernel
theorem dX11_back_59 : decode cX11_back 59 = .ok (.iconst 0, 1) := by decide +kernel
theorem dX11_back_60 : decode cX11_back 60 = .ok (.invokevirtual 132, 3) := by decide +kernel
theorem dX11_back_63 : decode cX11_back 63 = .ok (.ireturn, 1) := by decide +kernel
theorem dX11_count_0 : decode cX11_count 0 = .ok (.iload_n 1, 1) := by decide +kernel
theorem dX11_count_1 : decode cX11_count 1 = .ok (.tableswitch 227 0 15 #[79, 90, 101, 112, 126, 137, 148, 159, 167, 175, 183, 190, 197, 204, 211, 219], 79) := by decide +kernel
theorem dX11_count_80 : decode cX11_count 80 = .ok (.aload_n 0, 1) := by decide +kernel
theorem dX11_count_81 : decode cX11_count 81 = .ok (.getfield 10, 3) := by decide +kernel
theorem dX11_count_84 : decode cX11_count 84 = .ok (.getfield 121, 3) := by decide +kernel
theorem dX11_count_87 : decode cX11_count 87 = .ok (.getfield 188, 3) := by decide +kernel
theorem dX11_count_90 : decode cX11_count 90 = .ok (.ireturn, 1) := by decide +kernel
theorem dX11_count_91 : decode cX11_count 91 = .ok (.aload_n 0, 1) := by decide +kernel
theorem dX11_count_92 : decode cX11_count 92 = .ok (.getfield 10, 3) := by decide +kernel
theorem dX11_count_95 : decode cX11_count 95 = .ok (.getfield 146, 3) := by decide +kernel
theorem dX11_count_98 : decode cX11_count 98 = .ok (.getfield 188, 3) := by decide +kernel
theorem dX11_count_101 : decode cX11_count 101 = .ok (.ireturn, 1) := by decide +kernel
theorem dX11_count_102 : decode cX11_count 102 = .ok (.aload_n 0, 1) := by decide +kernel
theorem dX11_count_103 : decode cX11_count 103 = .ok (.getfield 10, 3) := by decide +kernel
theorem dX11_count_106 : decode cX11_count 106 = .ok (.getfield 156, 3) := by decide +kernel
theorem dX11_count_109 : decode cX11_count 109 = .ok (.getfield 188, 3) := by decide +kernel
theorem dX11_count_112 : decode cX11_count 112 = .ok (.ireturn, 1) := by decide +kernel
theorem dX11_count_113 : decode cX11_count 113 = .ok (.aload_n 0, 1) := by decide +kernel
theorem dX11_count_114 : decode cX11_count 114 = .ok (.getfield 10, 3) := by decide +kernel
theorem dX11_count_117 : decode cX11_count 117 = .ok (.getfield 162, 3) := by decide +kernel
theorem dX11_count_120 : decode cX11_count 120 = .ok (.getfield 267, 3) := by decide +kernel
theorem dX11_count_123 : decode cX11_count 123 = .ok (.getfield 188, 3) := by decide +kernel
theorem dX11_count_126 : decode cX11_count 126 = .ok (.ireturn, 1) := by decide +kernel
theorem dX11_count_127 : decode cX11_count 127 = .ok (.aload_n 0, 1) := by decide +kernel
theorem dX11_count_128 : decode cX11_count 128 = .ok (.getfield 10, 3) := by decide +kernel
theorem dX11_count_131 : decode cX11_count 131 = .ok (.getfield 162, 3) := by decide +kernel
theorem dX11_count_134 : decode cX11_count 134 = .ok (.invokevirtual 361, 3) := by decide +kernel
theorem dX11_count_137 : decode cX11_count 137 = .ok (.ireturn, 1) := by decide +kernel
theorem dX11_count_138 : decode cX11_count 138 = .ok (.aload_n 0, 1) := by decide +kernel
theorem dX11_count_139 : decode cX11_count 139 = .ok (.getfield 10, 3) := by decide +kernel
theorem dX11_count_142 : decode cX11_count 142 = .ok (.getfield 310, 3) := by decide +kernel
theorem dX11_count_145 : decode cX11_count 145 = .ok (.getfield 188, 3) := by decide +kernel
theorem dX11_count_148 : decode cX11_count 148 = .ok (.ireturn, 1) := by decide +kernel
theorem dX11_count_149 : decode cX11_count 149 = .ok (.aload_n 0, 1) := by decide +kernel
theorem dX11_count_150 : decode cX11_count 150 = .ok (.getfield 10, 3) := by decide +kernel
theorem dX11_count_153 : decode cX11_count 153 = .ok (.getfield 337, 3) := by decide +kernel
theorem dX11_count_156 : decode cX11_count 156 = .ok (.getfield 188, 3) := by decide +kernel
theorem dX11_count_159 : decode cX11_count 159 = .ok (.ireturn, 1) := by decide +kernel
theorem dX11_count_160 : decode cX11_count 160 = .ok (.aload_n 0, 1) := by decide +kernel
theorem dX11_count_161 : decode cX11_count 161 = .ok (.getfield 10, 3) := by decide +kernel
theorem dX11_count_164 : decode cX11_count 164 = .ok (.getfield 201, 3) := by decide +kernel
theorem dX11_count_167 : decode cX11_count 167 = .ok (.ireturn, 1) := by decide +kernel
theorem dX11_count_168 : decode cX11_count 168 = .ok (.aload_n 0, 1) := by decide +kernel
theorem dX11_count_169 : decode cX11_count 169 = .ok (.getfield 75, 3) := by decide +kernel
theorem dX11_count_172 : decode cX11_count 172 = .ok (.getfield 188, 3) := by decide +kernel
theorem dX11_count_175 : decode cX11_count 175 = .ok (.ireturn, 1) := by decide +kernel
theorem dX11_count_176 : decode cX11_count 176 = .ok (.aload_n 0, 1) := by decide +kernel
theorem dX11_count_177 : decode cX11_count 177 = .ok (.getfield 29, 3) := by decide +kernel
theorem dX11_count_180 : decode cX11_count 180 = .ok (.getfield 188, 3) := by decide +kernel
theorem dX11_count_183 : decode cX11_count 183 = .ok (.ireturn, 1) := by decide +kernel
theorem dX11_count_184 : decode cX11_count 184 = .ok (.aload_n 0, 1) := by decide +kernel
theorem dX11_count_185 : decode cX11_count 185 = .ok (.getfield 106, 3) := by decide +kernel
theorem dX11_count_188 : decode cX11_count 188 = .ok (.iconst 1, 1) := by decide +kernel
theorem dX11_count_189 : decode cX11_count 189 = .ok (.iaload, 1) := by decide +kernel
theorem dX11_count_190 : decode cX11_count 190 = .ok (.ireturn, 1) := by decide +kernel
theorem dX11_count_191 : decode cX11_count 191 = .ok (.aload_n 0, 1) := by decide +kernel
theorem dX11_count_192 : decode cX11_count 192 = .ok (.getfield 106, 3) := by decide +kernel
theorem dX11_count_195 : decode cX11_count 195 = .ok (.iconst 2, 1) := by decide +kernel
theorem dX11_count_196 : decode cX11_count 196 = .ok (.iaload, 1) := by decide +kernel
theorem dX11_count_197 : decode cX11_count 197 = .ok (.ireturn, 1) := by decide +kernel
theorem dX11_count_198 : decode cX11_count 198 = .ok (.aload_n 0, 1) := by decide +kernel
theorem dX11_count_199 : decode cX11_count 199 = .ok (.getfield 106, 3) := by decide +kernel
theorem dX11_count_202 : decode cX11_count 202 = .ok (.iconst 3, 1) := by decide +kernel
theorem dX11_count_203 : decode cX11_count 203 = .ok (.iaload, 1) := by decide +kernel
theorem dX11_count_204 : decode cX11_count 204 = .ok (.ireturn, 1) := by decide +kernel
theorem dX11_count_205 : decode cX11_count 205 = .ok (.aload_n 0, 1) := by decide +kernel
theorem dX11_count_206 : decode cX11_count 206 = .ok (.getfield 106, 3) := by decide +kernel
theorem dX11_count_209 : decode cX11_count 209 = .ok (.iconst 5, 1) := by decide +kernel
theorem dX11_count_210 : decode cX11_count 210 = .ok (.iaload, 1) := by decide +kernel
theorem dX11_count_211 : decode cX11_count 211 = .ok (.ireturn, 1) := by decide +kernel
theorem dX11_count_212 : decode cX11_count 212 = .ok (.aload_n 0, 1) := by decide +kernel
theorem dX11_count_213 : decode cX11_count 213 = .ok (.getfield 106, 3) := by decide +kernel
theorem dX11_count_216 : decode cX11_count 216 = .ok (.bipush 6, 2) := by decide +kernel
theorem dX11_count_218 : decode cX11_count 218 = .ok (.iaload, 1) := by decide +kernel
theorem dX11_count_219 : decode cX11_count 219 = .ok (.ireturn, 1) := by decide +kernel
theorem dX11_count_220 : decode cX11_count 220 = .ok (.aload_n 0, 1) := by decide +kernel
theorem dX11_count_221 : decode cX11_count 221 = .ok (.getfield 10, 3) := by decide +kernel
theorem dX11_count_224 : decode cX11_count 224 = .ok (.getfield 249, 3) := by decide +kernel
theorem dX11_count_227 : decode cX11_count 227 = .ok (.ireturn, 1) := by decide +kernel
theorem dX11_count_228 : decode cX11_count 228 = .ok (.iload_n 1, 1) := by decide +kernel
theorem dX11_count_229 : decode cX11_count 229 = .ok (.bipush 16, 2) := by decide +kernel
theorem dX11_count_231 : decode cX11_count 231 = .ok (.bipush 19, 2) := by decide +kernel
theorem dX11_count_233 : decode cX11_count 233 = .ok (.invokestatic 113, 3) := by decide +kernel
theorem dX11_count_236 : decode cX11_count 236 = .ok (.ifCond .eq 17, 3) := by decide +kernel
theorem dX11_count_239 : decode cX11_count 239 = .ok (.aload_n 0, 1) := by decide +kernel
theorem dX11_count_240 : decode cX11_count 240 = .ok (.getfield 10, 3) := by decide +kernel
theorem dX11_count_243 : decode cX11_count 243 = .ok (.iload_n 1, 1) := by decide +kernel
theorem dX11_count_244 : decode cX11_count 244 = .ok (.bipush 16, 2) := by decide +kernel
theorem dX11_count_246 : decode cX11_count 246 = .ok (.isub, 1) := by decide +kernel
theorem dX11_count_247 : decode cX11_count 247 = .ok (.invokevirtual 178, 3) := by decide +kernel
theorem dX11_count_250 : decode cX11_count 250 = .ok (.goto 4, 3) := by decide +kernel
theorem dX11_count_253 : decode cX11_count 253 = .ok (.iconst (-1), 1) := by decide +kernel
theorem dX11_count_254 : decode cX11_count 254 = .ok (.ireturn, 1) := by decide +kernel
theorem dX11_status_0 : decode cX11_status 0 = .ok (.aload_n 0, 1) := by decide +kernel
theorem dX11_status_1 : decode cX11_status 1 = .ok (.getfield 364, 3) := by decide +kernel
theorem dX11_status_4 : decode cX11_status 4 = .ok (.ireturn, 1) := by decide +kernel
theorem dX11_refuse_0 : decode cX11_refuse 0 = .ok (.aload_n 0, 1) := by decide +kernel
theorem dX11_refuse_1 : decode cX11_refuse 1 = .ok (.iload_n 1, 1) := by decide +kernel
theorem dX11_refuse_2 : decode cX11_refuse 2 = .ok (.putfield 364, 3) := by decide +kernel
theorem dX11_refuse_5 : decode cX11_refuse 5 = .ok (.iload_n 1, 1) := by decide +kernel
theorem dX11_refuse_6 : decode cX11_refuse 6 = .ok (.ineg, 1) := by decide +kernel
theorem dX11_refuse_7 : decode cX11_refuse 7 = .ok (.iconst 1, 1) := by decide +kernel
theorem dX11_refuse_8 : decode cX11_refuse 8 = .ok (.aload_n 0, 1) := by decide +kernel
theorem dX11_refuse_9 : decode cX11_refuse 9 = .ok (.getfield 106, 3) := by decide +kernel
theorem dX11_refuse_12 : decode cX11_refuse 12 = .ok (.arraylength, 1) := by decide +kernel
theorem dX11_refuse_13 : decode cX11_refuse 13 = .ok (.iconst 1, 1) := by decide +kernel
theorem dX11_refuse_14 : decode cX11_refuse 14 = .ok (.isub, 1) := by decide +kernel
theorem dX11_refuse_15 : decode cX11_refuse 15 = .ok (.invokestatic 113, 3) := by decide +kernel
theorem dX11_refuse_18 : decode cX11_refuse 18 = .ok (.ifCond .eq 14, 3) := by decide +kernel
theorem dX11_refuse_21 : decode cX11_refuse 21 = .ok (.aload_n 0, 1) := by decide +kernel
theorem dX11_refuse_22 : decode cX11_refuse 22 = .ok (.getfield 106, 3) := by decide +kernel
theorem dX11_refuse_25 : decode cX11_refuse 25 = .ok (.iload_n 1, 1) := by decide +kernel
theorem dX11_refuse_26 : decode cX11_refuse 26 = .ok (.ineg, 1) := by decide +kernel
theorem dX11_refuse_27 : decode cX11_refuse 27 = .ok (.dup2, 1) := by decide +kernel
theorem dX11_refuse_28 : decode cX11_refuse 28 = .ok (.iaload, 1) := by decide +kernel
theorem dX11_refuse_29 : decode cX11_refuse 29 = .ok (.iconst 1, 1) := by decide +kernel
theorem dX11_refuse_30 : decode cX11_refuse 30 = .ok (.iadd, 1) := by decide +kernel
theorem dX11_refuse_31 : decode cX11_refuse 31 = .ok (.iastore, 1) := by decide +kernel
theorem dX11_refuse_32 : decode cX11_refuse 32 = .ok (.iload_n 1, 1) := by decide +kernel
theorem dX11_refuse_33 : decode cX11_refuse 33 = .ok (.ireturn, 1) := by decide +kernel
theorem dX11_fine_0 : decode cX11_fine 0 = .ok (.aload_n 0, 1) := by decide +kernel
theorem dX11_fine_1 : decode cX11_fine 1 = .ok (.iconst 0, 1) := by decide +kernel
theorem dX11_fine_2 : decode cX11_fine 2 = .ok (.putfield 364, 3) := by decide +kernel
theorem dX11_fine_5 : decode cX11_fine 5 = .ok (.iload_n 1, 1) := by decide +kernel
theorem dX11_fine_6 : decode cX11_fine 6 = .ok (.ireturn, 1) := by decide +kernel
theorem dX11_within_0 : decode cX11_within 0 = .ok (.iload_n 0, 1) := by decide +kernel
theorem dX11_within_1 : decode cX11_within 1 = .ok (.iload_n 1, 1) := by decide +kernel
theorem dX11_within_2 : decode cX11_within 2 = .ok (.if_icmp .lt 12, 3) := by decide +kernel
theorem dX11_within_5 : decode cX11_within 5 = .ok (.iload_n 0, 1) := by decide +kernel
theorem dX11_within_6 : decode cX11_within 6 = .ok (.iload_n 2, 1) := by decide +kernel
theorem dX11_within_7 : decode cX11_within 7 = .ok (.if_icmp .gt 7, 3) := by decide +kernel
theorem dX11_within_10 : decode cX11_within 10 = .ok (.iconst 1, 1) := by decide +kernel
theorem dX11_within_11 : decode cX11_within 11 = .ok (.goto 4, 3) := by decide +kernel
theorem dX11_within_14 : decode cX11_within 14 = .ok (.iconst 0, 1) := by decide +kernel
theorem dX11_within_15 : decode cX11_within 15 = .ok (.ireturn, 1) := by decide +kernel
theorem dX11_isThing_0 : decode cX11_isThing 0 = .ok (.iload_n 0, 1) := by decide +kernel
theorem dX11_isThing_1 : decode cX11_isThing 1 = .ok (.iconst 0, 1) := by decide +kernel
theorem dX11_isThing_2 : decode cX11_isThing 2 = .ok (.bipush 7, 2) := by decide +kernel
theorem dX11_isThing_4 : decode cX11_isThing 4 = .ok (.invokestatic 113, 3) := by decide +kernel
theorem dX11_isThing_7 : decode cX11_isThing 7 = .ok (.ireturn, 1) := by decide +kernel
theorem dX11_lacksWord_0 : decode cX11_lacksWord 0 = .ok (.iload_n 1, 1) := by decide +kernel
theorem dX11_lacksWord_1 : decode cX11_lacksWord 1 = .ok (.iconst 0, 1) := by decide +kernel
theorem dX11_lacksWord_2 : decode cX11_lacksWord 2 = .ok (.bipush 9, 2) := by decide +kernel
theorem dX11_lacksWord_4 : decode cX11_lacksWord 4 = .ok (.invokestatic 113, 3) := by decide +kernel
theorem dX11_lacksWord_7 : decode cX11_lacksWord 7 = .ok (.ifCond .eq 21, 3) := by decide +kernel
theorem dX11_lacksWord_10 : decode cX11_lacksWord 10 = .ok (.aload_n 0, 1) := by decide +kernel
theorem dX11_lacksWord_11 : decode cX11_lacksWord 11 = .ok (.getfield 10, 3) := by decide +kernel
theorem dX11_lacksWord_14 : decode cX11_lacksWord 14 = .ok (.getfield 121, 3) := by decide +kernel
theorem dX11_lacksWord_17 : decode cX11_lacksWord 17 = .ok (.iload_n 1, 1) := by decide +kernel
theorem dX11_lacksWord_18 : decode cX11_lacksWord 18 = .ok (.invokevirtual 159, 3) := by decide +kernel
theorem dX11_lacksWord_21 : decode cX11_lacksWord 21 = .ok (.ifCond .ne 7, 3) := by decide +kernel
theorem dX11_lacksWord_24 : decode cX11_lacksWord 24 = .ok (.iconst 1, 1) := by decide +kernel
theorem dX11_lacksWord_25 : decode cX11_lacksWord 25 = .ok (.goto 4, 3) := by decide +kernel
theorem dX11_lacksWord_28 : decode cX11_lacksWord 28 = .ok (.iconst 0, 1) := by decide +kernel
theorem dX11_lacksWord_29 : decode cX11_lacksWord 29 = .ok (.ireturn, 1) := by decide +kernel
theorem dX11_lowestTerm_0 : decode cX11_lowestTerm 0 = .ok (.iload_n 0, 1) := by decide +kernel
theorem dX11_lowestTerm_1 : decode cX11_lowestTerm 1 = .ok (.iconst 1, 1) := by decide +kernel
theorem dX11_lowestTerm_2 : decode cX11_lowestTerm 2 = .ok (.if_icmp .ne 7, 3) := by decide +kernel
theorem dX11_lowestTerm_5 : decode cX11_lowestTerm 5 = .ok (.iconst 1, 1) := by decide +kernel
theorem dX11_lowestTerm_6 : decode cX11_lowestTerm 6 = .ok (.goto 4, 3) := by decide +kernel
theorem dX11_lowestTerm_9 : decode cX11_lowestTerm 9 = .ok (.iconst 0, 1) := by decide +kernel
theorem dX11_lowestTerm_10 : decode cX11_lowestTerm 10 = .ok (.ireturn, 1) := by decide +kernel
theorem dX11_highestTerm_0 : decode cX11_highestTerm 0 = .ok (.iload_n 0, 1) := by decide +kernel
theorem dX11_highestTerm_1 : decode cX11_highestTerm 1 = .ok (.ifCond .ne 7, 3) := by decide +kernel
theorem dX11_highestTerm_4 : decode cX11_highestTerm 4 = .ok (.sipush 999, 3) := by decide +kernel
theorem dX11_highestTerm_7 : decode cX11_highestTerm 7 = .ok (.ireturn, 1) := by decide +kernel
theorem dX11_highestTerm_8 : decode cX11_highestTerm 8 = .ok (.iload_n 0, 1) := by decide +kernel
theorem dX11_highestTerm_9 : decode cX11_highestTerm 9 = .ok (.iconst 1, 1) := by decide +kernel
theorem dX11_highestTerm_10 : decode cX11_highestTerm 10 = .ok (.if_icmp .ne 5, 3) := by decide +kernel
theorem dX11_highestTerm_13 : decode cX11_highestTerm 13 = .ok (.iconst 4, 1) := by decide +kernel
theorem dX11_highestTerm_14 : decode cX11_highestTerm 14 = .ok (.ireturn, 1) := by decide +kernel
theorem dX11_highestTerm_15 : decode cX11_highestTerm 15 = .ok (.iload_n 0, 1) := by decide +kernel
theorem dX11_highestTerm_16 : decode cX11_highestTerm 16 = .ok (.iconst 2, 1) := by decide +kernel
theorem dX11_highestTerm_17 : decode cX11_highestTerm 17 = .ok (.if_icmp .ne 8, 3) := by decide +kernel
theorem dX11_highestTerm_20 : decode cX11_highestTerm 20 = .ok (.bipush 30, 2) := by decide +kernel
theorem dX11_highestTerm_22 : decode cX11_highestTerm 22 = .ok (.goto 5, 3) := by decide +kernel
theorem dX11_highestTerm_25 : decode cX11_highestTerm 25 = .ok (.bipush 9, 2) := by decide +kernel
theorem dX11_highestTerm_27 : decode cX11_highestTerm 27 = .ok (.ireturn, 1) := by decide +kernel
theorem dX11_feedNumber_0 : decode cX11_feedNumber 0 = .ok (.bipush 24, 2) := by decide +kernel
theorem dX11_feedNumber_2 : decode cX11_feedNumber 2 = .ok (.istore_n 2, 1) := by decide +kernel
theorem dX11_feedNumber_3 : decode cX11_feedNumber 3 = .ok (.iload_n 2, 1) := by decide +kernel
theorem dX11_feedNumber_4 : decode cX11_feedNumber 4 = .ok (.ifCond .lt 31, 3) := by decide +kernel
theorem dX11_feedNumber_7 : decode cX11_feedNumber 7 = .ok (.aload_n 0, 1) := by decide +kernel
theorem dX11_feedNumber_8 : decode cX11_feedNumber 8 = .ok (.getfield 29, 3) := by decide +kernel
theorem dX11_feedNumber_11 : decode cX11_feedNumber 11 = .ok (.aload_n 0, 1) := by decide +kernel
theorem dX11_feedNumber_12 : decode cX11_feedNumber 12 = .ok (.getfield 29, 3) := by decide +kernel
theorem dX11_feedNumber_15 : decode cX11_feedNumber 15 = .ok (.invokevirtual 124, 3) := by decide +kernel
theorem dX11_feedNumber_18 : decode cX11_feedNumber 18 = .ok (.iconst 0, 1) := by decide +kernel
theorem dX11_feedNumber_19 : decode cX11_feedNumber 19 = .ok (.iload_n 1, 1) := by decide +kernel
theorem dX11_feedNumber_20 : decode cX11_feedNumber 20 = .ok (.iload_n 2, 1) := by decide +kernel
theorem dX11_feedNumber_21 : decode cX11_feedNumber 21 = .ok (.ishr, 1) := by decide +kernel
theorem dX11_feedNumber_22 : decode cX11_feedNumber 22 = .ok (.sipush 255, 3) := by decide +kernel
theorem dX11_feedNumber_25 : decode cX11_feedNumber 25 = .ok (.iand, 1) := by decide +kernel
theorem dX11_feedNumber_26 : decode cX11_feedNumber 26 = .ok (.invokevirtual 128, 3) := by decide +kernel
theorem dX11_feedNumber_29 : decode cX11_feedNumber 29 = .ok (.iinc 2 (-8), 3) := by decide +kernel
theorem dX11_feedNumber_32 : decode cX11_feedNumber 32 = .ok (.goto (-29), 3) := by decide +kernel
theorem dX11_feedNumber_35 : decode cX11_feedNumber 35 = .ok (.return_, 1) := by decide +kernel
theorem dX11_tryPrayer_0 : decode cX11_tryPrayer 0 = .ok (.iload_n 3, 1) := by decide +kernel
theorem dX11_tryPrayer_1 : decode cX11_tryPrayer 1 = .ok (.invokestatic 139, 3) := by decide +kernel
theorem dX11_tryPrayer_4 : decode cX11_tryPrayer 4 = .ok (.ifCond .eq 25, 3) := by decide +kernel
theorem dX11_tryPrayer_7 : decode cX11_tryPrayer 7 = .ok (.iload 4, 2) := by decide +kernel
theorem dX11_tryPrayer_9 : decode cX11_tryPrayer 9 = .ok (.iconst 1, 1) := by decide +kernel
theorem dX11_tryPrayer_10 : decode cX11_tryPrayer 10 = .ok (.bipush 99, 2) := by decide +kernel
theorem dX11_tryPrayer_12 : decode cX11_tryPrayer 12 = .ok (.invokestatic 113, 3) := by decide +kernel
theorem dX11_tryPrayer_15 : decode cX11_tryPrayer 15 = .ok (.ifCond .eq 14, 3) := by decide +kernel
theorem dX11_tryPrayer_18 : decode cX11_tryPrayer 18 = .ok (.iload 5, 2) := by decide +kernel
theorem dX11_tryPrayer_20 : decode cX11_tryPrayer 20 = .ok (.iconst 1, 1) := by decide +kernel
theorem dX11_tryPrayer_21 : decode cX11_tryPrayer 21 = .ok (.bipush 6, 2) := by decide +kernel
theorem dX11_tryPrayer_23 : decode cX11_tryPrayer 23 = .ok (.invokestatic 113, 3) := by decide +kernel
theorem dX11_tryPrayer_26 : decode cX11_tryPrayer 26 = .ok (.ifCond .ne 5, 3) := by decide +kernel
theorem dX11_tryPrayer_29 : decode cX11_tryPrayer 29 = .ok (.iconst (-1), 1) := by decide +kernel
theorem dX11_tryPrayer_30 : decode cX11_tryPrayer 30 = .ok (.ireturn, 1) := by decide +kernel
theorem dX11_tryPrayer_31 : decode cX11_tryPrayer 31 = .ok (.aload_n 0, 1) := by decide +kernel
theorem dX11_tryPrayer_32 : decode cX11_tryPrayer 32 = .ok (.getfield 10, 3) := by decide +kernel
theorem dX11_tryPrayer_35 : decode cX11_tryPrayer 35 = .ok (.getfield 156, 3) := by decide +kernel
theorem dX11_tryPrayer_38 : decode cX11_tryPrayer 38 = .ok (.iload_n 2, 1) := by decide +kernel
theorem dX11_tryPrayer_39 : decode cX11_tryPrayer 39 = .ok (.invokevirtual 159, 3) := by decide +kernel
theorem dX11_tryPrayer_42 : decode cX11_tryPrayer 42 = .ok (.ifCond .ne 6, 3) := by decide +kernel
theorem dX11_tryPrayer_45 : decode cX11_tryPrayer 45 = .ok (.bipush (-2), 2) := by decide +kernel
theorem dX11_tryPrayer_47 : decode cX11_tryPrayer 47 = .ok (.ireturn, 1) := by decide +kernel
theorem dX11_tryPrayer_48 : decode cX11_tryPrayer 48 = .ok (.iload 4, 2) := by decide +kernel
theorem dX11_tryPrayer_50 : decode cX11_tryPrayer 50 = .ok (.aload_n 0, 1) := by decide +kernel
theorem dX11_tryPrayer_51 : decode cX11_tryPrayer 51 = .ok (.getfield 52, 3) := by decide +kernel
theorem dX11_tryPrayer_54 : decode cX11_tryPrayer 54 = .ok (.aload_n 0, 1) := by decide +kernel
theorem dX11_tryPrayer_55 : decode cX11_tryPrayer 55 = .ok (.getfield 10, 3) := by decide +kernel
theorem dX11_tryPrayer_58 : decode cX11_tryPrayer 58 = .ok (.iload_n 2, 1) := by decide +kernel
theorem dX11_tryPrayer_59 : decode cX11_tryPrayer 59 = .ok (.aload_n 1, 1) := by decide +kernel
theorem dX11_tryPrayer_60 : decode cX11_tryPrayer 60 = .ok (.getfield 165, 3) := by decide +kernel
theorem dX11_tryPrayer_63 : decode cX11_tryPrayer 63 = .ok (.invokevirtual 168, 3) := by decide +kernel
theorem dX11_tryPrayer_66 : decode cX11_tryPrayer 66 = .ok (.if_icmp .le 6, 3) := by decide +kernel
theorem dX11_tryPrayer_69 : decode cX11_tryPrayer 69 = .ok (.bipush (-3), 2) := by decide +kernel
theorem dX11_tryPrayer_71 : decode cX11_tryPrayer 71 = .ok (.ireturn, 1) := by decide +kernel
theorem dX11_tryPrayer_72 : decode cX11_tryPrayer 72 = .ok (.aload_n 1, 1) := by decide +kernel
theorem dX11_tryPrayer_73 : decode cX11_tryPrayer 73 = .ok (.getfield 267, 3) := by decide +kernel
theorem dX11_tryPrayer_76 : decode cX11_tryPrayer 76 = .ok (.getfield 188, 3) := by decide +kernel
theorem dX11_tryPrayer_79 : decode cX11_tryPrayer 79 = .ok (.bipush 16, 2) := by decide +kernel
theorem dX11_tryPrayer_81 : decode cX11_tryPrayer 81 = .ok (.if_icmp .lt 6, 3) := by decide +kernel
theorem dX11_tryPrayer_84 : decode cX11_tryPrayer 84 = .ok (.bipush (-5), 2) := by decide +kernel
theorem dX11_tryPrayer_86 : decode cX11_tryPrayer 86 = .ok (.ireturn, 1) := by decide +kernel
theorem dX11_tryPrayer_87 : decode cX11_tryPrayer 87 = .ok (.aload_n 1, 1) := by decide +kernel
theorem dX11_tryPrayer_88 : decode cX11_tryPrayer 88 = .ok (.iload_n 2, 1) := by decide +kernel
theorem dX11_tryPrayer_89 : decode cX11_tryPrayer 89 = .ok (.iload_n 3, 1) := by decide +kernel
theorem dX11_tryPrayer_90 : decode cX11_tryPrayer 90 = .ok (.iload 4, 2) := by decide +kernel
theorem dX11_tryPrayer_92 : decode cX11_tryPrayer 92 = .ok (.iload 5, 2) := by decide +kernel
theorem dX11_tryPrayer_94 : decode cX11_tryPrayer 94 = .ok (.invokevirtual 320, 3) := by decide +kernel
theorem dX11_tryPrayer_97 : decode cX11_tryPrayer 97 = .ok (.pop, 1) := by decide +kernel
theorem dX11_tryPrayer_98 : decode cX11_tryPrayer 98 = .ok (.iconst 0, 1) := by decide +kernel
theorem dX11_tryPrayer_99 : decode cX11_tryPrayer 99 = .ok (.ireturn, 1) := by decide +kernel
theorem dX11_tryDawn_0 : decode cX11_tryDawn 0 = .ok (.aload_n 0, 1) := by decide +kernel
theorem dX11_tryDawn_1 : decode cX11_tryDawn 1 = .ok (.getfield 10, 3) := by decide +kernel
theorem dX11_tryDawn_4 : decode cX11_tryDawn 4 = .ok (.getfield 162, 3) := by decide +kernel
theorem dX11_tryDawn_7 : decode cX11_tryDawn 7 = .ok (.getfield 165, 3) := by decide +kernel
theorem dX11_tryDawn_10 : decode cX11_tryDawn 10 = .ok (.sipush 999, 3) := by decide +kernel
theorem dX11_tryDawn_13 : decode cX11_tryDawn 13 = .ok (.if_icmp .lt 6, 3) := by decide +kernel
theorem dX11_tryDawn_16 : decode cX11_tryDawn 16 = .ok (.bipush (-3), 2) := by decide +kernel
theorem dX11_tryDawn_18 : decode cX11_tryDawn 18 = .ok (.ireturn, 1) := by decide +kernel
theorem dX11_tryDawn_19 : decode cX11_tryDawn 19 = .ok (.aload_n 0, 1) := by decide +kernel
theorem dX11_tryDawn_20 : decode cX11_tryDawn 20 = .ok (.getfield 61, 3) := by decide +kernel
theorem dX11_tryDawn_23 : decode cX11_tryDawn 23 = .ok (.aload_n 0, 1) := by decide +kernel
theorem dX11_tryDawn_24 : decode cX11_tryDawn 24 = .ok (.getfield 10, 3) := by decide +kernel
theorem dX11_tryDawn_27 : decode cX11_tryDawn 27 = .ok (.aload_n 0, 1) := by decide +kernel
theorem dX11_tryDawn_28 : decode cX11_tryDawn 28 = .ok (.getfield 10, 3) := by decide +kernel
theorem dX11_tryDawn_31 : decode cX11_tryDawn 31 = .ok (.getfield 162, 3) := by decide +kernel
theorem dX11_tryDawn_34 : decode cX11_tryDawn 34 = .ok (.iconst 1, 1) := by decide +kernel
theorem dX11_tryDawn_35 : decode cX11_tryDawn 35 = .ok (.invokevirtual 286, 3) := by decide +kernel
theorem dX11_tryDawn_38 : decode cX11_tryDawn 38 = .ok (.aload_n 0, 1) := by decide +kernel
theorem dX11_tryDawn_39 : decode cX11_tryDawn 39 = .ok (.getfield 61, 3) := by decide +kernel
theorem dX11_tryDawn_42 : decode cX11_tryDawn 42 = .ok (.aload_n 0, 1) := by decide +kernel
theorem dX11_tryDawn_43 : decode cX11_tryDawn 43 = .ok (.getfield 10, 3) := by decide +kernel
theorem dX11_tryDawn_46 : decode cX11_tryDawn 46 = .ok (.aload_n 0, 1) := by decide +kernel
theorem dX11_tryDawn_47 : decode cX11_tryDawn 47 = .ok (.getfield 10, 3) := by decide +kernel
theorem dX11_tryDawn_50 : decode cX11_tryDawn 50 = .ok (.getfield 162, 3) := by decide +kernel
theorem dX11_tryDawn_53 : decode cX11_tryDawn 53 = .ok (.iconst 1, 1) := by decide +kernel
theorem dX11_tryDawn_54 : decode cX11_tryDawn 54 = .ok (.invokevirtual 316, 3) := by decide +kernel
theorem dX11_tryDawn_57 : decode cX11_tryDawn 57 = .ok (.istore_n 1, 1) := by decide +kernel
theorem dX11_tryDawn_58 : decode cX11_tryDawn 58 = .ok (.aload_n 0, 1) := by decide +kernel
theorem dX11_tryDawn_59 : decode cX11_tryDawn 59 = .ok (.aload_n 0, 1) := by decide +kernel
theorem dX11_tryDawn_60 : decode cX11_tryDawn 60 = .ok (.getfield 61, 3) := by decide +kernel
theorem dX11_tryDawn_63 : decode cX11_tryDawn 63 = .ok (.getfield 367, 3) := by decide +kernel
theorem dX11_tryDawn_66 : decode cX11_tryDawn 66 = .ok (.iconst 2, 1) := by decide +kernel
theorem dX11_tryDawn_67 : decode cX11_tryDawn 67 = .ok (.imul, 1) := by decide +kernel
theorem dX11_tryDawn_68 : decode cX11_tryDawn 68 = .ok (.iconst 1, 1) := by decide +kernel
theorem dX11_tryDawn_69 : decode cX11_tryDawn 69 = .ok (.iadd, 1) := by decide +kernel
theorem dX11_tryDawn_70 : decode cX11_tryDawn 70 = .ok (.invokevirtual 264, 3) := by decide +kernel
theorem dX11_tryDawn_73 : decode cX11_tryDawn 73 = .ok (.iload_n 1, 1) := by decide +kernel
theorem dX11_tryDawn_74 : decode cX11_tryDawn 74 = .ok (.ireturn, 1) := by decide +kernel
theorem dX11_noteDeed_0 : decode cX11_noteDeed 0 = .ok (.aload_n 0, 1) := by decide +kernel
theorem dX11_noteDeed_1 : decode cX11_noteDeed 1 = .ok (.getfield 75, 3) := by decide +kernel
theorem dX11_noteDeed_4 : decode cX11_noteDeed 4 = .ok (.getfield 188, 3) := by decide +kernel
theorem dX11_noteDeed_7 : decode cX11_noteDeed 7 = .ok (.bipush 16, 2) := by decide +kernel
theorem dX11_noteDeed_9 : decode cX11_noteDeed 9 = .ok (.if_icmp .lt 10, 3) := by decide +kernel
theorem dX11_noteDeed_12 : decode cX11_noteDeed 12 = .ok (.aload_n 0, 1) := by decide +kernel
theorem dX11_noteDeed_13 : decode cX11_noteDeed 13 = .ok (.getfield 75, 3) := by decide +kernel
theorem dX11_noteDeed_16 : decode cX11_noteDeed 16 = .ok (.invokevirtual 370, 3) := by decide +kernel
theorem dX11_noteDeed_19 : decode cX11_noteDeed 19 = .ok (.aload_n 0, 1) := by decide +kernel
theorem dX11_noteDeed_20 : decode cX11_noteDeed 20 = .ok (.getfield 75, 3) := by decide +kernel
theorem dX11_noteDeed_23 : decode cX11_noteDeed 23 = .ok (.aload_n 0, 1) := by decide +kernel
theorem dX11_noteDeed_24 : decode cX11_noteDeed 24 = .ok (.getfield 75, 3) := by decide +kernel
theorem dX11_noteDeed_27 : decode cX11_noteDeed 27 = .ok (.invokevirtual 124, 3) := by decide +kernel
theorem dX11_noteDeed_30 : decode cX11_noteDeed 30 = .ok (.iconst 0, 1) := by decide +kernel
theorem dX11_noteDeed_31 : decode cX11_noteDeed 31 = .ok (.iload_n 1, 1) := by decide +kernel
theorem dX11_noteDeed_32 : decode cX11_noteDeed 32 = .ok (.invokevirtual 128, 3) := by decide +kernel
theorem dX11_noteDeed_35 : decode cX11_noteDeed 35 = .ok (.return_, 1) := by decide +kernel
theorem dX11_lookAround_0 : decode cX11_lookAround 0 = .ok (.aload_n 0, 1) := by decide +kernel
theorem dX11_lookAround_1 : decode cX11_lookAround 1 = .ok (.getfield 102, 3) := by decide +kernel
theorem dX11_lookAround_4 : decode cX11_lookAround 4 = .ok (.iconst 0, 1) := by decide +kernel
theorem dX11_lookAround_5 : decode cX11_lookAround 5 = .ok (.aload_n 0, 1) := by decide +kernel
theorem dX11_lookAround_6 : decode cX11_lookAround 6 = .ok (.getfield 10, 3) := by decide +kernel
theorem dX11_lookAround_9 : decode cX11_lookAround 9 = .ok (.getfield 162, 3) := by decide +kernel
theorem dX11_lookAround_12 : decode cX11_lookAround 12 = .ok (.getfield 165, 3) := by decide +kernel
theorem dX11_lookAround_15 : decode cX11_lookAround 15 = .ok (.iastore, 1) := by decide +kernel
theorem dX11_lookAround_16 : decode cX11_lookAround 16 = .ok (.aload_n 0, 1) := by decide +kernel
theorem dX11_lookAround_17 : decode cX11_lookAround 17 = .ok (.getfield 102, 3) := by decide +kernel
theorem dX11_lookAround_20 : decode cX11_lookAround 20 = .ok (.iconst 1, 1) := by decide +kernel
theorem dX11_lookAround_21 : decode cX11_lookAround 21 = .ok (.aload_n 0, 1) := by decide +kernel
theorem dX11_lookAround_22 : decode cX11_lookAround 22 = .ok (.getfield 10, 3) := by decide +kernel
theorem dX11_lookAround_25 : decode cX11_lookAround 25 = .ok (.getfield 162, 3) := by decide +kernel
theorem dX11_lookAround_28 : decode cX11_lookAround 28 = .ok (.getfield 267, 3) := by decide +kernel
theorem dX11_lookAround_31 : decode cX11_lookAround 31 = .ok (.getfield 188, 3) := by decide +kernel
theorem dX11_lookAround_34 : decode cX11_lookAround 34 = .ok (.iastore, 1) := by decide +kernel
theorem dX11_lookAround_35 : decode cX11_lookAround 35 = .ok (.aload_n 0, 1) := by decide +kernel
theorem dX11_lookAround_36 : decode cX11_lookAround 36 = .ok (.getfield 102, 3) := by decide +kernel
theorem dX11_lookAround_39 : decode cX11_lookAround 39 = .ok (.iconst 2, 1) := by decide +kernel
theorem dX11_lookAround_40 : decode cX11_lookAround 40 = .ok (.aload_n 0, 1) := by decide +kernel
theorem dX11_lookAround_41 : decode cX11_lookAround 41 = .ok (.getfield 10, 3) := by decide +kernel
theorem dX11_lookAround_44 : decode cX11_lookAround 44 = .ok (.getfield 162, 3) := by decide +kernel
theorem dX11_lookAround_47 : decode cX11_lookAround 47 = .ok (.invokevirtual 361, 3) := by decide +kernel
theorem dX11_lookAround_50 : decode cX11_lookAround 50 = .ok (.iastore, 1) := by decide +kernel
theorem dX11_lookAround_51 : decode cX11_lookAround 51 = .ok (.aload_n 0, 1) := by decide +kernel
theorem dX11_lookAround_52 : decode cX11_lookAround 52 = .ok (.getfield 102, 3) := by decide +kernel
theorem dX11_lookAround_55 : decode cX11_lookAround 55 = .ok (.iconst 3, 1) := by decide +kernel
theorem dX11_lookAround_56 : decode cX11_lookAround 56 = .ok (.iload_n 1, 1) := by decide +kernel
theorem dX11_lookAround_57 : decode cX11_lookAround 57 = .ok (.iastore, 1) := by decide +kernel
theorem dX11_lookAround_58 : decode cX11_lookAround 58 = .ok (.iconst 0, 1) := by decide +kernel
theorem dX11_lookAround_59 : decode cX11_lookAround 59 = .ok (.istore_n 2, 1) := by decide +kernel
theorem dX11_lookAround_60 : decode cX11_lookAround 60 = .ok (.iload_n 2, 1) := by decide +kernel
theorem dX11_lookAround_61 : decode cX11_lookAround 61 = .ok (.bipush 8, 2) := by decide +kernel
theorem dX11_lookAround_63 : decode cX11_lookAround 63 = .ok (.if_icmp .ge 46, 3) := by decide +kernel
theorem dX11_lookAround_66 : decode cX11_lookAround 66 = .ok (.aload_n 0, 1) := by decide +kernel
theorem dX11_lookAround_67 : decode cX11_lookAround 67 = .ok (.getfield 102, 3) := by decide +kernel
theorem dX11_lookAround_70 : decode cX11_lookAround 70 = .ok (.bipush 8, 2) := by decide +kernel
theorem dX11_lookAround_72 : decode cX11_lookAround 72 = .ok (.iload_n 2, 1) := by decide +kernel
theorem dX11_lookAround_73 : decode cX11_lookAround 73 = .ok (.iadd, 1) := by decide +kernel
theorem dX11_lookAround_74 : decode cX11_lookAround 74 = .ok (.aload_n 0, 1) := by decide +kernel
theorem dX11_lookAround_75 : decode cX11_lookAround 75 = .ok (.getfield 84, 3) := by decide +kernel
theorem dX11_lookAround_78 : decode cX11_lookAround 78 = .ok (.iload_n 2, 1) := by decide +kernel
theorem dX11_lookAround_79 : decode cX11_lookAround 79 = .ok (.invokevirtual 252, 3) := by decide +kernel
theorem dX11_lookAround_82 : decode cX11_lookAround 82 = .ok (.iastore, 1) := by decide +kernel
theorem dX11_lookAround_83 : decode cX11_lookAround 83 = .ok (.aload_n 0, 1) := by decide +kernel
theorem dX11_lookAround_84 : decode cX11_lookAround 84 = .ok (.getfield 102, 3) := by decide +kernel
theorem dX11_lookAround_87 : decode cX11_lookAround 87 = .ok (.bipush 16, 2) := by decide +kernel
theorem dX11_lookAround_89 : decode cX11_lookAround 89 = .ok (.iload_n 2, 1) := by decide +kernel
theorem dX11_lookAround_90 : decode cX11_lookAround 90 = .ok (.iadd, 1) := by decide +kernel
theorem dX11_lookAround_91 : decode cX11_lookAround 91 = .ok (.aload_n 0, 1) := by decide +kernel
theorem dX11_lookAround_92 : decode cX11_lookAround 92 = .ok (.getfield 10, 3) := by decide +kernel
theorem dX11_lookAround_95 : decode cX11_lookAround 95 = .ok (.getfield 162, 3) := by decide +kernel
theorem dX11_lookAround_98 : decode cX11_lookAround 98 = .ok (.iload_n 2, 1) := by decide +kernel
theorem dX11_lookAround_99 : decode cX11_lookAround 99 = .ok (.invokevirtual 373, 3) := by decide +kernel
theorem dX11_lookAround_102 : decode cX11_lookAround 102 = .ok (.iastore, 1) := by decide +kernel
theorem dX11_lookAround_103 : decode cX11_lookAround 103 = .ok (.iinc 2 1, 3) := by decide +kernel
theorem dX11_lookAround_106 : decode cX11_lookAround 106 = .ok (.goto (-46), 3) := by decide +kernel
theorem dX11_lookAround_109 : decode cX11_lookAround 109 = .ok (.return_, 1) := by decide +kernel
theorem dX11_runOnce_0 : decode cX11_runOnce 0 = .ok (.aload_n 0, 1) := by decide +kernel
theorem dX11_runOnce_1 : decode cX11_runOnce 1 = .ok (.getfield 36, 3) := by decide +kernel
theorem dX11_runOnce_4 : decode cX11_runOnce 4 = .ok (.getfield 227, 3) := by decide +kernel
theorem dX11_runOnce_7 : decode cX11_runOnce 7 = .ok (.iload_n 1, 1) := by decide +kernel
theorem dX11_runOnce_8 : decode cX11_runOnce 8 = .ok (.iconst 0, 1) := by decide +kernel
theorem dX11_runOnce_9 : decode cX11_runOnce 9 = .ok (.invokevirtual 135, 3) := by decide +kernel
theorem dX11_runOnce_12 : decode cX11_runOnce 12 = .ok (.iconst 4, 1) := by decide +kernel
theorem dX11_runOnce_13 : decode cX11_runOnce 13 = .ok (.if_icmp .ne 12, 3) := by decide +kernel
theorem dX11_runOnce_16 : decode cX11_runOnce 16 = .ok (.aload_n 0, 1) := by decide +kernel
theorem dX11_runOnce_17 : decode cX11_runOnce 17 = .ok (.invokevirtual 294, 3) := by decide +kernel
theorem dX11_runOnce_20 : decode cX11_runOnce 20 = .ok (.iconst 0, 1) := by decide +kernel
theorem dX11_runOnce_21 : decode cX11_runOnce 21 = .ok (.invokestatic 328, 3) := by decide +kernel
theorem dX11_runOnce_24 : decode cX11_runOnce 24 = .ok (.ireturn, 1) := by decide +kernel
theorem dX11_runOnce_25 : decode cX11_runOnce 25 = .ok (.aload_n 0, 1) := by decide +kernel
theorem dX11_runOnce_26 : decode cX11_runOnce 26 = .ok (.getfield 52, 3) := by decide +kernel
theorem dX11_runOnce_29 : decode cX11_runOnce 29 = .ok (.getfield 233, 3) := by decide +kernel
theorem dX11_runOnce_32 : decode cX11_runOnce 32 = .ok (.aload_n 0, 1) := by decide +kernel
theorem dX11_runOnce_33 : decode cX11_runOnce 33 = .ok (.getfield 36, 3) := by decide +kernel
theorem dX11_runOnce_36 : decode cX11_runOnce 36 = .ok (.iload_n 1, 1) := by decide +kernel
theorem dX11_runOnce_37 : decode cX11_runOnce 37 = .ok (.iconst 0, 1) := by decide +kernel
theorem dX11_runOnce_38 : decode cX11_runOnce 38 = .ok (.aload_n 0, 1) := by decide +kernel
theorem dX11_runOnce_39 : decode cX11_runOnce 39 = .ok (.getfield 102, 3) := by decide +kernel
theorem dX11_runOnce_42 : decode cX11_runOnce 42 = .ok (.invokevirtual 237, 3) := by decide +kernel
theorem dX11_runOnce_45 : decode cX11_runOnce 45 = .ok (.istore_n 2, 1) := by decide +kernel
theorem dX11_runOnce_46 : decode cX11_runOnce 46 = .ok (.aload_n 0, 1) := by decide +kernel
theorem dX11_runOnce_47 : decode cX11_runOnce 47 = .ok (.getfield 52, 3) := by decide +kernel
theorem dX11_runOnce_50 : decode cX11_runOnce 50 = .ok (.getfield 233, 3) := by decide +kernel
theorem dX11_runOnce_53 : decode cX11_runOnce 53 = .ok (.aload_n 0, 1) := by decide +kernel
theorem dX11_runOnce_54 : decode cX11_runOnce 54 = .ok (.getfield 36, 3) := by decide +kernel
theorem dX11_runOnce_57 : decode cX11_runOnce 57 = .ok (.iload_n 1, 1) := by decide +kernel
theorem dX11_runOnce_58 : decode cX11_runOnce 58 = .ok (.iconst 1, 1) := by decide +kernel
theorem dX11_runOnce_59 : decode cX11_runOnce 59 = .ok (.aload_n 0, 1) := by decide +kernel
theorem dX11_runOnce_60 : decode cX11_runOnce 60 = .ok (.getfield 102, 3) := by decide +kernel
theorem dX11_runOnce_63 : decode cX11_runOnce 63 = .ok (.invokevirtual 237, 3) := by decide +kernel
theorem dX11_runOnce_66 : decode cX11_runOnce 66 = .ok (.istore_n 3, 1) := by decide +kernel
theorem dX11_runOnce_67 : decode cX11_runOnce 67 = .ok (.aload_n 0, 1) := by decide +kernel
theorem dX11_runOnce_68 : decode cX11_runOnce 68 = .ok (.getfield 52, 3) := by decide +kernel
theorem dX11_runOnce_71 : decode cX11_runOnce 71 = .ok (.getfield 233, 3) := by decide +kernel
theorem dX11_runOnce_74 : decode cX11_runOnce 74 = .ok (.aload_n 0, 1) := by decide +kernel
theorem dX11_runOnce_75 : decode cX11_runOnce 75 = .ok (.getfield 36, 3) := by decide +kernel
theorem dX11_runOnce_78 : decode cX11_runOnce 78 = .ok (.iload_n 1, 1) := by decide +kernel
theorem dX11_runOnce_79 : decode cX11_runOnce 79 = .ok (.iconst 2, 1) := by decide +kernel
theorem dX11_runOnce_80 : decode cX11_runOnce 80 = .ok (.aload_n 0, 1) := by decide +kernel
theorem dX11_runOnce_81 : decode cX11_runOnce 81 = .ok (.getfield 102, 3) := by decide +kernel
theorem dX11_runOnce_84 : decode cX11_runOnce 84 = .ok (.invokevirtual 237, 3) := by decide +kernel
theorem dX11_runOnce_87 : decode cX11_runOnce 87 = .ok (.istore 4, 2) := by decide +kernel
theorem dX11_runOnce_89 : decode cX11_runOnce 89 = .ok (.iload_n 2, 1) := by decide +kernel
theorem dX11_runOnce_90 : decode cX11_runOnce 90 = .ok (.ldc_w 376, 3) := by decide +kernel
theorem dX11_runOnce_93 : decode cX11_runOnce 93 = .ok (.if_icmp .eq 18, 3) := by decide +kernel
theorem dX11_runOnce_96 : decode cX11_runOnce 96 = .ok (.iload_n 3, 1) := by decide +kernel
theorem dX11_runOnce_97 : decode cX11_runOnce 97 = .ok (.ldc_w 376, 3) := by decide +kernel
theorem dX11_runOnce_100 : decode cX11_runOnce 100 = .ok (.if_icmp .eq 11, 3) := by decide +kernel
theorem dX11_runOnce_103 : decode cX11_runOnce 103 = .ok (.iload 4, 2) := by decide +kernel
theorem dX11_runOnce_105 : decode cX11_runOnce 105 = .ok (.ldc_w 376, 3) := by decide +kernel
theorem dX11_runOnce_108 : decode cX11_runOnce 108 = .ok (.if_icmp .ne 6, 3) := by decide +kernel
theorem dX11_runOnce_111 : decode cX11_runOnce 111 = .ok (.bipush (-3), 2) := by decide +kernel
theorem dX11_runOnce_113 : decode cX11_runOnce 113 = .ok (.ireturn, 1) := by decide +kernel
theorem dX11_runOnce_114 : decode cX11_runOnce 114 = .ok (.aload_n 0, 1) := by decide +kernel
theorem dX11_runOnce_115 : decode cX11_runOnce 115 = .ok (.aload_n 0, 1) := by decide +kernel
theorem dX11_runOnce_116 : decode cX11_runOnce 116 = .ok (.getfield 10, 3) := by decide +kernel
theorem dX11_runOnce_119 : decode cX11_runOnce 119 = .ok (.getfield 162, 3) := by decide +kernel
theorem dX11_runOnce_122 : decode cX11_runOnce 122 = .ok (.iload_n 2, 1) := by decide +kernel
theorem dX11_runOnce_123 : decode cX11_runOnce 123 = .ok (.iload_n 3, 1) := by decide +kernel
theorem dX11_runOnce_124 : decode cX11_runOnce 124 = .ok (.iload 4, 2) := by decide +kernel
theorem dX11_runOnce_126 : decode cX11_runOnce 126 = .ok (.iconst 1, 1) := by decide +kernel
theorem dX11_runOnce_127 : decode cX11_runOnce 127 = .ok (.invokevirtual 197, 3) := by decide +kernel
theorem dX11_runOnce_130 : decode cX11_runOnce 130 = .ok (.istore 5, 2) := by decide +kernel
theorem dX11_runOnce_132 : decode cX11_runOnce 132 = .ok (.iload 5, 2) := by decide +kernel
theorem dX11_runOnce_134 : decode cX11_runOnce 134 = .ok (.ifCond .ne 8, 3) := by decide +kernel
theorem dX11_runOnce_137 : decode cX11_runOnce 137 = .ok (.aload_n 0, 1) := by decide +kernel
theorem dX11_runOnce_138 : decode cX11_runOnce 138 = .ok (.iconst 0, 1) := by decide +kernel
theorem dX11_runOnce_139 : decode cX11_runOnce 139 = .ok (.invokevirtual 264, 3) := by decide +kernel
theorem dX11_runOnce_142 : decode cX11_runOnce 142 = .ok (.iload 5, 2) := by decide +kernel
theorem dX11_runOnce_144 : decode cX11_runOnce 144 = .ok (.ifCond .eq 10, 3) := by decide +kernel
theorem dX11_runOnce_147 : decode cX11_runOnce 147 = .ok (.iload 5, 2) := by decide +kernel
theorem dX11_runOnce_149 : decode cX11_runOnce 149 = .ok (.bipush (-5), 2) := by decide +kernel
theorem dX11_runOnce_151 : decode cX11_runOnce 151 = .ok (.if_icmp .ne 8, 3) := by decide +kernel
theorem dX11_runOnce_154 : decode cX11_runOnce 154 = .ok (.iload 5, 2) := by decide +kernel
theorem dX11_runOnce_156 : decode cX11_runOnce 156 = .ok (.goto 5, 3) := by decide +kernel
theorem dX11_runOnce_159 : decode cX11_runOnce 159 = .ok (.bipush (-3), 2) := by decide +kernel
theorem dX11_runOnce_161 : decode cX11_runOnce 161 = .ok (.ireturn, 1) := by decide +kernel
theorem dX11_isGrantedWithin_0 : decode cX11_isGrantedWithin 0 = .ok (.iconst 1, 1) := by decide +kernel
theorem dX11_isGrantedWithin_1 : decode cX11_isGrantedWithin 1 = .ok (.istore_n 3, 1) := by decide +kernel
theorem dX11_isGrantedWithin_2 : decode cX11_isGrantedWithin 2 = .ok (.iload_n 3, 1) := by decide +kernel
theorem dX11_isGrantedWithin_3 : decode cX11_isGrantedWithin 3 = .ok (.iload_n 2, 1) := by decide +kernel
theorem dX11_isGrantedWithin_4 : decode cX11_isGrantedWithin 4 = .ok (.if_icmp .gt 37, 3) := by decide +kernel
theorem dX11_isGrantedWithin_7 : decode cX11_isGrantedWithin 7 = .ok (.aload_n 0, 1) := by decide +kernel
theorem dX11_isGrantedWithin_8 : decode cX11_isGrantedWithin 8 = .ok (.getfield 68, 3) := by decide +kernel
theorem dX11_isGrantedWithin_11 : decode cX11_isGrantedWithin 11 = .ok (.iload_n 1, 1) := by decide +kernel
theorem dX11_isGrantedWithin_12 : decode cX11_isGrantedWithin 12 = .ok (.invokevirtual 270, 3) := by decide +kernel
theorem dX11_isGrantedWithin_15 : decode cX11_isGrantedWithin 15 = .ok (.ifCond .eq 26, 3) := by decide +kernel
theorem dX11_isGrantedWithin_18 : decode cX11_isGrantedWithin 18 = .ok (.aload_n 0, 1) := by decide +kernel
theorem dX11_isGrantedWithin_19 : decode cX11_isGrantedWithin 19 = .ok (.getfield 61, 3) := by decide +kernel
theorem dX11_isGrantedWithin_22 : decode cX11_isGrantedWithin 22 = .ok (.aload_n 0, 1) := by decide +kernel
theorem dX11_isGrantedWithin_23 : decode cX11_isGrantedWithin 23 = .ok (.getfield 10, 3) := by decide +kernel
theorem dX11_isGrantedWithin_26 : decode cX11_isGrantedWithin 26 = .ok (.aload_n 0, 1) := by decide +kernel
theorem dX11_isGrantedWithin_27 : decode cX11_isGrantedWithin 27 = .ok (.getfield 68, 3) := by decide +kernel
theorem dX11_isGrantedWithin_30 : decode cX11_isGrantedWithin 30 = .ok (.iload_n 3, 1) := by decide +kernel
theorem dX11_isGrantedWithin_31 : decode cX11_isGrantedWithin 31 = .ok (.invokevirtual 316, 3) := by decide +kernel
theorem dX11_isGrantedWithin_34 : decode cX11_isGrantedWithin 34 = .ok (.pop, 1) := by decide +kernel
theorem dX11_isGrantedWithin_35 : decode cX11_isGrantedWithin 35 = .ok (.iinc 3 1, 3) := by decide +kernel
theorem dX11_isGrantedWithin_38 : decode cX11_isGrantedWithin 38 = .ok (.goto (-36), 3) := by decide +kernel
theorem dX11_isGrantedWithin_41 : decode cX11_isGrantedWithin 41 = .ok (.aload_n 0, 1) := by decide +kernel
theorem dX11_isGrantedWithin_42 : decode cX11_isGrantedWithin 42 = .ok (.getfield 68, 3) := by decide +kernel
theorem dX11_isGrantedWithin_45 : decode cX11_isGrantedWithin 45 = .ok (.getfield 267, 3) := by decide +kernel
theorem dX11_isGrantedWithin_48 : decode cX11_isGrantedWithin 48 = .ok (.iload_n 1, 1) := by decide +kernel
theorem dX11_isGrantedWithin_49 : decode cX11_isGrantedWithin 49 = .ok (.iconst 5, 1) := by decide +kernel
theorem dX11_isGrantedWithin_50 : decode cX11_isGrantedWithin 50 = .ok (.invokevirtual 135, 3) := by decide +kernel
theorem dX11_isGrantedWithin_53 : decode cX11_isGrantedWithin 53 = .ok (.iconst 1, 1) := by decide +kernel
theorem dX11_isGrantedWithin_54 : decode cX11_isGrantedWithin 54 = .ok (.if_icmp .ne 7, 3) := by decide +kernel
theorem dX11_isGrantedWithin_57 : decode cX11_isGrantedWithin 57 = .ok (.iconst 1, 1) := by decide +kernel
theorem dX11_isGrantedWithin_58 : decode cX11_isGrantedWithin 58 = .ok (.goto 4, 3) := by decide +kernel
theorem dX11_isGrantedWithin_61 : decode cX11_isGrantedWithin 61 = .ok (.iconst 0, 1) := by decide +kernel
theorem dX11_isGrantedWithin_62 : decode cX11_isGrantedWithin 62 = .ok (.ireturn, 1) := by decide +kernel
theorem dX11_explainsAnswers_0 : decode cX11_explainsAnswers 0 = .ok (.aload_n 0, 1) := by decide +kernel
theorem dX11_explainsAnswers_1 : decode cX11_explainsAnswers 1 = .ok (.getfield 68, 3) := by decide +kernel
theorem dX11_explainsAnswers_4 : decode cX11_explainsAnswers 4 = .ok (.aload_n 0, 1) := by decide +kernel
theorem dX11_explainsAnswers_5 : decode cX11_explainsAnswers 5 = .ok (.getfield 10, 3) := by decide +kernel
theorem dX11_explainsAnswers_8 : decode cX11_explainsAnswers 8 = .ok (.getfield 162, 3) := by decide +kernel
theorem dX11_explainsAnswers_11 : decode cX11_explainsAnswers 11 = .ok (.invokevirtual 216, 3) := by decide +kernel
theorem dX11_explainsAnswers_14 : decode cX11_explainsAnswers 14 = .ok (.sipush 240, 3) := by decide +kernel
theorem dX11_explainsAnswers_17 : decode cX11_explainsAnswers 17 = .ok (.istore_n 3, 1) := by decide +kernel
theorem dX11_explainsAnswers_18 : decode cX11_explainsAnswers 18 = .ok (.aload_n 0, 1) := by decide +kernel
theorem dX11_explainsAnswers_19 : decode cX11_explainsAnswers 19 = .ok (.getfield 68, 3) := by decide +kernel
theorem dX11_explainsAnswers_22 : decode cX11_explainsAnswers 22 = .ok (.iload_n 1, 1) := by decide +kernel
theorem dX11_explainsAnswers_23 : decode cX11_explainsAnswers 23 = .ok (.iload_n 3, 1) := by decide +kernel
theorem dX11_explainsAnswers_24 : decode cX11_explainsAnswers 24 = .ok (.idiv, 1) := by decide +kernel
theorem dX11_explainsAnswers_25 : decode cX11_explainsAnswers 25 = .ok (.iload_n 1, 1) := by decide +kernel
theorem dX11_explainsAnswers_26 : decode cX11_explainsAnswers 26 = .ok (.bipush 30, 2) := by decide +kernel
theorem dX11_explainsAnswers_28 : decode cX11_explainsAnswers 28 = .ok (.idiv, 1) := by decide +kernel
theorem dX11_explainsAnswers_29 : decode cX11_explainsAnswers 29 = .ok (.bipush 8, 2) := by decide +kernel
theorem dX11_explainsAnswers_31 : decode cX11_explainsAnswers 31 = .ok (.irem, 1) := by decide +kernel
theorem dX11_explainsAnswers_32 : decode cX11_explainsAnswers 32 = .ok (.iload_n 1, 1) := by decide +kernel
theorem dX11_explainsAnswers_33 : decode cX11_explainsAnswers 33 = .ok (.bipush 30, 2) := by decide +kernel
theorem dX11_explainsAnswers_35 : decode cX11_explainsAnswers 35 = .ok (.irem, 1) := by decide +kernel
theorem dX11_explainsAnswers_36 : decode cX11_explainsAnswers 36 = .ok (.iconst 1, 1) := by decide +kernel
theorem dX11_explainsAnswers_37 : decode cX11_explainsAnswers 37 = .ok (.iadd, 1) := by decide +kernel
theorem dX11_explainsAnswers_38 : decode cX11_explainsAnswers 38 = .ok (.iconst 1, 1) := by decide +kernel
theorem dX11_explainsAnswers_39 : decode cX11_explainsAnswers 39 = .ok (.invokevirtual 320, 3) := by decide +kernel
theorem dX11_explainsAnswers_42 : decode cX11_explainsAnswers 42 = .ok (.istore 4, 2) := by decide +kernel
theorem dX11_explainsAnswers_44 : decode cX11_explainsAnswers 44 = .ok (.iconst 1, 1) := by decide +kernel
theorem dX11_explainsAnswers_45 : decode cX11_explainsAnswers 45 = .ok (.istore 5, 2) := by decide +kernel
theorem dX11_explainsAnswers_47 : decode cX11_explainsAnswers 47 = .ok (.iload 5, 2) := by decide +kernel
theorem dX11_explainsAnswers_49 : decode cX11_explainsAnswers 49 = .ok (.bipush 9, 2) := by decide +kernel
theorem dX11_explainsAnswers_51 : decode cX11_explainsAnswers 51 = .ok (.if_icmp .gt 101, 3) := by decide +kernel
theorem dX11_explainsAnswers_54 : decode cX11_explainsAnswers 54 = .ok (.iconst 0, 1) := by decide +kernel
theorem dX11_explainsAnswers_55 : decode cX11_explainsAnswers 55 = .ok (.istore 6, 2) := by decide +kernel
theorem dX11_explainsAnswers_57 : decode cX11_explainsAnswers 57 = .ok (.iload 5, 2) := by decide +kernel
theorem dX11_explainsAnswers_59 : decode cX11_explainsAnswers 59 = .ok (.iload_n 2, 1) := by decide +kernel
theorem dX11_explainsAnswers_60 : decode cX11_explainsAnswers 60 = .ok (.if_icmp .gt 70, 3) := by decide +kernel
theorem dX11_explainsAnswers_63 : decode cX11_explainsAnswers 63 = .ok (.aload_n 0, 1) := by decide +kernel
theorem dX11_explainsAnswers_64 : decode cX11_explainsAnswers 64 = .ok (.getfield 68, 3) := by decide +kernel
theorem dX11_explainsAnswers_67 : decode cX11_explainsAnswers 67 = .ok (.iload 4, 2) := by decide +kernel
theorem dX11_explainsAnswers_69 : decode cX11_explainsAnswers 69 = .ok (.invokevirtual 270, 3) := by decide +kernel
theorem dX11_explainsAnswers_72 : decode cX11_explainsAnswers 72 = .ok (.ifCond .eq 31, 3) := by decide +kernel
theorem dX11_explainsAnswers_75 : decode cX11_explainsAnswers 75 = .ok (.aload_n 0, 1) := by decide +kernel
theorem dX11_explainsAnswers_76 : decode cX11_explainsAnswers 76 = .ok (.getfield 61, 3) := by decide +kernel
theorem dX11_explainsAnswers_79 : decode cX11_explainsAnswers 79 = .ok (.aload_n 0, 1) := by decide +kernel
theorem dX11_explainsAnswers_80 : decode cX11_explainsAnswers 80 = .ok (.getfield 10, 3) := by decide +kernel
theorem dX11_explainsAnswers_83 : decode cX11_explainsAnswers 83 = .ok (.aload_n 0, 1) := by decide +kernel
theorem dX11_explainsAnswers_84 : decode cX11_explainsAnswers 84 = .ok (.getfield 68, 3) := by decide +kernel
theorem dX11_explainsAnswers_87 : decode cX11_explainsAnswers 87 = .ok (.iload 4, 2) := by decide +kernel
theorem dX11_explainsAnswers_89 : decode cX11_explainsAnswers 89 = .ok (.iload 5, 2) := by decide +kernel
theorem dX11_explainsAnswers_91 : decode cX11_explainsAnswers 91 = .ok (.aload_n 0, 1) := by decide +kernel
theorem dX11_explainsAnswers_92 : decode cX11_explainsAnswers 92 = .ok (.getfield 68, 3) := by decide +kernel
theorem dX11_explainsAnswers_95 : decode cX11_explainsAnswers 95 = .ok (.getfield 165, 3) := by decide +kernel
theorem dX11_explainsAnswers_98 : decode cX11_explainsAnswers 98 = .ok (.iconst 1, 1) := by decide +kernel
theorem dX11_explainsAnswers_99 : decode cX11_explainsAnswers 99 = .ok (.iadd, 1) := by decide +kernel
theorem dX11_explainsAnswers_100 : decode cX11_explainsAnswers 100 = .ok (.invokevirtual 324, 3) := by decide +kernel
theorem dX11_explainsAnswers_103 : decode cX11_explainsAnswers 103 = .ok (.aload_n 0, 1) := by decide +kernel
theorem dX11_explainsAnswers_104 : decode cX11_explainsAnswers 104 = .ok (.getfield 61, 3) := by decide +kernel
theorem dX11_explainsAnswers_107 : decode cX11_explainsAnswers 107 = .ok (.aload_n 0, 1) := by decide +kernel
theorem dX11_explainsAnswers_108 : decode cX11_explainsAnswers 108 = .ok (.getfield 10, 3) := by decide +kernel
theorem dX11_explainsAnswers_111 : decode cX11_explainsAnswers 111 = .ok (.aload_n 0, 1) := by decide +kernel
theorem dX11_explainsAnswers_112 : decode cX11_explainsAnswers 112 = .ok (.getfield 68, 3) := by decide +kernel
theorem dX11_explainsAnswers_115 : decode cX11_explainsAnswers 115 = .ok (.iload 5, 2) := by decide +kernel
theorem dX11_explainsAnswers_117 : decode cX11_explainsAnswers 117 = .ok (.invokevirtual 316, 3) := by decide +kernel
theorem dX11_explainsAnswers_120 : decode cX11_explainsAnswers 120 = .ok (.pop, 1) := by decide +kernel
theorem dX11_explainsAnswers_121 : decode cX11_explainsAnswers 121 = .ok (.aload_n 0, 1) := by decide +kernel
theorem dX11_explainsAnswers_122 : decode cX11_explainsAnswers 122 = .ok (.getfield 61, 3) := by decide +kernel
theorem dX11_explainsAnswers_125 : decode cX11_explainsAnswers 125 = .ok (.getfield 377, 3) := by decide +kernel
theorem dX11_explainsAnswers_128 : decode cX11_explainsAnswers 128 = .ok (.istore 6, 2) := by decide +kernel
theorem dX11_explainsAnswers_130 : decode cX11_explainsAnswers 130 = .ok (.aload_n 0, 1) := by decide +kernel
theorem dX11_explainsAnswers_131 : decode cX11_explainsAnswers 131 = .ok (.getfield 10, 3) := by decide +kernel
theorem dX11_explainsAnswers_134 : decode cX11_explainsAnswers 134 = .ok (.iload 5, 2) := by decide +kernel
theorem dX11_explainsAnswers_136 : decode cX11_explainsAnswers 136 = .ok (.iload 6, 2) := by decide +kernel
theorem dX11_explainsAnswers_138 : decode cX11_explainsAnswers 138 = .ok (.invokevirtual 380, 3) := by decide +kernel
theorem dX11_explainsAnswers_141 : decode cX11_explainsAnswers 141 = .ok (.ifCond .ne 5, 3) := by decide +kernel
theorem dX11_explainsAnswers_144 : decode cX11_explainsAnswers 144 = .ok (.iconst 0, 1) := by decide +kernel
theorem dX11_explainsAnswers_145 : decode cX11_explainsAnswers 145 = .ok (.ireturn, 1) := by decide +kernel
theorem dX11_explainsAnswers_146 : decode cX11_explainsAnswers 146 = .ok (.iinc 5 1, 3) := by decide +kernel
theorem dX11_explainsAnswers_149 : decode cX11_explainsAnswers 149 = .ok (.goto (-102), 3) := by decide +kernel
theorem dX11_explainsAnswers_152 : decode cX11_explainsAnswers 152 = .ok (.iconst 1, 1) := by decide +kernel
theorem dX11_explainsAnswers_153 : decode cX11_explainsAnswers 153 = .ok (.ireturn, 1) := by decide +kernel
theorem dX11_sayWhatIsDrawn_0 : decode cX11_sayWhatIsDrawn 0 = .ok (.aload_n 0, 1) := by decide +kernel
theorem dX11_sayWhatIsDrawn_1 : decode cX11_sayWhatIsDrawn 1 = .ok (.getfield 98, 3) := by decide +kernel
theorem dX11_sayWhatIsDrawn_4 : decode cX11_sayWhatIsDrawn 4 = .ok (.aload_n 0, 1) := by decide +kernel
theorem dX11_sayWhatIsDrawn_5 : decode cX11_sayWhatIsDrawn 5 = .ok (.getfield 10, 3) := by decide +kernel
theorem dX11_sayWhatIsDrawn_8 : decode cX11_sayWhatIsDrawn 8 = .ok (.getfield 156, 3) := by decide +kernel
theorem dX11_sayWhatIsDrawn_11 : decode cX11_sayWhatIsDrawn 11 = .ok (.getfield 188, 3) := by decide +kernel
theorem dX11_sayWhatIsDrawn_14 : decode cX11_sayWhatIsDrawn 14 = .ok (.invokevirtual 383, 3) := by decide +kernel
theorem dX11_sayWhatIsDrawn_17 : decode cX11_sayWhatIsDrawn 17 = .ok (.istore_n 1, 1) := by decide +kernel
theorem dX11_sayWhatIsDrawn_18 : decode cX11_sayWhatIsDrawn 18 = .ok (.aload_n 0, 1) := by decide +kernel
theorem dX11_sayWhatIsDrawn_19 : decode cX11_sayWhatIsDrawn 19 = .ok (.getfield 98, 3) := by decide +kernel
theorem dX11_sayWhatIsDrawn_22 : decode cX11_sayWhatIsDrawn 22 = .ok (.bipush 8, 2) := by decide +kernel
theorem dX11_sayWhatIsDrawn_24 : decode cX11_sayWhatIsDrawn 24 = .ok (.invokevirtual 383, 3) := by decide +kernel
theorem dX11_sayWhatIsDrawn_27 : decode cX11_sayWhatIsDrawn 27 = .ok (.istore_n 2, 1) := by decide +kernel
theorem dX11_sayWhatIsDrawn_28 : decode cX11_sayWhatIsDrawn 28 = .ok (.aload_n 0, 1) := by decide +kernel
theorem dX11_sayWhatIsDrawn_29 : decode cX11_sayWhatIsDrawn 29 = .ok (.getfield 98, 3) := by decide +kernel
theorem dX11_sayWhatIsDrawn_32 : decode cX11_sayWhatIsDrawn 32 = .ok (.bipush 40, 2) := by decide +kernel
theorem dX11_sayWhatIsDrawn_34 : decode cX11_sayWhatIsDrawn 34 = .ok (.invokevirtual 383, 3) := by decide +kernel
theorem dX11_sayWhatIsDrawn_37 : decode cX11_sayWhatIsDrawn 37 = .ok (.iconst 1, 1) := by decide +kernel
theorem dX11_sayWhatIsDrawn_38 : decode cX11_sayWhatIsDrawn 38 = .ok (.iadd, 1) := by decide +kernel
theorem dX11_sayWhatIsDrawn_39 : decode cX11_sayWhatIsDrawn 39 = .ok (.istore_n 3, 1) := by decide +kernel
theorem dX11_sayWhatIsDrawn_40 : decode cX11_sayWhatIsDrawn 40 = .ok (.aload_n 0, 1) := by decide +kernel
theorem dX11_sayWhatIsDrawn_41 : decode cX11_sayWhatIsDrawn 41 = .ok (.aload_n 0, 1) := by decide +kernel
theorem dX11_sayWhatIsDrawn_42 : decode cX11_sayWhatIsDrawn 42 = .ok (.getfield 68, 3) := by decide +kernel
theorem dX11_sayWhatIsDrawn_45 : decode cX11_sayWhatIsDrawn 45 = .ok (.iload_n 1, 1) := by decide +kernel
theorem dX11_sayWhatIsDrawn_46 : decode cX11_sayWhatIsDrawn 46 = .ok (.iload_n 2, 1) := by decide +kernel
theorem dX11_sayWhatIsDrawn_47 : decode cX11_sayWhatIsDrawn 47 = .ok (.iload_n 3, 1) := by decide +kernel
theorem dX11_sayWhatIsDrawn_48 : decode cX11_sayWhatIsDrawn 48 = .ok (.iconst 1, 1) := by decide +kernel
theorem dX11_sayWhatIsDrawn_49 : decode cX11_sayWhatIsDrawn 49 = .ok (.invokevirtual 197, 3) := by decide +kernel
theorem dX11_sayWhatIsDrawn_52 : decode cX11_sayWhatIsDrawn 52 = .ok (.ifCond .ne 11, 3) := by decide +kernel
theorem dX11_sayWhatIsDrawn_55 : decode cX11_sayWhatIsDrawn 55 = .ok (.aload_n 0, 1) := by decide +kernel
theorem dX11_sayWhatIsDrawn_56 : decode cX11_sayWhatIsDrawn 56 = .ok (.getfield 98, 3) := by decide +kernel
theorem dX11_sayWhatIsDrawn_59 : decode cX11_sayWhatIsDrawn 59 = .ok (.iload_n 1, 1) := by decide +kernel
theorem dX11_sayWhatIsDrawn_60 : decode cX11_sayWhatIsDrawn 60 = .ok (.invokevirtual 386, 3) := by decide +kernel
theorem dX11_sayWhatIsDrawn_63 : decode cX11_sayWhatIsDrawn 63 = .ok (.return_, 1) := by decide +kernel
theorem dX12_lies_0 : decode cX12_lies 0 = .ok (.iload_n 0, 1) := by decide +kernel
theorem dX12_lies_1 : decode cX12_lies 1 = .ok (.iload_n 1, 1) := by decide +kernel
theorem dX12_lies_2 : decode cX12_lies 2 = .ok (.if_icmp .lt 12, 3) := by decide +kernel
theorem dX12_lies_5 : decode cX12_lies 5 = .ok (.iload_n 0, 1) := by decide +kernel
theorem dX12_lies_6 : decode cX12_lies 6 = .ok (.iload_n 2, 1) := by decide +kernel
theorem dX12_lies_7 : decode cX12_lies 7 = .ok (.if_icmp .gt 7, 3) := by decide +kernel
theorem dX12_lies_10 : decode cX12_lies 10 = .ok (.iconst 1, 1) := by decide +kernel
theorem dX12_lies_11 : decode cX12_lies 11 = .ok (.goto 4, 3) := by decide +kernel
theorem dX12_lies_14 : decode cX12_lies 14 = .ok (.iconst 0, 1) := by decide +kernel
theorem dX12_lies_15 : decode cX12_lies 15 = .ok (.ireturn, 1) := by decide +kernel
theorem dX12_refuses_0 : decode cX12_refuses 0 = .ok (.aload_n 0, 1) := by decide +kernel
theorem dX12_refuses_1 : decode cX12_refuses 1 = .ok (.iload_n 1, 1) := by decide +kernel
theorem dX12_refuses_2 : decode cX12_refuses 2 = .ok (.putfield 3, 3) := by decide +kernel
theorem dX12_refuses_5 : decode cX12_refuses 5 = .ok (.aload_n 0, 1) := by decide +kernel
theorem dX12_refuses_6 : decode cX12_refuses 6 = .ok (.getfield 7, 3) := by decide +kernel
theorem dX12_refuses_9 : decode cX12_refuses 9 = .ok (.iload_n 1, 1) := by decide +kernel
theorem dX12_refuses_10 : decode cX12_refuses 10 = .ok (.ineg, 1) := by decide +kernel
theorem dX12_refuses_11 : decode cX12_refuses 11 = .ok (.dup2, 1) := by decide +kernel
theorem dX12_refuses_12 : decode cX12_refuses 12 = .ok (.iaload, 1) := by decide +kernel
theorem dX12_refuses_13 : decode cX12_refuses 13 = .ok (.iconst 1, 1) := by decide +kernel
theorem dX12_refuses_14 : decode cX12_refuses 14 = .ok (.iadd, 1) := by decide +kernel
theorem dX12_refuses_15 : decode cX12_refuses 15 = .ok (.iastore, 1) := by decide +kernel
theorem dX12_refuses_16 : decode cX12_refuses 16 = .ok (.iload_n 1, 1) := by decide +kernel
theorem dX12_refuses_17 : decode cX12_refuses 17 = .ok (.ireturn, 1) := by decide +kernel
theorem dX12_good_0 : decode cX12_good 0 = .ok (.aload_n 0, 1) := by decide +kernel
theorem dX12_good_1 : decode cX12_good 1 = .ok (.iconst 0, 1) := by decide +kernel
theorem dX12_good_2 : decode cX12_good 2 = .ok (.putfield 3, 3) := by decide +kernel
theorem dX12_good_5 : decode cX12_good 5 = .ok (.iload_n 1, 1) := by decide +kernel
theorem dX12_good_6 : decode cX12_good 6 = .ok (.ireturn, 1) := by decide +kernel
theorem dX12_settled_0 : decode cX12_settled 0 = .ok (.aload_n 0, 1) := by decide +kernel
theorem dX12_settled_1 : decode cX12_settled 1 = .ok (.iconst 0, 1) := by decide +kernel
theorem dX12_settled_2 : decode cX12_settled 2 = .ok (.putfield 11, 3) := by decide +kernel
theorem dX12_settled_5 : decode cX12_settled 5 = .ok (.aload_n 0, 1) := by decide +kernel
theorem dX12_settled_6 : decode cX12_settled 6 = .ok (.iload_n 1, 1) := by decide +kernel
theorem dX12_settled_7 : decode cX12_settled 7 = .ok (.invokevirtual 14, 3) := by decide +kernel
theorem dX12_settled_10 : decode cX12_settled 10 = .ok (.ireturn, 1) := by decide +kernel
theorem dX12_isIn_0 : decode cX12_isIn 0 = .ok (.iload_n 0, 1) := by decide +kernel
theorem dX12_isIn_1 : decode cX12_isIn 1 = .ok (.iload_n 1, 1) := by decide +kernel
theorem dX12_isIn_2 : decode cX12_isIn 2 = .ok (.ishr, 1) := by decide +kernel
theorem dX12_isIn_3 : decode cX12_isIn 3 = .ok (.iconst 1, 1) := by decide +kernel
theorem dX12_isIn_4 : decode cX12_isIn 4 = .ok (.iand, 1) := by decide +kernel
theorem dX12_isIn_5 : decode cX12_isIn 5 = .ok (.iconst 1, 1) := by decide +kernel
theorem dX12_isIn_6 : decode cX12_isIn 6 = .ok (.if_icmp .ne 7, 3) := by decide +kernel
theorem dX12_isIn_9 : decode cX12_isIn 9 = .ok (.iconst 1, 1) := by decide +kernel
theorem dX12_isIn_10 : decode cX12_isIn 10 = .ok (.goto 4, 3) := by decide +kernel
theorem dX12_isIn_13 : decode cX12_isIn 13 = .ok (.iconst 0, 1) := by decide +kernel
theorem dX12_isIn_14 : decode cX12_isIn 14 = .ok (.ireturn, 1) := by decide +kernel
theorem dX12_ones_0 : decode cX12_ones 0 = .ok (.iconst 0, 1) := by decide +kernel
theorem dX12_ones_1 : decode cX12_ones 1 = .ok (.istore_n 1, 1) := by decide +kernel
theorem dX12_ones_2 : decode cX12_ones 2 = .ok (.iconst 0, 1) := by decide +kernel
theorem dX12_ones_3 : decode cX12_ones 3 = .ok (.istore_n 2, 1) := by decide +kernel
theorem dX12_ones_4 : decode cX12_ones 4 = .ok (.iload_n 2, 1) := by decide +kernel
theorem dX12_ones_5 : decode cX12_ones 5 = .ok (.bipush 10, 2) := by decide +kernel
theorem dX12_ones_7 : decode cX12_ones 7 = .ok (.if_icmp .ge 17, 3) := by decide +kernel
theorem dX12_ones_10 : decode cX12_ones 10 = .ok (.iload_n 1, 1) := by decide +kernel
theorem dX12_ones_11 : decode cX12_ones 11 = .ok (.iload_n 0, 1) := by decide +kernel
theorem dX12_ones_12 : decode cX12_ones 12 = .ok (.iload_n 2, 1) := by decide +kernel
theorem dX12_ones_13 : decode cX12_ones 13 = .ok (.ishr, 1) := by decide +kernel
theorem dX12_ones_14 : decode cX12_ones 14 = .ok (.iconst 1, 1) := by decide +kernel
theorem dX12_ones_15 : decode cX12_ones 15 = .ok (.iand, 1) := by decide +kernel
theorem dX12_ones_16 : decode cX12_ones 16 = .ok (.iadd, 1) := by decide +kernel
theorem dX12_ones_17 : decode cX12_ones 17 = .ok (.istore_n 1, 1) := by decide +kernel
theorem dX12_ones_18 : decode cX12_ones 18 = .ok (.iinc 2 1, 3) := by decide +kernel
theorem dX12_ones_21 : decode cX12_ones 21 = .ok (.goto (-17), 3) := by decide +kernel
theorem dX12_ones_24 : decode cX12_ones 24 = .ok (.iload_n 1, 1) := by decide +kernel
theorem dX12_ones_25 : decode cX12_ones 25 = .ok (.ireturn, 1) := by decide +kernel
theorem dX12_init_0 : decode cX12_init 0 = .ok (.aload_n 0, 1) := by decide +kernel
theorem dX12_init_1 : decode cX12_init 1 = .ok (.invokespecial 18, 3) := by decide +kernel
theorem dX12_init_4 : decode cX12_init 4 = .ok (.aload_n 0, 1) := by decide +kernel
theorem dX12_init_5 : decode cX12_init 5 = .ok (.bipush 7, 2) := by decide +kernel
theorem dX12_init_7 : decode cX12_init 7 = .ok (.newarray .int, 2) := by decide +kernel
theorem dX12_init_9 : decode cX12_init 9 = .ok (.putfield 7, 3) := by decide +kernel
theorem dX12_init_12 : decode cX12_init 12 = .ok (.aload_n 0, 1) := by decide +kernel
theorem dX12_init_13 : decode cX12_init 13 = .ok (.sipush 5977, 3) := by decide +kernel
theorem dX12_init_16 : decode cX12_init 16 = .ok (.newarray .int, 2) := by decide +kernel
theorem dX12_init_18 : decode cX12_init 18 = .ok (.putfield 24, 3) := by decide +kernel
theorem dX12_init_21 : decode cX12_init 21 = .ok (.aload_n 0, 1) := by decide +kernel
theorem dX12_init_22 : decode cX12_init 22 = .ok (.sipush 11954, 3) := by decide +kernel
theorem dX12_init_25 : decode cX12_init 25 = .ok (.newarray .int, 2) := by decide +kernel
theorem dX12_init_27 : decode cX12_init 27 = .ok (.putfield 27, 3) := by decide +kernel
theorem dX12_init_30 : decode cX12_init 30 = .ok (.aload_n 0, 1) := by decide +kernel
theorem dX12_init_31 : decode cX12_init 31 = .ok (.iconst 2, 1) := by decide +kernel
theorem dX12_init_32 : decode cX12_init 32 = .ok (.newarray .boolean, 2) := by decide +kernel
theorem dX12_init_34 : decode cX12_init 34 = .ok (.putfield 30, 3) := by decide +kernel
theorem dX12_init_37 : decode cX12_init 37 = .ok (.aload_n 0, 1) := by decide +kernel
theorem dX12_init_38 : decode cX12_init 38 = .ok (.sipush 340, 3) := by decide +kernel
theorem dX12_init_41 : decode cX12_init 41 = .ok (.newarray .int, 2) := by decide +kernel
theorem dX12_init_43 : decode cX12_init 43 = .ok (.putfield 34, 3) := by decide +kernel
theorem dX12_init_46 : decode cX12_init 46 = .ok (.aload_n 0, 1) := by decide +kernel
theorem dX12_init_47 : decode cX12_init 47 = .ok (.sipush 133, 3) := by decide +kernel
theorem dX12_init_50 : decode cX12_init 50 = .ok (.newarray .byte, 2) := by decide +kernel
theorem dX12_init_52 : decode cX12_init 52 = .ok (.dup, 1) := by decide +kernel
theorem dX12_init_53 : decode cX12_init 53 = .ok (.iconst 0, 1) := by decide +kernel
theorem dX12_init_54 : decode cX12_init 54 = .ok (.bipush 114, 2) := by decide +kernel
theorem dX12_init_56 : decode cX12_init 56 = .ok (.bastore, 1) := by decide +kernel
theorem dX12_init_57 : decode cX12_init 57 = .ok (.dup, 1) := by decide +kernel
theorem dX12_init_58 : decode cX12_init 58 = .ok (.iconst 1, 1) := by decide +kernel
