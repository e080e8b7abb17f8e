/-! decode rows -/
theorem dX8_begin_31 : decode cX8_begin 31 = .ok (.iload 4, 2) := by decide +kernel
theorem dX8_begin_33 : decode cX8_begin 33 = .ok (.iconst 3, 1) := by decide +kernel
theorem dX8_begin_34 : decode cX8_begin 34 = .ok (.if_icmp .gt 20, 3) := by decide +kernel
theorem dX8_begin_37 : decode cX8_begin 37 = .ok (.aload_n 0, 1) := by decide +kernel
theorem dX8_begin_38 : decode cX8_begin 38 = .ok (.getfield 14, 3) := by decide +kernel
theorem dX8_begin_41 : decode cX8_begin 41 = .ok (.iload_n 3, 1) := by decide +kernel
theorem dX8_begin_42 : decode cX8_begin 42 = .ok (.iload 4, 2) := by decide +kernel
theorem dX8_begin_44 : decode cX8_begin 44 = .ok (.iconst 0, 1) := by decide +kernel
theorem dX8_begin_45 : decode cX8_begin 45 = .ok (.invokevirtual 32, 3) := by decide +kernel
theorem dX8_begin_48 : decode cX8_begin 48 = .ok (.iinc 4 1, 3) := by decide +kernel
theorem dX8_begin_51 : decode cX8_begin 51 = .ok (.goto (-20), 3) := by decide +kernel
theorem dX8_begin_54 : decode cX8_begin 54 = .ok (.iinc 3 1, 3) := by decide +kernel
theorem dX8_begin_57 : decode cX8_begin 57 = .ok (.goto (-42), 3) := by decide +kernel
theorem dX8_begin_60 : decode cX8_begin 60 = .ok (.return_, 1) := by decide +kernel
theorem dX8_draw_0 : decode cX8_draw 0 = .ok (.aload_n 0, 1) := by decide +kernel
theorem dX8_draw_1 : decode cX8_draw 1 = .ok (.aload_n 0, 1) := by decide +kernel
theorem dX8_draw_2 : decode cX8_draw 2 = .ok (.getfield 20, 3) := by decide +kernel
theorem dX8_draw_5 : decode cX8_draw 5 = .ok (.sipush 1103, 3) := by decide +kernel
theorem dX8_draw_8 : decode cX8_draw 8 = .ok (.imul, 1) := by decide +kernel
theorem dX8_draw_9 : decode cX8_draw 9 = .ok (.sipush 12345, 3) := by decide +kernel
theorem dX8_draw_12 : decode cX8_draw 12 = .ok (.iadd, 1) := by decide +kernel
theorem dX8_draw_13 : decode cX8_draw 13 = .ok (.ldc 36, 2) := by decide +kernel
theorem dX8_draw_15 : decode cX8_draw 15 = .ok (.irem, 1) := by decide +kernel
theorem dX8_draw_16 : decode cX8_draw 16 = .ok (.putfield 20, 3) := by decide +kernel
theorem dX8_draw_19 : decode cX8_draw 19 = .ok (.iload_n 1, 1) := by decide +kernel
theorem dX8_draw_20 : decode cX8_draw 20 = .ok (.ifCond .le 12, 3) := by decide +kernel
theorem dX8_draw_23 : decode cX8_draw 23 = .ok (.aload_n 0, 1) := by decide +kernel
theorem dX8_draw_24 : decode cX8_draw 24 = .ok (.getfield 20, 3) := by decide +kernel
theorem dX8_draw_27 : decode cX8_draw 27 = .ok (.iload_n 1, 1) := by decide +kernel
theorem dX8_draw_28 : decode cX8_draw 28 = .ok (.irem, 1) := by decide +kernel
theorem dX8_draw_29 : decode cX8_draw 29 = .ok (.goto 4, 3) := by decide +kernel
theorem dX8_draw_32 : decode cX8_draw 32 = .ok (.iconst 0, 1) := by decide +kernel
theorem dX8_draw_33 : decode cX8_draw 33 = .ok (.ireturn, 1) := by decide +kernel
theorem dX8_noteSaid_0 : decode cX8_noteSaid 0 = .ok (.aload_n 0, 1) := by decide +kernel
theorem dX8_noteSaid_1 : decode cX8_noteSaid 1 = .ok (.iload_n 1, 1) := by decide +kernel
theorem dX8_noteSaid_2 : decode cX8_noteSaid 2 = .ok (.iconst 0, 1) := by decide +kernel
theorem dX8_noteSaid_3 : decode cX8_noteSaid 3 = .ok (.invokevirtual 37, 3) := by decide +kernel
theorem dX8_noteSaid_6 : decode cX8_noteSaid 6 = .ok (.return_, 1) := by decide +kernel
theorem dX8_noteStanding_0 : decode cX8_noteStanding 0 = .ok (.iconst 0, 1) := by decide +kernel
theorem dX8_noteStanding_1 : decode cX8_noteStanding 1 = .ok (.istore_n 2, 1) := by decide +kernel
theorem dX8_noteStanding_2 : decode cX8_noteStanding 2 = .ok (.iload_n 2, 1) := by decide +kernel
theorem dX8_noteStanding_3 : decode cX8_noteStanding 3 = .ok (.aload_n 1, 1) := by decide +kernel
theorem dX8_noteStanding_4 : decode cX8_noteStanding 4 = .ok (.getfield 40, 3) := by decide +kernel
theorem dX8_noteStanding_7 : decode cX8_noteStanding 7 = .ok (.getfield 45, 3) := by decide +kernel
theorem dX8_noteStanding_10 : decode cX8_noteStanding 10 = .ok (.if_icmp .ge 41, 3) := by decide +kernel
theorem dX8_noteStanding_13 : decode cX8_noteStanding 13 = .ok (.aload_n 1, 1) := by decide +kernel
theorem dX8_noteStanding_14 : decode cX8_noteStanding 14 = .ok (.getfield 40, 3) := by decide +kernel
theorem dX8_noteStanding_17 : decode cX8_noteStanding 17 = .ok (.iload_n 2, 1) := by decide +kernel
theorem dX8_noteStanding_18 : decode cX8_noteStanding 18 = .ok (.iconst 5, 1) := by decide +kernel
theorem dX8_noteStanding_19 : decode cX8_noteStanding 19 = .ok (.invokevirtual 48, 3) := by decide +kernel
theorem dX8_noteStanding_22 : decode cX8_noteStanding 22 = .ok (.istore_n 3, 1) := by decide +kernel
theorem dX8_noteStanding_23 : decode cX8_noteStanding 23 = .ok (.aload_n 0, 1) := by decide +kernel
theorem dX8_noteStanding_24 : decode cX8_noteStanding 24 = .ok (.aload_n 1, 1) := by decide +kernel
theorem dX8_noteStanding_25 : decode cX8_noteStanding 25 = .ok (.getfield 40, 3) := by decide +kernel
theorem dX8_noteStanding_28 : decode cX8_noteStanding 28 = .ok (.iload_n 2, 1) := by decide +kernel
theorem dX8_noteStanding_29 : decode cX8_noteStanding 29 = .ok (.iconst 0, 1) := by decide +kernel
theorem dX8_noteStanding_30 : decode cX8_noteStanding 30 = .ok (.invokevirtual 48, 3) := by decide +kernel
theorem dX8_noteStanding_33 : decode cX8_noteStanding 33 = .ok (.iload_n 3, 1) := by decide +kernel
theorem dX8_noteStanding_34 : decode cX8_noteStanding 34 = .ok (.ifCond .ne 7, 3) := by decide +kernel
theorem dX8_noteStanding_37 : decode cX8_noteStanding 37 = .ok (.iconst 3, 1) := by decide +kernel
theorem dX8_noteStanding_38 : decode cX8_noteStanding 38 = .ok (.goto 4, 3) := by decide +kernel
theorem dX8_noteStanding_41 : decode cX8_noteStanding 41 = .ok (.iload_n 3, 1) := by decide +kernel
theorem dX8_noteStanding_42 : decode cX8_noteStanding 42 = .ok (.invokevirtual 37, 3) := by decide +kernel
theorem dX8_noteStanding_45 : decode cX8_noteStanding 45 = .ok (.iinc 2 1, 3) := by decide +kernel
theorem dX8_noteStanding_48 : decode cX8_noteStanding 48 = .ok (.goto (-46), 3) := by decide +kernel
theorem dX8_noteStanding_51 : decode cX8_noteStanding 51 = .ok (.return_, 1) := by decide +kernel
theorem dX8_add_0 : decode cX8_add 0 = .ok (.aload_n 0, 1) := by decide +kernel
theorem dX8_add_1 : decode cX8_add 1 = .ok (.getfield 14, 3) := by decide +kernel
theorem dX8_add_4 : decode cX8_add 4 = .ok (.iload_n 1, 1) := by decide +kernel
theorem dX8_add_5 : decode cX8_add 5 = .ok (.iload_n 2, 1) := by decide +kernel
theorem dX8_add_6 : decode cX8_add 6 = .ok (.aload_n 0, 1) := by decide +kernel
theorem dX8_add_7 : decode cX8_add 7 = .ok (.getfield 14, 3) := by decide +kernel
theorem dX8_add_10 : decode cX8_add 10 = .ok (.iload_n 1, 1) := by decide +kernel
theorem dX8_add_11 : decode cX8_add 11 = .ok (.iload_n 2, 1) := by decide +kernel
theorem dX8_add_12 : decode cX8_add 12 = .ok (.invokevirtual 48, 3) := by decide +kernel
theorem dX8_add_15 : decode cX8_add 15 = .ok (.iconst 1, 1) := by decide +kernel
theorem dX8_add_16 : decode cX8_add 16 = .ok (.iadd, 1) := by decide +kernel
theorem dX8_add_17 : decode cX8_add 17 = .ok (.invokevirtual 32, 3) := by decide +kernel
theorem dX8_add_20 : decode cX8_add 20 = .ok (.return_, 1) := by decide +kernel
theorem dX8_tally_0 : decode cX8_tally 0 = .ok (.aload_n 0, 1) := by decide +kernel
theorem dX8_tally_1 : decode cX8_tally 1 = .ok (.getfield 14, 3) := by decide +kernel
theorem dX8_tally_4 : decode cX8_tally 4 = .ok (.iload_n 1, 1) := by decide +kernel
theorem dX8_tally_5 : decode cX8_tally 5 = .ok (.iload_n 2, 1) := by decide +kernel
theorem dX8_tally_6 : decode cX8_tally 6 = .ok (.invokevirtual 48, 3) := by decide +kernel
theorem dX8_tally_9 : decode cX8_tally 9 = .ok (.ireturn, 1) := by decide +kernel
theorem dX9_init_0 : decode cX9_init 0 = .ok (.aload_n 0, 1) := by decide +kernel
theorem dX9_init_1 : decode cX9_init 1 = .ok (.invokespecial 3, 3) := by decide +kernel
theorem dX9_init_4 : decode cX9_init 4 = .ok (.aload_n 0, 1) := by decide +kernel
theorem dX9_init_5 : decode cX9_init 5 = .ok (.new 9, 3) := by decide +kernel
theorem dX9_init_8 : decode cX9_init 8 = .ok (.dup, 1) := by decide +kernel
theorem dX9_init_9 : decode cX9_init 9 = .ok (.bipush 24, 2) := by decide +kernel
theorem dX9_init_11 : decode cX9_init 11 = .ok (.bipush 7, 2) := by decide +kernel
theorem dX9_init_13 : decode cX9_init 13 = .ok (.invokespecial 13, 3) := by decide +kernel
theorem dX9_init_16 : decode cX9_init 16 = .ok (.putfield 16, 3) := by decide +kernel
theorem dX9_init_19 : decode cX9_init 19 = .ok (.return_, 1) := by decide +kernel
theorem dX9_waits_0 : decode cX9_waits 0 = .ok (.aload_n 0, 1) := by decide +kernel
theorem dX9_waits_1 : decode cX9_waits 1 = .ok (.getfield 16, 3) := by decide +kernel
theorem dX9_waits_4 : decode cX9_waits 4 = .ok (.iload_n 1, 1) := by decide +kernel
theorem dX9_waits_5 : decode cX9_waits 5 = .ok (.iconst 5, 1) := by decide +kernel
theorem dX9_waits_6 : decode cX9_waits 6 = .ok (.invokevirtual 20, 3) := by decide +kernel
theorem dX9_waits_9 : decode cX9_waits 9 = .ok (.ifCond .ne 7, 3) := by decide +kernel
theorem dX9_waits_12 : decode cX9_waits 12 = .ok (.iconst 1, 1) := by decide +kernel
theorem dX9_waits_13 : decode cX9_waits 13 = .ok (.goto 4, 3) := by decide +kernel
theorem dX9_waits_16 : decode cX9_waits 16 = .ok (.iconst 0, 1) := by decide +kernel
theorem dX9_waits_17 : decode cX9_waits 17 = .ok (.ireturn, 1) := by decide +kernel
theorem dX9_waiting_0 : decode cX9_waiting 0 = .ok (.iconst 0, 1) := by decide +kernel
theorem dX9_waiting_1 : decode cX9_waiting 1 = .ok (.istore_n 1, 1) := by decide +kernel
theorem dX9_waiting_2 : decode cX9_waiting 2 = .ok (.iconst 0, 1) := by decide +kernel
theorem dX9_waiting_3 : decode cX9_waiting 3 = .ok (.istore_n 2, 1) := by decide +kernel
theorem dX9_waiting_4 : decode cX9_waiting 4 = .ok (.iload_n 2, 1) := by decide +kernel
theorem dX9_waiting_5 : decode cX9_waiting 5 = .ok (.aload_n 0, 1) := by decide +kernel
theorem dX9_waiting_6 : decode cX9_waiting 6 = .ok (.getfield 16, 3) := by decide +kernel
theorem dX9_waiting_9 : decode cX9_waiting 9 = .ok (.getfield 24, 3) := by decide +kernel
theorem dX9_waiting_12 : decode cX9_waiting 12 = .ok (.if_icmp .ge 20, 3) := by decide +kernel
theorem dX9_waiting_15 : decode cX9_waiting 15 = .ok (.aload_n 0, 1) := by decide +kernel
theorem dX9_waiting_16 : decode cX9_waiting 16 = .ok (.iload_n 2, 1) := by decide +kernel
theorem dX9_waiting_17 : decode cX9_waiting 17 = .ok (.invokevirtual 28, 3) := by decide +kernel
theorem dX9_waiting_20 : decode cX9_waiting 20 = .ok (.ifCond .eq 6, 3) := by decide +kernel
theorem dX9_waiting_23 : decode cX9_waiting 23 = .ok (.iinc 1 1, 3) := by decide +kernel
theorem dX9_waiting_26 : decode cX9_waiting 26 = .ok (.iinc 2 1, 3) := by decide +kernel
theorem dX9_waiting_29 : decode cX9_waiting 29 = .ok (.goto (-25), 3) := by decide +kernel
theorem dX9_waiting_32 : decode cX9_waiting 32 = .ok (.iload_n 1, 1) := by decide +kernel
theorem dX9_waiting_33 : decode cX9_waiting 33 = .ok (.ireturn, 1) := by decide +kernel
theorem dX9_grantedFor_0 : decode cX9_grantedFor 0 = .ok (.iconst 0, 1) := by decide +kernel
theorem dX9_grantedFor_1 : decode cX9_grantedFor 1 = .ok (.istore_n 2, 1) := by decide +kernel
theorem dX9_grantedFor_2 : decode cX9_grantedFor 2 = .ok (.iconst 0, 1) := by decide +kernel
theorem dX9_grantedFor_3 : decode cX9_grantedFor 3 = .ok (.istore_n 3, 1) := by decide +kernel
theorem dX9_grantedFor_4 : decode cX9_grantedFor 4 = .ok (.iload_n 3, 1) := by decide +kernel
theorem dX9_grantedFor_5 : decode cX9_grantedFor 5 = .ok (.aload_n 0, 1) := by decide +kernel
theorem dX9_grantedFor_6 : decode cX9_grantedFor 6 = .ok (.getfield 16, 3) := by decide +kernel
theorem dX9_grantedFor_9 : decode cX9_grantedFor 9 = .ok (.getfield 24, 3) := by decide +kernel
theorem dX9_grantedFor_12 : decode cX9_grantedFor 12 = .ok (.if_icmp .ge 38, 3) := by decide +kernel
theorem dX9_grantedFor_15 : decode cX9_grantedFor 15 = .ok (.aload_n 0, 1) := by decide +kernel
theorem dX9_grantedFor_16 : decode cX9_grantedFor 16 = .ok (.getfield 16, 3) := by decide +kernel
theorem dX9_grantedFor_19 : decode cX9_grantedFor 19 = .ok (.iload_n 3, 1) := by decide +kernel
theorem dX9_grantedFor_20 : decode cX9_grantedFor 20 = .ok (.iconst 5, 1) := by decide +kernel
theorem dX9_grantedFor_21 : decode cX9_grantedFor 21 = .ok (.invokevirtual 20, 3) := by decide +kernel
theorem dX9_grantedFor_24 : decode cX9_grantedFor 24 = .ok (.iconst 1, 1) := by decide +kernel
theorem dX9_grantedFor_25 : decode cX9_grantedFor 25 = .ok (.if_icmp .ne 19, 3) := by decide +kernel
theorem dX9_grantedFor_28 : decode cX9_grantedFor 28 = .ok (.aload_n 0, 1) := by decide +kernel
theorem dX9_grantedFor_29 : decode cX9_grantedFor 29 = .ok (.getfield 16, 3) := by decide +kernel
theorem dX9_grantedFor_32 : decode cX9_grantedFor 32 = .ok (.iload_n 3, 1) := by decide +kernel
theorem dX9_grantedFor_33 : decode cX9_grantedFor 33 = .ok (.iconst 1, 1) := by decide +kernel
theorem dX9_grantedFor_34 : decode cX9_grantedFor 34 = .ok (.invokevirtual 20, 3) := by decide +kernel
theorem dX9_grantedFor_37 : decode cX9_grantedFor 37 = .ok (.iload_n 1, 1) := by decide +kernel
theorem dX9_grantedFor_38 : decode cX9_grantedFor 38 = .ok (.if_icmp .ne 6, 3) := by decide +kernel
theorem dX9_grantedFor_41 : decode cX9_grantedFor 41 = .ok (.iinc 2 1, 3) := by decide +kernel
theorem dX9_grantedFor_44 : decode cX9_grantedFor 44 = .ok (.iinc 3 1, 3) := by decide +kernel
theorem dX9_grantedFor_47 : decode cX9_grantedFor 47 = .ok (.goto (-43), 3) := by decide +kernel
theorem dX9_grantedFor_50 : decode cX9_grantedFor 50 = .ok (.iload_n 2, 1) := by decide +kernel
theorem dX9_grantedFor_51 : decode cX9_grantedFor 51 = .ok (.ireturn, 1) := by decide +kernel
theorem dX9_utter_0 : decode cX9_utter 0 = .ok (.aload_n 0, 1) := by decide +kernel
theorem dX9_utter_1 : decode cX9_utter 1 = .ok (.getfield 16, 3) := by decide +kernel
theorem dX9_utter_4 : decode cX9_utter 4 = .ok (.invokevirtual 32, 3) := by decide +kernel
theorem dX9_utter_7 : decode cX9_utter 7 = .ok (.istore 5, 2) := by decide +kernel
theorem dX9_utter_9 : decode cX9_utter 9 = .ok (.aload_n 0, 1) := by decide +kernel
theorem dX9_utter_10 : decode cX9_utter 10 = .ok (.getfield 16, 3) := by decide +kernel
theorem dX9_utter_13 : decode cX9_utter 13 = .ok (.iload 5, 2) := by decide +kernel
theorem dX9_utter_15 : decode cX9_utter 15 = .ok (.iconst 0, 1) := by decide +kernel
theorem dX9_utter_16 : decode cX9_utter 16 = .ok (.iload_n 1, 1) := by decide +kernel
theorem dX9_utter_17 : decode cX9_utter 17 = .ok (.invokevirtual 36, 3) := by decide +kernel
theorem dX9_utter_20 : decode cX9_utter 20 = .ok (.aload_n 0, 1) := by decide +kernel
theorem dX9_utter_21 : decode cX9_utter 21 = .ok (.getfield 16, 3) := by decide +kernel
theorem dX9_utter_24 : decode cX9_utter 24 = .ok (.iload 5, 2) := by decide +kernel
theorem dX9_utter_26 : decode cX9_utter 26 = .ok (.iconst 1, 1) := by decide +kernel
theorem dX9_utter_27 : decode cX9_utter 27 = .ok (.iload_n 2, 1) := by decide +kernel
theorem dX9_utter_28 : decode cX9_utter 28 = .ok (.invokevirtual 36, 3) := by decide +kernel
theorem dX9_utter_31 : decode cX9_utter 31 = .ok (.aload_n 0, 1) := by decide +kernel
theorem dX9_utter_32 : decode cX9_utter 32 = .ok (.getfield 16, 3) := by decide +kernel
theorem dX9_utter_35 : decode cX9_utter 35 = .ok (.iload 5, 2) := by decide +kernel
theorem dX9_utter_37 : decode cX9_utter 37 = .ok (.iconst 2, 1) := by decide +kernel
theorem dX9_utter_38 : decode cX9_utter 38 = .ok (.iload_n 3, 1) := by decide +kernel
theorem dX9_utter_39 : decode cX9_utter 39 = .ok (.invokevirtual 36, 3) := by decide +kernel
theorem dX9_utter_42 : decode cX9_utter 42 = .ok (.aload_n 0, 1) := by decide +kernel
theorem dX9_utter_43 : decode cX9_utter 43 = .ok (.getfield 16, 3) := by decide +kernel
theorem dX9_utter_46 : decode cX9_utter 46 = .ok (.iload 5, 2) := by decide +kernel
theorem dX9_utter_48 : decode cX9_utter 48 = .ok (.iconst 3, 1) := by decide +kernel
theorem dX9_utter_49 : decode cX9_utter 49 = .ok (.iload 4, 2) := by decide +kernel
theorem dX9_utter_51 : decode cX9_utter 51 = .ok (.invokevirtual 36, 3) := by decide +kernel
theorem dX9_utter_54 : decode cX9_utter 54 = .ok (.aload_n 0, 1) := by decide +kernel
theorem dX9_utter_55 : decode cX9_utter 55 = .ok (.getfield 16, 3) := by decide +kernel
theorem dX9_utter_58 : decode cX9_utter 58 = .ok (.iload 5, 2) := by decide +kernel
theorem dX9_utter_60 : decode cX9_utter 60 = .ok (.iconst 4, 1) := by decide +kernel
theorem dX9_utter_61 : decode cX9_utter 61 = .ok (.aload_n 0, 1) := by decide +kernel
theorem dX9_utter_62 : decode cX9_utter 62 = .ok (.getfield 40, 3) := by decide +kernel
theorem dX9_utter_65 : decode cX9_utter 65 = .ok (.invokevirtual 36, 3) := by decide +kernel
theorem dX9_utter_68 : decode cX9_utter 68 = .ok (.aload_n 0, 1) := by decide +kernel
theorem dX9_utter_69 : decode cX9_utter 69 = .ok (.getfield 16, 3) := by decide +kernel
theorem dX9_utter_72 : decode cX9_utter 72 = .ok (.iload 5, 2) := by decide +kernel
theorem dX9_utter_74 : decode cX9_utter 74 = .ok (.iconst 5, 1) := by decide +kernel
theorem dX9_utter_75 : decode cX9_utter 75 = .ok (.iconst 0, 1) := by decide +kernel
theorem dX9_utter_76 : decode cX9_utter 76 = .ok (.invokevirtual 36, 3) := by decide +kernel
theorem dX9_utter_79 : decode cX9_utter 79 = .ok (.aload_n 0, 1) := by decide +kernel
theorem dX9_utter_80 : decode cX9_utter 80 = .ok (.getfield 16, 3) := by decide +kernel
theorem dX9_utter_83 : decode cX9_utter 83 = .ok (.iload 5, 2) := by decide +kernel
theorem dX9_utter_85 : decode cX9_utter 85 = .ok (.bipush 6, 2) := by decide +kernel
theorem dX9_utter_87 : decode cX9_utter 87 = .ok (.iconst (-1), 1) := by decide +kernel
theorem dX9_utter_88 : decode cX9_utter 88 = .ok (.invokevirtual 36, 3) := by decide +kernel
theorem dX9_utter_91 : decode cX9_utter 91 = .ok (.iload 5, 2) := by decide +kernel
theorem dX9_utter_93 : decode cX9_utter 93 = .ok (.ireturn, 1) := by decide +kernel
theorem dX9_takeBackDawn_0 : decode cX9_takeBackDawn 0 = .ok (.iconst 0, 1) := by decide +kernel
theorem dX9_takeBackDawn_1 : decode cX9_takeBackDawn 1 = .ok (.istore_n 2, 1) := by decide +kernel
theorem dX9_takeBackDawn_2 : decode cX9_takeBackDawn 2 = .ok (.iload_n 2, 1) := by decide +kernel
theorem dX9_takeBackDawn_3 : decode cX9_takeBackDawn 3 = .ok (.aload_n 0, 1) := by decide +kernel
theorem dX9_takeBackDawn_4 : decode cX9_takeBackDawn 4 = .ok (.getfield 16, 3) := by decide +kernel
theorem dX9_takeBackDawn_7 : decode cX9_takeBackDawn 7 = .ok (.getfield 24, 3) := by decide +kernel
theorem dX9_takeBackDawn_10 : decode cX9_takeBackDawn 10 = .ok (.if_icmp .ge 39, 3) := by decide +kernel
theorem dX9_takeBackDawn_13 : decode cX9_takeBackDawn 13 = .ok (.iload_n 1, 1) := by decide +kernel
theorem dX9_takeBackDawn_14 : decode cX9_takeBackDawn 14 = .ok (.iload_n 2, 1) := by decide +kernel
theorem dX9_takeBackDawn_15 : decode cX9_takeBackDawn 15 = .ok (.ishr, 1) := by decide +kernel
theorem dX9_takeBackDawn_16 : decode cX9_takeBackDawn 16 = .ok (.iconst 1, 1) := by decide +kernel
theorem dX9_takeBackDawn_17 : decode cX9_takeBackDawn 17 = .ok (.iand, 1) := by decide +kernel
theorem dX9_takeBackDawn_18 : decode cX9_takeBackDawn 18 = .ok (.iconst 1, 1) := by decide +kernel
theorem dX9_takeBackDawn_19 : decode cX9_takeBackDawn 19 = .ok (.if_icmp .ne 24, 3) := by decide +kernel
theorem dX9_takeBackDawn_22 : decode cX9_takeBackDawn 22 = .ok (.aload_n 0, 1) := by decide +kernel
theorem dX9_takeBackDawn_23 : decode cX9_takeBackDawn 23 = .ok (.getfield 16, 3) := by decide +kernel
theorem dX9_takeBackDawn_26 : decode cX9_takeBackDawn 26 = .ok (.iload_n 2, 1) := by decide +kernel
theorem dX9_takeBackDawn_27 : decode cX9_takeBackDawn 27 = .ok (.iconst 5, 1) := by decide +kernel
theorem dX9_takeBackDawn_28 : decode cX9_takeBackDawn 28 = .ok (.iconst 0, 1) := by decide +kernel
theorem dX9_takeBackDawn_29 : decode cX9_takeBackDawn 29 = .ok (.invokevirtual 36, 3) := by decide +kernel
theorem dX9_takeBackDawn_32 : decode cX9_takeBackDawn 32 = .ok (.aload_n 0, 1) := by decide +kernel
theorem dX9_takeBackDawn_33 : decode cX9_takeBackDawn 33 = .ok (.getfield 16, 3) := by decide +kernel
theorem dX9_takeBackDawn_36 : decode cX9_takeBackDawn 36 = .ok (.iload_n 2, 1) := by decide +kernel
theorem dX9_takeBackDawn_37 : decode cX9_takeBackDawn 37 = .ok (.bipush 6, 2) := by decide +kernel
theorem dX9_takeBackDawn_39 : decode cX9_takeBackDawn 39 = .ok (.iconst (-1), 1) := by decide +kernel
theorem dX9_takeBackDawn_40 : decode cX9_takeBackDawn 40 = .ok (.invokevirtual 36, 3) := by decide +kernel
theorem dX9_takeBackDawn_43 : decode cX9_takeBackDawn 43 = .ok (.iinc 2 1, 3) := by decide +kernel
theorem dX9_takeBackDawn_46 : decode cX9_takeBackDawn 46 = .ok (.goto (-44), 3) := by decide +kernel
theorem dX9_takeBackDawn_49 : decode cX9_takeBackDawn 49 = .ok (.aload_n 0, 1) := by decide +kernel
theorem dX9_takeBackDawn_50 : decode cX9_takeBackDawn 50 = .ok (.dup, 1) := by decide +kernel
theorem dX9_takeBackDawn_51 : decode cX9_takeBackDawn 51 = .ok (.getfield 40, 3) := by decide +kernel
theorem dX9_takeBackDawn_54 : decode cX9_takeBackDawn 54 = .ok (.iconst 1, 1) := by decide +kernel
theorem dX9_takeBackDawn_55 : decode cX9_takeBackDawn 55 = .ok (.isub, 1) := by decide +kernel
theorem dX9_takeBackDawn_56 : decode cX9_takeBackDawn 56 = .ok (.putfield 40, 3) := by decide +kernel
theorem dX9_takeBackDawn_59 : decode cX9_takeBackDawn 59 = .ok (.return_, 1) := by decide +kernel
theorem dX9_dropHeard_0 : decode cX9_dropHeard 0 = .ok (.iconst 0, 1) := by decide +kernel
theorem dX9_dropHeard_1 : decode cX9_dropHeard 1 = .ok (.istore_n 1, 1) := by decide +kernel
theorem dX9_dropHeard_2 : decode cX9_dropHeard 2 = .ok (.iconst 0, 1) := by decide +kernel
theorem dX9_dropHeard_3 : decode cX9_dropHeard 3 = .ok (.istore_n 2, 1) := by decide +kernel
theorem dX9_dropHeard_4 : decode cX9_dropHeard 4 = .ok (.iload_n 2, 1) := by decide +kernel
theorem dX9_dropHeard_5 : decode cX9_dropHeard 5 = .ok (.aload_n 0, 1) := by decide +kernel
theorem dX9_dropHeard_6 : decode cX9_dropHeard 6 = .ok (.getfield 16, 3) := by decide +kernel
theorem dX9_dropHeard_9 : decode cX9_dropHeard 9 = .ok (.getfield 24, 3) := by decide +kernel
theorem dX9_dropHeard_12 : decode cX9_dropHeard 12 = .ok (.if_icmp .ge 29, 3) := by decide +kernel
theorem dX9_dropHeard_15 : decode cX9_dropHeard 15 = .ok (.aload_n 0, 1) := by decide +kernel
theorem dX9_dropHeard_16 : decode cX9_dropHeard 16 = .ok (.iload_n 2, 1) := by decide +kernel
theorem dX9_dropHeard_17 : decode cX9_dropHeard 17 = .ok (.invokevirtual 28, 3) := by decide +kernel
theorem dX9_dropHeard_20 : decode cX9_dropHeard 20 = .ok (.ifCond .eq 15, 3) := by decide +kernel
theorem dX9_dropHeard_23 : decode cX9_dropHeard 23 = .ok (.aload_n 0, 1) := by decide +kernel
theorem dX9_dropHeard_24 : decode cX9_dropHeard 24 = .ok (.getfield 16, 3) := by decide +kernel
theorem dX9_dropHeard_27 : decode cX9_dropHeard 27 = .ok (.iload_n 2, 1) := by decide +kernel
theorem dX9_dropHeard_28 : decode cX9_dropHeard 28 = .ok (.iload_n 1, 1) := by decide +kernel
theorem dX9_dropHeard_29 : decode cX9_dropHeard 29 = .ok (.invokevirtual 43, 3) := by decide +kernel
theorem dX9_dropHeard_32 : decode cX9_dropHeard 32 = .ok (.iinc 1 1, 3) := by decide +kernel
theorem dX9_dropHeard_35 : decode cX9_dropHeard 35 = .ok (.iinc 2 1, 3) := by decide +kernel
theorem dX9_dropHeard_38 : decode cX9_dropHeard 38 = .ok (.goto (-34), 3) := by decide +kernel
theorem dX9_dropHeard_41 : decode cX9_dropHeard 41 = .ok (.aload_n 0, 1) := by decide +kernel
theorem dX9_dropHeard_42 : decode cX9_dropHeard 42 = .ok (.getfield 16, 3) := by decide +kernel
theorem dX9_dropHeard_45 : decode cX9_dropHeard 45 = .ok (.getfield 24, 3) := by decide +kernel
theorem dX9_dropHeard_48 : decode cX9_dropHeard 48 = .ok (.iload_n 1, 1) := by decide +kernel
theorem dX9_dropHeard_49 : decode cX9_dropHeard 49 = .ok (.isub, 1) := by decide +kernel
theorem dX9_dropHeard_50 : decode cX9_dropHeard 50 = .ok (.istore_n 2, 1) := by decide +kernel
theorem dX9_dropHeard_51 : decode cX9_dropHeard 51 = .ok (.aload_n 0, 1) := by decide +kernel
theorem dX9_dropHeard_52 : decode cX9_dropHeard 52 = .ok (.getfield 16, 3) := by decide +kernel
theorem dX9_dropHeard_55 : decode cX9_dropHeard 55 = .ok (.iload_n 1, 1) := by decide +kernel
theorem dX9_dropHeard_56 : decode cX9_dropHeard 56 = .ok (.invokevirtual 46, 3) := by decide +kernel
theorem dX9_dropHeard_59 : decode cX9_dropHeard 59 = .ok (.iload_n 2, 1) := by decide +kernel
theorem dX9_dropHeard_60 : decode cX9_dropHeard 60 = .ok (.ireturn, 1) := by decide +kernel
theorem dX9_takeFrom_0 : decode cX9_takeFrom 0 = .ok (.aload_n 0, 1) := by decide +kernel
theorem dX9_takeFrom_1 : decode cX9_takeFrom 1 = .ok (.getfield 16, 3) := by decide +kernel
theorem dX9_takeFrom_4 : decode cX9_takeFrom 4 = .ok (.aload_n 1, 1) := by decide +kernel
theorem dX9_takeFrom_5 : decode cX9_takeFrom 5 = .ok (.getfield 16, 3) := by decide +kernel
theorem dX9_takeFrom_8 : decode cX9_takeFrom 8 = .ok (.invokevirtual 50, 3) := by decide +kernel
theorem dX9_takeFrom_11 : decode cX9_takeFrom 11 = .ok (.aload_n 0, 1) := by decide +kernel
theorem dX9_takeFrom_12 : decode cX9_takeFrom 12 = .ok (.aload_n 1, 1) := by decide +kernel
theorem dX9_takeFrom_13 : decode cX9_takeFrom 13 = .ok (.getfield 40, 3) := by decide +kernel
theorem dX9_takeFrom_16 : decode cX9_takeFrom 16 = .ok (.putfield 40, 3) := by decide +kernel
theorem dX9_takeFrom_19 : decode cX9_takeFrom 19 = .ok (.return_, 1) := by decide +kernel
theorem dX10_init_0 : decode cX10_init 0 = .ok (.aload_n 0, 1) := by decide +kernel
theorem dX10_init_1 : decode cX10_init 1 = .ok (.invokespecial 3, 3) := by decide +kernel
theorem dX10_init_4 : decode cX10_init 4 = .ok (.aload_n 0, 1) := by decide +kernel
theorem dX10_init_5 : decode cX10_init 5 = .ok (.bipush 8, 2) := by decide +kernel
theorem dX10_init_7 : decode cX10_init 7 = .ok (.newarray .long, 2) := by decide +kernel
theorem dX10_init_9 : decode cX10_init 9 = .ok (.putfield 9, 3) := by decide +kernel
theorem dX10_init_12 : decode cX10_init 12 = .ok (.aload_n 0, 1) := by decide +kernel
theorem dX10_init_13 : decode cX10_init 13 = .ok (.bipush 8, 2) := by decide +kernel
theorem dX10_init_15 : decode cX10_init 15 = .ok (.newarray .int, 2) := by decide +kernel
theorem dX10_init_17 : decode cX10_init 17 = .ok (.putfield 15, 3) := by decide +kernel
theorem dX10_init_20 : decode cX10_init 20 = .ok (.aload_n 0, 1) := by decide +kernel
theorem dX10_init_21 : decode cX10_init 21 = .ok (.bipush 8, 2) := by decide +kernel
theorem dX10_init_23 : decode cX10_init 23 = .ok (.newarray .int, 2) := by decide +kernel
theorem dX10_init_25 : decode cX10_init 25 = .ok (.putfield 19, 3) := by decide +kernel
theorem dX10_init_28 : decode cX10_init 28 = .ok (.return_, 1) := by decide +kernel
theorem dX10_find_0 : decode cX10_find 0 = .ok (.iconst 0, 1) := by decide +kernel
theorem dX10_find_1 : decode cX10_find 1 = .ok (.istore_n 2, 1) := by decide +kernel
theorem dX10_find_2 : decode cX10_find 2 = .ok (.iload_n 2, 1) := by decide +kernel
theorem dX10_find_3 : decode cX10_find 3 = .ok (.bipush 8, 2) := by decide +kernel
theorem dX10_find_5 : decode cX10_find 5 = .ok (.if_icmp .ge 32, 3) := by decide +kernel
theorem dX10_find_8 : decode cX10_find 8 = .ok (.aload_n 0, 1) := by decide +kernel
theorem dX10_find_9 : decode cX10_find 9 = .ok (.getfield 9, 3) := by decide +kernel
theorem dX10_find_12 : decode cX10_find 12 = .ok (.iload_n 2, 1) := by decide +kernel
theorem dX10_find_13 : decode cX10_find 13 = .ok (.ldc2_w 22, 3) := by decide +kernel
theorem dX10_find_16 : decode cX10_find 16 = .ok (.lastore, 1) := by decide +kernel
theorem dX10_find_17 : decode cX10_find 17 = .ok (.aload_n 0, 1) := by decide +kernel
theorem dX10_find_18 : decode cX10_find 18 = .ok (.getfield 15, 3) := by decide +kernel
theorem dX10_find_21 : decode cX10_find 21 = .ok (.iload_n 2, 1) := by decide +kernel
theorem dX10_find_22 : decode cX10_find 22 = .ok (.iconst (-1), 1) := by decide +kernel
theorem dX10_find_23 : decode cX10_find 23 = .ok (.iastore, 1) := by decide +kernel
theorem dX10_find_24 : decode cX10_find 24 = .ok (.aload_n 0, 1) := by decide +kernel
theorem dX10_find_25 : decode cX10_find 25 = .ok (.getfield 19, 3) := by decide +kernel
theorem dX10_find_28 : decode cX10_find 28 = .ok (.iload_n 2, 1) := by decide +kernel
theorem dX10_find_29 : decode cX10_find 29 = .ok (.iconst 0, 1) := by decide +kernel
theorem dX10_find_30 : decode cX10_find 30 = .ok (.iastore, 1) := by decide +kernel
theorem dX10_find_31 : decode cX10_find 31 = .ok (.iinc 2 1, 3) := by decide +kernel
theorem dX10_find_34 : decode cX10_find 34 = .ok (.goto (-32), 3) := by decide +kernel
theorem dX10_find_37 : decode cX10_find 37 = .ok (.iconst 0, 1) := by decide +kernel
theorem dX10_find_38 : decode cX10_find 38 = .ok (.istore_n 2, 1) := by decide +kernel
theorem dX10_find_39 : decode cX10_find 39 = .ok (.iload_n 2, 1) := by decide +kernel
theorem dX10_find_40 : decode cX10_find 40 = .ok (.bipush 8, 2) := by decide +kernel
theorem dX10_find_42 : decode cX10_find 42 = .ok (.if_icmp .ge 34, 3) := by decide +kernel
theorem dX10_find_45 : decode cX10_find 45 = .ok (.iconst 0, 1) := by decide +kernel
theorem dX10_find_46 : decode cX10_find 46 = .ok (.istore_n 3, 1) := by decide +kernel
theorem dX10_find_47 : decode cX10_find 47 = .ok (.iload_n 3, 1) := by decide +kernel
theorem dX10_find_48 : decode cX10_find 48 = .ok (.aload_n 1, 1) := by decide +kernel
theorem dX10_find_49 : decode cX10_find 49 = .ok (.getfield 24, 3) := by decide +kernel
theorem dX10_find_52 : decode cX10_find 52 = .ok (.getfield 30, 3) := by decide +kernel
theorem dX10_find_55 : decode cX10_find 55 = .ok (.if_icmp .ge 15, 3) := by decide +kernel
theorem dX10_find_58 : decode cX10_find 58 = .ok (.aload_n 0, 1) := by decide +kernel
theorem dX10_find_59 : decode cX10_find 59 = .ok (.aload_n 1, 1) := by decide +kernel
theorem dX10_find_60 : decode cX10_find 60 = .ok (.iload_n 3, 1) := by decide +kernel
theorem dX10_find_61 : decode cX10_find 61 = .ok (.invokevirtual 36, 3) := by decide +kernel
theorem dX10_find_64 : decode cX10_find 64 = .ok (.iinc 3 1, 3) := by decide +kernel
theorem dX10_find_67 : decode cX10_find 67 = .ok (.goto (-20), 3) := by decide +kernel
theorem dX10_find_70 : decode cX10_find 70 = .ok (.iinc 2 1, 3) := by decide +kernel
theorem dX10_find_73 : decode cX10_find 73 = .ok (.goto (-34), 3) := by decide +kernel
theorem dX10_find_76 : decode cX10_find 76 = .ok (.aload_n 1, 1) := by decide +kernel
theorem dX10_find_77 : decode cX10_find 77 = .ok (.getfield 24, 3) := by decide +kernel
theorem dX10_find_80 : decode cX10_find 80 = .ok (.getfield 30, 3) := by decide +kernel
theorem dX10_find_83 : decode cX10_find 83 = .ok (.iconst 1, 1) := by decide +kernel
theorem dX10_find_84 : decode cX10_find 84 = .ok (.isub, 1) := by decide +kernel
theorem dX10_find_85 : decode cX10_find 85 = .ok (.istore_n 2, 1) := by decide +kernel
theorem dX10_find_86 : decode cX10_find 86 = .ok (.iload_n 2, 1) := by decide +kernel
theorem dX10_find_87 : decode cX10_find 87 = .ok (.ifCond .lt 62, 3) := by decide +kernel
theorem dX10_find_90 : decode cX10_find 90 = .ok (.aload_n 1, 1) := by decide +kernel
theorem dX10_find_91 : decode cX10_find 91 = .ok (.getfield 24, 3) := by decide +kernel
theorem dX10_find_94 : decode cX10_find 94 = .ok (.iload_n 2, 1) := by decide +kernel
theorem dX10_find_95 : decode cX10_find 95 = .ok (.iconst 0, 1) := by decide +kernel
theorem dX10_find_96 : decode cX10_find 96 = .ok (.invokevirtual 40, 3) := by decide +kernel
theorem dX10_find_99 : decode cX10_find 99 = .ok (.istore_n 3, 1) := by decide +kernel
theorem dX10_find_100 : decode cX10_find 100 = .ok (.iload_n 3, 1) := by decide +kernel
theorem dX10_find_101 : decode cX10_find 101 = .ok (.invokestatic 44, 3) := by decide +kernel
theorem dX10_find_104 : decode cX10_find 104 = .ok (.ifCond .eq 39, 3) := by decide +kernel
theorem dX10_find_107 : decode cX10_find 107 = .ok (.aload_n 0, 1) := by decide +kernel
theorem dX10_find_108 : decode cX10_find 108 = .ok (.getfield 9, 3) := by decide +kernel
theorem dX10_find_111 : decode cX10_find 111 = .ok (.iload_n 3, 1) := by decide +kernel
theorem dX10_find_112 : decode cX10_find 112 = .ok (.laload, 1) := by decide +kernel
theorem dX10_find_113 : decode cX10_find 113 = .ok (.ldc2_w 22, 3) := by decide +kernel
theorem dX10_find_116 : decode cX10_find 116 = .ok (.lcmp, 1) := by decide +kernel
theorem dX10_find_117 : decode cX10_find 117 = .ok (.ifCond .eq 26, 3) := by decide +kernel
theorem dX10_find_120 : decode cX10_find 120 = .ok (.aload_n 0, 1) := by decide +kernel
theorem dX10_find_121 : decode cX10_find 121 = .ok (.getfield 9, 3) := by decide +kernel
theorem dX10_find_124 : decode cX10_find 124 = .ok (.iload_n 3, 1) := by decide +kernel
theorem dX10_find_125 : decode cX10_find 125 = .ok (.laload, 1) := by decide +kernel
theorem dX10_find_126 : decode cX10_find 126 = .ok (.aload_n 0, 1) := by decide +kernel
theorem dX10_find_127 : decode cX10_find 127 = .ok (.aload_n 1, 1) := by decide +kernel
theorem dX10_find_128 : decode cX10_find 128 = .ok (.iload_n 2, 1) := by decide +kernel
theorem dX10_find_129 : decode cX10_find 129 = .ok (.invokevirtual 48, 3) := by decide +kernel
theorem dX10_find_132 : decode cX10_find 132 = .ok (.lcmp, 1) := by decide +kernel
theorem dX10_find_133 : decode cX10_find 133 = .ok (.ifCond .ne 10, 3) := by decide +kernel
theorem dX10_find_136 : decode cX10_find 136 = .ok (.aload_n 0, 1) := by decide +kernel
theorem dX10_find_137 : decode cX10_find 137 = .ok (.getfield 15, 3) := by decide +kernel
theorem dX10_find_140 : decode cX10_find 140 = .ok (.iload_n 3, 1) := by decide +kernel
theorem dX10_find_141 : decode cX10_find 141 = .ok (.iload_n 2, 1) := by decide +kernel
theorem dX10_find_142 : decode cX10_find 142 = .ok (.iastore, 1) := by decide +kernel
theorem dX10_find_143 : decode cX10_find 143 = .ok (.iinc 2 (-1), 3) := by decide +kernel
theorem dX10_find_146 : decode cX10_find 146 = .ok (.goto (-60), 3) := by decide +kernel
theorem dX10_find_149 : decode cX10_find 149 = .ok (.iconst 0, 1) := by decide +kernel
theorem dX10_find_150 : decode cX10_find 150 = .ok (.istore_n 2, 1) := by decide +kernel
theorem dX10_find_151 : decode cX10_find 151 = .ok (.iload_n 2, 1) := by decide +kernel
theorem dX10_find_152 : decode cX10_find 152 = .ok (.bipush 8, 2) := by decide +kernel
theorem dX10_find_154 : decode cX10_find 154 = .ok (.if_icmp .ge 40, 3) := by decide +kernel
theorem dX10_find_157 : decode cX10_find 157 = .ok (.iconst 0, 1) := by decide +kernel
theorem dX10_find_158 : decode cX10_find 158 = .ok (.istore_n 3, 1) := by decide +kernel
theorem dX10_find_159 : decode cX10_find 159 = .ok (.iload_n 3, 1) := by decide +kernel
theorem dX10_find_160 : decode cX10_find 160 = .ok (.bipush 8, 2) := by decide +kernel
theorem dX10_find_162 : decode cX10_find 162 = .ok (.if_icmp .ge 26, 3) := by decide +kernel
theorem dX10_find_165 : decode cX10_find 165 = .ok (.aload_n 0, 1) := by decide +kernel
theorem dX10_find_166 : decode cX10_find 166 = .ok (.getfield 19, 3) := by decide +kernel
theorem dX10_find_169 : decode cX10_find 169 = .ok (.iload_n 3, 1) := by decide +kernel
theorem dX10_find_170 : decode cX10_find 170 = .ok (.aload_n 0, 1) := by decide +kernel
theorem dX10_find_171 : decode cX10_find 171 = .ok (.aload_n 1, 1) := by decide +kernel
theorem dX10_find_172 : decode cX10_find 172 = .ok (.aload_n 0, 1) := by decide +kernel
theorem dX10_find_173 : decode cX10_find 173 = .ok (.getfield 15, 3) := by decide +kernel
theorem dX10_find_176 : decode cX10_find 176 = .ok (.iload_n 3, 1) := by decide +kernel
theorem dX10_find_177 : decode cX10_find 177 = .ok (.iaload, 1) := by decide +kernel
theorem dX10_find_178 : decode cX10_find 178 = .ok (.invokevirtual 52, 3) := by decide +kernel
theorem dX10_find_181 : decode cX10_find 181 = .ok (.iastore, 1) := by decide +kernel
theorem dX10_find_182 : decode cX10_find 182 = .ok (.iinc 3 1, 3) := by decide +kernel
theorem dX10_find_185 : decode cX10_find 185 = .ok (.goto (-26), 3) := by decide +kernel
theorem dX10_find_188 : decode cX10_find 188 = .ok (.iinc 2 1, 3) := by decide +kernel
theorem dX10_find_191 : decode cX10_find 191 = .ok (.goto (-40), 3) := by decide +kernel
theorem dX10_find_194 : decode cX10_find 194 = .ok (.return_, 1) := by decide +kernel
theorem dX10_improve_0 : decode cX10_improve 0 = .ok (.aload_n 1, 1) := by decide +kernel
theorem dX10_improve_1 : decode cX10_improve 1 = .ok (.getfield 24, 3) := by decide +kernel
theorem dX10_improve_4 : decode cX10_improve 4 = .ok (.iload_n 2, 1) := by decide +kernel
theorem dX10_improve_5 : decode cX10_improve 5 = .ok (.iconst 0, 1) := by decide +kernel
theorem dX10_improve_6 : decode cX10_improve 6 = .ok (.invokevirtual 40, 3) := by decide +kernel
theorem dX10_improve_9 : decode cX10_improve 9 = .ok (.istore_n 3, 1) := by decide +kernel
theorem dX10_improve_10 : decode cX10_improve 10 = .ok (.aload_n 0, 1) := by decide +kernel
theorem dX10_improve_11 : decode cX10_improve 11 = .ok (.aload_n 1, 1) := by decide +kernel
theorem dX10_improve_12 : decode cX10_improve 12 = .ok (.iload_n 2, 1) := by decide +kernel
theorem dX10_improve_13 : decode cX10_improve 13 = .ok (.invokevirtual 48, 3) := by decide +kernel
theorem dX10_improve_16 : decode cX10_improve 16 = .ok (.lstore 4, 2) := by decide +kernel
theorem dX10_improve_18 : decode cX10_improve 18 = .ok (.iload_n 3, 1) := by decide +kernel
theorem dX10_improve_19 : decode cX10_improve 19 = .ok (.invokestatic 44, 3) := by decide +kernel
theorem dX10_improve_22 : decode cX10_improve 22 = .ok (.ifCond .eq 45, 3) := by decide +kernel
theorem dX10_improve_25 : decode cX10_improve 25 = .ok (.lload 4, 2) := by decide +kernel
theorem dX10_improve_27 : decode cX10_improve 27 = .ok (.ldc2_w 22, 3) := by decide +kernel
theorem dX10_improve_30 : decode cX10_improve 30 = .ok (.lcmp, 1) := by decide +kernel
theorem dX10_improve_31 : decode cX10_improve 31 = .ok (.ifCond .eq 36, 3) := by decide +kernel
theorem dX10_improve_34 : decode cX10_improve 34 = .ok (.aload_n 0, 1) := by decide +kernel
theorem dX10_improve_35 : decode cX10_improve 35 = .ok (.getfield 9, 3) := by decide +kernel
theorem dX10_improve_38 : decode cX10_improve 38 = .ok (.iload_n 3, 1) := by decide +kernel
theorem dX10_improve_39 : decode cX10_improve 39 = .ok (.laload, 1) := by decide +kernel
theorem dX10_improve_40 : decode cX10_improve 40 = .ok (.ldc2_w 22, 3) := by decide +kernel
theorem dX10_improve_43 : decode cX10_improve 43 = .ok (.lcmp, 1) := by decide +kernel
theorem dX10_improve_44 : decode cX10_improve 44 = .ok (.ifCond .eq 15, 3) := by decide +kernel
theorem dX10_improve_47 : decode cX10_improve 47 = .ok (.lload 4, 2) := by decide +kernel
theorem dX10_improve_49 : decode cX10_improve 49 = .ok (.aload_n 0, 1) := by decide +kernel
theorem dX10_improve_50 : decode cX10_improve 50 = .ok (.getfield 9, 3) := by decide +kernel
theorem dX10_improve_53 : decode cX10_improve 53 = .ok (.iload_n 3, 1) := by decide +kernel
theorem dX10_improve_54 : decode cX10_improve 54 = .ok (.laload, 1) := by decide +kernel
theorem dX10_improve_55 : decode cX10_improve 55 = .ok (.lcmp, 1) := by decide +kernel
theorem dX10_improve_56 : decode cX10_improve 56 = .ok (.ifCond .ge 11, 3) := by decide +kernel
theorem dX10_improve_59 : decode cX10_improve 59 = .ok (.aload_n 0, 1) := by decide +kernel
theorem dX10_improve_60 : decode cX10_improve 60 = .ok (.getfield 9, 3) := by decide +kernel
theorem dX10_improve_63 : decode cX10_improve 63 = .ok (.iload_n 3, 1) := by decide +kernel
theorem dX10_improve_64 : decode cX10_improve 64 = .ok (.lload 4, 2) := by decide +kernel
theorem dX10_improve_66 : decode cX10_improve 66 = .ok (.lastore, 1) := by decide +kernel
theorem dX10_improve_67 : decode cX10_improve 67 = .ok (.return_, 1) := by decide +kernel
theorem dX10_weigh_0 : decode cX10_weigh 0 = .ok (.lconst 1, 1) := by decide +kernel
theorem dX10_weigh_1 : decode cX10_weigh 1 = .ok (.lstore_n 3, 1) := by decide +kernel
theorem dX10_weigh_2 : decode cX10_weigh 2 = .ok (.iconst 1, 1) := by decide +kernel
theorem dX10_weigh_3 : decode cX10_weigh 3 = .ok (.istore 5, 2) := by decide +kernel
theorem dX10_weigh_5 : decode cX10_weigh 5 = .ok (.iload 5, 2) := by decide +kernel
theorem dX10_weigh_7 : decode cX10_weigh 7 = .ok (.iconst 3, 1) := by decide +kernel
theorem dX10_weigh_8 : decode cX10_weigh 8 = .ok (.if_icmp .gt 93, 3) := by decide +kernel
theorem dX10_weigh_11 : decode cX10_weigh 11 = .ok (.aload_n 1, 1) := by decide +kernel
theorem dX10_weigh_12 : decode cX10_weigh 12 = .ok (.getfield 24, 3) := by decide +kernel
theorem dX10_weigh_15 : decode cX10_weigh 15 = .ok (.iload_n 2, 1) := by decide +kernel
theorem dX10_weigh_16 : decode cX10_weigh 16 = .ok (.iload 5, 2) := by decide +kernel
theorem dX10_weigh_18 : decode cX10_weigh 18 = .ok (.invokevirtual 40, 3) := by decide +kernel
theorem dX10_weigh_21 : decode cX10_weigh 21 = .ok (.istore 6, 2) := by decide +kernel
theorem dX10_weigh_23 : decode cX10_weigh 23 = .ok (.iload 6, 2) := by decide +kernel
theorem dX10_weigh_25 : decode cX10_weigh 25 = .ok (.bipush 10, 2) := by decide +kernel
theorem dX10_weigh_27 : decode cX10_weigh 27 = .ok (.isub, 1) := by decide +kernel
theorem dX10_weigh_28 : decode cX10_weigh 28 = .ok (.invokestatic 44, 3) := by decide +kernel
theorem dX10_weigh_31 : decode cX10_weigh 31 = .ok (.ifCond .eq 40, 3) := by decide +kernel
theorem dX10_weigh_34 : decode cX10_weigh 34 = .ok (.aload_n 0, 1) := by decide +kernel
theorem dX10_weigh_35 : decode cX10_weigh 35 = .ok (.getfield 9, 3) := by decide +kernel
theorem dX10_weigh_38 : decode cX10_weigh 38 = .ok (.iload 6, 2) := by decide +kernel
theorem dX10_weigh_40 : decode cX10_weigh 40 = .ok (.bipush 10, 2) := by decide +kernel
theorem dX10_weigh_42 : decode cX10_weigh 42 = .ok (.isub, 1) := by decide +kernel
theorem dX10_weigh_43 : decode cX10_weigh 43 = .ok (.laload, 1) := by decide +kernel
theorem dX10_weigh_44 : decode cX10_weigh 44 = .ok (.ldc2_w 22, 3) := by decide +kernel
theorem dX10_weigh_47 : decode cX10_weigh 47 = .ok (.lcmp, 1) := by decide +kernel
theorem dX10_weigh_48 : decode cX10_weigh 48 = .ok (.ifCond .ne 7, 3) := by decide +kernel
theorem dX10_weigh_51 : decode cX10_weigh 51 = .ok (.ldc2_w 22, 3) := by decide +kernel
theorem dX10_weigh_54 : decode cX10_weigh 54 = .ok (.lreturn, 1) := by decide +kernel
theorem dX10_weigh_55 : decode cX10_weigh 55 = .ok (.lload_n 3, 1) := by decide +kernel
theorem dX10_weigh_56 : decode cX10_weigh 56 = .ok (.aload_n 0, 1) := by decide +kernel
theorem dX10_weigh_57 : decode cX10_weigh 57 = .ok (.getfield 9, 3) := by decide +kernel
theorem dX10_weigh_60 : decode cX10_weigh 60 = .ok (.iload 6, 2) := by decide +kernel
theorem dX10_weigh_62 : decode cX10_weigh 62 = .ok (.bipush 10, 2) := by decide +kernel
theorem dX10_weigh_64 : decode cX10_weigh 64 = .ok (.isub, 1) := by decide +kernel
theorem dX10_weigh_65 : decode cX10_weigh 65 = .ok (.laload, 1) := by decide +kernel
theorem dX10_weigh_66 : decode cX10_weigh 66 = .ok (.ladd, 1) := by decide +kernel
theorem dX10_weigh_67 : decode cX10_weigh 67 = .ok (.lstore_n 3, 1) := by decide +kernel
theorem dX10_weigh_68 : decode cX10_weigh 68 = .ok (.goto 27, 3) := by decide +kernel
theorem dX10_weigh_71 : decode cX10_weigh 71 = .ok (.iload 6, 2) := by decide +kernel
theorem dX10_weigh_73 : decode cX10_weigh 73 = .ok (.iconst (-1), 1) := by decide +kernel
theorem dX10_weigh_74 : decode cX10_weigh 74 = .ok (.if_icmp .eq 21, 3) := by decide +kernel
theorem dX10_weigh_77 : decode cX10_weigh 77 = .ok (.lload_n 3, 1) := by decide +kernel
theorem dX10_weigh_78 : decode cX10_weigh 78 = .ok (.aload_n 1, 1) := by decide +kernel
theorem dX10_weigh_79 : decode cX10_weigh 79 = .ok (.getfield 56, 3) := by decide +kernel
theorem dX10_weigh_82 : decode cX10_weigh 82 = .ok (.iload 6, 2) := by decide +kernel
theorem dX10_weigh_84 : decode cX10_weigh 84 = .ok (.iconst 0, 1) := by decide +kernel
theorem dX10_weigh_85 : decode cX10_weigh 85 = .ok (.invokevirtual 40, 3) := by decide +kernel
theorem dX10_weigh_88 : decode cX10_weigh 88 = .ok (.i2l, 1) := by decide +kernel
theorem dX10_weigh_89 : decode cX10_weigh 89 = .ok (.ldc2_w 58, 3) := by decide +kernel
theorem dX10_weigh_92 : decode cX10_weigh 92 = .ok (.lmul, 1) := by decide +kernel
theorem dX10_weigh_93 : decode cX10_weigh 93 = .ok (.ladd, 1) := by decide +kernel
theorem dX10_weigh_94 : decode cX10_weigh 94 = .ok (.lstore_n 3, 1) := by decide +kernel
theorem dX10_weigh_95 : decode cX10_weigh 95 = .ok (.iinc 5 1, 3) := by decide +kernel
theorem dX10_weigh_98 : decode cX10_weigh 98 = .ok (.goto (-93), 3) := by decide +kernel
theorem dX10_weigh_101 : decode cX10_weigh 101 = .ok (.lload_n 3, 1) := by decide +kernel
theorem dX10_weigh_102 : decode cX10_weigh 102 = .ok (.lreturn, 1) := by decide +kernel
theorem dX10_countWords_0 : decode cX10_countWords 0 = .ok (.iconst 0, 1) := by decide +kernel
theorem dX10_countWords_1 : decode cX10_countWords 1 = .ok (.istore_n 3, 1) := by decide +kernel
theorem dX10_countWords_2 : decode cX10_countWords 2 = .ok (.iconst 1, 1) := by decide +kernel
theorem dX10_countWords_3 : decode cX10_countWords 3 = .ok (.istore 4, 2) := by decide +kernel
theorem dX10_countWords_5 : decode cX10_countWords 5 = .ok (.iload 4, 2) := by decide +kernel
theorem dX10_countWords_7 : decode cX10_countWords 7 = .ok (.iconst 3, 1) := by decide +kernel
theorem dX10_countWords_8 : decode cX10_countWords 8 = .ok (.if_icmp .gt 26, 3) := by decide +kernel
theorem dX10_countWords_11 : decode cX10_countWords 11 = .ok (.iload_n 3, 1) := by decide +kernel
theorem dX10_countWords_12 : decode cX10_countWords 12 = .ok (.aload_n 0, 1) := by decide +kernel
theorem dX10_countWords_13 : decode cX10_countWords 13 = .ok (.aload_n 1, 1) := by decide +kernel
theorem dX10_countWords_14 : decode cX10_countWords 14 = .ok (.getfield 24, 3) := by decide +kernel
theorem dX10_countWords_17 : decode cX10_countWords 17 = .ok (.iload_n 2, 1) := by decide +kernel
theorem dX10_countWords_18 : decode cX10_countWords 18 = .ok (.iload 4, 2) := by decide +kernel
theorem dX10_countWords_20 : decode cX10_countWords 20 = .ok (.invokevirtual 40, 3) := by decide +kernel
theorem dX10_countWords_23 : decode cX10_countWords 23 = .ok (.invokevirtual 60, 3) := by decide +kernel
theorem dX10_countWords_26 : decode cX10_countWords 26 = .ok (.iadd, 1) := by decide +kernel
theorem dX10_countWords_27 : decode cX10_countWords 27 = .ok (.istore_n 3, 1) := by decide +kernel
theorem dX10_countWords_28 : decode cX10_countWords 28 = .ok (.iinc 4 1, 3) := by decide +kernel
theorem dX10_countWords_31 : decode cX10_countWords 31 = .ok (.goto (-26), 3) := by decide +kernel
theorem dX10_countWords_34 : decode cX10_countWords 34 = .ok (.iload_n 3, 1) := by decide +kernel
theorem dX10_countWords_35 : decode cX10_countWords 35 = .ok (.ireturn, 1) := by decide +kernel
theorem dX10_wordsIn_0 : decode cX10_wordsIn 0 = .ok (.iload_n 1, 1) := by decide +kernel
theorem dX10_wordsIn_1 : decode cX10_wordsIn 1 = .ok (.iconst (-1), 1) := by decide +kernel
theorem dX10_wordsIn_2 : decode cX10_wordsIn 2 = .ok (.if_icmp .ne 5, 3) := by decide +kernel
theorem dX10_wordsIn_5 : decode cX10_wordsIn 5 = .ok (.iconst 0, 1) := by decide +kernel
theorem dX10_wordsIn_6 : decode cX10_wordsIn 6 = .ok (.ireturn, 1) := by decide +kernel
theorem dX10_wordsIn_7 : decode cX10_wordsIn 7 = .ok (.iload_n 1, 1) := by decide +kernel
theorem dX10_wordsIn_8 : decode cX10_wordsIn 8 = .ok (.bipush 10, 2) := by decide +kernel
theorem dX10_wordsIn_10 : decode cX10_wordsIn 10 = .ok (.isub, 1) := by decide +kernel
theorem dX10_wordsIn_11 : decode cX10_wordsIn 11 = .ok (.invokestatic 44, 3) := by decide +kernel
theorem dX10_wordsIn_14 : decode cX10_wordsIn 14 = .ok (.ifCond .eq 15, 3) := by decide +kernel
theorem dX10_wordsIn_17 : decode cX10_wordsIn 17 = .ok (.aload_n 0, 1) := by decide +kernel
theorem dX10_wordsIn_18 : decode cX10_wordsIn 18 = .ok (.getfield 19, 3) := by decide +kernel
theorem dX10_wordsIn_21 : decode cX10_wordsIn 21 = .ok (.iload_n 1, 1) := by decide +kernel
theorem dX10_wordsIn_22 : decode cX10_wordsIn 22 = .ok (.bipush 10, 2) := by decide +kernel
theorem dX10_wordsIn_24 : decode cX10_wordsIn 24 = .ok (.isub, 1) := by decide +kernel
theorem dX10_wordsIn_25 : decode cX10_wordsIn 25 = .ok (.iaload, 1) := by decide +kernel
theorem dX10_wordsIn_26 : decode cX10_wordsIn 26 = .ok (.goto 4, 3) := by decide +kernel
theorem dX10_wordsIn_29 : decode cX10_wordsIn 29 = .ok (.iconst 1, 1) := by decide +kernel
theorem dX10_wordsIn_30 : decode cX10_wordsIn 30 = .ok (.ireturn, 1) := by decide +kernel
theorem dX10_lengthFor_0 : decode cX10_lengthFor 0 = .ok (.iload_n 1, 1) := by decide +kernel
theorem dX10_lengthFor_1 : decode cX10_lengthFor 1 = .ok (.invokestatic 44, 3) := by decide +kernel
theorem dX10_lengthFor_4 : decode cX10_lengthFor 4 = .ok (.ifCond .eq 30, 3) := by decide +kernel
theorem dX10_lengthFor_7 : decode cX10_lengthFor 7 = .ok (.aload_n 0, 1) := by decide +kernel
theorem dX10_lengthFor_8 : decode cX10_lengthFor 8 = .ok (.getfield 9, 3) := by decide +kernel
theorem dX10_lengthFor_11 : decode cX10_lengthFor 11 = .ok (.iload_n 1, 1) := by decide +kernel
theorem dX10_lengthFor_12 : decode cX10_lengthFor 12 = .ok (.laload, 1) := by decide +kernel
theorem dX10_lengthFor_13 : decode cX10_lengthFor 13 = .ok (.ldc2_w 22, 3) := by decide +kernel
theorem dX10_lengthFor_16 : decode cX10_lengthFor 16 = .ok (.lcmp, 1) := by decide +kernel
theorem dX10_lengthFor_17 : decode cX10_lengthFor 17 = .ok (.ifCond .eq 17, 3) := by decide +kernel
theorem dX10_lengthFor_20 : decode cX10_lengthFor 20 = .ok (.aload_n 0, 1) := by decide +kernel
theorem dX10_lengthFor_21 : decode cX10_lengthFor 21 = .ok (.getfield 9, 3) := by decide +kernel
theorem dX10_lengthFor_24 : decode cX10_lengthFor 24 = .ok (.iload_n 1, 1) := by decide +kernel
theorem dX10_lengthFor_25 : decode cX10_lengthFor 25 = .ok (.laload, 1) := by decide +kernel
theorem dX10_lengthFor_26 : decode cX10_lengthFor 26 = .ok (.ldc2_w 58, 3) := by decide +kernel
theorem dX10_lengthFor_29 : decode cX10_lengthFor 29 = .ok (.ldiv, 1) := by decide +kernel
theorem dX10_lengthFor_30 : decode cX10_lengthFor 30 = .ok (.l2i, 1) := by decide +kernel
theorem dX10_lengthFor_31 : decode cX10_lengthFor 31 = .ok (.goto 4, 3) := by decide +kernel
theorem dX10_lengthFor_34 : decode cX10_lengthFor 34 = .ok (.iconst (-1), 1) := by decide +kernel
theorem dX10_lengthFor_35 : decode cX10_lengthFor 35 = .ok (.ireturn, 1) := by decide +kernel
theorem dX10_rulesFor_0 : decode cX10_rulesFor 0 = .ok (.iload_n 1, 1) := by decide +kernel
theorem dX10_rulesFor_1 : decode cX10_rulesFor 1 = .ok (.invokestatic 44, 3) := by decide +kernel
theorem dX10_rulesFor_4 : decode cX10_rulesFor 4 = .ok (.ifCond .eq 30, 3) := by decide +kernel
theorem dX10_rulesFor_7 : decode cX10_rulesFor 7 = .ok (.aload_n 0, 1) := by decide +kernel
theorem dX10_rulesFor_8 : decode cX10_rulesFor 8 = .ok (.getfield 9, 3) := by decide +kernel
theorem dX10_rulesFor_11 : decode cX10_rulesFor 11 = .ok (.iload_n 1, 1) := by decide +kernel
theorem dX10_rulesFor_12 : decode cX10_rulesFor 12 = .ok (.laload, 1) := by decide +kernel
theorem dX10_rulesFor_13 : decode cX10_rulesFor 13 = .ok (.ldc2_w 22, 3) := by decide +kernel
theorem dX10_rulesFor_16 : decode cX10_rulesFor 16 = .ok (.lcmp, 1) := by decide +kernel
theorem dX10_rulesFor_17 : decode cX10_rulesFor 17 = .ok (.ifCond .eq 17, 3) := by decide +kernel
theorem dX10_rulesFor_20 : decode cX10_rulesFor 20 = .ok (.aload_n 0, 1) := by decide +kernel
theorem dX10_rulesFor_21 : decode cX10_rulesFor 21 = .ok (.getfield 9, 3) := by decide +kernel
theorem dX10_rulesFor_24 : decode cX10_rulesFor 24 = .ok (.iload_n 1, 1) := by decide +kernel
theorem dX10_rulesFor_25 : decode cX10_rulesFor 25 = .ok (.laload, 1) := by decide +kernel
theorem dX10_rulesFor_26 : decode cX10_rulesFor 26 = .ok (.ldc2_w 58, 3) := by decide +kernel
theorem dX10_rulesFor_29 : decode cX10_rulesFor 29 = .ok (.lrem, 1) := by decide +kernel
theorem dX10_rulesFor_30 : decode cX10_rulesFor 30 = .ok (.l2i, 1) := by decide +kernel
theorem dX10_rulesFor_31 : decode cX10_rulesFor 31 = .ok (.goto 4, 3) := by decide +kernel
theorem dX10_rulesFor_34 : decode cX10_rulesFor 34 = .ok (.iconst (-1), 1) := by decide +kernel
theorem dX10_rulesFor_35 : decode cX10_rulesFor 35 = .ok (.ireturn, 1) := by decide +kernel
theorem dX10_wordsFor_0 : decode cX10_wordsFor 0 = .ok (.iload_n 1, 1) := by decide +kernel
theorem dX10_wordsFor_1 : decode cX10_wordsFor 1 = .ok (.invokestatic 44, 3) := by decide +kernel
theorem dX10_wordsFor_4 : decode cX10_wordsFor 4 = .ok (.ifCond .eq 25, 3) := by decide +kernel
theorem dX10_wordsFor_7 : decode cX10_wordsFor 7 = .ok (.aload_n 0, 1) := by decide +kernel
theorem dX10_wordsFor_8 : decode cX10_wordsFor 8 = .ok (.getfield 9, 3) := by decide +kernel
theorem dX10_wordsFor_11 : decode cX10_wordsFor 11 = .ok (.iload_n 1, 1) := by decide +kernel
theorem dX10_wordsFor_12 : decode cX10_wordsFor 12 = .ok (.laload, 1) := by decide +kernel
theorem dX10_wordsFor_13 : decode cX10_wordsFor 13 = .ok (.ldc2_w 22, 3) := by decide +kernel
theorem dX10_wordsFor_16 : decode cX10_wordsFor 16 = .ok (.lcmp, 1) := by decide +kernel
theorem dX10_wordsFor_17 : decode cX10_wordsFor 17 = .ok (.ifCond .eq 12, 3) := by decide +kernel
theorem dX10_wordsFor_20 : decode cX10_wordsFor 20 = .ok (.aload_n 0, 1) := by decide +kernel
theorem dX10_wordsFor_21 : decode cX10_wordsFor 21 = .ok (.getfield 19, 3) := by decide +kernel
theorem dX10_wordsFor_24 : decode cX10_wordsFor 24 = .ok (.iload_n 1, 1) := by decide +kernel
theorem dX10_wordsFor_25 : decode cX10_wordsFor 25 = .ok (.iaload, 1) := by decide +kernel
theorem dX10_wordsFor_26 : decode cX10_wordsFor 26 = .ok (.goto 4, 3) := by decide +kernel
theorem dX10_wordsFor_29 : decode cX10_wordsFor 29 = .ok (.iconst (-1), 1) := by decide +kernel
theorem dX10_wordsFor_30 : decode cX10_wordsFor 30 = .ok (.ireturn, 1) := by decide +kernel
theorem dX10_wordAt_0 : decode cX10_wordAt 0 = .ok (.iload_n 3, 1) := by decide +kernel
theorem dX10_wordAt_1 : decode cX10_wordAt 1 = .ok (.ifCond .lt 12, 3) := by decide +kernel
theorem dX10_wordAt_4 : decode cX10_wordAt 4 = .ok (.iload_n 3, 1) := by decide +kernel
theorem dX10_wordAt_5 : decode cX10_wordAt 5 = .ok (.aload_n 0, 1) := by decide +kernel
theorem dX10_wordAt_6 : decode cX10_wordAt 6 = .ok (.iload_n 2, 1) := by decide +kernel
theorem dX10_wordAt_7 : decode cX10_wordAt 7 = .ok (.invokevirtual 64, 3) := by decide +kernel
theorem dX10_wordAt_10 : decode cX10_wordAt 10 = .ok (.if_icmp .lt 5, 3) := by decide +kernel
theorem dX10_wordAt_13 : decode cX10_wordAt 13 = .ok (.iconst (-1), 1) := by decide +kernel
theorem dX10_wordAt_14 : decode cX10_wordAt 14 = .ok (.ireturn, 1) := by decide +kernel
theorem dX10_wordAt_15 : decode cX10_wordAt 15 = .ok (.iload_n 2, 1) := by decide +kernel
theorem dX10_wordAt_16 : decode cX10_wordAt 16 = .ok (.bipush 10, 2) := by decide +kernel
theorem dX10_wordAt_18 : decode cX10_wordAt 18 = .ok (.iadd, 1) := by decide +kernel
theorem dX10_wordAt_19 : decode cX10_wordAt 19 = .ok (.istore 4, 2) := by decide +kernel
theorem dX10_wordAt_21 : decode cX10_wordAt 21 = .ok (.iload_n 3, 1) := by decide +kernel
theorem dX10_wordAt_22 : decode cX10_wordAt 22 = .ok (.istore 5, 2) := by decide +kernel
theorem dX10_wordAt_24 : decode cX10_wordAt 24 = .ok (.iconst 0, 1) := by decide +kernel
theorem dX10_wordAt_25 : decode cX10_wordAt 25 = .ok (.istore 6, 2) := by decide +kernel
theorem dX10_wordAt_27 : decode cX10_wordAt 27 = .ok (.iload 6, 2) := by decide +kernel
theorem dX10_wordAt_29 : decode cX10_wordAt 29 = .ok (.bipush 8, 2) := by decide +kernel
theorem dX10_wordAt_31 : decode cX10_wordAt 31 = .ok (.if_icmp .gt 100, 3) := by decide +kernel
theorem dX10_wordAt_34 : decode cX10_wordAt 34 = .ok (.iload 4, 2) := by decide +kernel
theorem dX10_wordAt_36 : decode cX10_wordAt 36 = .ok (.bipush 10, 2) := by decide +kernel
theorem dX10_wordAt_38 : decode cX10_wordAt 38 = .ok (.isub, 1) := by decide +kernel
theorem dX10_wordAt_39 : decode cX10_wordAt 39 = .ok (.invokestatic 44, 3) := by decide +kernel
theorem dX10_wordAt_42 : decode cX10_wordAt 42 = .ok (.ifCond .eq 89, 3) := by decide +kernel
theorem dX10_wordAt_45 : decode cX10_wordAt 45 = .ok (.aload_n 0, 1) := by decide +kernel
theorem dX10_wordAt_46 : decode cX10_wordAt 46 = .ok (.getfield 15, 3) := by decide +kernel
theorem dX10_wordAt_49 : decode cX10_wordAt 49 = .ok (.iload 4, 2) := by decide +kernel
theorem dX10_wordAt_51 : decode cX10_wordAt 51 = .ok (.bipush 10, 2) := by decide +kernel
theorem dX10_wordAt_53 : decode cX10_wordAt 53 = .ok (.isub, 1) := by decide +kernel
theorem dX10_wordAt_54 : decode cX10_wordAt 54 = .ok (.iaload, 1) := by decide +kernel
theorem dX10_wordAt_55 : decode cX10_wordAt 55 = .ok (.istore 7, 2) := by decide +kernel
theorem dX10_wordAt_57 : decode cX10_wordAt 57 = .ok (.iconst 1, 1) := by decide +kernel
theorem dX10_wordAt_58 : decode cX10_wordAt 58 = .ok (.istore 8, 2) := by decide +kernel
theorem dX10_wordAt_60 : decode cX10_wordAt 60 = .ok (.iload 8, 2) := by decide +kernel
theorem dX10_wordAt_62 : decode cX10_wordAt 62 = .ok (.iconst 3, 1) := by decide +kernel
theorem dX10_wordAt_63 : decode cX10_wordAt 63 = .ok (.if_icmp .ge 49, 3) := by decide +kernel
theorem dX10_wordAt_66 : decode cX10_wordAt 66 = .ok (.iload 5, 2) := by decide +kernel
theorem dX10_wordAt_68 : decode cX10_wordAt 68 = .ok (.aload_n 0, 1) := by decide +kernel
theorem dX10_wordAt_69 : decode cX10_wordAt 69 = .ok (.aload_n 1, 1) := by decide +kernel
theorem dX10_wordAt_70 : decode cX10_wordAt 70 = .ok (.getfield 24, 3) := by decide +kernel
theorem dX10_wordAt_73 : decode cX10_wordAt 73 = .ok (.iload 7, 2) := by decide +kernel
theorem dX10_wordAt_75 : decode cX10_wordAt 75 = .ok (.iload 8, 2) := by decide +kernel
theorem dX10_wordAt_77 : decode cX10_wordAt 77 = .ok (.invokevirtual 40, 3) := by decide +kernel
theorem dX10_wordAt_80 : decode cX10_wordAt 80 = .ok (.invokevirtual 60, 3) := by decide +kernel
theorem dX10_wordAt_83 : decode cX10_wordAt 83 = .ok (.if_icmp .lt 29, 3) := by decide +kernel
theorem dX10_wordAt_86 : decode cX10_wordAt 86 = .ok (.iload 5, 2) := by decide +kernel
theorem dX10_wordAt_88 : decode cX10_wordAt 88 = .ok (.aload_n 0, 1) := by decide +kernel
theorem dX10_wordAt_89 : decode cX10_wordAt 89 = .ok (.aload_n 1, 1) := by decide +kernel
theorem dX10_wordAt_90 : decode cX10_wordAt 90 = .ok (.getfield 24, 3) := by decide +kernel
theorem dX10_wordAt_93 : decode cX10_wordAt 93 = .ok (.iload 7, 2) := by decide +kernel
theorem dX10_wordAt_95 : decode cX10_wordAt 95 = .ok (.iload 8, 2) := by decide +kernel
theorem dX10_wordAt_97 : decode cX10_wordAt 97 = .ok (.invokevirtual 40, 3) := by decide +kernel
theorem dX10_wordAt_100 : decode cX10_wordAt 100 = .ok (.invokevirtual 60, 3) := by decide +kernel
theorem dX10_wordAt_103 : decode cX10_wordAt 103 = .ok (.isub, 1) := by decide +kernel
theorem dX10_wordAt_104 : decode cX10_wordAt 104 = .ok (.istore 5, 2) := by decide +kernel
theorem dX10_wordAt_106 : decode cX10_wordAt 106 = .ok (.iinc 8 1, 3) := by decide +kernel
theorem dX10_wordAt_109 : decode cX10_wordAt 109 = .ok (.goto (-49), 3) := by decide +kernel
theorem dX10_wordAt_112 : decode cX10_wordAt 112 = .ok (.aload_n 1, 1) := by decide +kernel
theorem dX10_wordAt_113 : decode cX10_wordAt 113 = .ok (.getfield 24, 3) := by decide +kernel
theorem dX10_wordAt_116 : decode cX10_wordAt 116 = .ok (.iload 7, 2) := by decide +kernel
theorem dX10_wordAt_118 : decode cX10_wordAt 118 = .ok (.iload 8, 2) := by decide +kernel
theorem dX10_wordAt_120 : decode cX10_wordAt 120 = .ok (.invokevirtual 40, 3) := by decide +kernel
theorem dX10_wordAt_123 : decode cX10_wordAt 123 = .ok (.istore 4, 2) := by decide +kernel
theorem dX10_wordAt_125 : decode cX10_wordAt 125 = .ok (.iinc 6 1, 3) := by decide +kernel
theorem dX10_wordAt_128 : decode cX10_wordAt 128 = .ok (.goto (-101), 3) := by decide +kernel
theorem dX10_wordAt_131 : decode cX10_wordAt 131 = .ok (.iload 4, 2) := by decide +kernel
theorem dX10_wordAt_133 : decode cX10_wordAt 133 = .ok (.ireturn, 1) := by decide +kernel
theorem dX11_init_0 : decode cX11_init 0 = .ok (.aload_n 0, 1) := by decide +kernel
theorem dX11_init_1 : decode cX11_init 1 = .ok (.invokespecial 1, 3) := by decide +kernel
theorem dX11_init_4 : decode cX11_init 4 = .ok (.aload_n 0, 1) := by decide +kernel
theorem dX11_init_5 : decode cX11_init 5 = .ok (.new 7, 3) := by decide +kernel
theorem dX11_init_8 : decode cX11_init 8 = .ok (.dup, 1) := by decide +kernel
theorem dX11_init_9 : decode cX11_init 9 = .ok (.invokespecial 9, 3) := by decide +kernel
theorem dX11_init_12 : decode cX11_init 12 = .ok (.putfield 10, 3) := by decide +kernel
theorem dX11_init_15 : decode cX11_init 15 = .ok (.aload_n 0, 1) := by decide +kernel
theorem dX11_init_16 : decode cX11_init 16 = .ok (.iconst 2, 1) := by decide +kernel
theorem dX11_init_17 : decode cX11_init 17 = .ok (.anewarray 7, 3) := by decide +kernel
theorem dX11_init_20 : decode cX11_init 20 = .ok (.dup, 1) := by decide +kernel
theorem dX11_init_21 : decode cX11_init 21 = .ok (.iconst 0, 1) := by decide +kernel
theorem dX11_init_22 : decode cX11_init 22 = .ok (.new 7, 3) := by decide +kernel
theorem dX11_init_25 : decode cX11_init 25 = .ok (.dup, 1) := by decide +kernel
theorem dX11_init_26 : decode cX11_init 26 = .ok (.invokespecial 9, 3) := by decide +kernel
theorem dX11_init_29 : decode cX11_init 29 = .ok (.aastore, 1) := by decide +kernel
theorem dX11_init_30 : decode cX11_init 30 = .ok (.dup, 1) := by decide +kernel
theorem dX11_init_31 : decode cX11_init 31 = .ok (.iconst 1, 1) := by decide +kernel
theorem dX11_init_32 : decode cX11_init 32 = .ok (.new 7, 3) := by decide +kernel
theorem dX11_init_35 : decode cX11_init 35 = .ok (.dup, 1) := by decide +kernel
theorem dX11_init_36 : decode cX11_init 36 = .ok (.invokespecial 9, 3) := by decide +kernel
theorem dX11_init_39 : decode cX11_init 39 = .ok (.aastore, 1) := by decide +kernel
theorem dX11_init_40 : decode cX11_init 40 = .ok (.putfield 16, 3) := by decide +kernel
theorem dX11_init_43 : decode cX11_init 43 = .ok (.aload_n 0, 1) := by decide +kernel
theorem dX11_init_44 : decode cX11_init 44 = .ok (.iconst 2, 1) := by decide +kernel
theorem dX11_init_45 : decode cX11_init 45 = .ok (.newarray .boolean, 2) := by decide +kernel
theorem dX11_init_47 : decode cX11_init 47 = .ok (.putfield 20, 3) := by decide +kernel
theorem dX11_init_50 : decode cX11_init 50 = .ok (.aload_n 0, 1) := by decide +kernel
theorem dX11_init_51 : decode cX11_init 51 = .ok (.new 24, 3) := by decide +kernel
theorem dX11_init_54 : decode cX11_init 54 = .ok (.dup, 1) := by decide +kernel
theorem dX11_init_55 : decode cX11_init 55 = .ok (.sipush 400, 3) := by decide +kernel
theorem dX11_init_58 : decode cX11_init 58 = .ok (.iconst 1, 1) := by decide +kernel
theorem dX11_init_59 : decode cX11_init 59 = .ok (.invokespecial 26, 3) := by decide +kernel
theorem dX11_init_62 : decode cX11_init 62 = .ok (.putfield 29, 3) := by decide +kernel
theorem dX11_init_65 : decode cX11_init 65 = .ok (.aload_n 0, 1) := by decide +kernel
theorem dX11_init_66 : decode cX11_init 66 = .ok (.new 33, 3) := by decide +kernel
theorem dX11_init_69 : decode cX11_init 69 = .ok (.dup, 1) := by decide +kernel
theorem dX11_init_70 : decode cX11_init 70 = .ok (.invokespecial 35, 3) := by decide +kernel
theorem dX11_init_73 : decode cX11_init 73 = .ok (.putfield 36, 3) := by decide +kernel
theorem dX11_init_76 : decode cX11_init 76 = .ok (.aload_n 0, 1) := by decide +kernel
theorem dX11_init_77 : decode cX11_init 77 = .ok (.new 40, 3) := by decide +kernel
theorem dX11_init_80 : decode cX11_init 80 = .ok (.dup, 1) := by decide +kernel
theorem dX11_init_81 : decode cX11_init 81 = .ok (.aload_n 0, 1) := by decide +kernel
theorem dX11_init_82 : decode cX11_init 82 = .ok (.getfield 29, 3) := by decide +kernel
theorem dX11_init_85 : decode cX11_init 85 = .ok (.aload_n 0, 1) := by decide +kernel
theorem dX11_init_86 : decode cX11_init 86 = .ok (.getfield 36, 3) := by decide +kernel
theorem dX11_init_89 : decode cX11_init 89 = .ok (.invokespecial 42, 3) := by decide +kernel
theorem dX11_init_92 : decode cX11_init 92 = .ok (.putfield 45, 3) := by decide +kernel
theorem dX11_init_95 : decode cX11_init 95 = .ok (.aload_n 0, 1) := by decide +kernel
theorem dX11_init_96 : decode cX11_init 96 = .ok (.new 49, 3) := by decide +kernel
theorem dX11_init_99 : decode cX11_init 99 = .ok (.dup, 1) := by decide +kernel
theorem dX11_init_100 : decode cX11_init 100 = .ok (.invokespecial 51, 3) := by decide +kernel
theorem dX11_init_103 : decode cX11_init 103 = .ok (.putfield 52, 3) := by decide +kernel
theorem dX11_init_106 : decode cX11_init 106 = .ok (.aload_n 0, 1) := by decide +kernel
theorem dX11_init_107 : decode cX11_init 107 = .ok (.new 56, 3) := by decide +kernel
theorem dX11_init_110 : decode cX11_init 110 = .ok (.dup, 1) := by decide +kernel
theorem dX11_init_111 : decode cX11_init 111 = .ok (.aload_n 0, 1) := by decide +kernel
theorem dX11_init_112 : decode cX11_init 112 = .ok (.getfield 52, 3) := by decide +kernel
theorem dX11_init_115 : decode cX11_init 115 = .ok (.invokespecial 58, 3) := by decide +kernel
theorem dX11_init_118 : decode cX11_init 118 = .ok (.putfield 61, 3) := by decide +kernel
theorem dX11_init_121 : decode cX11_init 121 = .ok (.aload_n 0, 1) := by decide +kernel
theorem dX11_init_122 : decode cX11_init 122 = .ok (.new 65, 3) := by decide +kernel
theorem dX11_init_125 : decode cX11_init 125 = .ok (.dup, 1) := by decide +kernel
theorem dX11_init_126 : decode cX11_init 126 = .ok (.invokespecial 67, 3) := by decide +kernel
theorem dX11_init_129 : decode cX11_init 129 = .ok (.putfield 68, 3) := by decide +kernel
theorem dX11_init_132 : decode cX11_init 132 = .ok (.aload_n 0, 1) := by decide +kernel
theorem dX11_init_133 : decode cX11_init 133 = .ok (.new 65, 3) := by decide +kernel
theorem dX11_init_136 : decode cX11_init 136 = .ok (.dup, 1) := by decide +kernel
theorem dX11_init_137 : decode cX11_init 137 = .ok (.invokespecial 67, 3) := by decide +kernel
theorem dX11_init_140 : decode cX11_init 140 = .ok (.putfield 72, 3) := by decide +kernel
theorem dX11_init_143 : decode cX11_init 143 = .ok (.aload_n 0, 1) := by decide +kernel
theorem dX11_init_144 : decode cX11_init 144 = .ok (.new 24, 3) := by decide +kernel
theorem dX11_init_147 : decode cX11_init 147 = .ok (.dup, 1) := by decide +kernel
theorem dX11_init_148 : decode cX11_init 148 = .ok (.bipush 16, 2) := by decide +kernel
theorem dX11_init_150 : decode cX11_init 150 = .ok (.iconst 1, 1) := by decide +kernel
theorem dX11_init_151 : decode cX11_init 151 = .ok (.invokespecial 26, 3) := by decide +kernel
theorem dX11_init_154 : decode cX11_init 154 = .ok (.putfield 75, 3) := by decide +kernel
theorem dX11_init_157 : decode cX11_init 157 = .ok (.aload_n 0, 1) := by decide +kernel
theorem dX11_init_158 : decode cX11_init 158 = .ok (.new 24, 3) := by decide +kernel
theorem dX11_init_161 : decode cX11_init 161 = .ok (.dup, 1) := by decide +kernel
theorem dX11_init_162 : decode cX11_init 162 = .ok (.bipush 16, 2) := by decide +kernel
theorem dX11_init_164 : decode cX11_init 164 = .ok (.iconst 1, 1) := by decide +kernel
theorem dX11_init_165 : decode cX11_init 165 = .ok (.invokespecial 26, 3) := by decide +kernel
theorem dX11_init_168 : decode cX11_init 168 = .ok (.putfield 78, 3) := by decide +kernel
theorem dX11_init_171 : decode cX11_init 171 = .ok (.aload_n 0, 1) := by decide +kernel
theorem dX11_init_172 : decode cX11_init 172 = .ok (.new 81, 3) := by decide +kernel
theorem dX11_init_175 : decode cX11_init 175 = .ok (.dup, 1) := by decide +kernel
theorem dX11_init_176 : decode cX11_init 176 = .ok (.invokespecial 83, 3) := by decide +kernel
theorem dX11_init_179 : decode cX11_init 179 = .ok (.putfield 84, 3) := by decide +kernel
theorem dX11_init_182 : decode cX11_init 182 = .ok (.aload_n 0, 1) := by decide +kernel
theorem dX11_init_183 : decode cX11_init 183 = .ok (.new 88, 3) := by decide +kernel
theorem dX11_init_186 : decode cX11_init 186 = .ok (.dup, 1) := by decide +kernel
theorem dX11_init_187 : decode cX11_init 187 = .ok (.invokespecial 90, 3) := by decide +kernel
theorem dX11_init_190 : decode cX11_init 190 = .ok (.putfield 91, 3) := by decide +kernel
theorem dX11_init_193 : decode cX11_init 193 = .ok (.aload_n 0, 1) := by decide +kernel
theorem dX11_init_194 : decode cX11_init 194 = .ok (.new 95, 3) := by decide +kernel
theorem dX11_init_197 : decode cX11_init 197 = .ok (.dup, 1) := by decide +kernel
theorem dX11_init_198 : decode cX11_init 198 = .ok (.invokespecial 97, 3) := by decide +kernel
theorem dX11_init_201 : decode cX11_init 201 = .ok (.putfield 98, 3) := by decide +kernel
theorem dX11_init_204 : decode cX11_init 204 = .ok (.aload_n 0, 1) := by decide +kernel
theorem dX11_init_205 : decode cX11_init 205 = .ok (.bipush 24, 2) := by decide +kernel
theorem dX11_init_207 : decode cX11_init 207 = .ok (.newarray .int, 2) := by decide +kernel
theorem dX11_init_209 : decode cX11_init 209 = .ok (.putfield 102, 3) := by decide +kernel
theorem dX11_init_212 : decode cX11_init 212 = .ok (.aload_n 0, 1) := by decide +kernel
theorem dX11_init_213 : decode cX11_init 213 = .ok (.bipush 7, 2) := by decide +kernel
theorem dX11_init_215 : decode cX11_init 215 = .ok (.newarray .int, 2) := by decide +kernel
theorem dX11_init_217 : decode cX11_init 217 = .ok (.putfield 106, 3) := by decide +kernel
theorem dX11_init_220 : decode cX11_init 220 = .ok (.aload_n 0, 1) := by decide +kernel
theorem dX11_init_221 : decode cX11_init 221 = .ok (.iconst (-1), 1) := by decide +kernel
theorem dX11_init_222 : decode cX11_init 222 = .ok (.putfield 109, 3) := by decide +kernel
theorem dX11_init_225 : decode cX11_init 225 = .ok (.return_, 1) := by decide +kernel
theorem dX11_word_0 : decode cX11_word 0 = .ok (.iload_n 1, 1) := by decide +kernel
theorem dX11_word_1 : decode cX11_word 1 = .ok (.iconst 1, 1) := by decide +kernel
theorem dX11_word_2 : decode cX11_word 2 = .ok (.bipush 9, 2) := by decide +kernel
theorem dX11_word_4 : decode cX11_word 4 = .ok (.invokestatic 113, 3) := by decide +kernel
theorem dX11_word_7 : decode cX11_word 7 = .ok (.ifCond .ne 9, 3) := by decide +kernel
theorem dX11_word_10 : decode cX11_word 10 = .ok (.aload_n 0, 1) := by decide +kernel
theorem dX11_word_11 : decode cX11_word 11 = .ok (.iconst (-1), 1) := by decide +kernel
theorem dX11_word_12 : decode cX11_word 12 = .ok (.invokevirtual 117, 3) := by decide +kernel
theorem dX11_word_15 : decode cX11_word 15 = .ok (.ireturn, 1) := by decide +kernel
theorem dX11_word_16 : decode cX11_word 16 = .ok (.aload_n 0, 1) := by decide +kernel
theorem dX11_word_17 : decode cX11_word 17 = .ok (.getfield 10, 3) := by decide +kernel
theorem dX11_word_20 : decode cX11_word 20 = .ok (.getfield 121, 3) := by decide +kernel
theorem dX11_word_23 : decode cX11_word 23 = .ok (.invokevirtual 124, 3) := by decide +kernel
theorem dX11_word_26 : decode cX11_word 26 = .ok (.istore_n 2, 1) := by decide +kernel
theorem dX11_word_27 : decode cX11_word 27 = .ok (.iload_n 2, 1) := by decide +kernel
theorem dX11_word_28 : decode cX11_word 28 = .ok (.iconst (-1), 1) := by decide +kernel
theorem dX11_word_29 : decode cX11_word 29 = .ok (.if_icmp .ne 10, 3) := by decide +kernel
theorem dX11_word_32 : decode cX11_word 32 = .ok (.aload_n 0, 1) := by decide +kernel
theorem dX11_word_33 : decode cX11_word 33 = .ok (.bipush (-5), 2) := by decide +kernel
theorem dX11_word_35 : decode cX11_word 35 = .ok (.invokevirtual 117, 3) := by decide +kernel
theorem dX11_word_38 : decode cX11_word 38 = .ok (.ireturn, 1) := by decide +kernel
theorem dX11_word_39 : decode cX11_word 39 = .ok (.aload_n 0, 1) := by decide +kernel
theorem dX11_word_40 : decode cX11_word 40 = .ok (.getfield 10, 3) := by decide +kernel
theorem dX11_word_43 : decode cX11_word 43 = .ok (.getfield 121, 3) := by decide +kernel
theorem dX11_word_46 : decode cX11_word 46 = .ok (.iload_n 2, 1) := by decide +kernel
theorem dX11_word_47 : decode cX11_word 47 = .ok (.iconst 0, 1) := by decide +kernel
theorem dX11_word_48 : decode cX11_word 48 = .ok (.iload_n 1, 1) := by decide +kernel
theorem dX11_word_49 : decode cX11_word 49 = .ok (.invokevirtual 128, 3) := by decide +kernel
theorem dX11_word_52 : decode cX11_word 52 = .ok (.aload_n 0, 1) := by decide +kernel
theorem dX11_word_53 : decode cX11_word 53 = .ok (.iload_n 2, 1) := by decide +kernel
theorem dX11_word_54 : decode cX11_word 54 = .ok (.invokevirtual 132, 3) := by decide +kernel
theorem dX11_word_57 : decode cX11_word 57 = .ok (.ireturn, 1) := by decide +kernel
theorem dX11_lengthOf_0 : decode cX11_lengthOf 0 = .ok (.aload_n 0, 1) := by decide +kernel
theorem dX11_lengthOf_1 : decode cX11_lengthOf 1 = .ok (.getfield 10, 3) := by decide +kernel
theorem dX11_lengthOf_4 : decode cX11_lengthOf 4 = .ok (.getfield 121, 3) := by decide +kernel
theorem dX11_lengthOf_7 : decode cX11_lengthOf 7 = .ok (.iload_n 1, 1) := by decide +kernel
theorem dX11_lengthOf_8 : decode cX11_lengthOf 8 = .ok (.iconst 0, 1) := by decide +kernel
theorem dX11_lengthOf_9 : decode cX11_lengthOf 9 = .ok (.invokevirtual 135, 3) := by decide +kernel
theorem dX11_lengthOf_12 : decode cX11_lengthOf 12 = .ok (.ireturn, 1) := by decide +kernel
theorem dX11_rule_0 : decode cX11_rule 0 = .ok (.iload_n 1, 1) := by decide +kernel
theorem dX11_rule_1 : decode cX11_rule 1 = .ok (.invokestatic 139, 3) := by decide +kernel
theorem dX11_rule_4 : decode cX11_rule 4 = .ok (.ifCond .eq 45, 3) := by decide +kernel
theorem dX11_rule_7 : decode cX11_rule 7 = .ok (.iload_n 2, 1) := by decide +kernel
theorem dX11_rule_8 : decode cX11_rule 8 = .ok (.iconst 0, 1) := by decide +kernel
theorem dX11_rule_9 : decode cX11_rule 9 = .ok (.bipush 17, 2) := by decide +kernel
theorem dX11_rule_11 : decode cX11_rule 11 = .ok (.invokestatic 113, 3) := by decide +kernel
theorem dX11_rule_14 : decode cX11_rule 14 = .ok (.ifCond .eq 35, 3) := by decide +kernel
theorem dX11_rule_17 : decode cX11_rule 17 = .ok (.iload_n 3, 1) := by decide +kernel
theorem dX11_rule_18 : decode cX11_rule 18 = .ok (.iconst (-1), 1) := by decide +kernel
theorem dX11_rule_19 : decode cX11_rule 19 = .ok (.bipush 17, 2) := by decide +kernel
theorem dX11_rule_21 : decode cX11_rule 21 = .ok (.invokestatic 113, 3) := by decide +kernel
theorem dX11_rule_24 : decode cX11_rule 24 = .ok (.ifCond .eq 25, 3) := by decide +kernel
theorem dX11_rule_27 : decode cX11_rule 27 = .ok (.iload 4, 2) := by decide +kernel
theorem dX11_rule_29 : decode cX11_rule 29 = .ok (.iconst (-1), 1) := by decide +kernel
theorem dX11_rule_30 : decode cX11_rule 30 = .ok (.bipush 17, 2) := by decide +kernel
theorem dX11_rule_32 : decode cX11_rule 32 = .ok (.invokestatic 113, 3) := by decide +kernel
theorem dX11_rule_35 : decode cX11_rule 35 = .ok (.ifCond .eq 14, 3) := by decide +kernel
theorem dX11_rule_38 : decode cX11_rule 38 = .ok (.iload_n 3, 1) := by decide +kernel
theorem dX11_rule_39 : decode cX11_rule 39 = .ok (.iconst (-1), 1) := by decide +kernel
theorem dX11_rule_40 : decode cX11_rule 40 = .ok (.if_icmp .ne 15, 3) := by decide +kernel
theorem dX11_rule_43 : decode cX11_rule 43 = .ok (.iload 4, 2) := by decide +kernel
theorem dX11_rule_45 : decode cX11_rule 45 = .ok (.iconst (-1), 1) := by decide +kernel
theorem dX11_rule_46 : decode cX11_rule 46 = .ok (.if_icmp .eq 9, 3) := by decide +kernel
theorem dX11_rule_49 : decode cX11_rule 49 = .ok (.aload_n 0, 1) := by decide +kernel
theorem dX11_rule_50 : decode cX11_rule 50 = .ok (.iconst (-1), 1) := by decide +kernel
theorem dX11_rule_51 : decode cX11_rule 51 = .ok (.invokevirtual 117, 3) := by decide +kernel
theorem dX11_rule_54 : decode cX11_rule 54 = .ok (.ireturn, 1) := by decide +kernel
theorem dX11_rule_55 : decode cX11_rule 55 = .ok (.aload_n 0, 1) := by decide +kernel
theorem dX11_rule_56 : decode cX11_rule 56 = .ok (.iload_n 2, 1) := by decide +kernel
theorem dX11_rule_57 : decode cX11_rule 57 = .ok (.invokevirtual 143, 3) := by decide +kernel
theorem dX11_rule_60 : decode cX11_rule 60 = .ok (.ifCond .ne 20, 3) := by decide +kernel
theorem dX11_rule_63 : decode cX11_rule 63 = .ok (.aload_n 0, 1) := by decide +kernel
theorem dX11_rule_64 : decode cX11_rule 64 = .ok (.iload_n 3, 1) := by decide +kernel
theorem dX11_rule_65 : decode cX11_rule 65 = .ok (.invokevirtual 143, 3) := by decide +kernel
theorem dX11_rule_68 : decode cX11_rule 68 = .ok (.ifCond .ne 12, 3) := by decide +kernel
theorem dX11_rule_71 : decode cX11_rule 71 = .ok (.aload_n 0, 1) := by decide +kernel
theorem dX11_rule_72 : decode cX11_rule 72 = .ok (.iload 4, 2) := by decide +kernel
theorem dX11_rule_74 : decode cX11_rule 74 = .ok (.invokevirtual 143, 3) := by decide +kernel
theorem dX11_rule_77 : decode cX11_rule 77 = .ok (.ifCond .eq 10, 3) := by decide +kernel
theorem dX11_rule_80 : decode cX11_rule 80 = .ok (.aload_n 0, 1) := by decide +kernel
theorem dX11_rule_81 : decode cX11_rule 81 = .ok (.bipush (-2), 2) := by decide +kernel
theorem dX11_rule_83 : decode cX11_rule 83 = .ok (.invokevirtual 117, 3) := by decide +kernel
theorem dX11_rule_86 : decode cX11_rule 86 = .ok (.ireturn, 1) := by decide +kernel
theorem dX11_rule_87 : decode cX11_rule 87 = .ok (.aload_n 0, 1) := by decide +kernel
theorem dX11_rule_88 : decode cX11_rule 88 = .ok (.getfield 10, 3) := by decide +kernel
theorem dX11_rule_91 : decode cX11_rule 91 = .ok (.getfield 146, 3) := by decide +kernel
theorem dX11_rule_94 : decode cX11_rule 94 = .ok (.invokevirtual 124, 3) := by decide +kernel
theorem dX11_rule_97 : decode cX11_rule 97 = .ok (.istore 5, 2) := by decide +kernel
theorem dX11_rule_99 : decode cX11_rule 99 = .ok (.iload 5, 2) := by decide +kernel
theorem dX11_rule_101 : decode cX11_rule 101 = .ok (.iconst (-1), 1) := by decide +kernel
theorem dX11_rule_102 : decode cX11_rule 102 = .ok (.if_icmp .ne 10, 3) := by decide +kernel
theorem dX11_rule_105 : decode cX11_rule 105 = .ok (.aload_n 0, 1) := by decide +kernel
theorem dX11_rule_106 : decode cX11_rule 106 = .ok (.bipush (-5), 2) := by decide +kernel
theorem dX11_rule_108 : decode cX11_rule 108 = .ok (.invokevirtual 117, 3) := by decide +kernel
theorem dX11_rule_111 : decode cX11_rule 111 = .ok (.ireturn, 1) := by decide +kernel
theorem dX11_rule_112 : decode cX11_rule 112 = .ok (.aload_n 0, 1) := by decide +kernel
theorem dX11_rule_113 : decode cX11_rule 113 = .ok (.getfield 10, 3) := by decide +kernel
theorem dX11_rule_116 : decode cX11_rule 116 = .ok (.getfield 146, 3) := by decide +kernel
theorem dX11_rule_119 : decode cX11_rule 119 = .ok (.iload 5, 2) := by decide +kernel
theorem dX11_rule_121 : decode cX11_rule 121 = .ok (.iconst 0, 1) := by decide +kernel
theorem dX11_rule_122 : decode cX11_rule 122 = .ok (.iload_n 1, 1) := by decide +kernel
theorem dX11_rule_123 : decode cX11_rule 123 = .ok (.invokevirtual 128, 3) := by decide +kernel
theorem dX11_rule_126 : decode cX11_rule 126 = .ok (.aload_n 0, 1) := by decide +kernel
theorem dX11_rule_127 : decode cX11_rule 127 = .ok (.getfield 10, 3) := by decide +kernel
theorem dX11_rule_130 : decode cX11_rule 130 = .ok (.getfield 146, 3) := by decide +kernel
theorem dX11_rule_133 : decode cX11_rule 133 = .ok (.iload 5, 2) := by decide +kernel
theorem dX11_rule_135 : decode cX11_rule 135 = .ok (.iconst 1, 1) := by decide +kernel
theorem dX11_rule_136 : decode cX11_rule 136 = .ok (.iload_n 2, 1) := by decide +kernel
theorem dX11_rule_137 : decode cX11_rule 137 = .ok (.invokevirtual 128, 3) := by decide +kernel
theorem dX11_rule_140 : decode cX11_rule 140 = .ok (.aload_n 0, 1) := by decide +kernel
theorem dX11_rule_141 : decode cX11_rule 141 = .ok (.getfield 10, 3) := by decide +kernel
theorem dX11_rule_144 : decode cX11_rule 144 = .ok (.getfield 146, 3) := by decide +kernel
theorem dX11_rule_147 : decode cX11_rule 147 = .ok (.iload 5, 2) := by decide +kernel
theorem dX11_rule_149 : decode cX11_rule 149 = .ok (.iconst 2, 1) := by decide +kernel
theorem dX11_rule_150 : decode cX11_rule 150 = .ok (.iload_n 3, 1) := by decide +kernel
theorem dX11_rule_151 : decode cX11_rule 151 = .ok (.invokevirtual 128, 3) := by decide +kernel
theorem dX11_rule_154 : decode cX11_rule 154 = .ok (.aload_n 0, 1) := by decide +kernel
theorem dX11_rule_155 : decode cX11_rule 155 = .ok (.getfield 10, 3) := by decide +kernel
theorem dX11_rule_158 : decode cX11_rule 158 = .ok (.getfield 146, 3) := by decide +kernel
theorem dX11_rule_161 : decode cX11_rule 161 = .ok (.iload 5, 2) := by decide +kernel
theorem dX11_rule_163 : decode cX11_rule 163 = .ok (.iconst 3, 1) := by decide +kernel
theorem dX11_rule_164 : decode cX11_rule 164 = .ok (.iload 4, 2) := by decide +kernel
theorem dX11_rule_166 : decode cX11_rule 166 = .ok (.invokevirtual 128, 3) := by decide +kernel
theorem dX11_rule_169 : decode cX11_rule 169 = .ok (.aload_n 0, 1) := by decide +kernel
theorem dX11_rule_170 : decode cX11_rule 170 = .ok (.iload 5, 2) := by decide +kernel
theorem dX11_rule_172 : decode cX11_rule 172 = .ok (.invokevirtual 132, 3) := by decide +kernel
theorem dX11_rule_175 : decode cX11_rule 175 = .ok (.ireturn, 1) := by decide +kernel
theorem dX11_of_0 : decode cX11_of 0 = .ok (.aload_n 0, 1) := by decide +kernel
theorem dX11_of_1 : decode cX11_of 1 = .ok (.getfield 10, 3) := by decide +kernel
theorem dX11_of_4 : decode cX11_of 4 = .ok (.getfield 146, 3) := by decide +kernel
theorem dX11_of_7 : decode cX11_of 7 = .ok (.iload_n 1, 1) := by decide +kernel
theorem dX11_of_8 : decode cX11_of 8 = .ok (.iload_n 2, 1) := by decide +kernel
theorem dX11_of_9 : decode cX11_of 9 = .ok (.invokevirtual 135, 3) := by decide +kernel
theorem dX11_of_12 : decode cX11_of 12 = .ok (.ireturn, 1) := by decide +kernel
theorem dX11_clash_0 : decode cX11_clash 0 = .ok (.iload_n 1, 1) := by decide +kernel
theorem dX11_clash_1 : decode cX11_clash 1 = .ok (.invokestatic 139, 3) := by decide +kernel
theorem dX11_clash_4 : decode cX11_clash 4 = .ok (.ifCond .eq 24, 3) := by decide +kernel
theorem dX11_clash_7 : decode cX11_clash 7 = .ok (.iload_n 2, 1) := by decide +kernel
theorem dX11_clash_8 : decode cX11_clash 8 = .ok (.invokestatic 139, 3) := by decide +kernel
theorem dX11_clash_11 : decode cX11_clash 11 = .ok (.ifCond .eq 17, 3) := by decide +kernel
theorem dX11_clash_14 : decode cX11_clash 14 = .ok (.iload_n 1, 1) := by decide +kernel
theorem dX11_clash_15 : decode cX11_clash 15 = .ok (.iload_n 2, 1) := by decide +kernel
theorem dX11_clash_16 : decode cX11_clash 16 = .ok (.if_icmp .eq 12, 3) := by decide +kernel
theorem dX11_clash_19 : decode cX11_clash 19 = .ok (.iload_n 3, 1) := by decide +kernel
theorem dX11_clash_20 : decode cX11_clash 20 = .ok (.iconst 0, 1) := by decide +kernel
theorem dX11_clash_21 : decode cX11_clash 21 = .ok (.iconst 1, 1) := by decide +kernel
theorem dX11_clash_22 : decode cX11_clash 22 = .ok (.invokestatic 113, 3) := by decide +kernel
theorem dX11_clash_25 : decode cX11_clash 25 = .ok (.ifCond .ne 9, 3) := by decide +kernel
theorem dX11_clash_28 : decode cX11_clash 28 = .ok (.aload_n 0, 1) := by decide +kernel
theorem dX11_clash_29 : decode cX11_clash 29 = .ok (.iconst (-1), 1) := by decide +kernel
theorem dX11_clash_30 : decode cX11_clash 30 = .ok (.invokevirtual 117, 3) := by decide +kernel
theorem dX11_clash_33 : decode cX11_clash 33 = .ok (.ireturn, 1) := by decide +kernel
theorem dX11_clash_34 : decode cX11_clash 34 = .ok (.aload_n 0, 1) := by decide +kernel
theorem dX11_clash_35 : decode cX11_clash 35 = .ok (.aload_n 0, 1) := by decide +kernel
theorem dX11_clash_36 : decode cX11_clash 36 = .ok (.getfield 10, 3) := by decide +kernel
theorem dX11_clash_39 : decode cX11_clash 39 = .ok (.iload_n 1, 1) := by decide +kernel
theorem dX11_clash_40 : decode cX11_clash 40 = .ok (.iload_n 2, 1) := by decide +kernel
theorem dX11_clash_41 : decode cX11_clash 41 = .ok (.iload_n 3, 1) := by decide +kernel
theorem dX11_clash_42 : decode cX11_clash 42 = .ok (.invokevirtual 149, 3) := by decide +kernel
theorem dX11_clash_45 : decode cX11_clash 45 = .ok (.invokevirtual 132, 3) := by decide +kernel
theorem dX11_clash_48 : decode cX11_clash 48 = .ok (.ireturn, 1) := by decide +kernel
theorem dX11_often_0 : decode cX11_often 0 = .ok (.iload_n 1, 1) := by decide +kernel
theorem dX11_often_1 : decode cX11_often 1 = .ok (.invokestatic 139, 3) := by decide +kernel
theorem dX11_often_4 : decode cX11_often 4 = .ok (.ifCond .eq 13, 3) := by decide +kernel
theorem dX11_often_7 : decode cX11_often 7 = .ok (.iload_n 2, 1) := by decide +kernel
theorem dX11_often_8 : decode cX11_often 8 = .ok (.iconst 0, 1) := by decide +kernel
theorem dX11_often_9 : decode cX11_often 9 = .ok (.bipush 99, 2) := by decide +kernel
theorem dX11_often_11 : decode cX11_often 11 = .ok (.invokestatic 113, 3) := by decide +kernel
theorem dX11_often_14 : decode cX11_often 14 = .ok (.ifCond .ne 9, 3) := by decide +kernel
theorem dX11_often_17 : decode cX11_often 17 = .ok (.aload_n 0, 1) := by decide +kernel
theorem dX11_often_18 : decode cX11_often 18 = .ok (.iconst (-1), 1) := by decide +kernel
theorem dX11_often_19 : decode cX11_often 19 = .ok (.invokevirtual 117, 3) := by decide +kernel
theorem dX11_often_22 : decode cX11_often 22 = .ok (.ireturn, 1) := by decide +kernel
theorem dX11_often_23 : decode cX11_often 23 = .ok (.aload_n 0, 1) := by decide +kernel
theorem dX11_often_24 : decode cX11_often 24 = .ok (.getfield 10, 3) := by decide +kernel
theorem dX11_often_27 : decode cX11_often 27 = .ok (.getfield 153, 3) := by decide +kernel
theorem dX11_often_30 : decode cX11_often 30 = .ok (.iload_n 1, 1) := by decide +kernel
theorem dX11_often_31 : decode cX11_often 31 = .ok (.iaload, 1) := by decide +kernel
theorem dX11_often_32 : decode cX11_often 32 = .ok (.istore_n 3, 1) := by decide +kernel
theorem dX11_often_33 : decode cX11_often 33 = .ok (.aload_n 0, 1) := by decide +kernel
theorem dX11_often_34 : decode cX11_often 34 = .ok (.getfield 10, 3) := by decide +kernel
theorem dX11_often_37 : decode cX11_often 37 = .ok (.getfield 153, 3) := by decide +kernel
theorem dX11_often_40 : decode cX11_often 40 = .ok (.iload_n 1, 1) := by decide +kernel
theorem dX11_often_41 : decode cX11_often 41 = .ok (.iload_n 2, 1) := by decide +kernel
theorem dX11_often_42 : decode cX11_often 42 = .ok (.iastore, 1) := by decide +kernel
theorem dX11_often_43 : decode cX11_often 43 = .ok (.aload_n 0, 1) := by decide +kernel
theorem dX11_often_44 : decode cX11_often 44 = .ok (.iload_n 3, 1) := by decide +kernel
theorem dX11_often_45 : decode cX11_often 45 = .ok (.invokevirtual 132, 3) := by decide +kernel
theorem dX11_often_48 : decode cX11_often 48 = .ok (.ireturn, 1) := by decide +kernel
theorem dX11_person_0 : decode cX11_person 0 = .ok (.iload_n 1, 1) := by decide +kernel
theorem dX11_person_1 : decode cX11_person 1 = .ok (.iconst 0, 1) := by decide +kernel
theorem dX11_person_2 : decode cX11_person 2 = .ok (.bipush 99, 2) := by decide +kernel
theorem dX11_person_4 : decode cX11_person 4 = .ok (.invokestatic 113, 3) := by decide +kernel
theorem dX11_person_7 : decode cX11_person 7 = .ok (.ifCond .ne 9, 3) := by decide +kernel
theorem dX11_person_10 : decode cX11_person 10 = .ok (.aload_n 0, 1) := by decide +kernel
theorem dX11_person_11 : decode cX11_person 11 = .ok (.iconst (-1), 1) := by decide +kernel
theorem dX11_person_12 : decode cX11_person 12 = .ok (.invokevirtual 117, 3) := by decide +kernel
theorem dX11_person_15 : decode cX11_person 15 = .ok (.ireturn, 1) := by decide +kernel
theorem dX11_person_16 : decode cX11_person 16 = .ok (.aload_n 0, 1) := by decide +kernel
theorem dX11_person_17 : decode cX11_person 17 = .ok (.getfield 10, 3) := by decide +kernel
theorem dX11_person_20 : decode cX11_person 20 = .ok (.getfield 156, 3) := by decide +kernel
theorem dX11_person_23 : decode cX11_person 23 = .ok (.invokevirtual 124, 3) := by decide +kernel
theorem dX11_person_26 : decode cX11_person 26 = .ok (.istore_n 2, 1) := by decide +kernel
theorem dX11_person_27 : decode cX11_person 27 = .ok (.iload_n 2, 1) := by decide +kernel
theorem dX11_person_28 : decode cX11_person 28 = .ok (.iconst (-1), 1) := by decide +kernel
theorem dX11_person_29 : decode cX11_person 29 = .ok (.if_icmp .ne 10, 3) := by decide +kernel
theorem dX11_person_32 : decode cX11_person 32 = .ok (.aload_n 0, 1) := by decide +kernel
theorem dX11_person_33 : decode cX11_person 33 = .ok (.bipush (-5), 2) := by decide +kernel
theorem dX11_person_35 : decode cX11_person 35 = .ok (.invokevirtual 117, 3) := by decide +kernel
theorem dX11_person_38 : decode cX11_person 38 = .ok (.ireturn, 1) := by decide +kernel
theorem dX11_person_39 : decode cX11_person 39 = .ok (.aload_n 0, 1) := by decide +kernel
theorem dX11_person_40 : decode cX11_person 40 = .ok (.getfield 10, 3) := by decide +kernel
theorem dX11_person_43 : decode cX11_person 43 = .ok (.getfield 156, 3) := by decide +kernel
theorem dX11_person_46 : decode cX11_person 46 = .ok (.iload_n 2, 1) := by decide +kernel
theorem dX11_person_47 : decode cX11_person 47 = .ok (.iconst 0, 1) := by decide +kernel
theorem dX11_person_48 : decode cX11_person 48 = .ok (.iload_n 1, 1) := by decide +kernel
theorem dX11_person_49 : decode cX11_person 49 = .ok (.invokevirtual 128, 3) := by decide +kernel
theorem dX11_person_52 : decode cX11_person 52 = .ok (.aload_n 0, 1) := by decide +kernel
theorem dX11_person_53 : decode cX11_person 53 = .ok (.iload_n 2, 1) := by decide +kernel
theorem dX11_person_54 : decode cX11_person 54 = .ok (.invokevirtual 132, 3) := by decide +kernel
theorem dX11_person_57 : decode cX11_person 57 = .ok (.ireturn, 1) := by decide +kernel
theorem dX11_breath_0 : decode cX11_breath 0 = .ok (.iload_n 2, 1) := by decide +kernel
theorem dX11_breath_1 : decode cX11_breath 1 = .ok (.iconst 1, 1) := by decide +kernel
theorem dX11_breath_2 : decode cX11_breath 2 = .ok (.if_icmp .ne 40, 3) := by decide +kernel
theorem dX11_breath_5 : decode cX11_breath 5 = .ok (.aload_n 0, 1) := by decide +kernel
theorem dX11_breath_6 : decode cX11_breath 6 = .ok (.getfield 10, 3) := by decide +kernel
theorem dX11_breath_9 : decode cX11_breath 9 = .ok (.getfield 156, 3) := by decide +kernel
theorem dX11_breath_12 : decode cX11_breath 12 = .ok (.iload_n 1, 1) := by decide +kernel
theorem dX11_breath_13 : decode cX11_breath 13 = .ok (.invokevirtual 159, 3) := by decide +kernel
theorem dX11_breath_16 : decode cX11_breath 16 = .ok (.ifCond .eq 26, 3) := by decide +kernel
theorem dX11_breath_19 : decode cX11_breath 19 = .ok (.aload_n 0, 1) := by decide +kernel
theorem dX11_breath_20 : decode cX11_breath 20 = .ok (.getfield 52, 3) := by decide +kernel
theorem dX11_breath_23 : decode cX11_breath 23 = .ok (.aload_n 0, 1) := by decide +kernel
theorem dX11_breath_24 : decode cX11_breath 24 = .ok (.getfield 10, 3) := by decide +kernel
theorem dX11_breath_27 : decode cX11_breath 27 = .ok (.iload_n 1, 1) := by decide +kernel
theorem dX11_breath_28 : decode cX11_breath 28 = .ok (.aload_n 0, 1) := by decide +kernel
theorem dX11_breath_29 : decode cX11_breath 29 = .ok (.getfield 10, 3) := by decide +kernel
theorem dX11_breath_32 : decode cX11_breath 32 = .ok (.getfield 162, 3) := by decide +kernel
theorem dX11_breath_35 : decode cX11_breath 35 = .ok (.getfield 165, 3) := by decide +kernel
theorem dX11_breath_38 : decode cX11_breath 38 = .ok (.invokevirtual 168, 3) := by decide +kernel
theorem dX11_breath_41 : decode cX11_breath 41 = .ok (.ireturn, 1) := by decide +kernel
theorem dX11_breath_42 : decode cX11_breath 42 = .ok (.aload_n 0, 1) := by decide +kernel
theorem dX11_breath_43 : decode cX11_breath 43 = .ok (.getfield 10, 3) := by decide +kernel
theorem dX11_breath_46 : decode cX11_breath 46 = .ok (.getfield 156, 3) := by decide +kernel
theorem dX11_breath_49 : decode cX11_breath 49 = .ok (.iload_n 1, 1) := by decide +kernel
theorem dX11_breath_50 : decode cX11_breath 50 = .ok (.iload_n 2, 1) := by decide +kernel
theorem dX11_breath_51 : decode cX11_breath 51 = .ok (.invokevirtual 135, 3) := by decide +kernel
theorem dX11_breath_54 : decode cX11_breath 54 = .ok (.ireturn, 1) := by decide +kernel
theorem dX11_terms_0 : decode cX11_terms 0 = .ok (.iload_n 1, 1) := by decide +kernel
theorem dX11_terms_1 : decode cX11_terms 1 = .ok (.iconst 0, 1) := by decide +kernel
theorem dX11_terms_2 : decode cX11_terms 2 = .ok (.iconst 3, 1) := by decide +kernel
theorem dX11_terms_3 : decode cX11_terms 3 = .ok (.invokestatic 113, 3) := by decide +kernel
theorem dX11_terms_6 : decode cX11_terms 6 = .ok (.ifCond .eq 18, 3) := by decide +kernel
theorem dX11_terms_9 : decode cX11_terms 9 = .ok (.iload_n 2, 1) := by decide +kernel
theorem dX11_terms_10 : decode cX11_terms 10 = .ok (.iload_n 1, 1) := by decide +kernel
theorem dX11_terms_11 : decode cX11_terms 11 = .ok (.invokestatic 172, 3) := by decide +kernel
theorem dX11_terms_14 : decode cX11_terms 14 = .ok (.iload_n 1, 1) := by decide +kernel
theorem dX11_terms_15 : decode cX11_terms 15 = .ok (.invokestatic 175, 3) := by decide +kernel
theorem dX11_terms_18 : decode cX11_terms 18 = .ok (.invokestatic 113, 3) := by decide +kernel
theorem dX11_terms_21 : decode cX11_terms 21 = .ok (.ifCond .ne 9, 3) := by decide +kernel
theorem dX11_terms_24 : decode cX11_terms 24 = .ok (.aload_n 0, 1) := by decide +kernel
theorem dX11_terms_25 : decode cX11_terms 25 = .ok (.iconst (-1), 1) := by decide +kernel
theorem dX11_terms_26 : decode cX11_terms 26 = .ok (.invokevirtual 117, 3) := by decide +kernel
theorem dX11_terms_29 : decode cX11_terms 29 = .ok (.ireturn, 1) := by decide +kernel
theorem dX11_terms_30 : decode cX11_terms 30 = .ok (.aload_n 0, 1) := by decide +kernel
theorem dX11_terms_31 : decode cX11_terms 31 = .ok (.getfield 10, 3) := by decide +kernel
theorem dX11_terms_34 : decode cX11_terms 34 = .ok (.iload_n 1, 1) := by decide +kernel
theorem dX11_terms_35 : decode cX11_terms 35 = .ok (.invokevirtual 178, 3) := by decide +kernel
theorem dX11_terms_38 : decode cX11_terms 38 = .ok (.istore_n 3, 1) := by decide +kernel
theorem dX11_terms_39 : decode cX11_terms 39 = .ok (.aload_n 0, 1) := by decide +kernel
theorem dX11_terms_40 : decode cX11_terms 40 = .ok (.getfield 10, 3) := by decide +kernel
theorem dX11_terms_43 : decode cX11_terms 43 = .ok (.iload_n 1, 1) := by decide +kernel
theorem dX11_terms_44 : decode cX11_terms 44 = .ok (.iload_n 2, 1) := by decide +kernel
theorem dX11_terms_45 : decode cX11_terms 45 = .ok (.invokevirtual 181, 3) := by decide +kernel
theorem dX11_terms_48 : decode cX11_terms 48 = .ok (.aload_n 0, 1) := by decide +kernel
theorem dX11_terms_49 : decode cX11_terms 49 = .ok (.getfield 75, 3) := by decide +kernel
theorem dX11_terms_52 : decode cX11_terms 52 = .ok (.iconst 0, 1) := by decide +kernel
theorem dX11_terms_53 : decode cX11_terms 53 = .ok (.invokevirtual 184, 3) := by decide +kernel
theorem dX11_terms_56 : decode cX11_terms 56 = .ok (.aload_n 0, 1) := by decide +kernel
theorem dX11_terms_57 : decode cX11_terms 57 = .ok (.iload_n 3, 1) := by decide +kernel
theorem dX11_terms_58 : decode cX11_terms 58 = .ok (.invokevirtual 132, 3) := by decide +kernel
theorem dX11_terms_61 : decode cX11_terms 61 = .ok (.ireturn, 1) := by decide +kernel
theorem dX11_feed_0 : decode cX11_feed 0 = .ok (.aload_n 0, 1) := by decide +kernel
theorem dX11_feed_1 : decode cX11_feed 1 = .ok (.getfield 29, 3) := by decide +kernel
theorem dX11_feed_4 : decode cX11_feed 4 = .ok (.getfield 188, 3) := by decide +kernel
theorem dX11_feed_7 : decode cX11_feed 7 = .ok (.sipush 380, 3) := by decide +kernel
theorem dX11_feed_10 : decode cX11_feed 10 = .ok (.if_icmp .le 5, 3) := by decide +kernel
theorem dX11_feed_13 : decode cX11_feed 13 = .ok (.iconst (-1), 1) := by decide +kernel
theorem dX11_feed_14 : decode cX11_feed 14 = .ok (.ireturn, 1) := by decide +kernel
theorem dX11_feed_15 : decode cX11_feed 15 = .ok (.aload_n 0, 1) := by decide +kernel
theorem dX11_feed_16 : decode cX11_feed 16 = .ok (.iload_n 1, 1) := by decide +kernel
theorem dX11_feed_17 : decode cX11_feed 17 = .ok (.invokevirtual 191, 3) := by decide +kernel
theorem dX11_feed_20 : decode cX11_feed 20 = .ok (.aload_n 0, 1) := by decide +kernel
theorem dX11_feed_21 : decode cX11_feed 21 = .ok (.iload_n 2, 1) := by decide +kernel
theorem dX11_feed_22 : decode cX11_feed 22 = .ok (.invokevirtual 191, 3) := by decide +kernel
theorem dX11_feed_25 : decode cX11_feed 25 = .ok (.aload_n 0, 1) := by decide +kernel
theorem dX11_feed_26 : decode cX11_feed 26 = .ok (.iload_n 3, 1) := by decide +kernel
theorem dX11_feed_27 : decode cX11_feed 27 = .ok (.invokevirtual 191, 3) := by decide +kernel
theorem dX11_feed_30 : decode cX11_feed 30 = .ok (.aload_n 0, 1) := by decide +kernel
theorem dX11_feed_31 : decode cX11_feed 31 = .ok (.iload 4, 2) := by decide +kernel
theorem dX11_feed_33 : decode cX11_feed 33 = .ok (.invokevirtual 191, 3) := by decide +kernel
theorem dX11_feed_36 : decode cX11_feed 36 = .ok (.aload_n 0, 1) := by decide +kernel
theorem dX11_feed_37 : decode cX11_feed 37 = .ok (.iload 5, 2) := by decide +kernel
theorem dX11_feed_39 : decode cX11_feed 39 = .ok (.invokevirtual 191, 3) := by decide +kernel
theorem dX11_feed_42 : decode cX11_feed 42 = .ok (.aload_n 0, 1) := by decide +kernel
theorem dX11_feed_43 : decode cX11_feed 43 = .ok (.getfield 29, 3) := by decide +kernel
theorem dX11_feed_46 : decode cX11_feed 46 = .ok (.getfield 188, 3) := by decide +kernel
theorem dX11_feed_49 : decode cX11_feed 49 = .ok (.ireturn, 1) := by decide +kernel
theorem dX11_end_0 : decode cX11_end 0 = .ok (.iload_n 1, 1) := by decide +kernel
theorem dX11_end_1 : decode cX11_end 1 = .ok (.iconst 0, 1) := by decide +kernel
theorem dX11_end_2 : decode cX11_end 2 = .ok (.aload_n 0, 1) := by decide +kernel
theorem dX11_end_3 : decode cX11_end 3 = .ok (.getfield 29, 3) := by decide +kernel
theorem dX11_end_6 : decode cX11_end 6 = .ok (.getfield 188, 3) := by decide +kernel
theorem dX11_end_9 : decode cX11_end 9 = .ok (.invokestatic 113, 3) := by decide +kernel
theorem dX11_end_12 : decode cX11_end 12 = .ok (.ifCond .ne 5, 3) := by decide +kernel
theorem dX11_end_15 : decode cX11_end 15 = .ok (.iconst (-1), 1) := by decide +kernel
theorem dX11_end_16 : decode cX11_end 16 = .ok (.ireturn, 1) := by decide +kernel
theorem dX11_end_17 : decode cX11_end 17 = .ok (.aload_n 0, 1) := by decide +kernel
theorem dX11_end_18 : decode cX11_end 18 = .ok (.getfield 29, 3) := by decide +kernel
theorem dX11_end_21 : decode cX11_end 21 = .ok (.iload_n 1, 1) := by decide +kernel
theorem dX11_end_22 : decode cX11_end 22 = .ok (.invokevirtual 184, 3) := by decide +kernel
theorem dX11_end_25 : decode cX11_end 25 = .ok (.iload_n 1, 1) := by decide +kernel
theorem dX11_end_26 : decode cX11_end 26 = .ok (.ireturn, 1) := by decide +kernel
theorem dX11_row_0 : decode cX11_row 0 = .ok (.aload_n 0, 1) := by decide +kernel
theorem dX11_row_1 : decode cX11_row 1 = .ok (.getfield 29, 3) := by decide +kernel
theorem dX11_row_4 : decode cX11_row 4 = .ok (.getfield 188, 3) := by decide +kernel
theorem dX11_row_7 : decode cX11_row 7 = .ok (.ifCond .ne 10, 3) := by decide +kernel
theorem dX11_row_10 : decode cX11_row 10 = .ok (.aload_n 0, 1) := by decide +kernel
theorem dX11_row_11 : decode cX11_row 11 = .ok (.bipush (-6), 2) := by decide +kernel
theorem dX11_row_13 : decode cX11_row 13 = .ok (.invokevirtual 117, 3) := by decide +kernel
theorem dX11_row_16 : decode cX11_row 16 = .ok (.ireturn, 1) := by decide +kernel
theorem dX11_row_17 : decode cX11_row 17 = .ok (.iconst 0, 1) := by decide +kernel
theorem dX11_row_18 : decode cX11_row 18 = .ok (.istore_n 1, 1) := by decide +kernel
theorem dX11_row_19 : decode cX11_row 19 = .ok (.aload_n 0, 1) := by decide +kernel
theorem dX11_row_20 : decode cX11_row 20 = .ok (.iconst 0, 1) := by decide +kernel
theorem dX11_row_21 : decode cX11_row 21 = .ok (.putfield 194, 3) := by decide +kernel
theorem dX11_row_24 : decode cX11_row 24 = .ok (.iconst 0, 1) := by decide +kernel
theorem dX11_row_25 : decode cX11_row 25 = .ok (.istore_n 2, 1) := by decide +kernel
theorem dX11_row_26 : decode cX11_row 26 = .ok (.iload_n 2, 1) := by decide +kernel
theorem dX11_row_27 : decode cX11_row 27 = .ok (.aload_n 0, 1) := by decide +kernel
theorem dX11_row_28 : decode cX11_row 28 = .ok (.getfield 29, 3) := by decide +kernel
theorem dX11_row_31 : decode cX11_row 31 = .ok (.getfield 188, 3) := by decide +kernel
theorem dX11_row_34 : decode cX11_row 34 = .ok (.if_icmp .ge 71, 3) := by decide +kernel
theorem dX11_row_37 : decode cX11_row 37 = .ok (.aload_n 0, 1) := by decide +kernel
theorem dX11_row_38 : decode cX11_row 38 = .ok (.aload_n 0, 1) := by decide +kernel
theorem dX11_row_39 : decode cX11_row 39 = .ok (.getfield 10, 3) := by decide +kernel
theorem dX11_row_42 : decode cX11_row 42 = .ok (.getfield 162, 3) := by decide +kernel
theorem dX11_row_45 : decode cX11_row 45 = .ok (.aload_n 0, 1) := by decide +kernel
theorem dX11_row_46 : decode cX11_row 46 = .ok (.getfield 29, 3) := by decide +kernel
theorem dX11_row_49 : decode cX11_row 49 = .ok (.iload_n 2, 1) := by decide +kernel
theorem dX11_row_50 : decode cX11_row 50 = .ok (.iconst 0, 1) := by decide +kernel
theorem dX11_row_51 : decode cX11_row 51 = .ok (.invokevirtual 135, 3) := by decide +kernel
theorem dX11_row_54 : decode cX11_row 54 = .ok (.aload_n 0, 1) := by decide +kernel
theorem dX11_row_55 : decode cX11_row 55 = .ok (.getfield 29, 3) := by decide +kernel
theorem dX11_row_58 : decode cX11_row 58 = .ok (.iload_n 2, 1) := by decide +kernel
theorem dX11_row_59 : decode cX11_row 59 = .ok (.iconst 1, 1) := by decide +kernel
theorem dX11_row_60 : decode cX11_row 60 = .ok (.iadd, 1) := by decide +kernel
theorem dX11_row_61 : decode cX11_row 61 = .ok (.iconst 0, 1) := by decide +kernel
theorem dX11_row_62 : decode cX11_row 62 = .ok (.invokevirtual 135, 3) := by decide +kernel
theorem dX11_row_65 : decode cX11_row 65 = .ok (.aload_n 0, 1) := by decide +kernel
theorem dX11_row_66 : decode cX11_row 66 = .ok (.getfield 29, 3) := by decide +kernel
theorem dX11_row_69 : decode cX11_row 69 = .ok (.iload_n 2, 1) := by decide +kernel
theorem dX11_row_70 : decode cX11_row 70 = .ok (.iconst 2, 1) := by decide +kernel
theorem dX11_row_71 : decode cX11_row 71 = .ok (.iadd, 1) := by decide +kernel
theorem dX11_row_72 : decode cX11_row 72 = .ok (.iconst 0, 1) := by decide +kernel
theorem dX11_row_73 : decode cX11_row 73 = .ok (.invokevirtual 135, 3) := by decide +kernel
theorem dX11_row_76 : decode cX11_row 76 = .ok (.iconst 1, 1) := by decide +kernel
theorem dX11_row_77 : decode cX11_row 77 = .ok (.invokevirtual 197, 3) := by decide +kernel
theorem dX11_row_80 : decode cX11_row 80 = .ok (.ifCond .ne 9, 3) := by decide +kernel
theorem dX11_row_83 : decode cX11_row 83 = .ok (.iinc 1 1, 3) := by decide +kernel
theorem dX11_row_86 : decode cX11_row 86 = .ok (.goto 13, 3) := by decide +kernel
theorem dX11_row_89 : decode cX11_row 89 = .ok (.aload_n 0, 1) := by decide +kernel
theorem dX11_row_90 : decode cX11_row 90 = .ok (.dup, 1) := by decide +kernel
theorem dX11_row_91 : decode cX11_row 91 = .ok (.getfield 194, 3) := by decide +kernel
theorem dX11_row_94 : decode cX11_row 94 = .ok (.iconst 1, 1) := by decide +kernel
theorem dX11_row_95 : decode cX11_row 95 = .ok (.iadd, 1) := by decide +kernel
theorem dX11_row_96 : decode cX11_row 96 = .ok (.putfield 194, 3) := by decide +kernel
theorem dX11_row_99 : decode cX11_row 99 = .ok (.iinc 2 3, 3) := by decide +kernel
theorem dX11_row_102 : decode cX11_row 102 = .ok (.goto (-76), 3) := by decide +kernel
theorem dX11_row_105 : decode cX11_row 105 = .ok (.aload_n 0, 1) := by decide +kernel
theorem dX11_row_106 : decode cX11_row 106 = .ok (.getfield 29, 3) := by decide +kernel
theorem dX11_row_109 : decode cX11_row 109 = .ok (.iconst 0, 1) := by decide +kernel
theorem dX11_row_110 : decode cX11_row 110 = .ok (.invokevirtual 184, 3) := by decide +kernel
theorem dX11_row_113 : decode cX11_row 113 = .ok (.aload_n 0, 1) := by decide +kernel
theorem dX11_row_114 : decode cX11_row 114 = .ok (.getfield 75, 3) := by decide +kernel
theorem dX11_row_117 : decode cX11_row 117 = .ok (.iconst 0, 1) := by decide +kernel
theorem dX11_row_118 : decode cX11_row 118 = .ok (.invokevirtual 184, 3) := by decide +kernel
theorem dX11_row_121 : decode cX11_row 121 = .ok (.aload_n 0, 1) := by decide +kernel
theorem dX11_row_122 : decode cX11_row 122 = .ok (.iload_n 1, 1) := by decide +kernel
theorem dX11_row_123 : decode cX11_row 123 = .ok (.invokevirtual 132, 3) := by decide +kernel
theorem dX11_row_126 : decode cX11_row 126 = .ok (.ireturn, 1) := by decide +kernel
theorem dX11_coughs_0 : decode cX11_coughs 0 = .ok (.aload_n 0, 1) := by decide +kernel
theorem dX11_coughs_1 : decode cX11_coughs 1 = .ok (.getfield 194, 3) := by decide +kernel
theorem dX11_coughs_4 : decode cX11_coughs 4 = .ok (.ireturn, 1) := by decide +kernel
theorem dX11_law_0 : decode cX11_law 0 = .ok (.aload_n 0, 1) := by decide +kernel
theorem dX11_law_1 : decode cX11_law 1 = .ok (.getfield 10, 3) := by decide +kernel
theorem dX11_law_4 : decode cX11_law 4 = .ok (.getfield 201, 3) := by decide +kernel
theorem dX11_law_7 : decode cX11_law 7 = .ok (.aload_n 0, 1) := by decide +kernel
theorem dX11_law_8 : decode cX11_law 8 = .ok (.getfield 10, 3) := by decide +kernel
theorem dX11_law_11 : decode cX11_law 11 = .ok (.getfield 204, 3) := by decide +kernel
theorem dX11_law_14 : decode cX11_law 14 = .ok (.arraylength, 1) := by decide +kernel
theorem dX11_law_15 : decode cX11_law 15 = .ok (.if_icmp .lt 18, 3) := by decide +kernel
theorem dX11_law_18 : decode cX11_law 18 = .ok (.aload_n 0, 1) := by decide +kernel
theorem dX11_law_19 : decode cX11_law 19 = .ok (.getfield 29, 3) := by decide +kernel
theorem dX11_law_22 : decode cX11_law 22 = .ok (.iconst 0, 1) := by decide +kernel
theorem dX11_law_23 : decode cX11_law 23 = .ok (.invokevirtual 184, 3) := by decide +kernel
theorem dX11_law_26 : decode cX11_law 26 = .ok (.aload_n 0, 1) := by decide +kernel
theorem dX11_law_27 : decode cX11_law 27 = .ok (.bipush (-5), 2) := by decide +kernel
theorem dX11_law_29 : decode cX11_law 29 = .ok (.invokevirtual 117, 3) := by decide +kernel
theorem dX11_law_32 : decode cX11_law 32 = .ok (.ireturn, 1) := by decide +kernel
theorem dX11_law_33 : decode cX11_law 33 = .ok (.aload_n 0, 1) := by decide +kernel
theorem dX11_law_34 : decode cX11_law 34 = .ok (.getfield 45, 3) := by decide +kernel
theorem dX11_law_37 : decode cX11_law 37 = .ok (.iconst 0, 1) := by decide +kernel
theorem dX11_law_38 : decode cX11_law 38 = .ok (.invokevirtual 208, 3) := by decide +kernel
theorem dX11_law_41 : decode cX11_law 41 = .ok (.istore_n 1, 1) := by decide +kernel
theorem dX11_law_42 : decode cX11_law 42 = .ok (.aload_n 0, 1) := by decide +kernel
theorem dX11_law_43 : decode cX11_law 43 = .ok (.getfield 29, 3) := by decide +kernel
theorem dX11_law_46 : decode cX11_law 46 = .ok (.iconst 0, 1) := by decide +kernel
theorem dX11_law_47 : decode cX11_law 47 = .ok (.invokevirtual 184, 3) := by decide +kernel
theorem dX11_law_50 : decode cX11_law 50 = .ok (.iload_n 1, 1) := by decide +kernel
theorem dX11_law_51 : decode cX11_law 51 = .ok (.ifCond .eq 21, 3) := by decide +kernel
theorem dX11_law_54 : decode cX11_law 54 = .ok (.aload_n 0, 1) := by decide +kernel
theorem dX11_law_55 : decode cX11_law 55 = .ok (.aload_n 0, 1) := by decide +kernel
theorem dX11_law_56 : decode cX11_law 56 = .ok (.getfield 10, 3) := by decide +kernel
theorem dX11_law_59 : decode cX11_law 59 = .ok (.aload_n 0, 1) := by decide +kernel
theorem dX11_law_60 : decode cX11_law 60 = .ok (.getfield 36, 3) := by decide +kernel
theorem dX11_law_63 : decode cX11_law 63 = .ok (.invokevirtual 212, 3) := by decide +kernel
theorem dX11_law_66 : decode cX11_law 66 = .ok (.invokevirtual 132, 3) := by decide +kernel
theorem dX11_law_69 : decode cX11_law 69 = .ok (.goto 9, 3) := by decide +kernel
theorem dX11_law_72 : decode cX11_law 72 = .ok (.aload_n 0, 1) := by decide +kernel
theorem dX11_law_73 : decode cX11_law 73 = .ok (.bipush (-6), 2) := by decide +kernel
theorem dX11_law_75 : decode cX11_law 75 = .ok (.invokevirtual 117, 3) := by decide +kernel
theorem dX11_law_78 : decode cX11_law 78 = .ok (.ireturn, 1) := by decide +kernel
theorem dX11_orders_0 : decode cX11_orders 0 = .ok (.aload_n 0, 1) := by decide +kernel
theorem dX11_orders_1 : decode cX11_orders 1 = .ok (.getfield 45, 3) := by decide +kernel
theorem dX11_orders_4 : decode cX11_orders 4 = .ok (.iconst 1, 1) := by decide +kernel
theorem dX11_orders_5 : decode cX11_orders 5 = .ok (.invokevirtual 208, 3) := by decide +kernel
theorem dX11_orders_8 : decode cX11_orders 8 = .ok (.istore_n 1, 1) := by decide +kernel
theorem dX11_orders_9 : decode cX11_orders 9 = .ok (.aload_n 0, 1) := by decide +kernel
theorem dX11_orders_10 : decode cX11_orders 10 = .ok (.getfield 29, 3) := by decide +kernel
theorem dX11_orders_13 : decode cX11_orders 13 = .ok (.iconst 0, 1) := by decide +kernel
theorem dX11_orders_14 : decode cX11_orders 14 = .ok (.invokevirtual 184, 3) := by decide +kernel
theorem dX11_orders_17 : decode cX11_orders 17 = .ok (.aload_n 0, 1) := by decide +kernel
theorem dX11_orders_18 : decode cX11_orders 18 = .ok (.iconst (-1), 1) := by decide +kernel
theorem dX11_orders_19 : decode cX11_orders 19 = .ok (.putfield 109, 3) := by decide +kernel
theorem dX11_orders_22 : decode cX11_orders 22 = .ok (.iload_n 1, 1) := by decide +kernel
theorem dX11_orders_23 : decode cX11_orders 23 = .ok (.ifCond .ne 10, 3) := by decide +kernel
theorem dX11_orders_26 : decode cX11_orders 26 = .ok (.aload_n 0, 1) := by decide +kernel
theorem dX11_orders_27 : decode cX11_orders 27 = .ok (.bipush (-6), 2) := by decide +kernel
theorem dX11_orders_29 : decode cX11_orders 29 = .ok (.invokevirtual 117, 3) := by decide +kernel
theorem dX11_orders_32 : decode cX11_orders 32 = .ok (.ireturn, 1) := by decide +kernel
theorem dX11_orders_33 : decode cX11_orders 33 = .ok (.aload_n 0, 1) := by decide +kernel
theorem dX11_orders_34 : decode cX11_orders 34 = .ok (.getfield 72, 3) := by decide +kernel
theorem dX11_orders_37 : decode cX11_orders 37 = .ok (.aload_n 0, 1) := by decide +kernel
theorem dX11_orders_38 : decode cX11_orders 38 = .ok (.getfield 10, 3) := by decide +kernel
theorem dX11_orders_41 : decode cX11_orders 41 = .ok (.getfield 162, 3) := by decide +kernel
theorem dX11_orders_44 : decode cX11_orders 44 = .ok (.invokevirtual 216, 3) := by decide +kernel
theorem dX11_orders_47 : decode cX11_orders 47 = .ok (.aload_n 0, 1) := by decide +kernel
theorem dX11_orders_48 : decode cX11_orders 48 = .ok (.getfield 78, 3) := by decide +kernel
theorem dX11_orders_51 : decode cX11_orders 51 = .ok (.aload_n 0, 1) := by decide +kernel
theorem dX11_orders_52 : decode cX11_orders 52 = .ok (.getfield 75, 3) := by decide +kernel
theorem dX11_orders_55 : decode cX11_orders 55 = .ok (.invokevirtual 220, 3) := by decide +kernel
theorem dX11_orders_58 : decode cX11_orders 58 = .ok (.aload_n 0, 1) := by decide +kernel
theorem dX11_orders_59 : decode cX11_orders 59 = .ok (.getfield 84, 3) := by decide +kernel
theorem dX11_orders_62 : decode cX11_orders 62 = .ok (.aload_n 0, 1) := by decide +kernel
theorem dX11_orders_63 : decode cX11_orders 63 = .ok (.getfield 10, 3) := by decide +kernel
theorem dX11_orders_66 : decode cX11_orders 66 = .ok (.invokevirtual 223, 3) := by decide +kernel
theorem dX11_orders_69 : decode cX11_orders 69 = .ok (.iconst 0, 1) := by decide +kernel
theorem dX11_orders_70 : decode cX11_orders 70 = .ok (.istore_n 2, 1) := by decide +kernel
theorem dX11_orders_71 : decode cX11_orders 71 = .ok (.iconst 0, 1) := by decide +kernel
theorem dX11_orders_72 : decode cX11_orders 72 = .ok (.istore_n 3, 1) := by decide +kernel
theorem dX11_orders_73 : decode cX11_orders 73 = .ok (.iload_n 3, 1) := by decide +kernel
theorem dX11_orders_74 : decode cX11_orders 74 = .ok (.aload_n 0, 1) := by decide +kernel
theorem dX11_orders_75 : decode cX11_orders 75 = .ok (.getfield 36, 3) := by decide +kernel
theorem dX11_orders_78 : decode cX11_orders 78 = .ok (.getfield 227, 3) := by decide +kernel
theorem dX11_orders_81 : decode cX11_orders 81 = .ok (.getfield 188, 3) := by decide +kernel
theorem dX11_orders_84 : decode cX11_orders 84 = .ok (.if_icmp .ge 119, 3) := by decide +kernel
theorem dX11_orders_87 : decode cX11_orders 87 = .ok (.iconst 0, 1) := by decide +kernel
theorem dX11_orders_88 : decode cX11_orders 88 = .ok (.istore 4, 2) := by decide +kernel
theorem dX11_orders_90 : decode cX11_orders 90 = .ok (.iload 4, 2) := by decide +kernel
theorem dX11_orders_92 : decode cX11_orders 92 = .ok (.aload_n 0, 1) := by decide +kernel
theorem dX11_orders_93 : decode cX11_orders 93 = .ok (.getfield 36, 3) := by decide +kernel
theorem dX11_orders_96 : decode cX11_orders 96 = .ok (.getfield 227, 3) := by decide +kernel
theorem dX11_orders_99 : decode cX11_orders 99 = .ok (.iload_n 3, 1) := by decide +kernel
theorem dX11_orders_100 : decode cX11_orders 100 = .ok (.iconst 1, 1) := by decide +kernel
theorem dX11_orders_101 : decode cX11_orders 101 = .ok (.invokevirtual 135, 3) := by decide +kernel
theorem dX11_orders_104 : decode cX11_orders 104 = .ok (.if_icmp .ge 93, 3) := by decide +kernel
theorem dX11_orders_107 : decode cX11_orders 107 = .ok (.aload_n 0, 1) := by decide +kernel
theorem dX11_orders_108 : decode cX11_orders 108 = .ok (.iload_n 2, 1) := by decide +kernel
theorem dX11_orders_109 : decode cX11_orders 109 = .ok (.invokevirtual 230, 3) := by decide +kernel
theorem dX11_orders_112 : decode cX11_orders 112 = .ok (.aload_n 0, 1) := by decide +kernel
theorem dX11_orders_113 : decode cX11_orders 113 = .ok (.getfield 52, 3) := by decide +kernel
theorem dX11_orders_116 : decode cX11_orders 116 = .ok (.getfield 233, 3) := by decide +kernel
theorem dX11_orders_119 : decode cX11_orders 119 = .ok (.aload_n 0, 1) := by decide +kernel
theorem dX11_orders_120 : decode cX11_orders 120 = .ok (.getfield 36, 3) := by decide +kernel
theorem dX11_orders_123 : decode cX11_orders 123 = .ok (.iload_n 3, 1) := by decide +kernel
theorem dX11_orders_124 : decode cX11_orders 124 = .ok (.iconst 3, 1) := by decide +kernel
theorem dX11_orders_125 : decode cX11_orders 125 = .ok (.aload_n 0, 1) := by decide +kernel
theorem dX11_orders_126 : decode cX11_orders 126 = .ok (.getfield 102, 3) := by decide +kernel
theorem dX11_orders_129 : decode cX11_orders 129 = .ok (.invokevirtual 237, 3) := by decide +kernel
theorem dX11_orders_132 : decode cX11_orders 132 = .ok (.iconst 1, 1) := by decide +kernel
theorem dX11_orders_133 : decode cX11_orders 133 = .ok (.if_icmp .eq 6, 3) := by decide +kernel
theorem dX11_orders_136 : decode cX11_orders 136 = .ok (.goto 55, 3) := by decide +kernel
theorem dX11_orders_139 : decode cX11_orders 139 = .ok (.aload_n 0, 1) := by decide +kernel
theorem dX11_orders_140 : decode cX11_orders 140 = .ok (.iload_n 3, 1) := by decide +kernel
theorem dX11_orders_141 : decode cX11_orders 141 = .ok (.invokevirtual 243, 3) := by decide +kernel
theorem dX11_orders_144 : decode cX11_orders 144 = .ok (.istore 5, 2) := by decide +kernel
theorem dX11_orders_146 : decode cX11_orders 146 = .ok (.iload 5, 2) := by decide +kernel
theorem dX11_orders_148 : decode cX11_orders 148 = .ok (.ifCond .eq 40, 3) := by decide +kernel
theorem dX11_orders_151 : decode cX11_orders 151 = .ok (.aload_n 0, 1) := by decide +kernel
theorem dX11_orders_152 : decode cX11_orders 152 = .ok (.getfield 10, 3) := by decide +kernel
theorem dX11_orders_155 : decode cX11_orders 155 = .ok (.getfield 162, 3) := by decide +kernel
theorem dX11_orders_158 : decode cX11_orders 158 = .ok (.aload_n 0, 1) := by decide +kernel
theorem dX11_orders_159 : decode cX11_orders 159 = .ok (.getfield 72, 3) := by decide +kernel
theorem dX11_orders_162 : decode cX11_orders 162 = .ok (.invokevirtual 216, 3) := by decide +kernel
theorem dX11_orders_165 : decode cX11_orders 165 = .ok (.aload_n 0, 1) := by decide +kernel
theorem dX11_orders_166 : decode cX11_orders 166 = .ok (.getfield 75, 3) := by decide +kernel
theorem dX11_orders_169 : decode cX11_orders 169 = .ok (.aload_n 0, 1) := by decide +kernel
theorem dX11_orders_170 : decode cX11_orders 170 = .ok (.getfield 78, 3) := by decide +kernel
theorem dX11_orders_173 : decode cX11_orders 173 = .ok (.invokevirtual 220, 3) := by decide +kernel
theorem dX11_orders_176 : decode cX11_orders 176 = .ok (.aload_n 0, 1) := by decide +kernel
theorem dX11_orders_177 : decode cX11_orders 177 = .ok (.iload_n 3, 1) := by decide +kernel
theorem dX11_orders_178 : decode cX11_orders 178 = .ok (.putfield 109, 3) := by decide +kernel
theorem dX11_orders_181 : decode cX11_orders 181 = .ok (.aload_n 0, 1) := by decide +kernel
theorem dX11_orders_182 : decode cX11_orders 182 = .ok (.iload 5, 2) := by decide +kernel
theorem dX11_orders_184 : decode cX11_orders 184 = .ok (.invokevirtual 117, 3) := by decide +kernel
theorem dX11_orders_187 : decode cX11_orders 187 = .ok (.ireturn, 1) := by decide +kernel
theorem dX11_orders_188 : decode cX11_orders 188 = .ok (.iinc 2 1, 3) := by decide +kernel
theorem dX11_orders_191 : decode cX11_orders 191 = .ok (.iinc 4 1, 3) := by decide +kernel
theorem dX11_orders_194 : decode cX11_orders 194 = .ok (.goto (-104), 3) := by decide +kernel
theorem dX11_orders_197 : decode cX11_orders 197 = .ok (.iinc 3 1, 3) := by decide +kernel
theorem dX11_orders_200 : decode cX11_orders 200 = .ok (.goto (-127), 3) := by decide +kernel
theorem dX11_orders_203 : decode cX11_orders 203 = .ok (.aload_n 0, 1) := by decide +kernel
theorem dX11_orders_204 : decode cX11_orders 204 = .ok (.iload_n 2, 1) := by decide +kernel
theorem dX11_orders_205 : decode cX11_orders 205 = .ok (.invokevirtual 132, 3) := by decide +kernel
theorem dX11_orders_208 : decode cX11_orders 208 = .ok (.ireturn, 1) := by decide +kernel
theorem dX11_fault_0 : decode cX11_fault 0 = .ok (.aload_n 0, 1) := by decide +kernel
theorem dX11_fault_1 : decode cX11_fault 1 = .ok (.getfield 45, 3) := by decide +kernel
theorem dX11_fault_4 : decode cX11_fault 4 = .ok (.getfield 246, 3) := by decide +kernel
theorem dX11_fault_7 : decode cX11_fault 7 = .ok (.ireturn, 1) := by decide +kernel
theorem dX11_stopped_0 : decode cX11_stopped 0 = .ok (.aload_n 0, 1) := by decide +kernel
theorem dX11_stopped_1 : decode cX11_stopped 1 = .ok (.getfield 109, 3) := by decide +kernel
theorem dX11_stopped_4 : decode cX11_stopped 4 = .ok (.ireturn, 1) := by decide +kernel
theorem dX11_force_0 : decode cX11_force 0 = .ok (.iload_n 1, 1) := by decide +kernel
theorem dX11_force_1 : decode cX11_force 1 = .ok (.iconst (-1), 1) := by decide +kernel
theorem dX11_force_2 : decode cX11_force 2 = .ok (.aload_n 0, 1) := by decide +kernel
theorem dX11_force_3 : decode cX11_force 3 = .ok (.getfield 10, 3) := by decide +kernel
theorem dX11_force_6 : decode cX11_force 6 = .ok (.getfield 201, 3) := by decide +kernel
theorem dX11_force_9 : decode cX11_force 9 = .ok (.iconst 1, 1) := by decide +kernel
theorem dX11_force_10 : decode cX11_force 10 = .ok (.isub, 1) := by decide +kernel
theorem dX11_force_11 : decode cX11_force 11 = .ok (.invokestatic 113, 3) := by decide +kernel
theorem dX11_force_14 : decode cX11_force 14 = .ok (.ifCond .ne 10, 3) := by decide +kernel
theorem dX11_force_17 : decode cX11_force 17 = .ok (.aload_n 0, 1) := by decide +kernel
theorem dX11_force_18 : decode cX11_force 18 = .ok (.bipush (-2), 2) := by decide +kernel
theorem dX11_force_20 : decode cX11_force 20 = .ok (.invokevirtual 117, 3) := by decide +kernel
theorem dX11_force_23 : decode cX11_force 23 = .ok (.ireturn, 1) := by decide +kernel
theorem dX11_force_24 : decode cX11_force 24 = .ok (.aload_n 0, 1) := by decide +kernel
theorem dX11_force_25 : decode cX11_force 25 = .ok (.getfield 10, 3) := by decide +kernel
theorem dX11_force_28 : decode cX11_force 28 = .ok (.getfield 249, 3) := by decide +kernel
theorem dX11_force_31 : decode cX11_force 31 = .ok (.istore_n 2, 1) := by decide +kernel
theorem dX11_force_32 : decode cX11_force 32 = .ok (.aload_n 0, 1) := by decide +kernel
theorem dX11_force_33 : decode cX11_force 33 = .ok (.getfield 10, 3) := by decide +kernel
theorem dX11_force_36 : decode cX11_force 36 = .ok (.iload_n 1, 1) := by decide +kernel
theorem dX11_force_37 : decode cX11_force 37 = .ok (.putfield 249, 3) := by decide +kernel
theorem dX11_force_40 : decode cX11_force 40 = .ok (.aload_n 0, 1) := by decide +kernel
theorem dX11_force_41 : decode cX11_force 41 = .ok (.iload_n 2, 1) := by decide +kernel
theorem dX11_force_42 : decode cX11_force 42 = .ok (.invokevirtual 132, 3) := by decide +kernel
theorem dX11_force_45 : decode cX11_force 45 = .ok (.ireturn, 1) := by decide +kernel
theorem dX11_say_0 : decode cX11_say 0 = .ok (.iload_n 1, 1) := by decide +kernel
theorem dX11_say_1 : decode cX11_say 1 = .ok (.invokestatic 139, 3) := by decide +kernel
theorem dX11_say_4 : decode cX11_say 4 = .ok (.ifCond .eq 7, 3) := by decide +kernel
theorem dX11_say_7 : decode cX11_say 7 = .ok (.iload_n 2, 1) := by decide +kernel
theorem dX11_say_8 : decode cX11_say 8 = .ok (.ifCond .ge 5, 3) := by decide +kernel
theorem dX11_say_11 : decode cX11_say 11 = .ok (.iconst (-1), 1) := by decide +kernel
theorem dX11_say_12 : decode cX11_say 12 = .ok (.ireturn, 1) := by decide +kernel
theorem dX11_say_13 : decode cX11_say 13 = .ok (.aload_n 0, 1) := by decide +kernel
theorem dX11_say_14 : decode cX11_say 14 = .ok (.getfield 84, 3) := by decide +kernel
theorem dX11_say_17 : decode cX11_say 17 = .ok (.aload_n 0, 1) := by decide +kernel
theorem dX11_say_18 : decode cX11_say 18 = .ok (.getfield 10, 3) := by decide +kernel
theorem dX11_say_21 : decode cX11_say 21 = .ok (.invokevirtual 223, 3) := by decide +kernel
theorem dX11_say_24 : decode cX11_say 24 = .ok (.iload_n 2, 1) := by decide +kernel
theorem dX11_say_25 : decode cX11_say 25 = .ok (.ifCond .ne 12, 3) := by decide +kernel
theorem dX11_say_28 : decode cX11_say 28 = .ok (.aload_n 0, 1) := by decide +kernel
theorem dX11_say_29 : decode cX11_say 29 = .ok (.getfield 84, 3) := by decide +kernel
theorem dX11_say_32 : decode cX11_say 32 = .ok (.iload_n 1, 1) := by decide +kernel
theorem dX11_say_33 : decode cX11_say 33 = .ok (.invokevirtual 252, 3) := by decide +kernel
theorem dX11_say_36 : decode cX11_say 36 = .ok (.ireturn, 1) := by decide +kernel
theorem dX11_say_37 : decode cX11_say 37 = .ok (.iload_n 2, 1) := by decide +kernel
theorem dX11_say_38 : decode cX11_say 38 = .ok (.iconst 1, 1) := by decide +kernel
theorem dX11_say_39 : decode cX11_say 39 = .ok (.if_icmp .ne 12, 3) := by decide +kernel
theorem dX11_say_42 : decode cX11_say 42 = .ok (.aload_n 0, 1) := by decide +kernel
theorem dX11_say_43 : decode cX11_say 43 = .ok (.getfield 84, 3) := by decide +kernel
theorem dX11_say_46 : decode cX11_say 46 = .ok (.iload_n 1, 1) := by decide +kernel
theorem dX11_say_47 : decode cX11_say 47 = .ok (.invokevirtual 255, 3) := by decide +kernel
theorem dX11_say_50 : decode cX11_say 50 = .ok (.ireturn, 1) := by decide +kernel
theorem dX11_say_51 : decode cX11_say 51 = .ok (.iload_n 2, 1) := by decide +kernel
theorem dX11_say_52 : decode cX11_say 52 = .ok (.iconst 2, 1) := by decide +kernel
theorem dX11_say_53 : decode cX11_say 53 = .ok (.if_icmp .ne 12, 3) := by decide +kernel
theorem dX11_say_56 : decode cX11_say 56 = .ok (.aload_n 0, 1) := by decide +kernel
theorem dX11_say_57 : decode cX11_say 57 = .ok (.getfield 84, 3) := by decide +kernel
theorem dX11_say_60 : decode cX11_say 60 = .ok (.iload_n 1, 1) := by decide +kernel
theorem dX11_say_61 : decode cX11_say 61 = .ok (.invokevirtual 258, 3) := by decide +kernel
theorem dX11_say_64 : decode cX11_say 64 = .ok (.ireturn, 1) := by decide +kernel
theorem dX11_say_65 : decode cX11_say 65 = .ok (.aload_n 0, 1) := by decide +kernel
theorem dX11_say_66 : decode cX11_say 66 = .ok (.getfield 84, 3) := by decide +kernel
theorem dX11_say_69 : decode cX11_say 69 = .ok (.aload_n 0, 1) := by decide +kernel
theorem dX11_say_70 : decode cX11_say 70 = .ok (.getfield 10, 3) := by decide +kernel
theorem dX11_say_73 : decode cX11_say 73 = .ok (.iload_n 1, 1) := by decide +kernel
theorem dX11_say_74 : decode cX11_say 74 = .ok (.iload_n 2, 1) := by decide +kernel
theorem dX11_say_75 : decode cX11_say 75 = .ok (.iconst 3, 1) := by decide +kernel
theorem dX11_say_76 : decode cX11_say 76 = .ok (.isub, 1) := by decide +kernel
theorem dX11_say_77 : decode cX11_say 77 = .ok (.invokevirtual 261, 3) := by decide +kernel
theorem dX11_say_80 : decode cX11_say 80 = .ok (.ireturn, 1) := by decide +kernel
theorem dX11_pray_0 : decode cX11_pray 0 = .ok (.aload_n 0, 1) := by decide +kernel
theorem dX11_pray_1 : decode cX11_pray 1 = .ok (.aload_n 0, 1) := by decide +kernel
theorem dX11_pray_2 : decode cX11_pray 2 = .ok (.getfield 10, 3) := by decide +kernel
theorem dX11_pray_5 : decode cX11_pray 5 = .ok (.getfield 162, 3) := by decide +kernel
theorem dX11_pray_8 : decode cX11_pray 8 = .ok (.iload_n 1, 1) := by decide +kernel
theorem dX11_pray_9 : decode cX11_pray 9 = .ok (.iload_n 2, 1) := by decide +kernel
theorem dX11_pray_10 : decode cX11_pray 10 = .ok (.iload_n 3, 1) := by decide +kernel
theorem dX11_pray_11 : decode cX11_pray 11 = .ok (.iload 4, 2) := by decide +kernel
theorem dX11_pray_13 : decode cX11_pray 13 = .ok (.invokevirtual 197, 3) := by decide +kernel
theorem dX11_pray_16 : decode cX11_pray 16 = .ok (.istore 5, 2) := by decide +kernel
theorem dX11_pray_18 : decode cX11_pray 18 = .ok (.iload 5, 2) := by decide +kernel
theorem dX11_pray_20 : decode cX11_pray 20 = .ok (.ifCond .eq 10, 3) := by decide +kernel
theorem dX11_pray_23 : decode cX11_pray 23 = .ok (.aload_n 0, 1) := by decide +kernel
theorem dX11_pray_24 : decode cX11_pray 24 = .ok (.iload 5, 2) := by decide +kernel
theorem dX11_pray_26 : decode cX11_pray 26 = .ok (.invokevirtual 117, 3) := by decide +kernel
theorem dX11_pray_29 : decode cX11_pray 29 = .ok (.ireturn, 1) := by decide +kernel
theorem dX11_pray_30 : decode cX11_pray 30 = .ok (.aload_n 0, 1) := by decide +kernel
theorem dX11_pray_31 : decode cX11_pray 31 = .ok (.iconst 0, 1) := by decide +kernel
theorem dX11_pray_32 : decode cX11_pray 32 = .ok (.invokevirtual 264, 3) := by decide +kernel
theorem dX11_pray_35 : decode cX11_pray 35 = .ok (.aload_n 0, 1) := by decide +kernel
theorem dX11_pray_36 : decode cX11_pray 36 = .ok (.aload_n 0, 1) := by decide +kernel
theorem dX11_pray_37 : decode cX11_pray 37 = .ok (.getfield 10, 3) := by decide +kernel
theorem dX11_pray_40 : decode cX11_pray 40 = .ok (.getfield 162, 3) := by decide +kernel
theorem dX11_pray_43 : decode cX11_pray 43 = .ok (.getfield 267, 3) := by decide +kernel
theorem dX11_pray_46 : decode cX11_pray 46 = .ok (.getfield 188, 3) := by decide +kernel
theorem dX11_pray_49 : decode cX11_pray 49 = .ok (.iconst 1, 1) := by decide +kernel
theorem dX11_pray_50 : decode cX11_pray 50 = .ok (.isub, 1) := by decide +kernel
theorem dX11_pray_51 : decode cX11_pray 51 = .ok (.invokevirtual 132, 3) := by decide +kernel
theorem dX11_pray_54 : decode cX11_pray 54 = .ok (.ireturn, 1) := by decide +kernel
theorem dX11_at_0 : decode cX11_at 0 = .ok (.aload_n 0, 1) := by decide +kernel
theorem dX11_at_1 : decode cX11_at 1 = .ok (.getfield 10, 3) := by decide +kernel
theorem dX11_at_4 : decode cX11_at 4 = .ok (.getfield 162, 3) := by decide +kernel
theorem dX11_at_7 : decode cX11_at 7 = .ok (.getfield 267, 3) := by decide +kernel
theorem dX11_at_10 : decode cX11_at 10 = .ok (.iload_n 1, 1) := by decide +kernel
theorem dX11_at_11 : decode cX11_at 11 = .ok (.iload_n 2, 1) := by decide +kernel
theorem dX11_at_12 : decode cX11_at 12 = .ok (.invokevirtual 135, 3) := by decide +kernel
theorem dX11_at_15 : decode cX11_at 15 = .ok (.ireturn, 1) := by decide +kernel
theorem dX11_rank_0 : decode cX11_rank 0 = .ok (.aload_n 0, 1) := by decide +kernel
theorem dX11_rank_1 : decode cX11_rank 1 = .ok (.getfield 10, 3) := by decide +kernel
theorem dX11_rank_4 : decode cX11_rank 4 = .ok (.getfield 162, 3) := by decide +kernel
theorem dX11_rank_7 : decode cX11_rank 7 = .ok (.iload_n 1, 1) := by decide +kernel
theorem dX11_rank_8 : decode cX11_rank 8 = .ok (.invokevirtual 270, 3) := by decide +kernel
theorem dX11_rank_11 : decode cX11_rank 11 = .ok (.ifCond .eq 12, 3) := by decide +kernel
theorem dX11_rank_14 : decode cX11_rank 14 = .ok (.iload_n 2, 1) := by decide +kernel
theorem dX11_rank_15 : decode cX11_rank 15 = .ok (.iconst 0, 1) := by decide +kernel
theorem dX11_rank_16 : decode cX11_rank 16 = .ok (.iconst 1, 1) := by decide +kernel
theorem dX11_rank_17 : decode cX11_rank 17 = .ok (.invokestatic 113, 3) := by decide +kernel
theorem dX11_rank_20 : decode cX11_rank 20 = .ok (.ifCond .ne 7, 3) := by decide +kernel
theorem dX11_rank_23 : decode cX11_rank 23 = .ok (.ldc_w 273, 3) := by decide +kernel
theorem dX11_rank_26 : decode cX11_rank 26 = .ok (.ireturn, 1) := by decide +kernel
theorem dX11_rank_27 : decode cX11_rank 27 = .ok (.aload_n 0, 1) := by decide +kernel
theorem dX11_rank_28 : decode cX11_rank 28 = .ok (.getfield 52, 3) := by decide +kernel
theorem dX11_rank_31 : decode cX11_rank 31 = .ok (.aload_n 0, 1) := by decide +kernel
theorem dX11_rank_32 : decode cX11_rank 32 = .ok (.getfield 10, 3) := by decide +kernel
theorem dX11_rank_35 : decode cX11_rank 35 = .ok (.aload_n 0, 1) := by decide +kernel
theorem dX11_rank_36 : decode cX11_rank 36 = .ok (.getfield 10, 3) := by decide +kernel
theorem dX11_rank_39 : decode cX11_rank 39 = .ok (.getfield 162, 3) := by decide +kernel
theorem dX11_rank_42 : decode cX11_rank 42 = .ok (.iload_n 1, 1) := by decide +kernel
theorem dX11_rank_43 : decode cX11_rank 43 = .ok (.aload_n 0, 1) := by decide +kernel
theorem dX11_rank_44 : decode cX11_rank 44 = .ok (.getfield 10, 3) := by decide +kernel
theorem dX11_rank_47 : decode cX11_rank 47 = .ok (.getfield 162, 3) := by decide +kernel
theorem dX11_rank_50 : decode cX11_rank 50 = .ok (.getfield 165, 3) := by decide +kernel
theorem dX11_rank_53 : decode cX11_rank 53 = .ok (.iconst 1, 1) := by decide +kernel
theorem dX11_rank_54 : decode cX11_rank 54 = .ok (.iadd, 1) := by decide +kernel
theorem dX11_rank_55 : decode cX11_rank 55 = .ok (.invokevirtual 274, 3) := by decide +kernel
theorem dX11_rank_58 : decode cX11_rank 58 = .ok (.iload_n 2, 1) := by decide +kernel
theorem dX11_rank_59 : decode cX11_rank 59 = .ok (.ifCond .ne 17, 3) := by decide +kernel
theorem dX11_rank_62 : decode cX11_rank 62 = .ok (.aload_n 0, 1) := by decide +kernel
theorem dX11_rank_63 : decode cX11_rank 63 = .ok (.getfield 52, 3) := by decide +kernel
theorem dX11_rank_66 : decode cX11_rank 66 = .ok (.aload_n 0, 1) := by decide +kernel
theorem dX11_rank_67 : decode cX11_rank 67 = .ok (.getfield 10, 3) := by decide +kernel
theorem dX11_rank_70 : decode cX11_rank 70 = .ok (.invokevirtual 278, 3) := by decide +kernel
theorem dX11_rank_73 : decode cX11_rank 73 = .ok (.goto 18, 3) := by decide +kernel
theorem dX11_rank_76 : decode cX11_rank 76 = .ok (.aload_n 0, 1) := by decide +kernel
theorem dX11_rank_77 : decode cX11_rank 77 = .ok (.getfield 52, 3) := by decide +kernel
theorem dX11_rank_80 : decode cX11_rank 80 = .ok (.aload_n 0, 1) := by decide +kernel
theorem dX11_rank_81 : decode cX11_rank 81 = .ok (.getfield 10, 3) := by decide +kernel
theorem dX11_rank_84 : decode cX11_rank 84 = .ok (.iconst 2, 1) := by decide +kernel
theorem dX11_rank_85 : decode cX11_rank 85 = .ok (.iconst 0, 1) := by decide +kernel
theorem dX11_rank_86 : decode cX11_rank 86 = .ok (.iconst 0, 1) := by decide +kernel
theorem dX11_rank_87 : decode cX11_rank 87 = .ok (.iconst 1, 1) := by decide +kernel
theorem dX11_rank_88 : decode cX11_rank 88 = .ok (.invokevirtual 282, 3) := by decide +kernel
theorem dX11_rank_91 : decode cX11_rank 91 = .ok (.ireturn, 1) := by decide +kernel
theorem dX11_order_0 : decode cX11_order 0 = .ok (.iload_n 1, 1) := by decide +kernel
theorem dX11_order_1 : decode cX11_order 1 = .ok (.iconst (-1), 1) := by decide +kernel
theorem dX11_order_2 : decode cX11_order 2 = .ok (.if_icmp .ge 5, 3) := by decide +kernel
theorem dX11_order_5 : decode cX11_order 5 = .ok (.iconst (-1), 1) := by decide +kernel
theorem dX11_order_6 : decode cX11_order 6 = .ok (.ireturn, 1) := by decide +kernel
theorem dX11_order_7 : decode cX11_order 7 = .ok (.aload_n 0, 1) := by decide +kernel
theorem dX11_order_8 : decode cX11_order 8 = .ok (.getfield 68, 3) := by decide +kernel
theorem dX11_order_11 : decode cX11_order 11 = .ok (.aload_n 0, 1) := by decide +kernel
theorem dX11_order_12 : decode cX11_order 12 = .ok (.getfield 10, 3) := by decide +kernel
theorem dX11_order_15 : decode cX11_order 15 = .ok (.getfield 162, 3) := by decide +kernel
theorem dX11_order_18 : decode cX11_order 18 = .ok (.invokevirtual 216, 3) := by decide +kernel
theorem dX11_order_21 : decode cX11_order 21 = .ok (.aload_n 0, 1) := by decide +kernel
theorem dX11_order_22 : decode cX11_order 22 = .ok (.getfield 61, 3) := by decide +kernel
theorem dX11_order_25 : decode cX11_order 25 = .ok (.aload_n 0, 1) := by decide +kernel
theorem dX11_order_26 : decode cX11_order 26 = .ok (.getfield 10, 3) := by decide +kernel
theorem dX11_order_29 : decode cX11_order 29 = .ok (.aload_n 0, 1) := by decide +kernel
theorem dX11_order_30 : decode cX11_order 30 = .ok (.getfield 68, 3) := by decide +kernel
theorem dX11_order_33 : decode cX11_order 33 = .ok (.iconst 1, 1) := by decide +kernel
theorem dX11_order_34 : decode cX11_order 34 = .ok (.invokevirtual 286, 3) := by decide +kernel
theorem dX11_order_37 : decode cX11_order 37 = .ok (.iconst 0, 1) := by decide +kernel
theorem dX11_order_38 : decode cX11_order 38 = .ok (.istore_n 2, 1) := by decide +kernel
theorem dX11_order_39 : decode cX11_order 39 = .ok (.iload_n 2, 1) := by decide +kernel
theorem dX11_order_40 : decode cX11_order 40 = .ok (.bipush 16, 2) := by decide +kernel
theorem dX11_order_42 : decode cX11_order 42 = .ok (.if_icmp .ge 56, 3) := by decide +kernel
theorem dX11_order_45 : decode cX11_order 45 = .ok (.aload_n 0, 1) := by decide +kernel
theorem dX11_order_46 : decode cX11_order 46 = .ok (.getfield 61, 3) := by decide +kernel
theorem dX11_order_49 : decode cX11_order 49 = .ok (.aload_n 0, 1) := by decide +kernel
theorem dX11_order_50 : decode cX11_order 50 = .ok (.getfield 68, 3) := by decide +kernel
theorem dX11_order_53 : decode cX11_order 53 = .ok (.iconst 1, 1) := by decide +kernel
theorem dX11_order_54 : decode cX11_order 54 = .ok (.invokevirtual 290, 3) := by decide +kernel
theorem dX11_order_57 : decode cX11_order 57 = .ok (.istore_n 3, 1) := by decide +kernel
