theorem dX0_init_0 : decode cX0_init 0 = .ok (.aload_n 0, 1) := by decide +kernel
theorem dX0_init_1 : decode cX0_init 1 = .ok (.invokespecial 3, 3) := by decide +kernel
theorem dX0_init_4 : decode cX0_init 4 = .ok (.aload_n 0, 1) := by decide +kernel
theorem dX0_init_5 : decode cX0_init 5 = .ok (.iload_n 1, 1) := by decide +kernel
theorem dX0_init_6 : decode cX0_init 6 = .ok (.putfield 9, 3) := by decide +kernel
theorem dX0_init_9 : decode cX0_init 9 = .ok (.return_, 1) := by decide +kernel
theorem dX0_arrive_0 : decode cX0_arrive 0 = .ok (.aload_n 0, 1) := by decide +kernel
theorem dX0_arrive_1 : decode cX0_arrive 1 = .ok (.iload_n 1, 1) := by decide +kernel
theorem dX0_arrive_2 : decode cX0_arrive 2 = .ok (.putfield 15, 3) := by decide +kernel
theorem dX0_arrive_5 : decode cX0_arrive 5 = .ok (.aload_n 0, 1) := by decide +kernel
theorem dX0_arrive_6 : decode cX0_arrive 6 = .ok (.iconst 0, 1) := by decide +kernel
theorem dX0_arrive_7 : decode cX0_arrive 7 = .ok (.putfield 18, 3) := by decide +kernel
theorem dX0_arrive_10 : decode cX0_arrive 10 = .ok (.aload_n 0, 1) := by decide +kernel
theorem dX0_arrive_11 : decode cX0_arrive 11 = .ok (.iload_n 2, 1) := by decide +kernel
theorem dX0_arrive_12 : decode cX0_arrive 12 = .ok (.putfield 21, 3) := by decide +kernel
theorem dX0_arrive_15 : decode cX0_arrive 15 = .ok (.aload_n 0, 1) := by decide +kernel
theorem dX0_arrive_16 : decode cX0_arrive 16 = .ok (.iload_n 3, 1) := by decide +kernel
theorem dX0_arrive_17 : decode cX0_arrive 17 = .ok (.putfield 24, 3) := by decide +kernel
theorem dX0_arrive_20 : decode cX0_arrive 20 = .ok (.aload_n 0, 1) := by decide +kernel
theorem dX0_arrive_21 : decode cX0_arrive 21 = .ok (.iload 4, 2) := by decide +kernel
theorem dX0_arrive_23 : decode cX0_arrive 23 = .ok (.putfield 27, 3) := by decide +kernel
theorem dX0_arrive_26 : decode cX0_arrive 26 = .ok (.aload_n 0, 1) := by decide +kernel
theorem dX0_arrive_27 : decode cX0_arrive 27 = .ok (.iconst 0, 1) := by decide +kernel
theorem dX0_arrive_28 : decode cX0_arrive 28 = .ok (.putfield 30, 3) := by decide +kernel
theorem dX0_arrive_31 : decode cX0_arrive 31 = .ok (.aload_n 0, 1) := by decide +kernel
theorem dX0_arrive_32 : decode cX0_arrive 32 = .ok (.iconst 0, 1) := by decide +kernel
theorem dX0_arrive_33 : decode cX0_arrive 33 = .ok (.putfield 34, 3) := by decide +kernel
theorem dX0_arrive_36 : decode cX0_arrive 36 = .ok (.aload_n 0, 1) := by decide +kernel
theorem dX0_arrive_37 : decode cX0_arrive 37 = .ok (.iconst 0, 1) := by decide +kernel
theorem dX0_arrive_38 : decode cX0_arrive 38 = .ok (.putfield 37, 3) := by decide +kernel
theorem dX0_arrive_41 : decode cX0_arrive 41 = .ok (.aload_n 0, 1) := by decide +kernel
theorem dX0_arrive_42 : decode cX0_arrive 42 = .ok (.iconst 0, 1) := by decide +kernel
theorem dX0_arrive_43 : decode cX0_arrive 43 = .ok (.putfield 40, 3) := by decide +kernel
theorem dX0_arrive_46 : decode cX0_arrive 46 = .ok (.aload_n 0, 1) := by decide +kernel
theorem dX0_arrive_47 : decode cX0_arrive 47 = .ok (.iconst 0, 1) := by decide +kernel
theorem dX0_arrive_48 : decode cX0_arrive 48 = .ok (.putfield 43, 3) := by decide +kernel
theorem dX0_arrive_51 : decode cX0_arrive 51 = .ok (.return_, 1) := by decide +kernel
theorem dX0_become_0 : decode cX0_become 0 = .ok (.aload_n 0, 1) := by decide +kernel
theorem dX0_become_1 : decode cX0_become 1 = .ok (.aload_n 1, 1) := by decide +kernel
theorem dX0_become_2 : decode cX0_become 2 = .ok (.getfield 15, 3) := by decide +kernel
theorem dX0_become_5 : decode cX0_become 5 = .ok (.putfield 15, 3) := by decide +kernel
theorem dX0_become_8 : decode cX0_become 8 = .ok (.aload_n 0, 1) := by decide +kernel
theorem dX0_become_9 : decode cX0_become 9 = .ok (.aload_n 1, 1) := by decide +kernel
theorem dX0_become_10 : decode cX0_become 10 = .ok (.getfield 18, 3) := by decide +kernel
theorem dX0_become_13 : decode cX0_become 13 = .ok (.putfield 18, 3) := by decide +kernel
theorem dX0_become_16 : decode cX0_become 16 = .ok (.aload_n 0, 1) := by decide +kernel
theorem dX0_become_17 : decode cX0_become 17 = .ok (.aload_n 1, 1) := by decide +kernel
theorem dX0_become_18 : decode cX0_become 18 = .ok (.getfield 21, 3) := by decide +kernel
theorem dX0_become_21 : decode cX0_become 21 = .ok (.putfield 21, 3) := by decide +kernel
theorem dX0_become_24 : decode cX0_become 24 = .ok (.aload_n 0, 1) := by decide +kernel
theorem dX0_become_25 : decode cX0_become 25 = .ok (.aload_n 1, 1) := by decide +kernel
theorem dX0_become_26 : decode cX0_become 26 = .ok (.getfield 24, 3) := by decide +kernel
theorem dX0_become_29 : decode cX0_become 29 = .ok (.putfield 24, 3) := by decide +kernel
theorem dX0_become_32 : decode cX0_become 32 = .ok (.aload_n 0, 1) := by decide +kernel
theorem dX0_become_33 : decode cX0_become 33 = .ok (.aload_n 1, 1) := by decide +kernel
theorem dX0_become_34 : decode cX0_become 34 = .ok (.getfield 27, 3) := by decide +kernel
theorem dX0_become_37 : decode cX0_become 37 = .ok (.putfield 27, 3) := by decide +kernel
theorem dX0_become_40 : decode cX0_become 40 = .ok (.aload_n 0, 1) := by decide +kernel
theorem dX0_become_41 : decode cX0_become 41 = .ok (.aload_n 1, 1) := by decide +kernel
theorem dX0_become_42 : decode cX0_become 42 = .ok (.getfield 30, 3) := by decide +kernel
theorem dX0_become_45 : decode cX0_become 45 = .ok (.putfield 30, 3) := by decide +kernel
theorem dX0_become_48 : decode cX0_become 48 = .ok (.aload_n 0, 1) := by decide +kernel
theorem dX0_become_49 : decode cX0_become 49 = .ok (.aload_n 1, 1) := by decide +kernel
theorem dX0_become_50 : decode cX0_become 50 = .ok (.getfield 34, 3) := by decide +kernel
theorem dX0_become_53 : decode cX0_become 53 = .ok (.putfield 34, 3) := by decide +kernel
theorem dX0_become_56 : decode cX0_become 56 = .ok (.aload_n 0, 1) := by decide +kernel
theorem dX0_become_57 : decode cX0_become 57 = .ok (.aload_n 1, 1) := by decide +kernel
theorem dX0_become_58 : decode cX0_become 58 = .ok (.getfield 37, 3) := by decide +kernel
theorem dX0_become_61 : decode cX0_become 61 = .ok (.putfield 37, 3) := by decide +kernel
theorem dX0_become_64 : decode cX0_become 64 = .ok (.aload_n 0, 1) := by decide +kernel
theorem dX0_become_65 : decode cX0_become 65 = .ok (.aload_n 1, 1) := by decide +kernel
theorem dX0_become_66 : decode cX0_become 66 = .ok (.getfield 40, 3) := by decide +kernel
theorem dX0_become_69 : decode cX0_become 69 = .ok (.putfield 40, 3) := by decide +kernel
theorem dX0_become_72 : decode cX0_become 72 = .ok (.aload_n 0, 1) := by decide +kernel
theorem dX0_become_73 : decode cX0_become 73 = .ok (.aload_n 1, 1) := by decide +kernel
theorem dX0_become_74 : decode cX0_become 74 = .ok (.getfield 43, 3) := by decide +kernel
theorem dX0_become_77 : decode cX0_become 77 = .ok (.putfield 43, 3) := by decide +kernel
theorem dX0_become_80 : decode cX0_become 80 = .ok (.return_, 1) := by decide +kernel
theorem dX0_last_0 : decode cX0_last 0 = .ok (.aload_n 0, 1) := by decide +kernel
theorem dX0_last_1 : decode cX0_last 1 = .ok (.getfield 18, 3) := by decide +kernel
theorem dX0_last_4 : decode cX0_last 4 = .ok (.aload_n 0, 1) := by decide +kernel
theorem dX0_last_5 : decode cX0_last 5 = .ok (.getfield 21, 3) := by decide +kernel
theorem dX0_last_8 : decode cX0_last 8 = .ok (.isub, 1) := by decide +kernel
theorem dX0_last_9 : decode cX0_last 9 = .ok (.iconst 1, 1) := by decide +kernel
theorem dX0_last_10 : decode cX0_last 10 = .ok (.iadd, 1) := by decide +kernel
theorem dX0_last_11 : decode cX0_last 11 = .ok (.ireturn, 1) := by decide +kernel
theorem dX0_about_0 : decode cX0_about 0 = .ok (.iload_n 1, 1) := by decide +kernel
theorem dX0_about_1 : decode cX0_about 1 = .ok (.tableswitch 112 0 8 #[51, 56, 61, 66, 71, 76, 89, 102, 107], 51) := by decide +kernel
theorem dX0_about_52 : decode cX0_about 52 = .ok (.aload_n 0, 1) := by decide +kernel
theorem dX0_about_53 : decode cX0_about 53 = .ok (.getfield 15, 3) := by decide +kernel
theorem dX0_about_56 : decode cX0_about 56 = .ok (.ireturn, 1) := by decide +kernel
theorem dX0_about_57 : decode cX0_about 57 = .ok (.aload_n 0, 1) := by decide +kernel
theorem dX0_about_58 : decode cX0_about 58 = .ok (.getfield 18, 3) := by decide +kernel
theorem dX0_about_61 : decode cX0_about 61 = .ok (.ireturn, 1) := by decide +kernel
theorem dX0_about_62 : decode cX0_about 62 = .ok (.aload_n 0, 1) := by decide +kernel
theorem dX0_about_63 : decode cX0_about 63 = .ok (.getfield 21, 3) := by decide +kernel
theorem dX0_about_66 : decode cX0_about 66 = .ok (.ireturn, 1) := by decide +kernel
theorem dX0_about_67 : decode cX0_about 67 = .ok (.aload_n 0, 1) := by decide +kernel
theorem dX0_about_68 : decode cX0_about 68 = .ok (.getfield 24, 3) := by decide +kernel
theorem dX0_about_71 : decode cX0_about 71 = .ok (.ireturn, 1) := by decide +kernel
theorem dX0_about_72 : decode cX0_about 72 = .ok (.aload_n 0, 1) := by decide +kernel
theorem dX0_about_73 : decode cX0_about 73 = .ok (.getfield 27, 3) := by decide +kernel
theorem dX0_about_76 : decode cX0_about 76 = .ok (.ireturn, 1) := by decide +kernel
theorem dX0_about_77 : decode cX0_about 77 = .ok (.aload_n 0, 1) := by decide +kernel
theorem dX0_about_78 : decode cX0_about 78 = .ok (.getfield 30, 3) := by decide +kernel
theorem dX0_about_81 : decode cX0_about 81 = .ok (.ifCond .eq 7, 3) := by decide +kernel
theorem dX0_about_84 : decode cX0_about 84 = .ok (.iconst 1, 1) := by decide +kernel
theorem dX0_about_85 : decode cX0_about 85 = .ok (.goto 4, 3) := by decide +kernel
theorem dX0_about_88 : decode cX0_about 88 = .ok (.iconst 0, 1) := by decide +kernel
theorem dX0_about_89 : decode cX0_about 89 = .ok (.ireturn, 1) := by decide +kernel
theorem dX0_about_90 : decode cX0_about 90 = .ok (.aload_n 0, 1) := by decide +kernel
theorem dX0_about_91 : decode cX0_about 91 = .ok (.getfield 34, 3) := by decide +kernel
theorem dX0_about_94 : decode cX0_about 94 = .ok (.ifCond .eq 7, 3) := by decide +kernel
theorem dX0_about_97 : decode cX0_about 97 = .ok (.iconst 1, 1) := by decide +kernel
theorem dX0_about_98 : decode cX0_about 98 = .ok (.goto 4, 3) := by decide +kernel
theorem dX0_about_101 : decode cX0_about 101 = .ok (.iconst 0, 1) := by decide +kernel
theorem dX0_about_102 : decode cX0_about 102 = .ok (.ireturn, 1) := by decide +kernel
theorem dX0_about_103 : decode cX0_about 103 = .ok (.aload_n 0, 1) := by decide +kernel
theorem dX0_about_104 : decode cX0_about 104 = .ok (.getfield 37, 3) := by decide +kernel
theorem dX0_about_107 : decode cX0_about 107 = .ok (.ireturn, 1) := by decide +kernel
theorem dX0_about_108 : decode cX0_about 108 = .ok (.aload_n 0, 1) := by decide +kernel
theorem dX0_about_109 : decode cX0_about 109 = .ok (.getfield 40, 3) := by decide +kernel
theorem dX0_about_112 : decode cX0_about 112 = .ok (.ireturn, 1) := by decide +kernel
theorem dX0_about_113 : decode cX0_about 113 = .ok (.bipush (-2), 2) := by decide +kernel
theorem dX0_about_115 : decode cX0_about 115 = .ok (.ireturn, 1) := by decide +kernel
theorem dX1_init_0 : decode cX1_init 0 = .ok (.aload_n 0, 1) := by decide +kernel
theorem dX1_init_1 : decode cX1_init 1 = .ok (.invokespecial 3, 3) := by decide +kernel
theorem dX1_init_4 : decode cX1_init 4 = .ok (.aload_n 0, 1) := by decide +kernel
theorem dX1_init_5 : decode cX1_init 5 = .ok (.bipush 7, 2) := by decide +kernel
theorem dX1_init_7 : decode cX1_init 7 = .ok (.anewarray 9, 3) := by decide +kernel
theorem dX1_init_10 : decode cX1_init 10 = .ok (.putfield 11, 3) := by decide +kernel
theorem dX1_init_13 : decode cX1_init 13 = .ok (.iconst 0, 1) := by decide +kernel
theorem dX1_init_14 : decode cX1_init 14 = .ok (.istore_n 1, 1) := by decide +kernel
theorem dX1_init_15 : decode cX1_init 15 = .ok (.iload_n 1, 1) := by decide +kernel
theorem dX1_init_16 : decode cX1_init 16 = .ok (.aload_n 0, 1) := by decide +kernel
theorem dX1_init_17 : decode cX1_init 17 = .ok (.getfield 11, 3) := by decide +kernel
theorem dX1_init_20 : decode cX1_init 20 = .ok (.arraylength, 1) := by decide +kernel
theorem dX1_init_21 : decode cX1_init 21 = .ok (.if_icmp .ge 22, 3) := by decide +kernel
theorem dX1_init_24 : decode cX1_init 24 = .ok (.aload_n 0, 1) := by decide +kernel
theorem dX1_init_25 : decode cX1_init 25 = .ok (.getfield 11, 3) := by decide +kernel
theorem dX1_init_28 : decode cX1_init 28 = .ok (.iload_n 1, 1) := by decide +kernel
theorem dX1_init_29 : decode cX1_init 29 = .ok (.new 9, 3) := by decide +kernel
theorem dX1_init_32 : decode cX1_init 32 = .ok (.dup, 1) := by decide +kernel
theorem dX1_init_33 : decode cX1_init 33 = .ok (.invokespecial 17, 3) := by decide +kernel
theorem dX1_init_36 : decode cX1_init 36 = .ok (.aastore, 1) := by decide +kernel
theorem dX1_init_37 : decode cX1_init 37 = .ok (.iinc 1 1, 3) := by decide +kernel
theorem dX1_init_40 : decode cX1_init 40 = .ok (.goto (-25), 3) := by decide +kernel
theorem dX1_init_43 : decode cX1_init 43 = .ok (.return_, 1) := by decide +kernel
theorem dX1_note_0 : decode cX1_note 0 = .ok (.aload_n 0, 1) := by decide +kernel
theorem dX1_note_1 : decode cX1_note 1 = .ok (.invokevirtual 18, 3) := by decide +kernel
theorem dX1_note_4 : decode cX1_note 4 = .ok (.astore_n 2, 1) := by decide +kernel
theorem dX1_note_5 : decode cX1_note 5 = .ok (.aload_n 2, 1) := by decide +kernel
theorem dX1_note_6 : decode cX1_note 6 = .ok (.ifnull 8, 3) := by decide +kernel
theorem dX1_note_9 : decode cX1_note 9 = .ok (.aload_n 2, 1) := by decide +kernel
theorem dX1_note_10 : decode cX1_note 10 = .ok (.aload_n 1, 1) := by decide +kernel
theorem dX1_note_11 : decode cX1_note 11 = .ok (.invokevirtual 22, 3) := by decide +kernel
theorem dX1_note_14 : decode cX1_note 14 = .ok (.return_, 1) := by decide +kernel
theorem dX1_keep_0 : decode cX1_keep 0 = .ok (.aload_n 0, 1) := by decide +kernel
theorem dX1_keep_1 : decode cX1_keep 1 = .ok (.aload_n 0, 1) := by decide +kernel
theorem dX1_keep_2 : decode cX1_keep 2 = .ok (.getfield 26, 3) := by decide +kernel
theorem dX1_keep_5 : decode cX1_keep 5 = .ok (.iconst 1, 1) := by decide +kernel
theorem dX1_keep_6 : decode cX1_keep 6 = .ok (.iadd, 1) := by decide +kernel
theorem dX1_keep_7 : decode cX1_keep 7 = .ok (.aload_n 0, 1) := by decide +kernel
theorem dX1_keep_8 : decode cX1_keep 8 = .ok (.getfield 11, 3) := by decide +kernel
theorem dX1_keep_11 : decode cX1_keep 11 = .ok (.arraylength, 1) := by decide +kernel
theorem dX1_keep_12 : decode cX1_keep 12 = .ok (.if_icmp .ge 12, 3) := by decide +kernel
theorem dX1_keep_15 : decode cX1_keep 15 = .ok (.aload_n 0, 1) := by decide +kernel
theorem dX1_keep_16 : decode cX1_keep 16 = .ok (.getfield 26, 3) := by decide +kernel
theorem dX1_keep_19 : decode cX1_keep 19 = .ok (.iconst 1, 1) := by decide +kernel
theorem dX1_keep_20 : decode cX1_keep 20 = .ok (.iadd, 1) := by decide +kernel
theorem dX1_keep_21 : decode cX1_keep 21 = .ok (.goto 4, 3) := by decide +kernel
theorem dX1_keep_24 : decode cX1_keep 24 = .ok (.iconst 0, 1) := by decide +kernel
theorem dX1_keep_25 : decode cX1_keep 25 = .ok (.putfield 26, 3) := by decide +kernel
theorem dX1_keep_28 : decode cX1_keep 28 = .ok (.aload_n 0, 1) := by decide +kernel
theorem dX1_keep_29 : decode cX1_keep 29 = .ok (.aload_n 0, 1) := by decide +kernel
theorem dX1_keep_30 : decode cX1_keep 30 = .ok (.getfield 30, 3) := by decide +kernel
theorem dX1_keep_33 : decode cX1_keep 33 = .ok (.iconst 1, 1) := by decide +kernel
theorem dX1_keep_34 : decode cX1_keep 34 = .ok (.iadd, 1) := by decide +kernel
theorem dX1_keep_35 : decode cX1_keep 35 = .ok (.bipush 6, 2) := by decide +kernel
theorem dX1_keep_37 : decode cX1_keep 37 = .ok (.invokestatic 33, 3) := by decide +kernel
theorem dX1_keep_40 : decode cX1_keep 40 = .ok (.putfield 30, 3) := by decide +kernel
theorem dX1_keep_43 : decode cX1_keep 43 = .ok (.return_, 1) := by decide +kernel
theorem dX1_stepBack_0 : decode cX1_stepBack 0 = .ok (.aload_n 0, 1) := by decide +kernel
theorem dX1_stepBack_1 : decode cX1_stepBack 1 = .ok (.getfield 30, 3) := by decide +kernel
theorem dX1_stepBack_4 : decode cX1_stepBack 4 = .ok (.ifCond .gt 6, 3) := by decide +kernel
theorem dX1_stepBack_7 : decode cX1_stepBack 7 = .ok (.bipush (-5), 2) := by decide +kernel
theorem dX1_stepBack_9 : decode cX1_stepBack 9 = .ok (.ireturn, 1) := by decide +kernel
theorem dX1_stepBack_10 : decode cX1_stepBack 10 = .ok (.aload_n 0, 1) := by decide +kernel
theorem dX1_stepBack_11 : decode cX1_stepBack 11 = .ok (.dup, 1) := by decide +kernel
theorem dX1_stepBack_12 : decode cX1_stepBack 12 = .ok (.getfield 30, 3) := by decide +kernel
theorem dX1_stepBack_15 : decode cX1_stepBack 15 = .ok (.iconst 1, 1) := by decide +kernel
theorem dX1_stepBack_16 : decode cX1_stepBack 16 = .ok (.isub, 1) := by decide +kernel
theorem dX1_stepBack_17 : decode cX1_stepBack 17 = .ok (.putfield 30, 3) := by decide +kernel
theorem dX1_stepBack_20 : decode cX1_stepBack 20 = .ok (.aload_n 0, 1) := by decide +kernel
theorem dX1_stepBack_21 : decode cX1_stepBack 21 = .ok (.aload_n 0, 1) := by decide +kernel
theorem dX1_stepBack_22 : decode cX1_stepBack 22 = .ok (.getfield 26, 3) := by decide +kernel
theorem dX1_stepBack_25 : decode cX1_stepBack 25 = .ok (.ifCond .le 12, 3) := by decide +kernel
theorem dX1_stepBack_28 : decode cX1_stepBack 28 = .ok (.aload_n 0, 1) := by decide +kernel
theorem dX1_stepBack_29 : decode cX1_stepBack 29 = .ok (.getfield 26, 3) := by decide +kernel
theorem dX1_stepBack_32 : decode cX1_stepBack 32 = .ok (.iconst 1, 1) := by decide +kernel
theorem dX1_stepBack_33 : decode cX1_stepBack 33 = .ok (.isub, 1) := by decide +kernel
theorem dX1_stepBack_34 : decode cX1_stepBack 34 = .ok (.goto 10, 3) := by decide +kernel
theorem dX1_stepBack_37 : decode cX1_stepBack 37 = .ok (.aload_n 0, 1) := by decide +kernel
theorem dX1_stepBack_38 : decode cX1_stepBack 38 = .ok (.getfield 11, 3) := by decide +kernel
theorem dX1_stepBack_41 : decode cX1_stepBack 41 = .ok (.arraylength, 1) := by decide +kernel
theorem dX1_stepBack_42 : decode cX1_stepBack 42 = .ok (.iconst 1, 1) := by decide +kernel
theorem dX1_stepBack_43 : decode cX1_stepBack 43 = .ok (.isub, 1) := by decide +kernel
theorem dX1_stepBack_44 : decode cX1_stepBack 44 = .ok (.putfield 26, 3) := by decide +kernel
theorem dX1_stepBack_47 : decode cX1_stepBack 47 = .ok (.aload_n 0, 1) := by decide +kernel
theorem dX1_stepBack_48 : decode cX1_stepBack 48 = .ok (.invokevirtual 18, 3) := by decide +kernel
theorem dX1_stepBack_51 : decode cX1_stepBack 51 = .ok (.astore_n 2, 1) := by decide +kernel
theorem dX1_stepBack_52 : decode cX1_stepBack 52 = .ok (.aload_n 2, 1) := by decide +kernel
theorem dX1_stepBack_53 : decode cX1_stepBack 53 = .ok (.ifnull 8, 3) := by decide +kernel
theorem dX1_stepBack_56 : decode cX1_stepBack 56 = .ok (.aload_n 1, 1) := by decide +kernel
theorem dX1_stepBack_57 : decode cX1_stepBack 57 = .ok (.aload_n 2, 1) := by decide +kernel
theorem dX1_stepBack_58 : decode cX1_stepBack 58 = .ok (.invokevirtual 22, 3) := by decide +kernel
theorem dX1_stepBack_61 : decode cX1_stepBack 61 = .ok (.aload_n 0, 1) := by decide +kernel
theorem dX1_stepBack_62 : decode cX1_stepBack 62 = .ok (.getfield 30, 3) := by decide +kernel
theorem dX1_stepBack_65 : decode cX1_stepBack 65 = .ok (.ireturn, 1) := by decide +kernel
theorem dX1_notedState_0 : decode cX1_notedState 0 = .ok (.aload_n 0, 1) := by decide +kernel
theorem dX1_notedState_1 : decode cX1_notedState 1 = .ok (.getfield 26, 3) := by decide +kernel
theorem dX1_notedState_4 : decode cX1_notedState 4 = .ok (.ifCond .lt 27, 3) := by decide +kernel
theorem dX1_notedState_7 : decode cX1_notedState 7 = .ok (.aload_n 0, 1) := by decide +kernel
theorem dX1_notedState_8 : decode cX1_notedState 8 = .ok (.getfield 26, 3) := by decide +kernel
theorem dX1_notedState_11 : decode cX1_notedState 11 = .ok (.aload_n 0, 1) := by decide +kernel
theorem dX1_notedState_12 : decode cX1_notedState 12 = .ok (.getfield 11, 3) := by decide +kernel
theorem dX1_notedState_15 : decode cX1_notedState 15 = .ok (.arraylength, 1) := by decide +kernel
theorem dX1_notedState_16 : decode cX1_notedState 16 = .ok (.if_icmp .ge 15, 3) := by decide +kernel
theorem dX1_notedState_19 : decode cX1_notedState 19 = .ok (.aload_n 0, 1) := by decide +kernel
theorem dX1_notedState_20 : decode cX1_notedState 20 = .ok (.getfield 11, 3) := by decide +kernel
theorem dX1_notedState_23 : decode cX1_notedState 23 = .ok (.aload_n 0, 1) := by decide +kernel
theorem dX1_notedState_24 : decode cX1_notedState 24 = .ok (.getfield 26, 3) := by decide +kernel
theorem dX1_notedState_27 : decode cX1_notedState 27 = .ok (.aaload, 1) := by decide +kernel
theorem dX1_notedState_28 : decode cX1_notedState 28 = .ok (.goto 4, 3) := by decide +kernel
theorem dX1_notedState_31 : decode cX1_notedState 31 = .ok (.aconst_null, 1) := by decide +kernel
theorem dX1_notedState_32 : decode cX1_notedState 32 = .ok (.areturn, 1) := by decide +kernel
theorem dX2_init_0 : decode cX2_init 0 = .ok (.aload_n 0, 1) := by decide +kernel
theorem dX2_init_1 : decode cX2_init 1 = .ok (.invokespecial 3, 3) := by decide +kernel
theorem dX2_init_4 : decode cX2_init 4 = .ok (.return_, 1) := by decide +kernel
theorem dX2_lay_0 : decode cX2_lay 0 = .ok (.aload_n 0, 1) := by decide +kernel
theorem dX2_lay_1 : decode cX2_lay 1 = .ok (.iload_n 1, 1) := by decide +kernel
theorem dX2_lay_2 : decode cX2_lay 2 = .ok (.putfield 9, 3) := by decide +kernel
theorem dX2_lay_5 : decode cX2_lay 5 = .ok (.aload_n 0, 1) := by decide +kernel
theorem dX2_lay_6 : decode cX2_lay 6 = .ok (.iload_n 2, 1) := by decide +kernel
theorem dX2_lay_7 : decode cX2_lay 7 = .ok (.putfield 15, 3) := by decide +kernel
theorem dX2_lay_10 : decode cX2_lay 10 = .ok (.aload_n 0, 1) := by decide +kernel
theorem dX2_lay_11 : decode cX2_lay 11 = .ok (.iload_n 3, 1) := by decide +kernel
theorem dX2_lay_12 : decode cX2_lay 12 = .ok (.putfield 18, 3) := by decide +kernel
theorem dX2_lay_15 : decode cX2_lay 15 = .ok (.aload_n 0, 1) := by decide +kernel
theorem dX2_lay_16 : decode cX2_lay 16 = .ok (.iload 4, 2) := by decide +kernel
theorem dX2_lay_18 : decode cX2_lay 18 = .ok (.putfield 21, 3) := by decide +kernel
theorem dX2_lay_21 : decode cX2_lay 21 = .ok (.aload_n 0, 1) := by decide +kernel
theorem dX2_lay_22 : decode cX2_lay 22 = .ok (.iload 5, 2) := by decide +kernel
theorem dX2_lay_24 : decode cX2_lay 24 = .ok (.putfield 24, 3) := by decide +kernel
theorem dX2_lay_27 : decode cX2_lay 27 = .ok (.aload_n 0, 1) := by decide +kernel
theorem dX2_lay_28 : decode cX2_lay 28 = .ok (.iconst 0, 1) := by decide +kernel
theorem dX2_lay_29 : decode cX2_lay 29 = .ok (.putfield 27, 3) := by decide +kernel
theorem dX2_lay_32 : decode cX2_lay 32 = .ok (.aload_n 0, 1) := by decide +kernel
theorem dX2_lay_33 : decode cX2_lay 33 = .ok (.iconst 0, 1) := by decide +kernel
theorem dX2_lay_34 : decode cX2_lay 34 = .ok (.putfield 31, 3) := by decide +kernel
theorem dX2_lay_37 : decode cX2_lay 37 = .ok (.aload_n 0, 1) := by decide +kernel
theorem dX2_lay_38 : decode cX2_lay 38 = .ok (.iconst 0, 1) := by decide +kernel
theorem dX2_lay_39 : decode cX2_lay 39 = .ok (.putfield 34, 3) := by decide +kernel
theorem dX2_lay_42 : decode cX2_lay 42 = .ok (.aload_n 0, 1) := by decide +kernel
theorem dX2_lay_43 : decode cX2_lay 43 = .ok (.iconst 0, 1) := by decide +kernel
theorem dX2_lay_44 : decode cX2_lay 44 = .ok (.putfield 37, 3) := by decide +kernel
theorem dX2_lay_47 : decode cX2_lay 47 = .ok (.return_, 1) := by decide +kernel
theorem dX2_become_0 : decode cX2_become 0 = .ok (.aload_n 0, 1) := by decide +kernel
theorem dX2_become_1 : decode cX2_become 1 = .ok (.aload_n 1, 1) := by decide +kernel
theorem dX2_become_2 : decode cX2_become 2 = .ok (.getfield 9, 3) := by decide +kernel
theorem dX2_become_5 : decode cX2_become 5 = .ok (.putfield 9, 3) := by decide +kernel
theorem dX2_become_8 : decode cX2_become 8 = .ok (.aload_n 0, 1) := by decide +kernel
theorem dX2_become_9 : decode cX2_become 9 = .ok (.aload_n 1, 1) := by decide +kernel
theorem dX2_become_10 : decode cX2_become 10 = .ok (.getfield 15, 3) := by decide +kernel
theorem dX2_become_13 : decode cX2_become 13 = .ok (.putfield 15, 3) := by decide +kernel
theorem dX2_become_16 : decode cX2_become 16 = .ok (.aload_n 0, 1) := by decide +kernel
theorem dX2_become_17 : decode cX2_become 17 = .ok (.aload_n 1, 1) := by decide +kernel
theorem dX2_become_18 : decode cX2_become 18 = .ok (.getfield 18, 3) := by decide +kernel
theorem dX2_become_21 : decode cX2_become 21 = .ok (.putfield 18, 3) := by decide +kernel
theorem dX2_become_24 : decode cX2_become 24 = .ok (.aload_n 0, 1) := by decide +kernel
theorem dX2_become_25 : decode cX2_become 25 = .ok (.aload_n 1, 1) := by decide +kernel
theorem dX2_become_26 : decode cX2_become 26 = .ok (.getfield 21, 3) := by decide +kernel
theorem dX2_become_29 : decode cX2_become 29 = .ok (.putfield 21, 3) := by decide +kernel
theorem dX2_become_32 : decode cX2_become 32 = .ok (.aload_n 0, 1) := by decide +kernel
theorem dX2_become_33 : decode cX2_become 33 = .ok (.aload_n 1, 1) := by decide +kernel
theorem dX2_become_34 : decode cX2_become 34 = .ok (.getfield 24, 3) := by decide +kernel
theorem dX2_become_37 : decode cX2_become 37 = .ok (.putfield 24, 3) := by decide +kernel
theorem dX2_become_40 : decode cX2_become 40 = .ok (.aload_n 0, 1) := by decide +kernel
theorem dX2_become_41 : decode cX2_become 41 = .ok (.aload_n 1, 1) := by decide +kernel
theorem dX2_become_42 : decode cX2_become 42 = .ok (.getfield 27, 3) := by decide +kernel
theorem dX2_become_45 : decode cX2_become 45 = .ok (.putfield 27, 3) := by decide +kernel
theorem dX2_become_48 : decode cX2_become 48 = .ok (.aload_n 0, 1) := by decide +kernel
theorem dX2_become_49 : decode cX2_become 49 = .ok (.aload_n 1, 1) := by decide +kernel
theorem dX2_become_50 : decode cX2_become 50 = .ok (.getfield 31, 3) := by decide +kernel
theorem dX2_become_53 : decode cX2_become 53 = .ok (.putfield 31, 3) := by decide +kernel
theorem dX2_become_56 : decode cX2_become 56 = .ok (.aload_n 0, 1) := by decide +kernel
theorem dX2_become_57 : decode cX2_become 57 = .ok (.aload_n 1, 1) := by decide +kernel
theorem dX2_become_58 : decode cX2_become 58 = .ok (.getfield 34, 3) := by decide +kernel
theorem dX2_become_61 : decode cX2_become 61 = .ok (.putfield 34, 3) := by decide +kernel
theorem dX2_become_64 : decode cX2_become 64 = .ok (.aload_n 0, 1) := by decide +kernel
theorem dX2_become_65 : decode cX2_become 65 = .ok (.aload_n 1, 1) := by decide +kernel
theorem dX2_become_66 : decode cX2_become 66 = .ok (.getfield 37, 3) := by decide +kernel
theorem dX2_become_69 : decode cX2_become 69 = .ok (.putfield 37, 3) := by decide +kernel
theorem dX2_become_72 : decode cX2_become 72 = .ok (.return_, 1) := by decide +kernel
theorem dX2_isUnder_0 : decode cX2_isUnder 0 = .ok (.aload_n 1, 1) := by decide +kernel
theorem dX2_isUnder_1 : decode cX2_isUnder 1 = .ok (.getfield 40, 3) := by decide +kernel
theorem dX2_isUnder_4 : decode cX2_isUnder 4 = .ok (.aload_n 1, 1) := by decide +kernel
theorem dX2_isUnder_5 : decode cX2_isUnder 5 = .ok (.getfield 45, 3) := by decide +kernel
theorem dX2_isUnder_8 : decode cX2_isUnder 8 = .ok (.isub, 1) := by decide +kernel
theorem dX2_isUnder_9 : decode cX2_isUnder 9 = .ok (.iconst 1, 1) := by decide +kernel
theorem dX2_isUnder_10 : decode cX2_isUnder 10 = .ok (.iadd, 1) := by decide +kernel
theorem dX2_isUnder_11 : decode cX2_isUnder 11 = .ok (.istore_n 2, 1) := by decide +kernel
theorem dX2_isUnder_12 : decode cX2_isUnder 12 = .ok (.aload_n 0, 1) := by decide +kernel
theorem dX2_isUnder_13 : decode cX2_isUnder 13 = .ok (.getfield 9, 3) := by decide +kernel
theorem dX2_isUnder_16 : decode cX2_isUnder 16 = .ok (.aload_n 1, 1) := by decide +kernel
theorem dX2_isUnder_17 : decode cX2_isUnder 17 = .ok (.getfield 48, 3) := by decide +kernel
theorem dX2_isUnder_20 : decode cX2_isUnder 20 = .ok (.if_icmp .ne 31, 3) := by decide +kernel
theorem dX2_isUnder_23 : decode cX2_isUnder 23 = .ok (.aload_n 0, 1) := by decide +kernel
theorem dX2_isUnder_24 : decode cX2_isUnder 24 = .ok (.getfield 15, 3) := by decide +kernel
theorem dX2_isUnder_27 : decode cX2_isUnder 27 = .ok (.aload_n 1, 1) := by decide +kernel
theorem dX2_isUnder_28 : decode cX2_isUnder 28 = .ok (.getfield 40, 3) := by decide +kernel
theorem dX2_isUnder_31 : decode cX2_isUnder 31 = .ok (.if_icmp .gt 20, 3) := by decide +kernel
theorem dX2_isUnder_34 : decode cX2_isUnder 34 = .ok (.iload_n 2, 1) := by decide +kernel
theorem dX2_isUnder_35 : decode cX2_isUnder 35 = .ok (.aload_n 0, 1) := by decide +kernel
theorem dX2_isUnder_36 : decode cX2_isUnder 36 = .ok (.getfield 15, 3) := by decide +kernel
theorem dX2_isUnder_39 : decode cX2_isUnder 39 = .ok (.aload_n 0, 1) := by decide +kernel
theorem dX2_isUnder_40 : decode cX2_isUnder 40 = .ok (.getfield 18, 3) := by decide +kernel
theorem dX2_isUnder_43 : decode cX2_isUnder 43 = .ok (.iadd, 1) := by decide +kernel
theorem dX2_isUnder_44 : decode cX2_isUnder 44 = .ok (.if_icmp .ge 7, 3) := by decide +kernel
theorem dX2_isUnder_47 : decode cX2_isUnder 47 = .ok (.iconst 1, 1) := by decide +kernel
theorem dX2_isUnder_48 : decode cX2_isUnder 48 = .ok (.goto 4, 3) := by decide +kernel
theorem dX2_isUnder_51 : decode cX2_isUnder 51 = .ok (.iconst 0, 1) := by decide +kernel
theorem dX2_isUnder_52 : decode cX2_isUnder 52 = .ok (.ireturn, 1) := by decide +kernel
theorem dX2_hear_0 : decode cX2_hear 0 = .ok (.aload_n 0, 1) := by decide +kernel
theorem dX2_hear_1 : decode cX2_hear 1 = .ok (.dup, 1) := by decide +kernel
theorem dX2_hear_2 : decode cX2_hear 2 = .ok (.getfield 37, 3) := by decide +kernel
theorem dX2_hear_5 : decode cX2_hear 5 = .ok (.iconst 1, 1) := by decide +kernel
theorem dX2_hear_6 : decode cX2_hear 6 = .ok (.iadd, 1) := by decide +kernel
theorem dX2_hear_7 : decode cX2_hear 7 = .ok (.putfield 37, 3) := by decide +kernel
theorem dX2_hear_10 : decode cX2_hear 10 = .ok (.aload_n 0, 1) := by decide +kernel
theorem dX2_hear_11 : decode cX2_hear 11 = .ok (.getfield 27, 3) := by decide +kernel
theorem dX2_hear_14 : decode cX2_hear 14 = .ok (.ifCond .ne 29, 3) := by decide +kernel
theorem dX2_hear_17 : decode cX2_hear 17 = .ok (.iload_n 1, 1) := by decide +kernel
theorem dX2_hear_18 : decode cX2_hear 18 = .ok (.aload_n 0, 1) := by decide +kernel
theorem dX2_hear_19 : decode cX2_hear 19 = .ok (.getfield 21, 3) := by decide +kernel
theorem dX2_hear_22 : decode cX2_hear 22 = .ok (.if_icmp .lt 21, 3) := by decide +kernel
theorem dX2_hear_25 : decode cX2_hear 25 = .ok (.aload_n 0, 1) := by decide +kernel
theorem dX2_hear_26 : decode cX2_hear 26 = .ok (.iconst 1, 1) := by decide +kernel
theorem dX2_hear_27 : decode cX2_hear 27 = .ok (.putfield 27, 3) := by decide +kernel
theorem dX2_hear_30 : decode cX2_hear 30 = .ok (.aload_n 0, 1) := by decide +kernel
theorem dX2_hear_31 : decode cX2_hear 31 = .ok (.dup, 1) := by decide +kernel
theorem dX2_hear_32 : decode cX2_hear 32 = .ok (.getfield 31, 3) := by decide +kernel
theorem dX2_hear_35 : decode cX2_hear 35 = .ok (.iconst 1, 1) := by decide +kernel
theorem dX2_hear_36 : decode cX2_hear 36 = .ok (.iadd, 1) := by decide +kernel
theorem dX2_hear_37 : decode cX2_hear 37 = .ok (.putfield 31, 3) := by decide +kernel
theorem dX2_hear_40 : decode cX2_hear 40 = .ok (.goto 23, 3) := by decide +kernel
theorem dX2_hear_43 : decode cX2_hear 43 = .ok (.aload_n 0, 1) := by decide +kernel
theorem dX2_hear_44 : decode cX2_hear 44 = .ok (.getfield 27, 3) := by decide +kernel
theorem dX2_hear_47 : decode cX2_hear 47 = .ok (.ifCond .eq 16, 3) := by decide +kernel
theorem dX2_hear_50 : decode cX2_hear 50 = .ok (.iload_n 1, 1) := by decide +kernel
theorem dX2_hear_51 : decode cX2_hear 51 = .ok (.aload_n 0, 1) := by decide +kernel
theorem dX2_hear_52 : decode cX2_hear 52 = .ok (.getfield 24, 3) := by decide +kernel
theorem dX2_hear_55 : decode cX2_hear 55 = .ok (.if_icmp .ge 8, 3) := by decide +kernel
theorem dX2_hear_58 : decode cX2_hear 58 = .ok (.aload_n 0, 1) := by decide +kernel
theorem dX2_hear_59 : decode cX2_hear 59 = .ok (.iconst 0, 1) := by decide +kernel
theorem dX2_hear_60 : decode cX2_hear 60 = .ok (.putfield 27, 3) := by decide +kernel
theorem dX2_hear_63 : decode cX2_hear 63 = .ok (.return_, 1) := by decide +kernel
theorem dX2_falselyCounted_0 : decode cX2_falselyCounted 0 = .ok (.aload_n 0, 1) := by decide +kernel
theorem dX2_falselyCounted_1 : decode cX2_falselyCounted 1 = .ok (.getfield 31, 3) := by decide +kernel
theorem dX2_falselyCounted_4 : decode cX2_falselyCounted 4 = .ok (.aload_n 0, 1) := by decide +kernel
theorem dX2_falselyCounted_5 : decode cX2_falselyCounted 5 = .ok (.getfield 34, 3) := by decide +kernel
theorem dX2_falselyCounted_8 : decode cX2_falselyCounted 8 = .ok (.isub, 1) := by decide +kernel
theorem dX2_falselyCounted_9 : decode cX2_falselyCounted 9 = .ok (.ireturn, 1) := by decide +kernel
theorem dX2_about_0 : decode cX2_about 0 = .ok (.iload_n 1, 1) := by decide +kernel
theorem dX2_about_1 : decode cX2_about 1 = .ok (.tableswitch 108 0 9 #[55, 60, 65, 70, 75, 80, 93, 98, 108, 103], 55) := by decide +kernel
theorem dX2_about_56 : decode cX2_about 56 = .ok (.aload_n 0, 1) := by decide +kernel
theorem dX2_about_57 : decode cX2_about 57 = .ok (.getfield 9, 3) := by decide +kernel
theorem dX2_about_60 : decode cX2_about 60 = .ok (.ireturn, 1) := by decide +kernel
theorem dX2_about_61 : decode cX2_about 61 = .ok (.aload_n 0, 1) := by decide +kernel
theorem dX2_about_62 : decode cX2_about 62 = .ok (.getfield 15, 3) := by decide +kernel
theorem dX2_about_65 : decode cX2_about 65 = .ok (.ireturn, 1) := by decide +kernel
theorem dX2_about_66 : decode cX2_about 66 = .ok (.aload_n 0, 1) := by decide +kernel
theorem dX2_about_67 : decode cX2_about 67 = .ok (.getfield 18, 3) := by decide +kernel
theorem dX2_about_70 : decode cX2_about 70 = .ok (.ireturn, 1) := by decide +kernel
theorem dX2_about_71 : decode cX2_about 71 = .ok (.aload_n 0, 1) := by decide +kernel
theorem dX2_about_72 : decode cX2_about 72 = .ok (.getfield 21, 3) := by decide +kernel
theorem dX2_about_75 : decode cX2_about 75 = .ok (.ireturn, 1) := by decide +kernel
theorem dX2_about_76 : decode cX2_about 76 = .ok (.aload_n 0, 1) := by decide +kernel
theorem dX2_about_77 : decode cX2_about 77 = .ok (.getfield 24, 3) := by decide +kernel
theorem dX2_about_80 : decode cX2_about 80 = .ok (.ireturn, 1) := by decide +kernel
theorem dX2_about_81 : decode cX2_about 81 = .ok (.aload_n 0, 1) := by decide +kernel
theorem dX2_about_82 : decode cX2_about 82 = .ok (.getfield 27, 3) := by decide +kernel
theorem dX2_about_85 : decode cX2_about 85 = .ok (.ifCond .eq 7, 3) := by decide +kernel
theorem dX2_about_88 : decode cX2_about 88 = .ok (.iconst 1, 1) := by decide +kernel
theorem dX2_about_89 : decode cX2_about 89 = .ok (.goto 4, 3) := by decide +kernel
theorem dX2_about_92 : decode cX2_about 92 = .ok (.iconst 0, 1) := by decide +kernel
theorem dX2_about_93 : decode cX2_about 93 = .ok (.ireturn, 1) := by decide +kernel
theorem dX2_about_94 : decode cX2_about 94 = .ok (.aload_n 0, 1) := by decide +kernel
theorem dX2_about_95 : decode cX2_about 95 = .ok (.getfield 31, 3) := by decide +kernel
theorem dX2_about_98 : decode cX2_about 98 = .ok (.ireturn, 1) := by decide +kernel
theorem dX2_about_99 : decode cX2_about 99 = .ok (.aload_n 0, 1) := by decide +kernel
theorem dX2_about_100 : decode cX2_about 100 = .ok (.getfield 34, 3) := by decide +kernel
theorem dX2_about_103 : decode cX2_about 103 = .ok (.ireturn, 1) := by decide +kernel
theorem dX2_about_104 : decode cX2_about 104 = .ok (.aload_n 0, 1) := by decide +kernel
theorem dX2_about_105 : decode cX2_about 105 = .ok (.getfield 37, 3) := by decide +kernel
theorem dX2_about_108 : decode cX2_about 108 = .ok (.ireturn, 1) := by decide +kernel
theorem dX2_about_109 : decode cX2_about 109 = .ok (.bipush (-2), 2) := by decide +kernel
theorem dX2_about_111 : decode cX2_about 111 = .ok (.ireturn, 1) := by decide +kernel
theorem dX3_init_0 : decode cX3_init 0 = .ok (.aload_n 0, 1) := by decide +kernel
theorem dX3_init_1 : decode cX3_init 1 = .ok (.invokespecial 3, 3) := by decide +kernel
theorem dX3_init_4 : decode cX3_init 4 = .ok (.aload_n 0, 1) := by decide +kernel
theorem dX3_init_5 : decode cX3_init 5 = .ok (.bipush 60, 2) := by decide +kernel
theorem dX3_init_7 : decode cX3_init 7 = .ok (.newarray .char, 2) := by decide +kernel
theorem dX3_init_9 : decode cX3_init 9 = .ok (.putfield 9, 3) := by decide +kernel
theorem dX3_init_12 : decode cX3_init 12 = .ok (.return_, 1) := by decide +kernel
theorem dX3_append_0 : decode cX3_append 0 = .ok (.lload_n 1, 1) := by decide +kernel
theorem dX3_append_1 : decode cX3_append 1 = .ok (.invokestatic 15, 3) := by decide +kernel
theorem dX3_append_4 : decode cX3_append 4 = .ok (.istore_n 3, 1) := by decide +kernel
theorem dX3_append_5 : decode cX3_append 5 = .ok (.iload_n 3, 1) := by decide +kernel
theorem dX3_append_6 : decode cX3_append 6 = .ok (.ifCond .ne 6, 3) := by decide +kernel
theorem dX3_append_9 : decode cX3_append 9 = .ok (.bipush (-2), 2) := by decide +kernel
theorem dX3_append_11 : decode cX3_append 11 = .ok (.ireturn, 1) := by decide +kernel
theorem dX3_append_12 : decode cX3_append 12 = .ok (.aload_n 0, 1) := by decide +kernel
theorem dX3_append_13 : decode cX3_append 13 = .ok (.getfield 19, 3) := by decide +kernel
theorem dX3_append_16 : decode cX3_append 16 = .ok (.iload_n 3, 1) := by decide +kernel
theorem dX3_append_17 : decode cX3_append 17 = .ok (.iadd, 1) := by decide +kernel
theorem dX3_append_18 : decode cX3_append 18 = .ok (.aload_n 0, 1) := by decide +kernel
theorem dX3_append_19 : decode cX3_append 19 = .ok (.getfield 9, 3) := by decide +kernel
theorem dX3_append_22 : decode cX3_append 22 = .ok (.arraylength, 1) := by decide +kernel
theorem dX3_append_23 : decode cX3_append 23 = .ok (.if_icmp .le 6, 3) := by decide +kernel
theorem dX3_append_26 : decode cX3_append 26 = .ok (.bipush (-4), 2) := by decide +kernel
theorem dX3_append_28 : decode cX3_append 28 = .ok (.ireturn, 1) := by decide +kernel
theorem dX3_append_29 : decode cX3_append 29 = .ok (.iload_n 3, 1) := by decide +kernel
theorem dX3_append_30 : decode cX3_append 30 = .ok (.iconst 1, 1) := by decide +kernel
theorem dX3_append_31 : decode cX3_append 31 = .ok (.isub, 1) := by decide +kernel
theorem dX3_append_32 : decode cX3_append 32 = .ok (.istore 4, 2) := by decide +kernel
theorem dX3_append_34 : decode cX3_append 34 = .ok (.iload 4, 2) := by decide +kernel
theorem dX3_append_36 : decode cX3_append 36 = .ok (.ifCond .lt 60, 3) := by decide +kernel
theorem dX3_append_39 : decode cX3_append 39 = .ok (.aload_n 0, 1) := by decide +kernel
theorem dX3_append_40 : decode cX3_append 40 = .ok (.getfield 19, 3) := by decide +kernel
theorem dX3_append_43 : decode cX3_append 43 = .ok (.ifCond .lt 47, 3) := by decide +kernel
theorem dX3_append_46 : decode cX3_append 46 = .ok (.aload_n 0, 1) := by decide +kernel
theorem dX3_append_47 : decode cX3_append 47 = .ok (.getfield 19, 3) := by decide +kernel
theorem dX3_append_50 : decode cX3_append 50 = .ok (.aload_n 0, 1) := by decide +kernel
theorem dX3_append_51 : decode cX3_append 51 = .ok (.getfield 9, 3) := by decide +kernel
theorem dX3_append_54 : decode cX3_append 54 = .ok (.arraylength, 1) := by decide +kernel
theorem dX3_append_55 : decode cX3_append 55 = .ok (.if_icmp .ge 35, 3) := by decide +kernel
theorem dX3_append_58 : decode cX3_append 58 = .ok (.aload_n 0, 1) := by decide +kernel
theorem dX3_append_59 : decode cX3_append 59 = .ok (.getfield 9, 3) := by decide +kernel
theorem dX3_append_62 : decode cX3_append 62 = .ok (.aload_n 0, 1) := by decide +kernel
theorem dX3_append_63 : decode cX3_append 63 = .ok (.getfield 19, 3) := by decide +kernel
theorem dX3_append_66 : decode cX3_append 66 = .ok (.lload_n 1, 1) := by decide +kernel
theorem dX3_append_67 : decode cX3_append 67 = .ok (.bipush 8, 2) := by decide +kernel
theorem dX3_append_69 : decode cX3_append 69 = .ok (.iload 4, 2) := by decide +kernel
theorem dX3_append_71 : decode cX3_append 71 = .ok (.imul, 1) := by decide +kernel
theorem dX3_append_72 : decode cX3_append 72 = .ok (.lushr, 1) := by decide +kernel
theorem dX3_append_73 : decode cX3_append 73 = .ok (.ldc2_w 23, 3) := by decide +kernel
theorem dX3_append_76 : decode cX3_append 76 = .ok (.land, 1) := by decide +kernel
theorem dX3_append_77 : decode cX3_append 77 = .ok (.l2i, 1) := by decide +kernel
theorem dX3_append_78 : decode cX3_append 78 = .ok (.i2c, 1) := by decide +kernel
theorem dX3_append_79 : decode cX3_append 79 = .ok (.castore, 1) := by decide +kernel
theorem dX3_append_80 : decode cX3_append 80 = .ok (.aload_n 0, 1) := by decide +kernel
theorem dX3_append_81 : decode cX3_append 81 = .ok (.dup, 1) := by decide +kernel
theorem dX3_append_82 : decode cX3_append 82 = .ok (.getfield 19, 3) := by decide +kernel
theorem dX3_append_85 : decode cX3_append 85 = .ok (.iconst 1, 1) := by decide +kernel
theorem dX3_append_86 : decode cX3_append 86 = .ok (.iadd, 1) := by decide +kernel
theorem dX3_append_87 : decode cX3_append 87 = .ok (.putfield 19, 3) := by decide +kernel
theorem dX3_append_90 : decode cX3_append 90 = .ok (.iinc 4 (-1), 3) := by decide +kernel
theorem dX3_append_93 : decode cX3_append 93 = .ok (.goto (-59), 3) := by decide +kernel
theorem dX3_append_96 : decode cX3_append 96 = .ok (.aload_n 0, 1) := by decide +kernel
theorem dX3_append_97 : decode cX3_append 97 = .ok (.getfield 19, 3) := by decide +kernel
theorem dX3_append_100 : decode cX3_append 100 = .ok (.ireturn, 1) := by decide +kernel
theorem dX3_signsIn_0 : decode cX3_signsIn 0 = .ok (.lload_n 0, 1) := by decide +kernel
theorem dX3_signsIn_1 : decode cX3_signsIn 1 = .ok (.lstore_n 2, 1) := by decide +kernel
theorem dX3_signsIn_2 : decode cX3_signsIn 2 = .ok (.iconst 0, 1) := by decide +kernel
theorem dX3_signsIn_3 : decode cX3_signsIn 3 = .ok (.istore 4, 2) := by decide +kernel
theorem dX3_signsIn_5 : decode cX3_signsIn 5 = .ok (.iload 4, 2) := by decide +kernel
theorem dX3_signsIn_7 : decode cX3_signsIn 7 = .ok (.bipush 8, 2) := by decide +kernel
theorem dX3_signsIn_9 : decode cX3_signsIn 9 = .ok (.if_icmp .ge 42, 3) := by decide +kernel
theorem dX3_signsIn_12 : decode cX3_signsIn 12 = .ok (.lload_n 2, 1) := by decide +kernel
theorem dX3_signsIn_13 : decode cX3_signsIn 13 = .ok (.ldc2_w 23, 3) := by decide +kernel
theorem dX3_signsIn_16 : decode cX3_signsIn 16 = .ok (.land, 1) := by decide +kernel
theorem dX3_signsIn_17 : decode cX3_signsIn 17 = .ok (.lconst 0, 1) := by decide +kernel
theorem dX3_signsIn_18 : decode cX3_signsIn 18 = .ok (.lcmp, 1) := by decide +kernel
theorem dX3_signsIn_19 : decode cX3_signsIn 19 = .ok (.ifCond .eq 32, 3) := by decide +kernel
theorem dX3_signsIn_22 : decode cX3_signsIn 22 = .ok (.lload_n 2, 1) := by decide +kernel
theorem dX3_signsIn_23 : decode cX3_signsIn 23 = .ok (.ldc2_w 23, 3) := by decide +kernel
theorem dX3_signsIn_26 : decode cX3_signsIn 26 = .ok (.land, 1) := by decide +kernel
theorem dX3_signsIn_27 : decode cX3_signsIn 27 = .ok (.l2i, 1) := by decide +kernel
theorem dX3_signsIn_28 : decode cX3_signsIn 28 = .ok (.bipush 33, 2) := by decide +kernel
theorem dX3_signsIn_30 : decode cX3_signsIn 30 = .ok (.bipush 126, 2) := by decide +kernel
theorem dX3_signsIn_32 : decode cX3_signsIn 32 = .ok (.invokestatic 25, 3) := by decide +kernel
theorem dX3_signsIn_35 : decode cX3_signsIn 35 = .ok (.ifCond .ne 5, 3) := by decide +kernel
theorem dX3_signsIn_38 : decode cX3_signsIn 38 = .ok (.iconst 0, 1) := by decide +kernel
theorem dX3_signsIn_39 : decode cX3_signsIn 39 = .ok (.ireturn, 1) := by decide +kernel
theorem dX3_signsIn_40 : decode cX3_signsIn 40 = .ok (.lload_n 2, 1) := by decide +kernel
theorem dX3_signsIn_41 : decode cX3_signsIn 41 = .ok (.bipush 8, 2) := by decide +kernel
theorem dX3_signsIn_43 : decode cX3_signsIn 43 = .ok (.lushr, 1) := by decide +kernel
theorem dX3_signsIn_44 : decode cX3_signsIn 44 = .ok (.lstore_n 2, 1) := by decide +kernel
theorem dX3_signsIn_45 : decode cX3_signsIn 45 = .ok (.iinc 4 1, 3) := by decide +kernel
theorem dX3_signsIn_48 : decode cX3_signsIn 48 = .ok (.goto (-43), 3) := by decide +kernel
theorem dX3_signsIn_51 : decode cX3_signsIn 51 = .ok (.lload_n 2, 1) := by decide +kernel
theorem dX3_signsIn_52 : decode cX3_signsIn 52 = .ok (.lconst 0, 1) := by decide +kernel
theorem dX3_signsIn_53 : decode cX3_signsIn 53 = .ok (.lcmp, 1) := by decide +kernel
theorem dX3_signsIn_54 : decode cX3_signsIn 54 = .ok (.ifCond .ne 8, 3) := by decide +kernel
theorem dX3_signsIn_57 : decode cX3_signsIn 57 = .ok (.iload 4, 2) := by decide +kernel
theorem dX3_signsIn_59 : decode cX3_signsIn 59 = .ok (.goto 4, 3) := by decide +kernel
theorem dX3_signsIn_62 : decode cX3_signsIn 62 = .ok (.iconst 0, 1) := by decide +kernel
theorem dX3_signsIn_63 : decode cX3_signsIn 63 = .ok (.ireturn, 1) := by decide +kernel
theorem dX3_empty_0 : decode cX3_empty 0 = .ok (.aload_n 0, 1) := by decide +kernel
theorem dX3_empty_1 : decode cX3_empty 1 = .ok (.getfield 19, 3) := by decide +kernel
theorem dX3_empty_4 : decode cX3_empty 4 = .ok (.istore_n 1, 1) := by decide +kernel
theorem dX3_empty_5 : decode cX3_empty 5 = .ok (.aload_n 0, 1) := by decide +kernel
theorem dX3_empty_6 : decode cX3_empty 6 = .ok (.iconst 0, 1) := by decide +kernel
theorem dX3_empty_7 : decode cX3_empty 7 = .ok (.putfield 19, 3) := by decide +kernel
theorem dX3_empty_10 : decode cX3_empty 10 = .ok (.iload_n 1, 1) := by decide +kernel
theorem dX3_empty_11 : decode cX3_empty 11 = .ok (.ireturn, 1) := by decide +kernel
theorem dX3_signAt_0 : decode cX3_signAt 0 = .ok (.iload_n 1, 1) := by decide +kernel
theorem dX3_signAt_1 : decode cX3_signAt 1 = .ok (.ifCond .lt 29, 3) := by decide +kernel
theorem dX3_signAt_4 : decode cX3_signAt 4 = .ok (.iload_n 1, 1) := by decide +kernel
theorem dX3_signAt_5 : decode cX3_signAt 5 = .ok (.aload_n 0, 1) := by decide +kernel
theorem dX3_signAt_6 : decode cX3_signAt 6 = .ok (.getfield 19, 3) := by decide +kernel
theorem dX3_signAt_9 : decode cX3_signAt 9 = .ok (.if_icmp .ge 21, 3) := by decide +kernel
theorem dX3_signAt_12 : decode cX3_signAt 12 = .ok (.iload_n 1, 1) := by decide +kernel
theorem dX3_signAt_13 : decode cX3_signAt 13 = .ok (.aload_n 0, 1) := by decide +kernel
theorem dX3_signAt_14 : decode cX3_signAt 14 = .ok (.getfield 9, 3) := by decide +kernel
theorem dX3_signAt_17 : decode cX3_signAt 17 = .ok (.arraylength, 1) := by decide +kernel
theorem dX3_signAt_18 : decode cX3_signAt 18 = .ok (.if_icmp .ge 12, 3) := by decide +kernel
theorem dX3_signAt_21 : decode cX3_signAt 21 = .ok (.aload_n 0, 1) := by decide +kernel
theorem dX3_signAt_22 : decode cX3_signAt 22 = .ok (.getfield 9, 3) := by decide +kernel
theorem dX3_signAt_25 : decode cX3_signAt 25 = .ok (.iload_n 1, 1) := by decide +kernel
theorem dX3_signAt_26 : decode cX3_signAt 26 = .ok (.caload, 1) := by decide +kernel
theorem dX3_signAt_27 : decode cX3_signAt 27 = .ok (.goto 4, 3) := by decide +kernel
theorem dX3_signAt_30 : decode cX3_signAt 30 = .ok (.iconst 0, 1) := by decide +kernel
theorem dX3_signAt_31 : decode cX3_signAt 31 = .ok (.ireturn, 1) := by decide +kernel
theorem dX3_digitAt_0 : decode cX3_digitAt 0 = .ok (.aload_n 0, 1) := by decide +kernel
theorem dX3_digitAt_1 : decode cX3_digitAt 1 = .ok (.iload_n 1, 1) := by decide +kernel
theorem dX3_digitAt_2 : decode cX3_digitAt 2 = .ok (.invokevirtual 29, 3) := by decide +kernel
theorem dX3_digitAt_5 : decode cX3_digitAt 5 = .ok (.bipush 48, 2) := by decide +kernel
theorem dX3_digitAt_7 : decode cX3_digitAt 7 = .ok (.isub, 1) := by decide +kernel
theorem dX3_digitAt_8 : decode cX3_digitAt 8 = .ok (.ireturn, 1) := by decide +kernel
theorem dX3_numberAt_0 : decode cX3_numberAt 0 = .ok (.aload_n 0, 1) := by decide +kernel
theorem dX3_numberAt_1 : decode cX3_numberAt 1 = .ok (.iload_n 1, 1) := by decide +kernel
theorem dX3_numberAt_2 : decode cX3_numberAt 2 = .ok (.iconst 1, 1) := by decide +kernel
theorem dX3_numberAt_3 : decode cX3_numberAt 3 = .ok (.iadd, 1) := by decide +kernel
theorem dX3_numberAt_4 : decode cX3_numberAt 4 = .ok (.invokevirtual 33, 3) := by decide +kernel
theorem dX3_numberAt_7 : decode cX3_numberAt 7 = .ok (.istore_n 2, 1) := by decide +kernel
theorem dX3_numberAt_8 : decode cX3_numberAt 8 = .ok (.iload_n 2, 1) := by decide +kernel
theorem dX3_numberAt_9 : decode cX3_numberAt 9 = .ok (.iconst 0, 1) := by decide +kernel
theorem dX3_numberAt_10 : decode cX3_numberAt 10 = .ok (.bipush 9, 2) := by decide +kernel
theorem dX3_numberAt_12 : decode cX3_numberAt 12 = .ok (.invokestatic 25, 3) := by decide +kernel
theorem dX3_numberAt_15 : decode cX3_numberAt 15 = .ok (.ifCond .eq 16, 3) := by decide +kernel
theorem dX3_numberAt_18 : decode cX3_numberAt 18 = .ok (.aload_n 0, 1) := by decide +kernel
theorem dX3_numberAt_19 : decode cX3_numberAt 19 = .ok (.iload_n 1, 1) := by decide +kernel
theorem dX3_numberAt_20 : decode cX3_numberAt 20 = .ok (.invokevirtual 33, 3) := by decide +kernel
theorem dX3_numberAt_23 : decode cX3_numberAt 23 = .ok (.bipush 10, 2) := by decide +kernel
theorem dX3_numberAt_25 : decode cX3_numberAt 25 = .ok (.imul, 1) := by decide +kernel
theorem dX3_numberAt_26 : decode cX3_numberAt 26 = .ok (.iload_n 2, 1) := by decide +kernel
theorem dX3_numberAt_27 : decode cX3_numberAt 27 = .ok (.iadd, 1) := by decide +kernel
theorem dX3_numberAt_28 : decode cX3_numberAt 28 = .ok (.goto 8, 3) := by decide +kernel
theorem dX3_numberAt_31 : decode cX3_numberAt 31 = .ok (.aload_n 0, 1) := by decide +kernel
theorem dX3_numberAt_32 : decode cX3_numberAt 32 = .ok (.iload_n 1, 1) := by decide +kernel
theorem dX3_numberAt_33 : decode cX3_numberAt 33 = .ok (.invokevirtual 33, 3) := by decide +kernel
theorem dX3_numberAt_36 : decode cX3_numberAt 36 = .ok (.ireturn, 1) := by decide +kernel
theorem dX3_beginsOrder_0 : decode cX3_beginsOrder 0 = .ok (.iload_n 1, 1) := by decide +kernel
theorem dX3_beginsOrder_1 : decode cX3_beginsOrder 1 = .ok (.ifCond .eq 15, 3) := by decide +kernel
theorem dX3_beginsOrder_4 : decode cX3_beginsOrder 4 = .ok (.aload_n 0, 1) := by decide +kernel
theorem dX3_beginsOrder_5 : decode cX3_beginsOrder 5 = .ok (.iload_n 1, 1) := by decide +kernel
theorem dX3_beginsOrder_6 : decode cX3_beginsOrder 6 = .ok (.iconst 1, 1) := by decide +kernel
theorem dX3_beginsOrder_7 : decode cX3_beginsOrder 7 = .ok (.isub, 1) := by decide +kernel
theorem dX3_beginsOrder_8 : decode cX3_beginsOrder 8 = .ok (.invokevirtual 29, 3) := by decide +kernel
theorem dX3_beginsOrder_11 : decode cX3_beginsOrder 11 = .ok (.bipush 59, 2) := by decide +kernel
theorem dX3_beginsOrder_13 : decode cX3_beginsOrder 13 = .ok (.if_icmp .ne 7, 3) := by decide +kernel
theorem dX3_beginsOrder_16 : decode cX3_beginsOrder 16 = .ok (.iconst 1, 1) := by decide +kernel
theorem dX3_beginsOrder_17 : decode cX3_beginsOrder 17 = .ok (.goto 4, 3) := by decide +kernel
theorem dX3_beginsOrder_20 : decode cX3_beginsOrder 20 = .ok (.iconst 0, 1) := by decide +kernel
theorem dX3_beginsOrder_21 : decode cX3_beginsOrder 21 = .ok (.ireturn, 1) := by decide +kernel
theorem dX3_firstFault_0 : decode cX3_firstFault 0 = .ok (.iconst 0, 1) := by decide +kernel
theorem dX3_firstFault_1 : decode cX3_firstFault 1 = .ok (.istore_n 1, 1) := by decide +kernel
theorem dX3_firstFault_2 : decode cX3_firstFault 2 = .ok (.iconst 0, 1) := by decide +kernel
theorem dX3_firstFault_3 : decode cX3_firstFault 3 = .ok (.istore_n 2, 1) := by decide +kernel
theorem dX3_firstFault_4 : decode cX3_firstFault 4 = .ok (.iload_n 2, 1) := by decide +kernel
theorem dX3_firstFault_5 : decode cX3_firstFault 5 = .ok (.aload_n 0, 1) := by decide +kernel
theorem dX3_firstFault_6 : decode cX3_firstFault 6 = .ok (.getfield 19, 3) := by decide +kernel
theorem dX3_firstFault_9 : decode cX3_firstFault 9 = .ok (.if_icmp .ge 26, 3) := by decide +kernel
theorem dX3_firstFault_12 : decode cX3_firstFault 12 = .ok (.iload_n 1, 1) := by decide +kernel
theorem dX3_firstFault_13 : decode cX3_firstFault 13 = .ok (.aload_n 0, 1) := by decide +kernel
theorem dX3_firstFault_14 : decode cX3_firstFault 14 = .ok (.iload_n 2, 1) := by decide +kernel
theorem dX3_firstFault_15 : decode cX3_firstFault 15 = .ok (.invokevirtual 29, 3) := by decide +kernel
theorem dX3_firstFault_18 : decode cX3_firstFault 18 = .ok (.invokestatic 36, 3) := by decide +kernel
theorem dX3_firstFault_21 : decode cX3_firstFault 21 = .ok (.istore_n 1, 1) := by decide +kernel
theorem dX3_firstFault_22 : decode cX3_firstFault 22 = .ok (.iload_n 1, 1) := by decide +kernel
theorem dX3_firstFault_23 : decode cX3_firstFault 23 = .ok (.iconst (-1), 1) := by decide +kernel
theorem dX3_firstFault_24 : decode cX3_firstFault 24 = .ok (.if_icmp .ne 5, 3) := by decide +kernel
theorem dX3_firstFault_27 : decode cX3_firstFault 27 = .ok (.iload_n 2, 1) := by decide +kernel
theorem dX3_firstFault_28 : decode cX3_firstFault 28 = .ok (.ireturn, 1) := by decide +kernel
theorem dX3_firstFault_29 : decode cX3_firstFault 29 = .ok (.iinc 2 1, 3) := by decide +kernel
theorem dX3_firstFault_32 : decode cX3_firstFault 32 = .ok (.goto (-28), 3) := by decide +kernel
theorem dX3_firstFault_35 : decode cX3_firstFault 35 = .ok (.iload_n 1, 1) := by decide +kernel
theorem dX3_firstFault_36 : decode cX3_firstFault 36 = .ok (.bipush 7, 2) := by decide +kernel
theorem dX3_firstFault_38 : decode cX3_firstFault 38 = .ok (.if_icmp .eq 9, 3) := by decide +kernel
theorem dX3_firstFault_41 : decode cX3_firstFault 41 = .ok (.iload_n 1, 1) := by decide +kernel
theorem dX3_firstFault_42 : decode cX3_firstFault 42 = .ok (.bipush 6, 2) := by decide +kernel
theorem dX3_firstFault_44 : decode cX3_firstFault 44 = .ok (.if_icmp .ne 8, 3) := by decide +kernel
theorem dX3_firstFault_47 : decode cX3_firstFault 47 = .ok (.bipush (-6), 2) := by decide +kernel
theorem dX3_firstFault_49 : decode cX3_firstFault 49 = .ok (.goto 7, 3) := by decide +kernel
theorem dX3_firstFault_52 : decode cX3_firstFault 52 = .ok (.aload_n 0, 1) := by decide +kernel
theorem dX3_firstFault_53 : decode cX3_firstFault 53 = .ok (.getfield 19, 3) := by decide +kernel
theorem dX3_firstFault_56 : decode cX3_firstFault 56 = .ok (.ireturn, 1) := by decide +kernel
theorem dX3_dueAfter_0 : decode cX3_dueAfter 0 = .ok (.iload_n 0, 1) := by decide +kernel
theorem dX3_dueAfter_1 : decode cX3_dueAfter 1 = .ok (.tableswitch 213 0 7 #[47, 75, 92, 109, 126, 144, 173, 201], 47) := by decide +kernel
theorem dX3_dueAfter_48 : decode cX3_dueAfter 48 = .ok (.iload_n 1, 1) := by decide +kernel
theorem dX3_dueAfter_49 : decode cX3_dueAfter 49 = .ok (.bipush 99, 2) := by decide +kernel
theorem dX3_dueAfter_51 : decode cX3_dueAfter 51 = .ok (.if_icmp .ne 7, 3) := by decide +kernel
theorem dX3_dueAfter_54 : decode cX3_dueAfter 54 = .ok (.iconst 1, 1) := by decide +kernel
theorem dX3_dueAfter_55 : decode cX3_dueAfter 55 = .ok (.goto 20, 3) := by decide +kernel
theorem dX3_dueAfter_58 : decode cX3_dueAfter 58 = .ok (.iload_n 1, 1) := by decide +kernel
theorem dX3_dueAfter_59 : decode cX3_dueAfter 59 = .ok (.bipush 119, 2) := by decide +kernel
theorem dX3_dueAfter_61 : decode cX3_dueAfter 61 = .ok (.if_icmp .eq 9, 3) := by decide +kernel
theorem dX3_dueAfter_64 : decode cX3_dueAfter 64 = .ok (.iload_n 1, 1) := by decide +kernel
theorem dX3_dueAfter_65 : decode cX3_dueAfter 65 = .ok (.bipush 116, 2) := by decide +kernel
theorem dX3_dueAfter_67 : decode cX3_dueAfter 67 = .ok (.if_icmp .ne 7, 3) := by decide +kernel
theorem dX3_dueAfter_70 : decode cX3_dueAfter 70 = .ok (.iconst 5, 1) := by decide +kernel
theorem dX3_dueAfter_71 : decode cX3_dueAfter 71 = .ok (.goto 4, 3) := by decide +kernel
theorem dX3_dueAfter_74 : decode cX3_dueAfter 74 = .ok (.iconst (-1), 1) := by decide +kernel
theorem dX3_dueAfter_75 : decode cX3_dueAfter 75 = .ok (.ireturn, 1) := by decide +kernel
theorem dX3_dueAfter_76 : decode cX3_dueAfter 76 = .ok (.iload_n 1, 1) := by decide +kernel
theorem dX3_dueAfter_77 : decode cX3_dueAfter 77 = .ok (.bipush 48, 2) := by decide +kernel
theorem dX3_dueAfter_79 : decode cX3_dueAfter 79 = .ok (.bipush 49, 2) := by decide +kernel
theorem dX3_dueAfter_81 : decode cX3_dueAfter 81 = .ok (.invokestatic 25, 3) := by decide +kernel
theorem dX3_dueAfter_84 : decode cX3_dueAfter 84 = .ok (.ifCond .eq 7, 3) := by decide +kernel
theorem dX3_dueAfter_87 : decode cX3_dueAfter 87 = .ok (.iconst 2, 1) := by decide +kernel
theorem dX3_dueAfter_88 : decode cX3_dueAfter 88 = .ok (.goto 4, 3) := by decide +kernel
theorem dX3_dueAfter_91 : decode cX3_dueAfter 91 = .ok (.iconst (-1), 1) := by decide +kernel
theorem dX3_dueAfter_92 : decode cX3_dueAfter 92 = .ok (.ireturn, 1) := by decide +kernel
theorem dX3_dueAfter_93 : decode cX3_dueAfter 93 = .ok (.iload_n 1, 1) := by decide +kernel
theorem dX3_dueAfter_94 : decode cX3_dueAfter 94 = .ok (.bipush 49, 2) := by decide +kernel
theorem dX3_dueAfter_96 : decode cX3_dueAfter 96 = .ok (.bipush 52, 2) := by decide +kernel
theorem dX3_dueAfter_98 : decode cX3_dueAfter 98 = .ok (.invokestatic 25, 3) := by decide +kernel
theorem dX3_dueAfter_101 : decode cX3_dueAfter 101 = .ok (.ifCond .eq 7, 3) := by decide +kernel
theorem dX3_dueAfter_104 : decode cX3_dueAfter 104 = .ok (.iconst 3, 1) := by decide +kernel
theorem dX3_dueAfter_105 : decode cX3_dueAfter 105 = .ok (.goto 4, 3) := by decide +kernel
theorem dX3_dueAfter_108 : decode cX3_dueAfter 108 = .ok (.iconst (-1), 1) := by decide +kernel
theorem dX3_dueAfter_109 : decode cX3_dueAfter 109 = .ok (.ireturn, 1) := by decide +kernel
theorem dX3_dueAfter_110 : decode cX3_dueAfter 110 = .ok (.iload_n 1, 1) := by decide +kernel
theorem dX3_dueAfter_111 : decode cX3_dueAfter 111 = .ok (.bipush 49, 2) := by decide +kernel
theorem dX3_dueAfter_113 : decode cX3_dueAfter 113 = .ok (.bipush 52, 2) := by decide +kernel
theorem dX3_dueAfter_115 : decode cX3_dueAfter 115 = .ok (.invokestatic 25, 3) := by decide +kernel
theorem dX3_dueAfter_118 : decode cX3_dueAfter 118 = .ok (.ifCond .eq 7, 3) := by decide +kernel
theorem dX3_dueAfter_121 : decode cX3_dueAfter 121 = .ok (.iconst 4, 1) := by decide +kernel
theorem dX3_dueAfter_122 : decode cX3_dueAfter 122 = .ok (.goto 4, 3) := by decide +kernel
theorem dX3_dueAfter_125 : decode cX3_dueAfter 125 = .ok (.iconst (-1), 1) := by decide +kernel
theorem dX3_dueAfter_126 : decode cX3_dueAfter 126 = .ok (.ireturn, 1) := by decide +kernel
theorem dX3_dueAfter_127 : decode cX3_dueAfter 127 = .ok (.iload_n 1, 1) := by decide +kernel
theorem dX3_dueAfter_128 : decode cX3_dueAfter 128 = .ok (.bipush 49, 2) := by decide +kernel
theorem dX3_dueAfter_130 : decode cX3_dueAfter 130 = .ok (.bipush 57, 2) := by decide +kernel
theorem dX3_dueAfter_132 : decode cX3_dueAfter 132 = .ok (.invokestatic 25, 3) := by decide +kernel
theorem dX3_dueAfter_135 : decode cX3_dueAfter 135 = .ok (.ifCond .eq 8, 3) := by decide +kernel
theorem dX3_dueAfter_138 : decode cX3_dueAfter 138 = .ok (.bipush 7, 2) := by decide +kernel
theorem dX3_dueAfter_140 : decode cX3_dueAfter 140 = .ok (.goto 4, 3) := by decide +kernel
theorem dX3_dueAfter_143 : decode cX3_dueAfter 143 = .ok (.iconst (-1), 1) := by decide +kernel
theorem dX3_dueAfter_144 : decode cX3_dueAfter 144 = .ok (.ireturn, 1) := by decide +kernel
theorem dX3_dueAfter_145 : decode cX3_dueAfter 145 = .ok (.iload_n 1, 1) := by decide +kernel
theorem dX3_dueAfter_146 : decode cX3_dueAfter 146 = .ok (.bipush 48, 2) := by decide +kernel
theorem dX3_dueAfter_148 : decode cX3_dueAfter 148 = .ok (.if_icmp .ne 8, 3) := by decide +kernel
theorem dX3_dueAfter_151 : decode cX3_dueAfter 151 = .ok (.bipush 7, 2) := by decide +kernel
theorem dX3_dueAfter_153 : decode cX3_dueAfter 153 = .ok (.goto 20, 3) := by decide +kernel
theorem dX3_dueAfter_156 : decode cX3_dueAfter 156 = .ok (.iload_n 1, 1) := by decide +kernel
theorem dX3_dueAfter_157 : decode cX3_dueAfter 157 = .ok (.bipush 49, 2) := by decide +kernel
theorem dX3_dueAfter_159 : decode cX3_dueAfter 159 = .ok (.bipush 57, 2) := by decide +kernel
theorem dX3_dueAfter_161 : decode cX3_dueAfter 161 = .ok (.invokestatic 25, 3) := by decide +kernel
theorem dX3_dueAfter_164 : decode cX3_dueAfter 164 = .ok (.ifCond .eq 8, 3) := by decide +kernel
theorem dX3_dueAfter_167 : decode cX3_dueAfter 167 = .ok (.bipush 6, 2) := by decide +kernel
theorem dX3_dueAfter_169 : decode cX3_dueAfter 169 = .ok (.goto 4, 3) := by decide +kernel
theorem dX3_dueAfter_172 : decode cX3_dueAfter 172 = .ok (.iconst (-1), 1) := by decide +kernel
theorem dX3_dueAfter_173 : decode cX3_dueAfter 173 = .ok (.ireturn, 1) := by decide +kernel
theorem dX3_dueAfter_174 : decode cX3_dueAfter 174 = .ok (.iload_n 1, 1) := by decide +kernel
theorem dX3_dueAfter_175 : decode cX3_dueAfter 175 = .ok (.bipush 48, 2) := by decide +kernel
theorem dX3_dueAfter_177 : decode cX3_dueAfter 177 = .ok (.bipush 57, 2) := by decide +kernel
theorem dX3_dueAfter_179 : decode cX3_dueAfter 179 = .ok (.invokestatic 25, 3) := by decide +kernel
theorem dX3_dueAfter_182 : decode cX3_dueAfter 182 = .ok (.ifCond .eq 8, 3) := by decide +kernel
theorem dX3_dueAfter_185 : decode cX3_dueAfter 185 = .ok (.bipush 7, 2) := by decide +kernel
theorem dX3_dueAfter_187 : decode cX3_dueAfter 187 = .ok (.goto 14, 3) := by decide +kernel
theorem dX3_dueAfter_190 : decode cX3_dueAfter 190 = .ok (.iload_n 1, 1) := by decide +kernel
theorem dX3_dueAfter_191 : decode cX3_dueAfter 191 = .ok (.bipush 59, 2) := by decide +kernel
theorem dX3_dueAfter_193 : decode cX3_dueAfter 193 = .ok (.if_icmp .ne 7, 3) := by decide +kernel
theorem dX3_dueAfter_196 : decode cX3_dueAfter 196 = .ok (.iconst 0, 1) := by decide +kernel
theorem dX3_dueAfter_197 : decode cX3_dueAfter 197 = .ok (.goto 4, 3) := by decide +kernel
theorem dX3_dueAfter_200 : decode cX3_dueAfter 200 = .ok (.iconst (-1), 1) := by decide +kernel
theorem dX3_dueAfter_201 : decode cX3_dueAfter 201 = .ok (.ireturn, 1) := by decide +kernel
theorem dX3_dueAfter_202 : decode cX3_dueAfter 202 = .ok (.iload_n 1, 1) := by decide +kernel
theorem dX3_dueAfter_203 : decode cX3_dueAfter 203 = .ok (.bipush 59, 2) := by decide +kernel
theorem dX3_dueAfter_205 : decode cX3_dueAfter 205 = .ok (.if_icmp .ne 7, 3) := by decide +kernel
theorem dX3_dueAfter_208 : decode cX3_dueAfter 208 = .ok (.iconst 0, 1) := by decide +kernel
theorem dX3_dueAfter_209 : decode cX3_dueAfter 209 = .ok (.goto 4, 3) := by decide +kernel
theorem dX3_dueAfter_212 : decode cX3_dueAfter 212 = .ok (.iconst (-1), 1) := by decide +kernel
theorem dX3_dueAfter_213 : decode cX3_dueAfter 213 = .ok (.ireturn, 1) := by decide +kernel
theorem dX3_dueAfter_214 : decode cX3_dueAfter 214 = .ok (.iconst (-1), 1) := by decide +kernel
theorem dX3_dueAfter_215 : decode cX3_dueAfter 215 = .ok (.ireturn, 1) := by decide +kernel
theorem dX4_init_0 : decode cX4_init 0 = .ok (.aload_n 0, 1) := by decide +kernel
theorem dX4_init_1 : decode cX4_init 1 = .ok (.invokespecial 3, 3) := by decide +kernel
theorem dX4_init_4 : decode cX4_init 4 = .ok (.aload_n 0, 1) := by decide +kernel
theorem dX4_init_5 : decode cX4_init 5 = .ok (.bipush 40, 2) := by decide +kernel
theorem dX4_init_7 : decode cX4_init 7 = .ok (.anewarray 9, 3) := by decide +kernel
theorem dX4_init_10 : decode cX4_init 10 = .ok (.putfield 11, 3) := by decide +kernel
theorem dX4_init_13 : decode cX4_init 13 = .ok (.aload_n 0, 1) := by decide +kernel
theorem dX4_init_14 : decode cX4_init 14 = .ok (.bipush 6, 2) := by decide +kernel
theorem dX4_init_16 : decode cX4_init 16 = .ok (.anewarray 17, 3) := by decide +kernel
theorem dX4_init_19 : decode cX4_init 19 = .ok (.putfield 19, 3) := by decide +kernel
theorem dX4_init_22 : decode cX4_init 22 = .ok (.aload_n 0, 1) := by decide +kernel
theorem dX4_init_23 : decode cX4_init 23 = .ok (.bipush 80, 2) := by decide +kernel
theorem dX4_init_25 : decode cX4_init 25 = .ok (.newarray .int, 2) := by decide +kernel
theorem dX4_init_27 : decode cX4_init 27 = .ok (.putfield 23, 3) := by decide +kernel
theorem dX4_init_30 : decode cX4_init 30 = .ok (.aload_n 0, 1) := by decide +kernel
theorem dX4_init_31 : decode cX4_init 31 = .ok (.bipush 40, 2) := by decide +kernel
theorem dX4_init_33 : decode cX4_init 33 = .ok (.anewarray 9, 3) := by decide +kernel
theorem dX4_init_36 : decode cX4_init 36 = .ok (.putfield 27, 3) := by decide +kernel
theorem dX4_init_39 : decode cX4_init 39 = .ok (.aload_n 0, 1) := by decide +kernel
theorem dX4_init_40 : decode cX4_init 40 = .ok (.iconst 1, 1) := by decide +kernel
theorem dX4_init_41 : decode cX4_init 41 = .ok (.putfield 30, 3) := by decide +kernel
theorem dX4_init_44 : decode cX4_init 44 = .ok (.aload_n 0, 1) := by decide +kernel
theorem dX4_init_45 : decode cX4_init 45 = .ok (.iconst 1, 1) := by decide +kernel
theorem dX4_init_46 : decode cX4_init 46 = .ok (.putfield 34, 3) := by decide +kernel
theorem dX4_init_49 : decode cX4_init 49 = .ok (.iconst 0, 1) := by decide +kernel
theorem dX4_init_50 : decode cX4_init 50 = .ok (.istore_n 1, 1) := by decide +kernel
theorem dX4_init_51 : decode cX4_init 51 = .ok (.iload_n 1, 1) := by decide +kernel
theorem dX4_init_52 : decode cX4_init 52 = .ok (.aload_n 0, 1) := by decide +kernel
theorem dX4_init_53 : decode cX4_init 53 = .ok (.getfield 11, 3) := by decide +kernel
theorem dX4_init_56 : decode cX4_init 56 = .ok (.arraylength, 1) := by decide +kernel
theorem dX4_init_57 : decode cX4_init 57 = .ok (.if_icmp .ge 23, 3) := by decide +kernel
theorem dX4_init_60 : decode cX4_init 60 = .ok (.aload_n 0, 1) := by decide +kernel
theorem dX4_init_61 : decode cX4_init 61 = .ok (.getfield 11, 3) := by decide +kernel
theorem dX4_init_64 : decode cX4_init 64 = .ok (.iload_n 1, 1) := by decide +kernel
theorem dX4_init_65 : decode cX4_init 65 = .ok (.new 9, 3) := by decide +kernel
theorem dX4_init_68 : decode cX4_init 68 = .ok (.dup, 1) := by decide +kernel
theorem dX4_init_69 : decode cX4_init 69 = .ok (.iload_n 1, 1) := by decide +kernel
theorem dX4_init_70 : decode cX4_init 70 = .ok (.invokespecial 37, 3) := by decide +kernel
theorem dX4_init_73 : decode cX4_init 73 = .ok (.aastore, 1) := by decide +kernel
theorem dX4_init_74 : decode cX4_init 74 = .ok (.iinc 1 1, 3) := by decide +kernel
theorem dX4_init_77 : decode cX4_init 77 = .ok (.goto (-26), 3) := by decide +kernel
theorem dX4_init_80 : decode cX4_init 80 = .ok (.iconst 0, 1) := by decide +kernel
theorem dX4_init_81 : decode cX4_init 81 = .ok (.istore_n 1, 1) := by decide +kernel
theorem dX4_init_82 : decode cX4_init 82 = .ok (.iload_n 1, 1) := by decide +kernel
theorem dX4_init_83 : decode cX4_init 83 = .ok (.aload_n 0, 1) := by decide +kernel
theorem dX4_init_84 : decode cX4_init 84 = .ok (.getfield 19, 3) := by decide +kernel
theorem dX4_init_87 : decode cX4_init 87 = .ok (.arraylength, 1) := by decide +kernel
theorem dX4_init_88 : decode cX4_init 88 = .ok (.if_icmp .ge 22, 3) := by decide +kernel
theorem dX4_init_91 : decode cX4_init 91 = .ok (.aload_n 0, 1) := by decide +kernel
theorem dX4_init_92 : decode cX4_init 92 = .ok (.getfield 19, 3) := by decide +kernel
theorem dX4_init_95 : decode cX4_init 95 = .ok (.iload_n 1, 1) := by decide +kernel
theorem dX4_init_96 : decode cX4_init 96 = .ok (.new 17, 3) := by decide +kernel
theorem dX4_init_99 : decode cX4_init 99 = .ok (.dup, 1) := by decide +kernel
theorem dX4_init_100 : decode cX4_init 100 = .ok (.invokespecial 40, 3) := by decide +kernel
theorem dX4_init_103 : decode cX4_init 103 = .ok (.aastore, 1) := by decide +kernel
theorem dX4_init_104 : decode cX4_init 104 = .ok (.iinc 1 1, 3) := by decide +kernel
theorem dX4_init_107 : decode cX4_init 107 = .ok (.goto (-25), 3) := by decide +kernel
theorem dX4_init_110 : decode cX4_init 110 = .ok (.iconst 0, 1) := by decide +kernel
theorem dX4_init_111 : decode cX4_init 111 = .ok (.istore_n 1, 1) := by decide +kernel
theorem dX4_init_112 : decode cX4_init 112 = .ok (.iload_n 1, 1) := by decide +kernel
theorem dX4_init_113 : decode cX4_init 113 = .ok (.aload_n 0, 1) := by decide +kernel
theorem dX4_init_114 : decode cX4_init 114 = .ok (.getfield 23, 3) := by decide +kernel
theorem dX4_init_117 : decode cX4_init 117 = .ok (.arraylength, 1) := by decide +kernel
theorem dX4_init_118 : decode cX4_init 118 = .ok (.if_icmp .ge 17, 3) := by decide +kernel
theorem dX4_init_121 : decode cX4_init 121 = .ok (.aload_n 0, 1) := by decide +kernel
theorem dX4_init_122 : decode cX4_init 122 = .ok (.getfield 23, 3) := by decide +kernel
theorem dX4_init_125 : decode cX4_init 125 = .ok (.iload_n 1, 1) := by decide +kernel
theorem dX4_init_126 : decode cX4_init 126 = .ok (.bipush (-6), 2) := by decide +kernel
theorem dX4_init_128 : decode cX4_init 128 = .ok (.iastore, 1) := by decide +kernel
theorem dX4_init_129 : decode cX4_init 129 = .ok (.iinc 1 1, 3) := by decide +kernel
theorem dX4_init_132 : decode cX4_init 132 = .ok (.goto (-20), 3) := by decide +kernel
theorem dX4_init_135 : decode cX4_init 135 = .ok (.return_, 1) := by decide +kernel
theorem dX4_become_0 : decode cX4_become 0 = .ok (.aload_n 0, 1) := by decide +kernel
theorem dX4_become_1 : decode cX4_become 1 = .ok (.aload_n 1, 1) := by decide +kernel
theorem dX4_become_2 : decode cX4_become 2 = .ok (.getfield 41, 3) := by decide +kernel
theorem dX4_become_5 : decode cX4_become 5 = .ok (.putfield 41, 3) := by decide +kernel
theorem dX4_become_8 : decode cX4_become 8 = .ok (.aload_n 0, 1) := by decide +kernel
theorem dX4_become_9 : decode cX4_become 9 = .ok (.aload_n 1, 1) := by decide +kernel
theorem dX4_become_10 : decode cX4_become 10 = .ok (.getfield 30, 3) := by decide +kernel
theorem dX4_become_13 : decode cX4_become 13 = .ok (.putfield 30, 3) := by decide +kernel
theorem dX4_become_16 : decode cX4_become 16 = .ok (.aload_n 0, 1) := by decide +kernel
theorem dX4_become_17 : decode cX4_become 17 = .ok (.aload_n 1, 1) := by decide +kernel
theorem dX4_become_18 : decode cX4_become 18 = .ok (.getfield 34, 3) := by decide +kernel
theorem dX4_become_21 : decode cX4_become 21 = .ok (.putfield 34, 3) := by decide +kernel
theorem dX4_become_24 : decode cX4_become 24 = .ok (.aload_n 0, 1) := by decide +kernel
theorem dX4_become_25 : decode cX4_become 25 = .ok (.aload_n 1, 1) := by decide +kernel
theorem dX4_become_26 : decode cX4_become 26 = .ok (.getfield 44, 3) := by decide +kernel
theorem dX4_become_29 : decode cX4_become 29 = .ok (.putfield 44, 3) := by decide +kernel
theorem dX4_become_32 : decode cX4_become 32 = .ok (.aload_n 0, 1) := by decide +kernel
theorem dX4_become_33 : decode cX4_become 33 = .ok (.aload_n 1, 1) := by decide +kernel
theorem dX4_become_34 : decode cX4_become 34 = .ok (.getfield 47, 3) := by decide +kernel
theorem dX4_become_37 : decode cX4_become 37 = .ok (.putfield 47, 3) := by decide +kernel
theorem dX4_become_40 : decode cX4_become 40 = .ok (.iconst 0, 1) := by decide +kernel
theorem dX4_become_41 : decode cX4_become 41 = .ok (.istore_n 2, 1) := by decide +kernel
theorem dX4_become_42 : decode cX4_become 42 = .ok (.iload_n 2, 1) := by decide +kernel
theorem dX4_become_43 : decode cX4_become 43 = .ok (.aload_n 0, 1) := by decide +kernel
theorem dX4_become_44 : decode cX4_become 44 = .ok (.getfield 44, 3) := by decide +kernel
theorem dX4_become_47 : decode cX4_become 47 = .ok (.if_icmp .ge 37, 3) := by decide +kernel
theorem dX4_become_50 : decode cX4_become 50 = .ok (.aload_n 0, 1) := by decide +kernel
theorem dX4_become_51 : decode cX4_become 51 = .ok (.iload_n 2, 1) := by decide +kernel
theorem dX4_become_52 : decode cX4_become 52 = .ok (.invokevirtual 50, 3) := by decide +kernel
theorem dX4_become_55 : decode cX4_become 55 = .ok (.astore_n 3, 1) := by decide +kernel
theorem dX4_become_56 : decode cX4_become 56 = .ok (.aload_n 1, 1) := by decide +kernel
theorem dX4_become_57 : decode cX4_become 57 = .ok (.iload_n 2, 1) := by decide +kernel
theorem dX4_become_58 : decode cX4_become 58 = .ok (.invokevirtual 50, 3) := by decide +kernel
theorem dX4_become_61 : decode cX4_become 61 = .ok (.astore 4, 2) := by decide +kernel
theorem dX4_become_63 : decode cX4_become 63 = .ok (.aload_n 3, 1) := by decide +kernel
theorem dX4_become_64 : decode cX4_become 64 = .ok (.ifnull 14, 3) := by decide +kernel
theorem dX4_become_67 : decode cX4_become 67 = .ok (.aload 4, 2) := by decide +kernel
theorem dX4_become_69 : decode cX4_become 69 = .ok (.ifnull 9, 3) := by decide +kernel
theorem dX4_become_72 : decode cX4_become 72 = .ok (.aload_n 3, 1) := by decide +kernel
theorem dX4_become_73 : decode cX4_become 73 = .ok (.aload 4, 2) := by decide +kernel
theorem dX4_become_75 : decode cX4_become 75 = .ok (.invokevirtual 54, 3) := by decide +kernel
theorem dX4_become_78 : decode cX4_become 78 = .ok (.iinc 2 1, 3) := by decide +kernel
theorem dX4_become_81 : decode cX4_become 81 = .ok (.goto (-39), 3) := by decide +kernel
theorem dX4_become_84 : decode cX4_become 84 = .ok (.iconst 0, 1) := by decide +kernel
theorem dX4_become_85 : decode cX4_become 85 = .ok (.istore_n 2, 1) := by decide +kernel
theorem dX4_become_86 : decode cX4_become 86 = .ok (.iload_n 2, 1) := by decide +kernel
theorem dX4_become_87 : decode cX4_become 87 = .ok (.aload_n 0, 1) := by decide +kernel
theorem dX4_become_88 : decode cX4_become 88 = .ok (.getfield 47, 3) := by decide +kernel
theorem dX4_become_91 : decode cX4_become 91 = .ok (.if_icmp .ge 37, 3) := by decide +kernel
theorem dX4_become_94 : decode cX4_become 94 = .ok (.aload_n 0, 1) := by decide +kernel
theorem dX4_become_95 : decode cX4_become 95 = .ok (.iload_n 2, 1) := by decide +kernel
theorem dX4_become_96 : decode cX4_become 96 = .ok (.invokevirtual 58, 3) := by decide +kernel
theorem dX4_become_99 : decode cX4_become 99 = .ok (.astore_n 3, 1) := by decide +kernel
theorem dX4_become_100 : decode cX4_become 100 = .ok (.aload_n 1, 1) := by decide +kernel
theorem dX4_become_101 : decode cX4_become 101 = .ok (.iload_n 2, 1) := by decide +kernel
theorem dX4_become_102 : decode cX4_become 102 = .ok (.invokevirtual 58, 3) := by decide +kernel
theorem dX4_become_105 : decode cX4_become 105 = .ok (.astore 4, 2) := by decide +kernel
theorem dX4_become_107 : decode cX4_become 107 = .ok (.aload_n 3, 1) := by decide +kernel
theorem dX4_become_108 : decode cX4_become 108 = .ok (.ifnull 14, 3) := by decide +kernel
theorem dX4_become_111 : decode cX4_become 111 = .ok (.aload 4, 2) := by decide +kernel
theorem dX4_become_113 : decode cX4_become 113 = .ok (.ifnull 9, 3) := by decide +kernel
theorem dX4_become_116 : decode cX4_become 116 = .ok (.aload_n 3, 1) := by decide +kernel
theorem dX4_become_117 : decode cX4_become 117 = .ok (.aload 4, 2) := by decide +kernel
theorem dX4_become_119 : decode cX4_become 119 = .ok (.invokevirtual 62, 3) := by decide +kernel
theorem dX4_become_122 : decode cX4_become 122 = .ok (.iinc 2 1, 3) := by decide +kernel
theorem dX4_become_125 : decode cX4_become 125 = .ok (.goto (-39), 3) := by decide +kernel
theorem dX4_become_128 : decode cX4_become 128 = .ok (.iconst 0, 1) := by decide +kernel
theorem dX4_become_129 : decode cX4_become 129 = .ok (.istore_n 2, 1) := by decide +kernel
theorem dX4_become_130 : decode cX4_become 130 = .ok (.iload_n 2, 1) := by decide +kernel
theorem dX4_become_131 : decode cX4_become 131 = .ok (.aload_n 0, 1) := by decide +kernel
theorem dX4_become_132 : decode cX4_become 132 = .ok (.getfield 23, 3) := by decide +kernel
theorem dX4_become_135 : decode cX4_become 135 = .ok (.arraylength, 1) := by decide +kernel
theorem dX4_become_136 : decode cX4_become 136 = .ok (.if_icmp .ge 30, 3) := by decide +kernel
theorem dX4_become_139 : decode cX4_become 139 = .ok (.iload_n 2, 1) := by decide +kernel
theorem dX4_become_140 : decode cX4_become 140 = .ok (.aload_n 1, 1) := by decide +kernel
theorem dX4_become_141 : decode cX4_become 141 = .ok (.getfield 23, 3) := by decide +kernel
theorem dX4_become_144 : decode cX4_become 144 = .ok (.arraylength, 1) := by decide +kernel
theorem dX4_become_145 : decode cX4_become 145 = .ok (.if_icmp .ge 21, 3) := by decide +kernel
theorem dX4_become_148 : decode cX4_become 148 = .ok (.aload_n 0, 1) := by decide +kernel
theorem dX4_become_149 : decode cX4_become 149 = .ok (.getfield 23, 3) := by decide +kernel
theorem dX4_become_152 : decode cX4_become 152 = .ok (.iload_n 2, 1) := by decide +kernel
theorem dX4_become_153 : decode cX4_become 153 = .ok (.aload_n 1, 1) := by decide +kernel
theorem dX4_become_154 : decode cX4_become 154 = .ok (.getfield 23, 3) := by decide +kernel
theorem dX4_become_157 : decode cX4_become 157 = .ok (.iload_n 2, 1) := by decide +kernel
theorem dX4_become_158 : decode cX4_become 158 = .ok (.iaload, 1) := by decide +kernel
theorem dX4_become_159 : decode cX4_become 159 = .ok (.iastore, 1) := by decide +kernel
theorem dX4_become_160 : decode cX4_become 160 = .ok (.iinc 2 1, 3) := by decide +kernel
theorem dX4_become_163 : decode cX4_become 163 = .ok (.goto (-33), 3) := by decide +kernel
theorem dX4_become_166 : decode cX4_become 166 = .ok (.return_, 1) := by decide +kernel
theorem dX4_carNumbered_0 : decode cX4_carNumbered 0 = .ok (.iload_n 1, 1) := by decide +kernel
theorem dX4_carNumbered_1 : decode cX4_carNumbered 1 = .ok (.ifCond .lt 29, 3) := by decide +kernel
theorem dX4_carNumbered_4 : decode cX4_carNumbered 4 = .ok (.iload_n 1, 1) := by decide +kernel
theorem dX4_carNumbered_5 : decode cX4_carNumbered 5 = .ok (.aload_n 0, 1) := by decide +kernel
theorem dX4_carNumbered_6 : decode cX4_carNumbered 6 = .ok (.getfield 44, 3) := by decide +kernel
theorem dX4_carNumbered_9 : decode cX4_carNumbered 9 = .ok (.if_icmp .ge 21, 3) := by decide +kernel
theorem dX4_carNumbered_12 : decode cX4_carNumbered 12 = .ok (.iload_n 1, 1) := by decide +kernel
theorem dX4_carNumbered_13 : decode cX4_carNumbered 13 = .ok (.aload_n 0, 1) := by decide +kernel
theorem dX4_carNumbered_14 : decode cX4_carNumbered 14 = .ok (.getfield 11, 3) := by decide +kernel
theorem dX4_carNumbered_17 : decode cX4_carNumbered 17 = .ok (.arraylength, 1) := by decide +kernel
theorem dX4_carNumbered_18 : decode cX4_carNumbered 18 = .ok (.if_icmp .ge 12, 3) := by decide +kernel
theorem dX4_carNumbered_21 : decode cX4_carNumbered 21 = .ok (.aload_n 0, 1) := by decide +kernel
theorem dX4_carNumbered_22 : decode cX4_carNumbered 22 = .ok (.getfield 11, 3) := by decide +kernel
theorem dX4_carNumbered_25 : decode cX4_carNumbered 25 = .ok (.iload_n 1, 1) := by decide +kernel
theorem dX4_carNumbered_26 : decode cX4_carNumbered 26 = .ok (.aaload, 1) := by decide +kernel
theorem dX4_carNumbered_27 : decode cX4_carNumbered 27 = .ok (.goto 4, 3) := by decide +kernel
theorem dX4_carNumbered_30 : decode cX4_carNumbered 30 = .ok (.aconst_null, 1) := by decide +kernel
theorem dX4_carNumbered_31 : decode cX4_carNumbered 31 = .ok (.areturn, 1) := by decide +kernel
theorem dX4_loopNumbered_0 : decode cX4_loopNumbered 0 = .ok (.iload_n 1, 1) := by decide +kernel
theorem dX4_loopNumbered_1 : decode cX4_loopNumbered 1 = .ok (.ifCond .lt 29, 3) := by decide +kernel
theorem dX4_loopNumbered_4 : decode cX4_loopNumbered 4 = .ok (.iload_n 1, 1) := by decide +kernel
theorem dX4_loopNumbered_5 : decode cX4_loopNumbered 5 = .ok (.aload_n 0, 1) := by decide +kernel
theorem dX4_loopNumbered_6 : decode cX4_loopNumbered 6 = .ok (.getfield 47, 3) := by decide +kernel
theorem dX4_loopNumbered_9 : decode cX4_loopNumbered 9 = .ok (.if_icmp .ge 21, 3) := by decide +kernel
theorem dX4_loopNumbered_12 : decode cX4_loopNumbered 12 = .ok (.iload_n 1, 1) := by decide +kernel
theorem dX4_loopNumbered_13 : decode cX4_loopNumbered 13 = .ok (.aload_n 0, 1) := by decide +kernel
theorem dX4_loopNumbered_14 : decode cX4_loopNumbered 14 = .ok (.getfield 19, 3) := by decide +kernel
theorem dX4_loopNumbered_17 : decode cX4_loopNumbered 17 = .ok (.arraylength, 1) := by decide +kernel
theorem dX4_loopNumbered_18 : decode cX4_loopNumbered 18 = .ok (.if_icmp .ge 12, 3) := by decide +kernel
theorem dX4_loopNumbered_21 : decode cX4_loopNumbered 21 = .ok (.aload_n 0, 1) := by decide +kernel
theorem dX4_loopNumbered_22 : decode cX4_loopNumbered 22 = .ok (.getfield 19, 3) := by decide +kernel
theorem dX4_loopNumbered_25 : decode cX4_loopNumbered 25 = .ok (.iload_n 1, 1) := by decide +kernel
theorem dX4_loopNumbered_26 : decode cX4_loopNumbered 26 = .ok (.aaload, 1) := by decide +kernel
theorem dX4_loopNumbered_27 : decode cX4_loopNumbered 27 = .ok (.goto 4, 3) := by decide +kernel
theorem dX4_loopNumbered_30 : decode cX4_loopNumbered 30 = .ok (.aconst_null, 1) := by decide +kernel
theorem dX4_loopNumbered_31 : decode cX4_loopNumbered 31 = .ok (.areturn, 1) := by decide +kernel
theorem dX4_changeSetting_0 : decode cX4_changeSetting 0 = .ok (.iload_n 1, 1) := by decide +kernel
theorem dX4_changeSetting_1 : decode cX4_changeSetting 1 = .ok (.ifCond .ne 25, 3) := by decide +kernel
theorem dX4_changeSetting_4 : decode cX4_changeSetting 4 = .ok (.iload_n 2, 1) := by decide +kernel
theorem dX4_changeSetting_5 : decode cX4_changeSetting 5 = .ok (.iconst 0, 1) := by decide +kernel
theorem dX4_changeSetting_6 : decode cX4_changeSetting 6 = .ok (.bipush 8, 2) := by decide +kernel
theorem dX4_changeSetting_8 : decode cX4_changeSetting 8 = .ok (.invokestatic 65, 3) := by decide +kernel
theorem dX4_changeSetting_11 : decode cX4_changeSetting 11 = .ok (.ifCond .eq 15, 3) := by decide +kernel
theorem dX4_changeSetting_14 : decode cX4_changeSetting 14 = .ok (.aload_n 0, 1) := by decide +kernel
theorem dX4_changeSetting_15 : decode cX4_changeSetting 15 = .ok (.getfield 30, 3) := by decide +kernel
theorem dX4_changeSetting_18 : decode cX4_changeSetting 18 = .ok (.istore_n 3, 1) := by decide +kernel
theorem dX4_changeSetting_19 : decode cX4_changeSetting 19 = .ok (.aload_n 0, 1) := by decide +kernel
theorem dX4_changeSetting_20 : decode cX4_changeSetting 20 = .ok (.iload_n 2, 1) := by decide +kernel
theorem dX4_changeSetting_21 : decode cX4_changeSetting 21 = .ok (.putfield 30, 3) := by decide +kernel
theorem dX4_changeSetting_24 : decode cX4_changeSetting 24 = .ok (.iload_n 3, 1) := by decide +kernel
theorem dX4_changeSetting_25 : decode cX4_changeSetting 25 = .ok (.ireturn, 1) := by decide +kernel
theorem dX4_changeSetting_26 : decode cX4_changeSetting 26 = .ok (.iload_n 1, 1) := by decide +kernel
theorem dX4_changeSetting_27 : decode cX4_changeSetting 27 = .ok (.iconst 1, 1) := by decide +kernel
theorem dX4_changeSetting_28 : decode cX4_changeSetting 28 = .ok (.if_icmp .ne 24, 3) := by decide +kernel
theorem dX4_changeSetting_31 : decode cX4_changeSetting 31 = .ok (.iload_n 2, 1) := by decide +kernel
theorem dX4_changeSetting_32 : decode cX4_changeSetting 32 = .ok (.iconst 1, 1) := by decide +kernel
theorem dX4_changeSetting_33 : decode cX4_changeSetting 33 = .ok (.iconst 5, 1) := by decide +kernel
theorem dX4_changeSetting_34 : decode cX4_changeSetting 34 = .ok (.invokestatic 65, 3) := by decide +kernel
theorem dX4_changeSetting_37 : decode cX4_changeSetting 37 = .ok (.ifCond .eq 15, 3) := by decide +kernel
theorem dX4_changeSetting_40 : decode cX4_changeSetting 40 = .ok (.aload_n 0, 1) := by decide +kernel
theorem dX4_changeSetting_41 : decode cX4_changeSetting 41 = .ok (.getfield 34, 3) := by decide +kernel
theorem dX4_changeSetting_44 : decode cX4_changeSetting 44 = .ok (.istore_n 3, 1) := by decide +kernel
theorem dX4_changeSetting_45 : decode cX4_changeSetting 45 = .ok (.aload_n 0, 1) := by decide +kernel
theorem dX4_changeSetting_46 : decode cX4_changeSetting 46 = .ok (.iload_n 2, 1) := by decide +kernel
theorem dX4_changeSetting_47 : decode cX4_changeSetting 47 = .ok (.putfield 34, 3) := by decide +kernel
theorem dX4_changeSetting_50 : decode cX4_changeSetting 50 = .ok (.iload_n 3, 1) := by decide +kernel
theorem dX4_changeSetting_51 : decode cX4_changeSetting 51 = .ok (.ireturn, 1) := by decide +kernel
theorem dX4_changeSetting_52 : decode cX4_changeSetting 52 = .ok (.bipush (-2), 2) := by decide +kernel
theorem dX4_changeSetting_54 : decode cX4_changeSetting 54 = .ok (.ireturn, 1) := by decide +kernel
theorem dX4_layLoop_0 : decode cX4_layLoop 0 = .ok (.iload_n 1, 1) := by decide +kernel
theorem dX4_layLoop_1 : decode cX4_layLoop 1 = .ok (.iconst 0, 1) := by decide +kernel
theorem dX4_layLoop_2 : decode cX4_layLoop 2 = .ok (.iconst 1, 1) := by decide +kernel
theorem dX4_layLoop_3 : decode cX4_layLoop 3 = .ok (.invokestatic 65, 3) := by decide +kernel
theorem dX4_layLoop_6 : decode cX4_layLoop 6 = .ok (.ifCond .eq 34, 3) := by decide +kernel
theorem dX4_layLoop_9 : decode cX4_layLoop 9 = .ok (.iload_n 3, 1) := by decide +kernel
theorem dX4_layLoop_10 : decode cX4_layLoop 10 = .ok (.iconst 1, 1) := by decide +kernel
theorem dX4_layLoop_11 : decode cX4_layLoop 11 = .ok (.iconst 3, 1) := by decide +kernel
theorem dX4_layLoop_12 : decode cX4_layLoop 12 = .ok (.invokestatic 65, 3) := by decide +kernel
theorem dX4_layLoop_15 : decode cX4_layLoop 15 = .ok (.ifCond .eq 25, 3) := by decide +kernel
theorem dX4_layLoop_18 : decode cX4_layLoop 18 = .ok (.iload_n 2, 1) := by decide +kernel
theorem dX4_layLoop_19 : decode cX4_layLoop 19 = .ok (.iconst 0, 1) := by decide +kernel
theorem dX4_layLoop_20 : decode cX4_layLoop 20 = .ok (.bipush 40, 2) := by decide +kernel
theorem dX4_layLoop_22 : decode cX4_layLoop 22 = .ok (.iload_n 3, 1) := by decide +kernel
theorem dX4_layLoop_23 : decode cX4_layLoop 23 = .ok (.isub, 1) := by decide +kernel
theorem dX4_layLoop_24 : decode cX4_layLoop 24 = .ok (.invokestatic 65, 3) := by decide +kernel
theorem dX4_layLoop_27 : decode cX4_layLoop 27 = .ok (.ifCond .eq 13, 3) := by decide +kernel
theorem dX4_layLoop_30 : decode cX4_layLoop 30 = .ok (.iload 4, 2) := by decide +kernel
theorem dX4_layLoop_32 : decode cX4_layLoop 32 = .ok (.iload 5, 2) := by decide +kernel
theorem dX4_layLoop_34 : decode cX4_layLoop 34 = .ok (.invokestatic 69, 3) := by decide +kernel
theorem dX4_layLoop_37 : decode cX4_layLoop 37 = .ok (.ifCond .ne 6, 3) := by decide +kernel
theorem dX4_layLoop_40 : decode cX4_layLoop 40 = .ok (.bipush (-2), 2) := by decide +kernel
theorem dX4_layLoop_42 : decode cX4_layLoop 42 = .ok (.ireturn, 1) := by decide +kernel
theorem dX4_layLoop_43 : decode cX4_layLoop 43 = .ok (.aload_n 0, 1) := by decide +kernel
theorem dX4_layLoop_44 : decode cX4_layLoop 44 = .ok (.getfield 47, 3) := by decide +kernel
theorem dX4_layLoop_47 : decode cX4_layLoop 47 = .ok (.aload_n 0, 1) := by decide +kernel
theorem dX4_layLoop_48 : decode cX4_layLoop 48 = .ok (.getfield 19, 3) := by decide +kernel
theorem dX4_layLoop_51 : decode cX4_layLoop 51 = .ok (.arraylength, 1) := by decide +kernel
theorem dX4_layLoop_52 : decode cX4_layLoop 52 = .ok (.if_icmp .lt 6, 3) := by decide +kernel
theorem dX4_layLoop_55 : decode cX4_layLoop 55 = .ok (.bipush (-4), 2) := by decide +kernel
theorem dX4_layLoop_57 : decode cX4_layLoop 57 = .ok (.ireturn, 1) := by decide +kernel
theorem dX4_layLoop_58 : decode cX4_layLoop 58 = .ok (.aload_n 0, 1) := by decide +kernel
theorem dX4_layLoop_59 : decode cX4_layLoop 59 = .ok (.getfield 47, 3) := by decide +kernel
theorem dX4_layLoop_62 : decode cX4_layLoop 62 = .ok (.istore 6, 2) := by decide +kernel
theorem dX4_layLoop_64 : decode cX4_layLoop 64 = .ok (.aload_n 0, 1) := by decide +kernel
theorem dX4_layLoop_65 : decode cX4_layLoop 65 = .ok (.dup, 1) := by decide +kernel
theorem dX4_layLoop_66 : decode cX4_layLoop 66 = .ok (.getfield 47, 3) := by decide +kernel
theorem dX4_layLoop_69 : decode cX4_layLoop 69 = .ok (.iconst 1, 1) := by decide +kernel
theorem dX4_layLoop_70 : decode cX4_layLoop 70 = .ok (.iadd, 1) := by decide +kernel
theorem dX4_layLoop_71 : decode cX4_layLoop 71 = .ok (.putfield 47, 3) := by decide +kernel
theorem dX4_layLoop_74 : decode cX4_layLoop 74 = .ok (.aload_n 0, 1) := by decide +kernel
theorem dX4_layLoop_75 : decode cX4_layLoop 75 = .ok (.iload 6, 2) := by decide +kernel
theorem dX4_layLoop_77 : decode cX4_layLoop 77 = .ok (.invokevirtual 58, 3) := by decide +kernel
theorem dX4_layLoop_80 : decode cX4_layLoop 80 = .ok (.astore 7, 2) := by decide +kernel
theorem dX4_layLoop_82 : decode cX4_layLoop 82 = .ok (.aload 7, 2) := by decide +kernel
theorem dX4_layLoop_84 : decode cX4_layLoop 84 = .ok (.ifnull 23, 3) := by decide +kernel
theorem dX4_layLoop_87 : decode cX4_layLoop 87 = .ok (.aload 7, 2) := by decide +kernel
theorem dX4_layLoop_89 : decode cX4_layLoop 89 = .ok (.iload_n 1, 1) := by decide +kernel
theorem dX4_layLoop_90 : decode cX4_layLoop 90 = .ok (.iload_n 2, 1) := by decide +kernel
theorem dX4_layLoop_91 : decode cX4_layLoop 91 = .ok (.iload_n 3, 1) := by decide +kernel
theorem dX4_layLoop_92 : decode cX4_layLoop 92 = .ok (.iload 4, 2) := by decide +kernel
theorem dX4_layLoop_94 : decode cX4_layLoop 94 = .ok (.iload 5, 2) := by decide +kernel
theorem dX4_layLoop_96 : decode cX4_layLoop 96 = .ok (.invokevirtual 73, 3) := by decide +kernel
theorem dX4_layLoop_99 : decode cX4_layLoop 99 = .ok (.aload_n 0, 1) := by decide +kernel
theorem dX4_layLoop_100 : decode cX4_layLoop 100 = .ok (.aload 7, 2) := by decide +kernel
theorem dX4_layLoop_102 : decode cX4_layLoop 102 = .ok (.iload 6, 2) := by decide +kernel
theorem dX4_layLoop_104 : decode cX4_layLoop 104 = .ok (.invokevirtual 77, 3) := by decide +kernel
theorem dX4_layLoop_107 : decode cX4_layLoop 107 = .ok (.iload 6, 2) := by decide +kernel
theorem dX4_layLoop_109 : decode cX4_layLoop 109 = .ok (.ireturn, 1) := by decide +kernel
theorem dX4_markCarsOver_0 : decode cX4_markCarsOver 0 = .ok (.iconst 0, 1) := by decide +kernel
theorem dX4_markCarsOver_1 : decode cX4_markCarsOver 1 = .ok (.istore_n 3, 1) := by decide +kernel
theorem dX4_markCarsOver_2 : decode cX4_markCarsOver 2 = .ok (.iload_n 3, 1) := by decide +kernel
theorem dX4_markCarsOver_3 : decode cX4_markCarsOver 3 = .ok (.aload_n 0, 1) := by decide +kernel
theorem dX4_markCarsOver_4 : decode cX4_markCarsOver 4 = .ok (.getfield 44, 3) := by decide +kernel
theorem dX4_markCarsOver_7 : decode cX4_markCarsOver 7 = .ok (.if_icmp .ge 43, 3) := by decide +kernel
theorem dX4_markCarsOver_10 : decode cX4_markCarsOver 10 = .ok (.aload_n 0, 1) := by decide +kernel
theorem dX4_markCarsOver_11 : decode cX4_markCarsOver 11 = .ok (.iload_n 3, 1) := by decide +kernel
theorem dX4_markCarsOver_12 : decode cX4_markCarsOver 12 = .ok (.invokevirtual 50, 3) := by decide +kernel
theorem dX4_markCarsOver_15 : decode cX4_markCarsOver 15 = .ok (.astore 4, 2) := by decide +kernel
theorem dX4_markCarsOver_17 : decode cX4_markCarsOver 17 = .ok (.aload 4, 2) := by decide +kernel
theorem dX4_markCarsOver_19 : decode cX4_markCarsOver 19 = .ok (.ifnull 25, 3) := by decide +kernel
theorem dX4_markCarsOver_22 : decode cX4_markCarsOver 22 = .ok (.aload_n 1, 1) := by decide +kernel
theorem dX4_markCarsOver_23 : decode cX4_markCarsOver 23 = .ok (.aload 4, 2) := by decide +kernel
theorem dX4_markCarsOver_25 : decode cX4_markCarsOver 25 = .ok (.invokevirtual 81, 3) := by decide +kernel
theorem dX4_markCarsOver_28 : decode cX4_markCarsOver 28 = .ok (.ifCond .eq 16, 3) := by decide +kernel
theorem dX4_markCarsOver_31 : decode cX4_markCarsOver 31 = .ok (.aload 4, 2) := by decide +kernel
theorem dX4_markCarsOver_33 : decode cX4_markCarsOver 33 = .ok (.dup, 1) := by decide +kernel
theorem dX4_markCarsOver_34 : decode cX4_markCarsOver 34 = .ok (.getfield 85, 3) := by decide +kernel
theorem dX4_markCarsOver_37 : decode cX4_markCarsOver 37 = .ok (.iconst 1, 1) := by decide +kernel
theorem dX4_markCarsOver_38 : decode cX4_markCarsOver 38 = .ok (.iload_n 2, 1) := by decide +kernel
theorem dX4_markCarsOver_39 : decode cX4_markCarsOver 39 = .ok (.ishl, 1) := by decide +kernel
theorem dX4_markCarsOver_40 : decode cX4_markCarsOver 40 = .ok (.ior, 1) := by decide +kernel
theorem dX4_markCarsOver_41 : decode cX4_markCarsOver 41 = .ok (.putfield 85, 3) := by decide +kernel
theorem dX4_markCarsOver_44 : decode cX4_markCarsOver 44 = .ok (.iinc 3 1, 3) := by decide +kernel
theorem dX4_markCarsOver_47 : decode cX4_markCarsOver 47 = .ok (.goto (-45), 3) := by decide +kernel
theorem dX4_markCarsOver_50 : decode cX4_markCarsOver 50 = .ok (.return_, 1) := by decide +kernel
theorem dX4_changeBounds_0 : decode cX4_changeBounds 0 = .ok (.aload_n 0, 1) := by decide +kernel
theorem dX4_changeBounds_1 : decode cX4_changeBounds 1 = .ok (.iload_n 1, 1) := by decide +kernel
theorem dX4_changeBounds_2 : decode cX4_changeBounds 2 = .ok (.invokevirtual 58, 3) := by decide +kernel
theorem dX4_changeBounds_5 : decode cX4_changeBounds 5 = .ok (.astore 4, 2) := by decide +kernel
theorem dX4_changeBounds_7 : decode cX4_changeBounds 7 = .ok (.aload 4, 2) := by decide +kernel
theorem dX4_changeBounds_9 : decode cX4_changeBounds 9 = .ok (.ifnonnull 5, 3) := by decide +kernel
theorem dX4_changeBounds_12 : decode cX4_changeBounds 12 = .ok (.iconst (-1), 1) := by decide +kernel
theorem dX4_changeBounds_13 : decode cX4_changeBounds 13 = .ok (.ireturn, 1) := by decide +kernel
theorem dX4_changeBounds_14 : decode cX4_changeBounds 14 = .ok (.iload_n 2, 1) := by decide +kernel
theorem dX4_changeBounds_15 : decode cX4_changeBounds 15 = .ok (.iload_n 3, 1) := by decide +kernel
theorem dX4_changeBounds_16 : decode cX4_changeBounds 16 = .ok (.invokestatic 69, 3) := by decide +kernel
theorem dX4_changeBounds_19 : decode cX4_changeBounds 19 = .ok (.ifCond .ne 6, 3) := by decide +kernel
theorem dX4_changeBounds_22 : decode cX4_changeBounds 22 = .ok (.bipush (-2), 2) := by decide +kernel
theorem dX4_changeBounds_24 : decode cX4_changeBounds 24 = .ok (.ireturn, 1) := by decide +kernel
theorem dX4_changeBounds_25 : decode cX4_changeBounds 25 = .ok (.aload 4, 2) := by decide +kernel
theorem dX4_changeBounds_27 : decode cX4_changeBounds 27 = .ok (.getfield 88, 3) := by decide +kernel
theorem dX4_changeBounds_30 : decode cX4_changeBounds 30 = .ok (.istore 5, 2) := by decide +kernel
theorem dX4_changeBounds_32 : decode cX4_changeBounds 32 = .ok (.aload 4, 2) := by decide +kernel
theorem dX4_changeBounds_34 : decode cX4_changeBounds 34 = .ok (.iload_n 2, 1) := by decide +kernel
theorem dX4_changeBounds_35 : decode cX4_changeBounds 35 = .ok (.putfield 88, 3) := by decide +kernel
theorem dX4_changeBounds_38 : decode cX4_changeBounds 38 = .ok (.aload 4, 2) := by decide +kernel
theorem dX4_changeBounds_40 : decode cX4_changeBounds 40 = .ok (.iload_n 3, 1) := by decide +kernel
theorem dX4_changeBounds_41 : decode cX4_changeBounds 41 = .ok (.putfield 91, 3) := by decide +kernel
theorem dX4_changeBounds_44 : decode cX4_changeBounds 44 = .ok (.iload 5, 2) := by decide +kernel
theorem dX4_changeBounds_46 : decode cX4_changeBounds 46 = .ok (.ireturn, 1) := by decide +kernel
theorem dX4_admitCar_0 : decode cX4_admitCar 0 = .ok (.iload_n 1, 1) := by decide +kernel
theorem dX4_admitCar_1 : decode cX4_admitCar 1 = .ok (.iconst 0, 1) := by decide +kernel
theorem dX4_admitCar_2 : decode cX4_admitCar 2 = .ok (.iconst 1, 1) := by decide +kernel
theorem dX4_admitCar_3 : decode cX4_admitCar 3 = .ok (.invokestatic 65, 3) := by decide +kernel
theorem dX4_admitCar_6 : decode cX4_admitCar 6 = .ok (.ifCond .eq 32, 3) := by decide +kernel
theorem dX4_admitCar_9 : decode cX4_admitCar 9 = .ok (.iload_n 2, 1) := by decide +kernel
theorem dX4_admitCar_10 : decode cX4_admitCar 10 = .ok (.iconst 1, 1) := by decide +kernel
theorem dX4_admitCar_11 : decode cX4_admitCar 11 = .ok (.iconst 4, 1) := by decide +kernel
theorem dX4_admitCar_12 : decode cX4_admitCar 12 = .ok (.invokestatic 65, 3) := by decide +kernel
theorem dX4_admitCar_15 : decode cX4_admitCar 15 = .ok (.ifCond .eq 23, 3) := by decide +kernel
theorem dX4_admitCar_18 : decode cX4_admitCar 18 = .ok (.iload_n 3, 1) := by decide +kernel
theorem dX4_admitCar_19 : decode cX4_admitCar 19 = .ok (.iconst 1, 1) := by decide +kernel
theorem dX4_admitCar_20 : decode cX4_admitCar 20 = .ok (.iconst 4, 1) := by decide +kernel
theorem dX4_admitCar_21 : decode cX4_admitCar 21 = .ok (.invokestatic 65, 3) := by decide +kernel
theorem dX4_admitCar_24 : decode cX4_admitCar 24 = .ok (.ifCond .eq 14, 3) := by decide +kernel
theorem dX4_admitCar_27 : decode cX4_admitCar 27 = .ok (.iload 4, 2) := by decide +kernel
theorem dX4_admitCar_29 : decode cX4_admitCar 29 = .ok (.iconst 1, 1) := by decide +kernel
theorem dX4_admitCar_30 : decode cX4_admitCar 30 = .ok (.bipush 9, 2) := by decide +kernel
theorem dX4_admitCar_32 : decode cX4_admitCar 32 = .ok (.invokestatic 65, 3) := by decide +kernel
theorem dX4_admitCar_35 : decode cX4_admitCar 35 = .ok (.ifCond .ne 6, 3) := by decide +kernel
theorem dX4_admitCar_38 : decode cX4_admitCar 38 = .ok (.bipush (-2), 2) := by decide +kernel
theorem dX4_admitCar_40 : decode cX4_admitCar 40 = .ok (.ireturn, 1) := by decide +kernel
theorem dX4_admitCar_41 : decode cX4_admitCar 41 = .ok (.aload_n 0, 1) := by decide +kernel
theorem dX4_admitCar_42 : decode cX4_admitCar 42 = .ok (.getfield 44, 3) := by decide +kernel
theorem dX4_admitCar_45 : decode cX4_admitCar 45 = .ok (.aload_n 0, 1) := by decide +kernel
theorem dX4_admitCar_46 : decode cX4_admitCar 46 = .ok (.getfield 11, 3) := by decide +kernel
theorem dX4_admitCar_49 : decode cX4_admitCar 49 = .ok (.arraylength, 1) := by decide +kernel
theorem dX4_admitCar_50 : decode cX4_admitCar 50 = .ok (.if_icmp .lt 6, 3) := by decide +kernel
theorem dX4_admitCar_53 : decode cX4_admitCar 53 = .ok (.bipush (-4), 2) := by decide +kernel
theorem dX4_admitCar_55 : decode cX4_admitCar 55 = .ok (.ireturn, 1) := by decide +kernel
theorem dX4_admitCar_56 : decode cX4_admitCar 56 = .ok (.aload_n 0, 1) := by decide +kernel
theorem dX4_admitCar_57 : decode cX4_admitCar 57 = .ok (.iload_n 1, 1) := by decide +kernel
theorem dX4_admitCar_58 : decode cX4_admitCar 58 = .ok (.iconst 0, 1) := by decide +kernel
theorem dX4_admitCar_59 : decode cX4_admitCar 59 = .ok (.invokevirtual 94, 3) := by decide +kernel
theorem dX4_admitCar_62 : decode cX4_admitCar 62 = .ok (.bipush (-6), 2) := by decide +kernel
theorem dX4_admitCar_64 : decode cX4_admitCar 64 = .ok (.if_icmp .eq 6, 3) := by decide +kernel
theorem dX4_admitCar_67 : decode cX4_admitCar 67 = .ok (.bipush (-5), 2) := by decide +kernel
theorem dX4_admitCar_69 : decode cX4_admitCar 69 = .ok (.ireturn, 1) := by decide +kernel
theorem dX4_admitCar_70 : decode cX4_admitCar 70 = .ok (.aload_n 0, 1) := by decide +kernel
theorem dX4_admitCar_71 : decode cX4_admitCar 71 = .ok (.getfield 44, 3) := by decide +kernel
theorem dX4_admitCar_74 : decode cX4_admitCar 74 = .ok (.istore 5, 2) := by decide +kernel
theorem dX4_admitCar_76 : decode cX4_admitCar 76 = .ok (.aload_n 0, 1) := by decide +kernel
theorem dX4_admitCar_77 : decode cX4_admitCar 77 = .ok (.dup, 1) := by decide +kernel
theorem dX4_admitCar_78 : decode cX4_admitCar 78 = .ok (.getfield 44, 3) := by decide +kernel
theorem dX4_admitCar_81 : decode cX4_admitCar 81 = .ok (.iconst 1, 1) := by decide +kernel
theorem dX4_admitCar_82 : decode cX4_admitCar 82 = .ok (.iadd, 1) := by decide +kernel
theorem dX4_admitCar_83 : decode cX4_admitCar 83 = .ok (.putfield 44, 3) := by decide +kernel
theorem dX4_admitCar_86 : decode cX4_admitCar 86 = .ok (.aload_n 0, 1) := by decide +kernel
theorem dX4_admitCar_87 : decode cX4_admitCar 87 = .ok (.iload 5, 2) := by decide +kernel
theorem dX4_admitCar_89 : decode cX4_admitCar 89 = .ok (.invokevirtual 50, 3) := by decide +kernel
theorem dX4_admitCar_92 : decode cX4_admitCar 92 = .ok (.astore 6, 2) := by decide +kernel
theorem dX4_admitCar_94 : decode cX4_admitCar 94 = .ok (.aload 6, 2) := by decide +kernel
theorem dX4_admitCar_96 : decode cX4_admitCar 96 = .ok (.ifnull 21, 3) := by decide +kernel
theorem dX4_admitCar_99 : decode cX4_admitCar 99 = .ok (.aload 6, 2) := by decide +kernel
theorem dX4_admitCar_101 : decode cX4_admitCar 101 = .ok (.iload_n 1, 1) := by decide +kernel
theorem dX4_admitCar_102 : decode cX4_admitCar 102 = .ok (.iload_n 2, 1) := by decide +kernel
theorem dX4_admitCar_103 : decode cX4_admitCar 103 = .ok (.iload_n 3, 1) := by decide +kernel
theorem dX4_admitCar_104 : decode cX4_admitCar 104 = .ok (.iload 4, 2) := by decide +kernel
theorem dX4_admitCar_106 : decode cX4_admitCar 106 = .ok (.invokevirtual 98, 3) := by decide +kernel
theorem dX4_admitCar_109 : decode cX4_admitCar 109 = .ok (.aload_n 0, 1) := by decide +kernel
theorem dX4_admitCar_110 : decode cX4_admitCar 110 = .ok (.iload_n 1, 1) := by decide +kernel
theorem dX4_admitCar_111 : decode cX4_admitCar 111 = .ok (.iconst 0, 1) := by decide +kernel
theorem dX4_admitCar_112 : decode cX4_admitCar 112 = .ok (.iload 5, 2) := by decide +kernel
theorem dX4_admitCar_114 : decode cX4_admitCar 114 = .ok (.invokevirtual 102, 3) := by decide +kernel
theorem dX4_admitCar_117 : decode cX4_admitCar 117 = .ok (.iload 5, 2) := by decide +kernel
theorem dX4_admitCar_119 : decode cX4_admitCar 119 = .ok (.ireturn, 1) := by decide +kernel
theorem dX4_turnWish_0 : decode cX4_turnWish 0 = .ok (.aload_n 0, 1) := by decide +kernel
theorem dX4_turnWish_1 : decode cX4_turnWish 1 = .ok (.iload_n 1, 1) := by decide +kernel
theorem dX4_turnWish_2 : decode cX4_turnWish 2 = .ok (.invokevirtual 50, 3) := by decide +kernel
theorem dX4_turnWish_5 : decode cX4_turnWish 5 = .ok (.astore_n 2, 1) := by decide +kernel
theorem dX4_turnWish_6 : decode cX4_turnWish 6 = .ok (.aload_n 2, 1) := by decide +kernel
theorem dX4_turnWish_7 : decode cX4_turnWish 7 = .ok (.ifnonnull 5, 3) := by decide +kernel
theorem dX4_turnWish_10 : decode cX4_turnWish 10 = .ok (.iconst (-1), 1) := by decide +kernel
theorem dX4_turnWish_11 : decode cX4_turnWish 11 = .ok (.ireturn, 1) := by decide +kernel
theorem dX4_turnWish_12 : decode cX4_turnWish 12 = .ok (.aload_n 2, 1) := by decide +kernel
theorem dX4_turnWish_13 : decode cX4_turnWish 13 = .ok (.getfield 106, 3) := by decide +kernel
theorem dX4_turnWish_16 : decode cX4_turnWish 16 = .ok (.ifCond .eq 6, 3) := by decide +kernel
theorem dX4_turnWish_19 : decode cX4_turnWish 19 = .ok (.bipush (-5), 2) := by decide +kernel
theorem dX4_turnWish_21 : decode cX4_turnWish 21 = .ok (.ireturn, 1) := by decide +kernel
theorem dX4_turnWish_22 : decode cX4_turnWish 22 = .ok (.aload_n 2, 1) := by decide +kernel
theorem dX4_turnWish_23 : decode cX4_turnWish 23 = .ok (.aload_n 2, 1) := by decide +kernel
theorem dX4_turnWish_24 : decode cX4_turnWish 24 = .ok (.getfield 110, 3) := by decide +kernel
theorem dX4_turnWish_27 : decode cX4_turnWish 27 = .ok (.ifCond .ne 7, 3) := by decide +kernel
theorem dX4_turnWish_30 : decode cX4_turnWish 30 = .ok (.iconst 1, 1) := by decide +kernel
theorem dX4_turnWish_31 : decode cX4_turnWish 31 = .ok (.goto 4, 3) := by decide +kernel
theorem dX4_turnWish_34 : decode cX4_turnWish 34 = .ok (.iconst 0, 1) := by decide +kernel
theorem dX4_turnWish_35 : decode cX4_turnWish 35 = .ok (.putfield 110, 3) := by decide +kernel
theorem dX4_turnWish_38 : decode cX4_turnWish 38 = .ok (.aload_n 2, 1) := by decide +kernel
theorem dX4_turnWish_39 : decode cX4_turnWish 39 = .ok (.getfield 110, 3) := by decide +kernel
theorem dX4_turnWish_42 : decode cX4_turnWish 42 = .ok (.ifCond .eq 7, 3) := by decide +kernel
theorem dX4_turnWish_45 : decode cX4_turnWish 45 = .ok (.iconst 1, 1) := by decide +kernel
theorem dX4_turnWish_46 : decode cX4_turnWish 46 = .ok (.goto 4, 3) := by decide +kernel
theorem dX4_turnWish_49 : decode cX4_turnWish 49 = .ok (.iconst 0, 1) := by decide +kernel
theorem dX4_turnWish_50 : decode cX4_turnWish 50 = .ok (.ireturn, 1) := by decide +kernel
theorem dX4_changeSpeed_0 : decode cX4_changeSpeed 0 = .ok (.aload_n 0, 1) := by decide +kernel
theorem dX4_changeSpeed_1 : decode cX4_changeSpeed 1 = .ok (.iload_n 1, 1) := by decide +kernel
theorem dX4_changeSpeed_2 : decode cX4_changeSpeed 2 = .ok (.invokevirtual 50, 3) := by decide +kernel
theorem dX4_changeSpeed_5 : decode cX4_changeSpeed 5 = .ok (.astore_n 3, 1) := by decide +kernel
theorem dX4_changeSpeed_6 : decode cX4_changeSpeed 6 = .ok (.aload_n 3, 1) := by decide +kernel
theorem dX4_changeSpeed_7 : decode cX4_changeSpeed 7 = .ok (.ifnonnull 5, 3) := by decide +kernel
theorem dX4_changeSpeed_10 : decode cX4_changeSpeed 10 = .ok (.iconst (-1), 1) := by decide +kernel
theorem dX4_changeSpeed_11 : decode cX4_changeSpeed 11 = .ok (.ireturn, 1) := by decide +kernel
theorem dX4_changeSpeed_12 : decode cX4_changeSpeed 12 = .ok (.iload_n 2, 1) := by decide +kernel
theorem dX4_changeSpeed_13 : decode cX4_changeSpeed 13 = .ok (.iconst 0, 1) := by decide +kernel
theorem dX4_changeSpeed_14 : decode cX4_changeSpeed 14 = .ok (.iconst 4, 1) := by decide +kernel
theorem dX4_changeSpeed_15 : decode cX4_changeSpeed 15 = .ok (.invokestatic 65, 3) := by decide +kernel
theorem dX4_changeSpeed_18 : decode cX4_changeSpeed 18 = .ok (.ifCond .ne 6, 3) := by decide +kernel
theorem dX4_changeSpeed_21 : decode cX4_changeSpeed 21 = .ok (.bipush (-2), 2) := by decide +kernel
theorem dX4_changeSpeed_23 : decode cX4_changeSpeed 23 = .ok (.ireturn, 1) := by decide +kernel
theorem dX4_changeSpeed_24 : decode cX4_changeSpeed 24 = .ok (.aload_n 3, 1) := by decide +kernel
theorem dX4_changeSpeed_25 : decode cX4_changeSpeed 25 = .ok (.getfield 106, 3) := by decide +kernel
theorem dX4_changeSpeed_28 : decode cX4_changeSpeed 28 = .ok (.ifCond .eq 6, 3) := by decide +kernel
theorem dX4_changeSpeed_31 : decode cX4_changeSpeed 31 = .ok (.bipush (-5), 2) := by decide +kernel
theorem dX4_changeSpeed_33 : decode cX4_changeSpeed 33 = .ok (.ireturn, 1) := by decide +kernel
theorem dX4_changeSpeed_34 : decode cX4_changeSpeed 34 = .ok (.aload_n 3, 1) := by decide +kernel
theorem dX4_changeSpeed_35 : decode cX4_changeSpeed 35 = .ok (.getfield 113, 3) := by decide +kernel
theorem dX4_changeSpeed_38 : decode cX4_changeSpeed 38 = .ok (.istore 4, 2) := by decide +kernel
theorem dX4_changeSpeed_40 : decode cX4_changeSpeed 40 = .ok (.aload_n 3, 1) := by decide +kernel
theorem dX4_changeSpeed_41 : decode cX4_changeSpeed 41 = .ok (.iload_n 2, 1) := by decide +kernel
theorem dX4_changeSpeed_42 : decode cX4_changeSpeed 42 = .ok (.putfield 113, 3) := by decide +kernel
theorem dX4_changeSpeed_45 : decode cX4_changeSpeed 45 = .ok (.iload 4, 2) := by decide +kernel
theorem dX4_changeSpeed_47 : decode cX4_changeSpeed 47 = .ok (.ireturn, 1) := by decide +kernel
theorem dX4_letPass_0 : decode cX4_letPass 0 = .ok (.iload_n 1, 1) := by decide +kernel
theorem dX4_letPass_1 : decode cX4_letPass 1 = .ok (.invokestatic 116, 3) := by decide +kernel
theorem dX4_letPass_4 : decode cX4_letPass 4 = .ok (.ifCond .ne 6, 3) := by decide +kernel
theorem dX4_letPass_7 : decode cX4_letPass 7 = .ok (.bipush (-2), 2) := by decide +kernel
theorem dX4_letPass_9 : decode cX4_letPass 9 = .ok (.ireturn, 1) := by decide +kernel
theorem dX4_letPass_10 : decode cX4_letPass 10 = .ok (.iconst 0, 1) := by decide +kernel
theorem dX4_letPass_11 : decode cX4_letPass 11 = .ok (.istore_n 2, 1) := by decide +kernel
theorem dX4_letPass_12 : decode cX4_letPass 12 = .ok (.iload_n 2, 1) := by decide +kernel
theorem dX4_letPass_13 : decode cX4_letPass 13 = .ok (.iload_n 1, 1) := by decide +kernel
theorem dX4_letPass_14 : decode cX4_letPass 14 = .ok (.if_icmp .ge 17, 3) := by decide +kernel
theorem dX4_letPass_17 : decode cX4_letPass 17 = .ok (.aload_n 0, 1) := by decide +kernel
theorem dX4_letPass_18 : decode cX4_letPass 18 = .ok (.aload_n 0, 1) := by decide +kernel
theorem dX4_letPass_19 : decode cX4_letPass 19 = .ok (.invokevirtual 120, 3) := by decide +kernel
theorem dX4_letPass_22 : decode cX4_letPass 22 = .ok (.invokevirtual 124, 3) := by decide +kernel
theorem dX4_letPass_25 : decode cX4_letPass 25 = .ok (.iinc 2 1, 3) := by decide +kernel
theorem dX4_letPass_28 : decode cX4_letPass 28 = .ok (.goto (-16), 3) := by decide +kernel
theorem dX4_letPass_31 : decode cX4_letPass 31 = .ok (.aload_n 0, 1) := by decide +kernel
theorem dX4_letPass_32 : decode cX4_letPass 32 = .ok (.getfield 41, 3) := by decide +kernel
theorem dX4_letPass_35 : decode cX4_letPass 35 = .ok (.ireturn, 1) := by decide +kernel
theorem dX4_listener_0 : decode cX4_listener 0 = .ok (.aload_n 0, 1) := by decide +kernel
theorem dX4_listener_1 : decode cX4_listener 1 = .ok (.getfield 47, 3) := by decide +kernel
theorem dX4_listener_4 : decode cX4_listener 4 = .ok (.ifCond .le 27, 3) := by decide +kernel
theorem dX4_listener_7 : decode cX4_listener 7 = .ok (.aload_n 0, 1) := by decide +kernel
theorem dX4_listener_8 : decode cX4_listener 8 = .ok (.getfield 34, 3) := by decide +kernel
theorem dX4_listener_11 : decode cX4_listener 11 = .ok (.ifCond .le 20, 3) := by decide +kernel
theorem dX4_listener_14 : decode cX4_listener 14 = .ok (.aload_n 0, 1) := by decide +kernel
theorem dX4_listener_15 : decode cX4_listener 15 = .ok (.getfield 41, 3) := by decide +kernel
theorem dX4_listener_18 : decode cX4_listener 18 = .ok (.aload_n 0, 1) := by decide +kernel
theorem dX4_listener_19 : decode cX4_listener 19 = .ok (.getfield 34, 3) := by decide +kernel
theorem dX4_listener_22 : decode cX4_listener 22 = .ok (.idiv, 1) := by decide +kernel
theorem dX4_listener_23 : decode cX4_listener 23 = .ok (.aload_n 0, 1) := by decide +kernel
theorem dX4_listener_24 : decode cX4_listener 24 = .ok (.getfield 47, 3) := by decide +kernel
theorem dX4_listener_27 : decode cX4_listener 27 = .ok (.irem, 1) := by decide +kernel
theorem dX4_listener_28 : decode cX4_listener 28 = .ok (.goto 5, 3) := by decide +kernel
theorem dX4_listener_31 : decode cX4_listener 31 = .ok (.bipush (-6), 2) := by decide +kernel
theorem dX4_listener_33 : decode cX4_listener 33 = .ok (.ireturn, 1) := by decide +kernel
theorem dX4_passTick_0 : decode cX4_passTick 0 = .ok (.aload_n 0, 1) := by decide +kernel
theorem dX4_passTick_1 : decode cX4_passTick 1 = .ok (.invokevirtual 127, 3) := by decide +kernel
theorem dX4_passTick_4 : decode cX4_passTick 4 = .ok (.istore_n 2, 1) := by decide +kernel
theorem dX4_passTick_5 : decode cX4_passTick 5 = .ok (.iconst 0, 1) := by decide +kernel
theorem dX4_passTick_6 : decode cX4_passTick 6 = .ok (.istore_n 3, 1) := by decide +kernel
theorem dX4_passTick_7 : decode cX4_passTick 7 = .ok (.iload_n 3, 1) := by decide +kernel
theorem dX4_passTick_8 : decode cX4_passTick 8 = .ok (.iload_n 2, 1) := by decide +kernel
theorem dX4_passTick_9 : decode cX4_passTick 9 = .ok (.if_icmp .ge 37, 3) := by decide +kernel
theorem dX4_passTick_12 : decode cX4_passTick 12 = .ok (.iload_n 3, 1) := by decide +kernel
theorem dX4_passTick_13 : decode cX4_passTick 13 = .ok (.aload_n 0, 1) := by decide +kernel
theorem dX4_passTick_14 : decode cX4_passTick 14 = .ok (.getfield 27, 3) := by decide +kernel
theorem dX4_passTick_17 : decode cX4_passTick 17 = .ok (.arraylength, 1) := by decide +kernel
theorem dX4_passTick_18 : decode cX4_passTick 18 = .ok (.if_icmp .ge 28, 3) := by decide +kernel
theorem dX4_passTick_21 : decode cX4_passTick 21 = .ok (.aload_n 0, 1) := by decide +kernel
theorem dX4_passTick_22 : decode cX4_passTick 22 = .ok (.getfield 27, 3) := by decide +kernel
theorem dX4_passTick_25 : decode cX4_passTick 25 = .ok (.iload_n 3, 1) := by decide +kernel
theorem dX4_passTick_26 : decode cX4_passTick 26 = .ok (.aaload, 1) := by decide +kernel
theorem dX4_passTick_27 : decode cX4_passTick 27 = .ok (.astore 4, 2) := by decide +kernel
theorem dX4_passTick_29 : decode cX4_passTick 29 = .ok (.aload 4, 2) := by decide +kernel
theorem dX4_passTick_31 : decode cX4_passTick 31 = .ok (.ifnull 9, 3) := by decide +kernel
theorem dX4_passTick_34 : decode cX4_passTick 34 = .ok (.aload_n 0, 1) := by decide +kernel
theorem dX4_passTick_35 : decode cX4_passTick 35 = .ok (.aload 4, 2) := by decide +kernel
theorem dX4_passTick_37 : decode cX4_passTick 37 = .ok (.invokevirtual 130, 3) := by decide +kernel
theorem dX4_passTick_40 : decode cX4_passTick 40 = .ok (.iinc 3 1, 3) := by decide +kernel
theorem dX4_passTick_43 : decode cX4_passTick 43 = .ok (.goto (-36), 3) := by decide +kernel
theorem dX4_passTick_46 : decode cX4_passTick 46 = .ok (.aload_n 0, 1) := by decide +kernel
theorem dX4_passTick_47 : decode cX4_passTick 47 = .ok (.invokevirtual 133, 3) := by decide +kernel
theorem dX4_passTick_50 : decode cX4_passTick 50 = .ok (.aload_n 0, 1) := by decide +kernel
theorem dX4_passTick_51 : decode cX4_passTick 51 = .ok (.iload_n 1, 1) := by decide +kernel
theorem dX4_passTick_52 : decode cX4_passTick 52 = .ok (.invokevirtual 58, 3) := by decide +kernel
theorem dX4_passTick_55 : decode cX4_passTick 55 = .ok (.astore_n 3, 1) := by decide +kernel
theorem dX4_passTick_56 : decode cX4_passTick 56 = .ok (.aload_n 3, 1) := by decide +kernel
theorem dX4_passTick_57 : decode cX4_passTick 57 = .ok (.ifnull 12, 3) := by decide +kernel
theorem dX4_passTick_60 : decode cX4_passTick 60 = .ok (.aload_n 3, 1) := by decide +kernel
theorem dX4_passTick_61 : decode cX4_passTick 61 = .ok (.aload_n 0, 1) := by decide +kernel
theorem dX4_passTick_62 : decode cX4_passTick 62 = .ok (.aload_n 3, 1) := by decide +kernel
theorem dX4_passTick_63 : decode cX4_passTick 63 = .ok (.invokevirtual 136, 3) := by decide +kernel
theorem dX4_passTick_66 : decode cX4_passTick 66 = .ok (.invokevirtual 140, 3) := by decide +kernel
theorem dX4_passTick_69 : decode cX4_passTick 69 = .ok (.aload_n 0, 1) := by decide +kernel
theorem dX4_passTick_70 : decode cX4_passTick 70 = .ok (.dup, 1) := by decide +kernel
theorem dX4_passTick_71 : decode cX4_passTick 71 = .ok (.getfield 41, 3) := by decide +kernel
theorem dX4_passTick_74 : decode cX4_passTick 74 = .ok (.iconst 1, 1) := by decide +kernel
theorem dX4_passTick_75 : decode cX4_passTick 75 = .ok (.iadd, 1) := by decide +kernel
theorem dX4_passTick_76 : decode cX4_passTick 76 = .ok (.putfield 41, 3) := by decide +kernel
theorem dX4_passTick_79 : decode cX4_passTick 79 = .ok (.return_, 1) := by decide +kernel
theorem dX4_orderMovers_0 : decode cX4_orderMovers 0 = .ok (.iconst 0, 1) := by decide +kernel
theorem dX4_orderMovers_1 : decode cX4_orderMovers 1 = .ok (.istore_n 1, 1) := by decide +kernel
theorem dX4_orderMovers_2 : decode cX4_orderMovers 2 = .ok (.iconst 0, 1) := by decide +kernel
theorem dX4_orderMovers_3 : decode cX4_orderMovers 3 = .ok (.istore_n 2, 1) := by decide +kernel
theorem dX4_orderMovers_4 : decode cX4_orderMovers 4 = .ok (.iload_n 2, 1) := by decide +kernel
theorem dX4_orderMovers_5 : decode cX4_orderMovers 5 = .ok (.aload_n 0, 1) := by decide +kernel
theorem dX4_orderMovers_6 : decode cX4_orderMovers 6 = .ok (.getfield 44, 3) := by decide +kernel
theorem dX4_orderMovers_9 : decode cX4_orderMovers 9 = .ok (.if_icmp .ge 44, 3) := by decide +kernel
theorem dX4_orderMovers_12 : decode cX4_orderMovers 12 = .ok (.aload_n 0, 1) := by decide +kernel
theorem dX4_orderMovers_13 : decode cX4_orderMovers 13 = .ok (.iload_n 2, 1) := by decide +kernel
theorem dX4_orderMovers_14 : decode cX4_orderMovers 14 = .ok (.invokevirtual 50, 3) := by decide +kernel
theorem dX4_orderMovers_17 : decode cX4_orderMovers 17 = .ok (.astore_n 3, 1) := by decide +kernel
theorem dX4_orderMovers_18 : decode cX4_orderMovers 18 = .ok (.aload_n 3, 1) := by decide +kernel
theorem dX4_orderMovers_19 : decode cX4_orderMovers 19 = .ok (.ifnull 28, 3) := by decide +kernel
theorem dX4_orderMovers_22 : decode cX4_orderMovers 22 = .ok (.aload_n 3, 1) := by decide +kernel
theorem dX4_orderMovers_23 : decode cX4_orderMovers 23 = .ok (.getfield 106, 3) := by decide +kernel
theorem dX4_orderMovers_26 : decode cX4_orderMovers 26 = .ok (.ifCond .ne 21, 3) := by decide +kernel
theorem dX4_orderMovers_29 : decode cX4_orderMovers 29 = .ok (.iload_n 1, 1) := by decide +kernel
theorem dX4_orderMovers_30 : decode cX4_orderMovers 30 = .ok (.aload_n 0, 1) := by decide +kernel
theorem dX4_orderMovers_31 : decode cX4_orderMovers 31 = .ok (.getfield 27, 3) := by decide +kernel
theorem dX4_orderMovers_34 : decode cX4_orderMovers 34 = .ok (.arraylength, 1) := by decide +kernel
theorem dX4_orderMovers_35 : decode cX4_orderMovers 35 = .ok (.if_icmp .ge 12, 3) := by decide +kernel
theorem dX4_orderMovers_38 : decode cX4_orderMovers 38 = .ok (.aload_n 0, 1) := by decide +kernel
theorem dX4_orderMovers_39 : decode cX4_orderMovers 39 = .ok (.aload_n 3, 1) := by decide +kernel
theorem dX4_orderMovers_40 : decode cX4_orderMovers 40 = .ok (.iload_n 1, 1) := by decide +kernel
theorem dX4_orderMovers_41 : decode cX4_orderMovers 41 = .ok (.invokevirtual 143, 3) := by decide +kernel
theorem dX4_orderMovers_44 : decode cX4_orderMovers 44 = .ok (.iinc 1 1, 3) := by decide +kernel
theorem dX4_orderMovers_47 : decode cX4_orderMovers 47 = .ok (.iinc 2 1, 3) := by decide +kernel
theorem dX4_orderMovers_50 : decode cX4_orderMovers 50 = .ok (.goto (-46), 3) := by decide +kernel
theorem dX4_orderMovers_53 : decode cX4_orderMovers 53 = .ok (.iload_n 1, 1) := by decide +kernel
theorem dX4_orderMovers_54 : decode cX4_orderMovers 54 = .ok (.ireturn, 1) := by decide +kernel
theorem dX4_insertMover_0 : decode cX4_insertMover 0 = .ok (.iload_n 2, 1) := by decide +kernel
theorem dX4_insertMover_1 : decode cX4_insertMover 1 = .ok (.istore_n 3, 1) := by decide +kernel
theorem dX4_insertMover_2 : decode cX4_insertMover 2 = .ok (.iload_n 2, 1) := by decide +kernel
theorem dX4_insertMover_3 : decode cX4_insertMover 3 = .ok (.iconst 1, 1) := by decide +kernel
theorem dX4_insertMover_4 : decode cX4_insertMover 4 = .ok (.isub, 1) := by decide +kernel
theorem dX4_insertMover_5 : decode cX4_insertMover 5 = .ok (.istore 4, 2) := by decide +kernel
theorem dX4_insertMover_7 : decode cX4_insertMover 7 = .ok (.iload 4, 2) := by decide +kernel
theorem dX4_insertMover_9 : decode cX4_insertMover 9 = .ok (.ifCond .lt 64, 3) := by decide +kernel
theorem dX4_insertMover_12 : decode cX4_insertMover 12 = .ok (.iload 4, 2) := by decide +kernel
theorem dX4_insertMover_14 : decode cX4_insertMover 14 = .ok (.iconst 1, 1) := by decide +kernel
theorem dX4_insertMover_15 : decode cX4_insertMover 15 = .ok (.iadd, 1) := by decide +kernel
theorem dX4_insertMover_16 : decode cX4_insertMover 16 = .ok (.aload_n 0, 1) := by decide +kernel
theorem dX4_insertMover_17 : decode cX4_insertMover 17 = .ok (.getfield 27, 3) := by decide +kernel
theorem dX4_insertMover_20 : decode cX4_insertMover 20 = .ok (.arraylength, 1) := by decide +kernel
theorem dX4_insertMover_21 : decode cX4_insertMover 21 = .ok (.if_icmp .ge 52, 3) := by decide +kernel
theorem dX4_insertMover_24 : decode cX4_insertMover 24 = .ok (.aload_n 0, 1) := by decide +kernel
theorem dX4_insertMover_25 : decode cX4_insertMover 25 = .ok (.getfield 27, 3) := by decide +kernel
theorem dX4_insertMover_28 : decode cX4_insertMover 28 = .ok (.iload 4, 2) := by decide +kernel
theorem dX4_insertMover_30 : decode cX4_insertMover 30 = .ok (.aaload, 1) := by decide +kernel
theorem dX4_insertMover_31 : decode cX4_insertMover 31 = .ok (.astore 5, 2) := by decide +kernel
theorem dX4_insertMover_33 : decode cX4_insertMover 33 = .ok (.aload 5, 2) := by decide +kernel
theorem dX4_insertMover_35 : decode cX4_insertMover 35 = .ok (.ifnull 38, 3) := by decide +kernel
theorem dX4_insertMover_38 : decode cX4_insertMover 38 = .ok (.aload 5, 2) := by decide +kernel
theorem dX4_insertMover_40 : decode cX4_insertMover 40 = .ok (.getfield 147, 3) := by decide +kernel
theorem dX4_insertMover_43 : decode cX4_insertMover 43 = .ok (.aload_n 1, 1) := by decide +kernel
theorem dX4_insertMover_44 : decode cX4_insertMover 44 = .ok (.getfield 147, 3) := by decide +kernel
theorem dX4_insertMover_47 : decode cX4_insertMover 47 = .ok (.if_icmp .lt 6, 3) := by decide +kernel
theorem dX4_insertMover_50 : decode cX4_insertMover 50 = .ok (.goto 23, 3) := by decide +kernel
theorem dX4_insertMover_53 : decode cX4_insertMover 53 = .ok (.aload_n 0, 1) := by decide +kernel
theorem dX4_insertMover_54 : decode cX4_insertMover 54 = .ok (.getfield 27, 3) := by decide +kernel
theorem dX4_insertMover_57 : decode cX4_insertMover 57 = .ok (.iload 4, 2) := by decide +kernel
theorem dX4_insertMover_59 : decode cX4_insertMover 59 = .ok (.iconst 1, 1) := by decide +kernel
theorem dX4_insertMover_60 : decode cX4_insertMover 60 = .ok (.iadd, 1) := by decide +kernel
theorem dX4_insertMover_61 : decode cX4_insertMover 61 = .ok (.aload 5, 2) := by decide +kernel
theorem dX4_insertMover_63 : decode cX4_insertMover 63 = .ok (.aastore, 1) := by decide +kernel
theorem dX4_insertMover_64 : decode cX4_insertMover 64 = .ok (.iload 4, 2) := by decide +kernel
theorem dX4_insertMover_66 : decode cX4_insertMover 66 = .ok (.istore_n 3, 1) := by decide +kernel
theorem dX4_insertMover_67 : decode cX4_insertMover 67 = .ok (.iinc 4 (-1), 3) := by decide +kernel
theorem dX4_insertMover_70 : decode cX4_insertMover 70 = .ok (.goto (-63), 3) := by decide +kernel
theorem dX4_insertMover_73 : decode cX4_insertMover 73 = .ok (.iload_n 3, 1) := by decide +kernel
theorem dX4_insertMover_74 : decode cX4_insertMover 74 = .ok (.ifCond .lt 19, 3) := by decide +kernel
theorem dX4_insertMover_77 : decode cX4_insertMover 77 = .ok (.iload_n 3, 1) := by decide +kernel
theorem dX4_insertMover_78 : decode cX4_insertMover 78 = .ok (.aload_n 0, 1) := by decide +kernel
theorem dX4_insertMover_79 : decode cX4_insertMover 79 = .ok (.getfield 27, 3) := by decide +kernel
theorem dX4_insertMover_82 : decode cX4_insertMover 82 = .ok (.arraylength, 1) := by decide +kernel
theorem dX4_insertMover_83 : decode cX4_insertMover 83 = .ok (.if_icmp .ge 10, 3) := by decide +kernel
theorem dX4_insertMover_86 : decode cX4_insertMover 86 = .ok (.aload_n 0, 1) := by decide +kernel
theorem dX4_insertMover_87 : decode cX4_insertMover 87 = .ok (.getfield 27, 3) := by decide +kernel
theorem dX4_insertMover_90 : decode cX4_insertMover 90 = .ok (.iload_n 3, 1) := by decide +kernel
theorem dX4_insertMover_91 : decode cX4_insertMover 91 = .ok (.aload_n 1, 1) := by decide +kernel
theorem dX4_insertMover_92 : decode cX4_insertMover 92 = .ok (.aastore, 1) := by decide +kernel
theorem dX4_insertMover_93 : decode cX4_insertMover 93 = .ok (.return_, 1) := by decide +kernel
theorem dX4_moveCar_0 : decode cX4_moveCar 0 = .ok (.aload_n 1, 1) := by decide +kernel
theorem dX4_moveCar_1 : decode cX4_moveCar 1 = .ok (.getfield 110, 3) := by decide +kernel
theorem dX4_moveCar_4 : decode cX4_moveCar 4 = .ok (.ifCond .eq 17, 3) := by decide +kernel
theorem dX4_moveCar_7 : decode cX4_moveCar 7 = .ok (.aload_n 0, 1) := by decide +kernel
theorem dX4_moveCar_8 : decode cX4_moveCar 8 = .ok (.aload_n 1, 1) := by decide +kernel
theorem dX4_moveCar_9 : decode cX4_moveCar 9 = .ok (.invokevirtual 150, 3) := by decide +kernel
theorem dX4_moveCar_12 : decode cX4_moveCar 12 = .ok (.ifCond .eq 9, 3) := by decide +kernel
theorem dX4_moveCar_15 : decode cX4_moveCar 15 = .ok (.aload_n 0, 1) := by decide +kernel
theorem dX4_moveCar_16 : decode cX4_moveCar 16 = .ok (.aload_n 1, 1) := by decide +kernel
theorem dX4_moveCar_17 : decode cX4_moveCar 17 = .ok (.invokevirtual 153, 3) := by decide +kernel
theorem dX4_moveCar_20 : decode cX4_moveCar 20 = .ok (.return_, 1) := by decide +kernel
theorem dX4_moveCar_21 : decode cX4_moveCar 21 = .ok (.iconst 0, 1) := by decide +kernel
theorem dX4_moveCar_22 : decode cX4_moveCar 22 = .ok (.istore_n 2, 1) := by decide +kernel
theorem dX4_moveCar_23 : decode cX4_moveCar 23 = .ok (.iload_n 2, 1) := by decide +kernel
theorem dX4_moveCar_24 : decode cX4_moveCar 24 = .ok (.aload_n 1, 1) := by decide +kernel
theorem dX4_moveCar_25 : decode cX4_moveCar 25 = .ok (.getfield 113, 3) := by decide +kernel
theorem dX4_moveCar_28 : decode cX4_moveCar 28 = .ok (.if_icmp .ge 95, 3) := by decide +kernel
theorem dX4_moveCar_31 : decode cX4_moveCar 31 = .ok (.aload_n 1, 1) := by decide +kernel
theorem dX4_moveCar_32 : decode cX4_moveCar 32 = .ok (.getfield 106, 3) := by decide +kernel
theorem dX4_moveCar_35 : decode cX4_moveCar 35 = .ok (.ifCond .ne 88, 3) := by decide +kernel
theorem dX4_moveCar_38 : decode cX4_moveCar 38 = .ok (.aload_n 0, 1) := by decide +kernel
theorem dX4_moveCar_39 : decode cX4_moveCar 39 = .ok (.aload_n 1, 1) := by decide +kernel
theorem dX4_moveCar_40 : decode cX4_moveCar 40 = .ok (.getfield 156, 3) := by decide +kernel
theorem dX4_moveCar_43 : decode cX4_moveCar 43 = .ok (.aload_n 1, 1) := by decide +kernel
theorem dX4_moveCar_44 : decode cX4_moveCar 44 = .ok (.getfield 147, 3) := by decide +kernel
theorem dX4_moveCar_47 : decode cX4_moveCar 47 = .ok (.iconst 1, 1) := by decide +kernel
theorem dX4_moveCar_48 : decode cX4_moveCar 48 = .ok (.iadd, 1) := by decide +kernel
theorem dX4_moveCar_49 : decode cX4_moveCar 49 = .ok (.invokevirtual 94, 3) := by decide +kernel
theorem dX4_moveCar_52 : decode cX4_moveCar 52 = .ok (.bipush (-6), 2) := by decide +kernel
theorem dX4_moveCar_54 : decode cX4_moveCar 54 = .ok (.if_icmp .ne 69, 3) := by decide +kernel
theorem dX4_moveCar_57 : decode cX4_moveCar 57 = .ok (.aload_n 1, 1) := by decide +kernel
theorem dX4_moveCar_58 : decode cX4_moveCar 58 = .ok (.dup, 1) := by decide +kernel
theorem dX4_moveCar_59 : decode cX4_moveCar 59 = .ok (.getfield 147, 3) := by decide +kernel
theorem dX4_moveCar_62 : decode cX4_moveCar 62 = .ok (.iconst 1, 1) := by decide +kernel
theorem dX4_moveCar_63 : decode cX4_moveCar 63 = .ok (.iadd, 1) := by decide +kernel
theorem dX4_moveCar_64 : decode cX4_moveCar 64 = .ok (.putfield 147, 3) := by decide +kernel
theorem dX4_moveCar_67 : decode cX4_moveCar 67 = .ok (.aload_n 0, 1) := by decide +kernel
theorem dX4_moveCar_68 : decode cX4_moveCar 68 = .ok (.aload_n 1, 1) := by decide +kernel
theorem dX4_moveCar_69 : decode cX4_moveCar 69 = .ok (.getfield 156, 3) := by decide +kernel
theorem dX4_moveCar_72 : decode cX4_moveCar 72 = .ok (.aload_n 1, 1) := by decide +kernel
theorem dX4_moveCar_73 : decode cX4_moveCar 73 = .ok (.getfield 147, 3) := by decide +kernel
theorem dX4_moveCar_76 : decode cX4_moveCar 76 = .ok (.aload_n 1, 1) := by decide +kernel
theorem dX4_moveCar_77 : decode cX4_moveCar 77 = .ok (.getfield 159, 3) := by decide +kernel
theorem dX4_moveCar_80 : decode cX4_moveCar 80 = .ok (.invokevirtual 102, 3) := by decide +kernel
theorem dX4_moveCar_83 : decode cX4_moveCar 83 = .ok (.aload_n 0, 1) := by decide +kernel
theorem dX4_moveCar_84 : decode cX4_moveCar 84 = .ok (.aload_n 1, 1) := by decide +kernel
theorem dX4_moveCar_85 : decode cX4_moveCar 85 = .ok (.getfield 156, 3) := by decide +kernel
theorem dX4_moveCar_88 : decode cX4_moveCar 88 = .ok (.aload_n 1, 1) := by decide +kernel
theorem dX4_moveCar_89 : decode cX4_moveCar 89 = .ok (.invokevirtual 162, 3) := by decide +kernel
theorem dX4_moveCar_92 : decode cX4_moveCar 92 = .ok (.iconst 1, 1) := by decide +kernel
theorem dX4_moveCar_93 : decode cX4_moveCar 93 = .ok (.isub, 1) := by decide +kernel
theorem dX4_moveCar_94 : decode cX4_moveCar 94 = .ok (.bipush (-6), 2) := by decide +kernel
theorem dX4_moveCar_96 : decode cX4_moveCar 96 = .ok (.invokevirtual 102, 3) := by decide +kernel
theorem dX4_moveCar_99 : decode cX4_moveCar 99 = .ok (.aload_n 1, 1) := by decide +kernel
theorem dX4_moveCar_100 : decode cX4_moveCar 100 = .ok (.aload_n 1, 1) := by decide +kernel
theorem dX4_moveCar_101 : decode cX4_moveCar 101 = .ok (.invokevirtual 162, 3) := by decide +kernel
theorem dX4_moveCar_104 : decode cX4_moveCar 104 = .ok (.bipush 39, 2) := by decide +kernel
theorem dX4_moveCar_106 : decode cX4_moveCar 106 = .ok (.if_icmp .le 7, 3) := by decide +kernel
theorem dX4_moveCar_109 : decode cX4_moveCar 109 = .ok (.iconst 1, 1) := by decide +kernel
theorem dX4_moveCar_110 : decode cX4_moveCar 110 = .ok (.goto 4, 3) := by decide +kernel
theorem dX4_moveCar_113 : decode cX4_moveCar 113 = .ok (.iconst 0, 1) := by decide +kernel
theorem dX4_moveCar_114 : decode cX4_moveCar 114 = .ok (.putfield 106, 3) := by decide +kernel
theorem dX4_moveCar_117 : decode cX4_moveCar 117 = .ok (.iinc 2 1, 3) := by decide +kernel
theorem dX4_moveCar_120 : decode cX4_moveCar 120 = .ok (.goto (-97), 3) := by decide +kernel
theorem dX4_moveCar_123 : decode cX4_moveCar 123 = .ok (.iload_n 2, 1) := by decide +kernel
theorem dX4_moveCar_124 : decode cX4_moveCar 124 = .ok (.aload_n 1, 1) := by decide +kernel
theorem dX4_moveCar_125 : decode cX4_moveCar 125 = .ok (.getfield 113, 3) := by decide +kernel
theorem dX4_moveCar_128 : decode cX4_moveCar 128 = .ok (.if_icmp .ge 20, 3) := by decide +kernel
theorem dX4_moveCar_131 : decode cX4_moveCar 131 = .ok (.aload_n 1, 1) := by decide +kernel
theorem dX4_moveCar_132 : decode cX4_moveCar 132 = .ok (.getfield 106, 3) := by decide +kernel
theorem dX4_moveCar_135 : decode cX4_moveCar 135 = .ok (.ifCond .ne 13, 3) := by decide +kernel
theorem dX4_moveCar_138 : decode cX4_moveCar 138 = .ok (.aload_n 1, 1) := by decide +kernel
theorem dX4_moveCar_139 : decode cX4_moveCar 139 = .ok (.dup, 1) := by decide +kernel
theorem dX4_moveCar_140 : decode cX4_moveCar 140 = .ok (.getfield 165, 3) := by decide +kernel
theorem dX4_moveCar_143 : decode cX4_moveCar 143 = .ok (.iconst 1, 1) := by decide +kernel
theorem dX4_moveCar_144 : decode cX4_moveCar 144 = .ok (.iadd, 1) := by decide +kernel
theorem dX4_moveCar_145 : decode cX4_moveCar 145 = .ok (.putfield 165, 3) := by decide +kernel
theorem dX4_moveCar_148 : decode cX4_moveCar 148 = .ok (.return_, 1) := by decide +kernel
theorem dX4_isFreeBeside_0 : decode cX4_isFreeBeside 0 = .ok (.aload_n 1, 1) := by decide +kernel
theorem dX4_isFreeBeside_1 : decode cX4_isFreeBeside 1 = .ok (.invokevirtual 162, 3) := by decide +kernel
theorem dX4_isFreeBeside_4 : decode cX4_isFreeBeside 4 = .ok (.istore_n 2, 1) := by decide +kernel
theorem dX4_isFreeBeside_5 : decode cX4_isFreeBeside 5 = .ok (.iload_n 2, 1) := by decide +kernel
theorem dX4_isFreeBeside_6 : decode cX4_isFreeBeside 6 = .ok (.aload_n 1, 1) := by decide +kernel
theorem dX4_isFreeBeside_7 : decode cX4_isFreeBeside 7 = .ok (.getfield 147, 3) := by decide +kernel
theorem dX4_isFreeBeside_10 : decode cX4_isFreeBeside 10 = .ok (.if_icmp .gt 27, 3) := by decide +kernel
theorem dX4_isFreeBeside_13 : decode cX4_isFreeBeside 13 = .ok (.aload_n 0, 1) := by decide +kernel
theorem dX4_isFreeBeside_14 : decode cX4_isFreeBeside 14 = .ok (.iconst 1, 1) := by decide +kernel
theorem dX4_isFreeBeside_15 : decode cX4_isFreeBeside 15 = .ok (.aload_n 1, 1) := by decide +kernel
theorem dX4_isFreeBeside_16 : decode cX4_isFreeBeside 16 = .ok (.getfield 156, 3) := by decide +kernel
theorem dX4_isFreeBeside_19 : decode cX4_isFreeBeside 19 = .ok (.isub, 1) := by decide +kernel
theorem dX4_isFreeBeside_20 : decode cX4_isFreeBeside 20 = .ok (.iload_n 2, 1) := by decide +kernel
theorem dX4_isFreeBeside_21 : decode cX4_isFreeBeside 21 = .ok (.invokevirtual 94, 3) := by decide +kernel
theorem dX4_isFreeBeside_24 : decode cX4_isFreeBeside 24 = .ok (.bipush (-6), 2) := by decide +kernel
theorem dX4_isFreeBeside_26 : decode cX4_isFreeBeside 26 = .ok (.if_icmp .eq 5, 3) := by decide +kernel
theorem dX4_isFreeBeside_29 : decode cX4_isFreeBeside 29 = .ok (.iconst 0, 1) := by decide +kernel
theorem dX4_isFreeBeside_30 : decode cX4_isFreeBeside 30 = .ok (.ireturn, 1) := by decide +kernel
theorem dX4_isFreeBeside_31 : decode cX4_isFreeBeside 31 = .ok (.iinc 2 1, 3) := by decide +kernel
theorem dX4_isFreeBeside_34 : decode cX4_isFreeBeside 34 = .ok (.goto (-29), 3) := by decide +kernel
theorem dX4_isFreeBeside_37 : decode cX4_isFreeBeside 37 = .ok (.iconst 1, 1) := by decide +kernel
theorem dX4_isFreeBeside_38 : decode cX4_isFreeBeside 38 = .ok (.ireturn, 1) := by decide +kernel
theorem dX4_changeLane_0 : decode cX4_changeLane 0 = .ok (.aload_n 1, 1) := by decide +kernel
theorem dX4_changeLane_1 : decode cX4_changeLane 1 = .ok (.invokevirtual 162, 3) := by decide +kernel
theorem dX4_changeLane_4 : decode cX4_changeLane 4 = .ok (.istore_n 2, 1) := by decide +kernel
theorem dX4_changeLane_5 : decode cX4_changeLane 5 = .ok (.iload_n 2, 1) := by decide +kernel
theorem dX4_changeLane_6 : decode cX4_changeLane 6 = .ok (.aload_n 1, 1) := by decide +kernel
theorem dX4_changeLane_7 : decode cX4_changeLane 7 = .ok (.getfield 147, 3) := by decide +kernel
theorem dX4_changeLane_10 : decode cX4_changeLane 10 = .ok (.if_icmp .gt 35, 3) := by decide +kernel
theorem dX4_changeLane_13 : decode cX4_changeLane 13 = .ok (.aload_n 0, 1) := by decide +kernel
theorem dX4_changeLane_14 : decode cX4_changeLane 14 = .ok (.aload_n 1, 1) := by decide +kernel
theorem dX4_changeLane_15 : decode cX4_changeLane 15 = .ok (.getfield 156, 3) := by decide +kernel
theorem dX4_changeLane_18 : decode cX4_changeLane 18 = .ok (.iload_n 2, 1) := by decide +kernel
theorem dX4_changeLane_19 : decode cX4_changeLane 19 = .ok (.bipush (-6), 2) := by decide +kernel
theorem dX4_changeLane_21 : decode cX4_changeLane 21 = .ok (.invokevirtual 102, 3) := by decide +kernel
theorem dX4_changeLane_24 : decode cX4_changeLane 24 = .ok (.aload_n 0, 1) := by decide +kernel
theorem dX4_changeLane_25 : decode cX4_changeLane 25 = .ok (.iconst 1, 1) := by decide +kernel
theorem dX4_changeLane_26 : decode cX4_changeLane 26 = .ok (.aload_n 1, 1) := by decide +kernel
theorem dX4_changeLane_27 : decode cX4_changeLane 27 = .ok (.getfield 156, 3) := by decide +kernel
theorem dX4_changeLane_30 : decode cX4_changeLane 30 = .ok (.isub, 1) := by decide +kernel
theorem dX4_changeLane_31 : decode cX4_changeLane 31 = .ok (.iload_n 2, 1) := by decide +kernel
theorem dX4_changeLane_32 : decode cX4_changeLane 32 = .ok (.aload_n 1, 1) := by decide +kernel
theorem dX4_changeLane_33 : decode cX4_changeLane 33 = .ok (.getfield 159, 3) := by decide +kernel
theorem dX4_changeLane_36 : decode cX4_changeLane 36 = .ok (.invokevirtual 102, 3) := by decide +kernel
theorem dX4_changeLane_39 : decode cX4_changeLane 39 = .ok (.iinc 2 1, 3) := by decide +kernel
theorem dX4_changeLane_42 : decode cX4_changeLane 42 = .ok (.goto (-37), 3) := by decide +kernel
theorem dX4_changeLane_45 : decode cX4_changeLane 45 = .ok (.aload_n 1, 1) := by decide +kernel
theorem dX4_changeLane_46 : decode cX4_changeLane 46 = .ok (.iconst 1, 1) := by decide +kernel
theorem dX4_changeLane_47 : decode cX4_changeLane 47 = .ok (.aload_n 1, 1) := by decide +kernel
theorem dX4_changeLane_48 : decode cX4_changeLane 48 = .ok (.getfield 156, 3) := by decide +kernel
theorem dX4_changeLane_51 : decode cX4_changeLane 51 = .ok (.isub, 1) := by decide +kernel
theorem dX4_changeLane_52 : decode cX4_changeLane 52 = .ok (.putfield 156, 3) := by decide +kernel
theorem dX4_changeLane_55 : decode cX4_changeLane 55 = .ok (.aload_n 1, 1) := by decide +kernel
theorem dX4_changeLane_56 : decode cX4_changeLane 56 = .ok (.iconst 0, 1) := by decide +kernel
theorem dX4_changeLane_57 : decode cX4_changeLane 57 = .ok (.putfield 110, 3) := by decide +kernel
theorem dX4_changeLane_60 : decode cX4_changeLane 60 = .ok (.aload_n 1, 1) := by decide +kernel
theorem dX4_changeLane_61 : decode cX4_changeLane 61 = .ok (.dup, 1) := by decide +kernel
theorem dX4_changeLane_62 : decode cX4_changeLane 62 = .ok (.getfield 168, 3) := by decide +kernel
theorem dX4_changeLane_65 : decode cX4_changeLane 65 = .ok (.iconst 1, 1) := by decide +kernel
theorem dX4_changeLane_66 : decode cX4_changeLane 66 = .ok (.iadd, 1) := by decide +kernel
theorem dX4_changeLane_67 : decode cX4_changeLane 67 = .ok (.putfield 168, 3) := by decide +kernel
theorem dX4_changeLane_70 : decode cX4_changeLane 70 = .ok (.return_, 1) := by decide +kernel
theorem dX4_notePassings_0 : decode cX4_notePassings 0 = .ok (.iconst 0, 1) := by decide +kernel
theorem dX4_notePassings_1 : decode cX4_notePassings 1 = .ok (.istore_n 1, 1) := by decide +kernel
theorem dX4_notePassings_2 : decode cX4_notePassings 2 = .ok (.iload_n 1, 1) := by decide +kernel
theorem dX4_notePassings_3 : decode cX4_notePassings 3 = .ok (.aload_n 0, 1) := by decide +kernel
theorem dX4_notePassings_4 : decode cX4_notePassings 4 = .ok (.getfield 44, 3) := by decide +kernel
theorem dX4_notePassings_7 : decode cX4_notePassings 7 = .ok (.if_icmp .ge 56, 3) := by decide +kernel
theorem dX4_notePassings_10 : decode cX4_notePassings 10 = .ok (.aload_n 0, 1) := by decide +kernel
theorem dX4_notePassings_11 : decode cX4_notePassings 11 = .ok (.iload_n 1, 1) := by decide +kernel
theorem dX4_notePassings_12 : decode cX4_notePassings 12 = .ok (.invokevirtual 50, 3) := by decide +kernel
theorem dX4_notePassings_15 : decode cX4_notePassings 15 = .ok (.astore_n 2, 1) := by decide +kernel
theorem dX4_notePassings_16 : decode cX4_notePassings 16 = .ok (.aload_n 2, 1) := by decide +kernel
theorem dX4_notePassings_17 : decode cX4_notePassings 17 = .ok (.ifnull 40, 3) := by decide +kernel
theorem dX4_notePassings_20 : decode cX4_notePassings 20 = .ok (.aload_n 2, 1) := by decide +kernel
theorem dX4_notePassings_21 : decode cX4_notePassings 21 = .ok (.getfield 106, 3) := by decide +kernel
theorem dX4_notePassings_24 : decode cX4_notePassings 24 = .ok (.ifCond .eq 10, 3) := by decide +kernel
theorem dX4_notePassings_27 : decode cX4_notePassings 27 = .ok (.aload_n 2, 1) := by decide +kernel
theorem dX4_notePassings_28 : decode cX4_notePassings 28 = .ok (.getfield 85, 3) := by decide +kernel
theorem dX4_notePassings_31 : decode cX4_notePassings 31 = .ok (.ifCond .eq 26, 3) := by decide +kernel
theorem dX4_notePassings_34 : decode cX4_notePassings 34 = .ok (.aload_n 0, 1) := by decide +kernel
theorem dX4_notePassings_35 : decode cX4_notePassings 35 = .ok (.aload_n 2, 1) := by decide +kernel
theorem dX4_notePassings_36 : decode cX4_notePassings 36 = .ok (.invokevirtual 171, 3) := by decide +kernel
theorem dX4_notePassings_39 : decode cX4_notePassings 39 = .ok (.istore_n 3, 1) := by decide +kernel
theorem dX4_notePassings_40 : decode cX4_notePassings 40 = .ok (.aload_n 0, 1) := by decide +kernel
theorem dX4_notePassings_41 : decode cX4_notePassings 41 = .ok (.iload_n 3, 1) := by decide +kernel
theorem dX4_notePassings_42 : decode cX4_notePassings 42 = .ok (.aload_n 2, 1) := by decide +kernel
theorem dX4_notePassings_43 : decode cX4_notePassings 43 = .ok (.getfield 85, 3) := by decide +kernel
theorem dX4_notePassings_46 : decode cX4_notePassings 46 = .ok (.iconst (-1), 1) := by decide +kernel
theorem dX4_notePassings_47 : decode cX4_notePassings 47 = .ok (.ixor, 1) := by decide +kernel
theorem dX4_notePassings_48 : decode cX4_notePassings 48 = .ok (.iand, 1) := by decide +kernel
theorem dX4_notePassings_49 : decode cX4_notePassings 49 = .ok (.invokevirtual 175, 3) := by decide +kernel
theorem dX4_notePassings_52 : decode cX4_notePassings 52 = .ok (.aload_n 2, 1) := by decide +kernel
theorem dX4_notePassings_53 : decode cX4_notePassings 53 = .ok (.iload_n 3, 1) := by decide +kernel
theorem dX4_notePassings_54 : decode cX4_notePassings 54 = .ok (.putfield 85, 3) := by decide +kernel
theorem dX4_notePassings_57 : decode cX4_notePassings 57 = .ok (.iinc 1 1, 3) := by decide +kernel
theorem dX4_notePassings_60 : decode cX4_notePassings 60 = .ok (.goto (-58), 3) := by decide +kernel
theorem dX4_notePassings_63 : decode cX4_notePassings 63 = .ok (.return_, 1) := by decide +kernel
theorem dX4_countPassings_0 : decode cX4_countPassings 0 = .ok (.iconst 0, 1) := by decide +kernel
theorem dX4_countPassings_1 : decode cX4_countPassings 1 = .ok (.istore_n 2, 1) := by decide +kernel
theorem dX4_countPassings_2 : decode cX4_countPassings 2 = .ok (.iload_n 2, 1) := by decide +kernel
theorem dX4_countPassings_3 : decode cX4_countPassings 3 = .ok (.aload_n 0, 1) := by decide +kernel
theorem dX4_countPassings_4 : decode cX4_countPassings 4 = .ok (.getfield 47, 3) := by decide +kernel
theorem dX4_countPassings_7 : decode cX4_countPassings 7 = .ok (.if_icmp .ge 38, 3) := by decide +kernel
theorem dX4_countPassings_10 : decode cX4_countPassings 10 = .ok (.aload_n 0, 1) := by decide +kernel
theorem dX4_countPassings_11 : decode cX4_countPassings 11 = .ok (.iload_n 2, 1) := by decide +kernel
theorem dX4_countPassings_12 : decode cX4_countPassings 12 = .ok (.invokevirtual 58, 3) := by decide +kernel
theorem dX4_countPassings_15 : decode cX4_countPassings 15 = .ok (.astore_n 3, 1) := by decide +kernel
theorem dX4_countPassings_16 : decode cX4_countPassings 16 = .ok (.aload_n 3, 1) := by decide +kernel
theorem dX4_countPassings_17 : decode cX4_countPassings 17 = .ok (.ifnull 22, 3) := by decide +kernel
theorem dX4_countPassings_20 : decode cX4_countPassings 20 = .ok (.iload_n 1, 1) := by decide +kernel
theorem dX4_countPassings_21 : decode cX4_countPassings 21 = .ok (.iload_n 2, 1) := by decide +kernel
theorem dX4_countPassings_22 : decode cX4_countPassings 22 = .ok (.ishr, 1) := by decide +kernel
theorem dX4_countPassings_23 : decode cX4_countPassings 23 = .ok (.iconst 1, 1) := by decide +kernel
theorem dX4_countPassings_24 : decode cX4_countPassings 24 = .ok (.iand, 1) := by decide +kernel
theorem dX4_countPassings_25 : decode cX4_countPassings 25 = .ok (.iconst 1, 1) := by decide +kernel
theorem dX4_countPassings_26 : decode cX4_countPassings 26 = .ok (.if_icmp .ne 13, 3) := by decide +kernel
theorem dX4_countPassings_29 : decode cX4_countPassings 29 = .ok (.aload_n 3, 1) := by decide +kernel
theorem dX4_countPassings_30 : decode cX4_countPassings 30 = .ok (.dup, 1) := by decide +kernel
theorem dX4_countPassings_31 : decode cX4_countPassings 31 = .ok (.getfield 178, 3) := by decide +kernel
theorem dX4_countPassings_34 : decode cX4_countPassings 34 = .ok (.iconst 1, 1) := by decide +kernel
theorem dX4_countPassings_35 : decode cX4_countPassings 35 = .ok (.iadd, 1) := by decide +kernel
theorem dX4_countPassings_36 : decode cX4_countPassings 36 = .ok (.putfield 178, 3) := by decide +kernel
theorem dX4_countPassings_39 : decode cX4_countPassings 39 = .ok (.iinc 2 1, 3) := by decide +kernel
theorem dX4_countPassings_42 : decode cX4_countPassings 42 = .ok (.goto (-40), 3) := by decide +kernel
theorem dX4_countPassings_45 : decode cX4_countPassings 45 = .ok (.return_, 1) := by decide +kernel
theorem dX4_loopsUnder_0 : decode cX4_loopsUnder 0 = .ok (.iconst 0, 1) := by decide +kernel
theorem dX4_loopsUnder_1 : decode cX4_loopsUnder 1 = .ok (.istore_n 2, 1) := by decide +kernel
theorem dX4_loopsUnder_2 : decode cX4_loopsUnder 2 = .ok (.iconst 0, 1) := by decide +kernel
theorem dX4_loopsUnder_3 : decode cX4_loopsUnder 3 = .ok (.istore_n 3, 1) := by decide +kernel
theorem dX4_loopsUnder_4 : decode cX4_loopsUnder 4 = .ok (.iload_n 3, 1) := by decide +kernel
theorem dX4_loopsUnder_5 : decode cX4_loopsUnder 5 = .ok (.aload_n 0, 1) := by decide +kernel
theorem dX4_loopsUnder_6 : decode cX4_loopsUnder 6 = .ok (.getfield 47, 3) := by decide +kernel
theorem dX4_loopsUnder_9 : decode cX4_loopsUnder 9 = .ok (.if_icmp .ge 36, 3) := by decide +kernel
theorem dX4_loopsUnder_12 : decode cX4_loopsUnder 12 = .ok (.aload_n 0, 1) := by decide +kernel
theorem dX4_loopsUnder_13 : decode cX4_loopsUnder 13 = .ok (.iload_n 3, 1) := by decide +kernel
theorem dX4_loopsUnder_14 : decode cX4_loopsUnder 14 = .ok (.invokevirtual 58, 3) := by decide +kernel
theorem dX4_loopsUnder_17 : decode cX4_loopsUnder 17 = .ok (.astore 4, 2) := by decide +kernel
theorem dX4_loopsUnder_19 : decode cX4_loopsUnder 19 = .ok (.aload 4, 2) := by decide +kernel
theorem dX4_loopsUnder_21 : decode cX4_loopsUnder 21 = .ok (.ifnull 18, 3) := by decide +kernel
theorem dX4_loopsUnder_24 : decode cX4_loopsUnder 24 = .ok (.aload 4, 2) := by decide +kernel
theorem dX4_loopsUnder_26 : decode cX4_loopsUnder 26 = .ok (.aload_n 1, 1) := by decide +kernel
theorem dX4_loopsUnder_27 : decode cX4_loopsUnder 27 = .ok (.invokevirtual 81, 3) := by decide +kernel
theorem dX4_loopsUnder_30 : decode cX4_loopsUnder 30 = .ok (.ifCond .eq 9, 3) := by decide +kernel
theorem dX4_loopsUnder_33 : decode cX4_loopsUnder 33 = .ok (.iload_n 2, 1) := by decide +kernel
theorem dX4_loopsUnder_34 : decode cX4_loopsUnder 34 = .ok (.iconst 1, 1) := by decide +kernel
theorem dX4_loopsUnder_35 : decode cX4_loopsUnder 35 = .ok (.iload_n 3, 1) := by decide +kernel
theorem dX4_loopsUnder_36 : decode cX4_loopsUnder 36 = .ok (.ishl, 1) := by decide +kernel
theorem dX4_loopsUnder_37 : decode cX4_loopsUnder 37 = .ok (.ior, 1) := by decide +kernel
theorem dX4_loopsUnder_38 : decode cX4_loopsUnder 38 = .ok (.istore_n 2, 1) := by decide +kernel
theorem dX4_loopsUnder_39 : decode cX4_loopsUnder 39 = .ok (.iinc 3 1, 3) := by decide +kernel
theorem dX4_loopsUnder_42 : decode cX4_loopsUnder 42 = .ok (.goto (-38), 3) := by decide +kernel
theorem dX4_loopsUnder_45 : decode cX4_loopsUnder 45 = .ok (.iload_n 2, 1) := by decide +kernel
theorem dX4_loopsUnder_46 : decode cX4_loopsUnder 46 = .ok (.ireturn, 1) := by decide +kernel
theorem dX4_strengthOf_0 : decode cX4_strengthOf 0 = .ok (.iconst 4, 1) := by decide +kernel
theorem dX4_strengthOf_1 : decode cX4_strengthOf 1 = .ok (.aload_n 0, 1) := by decide +kernel
theorem dX4_strengthOf_2 : decode cX4_strengthOf 2 = .ok (.aload_n 1, 1) := by decide +kernel
theorem dX4_strengthOf_3 : decode cX4_strengthOf 3 = .ok (.getfield 181, 3) := by decide +kernel
theorem dX4_strengthOf_6 : decode cX4_strengthOf 6 = .ok (.aload_n 1, 1) := by decide +kernel
theorem dX4_strengthOf_7 : decode cX4_strengthOf 7 = .ok (.invokevirtual 182, 3) := by decide +kernel
theorem dX4_strengthOf_10 : decode cX4_strengthOf 10 = .ok (.imul, 1) := by decide +kernel
theorem dX4_strengthOf_11 : decode cX4_strengthOf 11 = .ok (.aload_n 0, 1) := by decide +kernel
theorem dX4_strengthOf_12 : decode cX4_strengthOf 12 = .ok (.getfield 30, 3) := by decide +kernel
theorem dX4_strengthOf_15 : decode cX4_strengthOf 15 = .ok (.aload_n 0, 1) := by decide +kernel
theorem dX4_strengthOf_16 : decode cX4_strengthOf 16 = .ok (.iconst 1, 1) := by decide +kernel
theorem dX4_strengthOf_17 : decode cX4_strengthOf 17 = .ok (.aload_n 1, 1) := by decide +kernel
theorem dX4_strengthOf_18 : decode cX4_strengthOf 18 = .ok (.getfield 181, 3) := by decide +kernel
theorem dX4_strengthOf_21 : decode cX4_strengthOf 21 = .ok (.isub, 1) := by decide +kernel
theorem dX4_strengthOf_22 : decode cX4_strengthOf 22 = .ok (.aload_n 1, 1) := by decide +kernel
theorem dX4_strengthOf_23 : decode cX4_strengthOf 23 = .ok (.invokevirtual 182, 3) := by decide +kernel
theorem dX4_strengthOf_26 : decode cX4_strengthOf 26 = .ok (.imul, 1) := by decide +kernel
theorem dX4_strengthOf_27 : decode cX4_strengthOf 27 = .ok (.iadd, 1) := by decide +kernel
theorem dX4_strengthOf_28 : decode cX4_strengthOf 28 = .ok (.ireturn, 1) := by decide +kernel
theorem dX4_metalIn_0 : decode cX4_metalIn 0 = .ok (.iconst 0, 1) := by decide +kernel
theorem dX4_metalIn_1 : decode cX4_metalIn 1 = .ok (.istore_n 3, 1) := by decide +kernel
theorem dX4_metalIn_2 : decode cX4_metalIn 2 = .ok (.iconst 0, 1) := by decide +kernel
theorem dX4_metalIn_3 : decode cX4_metalIn 3 = .ok (.istore 4, 2) := by decide +kernel
theorem dX4_metalIn_5 : decode cX4_metalIn 5 = .ok (.iload 4, 2) := by decide +kernel
theorem dX4_metalIn_7 : decode cX4_metalIn 7 = .ok (.aload_n 2, 1) := by decide +kernel
theorem dX4_metalIn_8 : decode cX4_metalIn 8 = .ok (.getfield 186, 3) := by decide +kernel
theorem dX4_metalIn_11 : decode cX4_metalIn 11 = .ok (.if_icmp .ge 40, 3) := by decide +kernel
theorem dX4_metalIn_14 : decode cX4_metalIn 14 = .ok (.aload_n 0, 1) := by decide +kernel
theorem dX4_metalIn_15 : decode cX4_metalIn 15 = .ok (.aload_n 0, 1) := by decide +kernel
theorem dX4_metalIn_16 : decode cX4_metalIn 16 = .ok (.iload_n 1, 1) := by decide +kernel
theorem dX4_metalIn_17 : decode cX4_metalIn 17 = .ok (.aload_n 2, 1) := by decide +kernel
theorem dX4_metalIn_18 : decode cX4_metalIn 18 = .ok (.getfield 189, 3) := by decide +kernel
theorem dX4_metalIn_21 : decode cX4_metalIn 21 = .ok (.iload 4, 2) := by decide +kernel
theorem dX4_metalIn_23 : decode cX4_metalIn 23 = .ok (.iadd, 1) := by decide +kernel
theorem dX4_metalIn_24 : decode cX4_metalIn 24 = .ok (.invokevirtual 94, 3) := by decide +kernel
theorem dX4_metalIn_27 : decode cX4_metalIn 27 = .ok (.invokevirtual 50, 3) := by decide +kernel
theorem dX4_metalIn_30 : decode cX4_metalIn 30 = .ok (.astore 5, 2) := by decide +kernel
theorem dX4_metalIn_32 : decode cX4_metalIn 32 = .ok (.aload 5, 2) := by decide +kernel
theorem dX4_metalIn_34 : decode cX4_metalIn 34 = .ok (.ifnull 11, 3) := by decide +kernel
theorem dX4_metalIn_37 : decode cX4_metalIn 37 = .ok (.iload_n 3, 1) := by decide +kernel
theorem dX4_metalIn_38 : decode cX4_metalIn 38 = .ok (.aload 5, 2) := by decide +kernel
theorem dX4_metalIn_40 : decode cX4_metalIn 40 = .ok (.getfield 192, 3) := by decide +kernel
theorem dX4_metalIn_43 : decode cX4_metalIn 43 = .ok (.iadd, 1) := by decide +kernel
theorem dX4_metalIn_44 : decode cX4_metalIn 44 = .ok (.istore_n 3, 1) := by decide +kernel
theorem dX4_metalIn_45 : decode cX4_metalIn 45 = .ok (.iinc 4 1, 3) := by decide +kernel
theorem dX4_metalIn_48 : decode cX4_metalIn 48 = .ok (.goto (-43), 3) := by decide +kernel
theorem dX4_metalIn_51 : decode cX4_metalIn 51 = .ok (.iload_n 3, 1) := by decide +kernel
theorem dX4_metalIn_52 : decode cX4_metalIn 52 = .ok (.ireturn, 1) := by decide +kernel
theorem dX4_takerOf_0 : decode cX4_takerOf 0 = .ok (.iload_n 1, 1) := by decide +kernel
theorem dX4_takerOf_1 : decode cX4_takerOf 1 = .ok (.bipush 40, 2) := by decide +kernel
theorem dX4_takerOf_3 : decode cX4_takerOf 3 = .ok (.imul, 1) := by decide +kernel
theorem dX4_takerOf_4 : decode cX4_takerOf 4 = .ok (.iload_n 2, 1) := by decide +kernel
theorem dX4_takerOf_5 : decode cX4_takerOf 5 = .ok (.iadd, 1) := by decide +kernel
theorem dX4_takerOf_6 : decode cX4_takerOf 6 = .ok (.istore_n 3, 1) := by decide +kernel
theorem dX4_takerOf_7 : decode cX4_takerOf 7 = .ok (.iload_n 2, 1) := by decide +kernel
theorem dX4_takerOf_8 : decode cX4_takerOf 8 = .ok (.ifCond .lt 31, 3) := by decide +kernel
theorem dX4_takerOf_11 : decode cX4_takerOf 11 = .ok (.iload_n 2, 1) := by decide +kernel
theorem dX4_takerOf_12 : decode cX4_takerOf 12 = .ok (.bipush 40, 2) := by decide +kernel
theorem dX4_takerOf_14 : decode cX4_takerOf 14 = .ok (.if_icmp .ge 25, 3) := by decide +kernel
theorem dX4_takerOf_17 : decode cX4_takerOf 17 = .ok (.iload_n 3, 1) := by decide +kernel
theorem dX4_takerOf_18 : decode cX4_takerOf 18 = .ok (.ifCond .lt 21, 3) := by decide +kernel
theorem dX4_takerOf_21 : decode cX4_takerOf 21 = .ok (.iload_n 3, 1) := by decide +kernel
theorem dX4_takerOf_22 : decode cX4_takerOf 22 = .ok (.aload_n 0, 1) := by decide +kernel
theorem dX4_takerOf_23 : decode cX4_takerOf 23 = .ok (.getfield 23, 3) := by decide +kernel
theorem dX4_takerOf_26 : decode cX4_takerOf 26 = .ok (.arraylength, 1) := by decide +kernel
theorem dX4_takerOf_27 : decode cX4_takerOf 27 = .ok (.if_icmp .ge 12, 3) := by decide +kernel
theorem dX4_takerOf_30 : decode cX4_takerOf 30 = .ok (.aload_n 0, 1) := by decide +kernel
theorem dX4_takerOf_31 : decode cX4_takerOf 31 = .ok (.getfield 23, 3) := by decide +kernel
theorem dX4_takerOf_34 : decode cX4_takerOf 34 = .ok (.iload_n 3, 1) := by decide +kernel
theorem dX4_takerOf_35 : decode cX4_takerOf 35 = .ok (.iaload, 1) := by decide +kernel
theorem dX4_takerOf_36 : decode cX4_takerOf 36 = .ok (.goto 5, 3) := by decide +kernel
theorem dX4_takerOf_39 : decode cX4_takerOf 39 = .ok (.bipush (-6), 2) := by decide +kernel
theorem dX4_takerOf_41 : decode cX4_takerOf 41 = .ok (.ireturn, 1) := by decide +kernel
theorem dX4_take_0 : decode cX4_take 0 = .ok (.iload_n 1, 1) := by decide +kernel
theorem dX4_take_1 : decode cX4_take 1 = .ok (.bipush 40, 2) := by decide +kernel
theorem dX4_take_3 : decode cX4_take 3 = .ok (.imul, 1) := by decide +kernel
theorem dX4_take_4 : decode cX4_take 4 = .ok (.iload_n 2, 1) := by decide +kernel
theorem dX4_take_5 : decode cX4_take 5 = .ok (.iadd, 1) := by decide +kernel
theorem dX4_take_6 : decode cX4_take 6 = .ok (.istore 4, 2) := by decide +kernel
theorem dX4_take_8 : decode cX4_take 8 = .ok (.iload_n 2, 1) := by decide +kernel
theorem dX4_take_9 : decode cX4_take 9 = .ok (.ifCond .lt 32, 3) := by decide +kernel
theorem dX4_take_12 : decode cX4_take 12 = .ok (.iload_n 2, 1) := by decide +kernel
theorem dX4_take_13 : decode cX4_take 13 = .ok (.bipush 40, 2) := by decide +kernel
theorem dX4_take_15 : decode cX4_take 15 = .ok (.if_icmp .ge 26, 3) := by decide +kernel
theorem dX4_take_18 : decode cX4_take 18 = .ok (.iload 4, 2) := by decide +kernel
theorem dX4_take_20 : decode cX4_take 20 = .ok (.ifCond .lt 21, 3) := by decide +kernel
theorem dX4_take_23 : decode cX4_take 23 = .ok (.iload 4, 2) := by decide +kernel
theorem dX4_take_25 : decode cX4_take 25 = .ok (.aload_n 0, 1) := by decide +kernel
theorem dX4_take_26 : decode cX4_take 26 = .ok (.getfield 23, 3) := by decide +kernel
theorem dX4_take_29 : decode cX4_take 29 = .ok (.arraylength, 1) := by decide +kernel
theorem dX4_take_30 : decode cX4_take 30 = .ok (.if_icmp .ge 11, 3) := by decide +kernel
theorem dX4_take_33 : decode cX4_take 33 = .ok (.aload_n 0, 1) := by decide +kernel
theorem dX4_take_34 : decode cX4_take 34 = .ok (.getfield 23, 3) := by decide +kernel
theorem dX4_take_37 : decode cX4_take 37 = .ok (.iload 4, 2) := by decide +kernel
theorem dX4_take_39 : decode cX4_take 39 = .ok (.iload_n 3, 1) := by decide +kernel
theorem dX4_take_40 : decode cX4_take 40 = .ok (.iastore, 1) := by decide +kernel
theorem dX4_take_41 : decode cX4_take 41 = .ok (.return_, 1) := by decide +kernel
theorem dX4_carsGone_0 : decode cX4_carsGone 0 = .ok (.iconst 0, 1) := by decide +kernel
theorem dX4_carsGone_1 : decode cX4_carsGone 1 = .ok (.istore_n 1, 1) := by decide +kernel
theorem dX4_carsGone_2 : decode cX4_carsGone 2 = .ok (.iconst 0, 1) := by decide +kernel
theorem dX4_carsGone_3 : decode cX4_carsGone 3 = .ok (.istore_n 2, 1) := by decide +kernel
theorem dX4_carsGone_4 : decode cX4_carsGone 4 = .ok (.iload_n 2, 1) := by decide +kernel
theorem dX4_carsGone_5 : decode cX4_carsGone 5 = .ok (.aload_n 0, 1) := by decide +kernel
theorem dX4_carsGone_6 : decode cX4_carsGone 6 = .ok (.getfield 44, 3) := by decide +kernel
theorem dX4_carsGone_9 : decode cX4_carsGone 9 = .ok (.if_icmp .ge 29, 3) := by decide +kernel
theorem dX4_carsGone_12 : decode cX4_carsGone 12 = .ok (.aload_n 0, 1) := by decide +kernel
theorem dX4_carsGone_13 : decode cX4_carsGone 13 = .ok (.iload_n 2, 1) := by decide +kernel
theorem dX4_carsGone_14 : decode cX4_carsGone 14 = .ok (.invokevirtual 50, 3) := by decide +kernel
theorem dX4_carsGone_17 : decode cX4_carsGone 17 = .ok (.astore_n 3, 1) := by decide +kernel
theorem dX4_carsGone_18 : decode cX4_carsGone 18 = .ok (.aload_n 3, 1) := by decide +kernel
theorem dX4_carsGone_19 : decode cX4_carsGone 19 = .ok (.ifnull 13, 3) := by decide +kernel
theorem dX4_carsGone_22 : decode cX4_carsGone 22 = .ok (.aload_n 3, 1) := by decide +kernel
theorem dX4_carsGone_23 : decode cX4_carsGone 23 = .ok (.getfield 106, 3) := by decide +kernel
theorem dX4_carsGone_26 : decode cX4_carsGone 26 = .ok (.ifCond .eq 6, 3) := by decide +kernel
theorem dX4_carsGone_29 : decode cX4_carsGone 29 = .ok (.iinc 1 1, 3) := by decide +kernel
theorem dX4_carsGone_32 : decode cX4_carsGone 32 = .ok (.iinc 2 1, 3) := by decide +kernel
theorem dX4_carsGone_35 : decode cX4_carsGone 35 = .ok (.goto (-31), 3) := by decide +kernel
theorem dX4_carsGone_38 : decode cX4_carsGone 38 = .ok (.iload_n 1, 1) := by decide +kernel
theorem dX4_carsGone_39 : decode cX4_carsGone 39 = .ok (.ireturn, 1) := by decide +kernel
theorem dX4_sumOfLoops_0 : decode cX4_sumOfLoops 0 = .ok (.iconst 0, 1) := by decide +kernel
theorem dX4_sumOfLoops_1 : decode cX4_sumOfLoops 1 = .ok (.istore_n 2, 1) := by decide +kernel
theorem dX4_sumOfLoops_2 : decode cX4_sumOfLoops 2 = .ok (.iconst 0, 1) := by decide +kernel
theorem dX4_sumOfLoops_3 : decode cX4_sumOfLoops 3 = .ok (.istore_n 3, 1) := by decide +kernel
theorem dX4_sumOfLoops_4 : decode cX4_sumOfLoops 4 = .ok (.iload_n 3, 1) := by decide +kernel
theorem dX4_sumOfLoops_5 : decode cX4_sumOfLoops 5 = .ok (.aload_n 0, 1) := by decide +kernel
theorem dX4_sumOfLoops_6 : decode cX4_sumOfLoops 6 = .ok (.getfield 47, 3) := by decide +kernel
theorem dX4_sumOfLoops_9 : decode cX4_sumOfLoops 9 = .ok (.if_icmp .ge 34, 3) := by decide +kernel
theorem dX4_sumOfLoops_12 : decode cX4_sumOfLoops 12 = .ok (.aload_n 0, 1) := by decide +kernel
theorem dX4_sumOfLoops_13 : decode cX4_sumOfLoops 13 = .ok (.iload_n 3, 1) := by decide +kernel
theorem dX4_sumOfLoops_14 : decode cX4_sumOfLoops 14 = .ok (.invokevirtual 58, 3) := by decide +kernel
theorem dX4_sumOfLoops_17 : decode cX4_sumOfLoops 17 = .ok (.astore 4, 2) := by decide +kernel
theorem dX4_sumOfLoops_19 : decode cX4_sumOfLoops 19 = .ok (.iload_n 2, 1) := by decide +kernel
theorem dX4_sumOfLoops_20 : decode cX4_sumOfLoops 20 = .ok (.aload 4, 2) := by decide +kernel
theorem dX4_sumOfLoops_22 : decode cX4_sumOfLoops 22 = .ok (.ifnonnull 7, 3) := by decide +kernel
theorem dX4_sumOfLoops_25 : decode cX4_sumOfLoops 25 = .ok (.iconst 0, 1) := by decide +kernel
theorem dX4_sumOfLoops_26 : decode cX4_sumOfLoops 26 = .ok (.goto 9, 3) := by decide +kernel
theorem dX4_sumOfLoops_29 : decode cX4_sumOfLoops 29 = .ok (.aload 4, 2) := by decide +kernel
theorem dX4_sumOfLoops_31 : decode cX4_sumOfLoops 31 = .ok (.iload_n 1, 1) := by decide +kernel
theorem dX4_sumOfLoops_32 : decode cX4_sumOfLoops 32 = .ok (.invokevirtual 195, 3) := by decide +kernel
theorem dX4_sumOfLoops_35 : decode cX4_sumOfLoops 35 = .ok (.iadd, 1) := by decide +kernel
theorem dX4_sumOfLoops_36 : decode cX4_sumOfLoops 36 = .ok (.istore_n 2, 1) := by decide +kernel
theorem dX4_sumOfLoops_37 : decode cX4_sumOfLoops 37 = .ok (.iinc 3 1, 3) := by decide +kernel
theorem dX4_sumOfLoops_40 : decode cX4_sumOfLoops 40 = .ok (.goto (-36), 3) := by decide +kernel
theorem dX4_sumOfLoops_43 : decode cX4_sumOfLoops 43 = .ok (.iload_n 2, 1) := by decide +kernel
theorem dX4_sumOfLoops_44 : decode cX4_sumOfLoops 44 = .ok (.ireturn, 1) := by decide +kernel
theorem dX4_allAmounts_0 : decode cX4_allAmounts 0 = .ok (.iconst 0, 1) := by decide +kernel
theorem dX4_allAmounts_1 : decode cX4_allAmounts 1 = .ok (.istore_n 1, 1) := by decide +kernel
theorem dX4_allAmounts_2 : decode cX4_allAmounts 2 = .ok (.iconst 0, 1) := by decide +kernel
theorem dX4_allAmounts_3 : decode cX4_allAmounts 3 = .ok (.istore_n 2, 1) := by decide +kernel
theorem dX4_allAmounts_4 : decode cX4_allAmounts 4 = .ok (.iload_n 2, 1) := by decide +kernel
theorem dX4_allAmounts_5 : decode cX4_allAmounts 5 = .ok (.aload_n 0, 1) := by decide +kernel
theorem dX4_allAmounts_6 : decode cX4_allAmounts 6 = .ok (.getfield 47, 3) := by decide +kernel
theorem dX4_allAmounts_9 : decode cX4_allAmounts 9 = .ok (.if_icmp .ge 33, 3) := by decide +kernel
theorem dX4_allAmounts_12 : decode cX4_allAmounts 12 = .ok (.aload_n 0, 1) := by decide +kernel
theorem dX4_allAmounts_13 : decode cX4_allAmounts 13 = .ok (.iload_n 2, 1) := by decide +kernel
theorem dX4_allAmounts_14 : decode cX4_allAmounts 14 = .ok (.invokevirtual 58, 3) := by decide +kernel
theorem dX4_allAmounts_17 : decode cX4_allAmounts 17 = .ok (.astore_n 3, 1) := by decide +kernel
theorem dX4_allAmounts_18 : decode cX4_allAmounts 18 = .ok (.iload_n 1, 1) := by decide +kernel
theorem dX4_allAmounts_19 : decode cX4_allAmounts 19 = .ok (.aload_n 3, 1) := by decide +kernel
theorem dX4_allAmounts_20 : decode cX4_allAmounts 20 = .ok (.ifnonnull 7, 3) := by decide +kernel
theorem dX4_allAmounts_23 : decode cX4_allAmounts 23 = .ok (.iconst 0, 1) := by decide +kernel
theorem dX4_allAmounts_24 : decode cX4_allAmounts 24 = .ok (.goto 10, 3) := by decide +kernel
theorem dX4_allAmounts_27 : decode cX4_allAmounts 27 = .ok (.aload_n 3, 1) := by decide +kernel
theorem dX4_allAmounts_28 : decode cX4_allAmounts 28 = .ok (.invokevirtual 199, 3) := by decide +kernel
theorem dX4_allAmounts_31 : decode cX4_allAmounts 31 = .ok (.invokestatic 202, 3) := by decide +kernel
theorem dX4_allAmounts_34 : decode cX4_allAmounts 34 = .ok (.iadd, 1) := by decide +kernel
theorem dX4_allAmounts_35 : decode cX4_allAmounts 35 = .ok (.istore_n 1, 1) := by decide +kernel
theorem dX4_allAmounts_36 : decode cX4_allAmounts 36 = .ok (.iinc 2 1, 3) := by decide +kernel
theorem dX4_allAmounts_39 : decode cX4_allAmounts 39 = .ok (.goto (-35), 3) := by decide +kernel
theorem dX4_allAmounts_42 : decode cX4_allAmounts 42 = .ok (.iload_n 1, 1) := by decide +kernel
theorem dX4_allAmounts_43 : decode cX4_allAmounts 43 = .ok (.ireturn, 1) := by decide +kernel
theorem dX5_init_0 : decode cX5_init 0 = .ok (.aload_n 0, 1) := by decide +kernel
theorem dX5_init_1 : decode cX5_init 1 = .ok (.invokespecial 3, 3) := by decide +kernel
theorem dX5_init_4 : decode cX5_init 4 = .ok (.aload_n 0, 1) := by decide +kernel
theorem dX5_init_5 : decode cX5_init 5 = .ok (.iconst 2, 1) := by decide +kernel
theorem dX5_init_6 : decode cX5_init 6 = .ok (.anewarray 9, 3) := by decide +kernel
theorem dX5_init_9 : decode cX5_init 9 = .ok (.putfield 11, 3) := by decide +kernel
theorem dX5_init_12 : decode cX5_init 12 = .ok (.aload_n 0, 1) := by decide +kernel
theorem dX5_init_13 : decode cX5_init 13 = .ok (.iconst 2, 1) := by decide +kernel
theorem dX5_init_14 : decode cX5_init 14 = .ok (.newarray .boolean, 2) := by decide +kernel
theorem dX5_init_16 : decode cX5_init 16 = .ok (.putfield 17, 3) := by decide +kernel
theorem dX5_init_19 : decode cX5_init 19 = .ok (.iconst 0, 1) := by decide +kernel
theorem dX5_init_20 : decode cX5_init 20 = .ok (.istore_n 1, 1) := by decide +kernel
theorem dX5_init_21 : decode cX5_init 21 = .ok (.iload_n 1, 1) := by decide +kernel
theorem dX5_init_22 : decode cX5_init 22 = .ok (.aload_n 0, 1) := by decide +kernel
theorem dX5_init_23 : decode cX5_init 23 = .ok (.getfield 11, 3) := by decide +kernel
theorem dX5_init_26 : decode cX5_init 26 = .ok (.arraylength, 1) := by decide +kernel
theorem dX5_init_27 : decode cX5_init 27 = .ok (.if_icmp .ge 22, 3) := by decide +kernel
theorem dX5_init_30 : decode cX5_init 30 = .ok (.aload_n 0, 1) := by decide +kernel
theorem dX5_init_31 : decode cX5_init 31 = .ok (.getfield 11, 3) := by decide +kernel
theorem dX5_init_34 : decode cX5_init 34 = .ok (.iload_n 1, 1) := by decide +kernel
theorem dX5_init_35 : decode cX5_init 35 = .ok (.new 9, 3) := by decide +kernel
theorem dX5_init_38 : decode cX5_init 38 = .ok (.dup, 1) := by decide +kernel
theorem dX5_init_39 : decode cX5_init 39 = .ok (.invokespecial 21, 3) := by decide +kernel
theorem dX5_init_42 : decode cX5_init 42 = .ok (.aastore, 1) := by decide +kernel
theorem dX5_init_43 : decode cX5_init 43 = .ok (.iinc 1 1, 3) := by decide +kernel
theorem dX5_init_46 : decode cX5_init 46 = .ok (.goto (-25), 3) := by decide +kernel
theorem dX5_init_49 : decode cX5_init 49 = .ok (.return_, 1) := by decide +kernel
theorem dX5_keep_0 : decode cX5_keep 0 = .ok (.aload_n 0, 1) := by decide +kernel
theorem dX5_keep_1 : decode cX5_keep 1 = .ok (.iload_n 1, 1) := by decide +kernel
theorem dX5_keep_2 : decode cX5_keep 2 = .ok (.invokevirtual 22, 3) := by decide +kernel
theorem dX5_keep_5 : decode cX5_keep 5 = .ok (.ifCond .ne 6, 3) := by decide +kernel
theorem dX5_keep_8 : decode cX5_keep 8 = .ok (.bipush (-2), 2) := by decide +kernel
theorem dX5_keep_10 : decode cX5_keep 10 = .ok (.ireturn, 1) := by decide +kernel
theorem dX5_keep_11 : decode cX5_keep 11 = .ok (.aload_n 0, 1) := by decide +kernel
theorem dX5_keep_12 : decode cX5_keep 12 = .ok (.getfield 11, 3) := by decide +kernel
theorem dX5_keep_15 : decode cX5_keep 15 = .ok (.iload_n 1, 1) := by decide +kernel
theorem dX5_keep_16 : decode cX5_keep 16 = .ok (.aaload, 1) := by decide +kernel
theorem dX5_keep_17 : decode cX5_keep 17 = .ok (.astore_n 3, 1) := by decide +kernel
theorem dX5_keep_18 : decode cX5_keep 18 = .ok (.aload_n 3, 1) := by decide +kernel
theorem dX5_keep_19 : decode cX5_keep 19 = .ok (.ifnull 15, 3) := by decide +kernel
theorem dX5_keep_22 : decode cX5_keep 22 = .ok (.aload_n 3, 1) := by decide +kernel
theorem dX5_keep_23 : decode cX5_keep 23 = .ok (.aload_n 2, 1) := by decide +kernel
theorem dX5_keep_24 : decode cX5_keep 24 = .ok (.invokevirtual 26, 3) := by decide +kernel
theorem dX5_keep_27 : decode cX5_keep 27 = .ok (.aload_n 0, 1) := by decide +kernel
theorem dX5_keep_28 : decode cX5_keep 28 = .ok (.getfield 17, 3) := by decide +kernel
theorem dX5_keep_31 : decode cX5_keep 31 = .ok (.iload_n 1, 1) := by decide +kernel
theorem dX5_keep_32 : decode cX5_keep 32 = .ok (.iconst 1, 1) := by decide +kernel
theorem dX5_keep_33 : decode cX5_keep 33 = .ok (.bastore, 1) := by decide +kernel
theorem dX5_keep_34 : decode cX5_keep 34 = .ok (.aload_n 2, 1) := by decide +kernel
theorem dX5_keep_35 : decode cX5_keep 35 = .ok (.getfield 30, 3) := by decide +kernel
theorem dX5_keep_38 : decode cX5_keep 38 = .ok (.ireturn, 1) := by decide +kernel
theorem dX5_giveBack_0 : decode cX5_giveBack 0 = .ok (.aload_n 0, 1) := by decide +kernel
theorem dX5_giveBack_1 : decode cX5_giveBack 1 = .ok (.iload_n 1, 1) := by decide +kernel
theorem dX5_giveBack_2 : decode cX5_giveBack 2 = .ok (.invokevirtual 22, 3) := by decide +kernel
theorem dX5_giveBack_5 : decode cX5_giveBack 5 = .ok (.ifCond .ne 6, 3) := by decide +kernel
theorem dX5_giveBack_8 : decode cX5_giveBack 8 = .ok (.bipush (-2), 2) := by decide +kernel
theorem dX5_giveBack_10 : decode cX5_giveBack 10 = .ok (.ireturn, 1) := by decide +kernel
theorem dX5_giveBack_11 : decode cX5_giveBack 11 = .ok (.aload_n 0, 1) := by decide +kernel
theorem dX5_giveBack_12 : decode cX5_giveBack 12 = .ok (.getfield 11, 3) := by decide +kernel
theorem dX5_giveBack_15 : decode cX5_giveBack 15 = .ok (.iload_n 1, 1) := by decide +kernel
theorem dX5_giveBack_16 : decode cX5_giveBack 16 = .ok (.aaload, 1) := by decide +kernel
theorem dX5_giveBack_17 : decode cX5_giveBack 17 = .ok (.astore_n 3, 1) := by decide +kernel
theorem dX5_giveBack_18 : decode cX5_giveBack 18 = .ok (.aload_n 0, 1) := by decide +kernel
theorem dX5_giveBack_19 : decode cX5_giveBack 19 = .ok (.getfield 17, 3) := by decide +kernel
theorem dX5_giveBack_22 : decode cX5_giveBack 22 = .ok (.iload_n 1, 1) := by decide +kernel
theorem dX5_giveBack_23 : decode cX5_giveBack 23 = .ok (.baload, 1) := by decide +kernel
theorem dX5_giveBack_24 : decode cX5_giveBack 24 = .ok (.ifCond .eq 7, 3) := by decide +kernel
theorem dX5_giveBack_27 : decode cX5_giveBack 27 = .ok (.aload_n 3, 1) := by decide +kernel
theorem dX5_giveBack_28 : decode cX5_giveBack 28 = .ok (.ifnonnull 6, 3) := by decide +kernel
theorem dX5_giveBack_31 : decode cX5_giveBack 31 = .ok (.bipush (-5), 2) := by decide +kernel
theorem dX5_giveBack_33 : decode cX5_giveBack 33 = .ok (.ireturn, 1) := by decide +kernel
theorem dX5_giveBack_34 : decode cX5_giveBack 34 = .ok (.aload_n 2, 1) := by decide +kernel
theorem dX5_giveBack_35 : decode cX5_giveBack 35 = .ok (.aload_n 3, 1) := by decide +kernel
theorem dX5_giveBack_36 : decode cX5_giveBack 36 = .ok (.invokevirtual 26, 3) := by decide +kernel
theorem dX5_giveBack_39 : decode cX5_giveBack 39 = .ok (.aload_n 2, 1) := by decide +kernel
theorem dX5_giveBack_40 : decode cX5_giveBack 40 = .ok (.getfield 30, 3) := by decide +kernel
theorem dX5_giveBack_43 : decode cX5_giveBack 43 = .ok (.ireturn, 1) := by decide +kernel
theorem dX5_isSlot_0 : decode cX5_isSlot 0 = .ok (.iload_n 1, 1) := by decide +kernel
theorem dX5_isSlot_1 : decode cX5_isSlot 1 = .ok (.ifCond .lt 25, 3) := by decide +kernel
theorem dX5_isSlot_4 : decode cX5_isSlot 4 = .ok (.iload_n 1, 1) := by decide +kernel
theorem dX5_isSlot_5 : decode cX5_isSlot 5 = .ok (.aload_n 0, 1) := by decide +kernel
theorem dX5_isSlot_6 : decode cX5_isSlot 6 = .ok (.getfield 11, 3) := by decide +kernel
theorem dX5_isSlot_9 : decode cX5_isSlot 9 = .ok (.arraylength, 1) := by decide +kernel
theorem dX5_isSlot_10 : decode cX5_isSlot 10 = .ok (.if_icmp .ge 16, 3) := by decide +kernel
theorem dX5_isSlot_13 : decode cX5_isSlot 13 = .ok (.iload_n 1, 1) := by decide +kernel
theorem dX5_isSlot_14 : decode cX5_isSlot 14 = .ok (.aload_n 0, 1) := by decide +kernel
theorem dX5_isSlot_15 : decode cX5_isSlot 15 = .ok (.getfield 17, 3) := by decide +kernel
theorem dX5_isSlot_18 : decode cX5_isSlot 18 = .ok (.arraylength, 1) := by decide +kernel
theorem dX5_isSlot_19 : decode cX5_isSlot 19 = .ok (.if_icmp .ge 7, 3) := by decide +kernel
theorem dX5_isSlot_22 : decode cX5_isSlot 22 = .ok (.iconst 1, 1) := by decide +kernel
theorem dX5_isSlot_23 : decode cX5_isSlot 23 = .ok (.goto 4, 3) := by decide +kernel
theorem dX5_isSlot_26 : decode cX5_isSlot 26 = .ok (.iconst 0, 1) := by decide +kernel
theorem dX5_isSlot_27 : decode cX5_isSlot 27 = .ok (.ireturn, 1) := by decide +kernel
theorem dX6_init_0 : decode cX6_init 0 = .ok (.aload_n 0, 1) := by decide +kernel
theorem dX6_init_1 : decode cX6_init 1 = .ok (.invokespecial 3, 3) := by decide +kernel
theorem dX6_init_4 : decode cX6_init 4 = .ok (.aload_n 0, 1) := by decide +kernel
theorem dX6_init_5 : decode cX6_init 5 = .ok (.new 9, 3) := by decide +kernel
theorem dX6_init_8 : decode cX6_init 8 = .ok (.dup, 1) := by decide +kernel
theorem dX6_init_9 : decode cX6_init 9 = .ok (.invokespecial 11, 3) := by decide +kernel
theorem dX6_init_12 : decode cX6_init 12 = .ok (.putfield 12, 3) := by decide +kernel
theorem dX6_init_15 : decode cX6_init 15 = .ok (.aload_n 0, 1) := by decide +kernel
theorem dX6_init_16 : decode cX6_init 16 = .ok (.new 9, 3) := by decide +kernel
theorem dX6_init_19 : decode cX6_init 19 = .ok (.dup, 1) := by decide +kernel
theorem dX6_init_20 : decode cX6_init 20 = .ok (.invokespecial 11, 3) := by decide +kernel
theorem dX6_init_23 : decode cX6_init 23 = .ok (.putfield 16, 3) := by decide +kernel
theorem dX6_init_26 : decode cX6_init 26 = .ok (.aload_n 0, 1) := by decide +kernel
theorem dX6_init_27 : decode cX6_init 27 = .ok (.new 19, 3) := by decide +kernel
theorem dX6_init_30 : decode cX6_init 30 = .ok (.dup, 1) := by decide +kernel
theorem dX6_init_31 : decode cX6_init 31 = .ok (.invokespecial 21, 3) := by decide +kernel
theorem dX6_init_34 : decode cX6_init 34 = .ok (.putfield 22, 3) := by decide +kernel
theorem dX6_init_37 : decode cX6_init 37 = .ok (.aload_n 0, 1) := by decide +kernel
theorem dX6_init_38 : decode cX6_init 38 = .ok (.bipush 100, 2) := by decide +kernel
theorem dX6_init_40 : decode cX6_init 40 = .ok (.newarray .int, 2) := by decide +kernel
theorem dX6_init_42 : decode cX6_init 42 = .ok (.putfield 26, 3) := by decide +kernel
theorem dX6_init_45 : decode cX6_init 45 = .ok (.aload_n 0, 1) := by decide +kernel
theorem dX6_init_46 : decode cX6_init 46 = .ok (.new 30, 3) := by decide +kernel
theorem dX6_init_49 : decode cX6_init 49 = .ok (.dup, 1) := by decide +kernel
theorem dX6_init_50 : decode cX6_init 50 = .ok (.invokespecial 32, 3) := by decide +kernel
theorem dX6_init_53 : decode cX6_init 53 = .ok (.putfield 33, 3) := by decide +kernel
theorem dX6_init_56 : decode cX6_init 56 = .ok (.aload_n 0, 1) := by decide +kernel
theorem dX6_init_57 : decode cX6_init 57 = .ok (.new 37, 3) := by decide +kernel
theorem dX6_init_60 : decode cX6_init 60 = .ok (.dup, 1) := by decide +kernel
theorem dX6_init_61 : decode cX6_init 61 = .ok (.invokespecial 39, 3) := by decide +kernel
theorem dX6_init_64 : decode cX6_init 64 = .ok (.putfield 40, 3) := by decide +kernel
theorem dX6_init_67 : decode cX6_init 67 = .ok (.aload_n 0, 1) := by decide +kernel
theorem dX6_init_68 : decode cX6_init 68 = .ok (.new 44, 3) := by decide +kernel
theorem dX6_init_71 : decode cX6_init 71 = .ok (.dup, 1) := by decide +kernel
theorem dX6_init_72 : decode cX6_init 72 = .ok (.invokespecial 46, 3) := by decide +kernel
theorem dX6_init_75 : decode cX6_init 75 = .ok (.putfield 47, 3) := by decide +kernel
theorem dX6_init_78 : decode cX6_init 78 = .ok (.return_, 1) := by decide +kernel
theorem dX6_set_0 : decode cX6_set 0 = .ok (.aload_n 0, 1) := by decide +kernel
theorem dX6_set_1 : decode cX6_set 1 = .ok (.getfield 40, 3) := by decide +kernel
theorem dX6_set_4 : decode cX6_set 4 = .ok (.aload_n 0, 1) := by decide +kernel
theorem dX6_set_5 : decode cX6_set 5 = .ok (.getfield 12, 3) := by decide +kernel
theorem dX6_set_8 : decode cX6_set 8 = .ok (.invokevirtual 51, 3) := by decide +kernel
theorem dX6_set_11 : decode cX6_set 11 = .ok (.aload_n 0, 1) := by decide +kernel
theorem dX6_set_12 : decode cX6_set 12 = .ok (.aload_n 0, 1) := by decide +kernel
theorem dX6_set_13 : decode cX6_set 13 = .ok (.getfield 12, 3) := by decide +kernel
theorem dX6_set_16 : decode cX6_set 16 = .ok (.iload_n 1, 1) := by decide +kernel
theorem dX6_set_17 : decode cX6_set 17 = .ok (.iload_n 2, 1) := by decide +kernel
theorem dX6_set_18 : decode cX6_set 18 = .ok (.invokevirtual 55, 3) := by decide +kernel
theorem dX6_set_21 : decode cX6_set 21 = .ok (.invokevirtual 59, 3) := by decide +kernel
theorem dX6_set_24 : decode cX6_set 24 = .ok (.ireturn, 1) := by decide +kernel
theorem dX6_loop_0 : decode cX6_loop 0 = .ok (.aload_n 0, 1) := by decide +kernel
theorem dX6_loop_1 : decode cX6_loop 1 = .ok (.getfield 40, 3) := by decide +kernel
theorem dX6_loop_4 : decode cX6_loop 4 = .ok (.aload_n 0, 1) := by decide +kernel
theorem dX6_loop_5 : decode cX6_loop 5 = .ok (.getfield 12, 3) := by decide +kernel
theorem dX6_loop_8 : decode cX6_loop 8 = .ok (.invokevirtual 51, 3) := by decide +kernel
theorem dX6_loop_11 : decode cX6_loop 11 = .ok (.aload_n 0, 1) := by decide +kernel
theorem dX6_loop_12 : decode cX6_loop 12 = .ok (.aload_n 0, 1) := by decide +kernel
theorem dX6_loop_13 : decode cX6_loop 13 = .ok (.getfield 12, 3) := by decide +kernel
theorem dX6_loop_16 : decode cX6_loop 16 = .ok (.iload_n 1, 1) := by decide +kernel
theorem dX6_loop_17 : decode cX6_loop 17 = .ok (.iload_n 2, 1) := by decide +kernel
theorem dX6_loop_18 : decode cX6_loop 18 = .ok (.iload_n 3, 1) := by decide +kernel
theorem dX6_loop_19 : decode cX6_loop 19 = .ok (.iload 4, 2) := by decide +kernel
theorem dX6_loop_21 : decode cX6_loop 21 = .ok (.iload 5, 2) := by decide +kernel
theorem dX6_loop_23 : decode cX6_loop 23 = .ok (.invokevirtual 63, 3) := by decide +kernel
theorem dX6_loop_26 : decode cX6_loop 26 = .ok (.invokevirtual 59, 3) := by decide +kernel
theorem dX6_loop_29 : decode cX6_loop 29 = .ok (.ireturn, 1) := by decide +kernel
theorem dX6_bounds_0 : decode cX6_bounds 0 = .ok (.aload_n 0, 1) := by decide +kernel
theorem dX6_bounds_1 : decode cX6_bounds 1 = .ok (.getfield 40, 3) := by decide +kernel
theorem dX6_bounds_4 : decode cX6_bounds 4 = .ok (.aload_n 0, 1) := by decide +kernel
theorem dX6_bounds_5 : decode cX6_bounds 5 = .ok (.getfield 12, 3) := by decide +kernel
theorem dX6_bounds_8 : decode cX6_bounds 8 = .ok (.invokevirtual 51, 3) := by decide +kernel
theorem dX6_bounds_11 : decode cX6_bounds 11 = .ok (.aload_n 0, 1) := by decide +kernel
theorem dX6_bounds_12 : decode cX6_bounds 12 = .ok (.aload_n 0, 1) := by decide +kernel
theorem dX6_bounds_13 : decode cX6_bounds 13 = .ok (.getfield 12, 3) := by decide +kernel
theorem dX6_bounds_16 : decode cX6_bounds 16 = .ok (.iload_n 1, 1) := by decide +kernel
theorem dX6_bounds_17 : decode cX6_bounds 17 = .ok (.iload_n 2, 1) := by decide +kernel
theorem dX6_bounds_18 : decode cX6_bounds 18 = .ok (.iload_n 3, 1) := by decide +kernel
theorem dX6_bounds_19 : decode cX6_bounds 19 = .ok (.invokevirtual 67, 3) := by decide +kernel
theorem dX6_bounds_22 : decode cX6_bounds 22 = .ok (.invokevirtual 59, 3) := by decide +kernel
theorem dX6_bounds_25 : decode cX6_bounds 25 = .ok (.ireturn, 1) := by decide +kernel
theorem dX6_come_0 : decode cX6_come 0 = .ok (.aload_n 0, 1) := by decide +kernel
theorem dX6_come_1 : decode cX6_come 1 = .ok (.getfield 40, 3) := by decide +kernel
theorem dX6_come_4 : decode cX6_come 4 = .ok (.aload_n 0, 1) := by decide +kernel
theorem dX6_come_5 : decode cX6_come 5 = .ok (.getfield 12, 3) := by decide +kernel
theorem dX6_come_8 : decode cX6_come 8 = .ok (.invokevirtual 51, 3) := by decide +kernel
theorem dX6_come_11 : decode cX6_come 11 = .ok (.aload_n 0, 1) := by decide +kernel
theorem dX6_come_12 : decode cX6_come 12 = .ok (.aload_n 0, 1) := by decide +kernel
theorem dX6_come_13 : decode cX6_come 13 = .ok (.getfield 12, 3) := by decide +kernel
theorem dX6_come_16 : decode cX6_come 16 = .ok (.iload_n 1, 1) := by decide +kernel
theorem dX6_come_17 : decode cX6_come 17 = .ok (.iload_n 2, 1) := by decide +kernel
theorem dX6_come_18 : decode cX6_come 18 = .ok (.iload_n 3, 1) := by decide +kernel
theorem dX6_come_19 : decode cX6_come 19 = .ok (.iload 4, 2) := by decide +kernel
theorem dX6_come_21 : decode cX6_come 21 = .ok (.invokevirtual 71, 3) := by decide +kernel
theorem dX6_come_24 : decode cX6_come 24 = .ok (.invokevirtual 59, 3) := by decide +kernel
theorem dX6_come_27 : decode cX6_come 27 = .ok (.ireturn, 1) := by decide +kernel
theorem dX6_want_0 : decode cX6_want 0 = .ok (.aload_n 0, 1) := by decide +kernel
theorem dX6_want_1 : decode cX6_want 1 = .ok (.getfield 40, 3) := by decide +kernel
theorem dX6_want_4 : decode cX6_want 4 = .ok (.aload_n 0, 1) := by decide +kernel
theorem dX6_want_5 : decode cX6_want 5 = .ok (.getfield 12, 3) := by decide +kernel
theorem dX6_want_8 : decode cX6_want 8 = .ok (.invokevirtual 51, 3) := by decide +kernel
theorem dX6_want_11 : decode cX6_want 11 = .ok (.aload_n 0, 1) := by decide +kernel
theorem dX6_want_12 : decode cX6_want 12 = .ok (.aload_n 0, 1) := by decide +kernel
theorem dX6_want_13 : decode cX6_want 13 = .ok (.getfield 12, 3) := by decide +kernel
theorem dX6_want_16 : decode cX6_want 16 = .ok (.iload_n 1, 1) := by decide +kernel
theorem dX6_want_17 : decode cX6_want 17 = .ok (.invokevirtual 75, 3) := by decide +kernel
theorem dX6_want_20 : decode cX6_want 20 = .ok (.invokevirtual 59, 3) := by decide +kernel
theorem dX6_want_23 : decode cX6_want 23 = .ok (.ireturn, 1) := by decide +kernel
theorem dX6_speed_0 : decode cX6_speed 0 = .ok (.aload_n 0, 1) := by decide +kernel
theorem dX6_speed_1 : decode cX6_speed 1 = .ok (.getfield 40, 3) := by decide +kernel
theorem dX6_speed_4 : decode cX6_speed 4 = .ok (.aload_n 0, 1) := by decide +kernel
theorem dX6_speed_5 : decode cX6_speed 5 = .ok (.getfield 12, 3) := by decide +kernel
theorem dX6_speed_8 : decode cX6_speed 8 = .ok (.invokevirtual 51, 3) := by decide +kernel
theorem dX6_speed_11 : decode cX6_speed 11 = .ok (.aload_n 0, 1) := by decide +kernel
theorem dX6_speed_12 : decode cX6_speed 12 = .ok (.aload_n 0, 1) := by decide +kernel
theorem dX6_speed_13 : decode cX6_speed 13 = .ok (.getfield 12, 3) := by decide +kernel
theorem dX6_speed_16 : decode cX6_speed 16 = .ok (.iload_n 1, 1) := by decide +kernel
theorem dX6_speed_17 : decode cX6_speed 17 = .ok (.iload_n 2, 1) := by decide +kernel
theorem dX6_speed_18 : decode cX6_speed 18 = .ok (.invokevirtual 78, 3) := by decide +kernel
theorem dX6_speed_21 : decode cX6_speed 21 = .ok (.invokevirtual 59, 3) := by decide +kernel
theorem dX6_speed_24 : decode cX6_speed 24 = .ok (.ireturn, 1) := by decide +kernel
theorem dX6_ticks_0 : decode cX6_ticks 0 = .ok (.aload_n 0, 1) := by decide +kernel
theorem dX6_ticks_1 : decode cX6_ticks 1 = .ok (.getfield 40, 3) := by decide +kernel
theorem dX6_ticks_4 : decode cX6_ticks 4 = .ok (.aload_n 0, 1) := by decide +kernel
theorem dX6_ticks_5 : decode cX6_ticks 5 = .ok (.getfield 12, 3) := by decide +kernel
theorem dX6_ticks_8 : decode cX6_ticks 8 = .ok (.invokevirtual 51, 3) := by decide +kernel
theorem dX6_ticks_11 : decode cX6_ticks 11 = .ok (.aload_n 0, 1) := by decide +kernel
theorem dX6_ticks_12 : decode cX6_ticks 12 = .ok (.aload_n 0, 1) := by decide +kernel
theorem dX6_ticks_13 : decode cX6_ticks 13 = .ok (.getfield 12, 3) := by decide +kernel
theorem dX6_ticks_16 : decode cX6_ticks 16 = .ok (.iload_n 1, 1) := by decide +kernel
theorem dX6_ticks_17 : decode cX6_ticks 17 = .ok (.invokevirtual 81, 3) := by decide +kernel
theorem dX6_ticks_20 : decode cX6_ticks 20 = .ok (.invokevirtual 59, 3) := by decide +kernel
theorem dX6_ticks_23 : decode cX6_ticks 23 = .ok (.ireturn, 1) := by decide +kernel
theorem dX6_recorded_0 : decode cX6_recorded 0 = .ok (.iload_n 1, 1) := by decide +kernel
theorem dX6_recorded_1 : decode cX6_recorded 1 = .ok (.ifCond .lt 10, 3) := by decide +kernel
theorem dX6_recorded_4 : decode cX6_recorded 4 = .ok (.aload_n 0, 1) := by decide +kernel
theorem dX6_recorded_5 : decode cX6_recorded 5 = .ok (.getfield 40, 3) := by decide +kernel
theorem dX6_recorded_8 : decode cX6_recorded 8 = .ok (.invokevirtual 84, 3) := by decide +kernel
theorem dX6_recorded_11 : decode cX6_recorded 11 = .ok (.iload_n 1, 1) := by decide +kernel
theorem dX6_recorded_12 : decode cX6_recorded 12 = .ok (.ireturn, 1) := by decide +kernel
theorem dX6_ofCar_0 : decode cX6_ofCar 0 = .ok (.aload_n 0, 1) := by decide +kernel
theorem dX6_ofCar_1 : decode cX6_ofCar 1 = .ok (.getfield 12, 3) := by decide +kernel
theorem dX6_ofCar_4 : decode cX6_ofCar 4 = .ok (.iload_n 1, 1) := by decide +kernel
theorem dX6_ofCar_5 : decode cX6_ofCar 5 = .ok (.invokevirtual 87, 3) := by decide +kernel
theorem dX6_ofCar_8 : decode cX6_ofCar 8 = .ok (.astore_n 3, 1) := by decide +kernel
theorem dX6_ofCar_9 : decode cX6_ofCar 9 = .ok (.aload_n 3, 1) := by decide +kernel
theorem dX6_ofCar_10 : decode cX6_ofCar 10 = .ok (.ifnonnull 5, 3) := by decide +kernel
theorem dX6_ofCar_13 : decode cX6_ofCar 13 = .ok (.iconst (-1), 1) := by decide +kernel
theorem dX6_ofCar_14 : decode cX6_ofCar 14 = .ok (.ireturn, 1) := by decide +kernel
theorem dX6_ofCar_15 : decode cX6_ofCar 15 = .ok (.iload_n 2, 1) := by decide +kernel
theorem dX6_ofCar_16 : decode cX6_ofCar 16 = .ok (.bipush 9, 2) := by decide +kernel
theorem dX6_ofCar_18 : decode cX6_ofCar 18 = .ok (.if_icmp .ne 14, 3) := by decide +kernel
theorem dX6_ofCar_21 : decode cX6_ofCar 21 = .ok (.aload_n 0, 1) := by decide +kernel
theorem dX6_ofCar_22 : decode cX6_ofCar 22 = .ok (.getfield 12, 3) := by decide +kernel
theorem dX6_ofCar_25 : decode cX6_ofCar 25 = .ok (.aload_n 3, 1) := by decide +kernel
theorem dX6_ofCar_26 : decode cX6_ofCar 26 = .ok (.invokevirtual 91, 3) := by decide +kernel
theorem dX6_ofCar_29 : decode cX6_ofCar 29 = .ok (.goto 8, 3) := by decide +kernel
theorem dX6_ofCar_32 : decode cX6_ofCar 32 = .ok (.aload_n 3, 1) := by decide +kernel
theorem dX6_ofCar_33 : decode cX6_ofCar 33 = .ok (.iload_n 2, 1) := by decide +kernel
theorem dX6_ofCar_34 : decode cX6_ofCar 34 = .ok (.invokevirtual 95, 3) := by decide +kernel
theorem dX6_ofCar_37 : decode cX6_ofCar 37 = .ok (.ireturn, 1) := by decide +kernel
theorem dX6_ofLoop_0 : decode cX6_ofLoop 0 = .ok (.aload_n 0, 1) := by decide +kernel
theorem dX6_ofLoop_1 : decode cX6_ofLoop 1 = .ok (.getfield 12, 3) := by decide +kernel
theorem dX6_ofLoop_4 : decode cX6_ofLoop 4 = .ok (.iload_n 1, 1) := by decide +kernel
theorem dX6_ofLoop_5 : decode cX6_ofLoop 5 = .ok (.invokevirtual 100, 3) := by decide +kernel
theorem dX6_ofLoop_8 : decode cX6_ofLoop 8 = .ok (.astore_n 3, 1) := by decide +kernel
theorem dX6_ofLoop_9 : decode cX6_ofLoop 9 = .ok (.aload_n 3, 1) := by decide +kernel
theorem dX6_ofLoop_10 : decode cX6_ofLoop 10 = .ok (.ifnonnull 5, 3) := by decide +kernel
theorem dX6_ofLoop_13 : decode cX6_ofLoop 13 = .ok (.iconst (-1), 1) := by decide +kernel
theorem dX6_ofLoop_14 : decode cX6_ofLoop 14 = .ok (.ireturn, 1) := by decide +kernel
theorem dX6_ofLoop_15 : decode cX6_ofLoop 15 = .ok (.iload_n 2, 1) := by decide +kernel
theorem dX6_ofLoop_16 : decode cX6_ofLoop 16 = .ok (.bipush 8, 2) := by decide +kernel
theorem dX6_ofLoop_18 : decode cX6_ofLoop 18 = .ok (.if_icmp .ne 14, 3) := by decide +kernel
theorem dX6_ofLoop_21 : decode cX6_ofLoop 21 = .ok (.aload_n 0, 1) := by decide +kernel
theorem dX6_ofLoop_22 : decode cX6_ofLoop 22 = .ok (.getfield 12, 3) := by decide +kernel
theorem dX6_ofLoop_25 : decode cX6_ofLoop 25 = .ok (.aload_n 3, 1) := by decide +kernel
theorem dX6_ofLoop_26 : decode cX6_ofLoop 26 = .ok (.invokevirtual 104, 3) := by decide +kernel
theorem dX6_ofLoop_29 : decode cX6_ofLoop 29 = .ok (.goto 8, 3) := by decide +kernel
theorem dX6_ofLoop_32 : decode cX6_ofLoop 32 = .ok (.aload_n 3, 1) := by decide +kernel
theorem dX6_ofLoop_33 : decode cX6_ofLoop 33 = .ok (.iload_n 2, 1) := by decide +kernel
theorem dX6_ofLoop_34 : decode cX6_ofLoop 34 = .ok (.invokevirtual 108, 3) := by decide +kernel
theorem dX6_ofLoop_37 : decode cX6_ofLoop 37 = .ok (.ireturn, 1) := by decide +kernel
theorem dX6_error_0 : decode cX6_error 0 = .ok (.aload_n 0, 1) := by decide +kernel
theorem dX6_error_1 : decode cX6_error 1 = .ok (.getfield 12, 3) := by decide +kernel
theorem dX6_error_4 : decode cX6_error 4 = .ok (.iload_n 1, 1) := by decide +kernel
theorem dX6_error_5 : decode cX6_error 5 = .ok (.invokevirtual 100, 3) := by decide +kernel
theorem dX6_error_8 : decode cX6_error 8 = .ok (.astore_n 2, 1) := by decide +kernel
theorem dX6_error_9 : decode cX6_error 9 = .ok (.aload_n 2, 1) := by decide +kernel
theorem dX6_error_10 : decode cX6_error 10 = .ok (.ifnonnull 7, 3) := by decide +kernel
theorem dX6_error_13 : decode cX6_error 13 = .ok (.iconst (-1), 1) := by decide +kernel
theorem dX6_error_14 : decode cX6_error 14 = .ok (.goto 11, 3) := by decide +kernel
theorem dX6_error_17 : decode cX6_error 17 = .ok (.sipush 1000, 3) := by decide +kernel
theorem dX6_error_20 : decode cX6_error 20 = .ok (.aload_n 2, 1) := by decide +kernel
theorem dX6_error_21 : decode cX6_error 21 = .ok (.invokevirtual 109, 3) := by decide +kernel
theorem dX6_error_24 : decode cX6_error 24 = .ok (.iadd, 1) := by decide +kernel
theorem dX6_error_25 : decode cX6_error 25 = .ok (.ireturn, 1) := by decide +kernel
theorem dX6_carAt_0 : decode cX6_carAt 0 = .ok (.iload_n 1, 1) := by decide +kernel
theorem dX6_carAt_1 : decode cX6_carAt 1 = .ok (.iconst 0, 1) := by decide +kernel
theorem dX6_carAt_2 : decode cX6_carAt 2 = .ok (.iconst 1, 1) := by decide +kernel
theorem dX6_carAt_3 : decode cX6_carAt 3 = .ok (.invokestatic 113, 3) := by decide +kernel
theorem dX6_carAt_6 : decode cX6_carAt 6 = .ok (.ifCond .eq 13, 3) := by decide +kernel
theorem dX6_carAt_9 : decode cX6_carAt 9 = .ok (.iload_n 2, 1) := by decide +kernel
theorem dX6_carAt_10 : decode cX6_carAt 10 = .ok (.iconst 0, 1) := by decide +kernel
theorem dX6_carAt_11 : decode cX6_carAt 11 = .ok (.bipush 39, 2) := by decide +kernel
theorem dX6_carAt_13 : decode cX6_carAt 13 = .ok (.invokestatic 113, 3) := by decide +kernel
theorem dX6_carAt_16 : decode cX6_carAt 16 = .ok (.ifCond .ne 5, 3) := by decide +kernel
theorem dX6_carAt_19 : decode cX6_carAt 19 = .ok (.iconst (-1), 1) := by decide +kernel
theorem dX6_carAt_20 : decode cX6_carAt 20 = .ok (.ireturn, 1) := by decide +kernel
theorem dX6_carAt_21 : decode cX6_carAt 21 = .ok (.aload_n 0, 1) := by decide +kernel
theorem dX6_carAt_22 : decode cX6_carAt 22 = .ok (.getfield 12, 3) := by decide +kernel
theorem dX6_carAt_25 : decode cX6_carAt 25 = .ok (.iload_n 1, 1) := by decide +kernel
theorem dX6_carAt_26 : decode cX6_carAt 26 = .ok (.iload_n 2, 1) := by decide +kernel
theorem dX6_carAt_27 : decode cX6_carAt 27 = .ok (.invokevirtual 117, 3) := by decide +kernel
theorem dX6_carAt_30 : decode cX6_carAt 30 = .ok (.ireturn, 1) := by decide +kernel
theorem dX6_count_0 : decode cX6_count 0 = .ok (.iload_n 1, 1) := by decide +kernel
theorem dX6_count_1 : decode cX6_count 1 = .ok (.tableswitch 171 0 11 #[63, 71, 79, 87, 103, 111, 119, 129, 139, 147, 155, 163], 63) := by decide +kernel
theorem dX6_count_64 : decode cX6_count 64 = .ok (.aload_n 0, 1) := by decide +kernel
theorem dX6_count_65 : decode cX6_count 65 = .ok (.getfield 12, 3) := by decide +kernel
theorem dX6_count_68 : decode cX6_count 68 = .ok (.getfield 120, 3) := by decide +kernel
theorem dX6_count_71 : decode cX6_count 71 = .ok (.ireturn, 1) := by decide +kernel
theorem dX6_count_72 : decode cX6_count 72 = .ok (.aload_n 0, 1) := by decide +kernel
theorem dX6_count_73 : decode cX6_count 73 = .ok (.getfield 12, 3) := by decide +kernel
theorem dX6_count_76 : decode cX6_count 76 = .ok (.getfield 124, 3) := by decide +kernel
theorem dX6_count_79 : decode cX6_count 79 = .ok (.ireturn, 1) := by decide +kernel
theorem dX6_count_80 : decode cX6_count 80 = .ok (.aload_n 0, 1) := by decide +kernel
theorem dX6_count_81 : decode cX6_count 81 = .ok (.getfield 12, 3) := by decide +kernel
theorem dX6_count_84 : decode cX6_count 84 = .ok (.getfield 127, 3) := by decide +kernel
theorem dX6_count_87 : decode cX6_count 87 = .ok (.ireturn, 1) := by decide +kernel
theorem dX6_count_88 : decode cX6_count 88 = .ok (.aload_n 0, 1) := by decide +kernel
theorem dX6_count_89 : decode cX6_count 89 = .ok (.getfield 12, 3) := by decide +kernel
theorem dX6_count_92 : decode cX6_count 92 = .ok (.getfield 127, 3) := by decide +kernel
theorem dX6_count_95 : decode cX6_count 95 = .ok (.aload_n 0, 1) := by decide +kernel
theorem dX6_count_96 : decode cX6_count 96 = .ok (.getfield 12, 3) := by decide +kernel
theorem dX6_count_99 : decode cX6_count 99 = .ok (.invokevirtual 130, 3) := by decide +kernel
theorem dX6_count_102 : decode cX6_count 102 = .ok (.isub, 1) := by decide +kernel
theorem dX6_count_103 : decode cX6_count 103 = .ok (.ireturn, 1) := by decide +kernel
theorem dX6_count_104 : decode cX6_count 104 = .ok (.aload_n 0, 1) := by decide +kernel
theorem dX6_count_105 : decode cX6_count 105 = .ok (.getfield 12, 3) := by decide +kernel
theorem dX6_count_108 : decode cX6_count 108 = .ok (.invokevirtual 130, 3) := by decide +kernel
theorem dX6_count_111 : decode cX6_count 111 = .ok (.ireturn, 1) := by decide +kernel
theorem dX6_count_112 : decode cX6_count 112 = .ok (.aload_n 0, 1) := by decide +kernel
theorem dX6_count_113 : decode cX6_count 113 = .ok (.getfield 12, 3) := by decide +kernel
theorem dX6_count_116 : decode cX6_count 116 = .ok (.invokevirtual 133, 3) := by decide +kernel
theorem dX6_count_119 : decode cX6_count 119 = .ok (.ireturn, 1) := by decide +kernel
theorem dX6_count_120 : decode cX6_count 120 = .ok (.aload_n 0, 1) := by decide +kernel
theorem dX6_count_121 : decode cX6_count 121 = .ok (.getfield 12, 3) := by decide +kernel
theorem dX6_count_124 : decode cX6_count 124 = .ok (.bipush 6, 2) := by decide +kernel
theorem dX6_count_126 : decode cX6_count 126 = .ok (.invokevirtual 136, 3) := by decide +kernel
theorem dX6_count_129 : decode cX6_count 129 = .ok (.ireturn, 1) := by decide +kernel
theorem dX6_count_130 : decode cX6_count 130 = .ok (.aload_n 0, 1) := by decide +kernel
theorem dX6_count_131 : decode cX6_count 131 = .ok (.getfield 12, 3) := by decide +kernel
theorem dX6_count_134 : decode cX6_count 134 = .ok (.bipush 7, 2) := by decide +kernel
theorem dX6_count_136 : decode cX6_count 136 = .ok (.invokevirtual 136, 3) := by decide +kernel
theorem dX6_count_139 : decode cX6_count 139 = .ok (.ireturn, 1) := by decide +kernel
theorem dX6_count_140 : decode cX6_count 140 = .ok (.aload_n 0, 1) := by decide +kernel
theorem dX6_count_141 : decode cX6_count 141 = .ok (.getfield 33, 3) := by decide +kernel
theorem dX6_count_144 : decode cX6_count 144 = .ok (.getfield 139, 3) := by decide +kernel
theorem dX6_count_147 : decode cX6_count 147 = .ok (.ireturn, 1) := by decide +kernel
theorem dX6_count_148 : decode cX6_count 148 = .ok (.aload_n 0, 1) := by decide +kernel
theorem dX6_count_149 : decode cX6_count 149 = .ok (.getfield 40, 3) := by decide +kernel
theorem dX6_count_152 : decode cX6_count 152 = .ok (.getfield 142, 3) := by decide +kernel
theorem dX6_count_155 : decode cX6_count 155 = .ok (.ireturn, 1) := by decide +kernel
theorem dX6_count_156 : decode cX6_count 156 = .ok (.aload_n 0, 1) := by decide +kernel
theorem dX6_count_157 : decode cX6_count 157 = .ok (.getfield 12, 3) := by decide +kernel
theorem dX6_count_160 : decode cX6_count 160 = .ok (.getfield 145, 3) := by decide +kernel
theorem dX6_count_163 : decode cX6_count 163 = .ok (.ireturn, 1) := by decide +kernel
theorem dX6_count_164 : decode cX6_count 164 = .ok (.aload_n 0, 1) := by decide +kernel
theorem dX6_count_165 : decode cX6_count 165 = .ok (.getfield 12, 3) := by decide +kernel
theorem dX6_count_168 : decode cX6_count 168 = .ok (.getfield 148, 3) := by decide +kernel
theorem dX6_count_171 : decode cX6_count 171 = .ok (.ireturn, 1) := by decide +kernel
theorem dX6_count_172 : decode cX6_count 172 = .ok (.bipush (-2), 2) := by decide +kernel
theorem dX6_count_174 : decode cX6_count 174 = .ok (.ireturn, 1) := by decide +kernel
theorem dX6_inside_0 : decode cX6_inside 0 = .ok (.aload_n 0, 1) := by decide +kernel
theorem dX6_inside_1 : decode cX6_inside 1 = .ok (.getfield 12, 3) := by decide +kernel
theorem dX6_inside_4 : decode cX6_inside 4 = .ok (.iload_n 1, 1) := by decide +kernel
theorem dX6_inside_5 : decode cX6_inside 5 = .ok (.invokevirtual 100, 3) := by decide +kernel
theorem dX6_inside_8 : decode cX6_inside 8 = .ok (.astore_n 3, 1) := by decide +kernel
theorem dX6_inside_9 : decode cX6_inside 9 = .ok (.aload_n 0, 1) := by decide +kernel
theorem dX6_inside_10 : decode cX6_inside 10 = .ok (.getfield 12, 3) := by decide +kernel
theorem dX6_inside_13 : decode cX6_inside 13 = .ok (.iload_n 2, 1) := by decide +kernel
theorem dX6_inside_14 : decode cX6_inside 14 = .ok (.invokevirtual 100, 3) := by decide +kernel
theorem dX6_inside_17 : decode cX6_inside 17 = .ok (.astore 4, 2) := by decide +kernel
theorem dX6_inside_19 : decode cX6_inside 19 = .ok (.aload_n 3, 1) := by decide +kernel
theorem dX6_inside_20 : decode cX6_inside 20 = .ok (.ifnull 8, 3) := by decide +kernel
theorem dX6_inside_23 : decode cX6_inside 23 = .ok (.aload 4, 2) := by decide +kernel
theorem dX6_inside_25 : decode cX6_inside 25 = .ok (.ifnonnull 7, 3) := by decide +kernel
theorem dX6_inside_28 : decode cX6_inside 28 = .ok (.iconst (-1), 1) := by decide +kernel
theorem dX6_inside_29 : decode cX6_inside 29 = .ok (.goto 17, 3) := by decide +kernel
theorem dX6_inside_32 : decode cX6_inside 32 = .ok (.sipush 1000, 3) := by decide +kernel
theorem dX6_inside_35 : decode cX6_inside 35 = .ok (.aload_n 3, 1) := by decide +kernel
theorem dX6_inside_36 : decode cX6_inside 36 = .ok (.getfield 151, 3) := by decide +kernel
theorem dX6_inside_39 : decode cX6_inside 39 = .ok (.iadd, 1) := by decide +kernel
theorem dX6_inside_40 : decode cX6_inside 40 = .ok (.aload 4, 2) := by decide +kernel
theorem dX6_inside_42 : decode cX6_inside 42 = .ok (.getfield 151, 3) := by decide +kernel
theorem dX6_inside_45 : decode cX6_inside 45 = .ok (.isub, 1) := by decide +kernel
theorem dX6_inside_46 : decode cX6_inside 46 = .ok (.ireturn, 1) := by decide +kernel
theorem dX6_countsIn_0 : decode cX6_countsIn 0 = .ok (.aload_n 0, 1) := by decide +kernel
theorem dX6_countsIn_1 : decode cX6_countsIn 1 = .ok (.getfield 16, 3) := by decide +kernel
theorem dX6_countsIn_4 : decode cX6_countsIn 4 = .ok (.aload_n 0, 1) := by decide +kernel
theorem dX6_countsIn_5 : decode cX6_countsIn 5 = .ok (.getfield 12, 3) := by decide +kernel
theorem dX6_countsIn_8 : decode cX6_countsIn 8 = .ok (.invokevirtual 154, 3) := by decide +kernel
theorem dX6_countsIn_11 : decode cX6_countsIn 11 = .ok (.aload_n 0, 1) := by decide +kernel
theorem dX6_countsIn_12 : decode cX6_countsIn 12 = .ok (.getfield 16, 3) := by decide +kernel
theorem dX6_countsIn_15 : decode cX6_countsIn 15 = .ok (.iload_n 1, 1) := by decide +kernel
theorem dX6_countsIn_16 : decode cX6_countsIn 16 = .ok (.invokevirtual 100, 3) := by decide +kernel
theorem dX6_countsIn_19 : decode cX6_countsIn 19 = .ok (.astore_n 3, 1) := by decide +kernel
theorem dX6_countsIn_20 : decode cX6_countsIn 20 = .ok (.aload_n 3, 1) := by decide +kernel
theorem dX6_countsIn_21 : decode cX6_countsIn 21 = .ok (.ifnonnull 5, 3) := by decide +kernel
theorem dX6_countsIn_24 : decode cX6_countsIn 24 = .ok (.iconst (-1), 1) := by decide +kernel
theorem dX6_countsIn_25 : decode cX6_countsIn 25 = .ok (.ireturn, 1) := by decide +kernel
theorem dX6_countsIn_26 : decode cX6_countsIn 26 = .ok (.iload_n 2, 1) := by decide +kernel
theorem dX6_countsIn_27 : decode cX6_countsIn 27 = .ok (.invokestatic 157, 3) := by decide +kernel
theorem dX6_countsIn_30 : decode cX6_countsIn 30 = .ok (.ifCond .ne 6, 3) := by decide +kernel
theorem dX6_countsIn_33 : decode cX6_countsIn 33 = .ok (.bipush (-2), 2) := by decide +kernel
theorem dX6_countsIn_35 : decode cX6_countsIn 35 = .ok (.ireturn, 1) := by decide +kernel
theorem dX6_countsIn_36 : decode cX6_countsIn 36 = .ok (.aload_n 0, 1) := by decide +kernel
theorem dX6_countsIn_37 : decode cX6_countsIn 37 = .ok (.getfield 16, 3) := by decide +kernel
theorem dX6_countsIn_40 : decode cX6_countsIn 40 = .ok (.iload_n 2, 1) := by decide +kernel
theorem dX6_countsIn_41 : decode cX6_countsIn 41 = .ok (.invokevirtual 81, 3) := by decide +kernel
theorem dX6_countsIn_44 : decode cX6_countsIn 44 = .ok (.pop, 1) := by decide +kernel
theorem dX6_countsIn_45 : decode cX6_countsIn 45 = .ok (.aload_n 3, 1) := by decide +kernel
theorem dX6_countsIn_46 : decode cX6_countsIn 46 = .ok (.getfield 151, 3) := by decide +kernel
theorem dX6_countsIn_49 : decode cX6_countsIn 49 = .ok (.ireturn, 1) := by decide +kernel
theorem dX6_countsAlone_0 : decode cX6_countsAlone 0 = .ok (.aload_n 0, 1) := by decide +kernel
theorem dX6_countsAlone_1 : decode cX6_countsAlone 1 = .ok (.getfield 16, 3) := by decide +kernel
theorem dX6_countsAlone_4 : decode cX6_countsAlone 4 = .ok (.aload_n 0, 1) := by decide +kernel
theorem dX6_countsAlone_5 : decode cX6_countsAlone 5 = .ok (.getfield 12, 3) := by decide +kernel
theorem dX6_countsAlone_8 : decode cX6_countsAlone 8 = .ok (.invokevirtual 154, 3) := by decide +kernel
theorem dX6_countsAlone_11 : decode cX6_countsAlone 11 = .ok (.aload_n 0, 1) := by decide +kernel
theorem dX6_countsAlone_12 : decode cX6_countsAlone 12 = .ok (.getfield 16, 3) := by decide +kernel
theorem dX6_countsAlone_15 : decode cX6_countsAlone 15 = .ok (.iload_n 1, 1) := by decide +kernel
theorem dX6_countsAlone_16 : decode cX6_countsAlone 16 = .ok (.invokevirtual 100, 3) := by decide +kernel
theorem dX6_countsAlone_19 : decode cX6_countsAlone 19 = .ok (.astore_n 3, 1) := by decide +kernel
theorem dX6_countsAlone_20 : decode cX6_countsAlone 20 = .ok (.aload_n 3, 1) := by decide +kernel
theorem dX6_countsAlone_21 : decode cX6_countsAlone 21 = .ok (.ifnonnull 5, 3) := by decide +kernel
theorem dX6_countsAlone_24 : decode cX6_countsAlone 24 = .ok (.iconst (-1), 1) := by decide +kernel
theorem dX6_countsAlone_25 : decode cX6_countsAlone 25 = .ok (.ireturn, 1) := by decide +kernel
theorem dX6_countsAlone_26 : decode cX6_countsAlone 26 = .ok (.iload_n 2, 1) := by decide +kernel
theorem dX6_countsAlone_27 : decode cX6_countsAlone 27 = .ok (.invokestatic 157, 3) := by decide +kernel
theorem dX6_countsAlone_30 : decode cX6_countsAlone 30 = .ok (.ifCond .ne 6, 3) := by decide +kernel
theorem dX6_countsAlone_33 : decode cX6_countsAlone 33 = .ok (.bipush (-2), 2) := by decide +kernel
theorem dX6_countsAlone_35 : decode cX6_countsAlone 35 = .ok (.ireturn, 1) := by decide +kernel
theorem dX6_countsAlone_36 : decode cX6_countsAlone 36 = .ok (.iconst 0, 1) := by decide +kernel
theorem dX6_countsAlone_37 : decode cX6_countsAlone 37 = .ok (.istore 4, 2) := by decide +kernel
theorem dX6_countsAlone_39 : decode cX6_countsAlone 39 = .ok (.iload 4, 2) := by decide +kernel
theorem dX6_countsAlone_41 : decode cX6_countsAlone 41 = .ok (.iload_n 2, 1) := by decide +kernel
theorem dX6_countsAlone_42 : decode cX6_countsAlone 42 = .ok (.if_icmp .ge 17, 3) := by decide +kernel
theorem dX6_countsAlone_45 : decode cX6_countsAlone 45 = .ok (.aload_n 0, 1) := by decide +kernel
theorem dX6_countsAlone_46 : decode cX6_countsAlone 46 = .ok (.getfield 16, 3) := by decide +kernel
theorem dX6_countsAlone_49 : decode cX6_countsAlone 49 = .ok (.iload_n 1, 1) := by decide +kernel
theorem dX6_countsAlone_50 : decode cX6_countsAlone 50 = .ok (.invokevirtual 161, 3) := by decide +kernel
theorem dX6_countsAlone_53 : decode cX6_countsAlone 53 = .ok (.iinc 4 1, 3) := by decide +kernel
theorem dX6_countsAlone_56 : decode cX6_countsAlone 56 = .ok (.goto (-17), 3) := by decide +kernel
theorem dX6_countsAlone_59 : decode cX6_countsAlone 59 = .ok (.aload_n 3, 1) := by decide +kernel
theorem dX6_countsAlone_60 : decode cX6_countsAlone 60 = .ok (.getfield 151, 3) := by decide +kernel
theorem dX6_countsAlone_63 : decode cX6_countsAlone 63 = .ok (.ireturn, 1) := by decide +kernel
theorem dX6_bestUpper_0 : decode cX6_bestUpper 0 = .ok (.aload_n 0, 1) := by decide +kernel
theorem dX6_bestUpper_1 : decode cX6_bestUpper 1 = .ok (.getfield 16, 3) := by decide +kernel
theorem dX6_bestUpper_4 : decode cX6_bestUpper 4 = .ok (.aload_n 0, 1) := by decide +kernel
theorem dX6_bestUpper_5 : decode cX6_bestUpper 5 = .ok (.getfield 12, 3) := by decide +kernel
theorem dX6_bestUpper_8 : decode cX6_bestUpper 8 = .ok (.invokevirtual 154, 3) := by decide +kernel
theorem dX6_bestUpper_11 : decode cX6_bestUpper 11 = .ok (.aload_n 0, 1) := by decide +kernel
theorem dX6_bestUpper_12 : decode cX6_bestUpper 12 = .ok (.getfield 12, 3) := by decide +kernel
theorem dX6_bestUpper_15 : decode cX6_bestUpper 15 = .ok (.iload_n 1, 1) := by decide +kernel
theorem dX6_bestUpper_16 : decode cX6_bestUpper 16 = .ok (.invokevirtual 100, 3) := by decide +kernel
theorem dX6_bestUpper_19 : decode cX6_bestUpper 19 = .ok (.astore_n 3, 1) := by decide +kernel
theorem dX6_bestUpper_20 : decode cX6_bestUpper 20 = .ok (.aload_n 0, 1) := by decide +kernel
theorem dX6_bestUpper_21 : decode cX6_bestUpper 21 = .ok (.getfield 16, 3) := by decide +kernel
theorem dX6_bestUpper_24 : decode cX6_bestUpper 24 = .ok (.iload_n 1, 1) := by decide +kernel
theorem dX6_bestUpper_25 : decode cX6_bestUpper 25 = .ok (.invokevirtual 100, 3) := by decide +kernel
theorem dX6_bestUpper_28 : decode cX6_bestUpper 28 = .ok (.astore 4, 2) := by decide +kernel
theorem dX6_bestUpper_30 : decode cX6_bestUpper 30 = .ok (.aload_n 3, 1) := by decide +kernel
theorem dX6_bestUpper_31 : decode cX6_bestUpper 31 = .ok (.ifnull 8, 3) := by decide +kernel
theorem dX6_bestUpper_34 : decode cX6_bestUpper 34 = .ok (.aload 4, 2) := by decide +kernel
theorem dX6_bestUpper_36 : decode cX6_bestUpper 36 = .ok (.ifnonnull 5, 3) := by decide +kernel
theorem dX6_bestUpper_39 : decode cX6_bestUpper 39 = .ok (.iconst (-1), 1) := by decide +kernel
theorem dX6_bestUpper_40 : decode cX6_bestUpper 40 = .ok (.ireturn, 1) := by decide +kernel
theorem dX6_bestUpper_41 : decode cX6_bestUpper 41 = .ok (.iload_n 2, 1) := by decide +kernel
theorem dX6_bestUpper_42 : decode cX6_bestUpper 42 = .ok (.invokestatic 157, 3) := by decide +kernel
theorem dX6_bestUpper_45 : decode cX6_bestUpper 45 = .ok (.ifCond .ne 6, 3) := by decide +kernel
theorem dX6_bestUpper_48 : decode cX6_bestUpper 48 = .ok (.bipush (-2), 2) := by decide +kernel
theorem dX6_bestUpper_50 : decode cX6_bestUpper 50 = .ok (.ireturn, 1) := by decide +kernel
theorem dX6_bestUpper_51 : decode cX6_bestUpper 51 = .ok (.aload_n 0, 1) := by decide +kernel
theorem dX6_bestUpper_52 : decode cX6_bestUpper 52 = .ok (.iload_n 1, 1) := by decide +kernel
theorem dX6_bestUpper_53 : decode cX6_bestUpper 53 = .ok (.aload 4, 2) := by decide +kernel
theorem dX6_bestUpper_55 : decode cX6_bestUpper 55 = .ok (.iload_n 2, 1) := by decide +kernel
theorem dX6_bestUpper_56 : decode cX6_bestUpper 56 = .ok (.invokevirtual 165, 3) := by decide +kernel
theorem dX6_bestUpper_59 : decode cX6_bestUpper 59 = .ok (.istore 5, 2) := by decide +kernel
theorem dX6_bestUpper_61 : decode cX6_bestUpper 61 = .ok (.aload_n 3, 1) := by decide +kernel
theorem dX6_bestUpper_62 : decode cX6_bestUpper 62 = .ok (.getfield 169, 3) := by decide +kernel
theorem dX6_bestUpper_65 : decode cX6_bestUpper 65 = .ok (.istore 6, 2) := by decide +kernel
theorem dX6_bestUpper_67 : decode cX6_bestUpper 67 = .ok (.ldc 172, 2) := by decide +kernel
theorem dX6_bestUpper_69 : decode cX6_bestUpper 69 = .ok (.istore 7, 2) := by decide +kernel
theorem dX6_bestUpper_71 : decode cX6_bestUpper 71 = .ok (.aload_n 3, 1) := by decide +kernel
theorem dX6_bestUpper_72 : decode cX6_bestUpper 72 = .ok (.getfield 169, 3) := by decide +kernel
theorem dX6_bestUpper_75 : decode cX6_bestUpper 75 = .ok (.istore 8, 2) := by decide +kernel
theorem dX6_bestUpper_77 : decode cX6_bestUpper 77 = .ok (.iload 8, 2) := by decide +kernel
theorem dX6_bestUpper_79 : decode cX6_bestUpper 79 = .ok (.sipush 200, 3) := by decide +kernel
theorem dX6_bestUpper_82 : decode cX6_bestUpper 82 = .ok (.if_icmp .gt 44, 3) := by decide +kernel
theorem dX6_bestUpper_85 : decode cX6_bestUpper 85 = .ok (.aload_n 0, 1) := by decide +kernel
theorem dX6_bestUpper_86 : decode cX6_bestUpper 86 = .ok (.aload_n 3, 1) := by decide +kernel
theorem dX6_bestUpper_87 : decode cX6_bestUpper 87 = .ok (.iload 8, 2) := by decide +kernel
theorem dX6_bestUpper_89 : decode cX6_bestUpper 89 = .ok (.iload 5, 2) := by decide +kernel
theorem dX6_bestUpper_91 : decode cX6_bestUpper 91 = .ok (.invokevirtual 173, 3) := by decide +kernel
theorem dX6_bestUpper_94 : decode cX6_bestUpper 94 = .ok (.aload 4, 2) := by decide +kernel
theorem dX6_bestUpper_96 : decode cX6_bestUpper 96 = .ok (.getfield 177, 3) := by decide +kernel
theorem dX6_bestUpper_99 : decode cX6_bestUpper 99 = .ok (.isub, 1) := by decide +kernel
theorem dX6_bestUpper_100 : decode cX6_bestUpper 100 = .ok (.invokestatic 180, 3) := by decide +kernel
theorem dX6_bestUpper_103 : decode cX6_bestUpper 103 = .ok (.istore 9, 2) := by decide +kernel
theorem dX6_bestUpper_105 : decode cX6_bestUpper 105 = .ok (.iload 9, 2) := by decide +kernel
theorem dX6_bestUpper_107 : decode cX6_bestUpper 107 = .ok (.iload 7, 2) := by decide +kernel
theorem dX6_bestUpper_109 : decode cX6_bestUpper 109 = .ok (.if_icmp .ge 11, 3) := by decide +kernel
theorem dX6_bestUpper_112 : decode cX6_bestUpper 112 = .ok (.iload 9, 2) := by decide +kernel
theorem dX6_bestUpper_114 : decode cX6_bestUpper 114 = .ok (.istore 7, 2) := by decide +kernel
theorem dX6_bestUpper_116 : decode cX6_bestUpper 116 = .ok (.iload 8, 2) := by decide +kernel
theorem dX6_bestUpper_118 : decode cX6_bestUpper 118 = .ok (.istore 6, 2) := by decide +kernel
theorem dX6_bestUpper_120 : decode cX6_bestUpper 120 = .ok (.iinc 8 1, 3) := by decide +kernel
theorem dX6_bestUpper_123 : decode cX6_bestUpper 123 = .ok (.goto (-46), 3) := by decide +kernel
theorem dX6_bestUpper_126 : decode cX6_bestUpper 126 = .ok (.iload 6, 2) := by decide +kernel
theorem dX6_bestUpper_128 : decode cX6_bestUpper 128 = .ok (.ireturn, 1) := by decide +kernel
theorem dX6_hearTrial_0 : decode cX6_hearTrial 0 = .ok (.iconst 0, 1) := by decide +kernel
theorem dX6_hearTrial_1 : decode cX6_hearTrial 1 = .ok (.istore 4, 2) := by decide +kernel
theorem dX6_hearTrial_3 : decode cX6_hearTrial 3 = .ok (.iconst 0, 1) := by decide +kernel
theorem dX6_hearTrial_4 : decode cX6_hearTrial 4 = .ok (.istore 5, 2) := by decide +kernel
theorem dX6_hearTrial_6 : decode cX6_hearTrial 6 = .ok (.iload 5, 2) := by decide +kernel
theorem dX6_hearTrial_8 : decode cX6_hearTrial 8 = .ok (.iload_n 3, 1) := by decide +kernel
theorem dX6_hearTrial_9 : decode cX6_hearTrial 9 = .ok (.if_icmp .ge 61, 3) := by decide +kernel
theorem dX6_hearTrial_12 : decode cX6_hearTrial 12 = .ok (.aload_n 0, 1) := by decide +kernel
theorem dX6_hearTrial_13 : decode cX6_hearTrial 13 = .ok (.getfield 16, 3) := by decide +kernel
theorem dX6_hearTrial_16 : decode cX6_hearTrial 16 = .ok (.invokevirtual 133, 3) := by decide +kernel
theorem dX6_hearTrial_19 : decode cX6_hearTrial 19 = .ok (.istore 6, 2) := by decide +kernel
theorem dX6_hearTrial_21 : decode cX6_hearTrial 21 = .ok (.aload_n 0, 1) := by decide +kernel
theorem dX6_hearTrial_22 : decode cX6_hearTrial 22 = .ok (.getfield 16, 3) := by decide +kernel
theorem dX6_hearTrial_25 : decode cX6_hearTrial 25 = .ok (.iload 6, 2) := by decide +kernel
theorem dX6_hearTrial_27 : decode cX6_hearTrial 27 = .ok (.invokevirtual 161, 3) := by decide +kernel
theorem dX6_hearTrial_30 : decode cX6_hearTrial 30 = .ok (.iload 6, 2) := by decide +kernel
theorem dX6_hearTrial_32 : decode cX6_hearTrial 32 = .ok (.iload_n 1, 1) := by decide +kernel
theorem dX6_hearTrial_33 : decode cX6_hearTrial 33 = .ok (.if_icmp .ne 31, 3) := by decide +kernel
theorem dX6_hearTrial_36 : decode cX6_hearTrial 36 = .ok (.iload 4, 2) := by decide +kernel
theorem dX6_hearTrial_38 : decode cX6_hearTrial 38 = .ok (.aload_n 0, 1) := by decide +kernel
theorem dX6_hearTrial_39 : decode cX6_hearTrial 39 = .ok (.getfield 26, 3) := by decide +kernel
theorem dX6_hearTrial_42 : decode cX6_hearTrial 42 = .ok (.arraylength, 1) := by decide +kernel
theorem dX6_hearTrial_43 : decode cX6_hearTrial 43 = .ok (.if_icmp .ge 21, 3) := by decide +kernel
theorem dX6_hearTrial_46 : decode cX6_hearTrial 46 = .ok (.aload_n 0, 1) := by decide +kernel
theorem dX6_hearTrial_47 : decode cX6_hearTrial 47 = .ok (.getfield 26, 3) := by decide +kernel
theorem dX6_hearTrial_50 : decode cX6_hearTrial 50 = .ok (.iload 4, 2) := by decide +kernel
theorem dX6_hearTrial_52 : decode cX6_hearTrial 52 = .ok (.aload_n 0, 1) := by decide +kernel
theorem dX6_hearTrial_53 : decode cX6_hearTrial 53 = .ok (.getfield 16, 3) := by decide +kernel
theorem dX6_hearTrial_56 : decode cX6_hearTrial 56 = .ok (.aload_n 2, 1) := by decide +kernel
theorem dX6_hearTrial_57 : decode cX6_hearTrial 57 = .ok (.invokevirtual 104, 3) := by decide +kernel
theorem dX6_hearTrial_60 : decode cX6_hearTrial 60 = .ok (.iastore, 1) := by decide +kernel
theorem dX6_hearTrial_61 : decode cX6_hearTrial 61 = .ok (.iinc 4 1, 3) := by decide +kernel
theorem dX6_hearTrial_64 : decode cX6_hearTrial 64 = .ok (.iinc 5 1, 3) := by decide +kernel
theorem dX6_hearTrial_67 : decode cX6_hearTrial 67 = .ok (.goto (-61), 3) := by decide +kernel
theorem dX6_hearTrial_70 : decode cX6_hearTrial 70 = .ok (.iload 4, 2) := by decide +kernel
theorem dX6_hearTrial_72 : decode cX6_hearTrial 72 = .ok (.ireturn, 1) := by decide +kernel
theorem dX6_countedWith_0 : decode cX6_countedWith 0 = .ok (.aload_n 0, 1) := by decide +kernel
theorem dX6_countedWith_1 : decode cX6_countedWith 1 = .ok (.getfield 22, 3) := by decide +kernel
theorem dX6_countedWith_4 : decode cX6_countedWith 4 = .ok (.aload_n 1, 1) := by decide +kernel
theorem dX6_countedWith_5 : decode cX6_countedWith 5 = .ok (.invokevirtual 185, 3) := by decide +kernel
theorem dX6_countedWith_8 : decode cX6_countedWith 8 = .ok (.aload_n 0, 1) := by decide +kernel
theorem dX6_countedWith_9 : decode cX6_countedWith 9 = .ok (.getfield 22, 3) := by decide +kernel
theorem dX6_countedWith_12 : decode cX6_countedWith 12 = .ok (.iload_n 2, 1) := by decide +kernel
theorem dX6_countedWith_13 : decode cX6_countedWith 13 = .ok (.putfield 188, 3) := by decide +kernel
theorem dX6_countedWith_16 : decode cX6_countedWith 16 = .ok (.iconst 0, 1) := by decide +kernel
theorem dX6_countedWith_17 : decode cX6_countedWith 17 = .ok (.istore 4, 2) := by decide +kernel
theorem dX6_countedWith_19 : decode cX6_countedWith 19 = .ok (.iload 4, 2) := by decide +kernel
theorem dX6_countedWith_21 : decode cX6_countedWith 21 = .ok (.iload_n 3, 1) := by decide +kernel
theorem dX6_countedWith_22 : decode cX6_countedWith 22 = .ok (.if_icmp .ge 33, 3) := by decide +kernel
theorem dX6_countedWith_25 : decode cX6_countedWith 25 = .ok (.iload 4, 2) := by decide +kernel
theorem dX6_countedWith_27 : decode cX6_countedWith 27 = .ok (.aload_n 0, 1) := by decide +kernel
theorem dX6_countedWith_28 : decode cX6_countedWith 28 = .ok (.getfield 26, 3) := by decide +kernel
theorem dX6_countedWith_31 : decode cX6_countedWith 31 = .ok (.arraylength, 1) := by decide +kernel
theorem dX6_countedWith_32 : decode cX6_countedWith 32 = .ok (.if_icmp .ge 23, 3) := by decide +kernel
theorem dX6_countedWith_35 : decode cX6_countedWith 35 = .ok (.aload_n 0, 1) := by decide +kernel
theorem dX6_countedWith_36 : decode cX6_countedWith 36 = .ok (.getfield 22, 3) := by decide +kernel
theorem dX6_countedWith_39 : decode cX6_countedWith 39 = .ok (.aload_n 0, 1) := by decide +kernel
theorem dX6_countedWith_40 : decode cX6_countedWith 40 = .ok (.getfield 26, 3) := by decide +kernel
theorem dX6_countedWith_43 : decode cX6_countedWith 43 = .ok (.iload 4, 2) := by decide +kernel
theorem dX6_countedWith_45 : decode cX6_countedWith 45 = .ok (.iaload, 1) := by decide +kernel
theorem dX6_countedWith_46 : decode cX6_countedWith 46 = .ok (.invokevirtual 191, 3) := by decide +kernel
theorem dX6_countedWith_49 : decode cX6_countedWith 49 = .ok (.iinc 4 1, 3) := by decide +kernel
theorem dX6_countedWith_52 : decode cX6_countedWith 52 = .ok (.goto (-33), 3) := by decide +kernel
theorem dX6_countedWith_55 : decode cX6_countedWith 55 = .ok (.aload_n 0, 1) := by decide +kernel
theorem dX6_countedWith_56 : decode cX6_countedWith 56 = .ok (.getfield 22, 3) := by decide +kernel
theorem dX6_countedWith_59 : decode cX6_countedWith 59 = .ok (.getfield 151, 3) := by decide +kernel
theorem dX6_countedWith_62 : decode cX6_countedWith 62 = .ok (.ireturn, 1) := by decide +kernel
theorem dX6_bestTurn_0 : decode cX6_bestTurn 0 = .ok (.iload_n 1, 1) := by decide +kernel
theorem dX6_bestTurn_1 : decode cX6_bestTurn 1 = .ok (.invokestatic 157, 3) := by decide +kernel
theorem dX6_bestTurn_4 : decode cX6_bestTurn 4 = .ok (.ifCond .ne 6, 3) := by decide +kernel
theorem dX6_bestTurn_7 : decode cX6_bestTurn 7 = .ok (.bipush (-2), 2) := by decide +kernel
theorem dX6_bestTurn_9 : decode cX6_bestTurn 9 = .ok (.ireturn, 1) := by decide +kernel
theorem dX6_bestTurn_10 : decode cX6_bestTurn 10 = .ok (.iconst 1, 1) := by decide +kernel
theorem dX6_bestTurn_11 : decode cX6_bestTurn 11 = .ok (.istore_n 2, 1) := by decide +kernel
theorem dX6_bestTurn_12 : decode cX6_bestTurn 12 = .ok (.ldc 172, 2) := by decide +kernel
theorem dX6_bestTurn_14 : decode cX6_bestTurn 14 = .ok (.istore_n 3, 1) := by decide +kernel
theorem dX6_bestTurn_15 : decode cX6_bestTurn 15 = .ok (.iconst 1, 1) := by decide +kernel
theorem dX6_bestTurn_16 : decode cX6_bestTurn 16 = .ok (.istore 4, 2) := by decide +kernel
theorem dX6_bestTurn_18 : decode cX6_bestTurn 18 = .ok (.iload 4, 2) := by decide +kernel
theorem dX6_bestTurn_20 : decode cX6_bestTurn 20 = .ok (.iconst 5, 1) := by decide +kernel
theorem dX6_bestTurn_21 : decode cX6_bestTurn 21 = .ok (.if_icmp .gt 59, 3) := by decide +kernel
theorem dX6_bestTurn_24 : decode cX6_bestTurn 24 = .ok (.aload_n 0, 1) := by decide +kernel
theorem dX6_bestTurn_25 : decode cX6_bestTurn 25 = .ok (.getfield 16, 3) := by decide +kernel
theorem dX6_bestTurn_28 : decode cX6_bestTurn 28 = .ok (.aload_n 0, 1) := by decide +kernel
theorem dX6_bestTurn_29 : decode cX6_bestTurn 29 = .ok (.getfield 12, 3) := by decide +kernel
theorem dX6_bestTurn_32 : decode cX6_bestTurn 32 = .ok (.invokevirtual 154, 3) := by decide +kernel
theorem dX6_bestTurn_35 : decode cX6_bestTurn 35 = .ok (.aload_n 0, 1) := by decide +kernel
theorem dX6_bestTurn_36 : decode cX6_bestTurn 36 = .ok (.getfield 16, 3) := by decide +kernel
theorem dX6_bestTurn_39 : decode cX6_bestTurn 39 = .ok (.iload 4, 2) := by decide +kernel
theorem dX6_bestTurn_41 : decode cX6_bestTurn 41 = .ok (.putfield 148, 3) := by decide +kernel
theorem dX6_bestTurn_44 : decode cX6_bestTurn 44 = .ok (.aload_n 0, 1) := by decide +kernel
theorem dX6_bestTurn_45 : decode cX6_bestTurn 45 = .ok (.getfield 16, 3) := by decide +kernel
theorem dX6_bestTurn_48 : decode cX6_bestTurn 48 = .ok (.iload_n 1, 1) := by decide +kernel
theorem dX6_bestTurn_49 : decode cX6_bestTurn 49 = .ok (.invokevirtual 81, 3) := by decide +kernel
theorem dX6_bestTurn_52 : decode cX6_bestTurn 52 = .ok (.pop, 1) := by decide +kernel
theorem dX6_bestTurn_53 : decode cX6_bestTurn 53 = .ok (.aload_n 0, 1) := by decide +kernel
theorem dX6_bestTurn_54 : decode cX6_bestTurn 54 = .ok (.getfield 16, 3) := by decide +kernel
theorem dX6_bestTurn_57 : decode cX6_bestTurn 57 = .ok (.invokevirtual 194, 3) := by decide +kernel
theorem dX6_bestTurn_60 : decode cX6_bestTurn 60 = .ok (.istore 5, 2) := by decide +kernel
theorem dX6_bestTurn_62 : decode cX6_bestTurn 62 = .ok (.iload 5, 2) := by decide +kernel
theorem dX6_bestTurn_64 : decode cX6_bestTurn 64 = .ok (.iload_n 3, 1) := by decide +kernel
theorem dX6_bestTurn_65 : decode cX6_bestTurn 65 = .ok (.if_icmp .ge 9, 3) := by decide +kernel
theorem dX6_bestTurn_68 : decode cX6_bestTurn 68 = .ok (.iload 5, 2) := by decide +kernel
theorem dX6_bestTurn_70 : decode cX6_bestTurn 70 = .ok (.istore_n 3, 1) := by decide +kernel
theorem dX6_bestTurn_71 : decode cX6_bestTurn 71 = .ok (.iload 4, 2) := by decide +kernel
theorem dX6_bestTurn_73 : decode cX6_bestTurn 73 = .ok (.istore_n 2, 1) := by decide +kernel
theorem dX6_bestTurn_74 : decode cX6_bestTurn 74 = .ok (.iinc 4 1, 3) := by decide +kernel
theorem dX6_bestTurn_77 : decode cX6_bestTurn 77 = .ok (.goto (-59), 3) := by decide +kernel
theorem dX6_bestTurn_80 : decode cX6_bestTurn 80 = .ok (.iload_n 2, 1) := by decide +kernel
theorem dX6_bestTurn_81 : decode cX6_bestTurn 81 = .ok (.ireturn, 1) := by decide +kernel
theorem dX6_goneIn_0 : decode cX6_goneIn 0 = .ok (.aload_n 0, 1) := by decide +kernel
theorem dX6_goneIn_1 : decode cX6_goneIn 1 = .ok (.getfield 16, 3) := by decide +kernel
theorem dX6_goneIn_4 : decode cX6_goneIn 4 = .ok (.aload_n 0, 1) := by decide +kernel
theorem dX6_goneIn_5 : decode cX6_goneIn 5 = .ok (.getfield 12, 3) := by decide +kernel
theorem dX6_goneIn_8 : decode cX6_goneIn 8 = .ok (.invokevirtual 154, 3) := by decide +kernel
theorem dX6_goneIn_11 : decode cX6_goneIn 11 = .ok (.aload_n 0, 1) := by decide +kernel
theorem dX6_goneIn_12 : decode cX6_goneIn 12 = .ok (.getfield 16, 3) := by decide +kernel
theorem dX6_goneIn_15 : decode cX6_goneIn 15 = .ok (.iload_n 1, 1) := by decide +kernel
theorem dX6_goneIn_16 : decode cX6_goneIn 16 = .ok (.invokevirtual 87, 3) := by decide +kernel
theorem dX6_goneIn_19 : decode cX6_goneIn 19 = .ok (.astore_n 2, 1) := by decide +kernel
theorem dX6_goneIn_20 : decode cX6_goneIn 20 = .ok (.aload_n 2, 1) := by decide +kernel
theorem dX6_goneIn_21 : decode cX6_goneIn 21 = .ok (.ifnonnull 5, 3) := by decide +kernel
theorem dX6_goneIn_24 : decode cX6_goneIn 24 = .ok (.iconst (-1), 1) := by decide +kernel
theorem dX6_goneIn_25 : decode cX6_goneIn 25 = .ok (.ireturn, 1) := by decide +kernel
theorem dX6_goneIn_26 : decode cX6_goneIn 26 = .ok (.iconst 0, 1) := by decide +kernel
theorem dX6_goneIn_27 : decode cX6_goneIn 27 = .ok (.istore_n 3, 1) := by decide +kernel
theorem dX6_goneIn_28 : decode cX6_goneIn 28 = .ok (.iload_n 3, 1) := by decide +kernel
theorem dX6_goneIn_29 : decode cX6_goneIn 29 = .ok (.sipush 200, 3) := by decide +kernel
theorem dX6_goneIn_32 : decode cX6_goneIn 32 = .ok (.if_icmp .ge 25, 3) := by decide +kernel
theorem dX6_goneIn_35 : decode cX6_goneIn 35 = .ok (.aload_n 2, 1) := by decide +kernel
theorem dX6_goneIn_36 : decode cX6_goneIn 36 = .ok (.getfield 197, 3) := by decide +kernel
theorem dX6_goneIn_39 : decode cX6_goneIn 39 = .ok (.ifCond .ne 18, 3) := by decide +kernel
theorem dX6_goneIn_42 : decode cX6_goneIn 42 = .ok (.aload_n 0, 1) := by decide +kernel
theorem dX6_goneIn_43 : decode cX6_goneIn 43 = .ok (.getfield 16, 3) := by decide +kernel
theorem dX6_goneIn_46 : decode cX6_goneIn 46 = .ok (.bipush (-6), 2) := by decide +kernel
theorem dX6_goneIn_48 : decode cX6_goneIn 48 = .ok (.invokevirtual 161, 3) := by decide +kernel
theorem dX6_goneIn_51 : decode cX6_goneIn 51 = .ok (.iinc 3 1, 3) := by decide +kernel
theorem dX6_goneIn_54 : decode cX6_goneIn 54 = .ok (.goto (-26), 3) := by decide +kernel
theorem dX6_goneIn_57 : decode cX6_goneIn 57 = .ok (.aload_n 2, 1) := by decide +kernel
theorem dX6_goneIn_58 : decode cX6_goneIn 58 = .ok (.getfield 197, 3) := by decide +kernel
theorem dX6_goneIn_61 : decode cX6_goneIn 61 = .ok (.ifCond .eq 21, 3) := by decide +kernel
theorem dX6_goneIn_64 : decode cX6_goneIn 64 = .ok (.aload_n 0, 1) := by decide +kernel
theorem dX6_goneIn_65 : decode cX6_goneIn 65 = .ok (.getfield 16, 3) := by decide +kernel
theorem dX6_goneIn_68 : decode cX6_goneIn 68 = .ok (.getfield 120, 3) := by decide +kernel
theorem dX6_goneIn_71 : decode cX6_goneIn 71 = .ok (.aload_n 0, 1) := by decide +kernel
theorem dX6_goneIn_72 : decode cX6_goneIn 72 = .ok (.getfield 12, 3) := by decide +kernel
theorem dX6_goneIn_75 : decode cX6_goneIn 75 = .ok (.getfield 120, 3) := by decide +kernel
theorem dX6_goneIn_78 : decode cX6_goneIn 78 = .ok (.isub, 1) := by decide +kernel
theorem dX6_goneIn_79 : decode cX6_goneIn 79 = .ok (.goto 5, 3) := by decide +kernel
theorem dX6_goneIn_82 : decode cX6_goneIn 82 = .ok (.bipush (-6), 2) := by decide +kernel
theorem dX6_goneIn_84 : decode cX6_goneIn 84 = .ok (.ireturn, 1) := by decide +kernel
theorem dX6_put_0 : decode cX6_put 0 = .ok (.aload_n 0, 1) := by decide +kernel
theorem dX6_put_1 : decode cX6_put 1 = .ok (.getfield 33, 3) := by decide +kernel
theorem dX6_put_4 : decode cX6_put 4 = .ok (.lload_n 1, 1) := by decide +kernel
theorem dX6_put_5 : decode cX6_put 5 = .ok (.invokevirtual 201, 3) := by decide +kernel
theorem dX6_put_8 : decode cX6_put 8 = .ok (.ireturn, 1) := by decide +kernel
theorem dX6_wipe_0 : decode cX6_wipe 0 = .ok (.aload_n 0, 1) := by decide +kernel
theorem dX6_wipe_1 : decode cX6_wipe 1 = .ok (.getfield 33, 3) := by decide +kernel
theorem dX6_wipe_4 : decode cX6_wipe 4 = .ok (.invokevirtual 205, 3) := by decide +kernel
theorem dX6_wipe_7 : decode cX6_wipe 7 = .ok (.ireturn, 1) := by decide +kernel
theorem dX6_fault_0 : decode cX6_fault 0 = .ok (.aload_n 0, 1) := by decide +kernel
theorem dX6_fault_1 : decode cX6_fault 1 = .ok (.getfield 33, 3) := by decide +kernel
theorem dX6_fault_4 : decode cX6_fault 4 = .ok (.invokevirtual 208, 3) := by decide +kernel
theorem dX6_fault_7 : decode cX6_fault 7 = .ok (.ireturn, 1) := by decide +kernel
theorem dX6_carryOut_0 : decode cX6_carryOut 0 = .ok (.aload_n 0, 1) := by decide +kernel
theorem dX6_carryOut_1 : decode cX6_carryOut 1 = .ok (.getfield 33, 3) := by decide +kernel
theorem dX6_carryOut_4 : decode cX6_carryOut 4 = .ok (.invokevirtual 208, 3) := by decide +kernel
theorem dX6_carryOut_7 : decode cX6_carryOut 7 = .ok (.bipush (-6), 2) := by decide +kernel
theorem dX6_carryOut_9 : decode cX6_carryOut 9 = .ok (.if_icmp .eq 6, 3) := by decide +kernel
theorem dX6_carryOut_12 : decode cX6_carryOut 12 = .ok (.bipush (-3), 2) := by decide +kernel
theorem dX6_carryOut_14 : decode cX6_carryOut 14 = .ok (.ireturn, 1) := by decide +kernel
theorem dX6_carryOut_15 : decode cX6_carryOut 15 = .ok (.aload_n 0, 1) := by decide +kernel
theorem dX6_carryOut_16 : decode cX6_carryOut 16 = .ok (.getfield 40, 3) := by decide +kernel
theorem dX6_carryOut_19 : decode cX6_carryOut 19 = .ok (.aload_n 0, 1) := by decide +kernel
theorem dX6_carryOut_20 : decode cX6_carryOut 20 = .ok (.getfield 12, 3) := by decide +kernel
theorem dX6_carryOut_23 : decode cX6_carryOut 23 = .ok (.invokevirtual 51, 3) := by decide +kernel
theorem dX6_carryOut_26 : decode cX6_carryOut 26 = .ok (.iconst 0, 1) := by decide +kernel
theorem dX6_carryOut_27 : decode cX6_carryOut 27 = .ok (.istore_n 1, 1) := by decide +kernel
theorem dX6_carryOut_28 : decode cX6_carryOut 28 = .ok (.iconst 0, 1) := by decide +kernel
theorem dX6_carryOut_29 : decode cX6_carryOut 29 = .ok (.istore_n 2, 1) := by decide +kernel
theorem dX6_carryOut_30 : decode cX6_carryOut 30 = .ok (.iload_n 2, 1) := by decide +kernel
theorem dX6_carryOut_31 : decode cX6_carryOut 31 = .ok (.aload_n 0, 1) := by decide +kernel
theorem dX6_carryOut_32 : decode cX6_carryOut 32 = .ok (.getfield 33, 3) := by decide +kernel
theorem dX6_carryOut_35 : decode cX6_carryOut 35 = .ok (.getfield 139, 3) := by decide +kernel
theorem dX6_carryOut_38 : decode cX6_carryOut 38 = .ok (.if_icmp .ge 37, 3) := by decide +kernel
theorem dX6_carryOut_41 : decode cX6_carryOut 41 = .ok (.aload_n 0, 1) := by decide +kernel
theorem dX6_carryOut_42 : decode cX6_carryOut 42 = .ok (.getfield 33, 3) := by decide +kernel
theorem dX6_carryOut_45 : decode cX6_carryOut 45 = .ok (.iload_n 2, 1) := by decide +kernel
theorem dX6_carryOut_46 : decode cX6_carryOut 46 = .ok (.invokevirtual 211, 3) := by decide +kernel
theorem dX6_carryOut_49 : decode cX6_carryOut 49 = .ok (.ifCond .ne 6, 3) := by decide +kernel
theorem dX6_carryOut_52 : decode cX6_carryOut 52 = .ok (.goto 17, 3) := by decide +kernel
theorem dX6_carryOut_55 : decode cX6_carryOut 55 = .ok (.aload_n 0, 1) := by decide +kernel
theorem dX6_carryOut_56 : decode cX6_carryOut 56 = .ok (.iload_n 2, 1) := by decide +kernel
theorem dX6_carryOut_57 : decode cX6_carryOut 57 = .ok (.invokevirtual 214, 3) := by decide +kernel
theorem dX6_carryOut_60 : decode cX6_carryOut 60 = .ok (.ifCond .ge 6, 3) := by decide +kernel
theorem dX6_carryOut_63 : decode cX6_carryOut 63 = .ok (.goto 12, 3) := by decide +kernel
theorem dX6_carryOut_66 : decode cX6_carryOut 66 = .ok (.iinc 1 1, 3) := by decide +kernel
theorem dX6_carryOut_69 : decode cX6_carryOut 69 = .ok (.iinc 2 1, 3) := by decide +kernel
theorem dX6_carryOut_72 : decode cX6_carryOut 72 = .ok (.goto (-42), 3) := by decide +kernel
theorem dX6_carryOut_75 : decode cX6_carryOut 75 = .ok (.aload_n 0, 1) := by decide +kernel
theorem dX6_carryOut_76 : decode cX6_carryOut 76 = .ok (.getfield 33, 3) := by decide +kernel
theorem dX6_carryOut_79 : decode cX6_carryOut 79 = .ok (.invokevirtual 205, 3) := by decide +kernel
theorem dX6_carryOut_82 : decode cX6_carryOut 82 = .ok (.pop, 1) := by decide +kernel
theorem dX6_carryOut_83 : decode cX6_carryOut 83 = .ok (.aload_n 0, 1) := by decide +kernel
theorem dX6_carryOut_84 : decode cX6_carryOut 84 = .ok (.iload_n 1, 1) := by decide +kernel
theorem dX6_carryOut_85 : decode cX6_carryOut 85 = .ok (.invokevirtual 59, 3) := by decide +kernel
theorem dX6_carryOut_88 : decode cX6_carryOut 88 = .ok (.ireturn, 1) := by decide +kernel
theorem dX6_obey_0 : decode cX6_obey 0 = .ok (.aload_n 0, 1) := by decide +kernel
theorem dX6_obey_1 : decode cX6_obey 1 = .ok (.getfield 33, 3) := by decide +kernel
theorem dX6_obey_4 : decode cX6_obey 4 = .ok (.iload_n 1, 1) := by decide +kernel
theorem dX6_obey_5 : decode cX6_obey 5 = .ok (.invokevirtual 217, 3) := by decide +kernel
theorem dX6_obey_8 : decode cX6_obey 8 = .ok (.lookupswitch 120 #[(99, 36), (116, 102), (119, 84)], 36) := by decide +kernel
theorem dX6_obey_44 : decode cX6_obey 44 = .ok (.aload_n 0, 1) := by decide +kernel
theorem dX6_obey_45 : decode cX6_obey 45 = .ok (.getfield 12, 3) := by decide +kernel
theorem dX6_obey_48 : decode cX6_obey 48 = .ok (.aload_n 0, 1) := by decide +kernel
theorem dX6_obey_49 : decode cX6_obey 49 = .ok (.getfield 33, 3) := by decide +kernel
theorem dX6_obey_52 : decode cX6_obey 52 = .ok (.iload_n 1, 1) := by decide +kernel
theorem dX6_obey_53 : decode cX6_obey 53 = .ok (.iconst 1, 1) := by decide +kernel
theorem dX6_obey_54 : decode cX6_obey 54 = .ok (.iadd, 1) := by decide +kernel
theorem dX6_obey_55 : decode cX6_obey 55 = .ok (.invokevirtual 220, 3) := by decide +kernel
theorem dX6_obey_58 : decode cX6_obey 58 = .ok (.aload_n 0, 1) := by decide +kernel
theorem dX6_obey_59 : decode cX6_obey 59 = .ok (.getfield 33, 3) := by decide +kernel
theorem dX6_obey_62 : decode cX6_obey 62 = .ok (.iload_n 1, 1) := by decide +kernel
theorem dX6_obey_63 : decode cX6_obey 63 = .ok (.iconst 2, 1) := by decide +kernel
theorem dX6_obey_64 : decode cX6_obey 64 = .ok (.iadd, 1) := by decide +kernel
theorem dX6_obey_65 : decode cX6_obey 65 = .ok (.invokevirtual 220, 3) := by decide +kernel
theorem dX6_obey_68 : decode cX6_obey 68 = .ok (.aload_n 0, 1) := by decide +kernel
theorem dX6_obey_69 : decode cX6_obey 69 = .ok (.getfield 33, 3) := by decide +kernel
theorem dX6_obey_72 : decode cX6_obey 72 = .ok (.iload_n 1, 1) := by decide +kernel
theorem dX6_obey_73 : decode cX6_obey 73 = .ok (.iconst 3, 1) := by decide +kernel
theorem dX6_obey_74 : decode cX6_obey 74 = .ok (.iadd, 1) := by decide +kernel
theorem dX6_obey_75 : decode cX6_obey 75 = .ok (.invokevirtual 220, 3) := by decide +kernel
theorem dX6_obey_78 : decode cX6_obey 78 = .ok (.aload_n 0, 1) := by decide +kernel
theorem dX6_obey_79 : decode cX6_obey 79 = .ok (.getfield 33, 3) := by decide +kernel
theorem dX6_obey_82 : decode cX6_obey 82 = .ok (.iload_n 1, 1) := by decide +kernel
theorem dX6_obey_83 : decode cX6_obey 83 = .ok (.iconst 4, 1) := by decide +kernel
theorem dX6_obey_84 : decode cX6_obey 84 = .ok (.iadd, 1) := by decide +kernel
theorem dX6_obey_85 : decode cX6_obey 85 = .ok (.invokevirtual 220, 3) := by decide +kernel
theorem dX6_obey_88 : decode cX6_obey 88 = .ok (.invokevirtual 71, 3) := by decide +kernel
theorem dX6_obey_91 : decode cX6_obey 91 = .ok (.ireturn, 1) := by decide +kernel
theorem dX6_obey_92 : decode cX6_obey 92 = .ok (.aload_n 0, 1) := by decide +kernel
theorem dX6_obey_93 : decode cX6_obey 93 = .ok (.getfield 12, 3) := by decide +kernel
theorem dX6_obey_96 : decode cX6_obey 96 = .ok (.aload_n 0, 1) := by decide +kernel
theorem dX6_obey_97 : decode cX6_obey 97 = .ok (.getfield 33, 3) := by decide +kernel
theorem dX6_obey_100 : decode cX6_obey 100 = .ok (.iload_n 1, 1) := by decide +kernel
theorem dX6_obey_101 : decode cX6_obey 101 = .ok (.iconst 1, 1) := by decide +kernel
theorem dX6_obey_102 : decode cX6_obey 102 = .ok (.iadd, 1) := by decide +kernel
theorem dX6_obey_103 : decode cX6_obey 103 = .ok (.invokevirtual 223, 3) := by decide +kernel
theorem dX6_obey_106 : decode cX6_obey 106 = .ok (.invokevirtual 75, 3) := by decide +kernel
theorem dX6_obey_109 : decode cX6_obey 109 = .ok (.ireturn, 1) := by decide +kernel
theorem dX6_obey_110 : decode cX6_obey 110 = .ok (.aload_n 0, 1) := by decide +kernel
theorem dX6_obey_111 : decode cX6_obey 111 = .ok (.getfield 12, 3) := by decide +kernel
theorem dX6_obey_114 : decode cX6_obey 114 = .ok (.aload_n 0, 1) := by decide +kernel
theorem dX6_obey_115 : decode cX6_obey 115 = .ok (.getfield 33, 3) := by decide +kernel
theorem dX6_obey_118 : decode cX6_obey 118 = .ok (.iload_n 1, 1) := by decide +kernel
theorem dX6_obey_119 : decode cX6_obey 119 = .ok (.iconst 1, 1) := by decide +kernel
theorem dX6_obey_120 : decode cX6_obey 120 = .ok (.iadd, 1) := by decide +kernel
theorem dX6_obey_121 : decode cX6_obey 121 = .ok (.invokevirtual 223, 3) := by decide +kernel
theorem dX6_obey_124 : decode cX6_obey 124 = .ok (.invokevirtual 81, 3) := by decide +kernel
theorem dX6_obey_127 : decode cX6_obey 127 = .ok (.ireturn, 1) := by decide +kernel
theorem dX6_obey_128 : decode cX6_obey 128 = .ok (.bipush (-3), 2) := by decide +kernel
theorem dX6_obey_130 : decode cX6_obey 130 = .ok (.ireturn, 1) := by decide +kernel
theorem dX6_undo_0 : decode cX6_undo 0 = .ok (.aload_n 0, 1) := by decide +kernel
theorem dX6_undo_1 : decode cX6_undo 1 = .ok (.getfield 40, 3) := by decide +kernel
theorem dX6_undo_4 : decode cX6_undo 4 = .ok (.aload_n 0, 1) := by decide +kernel
theorem dX6_undo_5 : decode cX6_undo 5 = .ok (.getfield 12, 3) := by decide +kernel
theorem dX6_undo_8 : decode cX6_undo 8 = .ok (.invokevirtual 226, 3) := by decide +kernel
theorem dX6_undo_11 : decode cX6_undo 11 = .ok (.ireturn, 1) := by decide +kernel
theorem dX6_save_0 : decode cX6_save 0 = .ok (.aload_n 0, 1) := by decide +kernel
theorem dX6_save_1 : decode cX6_save 1 = .ok (.getfield 47, 3) := by decide +kernel
theorem dX6_save_4 : decode cX6_save 4 = .ok (.iload_n 1, 1) := by decide +kernel
theorem dX6_save_5 : decode cX6_save 5 = .ok (.aload_n 0, 1) := by decide +kernel
theorem dX6_save_6 : decode cX6_save 6 = .ok (.getfield 12, 3) := by decide +kernel
theorem dX6_save_9 : decode cX6_save 9 = .ok (.invokevirtual 230, 3) := by decide +kernel
theorem dX6_save_12 : decode cX6_save 12 = .ok (.ireturn, 1) := by decide +kernel
theorem dX6_restore_0 : decode cX6_restore 0 = .ok (.aload_n 0, 1) := by decide +kernel
theorem dX6_restore_1 : decode cX6_restore 1 = .ok (.getfield 40, 3) := by decide +kernel
theorem dX6_restore_4 : decode cX6_restore 4 = .ok (.aload_n 0, 1) := by decide +kernel
theorem dX6_restore_5 : decode cX6_restore 5 = .ok (.getfield 12, 3) := by decide +kernel
theorem dX6_restore_8 : decode cX6_restore 8 = .ok (.invokevirtual 51, 3) := by decide +kernel
theorem dX6_restore_11 : decode cX6_restore 11 = .ok (.aload_n 0, 1) := by decide +kernel
theorem dX6_restore_12 : decode cX6_restore 12 = .ok (.aload_n 0, 1) := by decide +kernel
theorem dX6_restore_13 : decode cX6_restore 13 = .ok (.getfield 47, 3) := by decide +kernel
theorem dX6_restore_16 : decode cX6_restore 16 = .ok (.iload_n 1, 1) := by decide +kernel
theorem dX6_restore_17 : decode cX6_restore 17 = .ok (.aload_n 0, 1) := by decide +kernel
theorem dX6_restore_18 : decode cX6_restore 18 = .ok (.getfield 12, 3) := by decide +kernel
theorem dX6_restore_21 : decode cX6_restore 21 = .ok (.invokevirtual 233, 3) := by decide +kernel
theorem dX6_restore_24 : decode cX6_restore 24 = .ok (.invokevirtual 59, 3) := by decide +kernel
theorem dX6_restore_27 : decode cX6_restore 27 = .ok (.ireturn, 1) := by decide +kernel
theorem dX6_isWithin_0 : decode cX6_isWithin 0 = .ok (.iload_n 0, 1) := by decide +kernel
theorem dX6_isWithin_1 : decode cX6_isWithin 1 = .ok (.iload_n 1, 1) := by decide +kernel
theorem dX6_isWithin_2 : decode cX6_isWithin 2 = .ok (.if_icmp .lt 12, 3) := by decide +kernel
theorem dX6_isWithin_5 : decode cX6_isWithin 5 = .ok (.iload_n 0, 1) := by decide +kernel
theorem dX6_isWithin_6 : decode cX6_isWithin 6 = .ok (.iload_n 2, 1) := by decide +kernel
theorem dX6_isWithin_7 : decode cX6_isWithin 7 = .ok (.if_icmp .gt 7, 3) := by decide +kernel
theorem dX6_isWithin_10 : decode cX6_isWithin 10 = .ok (.iconst 1, 1) := by decide +kernel
theorem dX6_isWithin_11 : decode cX6_isWithin 11 = .ok (.goto 4, 3) := by decide +kernel
theorem dX6_isWithin_14 : decode cX6_isWithin 14 = .ok (.iconst 0, 1) := by decide +kernel
theorem dX6_isWithin_15 : decode cX6_isWithin 15 = .ok (.ireturn, 1) := by decide +kernel
theorem dX6_isTicks_0 : decode cX6_isTicks 0 = .ok (.iload_n 0, 1) := by decide +kernel
theorem dX6_isTicks_1 : decode cX6_isTicks 1 = .ok (.iconst 1, 1) := by decide +kernel
theorem dX6_isTicks_2 : decode cX6_isTicks 2 = .ok (.bipush 100, 2) := by decide +kernel
theorem dX6_isTicks_4 : decode cX6_isTicks 4 = .ok (.invokestatic 113, 3) := by decide +kernel
theorem dX6_isTicks_7 : decode cX6_isTicks 7 = .ok (.ireturn, 1) := by decide +kernel
theorem dX6_areBounds_0 : decode cX6_areBounds 0 = .ok (.iload_n 0, 1) := by decide +kernel
theorem dX6_areBounds_1 : decode cX6_areBounds 1 = .ok (.iconst 1, 1) := by decide +kernel
theorem dX6_areBounds_2 : decode cX6_areBounds 2 = .ok (.sipush 200, 3) := by decide +kernel
theorem dX6_areBounds_5 : decode cX6_areBounds 5 = .ok (.invokestatic 113, 3) := by decide +kernel
theorem dX6_areBounds_8 : decode cX6_areBounds 8 = .ok (.ifCond .eq 16, 3) := by decide +kernel
theorem dX6_areBounds_11 : decode cX6_areBounds 11 = .ok (.iload_n 1, 1) := by decide +kernel
theorem dX6_areBounds_12 : decode cX6_areBounds 12 = .ok (.iconst 1, 1) := by decide +kernel
theorem dX6_areBounds_13 : decode cX6_areBounds 13 = .ok (.iload_n 0, 1) := by decide +kernel
theorem dX6_areBounds_14 : decode cX6_areBounds 14 = .ok (.invokestatic 113, 3) := by decide +kernel
theorem dX6_areBounds_17 : decode cX6_areBounds 17 = .ok (.ifCond .eq 7, 3) := by decide +kernel
theorem dX6_areBounds_20 : decode cX6_areBounds 20 = .ok (.iconst 1, 1) := by decide +kernel
theorem dX6_areBounds_21 : decode cX6_areBounds 21 = .ok (.goto 4, 3) := by decide +kernel
theorem dX6_areBounds_24 : decode cX6_areBounds 24 = .ok (.iconst 0, 1) := by decide +kernel
theorem dX6_areBounds_25 : decode cX6_areBounds 25 = .ok (.ireturn, 1) := by decide +kernel
theorem dX7_init_0 : decode cX7_init 0 = .ok (.aload_n 0, 1) := by decide +kernel
theorem dX7_init_1 : decode cX7_init 1 = .ok (.invokespecial 1, 3) := by decide +kernel
theorem dX7_init_4 : decode cX7_init 4 = .ok (.aload_n 0, 1) := by decide +kernel
theorem dX7_init_5 : decode cX7_init 5 = .ok (.sipush 470, 3) := by decide +kernel
theorem dX7_init_8 : decode cX7_init 8 = .ok (.newarray .int, 2) := by decide +kernel
theorem dX7_init_10 : decode cX7_init 10 = .ok (.putfield 7, 3) := by decide +kernel
theorem dX7_init_13 : decode cX7_init 13 = .ok (.aload_n 0, 1) := by decide +kernel
theorem dX7_init_14 : decode cX7_init 14 = .ok (.sipush 470, 3) := by decide +kernel
theorem dX7_init_17 : decode cX7_init 17 = .ok (.newarray .int, 2) := by decide +kernel
theorem dX7_init_19 : decode cX7_init 19 = .ok (.putfield 13, 3) := by decide +kernel
theorem dX7_init_22 : decode cX7_init 22 = .ok (.aload_n 0, 1) := by decide +kernel
theorem dX7_init_23 : decode cX7_init 23 = .ok (.sipush 2820, 3) := by decide +kernel
theorem dX7_init_26 : decode cX7_init 26 = .ok (.newarray .int, 2) := by decide +kernel
theorem dX7_init_28 : decode cX7_init 28 = .ok (.putfield 16, 3) := by decide +kernel
theorem dX7_init_31 : decode cX7_init 31 = .ok (.aload_n 0, 1) := by decide +kernel
theorem dX7_init_32 : decode cX7_init 32 = .ok (.sipush 940, 3) := by decide +kernel
theorem dX7_init_35 : decode cX7_init 35 = .ok (.newarray .int, 2) := by decide +kernel
theorem dX7_init_37 : decode cX7_init 37 = .ok (.putfield 19, 3) := by decide +kernel
theorem dX7_init_40 : decode cX7_init 40 = .ok (.aload_n 0, 1) := by decide +kernel
theorem dX7_init_41 : decode cX7_init 41 = .ok (.iconst 2, 1) := by decide +kernel
theorem dX7_init_42 : decode cX7_init 42 = .ok (.newarray .boolean, 2) := by decide +kernel
theorem dX7_init_44 : decode cX7_init 44 = .ok (.putfield 22, 3) := by decide +kernel
theorem dX7_init_47 : decode cX7_init 47 = .ok (.aload_n 0, 1) := by decide +kernel
theorem dX7_init_48 : decode cX7_init 48 = .ok (.bipush 60, 2) := by decide +kernel
theorem dX7_init_50 : decode cX7_init 50 = .ok (.newarray .int, 2) := by decide +kernel
theorem dX7_init_52 : decode cX7_init 52 = .ok (.putfield 26, 3) := by decide +kernel
theorem dX7_init_55 : decode cX7_init 55 = .ok (.aload_n 0, 1) := by decide +kernel
theorem dX7_init_56 : decode cX7_init 56 = .ok (.bipush 80, 2) := by decide +kernel
theorem dX7_init_58 : decode cX7_init 58 = .ok (.newarray .int, 2) := by decide +kernel
theorem dX7_init_60 : decode cX7_init 60 = .ok (.putfield 29, 3) := by decide +kernel
theorem dX7_init_63 : decode cX7_init 63 = .ok (.aload_n 0, 1) := by decide +kernel
theorem dX7_init_64 : decode cX7_init 64 = .ok (.bipush 40, 2) := by decide +kernel
theorem dX7_init_66 : decode cX7_init 66 = .ok (.newarray .int, 2) := by decide +kernel
theorem dX7_init_68 : decode cX7_init 68 = .ok (.putfield 32, 3) := by decide +kernel
theorem dX7_init_71 : decode cX7_init 71 = .ok (.aload_n 0, 1) := by decide +kernel
theorem dX7_init_72 : decode cX7_init 72 = .ok (.sipush 150, 3) := by decide +kernel
theorem dX7_init_75 : decode cX7_init 75 = .ok (.newarray .int, 2) := by decide +kernel
theorem dX7_init_77 : decode cX7_init 77 = .ok (.putfield 35, 3) := by decide +kernel
theorem dX7_init_80 : decode cX7_init 80 = .ok (.aload_n 0, 1) := by decide +kernel
theorem dX7_init_81 : decode cX7_init 81 = .ok (.getfield 7, 3) := by decide +kernel
theorem dX7_init_84 : decode cX7_init 84 = .ok (.iconst 0, 1) := by decide +kernel
theorem dX7_init_85 : decode cX7_init 85 = .ok (.iconst 1, 1) := by decide +kernel
theorem dX7_init_86 : decode cX7_init 86 = .ok (.iastore, 1) := by decide +kernel
theorem dX7_init_87 : decode cX7_init 87 = .ok (.aload_n 0, 1) := by decide +kernel
theorem dX7_init_88 : decode cX7_init 88 = .ok (.getfield 7, 3) := by decide +kernel
theorem dX7_init_91 : decode cX7_init 91 = .ok (.iconst 1, 1) := by decide +kernel
theorem dX7_init_92 : decode cX7_init 92 = .ok (.iconst 1, 1) := by decide +kernel
theorem dX7_init_93 : decode cX7_init 93 = .ok (.iastore, 1) := by decide +kernel
theorem dX7_init_94 : decode cX7_init 94 = .ok (.return_, 1) := by decide +kernel
theorem dX7_in_0 : decode cX7_in 0 = .ok (.iload_n 0, 1) := by decide +kernel
theorem dX7_in_1 : decode cX7_in 1 = .ok (.iload_n 1, 1) := by decide +kernel
theorem dX7_in_2 : decode cX7_in 2 = .ok (.if_icmp .lt 12, 3) := by decide +kernel
theorem dX7_in_5 : decode cX7_in 5 = .ok (.iload_n 0, 1) := by decide +kernel
theorem dX7_in_6 : decode cX7_in 6 = .ok (.iload_n 2, 1) := by decide +kernel
theorem dX7_in_7 : decode cX7_in 7 = .ok (.if_icmp .gt 7, 3) := by decide +kernel
theorem dX7_in_10 : decode cX7_in 10 = .ok (.iconst 1, 1) := by decide +kernel
theorem dX7_in_11 : decode cX7_in 11 = .ok (.goto 4, 3) := by decide +kernel
theorem dX7_in_14 : decode cX7_in 14 = .ok (.iconst 0, 1) := by decide +kernel
theorem dX7_in_15 : decode cX7_in 15 = .ok (.ireturn, 1) := by decide +kernel
theorem dX7_record_0 : decode cX7_record 0 = .ok (.aload_n 0, 1) := by decide +kernel
theorem dX7_record_1 : decode cX7_record 1 = .ok (.getfield 38, 3) := by decide +kernel
theorem dX7_record_4 : decode cX7_record 4 = .ok (.ifCond .eq 4, 3) := by decide +kernel
theorem dX7_record_7 : decode cX7_record 7 = .ok (.return_, 1) := by decide +kernel
theorem dX7_record_8 : decode cX7_record 8 = .ok (.aload_n 0, 1) := by decide +kernel
theorem dX7_record_9 : decode cX7_record 9 = .ok (.getfield 42, 3) := by decide +kernel
theorem dX7_record_12 : decode cX7_record 12 = .ok (.bipush 6, 2) := by decide +kernel
theorem dX7_record_14 : decode cX7_record 14 = .ok (.if_icmp .ne 39, 3) := by decide +kernel
theorem dX7_record_17 : decode cX7_record 17 = .ok (.iconst 0, 1) := by decide +kernel
theorem dX7_record_18 : decode cX7_record 18 = .ok (.istore_n 1, 1) := by decide +kernel
theorem dX7_record_19 : decode cX7_record 19 = .ok (.iload_n 1, 1) := by decide +kernel
theorem dX7_record_20 : decode cX7_record 20 = .ok (.sipush 2350, 3) := by decide +kernel
theorem dX7_record_23 : decode cX7_record 23 = .ok (.if_icmp .ge 25, 3) := by decide +kernel
theorem dX7_record_26 : decode cX7_record 26 = .ok (.aload_n 0, 1) := by decide +kernel
theorem dX7_record_27 : decode cX7_record 27 = .ok (.getfield 16, 3) := by decide +kernel
theorem dX7_record_30 : decode cX7_record 30 = .ok (.iload_n 1, 1) := by decide +kernel
theorem dX7_record_31 : decode cX7_record 31 = .ok (.aload_n 0, 1) := by decide +kernel
theorem dX7_record_32 : decode cX7_record 32 = .ok (.getfield 16, 3) := by decide +kernel
theorem dX7_record_35 : decode cX7_record 35 = .ok (.iload_n 1, 1) := by decide +kernel
theorem dX7_record_36 : decode cX7_record 36 = .ok (.sipush 470, 3) := by decide +kernel
theorem dX7_record_39 : decode cX7_record 39 = .ok (.iadd, 1) := by decide +kernel
theorem dX7_record_40 : decode cX7_record 40 = .ok (.iaload, 1) := by decide +kernel
theorem dX7_record_41 : decode cX7_record 41 = .ok (.iastore, 1) := by decide +kernel
theorem dX7_record_42 : decode cX7_record 42 = .ok (.iinc 1 1, 3) := by decide +kernel
theorem dX7_record_45 : decode cX7_record 45 = .ok (.goto (-26), 3) := by decide +kernel
theorem dX7_record_48 : decode cX7_record 48 = .ok (.aload_n 0, 1) := by decide +kernel
theorem dX7_record_49 : decode cX7_record 49 = .ok (.iconst 5, 1) := by decide +kernel
theorem dX7_record_50 : decode cX7_record 50 = .ok (.putfield 42, 3) := by decide +kernel
theorem dX7_record_53 : decode cX7_record 53 = .ok (.iconst 0, 1) := by decide +kernel
theorem dX7_record_54 : decode cX7_record 54 = .ok (.istore_n 1, 1) := by decide +kernel
theorem dX7_record_55 : decode cX7_record 55 = .ok (.iload_n 1, 1) := by decide +kernel
theorem dX7_record_56 : decode cX7_record 56 = .ok (.sipush 470, 3) := by decide +kernel
theorem dX7_record_59 : decode cX7_record 59 = .ok (.if_icmp .ge 30, 3) := by decide +kernel
theorem dX7_record_62 : decode cX7_record 62 = .ok (.aload_n 0, 1) := by decide +kernel
theorem dX7_record_63 : decode cX7_record 63 = .ok (.getfield 16, 3) := by decide +kernel
theorem dX7_record_66 : decode cX7_record 66 = .ok (.aload_n 0, 1) := by decide +kernel
theorem dX7_record_67 : decode cX7_record 67 = .ok (.getfield 42, 3) := by decide +kernel
theorem dX7_record_70 : decode cX7_record 70 = .ok (.sipush 470, 3) := by decide +kernel
theorem dX7_record_73 : decode cX7_record 73 = .ok (.imul, 1) := by decide +kernel
theorem dX7_record_74 : decode cX7_record 74 = .ok (.iload_n 1, 1) := by decide +kernel
theorem dX7_record_75 : decode cX7_record 75 = .ok (.iadd, 1) := by decide +kernel
theorem dX7_record_76 : decode cX7_record 76 = .ok (.aload_n 0, 1) := by decide +kernel
theorem dX7_record_77 : decode cX7_record 77 = .ok (.getfield 7, 3) := by decide +kernel
theorem dX7_record_80 : decode cX7_record 80 = .ok (.iload_n 1, 1) := by decide +kernel
theorem dX7_record_81 : decode cX7_record 81 = .ok (.iaload, 1) := by decide +kernel
theorem dX7_record_82 : decode cX7_record 82 = .ok (.iastore, 1) := by decide +kernel
theorem dX7_record_83 : decode cX7_record 83 = .ok (.iinc 1 1, 3) := by decide +kernel
theorem dX7_record_86 : decode cX7_record 86 = .ok (.goto (-31), 3) := by decide +kernel
theorem dX7_record_89 : decode cX7_record 89 = .ok (.aload_n 0, 1) := by decide +kernel
theorem dX7_record_90 : decode cX7_record 90 = .ok (.dup, 1) := by decide +kernel
theorem dX7_record_91 : decode cX7_record 91 = .ok (.getfield 42, 3) := by decide +kernel
theorem dX7_record_94 : decode cX7_record 94 = .ok (.iconst 1, 1) := by decide +kernel
theorem dX7_record_95 : decode cX7_record 95 = .ok (.iadd, 1) := by decide +kernel
theorem dX7_record_96 : decode cX7_record 96 = .ok (.putfield 42, 3) := by decide +kernel
theorem dX7_record_99 : decode cX7_record 99 = .ok (.return_, 1) := by decide +kernel
theorem dX7_keep_0 : decode cX7_keep 0 = .ok (.iconst 0, 1) := by decide +kernel
theorem dX7_keep_1 : decode cX7_keep 1 = .ok (.istore_n 1, 1) := by decide +kernel
theorem dX7_keep_2 : decode cX7_keep 2 = .ok (.iload_n 1, 1) := by decide +kernel
theorem dX7_keep_3 : decode cX7_keep 3 = .ok (.sipush 470, 3) := by decide +kernel
theorem dX7_keep_6 : decode cX7_keep 6 = .ok (.if_icmp .ge 21, 3) := by decide +kernel
theorem dX7_keep_9 : decode cX7_keep 9 = .ok (.aload_n 0, 1) := by decide +kernel
theorem dX7_keep_10 : decode cX7_keep 10 = .ok (.getfield 13, 3) := by decide +kernel
theorem dX7_keep_13 : decode cX7_keep 13 = .ok (.iload_n 1, 1) := by decide +kernel
theorem dX7_keep_14 : decode cX7_keep 14 = .ok (.aload_n 0, 1) := by decide +kernel
theorem dX7_keep_15 : decode cX7_keep 15 = .ok (.getfield 7, 3) := by decide +kernel
theorem dX7_keep_18 : decode cX7_keep 18 = .ok (.iload_n 1, 1) := by decide +kernel
theorem dX7_keep_19 : decode cX7_keep 19 = .ok (.iaload, 1) := by decide +kernel
theorem dX7_keep_20 : decode cX7_keep 20 = .ok (.iastore, 1) := by decide +kernel
theorem dX7_keep_21 : decode cX7_keep 21 = .ok (.iinc 1 1, 3) := by decide +kernel
theorem dX7_keep_24 : decode cX7_keep 24 = .ok (.goto (-22), 3) := by decide +kernel
theorem dX7_keep_27 : decode cX7_keep 27 = .ok (.return_, 1) := by decide +kernel
theorem dX7_comeBack_0 : decode cX7_comeBack 0 = .ok (.iconst 0, 1) := by decide +kernel
theorem dX7_comeBack_1 : decode cX7_comeBack 1 = .ok (.istore_n 1, 1) := by decide +kernel
theorem dX7_comeBack_2 : decode cX7_comeBack 2 = .ok (.iload_n 1, 1) := by decide +kernel
theorem dX7_comeBack_3 : decode cX7_comeBack 3 = .ok (.sipush 470, 3) := by decide +kernel
theorem dX7_comeBack_6 : decode cX7_comeBack 6 = .ok (.if_icmp .ge 21, 3) := by decide +kernel
theorem dX7_comeBack_9 : decode cX7_comeBack 9 = .ok (.aload_n 0, 1) := by decide +kernel
theorem dX7_comeBack_10 : decode cX7_comeBack 10 = .ok (.getfield 7, 3) := by decide +kernel
theorem dX7_comeBack_13 : decode cX7_comeBack 13 = .ok (.iload_n 1, 1) := by decide +kernel
theorem dX7_comeBack_14 : decode cX7_comeBack 14 = .ok (.aload_n 0, 1) := by decide +kernel
theorem dX7_comeBack_15 : decode cX7_comeBack 15 = .ok (.getfield 13, 3) := by decide +kernel
theorem dX7_comeBack_18 : decode cX7_comeBack 18 = .ok (.iload_n 1, 1) := by decide +kernel
theorem dX7_comeBack_19 : decode cX7_comeBack 19 = .ok (.iaload, 1) := by decide +kernel
theorem dX7_comeBack_20 : decode cX7_comeBack 20 = .ok (.iastore, 1) := by decide +kernel
theorem dX7_comeBack_21 : decode cX7_comeBack 21 = .ok (.iinc 1 1, 3) := by decide +kernel
theorem dX7_comeBack_24 : decode cX7_comeBack 24 = .ok (.goto (-22), 3) := by decide +kernel
theorem dX7_comeBack_27 : decode cX7_comeBack 27 = .ok (.return_, 1) := by decide +kernel
theorem dX7_ofC_0 : decode cX7_ofC 0 = .ok (.aload_n 0, 1) := by decide +kernel
theorem dX7_ofC_1 : decode cX7_ofC 1 = .ok (.getfield 7, 3) := by decide +kernel
theorem dX7_ofC_4 : decode cX7_ofC 4 = .ok (.bipush 70, 2) := by decide +kernel
theorem dX7_ofC_6 : decode cX7_ofC 6 = .ok (.bipush 10, 2) := by decide +kernel
theorem dX7_ofC_8 : decode cX7_ofC 8 = .ok (.iload_n 1, 1) := by decide +kernel
theorem dX7_ofC_9 : decode cX7_ofC 9 = .ok (.imul, 1) := by decide +kernel
theorem dX7_ofC_10 : decode cX7_ofC 10 = .ok (.iadd, 1) := by decide +kernel
theorem dX7_ofC_11 : decode cX7_ofC 11 = .ok (.iload_n 2, 1) := by decide +kernel
theorem dX7_ofC_12 : decode cX7_ofC 12 = .ok (.iadd, 1) := by decide +kernel
theorem dX7_ofC_13 : decode cX7_ofC 13 = .ok (.iaload, 1) := by decide +kernel
theorem dX7_ofC_14 : decode cX7_ofC 14 = .ok (.ireturn, 1) := by decide +kernel
theorem dX7_bookC_0 : decode cX7_bookC 0 = .ok (.aload_n 0, 1) := by decide +kernel
theorem dX7_bookC_1 : decode cX7_bookC 1 = .ok (.getfield 7, 3) := by decide +kernel
theorem dX7_bookC_4 : decode cX7_bookC 4 = .ok (.bipush 70, 2) := by decide +kernel
theorem dX7_bookC_6 : decode cX7_bookC 6 = .ok (.bipush 10, 2) := by decide +kernel
theorem dX7_bookC_8 : decode cX7_bookC 8 = .ok (.iload_n 1, 1) := by decide +kernel
theorem dX7_bookC_9 : decode cX7_bookC 9 = .ok (.imul, 1) := by decide +kernel
theorem dX7_bookC_10 : decode cX7_bookC 10 = .ok (.iadd, 1) := by decide +kernel
theorem dX7_bookC_11 : decode cX7_bookC 11 = .ok (.iload_n 2, 1) := by decide +kernel
theorem dX7_bookC_12 : decode cX7_bookC 12 = .ok (.iadd, 1) := by decide +kernel
theorem dX7_bookC_13 : decode cX7_bookC 13 = .ok (.iload_n 3, 1) := by decide +kernel
theorem dX7_bookC_14 : decode cX7_bookC 14 = .ok (.iastore, 1) := by decide +kernel
theorem dX7_bookC_15 : decode cX7_bookC 15 = .ok (.return_, 1) := by decide +kernel
theorem dX7_ofL_0 : decode cX7_ofL 0 = .ok (.aload_n 0, 1) := by decide +kernel
theorem dX7_ofL_1 : decode cX7_ofL 1 = .ok (.getfield 7, 3) := by decide +kernel
theorem dX7_ofL_4 : decode cX7_ofL 4 = .ok (.bipush 10, 2) := by decide +kernel
theorem dX7_ofL_6 : decode cX7_ofL 6 = .ok (.bipush 10, 2) := by decide +kernel
theorem dX7_ofL_8 : decode cX7_ofL 8 = .ok (.iload_n 1, 1) := by decide +kernel
theorem dX7_ofL_9 : decode cX7_ofL 9 = .ok (.imul, 1) := by decide +kernel
theorem dX7_ofL_10 : decode cX7_ofL 10 = .ok (.iadd, 1) := by decide +kernel
theorem dX7_ofL_11 : decode cX7_ofL 11 = .ok (.iload_n 2, 1) := by decide +kernel
theorem dX7_ofL_12 : decode cX7_ofL 12 = .ok (.iadd, 1) := by decide +kernel
theorem dX7_ofL_13 : decode cX7_ofL 13 = .ok (.iaload, 1) := by decide +kernel
theorem dX7_ofL_14 : decode cX7_ofL 14 = .ok (.ireturn, 1) := by decide +kernel
theorem dX7_bookL_0 : decode cX7_bookL 0 = .ok (.aload_n 0, 1) := by decide +kernel
theorem dX7_bookL_1 : decode cX7_bookL 1 = .ok (.getfield 7, 3) := by decide +kernel
theorem dX7_bookL_4 : decode cX7_bookL 4 = .ok (.bipush 10, 2) := by decide +kernel
theorem dX7_bookL_6 : decode cX7_bookL 6 = .ok (.bipush 10, 2) := by decide +kernel
theorem dX7_bookL_8 : decode cX7_bookL 8 = .ok (.iload_n 1, 1) := by decide +kernel
theorem dX7_bookL_9 : decode cX7_bookL 9 = .ok (.imul, 1) := by decide +kernel
theorem dX7_bookL_10 : decode cX7_bookL 10 = .ok (.iadd, 1) := by decide +kernel
theorem dX7_bookL_11 : decode cX7_bookL 11 = .ok (.iload_n 2, 1) := by decide +kernel
theorem dX7_bookL_12 : decode cX7_bookL 12 = .ok (.iadd, 1) := by decide +kernel
theorem dX7_bookL_13 : decode cX7_bookL 13 = .ok (.iload_n 3, 1) := by decide +kernel
theorem dX7_bookL_14 : decode cX7_bookL 14 = .ok (.iastore, 1) := by decide +kernel
theorem dX7_bookL_15 : decode cX7_bookL 15 = .ok (.return_, 1) := by decide +kernel
theorem dX7_isOn_0 : decode cX7_isOn 0 = .ok (.aload_n 0, 1) := by decide +kernel
theorem dX7_isOn_1 : decode cX7_isOn 1 = .ok (.iload_n 1, 1) := by decide +kernel
theorem dX7_isOn_2 : decode cX7_isOn 2 = .ok (.iconst 5, 1) := by decide +kernel
theorem dX7_isOn_3 : decode cX7_isOn 3 = .ok (.invokevirtual 46, 3) := by decide +kernel
theorem dX7_isOn_6 : decode cX7_isOn 6 = .ok (.ifCond .ne 7, 3) := by decide +kernel
theorem dX7_isOn_9 : decode cX7_isOn 9 = .ok (.iconst 1, 1) := by decide +kernel
theorem dX7_isOn_10 : decode cX7_isOn 10 = .ok (.goto 4, 3) := by decide +kernel
theorem dX7_isOn_13 : decode cX7_isOn 13 = .ok (.iconst 0, 1) := by decide +kernel
theorem dX7_isOn_14 : decode cX7_isOn 14 = .ok (.ireturn, 1) := by decide +kernel
theorem dX7_lastCell_0 : decode cX7_lastCell 0 = .ok (.aload_n 0, 1) := by decide +kernel
theorem dX7_lastCell_1 : decode cX7_lastCell 1 = .ok (.iload_n 1, 1) := by decide +kernel
theorem dX7_lastCell_2 : decode cX7_lastCell 2 = .ok (.iconst 1, 1) := by decide +kernel
theorem dX7_lastCell_3 : decode cX7_lastCell 3 = .ok (.invokevirtual 46, 3) := by decide +kernel
theorem dX7_lastCell_6 : decode cX7_lastCell 6 = .ok (.aload_n 0, 1) := by decide +kernel
theorem dX7_lastCell_7 : decode cX7_lastCell 7 = .ok (.iload_n 1, 1) := by decide +kernel
theorem dX7_lastCell_8 : decode cX7_lastCell 8 = .ok (.iconst 2, 1) := by decide +kernel
theorem dX7_lastCell_9 : decode cX7_lastCell 9 = .ok (.invokevirtual 46, 3) := by decide +kernel
theorem dX7_lastCell_12 : decode cX7_lastCell 12 = .ok (.isub, 1) := by decide +kernel
theorem dX7_lastCell_13 : decode cX7_lastCell 13 = .ok (.iconst 1, 1) := by decide +kernel
theorem dX7_lastCell_14 : decode cX7_lastCell 14 = .ok (.iadd, 1) := by decide +kernel
theorem dX7_lastCell_15 : decode cX7_lastCell 15 = .ok (.ireturn, 1) := by decide +kernel
theorem dX7_mark_0 : decode cX7_mark 0 = .ok (.aload_n 0, 1) := by decide +kernel
theorem dX7_mark_1 : decode cX7_mark 1 = .ok (.iload_n 1, 1) := by decide +kernel
theorem dX7_mark_2 : decode cX7_mark 2 = .ok (.invokevirtual 50, 3) := by decide +kernel
theorem dX7_mark_5 : decode cX7_mark 5 = .ok (.istore_n 3, 1) := by decide +kernel
theorem dX7_mark_6 : decode cX7_mark 6 = .ok (.iload_n 3, 1) := by decide +kernel
theorem dX7_mark_7 : decode cX7_mark 7 = .ok (.aload_n 0, 1) := by decide +kernel
theorem dX7_mark_8 : decode cX7_mark 8 = .ok (.iload_n 1, 1) := by decide +kernel
theorem dX7_mark_9 : decode cX7_mark 9 = .ok (.iconst 1, 1) := by decide +kernel
theorem dX7_mark_10 : decode cX7_mark 10 = .ok (.invokevirtual 46, 3) := by decide +kernel
theorem dX7_mark_13 : decode cX7_mark 13 = .ok (.if_icmp .gt 36, 3) := by decide +kernel
theorem dX7_mark_16 : decode cX7_mark 16 = .ok (.iload_n 3, 1) := by decide +kernel
theorem dX7_mark_17 : decode cX7_mark 17 = .ok (.iconst 0, 1) := by decide +kernel
theorem dX7_mark_18 : decode cX7_mark 18 = .ok (.bipush 39, 2) := by decide +kernel
theorem dX7_mark_20 : decode cX7_mark 20 = .ok (.invokestatic 54, 3) := by decide +kernel
theorem dX7_mark_23 : decode cX7_mark 23 = .ok (.ifCond .eq 20, 3) := by decide +kernel
theorem dX7_mark_26 : decode cX7_mark 26 = .ok (.aload_n 0, 1) := by decide +kernel
theorem dX7_mark_27 : decode cX7_mark 27 = .ok (.getfield 29, 3) := by decide +kernel
theorem dX7_mark_30 : decode cX7_mark 30 = .ok (.bipush 40, 2) := by decide +kernel
theorem dX7_mark_32 : decode cX7_mark 32 = .ok (.aload_n 0, 1) := by decide +kernel
theorem dX7_mark_33 : decode cX7_mark 33 = .ok (.iload_n 1, 1) := by decide +kernel
theorem dX7_mark_34 : decode cX7_mark 34 = .ok (.iconst 0, 1) := by decide +kernel
theorem dX7_mark_35 : decode cX7_mark 35 = .ok (.invokevirtual 46, 3) := by decide +kernel
theorem dX7_mark_38 : decode cX7_mark 38 = .ok (.imul, 1) := by decide +kernel
theorem dX7_mark_39 : decode cX7_mark 39 = .ok (.iload_n 3, 1) := by decide +kernel
theorem dX7_mark_40 : decode cX7_mark 40 = .ok (.iadd, 1) := by decide +kernel
theorem dX7_mark_41 : decode cX7_mark 41 = .ok (.iload_n 2, 1) := by decide +kernel
theorem dX7_mark_42 : decode cX7_mark 42 = .ok (.iastore, 1) := by decide +kernel
theorem dX7_mark_43 : decode cX7_mark 43 = .ok (.iinc 3 1, 3) := by decide +kernel
theorem dX7_mark_46 : decode cX7_mark 46 = .ok (.goto (-40), 3) := by decide +kernel
theorem dX7_mark_49 : decode cX7_mark 49 = .ok (.return_, 1) := by decide +kernel
theorem dX7_layCells_0 : decode cX7_layCells 0 = .ok (.iconst 0, 1) := by decide +kernel
theorem dX7_layCells_1 : decode cX7_layCells 1 = .ok (.istore_n 1, 1) := by decide +kernel
theorem dX7_layCells_2 : decode cX7_layCells 2 = .ok (.iload_n 1, 1) := by decide +kernel
theorem dX7_layCells_3 : decode cX7_layCells 3 = .ok (.bipush 80, 2) := by decide +kernel
theorem dX7_layCells_5 : decode cX7_layCells 5 = .ok (.if_icmp .ge 17, 3) := by decide +kernel
theorem dX7_layCells_8 : decode cX7_layCells 8 = .ok (.aload_n 0, 1) := by decide +kernel
theorem dX7_layCells_9 : decode cX7_layCells 9 = .ok (.getfield 29, 3) := by decide +kernel
theorem dX7_layCells_12 : decode cX7_layCells 12 = .ok (.iload_n 1, 1) := by decide +kernel
theorem dX7_layCells_13 : decode cX7_layCells 13 = .ok (.bipush (-6), 2) := by decide +kernel
theorem dX7_layCells_15 : decode cX7_layCells 15 = .ok (.iastore, 1) := by decide +kernel
theorem dX7_layCells_16 : decode cX7_layCells 16 = .ok (.iinc 1 1, 3) := by decide +kernel
theorem dX7_layCells_19 : decode cX7_layCells 19 = .ok (.goto (-17), 3) := by decide +kernel
theorem dX7_layCells_22 : decode cX7_layCells 22 = .ok (.iconst 0, 1) := by decide +kernel
theorem dX7_layCells_23 : decode cX7_layCells 23 = .ok (.istore_n 1, 1) := by decide +kernel
theorem dX7_layCells_24 : decode cX7_layCells 24 = .ok (.iload_n 1, 1) := by decide +kernel
theorem dX7_layCells_25 : decode cX7_layCells 25 = .ok (.aload_n 0, 1) := by decide +kernel
theorem dX7_layCells_26 : decode cX7_layCells 26 = .ok (.getfield 7, 3) := by decide +kernel
theorem dX7_layCells_29 : decode cX7_layCells 29 = .ok (.iconst 4, 1) := by decide +kernel
theorem dX7_layCells_30 : decode cX7_layCells 30 = .ok (.iaload, 1) := by decide +kernel
theorem dX7_layCells_31 : decode cX7_layCells 31 = .ok (.if_icmp .ge 23, 3) := by decide +kernel
theorem dX7_layCells_34 : decode cX7_layCells 34 = .ok (.aload_n 0, 1) := by decide +kernel
theorem dX7_layCells_35 : decode cX7_layCells 35 = .ok (.iload_n 1, 1) := by decide +kernel
theorem dX7_layCells_36 : decode cX7_layCells 36 = .ok (.invokevirtual 58, 3) := by decide +kernel
theorem dX7_layCells_39 : decode cX7_layCells 39 = .ok (.ifCond .eq 9, 3) := by decide +kernel
theorem dX7_layCells_42 : decode cX7_layCells 42 = .ok (.aload_n 0, 1) := by decide +kernel
theorem dX7_layCells_43 : decode cX7_layCells 43 = .ok (.iload_n 1, 1) := by decide +kernel
theorem dX7_layCells_44 : decode cX7_layCells 44 = .ok (.iload_n 1, 1) := by decide +kernel
theorem dX7_layCells_45 : decode cX7_layCells 45 = .ok (.invokevirtual 62, 3) := by decide +kernel
theorem dX7_layCells_48 : decode cX7_layCells 48 = .ok (.iinc 1 1, 3) := by decide +kernel
theorem dX7_layCells_51 : decode cX7_layCells 51 = .ok (.goto (-27), 3) := by decide +kernel
theorem dX7_layCells_54 : decode cX7_layCells 54 = .ok (.return_, 1) := by decide +kernel
theorem dX7_isFree_0 : decode cX7_isFree 0 = .ok (.iload_n 2, 1) := by decide +kernel
theorem dX7_isFree_1 : decode cX7_isFree 1 = .ok (.iconst 0, 1) := by decide +kernel
theorem dX7_isFree_2 : decode cX7_isFree 2 = .ok (.bipush 39, 2) := by decide +kernel
theorem dX7_isFree_4 : decode cX7_isFree 4 = .ok (.invokestatic 54, 3) := by decide +kernel
theorem dX7_isFree_7 : decode cX7_isFree 7 = .ok (.ifCond .eq 17, 3) := by decide +kernel
theorem dX7_isFree_10 : decode cX7_isFree 10 = .ok (.aload_n 0, 1) := by decide +kernel
theorem dX7_isFree_11 : decode cX7_isFree 11 = .ok (.getfield 29, 3) := by decide +kernel
theorem dX7_isFree_14 : decode cX7_isFree 14 = .ok (.bipush 40, 2) := by decide +kernel
theorem dX7_isFree_16 : decode cX7_isFree 16 = .ok (.iload_n 1, 1) := by decide +kernel
theorem dX7_isFree_17 : decode cX7_isFree 17 = .ok (.imul, 1) := by decide +kernel
theorem dX7_isFree_18 : decode cX7_isFree 18 = .ok (.iload_n 2, 1) := by decide +kernel
theorem dX7_isFree_19 : decode cX7_isFree 19 = .ok (.iadd, 1) := by decide +kernel
theorem dX7_isFree_20 : decode cX7_isFree 20 = .ok (.iaload, 1) := by decide +kernel
theorem dX7_isFree_21 : decode cX7_isFree 21 = .ok (.ifCond .ge 7, 3) := by decide +kernel
theorem dX7_isFree_24 : decode cX7_isFree 24 = .ok (.iconst 1, 1) := by decide +kernel
theorem dX7_isFree_25 : decode cX7_isFree 25 = .ok (.goto 4, 3) := by decide +kernel
theorem dX7_isFree_28 : decode cX7_isFree 28 = .ok (.iconst 0, 1) := by decide +kernel
theorem dX7_isFree_29 : decode cX7_isFree 29 = .ok (.ireturn, 1) := by decide +kernel
theorem dX7_canChange_0 : decode cX7_canChange 0 = .ok (.aload_n 0, 1) := by decide +kernel
theorem dX7_canChange_1 : decode cX7_canChange 1 = .ok (.iload_n 1, 1) := by decide +kernel
theorem dX7_canChange_2 : decode cX7_canChange 2 = .ok (.bipush 6, 2) := by decide +kernel
theorem dX7_canChange_4 : decode cX7_canChange 4 = .ok (.invokevirtual 46, 3) := by decide +kernel
theorem dX7_canChange_7 : decode cX7_canChange 7 = .ok (.iconst 1, 1) := by decide +kernel
theorem dX7_canChange_8 : decode cX7_canChange 8 = .ok (.if_icmp .ne 7, 3) := by decide +kernel
theorem dX7_canChange_11 : decode cX7_canChange 11 = .ok (.iconst 1, 1) := by decide +kernel
theorem dX7_canChange_12 : decode cX7_canChange 12 = .ok (.goto 4, 3) := by decide +kernel
theorem dX7_canChange_15 : decode cX7_canChange 15 = .ok (.iconst 0, 1) := by decide +kernel
theorem dX7_canChange_16 : decode cX7_canChange 16 = .ok (.istore_n 2, 1) := by decide +kernel
theorem dX7_canChange_17 : decode cX7_canChange 17 = .ok (.aload_n 0, 1) := by decide +kernel
theorem dX7_canChange_18 : decode cX7_canChange 18 = .ok (.iload_n 1, 1) := by decide +kernel
theorem dX7_canChange_19 : decode cX7_canChange 19 = .ok (.invokevirtual 50, 3) := by decide +kernel
theorem dX7_canChange_22 : decode cX7_canChange 22 = .ok (.istore_n 3, 1) := by decide +kernel
theorem dX7_canChange_23 : decode cX7_canChange 23 = .ok (.iload_n 3, 1) := by decide +kernel
theorem dX7_canChange_24 : decode cX7_canChange 24 = .ok (.aload_n 0, 1) := by decide +kernel
theorem dX7_canChange_25 : decode cX7_canChange 25 = .ok (.iload_n 1, 1) := by decide +kernel
theorem dX7_canChange_26 : decode cX7_canChange 26 = .ok (.iconst 1, 1) := by decide +kernel
theorem dX7_canChange_27 : decode cX7_canChange 27 = .ok (.invokevirtual 46, 3) := by decide +kernel
theorem dX7_canChange_30 : decode cX7_canChange 30 = .ok (.if_icmp .gt 35, 3) := by decide +kernel
theorem dX7_canChange_33 : decode cX7_canChange 33 = .ok (.iload_n 2, 1) := by decide +kernel
theorem dX7_canChange_34 : decode cX7_canChange 34 = .ok (.ifCond .eq 23, 3) := by decide +kernel
theorem dX7_canChange_37 : decode cX7_canChange 37 = .ok (.aload_n 0, 1) := by decide +kernel
theorem dX7_canChange_38 : decode cX7_canChange 38 = .ok (.iconst 1, 1) := by decide +kernel
theorem dX7_canChange_39 : decode cX7_canChange 39 = .ok (.aload_n 0, 1) := by decide +kernel
theorem dX7_canChange_40 : decode cX7_canChange 40 = .ok (.iload_n 1, 1) := by decide +kernel
theorem dX7_canChange_41 : decode cX7_canChange 41 = .ok (.iconst 0, 1) := by decide +kernel
theorem dX7_canChange_42 : decode cX7_canChange 42 = .ok (.invokevirtual 46, 3) := by decide +kernel
theorem dX7_canChange_45 : decode cX7_canChange 45 = .ok (.isub, 1) := by decide +kernel
theorem dX7_canChange_46 : decode cX7_canChange 46 = .ok (.iload_n 3, 1) := by decide +kernel
theorem dX7_canChange_47 : decode cX7_canChange 47 = .ok (.invokevirtual 66, 3) := by decide +kernel
theorem dX7_canChange_50 : decode cX7_canChange 50 = .ok (.ifCond .eq 7, 3) := by decide +kernel
theorem dX7_canChange_53 : decode cX7_canChange 53 = .ok (.iconst 1, 1) := by decide +kernel
theorem dX7_canChange_54 : decode cX7_canChange 54 = .ok (.goto 4, 3) := by decide +kernel
theorem dX7_canChange_57 : decode cX7_canChange 57 = .ok (.iconst 0, 1) := by decide +kernel
theorem dX7_canChange_58 : decode cX7_canChange 58 = .ok (.istore_n 2, 1) := by decide +kernel
theorem dX7_canChange_59 : decode cX7_canChange 59 = .ok (.iinc 3 1, 3) := by decide +kernel
theorem dX7_canChange_62 : decode cX7_canChange 62 = .ok (.goto (-39), 3) := by decide +kernel
theorem dX7_canChange_65 : decode cX7_canChange 65 = .ok (.iload_n 2, 1) := by decide +kernel
theorem dX7_canChange_66 : decode cX7_canChange 66 = .ok (.ireturn, 1) := by decide +kernel
theorem dX7_move_0 : decode cX7_move 0 = .ok (.aload_n 0, 1) := by decide +kernel
theorem dX7_move_1 : decode cX7_move 1 = .ok (.iload_n 1, 1) := by decide +kernel
theorem dX7_move_2 : decode cX7_move 2 = .ok (.invokevirtual 70, 3) := by decide +kernel
theorem dX7_move_5 : decode cX7_move 5 = .ok (.istore_n 2, 1) := by decide +kernel
theorem dX7_move_6 : decode cX7_move 6 = .ok (.aload_n 0, 1) := by decide +kernel
theorem dX7_move_7 : decode cX7_move 7 = .ok (.iload_n 1, 1) := by decide +kernel
theorem dX7_move_8 : decode cX7_move 8 = .ok (.iconst 0, 1) := by decide +kernel
theorem dX7_move_9 : decode cX7_move 9 = .ok (.invokevirtual 46, 3) := by decide +kernel
theorem dX7_move_12 : decode cX7_move 12 = .ok (.istore_n 3, 1) := by decide +kernel
theorem dX7_move_13 : decode cX7_move 13 = .ok (.aload_n 0, 1) := by decide +kernel
theorem dX7_move_14 : decode cX7_move 14 = .ok (.iload_n 1, 1) := by decide +kernel
theorem dX7_move_15 : decode cX7_move 15 = .ok (.bipush (-6), 2) := by decide +kernel
theorem dX7_move_17 : decode cX7_move 17 = .ok (.invokevirtual 62, 3) := by decide +kernel
theorem dX7_move_20 : decode cX7_move 20 = .ok (.iload_n 2, 1) := by decide +kernel
theorem dX7_move_21 : decode cX7_move 21 = .ok (.ifCond .eq 39, 3) := by decide +kernel
theorem dX7_move_24 : decode cX7_move 24 = .ok (.aload_n 0, 1) := by decide +kernel
theorem dX7_move_25 : decode cX7_move 25 = .ok (.iload_n 1, 1) := by decide +kernel
theorem dX7_move_26 : decode cX7_move 26 = .ok (.iconst 0, 1) := by decide +kernel
theorem dX7_move_27 : decode cX7_move 27 = .ok (.iconst 1, 1) := by decide +kernel
theorem dX7_move_28 : decode cX7_move 28 = .ok (.iload_n 3, 1) := by decide +kernel
theorem dX7_move_29 : decode cX7_move 29 = .ok (.isub, 1) := by decide +kernel
theorem dX7_move_30 : decode cX7_move 30 = .ok (.invokevirtual 73, 3) := by decide +kernel
theorem dX7_move_33 : decode cX7_move 33 = .ok (.aload_n 0, 1) := by decide +kernel
theorem dX7_move_34 : decode cX7_move 34 = .ok (.iload_n 1, 1) := by decide +kernel
theorem dX7_move_35 : decode cX7_move 35 = .ok (.bipush 6, 2) := by decide +kernel
theorem dX7_move_37 : decode cX7_move 37 = .ok (.iconst 0, 1) := by decide +kernel
theorem dX7_move_38 : decode cX7_move 38 = .ok (.invokevirtual 73, 3) := by decide +kernel
theorem dX7_move_41 : decode cX7_move 41 = .ok (.aload_n 0, 1) := by decide +kernel
theorem dX7_move_42 : decode cX7_move 42 = .ok (.iload_n 1, 1) := by decide +kernel
theorem dX7_move_43 : decode cX7_move 43 = .ok (.bipush 7, 2) := by decide +kernel
theorem dX7_move_45 : decode cX7_move 45 = .ok (.aload_n 0, 1) := by decide +kernel
theorem dX7_move_46 : decode cX7_move 46 = .ok (.iload_n 1, 1) := by decide +kernel
theorem dX7_move_47 : decode cX7_move 47 = .ok (.bipush 7, 2) := by decide +kernel
theorem dX7_move_49 : decode cX7_move 49 = .ok (.invokevirtual 46, 3) := by decide +kernel
theorem dX7_move_52 : decode cX7_move 52 = .ok (.iconst 1, 1) := by decide +kernel
theorem dX7_move_53 : decode cX7_move 53 = .ok (.iadd, 1) := by decide +kernel
theorem dX7_move_54 : decode cX7_move 54 = .ok (.invokevirtual 73, 3) := by decide +kernel
theorem dX7_move_57 : decode cX7_move 57 = .ok (.goto 123, 3) := by decide +kernel
theorem dX7_move_60 : decode cX7_move 60 = .ok (.iconst 0, 1) := by decide +kernel
theorem dX7_move_61 : decode cX7_move 61 = .ok (.istore 4, 2) := by decide +kernel
theorem dX7_move_63 : decode cX7_move 63 = .ok (.iload 4, 2) := by decide +kernel
theorem dX7_move_65 : decode cX7_move 65 = .ok (.aload_n 0, 1) := by decide +kernel
theorem dX7_move_66 : decode cX7_move 66 = .ok (.iload_n 1, 1) := by decide +kernel
theorem dX7_move_67 : decode cX7_move 67 = .ok (.iconst 3, 1) := by decide +kernel
theorem dX7_move_68 : decode cX7_move 68 = .ok (.invokevirtual 46, 3) := by decide +kernel
theorem dX7_move_71 : decode cX7_move 71 = .ok (.if_icmp .ge 49, 3) := by decide +kernel
theorem dX7_move_74 : decode cX7_move 74 = .ok (.aload_n 0, 1) := by decide +kernel
theorem dX7_move_75 : decode cX7_move 75 = .ok (.iload_n 1, 1) := by decide +kernel
theorem dX7_move_76 : decode cX7_move 76 = .ok (.invokevirtual 50, 3) := by decide +kernel
theorem dX7_move_79 : decode cX7_move 79 = .ok (.bipush 40, 2) := by decide +kernel
theorem dX7_move_81 : decode cX7_move 81 = .ok (.if_icmp .ge 39, 3) := by decide +kernel
theorem dX7_move_84 : decode cX7_move 84 = .ok (.aload_n 0, 1) := by decide +kernel
theorem dX7_move_85 : decode cX7_move 85 = .ok (.iload_n 3, 1) := by decide +kernel
theorem dX7_move_86 : decode cX7_move 86 = .ok (.aload_n 0, 1) := by decide +kernel
theorem dX7_move_87 : decode cX7_move 87 = .ok (.iload_n 1, 1) := by decide +kernel
theorem dX7_move_88 : decode cX7_move 88 = .ok (.iconst 1, 1) := by decide +kernel
theorem dX7_move_89 : decode cX7_move 89 = .ok (.invokevirtual 46, 3) := by decide +kernel
theorem dX7_move_92 : decode cX7_move 92 = .ok (.iconst 1, 1) := by decide +kernel
theorem dX7_move_93 : decode cX7_move 93 = .ok (.iadd, 1) := by decide +kernel
theorem dX7_move_94 : decode cX7_move 94 = .ok (.invokevirtual 66, 3) := by decide +kernel
theorem dX7_move_97 : decode cX7_move 97 = .ok (.ifCond .eq 23, 3) := by decide +kernel
theorem dX7_move_100 : decode cX7_move 100 = .ok (.aload_n 0, 1) := by decide +kernel
theorem dX7_move_101 : decode cX7_move 101 = .ok (.iload_n 1, 1) := by decide +kernel
theorem dX7_move_102 : decode cX7_move 102 = .ok (.iconst 1, 1) := by decide +kernel
theorem dX7_move_103 : decode cX7_move 103 = .ok (.aload_n 0, 1) := by decide +kernel
theorem dX7_move_104 : decode cX7_move 104 = .ok (.iload_n 1, 1) := by decide +kernel
theorem dX7_move_105 : decode cX7_move 105 = .ok (.iconst 1, 1) := by decide +kernel
theorem dX7_move_106 : decode cX7_move 106 = .ok (.invokevirtual 46, 3) := by decide +kernel
theorem dX7_move_109 : decode cX7_move 109 = .ok (.iconst 1, 1) := by decide +kernel
theorem dX7_move_110 : decode cX7_move 110 = .ok (.iadd, 1) := by decide +kernel
theorem dX7_move_111 : decode cX7_move 111 = .ok (.invokevirtual 73, 3) := by decide +kernel
theorem dX7_move_114 : decode cX7_move 114 = .ok (.iinc 4 1, 3) := by decide +kernel
theorem dX7_move_117 : decode cX7_move 117 = .ok (.goto (-54), 3) := by decide +kernel
theorem dX7_move_120 : decode cX7_move 120 = .ok (.aload_n 0, 1) := by decide +kernel
theorem dX7_move_121 : decode cX7_move 121 = .ok (.iload_n 1, 1) := by decide +kernel
theorem dX7_move_122 : decode cX7_move 122 = .ok (.iconst 5, 1) := by decide +kernel
theorem dX7_move_123 : decode cX7_move 123 = .ok (.aload_n 0, 1) := by decide +kernel
theorem dX7_move_124 : decode cX7_move 124 = .ok (.iload_n 1, 1) := by decide +kernel
theorem dX7_move_125 : decode cX7_move 125 = .ok (.invokevirtual 50, 3) := by decide +kernel
theorem dX7_move_128 : decode cX7_move 128 = .ok (.bipush 39, 2) := by decide +kernel
theorem dX7_move_130 : decode cX7_move 130 = .ok (.if_icmp .le 7, 3) := by decide +kernel
theorem dX7_move_133 : decode cX7_move 133 = .ok (.iconst 1, 1) := by decide +kernel
theorem dX7_move_134 : decode cX7_move 134 = .ok (.goto 4, 3) := by decide +kernel
theorem dX7_move_137 : decode cX7_move 137 = .ok (.iconst 0, 1) := by decide +kernel
theorem dX7_move_138 : decode cX7_move 138 = .ok (.invokevirtual 73, 3) := by decide +kernel
theorem dX7_move_141 : decode cX7_move 141 = .ok (.aload_n 0, 1) := by decide +kernel
theorem dX7_move_142 : decode cX7_move 142 = .ok (.iload_n 1, 1) := by decide +kernel
theorem dX7_move_143 : decode cX7_move 143 = .ok (.bipush 8, 2) := by decide +kernel
theorem dX7_move_145 : decode cX7_move 145 = .ok (.aload_n 0, 1) := by decide +kernel
theorem dX7_move_146 : decode cX7_move 146 = .ok (.iload_n 1, 1) := by decide +kernel
theorem dX7_move_147 : decode cX7_move 147 = .ok (.bipush 8, 2) := by decide +kernel
theorem dX7_move_149 : decode cX7_move 149 = .ok (.invokevirtual 46, 3) := by decide +kernel
theorem dX7_move_152 : decode cX7_move 152 = .ok (.iload 4, 2) := by decide +kernel
theorem dX7_move_154 : decode cX7_move 154 = .ok (.aload_n 0, 1) := by decide +kernel
theorem dX7_move_155 : decode cX7_move 155 = .ok (.iload_n 1, 1) := by decide +kernel
theorem dX7_move_156 : decode cX7_move 156 = .ok (.iconst 3, 1) := by decide +kernel
theorem dX7_move_157 : decode cX7_move 157 = .ok (.invokevirtual 46, 3) := by decide +kernel
theorem dX7_move_160 : decode cX7_move 160 = .ok (.if_icmp .ge 15, 3) := by decide +kernel
theorem dX7_move_163 : decode cX7_move 163 = .ok (.aload_n 0, 1) := by decide +kernel
theorem dX7_move_164 : decode cX7_move 164 = .ok (.iload_n 1, 1) := by decide +kernel
theorem dX7_move_165 : decode cX7_move 165 = .ok (.invokevirtual 58, 3) := by decide +kernel
theorem dX7_move_168 : decode cX7_move 168 = .ok (.ifCond .eq 7, 3) := by decide +kernel
theorem dX7_move_171 : decode cX7_move 171 = .ok (.iconst 1, 1) := by decide +kernel
theorem dX7_move_172 : decode cX7_move 172 = .ok (.goto 4, 3) := by decide +kernel
theorem dX7_move_175 : decode cX7_move 175 = .ok (.iconst 0, 1) := by decide +kernel
theorem dX7_move_176 : decode cX7_move 176 = .ok (.iadd, 1) := by decide +kernel
theorem dX7_move_177 : decode cX7_move 177 = .ok (.invokevirtual 73, 3) := by decide +kernel
theorem dX7_move_180 : decode cX7_move 180 = .ok (.aload_n 0, 1) := by decide +kernel
theorem dX7_move_181 : decode cX7_move 181 = .ok (.iload_n 1, 1) := by decide +kernel
theorem dX7_move_182 : decode cX7_move 182 = .ok (.invokevirtual 58, 3) := by decide +kernel
theorem dX7_move_185 : decode cX7_move 185 = .ok (.ifCond .eq 9, 3) := by decide +kernel
theorem dX7_move_188 : decode cX7_move 188 = .ok (.aload_n 0, 1) := by decide +kernel
theorem dX7_move_189 : decode cX7_move 189 = .ok (.iload_n 1, 1) := by decide +kernel
theorem dX7_move_190 : decode cX7_move 190 = .ok (.iload_n 1, 1) := by decide +kernel
theorem dX7_move_191 : decode cX7_move 191 = .ok (.invokevirtual 62, 3) := by decide +kernel
theorem dX7_move_194 : decode cX7_move 194 = .ok (.return_, 1) := by decide +kernel
theorem dX7_moveAll_0 : decode cX7_moveAll 0 = .ok (.iconst 0, 1) := by decide +kernel
theorem dX7_moveAll_1 : decode cX7_moveAll 1 = .ok (.istore_n 1, 1) := by decide +kernel
theorem dX7_moveAll_2 : decode cX7_moveAll 2 = .ok (.iconst 0, 1) := by decide +kernel
theorem dX7_moveAll_3 : decode cX7_moveAll 3 = .ok (.istore_n 2, 1) := by decide +kernel
theorem dX7_moveAll_4 : decode cX7_moveAll 4 = .ok (.iload_n 2, 1) := by decide +kernel
theorem dX7_moveAll_5 : decode cX7_moveAll 5 = .ok (.aload_n 0, 1) := by decide +kernel
theorem dX7_moveAll_6 : decode cX7_moveAll 6 = .ok (.getfield 7, 3) := by decide +kernel
theorem dX7_moveAll_9 : decode cX7_moveAll 9 = .ok (.iconst 4, 1) := by decide +kernel
theorem dX7_moveAll_10 : decode cX7_moveAll 10 = .ok (.iaload, 1) := by decide +kernel
theorem dX7_moveAll_11 : decode cX7_moveAll 11 = .ok (.if_icmp .ge 75, 3) := by decide +kernel
theorem dX7_moveAll_14 : decode cX7_moveAll 14 = .ok (.aload_n 0, 1) := by decide +kernel
theorem dX7_moveAll_15 : decode cX7_moveAll 15 = .ok (.iload_n 2, 1) := by decide +kernel
theorem dX7_moveAll_16 : decode cX7_moveAll 16 = .ok (.invokevirtual 58, 3) := by decide +kernel
theorem dX7_moveAll_19 : decode cX7_moveAll 19 = .ok (.ifCond .eq 61, 3) := by decide +kernel
theorem dX7_moveAll_22 : decode cX7_moveAll 22 = .ok (.iload_n 1, 1) := by decide +kernel
theorem dX7_moveAll_23 : decode cX7_moveAll 23 = .ok (.istore_n 3, 1) := by decide +kernel
theorem dX7_moveAll_24 : decode cX7_moveAll 24 = .ok (.iload_n 3, 1) := by decide +kernel
theorem dX7_moveAll_25 : decode cX7_moveAll 25 = .ok (.ifCond .le 45, 3) := by decide +kernel
theorem dX7_moveAll_28 : decode cX7_moveAll 28 = .ok (.aload_n 0, 1) := by decide +kernel
theorem dX7_moveAll_29 : decode cX7_moveAll 29 = .ok (.aload_n 0, 1) := by decide +kernel
theorem dX7_moveAll_30 : decode cX7_moveAll 30 = .ok (.getfield 32, 3) := by decide +kernel
theorem dX7_moveAll_33 : decode cX7_moveAll 33 = .ok (.iload_n 3, 1) := by decide +kernel
theorem dX7_moveAll_34 : decode cX7_moveAll 34 = .ok (.iconst 1, 1) := by decide +kernel
theorem dX7_moveAll_35 : decode cX7_moveAll 35 = .ok (.isub, 1) := by decide +kernel
theorem dX7_moveAll_36 : decode cX7_moveAll 36 = .ok (.iaload, 1) := by decide +kernel
theorem dX7_moveAll_37 : decode cX7_moveAll 37 = .ok (.iconst 1, 1) := by decide +kernel
theorem dX7_moveAll_38 : decode cX7_moveAll 38 = .ok (.invokevirtual 46, 3) := by decide +kernel
theorem dX7_moveAll_41 : decode cX7_moveAll 41 = .ok (.aload_n 0, 1) := by decide +kernel
theorem dX7_moveAll_42 : decode cX7_moveAll 42 = .ok (.iload_n 2, 1) := by decide +kernel
theorem dX7_moveAll_43 : decode cX7_moveAll 43 = .ok (.iconst 1, 1) := by decide +kernel
theorem dX7_moveAll_44 : decode cX7_moveAll 44 = .ok (.invokevirtual 46, 3) := by decide +kernel
theorem dX7_moveAll_47 : decode cX7_moveAll 47 = .ok (.if_icmp .ge 23, 3) := by decide +kernel
theorem dX7_moveAll_50 : decode cX7_moveAll 50 = .ok (.aload_n 0, 1) := by decide +kernel
theorem dX7_moveAll_51 : decode cX7_moveAll 51 = .ok (.getfield 32, 3) := by decide +kernel
theorem dX7_moveAll_54 : decode cX7_moveAll 54 = .ok (.iload_n 3, 1) := by decide +kernel
theorem dX7_moveAll_55 : decode cX7_moveAll 55 = .ok (.aload_n 0, 1) := by decide +kernel
theorem dX7_moveAll_56 : decode cX7_moveAll 56 = .ok (.getfield 32, 3) := by decide +kernel
theorem dX7_moveAll_59 : decode cX7_moveAll 59 = .ok (.iload_n 3, 1) := by decide +kernel
theorem dX7_moveAll_60 : decode cX7_moveAll 60 = .ok (.iconst 1, 1) := by decide +kernel
theorem dX7_moveAll_61 : decode cX7_moveAll 61 = .ok (.isub, 1) := by decide +kernel
theorem dX7_moveAll_62 : decode cX7_moveAll 62 = .ok (.iaload, 1) := by decide +kernel
theorem dX7_moveAll_63 : decode cX7_moveAll 63 = .ok (.iastore, 1) := by decide +kernel
theorem dX7_moveAll_64 : decode cX7_moveAll 64 = .ok (.iinc 3 (-1), 3) := by decide +kernel
theorem dX7_moveAll_67 : decode cX7_moveAll 67 = .ok (.goto (-43), 3) := by decide +kernel
theorem dX7_moveAll_70 : decode cX7_moveAll 70 = .ok (.aload_n 0, 1) := by decide +kernel
theorem dX7_moveAll_71 : decode cX7_moveAll 71 = .ok (.getfield 32, 3) := by decide +kernel
theorem dX7_moveAll_74 : decode cX7_moveAll 74 = .ok (.iload_n 3, 1) := by decide +kernel
theorem dX7_moveAll_75 : decode cX7_moveAll 75 = .ok (.iload_n 2, 1) := by decide +kernel
theorem dX7_moveAll_76 : decode cX7_moveAll 76 = .ok (.iastore, 1) := by decide +kernel
theorem dX7_moveAll_77 : decode cX7_moveAll 77 = .ok (.iinc 1 1, 3) := by decide +kernel
theorem dX7_moveAll_80 : decode cX7_moveAll 80 = .ok (.iinc 2 1, 3) := by decide +kernel
theorem dX7_moveAll_83 : decode cX7_moveAll 83 = .ok (.goto (-79), 3) := by decide +kernel
theorem dX7_moveAll_86 : decode cX7_moveAll 86 = .ok (.aload_n 0, 1) := by decide +kernel
theorem dX7_moveAll_87 : decode cX7_moveAll 87 = .ok (.invokevirtual 77, 3) := by decide +kernel
theorem dX7_moveAll_90 : decode cX7_moveAll 90 = .ok (.iconst 0, 1) := by decide +kernel
theorem dX7_moveAll_91 : decode cX7_moveAll 91 = .ok (.istore_n 2, 1) := by decide +kernel
theorem dX7_moveAll_92 : decode cX7_moveAll 92 = .ok (.iload_n 2, 1) := by decide +kernel
theorem dX7_moveAll_93 : decode cX7_moveAll 93 = .ok (.iload_n 1, 1) := by decide +kernel
theorem dX7_moveAll_94 : decode cX7_moveAll 94 = .ok (.if_icmp .ge 19, 3) := by decide +kernel
theorem dX7_moveAll_97 : decode cX7_moveAll 97 = .ok (.aload_n 0, 1) := by decide +kernel
theorem dX7_moveAll_98 : decode cX7_moveAll 98 = .ok (.aload_n 0, 1) := by decide +kernel
theorem dX7_moveAll_99 : decode cX7_moveAll 99 = .ok (.getfield 32, 3) := by decide +kernel
theorem dX7_moveAll_102 : decode cX7_moveAll 102 = .ok (.iload_n 2, 1) := by decide +kernel
theorem dX7_moveAll_103 : decode cX7_moveAll 103 = .ok (.iaload, 1) := by decide +kernel
theorem dX7_moveAll_104 : decode cX7_moveAll 104 = .ok (.invokevirtual 80, 3) := by decide +kernel
theorem dX7_moveAll_107 : decode cX7_moveAll 107 = .ok (.iinc 2 1, 3) := by decide +kernel
theorem dX7_moveAll_110 : decode cX7_moveAll 110 = .ok (.goto (-18), 3) := by decide +kernel
theorem dX7_moveAll_113 : decode cX7_moveAll 113 = .ok (.return_, 1) := by decide +kernel
theorem dX7_isOver_0 : decode cX7_isOver 0 = .ok (.aload_n 0, 1) := by decide +kernel
theorem dX7_isOver_1 : decode cX7_isOver 1 = .ok (.iload_n 2, 1) := by decide +kernel
theorem dX7_isOver_2 : decode cX7_isOver 2 = .ok (.iconst 1, 1) := by decide +kernel
theorem dX7_isOver_3 : decode cX7_isOver 3 = .ok (.invokevirtual 84, 3) := by decide +kernel
theorem dX7_isOver_6 : decode cX7_isOver 6 = .ok (.istore_n 3, 1) := by decide +kernel
theorem dX7_isOver_7 : decode cX7_isOver 7 = .ok (.iload_n 3, 1) := by decide +kernel
theorem dX7_isOver_8 : decode cX7_isOver 8 = .ok (.aload_n 0, 1) := by decide +kernel
theorem dX7_isOver_9 : decode cX7_isOver 9 = .ok (.iload_n 2, 1) := by decide +kernel
theorem dX7_isOver_10 : decode cX7_isOver 10 = .ok (.iconst 2, 1) := by decide +kernel
theorem dX7_isOver_11 : decode cX7_isOver 11 = .ok (.invokevirtual 84, 3) := by decide +kernel
theorem dX7_isOver_14 : decode cX7_isOver 14 = .ok (.iadd, 1) := by decide +kernel
theorem dX7_isOver_15 : decode cX7_isOver 15 = .ok (.iconst 1, 1) := by decide +kernel
theorem dX7_isOver_16 : decode cX7_isOver 16 = .ok (.isub, 1) := by decide +kernel
theorem dX7_isOver_17 : decode cX7_isOver 17 = .ok (.istore 4, 2) := by decide +kernel
theorem dX7_isOver_19 : decode cX7_isOver 19 = .ok (.aload_n 0, 1) := by decide +kernel
theorem dX7_isOver_20 : decode cX7_isOver 20 = .ok (.iload_n 1, 1) := by decide +kernel
theorem dX7_isOver_21 : decode cX7_isOver 21 = .ok (.invokevirtual 58, 3) := by decide +kernel
theorem dX7_isOver_24 : decode cX7_isOver 24 = .ok (.ifCond .eq 42, 3) := by decide +kernel
theorem dX7_isOver_27 : decode cX7_isOver 27 = .ok (.aload_n 0, 1) := by decide +kernel
theorem dX7_isOver_28 : decode cX7_isOver 28 = .ok (.iload_n 1, 1) := by decide +kernel
theorem dX7_isOver_29 : decode cX7_isOver 29 = .ok (.iconst 0, 1) := by decide +kernel
theorem dX7_isOver_30 : decode cX7_isOver 30 = .ok (.invokevirtual 46, 3) := by decide +kernel
theorem dX7_isOver_33 : decode cX7_isOver 33 = .ok (.aload_n 0, 1) := by decide +kernel
theorem dX7_isOver_34 : decode cX7_isOver 34 = .ok (.iload_n 2, 1) := by decide +kernel
theorem dX7_isOver_35 : decode cX7_isOver 35 = .ok (.iconst 0, 1) := by decide +kernel
theorem dX7_isOver_36 : decode cX7_isOver 36 = .ok (.invokevirtual 84, 3) := by decide +kernel
theorem dX7_isOver_39 : decode cX7_isOver 39 = .ok (.if_icmp .ne 27, 3) := by decide +kernel
theorem dX7_isOver_42 : decode cX7_isOver 42 = .ok (.aload_n 0, 1) := by decide +kernel
theorem dX7_isOver_43 : decode cX7_isOver 43 = .ok (.iload_n 1, 1) := by decide +kernel
theorem dX7_isOver_44 : decode cX7_isOver 44 = .ok (.iconst 1, 1) := by decide +kernel
theorem dX7_isOver_45 : decode cX7_isOver 45 = .ok (.invokevirtual 46, 3) := by decide +kernel
theorem dX7_isOver_48 : decode cX7_isOver 48 = .ok (.iload_n 3, 1) := by decide +kernel
theorem dX7_isOver_49 : decode cX7_isOver 49 = .ok (.if_icmp .lt 17, 3) := by decide +kernel
theorem dX7_isOver_52 : decode cX7_isOver 52 = .ok (.aload_n 0, 1) := by decide +kernel
theorem dX7_isOver_53 : decode cX7_isOver 53 = .ok (.iload_n 1, 1) := by decide +kernel
theorem dX7_isOver_54 : decode cX7_isOver 54 = .ok (.invokevirtual 50, 3) := by decide +kernel
theorem dX7_isOver_57 : decode cX7_isOver 57 = .ok (.iload 4, 2) := by decide +kernel
theorem dX7_isOver_59 : decode cX7_isOver 59 = .ok (.if_icmp .gt 7, 3) := by decide +kernel
theorem dX7_isOver_62 : decode cX7_isOver 62 = .ok (.iconst 1, 1) := by decide +kernel
theorem dX7_isOver_63 : decode cX7_isOver 63 = .ok (.goto 4, 3) := by decide +kernel
theorem dX7_isOver_66 : decode cX7_isOver 66 = .ok (.iconst 0, 1) := by decide +kernel
theorem dX7_isOver_67 : decode cX7_isOver 67 = .ok (.ireturn, 1) := by decide +kernel
theorem dX7_overBy_0 : decode cX7_overBy 0 = .ok (.iconst 0, 1) := by decide +kernel
theorem dX7_overBy_1 : decode cX7_overBy 1 = .ok (.istore_n 2, 1) := by decide +kernel
theorem dX7_overBy_2 : decode cX7_overBy 2 = .ok (.iconst 0, 1) := by decide +kernel
theorem dX7_overBy_3 : decode cX7_overBy 3 = .ok (.istore_n 3, 1) := by decide +kernel
theorem dX7_overBy_4 : decode cX7_overBy 4 = .ok (.iload_n 3, 1) := by decide +kernel
theorem dX7_overBy_5 : decode cX7_overBy 5 = .ok (.aload_n 0, 1) := by decide +kernel
theorem dX7_overBy_6 : decode cX7_overBy 6 = .ok (.getfield 7, 3) := by decide +kernel
theorem dX7_overBy_9 : decode cX7_overBy 9 = .ok (.iconst 3, 1) := by decide +kernel
theorem dX7_overBy_10 : decode cX7_overBy 10 = .ok (.iaload, 1) := by decide +kernel
theorem dX7_overBy_11 : decode cX7_overBy 11 = .ok (.if_icmp .ge 28, 3) := by decide +kernel
theorem dX7_overBy_14 : decode cX7_overBy 14 = .ok (.iload_n 2, 1) := by decide +kernel
theorem dX7_overBy_15 : decode cX7_overBy 15 = .ok (.aload_n 0, 1) := by decide +kernel
theorem dX7_overBy_16 : decode cX7_overBy 16 = .ok (.iload_n 1, 1) := by decide +kernel
theorem dX7_overBy_17 : decode cX7_overBy 17 = .ok (.iload_n 3, 1) := by decide +kernel
theorem dX7_overBy_18 : decode cX7_overBy 18 = .ok (.invokevirtual 87, 3) := by decide +kernel
theorem dX7_overBy_21 : decode cX7_overBy 21 = .ok (.ifCond .eq 9, 3) := by decide +kernel
theorem dX7_overBy_24 : decode cX7_overBy 24 = .ok (.iconst 1, 1) := by decide +kernel
theorem dX7_overBy_25 : decode cX7_overBy 25 = .ok (.iload_n 3, 1) := by decide +kernel
theorem dX7_overBy_26 : decode cX7_overBy 26 = .ok (.ishl, 1) := by decide +kernel
theorem dX7_overBy_27 : decode cX7_overBy 27 = .ok (.goto 4, 3) := by decide +kernel
theorem dX7_overBy_30 : decode cX7_overBy 30 = .ok (.iconst 0, 1) := by decide +kernel
theorem dX7_overBy_31 : decode cX7_overBy 31 = .ok (.ior, 1) := by decide +kernel
theorem dX7_overBy_32 : decode cX7_overBy 32 = .ok (.istore_n 2, 1) := by decide +kernel
theorem dX7_overBy_33 : decode cX7_overBy 33 = .ok (.iinc 3 1, 3) := by decide +kernel
theorem dX7_overBy_36 : decode cX7_overBy 36 = .ok (.goto (-32), 3) := by decide +kernel
theorem dX7_overBy_39 : decode cX7_overBy 39 = .ok (.iload_n 2, 1) := by decide +kernel
theorem dX7_overBy_40 : decode cX7_overBy 40 = .ok (.ireturn, 1) := by decide +kernel
theorem dX7_passAll_0 : decode cX7_passAll 0 = .ok (.iconst 0, 1) := by decide +kernel
theorem dX7_passAll_1 : decode cX7_passAll 1 = .ok (.istore_n 1, 1) := by decide +kernel
theorem dX7_passAll_2 : decode cX7_passAll 2 = .ok (.iload_n 1, 1) := by decide +kernel
theorem dX7_passAll_3 : decode cX7_passAll 3 = .ok (.aload_n 0, 1) := by decide +kernel
theorem dX7_passAll_4 : decode cX7_passAll 4 = .ok (.getfield 7, 3) := by decide +kernel
theorem dX7_passAll_7 : decode cX7_passAll 7 = .ok (.iconst 4, 1) := by decide +kernel
theorem dX7_passAll_8 : decode cX7_passAll 8 = .ok (.iaload, 1) := by decide +kernel
theorem dX7_passAll_9 : decode cX7_passAll 9 = .ok (.if_icmp .ge 73, 3) := by decide +kernel
theorem dX7_passAll_12 : decode cX7_passAll 12 = .ok (.aload_n 0, 1) := by decide +kernel
theorem dX7_passAll_13 : decode cX7_passAll 13 = .ok (.iload_n 1, 1) := by decide +kernel
theorem dX7_passAll_14 : decode cX7_passAll 14 = .ok (.invokevirtual 90, 3) := by decide +kernel
theorem dX7_passAll_17 : decode cX7_passAll 17 = .ok (.istore_n 2, 1) := by decide +kernel
theorem dX7_passAll_18 : decode cX7_passAll 18 = .ok (.iconst 0, 1) := by decide +kernel
theorem dX7_passAll_19 : decode cX7_passAll 19 = .ok (.istore_n 3, 1) := by decide +kernel
theorem dX7_passAll_20 : decode cX7_passAll 20 = .ok (.iload_n 3, 1) := by decide +kernel
theorem dX7_passAll_21 : decode cX7_passAll 21 = .ok (.aload_n 0, 1) := by decide +kernel
theorem dX7_passAll_22 : decode cX7_passAll 22 = .ok (.getfield 7, 3) := by decide +kernel
theorem dX7_passAll_25 : decode cX7_passAll 25 = .ok (.iconst 3, 1) := by decide +kernel
theorem dX7_passAll_26 : decode cX7_passAll 26 = .ok (.iaload, 1) := by decide +kernel
theorem dX7_passAll_27 : decode cX7_passAll 27 = .ok (.if_icmp .ge 41, 3) := by decide +kernel
theorem dX7_passAll_30 : decode cX7_passAll 30 = .ok (.aload_n 0, 1) := by decide +kernel
theorem dX7_passAll_31 : decode cX7_passAll 31 = .ok (.iload_n 3, 1) := by decide +kernel
theorem dX7_passAll_32 : decode cX7_passAll 32 = .ok (.bipush 7, 2) := by decide +kernel
theorem dX7_passAll_34 : decode cX7_passAll 34 = .ok (.aload_n 0, 1) := by decide +kernel
theorem dX7_passAll_35 : decode cX7_passAll 35 = .ok (.iload_n 3, 1) := by decide +kernel
theorem dX7_passAll_36 : decode cX7_passAll 36 = .ok (.bipush 7, 2) := by decide +kernel
theorem dX7_passAll_38 : decode cX7_passAll 38 = .ok (.invokevirtual 84, 3) := by decide +kernel
theorem dX7_passAll_41 : decode cX7_passAll 41 = .ok (.iload_n 2, 1) := by decide +kernel
theorem dX7_passAll_42 : decode cX7_passAll 42 = .ok (.iload_n 3, 1) := by decide +kernel
theorem dX7_passAll_43 : decode cX7_passAll 43 = .ok (.ishr, 1) := by decide +kernel
theorem dX7_passAll_44 : decode cX7_passAll 44 = .ok (.aload_n 0, 1) := by decide +kernel
theorem dX7_passAll_45 : decode cX7_passAll 45 = .ok (.iload_n 1, 1) := by decide +kernel
theorem dX7_passAll_46 : decode cX7_passAll 46 = .ok (.bipush 9, 2) := by decide +kernel
theorem dX7_passAll_48 : decode cX7_passAll 48 = .ok (.invokevirtual 46, 3) := by decide +kernel
theorem dX7_passAll_51 : decode cX7_passAll 51 = .ok (.iload_n 3, 1) := by decide +kernel
theorem dX7_passAll_52 : decode cX7_passAll 52 = .ok (.ishr, 1) := by decide +kernel
theorem dX7_passAll_53 : decode cX7_passAll 53 = .ok (.iconst (-1), 1) := by decide +kernel
theorem dX7_passAll_54 : decode cX7_passAll 54 = .ok (.ixor, 1) := by decide +kernel
theorem dX7_passAll_55 : decode cX7_passAll 55 = .ok (.iand, 1) := by decide +kernel
theorem dX7_passAll_56 : decode cX7_passAll 56 = .ok (.iconst 1, 1) := by decide +kernel
theorem dX7_passAll_57 : decode cX7_passAll 57 = .ok (.iand, 1) := by decide +kernel
theorem dX7_passAll_58 : decode cX7_passAll 58 = .ok (.iadd, 1) := by decide +kernel
theorem dX7_passAll_59 : decode cX7_passAll 59 = .ok (.invokevirtual 93, 3) := by decide +kernel
theorem dX7_passAll_62 : decode cX7_passAll 62 = .ok (.iinc 3 1, 3) := by decide +kernel
theorem dX7_passAll_65 : decode cX7_passAll 65 = .ok (.goto (-45), 3) := by decide +kernel
theorem dX7_passAll_68 : decode cX7_passAll 68 = .ok (.aload_n 0, 1) := by decide +kernel
theorem dX7_passAll_69 : decode cX7_passAll 69 = .ok (.iload_n 1, 1) := by decide +kernel
theorem dX7_passAll_70 : decode cX7_passAll 70 = .ok (.bipush 9, 2) := by decide +kernel
theorem dX7_passAll_72 : decode cX7_passAll 72 = .ok (.iload_n 2, 1) := by decide +kernel
theorem dX7_passAll_73 : decode cX7_passAll 73 = .ok (.invokevirtual 73, 3) := by decide +kernel
theorem dX7_passAll_76 : decode cX7_passAll 76 = .ok (.iinc 1 1, 3) := by decide +kernel
theorem dX7_passAll_79 : decode cX7_passAll 79 = .ok (.goto (-77), 3) := by decide +kernel
theorem dX7_passAll_82 : decode cX7_passAll 82 = .ok (.return_, 1) := by decide +kernel
theorem dX7_metal_0 : decode cX7_metal 0 = .ok (.iconst 0, 1) := by decide +kernel
theorem dX7_metal_1 : decode cX7_metal 1 = .ok (.istore_n 3, 1) := by decide +kernel
theorem dX7_metal_2 : decode cX7_metal 2 = .ok (.aload_n 0, 1) := by decide +kernel
theorem dX7_metal_3 : decode cX7_metal 3 = .ok (.iload_n 1, 1) := by decide +kernel
theorem dX7_metal_4 : decode cX7_metal 4 = .ok (.iconst 1, 1) := by decide +kernel
theorem dX7_metal_5 : decode cX7_metal 5 = .ok (.invokevirtual 84, 3) := by decide +kernel
theorem dX7_metal_8 : decode cX7_metal 8 = .ok (.istore 4, 2) := by decide +kernel
theorem dX7_metal_10 : decode cX7_metal 10 = .ok (.iload 4, 2) := by decide +kernel
theorem dX7_metal_12 : decode cX7_metal 12 = .ok (.aload_n 0, 1) := by decide +kernel
theorem dX7_metal_13 : decode cX7_metal 13 = .ok (.iload_n 1, 1) := by decide +kernel
theorem dX7_metal_14 : decode cX7_metal 14 = .ok (.iconst 1, 1) := by decide +kernel
theorem dX7_metal_15 : decode cX7_metal 15 = .ok (.invokevirtual 84, 3) := by decide +kernel
theorem dX7_metal_18 : decode cX7_metal 18 = .ok (.aload_n 0, 1) := by decide +kernel
theorem dX7_metal_19 : decode cX7_metal 19 = .ok (.iload_n 1, 1) := by decide +kernel
theorem dX7_metal_20 : decode cX7_metal 20 = .ok (.iconst 2, 1) := by decide +kernel
theorem dX7_metal_21 : decode cX7_metal 21 = .ok (.invokevirtual 84, 3) := by decide +kernel
theorem dX7_metal_24 : decode cX7_metal 24 = .ok (.iadd, 1) := by decide +kernel
theorem dX7_metal_25 : decode cX7_metal 25 = .ok (.if_icmp .ge 42, 3) := by decide +kernel
theorem dX7_metal_28 : decode cX7_metal 28 = .ok (.aload_n 0, 1) := by decide +kernel
theorem dX7_metal_29 : decode cX7_metal 29 = .ok (.getfield 29, 3) := by decide +kernel
theorem dX7_metal_32 : decode cX7_metal 32 = .ok (.bipush 40, 2) := by decide +kernel
theorem dX7_metal_34 : decode cX7_metal 34 = .ok (.iload_n 2, 1) := by decide +kernel
theorem dX7_metal_35 : decode cX7_metal 35 = .ok (.imul, 1) := by decide +kernel
theorem dX7_metal_36 : decode cX7_metal 36 = .ok (.iload 4, 2) := by decide +kernel
theorem dX7_metal_38 : decode cX7_metal 38 = .ok (.iadd, 1) := by decide +kernel
theorem dX7_metal_39 : decode cX7_metal 39 = .ok (.iaload, 1) := by decide +kernel
theorem dX7_metal_40 : decode cX7_metal 40 = .ok (.istore 5, 2) := by decide +kernel
theorem dX7_metal_42 : decode cX7_metal 42 = .ok (.iload_n 3, 1) := by decide +kernel
theorem dX7_metal_43 : decode cX7_metal 43 = .ok (.iload 5, 2) := by decide +kernel
theorem dX7_metal_45 : decode cX7_metal 45 = .ok (.ifCond .ge 7, 3) := by decide +kernel
theorem dX7_metal_48 : decode cX7_metal 48 = .ok (.iconst 0, 1) := by decide +kernel
theorem dX7_metal_49 : decode cX7_metal 49 = .ok (.goto 10, 3) := by decide +kernel
theorem dX7_metal_52 : decode cX7_metal 52 = .ok (.aload_n 0, 1) := by decide +kernel
theorem dX7_metal_53 : decode cX7_metal 53 = .ok (.iload 5, 2) := by decide +kernel
theorem dX7_metal_55 : decode cX7_metal 55 = .ok (.iconst 4, 1) := by decide +kernel
theorem dX7_metal_56 : decode cX7_metal 56 = .ok (.invokevirtual 46, 3) := by decide +kernel
theorem dX7_metal_59 : decode cX7_metal 59 = .ok (.iadd, 1) := by decide +kernel
theorem dX7_metal_60 : decode cX7_metal 60 = .ok (.istore_n 3, 1) := by decide +kernel
theorem dX7_metal_61 : decode cX7_metal 61 = .ok (.iinc 4 1, 3) := by decide +kernel
theorem dX7_metal_64 : decode cX7_metal 64 = .ok (.goto (-54), 3) := by decide +kernel
theorem dX7_metal_67 : decode cX7_metal 67 = .ok (.iload_n 3, 1) := by decide +kernel
theorem dX7_metal_68 : decode cX7_metal 68 = .ok (.ireturn, 1) := by decide +kernel
theorem dX7_strength_0 : decode cX7_strength 0 = .ok (.aload_n 0, 1) := by decide +kernel
theorem dX7_strength_1 : decode cX7_strength 1 = .ok (.iload_n 1, 1) := by decide +kernel
theorem dX7_strength_2 : decode cX7_strength 2 = .ok (.iconst 0, 1) := by decide +kernel
theorem dX7_strength_3 : decode cX7_strength 3 = .ok (.invokevirtual 84, 3) := by decide +kernel
theorem dX7_strength_6 : decode cX7_strength 6 = .ok (.istore_n 2, 1) := by decide +kernel
theorem dX7_strength_7 : decode cX7_strength 7 = .ok (.iconst 4, 1) := by decide +kernel
theorem dX7_strength_8 : decode cX7_strength 8 = .ok (.aload_n 0, 1) := by decide +kernel
theorem dX7_strength_9 : decode cX7_strength 9 = .ok (.iload_n 1, 1) := by decide +kernel
theorem dX7_strength_10 : decode cX7_strength 10 = .ok (.iload_n 2, 1) := by decide +kernel
theorem dX7_strength_11 : decode cX7_strength 11 = .ok (.invokevirtual 96, 3) := by decide +kernel
theorem dX7_strength_14 : decode cX7_strength 14 = .ok (.imul, 1) := by decide +kernel
theorem dX7_strength_15 : decode cX7_strength 15 = .ok (.aload_n 0, 1) := by decide +kernel
theorem dX7_strength_16 : decode cX7_strength 16 = .ok (.getfield 7, 3) := by decide +kernel
theorem dX7_strength_19 : decode cX7_strength 19 = .ok (.iconst 0, 1) := by decide +kernel
theorem dX7_strength_20 : decode cX7_strength 20 = .ok (.iaload, 1) := by decide +kernel
theorem dX7_strength_21 : decode cX7_strength 21 = .ok (.aload_n 0, 1) := by decide +kernel
theorem dX7_strength_22 : decode cX7_strength 22 = .ok (.iload_n 1, 1) := by decide +kernel
theorem dX7_strength_23 : decode cX7_strength 23 = .ok (.iconst 1, 1) := by decide +kernel
theorem dX7_strength_24 : decode cX7_strength 24 = .ok (.iload_n 2, 1) := by decide +kernel
theorem dX7_strength_25 : decode cX7_strength 25 = .ok (.isub, 1) := by decide +kernel
theorem dX7_strength_26 : decode cX7_strength 26 = .ok (.invokevirtual 96, 3) := by decide +kernel
theorem dX7_strength_29 : decode cX7_strength 29 = .ok (.imul, 1) := by decide +kernel
theorem dX7_strength_30 : decode cX7_strength 30 = .ok (.iadd, 1) := by decide +kernel
theorem dX7_strength_31 : decode cX7_strength 31 = .ok (.ireturn, 1) := by decide +kernel
theorem dX7_listen_0 : decode cX7_listen 0 = .ok (.aload_n 0, 1) := by decide +kernel
theorem dX7_listen_1 : decode cX7_listen 1 = .ok (.iload_n 1, 1) := by decide +kernel
theorem dX7_listen_2 : decode cX7_listen 2 = .ok (.invokevirtual 99, 3) := by decide +kernel
theorem dX7_listen_5 : decode cX7_listen 5 = .ok (.istore_n 2, 1) := by decide +kernel
theorem dX7_listen_6 : decode cX7_listen 6 = .ok (.aload_n 0, 1) := by decide +kernel
theorem dX7_listen_7 : decode cX7_listen 7 = .ok (.iload_n 1, 1) := by decide +kernel
theorem dX7_listen_8 : decode cX7_listen 8 = .ok (.bipush 9, 2) := by decide +kernel
theorem dX7_listen_10 : decode cX7_listen 10 = .ok (.aload_n 0, 1) := by decide +kernel
theorem dX7_listen_11 : decode cX7_listen 11 = .ok (.iload_n 1, 1) := by decide +kernel
theorem dX7_listen_12 : decode cX7_listen 12 = .ok (.bipush 9, 2) := by decide +kernel
theorem dX7_listen_14 : decode cX7_listen 14 = .ok (.invokevirtual 84, 3) := by decide +kernel
theorem dX7_listen_17 : decode cX7_listen 17 = .ok (.iconst 1, 1) := by decide +kernel
theorem dX7_listen_18 : decode cX7_listen 18 = .ok (.iadd, 1) := by decide +kernel
theorem dX7_listen_19 : decode cX7_listen 19 = .ok (.invokevirtual 93, 3) := by decide +kernel
theorem dX7_listen_22 : decode cX7_listen 22 = .ok (.aload_n 0, 1) := by decide +kernel
theorem dX7_listen_23 : decode cX7_listen 23 = .ok (.iload_n 1, 1) := by decide +kernel
theorem dX7_listen_24 : decode cX7_listen 24 = .ok (.iconst 5, 1) := by decide +kernel
theorem dX7_listen_25 : decode cX7_listen 25 = .ok (.invokevirtual 84, 3) := by decide +kernel
theorem dX7_listen_28 : decode cX7_listen 28 = .ok (.ifCond .ne 39, 3) := by decide +kernel
theorem dX7_listen_31 : decode cX7_listen 31 = .ok (.iload_n 2, 1) := by decide +kernel
theorem dX7_listen_32 : decode cX7_listen 32 = .ok (.aload_n 0, 1) := by decide +kernel
theorem dX7_listen_33 : decode cX7_listen 33 = .ok (.iload_n 1, 1) := by decide +kernel
theorem dX7_listen_34 : decode cX7_listen 34 = .ok (.iconst 3, 1) := by decide +kernel
theorem dX7_listen_35 : decode cX7_listen 35 = .ok (.invokevirtual 84, 3) := by decide +kernel
theorem dX7_listen_38 : decode cX7_listen 38 = .ok (.if_icmp .lt 29, 3) := by decide +kernel
theorem dX7_listen_41 : decode cX7_listen 41 = .ok (.aload_n 0, 1) := by decide +kernel
theorem dX7_listen_42 : decode cX7_listen 42 = .ok (.iload_n 1, 1) := by decide +kernel
theorem dX7_listen_43 : decode cX7_listen 43 = .ok (.iconst 5, 1) := by decide +kernel
theorem dX7_listen_44 : decode cX7_listen 44 = .ok (.iconst 1, 1) := by decide +kernel
theorem dX7_listen_45 : decode cX7_listen 45 = .ok (.invokevirtual 93, 3) := by decide +kernel
theorem dX7_listen_48 : decode cX7_listen 48 = .ok (.aload_n 0, 1) := by decide +kernel
theorem dX7_listen_49 : decode cX7_listen 49 = .ok (.iload_n 1, 1) := by decide +kernel
theorem dX7_listen_50 : decode cX7_listen 50 = .ok (.bipush 6, 2) := by decide +kernel
theorem dX7_listen_52 : decode cX7_listen 52 = .ok (.aload_n 0, 1) := by decide +kernel
theorem dX7_listen_53 : decode cX7_listen 53 = .ok (.iload_n 1, 1) := by decide +kernel
theorem dX7_listen_54 : decode cX7_listen 54 = .ok (.bipush 6, 2) := by decide +kernel
theorem dX7_listen_56 : decode cX7_listen 56 = .ok (.invokevirtual 84, 3) := by decide +kernel
theorem dX7_listen_59 : decode cX7_listen 59 = .ok (.iconst 1, 1) := by decide +kernel
theorem dX7_listen_60 : decode cX7_listen 60 = .ok (.iadd, 1) := by decide +kernel
theorem dX7_listen_61 : decode cX7_listen 61 = .ok (.invokevirtual 93, 3) := by decide +kernel
theorem dX7_listen_64 : decode cX7_listen 64 = .ok (.goto 30, 3) := by decide +kernel
theorem dX7_listen_67 : decode cX7_listen 67 = .ok (.aload_n 0, 1) := by decide +kernel
theorem dX7_listen_68 : decode cX7_listen 68 = .ok (.iload_n 1, 1) := by decide +kernel
theorem dX7_listen_69 : decode cX7_listen 69 = .ok (.iconst 5, 1) := by decide +kernel
theorem dX7_listen_70 : decode cX7_listen 70 = .ok (.invokevirtual 84, 3) := by decide +kernel
theorem dX7_listen_73 : decode cX7_listen 73 = .ok (.iconst 1, 1) := by decide +kernel
theorem dX7_listen_74 : decode cX7_listen 74 = .ok (.if_icmp .ne 20, 3) := by decide +kernel
theorem dX7_listen_77 : decode cX7_listen 77 = .ok (.iload_n 2, 1) := by decide +kernel
theorem dX7_listen_78 : decode cX7_listen 78 = .ok (.aload_n 0, 1) := by decide +kernel
theorem dX7_listen_79 : decode cX7_listen 79 = .ok (.iload_n 1, 1) := by decide +kernel
theorem dX7_listen_80 : decode cX7_listen 80 = .ok (.iconst 4, 1) := by decide +kernel
theorem dX7_listen_81 : decode cX7_listen 81 = .ok (.invokevirtual 84, 3) := by decide +kernel
theorem dX7_listen_84 : decode cX7_listen 84 = .ok (.if_icmp .ge 10, 3) := by decide +kernel
theorem dX7_listen_87 : decode cX7_listen 87 = .ok (.aload_n 0, 1) := by decide +kernel
theorem dX7_listen_88 : decode cX7_listen 88 = .ok (.iload_n 1, 1) := by decide +kernel
theorem dX7_listen_89 : decode cX7_listen 89 = .ok (.iconst 5, 1) := by decide +kernel
theorem dX7_listen_90 : decode cX7_listen 90 = .ok (.iconst 0, 1) := by decide +kernel
theorem dX7_listen_91 : decode cX7_listen 91 = .ok (.invokevirtual 93, 3) := by decide +kernel
theorem dX7_listen_94 : decode cX7_listen 94 = .ok (.return_, 1) := by decide +kernel
theorem dX7_listener_0 : decode cX7_listener 0 = .ok (.aload_n 0, 1) := by decide +kernel
theorem dX7_listener_1 : decode cX7_listener 1 = .ok (.getfield 7, 3) := by decide +kernel
theorem dX7_listener_4 : decode cX7_listener 4 = .ok (.iconst 3, 1) := by decide +kernel
theorem dX7_listener_5 : decode cX7_listener 5 = .ok (.iaload, 1) := by decide +kernel
theorem dX7_listener_6 : decode cX7_listener 6 = .ok (.ifCond .ne 8, 3) := by decide +kernel
theorem dX7_listener_9 : decode cX7_listener 9 = .ok (.bipush (-6), 2) := by decide +kernel
theorem dX7_listener_11 : decode cX7_listener 11 = .ok (.goto 23, 3) := by decide +kernel
theorem dX7_listener_14 : decode cX7_listener 14 = .ok (.aload_n 0, 1) := by decide +kernel
theorem dX7_listener_15 : decode cX7_listener 15 = .ok (.getfield 7, 3) := by decide +kernel
theorem dX7_listener_18 : decode cX7_listener 18 = .ok (.iconst 2, 1) := by decide +kernel
theorem dX7_listener_19 : decode cX7_listener 19 = .ok (.iaload, 1) := by decide +kernel
theorem dX7_listener_20 : decode cX7_listener 20 = .ok (.aload_n 0, 1) := by decide +kernel
theorem dX7_listener_21 : decode cX7_listener 21 = .ok (.getfield 7, 3) := by decide +kernel
theorem dX7_listener_24 : decode cX7_listener 24 = .ok (.iconst 1, 1) := by decide +kernel
theorem dX7_listener_25 : decode cX7_listener 25 = .ok (.iaload, 1) := by decide +kernel
theorem dX7_listener_26 : decode cX7_listener 26 = .ok (.idiv, 1) := by decide +kernel
theorem dX7_listener_27 : decode cX7_listener 27 = .ok (.aload_n 0, 1) := by decide +kernel
theorem dX7_listener_28 : decode cX7_listener 28 = .ok (.getfield 7, 3) := by decide +kernel
theorem dX7_listener_31 : decode cX7_listener 31 = .ok (.iconst 3, 1) := by decide +kernel
theorem dX7_listener_32 : decode cX7_listener 32 = .ok (.iaload, 1) := by decide +kernel
theorem dX7_listener_33 : decode cX7_listener 33 = .ok (.irem, 1) := by decide +kernel
theorem dX7_listener_34 : decode cX7_listener 34 = .ok (.ireturn, 1) := by decide +kernel
theorem dX7_pass_0 : decode cX7_pass 0 = .ok (.aload_n 0, 1) := by decide +kernel
theorem dX7_pass_1 : decode cX7_pass 1 = .ok (.invokevirtual 102, 3) := by decide +kernel
theorem dX7_pass_4 : decode cX7_pass 4 = .ok (.aload_n 0, 1) := by decide +kernel
theorem dX7_pass_5 : decode cX7_pass 5 = .ok (.invokevirtual 105, 3) := by decide +kernel
theorem dX7_pass_8 : decode cX7_pass 8 = .ok (.iload_n 1, 1) := by decide +kernel
theorem dX7_pass_9 : decode cX7_pass 9 = .ok (.ifCond .ge 10, 3) := by decide +kernel
theorem dX7_pass_12 : decode cX7_pass 12 = .ok (.aload_n 0, 1) := by decide +kernel
theorem dX7_pass_13 : decode cX7_pass 13 = .ok (.invokevirtual 108, 3) := by decide +kernel
theorem dX7_pass_16 : decode cX7_pass 16 = .ok (.goto 4, 3) := by decide +kernel
theorem dX7_pass_19 : decode cX7_pass 19 = .ok (.iload_n 1, 1) := by decide +kernel
theorem dX7_pass_20 : decode cX7_pass 20 = .ok (.istore_n 2, 1) := by decide +kernel
theorem dX7_pass_21 : decode cX7_pass 21 = .ok (.iload_n 2, 1) := by decide +kernel
theorem dX7_pass_22 : decode cX7_pass 22 = .ok (.ifCond .lt 8, 3) := by decide +kernel
theorem dX7_pass_25 : decode cX7_pass 25 = .ok (.aload_n 0, 1) := by decide +kernel
theorem dX7_pass_26 : decode cX7_pass 26 = .ok (.iload_n 2, 1) := by decide +kernel
theorem dX7_pass_27 : decode cX7_pass 27 = .ok (.invokevirtual 112, 3) := by decide +kernel
theorem dX7_pass_30 : decode cX7_pass 30 = .ok (.aload_n 0, 1) := by decide +kernel
theorem dX7_pass_31 : decode cX7_pass 31 = .ok (.getfield 7, 3) := by decide +kernel
theorem dX7_pass_34 : decode cX7_pass 34 = .ok (.iconst 2, 1) := by decide +kernel
theorem dX7_pass_35 : decode cX7_pass 35 = .ok (.dup2, 1) := by decide +kernel
theorem dX7_pass_36 : decode cX7_pass 36 = .ok (.iaload, 1) := by decide +kernel
theorem dX7_pass_37 : decode cX7_pass 37 = .ok (.iconst 1, 1) := by decide +kernel
theorem dX7_pass_38 : decode cX7_pass 38 = .ok (.iadd, 1) := by decide +kernel
theorem dX7_pass_39 : decode cX7_pass 39 = .ok (.iastore, 1) := by decide +kernel
theorem dX7_pass_40 : decode cX7_pass 40 = .ok (.return_, 1) := by decide +kernel
theorem dX7_set_0 : decode cX7_set 0 = .ok (.iload_n 1, 1) := by decide +kernel
theorem dX7_set_1 : decode cX7_set 1 = .ok (.iconst 0, 1) := by decide +kernel
theorem dX7_set_2 : decode cX7_set 2 = .ok (.iconst 1, 1) := by decide +kernel
theorem dX7_set_3 : decode cX7_set 3 = .ok (.invokestatic 54, 3) := by decide +kernel
theorem dX7_set_6 : decode cX7_set 6 = .ok (.ifCond .eq 21, 3) := by decide +kernel
theorem dX7_set_9 : decode cX7_set 9 = .ok (.iload_n 2, 1) := by decide +kernel
theorem dX7_set_10 : decode cX7_set 10 = .ok (.iload_n 1, 1) := by decide +kernel
theorem dX7_set_11 : decode cX7_set 11 = .ok (.iload_n 1, 1) := by decide +kernel
theorem dX7_set_12 : decode cX7_set 12 = .ok (.ifCond .ne 8, 3) := by decide +kernel
theorem dX7_set_15 : decode cX7_set 15 = .ok (.bipush 8, 2) := by decide +kernel
theorem dX7_set_17 : decode cX7_set 17 = .ok (.goto 4, 3) := by decide +kernel
theorem dX7_set_20 : decode cX7_set 20 = .ok (.iconst 5, 1) := by decide +kernel
theorem dX7_set_21 : decode cX7_set 21 = .ok (.invokestatic 54, 3) := by decide +kernel
theorem dX7_set_24 : decode cX7_set 24 = .ok (.ifCond .ne 6, 3) := by decide +kernel
theorem dX7_set_27 : decode cX7_set 27 = .ok (.bipush (-2), 2) := by decide +kernel
theorem dX7_set_29 : decode cX7_set 29 = .ok (.ireturn, 1) := by decide +kernel
theorem dX7_set_30 : decode cX7_set 30 = .ok (.aload_n 0, 1) := by decide +kernel
theorem dX7_set_31 : decode cX7_set 31 = .ok (.invokevirtual 115, 3) := by decide +kernel
theorem dX7_set_34 : decode cX7_set 34 = .ok (.aload_n 0, 1) := by decide +kernel
theorem dX7_set_35 : decode cX7_set 35 = .ok (.getfield 7, 3) := by decide +kernel
theorem dX7_set_38 : decode cX7_set 38 = .ok (.iload_n 1, 1) := by decide +kernel
theorem dX7_set_39 : decode cX7_set 39 = .ok (.iaload, 1) := by decide +kernel
theorem dX7_set_40 : decode cX7_set 40 = .ok (.istore_n 3, 1) := by decide +kernel
theorem dX7_set_41 : decode cX7_set 41 = .ok (.aload_n 0, 1) := by decide +kernel
theorem dX7_set_42 : decode cX7_set 42 = .ok (.getfield 7, 3) := by decide +kernel
theorem dX7_set_45 : decode cX7_set 45 = .ok (.iload_n 1, 1) := by decide +kernel
theorem dX7_set_46 : decode cX7_set 46 = .ok (.iload_n 2, 1) := by decide +kernel
theorem dX7_set_47 : decode cX7_set 47 = .ok (.iastore, 1) := by decide +kernel
theorem dX7_set_48 : decode cX7_set 48 = .ok (.iload_n 3, 1) := by decide +kernel
theorem dX7_set_49 : decode cX7_set 49 = .ok (.ireturn, 1) := by decide +kernel
theorem dX7_areBounds_0 : decode cX7_areBounds 0 = .ok (.iload_n 0, 1) := by decide +kernel
theorem dX7_areBounds_1 : decode cX7_areBounds 1 = .ok (.iconst 1, 1) := by decide +kernel
theorem dX7_areBounds_2 : decode cX7_areBounds 2 = .ok (.sipush 200, 3) := by decide +kernel
theorem dX7_areBounds_5 : decode cX7_areBounds 5 = .ok (.invokestatic 54, 3) := by decide +kernel
theorem dX7_areBounds_8 : decode cX7_areBounds 8 = .ok (.ifCond .eq 16, 3) := by decide +kernel
theorem dX7_areBounds_11 : decode cX7_areBounds 11 = .ok (.iload_n 1, 1) := by decide +kernel
theorem dX7_areBounds_12 : decode cX7_areBounds 12 = .ok (.iconst 1, 1) := by decide +kernel
theorem dX7_areBounds_13 : decode cX7_areBounds 13 = .ok (.iload_n 0, 1) := by decide +kernel
theorem dX7_areBounds_14 : decode cX7_areBounds 14 = .ok (.invokestatic 54, 3) := by decide +kernel
theorem dX7_areBounds_17 : decode cX7_areBounds 17 = .ok (.ifCond .eq 7, 3) := by decide +kernel
theorem dX7_areBounds_20 : decode cX7_areBounds 20 = .ok (.iconst 1, 1) := by decide +kernel
theorem dX7_areBounds_21 : decode cX7_areBounds 21 = .ok (.goto 4, 3) := by decide +kernel
theorem dX7_areBounds_24 : decode cX7_areBounds 24 = .ok (.iconst 0, 1) := by decide +kernel
theorem dX7_areBounds_25 : decode cX7_areBounds 25 = .ok (.ireturn, 1) := by decide +kernel
theorem dX7_loop_0 : decode cX7_loop 0 = .ok (.iload_n 1, 1) := by decide +kernel
theorem dX7_loop_1 : decode cX7_loop 1 = .ok (.iconst 0, 1) := by decide +kernel
theorem dX7_loop_2 : decode cX7_loop 2 = .ok (.iconst 1, 1) := by decide +kernel
theorem dX7_loop_3 : decode cX7_loop 3 = .ok (.invokestatic 54, 3) := by decide +kernel
theorem dX7_loop_6 : decode cX7_loop 6 = .ok (.ifCond .eq 34, 3) := by decide +kernel
theorem dX7_loop_9 : decode cX7_loop 9 = .ok (.iload_n 3, 1) := by decide +kernel
theorem dX7_loop_10 : decode cX7_loop 10 = .ok (.iconst 1, 1) := by decide +kernel
theorem dX7_loop_11 : decode cX7_loop 11 = .ok (.iconst 3, 1) := by decide +kernel
theorem dX7_loop_12 : decode cX7_loop 12 = .ok (.invokestatic 54, 3) := by decide +kernel
theorem dX7_loop_15 : decode cX7_loop 15 = .ok (.ifCond .eq 25, 3) := by decide +kernel
theorem dX7_loop_18 : decode cX7_loop 18 = .ok (.iload_n 2, 1) := by decide +kernel
theorem dX7_loop_19 : decode cX7_loop 19 = .ok (.iconst 0, 1) := by decide +kernel
theorem dX7_loop_20 : decode cX7_loop 20 = .ok (.bipush 40, 2) := by decide +kernel
theorem dX7_loop_22 : decode cX7_loop 22 = .ok (.iload_n 3, 1) := by decide +kernel
theorem dX7_loop_23 : decode cX7_loop 23 = .ok (.isub, 1) := by decide +kernel
theorem dX7_loop_24 : decode cX7_loop 24 = .ok (.invokestatic 54, 3) := by decide +kernel
theorem dX7_loop_27 : decode cX7_loop 27 = .ok (.ifCond .eq 13, 3) := by decide +kernel
theorem dX7_loop_30 : decode cX7_loop 30 = .ok (.iload 4, 2) := by decide +kernel
theorem dX7_loop_32 : decode cX7_loop 32 = .ok (.iload 5, 2) := by decide +kernel
theorem dX7_loop_34 : decode cX7_loop 34 = .ok (.invokestatic 118, 3) := by decide +kernel
theorem dX7_loop_37 : decode cX7_loop 37 = .ok (.ifCond .ne 6, 3) := by decide +kernel
theorem dX7_loop_40 : decode cX7_loop 40 = .ok (.bipush (-2), 2) := by decide +kernel
theorem dX7_loop_42 : decode cX7_loop 42 = .ok (.ireturn, 1) := by decide +kernel
theorem dX7_loop_43 : decode cX7_loop 43 = .ok (.aload_n 0, 1) := by decide +kernel
theorem dX7_loop_44 : decode cX7_loop 44 = .ok (.getfield 7, 3) := by decide +kernel
theorem dX7_loop_47 : decode cX7_loop 47 = .ok (.iconst 3, 1) := by decide +kernel
theorem dX7_loop_48 : decode cX7_loop 48 = .ok (.iaload, 1) := by decide +kernel
theorem dX7_loop_49 : decode cX7_loop 49 = .ok (.bipush 6, 2) := by decide +kernel
theorem dX7_loop_51 : decode cX7_loop 51 = .ok (.if_icmp .ne 6, 3) := by decide +kernel
theorem dX7_loop_54 : decode cX7_loop 54 = .ok (.bipush (-4), 2) := by decide +kernel
theorem dX7_loop_56 : decode cX7_loop 56 = .ok (.ireturn, 1) := by decide +kernel
theorem dX7_loop_57 : decode cX7_loop 57 = .ok (.aload_n 0, 1) := by decide +kernel
theorem dX7_loop_58 : decode cX7_loop 58 = .ok (.invokevirtual 115, 3) := by decide +kernel
theorem dX7_loop_61 : decode cX7_loop 61 = .ok (.aload_n 0, 1) := by decide +kernel
theorem dX7_loop_62 : decode cX7_loop 62 = .ok (.getfield 7, 3) := by decide +kernel
theorem dX7_loop_65 : decode cX7_loop 65 = .ok (.iconst 3, 1) := by decide +kernel
theorem dX7_loop_66 : decode cX7_loop 66 = .ok (.iaload, 1) := by decide +kernel
theorem dX7_loop_67 : decode cX7_loop 67 = .ok (.istore 6, 2) := by decide +kernel
theorem dX7_loop_69 : decode cX7_loop 69 = .ok (.aload_n 0, 1) := by decide +kernel
theorem dX7_loop_70 : decode cX7_loop 70 = .ok (.getfield 7, 3) := by decide +kernel
theorem dX7_loop_73 : decode cX7_loop 73 = .ok (.iconst 3, 1) := by decide +kernel
theorem dX7_loop_74 : decode cX7_loop 74 = .ok (.dup2, 1) := by decide +kernel
theorem dX7_loop_75 : decode cX7_loop 75 = .ok (.iaload, 1) := by decide +kernel
theorem dX7_loop_76 : decode cX7_loop 76 = .ok (.iconst 1, 1) := by decide +kernel
theorem dX7_loop_77 : decode cX7_loop 77 = .ok (.iadd, 1) := by decide +kernel
theorem dX7_loop_78 : decode cX7_loop 78 = .ok (.iastore, 1) := by decide +kernel
theorem dX7_loop_79 : decode cX7_loop 79 = .ok (.aload_n 0, 1) := by decide +kernel
theorem dX7_loop_80 : decode cX7_loop 80 = .ok (.iload 6, 2) := by decide +kernel
theorem dX7_loop_82 : decode cX7_loop 82 = .ok (.iconst 0, 1) := by decide +kernel
theorem dX7_loop_83 : decode cX7_loop 83 = .ok (.iload_n 1, 1) := by decide +kernel
theorem dX7_loop_84 : decode cX7_loop 84 = .ok (.invokevirtual 93, 3) := by decide +kernel
theorem dX7_loop_87 : decode cX7_loop 87 = .ok (.aload_n 0, 1) := by decide +kernel
theorem dX7_loop_88 : decode cX7_loop 88 = .ok (.iload 6, 2) := by decide +kernel
theorem dX7_loop_90 : decode cX7_loop 90 = .ok (.iconst 1, 1) := by decide +kernel
theorem dX7_loop_91 : decode cX7_loop 91 = .ok (.iload_n 2, 1) := by decide +kernel
theorem dX7_loop_92 : decode cX7_loop 92 = .ok (.invokevirtual 93, 3) := by decide +kernel
theorem dX7_loop_95 : decode cX7_loop 95 = .ok (.aload_n 0, 1) := by decide +kernel
theorem dX7_loop_96 : decode cX7_loop 96 = .ok (.iload 6, 2) := by decide +kernel
theorem dX7_loop_98 : decode cX7_loop 98 = .ok (.iconst 2, 1) := by decide +kernel
theorem dX7_loop_99 : decode cX7_loop 99 = .ok (.iload_n 3, 1) := by decide +kernel
theorem dX7_loop_100 : decode cX7_loop 100 = .ok (.invokevirtual 93, 3) := by decide +kernel
theorem dX7_loop_103 : decode cX7_loop 103 = .ok (.aload_n 0, 1) := by decide +kernel
theorem dX7_loop_104 : decode cX7_loop 104 = .ok (.iload 6, 2) := by decide +kernel
theorem dX7_loop_106 : decode cX7_loop 106 = .ok (.iconst 3, 1) := by decide +kernel
theorem dX7_loop_107 : decode cX7_loop 107 = .ok (.iload 4, 2) := by decide +kernel
theorem dX7_loop_109 : decode cX7_loop 109 = .ok (.invokevirtual 93, 3) := by decide +kernel
theorem dX7_loop_112 : decode cX7_loop 112 = .ok (.aload_n 0, 1) := by decide +kernel
theorem dX7_loop_113 : decode cX7_loop 113 = .ok (.iload 6, 2) := by decide +kernel
theorem dX7_loop_115 : decode cX7_loop 115 = .ok (.iconst 4, 1) := by decide +kernel
theorem dX7_loop_116 : decode cX7_loop 116 = .ok (.iload 5, 2) := by decide +kernel
theorem dX7_loop_118 : decode cX7_loop 118 = .ok (.invokevirtual 93, 3) := by decide +kernel
theorem dX7_loop_121 : decode cX7_loop 121 = .ok (.iconst 0, 1) := by decide +kernel
theorem dX7_loop_122 : decode cX7_loop 122 = .ok (.istore 7, 2) := by decide +kernel
theorem dX7_loop_124 : decode cX7_loop 124 = .ok (.iload 7, 2) := by decide +kernel
theorem dX7_loop_126 : decode cX7_loop 126 = .ok (.aload_n 0, 1) := by decide +kernel
theorem dX7_loop_127 : decode cX7_loop 127 = .ok (.getfield 7, 3) := by decide +kernel
theorem dX7_loop_130 : decode cX7_loop 130 = .ok (.iconst 4, 1) := by decide +kernel
theorem dX7_loop_131 : decode cX7_loop 131 = .ok (.iaload, 1) := by decide +kernel
theorem dX7_loop_132 : decode cX7_loop 132 = .ok (.if_icmp .ge 45, 3) := by decide +kernel
theorem dX7_loop_135 : decode cX7_loop 135 = .ok (.aload_n 0, 1) := by decide +kernel
theorem dX7_loop_136 : decode cX7_loop 136 = .ok (.iload 7, 2) := by decide +kernel
theorem dX7_loop_138 : decode cX7_loop 138 = .ok (.bipush 9, 2) := by decide +kernel
theorem dX7_loop_140 : decode cX7_loop 140 = .ok (.aload_n 0, 1) := by decide +kernel
theorem dX7_loop_141 : decode cX7_loop 141 = .ok (.iload 7, 2) := by decide +kernel
theorem dX7_loop_143 : decode cX7_loop 143 = .ok (.bipush 9, 2) := by decide +kernel
theorem dX7_loop_145 : decode cX7_loop 145 = .ok (.invokevirtual 46, 3) := by decide +kernel
theorem dX7_loop_148 : decode cX7_loop 148 = .ok (.aload_n 0, 1) := by decide +kernel
theorem dX7_loop_149 : decode cX7_loop 149 = .ok (.iload 7, 2) := by decide +kernel
theorem dX7_loop_151 : decode cX7_loop 151 = .ok (.iload 6, 2) := by decide +kernel
theorem dX7_loop_153 : decode cX7_loop 153 = .ok (.invokevirtual 87, 3) := by decide +kernel
theorem dX7_loop_156 : decode cX7_loop 156 = .ok (.ifCond .eq 10, 3) := by decide +kernel
theorem dX7_loop_159 : decode cX7_loop 159 = .ok (.iconst 1, 1) := by decide +kernel
theorem dX7_loop_160 : decode cX7_loop 160 = .ok (.iload 6, 2) := by decide +kernel
theorem dX7_loop_162 : decode cX7_loop 162 = .ok (.ishl, 1) := by decide +kernel
theorem dX7_loop_163 : decode cX7_loop 163 = .ok (.goto 4, 3) := by decide +kernel
theorem dX7_loop_166 : decode cX7_loop 166 = .ok (.iconst 0, 1) := by decide +kernel
theorem dX7_loop_167 : decode cX7_loop 167 = .ok (.ior, 1) := by decide +kernel
theorem dX7_loop_168 : decode cX7_loop 168 = .ok (.invokevirtual 73, 3) := by decide +kernel
theorem dX7_loop_171 : decode cX7_loop 171 = .ok (.iinc 7 1, 3) := by decide +kernel
theorem dX7_loop_174 : decode cX7_loop 174 = .ok (.goto (-50), 3) := by decide +kernel
theorem dX7_loop_177 : decode cX7_loop 177 = .ok (.iload 6, 2) := by decide +kernel
theorem dX7_loop_179 : decode cX7_loop 179 = .ok (.ireturn, 1) := by decide +kernel
theorem dX7_isLoop_0 : decode cX7_isLoop 0 = .ok (.iload_n 1, 1) := by decide +kernel
theorem dX7_isLoop_1 : decode cX7_isLoop 1 = .ok (.iconst 0, 1) := by decide +kernel
theorem dX7_isLoop_2 : decode cX7_isLoop 2 = .ok (.aload_n 0, 1) := by decide +kernel
theorem dX7_isLoop_3 : decode cX7_isLoop 3 = .ok (.getfield 7, 3) := by decide +kernel
theorem dX7_isLoop_6 : decode cX7_isLoop 6 = .ok (.iconst 3, 1) := by decide +kernel
theorem dX7_isLoop_7 : decode cX7_isLoop 7 = .ok (.iaload, 1) := by decide +kernel
theorem dX7_isLoop_8 : decode cX7_isLoop 8 = .ok (.iconst 1, 1) := by decide +kernel
theorem dX7_isLoop_9 : decode cX7_isLoop 9 = .ok (.isub, 1) := by decide +kernel
theorem dX7_isLoop_10 : decode cX7_isLoop 10 = .ok (.invokestatic 54, 3) := by decide +kernel
theorem dX7_isLoop_13 : decode cX7_isLoop 13 = .ok (.ireturn, 1) := by decide +kernel
theorem dX7_isCar_0 : decode cX7_isCar 0 = .ok (.iload_n 1, 1) := by decide +kernel
theorem dX7_isCar_1 : decode cX7_isCar 1 = .ok (.iconst 0, 1) := by decide +kernel
theorem dX7_isCar_2 : decode cX7_isCar 2 = .ok (.aload_n 0, 1) := by decide +kernel
theorem dX7_isCar_3 : decode cX7_isCar 3 = .ok (.getfield 7, 3) := by decide +kernel
theorem dX7_isCar_6 : decode cX7_isCar 6 = .ok (.iconst 4, 1) := by decide +kernel
theorem dX7_isCar_7 : decode cX7_isCar 7 = .ok (.iaload, 1) := by decide +kernel
theorem dX7_isCar_8 : decode cX7_isCar 8 = .ok (.iconst 1, 1) := by decide +kernel
theorem dX7_isCar_9 : decode cX7_isCar 9 = .ok (.isub, 1) := by decide +kernel
theorem dX7_isCar_10 : decode cX7_isCar 10 = .ok (.invokestatic 54, 3) := by decide +kernel
theorem dX7_isCar_13 : decode cX7_isCar 13 = .ok (.ireturn, 1) := by decide +kernel
theorem dX7_bounds_0 : decode cX7_bounds 0 = .ok (.aload_n 0, 1) := by decide +kernel
theorem dX7_bounds_1 : decode cX7_bounds 1 = .ok (.iload_n 1, 1) := by decide +kernel
theorem dX7_bounds_2 : decode cX7_bounds 2 = .ok (.invokevirtual 121, 3) := by decide +kernel
theorem dX7_bounds_5 : decode cX7_bounds 5 = .ok (.ifCond .ne 5, 3) := by decide +kernel
theorem dX7_bounds_8 : decode cX7_bounds 8 = .ok (.iconst (-1), 1) := by decide +kernel
theorem dX7_bounds_9 : decode cX7_bounds 9 = .ok (.ireturn, 1) := by decide +kernel
theorem dX7_bounds_10 : decode cX7_bounds 10 = .ok (.iload_n 2, 1) := by decide +kernel
theorem dX7_bounds_11 : decode cX7_bounds 11 = .ok (.iload_n 3, 1) := by decide +kernel
theorem dX7_bounds_12 : decode cX7_bounds 12 = .ok (.invokestatic 118, 3) := by decide +kernel
theorem dX7_bounds_15 : decode cX7_bounds 15 = .ok (.ifCond .ne 6, 3) := by decide +kernel
theorem dX7_bounds_18 : decode cX7_bounds 18 = .ok (.bipush (-2), 2) := by decide +kernel
theorem dX7_bounds_20 : decode cX7_bounds 20 = .ok (.ireturn, 1) := by decide +kernel
theorem dX7_bounds_21 : decode cX7_bounds 21 = .ok (.aload_n 0, 1) := by decide +kernel
theorem dX7_bounds_22 : decode cX7_bounds 22 = .ok (.invokevirtual 115, 3) := by decide +kernel
theorem dX7_bounds_25 : decode cX7_bounds 25 = .ok (.aload_n 0, 1) := by decide +kernel
theorem dX7_bounds_26 : decode cX7_bounds 26 = .ok (.iload_n 1, 1) := by decide +kernel
theorem dX7_bounds_27 : decode cX7_bounds 27 = .ok (.iconst 3, 1) := by decide +kernel
theorem dX7_bounds_28 : decode cX7_bounds 28 = .ok (.invokevirtual 84, 3) := by decide +kernel
theorem dX7_bounds_31 : decode cX7_bounds 31 = .ok (.istore 4, 2) := by decide +kernel
theorem dX7_bounds_33 : decode cX7_bounds 33 = .ok (.aload_n 0, 1) := by decide +kernel
theorem dX7_bounds_34 : decode cX7_bounds 34 = .ok (.iload_n 1, 1) := by decide +kernel
theorem dX7_bounds_35 : decode cX7_bounds 35 = .ok (.iconst 3, 1) := by decide +kernel
theorem dX7_bounds_36 : decode cX7_bounds 36 = .ok (.iload_n 2, 1) := by decide +kernel
theorem dX7_bounds_37 : decode cX7_bounds 37 = .ok (.invokevirtual 93, 3) := by decide +kernel
theorem dX7_bounds_40 : decode cX7_bounds 40 = .ok (.aload_n 0, 1) := by decide +kernel
theorem dX7_bounds_41 : decode cX7_bounds 41 = .ok (.iload_n 1, 1) := by decide +kernel
theorem dX7_bounds_42 : decode cX7_bounds 42 = .ok (.iconst 4, 1) := by decide +kernel
theorem dX7_bounds_43 : decode cX7_bounds 43 = .ok (.iload_n 3, 1) := by decide +kernel
theorem dX7_bounds_44 : decode cX7_bounds 44 = .ok (.invokevirtual 93, 3) := by decide +kernel
theorem dX7_bounds_47 : decode cX7_bounds 47 = .ok (.iload 4, 2) := by decide +kernel
theorem dX7_bounds_49 : decode cX7_bounds 49 = .ok (.ireturn, 1) := by decide +kernel
theorem dX7_come_0 : decode cX7_come 0 = .ok (.iload_n 1, 1) := by decide +kernel
theorem dX7_come_1 : decode cX7_come 1 = .ok (.iconst 0, 1) := by decide +kernel
theorem dX7_come_2 : decode cX7_come 2 = .ok (.iconst 1, 1) := by decide +kernel
theorem dX7_come_3 : decode cX7_come 3 = .ok (.invokestatic 54, 3) := by decide +kernel
theorem dX7_come_6 : decode cX7_come 6 = .ok (.ifCond .eq 32, 3) := by decide +kernel
theorem dX7_come_9 : decode cX7_come 9 = .ok (.iload_n 2, 1) := by decide +kernel
theorem dX7_come_10 : decode cX7_come 10 = .ok (.iconst 1, 1) := by decide +kernel
theorem dX7_come_11 : decode cX7_come 11 = .ok (.iconst 4, 1) := by decide +kernel
theorem dX7_come_12 : decode cX7_come 12 = .ok (.invokestatic 54, 3) := by decide +kernel
theorem dX7_come_15 : decode cX7_come 15 = .ok (.ifCond .eq 23, 3) := by decide +kernel
theorem dX7_come_18 : decode cX7_come 18 = .ok (.iload_n 3, 1) := by decide +kernel
theorem dX7_come_19 : decode cX7_come 19 = .ok (.iconst 1, 1) := by decide +kernel
theorem dX7_come_20 : decode cX7_come 20 = .ok (.iconst 4, 1) := by decide +kernel
theorem dX7_come_21 : decode cX7_come 21 = .ok (.invokestatic 54, 3) := by decide +kernel
theorem dX7_come_24 : decode cX7_come 24 = .ok (.ifCond .eq 14, 3) := by decide +kernel
theorem dX7_come_27 : decode cX7_come 27 = .ok (.iload 4, 2) := by decide +kernel
theorem dX7_come_29 : decode cX7_come 29 = .ok (.iconst 1, 1) := by decide +kernel
theorem dX7_come_30 : decode cX7_come 30 = .ok (.bipush 9, 2) := by decide +kernel
theorem dX7_come_32 : decode cX7_come 32 = .ok (.invokestatic 54, 3) := by decide +kernel
theorem dX7_come_35 : decode cX7_come 35 = .ok (.ifCond .ne 6, 3) := by decide +kernel
theorem dX7_come_38 : decode cX7_come 38 = .ok (.bipush (-2), 2) := by decide +kernel
theorem dX7_come_40 : decode cX7_come 40 = .ok (.ireturn, 1) := by decide +kernel
theorem dX7_come_41 : decode cX7_come 41 = .ok (.aload_n 0, 1) := by decide +kernel
theorem dX7_come_42 : decode cX7_come 42 = .ok (.getfield 7, 3) := by decide +kernel
theorem dX7_come_45 : decode cX7_come 45 = .ok (.iconst 4, 1) := by decide +kernel
theorem dX7_come_46 : decode cX7_come 46 = .ok (.iaload, 1) := by decide +kernel
theorem dX7_come_47 : decode cX7_come 47 = .ok (.bipush 40, 2) := by decide +kernel
theorem dX7_come_49 : decode cX7_come 49 = .ok (.if_icmp .ne 6, 3) := by decide +kernel
theorem dX7_come_52 : decode cX7_come 52 = .ok (.bipush (-4), 2) := by decide +kernel
theorem dX7_come_54 : decode cX7_come 54 = .ok (.ireturn, 1) := by decide +kernel
theorem dX7_come_55 : decode cX7_come 55 = .ok (.aload_n 0, 1) := by decide +kernel
theorem dX7_come_56 : decode cX7_come 56 = .ok (.invokevirtual 77, 3) := by decide +kernel
theorem dX7_come_59 : decode cX7_come 59 = .ok (.aload_n 0, 1) := by decide +kernel
theorem dX7_come_60 : decode cX7_come 60 = .ok (.iload_n 1, 1) := by decide +kernel
theorem dX7_come_61 : decode cX7_come 61 = .ok (.iconst 0, 1) := by decide +kernel
theorem dX7_come_62 : decode cX7_come 62 = .ok (.invokevirtual 66, 3) := by decide +kernel
theorem dX7_come_65 : decode cX7_come 65 = .ok (.ifCond .ne 6, 3) := by decide +kernel
theorem dX7_come_68 : decode cX7_come 68 = .ok (.bipush (-5), 2) := by decide +kernel
theorem dX7_come_70 : decode cX7_come 70 = .ok (.ireturn, 1) := by decide +kernel
theorem dX7_come_71 : decode cX7_come 71 = .ok (.aload_n 0, 1) := by decide +kernel
theorem dX7_come_72 : decode cX7_come 72 = .ok (.invokevirtual 115, 3) := by decide +kernel
theorem dX7_come_75 : decode cX7_come 75 = .ok (.aload_n 0, 1) := by decide +kernel
theorem dX7_come_76 : decode cX7_come 76 = .ok (.getfield 7, 3) := by decide +kernel
theorem dX7_come_79 : decode cX7_come 79 = .ok (.iconst 4, 1) := by decide +kernel
theorem dX7_come_80 : decode cX7_come 80 = .ok (.iaload, 1) := by decide +kernel
theorem dX7_come_81 : decode cX7_come 81 = .ok (.istore 5, 2) := by decide +kernel
theorem dX7_come_83 : decode cX7_come 83 = .ok (.aload_n 0, 1) := by decide +kernel
theorem dX7_come_84 : decode cX7_come 84 = .ok (.getfield 7, 3) := by decide +kernel
theorem dX7_come_87 : decode cX7_come 87 = .ok (.iconst 4, 1) := by decide +kernel
theorem dX7_come_88 : decode cX7_come 88 = .ok (.dup2, 1) := by decide +kernel
theorem dX7_come_89 : decode cX7_come 89 = .ok (.iaload, 1) := by decide +kernel
theorem dX7_come_90 : decode cX7_come 90 = .ok (.iconst 1, 1) := by decide +kernel
theorem dX7_come_91 : decode cX7_come 91 = .ok (.iadd, 1) := by decide +kernel
theorem dX7_come_92 : decode cX7_come 92 = .ok (.iastore, 1) := by decide +kernel
theorem dX7_come_93 : decode cX7_come 93 = .ok (.aload_n 0, 1) := by decide +kernel
theorem dX7_come_94 : decode cX7_come 94 = .ok (.iload 5, 2) := by decide +kernel
theorem dX7_come_96 : decode cX7_come 96 = .ok (.iconst 0, 1) := by decide +kernel
theorem dX7_come_97 : decode cX7_come 97 = .ok (.iload_n 1, 1) := by decide +kernel
theorem dX7_come_98 : decode cX7_come 98 = .ok (.invokevirtual 73, 3) := by decide +kernel
theorem dX7_come_101 : decode cX7_come 101 = .ok (.aload_n 0, 1) := by decide +kernel
theorem dX7_come_102 : decode cX7_come 102 = .ok (.iload 5, 2) := by decide +kernel
theorem dX7_come_104 : decode cX7_come 104 = .ok (.iconst 2, 1) := by decide +kernel
theorem dX7_come_105 : decode cX7_come 105 = .ok (.iload_n 2, 1) := by decide +kernel
theorem dX7_come_106 : decode cX7_come 106 = .ok (.invokevirtual 73, 3) := by decide +kernel
theorem dX7_come_109 : decode cX7_come 109 = .ok (.aload_n 0, 1) := by decide +kernel
theorem dX7_come_110 : decode cX7_come 110 = .ok (.iload 5, 2) := by decide +kernel
theorem dX7_come_112 : decode cX7_come 112 = .ok (.iconst 3, 1) := by decide +kernel
theorem dX7_come_113 : decode cX7_come 113 = .ok (.iload_n 3, 1) := by decide +kernel
theorem dX7_come_114 : decode cX7_come 114 = .ok (.invokevirtual 73, 3) := by decide +kernel
theorem dX7_come_117 : decode cX7_come 117 = .ok (.aload_n 0, 1) := by decide +kernel
theorem dX7_come_118 : decode cX7_come 118 = .ok (.iload 5, 2) := by decide +kernel
theorem dX7_come_120 : decode cX7_come 120 = .ok (.iconst 4, 1) := by decide +kernel
theorem dX7_come_121 : decode cX7_come 121 = .ok (.iload 4, 2) := by decide +kernel
theorem dX7_come_123 : decode cX7_come 123 = .ok (.invokevirtual 73, 3) := by decide +kernel
theorem dX7_come_126 : decode cX7_come 126 = .ok (.iload 5, 2) := by decide +kernel
theorem dX7_come_128 : decode cX7_come 128 = .ok (.ireturn, 1) := by decide +kernel
theorem dX7_want_0 : decode cX7_want 0 = .ok (.aload_n 0, 1) := by decide +kernel
theorem dX7_want_1 : decode cX7_want 1 = .ok (.iload_n 1, 1) := by decide +kernel
theorem dX7_want_2 : decode cX7_want 2 = .ok (.invokevirtual 124, 3) := by decide +kernel
theorem dX7_want_5 : decode cX7_want 5 = .ok (.ifCond .ne 5, 3) := by decide +kernel
theorem dX7_want_8 : decode cX7_want 8 = .ok (.iconst (-1), 1) := by decide +kernel
theorem dX7_want_9 : decode cX7_want 9 = .ok (.ireturn, 1) := by decide +kernel
theorem dX7_want_10 : decode cX7_want 10 = .ok (.aload_n 0, 1) := by decide +kernel
theorem dX7_want_11 : decode cX7_want 11 = .ok (.iload_n 1, 1) := by decide +kernel
theorem dX7_want_12 : decode cX7_want 12 = .ok (.invokevirtual 58, 3) := by decide +kernel
theorem dX7_want_15 : decode cX7_want 15 = .ok (.ifCond .ne 6, 3) := by decide +kernel
theorem dX7_want_18 : decode cX7_want 18 = .ok (.bipush (-5), 2) := by decide +kernel
theorem dX7_want_20 : decode cX7_want 20 = .ok (.ireturn, 1) := by decide +kernel
theorem dX7_want_21 : decode cX7_want 21 = .ok (.aload_n 0, 1) := by decide +kernel
theorem dX7_want_22 : decode cX7_want 22 = .ok (.invokevirtual 115, 3) := by decide +kernel
theorem dX7_want_25 : decode cX7_want 25 = .ok (.aload_n 0, 1) := by decide +kernel
theorem dX7_want_26 : decode cX7_want 26 = .ok (.iload_n 1, 1) := by decide +kernel
theorem dX7_want_27 : decode cX7_want 27 = .ok (.bipush 6, 2) := by decide +kernel
theorem dX7_want_29 : decode cX7_want 29 = .ok (.iconst 1, 1) := by decide +kernel
theorem dX7_want_30 : decode cX7_want 30 = .ok (.aload_n 0, 1) := by decide +kernel
theorem dX7_want_31 : decode cX7_want 31 = .ok (.iload_n 1, 1) := by decide +kernel
theorem dX7_want_32 : decode cX7_want 32 = .ok (.bipush 6, 2) := by decide +kernel
theorem dX7_want_34 : decode cX7_want 34 = .ok (.invokevirtual 46, 3) := by decide +kernel
theorem dX7_want_37 : decode cX7_want 37 = .ok (.isub, 1) := by decide +kernel
theorem dX7_want_38 : decode cX7_want 38 = .ok (.invokevirtual 73, 3) := by decide +kernel
theorem dX7_want_41 : decode cX7_want 41 = .ok (.aload_n 0, 1) := by decide +kernel
theorem dX7_want_42 : decode cX7_want 42 = .ok (.iload_n 1, 1) := by decide +kernel
theorem dX7_want_43 : decode cX7_want 43 = .ok (.bipush 6, 2) := by decide +kernel
theorem dX7_want_45 : decode cX7_want 45 = .ok (.invokevirtual 46, 3) := by decide +kernel
theorem dX7_want_48 : decode cX7_want 48 = .ok (.ireturn, 1) := by decide +kernel
theorem dX7_speed_0 : decode cX7_speed 0 = .ok (.aload_n 0, 1) := by decide +kernel
theorem dX7_speed_1 : decode cX7_speed 1 = .ok (.iload_n 1, 1) := by decide +kernel
theorem dX7_speed_2 : decode cX7_speed 2 = .ok (.invokevirtual 124, 3) := by decide +kernel
theorem dX7_speed_5 : decode cX7_speed 5 = .ok (.ifCond .ne 5, 3) := by decide +kernel
theorem dX7_speed_8 : decode cX7_speed 8 = .ok (.iconst (-1), 1) := by decide +kernel
theorem dX7_speed_9 : decode cX7_speed 9 = .ok (.ireturn, 1) := by decide +kernel
theorem dX7_speed_10 : decode cX7_speed 10 = .ok (.iload_n 2, 1) := by decide +kernel
theorem dX7_speed_11 : decode cX7_speed 11 = .ok (.iconst 0, 1) := by decide +kernel
theorem dX7_speed_12 : decode cX7_speed 12 = .ok (.iconst 4, 1) := by decide +kernel
theorem dX7_speed_13 : decode cX7_speed 13 = .ok (.invokestatic 54, 3) := by decide +kernel
theorem dX7_speed_16 : decode cX7_speed 16 = .ok (.ifCond .ne 6, 3) := by decide +kernel
theorem dX7_speed_19 : decode cX7_speed 19 = .ok (.bipush (-2), 2) := by decide +kernel
theorem dX7_speed_21 : decode cX7_speed 21 = .ok (.ireturn, 1) := by decide +kernel
theorem dX7_speed_22 : decode cX7_speed 22 = .ok (.aload_n 0, 1) := by decide +kernel
theorem dX7_speed_23 : decode cX7_speed 23 = .ok (.iload_n 1, 1) := by decide +kernel
theorem dX7_speed_24 : decode cX7_speed 24 = .ok (.invokevirtual 58, 3) := by decide +kernel
theorem dX7_speed_27 : decode cX7_speed 27 = .ok (.ifCond .ne 6, 3) := by decide +kernel
theorem dX7_speed_30 : decode cX7_speed 30 = .ok (.bipush (-5), 2) := by decide +kernel
theorem dX7_speed_32 : decode cX7_speed 32 = .ok (.ireturn, 1) := by decide +kernel
theorem dX7_speed_33 : decode cX7_speed 33 = .ok (.aload_n 0, 1) := by decide +kernel
theorem dX7_speed_34 : decode cX7_speed 34 = .ok (.invokevirtual 115, 3) := by decide +kernel
theorem dX7_speed_37 : decode cX7_speed 37 = .ok (.aload_n 0, 1) := by decide +kernel
theorem dX7_speed_38 : decode cX7_speed 38 = .ok (.iload_n 1, 1) := by decide +kernel
theorem dX7_speed_39 : decode cX7_speed 39 = .ok (.iconst 3, 1) := by decide +kernel
theorem dX7_speed_40 : decode cX7_speed 40 = .ok (.invokevirtual 46, 3) := by decide +kernel
theorem dX7_speed_43 : decode cX7_speed 43 = .ok (.istore_n 3, 1) := by decide +kernel
theorem dX7_speed_44 : decode cX7_speed 44 = .ok (.aload_n 0, 1) := by decide +kernel
theorem dX7_speed_45 : decode cX7_speed 45 = .ok (.iload_n 1, 1) := by decide +kernel
theorem dX7_speed_46 : decode cX7_speed 46 = .ok (.iconst 3, 1) := by decide +kernel
theorem dX7_speed_47 : decode cX7_speed 47 = .ok (.iload_n 2, 1) := by decide +kernel
theorem dX7_speed_48 : decode cX7_speed 48 = .ok (.invokevirtual 73, 3) := by decide +kernel
theorem dX7_speed_51 : decode cX7_speed 51 = .ok (.iload_n 3, 1) := by decide +kernel
theorem dX7_speed_52 : decode cX7_speed 52 = .ok (.ireturn, 1) := by decide +kernel
theorem dX7_ticks_0 : decode cX7_ticks 0 = .ok (.iload_n 1, 1) := by decide +kernel
theorem dX7_ticks_1 : decode cX7_ticks 1 = .ok (.iconst 1, 1) := by decide +kernel
theorem dX7_ticks_2 : decode cX7_ticks 2 = .ok (.bipush 100, 2) := by decide +kernel
theorem dX7_ticks_4 : decode cX7_ticks 4 = .ok (.invokestatic 54, 3) := by decide +kernel
theorem dX7_ticks_7 : decode cX7_ticks 7 = .ok (.ifCond .ne 6, 3) := by decide +kernel
theorem dX7_ticks_10 : decode cX7_ticks 10 = .ok (.bipush (-2), 2) := by decide +kernel
theorem dX7_ticks_12 : decode cX7_ticks 12 = .ok (.ireturn, 1) := by decide +kernel
theorem dX7_ticks_13 : decode cX7_ticks 13 = .ok (.aload_n 0, 1) := by decide +kernel
theorem dX7_ticks_14 : decode cX7_ticks 14 = .ok (.invokevirtual 115, 3) := by decide +kernel
theorem dX7_ticks_17 : decode cX7_ticks 17 = .ok (.iconst 0, 1) := by decide +kernel
theorem dX7_ticks_18 : decode cX7_ticks 18 = .ok (.istore_n 2, 1) := by decide +kernel
theorem dX7_ticks_19 : decode cX7_ticks 19 = .ok (.iload_n 2, 1) := by decide +kernel
theorem dX7_ticks_20 : decode cX7_ticks 20 = .ok (.iload_n 1, 1) := by decide +kernel
theorem dX7_ticks_21 : decode cX7_ticks 21 = .ok (.if_icmp .ge 15, 3) := by decide +kernel
theorem dX7_ticks_24 : decode cX7_ticks 24 = .ok (.aload_n 0, 1) := by decide +kernel
theorem dX7_ticks_25 : decode cX7_ticks 25 = .ok (.bipush (-6), 2) := by decide +kernel
theorem dX7_ticks_27 : decode cX7_ticks 27 = .ok (.invokevirtual 127, 3) := by decide +kernel
theorem dX7_ticks_30 : decode cX7_ticks 30 = .ok (.iinc 2 1, 3) := by decide +kernel
theorem dX7_ticks_33 : decode cX7_ticks 33 = .ok (.goto (-14), 3) := by decide +kernel
theorem dX7_ticks_36 : decode cX7_ticks 36 = .ok (.aload_n 0, 1) := by decide +kernel
theorem dX7_ticks_37 : decode cX7_ticks 37 = .ok (.getfield 7, 3) := by decide +kernel
theorem dX7_ticks_40 : decode cX7_ticks 40 = .ok (.iconst 2, 1) := by decide +kernel
theorem dX7_ticks_41 : decode cX7_ticks 41 = .ok (.iaload, 1) := by decide +kernel
theorem dX7_ticks_42 : decode cX7_ticks 42 = .ok (.ireturn, 1) := by decide +kernel
theorem dX7_ofCar_0 : decode cX7_ofCar 0 = .ok (.aload_n 0, 1) := by decide +kernel
theorem dX7_ofCar_1 : decode cX7_ofCar 1 = .ok (.iload_n 1, 1) := by decide +kernel
theorem dX7_ofCar_2 : decode cX7_ofCar 2 = .ok (.invokevirtual 124, 3) := by decide +kernel
theorem dX7_ofCar_5 : decode cX7_ofCar 5 = .ok (.ifCond .ne 5, 3) := by decide +kernel
theorem dX7_ofCar_8 : decode cX7_ofCar 8 = .ok (.iconst (-1), 1) := by decide +kernel
theorem dX7_ofCar_9 : decode cX7_ofCar 9 = .ok (.ireturn, 1) := by decide +kernel
theorem dX7_ofCar_10 : decode cX7_ofCar 10 = .ok (.iload_n 2, 1) := by decide +kernel
theorem dX7_ofCar_11 : decode cX7_ofCar 11 = .ok (.bipush 9, 2) := by decide +kernel
theorem dX7_ofCar_13 : decode cX7_ofCar 13 = .ok (.if_icmp .ne 11, 3) := by decide +kernel
theorem dX7_ofCar_16 : decode cX7_ofCar 16 = .ok (.aload_n 0, 1) := by decide +kernel
theorem dX7_ofCar_17 : decode cX7_ofCar 17 = .ok (.iload_n 1, 1) := by decide +kernel
theorem dX7_ofCar_18 : decode cX7_ofCar 18 = .ok (.invokevirtual 90, 3) := by decide +kernel
theorem dX7_ofCar_21 : decode cX7_ofCar 21 = .ok (.goto 24, 3) := by decide +kernel
theorem dX7_ofCar_24 : decode cX7_ofCar 24 = .ok (.iload_n 2, 1) := by decide +kernel
theorem dX7_ofCar_25 : decode cX7_ofCar 25 = .ok (.iconst 0, 1) := by decide +kernel
theorem dX7_ofCar_26 : decode cX7_ofCar 26 = .ok (.bipush 8, 2) := by decide +kernel
theorem dX7_ofCar_28 : decode cX7_ofCar 28 = .ok (.invokestatic 54, 3) := by decide +kernel
theorem dX7_ofCar_31 : decode cX7_ofCar 31 = .ok (.ifCond .eq 12, 3) := by decide +kernel
theorem dX7_ofCar_34 : decode cX7_ofCar 34 = .ok (.aload_n 0, 1) := by decide +kernel
theorem dX7_ofCar_35 : decode cX7_ofCar 35 = .ok (.iload_n 1, 1) := by decide +kernel
theorem dX7_ofCar_36 : decode cX7_ofCar 36 = .ok (.iload_n 2, 1) := by decide +kernel
theorem dX7_ofCar_37 : decode cX7_ofCar 37 = .ok (.invokevirtual 46, 3) := by decide +kernel
theorem dX7_ofCar_40 : decode cX7_ofCar 40 = .ok (.goto 5, 3) := by decide +kernel
theorem dX7_ofCar_43 : decode cX7_ofCar 43 = .ok (.bipush (-2), 2) := by decide +kernel
theorem dX7_ofCar_45 : decode cX7_ofCar 45 = .ok (.ireturn, 1) := by decide +kernel
theorem dX7_ofLoop_0 : decode cX7_ofLoop 0 = .ok (.aload_n 0, 1) := by decide +kernel
theorem dX7_ofLoop_1 : decode cX7_ofLoop 1 = .ok (.iload_n 1, 1) := by decide +kernel
theorem dX7_ofLoop_2 : decode cX7_ofLoop 2 = .ok (.invokevirtual 121, 3) := by decide +kernel
theorem dX7_ofLoop_5 : decode cX7_ofLoop 5 = .ok (.ifCond .ne 5, 3) := by decide +kernel
theorem dX7_ofLoop_8 : decode cX7_ofLoop 8 = .ok (.iconst (-1), 1) := by decide +kernel
theorem dX7_ofLoop_9 : decode cX7_ofLoop 9 = .ok (.ireturn, 1) := by decide +kernel
theorem dX7_ofLoop_10 : decode cX7_ofLoop 10 = .ok (.iload_n 2, 1) := by decide +kernel
theorem dX7_ofLoop_11 : decode cX7_ofLoop 11 = .ok (.bipush 8, 2) := by decide +kernel
theorem dX7_ofLoop_13 : decode cX7_ofLoop 13 = .ok (.if_icmp .ne 13, 3) := by decide +kernel
theorem dX7_ofLoop_16 : decode cX7_ofLoop 16 = .ok (.aload_n 0, 1) := by decide +kernel
theorem dX7_ofLoop_17 : decode cX7_ofLoop 17 = .ok (.invokevirtual 77, 3) := by decide +kernel
theorem dX7_ofLoop_20 : decode cX7_ofLoop 20 = .ok (.aload_n 0, 1) := by decide +kernel
theorem dX7_ofLoop_21 : decode cX7_ofLoop 21 = .ok (.iload_n 1, 1) := by decide +kernel
theorem dX7_ofLoop_22 : decode cX7_ofLoop 22 = .ok (.invokevirtual 99, 3) := by decide +kernel
theorem dX7_ofLoop_25 : decode cX7_ofLoop 25 = .ok (.ireturn, 1) := by decide +kernel
theorem dX7_ofLoop_26 : decode cX7_ofLoop 26 = .ok (.iload_n 2, 1) := by decide +kernel
theorem dX7_ofLoop_27 : decode cX7_ofLoop 27 = .ok (.iconst 0, 1) := by decide +kernel
theorem dX7_ofLoop_28 : decode cX7_ofLoop 28 = .ok (.bipush 9, 2) := by decide +kernel
theorem dX7_ofLoop_30 : decode cX7_ofLoop 30 = .ok (.invokestatic 54, 3) := by decide +kernel
theorem dX7_ofLoop_33 : decode cX7_ofLoop 33 = .ok (.ifCond .eq 12, 3) := by decide +kernel
theorem dX7_ofLoop_36 : decode cX7_ofLoop 36 = .ok (.aload_n 0, 1) := by decide +kernel
theorem dX7_ofLoop_37 : decode cX7_ofLoop 37 = .ok (.iload_n 1, 1) := by decide +kernel
theorem dX7_ofLoop_38 : decode cX7_ofLoop 38 = .ok (.iload_n 2, 1) := by decide +kernel
theorem dX7_ofLoop_39 : decode cX7_ofLoop 39 = .ok (.invokevirtual 84, 3) := by decide +kernel
theorem dX7_ofLoop_42 : decode cX7_ofLoop 42 = .ok (.goto 5, 3) := by decide +kernel
theorem dX7_ofLoop_45 : decode cX7_ofLoop 45 = .ok (.bipush (-2), 2) := by decide +kernel
theorem dX7_ofLoop_47 : decode cX7_ofLoop 47 = .ok (.ireturn, 1) := by decide +kernel
theorem dX7_errorOf_0 : decode cX7_errorOf 0 = .ok (.aload_n 0, 1) := by decide +kernel
theorem dX7_errorOf_1 : decode cX7_errorOf 1 = .ok (.iload_n 1, 1) := by decide +kernel
theorem dX7_errorOf_2 : decode cX7_errorOf 2 = .ok (.bipush 6, 2) := by decide +kernel
theorem dX7_errorOf_4 : decode cX7_errorOf 4 = .ok (.invokevirtual 84, 3) := by decide +kernel
theorem dX7_errorOf_7 : decode cX7_errorOf 7 = .ok (.aload_n 0, 1) := by decide +kernel
theorem dX7_errorOf_8 : decode cX7_errorOf 8 = .ok (.iload_n 1, 1) := by decide +kernel
theorem dX7_errorOf_9 : decode cX7_errorOf 9 = .ok (.bipush 7, 2) := by decide +kernel
theorem dX7_errorOf_11 : decode cX7_errorOf 11 = .ok (.invokevirtual 84, 3) := by decide +kernel
theorem dX7_errorOf_14 : decode cX7_errorOf 14 = .ok (.isub, 1) := by decide +kernel
theorem dX7_errorOf_15 : decode cX7_errorOf 15 = .ok (.ireturn, 1) := by decide +kernel
theorem dX7_error_0 : decode cX7_error 0 = .ok (.aload_n 0, 1) := by decide +kernel
theorem dX7_error_1 : decode cX7_error 1 = .ok (.iload_n 1, 1) := by decide +kernel
theorem dX7_error_2 : decode cX7_error 2 = .ok (.invokevirtual 121, 3) := by decide +kernel
theorem dX7_error_5 : decode cX7_error 5 = .ok (.ifCond .eq 15, 3) := by decide +kernel
theorem dX7_error_8 : decode cX7_error 8 = .ok (.sipush 1000, 3) := by decide +kernel
theorem dX7_error_11 : decode cX7_error 11 = .ok (.aload_n 0, 1) := by decide +kernel
theorem dX7_error_12 : decode cX7_error 12 = .ok (.iload_n 1, 1) := by decide +kernel
theorem dX7_error_13 : decode cX7_error 13 = .ok (.invokevirtual 130, 3) := by decide +kernel
theorem dX7_error_16 : decode cX7_error 16 = .ok (.iadd, 1) := by decide +kernel
theorem dX7_error_17 : decode cX7_error 17 = .ok (.goto 4, 3) := by decide +kernel
theorem dX7_error_20 : decode cX7_error 20 = .ok (.iconst (-1), 1) := by decide +kernel
theorem dX7_error_21 : decode cX7_error 21 = .ok (.ireturn, 1) := by decide +kernel
theorem dX7_carAt_0 : decode cX7_carAt 0 = .ok (.iload_n 1, 1) := by decide +kernel
theorem dX7_carAt_1 : decode cX7_carAt 1 = .ok (.iconst 0, 1) := by decide +kernel
theorem dX7_carAt_2 : decode cX7_carAt 2 = .ok (.iconst 1, 1) := by decide +kernel
theorem dX7_carAt_3 : decode cX7_carAt 3 = .ok (.invokestatic 54, 3) := by decide +kernel
theorem dX7_carAt_6 : decode cX7_carAt 6 = .ok (.ifCond .eq 13, 3) := by decide +kernel
theorem dX7_carAt_9 : decode cX7_carAt 9 = .ok (.iload_n 2, 1) := by decide +kernel
theorem dX7_carAt_10 : decode cX7_carAt 10 = .ok (.iconst 0, 1) := by decide +kernel
theorem dX7_carAt_11 : decode cX7_carAt 11 = .ok (.bipush 39, 2) := by decide +kernel
theorem dX7_carAt_13 : decode cX7_carAt 13 = .ok (.invokestatic 54, 3) := by decide +kernel
theorem dX7_carAt_16 : decode cX7_carAt 16 = .ok (.ifCond .ne 5, 3) := by decide +kernel
theorem dX7_carAt_19 : decode cX7_carAt 19 = .ok (.iconst (-1), 1) := by decide +kernel
theorem dX7_carAt_20 : decode cX7_carAt 20 = .ok (.ireturn, 1) := by decide +kernel
theorem dX7_carAt_21 : decode cX7_carAt 21 = .ok (.aload_n 0, 1) := by decide +kernel
theorem dX7_carAt_22 : decode cX7_carAt 22 = .ok (.invokevirtual 77, 3) := by decide +kernel
theorem dX7_carAt_25 : decode cX7_carAt 25 = .ok (.aload_n 0, 1) := by decide +kernel
theorem dX7_carAt_26 : decode cX7_carAt 26 = .ok (.getfield 29, 3) := by decide +kernel
theorem dX7_carAt_29 : decode cX7_carAt 29 = .ok (.bipush 40, 2) := by decide +kernel
theorem dX7_carAt_31 : decode cX7_carAt 31 = .ok (.iload_n 1, 1) := by decide +kernel
theorem dX7_carAt_32 : decode cX7_carAt 32 = .ok (.imul, 1) := by decide +kernel
theorem dX7_carAt_33 : decode cX7_carAt 33 = .ok (.iload_n 2, 1) := by decide +kernel
theorem dX7_carAt_34 : decode cX7_carAt 34 = .ok (.iadd, 1) := by decide +kernel
theorem dX7_carAt_35 : decode cX7_carAt 35 = .ok (.iaload, 1) := by decide +kernel
theorem dX7_carAt_36 : decode cX7_carAt 36 = .ok (.ireturn, 1) := by decide +kernel
theorem dX7_gone_0 : decode cX7_gone 0 = .ok (.iconst 0, 1) := by decide +kernel
theorem dX7_gone_1 : decode cX7_gone 1 = .ok (.istore_n 1, 1) := by decide +kernel
theorem dX7_gone_2 : decode cX7_gone 2 = .ok (.iconst 0, 1) := by decide +kernel
theorem dX7_gone_3 : decode cX7_gone 3 = .ok (.istore_n 2, 1) := by decide +kernel
theorem dX7_gone_4 : decode cX7_gone 4 = .ok (.iload_n 2, 1) := by decide +kernel
theorem dX7_gone_5 : decode cX7_gone 5 = .ok (.aload_n 0, 1) := by decide +kernel
theorem dX7_gone_6 : decode cX7_gone 6 = .ok (.getfield 7, 3) := by decide +kernel
theorem dX7_gone_9 : decode cX7_gone 9 = .ok (.iconst 4, 1) := by decide +kernel
theorem dX7_gone_10 : decode cX7_gone 10 = .ok (.iaload, 1) := by decide +kernel
theorem dX7_gone_11 : decode cX7_gone 11 = .ok (.if_icmp .ge 18, 3) := by decide +kernel
theorem dX7_gone_14 : decode cX7_gone 14 = .ok (.iload_n 1, 1) := by decide +kernel
theorem dX7_gone_15 : decode cX7_gone 15 = .ok (.aload_n 0, 1) := by decide +kernel
theorem dX7_gone_16 : decode cX7_gone 16 = .ok (.iload_n 2, 1) := by decide +kernel
theorem dX7_gone_17 : decode cX7_gone 17 = .ok (.iconst 5, 1) := by decide +kernel
theorem dX7_gone_18 : decode cX7_gone 18 = .ok (.invokevirtual 46, 3) := by decide +kernel
theorem dX7_gone_21 : decode cX7_gone 21 = .ok (.iadd, 1) := by decide +kernel
theorem dX7_gone_22 : decode cX7_gone 22 = .ok (.istore_n 1, 1) := by decide +kernel
theorem dX7_gone_23 : decode cX7_gone 23 = .ok (.iinc 2 1, 3) := by decide +kernel
theorem dX7_gone_26 : decode cX7_gone 26 = .ok (.goto (-22), 3) := by decide +kernel
theorem dX7_gone_29 : decode cX7_gone 29 = .ok (.iload_n 1, 1) := by decide +kernel
theorem dX7_gone_30 : decode cX7_gone 30 = .ok (.ireturn, 1) := by decide +kernel
theorem dX7_sum_0 : decode cX7_sum 0 = .ok (.iconst 0, 1) := by decide +kernel
theorem dX7_sum_1 : decode cX7_sum 1 = .ok (.istore_n 2, 1) := by decide +kernel
theorem dX7_sum_2 : decode cX7_sum 2 = .ok (.iconst 0, 1) := by decide +kernel
theorem dX7_sum_3 : decode cX7_sum 3 = .ok (.istore_n 3, 1) := by decide +kernel
theorem dX7_sum_4 : decode cX7_sum 4 = .ok (.iload_n 3, 1) := by decide +kernel
theorem dX7_sum_5 : decode cX7_sum 5 = .ok (.aload_n 0, 1) := by decide +kernel
theorem dX7_sum_6 : decode cX7_sum 6 = .ok (.getfield 7, 3) := by decide +kernel
theorem dX7_sum_9 : decode cX7_sum 9 = .ok (.iconst 3, 1) := by decide +kernel
theorem dX7_sum_10 : decode cX7_sum 10 = .ok (.iaload, 1) := by decide +kernel
theorem dX7_sum_11 : decode cX7_sum 11 = .ok (.if_icmp .ge 18, 3) := by decide +kernel
theorem dX7_sum_14 : decode cX7_sum 14 = .ok (.iload_n 2, 1) := by decide +kernel
theorem dX7_sum_15 : decode cX7_sum 15 = .ok (.aload_n 0, 1) := by decide +kernel
theorem dX7_sum_16 : decode cX7_sum 16 = .ok (.iload_n 3, 1) := by decide +kernel
theorem dX7_sum_17 : decode cX7_sum 17 = .ok (.iload_n 1, 1) := by decide +kernel
theorem dX7_sum_18 : decode cX7_sum 18 = .ok (.invokevirtual 84, 3) := by decide +kernel
theorem dX7_sum_21 : decode cX7_sum 21 = .ok (.iadd, 1) := by decide +kernel
theorem dX7_sum_22 : decode cX7_sum 22 = .ok (.istore_n 2, 1) := by decide +kernel
theorem dX7_sum_23 : decode cX7_sum 23 = .ok (.iinc 3 1, 3) := by decide +kernel
theorem dX7_sum_26 : decode cX7_sum 26 = .ok (.goto (-22), 3) := by decide +kernel
theorem dX7_sum_29 : decode cX7_sum 29 = .ok (.iload_n 2, 1) := by decide +kernel
theorem dX7_sum_30 : decode cX7_sum 30 = .ok (.ireturn, 1) := by decide +kernel
theorem dX7_count_0 : decode cX7_count 0 = .ok (.iload_n 1, 1) := by decide +kernel
theorem dX7_count_1 : decode cX7_count 1 = .ok (.tableswitch 102 0 9 #[55, 55, 55, 64, 76, 81, 86, 86, 92, 97], 55) := by decide +kernel
theorem dX7_count_56 : decode cX7_count 56 = .ok (.aload_n 0, 1) := by decide +kernel
theorem dX7_count_57 : decode cX7_count 57 = .ok (.getfield 7, 3) := by decide +kernel
theorem dX7_count_60 : decode cX7_count 60 = .ok (.iconst 2, 1) := by decide +kernel
theorem dX7_count_61 : decode cX7_count 61 = .ok (.iload_n 1, 1) := by decide +kernel
theorem dX7_count_62 : decode cX7_count 62 = .ok (.iadd, 1) := by decide +kernel
theorem dX7_count_63 : decode cX7_count 63 = .ok (.iaload, 1) := by decide +kernel
theorem dX7_count_64 : decode cX7_count 64 = .ok (.ireturn, 1) := by decide +kernel
theorem dX7_count_65 : decode cX7_count 65 = .ok (.aload_n 0, 1) := by decide +kernel
theorem dX7_count_66 : decode cX7_count 66 = .ok (.getfield 7, 3) := by decide +kernel
theorem dX7_count_69 : decode cX7_count 69 = .ok (.iconst 4, 1) := by decide +kernel
theorem dX7_count_70 : decode cX7_count 70 = .ok (.iaload, 1) := by decide +kernel
theorem dX7_count_71 : decode cX7_count 71 = .ok (.aload_n 0, 1) := by decide +kernel
theorem dX7_count_72 : decode cX7_count 72 = .ok (.invokevirtual 133, 3) := by decide +kernel
theorem dX7_count_75 : decode cX7_count 75 = .ok (.isub, 1) := by decide +kernel
theorem dX7_count_76 : decode cX7_count 76 = .ok (.ireturn, 1) := by decide +kernel
theorem dX7_count_77 : decode cX7_count 77 = .ok (.aload_n 0, 1) := by decide +kernel
theorem dX7_count_78 : decode cX7_count 78 = .ok (.invokevirtual 133, 3) := by decide +kernel
theorem dX7_count_81 : decode cX7_count 81 = .ok (.ireturn, 1) := by decide +kernel
theorem dX7_count_82 : decode cX7_count 82 = .ok (.aload_n 0, 1) := by decide +kernel
theorem dX7_count_83 : decode cX7_count 83 = .ok (.invokevirtual 108, 3) := by decide +kernel
theorem dX7_count_86 : decode cX7_count 86 = .ok (.ireturn, 1) := by decide +kernel
theorem dX7_count_87 : decode cX7_count 87 = .ok (.aload_n 0, 1) := by decide +kernel
theorem dX7_count_88 : decode cX7_count 88 = .ok (.iload_n 1, 1) := by decide +kernel
theorem dX7_count_89 : decode cX7_count 89 = .ok (.invokevirtual 136, 3) := by decide +kernel
theorem dX7_count_92 : decode cX7_count 92 = .ok (.ireturn, 1) := by decide +kernel
theorem dX7_count_93 : decode cX7_count 93 = .ok (.aload_n 0, 1) := by decide +kernel
theorem dX7_count_94 : decode cX7_count 94 = .ok (.getfield 139, 3) := by decide +kernel
theorem dX7_count_97 : decode cX7_count 97 = .ok (.ireturn, 1) := by decide +kernel
theorem dX7_count_98 : decode cX7_count 98 = .ok (.aload_n 0, 1) := by decide +kernel
theorem dX7_count_99 : decode cX7_count 99 = .ok (.getfield 42, 3) := by decide +kernel
theorem dX7_count_102 : decode cX7_count 102 = .ok (.ireturn, 1) := by decide +kernel
theorem dX7_count_103 : decode cX7_count 103 = .ok (.iload_n 1, 1) := by decide +kernel
theorem dX7_count_104 : decode cX7_count 104 = .ok (.bipush 10, 2) := by decide +kernel
theorem dX7_count_106 : decode cX7_count 106 = .ok (.bipush 11, 2) := by decide +kernel
theorem dX7_count_108 : decode cX7_count 108 = .ok (.invokestatic 54, 3) := by decide +kernel
theorem dX7_count_111 : decode cX7_count 111 = .ok (.ifCond .eq 15, 3) := by decide +kernel
theorem dX7_count_114 : decode cX7_count 114 = .ok (.aload_n 0, 1) := by decide +kernel
theorem dX7_count_115 : decode cX7_count 115 = .ok (.getfield 7, 3) := by decide +kernel
theorem dX7_count_118 : decode cX7_count 118 = .ok (.iload_n 1, 1) := by decide +kernel
theorem dX7_count_119 : decode cX7_count 119 = .ok (.bipush 10, 2) := by decide +kernel
theorem dX7_count_121 : decode cX7_count 121 = .ok (.isub, 1) := by decide +kernel
theorem dX7_count_122 : decode cX7_count 122 = .ok (.iaload, 1) := by decide +kernel
theorem dX7_count_123 : decode cX7_count 123 = .ok (.goto 5, 3) := by decide +kernel
theorem dX7_count_126 : decode cX7_count 126 = .ok (.bipush (-2), 2) := by decide +kernel
theorem dX7_count_128 : decode cX7_count 128 = .ok (.ireturn, 1) := by decide +kernel
theorem dX7_inside_0 : decode cX7_inside 0 = .ok (.aload_n 0, 1) := by decide +kernel
theorem dX7_inside_1 : decode cX7_inside 1 = .ok (.iload_n 1, 1) := by decide +kernel
theorem dX7_inside_2 : decode cX7_inside 2 = .ok (.invokevirtual 121, 3) := by decide +kernel
theorem dX7_inside_5 : decode cX7_inside 5 = .ok (.ifCond .eq 33, 3) := by decide +kernel
theorem dX7_inside_8 : decode cX7_inside 8 = .ok (.aload_n 0, 1) := by decide +kernel
theorem dX7_inside_9 : decode cX7_inside 9 = .ok (.iload_n 2, 1) := by decide +kernel
theorem dX7_inside_10 : decode cX7_inside 10 = .ok (.invokevirtual 121, 3) := by decide +kernel
theorem dX7_inside_13 : decode cX7_inside 13 = .ok (.ifCond .eq 25, 3) := by decide +kernel
theorem dX7_inside_16 : decode cX7_inside 16 = .ok (.sipush 1000, 3) := by decide +kernel
theorem dX7_inside_19 : decode cX7_inside 19 = .ok (.aload_n 0, 1) := by decide +kernel
theorem dX7_inside_20 : decode cX7_inside 20 = .ok (.iload_n 1, 1) := by decide +kernel
theorem dX7_inside_21 : decode cX7_inside 21 = .ok (.bipush 6, 2) := by decide +kernel
theorem dX7_inside_23 : decode cX7_inside 23 = .ok (.invokevirtual 84, 3) := by decide +kernel
theorem dX7_inside_26 : decode cX7_inside 26 = .ok (.iadd, 1) := by decide +kernel
theorem dX7_inside_27 : decode cX7_inside 27 = .ok (.aload_n 0, 1) := by decide +kernel
theorem dX7_inside_28 : decode cX7_inside 28 = .ok (.iload_n 2, 1) := by decide +kernel
theorem dX7_inside_29 : decode cX7_inside 29 = .ok (.bipush 6, 2) := by decide +kernel
theorem dX7_inside_31 : decode cX7_inside 31 = .ok (.invokevirtual 84, 3) := by decide +kernel
theorem dX7_inside_34 : decode cX7_inside 34 = .ok (.isub, 1) := by decide +kernel
theorem dX7_inside_35 : decode cX7_inside 35 = .ok (.goto 4, 3) := by decide +kernel
theorem dX7_inside_38 : decode cX7_inside 38 = .ok (.iconst (-1), 1) := by decide +kernel
theorem dX7_inside_39 : decode cX7_inside 39 = .ok (.ireturn, 1) := by decide +kernel
theorem dX7_counted_0 : decode cX7_counted 0 = .ok (.aload_n 0, 1) := by decide +kernel
theorem dX7_counted_1 : decode cX7_counted 1 = .ok (.iload_n 1, 1) := by decide +kernel
theorem dX7_counted_2 : decode cX7_counted 2 = .ok (.invokevirtual 121, 3) := by decide +kernel
theorem dX7_counted_5 : decode cX7_counted 5 = .ok (.ifCond .ne 5, 3) := by decide +kernel
theorem dX7_counted_8 : decode cX7_counted 8 = .ok (.iconst (-1), 1) := by decide +kernel
theorem dX7_counted_9 : decode cX7_counted 9 = .ok (.ireturn, 1) := by decide +kernel
theorem dX7_counted_10 : decode cX7_counted 10 = .ok (.iload_n 2, 1) := by decide +kernel
theorem dX7_counted_11 : decode cX7_counted 11 = .ok (.iconst 1, 1) := by decide +kernel
theorem dX7_counted_12 : decode cX7_counted 12 = .ok (.bipush 100, 2) := by decide +kernel
theorem dX7_counted_14 : decode cX7_counted 14 = .ok (.invokestatic 54, 3) := by decide +kernel
theorem dX7_counted_17 : decode cX7_counted 17 = .ok (.ifCond .ne 6, 3) := by decide +kernel
theorem dX7_counted_20 : decode cX7_counted 20 = .ok (.bipush (-2), 2) := by decide +kernel
theorem dX7_counted_22 : decode cX7_counted 22 = .ok (.ireturn, 1) := by decide +kernel
theorem dX7_counted_23 : decode cX7_counted 23 = .ok (.aload_n 0, 1) := by decide +kernel
theorem dX7_counted_24 : decode cX7_counted 24 = .ok (.invokevirtual 142, 3) := by decide +kernel
theorem dX7_counted_27 : decode cX7_counted 27 = .ok (.iconst 0, 1) := by decide +kernel
theorem dX7_counted_28 : decode cX7_counted 28 = .ok (.istore 4, 2) := by decide +kernel
theorem dX7_counted_30 : decode cX7_counted 30 = .ok (.iload 4, 2) := by decide +kernel
theorem dX7_counted_32 : decode cX7_counted 32 = .ok (.iload_n 2, 1) := by decide +kernel
theorem dX7_counted_33 : decode cX7_counted 33 = .ok (.if_icmp .ge 14, 3) := by decide +kernel
theorem dX7_counted_36 : decode cX7_counted 36 = .ok (.aload_n 0, 1) := by decide +kernel
theorem dX7_counted_37 : decode cX7_counted 37 = .ok (.iload_n 3, 1) := by decide +kernel
theorem dX7_counted_38 : decode cX7_counted 38 = .ok (.invokevirtual 127, 3) := by decide +kernel
theorem dX7_counted_41 : decode cX7_counted 41 = .ok (.iinc 4 1, 3) := by decide +kernel
theorem dX7_counted_44 : decode cX7_counted 44 = .ok (.goto (-14), 3) := by decide +kernel
theorem dX7_counted_47 : decode cX7_counted 47 = .ok (.aload_n 0, 1) := by decide +kernel
theorem dX7_counted_48 : decode cX7_counted 48 = .ok (.iload_n 1, 1) := by decide +kernel
theorem dX7_counted_49 : decode cX7_counted 49 = .ok (.bipush 6, 2) := by decide +kernel
theorem dX7_counted_51 : decode cX7_counted 51 = .ok (.invokevirtual 84, 3) := by decide +kernel
theorem dX7_counted_54 : decode cX7_counted 54 = .ok (.istore 4, 2) := by decide +kernel
theorem dX7_counted_56 : decode cX7_counted 56 = .ok (.aload_n 0, 1) := by decide +kernel
theorem dX7_counted_57 : decode cX7_counted 57 = .ok (.invokevirtual 145, 3) := by decide +kernel
theorem dX7_counted_60 : decode cX7_counted 60 = .ok (.iload 4, 2) := by decide +kernel
theorem dX7_counted_62 : decode cX7_counted 62 = .ok (.ireturn, 1) := by decide +kernel
theorem dX7_countsIn_0 : decode cX7_countsIn 0 = .ok (.aload_n 0, 1) := by decide +kernel
theorem dX7_countsIn_1 : decode cX7_countsIn 1 = .ok (.iload_n 1, 1) := by decide +kernel
theorem dX7_countsIn_2 : decode cX7_countsIn 2 = .ok (.iload_n 2, 1) := by decide +kernel
theorem dX7_countsIn_3 : decode cX7_countsIn 3 = .ok (.bipush (-6), 2) := by decide +kernel
theorem dX7_countsIn_5 : decode cX7_countsIn 5 = .ok (.invokevirtual 148, 3) := by decide +kernel
theorem dX7_countsIn_8 : decode cX7_countsIn 8 = .ok (.ireturn, 1) := by decide +kernel
theorem dX7_countsAlone_0 : decode cX7_countsAlone 0 = .ok (.aload_n 0, 1) := by decide +kernel
theorem dX7_countsAlone_1 : decode cX7_countsAlone 1 = .ok (.iload_n 1, 1) := by decide +kernel
theorem dX7_countsAlone_2 : decode cX7_countsAlone 2 = .ok (.iload_n 2, 1) := by decide +kernel
theorem dX7_countsAlone_3 : decode cX7_countsAlone 3 = .ok (.iload_n 1, 1) := by decide +kernel
theorem dX7_countsAlone_4 : decode cX7_countsAlone 4 = .ok (.invokevirtual 148, 3) := by decide +kernel
theorem dX7_countsAlone_7 : decode cX7_countsAlone 7 = .ok (.ireturn, 1) := by decide +kernel
theorem dX7_amount_0 : decode cX7_amount 0 = .ok (.iload_n 0, 1) := by decide +kernel
theorem dX7_amount_1 : decode cX7_amount 1 = .ok (.ifCond .ge 8, 3) := by decide +kernel
theorem dX7_amount_4 : decode cX7_amount 4 = .ok (.iload_n 0, 1) := by decide +kernel
theorem dX7_amount_5 : decode cX7_amount 5 = .ok (.ineg, 1) := by decide +kernel
theorem dX7_amount_6 : decode cX7_amount 6 = .ok (.goto 4, 3) := by decide +kernel
theorem dX7_amount_9 : decode cX7_amount 9 = .ok (.iload_n 0, 1) := by decide +kernel
theorem dX7_amount_10 : decode cX7_amount 10 = .ok (.ireturn, 1) := by decide +kernel
theorem dX7_bestUpper_0 : decode cX7_bestUpper 0 = .ok (.aload_n 0, 1) := by decide +kernel
theorem dX7_bestUpper_1 : decode cX7_bestUpper 1 = .ok (.iload_n 1, 1) := by decide +kernel
theorem dX7_bestUpper_2 : decode cX7_bestUpper 2 = .ok (.invokevirtual 121, 3) := by decide +kernel
theorem dX7_bestUpper_5 : decode cX7_bestUpper 5 = .ok (.ifCond .ne 5, 3) := by decide +kernel
theorem dX7_bestUpper_8 : decode cX7_bestUpper 8 = .ok (.iconst (-1), 1) := by decide +kernel
theorem dX7_bestUpper_9 : decode cX7_bestUpper 9 = .ok (.ireturn, 1) := by decide +kernel
theorem dX7_bestUpper_10 : decode cX7_bestUpper 10 = .ok (.iload_n 2, 1) := by decide +kernel
theorem dX7_bestUpper_11 : decode cX7_bestUpper 11 = .ok (.iconst 1, 1) := by decide +kernel
theorem dX7_bestUpper_12 : decode cX7_bestUpper 12 = .ok (.bipush 100, 2) := by decide +kernel
theorem dX7_bestUpper_14 : decode cX7_bestUpper 14 = .ok (.invokestatic 54, 3) := by decide +kernel
theorem dX7_bestUpper_17 : decode cX7_bestUpper 17 = .ok (.ifCond .ne 6, 3) := by decide +kernel
theorem dX7_bestUpper_20 : decode cX7_bestUpper 20 = .ok (.bipush (-2), 2) := by decide +kernel
theorem dX7_bestUpper_22 : decode cX7_bestUpper 22 = .ok (.ireturn, 1) := by decide +kernel
theorem dX7_bestUpper_23 : decode cX7_bestUpper 23 = .ok (.bipush (-6), 2) := by decide +kernel
theorem dX7_bestUpper_25 : decode cX7_bestUpper 25 = .ok (.istore_n 3, 1) := by decide +kernel
theorem dX7_bestUpper_26 : decode cX7_bestUpper 26 = .ok (.iconst 0, 1) := by decide +kernel
theorem dX7_bestUpper_27 : decode cX7_bestUpper 27 = .ok (.istore 4, 2) := by decide +kernel
theorem dX7_bestUpper_29 : decode cX7_bestUpper 29 = .ok (.aload_n 0, 1) := by decide +kernel
theorem dX7_bestUpper_30 : decode cX7_bestUpper 30 = .ok (.invokevirtual 142, 3) := by decide +kernel
theorem dX7_bestUpper_33 : decode cX7_bestUpper 33 = .ok (.aload_n 0, 1) := by decide +kernel
theorem dX7_bestUpper_34 : decode cX7_bestUpper 34 = .ok (.iload_n 1, 1) := by decide +kernel
theorem dX7_bestUpper_35 : decode cX7_bestUpper 35 = .ok (.iconst 4, 1) := by decide +kernel
theorem dX7_bestUpper_36 : decode cX7_bestUpper 36 = .ok (.invokevirtual 84, 3) := by decide +kernel
theorem dX7_bestUpper_39 : decode cX7_bestUpper 39 = .ok (.istore 5, 2) := by decide +kernel
theorem dX7_bestUpper_41 : decode cX7_bestUpper 41 = .ok (.iload 5, 2) := by decide +kernel
theorem dX7_bestUpper_43 : decode cX7_bestUpper 43 = .ok (.istore 6, 2) := by decide +kernel
theorem dX7_bestUpper_45 : decode cX7_bestUpper 45 = .ok (.iload 6, 2) := by decide +kernel
theorem dX7_bestUpper_47 : decode cX7_bestUpper 47 = .ok (.sipush 200, 3) := by decide +kernel
theorem dX7_bestUpper_50 : decode cX7_bestUpper 50 = .ok (.if_icmp .gt 70, 3) := by decide +kernel
theorem dX7_bestUpper_53 : decode cX7_bestUpper 53 = .ok (.aload_n 0, 1) := by decide +kernel
theorem dX7_bestUpper_54 : decode cX7_bestUpper 54 = .ok (.iload_n 1, 1) := by decide +kernel
theorem dX7_bestUpper_55 : decode cX7_bestUpper 55 = .ok (.iconst 3, 1) := by decide +kernel
theorem dX7_bestUpper_56 : decode cX7_bestUpper 56 = .ok (.iload 6, 2) := by decide +kernel
theorem dX7_bestUpper_58 : decode cX7_bestUpper 58 = .ok (.invokevirtual 93, 3) := by decide +kernel
theorem dX7_bestUpper_61 : decode cX7_bestUpper 61 = .ok (.iconst 0, 1) := by decide +kernel
theorem dX7_bestUpper_62 : decode cX7_bestUpper 62 = .ok (.istore 7, 2) := by decide +kernel
theorem dX7_bestUpper_64 : decode cX7_bestUpper 64 = .ok (.iload 7, 2) := by decide +kernel
theorem dX7_bestUpper_66 : decode cX7_bestUpper 66 = .ok (.iload_n 2, 1) := by decide +kernel
theorem dX7_bestUpper_67 : decode cX7_bestUpper 67 = .ok (.if_icmp .ge 15, 3) := by decide +kernel
theorem dX7_bestUpper_70 : decode cX7_bestUpper 70 = .ok (.aload_n 0, 1) := by decide +kernel
theorem dX7_bestUpper_71 : decode cX7_bestUpper 71 = .ok (.bipush (-6), 2) := by decide +kernel
theorem dX7_bestUpper_73 : decode cX7_bestUpper 73 = .ok (.invokevirtual 127, 3) := by decide +kernel
theorem dX7_bestUpper_76 : decode cX7_bestUpper 76 = .ok (.iinc 7 1, 3) := by decide +kernel
theorem dX7_bestUpper_79 : decode cX7_bestUpper 79 = .ok (.goto (-15), 3) := by decide +kernel
theorem dX7_bestUpper_82 : decode cX7_bestUpper 82 = .ok (.aload_n 0, 1) := by decide +kernel
theorem dX7_bestUpper_83 : decode cX7_bestUpper 83 = .ok (.iload_n 1, 1) := by decide +kernel
theorem dX7_bestUpper_84 : decode cX7_bestUpper 84 = .ok (.invokevirtual 130, 3) := by decide +kernel
theorem dX7_bestUpper_87 : decode cX7_bestUpper 87 = .ok (.invokestatic 152, 3) := by decide +kernel
theorem dX7_bestUpper_90 : decode cX7_bestUpper 90 = .ok (.istore 7, 2) := by decide +kernel
theorem dX7_bestUpper_92 : decode cX7_bestUpper 92 = .ok (.aload_n 0, 1) := by decide +kernel
theorem dX7_bestUpper_93 : decode cX7_bestUpper 93 = .ok (.invokevirtual 145, 3) := by decide +kernel
theorem dX7_bestUpper_96 : decode cX7_bestUpper 96 = .ok (.iload_n 3, 1) := by decide +kernel
theorem dX7_bestUpper_97 : decode cX7_bestUpper 97 = .ok (.ifCond .lt 10, 3) := by decide +kernel
theorem dX7_bestUpper_100 : decode cX7_bestUpper 100 = .ok (.iload 7, 2) := by decide +kernel
theorem dX7_bestUpper_102 : decode cX7_bestUpper 102 = .ok (.iload 4, 2) := by decide +kernel
theorem dX7_bestUpper_104 : decode cX7_bestUpper 104 = .ok (.if_icmp .ge 10, 3) := by decide +kernel
theorem dX7_bestUpper_107 : decode cX7_bestUpper 107 = .ok (.iload 6, 2) := by decide +kernel
theorem dX7_bestUpper_109 : decode cX7_bestUpper 109 = .ok (.istore_n 3, 1) := by decide +kernel
theorem dX7_bestUpper_110 : decode cX7_bestUpper 110 = .ok (.iload 7, 2) := by decide +kernel
theorem dX7_bestUpper_112 : decode cX7_bestUpper 112 = .ok (.istore 4, 2) := by decide +kernel
theorem dX7_bestUpper_114 : decode cX7_bestUpper 114 = .ok (.iinc 6 1, 3) := by decide +kernel
theorem dX7_bestUpper_117 : decode cX7_bestUpper 117 = .ok (.goto (-72), 3) := by decide +kernel
theorem dX7_bestUpper_120 : decode cX7_bestUpper 120 = .ok (.iload_n 3, 1) := by decide +kernel
theorem dX7_bestUpper_121 : decode cX7_bestUpper 121 = .ok (.ireturn, 1) := by decide +kernel
theorem dX7_bestTurn_0 : decode cX7_bestTurn 0 = .ok (.iload_n 1, 1) := by decide +kernel
theorem dX7_bestTurn_1 : decode cX7_bestTurn 1 = .ok (.iconst 1, 1) := by decide +kernel
theorem dX7_bestTurn_2 : decode cX7_bestTurn 2 = .ok (.bipush 100, 2) := by decide +kernel
theorem dX7_bestTurn_4 : decode cX7_bestTurn 4 = .ok (.invokestatic 54, 3) := by decide +kernel
theorem dX7_bestTurn_7 : decode cX7_bestTurn 7 = .ok (.ifCond .ne 6, 3) := by decide +kernel
theorem dX7_bestTurn_10 : decode cX7_bestTurn 10 = .ok (.bipush (-2), 2) := by decide +kernel
theorem dX7_bestTurn_12 : decode cX7_bestTurn 12 = .ok (.ireturn, 1) := by decide +kernel
theorem dX7_bestTurn_13 : decode cX7_bestTurn 13 = .ok (.bipush (-6), 2) := by decide +kernel
theorem dX7_bestTurn_15 : decode cX7_bestTurn 15 = .ok (.istore_n 2, 1) := by decide +kernel
theorem dX7_bestTurn_16 : decode cX7_bestTurn 16 = .ok (.iconst 0, 1) := by decide +kernel
theorem dX7_bestTurn_17 : decode cX7_bestTurn 17 = .ok (.istore_n 3, 1) := by decide +kernel
theorem dX7_bestTurn_18 : decode cX7_bestTurn 18 = .ok (.aload_n 0, 1) := by decide +kernel
theorem dX7_bestTurn_19 : decode cX7_bestTurn 19 = .ok (.invokevirtual 142, 3) := by decide +kernel
theorem dX7_bestTurn_22 : decode cX7_bestTurn 22 = .ok (.iconst 1, 1) := by decide +kernel
theorem dX7_bestTurn_23 : decode cX7_bestTurn 23 = .ok (.istore 4, 2) := by decide +kernel
theorem dX7_bestTurn_25 : decode cX7_bestTurn 25 = .ok (.iload 4, 2) := by decide +kernel
theorem dX7_bestTurn_27 : decode cX7_bestTurn 27 = .ok (.bipush 6, 2) := by decide +kernel
theorem dX7_bestTurn_29 : decode cX7_bestTurn 29 = .ok (.if_icmp .ge 95, 3) := by decide +kernel
theorem dX7_bestTurn_32 : decode cX7_bestTurn 32 = .ok (.aload_n 0, 1) := by decide +kernel
theorem dX7_bestTurn_33 : decode cX7_bestTurn 33 = .ok (.getfield 7, 3) := by decide +kernel
theorem dX7_bestTurn_36 : decode cX7_bestTurn 36 = .ok (.iconst 1, 1) := by decide +kernel
theorem dX7_bestTurn_37 : decode cX7_bestTurn 37 = .ok (.iload 4, 2) := by decide +kernel
theorem dX7_bestTurn_39 : decode cX7_bestTurn 39 = .ok (.iastore, 1) := by decide +kernel
theorem dX7_bestTurn_40 : decode cX7_bestTurn 40 = .ok (.iconst 0, 1) := by decide +kernel
theorem dX7_bestTurn_41 : decode cX7_bestTurn 41 = .ok (.istore 5, 2) := by decide +kernel
theorem dX7_bestTurn_43 : decode cX7_bestTurn 43 = .ok (.iload 5, 2) := by decide +kernel
theorem dX7_bestTurn_45 : decode cX7_bestTurn 45 = .ok (.iload_n 1, 1) := by decide +kernel
theorem dX7_bestTurn_46 : decode cX7_bestTurn 46 = .ok (.if_icmp .ge 15, 3) := by decide +kernel
theorem dX7_bestTurn_49 : decode cX7_bestTurn 49 = .ok (.aload_n 0, 1) := by decide +kernel
theorem dX7_bestTurn_50 : decode cX7_bestTurn 50 = .ok (.bipush (-6), 2) := by decide +kernel
theorem dX7_bestTurn_52 : decode cX7_bestTurn 52 = .ok (.invokevirtual 127, 3) := by decide +kernel
theorem dX7_bestTurn_55 : decode cX7_bestTurn 55 = .ok (.iinc 5 1, 3) := by decide +kernel
theorem dX7_bestTurn_58 : decode cX7_bestTurn 58 = .ok (.goto (-15), 3) := by decide +kernel
theorem dX7_bestTurn_61 : decode cX7_bestTurn 61 = .ok (.iconst 0, 1) := by decide +kernel
theorem dX7_bestTurn_62 : decode cX7_bestTurn 62 = .ok (.istore 5, 2) := by decide +kernel
theorem dX7_bestTurn_64 : decode cX7_bestTurn 64 = .ok (.iconst 0, 1) := by decide +kernel
theorem dX7_bestTurn_65 : decode cX7_bestTurn 65 = .ok (.istore 6, 2) := by decide +kernel
theorem dX7_bestTurn_67 : decode cX7_bestTurn 67 = .ok (.iload 6, 2) := by decide +kernel
theorem dX7_bestTurn_69 : decode cX7_bestTurn 69 = .ok (.aload_n 0, 1) := by decide +kernel
theorem dX7_bestTurn_70 : decode cX7_bestTurn 70 = .ok (.getfield 7, 3) := by decide +kernel
theorem dX7_bestTurn_73 : decode cX7_bestTurn 73 = .ok (.iconst 3, 1) := by decide +kernel
theorem dX7_bestTurn_74 : decode cX7_bestTurn 74 = .ok (.iaload, 1) := by decide +kernel
theorem dX7_bestTurn_75 : decode cX7_bestTurn 75 = .ok (.if_icmp .ge 23, 3) := by decide +kernel
theorem dX7_bestTurn_78 : decode cX7_bestTurn 78 = .ok (.iload 5, 2) := by decide +kernel
theorem dX7_bestTurn_80 : decode cX7_bestTurn 80 = .ok (.aload_n 0, 1) := by decide +kernel
theorem dX7_bestTurn_81 : decode cX7_bestTurn 81 = .ok (.iload 6, 2) := by decide +kernel
theorem dX7_bestTurn_83 : decode cX7_bestTurn 83 = .ok (.invokevirtual 130, 3) := by decide +kernel
theorem dX7_bestTurn_86 : decode cX7_bestTurn 86 = .ok (.invokestatic 152, 3) := by decide +kernel
theorem dX7_bestTurn_89 : decode cX7_bestTurn 89 = .ok (.iadd, 1) := by decide +kernel
theorem dX7_bestTurn_90 : decode cX7_bestTurn 90 = .ok (.istore 5, 2) := by decide +kernel
theorem dX7_bestTurn_92 : decode cX7_bestTurn 92 = .ok (.iinc 6 1, 3) := by decide +kernel
theorem dX7_bestTurn_95 : decode cX7_bestTurn 95 = .ok (.goto (-28), 3) := by decide +kernel
theorem dX7_bestTurn_98 : decode cX7_bestTurn 98 = .ok (.aload_n 0, 1) := by decide +kernel
theorem dX7_bestTurn_99 : decode cX7_bestTurn 99 = .ok (.invokevirtual 145, 3) := by decide +kernel
theorem dX7_bestTurn_102 : decode cX7_bestTurn 102 = .ok (.iload_n 2, 1) := by decide +kernel
theorem dX7_bestTurn_103 : decode cX7_bestTurn 103 = .ok (.ifCond .lt 9, 3) := by decide +kernel
theorem dX7_bestTurn_106 : decode cX7_bestTurn 106 = .ok (.iload 5, 2) := by decide +kernel
theorem dX7_bestTurn_108 : decode cX7_bestTurn 108 = .ok (.iload_n 3, 1) := by decide +kernel
theorem dX7_bestTurn_109 : decode cX7_bestTurn 109 = .ok (.if_icmp .ge 9, 3) := by decide +kernel
theorem dX7_bestTurn_112 : decode cX7_bestTurn 112 = .ok (.iload 4, 2) := by decide +kernel
theorem dX7_bestTurn_114 : decode cX7_bestTurn 114 = .ok (.istore_n 2, 1) := by decide +kernel
theorem dX7_bestTurn_115 : decode cX7_bestTurn 115 = .ok (.iload 5, 2) := by decide +kernel
theorem dX7_bestTurn_117 : decode cX7_bestTurn 117 = .ok (.istore_n 3, 1) := by decide +kernel
theorem dX7_bestTurn_118 : decode cX7_bestTurn 118 = .ok (.iinc 4 1, 3) := by decide +kernel
theorem dX7_bestTurn_121 : decode cX7_bestTurn 121 = .ok (.goto (-96), 3) := by decide +kernel
theorem dX7_bestTurn_124 : decode cX7_bestTurn 124 = .ok (.iload_n 2, 1) := by decide +kernel
theorem dX7_bestTurn_125 : decode cX7_bestTurn 125 = .ok (.ireturn, 1) := by decide +kernel
theorem dX7_goneIn_0 : decode cX7_goneIn 0 = .ok (.aload_n 0, 1) := by decide +kernel
theorem dX7_goneIn_1 : decode cX7_goneIn 1 = .ok (.iload_n 1, 1) := by decide +kernel
theorem dX7_goneIn_2 : decode cX7_goneIn 2 = .ok (.invokevirtual 124, 3) := by decide +kernel
theorem dX7_goneIn_5 : decode cX7_goneIn 5 = .ok (.ifCond .ne 5, 3) := by decide +kernel
theorem dX7_goneIn_8 : decode cX7_goneIn 8 = .ok (.iconst (-1), 1) := by decide +kernel
theorem dX7_goneIn_9 : decode cX7_goneIn 9 = .ok (.ireturn, 1) := by decide +kernel
theorem dX7_goneIn_10 : decode cX7_goneIn 10 = .ok (.aload_n 0, 1) := by decide +kernel
theorem dX7_goneIn_11 : decode cX7_goneIn 11 = .ok (.invokevirtual 142, 3) := by decide +kernel
theorem dX7_goneIn_14 : decode cX7_goneIn 14 = .ok (.iconst 0, 1) := by decide +kernel
theorem dX7_goneIn_15 : decode cX7_goneIn 15 = .ok (.istore_n 2, 1) := by decide +kernel
theorem dX7_goneIn_16 : decode cX7_goneIn 16 = .ok (.iload_n 2, 1) := by decide +kernel
theorem dX7_goneIn_17 : decode cX7_goneIn 17 = .ok (.sipush 200, 3) := by decide +kernel
theorem dX7_goneIn_20 : decode cX7_goneIn 20 = .ok (.if_icmp .ge 23, 3) := by decide +kernel
theorem dX7_goneIn_23 : decode cX7_goneIn 23 = .ok (.aload_n 0, 1) := by decide +kernel
theorem dX7_goneIn_24 : decode cX7_goneIn 24 = .ok (.iload_n 1, 1) := by decide +kernel
theorem dX7_goneIn_25 : decode cX7_goneIn 25 = .ok (.invokevirtual 58, 3) := by decide +kernel
theorem dX7_goneIn_28 : decode cX7_goneIn 28 = .ok (.ifCond .eq 15, 3) := by decide +kernel
theorem dX7_goneIn_31 : decode cX7_goneIn 31 = .ok (.aload_n 0, 1) := by decide +kernel
theorem dX7_goneIn_32 : decode cX7_goneIn 32 = .ok (.bipush (-6), 2) := by decide +kernel
theorem dX7_goneIn_34 : decode cX7_goneIn 34 = .ok (.invokevirtual 127, 3) := by decide +kernel
theorem dX7_goneIn_37 : decode cX7_goneIn 37 = .ok (.iinc 2 1, 3) := by decide +kernel
theorem dX7_goneIn_40 : decode cX7_goneIn 40 = .ok (.goto (-24), 3) := by decide +kernel
theorem dX7_goneIn_43 : decode cX7_goneIn 43 = .ok (.aload_n 0, 1) := by decide +kernel
theorem dX7_goneIn_44 : decode cX7_goneIn 44 = .ok (.iload_n 1, 1) := by decide +kernel
theorem dX7_goneIn_45 : decode cX7_goneIn 45 = .ok (.invokevirtual 58, 3) := by decide +kernel
theorem dX7_goneIn_48 : decode cX7_goneIn 48 = .ok (.ifCond .eq 8, 3) := by decide +kernel
theorem dX7_goneIn_51 : decode cX7_goneIn 51 = .ok (.bipush (-6), 2) := by decide +kernel
theorem dX7_goneIn_53 : decode cX7_goneIn 53 = .ok (.goto 4, 3) := by decide +kernel
theorem dX7_goneIn_56 : decode cX7_goneIn 56 = .ok (.iload_n 2, 1) := by decide +kernel
theorem dX7_goneIn_57 : decode cX7_goneIn 57 = .ok (.istore_n 3, 1) := by decide +kernel
theorem dX7_goneIn_58 : decode cX7_goneIn 58 = .ok (.aload_n 0, 1) := by decide +kernel
theorem dX7_goneIn_59 : decode cX7_goneIn 59 = .ok (.invokevirtual 145, 3) := by decide +kernel
theorem dX7_goneIn_62 : decode cX7_goneIn 62 = .ok (.iload_n 3, 1) := by decide +kernel
theorem dX7_goneIn_63 : decode cX7_goneIn 63 = .ok (.ireturn, 1) := by decide +kernel
theorem dX7_sign_0 : decode cX7_sign 0 = .ok (.aload_n 0, 1) := by decide +kernel
theorem dX7_sign_1 : decode cX7_sign 1 = .ok (.getfield 155, 3) := by decide +kernel
theorem dX7_sign_4 : decode cX7_sign 4 = .ok (.aload_n 0, 1) := by decide +kernel
theorem dX7_sign_5 : decode cX7_sign 5 = .ok (.getfield 139, 3) := by decide +kernel
theorem dX7_sign_8 : decode cX7_sign 8 = .ok (.if_icmp .ge 15, 3) := by decide +kernel
theorem dX7_sign_11 : decode cX7_sign 11 = .ok (.aload_n 0, 1) := by decide +kernel
theorem dX7_sign_12 : decode cX7_sign 12 = .ok (.getfield 26, 3) := by decide +kernel
theorem dX7_sign_15 : decode cX7_sign 15 = .ok (.aload_n 0, 1) := by decide +kernel
theorem dX7_sign_16 : decode cX7_sign 16 = .ok (.getfield 155, 3) := by decide +kernel
theorem dX7_sign_19 : decode cX7_sign 19 = .ok (.iaload, 1) := by decide +kernel
theorem dX7_sign_20 : decode cX7_sign 20 = .ok (.goto 4, 3) := by decide +kernel
theorem dX7_sign_23 : decode cX7_sign 23 = .ok (.iconst 0, 1) := by decide +kernel
theorem dX7_sign_24 : decode cX7_sign 24 = .ok (.ireturn, 1) := by decide +kernel
theorem dX7_one_0 : decode cX7_one 0 = .ok (.aload_n 0, 1) := by decide +kernel
theorem dX7_one_1 : decode cX7_one 1 = .ok (.invokevirtual 158, 3) := by decide +kernel
theorem dX7_one_4 : decode cX7_one 4 = .ok (.bipush 48, 2) := by decide +kernel
theorem dX7_one_6 : decode cX7_one 6 = .ok (.isub, 1) := by decide +kernel
theorem dX7_one_7 : decode cX7_one 7 = .ok (.istore_n 3, 1) := by decide +kernel
theorem dX7_one_8 : decode cX7_one 8 = .ok (.aload_n 0, 1) := by decide +kernel
theorem dX7_one_9 : decode cX7_one 9 = .ok (.aload_n 0, 1) := by decide +kernel
theorem dX7_one_10 : decode cX7_one 10 = .ok (.getfield 161, 3) := by decide +kernel
theorem dX7_one_13 : decode cX7_one 13 = .ok (.ifCond .ne 12, 3) := by decide +kernel
theorem dX7_one_16 : decode cX7_one 16 = .ok (.iload_n 3, 1) := by decide +kernel
theorem dX7_one_17 : decode cX7_one 17 = .ok (.iload_n 1, 1) := by decide +kernel
theorem dX7_one_18 : decode cX7_one 18 = .ok (.iload_n 2, 1) := by decide +kernel
theorem dX7_one_19 : decode cX7_one 19 = .ok (.invokestatic 54, 3) := by decide +kernel
theorem dX7_one_22 : decode cX7_one 22 = .ok (.ifCond .ne 7, 3) := by decide +kernel
theorem dX7_one_25 : decode cX7_one 25 = .ok (.iconst 1, 1) := by decide +kernel
theorem dX7_one_26 : decode cX7_one 26 = .ok (.goto 4, 3) := by decide +kernel
theorem dX7_one_29 : decode cX7_one 29 = .ok (.iconst 0, 1) := by decide +kernel
theorem dX7_one_30 : decode cX7_one 30 = .ok (.putfield 161, 3) := by decide +kernel
theorem dX7_one_33 : decode cX7_one 33 = .ok (.aload_n 0, 1) := by decide +kernel
theorem dX7_one_34 : decode cX7_one 34 = .ok (.dup, 1) := by decide +kernel
theorem dX7_one_35 : decode cX7_one 35 = .ok (.getfield 155, 3) := by decide +kernel
theorem dX7_one_38 : decode cX7_one 38 = .ok (.aload_n 0, 1) := by decide +kernel
theorem dX7_one_39 : decode cX7_one 39 = .ok (.getfield 161, 3) := by decide +kernel
theorem dX7_one_42 : decode cX7_one 42 = .ok (.ifCond .eq 7, 3) := by decide +kernel
theorem dX7_one_45 : decode cX7_one 45 = .ok (.iconst 0, 1) := by decide +kernel
theorem dX7_one_46 : decode cX7_one 46 = .ok (.goto 4, 3) := by decide +kernel
theorem dX7_one_49 : decode cX7_one 49 = .ok (.iconst 1, 1) := by decide +kernel
theorem dX7_one_50 : decode cX7_one 50 = .ok (.iadd, 1) := by decide +kernel
theorem dX7_one_51 : decode cX7_one 51 = .ok (.putfield 155, 3) := by decide +kernel
theorem dX7_one_54 : decode cX7_one 54 = .ok (.iload_n 3, 1) := by decide +kernel
theorem dX7_one_55 : decode cX7_one 55 = .ok (.ireturn, 1) := by decide +kernel
theorem dX7_number_0 : decode cX7_number 0 = .ok (.aload_n 0, 1) := by decide +kernel
theorem dX7_number_1 : decode cX7_number 1 = .ok (.iconst 0, 1) := by decide +kernel
theorem dX7_number_2 : decode cX7_number 2 = .ok (.bipush 9, 2) := by decide +kernel
theorem dX7_number_4 : decode cX7_number 4 = .ok (.invokevirtual 164, 3) := by decide +kernel
theorem dX7_number_7 : decode cX7_number 7 = .ok (.istore_n 1, 1) := by decide +kernel
theorem dX7_number_8 : decode cX7_number 8 = .ok (.aload_n 0, 1) := by decide +kernel
theorem dX7_number_9 : decode cX7_number 9 = .ok (.getfield 161, 3) := by decide +kernel
theorem dX7_number_12 : decode cX7_number 12 = .ok (.ifCond .ne 64, 3) := by decide +kernel
theorem dX7_number_15 : decode cX7_number 15 = .ok (.iload_n 1, 1) := by decide +kernel
theorem dX7_number_16 : decode cX7_number 16 = .ok (.ifCond .le 60, 3) := by decide +kernel
theorem dX7_number_19 : decode cX7_number 19 = .ok (.aload_n 0, 1) := by decide +kernel
theorem dX7_number_20 : decode cX7_number 20 = .ok (.invokevirtual 158, 3) := by decide +kernel
theorem dX7_number_23 : decode cX7_number 23 = .ok (.bipush 48, 2) := by decide +kernel
theorem dX7_number_25 : decode cX7_number 25 = .ok (.bipush 57, 2) := by decide +kernel
theorem dX7_number_27 : decode cX7_number 27 = .ok (.invokestatic 54, 3) := by decide +kernel
theorem dX7_number_30 : decode cX7_number 30 = .ok (.ifCond .eq 46, 3) := by decide +kernel
theorem dX7_number_33 : decode cX7_number 33 = .ok (.bipush 10, 2) := by decide +kernel
theorem dX7_number_35 : decode cX7_number 35 = .ok (.iload_n 1, 1) := by decide +kernel
theorem dX7_number_36 : decode cX7_number 36 = .ok (.imul, 1) := by decide +kernel
theorem dX7_number_37 : decode cX7_number 37 = .ok (.aload_n 0, 1) := by decide +kernel
theorem dX7_number_38 : decode cX7_number 38 = .ok (.invokevirtual 158, 3) := by decide +kernel
theorem dX7_number_41 : decode cX7_number 41 = .ok (.iadd, 1) := by decide +kernel
theorem dX7_number_42 : decode cX7_number 42 = .ok (.bipush 48, 2) := by decide +kernel
theorem dX7_number_44 : decode cX7_number 44 = .ok (.isub, 1) := by decide +kernel
theorem dX7_number_45 : decode cX7_number 45 = .ok (.bipush 99, 2) := by decide +kernel
theorem dX7_number_47 : decode cX7_number 47 = .ok (.if_icmp .gt 29, 3) := by decide +kernel
theorem dX7_number_50 : decode cX7_number 50 = .ok (.bipush 10, 2) := by decide +kernel
theorem dX7_number_52 : decode cX7_number 52 = .ok (.iload_n 1, 1) := by decide +kernel
theorem dX7_number_53 : decode cX7_number 53 = .ok (.imul, 1) := by decide +kernel
theorem dX7_number_54 : decode cX7_number 54 = .ok (.aload_n 0, 1) := by decide +kernel
theorem dX7_number_55 : decode cX7_number 55 = .ok (.invokevirtual 158, 3) := by decide +kernel
theorem dX7_number_58 : decode cX7_number 58 = .ok (.iadd, 1) := by decide +kernel
theorem dX7_number_59 : decode cX7_number 59 = .ok (.bipush 48, 2) := by decide +kernel
theorem dX7_number_61 : decode cX7_number 61 = .ok (.isub, 1) := by decide +kernel
theorem dX7_number_62 : decode cX7_number 62 = .ok (.istore_n 1, 1) := by decide +kernel
theorem dX7_number_63 : decode cX7_number 63 = .ok (.aload_n 0, 1) := by decide +kernel
theorem dX7_number_64 : decode cX7_number 64 = .ok (.dup, 1) := by decide +kernel
theorem dX7_number_65 : decode cX7_number 65 = .ok (.getfield 155, 3) := by decide +kernel
theorem dX7_number_68 : decode cX7_number 68 = .ok (.iconst 1, 1) := by decide +kernel
theorem dX7_number_69 : decode cX7_number 69 = .ok (.iadd, 1) := by decide +kernel
theorem dX7_number_70 : decode cX7_number 70 = .ok (.putfield 155, 3) := by decide +kernel
theorem dX7_number_73 : decode cX7_number 73 = .ok (.goto (-65), 3) := by decide +kernel
theorem dX7_number_76 : decode cX7_number 76 = .ok (.iload_n 1, 1) := by decide +kernel
theorem dX7_number_77 : decode cX7_number 77 = .ok (.ireturn, 1) := by decide +kernel
theorem dX7_readOne_0 : decode cX7_readOne 0 = .ok (.iconst 5, 1) := by decide +kernel
theorem dX7_readOne_1 : decode cX7_readOne 1 = .ok (.aload_n 0, 1) := by decide +kernel
theorem dX7_readOne_2 : decode cX7_readOne 2 = .ok (.getfield 167, 3) := by decide +kernel
theorem dX7_readOne_5 : decode cX7_readOne 5 = .ok (.imul, 1) := by decide +kernel
theorem dX7_readOne_6 : decode cX7_readOne 6 = .ok (.istore_n 1, 1) := by decide +kernel
theorem dX7_readOne_7 : decode cX7_readOne 7 = .ok (.aload_n 0, 1) := by decide +kernel
theorem dX7_readOne_8 : decode cX7_readOne 8 = .ok (.invokevirtual 158, 3) := by decide +kernel
theorem dX7_readOne_11 : decode cX7_readOne 11 = .ok (.istore_n 2, 1) := by decide +kernel
theorem dX7_readOne_12 : decode cX7_readOne 12 = .ok (.aload_n 0, 1) := by decide +kernel
theorem dX7_readOne_13 : decode cX7_readOne 13 = .ok (.getfield 35, 3) := by decide +kernel
theorem dX7_readOne_16 : decode cX7_readOne 16 = .ok (.iload_n 1, 1) := by decide +kernel
theorem dX7_readOne_17 : decode cX7_readOne 17 = .ok (.iload_n 2, 1) := by decide +kernel
theorem dX7_readOne_18 : decode cX7_readOne 18 = .ok (.iastore, 1) := by decide +kernel
theorem dX7_readOne_19 : decode cX7_readOne 19 = .ok (.aload_n 0, 1) := by decide +kernel
theorem dX7_readOne_20 : decode cX7_readOne 20 = .ok (.iload_n 2, 1) := by decide +kernel
theorem dX7_readOne_21 : decode cX7_readOne 21 = .ok (.bipush 99, 2) := by decide +kernel
theorem dX7_readOne_23 : decode cX7_readOne 23 = .ok (.if_icmp .eq 19, 3) := by decide +kernel
theorem dX7_readOne_26 : decode cX7_readOne 26 = .ok (.iload_n 2, 1) := by decide +kernel
theorem dX7_readOne_27 : decode cX7_readOne 27 = .ok (.bipush 119, 2) := by decide +kernel
theorem dX7_readOne_29 : decode cX7_readOne 29 = .ok (.if_icmp .eq 13, 3) := by decide +kernel
theorem dX7_readOne_32 : decode cX7_readOne 32 = .ok (.iload_n 2, 1) := by decide +kernel
theorem dX7_readOne_33 : decode cX7_readOne 33 = .ok (.bipush 116, 2) := by decide +kernel
theorem dX7_readOne_35 : decode cX7_readOne 35 = .ok (.if_icmp .eq 7, 3) := by decide +kernel
theorem dX7_readOne_38 : decode cX7_readOne 38 = .ok (.iconst 1, 1) := by decide +kernel
theorem dX7_readOne_39 : decode cX7_readOne 39 = .ok (.goto 4, 3) := by decide +kernel
theorem dX7_readOne_42 : decode cX7_readOne 42 = .ok (.iconst 0, 1) := by decide +kernel
theorem dX7_readOne_43 : decode cX7_readOne 43 = .ok (.putfield 161, 3) := by decide +kernel
theorem dX7_readOne_46 : decode cX7_readOne 46 = .ok (.aload_n 0, 1) := by decide +kernel
theorem dX7_readOne_47 : decode cX7_readOne 47 = .ok (.getfield 161, 3) := by decide +kernel
theorem dX7_readOne_50 : decode cX7_readOne 50 = .ok (.ifCond .eq 4, 3) := by decide +kernel
theorem dX7_readOne_53 : decode cX7_readOne 53 = .ok (.return_, 1) := by decide +kernel
theorem dX7_readOne_54 : decode cX7_readOne 54 = .ok (.aload_n 0, 1) := by decide +kernel
theorem dX7_readOne_55 : decode cX7_readOne 55 = .ok (.dup, 1) := by decide +kernel
theorem dX7_readOne_56 : decode cX7_readOne 56 = .ok (.getfield 155, 3) := by decide +kernel
theorem dX7_readOne_59 : decode cX7_readOne 59 = .ok (.iconst 1, 1) := by decide +kernel
theorem dX7_readOne_60 : decode cX7_readOne 60 = .ok (.iadd, 1) := by decide +kernel
theorem dX7_readOne_61 : decode cX7_readOne 61 = .ok (.putfield 155, 3) := by decide +kernel
theorem dX7_readOne_64 : decode cX7_readOne 64 = .ok (.iload_n 2, 1) := by decide +kernel
theorem dX7_readOne_65 : decode cX7_readOne 65 = .ok (.bipush 99, 2) := by decide +kernel
theorem dX7_readOne_67 : decode cX7_readOne 67 = .ok (.if_icmp .ne 63, 3) := by decide +kernel
theorem dX7_readOne_70 : decode cX7_readOne 70 = .ok (.aload_n 0, 1) := by decide +kernel
theorem dX7_readOne_71 : decode cX7_readOne 71 = .ok (.getfield 35, 3) := by decide +kernel
theorem dX7_readOne_74 : decode cX7_readOne 74 = .ok (.iload_n 1, 1) := by decide +kernel
theorem dX7_readOne_75 : decode cX7_readOne 75 = .ok (.iconst 1, 1) := by decide +kernel
theorem dX7_readOne_76 : decode cX7_readOne 76 = .ok (.iadd, 1) := by decide +kernel
theorem dX7_readOne_77 : decode cX7_readOne 77 = .ok (.aload_n 0, 1) := by decide +kernel
theorem dX7_readOne_78 : decode cX7_readOne 78 = .ok (.iconst 0, 1) := by decide +kernel
theorem dX7_readOne_79 : decode cX7_readOne 79 = .ok (.iconst 1, 1) := by decide +kernel
theorem dX7_readOne_80 : decode cX7_readOne 80 = .ok (.invokevirtual 164, 3) := by decide +kernel
theorem dX7_readOne_83 : decode cX7_readOne 83 = .ok (.iastore, 1) := by decide +kernel
theorem dX7_readOne_84 : decode cX7_readOne 84 = .ok (.aload_n 0, 1) := by decide +kernel
theorem dX7_readOne_85 : decode cX7_readOne 85 = .ok (.getfield 35, 3) := by decide +kernel
theorem dX7_readOne_88 : decode cX7_readOne 88 = .ok (.iload_n 1, 1) := by decide +kernel
theorem dX7_readOne_89 : decode cX7_readOne 89 = .ok (.iconst 2, 1) := by decide +kernel
theorem dX7_readOne_90 : decode cX7_readOne 90 = .ok (.iadd, 1) := by decide +kernel
theorem dX7_readOne_91 : decode cX7_readOne 91 = .ok (.aload_n 0, 1) := by decide +kernel
theorem dX7_readOne_92 : decode cX7_readOne 92 = .ok (.iconst 1, 1) := by decide +kernel
theorem dX7_readOne_93 : decode cX7_readOne 93 = .ok (.iconst 4, 1) := by decide +kernel
theorem dX7_readOne_94 : decode cX7_readOne 94 = .ok (.invokevirtual 164, 3) := by decide +kernel
theorem dX7_readOne_97 : decode cX7_readOne 97 = .ok (.iastore, 1) := by decide +kernel
theorem dX7_readOne_98 : decode cX7_readOne 98 = .ok (.aload_n 0, 1) := by decide +kernel
theorem dX7_readOne_99 : decode cX7_readOne 99 = .ok (.getfield 35, 3) := by decide +kernel
theorem dX7_readOne_102 : decode cX7_readOne 102 = .ok (.iload_n 1, 1) := by decide +kernel
theorem dX7_readOne_103 : decode cX7_readOne 103 = .ok (.iconst 3, 1) := by decide +kernel
theorem dX7_readOne_104 : decode cX7_readOne 104 = .ok (.iadd, 1) := by decide +kernel
theorem dX7_readOne_105 : decode cX7_readOne 105 = .ok (.aload_n 0, 1) := by decide +kernel
theorem dX7_readOne_106 : decode cX7_readOne 106 = .ok (.iconst 1, 1) := by decide +kernel
theorem dX7_readOne_107 : decode cX7_readOne 107 = .ok (.iconst 4, 1) := by decide +kernel
theorem dX7_readOne_108 : decode cX7_readOne 108 = .ok (.invokevirtual 164, 3) := by decide +kernel
theorem dX7_readOne_111 : decode cX7_readOne 111 = .ok (.iastore, 1) := by decide +kernel
theorem dX7_readOne_112 : decode cX7_readOne 112 = .ok (.aload_n 0, 1) := by decide +kernel
theorem dX7_readOne_113 : decode cX7_readOne 113 = .ok (.getfield 35, 3) := by decide +kernel
theorem dX7_readOne_116 : decode cX7_readOne 116 = .ok (.iload_n 1, 1) := by decide +kernel
theorem dX7_readOne_117 : decode cX7_readOne 117 = .ok (.iconst 4, 1) := by decide +kernel
theorem dX7_readOne_118 : decode cX7_readOne 118 = .ok (.iadd, 1) := by decide +kernel
theorem dX7_readOne_119 : decode cX7_readOne 119 = .ok (.aload_n 0, 1) := by decide +kernel
theorem dX7_readOne_120 : decode cX7_readOne 120 = .ok (.iconst 1, 1) := by decide +kernel
theorem dX7_readOne_121 : decode cX7_readOne 121 = .ok (.bipush 9, 2) := by decide +kernel
theorem dX7_readOne_123 : decode cX7_readOne 123 = .ok (.invokevirtual 164, 3) := by decide +kernel
theorem dX7_readOne_126 : decode cX7_readOne 126 = .ok (.iastore, 1) := by decide +kernel
theorem dX7_readOne_127 : decode cX7_readOne 127 = .ok (.goto 15, 3) := by decide +kernel
theorem dX7_readOne_130 : decode cX7_readOne 130 = .ok (.aload_n 0, 1) := by decide +kernel
theorem dX7_readOne_131 : decode cX7_readOne 131 = .ok (.getfield 35, 3) := by decide +kernel
theorem dX7_readOne_134 : decode cX7_readOne 134 = .ok (.iload_n 1, 1) := by decide +kernel
theorem dX7_readOne_135 : decode cX7_readOne 135 = .ok (.iconst 1, 1) := by decide +kernel
theorem dX7_readOne_136 : decode cX7_readOne 136 = .ok (.iadd, 1) := by decide +kernel
theorem dX7_readOne_137 : decode cX7_readOne 137 = .ok (.aload_n 0, 1) := by decide +kernel
theorem dX7_readOne_138 : decode cX7_readOne 138 = .ok (.invokevirtual 170, 3) := by decide +kernel
theorem dX7_readOne_141 : decode cX7_readOne 141 = .ok (.iastore, 1) := by decide +kernel
theorem dX7_readOne_142 : decode cX7_readOne 142 = .ok (.aload_n 0, 1) := by decide +kernel
theorem dX7_readOne_143 : decode cX7_readOne 143 = .ok (.dup, 1) := by decide +kernel
theorem dX7_readOne_144 : decode cX7_readOne 144 = .ok (.getfield 167, 3) := by decide +kernel
theorem dX7_readOne_147 : decode cX7_readOne 147 = .ok (.iconst 1, 1) := by decide +kernel
theorem dX7_readOne_148 : decode cX7_readOne 148 = .ok (.iadd, 1) := by decide +kernel
theorem dX7_readOne_149 : decode cX7_readOne 149 = .ok (.putfield 167, 3) := by decide +kernel
theorem dX7_readOne_152 : decode cX7_readOne 152 = .ok (.return_, 1) := by decide +kernel
theorem dX7_faultOf_0 : decode cX7_faultOf 0 = .ok (.aload_n 0, 1) := by decide +kernel
theorem dX7_faultOf_1 : decode cX7_faultOf 1 = .ok (.iconst 0, 1) := by decide +kernel
theorem dX7_faultOf_2 : decode cX7_faultOf 2 = .ok (.putfield 155, 3) := by decide +kernel
theorem dX7_faultOf_5 : decode cX7_faultOf 5 = .ok (.aload_n 0, 1) := by decide +kernel
theorem dX7_faultOf_6 : decode cX7_faultOf 6 = .ok (.iconst 0, 1) := by decide +kernel
theorem dX7_faultOf_7 : decode cX7_faultOf 7 = .ok (.putfield 167, 3) := by decide +kernel
theorem dX7_faultOf_10 : decode cX7_faultOf 10 = .ok (.aload_n 0, 1) := by decide +kernel
theorem dX7_faultOf_11 : decode cX7_faultOf 11 = .ok (.iconst 0, 1) := by decide +kernel
theorem dX7_faultOf_12 : decode cX7_faultOf 12 = .ok (.putfield 161, 3) := by decide +kernel
theorem dX7_faultOf_15 : decode cX7_faultOf 15 = .ok (.aload_n 0, 1) := by decide +kernel
theorem dX7_faultOf_16 : decode cX7_faultOf 16 = .ok (.invokevirtual 173, 3) := by decide +kernel
theorem dX7_faultOf_19 : decode cX7_faultOf 19 = .ok (.aload_n 0, 1) := by decide +kernel
theorem dX7_faultOf_20 : decode cX7_faultOf 20 = .ok (.getfield 161, 3) := by decide +kernel
theorem dX7_faultOf_23 : decode cX7_faultOf 23 = .ok (.ifCond .ne 56, 3) := by decide +kernel
theorem dX7_faultOf_26 : decode cX7_faultOf 26 = .ok (.aload_n 0, 1) := by decide +kernel
theorem dX7_faultOf_27 : decode cX7_faultOf 27 = .ok (.getfield 155, 3) := by decide +kernel
theorem dX7_faultOf_30 : decode cX7_faultOf 30 = .ok (.aload_n 0, 1) := by decide +kernel
theorem dX7_faultOf_31 : decode cX7_faultOf 31 = .ok (.getfield 139, 3) := by decide +kernel
theorem dX7_faultOf_34 : decode cX7_faultOf 34 = .ok (.if_icmp .ge 45, 3) := by decide +kernel
theorem dX7_faultOf_37 : decode cX7_faultOf 37 = .ok (.aload_n 0, 1) := by decide +kernel
theorem dX7_faultOf_38 : decode cX7_faultOf 38 = .ok (.aload_n 0, 1) := by decide +kernel
theorem dX7_faultOf_39 : decode cX7_faultOf 39 = .ok (.invokevirtual 158, 3) := by decide +kernel
theorem dX7_faultOf_42 : decode cX7_faultOf 42 = .ok (.bipush 59, 2) := by decide +kernel
theorem dX7_faultOf_44 : decode cX7_faultOf 44 = .ok (.if_icmp .eq 7, 3) := by decide +kernel
theorem dX7_faultOf_47 : decode cX7_faultOf 47 = .ok (.iconst 1, 1) := by decide +kernel
theorem dX7_faultOf_48 : decode cX7_faultOf 48 = .ok (.goto 4, 3) := by decide +kernel
theorem dX7_faultOf_51 : decode cX7_faultOf 51 = .ok (.iconst 0, 1) := by decide +kernel
theorem dX7_faultOf_52 : decode cX7_faultOf 52 = .ok (.putfield 161, 3) := by decide +kernel
theorem dX7_faultOf_55 : decode cX7_faultOf 55 = .ok (.aload_n 0, 1) := by decide +kernel
theorem dX7_faultOf_56 : decode cX7_faultOf 56 = .ok (.getfield 161, 3) := by decide +kernel
theorem dX7_faultOf_59 : decode cX7_faultOf 59 = .ok (.ifCond .ne (-40), 3) := by decide +kernel
theorem dX7_faultOf_62 : decode cX7_faultOf 62 = .ok (.aload_n 0, 1) := by decide +kernel
theorem dX7_faultOf_63 : decode cX7_faultOf 63 = .ok (.dup, 1) := by decide +kernel
theorem dX7_faultOf_64 : decode cX7_faultOf 64 = .ok (.getfield 155, 3) := by decide +kernel
theorem dX7_faultOf_67 : decode cX7_faultOf 67 = .ok (.iconst 1, 1) := by decide +kernel
theorem dX7_faultOf_68 : decode cX7_faultOf 68 = .ok (.iadd, 1) := by decide +kernel
theorem dX7_faultOf_69 : decode cX7_faultOf 69 = .ok (.putfield 155, 3) := by decide +kernel
theorem dX7_faultOf_72 : decode cX7_faultOf 72 = .ok (.aload_n 0, 1) := by decide +kernel
theorem dX7_faultOf_73 : decode cX7_faultOf 73 = .ok (.invokevirtual 173, 3) := by decide +kernel
theorem dX7_faultOf_76 : decode cX7_faultOf 76 = .ok (.goto (-57), 3) := by decide +kernel
theorem dX7_faultOf_79 : decode cX7_faultOf 79 = .ok (.aload_n 0, 1) := by decide +kernel
theorem dX7_faultOf_80 : decode cX7_faultOf 80 = .ok (.getfield 161, 3) := by decide +kernel
theorem dX7_faultOf_83 : decode cX7_faultOf 83 = .ok (.ifCond .eq 10, 3) := by decide +kernel
theorem dX7_faultOf_86 : decode cX7_faultOf 86 = .ok (.aload_n 0, 1) := by decide +kernel
theorem dX7_faultOf_87 : decode cX7_faultOf 87 = .ok (.getfield 155, 3) := by decide +kernel
theorem dX7_faultOf_90 : decode cX7_faultOf 90 = .ok (.goto 5, 3) := by decide +kernel
theorem dX7_faultOf_93 : decode cX7_faultOf 93 = .ok (.bipush (-6), 2) := by decide +kernel
theorem dX7_faultOf_95 : decode cX7_faultOf 95 = .ok (.ireturn, 1) := by decide +kernel
theorem dX7_put_0 : decode cX7_put 0 = .ok (.iconst 0, 1) := by decide +kernel
theorem dX7_put_1 : decode cX7_put 1 = .ok (.istore_n 3, 1) := by decide +kernel
theorem dX7_put_2 : decode cX7_put 2 = .ok (.lload_n 1, 1) := by decide +kernel
theorem dX7_put_3 : decode cX7_put 3 = .ok (.lstore 4, 2) := by decide +kernel
theorem dX7_put_5 : decode cX7_put 5 = .ok (.lload 4, 2) := by decide +kernel
theorem dX7_put_7 : decode cX7_put 7 = .ok (.ldc2_w 176, 3) := by decide +kernel
theorem dX7_put_10 : decode cX7_put 10 = .ok (.land, 1) := by decide +kernel
theorem dX7_put_11 : decode cX7_put 11 = .ok (.lconst 0, 1) := by decide +kernel
theorem dX7_put_12 : decode cX7_put 12 = .ok (.lcmp, 1) := by decide +kernel
theorem dX7_put_13 : decode cX7_put 13 = .ok (.ifCond .eq 36, 3) := by decide +kernel
theorem dX7_put_16 : decode cX7_put 16 = .ok (.lload 4, 2) := by decide +kernel
theorem dX7_put_18 : decode cX7_put 18 = .ok (.ldc2_w 176, 3) := by decide +kernel
theorem dX7_put_21 : decode cX7_put 21 = .ok (.land, 1) := by decide +kernel
theorem dX7_put_22 : decode cX7_put 22 = .ok (.l2i, 1) := by decide +kernel
theorem dX7_put_23 : decode cX7_put 23 = .ok (.bipush 33, 2) := by decide +kernel
theorem dX7_put_25 : decode cX7_put 25 = .ok (.bipush 126, 2) := by decide +kernel
theorem dX7_put_27 : decode cX7_put 27 = .ok (.invokestatic 54, 3) := by decide +kernel
theorem dX7_put_30 : decode cX7_put 30 = .ok (.ifCond .ne 6, 3) := by decide +kernel
theorem dX7_put_33 : decode cX7_put 33 = .ok (.bipush (-2), 2) := by decide +kernel
theorem dX7_put_35 : decode cX7_put 35 = .ok (.ireturn, 1) := by decide +kernel
theorem dX7_put_36 : decode cX7_put 36 = .ok (.iinc 3 1, 3) := by decide +kernel
theorem dX7_put_39 : decode cX7_put 39 = .ok (.lload 4, 2) := by decide +kernel
theorem dX7_put_41 : decode cX7_put 41 = .ok (.bipush 8, 2) := by decide +kernel
theorem dX7_put_43 : decode cX7_put 43 = .ok (.lushr, 1) := by decide +kernel
theorem dX7_put_44 : decode cX7_put 44 = .ok (.lstore 4, 2) := by decide +kernel
theorem dX7_put_46 : decode cX7_put 46 = .ok (.goto (-41), 3) := by decide +kernel
theorem dX7_put_49 : decode cX7_put 49 = .ok (.lload 4, 2) := by decide +kernel
theorem dX7_put_51 : decode cX7_put 51 = .ok (.lconst 0, 1) := by decide +kernel
theorem dX7_put_52 : decode cX7_put 52 = .ok (.lcmp, 1) := by decide +kernel
theorem dX7_put_53 : decode cX7_put 53 = .ok (.ifCond .ne 7, 3) := by decide +kernel
theorem dX7_put_56 : decode cX7_put 56 = .ok (.iload_n 3, 1) := by decide +kernel
theorem dX7_put_57 : decode cX7_put 57 = .ok (.ifCond .ne 6, 3) := by decide +kernel
theorem dX7_put_60 : decode cX7_put 60 = .ok (.bipush (-2), 2) := by decide +kernel
theorem dX7_put_62 : decode cX7_put 62 = .ok (.ireturn, 1) := by decide +kernel
theorem dX7_put_63 : decode cX7_put 63 = .ok (.aload_n 0, 1) := by decide +kernel
theorem dX7_put_64 : decode cX7_put 64 = .ok (.getfield 139, 3) := by decide +kernel
theorem dX7_put_67 : decode cX7_put 67 = .ok (.iload_n 3, 1) := by decide +kernel
theorem dX7_put_68 : decode cX7_put 68 = .ok (.iadd, 1) := by decide +kernel
theorem dX7_put_69 : decode cX7_put 69 = .ok (.bipush 60, 2) := by decide +kernel
theorem dX7_put_71 : decode cX7_put 71 = .ok (.if_icmp .le 6, 3) := by decide +kernel
theorem dX7_put_74 : decode cX7_put 74 = .ok (.bipush (-4), 2) := by decide +kernel
theorem dX7_put_76 : decode cX7_put 76 = .ok (.ireturn, 1) := by decide +kernel
theorem dX7_put_77 : decode cX7_put 77 = .ok (.lload_n 1, 1) := by decide +kernel
theorem dX7_put_78 : decode cX7_put 78 = .ok (.lstore 4, 2) := by decide +kernel
theorem dX7_put_80 : decode cX7_put 80 = .ok (.iload_n 3, 1) := by decide +kernel
theorem dX7_put_81 : decode cX7_put 81 = .ok (.iconst 1, 1) := by decide +kernel
theorem dX7_put_82 : decode cX7_put 82 = .ok (.isub, 1) := by decide +kernel
theorem dX7_put_83 : decode cX7_put 83 = .ok (.istore 6, 2) := by decide +kernel
theorem dX7_put_85 : decode cX7_put 85 = .ok (.iload 6, 2) := by decide +kernel
theorem dX7_put_87 : decode cX7_put 87 = .ok (.ifCond .lt 35, 3) := by decide +kernel
theorem dX7_put_90 : decode cX7_put 90 = .ok (.aload_n 0, 1) := by decide +kernel
theorem dX7_put_91 : decode cX7_put 91 = .ok (.getfield 26, 3) := by decide +kernel
theorem dX7_put_94 : decode cX7_put 94 = .ok (.aload_n 0, 1) := by decide +kernel
theorem dX7_put_95 : decode cX7_put 95 = .ok (.getfield 139, 3) := by decide +kernel
theorem dX7_put_98 : decode cX7_put 98 = .ok (.iload 6, 2) := by decide +kernel
theorem dX7_put_100 : decode cX7_put 100 = .ok (.iadd, 1) := by decide +kernel
theorem dX7_put_101 : decode cX7_put 101 = .ok (.lload 4, 2) := by decide +kernel
theorem dX7_put_103 : decode cX7_put 103 = .ok (.ldc2_w 176, 3) := by decide +kernel
theorem dX7_put_106 : decode cX7_put 106 = .ok (.land, 1) := by decide +kernel
theorem dX7_put_107 : decode cX7_put 107 = .ok (.l2i, 1) := by decide +kernel
theorem dX7_put_108 : decode cX7_put 108 = .ok (.iastore, 1) := by decide +kernel
theorem dX7_put_109 : decode cX7_put 109 = .ok (.lload 4, 2) := by decide +kernel
theorem dX7_put_111 : decode cX7_put 111 = .ok (.bipush 8, 2) := by decide +kernel
theorem dX7_put_113 : decode cX7_put 113 = .ok (.lushr, 1) := by decide +kernel
theorem dX7_put_114 : decode cX7_put 114 = .ok (.lstore 4, 2) := by decide +kernel
theorem dX7_put_116 : decode cX7_put 116 = .ok (.iinc 6 (-1), 3) := by decide +kernel
theorem dX7_put_119 : decode cX7_put 119 = .ok (.goto (-34), 3) := by decide +kernel
theorem dX7_put_122 : decode cX7_put 122 = .ok (.aload_n 0, 1) := by decide +kernel
theorem dX7_put_123 : decode cX7_put 123 = .ok (.dup, 1) := by decide +kernel
theorem dX7_put_124 : decode cX7_put 124 = .ok (.getfield 139, 3) := by decide +kernel
theorem dX7_put_127 : decode cX7_put 127 = .ok (.iload_n 3, 1) := by decide +kernel
theorem dX7_put_128 : decode cX7_put 128 = .ok (.iadd, 1) := by decide +kernel
theorem dX7_put_129 : decode cX7_put 129 = .ok (.putfield 139, 3) := by decide +kernel
theorem dX7_put_132 : decode cX7_put 132 = .ok (.aload_n 0, 1) := by decide +kernel
theorem dX7_put_133 : decode cX7_put 133 = .ok (.getfield 139, 3) := by decide +kernel
theorem dX7_put_136 : decode cX7_put 136 = .ok (.ireturn, 1) := by decide +kernel
theorem dX7_wipe_0 : decode cX7_wipe 0 = .ok (.aload_n 0, 1) := by decide +kernel
theorem dX7_wipe_1 : decode cX7_wipe 1 = .ok (.getfield 139, 3) := by decide +kernel
theorem dX7_wipe_4 : decode cX7_wipe 4 = .ok (.istore_n 1, 1) := by decide +kernel
theorem dX7_wipe_5 : decode cX7_wipe 5 = .ok (.aload_n 0, 1) := by decide +kernel
theorem dX7_wipe_6 : decode cX7_wipe 6 = .ok (.iconst 0, 1) := by decide +kernel
theorem dX7_wipe_7 : decode cX7_wipe 7 = .ok (.putfield 139, 3) := by decide +kernel
theorem dX7_wipe_10 : decode cX7_wipe 10 = .ok (.iload_n 1, 1) := by decide +kernel
theorem dX7_wipe_11 : decode cX7_wipe 11 = .ok (.ireturn, 1) := by decide +kernel
theorem dX7_fault_0 : decode cX7_fault 0 = .ok (.aload_n 0, 1) := by decide +kernel
theorem dX7_fault_1 : decode cX7_fault 1 = .ok (.invokevirtual 178, 3) := by decide +kernel
theorem dX7_fault_4 : decode cX7_fault 4 = .ok (.ireturn, 1) := by decide +kernel
theorem dX7_carry_0 : decode cX7_carry 0 = .ok (.aload_n 0, 1) := by decide +kernel
theorem dX7_carry_1 : decode cX7_carry 1 = .ok (.getfield 35, 3) := by decide +kernel
theorem dX7_carry_4 : decode cX7_carry 4 = .ok (.iload_n 1, 1) := by decide +kernel
theorem dX7_carry_5 : decode cX7_carry 5 = .ok (.iconst 1, 1) := by decide +kernel
theorem dX7_carry_6 : decode cX7_carry 6 = .ok (.iadd, 1) := by decide +kernel
theorem dX7_carry_7 : decode cX7_carry 7 = .ok (.iaload, 1) := by decide +kernel
theorem dX7_carry_8 : decode cX7_carry 8 = .ok (.istore_n 2, 1) := by decide +kernel
theorem dX7_carry_9 : decode cX7_carry 9 = .ok (.aload_n 0, 1) := by decide +kernel
theorem dX7_carry_10 : decode cX7_carry 10 = .ok (.getfield 35, 3) := by decide +kernel
theorem dX7_carry_13 : decode cX7_carry 13 = .ok (.iload_n 1, 1) := by decide +kernel
theorem dX7_carry_14 : decode cX7_carry 14 = .ok (.iaload, 1) := by decide +kernel
theorem dX7_carry_15 : decode cX7_carry 15 = .ok (.lookupswitch 61 #[(99, 25), (119, 55)], 25) := by decide +kernel
theorem dX7_carry_40 : decode cX7_carry 40 = .ok (.aload_n 0, 1) := by decide +kernel
theorem dX7_carry_41 : decode cX7_carry 41 = .ok (.iload_n 2, 1) := by decide +kernel
theorem dX7_carry_42 : decode cX7_carry 42 = .ok (.aload_n 0, 1) := by decide +kernel
theorem dX7_carry_43 : decode cX7_carry 43 = .ok (.getfield 35, 3) := by decide +kernel
theorem dX7_carry_46 : decode cX7_carry 46 = .ok (.iload_n 1, 1) := by decide +kernel
theorem dX7_carry_47 : decode cX7_carry 47 = .ok (.iconst 2, 1) := by decide +kernel
theorem dX7_carry_48 : decode cX7_carry 48 = .ok (.iadd, 1) := by decide +kernel
theorem dX7_carry_49 : decode cX7_carry 49 = .ok (.iaload, 1) := by decide +kernel
theorem dX7_carry_50 : decode cX7_carry 50 = .ok (.aload_n 0, 1) := by decide +kernel
theorem dX7_carry_51 : decode cX7_carry 51 = .ok (.getfield 35, 3) := by decide +kernel
theorem dX7_carry_54 : decode cX7_carry 54 = .ok (.iload_n 1, 1) := by decide +kernel
theorem dX7_carry_55 : decode cX7_carry 55 = .ok (.iconst 3, 1) := by decide +kernel
theorem dX7_carry_56 : decode cX7_carry 56 = .ok (.iadd, 1) := by decide +kernel
theorem dX7_carry_57 : decode cX7_carry 57 = .ok (.iaload, 1) := by decide +kernel
theorem dX7_carry_58 : decode cX7_carry 58 = .ok (.aload_n 0, 1) := by decide +kernel
theorem dX7_carry_59 : decode cX7_carry 59 = .ok (.getfield 35, 3) := by decide +kernel
theorem dX7_carry_62 : decode cX7_carry 62 = .ok (.iload_n 1, 1) := by decide +kernel
theorem dX7_carry_63 : decode cX7_carry 63 = .ok (.iconst 4, 1) := by decide +kernel
theorem dX7_carry_64 : decode cX7_carry 64 = .ok (.iadd, 1) := by decide +kernel
theorem dX7_carry_65 : decode cX7_carry 65 = .ok (.iaload, 1) := by decide +kernel
theorem dX7_carry_66 : decode cX7_carry 66 = .ok (.invokevirtual 181, 3) := by decide +kernel
theorem dX7_carry_69 : decode cX7_carry 69 = .ok (.ireturn, 1) := by decide +kernel
theorem dX7_carry_70 : decode cX7_carry 70 = .ok (.aload_n 0, 1) := by decide +kernel
theorem dX7_carry_71 : decode cX7_carry 71 = .ok (.iload_n 2, 1) := by decide +kernel
theorem dX7_carry_72 : decode cX7_carry 72 = .ok (.invokevirtual 185, 3) := by decide +kernel
theorem dX7_carry_75 : decode cX7_carry 75 = .ok (.ireturn, 1) := by decide +kernel
theorem dX7_carry_76 : decode cX7_carry 76 = .ok (.aload_n 0, 1) := by decide +kernel
theorem dX7_carry_77 : decode cX7_carry 77 = .ok (.iload_n 2, 1) := by decide +kernel
theorem dX7_carry_78 : decode cX7_carry 78 = .ok (.invokevirtual 188, 3) := by decide +kernel
theorem dX7_carry_81 : decode cX7_carry 81 = .ok (.ireturn, 1) := by decide +kernel
theorem dX7_carryOut_0 : decode cX7_carryOut 0 = .ok (.aload_n 0, 1) := by decide +kernel
theorem dX7_carryOut_1 : decode cX7_carryOut 1 = .ok (.invokevirtual 178, 3) := by decide +kernel
theorem dX7_carryOut_4 : decode cX7_carryOut 4 = .ok (.bipush (-6), 2) := by decide +kernel
theorem dX7_carryOut_6 : decode cX7_carryOut 6 = .ok (.if_icmp .eq 6, 3) := by decide +kernel
theorem dX7_carryOut_9 : decode cX7_carryOut 9 = .ok (.bipush (-3), 2) := by decide +kernel
theorem dX7_carryOut_11 : decode cX7_carryOut 11 = .ok (.ireturn, 1) := by decide +kernel
theorem dX7_carryOut_12 : decode cX7_carryOut 12 = .ok (.aload_n 0, 1) := by decide +kernel
theorem dX7_carryOut_13 : decode cX7_carryOut 13 = .ok (.invokevirtual 115, 3) := by decide +kernel
theorem dX7_carryOut_16 : decode cX7_carryOut 16 = .ok (.aload_n 0, 1) := by decide +kernel
theorem dX7_carryOut_17 : decode cX7_carryOut 17 = .ok (.iconst 1, 1) := by decide +kernel
theorem dX7_carryOut_18 : decode cX7_carryOut 18 = .ok (.putfield 38, 3) := by decide +kernel
theorem dX7_carryOut_21 : decode cX7_carryOut 21 = .ok (.iconst 0, 1) := by decide +kernel
theorem dX7_carryOut_22 : decode cX7_carryOut 22 = .ok (.istore_n 1, 1) := by decide +kernel
theorem dX7_carryOut_23 : decode cX7_carryOut 23 = .ok (.iload_n 1, 1) := by decide +kernel
theorem dX7_carryOut_24 : decode cX7_carryOut 24 = .ok (.aload_n 0, 1) := by decide +kernel
theorem dX7_carryOut_25 : decode cX7_carryOut 25 = .ok (.getfield 167, 3) := by decide +kernel
theorem dX7_carryOut_28 : decode cX7_carryOut 28 = .ok (.if_icmp .ge 19, 3) := by decide +kernel
theorem dX7_carryOut_31 : decode cX7_carryOut 31 = .ok (.aload_n 0, 1) := by decide +kernel
theorem dX7_carryOut_32 : decode cX7_carryOut 32 = .ok (.iconst 5, 1) := by decide +kernel
theorem dX7_carryOut_33 : decode cX7_carryOut 33 = .ok (.iload_n 1, 1) := by decide +kernel
theorem dX7_carryOut_34 : decode cX7_carryOut 34 = .ok (.imul, 1) := by decide +kernel
theorem dX7_carryOut_35 : decode cX7_carryOut 35 = .ok (.invokevirtual 191, 3) := by decide +kernel
theorem dX7_carryOut_38 : decode cX7_carryOut 38 = .ok (.ifCond .lt 9, 3) := by decide +kernel
theorem dX7_carryOut_41 : decode cX7_carryOut 41 = .ok (.iinc 1 1, 3) := by decide +kernel
theorem dX7_carryOut_44 : decode cX7_carryOut 44 = .ok (.goto (-21), 3) := by decide +kernel
theorem dX7_carryOut_47 : decode cX7_carryOut 47 = .ok (.aload_n 0, 1) := by decide +kernel
theorem dX7_carryOut_48 : decode cX7_carryOut 48 = .ok (.iconst 0, 1) := by decide +kernel
theorem dX7_carryOut_49 : decode cX7_carryOut 49 = .ok (.putfield 38, 3) := by decide +kernel
theorem dX7_carryOut_52 : decode cX7_carryOut 52 = .ok (.aload_n 0, 1) := by decide +kernel
theorem dX7_carryOut_53 : decode cX7_carryOut 53 = .ok (.iconst 0, 1) := by decide +kernel
theorem dX7_carryOut_54 : decode cX7_carryOut 54 = .ok (.putfield 139, 3) := by decide +kernel
theorem dX7_carryOut_57 : decode cX7_carryOut 57 = .ok (.iload_n 1, 1) := by decide +kernel
theorem dX7_carryOut_58 : decode cX7_carryOut 58 = .ok (.ireturn, 1) := by decide +kernel
theorem dX7_undo_0 : decode cX7_undo 0 = .ok (.aload_n 0, 1) := by decide +kernel
theorem dX7_undo_1 : decode cX7_undo 1 = .ok (.getfield 42, 3) := by decide +kernel
theorem dX7_undo_4 : decode cX7_undo 4 = .ok (.ifCond .ne 6, 3) := by decide +kernel
theorem dX7_undo_7 : decode cX7_undo 7 = .ok (.bipush (-5), 2) := by decide +kernel
theorem dX7_undo_9 : decode cX7_undo 9 = .ok (.ireturn, 1) := by decide +kernel
theorem dX7_undo_10 : decode cX7_undo 10 = .ok (.aload_n 0, 1) := by decide +kernel
theorem dX7_undo_11 : decode cX7_undo 11 = .ok (.dup, 1) := by decide +kernel
theorem dX7_undo_12 : decode cX7_undo 12 = .ok (.getfield 42, 3) := by decide +kernel
theorem dX7_undo_15 : decode cX7_undo 15 = .ok (.iconst 1, 1) := by decide +kernel
theorem dX7_undo_16 : decode cX7_undo 16 = .ok (.isub, 1) := by decide +kernel
theorem dX7_undo_17 : decode cX7_undo 17 = .ok (.putfield 42, 3) := by decide +kernel
theorem dX7_undo_20 : decode cX7_undo 20 = .ok (.iconst 0, 1) := by decide +kernel
theorem dX7_undo_21 : decode cX7_undo 21 = .ok (.istore_n 1, 1) := by decide +kernel
theorem dX7_undo_22 : decode cX7_undo 22 = .ok (.iload_n 1, 1) := by decide +kernel
theorem dX7_undo_23 : decode cX7_undo 23 = .ok (.sipush 470, 3) := by decide +kernel
theorem dX7_undo_26 : decode cX7_undo 26 = .ok (.if_icmp .ge 30, 3) := by decide +kernel
theorem dX7_undo_29 : decode cX7_undo 29 = .ok (.aload_n 0, 1) := by decide +kernel
theorem dX7_undo_30 : decode cX7_undo 30 = .ok (.getfield 7, 3) := by decide +kernel
theorem dX7_undo_33 : decode cX7_undo 33 = .ok (.iload_n 1, 1) := by decide +kernel
theorem dX7_undo_34 : decode cX7_undo 34 = .ok (.aload_n 0, 1) := by decide +kernel
theorem dX7_undo_35 : decode cX7_undo 35 = .ok (.getfield 16, 3) := by decide +kernel
theorem dX7_undo_38 : decode cX7_undo 38 = .ok (.aload_n 0, 1) := by decide +kernel
theorem dX7_undo_39 : decode cX7_undo 39 = .ok (.getfield 42, 3) := by decide +kernel
theorem dX7_undo_42 : decode cX7_undo 42 = .ok (.sipush 470, 3) := by decide +kernel
theorem dX7_undo_45 : decode cX7_undo 45 = .ok (.imul, 1) := by decide +kernel
theorem dX7_undo_46 : decode cX7_undo 46 = .ok (.iload_n 1, 1) := by decide +kernel
theorem dX7_undo_47 : decode cX7_undo 47 = .ok (.iadd, 1) := by decide +kernel
theorem dX7_undo_48 : decode cX7_undo 48 = .ok (.iaload, 1) := by decide +kernel
theorem dX7_undo_49 : decode cX7_undo 49 = .ok (.iastore, 1) := by decide +kernel
theorem dX7_undo_50 : decode cX7_undo 50 = .ok (.iinc 1 1, 3) := by decide +kernel
theorem dX7_undo_53 : decode cX7_undo 53 = .ok (.goto (-31), 3) := by decide +kernel
theorem dX7_undo_56 : decode cX7_undo 56 = .ok (.aload_n 0, 1) := by decide +kernel
theorem dX7_undo_57 : decode cX7_undo 57 = .ok (.getfield 42, 3) := by decide +kernel
theorem dX7_undo_60 : decode cX7_undo 60 = .ok (.ireturn, 1) := by decide +kernel
theorem dX7_save_0 : decode cX7_save 0 = .ok (.iload_n 1, 1) := by decide +kernel
theorem dX7_save_1 : decode cX7_save 1 = .ok (.iconst 0, 1) := by decide +kernel
theorem dX7_save_2 : decode cX7_save 2 = .ok (.iconst 1, 1) := by decide +kernel
theorem dX7_save_3 : decode cX7_save 3 = .ok (.invokestatic 54, 3) := by decide +kernel
theorem dX7_save_6 : decode cX7_save 6 = .ok (.ifCond .ne 6, 3) := by decide +kernel
theorem dX7_save_9 : decode cX7_save 9 = .ok (.bipush (-2), 2) := by decide +kernel
theorem dX7_save_11 : decode cX7_save 11 = .ok (.ireturn, 1) := by decide +kernel
theorem dX7_save_12 : decode cX7_save 12 = .ok (.iconst 0, 1) := by decide +kernel
theorem dX7_save_13 : decode cX7_save 13 = .ok (.istore_n 2, 1) := by decide +kernel
theorem dX7_save_14 : decode cX7_save 14 = .ok (.iload_n 2, 1) := by decide +kernel
theorem dX7_save_15 : decode cX7_save 15 = .ok (.sipush 470, 3) := by decide +kernel
theorem dX7_save_18 : decode cX7_save 18 = .ok (.if_icmp .ge 27, 3) := by decide +kernel
theorem dX7_save_21 : decode cX7_save 21 = .ok (.aload_n 0, 1) := by decide +kernel
theorem dX7_save_22 : decode cX7_save 22 = .ok (.getfield 19, 3) := by decide +kernel
theorem dX7_save_25 : decode cX7_save 25 = .ok (.iload_n 1, 1) := by decide +kernel
theorem dX7_save_26 : decode cX7_save 26 = .ok (.sipush 470, 3) := by decide +kernel
theorem dX7_save_29 : decode cX7_save 29 = .ok (.imul, 1) := by decide +kernel
theorem dX7_save_30 : decode cX7_save 30 = .ok (.iload_n 2, 1) := by decide +kernel
theorem dX7_save_31 : decode cX7_save 31 = .ok (.iadd, 1) := by decide +kernel
theorem dX7_save_32 : decode cX7_save 32 = .ok (.aload_n 0, 1) := by decide +kernel
theorem dX7_save_33 : decode cX7_save 33 = .ok (.getfield 7, 3) := by decide +kernel
theorem dX7_save_36 : decode cX7_save 36 = .ok (.iload_n 2, 1) := by decide +kernel
theorem dX7_save_37 : decode cX7_save 37 = .ok (.iaload, 1) := by decide +kernel
theorem dX7_save_38 : decode cX7_save 38 = .ok (.iastore, 1) := by decide +kernel
theorem dX7_save_39 : decode cX7_save 39 = .ok (.iinc 2 1, 3) := by decide +kernel
theorem dX7_save_42 : decode cX7_save 42 = .ok (.goto (-28), 3) := by decide +kernel
theorem dX7_save_45 : decode cX7_save 45 = .ok (.aload_n 0, 1) := by decide +kernel
theorem dX7_save_46 : decode cX7_save 46 = .ok (.getfield 22, 3) := by decide +kernel
theorem dX7_save_49 : decode cX7_save 49 = .ok (.iload_n 1, 1) := by decide +kernel
theorem dX7_save_50 : decode cX7_save 50 = .ok (.iconst 1, 1) := by decide +kernel
theorem dX7_save_51 : decode cX7_save 51 = .ok (.bastore, 1) := by decide +kernel
theorem dX7_save_52 : decode cX7_save 52 = .ok (.aload_n 0, 1) := by decide +kernel
theorem dX7_save_53 : decode cX7_save 53 = .ok (.getfield 7, 3) := by decide +kernel
theorem dX7_save_56 : decode cX7_save 56 = .ok (.iconst 2, 1) := by decide +kernel
theorem dX7_save_57 : decode cX7_save 57 = .ok (.iaload, 1) := by decide +kernel
theorem dX7_save_58 : decode cX7_save 58 = .ok (.ireturn, 1) := by decide +kernel
theorem dX7_restore_0 : decode cX7_restore 0 = .ok (.iload_n 1, 1) := by decide +kernel
theorem dX7_restore_1 : decode cX7_restore 1 = .ok (.iconst 0, 1) := by decide +kernel
theorem dX7_restore_2 : decode cX7_restore 2 = .ok (.iconst 1, 1) := by decide +kernel
theorem dX7_restore_3 : decode cX7_restore 3 = .ok (.invokestatic 54, 3) := by decide +kernel
theorem dX7_restore_6 : decode cX7_restore 6 = .ok (.ifCond .ne 6, 3) := by decide +kernel
theorem dX7_restore_9 : decode cX7_restore 9 = .ok (.bipush (-2), 2) := by decide +kernel
theorem dX7_restore_11 : decode cX7_restore 11 = .ok (.ireturn, 1) := by decide +kernel
theorem dX7_restore_12 : decode cX7_restore 12 = .ok (.aload_n 0, 1) := by decide +kernel
theorem dX7_restore_13 : decode cX7_restore 13 = .ok (.getfield 22, 3) := by decide +kernel
theorem dX7_restore_16 : decode cX7_restore 16 = .ok (.iload_n 1, 1) := by decide +kernel
theorem dX7_restore_17 : decode cX7_restore 17 = .ok (.baload, 1) := by decide +kernel
theorem dX7_restore_18 : decode cX7_restore 18 = .ok (.ifCond .ne 6, 3) := by decide +kernel
theorem dX7_restore_21 : decode cX7_restore 21 = .ok (.bipush (-5), 2) := by decide +kernel
theorem dX7_restore_23 : decode cX7_restore 23 = .ok (.ireturn, 1) := by decide +kernel
theorem dX7_restore_24 : decode cX7_restore 24 = .ok (.aload_n 0, 1) := by decide +kernel
theorem dX7_restore_25 : decode cX7_restore 25 = .ok (.invokevirtual 115, 3) := by decide +kernel
theorem dX7_restore_28 : decode cX7_restore 28 = .ok (.iconst 0, 1) := by decide +kernel
theorem dX7_restore_29 : decode cX7_restore 29 = .ok (.istore_n 2, 1) := by decide +kernel
theorem dX7_restore_30 : decode cX7_restore 30 = .ok (.iload_n 2, 1) := by decide +kernel
theorem dX7_restore_31 : decode cX7_restore 31 = .ok (.sipush 470, 3) := by decide +kernel
theorem dX7_restore_34 : decode cX7_restore 34 = .ok (.if_icmp .ge 27, 3) := by decide +kernel
theorem dX7_restore_37 : decode cX7_restore 37 = .ok (.aload_n 0, 1) := by decide +kernel
theorem dX7_restore_38 : decode cX7_restore 38 = .ok (.getfield 7, 3) := by decide +kernel
theorem dX7_restore_41 : decode cX7_restore 41 = .ok (.iload_n 2, 1) := by decide +kernel
theorem dX7_restore_42 : decode cX7_restore 42 = .ok (.aload_n 0, 1) := by decide +kernel
theorem dX7_restore_43 : decode cX7_restore 43 = .ok (.getfield 19, 3) := by decide +kernel
theorem dX7_restore_46 : decode cX7_restore 46 = .ok (.iload_n 1, 1) := by decide +kernel
theorem dX7_restore_47 : decode cX7_restore 47 = .ok (.sipush 470, 3) := by decide +kernel
theorem dX7_restore_50 : decode cX7_restore 50 = .ok (.imul, 1) := by decide +kernel
theorem dX7_restore_51 : decode cX7_restore 51 = .ok (.iload_n 2, 1) := by decide +kernel
theorem dX7_restore_52 : decode cX7_restore 52 = .ok (.iadd, 1) := by decide +kernel
theorem dX7_restore_53 : decode cX7_restore 53 = .ok (.iaload, 1) := by decide +kernel
theorem dX7_restore_54 : decode cX7_restore 54 = .ok (.iastore, 1) := by decide +kernel
theorem dX7_restore_55 : decode cX7_restore 55 = .ok (.iinc 2 1, 3) := by decide +kernel
theorem dX7_restore_58 : decode cX7_restore 58 = .ok (.goto (-28), 3) := by decide +kernel
theorem dX7_restore_61 : decode cX7_restore 61 = .ok (.aload_n 0, 1) := by decide +kernel
theorem dX7_restore_62 : decode cX7_restore 62 = .ok (.getfield 7, 3) := by decide +kernel
theorem dX7_restore_65 : decode cX7_restore 65 = .ok (.iconst 2, 1) := by decide +kernel
theorem dX7_restore_66 : decode cX7_restore 66 = .ok (.iaload, 1) := by decide +kernel
theorem dX7_restore_67 : decode cX7_restore 67 = .ok (.ireturn, 1) := by decide +kernel
theorem dJ9_abs_0f7a4_0 : decode cJ9_abs_0f7a4 0 = .ok (.iload_n 0, 1) := by decide +kernel
theorem dJ9_abs_0f7a4_1 : decode cJ9_abs_0f7a4 1 = .ok (.ifCond .ge 8, 3) := by decide +kernel
theorem dJ9_abs_0f7a4_4 : decode cJ9_abs_0f7a4 4 = .ok (.iload_n 0, 1) := by decide +kernel
theorem dJ9_abs_0f7a4_5 : decode cJ9_abs_0f7a4 5 = .ok (.ineg, 1) := by decide +kernel
theorem dJ9_abs_0f7a4_6 : decode cJ9_abs_0f7a4 6 = .ok (.goto 4, 3) := by decide +kernel
theorem dJ9_abs_0f7a4_9 : decode cJ9_abs_0f7a4 9 = .ok (.iload_n 0, 1) := by decide +kernel
theorem dJ9_abs_0f7a4_10 : decode cJ9_abs_0f7a4 10 = .ok (.ireturn, 1) := by decide +kernel
theorem dJ9_min_7cf53_0 : decode cJ9_min_7cf53 0 = .ok (.iload_n 0, 1) := by decide +kernel
theorem dJ9_min_7cf53_1 : decode cJ9_min_7cf53 1 = .ok (.iload_n 1, 1) := by decide +kernel
theorem dJ9_min_7cf53_2 : decode cJ9_min_7cf53 2 = .ok (.if_icmp .gt 7, 3) := by decide +kernel
theorem dJ9_min_7cf53_5 : decode cJ9_min_7cf53 5 = .ok (.iload_n 0, 1) := by decide +kernel
theorem dJ9_min_7cf53_6 : decode cJ9_min_7cf53 6 = .ok (.goto 4, 3) := by decide +kernel
theorem dJ9_min_7cf53_9 : decode cJ9_min_7cf53 9 = .ok (.iload_n 1, 1) := by decide +kernel
theorem dJ9_min_7cf53_10 : decode cJ9_min_7cf53 10 = .ok (.ireturn, 1) := by decide +kernel
theorem dL_law_0 : decode cL_law 0 = .ok (.new 7, 3) := by decide +kernel
theorem dL_law_3 : decode cL_law 3 = .ok (.dup, 1) := by decide +kernel
theorem dL_law_4 : decode cL_law 4 = .ok (.invokespecial 9, 3) := by decide +kernel
theorem dL_law_7 : decode cL_law 7 = .ok (.astore_n 1, 1) := by decide +kernel
theorem dL_law_8 : decode cL_law 8 = .ok (.new 10, 3) := by decide +kernel
theorem dL_law_11 : decode cL_law 11 = .ok (.dup, 1) := by decide +kernel
theorem dL_law_12 : decode cL_law 12 = .ok (.invokespecial 12, 3) := by decide +kernel
theorem dL_law_15 : decode cL_law 15 = .ok (.astore_n 2, 1) := by decide +kernel
theorem dL_law_16 : decode cL_law 16 = .ok (.iconst 0, 1) := by decide +kernel
theorem dL_law_17 : decode cL_law 17 = .ok (.istore_n 3, 1) := by decide +kernel
theorem dL_law_18 : decode cL_law 18 = .ok (.iload_n 3, 1) := by decide +kernel
theorem dL_law_19 : decode cL_law 19 = .ok (.aload_n 0, 1) := by decide +kernel
theorem dL_law_20 : decode cL_law 20 = .ok (.arraylength, 1) := by decide +kernel
theorem dL_law_21 : decode cL_law 21 = .ok (.bipush 6, 2) := by decide +kernel
theorem dL_law_23 : decode cL_law 23 = .ok (.isub, 1) := by decide +kernel
theorem dL_law_24 : decode cL_law 24 = .ok (.if_icmp .gt 875, 3) := by decide +kernel
theorem dL_law_27 : decode cL_law 27 = .ok (.aload_n 0, 1) := by decide +kernel
theorem dL_law_28 : decode cL_law 28 = .ok (.iload_n 3, 1) := by decide +kernel
theorem dL_law_29 : decode cL_law 29 = .ok (.iaload, 1) := by decide +kernel
theorem dL_law_30 : decode cL_law 30 = .ok (.bipush 31, 2) := by decide +kernel
theorem dL_law_32 : decode cL_law 32 = .ok (.iand, 1) := by decide +kernel
theorem dL_law_33 : decode cL_law 33 = .ok (.tableswitch 860 0 24 #[115, 148, 211, 254, 307, 330, 363, 386, 419, 452, 475, 508, 531, 564, 597, 630, 663, 686, 709, 762, 775, 788, 801, 814, 837], 115) := by decide +kernel
theorem dL_law_148 : decode cL_law 148 = .ok (.aload_n 1, 1) := by decide +kernel
theorem dL_law_149 : decode cL_law 149 = .ok (.aload_n 0, 1) := by decide +kernel
theorem dL_law_150 : decode cL_law 150 = .ok (.iload_n 3, 1) := by decide +kernel
theorem dL_law_151 : decode cL_law 151 = .ok (.iconst 1, 1) := by decide +kernel
theorem dL_law_152 : decode cL_law 152 = .ok (.iadd, 1) := by decide +kernel
theorem dL_law_153 : decode cL_law 153 = .ok (.iaload, 1) := by decide +kernel
theorem dL_law_154 : decode cL_law 154 = .ok (.aload_n 0, 1) := by decide +kernel
theorem dL_law_155 : decode cL_law 155 = .ok (.iload_n 3, 1) := by decide +kernel
theorem dL_law_156 : decode cL_law 156 = .ok (.iconst 2, 1) := by decide +kernel
theorem dL_law_157 : decode cL_law 157 = .ok (.iadd, 1) := by decide +kernel
theorem dL_law_158 : decode cL_law 158 = .ok (.iaload, 1) := by decide +kernel
theorem dL_law_159 : decode cL_law 159 = .ok (.invokevirtual 13, 3) := by decide +kernel
theorem dL_law_162 : decode cL_law 162 = .ok (.aload_n 2, 1) := by decide +kernel
theorem dL_law_163 : decode cL_law 163 = .ok (.aload_n 0, 1) := by decide +kernel
theorem dL_law_164 : decode cL_law 164 = .ok (.iload_n 3, 1) := by decide +kernel
theorem dL_law_165 : decode cL_law 165 = .ok (.iconst 1, 1) := by decide +kernel
theorem dL_law_166 : decode cL_law 166 = .ok (.iadd, 1) := by decide +kernel
theorem dL_law_167 : decode cL_law 167 = .ok (.iaload, 1) := by decide +kernel
theorem dL_law_168 : decode cL_law 168 = .ok (.aload_n 0, 1) := by decide +kernel
theorem dL_law_169 : decode cL_law 169 = .ok (.iload_n 3, 1) := by decide +kernel
theorem dL_law_170 : decode cL_law 170 = .ok (.iconst 2, 1) := by decide +kernel
theorem dL_law_171 : decode cL_law 171 = .ok (.iadd, 1) := by decide +kernel
theorem dL_law_172 : decode cL_law 172 = .ok (.iaload, 1) := by decide +kernel
theorem dL_law_173 : decode cL_law 173 = .ok (.invokevirtual 17, 3) := by decide +kernel
theorem dL_law_176 : decode cL_law 176 = .ok (.if_icmp .eq 717, 3) := by decide +kernel
theorem dL_law_179 : decode cL_law 179 = .ok (.iconst 0, 1) := by decide +kernel
theorem dL_law_180 : decode cL_law 180 = .ok (.ireturn, 1) := by decide +kernel
theorem dL_law_181 : decode cL_law 181 = .ok (.aload_n 1, 1) := by decide +kernel
theorem dL_law_182 : decode cL_law 182 = .ok (.aload_n 0, 1) := by decide +kernel
theorem dL_law_183 : decode cL_law 183 = .ok (.iload_n 3, 1) := by decide +kernel
theorem dL_law_184 : decode cL_law 184 = .ok (.iconst 1, 1) := by decide +kernel
theorem dL_law_185 : decode cL_law 185 = .ok (.iadd, 1) := by decide +kernel
theorem dL_law_186 : decode cL_law 186 = .ok (.iaload, 1) := by decide +kernel
theorem dL_law_187 : decode cL_law 187 = .ok (.aload_n 0, 1) := by decide +kernel
theorem dL_law_188 : decode cL_law 188 = .ok (.iload_n 3, 1) := by decide +kernel
theorem dL_law_189 : decode cL_law 189 = .ok (.iconst 2, 1) := by decide +kernel
theorem dL_law_190 : decode cL_law 190 = .ok (.iadd, 1) := by decide +kernel
theorem dL_law_191 : decode cL_law 191 = .ok (.iaload, 1) := by decide +kernel
theorem dL_law_192 : decode cL_law 192 = .ok (.aload_n 0, 1) := by decide +kernel
theorem dL_law_193 : decode cL_law 193 = .ok (.iload_n 3, 1) := by decide +kernel
theorem dL_law_194 : decode cL_law 194 = .ok (.iconst 3, 1) := by decide +kernel
theorem dL_law_195 : decode cL_law 195 = .ok (.iadd, 1) := by decide +kernel
theorem dL_law_196 : decode cL_law 196 = .ok (.iaload, 1) := by decide +kernel
theorem dL_law_197 : decode cL_law 197 = .ok (.aload_n 0, 1) := by decide +kernel
theorem dL_law_198 : decode cL_law 198 = .ok (.iload_n 3, 1) := by decide +kernel
theorem dL_law_199 : decode cL_law 199 = .ok (.iconst 4, 1) := by decide +kernel
theorem dL_law_200 : decode cL_law 200 = .ok (.iadd, 1) := by decide +kernel
theorem dL_law_201 : decode cL_law 201 = .ok (.iaload, 1) := by decide +kernel
theorem dL_law_202 : decode cL_law 202 = .ok (.aload_n 0, 1) := by decide +kernel
theorem dL_law_203 : decode cL_law 203 = .ok (.iload_n 3, 1) := by decide +kernel
theorem dL_law_204 : decode cL_law 204 = .ok (.iconst 5, 1) := by decide +kernel
theorem dL_law_205 : decode cL_law 205 = .ok (.iadd, 1) := by decide +kernel
theorem dL_law_206 : decode cL_law 206 = .ok (.iaload, 1) := by decide +kernel
theorem dL_law_207 : decode cL_law 207 = .ok (.invokevirtual 18, 3) := by decide +kernel
theorem dL_law_210 : decode cL_law 210 = .ok (.aload_n 2, 1) := by decide +kernel
theorem dL_law_211 : decode cL_law 211 = .ok (.aload_n 0, 1) := by decide +kernel
theorem dL_law_212 : decode cL_law 212 = .ok (.iload_n 3, 1) := by decide +kernel
theorem dL_law_213 : decode cL_law 213 = .ok (.iconst 1, 1) := by decide +kernel
theorem dL_law_214 : decode cL_law 214 = .ok (.iadd, 1) := by decide +kernel
theorem dL_law_215 : decode cL_law 215 = .ok (.iaload, 1) := by decide +kernel
theorem dL_law_216 : decode cL_law 216 = .ok (.aload_n 0, 1) := by decide +kernel
theorem dL_law_217 : decode cL_law 217 = .ok (.iload_n 3, 1) := by decide +kernel
theorem dL_law_218 : decode cL_law 218 = .ok (.iconst 2, 1) := by decide +kernel
theorem dL_law_219 : decode cL_law 219 = .ok (.iadd, 1) := by decide +kernel
theorem dL_law_220 : decode cL_law 220 = .ok (.iaload, 1) := by decide +kernel
theorem dL_law_221 : decode cL_law 221 = .ok (.aload_n 0, 1) := by decide +kernel
theorem dL_law_222 : decode cL_law 222 = .ok (.iload_n 3, 1) := by decide +kernel
theorem dL_law_223 : decode cL_law 223 = .ok (.iconst 3, 1) := by decide +kernel
theorem dL_law_224 : decode cL_law 224 = .ok (.iadd, 1) := by decide +kernel
theorem dL_law_225 : decode cL_law 225 = .ok (.iaload, 1) := by decide +kernel
theorem dL_law_226 : decode cL_law 226 = .ok (.aload_n 0, 1) := by decide +kernel
theorem dL_law_227 : decode cL_law 227 = .ok (.iload_n 3, 1) := by decide +kernel
theorem dL_law_228 : decode cL_law 228 = .ok (.iconst 4, 1) := by decide +kernel
theorem dL_law_229 : decode cL_law 229 = .ok (.iadd, 1) := by decide +kernel
theorem dL_law_230 : decode cL_law 230 = .ok (.iaload, 1) := by decide +kernel
theorem dL_law_231 : decode cL_law 231 = .ok (.aload_n 0, 1) := by decide +kernel
theorem dL_law_232 : decode cL_law 232 = .ok (.iload_n 3, 1) := by decide +kernel
theorem dL_law_233 : decode cL_law 233 = .ok (.iconst 5, 1) := by decide +kernel
theorem dL_law_234 : decode cL_law 234 = .ok (.iadd, 1) := by decide +kernel
theorem dL_law_235 : decode cL_law 235 = .ok (.iaload, 1) := by decide +kernel
theorem dL_law_236 : decode cL_law 236 = .ok (.invokevirtual 22, 3) := by decide +kernel
theorem dL_law_239 : decode cL_law 239 = .ok (.if_icmp .eq 654, 3) := by decide +kernel
theorem dL_law_242 : decode cL_law 242 = .ok (.iconst 0, 1) := by decide +kernel
theorem dL_law_243 : decode cL_law 243 = .ok (.ireturn, 1) := by decide +kernel
theorem dL_law_244 : decode cL_law 244 = .ok (.aload_n 1, 1) := by decide +kernel
theorem dL_law_245 : decode cL_law 245 = .ok (.aload_n 0, 1) := by decide +kernel
theorem dL_law_246 : decode cL_law 246 = .ok (.iload_n 3, 1) := by decide +kernel
theorem dL_law_247 : decode cL_law 247 = .ok (.iconst 1, 1) := by decide +kernel
theorem dL_law_248 : decode cL_law 248 = .ok (.iadd, 1) := by decide +kernel
theorem dL_law_249 : decode cL_law 249 = .ok (.iaload, 1) := by decide +kernel
theorem dL_law_250 : decode cL_law 250 = .ok (.aload_n 0, 1) := by decide +kernel
theorem dL_law_251 : decode cL_law 251 = .ok (.iload_n 3, 1) := by decide +kernel
theorem dL_law_252 : decode cL_law 252 = .ok (.iconst 2, 1) := by decide +kernel
theorem dL_law_253 : decode cL_law 253 = .ok (.iadd, 1) := by decide +kernel
theorem dL_law_254 : decode cL_law 254 = .ok (.iaload, 1) := by decide +kernel
theorem dL_law_255 : decode cL_law 255 = .ok (.aload_n 0, 1) := by decide +kernel
theorem dL_law_256 : decode cL_law 256 = .ok (.iload_n 3, 1) := by decide +kernel
theorem dL_law_257 : decode cL_law 257 = .ok (.iconst 3, 1) := by decide +kernel
theorem dL_law_258 : decode cL_law 258 = .ok (.iadd, 1) := by decide +kernel
theorem dL_law_259 : decode cL_law 259 = .ok (.iaload, 1) := by decide +kernel
theorem dL_law_260 : decode cL_law 260 = .ok (.invokevirtual 23, 3) := by decide +kernel
theorem dL_law_263 : decode cL_law 263 = .ok (.aload_n 2, 1) := by decide +kernel
theorem dL_law_264 : decode cL_law 264 = .ok (.aload_n 0, 1) := by decide +kernel
theorem dL_law_265 : decode cL_law 265 = .ok (.iload_n 3, 1) := by decide +kernel
theorem dL_law_266 : decode cL_law 266 = .ok (.iconst 1, 1) := by decide +kernel
theorem dL_law_267 : decode cL_law 267 = .ok (.iadd, 1) := by decide +kernel
theorem dL_law_268 : decode cL_law 268 = .ok (.iaload, 1) := by decide +kernel
theorem dL_law_269 : decode cL_law 269 = .ok (.aload_n 0, 1) := by decide +kernel
theorem dL_law_270 : decode cL_law 270 = .ok (.iload_n 3, 1) := by decide +kernel
theorem dL_law_271 : decode cL_law 271 = .ok (.iconst 2, 1) := by decide +kernel
theorem dL_law_272 : decode cL_law 272 = .ok (.iadd, 1) := by decide +kernel
theorem dL_law_273 : decode cL_law 273 = .ok (.iaload, 1) := by decide +kernel
theorem dL_law_274 : decode cL_law 274 = .ok (.aload_n 0, 1) := by decide +kernel
theorem dL_law_275 : decode cL_law 275 = .ok (.iload_n 3, 1) := by decide +kernel
theorem dL_law_276 : decode cL_law 276 = .ok (.iconst 3, 1) := by decide +kernel
theorem dL_law_277 : decode cL_law 277 = .ok (.iadd, 1) := by decide +kernel
theorem dL_law_278 : decode cL_law 278 = .ok (.iaload, 1) := by decide +kernel
theorem dL_law_279 : decode cL_law 279 = .ok (.invokevirtual 27, 3) := by decide +kernel
theorem dL_law_282 : decode cL_law 282 = .ok (.if_icmp .eq 611, 3) := by decide +kernel
theorem dL_law_285 : decode cL_law 285 = .ok (.iconst 0, 1) := by decide +kernel
theorem dL_law_286 : decode cL_law 286 = .ok (.ireturn, 1) := by decide +kernel
theorem dL_law_287 : decode cL_law 287 = .ok (.aload_n 1, 1) := by decide +kernel
theorem dL_law_288 : decode cL_law 288 = .ok (.aload_n 0, 1) := by decide +kernel
theorem dL_law_289 : decode cL_law 289 = .ok (.iload_n 3, 1) := by decide +kernel
theorem dL_law_290 : decode cL_law 290 = .ok (.iconst 1, 1) := by decide +kernel
theorem dL_law_291 : decode cL_law 291 = .ok (.iadd, 1) := by decide +kernel
theorem dL_law_292 : decode cL_law 292 = .ok (.iaload, 1) := by decide +kernel
theorem dL_law_293 : decode cL_law 293 = .ok (.aload_n 0, 1) := by decide +kernel
theorem dL_law_294 : decode cL_law 294 = .ok (.iload_n 3, 1) := by decide +kernel
theorem dL_law_295 : decode cL_law 295 = .ok (.iconst 2, 1) := by decide +kernel
theorem dL_law_296 : decode cL_law 296 = .ok (.iadd, 1) := by decide +kernel
theorem dL_law_297 : decode cL_law 297 = .ok (.iaload, 1) := by decide +kernel
theorem dL_law_298 : decode cL_law 298 = .ok (.aload_n 0, 1) := by decide +kernel
theorem dL_law_299 : decode cL_law 299 = .ok (.iload_n 3, 1) := by decide +kernel
theorem dL_law_300 : decode cL_law 300 = .ok (.iconst 3, 1) := by decide +kernel
theorem dL_law_301 : decode cL_law 301 = .ok (.iadd, 1) := by decide +kernel
theorem dL_law_302 : decode cL_law 302 = .ok (.iaload, 1) := by decide +kernel
theorem dL_law_303 : decode cL_law 303 = .ok (.aload_n 0, 1) := by decide +kernel
theorem dL_law_304 : decode cL_law 304 = .ok (.iload_n 3, 1) := by decide +kernel
theorem dL_law_305 : decode cL_law 305 = .ok (.iconst 4, 1) := by decide +kernel
theorem dL_law_306 : decode cL_law 306 = .ok (.iadd, 1) := by decide +kernel
theorem dL_law_307 : decode cL_law 307 = .ok (.iaload, 1) := by decide +kernel
theorem dL_law_308 : decode cL_law 308 = .ok (.invokevirtual 28, 3) := by decide +kernel
theorem dL_law_311 : decode cL_law 311 = .ok (.aload_n 2, 1) := by decide +kernel
theorem dL_law_312 : decode cL_law 312 = .ok (.aload_n 0, 1) := by decide +kernel
theorem dL_law_313 : decode cL_law 313 = .ok (.iload_n 3, 1) := by decide +kernel
theorem dL_law_314 : decode cL_law 314 = .ok (.iconst 1, 1) := by decide +kernel
theorem dL_law_315 : decode cL_law 315 = .ok (.iadd, 1) := by decide +kernel
theorem dL_law_316 : decode cL_law 316 = .ok (.iaload, 1) := by decide +kernel
theorem dL_law_317 : decode cL_law 317 = .ok (.aload_n 0, 1) := by decide +kernel
theorem dL_law_318 : decode cL_law 318 = .ok (.iload_n 3, 1) := by decide +kernel
theorem dL_law_319 : decode cL_law 319 = .ok (.iconst 2, 1) := by decide +kernel
theorem dL_law_320 : decode cL_law 320 = .ok (.iadd, 1) := by decide +kernel
theorem dL_law_321 : decode cL_law 321 = .ok (.iaload, 1) := by decide +kernel
theorem dL_law_322 : decode cL_law 322 = .ok (.aload_n 0, 1) := by decide +kernel
theorem dL_law_323 : decode cL_law 323 = .ok (.iload_n 3, 1) := by decide +kernel
theorem dL_law_324 : decode cL_law 324 = .ok (.iconst 3, 1) := by decide +kernel
theorem dL_law_325 : decode cL_law 325 = .ok (.iadd, 1) := by decide +kernel
theorem dL_law_326 : decode cL_law 326 = .ok (.iaload, 1) := by decide +kernel
theorem dL_law_327 : decode cL_law 327 = .ok (.aload_n 0, 1) := by decide +kernel
theorem dL_law_328 : decode cL_law 328 = .ok (.iload_n 3, 1) := by decide +kernel
theorem dL_law_329 : decode cL_law 329 = .ok (.iconst 4, 1) := by decide +kernel
theorem dL_law_330 : decode cL_law 330 = .ok (.iadd, 1) := by decide +kernel
theorem dL_law_331 : decode cL_law 331 = .ok (.iaload, 1) := by decide +kernel
theorem dL_law_332 : decode cL_law 332 = .ok (.invokevirtual 32, 3) := by decide +kernel
theorem dL_law_335 : decode cL_law 335 = .ok (.if_icmp .eq 558, 3) := by decide +kernel
theorem dL_law_338 : decode cL_law 338 = .ok (.iconst 0, 1) := by decide +kernel
theorem dL_law_339 : decode cL_law 339 = .ok (.ireturn, 1) := by decide +kernel
theorem dL_law_340 : decode cL_law 340 = .ok (.aload_n 1, 1) := by decide +kernel
theorem dL_law_341 : decode cL_law 341 = .ok (.aload_n 0, 1) := by decide +kernel
theorem dL_law_342 : decode cL_law 342 = .ok (.iload_n 3, 1) := by decide +kernel
theorem dL_law_343 : decode cL_law 343 = .ok (.iconst 1, 1) := by decide +kernel
theorem dL_law_344 : decode cL_law 344 = .ok (.iadd, 1) := by decide +kernel
theorem dL_law_345 : decode cL_law 345 = .ok (.iaload, 1) := by decide +kernel
theorem dL_law_346 : decode cL_law 346 = .ok (.invokevirtual 33, 3) := by decide +kernel
theorem dL_law_349 : decode cL_law 349 = .ok (.aload_n 2, 1) := by decide +kernel
theorem dL_law_350 : decode cL_law 350 = .ok (.aload_n 0, 1) := by decide +kernel
theorem dL_law_351 : decode cL_law 351 = .ok (.iload_n 3, 1) := by decide +kernel
theorem dL_law_352 : decode cL_law 352 = .ok (.iconst 1, 1) := by decide +kernel
theorem dL_law_353 : decode cL_law 353 = .ok (.iadd, 1) := by decide +kernel
theorem dL_law_354 : decode cL_law 354 = .ok (.iaload, 1) := by decide +kernel
theorem dL_law_355 : decode cL_law 355 = .ok (.invokevirtual 37, 3) := by decide +kernel
theorem dL_law_358 : decode cL_law 358 = .ok (.if_icmp .eq 535, 3) := by decide +kernel
theorem dL_law_361 : decode cL_law 361 = .ok (.iconst 0, 1) := by decide +kernel
theorem dL_law_362 : decode cL_law 362 = .ok (.ireturn, 1) := by decide +kernel
theorem dL_law_363 : decode cL_law 363 = .ok (.aload_n 1, 1) := by decide +kernel
theorem dL_law_364 : decode cL_law 364 = .ok (.aload_n 0, 1) := by decide +kernel
theorem dL_law_365 : decode cL_law 365 = .ok (.iload_n 3, 1) := by decide +kernel
theorem dL_law_366 : decode cL_law 366 = .ok (.iconst 1, 1) := by decide +kernel
theorem dL_law_367 : decode cL_law 367 = .ok (.iadd, 1) := by decide +kernel
theorem dL_law_368 : decode cL_law 368 = .ok (.iaload, 1) := by decide +kernel
theorem dL_law_369 : decode cL_law 369 = .ok (.aload_n 0, 1) := by decide +kernel
theorem dL_law_370 : decode cL_law 370 = .ok (.iload_n 3, 1) := by decide +kernel
theorem dL_law_371 : decode cL_law 371 = .ok (.iconst 2, 1) := by decide +kernel
theorem dL_law_372 : decode cL_law 372 = .ok (.iadd, 1) := by decide +kernel
theorem dL_law_373 : decode cL_law 373 = .ok (.iaload, 1) := by decide +kernel
theorem dL_law_374 : decode cL_law 374 = .ok (.invokevirtual 38, 3) := by decide +kernel
theorem dL_law_377 : decode cL_law 377 = .ok (.aload_n 2, 1) := by decide +kernel
theorem dL_law_378 : decode cL_law 378 = .ok (.aload_n 0, 1) := by decide +kernel
theorem dL_law_379 : decode cL_law 379 = .ok (.iload_n 3, 1) := by decide +kernel
theorem dL_law_380 : decode cL_law 380 = .ok (.iconst 1, 1) := by decide +kernel
theorem dL_law_381 : decode cL_law 381 = .ok (.iadd, 1) := by decide +kernel
theorem dL_law_382 : decode cL_law 382 = .ok (.iaload, 1) := by decide +kernel
theorem dL_law_383 : decode cL_law 383 = .ok (.aload_n 0, 1) := by decide +kernel
theorem dL_law_384 : decode cL_law 384 = .ok (.iload_n 3, 1) := by decide +kernel
theorem dL_law_385 : decode cL_law 385 = .ok (.iconst 2, 1) := by decide +kernel
theorem dL_law_386 : decode cL_law 386 = .ok (.iadd, 1) := by decide +kernel
theorem dL_law_387 : decode cL_law 387 = .ok (.iaload, 1) := by decide +kernel
theorem dL_law_388 : decode cL_law 388 = .ok (.invokevirtual 41, 3) := by decide +kernel
theorem dL_law_391 : decode cL_law 391 = .ok (.if_icmp .eq 502, 3) := by decide +kernel
theorem dL_law_394 : decode cL_law 394 = .ok (.iconst 0, 1) := by decide +kernel
theorem dL_law_395 : decode cL_law 395 = .ok (.ireturn, 1) := by decide +kernel
theorem dL_law_396 : decode cL_law 396 = .ok (.aload_n 1, 1) := by decide +kernel
theorem dL_law_397 : decode cL_law 397 = .ok (.aload_n 0, 1) := by decide +kernel
theorem dL_law_398 : decode cL_law 398 = .ok (.iload_n 3, 1) := by decide +kernel
theorem dL_law_399 : decode cL_law 399 = .ok (.iconst 1, 1) := by decide +kernel
theorem dL_law_400 : decode cL_law 400 = .ok (.iadd, 1) := by decide +kernel
theorem dL_law_401 : decode cL_law 401 = .ok (.iaload, 1) := by decide +kernel
theorem dL_law_402 : decode cL_law 402 = .ok (.invokevirtual 42, 3) := by decide +kernel
theorem dL_law_405 : decode cL_law 405 = .ok (.aload_n 2, 1) := by decide +kernel
theorem dL_law_406 : decode cL_law 406 = .ok (.aload_n 0, 1) := by decide +kernel
theorem dL_law_407 : decode cL_law 407 = .ok (.iload_n 3, 1) := by decide +kernel
theorem dL_law_408 : decode cL_law 408 = .ok (.iconst 1, 1) := by decide +kernel
theorem dL_law_409 : decode cL_law 409 = .ok (.iadd, 1) := by decide +kernel
theorem dL_law_410 : decode cL_law 410 = .ok (.iaload, 1) := by decide +kernel
theorem dL_law_411 : decode cL_law 411 = .ok (.invokevirtual 45, 3) := by decide +kernel
theorem dL_law_414 : decode cL_law 414 = .ok (.if_icmp .eq 479, 3) := by decide +kernel
theorem dL_law_417 : decode cL_law 417 = .ok (.iconst 0, 1) := by decide +kernel
theorem dL_law_418 : decode cL_law 418 = .ok (.ireturn, 1) := by decide +kernel
theorem dL_law_419 : decode cL_law 419 = .ok (.aload_n 1, 1) := by decide +kernel
theorem dL_law_420 : decode cL_law 420 = .ok (.aload_n 0, 1) := by decide +kernel
theorem dL_law_421 : decode cL_law 421 = .ok (.iload_n 3, 1) := by decide +kernel
theorem dL_law_422 : decode cL_law 422 = .ok (.iconst 1, 1) := by decide +kernel
theorem dL_law_423 : decode cL_law 423 = .ok (.iadd, 1) := by decide +kernel
theorem dL_law_424 : decode cL_law 424 = .ok (.iaload, 1) := by decide +kernel
theorem dL_law_425 : decode cL_law 425 = .ok (.aload_n 0, 1) := by decide +kernel
theorem dL_law_426 : decode cL_law 426 = .ok (.iload_n 3, 1) := by decide +kernel
theorem dL_law_427 : decode cL_law 427 = .ok (.iconst 2, 1) := by decide +kernel
theorem dL_law_428 : decode cL_law 428 = .ok (.iadd, 1) := by decide +kernel
theorem dL_law_429 : decode cL_law 429 = .ok (.iaload, 1) := by decide +kernel
theorem dL_law_430 : decode cL_law 430 = .ok (.invokevirtual 46, 3) := by decide +kernel
theorem dL_law_433 : decode cL_law 433 = .ok (.aload_n 2, 1) := by decide +kernel
theorem dL_law_434 : decode cL_law 434 = .ok (.aload_n 0, 1) := by decide +kernel
theorem dL_law_435 : decode cL_law 435 = .ok (.iload_n 3, 1) := by decide +kernel
theorem dL_law_436 : decode cL_law 436 = .ok (.iconst 1, 1) := by decide +kernel
theorem dL_law_437 : decode cL_law 437 = .ok (.iadd, 1) := by decide +kernel
theorem dL_law_438 : decode cL_law 438 = .ok (.iaload, 1) := by decide +kernel
theorem dL_law_439 : decode cL_law 439 = .ok (.aload_n 0, 1) := by decide +kernel
theorem dL_law_440 : decode cL_law 440 = .ok (.iload_n 3, 1) := by decide +kernel
theorem dL_law_441 : decode cL_law 441 = .ok (.iconst 2, 1) := by decide +kernel
theorem dL_law_442 : decode cL_law 442 = .ok (.iadd, 1) := by decide +kernel
theorem dL_law_443 : decode cL_law 443 = .ok (.iaload, 1) := by decide +kernel
theorem dL_law_444 : decode cL_law 444 = .ok (.invokevirtual 49, 3) := by decide +kernel
theorem dL_law_447 : decode cL_law 447 = .ok (.if_icmp .eq 446, 3) := by decide +kernel
theorem dL_law_450 : decode cL_law 450 = .ok (.iconst 0, 1) := by decide +kernel
theorem dL_law_451 : decode cL_law 451 = .ok (.ireturn, 1) := by decide +kernel
theorem dL_law_452 : decode cL_law 452 = .ok (.aload_n 1, 1) := by decide +kernel
theorem dL_law_453 : decode cL_law 453 = .ok (.aload_n 0, 1) := by decide +kernel
theorem dL_law_454 : decode cL_law 454 = .ok (.iload_n 3, 1) := by decide +kernel
theorem dL_law_455 : decode cL_law 455 = .ok (.iconst 1, 1) := by decide +kernel
theorem dL_law_456 : decode cL_law 456 = .ok (.iadd, 1) := by decide +kernel
theorem dL_law_457 : decode cL_law 457 = .ok (.iaload, 1) := by decide +kernel
theorem dL_law_458 : decode cL_law 458 = .ok (.aload_n 0, 1) := by decide +kernel
theorem dL_law_459 : decode cL_law 459 = .ok (.iload_n 3, 1) := by decide +kernel
theorem dL_law_460 : decode cL_law 460 = .ok (.iconst 2, 1) := by decide +kernel
theorem dL_law_461 : decode cL_law 461 = .ok (.iadd, 1) := by decide +kernel
theorem dL_law_462 : decode cL_law 462 = .ok (.iaload, 1) := by decide +kernel
theorem dL_law_463 : decode cL_law 463 = .ok (.invokevirtual 50, 3) := by decide +kernel
theorem dL_law_466 : decode cL_law 466 = .ok (.aload_n 2, 1) := by decide +kernel
theorem dL_law_467 : decode cL_law 467 = .ok (.aload_n 0, 1) := by decide +kernel
theorem dL_law_468 : decode cL_law 468 = .ok (.iload_n 3, 1) := by decide +kernel
theorem dL_law_469 : decode cL_law 469 = .ok (.iconst 1, 1) := by decide +kernel
theorem dL_law_470 : decode cL_law 470 = .ok (.iadd, 1) := by decide +kernel
theorem dL_law_471 : decode cL_law 471 = .ok (.iaload, 1) := by decide +kernel
theorem dL_law_472 : decode cL_law 472 = .ok (.aload_n 0, 1) := by decide +kernel
theorem dL_law_473 : decode cL_law 473 = .ok (.iload_n 3, 1) := by decide +kernel
theorem dL_law_474 : decode cL_law 474 = .ok (.iconst 2, 1) := by decide +kernel
theorem dL_law_475 : decode cL_law 475 = .ok (.iadd, 1) := by decide +kernel
theorem dL_law_476 : decode cL_law 476 = .ok (.iaload, 1) := by decide +kernel
theorem dL_law_477 : decode cL_law 477 = .ok (.invokevirtual 53, 3) := by decide +kernel
theorem dL_law_480 : decode cL_law 480 = .ok (.if_icmp .eq 413, 3) := by decide +kernel
theorem dL_law_483 : decode cL_law 483 = .ok (.iconst 0, 1) := by decide +kernel
theorem dL_law_484 : decode cL_law 484 = .ok (.ireturn, 1) := by decide +kernel
theorem dL_law_485 : decode cL_law 485 = .ok (.aload_n 1, 1) := by decide +kernel
theorem dL_law_486 : decode cL_law 486 = .ok (.aload_n 0, 1) := by decide +kernel
theorem dL_law_487 : decode cL_law 487 = .ok (.iload_n 3, 1) := by decide +kernel
theorem dL_law_488 : decode cL_law 488 = .ok (.iconst 1, 1) := by decide +kernel
theorem dL_law_489 : decode cL_law 489 = .ok (.iadd, 1) := by decide +kernel
theorem dL_law_490 : decode cL_law 490 = .ok (.iaload, 1) := by decide +kernel
theorem dL_law_491 : decode cL_law 491 = .ok (.invokevirtual 54, 3) := by decide +kernel
theorem dL_law_494 : decode cL_law 494 = .ok (.aload_n 2, 1) := by decide +kernel
theorem dL_law_495 : decode cL_law 495 = .ok (.aload_n 0, 1) := by decide +kernel
theorem dL_law_496 : decode cL_law 496 = .ok (.iload_n 3, 1) := by decide +kernel
theorem dL_law_497 : decode cL_law 497 = .ok (.iconst 1, 1) := by decide +kernel
theorem dL_law_498 : decode cL_law 498 = .ok (.iadd, 1) := by decide +kernel
theorem dL_law_499 : decode cL_law 499 = .ok (.iaload, 1) := by decide +kernel
theorem dL_law_500 : decode cL_law 500 = .ok (.invokevirtual 57, 3) := by decide +kernel
theorem dL_law_503 : decode cL_law 503 = .ok (.if_icmp .eq 390, 3) := by decide +kernel
theorem dL_law_506 : decode cL_law 506 = .ok (.iconst 0, 1) := by decide +kernel
theorem dL_law_507 : decode cL_law 507 = .ok (.ireturn, 1) := by decide +kernel
theorem dL_law_508 : decode cL_law 508 = .ok (.aload_n 1, 1) := by decide +kernel
theorem dL_law_509 : decode cL_law 509 = .ok (.aload_n 0, 1) := by decide +kernel
theorem dL_law_510 : decode cL_law 510 = .ok (.iload_n 3, 1) := by decide +kernel
theorem dL_law_511 : decode cL_law 511 = .ok (.iconst 1, 1) := by decide +kernel
theorem dL_law_512 : decode cL_law 512 = .ok (.iadd, 1) := by decide +kernel
theorem dL_law_513 : decode cL_law 513 = .ok (.iaload, 1) := by decide +kernel
theorem dL_law_514 : decode cL_law 514 = .ok (.aload_n 0, 1) := by decide +kernel
theorem dL_law_515 : decode cL_law 515 = .ok (.iload_n 3, 1) := by decide +kernel
theorem dL_law_516 : decode cL_law 516 = .ok (.iconst 2, 1) := by decide +kernel
theorem dL_law_517 : decode cL_law 517 = .ok (.iadd, 1) := by decide +kernel
theorem dL_law_518 : decode cL_law 518 = .ok (.iaload, 1) := by decide +kernel
theorem dL_law_519 : decode cL_law 519 = .ok (.invokevirtual 58, 3) := by decide +kernel
theorem dL_law_522 : decode cL_law 522 = .ok (.aload_n 2, 1) := by decide +kernel
theorem dL_law_523 : decode cL_law 523 = .ok (.aload_n 0, 1) := by decide +kernel
theorem dL_law_524 : decode cL_law 524 = .ok (.iload_n 3, 1) := by decide +kernel
theorem dL_law_525 : decode cL_law 525 = .ok (.iconst 1, 1) := by decide +kernel
theorem dL_law_526 : decode cL_law 526 = .ok (.iadd, 1) := by decide +kernel
theorem dL_law_527 : decode cL_law 527 = .ok (.iaload, 1) := by decide +kernel
theorem dL_law_528 : decode cL_law 528 = .ok (.aload_n 0, 1) := by decide +kernel
theorem dL_law_529 : decode cL_law 529 = .ok (.iload_n 3, 1) := by decide +kernel
theorem dL_law_530 : decode cL_law 530 = .ok (.iconst 2, 1) := by decide +kernel
theorem dL_law_531 : decode cL_law 531 = .ok (.iadd, 1) := by decide +kernel
theorem dL_law_532 : decode cL_law 532 = .ok (.iaload, 1) := by decide +kernel
theorem dL_law_533 : decode cL_law 533 = .ok (.invokevirtual 61, 3) := by decide +kernel
theorem dL_law_536 : decode cL_law 536 = .ok (.if_icmp .eq 357, 3) := by decide +kernel
theorem dL_law_539 : decode cL_law 539 = .ok (.iconst 0, 1) := by decide +kernel
theorem dL_law_540 : decode cL_law 540 = .ok (.ireturn, 1) := by decide +kernel
theorem dL_law_541 : decode cL_law 541 = .ok (.aload_n 1, 1) := by decide +kernel
theorem dL_law_542 : decode cL_law 542 = .ok (.aload_n 0, 1) := by decide +kernel
theorem dL_law_543 : decode cL_law 543 = .ok (.iload_n 3, 1) := by decide +kernel
theorem dL_law_544 : decode cL_law 544 = .ok (.iconst 1, 1) := by decide +kernel
theorem dL_law_545 : decode cL_law 545 = .ok (.iadd, 1) := by decide +kernel
theorem dL_law_546 : decode cL_law 546 = .ok (.iaload, 1) := by decide +kernel
theorem dL_law_547 : decode cL_law 547 = .ok (.invokevirtual 62, 3) := by decide +kernel
theorem dL_law_550 : decode cL_law 550 = .ok (.aload_n 2, 1) := by decide +kernel
theorem dL_law_551 : decode cL_law 551 = .ok (.aload_n 0, 1) := by decide +kernel
theorem dL_law_552 : decode cL_law 552 = .ok (.iload_n 3, 1) := by decide +kernel
theorem dL_law_553 : decode cL_law 553 = .ok (.iconst 1, 1) := by decide +kernel
theorem dL_law_554 : decode cL_law 554 = .ok (.iadd, 1) := by decide +kernel
theorem dL_law_555 : decode cL_law 555 = .ok (.iaload, 1) := by decide +kernel
theorem dL_law_556 : decode cL_law 556 = .ok (.invokevirtual 65, 3) := by decide +kernel
theorem dL_law_559 : decode cL_law 559 = .ok (.if_icmp .eq 334, 3) := by decide +kernel
theorem dL_law_562 : decode cL_law 562 = .ok (.iconst 0, 1) := by decide +kernel
theorem dL_law_563 : decode cL_law 563 = .ok (.ireturn, 1) := by decide +kernel
theorem dL_law_564 : decode cL_law 564 = .ok (.aload_n 1, 1) := by decide +kernel
theorem dL_law_565 : decode cL_law 565 = .ok (.aload_n 0, 1) := by decide +kernel
theorem dL_law_566 : decode cL_law 566 = .ok (.iload_n 3, 1) := by decide +kernel
theorem dL_law_567 : decode cL_law 567 = .ok (.iconst 1, 1) := by decide +kernel
theorem dL_law_568 : decode cL_law 568 = .ok (.iadd, 1) := by decide +kernel
theorem dL_law_569 : decode cL_law 569 = .ok (.iaload, 1) := by decide +kernel
theorem dL_law_570 : decode cL_law 570 = .ok (.aload_n 0, 1) := by decide +kernel
theorem dL_law_571 : decode cL_law 571 = .ok (.iload_n 3, 1) := by decide +kernel
theorem dL_law_572 : decode cL_law 572 = .ok (.iconst 2, 1) := by decide +kernel
theorem dL_law_573 : decode cL_law 573 = .ok (.iadd, 1) := by decide +kernel
theorem dL_law_574 : decode cL_law 574 = .ok (.iaload, 1) := by decide +kernel
theorem dL_law_575 : decode cL_law 575 = .ok (.invokevirtual 66, 3) := by decide +kernel
theorem dL_law_578 : decode cL_law 578 = .ok (.aload_n 2, 1) := by decide +kernel
theorem dL_law_579 : decode cL_law 579 = .ok (.aload_n 0, 1) := by decide +kernel
theorem dL_law_580 : decode cL_law 580 = .ok (.iload_n 3, 1) := by decide +kernel
theorem dL_law_581 : decode cL_law 581 = .ok (.iconst 1, 1) := by decide +kernel
theorem dL_law_582 : decode cL_law 582 = .ok (.iadd, 1) := by decide +kernel
theorem dL_law_583 : decode cL_law 583 = .ok (.iaload, 1) := by decide +kernel
theorem dL_law_584 : decode cL_law 584 = .ok (.aload_n 0, 1) := by decide +kernel
theorem dL_law_585 : decode cL_law 585 = .ok (.iload_n 3, 1) := by decide +kernel
theorem dL_law_586 : decode cL_law 586 = .ok (.iconst 2, 1) := by decide +kernel
theorem dL_law_587 : decode cL_law 587 = .ok (.iadd, 1) := by decide +kernel
theorem dL_law_588 : decode cL_law 588 = .ok (.iaload, 1) := by decide +kernel
theorem dL_law_589 : decode cL_law 589 = .ok (.invokevirtual 69, 3) := by decide +kernel
theorem dL_law_592 : decode cL_law 592 = .ok (.if_icmp .eq 301, 3) := by decide +kernel
theorem dL_law_595 : decode cL_law 595 = .ok (.iconst 0, 1) := by decide +kernel
theorem dL_law_596 : decode cL_law 596 = .ok (.ireturn, 1) := by decide +kernel
theorem dL_law_597 : decode cL_law 597 = .ok (.aload_n 1, 1) := by decide +kernel
theorem dL_law_598 : decode cL_law 598 = .ok (.aload_n 0, 1) := by decide +kernel
theorem dL_law_599 : decode cL_law 599 = .ok (.iload_n 3, 1) := by decide +kernel
theorem dL_law_600 : decode cL_law 600 = .ok (.iconst 1, 1) := by decide +kernel
theorem dL_law_601 : decode cL_law 601 = .ok (.iadd, 1) := by decide +kernel
theorem dL_law_602 : decode cL_law 602 = .ok (.iaload, 1) := by decide +kernel
theorem dL_law_603 : decode cL_law 603 = .ok (.aload_n 0, 1) := by decide +kernel
theorem dL_law_604 : decode cL_law 604 = .ok (.iload_n 3, 1) := by decide +kernel
theorem dL_law_605 : decode cL_law 605 = .ok (.iconst 2, 1) := by decide +kernel
theorem dL_law_606 : decode cL_law 606 = .ok (.iadd, 1) := by decide +kernel
theorem dL_law_607 : decode cL_law 607 = .ok (.iaload, 1) := by decide +kernel
theorem dL_law_608 : decode cL_law 608 = .ok (.invokevirtual 70, 3) := by decide +kernel
theorem dL_law_611 : decode cL_law 611 = .ok (.aload_n 2, 1) := by decide +kernel
theorem dL_law_612 : decode cL_law 612 = .ok (.aload_n 0, 1) := by decide +kernel
theorem dL_law_613 : decode cL_law 613 = .ok (.iload_n 3, 1) := by decide +kernel
theorem dL_law_614 : decode cL_law 614 = .ok (.iconst 1, 1) := by decide +kernel
theorem dL_law_615 : decode cL_law 615 = .ok (.iadd, 1) := by decide +kernel
theorem dL_law_616 : decode cL_law 616 = .ok (.iaload, 1) := by decide +kernel
theorem dL_law_617 : decode cL_law 617 = .ok (.aload_n 0, 1) := by decide +kernel
theorem dL_law_618 : decode cL_law 618 = .ok (.iload_n 3, 1) := by decide +kernel
theorem dL_law_619 : decode cL_law 619 = .ok (.iconst 2, 1) := by decide +kernel
theorem dL_law_620 : decode cL_law 620 = .ok (.iadd, 1) := by decide +kernel
theorem dL_law_621 : decode cL_law 621 = .ok (.iaload, 1) := by decide +kernel
theorem dL_law_622 : decode cL_law 622 = .ok (.invokevirtual 73, 3) := by decide +kernel
theorem dL_law_625 : decode cL_law 625 = .ok (.if_icmp .eq 268, 3) := by decide +kernel
theorem dL_law_628 : decode cL_law 628 = .ok (.iconst 0, 1) := by decide +kernel
theorem dL_law_629 : decode cL_law 629 = .ok (.ireturn, 1) := by decide +kernel
theorem dL_law_630 : decode cL_law 630 = .ok (.aload_n 1, 1) := by decide +kernel
theorem dL_law_631 : decode cL_law 631 = .ok (.aload_n 0, 1) := by decide +kernel
theorem dL_law_632 : decode cL_law 632 = .ok (.iload_n 3, 1) := by decide +kernel
theorem dL_law_633 : decode cL_law 633 = .ok (.iconst 1, 1) := by decide +kernel
theorem dL_law_634 : decode cL_law 634 = .ok (.iadd, 1) := by decide +kernel
theorem dL_law_635 : decode cL_law 635 = .ok (.iaload, 1) := by decide +kernel
theorem dL_law_636 : decode cL_law 636 = .ok (.aload_n 0, 1) := by decide +kernel
theorem dL_law_637 : decode cL_law 637 = .ok (.iload_n 3, 1) := by decide +kernel
theorem dL_law_638 : decode cL_law 638 = .ok (.iconst 2, 1) := by decide +kernel
theorem dL_law_639 : decode cL_law 639 = .ok (.iadd, 1) := by decide +kernel
theorem dL_law_640 : decode cL_law 640 = .ok (.iaload, 1) := by decide +kernel
theorem dL_law_641 : decode cL_law 641 = .ok (.invokevirtual 74, 3) := by decide +kernel
theorem dL_law_644 : decode cL_law 644 = .ok (.aload_n 2, 1) := by decide +kernel
theorem dL_law_645 : decode cL_law 645 = .ok (.aload_n 0, 1) := by decide +kernel
theorem dL_law_646 : decode cL_law 646 = .ok (.iload_n 3, 1) := by decide +kernel
theorem dL_law_647 : decode cL_law 647 = .ok (.iconst 1, 1) := by decide +kernel
theorem dL_law_648 : decode cL_law 648 = .ok (.iadd, 1) := by decide +kernel
theorem dL_law_649 : decode cL_law 649 = .ok (.iaload, 1) := by decide +kernel
theorem dL_law_650 : decode cL_law 650 = .ok (.aload_n 0, 1) := by decide +kernel
theorem dL_law_651 : decode cL_law 651 = .ok (.iload_n 3, 1) := by decide +kernel
theorem dL_law_652 : decode cL_law 652 = .ok (.iconst 2, 1) := by decide +kernel
theorem dL_law_653 : decode cL_law 653 = .ok (.iadd, 1) := by decide +kernel
theorem dL_law_654 : decode cL_law 654 = .ok (.iaload, 1) := by decide +kernel
theorem dL_law_655 : decode cL_law 655 = .ok (.invokevirtual 77, 3) := by decide +kernel
theorem dL_law_658 : decode cL_law 658 = .ok (.if_icmp .eq 235, 3) := by decide +kernel
theorem dL_law_661 : decode cL_law 661 = .ok (.iconst 0, 1) := by decide +kernel
theorem dL_law_662 : decode cL_law 662 = .ok (.ireturn, 1) := by decide +kernel
theorem dL_law_663 : decode cL_law 663 = .ok (.aload_n 1, 1) := by decide +kernel
theorem dL_law_664 : decode cL_law 664 = .ok (.aload_n 0, 1) := by decide +kernel
theorem dL_law_665 : decode cL_law 665 = .ok (.iload_n 3, 1) := by decide +kernel
theorem dL_law_666 : decode cL_law 666 = .ok (.iconst 1, 1) := by decide +kernel
theorem dL_law_667 : decode cL_law 667 = .ok (.iadd, 1) := by decide +kernel
theorem dL_law_668 : decode cL_law 668 = .ok (.iaload, 1) := by decide +kernel
theorem dL_law_669 : decode cL_law 669 = .ok (.aload_n 0, 1) := by decide +kernel
theorem dL_law_670 : decode cL_law 670 = .ok (.iload_n 3, 1) := by decide +kernel
theorem dL_law_671 : decode cL_law 671 = .ok (.iconst 2, 1) := by decide +kernel
theorem dL_law_672 : decode cL_law 672 = .ok (.iadd, 1) := by decide +kernel
theorem dL_law_673 : decode cL_law 673 = .ok (.iaload, 1) := by decide +kernel
theorem dL_law_674 : decode cL_law 674 = .ok (.invokevirtual 78, 3) := by decide +kernel
theorem dL_law_677 : decode cL_law 677 = .ok (.aload_n 2, 1) := by decide +kernel
theorem dL_law_678 : decode cL_law 678 = .ok (.aload_n 0, 1) := by decide +kernel
theorem dL_law_679 : decode cL_law 679 = .ok (.iload_n 3, 1) := by decide +kernel
theorem dL_law_680 : decode cL_law 680 = .ok (.iconst 1, 1) := by decide +kernel
theorem dL_law_681 : decode cL_law 681 = .ok (.iadd, 1) := by decide +kernel
theorem dL_law_682 : decode cL_law 682 = .ok (.iaload, 1) := by decide +kernel
theorem dL_law_683 : decode cL_law 683 = .ok (.aload_n 0, 1) := by decide +kernel
theorem dL_law_684 : decode cL_law 684 = .ok (.iload_n 3, 1) := by decide +kernel
theorem dL_law_685 : decode cL_law 685 = .ok (.iconst 2, 1) := by decide +kernel
theorem dL_law_686 : decode cL_law 686 = .ok (.iadd, 1) := by decide +kernel
theorem dL_law_687 : decode cL_law 687 = .ok (.iaload, 1) := by decide +kernel
theorem dL_law_688 : decode cL_law 688 = .ok (.invokevirtual 81, 3) := by decide +kernel
theorem dL_law_691 : decode cL_law 691 = .ok (.if_icmp .eq 202, 3) := by decide +kernel
theorem dL_law_694 : decode cL_law 694 = .ok (.iconst 0, 1) := by decide +kernel
theorem dL_law_695 : decode cL_law 695 = .ok (.ireturn, 1) := by decide +kernel
theorem dL_law_696 : decode cL_law 696 = .ok (.aload_n 1, 1) := by decide +kernel
theorem dL_law_697 : decode cL_law 697 = .ok (.aload_n 0, 1) := by decide +kernel
theorem dL_law_698 : decode cL_law 698 = .ok (.iload_n 3, 1) := by decide +kernel
theorem dL_law_699 : decode cL_law 699 = .ok (.iconst 1, 1) := by decide +kernel
theorem dL_law_700 : decode cL_law 700 = .ok (.iadd, 1) := by decide +kernel
theorem dL_law_701 : decode cL_law 701 = .ok (.iaload, 1) := by decide +kernel
theorem dL_law_702 : decode cL_law 702 = .ok (.invokevirtual 82, 3) := by decide +kernel
theorem dL_law_705 : decode cL_law 705 = .ok (.aload_n 2, 1) := by decide +kernel
theorem dL_law_706 : decode cL_law 706 = .ok (.aload_n 0, 1) := by decide +kernel
theorem dL_law_707 : decode cL_law 707 = .ok (.iload_n 3, 1) := by decide +kernel
theorem dL_law_708 : decode cL_law 708 = .ok (.iconst 1, 1) := by decide +kernel
theorem dL_law_709 : decode cL_law 709 = .ok (.iadd, 1) := by decide +kernel
theorem dL_law_710 : decode cL_law 710 = .ok (.iaload, 1) := by decide +kernel
theorem dL_law_711 : decode cL_law 711 = .ok (.invokevirtual 85, 3) := by decide +kernel
theorem dL_law_714 : decode cL_law 714 = .ok (.if_icmp .eq 179, 3) := by decide +kernel
theorem dL_law_717 : decode cL_law 717 = .ok (.iconst 0, 1) := by decide +kernel
theorem dL_law_718 : decode cL_law 718 = .ok (.ireturn, 1) := by decide +kernel
theorem dL_law_719 : decode cL_law 719 = .ok (.aload_n 1, 1) := by decide +kernel
theorem dL_law_720 : decode cL_law 720 = .ok (.aload_n 0, 1) := by decide +kernel
theorem dL_law_721 : decode cL_law 721 = .ok (.iload_n 3, 1) := by decide +kernel
theorem dL_law_722 : decode cL_law 722 = .ok (.iconst 1, 1) := by decide +kernel
theorem dL_law_723 : decode cL_law 723 = .ok (.iadd, 1) := by decide +kernel
theorem dL_law_724 : decode cL_law 724 = .ok (.iaload, 1) := by decide +kernel
theorem dL_law_725 : decode cL_law 725 = .ok (.invokevirtual 86, 3) := by decide +kernel
theorem dL_law_728 : decode cL_law 728 = .ok (.aload_n 2, 1) := by decide +kernel
theorem dL_law_729 : decode cL_law 729 = .ok (.aload_n 0, 1) := by decide +kernel
theorem dL_law_730 : decode cL_law 730 = .ok (.iload_n 3, 1) := by decide +kernel
theorem dL_law_731 : decode cL_law 731 = .ok (.iconst 1, 1) := by decide +kernel
theorem dL_law_732 : decode cL_law 732 = .ok (.iadd, 1) := by decide +kernel
theorem dL_law_733 : decode cL_law 733 = .ok (.iaload, 1) := by decide +kernel
theorem dL_law_734 : decode cL_law 734 = .ok (.invokevirtual 89, 3) := by decide +kernel
theorem dL_law_737 : decode cL_law 737 = .ok (.if_icmp .eq 156, 3) := by decide +kernel
theorem dL_law_740 : decode cL_law 740 = .ok (.iconst 0, 1) := by decide +kernel
theorem dL_law_741 : decode cL_law 741 = .ok (.ireturn, 1) := by decide +kernel
theorem dL_law_742 : decode cL_law 742 = .ok (.aload_n 1, 1) := by decide +kernel
theorem dL_law_743 : decode cL_law 743 = .ok (.aload_n 0, 1) := by decide +kernel
theorem dL_law_744 : decode cL_law 744 = .ok (.iload_n 3, 1) := by decide +kernel
theorem dL_law_745 : decode cL_law 745 = .ok (.iconst 1, 1) := by decide +kernel
theorem dL_law_746 : decode cL_law 746 = .ok (.iadd, 1) := by decide +kernel
theorem dL_law_747 : decode cL_law 747 = .ok (.iaload, 1) := by decide +kernel
theorem dL_law_748 : decode cL_law 748 = .ok (.i2l, 1) := by decide +kernel
theorem dL_law_749 : decode cL_law 749 = .ok (.bipush 32, 2) := by decide +kernel
theorem dL_law_751 : decode cL_law 751 = .ok (.lshl, 1) := by decide +kernel
theorem dL_law_752 : decode cL_law 752 = .ok (.aload_n 0, 1) := by decide +kernel
theorem dL_law_753 : decode cL_law 753 = .ok (.iload_n 3, 1) := by decide +kernel
theorem dL_law_754 : decode cL_law 754 = .ok (.iconst 2, 1) := by decide +kernel
theorem dL_law_755 : decode cL_law 755 = .ok (.iadd, 1) := by decide +kernel
theorem dL_law_756 : decode cL_law 756 = .ok (.iaload, 1) := by decide +kernel
theorem dL_law_757 : decode cL_law 757 = .ok (.i2l, 1) := by decide +kernel
theorem dL_law_758 : decode cL_law 758 = .ok (.ldc2_w 90, 3) := by decide +kernel
theorem dL_law_761 : decode cL_law 761 = .ok (.land, 1) := by decide +kernel
theorem dL_law_762 : decode cL_law 762 = .ok (.lor, 1) := by decide +kernel
theorem dL_law_763 : decode cL_law 763 = .ok (.invokevirtual 92, 3) := by decide +kernel
theorem dL_law_766 : decode cL_law 766 = .ok (.aload_n 2, 1) := by decide +kernel
theorem dL_law_767 : decode cL_law 767 = .ok (.aload_n 0, 1) := by decide +kernel
theorem dL_law_768 : decode cL_law 768 = .ok (.iload_n 3, 1) := by decide +kernel
theorem dL_law_769 : decode cL_law 769 = .ok (.iconst 1, 1) := by decide +kernel
theorem dL_law_770 : decode cL_law 770 = .ok (.iadd, 1) := by decide +kernel
theorem dL_law_771 : decode cL_law 771 = .ok (.iaload, 1) := by decide +kernel
theorem dL_law_772 : decode cL_law 772 = .ok (.i2l, 1) := by decide +kernel
theorem dL_law_773 : decode cL_law 773 = .ok (.bipush 32, 2) := by decide +kernel
theorem dL_law_775 : decode cL_law 775 = .ok (.lshl, 1) := by decide +kernel
theorem dL_law_776 : decode cL_law 776 = .ok (.aload_n 0, 1) := by decide +kernel
theorem dL_law_777 : decode cL_law 777 = .ok (.iload_n 3, 1) := by decide +kernel
theorem dL_law_778 : decode cL_law 778 = .ok (.iconst 2, 1) := by decide +kernel
theorem dL_law_779 : decode cL_law 779 = .ok (.iadd, 1) := by decide +kernel
theorem dL_law_780 : decode cL_law 780 = .ok (.iaload, 1) := by decide +kernel
theorem dL_law_781 : decode cL_law 781 = .ok (.i2l, 1) := by decide +kernel
theorem dL_law_782 : decode cL_law 782 = .ok (.ldc2_w 90, 3) := by decide +kernel
theorem dL_law_785 : decode cL_law 785 = .ok (.land, 1) := by decide +kernel
theorem dL_law_786 : decode cL_law 786 = .ok (.lor, 1) := by decide +kernel
theorem dL_law_787 : decode cL_law 787 = .ok (.invokevirtual 96, 3) := by decide +kernel
theorem dL_law_790 : decode cL_law 790 = .ok (.if_icmp .eq 103, 3) := by decide +kernel
theorem dL_law_793 : decode cL_law 793 = .ok (.iconst 0, 1) := by decide +kernel
theorem dL_law_794 : decode cL_law 794 = .ok (.ireturn, 1) := by decide +kernel
theorem dL_law_795 : decode cL_law 795 = .ok (.aload_n 1, 1) := by decide +kernel
theorem dL_law_796 : decode cL_law 796 = .ok (.invokevirtual 97, 3) := by decide +kernel
theorem dL_law_799 : decode cL_law 799 = .ok (.aload_n 2, 1) := by decide +kernel
theorem dL_law_800 : decode cL_law 800 = .ok (.invokevirtual 101, 3) := by decide +kernel
theorem dL_law_803 : decode cL_law 803 = .ok (.if_icmp .eq 90, 3) := by decide +kernel
theorem dL_law_806 : decode cL_law 806 = .ok (.iconst 0, 1) := by decide +kernel
theorem dL_law_807 : decode cL_law 807 = .ok (.ireturn, 1) := by decide +kernel
theorem dL_law_808 : decode cL_law 808 = .ok (.aload_n 1, 1) := by decide +kernel
theorem dL_law_809 : decode cL_law 809 = .ok (.invokevirtual 102, 3) := by decide +kernel
theorem dL_law_812 : decode cL_law 812 = .ok (.aload_n 2, 1) := by decide +kernel
theorem dL_law_813 : decode cL_law 813 = .ok (.invokevirtual 105, 3) := by decide +kernel
theorem dL_law_816 : decode cL_law 816 = .ok (.if_icmp .eq 77, 3) := by decide +kernel
theorem dL_law_819 : decode cL_law 819 = .ok (.iconst 0, 1) := by decide +kernel
theorem dL_law_820 : decode cL_law 820 = .ok (.ireturn, 1) := by decide +kernel
theorem dL_law_821 : decode cL_law 821 = .ok (.aload_n 1, 1) := by decide +kernel
theorem dL_law_822 : decode cL_law 822 = .ok (.invokevirtual 106, 3) := by decide +kernel
theorem dL_law_825 : decode cL_law 825 = .ok (.aload_n 2, 1) := by decide +kernel
theorem dL_law_826 : decode cL_law 826 = .ok (.invokevirtual 109, 3) := by decide +kernel
theorem dL_law_829 : decode cL_law 829 = .ok (.if_icmp .eq 64, 3) := by decide +kernel
theorem dL_law_832 : decode cL_law 832 = .ok (.iconst 0, 1) := by decide +kernel
theorem dL_law_833 : decode cL_law 833 = .ok (.ireturn, 1) := by decide +kernel
theorem dL_law_834 : decode cL_law 834 = .ok (.aload_n 1, 1) := by decide +kernel
theorem dL_law_835 : decode cL_law 835 = .ok (.invokevirtual 110, 3) := by decide +kernel
theorem dL_law_838 : decode cL_law 838 = .ok (.aload_n 2, 1) := by decide +kernel
theorem dL_law_839 : decode cL_law 839 = .ok (.invokevirtual 113, 3) := by decide +kernel
theorem dL_law_842 : decode cL_law 842 = .ok (.if_icmp .eq 51, 3) := by decide +kernel
theorem dL_law_845 : decode cL_law 845 = .ok (.iconst 0, 1) := by decide +kernel
theorem dL_law_846 : decode cL_law 846 = .ok (.ireturn, 1) := by decide +kernel
theorem dL_law_847 : decode cL_law 847 = .ok (.aload_n 1, 1) := by decide +kernel
theorem dL_law_848 : decode cL_law 848 = .ok (.aload_n 0, 1) := by decide +kernel
theorem dL_law_849 : decode cL_law 849 = .ok (.iload_n 3, 1) := by decide +kernel
theorem dL_law_850 : decode cL_law 850 = .ok (.iconst 1, 1) := by decide +kernel
theorem dL_law_851 : decode cL_law 851 = .ok (.iadd, 1) := by decide +kernel
theorem dL_law_852 : decode cL_law 852 = .ok (.iaload, 1) := by decide +kernel
theorem dL_law_853 : decode cL_law 853 = .ok (.invokevirtual 114, 3) := by decide +kernel
theorem dL_law_856 : decode cL_law 856 = .ok (.aload_n 2, 1) := by decide +kernel
theorem dL_law_857 : decode cL_law 857 = .ok (.aload_n 0, 1) := by decide +kernel
theorem dL_law_858 : decode cL_law 858 = .ok (.iload_n 3, 1) := by decide +kernel
theorem dL_law_859 : decode cL_law 859 = .ok (.iconst 1, 1) := by decide +kernel
theorem dL_law_860 : decode cL_law 860 = .ok (.iadd, 1) := by decide +kernel
theorem dL_law_861 : decode cL_law 861 = .ok (.iaload, 1) := by decide +kernel
theorem dL_law_862 : decode cL_law 862 = .ok (.invokevirtual 117, 3) := by decide +kernel
theorem dL_law_865 : decode cL_law 865 = .ok (.if_icmp .eq 28, 3) := by decide +kernel
theorem dL_law_868 : decode cL_law 868 = .ok (.iconst 0, 1) := by decide +kernel
theorem dL_law_869 : decode cL_law 869 = .ok (.ireturn, 1) := by decide +kernel
theorem dL_law_870 : decode cL_law 870 = .ok (.aload_n 1, 1) := by decide +kernel
theorem dL_law_871 : decode cL_law 871 = .ok (.aload_n 0, 1) := by decide +kernel
theorem dL_law_872 : decode cL_law 872 = .ok (.iload_n 3, 1) := by decide +kernel
theorem dL_law_873 : decode cL_law 873 = .ok (.iconst 1, 1) := by decide +kernel
theorem dL_law_874 : decode cL_law 874 = .ok (.iadd, 1) := by decide +kernel
theorem dL_law_875 : decode cL_law 875 = .ok (.iaload, 1) := by decide +kernel
theorem dL_law_876 : decode cL_law 876 = .ok (.invokevirtual 118, 3) := by decide +kernel
theorem dL_law_879 : decode cL_law 879 = .ok (.aload_n 2, 1) := by decide +kernel
theorem dL_law_880 : decode cL_law 880 = .ok (.aload_n 0, 1) := by decide +kernel
theorem dL_law_881 : decode cL_law 881 = .ok (.iload_n 3, 1) := by decide +kernel
theorem dL_law_882 : decode cL_law 882 = .ok (.iconst 1, 1) := by decide +kernel
theorem dL_law_883 : decode cL_law 883 = .ok (.iadd, 1) := by decide +kernel
theorem dL_law_884 : decode cL_law 884 = .ok (.iaload, 1) := by decide +kernel
theorem dL_law_885 : decode cL_law 885 = .ok (.invokevirtual 121, 3) := by decide +kernel
theorem dL_law_888 : decode cL_law 888 = .ok (.if_icmp .eq 5, 3) := by decide +kernel
theorem dL_law_891 : decode cL_law 891 = .ok (.iconst 0, 1) := by decide +kernel
theorem dL_law_892 : decode cL_law 892 = .ok (.ireturn, 1) := by decide +kernel
theorem dL_law_893 : decode cL_law 893 = .ok (.iinc 3 6, 3) := by decide +kernel
theorem dL_law_896 : decode cL_law 896 = .ok (.goto (-878), 3) := by decide +kernel
theorem dL_law_899 : decode cL_law 899 = .ok (.iconst 1, 1) := by decide +kernel
theorem dL_law_900 : decode cL_law 900 = .ok (.ireturn, 1) := by decide +kernel
