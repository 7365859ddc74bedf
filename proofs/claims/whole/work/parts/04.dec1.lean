theorem dX0_init_0 : decode cX0_init 0 = .ok (.aload_n 0, 1) := by decide +kernel
theorem dX0_init_1 : decode cX0_init 1 = .ok (.invokespecial 3, 3) := by decide +kernel
theorem dX0_init_4 : decode cX0_init 4 = .ok (.aload_n 0, 1) := by decide +kernel
theorem dX0_init_5 : decode cX0_init 5 = .ok (.bipush 14, 2) := by decide +kernel
theorem dX0_init_7 : decode cX0_init 7 = .ok (.newarray .int, 2) := by decide +kernel
theorem dX0_init_9 : decode cX0_init 9 = .ok (.putfield 9, 3) := by decide +kernel
theorem dX0_init_12 : decode cX0_init 12 = .ok (.aload_n 0, 1) := by decide +kernel
theorem dX0_init_13 : decode cX0_init 13 = .ok (.bipush 14, 2) := by decide +kernel
theorem dX0_init_15 : decode cX0_init 15 = .ok (.newarray .int, 2) := by decide +kernel
theorem dX0_init_17 : decode cX0_init 17 = .ok (.putfield 15, 3) := by decide +kernel
theorem dX0_init_20 : decode cX0_init 20 = .ok (.aload_n 0, 1) := by decide +kernel
theorem dX0_init_21 : decode cX0_init 21 = .ok (.bipush 14, 2) := by decide +kernel
theorem dX0_init_23 : decode cX0_init 23 = .ok (.newarray .int, 2) := by decide +kernel
theorem dX0_init_25 : decode cX0_init 25 = .ok (.putfield 18, 3) := by decide +kernel
theorem dX0_init_28 : decode cX0_init 28 = .ok (.aload_n 0, 1) := by decide +kernel
theorem dX0_init_29 : decode cX0_init 29 = .ok (.bipush 14, 2) := by decide +kernel
theorem dX0_init_31 : decode cX0_init 31 = .ok (.newarray .int, 2) := by decide +kernel
theorem dX0_init_33 : decode cX0_init 33 = .ok (.putfield 21, 3) := by decide +kernel
theorem dX0_init_36 : decode cX0_init 36 = .ok (.return_, 1) := by decide +kernel
theorem dX0_note_0 : decode cX0_note 0 = .ok (.aload_n 0, 1) := by decide +kernel
theorem dX0_note_1 : decode cX0_note 1 = .ok (.getfield 24, 3) := by decide +kernel
theorem dX0_note_4 : decode cX0_note 4 = .ok (.bipush 14, 2) := by decide +kernel
theorem dX0_note_6 : decode cX0_note 6 = .ok (.if_icmp .lt 7, 3) := by decide +kernel
theorem dX0_note_9 : decode cX0_note 9 = .ok (.aload_n 0, 1) := by decide +kernel
theorem dX0_note_10 : decode cX0_note 10 = .ok (.invokevirtual 28, 3) := by decide +kernel
theorem dX0_note_13 : decode cX0_note 13 = .ok (.aload_n 0, 1) := by decide +kernel
theorem dX0_note_14 : decode cX0_note 14 = .ok (.getfield 24, 3) := by decide +kernel
theorem dX0_note_17 : decode cX0_note 17 = .ok (.ifCond .lt 12, 3) := by decide +kernel
theorem dX0_note_20 : decode cX0_note 20 = .ok (.aload_n 0, 1) := by decide +kernel
theorem dX0_note_21 : decode cX0_note 21 = .ok (.getfield 24, 3) := by decide +kernel
theorem dX0_note_24 : decode cX0_note 24 = .ok (.bipush 14, 2) := by decide +kernel
theorem dX0_note_26 : decode cX0_note 26 = .ok (.if_icmp .lt 4, 3) := by decide +kernel
theorem dX0_note_29 : decode cX0_note 29 = .ok (.return_, 1) := by decide +kernel
theorem dX0_note_30 : decode cX0_note 30 = .ok (.aload_n 0, 1) := by decide +kernel
theorem dX0_note_31 : decode cX0_note 31 = .ok (.getfield 9, 3) := by decide +kernel
theorem dX0_note_34 : decode cX0_note 34 = .ok (.aload_n 0, 1) := by decide +kernel
theorem dX0_note_35 : decode cX0_note 35 = .ok (.getfield 24, 3) := by decide +kernel
theorem dX0_note_38 : decode cX0_note 38 = .ok (.iload_n 1, 1) := by decide +kernel
theorem dX0_note_39 : decode cX0_note 39 = .ok (.iastore, 1) := by decide +kernel
theorem dX0_note_40 : decode cX0_note 40 = .ok (.aload_n 0, 1) := by decide +kernel
theorem dX0_note_41 : decode cX0_note 41 = .ok (.getfield 15, 3) := by decide +kernel
theorem dX0_note_44 : decode cX0_note 44 = .ok (.aload_n 0, 1) := by decide +kernel
theorem dX0_note_45 : decode cX0_note 45 = .ok (.getfield 24, 3) := by decide +kernel
theorem dX0_note_48 : decode cX0_note 48 = .ok (.iload_n 2, 1) := by decide +kernel
theorem dX0_note_49 : decode cX0_note 49 = .ok (.iastore, 1) := by decide +kernel
theorem dX0_note_50 : decode cX0_note 50 = .ok (.aload_n 0, 1) := by decide +kernel
theorem dX0_note_51 : decode cX0_note 51 = .ok (.getfield 18, 3) := by decide +kernel
theorem dX0_note_54 : decode cX0_note 54 = .ok (.aload_n 0, 1) := by decide +kernel
theorem dX0_note_55 : decode cX0_note 55 = .ok (.getfield 24, 3) := by decide +kernel
theorem dX0_note_58 : decode cX0_note 58 = .ok (.iload_n 3, 1) := by decide +kernel
theorem dX0_note_59 : decode cX0_note 59 = .ok (.iastore, 1) := by decide +kernel
theorem dX0_note_60 : decode cX0_note 60 = .ok (.aload_n 0, 1) := by decide +kernel
theorem dX0_note_61 : decode cX0_note 61 = .ok (.getfield 21, 3) := by decide +kernel
theorem dX0_note_64 : decode cX0_note 64 = .ok (.aload_n 0, 1) := by decide +kernel
theorem dX0_note_65 : decode cX0_note 65 = .ok (.getfield 24, 3) := by decide +kernel
theorem dX0_note_68 : decode cX0_note 68 = .ok (.iload 4, 2) := by decide +kernel
theorem dX0_note_70 : decode cX0_note 70 = .ok (.iastore, 1) := by decide +kernel
theorem dX0_note_71 : decode cX0_note 71 = .ok (.aload_n 0, 1) := by decide +kernel
theorem dX0_note_72 : decode cX0_note 72 = .ok (.dup, 1) := by decide +kernel
theorem dX0_note_73 : decode cX0_note 73 = .ok (.getfield 24, 3) := by decide +kernel
theorem dX0_note_76 : decode cX0_note 76 = .ok (.iconst 1, 1) := by decide +kernel
theorem dX0_note_77 : decode cX0_note 77 = .ok (.iadd, 1) := by decide +kernel
theorem dX0_note_78 : decode cX0_note 78 = .ok (.putfield 24, 3) := by decide +kernel
theorem dX0_note_81 : decode cX0_note 81 = .ok (.return_, 1) := by decide +kernel
theorem dX0_forgetOldest_0 : decode cX0_forgetOldest 0 = .ok (.iconst 1, 1) := by decide +kernel
theorem dX0_forgetOldest_1 : decode cX0_forgetOldest 1 = .ok (.istore_n 1, 1) := by decide +kernel
theorem dX0_forgetOldest_2 : decode cX0_forgetOldest 2 = .ok (.iload_n 1, 1) := by decide +kernel
theorem dX0_forgetOldest_3 : decode cX0_forgetOldest 3 = .ok (.bipush 14, 2) := by decide +kernel
theorem dX0_forgetOldest_5 : decode cX0_forgetOldest 5 = .ok (.if_icmp .ge 65, 3) := by decide +kernel
theorem dX0_forgetOldest_8 : decode cX0_forgetOldest 8 = .ok (.aload_n 0, 1) := by decide +kernel
theorem dX0_forgetOldest_9 : decode cX0_forgetOldest 9 = .ok (.getfield 9, 3) := by decide +kernel
theorem dX0_forgetOldest_12 : decode cX0_forgetOldest 12 = .ok (.iload_n 1, 1) := by decide +kernel
theorem dX0_forgetOldest_13 : decode cX0_forgetOldest 13 = .ok (.iconst 1, 1) := by decide +kernel
theorem dX0_forgetOldest_14 : decode cX0_forgetOldest 14 = .ok (.isub, 1) := by decide +kernel
theorem dX0_forgetOldest_15 : decode cX0_forgetOldest 15 = .ok (.aload_n 0, 1) := by decide +kernel
theorem dX0_forgetOldest_16 : decode cX0_forgetOldest 16 = .ok (.getfield 9, 3) := by decide +kernel
theorem dX0_forgetOldest_19 : decode cX0_forgetOldest 19 = .ok (.iload_n 1, 1) := by decide +kernel
theorem dX0_forgetOldest_20 : decode cX0_forgetOldest 20 = .ok (.iaload, 1) := by decide +kernel
theorem dX0_forgetOldest_21 : decode cX0_forgetOldest 21 = .ok (.iastore, 1) := by decide +kernel
theorem dX0_forgetOldest_22 : decode cX0_forgetOldest 22 = .ok (.aload_n 0, 1) := by decide +kernel
theorem dX0_forgetOldest_23 : decode cX0_forgetOldest 23 = .ok (.getfield 15, 3) := by decide +kernel
theorem dX0_forgetOldest_26 : decode cX0_forgetOldest 26 = .ok (.iload_n 1, 1) := by decide +kernel
theorem dX0_forgetOldest_27 : decode cX0_forgetOldest 27 = .ok (.iconst 1, 1) := by decide +kernel
theorem dX0_forgetOldest_28 : decode cX0_forgetOldest 28 = .ok (.isub, 1) := by decide +kernel
theorem dX0_forgetOldest_29 : decode cX0_forgetOldest 29 = .ok (.aload_n 0, 1) := by decide +kernel
theorem dX0_forgetOldest_30 : decode cX0_forgetOldest 30 = .ok (.getfield 15, 3) := by decide +kernel
theorem dX0_forgetOldest_33 : decode cX0_forgetOldest 33 = .ok (.iload_n 1, 1) := by decide +kernel
theorem dX0_forgetOldest_34 : decode cX0_forgetOldest 34 = .ok (.iaload, 1) := by decide +kernel
theorem dX0_forgetOldest_35 : decode cX0_forgetOldest 35 = .ok (.iastore, 1) := by decide +kernel
theorem dX0_forgetOldest_36 : decode cX0_forgetOldest 36 = .ok (.aload_n 0, 1) := by decide +kernel
theorem dX0_forgetOldest_37 : decode cX0_forgetOldest 37 = .ok (.getfield 18, 3) := by decide +kernel
theorem dX0_forgetOldest_40 : decode cX0_forgetOldest 40 = .ok (.iload_n 1, 1) := by decide +kernel
theorem dX0_forgetOldest_41 : decode cX0_forgetOldest 41 = .ok (.iconst 1, 1) := by decide +kernel
theorem dX0_forgetOldest_42 : decode cX0_forgetOldest 42 = .ok (.isub, 1) := by decide +kernel
theorem dX0_forgetOldest_43 : decode cX0_forgetOldest 43 = .ok (.aload_n 0, 1) := by decide +kernel
theorem dX0_forgetOldest_44 : decode cX0_forgetOldest 44 = .ok (.getfield 18, 3) := by decide +kernel
theorem dX0_forgetOldest_47 : decode cX0_forgetOldest 47 = .ok (.iload_n 1, 1) := by decide +kernel
theorem dX0_forgetOldest_48 : decode cX0_forgetOldest 48 = .ok (.iaload, 1) := by decide +kernel
theorem dX0_forgetOldest_49 : decode cX0_forgetOldest 49 = .ok (.iastore, 1) := by decide +kernel
theorem dX0_forgetOldest_50 : decode cX0_forgetOldest 50 = .ok (.aload_n 0, 1) := by decide +kernel
theorem dX0_forgetOldest_51 : decode cX0_forgetOldest 51 = .ok (.getfield 21, 3) := by decide +kernel
theorem dX0_forgetOldest_54 : decode cX0_forgetOldest 54 = .ok (.iload_n 1, 1) := by decide +kernel
theorem dX0_forgetOldest_55 : decode cX0_forgetOldest 55 = .ok (.iconst 1, 1) := by decide +kernel
theorem dX0_forgetOldest_56 : decode cX0_forgetOldest 56 = .ok (.isub, 1) := by decide +kernel
theorem dX0_forgetOldest_57 : decode cX0_forgetOldest 57 = .ok (.aload_n 0, 1) := by decide +kernel
theorem dX0_forgetOldest_58 : decode cX0_forgetOldest 58 = .ok (.getfield 21, 3) := by decide +kernel
theorem dX0_forgetOldest_61 : decode cX0_forgetOldest 61 = .ok (.iload_n 1, 1) := by decide +kernel
theorem dX0_forgetOldest_62 : decode cX0_forgetOldest 62 = .ok (.iaload, 1) := by decide +kernel
theorem dX0_forgetOldest_63 : decode cX0_forgetOldest 63 = .ok (.iastore, 1) := by decide +kernel
theorem dX0_forgetOldest_64 : decode cX0_forgetOldest 64 = .ok (.iinc 1 1, 3) := by decide +kernel
theorem dX0_forgetOldest_67 : decode cX0_forgetOldest 67 = .ok (.goto (-65), 3) := by decide +kernel
theorem dX0_forgetOldest_70 : decode cX0_forgetOldest 70 = .ok (.aload_n 0, 1) := by decide +kernel
theorem dX0_forgetOldest_71 : decode cX0_forgetOldest 71 = .ok (.bipush 13, 2) := by decide +kernel
theorem dX0_forgetOldest_73 : decode cX0_forgetOldest 73 = .ok (.putfield 24, 3) := by decide +kernel
theorem dX0_forgetOldest_76 : decode cX0_forgetOldest 76 = .ok (.return_, 1) := by decide +kernel
theorem dX0_takeBack_0 : decode cX0_takeBack 0 = .ok (.aload_n 0, 1) := by decide +kernel
theorem dX0_takeBack_1 : decode cX0_takeBack 1 = .ok (.getfield 24, 3) := by decide +kernel
theorem dX0_takeBack_4 : decode cX0_takeBack 4 = .ok (.iconst 1, 1) := by decide +kernel
theorem dX0_takeBack_5 : decode cX0_takeBack 5 = .ok (.if_icmp .lt 12, 3) := by decide +kernel
theorem dX0_takeBack_8 : decode cX0_takeBack 8 = .ok (.aload_n 0, 1) := by decide +kernel
theorem dX0_takeBack_9 : decode cX0_takeBack 9 = .ok (.getfield 24, 3) := by decide +kernel
theorem dX0_takeBack_12 : decode cX0_takeBack 12 = .ok (.bipush 14, 2) := by decide +kernel
theorem dX0_takeBack_14 : decode cX0_takeBack 14 = .ok (.if_icmp .le 4, 3) := by decide +kernel
theorem dX0_takeBack_17 : decode cX0_takeBack 17 = .ok (.return_, 1) := by decide +kernel
theorem dX0_takeBack_18 : decode cX0_takeBack 18 = .ok (.aload_n 0, 1) := by decide +kernel
theorem dX0_takeBack_19 : decode cX0_takeBack 19 = .ok (.dup, 1) := by decide +kernel
theorem dX0_takeBack_20 : decode cX0_takeBack 20 = .ok (.getfield 24, 3) := by decide +kernel
theorem dX0_takeBack_23 : decode cX0_takeBack 23 = .ok (.iconst 1, 1) := by decide +kernel
theorem dX0_takeBack_24 : decode cX0_takeBack 24 = .ok (.isub, 1) := by decide +kernel
theorem dX0_takeBack_25 : decode cX0_takeBack 25 = .ok (.putfield 24, 3) := by decide +kernel
theorem dX0_takeBack_28 : decode cX0_takeBack 28 = .ok (.aload_n 0, 1) := by decide +kernel
theorem dX0_takeBack_29 : decode cX0_takeBack 29 = .ok (.getfield 15, 3) := by decide +kernel
theorem dX0_takeBack_32 : decode cX0_takeBack 32 = .ok (.aload_n 0, 1) := by decide +kernel
theorem dX0_takeBack_33 : decode cX0_takeBack 33 = .ok (.getfield 24, 3) := by decide +kernel
theorem dX0_takeBack_36 : decode cX0_takeBack 36 = .ok (.iaload, 1) := by decide +kernel
theorem dX0_takeBack_37 : decode cX0_takeBack 37 = .ok (.istore_n 2, 1) := by decide +kernel
theorem dX0_takeBack_38 : decode cX0_takeBack 38 = .ok (.aload_n 0, 1) := by decide +kernel
theorem dX0_takeBack_39 : decode cX0_takeBack 39 = .ok (.getfield 18, 3) := by decide +kernel
theorem dX0_takeBack_42 : decode cX0_takeBack 42 = .ok (.aload_n 0, 1) := by decide +kernel
theorem dX0_takeBack_43 : decode cX0_takeBack 43 = .ok (.getfield 24, 3) := by decide +kernel
theorem dX0_takeBack_46 : decode cX0_takeBack 46 = .ok (.iaload, 1) := by decide +kernel
theorem dX0_takeBack_47 : decode cX0_takeBack 47 = .ok (.istore_n 3, 1) := by decide +kernel
theorem dX0_takeBack_48 : decode cX0_takeBack 48 = .ok (.aload_n 0, 1) := by decide +kernel
theorem dX0_takeBack_49 : decode cX0_takeBack 49 = .ok (.getfield 9, 3) := by decide +kernel
theorem dX0_takeBack_52 : decode cX0_takeBack 52 = .ok (.aload_n 0, 1) := by decide +kernel
theorem dX0_takeBack_53 : decode cX0_takeBack 53 = .ok (.getfield 24, 3) := by decide +kernel
theorem dX0_takeBack_56 : decode cX0_takeBack 56 = .ok (.iaload, 1) := by decide +kernel
theorem dX0_takeBack_57 : decode cX0_takeBack 57 = .ok (.tableswitch 65 0 2 #[27, 37, 46], 27) := by decide +kernel
theorem dX0_takeBack_84 : decode cX0_takeBack 84 = .ok (.aload_n 1, 1) := by decide +kernel
theorem dX0_takeBack_85 : decode cX0_takeBack 85 = .ok (.iload_n 2, 1) := by decide +kernel
theorem dX0_takeBack_86 : decode cX0_takeBack 86 = .ok (.iload_n 3, 1) := by decide +kernel
theorem dX0_takeBack_87 : decode cX0_takeBack 87 = .ok (.invokevirtual 31, 3) := by decide +kernel
theorem dX0_takeBack_90 : decode cX0_takeBack 90 = .ok (.pop, 1) := by decide +kernel
theorem dX0_takeBack_91 : decode cX0_takeBack 91 = .ok (.goto 38, 3) := by decide +kernel
theorem dX0_takeBack_94 : decode cX0_takeBack 94 = .ok (.aload_n 1, 1) := by decide +kernel
theorem dX0_takeBack_95 : decode cX0_takeBack 95 = .ok (.iload_n 2, 1) := by decide +kernel
theorem dX0_takeBack_96 : decode cX0_takeBack 96 = .ok (.invokevirtual 37, 3) := by decide +kernel
theorem dX0_takeBack_99 : decode cX0_takeBack 99 = .ok (.pop, 1) := by decide +kernel
theorem dX0_takeBack_100 : decode cX0_takeBack 100 = .ok (.goto 29, 3) := by decide +kernel
theorem dX0_takeBack_103 : decode cX0_takeBack 103 = .ok (.aload_n 1, 1) := by decide +kernel
theorem dX0_takeBack_104 : decode cX0_takeBack 104 = .ok (.iload_n 2, 1) := by decide +kernel
theorem dX0_takeBack_105 : decode cX0_takeBack 105 = .ok (.iload_n 3, 1) := by decide +kernel
theorem dX0_takeBack_106 : decode cX0_takeBack 106 = .ok (.aload_n 0, 1) := by decide +kernel
theorem dX0_takeBack_107 : decode cX0_takeBack 107 = .ok (.getfield 21, 3) := by decide +kernel
theorem dX0_takeBack_110 : decode cX0_takeBack 110 = .ok (.aload_n 0, 1) := by decide +kernel
theorem dX0_takeBack_111 : decode cX0_takeBack 111 = .ok (.getfield 24, 3) := by decide +kernel
theorem dX0_takeBack_114 : decode cX0_takeBack 114 = .ok (.iaload, 1) := by decide +kernel
theorem dX0_takeBack_115 : decode cX0_takeBack 115 = .ok (.invokevirtual 41, 3) := by decide +kernel
theorem dX0_takeBack_118 : decode cX0_takeBack 118 = .ok (.pop, 1) := by decide +kernel
theorem dX0_takeBack_119 : decode cX0_takeBack 119 = .ok (.goto 10, 3) := by decide +kernel
theorem dX0_takeBack_122 : decode cX0_takeBack 122 = .ok (.aload_n 1, 1) := by decide +kernel
theorem dX0_takeBack_123 : decode cX0_takeBack 123 = .ok (.iload_n 2, 1) := by decide +kernel
theorem dX0_takeBack_124 : decode cX0_takeBack 124 = .ok (.iload_n 3, 1) := by decide +kernel
theorem dX0_takeBack_125 : decode cX0_takeBack 125 = .ok (.invokevirtual 45, 3) := by decide +kernel
theorem dX0_takeBack_128 : decode cX0_takeBack 128 = .ok (.pop, 1) := by decide +kernel
theorem dX0_takeBack_129 : decode cX0_takeBack 129 = .ok (.return_, 1) := by decide +kernel
theorem dX1_init_0 : decode cX1_init 0 = .ok (.aload_n 0, 1) := by decide +kernel
theorem dX1_init_1 : decode cX1_init 1 = .ok (.invokespecial 3, 3) := by decide +kernel
theorem dX1_init_4 : decode cX1_init 4 = .ok (.aload_n 0, 1) := by decide +kernel
theorem dX1_init_5 : decode cX1_init 5 = .ok (.bipush 36, 2) := by decide +kernel
theorem dX1_init_7 : decode cX1_init 7 = .ok (.newarray .int, 2) := by decide +kernel
theorem dX1_init_9 : decode cX1_init 9 = .ok (.putfield 9, 3) := by decide +kernel
theorem dX1_init_12 : decode cX1_init 12 = .ok (.aload_n 0, 1) := by decide +kernel
theorem dX1_init_13 : decode cX1_init 13 = .ok (.iconst 5, 1) := by decide +kernel
theorem dX1_init_14 : decode cX1_init 14 = .ok (.newarray .int, 2) := by decide +kernel
theorem dX1_init_16 : decode cX1_init 16 = .ok (.putfield 15, 3) := by decide +kernel
theorem dX1_init_19 : decode cX1_init 19 = .ok (.aload_n 0, 1) := by decide +kernel
theorem dX1_init_20 : decode cX1_init 20 = .ok (.iconst 5, 1) := by decide +kernel
theorem dX1_init_21 : decode cX1_init 21 = .ok (.newarray .int, 2) := by decide +kernel
theorem dX1_init_23 : decode cX1_init 23 = .ok (.putfield 18, 3) := by decide +kernel
theorem dX1_init_26 : decode cX1_init 26 = .ok (.aload_n 0, 1) := by decide +kernel
theorem dX1_init_27 : decode cX1_init 27 = .ok (.iconst 4, 1) := by decide +kernel
theorem dX1_init_28 : decode cX1_init 28 = .ok (.newarray .int, 2) := by decide +kernel
theorem dX1_init_30 : decode cX1_init 30 = .ok (.putfield 21, 3) := by decide +kernel
theorem dX1_init_33 : decode cX1_init 33 = .ok (.aload_n 0, 1) := by decide +kernel
theorem dX1_init_34 : decode cX1_init 34 = .ok (.iconst 2, 1) := by decide +kernel
theorem dX1_init_35 : decode cX1_init 35 = .ok (.iconst 2, 1) := by decide +kernel
theorem dX1_init_36 : decode cX1_init 36 = .ok (.invokevirtual 24, 3) := by decide +kernel
theorem dX1_init_39 : decode cX1_init 39 = .ok (.return_, 1) := by decide +kernel
theorem dX1_startAnew_0 : decode cX1_startAnew 0 = .ok (.aload_n 0, 1) := by decide +kernel
theorem dX1_startAnew_1 : decode cX1_startAnew 1 = .ok (.iload_n 1, 1) := by decide +kernel
theorem dX1_startAnew_2 : decode cX1_startAnew 2 = .ok (.putfield 28, 3) := by decide +kernel
theorem dX1_startAnew_5 : decode cX1_startAnew 5 = .ok (.aload_n 0, 1) := by decide +kernel
theorem dX1_startAnew_6 : decode cX1_startAnew 6 = .ok (.iload_n 2, 1) := by decide +kernel
theorem dX1_startAnew_7 : decode cX1_startAnew 7 = .ok (.putfield 32, 3) := by decide +kernel
theorem dX1_startAnew_10 : decode cX1_startAnew 10 = .ok (.aload_n 0, 1) := by decide +kernel
theorem dX1_startAnew_11 : decode cX1_startAnew 11 = .ok (.iconst 0, 1) := by decide +kernel
theorem dX1_startAnew_12 : decode cX1_startAnew 12 = .ok (.putfield 35, 3) := by decide +kernel
theorem dX1_startAnew_15 : decode cX1_startAnew 15 = .ok (.aload_n 0, 1) := by decide +kernel
theorem dX1_startAnew_16 : decode cX1_startAnew 16 = .ok (.getfield 9, 3) := by decide +kernel
theorem dX1_startAnew_19 : decode cX1_startAnew 19 = .ok (.iconst 0, 1) := by decide +kernel
theorem dX1_startAnew_20 : decode cX1_startAnew 20 = .ok (.invokestatic 38, 3) := by decide +kernel
theorem dX1_startAnew_23 : decode cX1_startAnew 23 = .ok (.aload_n 0, 1) := by decide +kernel
theorem dX1_startAnew_24 : decode cX1_startAnew 24 = .ok (.getfield 21, 3) := by decide +kernel
theorem dX1_startAnew_27 : decode cX1_startAnew 27 = .ok (.iconst 0, 1) := by decide +kernel
theorem dX1_startAnew_28 : decode cX1_startAnew 28 = .ok (.iconst 1, 1) := by decide +kernel
theorem dX1_startAnew_29 : decode cX1_startAnew 29 = .ok (.iastore, 1) := by decide +kernel
theorem dX1_startAnew_30 : decode cX1_startAnew 30 = .ok (.aload_n 0, 1) := by decide +kernel
theorem dX1_startAnew_31 : decode cX1_startAnew 31 = .ok (.getfield 21, 3) := by decide +kernel
theorem dX1_startAnew_34 : decode cX1_startAnew 34 = .ok (.iconst 1, 1) := by decide +kernel
theorem dX1_startAnew_35 : decode cX1_startAnew 35 = .ok (.iconst 0, 1) := by decide +kernel
theorem dX1_startAnew_36 : decode cX1_startAnew 36 = .ok (.iastore, 1) := by decide +kernel
theorem dX1_startAnew_37 : decode cX1_startAnew 37 = .ok (.aload_n 0, 1) := by decide +kernel
theorem dX1_startAnew_38 : decode cX1_startAnew 38 = .ok (.getfield 21, 3) := by decide +kernel
theorem dX1_startAnew_41 : decode cX1_startAnew 41 = .ok (.iconst 2, 1) := by decide +kernel
theorem dX1_startAnew_42 : decode cX1_startAnew 42 = .ok (.iconst 0, 1) := by decide +kernel
theorem dX1_startAnew_43 : decode cX1_startAnew 43 = .ok (.iastore, 1) := by decide +kernel
theorem dX1_startAnew_44 : decode cX1_startAnew 44 = .ok (.aload_n 0, 1) := by decide +kernel
theorem dX1_startAnew_45 : decode cX1_startAnew 45 = .ok (.getfield 21, 3) := by decide +kernel
theorem dX1_startAnew_48 : decode cX1_startAnew 48 = .ok (.iconst 3, 1) := by decide +kernel
theorem dX1_startAnew_49 : decode cX1_startAnew 49 = .ok (.bipush 9, 2) := by decide +kernel
theorem dX1_startAnew_51 : decode cX1_startAnew 51 = .ok (.iastore, 1) := by decide +kernel
theorem dX1_startAnew_52 : decode cX1_startAnew 52 = .ok (.return_, 1) := by decide +kernel
theorem dX1_copyFrom_0 : decode cX1_copyFrom 0 = .ok (.aload_n 0, 1) := by decide +kernel
theorem dX1_copyFrom_1 : decode cX1_copyFrom 1 = .ok (.aload_n 1, 1) := by decide +kernel
theorem dX1_copyFrom_2 : decode cX1_copyFrom 2 = .ok (.getfield 28, 3) := by decide +kernel
theorem dX1_copyFrom_5 : decode cX1_copyFrom 5 = .ok (.putfield 28, 3) := by decide +kernel
theorem dX1_copyFrom_8 : decode cX1_copyFrom 8 = .ok (.aload_n 0, 1) := by decide +kernel
theorem dX1_copyFrom_9 : decode cX1_copyFrom 9 = .ok (.aload_n 1, 1) := by decide +kernel
theorem dX1_copyFrom_10 : decode cX1_copyFrom 10 = .ok (.getfield 32, 3) := by decide +kernel
theorem dX1_copyFrom_13 : decode cX1_copyFrom 13 = .ok (.putfield 32, 3) := by decide +kernel
theorem dX1_copyFrom_16 : decode cX1_copyFrom 16 = .ok (.aload_n 0, 1) := by decide +kernel
theorem dX1_copyFrom_17 : decode cX1_copyFrom 17 = .ok (.aload_n 1, 1) := by decide +kernel
theorem dX1_copyFrom_18 : decode cX1_copyFrom 18 = .ok (.getfield 35, 3) := by decide +kernel
theorem dX1_copyFrom_21 : decode cX1_copyFrom 21 = .ok (.putfield 35, 3) := by decide +kernel
theorem dX1_copyFrom_24 : decode cX1_copyFrom 24 = .ok (.aload_n 1, 1) := by decide +kernel
theorem dX1_copyFrom_25 : decode cX1_copyFrom 25 = .ok (.getfield 9, 3) := by decide +kernel
theorem dX1_copyFrom_28 : decode cX1_copyFrom 28 = .ok (.iconst 0, 1) := by decide +kernel
theorem dX1_copyFrom_29 : decode cX1_copyFrom 29 = .ok (.aload_n 0, 1) := by decide +kernel
theorem dX1_copyFrom_30 : decode cX1_copyFrom 30 = .ok (.getfield 9, 3) := by decide +kernel
theorem dX1_copyFrom_33 : decode cX1_copyFrom 33 = .ok (.iconst 0, 1) := by decide +kernel
theorem dX1_copyFrom_34 : decode cX1_copyFrom 34 = .ok (.bipush 36, 2) := by decide +kernel
theorem dX1_copyFrom_36 : decode cX1_copyFrom 36 = .ok (.invokestatic 44, 3) := by decide +kernel
theorem dX1_copyFrom_39 : decode cX1_copyFrom 39 = .ok (.aload_n 1, 1) := by decide +kernel
theorem dX1_copyFrom_40 : decode cX1_copyFrom 40 = .ok (.getfield 15, 3) := by decide +kernel
theorem dX1_copyFrom_43 : decode cX1_copyFrom 43 = .ok (.iconst 0, 1) := by decide +kernel
theorem dX1_copyFrom_44 : decode cX1_copyFrom 44 = .ok (.aload_n 0, 1) := by decide +kernel
theorem dX1_copyFrom_45 : decode cX1_copyFrom 45 = .ok (.getfield 15, 3) := by decide +kernel
theorem dX1_copyFrom_48 : decode cX1_copyFrom 48 = .ok (.iconst 0, 1) := by decide +kernel
theorem dX1_copyFrom_49 : decode cX1_copyFrom 49 = .ok (.iconst 5, 1) := by decide +kernel
theorem dX1_copyFrom_50 : decode cX1_copyFrom 50 = .ok (.invokestatic 44, 3) := by decide +kernel
theorem dX1_copyFrom_53 : decode cX1_copyFrom 53 = .ok (.aload_n 1, 1) := by decide +kernel
theorem dX1_copyFrom_54 : decode cX1_copyFrom 54 = .ok (.getfield 18, 3) := by decide +kernel
theorem dX1_copyFrom_57 : decode cX1_copyFrom 57 = .ok (.iconst 0, 1) := by decide +kernel
theorem dX1_copyFrom_58 : decode cX1_copyFrom 58 = .ok (.aload_n 0, 1) := by decide +kernel
theorem dX1_copyFrom_59 : decode cX1_copyFrom 59 = .ok (.getfield 18, 3) := by decide +kernel
theorem dX1_copyFrom_62 : decode cX1_copyFrom 62 = .ok (.iconst 0, 1) := by decide +kernel
theorem dX1_copyFrom_63 : decode cX1_copyFrom 63 = .ok (.iconst 5, 1) := by decide +kernel
theorem dX1_copyFrom_64 : decode cX1_copyFrom 64 = .ok (.invokestatic 44, 3) := by decide +kernel
theorem dX1_copyFrom_67 : decode cX1_copyFrom 67 = .ok (.aload_n 1, 1) := by decide +kernel
theorem dX1_copyFrom_68 : decode cX1_copyFrom 68 = .ok (.getfield 21, 3) := by decide +kernel
theorem dX1_copyFrom_71 : decode cX1_copyFrom 71 = .ok (.iconst 0, 1) := by decide +kernel
theorem dX1_copyFrom_72 : decode cX1_copyFrom 72 = .ok (.aload_n 0, 1) := by decide +kernel
theorem dX1_copyFrom_73 : decode cX1_copyFrom 73 = .ok (.getfield 21, 3) := by decide +kernel
theorem dX1_copyFrom_76 : decode cX1_copyFrom 76 = .ok (.iconst 0, 1) := by decide +kernel
theorem dX1_copyFrom_77 : decode cX1_copyFrom 77 = .ok (.iconst 4, 1) := by decide +kernel
theorem dX1_copyFrom_78 : decode cX1_copyFrom 78 = .ok (.invokestatic 44, 3) := by decide +kernel
theorem dX1_copyFrom_81 : decode cX1_copyFrom 81 = .ok (.return_, 1) := by decide +kernel
theorem dX1_cellCount_0 : decode cX1_cellCount 0 = .ok (.aload_n 0, 1) := by decide +kernel
theorem dX1_cellCount_1 : decode cX1_cellCount 1 = .ok (.getfield 28, 3) := by decide +kernel
theorem dX1_cellCount_4 : decode cX1_cellCount 4 = .ok (.aload_n 0, 1) := by decide +kernel
theorem dX1_cellCount_5 : decode cX1_cellCount 5 = .ok (.getfield 32, 3) := by decide +kernel
theorem dX1_cellCount_8 : decode cX1_cellCount 8 = .ok (.imul, 1) := by decide +kernel
theorem dX1_cellCount_9 : decode cX1_cellCount 9 = .ok (.ireturn, 1) := by decide +kernel
theorem dX1_hasCell_0 : decode cX1_hasCell 0 = .ok (.iload_n 1, 1) := by decide +kernel
theorem dX1_hasCell_1 : decode cX1_hasCell 1 = .ok (.ifCond .lt 20, 3) := by decide +kernel
theorem dX1_hasCell_4 : decode cX1_hasCell 4 = .ok (.iload_n 1, 1) := by decide +kernel
theorem dX1_hasCell_5 : decode cX1_hasCell 5 = .ok (.aload_n 0, 1) := by decide +kernel
theorem dX1_hasCell_6 : decode cX1_hasCell 6 = .ok (.getfield 28, 3) := by decide +kernel
theorem dX1_hasCell_9 : decode cX1_hasCell 9 = .ok (.aload_n 0, 1) := by decide +kernel
theorem dX1_hasCell_10 : decode cX1_hasCell 10 = .ok (.getfield 32, 3) := by decide +kernel
theorem dX1_hasCell_13 : decode cX1_hasCell 13 = .ok (.imul, 1) := by decide +kernel
theorem dX1_hasCell_14 : decode cX1_hasCell 14 = .ok (.if_icmp .ge 7, 3) := by decide +kernel
theorem dX1_hasCell_17 : decode cX1_hasCell 17 = .ok (.iconst 1, 1) := by decide +kernel
theorem dX1_hasCell_18 : decode cX1_hasCell 18 = .ok (.goto 4, 3) := by decide +kernel
theorem dX1_hasCell_21 : decode cX1_hasCell 21 = .ok (.iconst 0, 1) := by decide +kernel
theorem dX1_hasCell_22 : decode cX1_hasCell 22 = .ok (.ireturn, 1) := by decide +kernel
theorem dX1_hasTower_0 : decode cX1_hasTower 0 = .ok (.iload_n 1, 1) := by decide +kernel
theorem dX1_hasTower_1 : decode cX1_hasTower 1 = .ok (.ifCond .lt 20, 3) := by decide +kernel
theorem dX1_hasTower_4 : decode cX1_hasTower 4 = .ok (.iload_n 1, 1) := by decide +kernel
theorem dX1_hasTower_5 : decode cX1_hasTower 5 = .ok (.aload_n 0, 1) := by decide +kernel
theorem dX1_hasTower_6 : decode cX1_hasTower 6 = .ok (.getfield 35, 3) := by decide +kernel
theorem dX1_hasTower_9 : decode cX1_hasTower 9 = .ok (.if_icmp .ge 12, 3) := by decide +kernel
theorem dX1_hasTower_12 : decode cX1_hasTower 12 = .ok (.iload_n 1, 1) := by decide +kernel
theorem dX1_hasTower_13 : decode cX1_hasTower 13 = .ok (.iconst 5, 1) := by decide +kernel
theorem dX1_hasTower_14 : decode cX1_hasTower 14 = .ok (.if_icmp .ge 7, 3) := by decide +kernel
theorem dX1_hasTower_17 : decode cX1_hasTower 17 = .ok (.iconst 1, 1) := by decide +kernel
theorem dX1_hasTower_18 : decode cX1_hasTower 18 = .ok (.goto 4, 3) := by decide +kernel
theorem dX1_hasTower_21 : decode cX1_hasTower 21 = .ok (.iconst 0, 1) := by decide +kernel
theorem dX1_hasTower_22 : decode cX1_hasTower 22 = .ok (.ireturn, 1) := by decide +kernel
theorem dX1_isInside_0 : decode cX1_isInside 0 = .ok (.iload_n 1, 1) := by decide +kernel
theorem dX1_isInside_1 : decode cX1_isInside 1 = .ok (.ifCond .lt 27, 3) := by decide +kernel
theorem dX1_isInside_4 : decode cX1_isInside 4 = .ok (.iload_n 1, 1) := by decide +kernel
theorem dX1_isInside_5 : decode cX1_isInside 5 = .ok (.aload_n 0, 1) := by decide +kernel
theorem dX1_isInside_6 : decode cX1_isInside 6 = .ok (.getfield 28, 3) := by decide +kernel
theorem dX1_isInside_9 : decode cX1_isInside 9 = .ok (.if_icmp .ge 19, 3) := by decide +kernel
theorem dX1_isInside_12 : decode cX1_isInside 12 = .ok (.iload_n 2, 1) := by decide +kernel
theorem dX1_isInside_13 : decode cX1_isInside 13 = .ok (.ifCond .lt 15, 3) := by decide +kernel
theorem dX1_isInside_16 : decode cX1_isInside 16 = .ok (.iload_n 2, 1) := by decide +kernel
theorem dX1_isInside_17 : decode cX1_isInside 17 = .ok (.aload_n 0, 1) := by decide +kernel
theorem dX1_isInside_18 : decode cX1_isInside 18 = .ok (.getfield 32, 3) := by decide +kernel
theorem dX1_isInside_21 : decode cX1_isInside 21 = .ok (.if_icmp .ge 7, 3) := by decide +kernel
theorem dX1_isInside_24 : decode cX1_isInside 24 = .ok (.iconst 1, 1) := by decide +kernel
theorem dX1_isInside_25 : decode cX1_isInside 25 = .ok (.goto 4, 3) := by decide +kernel
theorem dX1_isInside_28 : decode cX1_isInside 28 = .ok (.iconst 0, 1) := by decide +kernel
theorem dX1_isInside_29 : decode cX1_isInside 29 = .ok (.ireturn, 1) := by decide +kernel
theorem dX1_columnOf_0 : decode cX1_columnOf 0 = .ok (.aload_n 0, 1) := by decide +kernel
theorem dX1_columnOf_1 : decode cX1_columnOf 1 = .ok (.getfield 28, 3) := by decide +kernel
theorem dX1_columnOf_4 : decode cX1_columnOf 4 = .ok (.ifCond .ne 7, 3) := by decide +kernel
theorem dX1_columnOf_7 : decode cX1_columnOf 7 = .ok (.iconst 0, 1) := by decide +kernel
theorem dX1_columnOf_8 : decode cX1_columnOf 8 = .ok (.goto 9, 3) := by decide +kernel
theorem dX1_columnOf_11 : decode cX1_columnOf 11 = .ok (.iload_n 1, 1) := by decide +kernel
theorem dX1_columnOf_12 : decode cX1_columnOf 12 = .ok (.aload_n 0, 1) := by decide +kernel
theorem dX1_columnOf_13 : decode cX1_columnOf 13 = .ok (.getfield 28, 3) := by decide +kernel
theorem dX1_columnOf_16 : decode cX1_columnOf 16 = .ok (.irem, 1) := by decide +kernel
theorem dX1_columnOf_17 : decode cX1_columnOf 17 = .ok (.ireturn, 1) := by decide +kernel
theorem dX1_rowOf_0 : decode cX1_rowOf 0 = .ok (.aload_n 0, 1) := by decide +kernel
theorem dX1_rowOf_1 : decode cX1_rowOf 1 = .ok (.getfield 28, 3) := by decide +kernel
theorem dX1_rowOf_4 : decode cX1_rowOf 4 = .ok (.ifCond .ne 7, 3) := by decide +kernel
theorem dX1_rowOf_7 : decode cX1_rowOf 7 = .ok (.iconst 0, 1) := by decide +kernel
theorem dX1_rowOf_8 : decode cX1_rowOf 8 = .ok (.goto 9, 3) := by decide +kernel
theorem dX1_rowOf_11 : decode cX1_rowOf 11 = .ok (.iload_n 1, 1) := by decide +kernel
theorem dX1_rowOf_12 : decode cX1_rowOf 12 = .ok (.aload_n 0, 1) := by decide +kernel
theorem dX1_rowOf_13 : decode cX1_rowOf 13 = .ok (.getfield 28, 3) := by decide +kernel
theorem dX1_rowOf_16 : decode cX1_rowOf 16 = .ok (.idiv, 1) := by decide +kernel
theorem dX1_rowOf_17 : decode cX1_rowOf 17 = .ok (.ireturn, 1) := by decide +kernel
theorem dX1_heightOf_0 : decode cX1_heightOf 0 = .ok (.iload_n 1, 1) := by decide +kernel
theorem dX1_heightOf_1 : decode cX1_heightOf 1 = .ok (.ifCond .lt 18, 3) := by decide +kernel
theorem dX1_heightOf_4 : decode cX1_heightOf 4 = .ok (.iload_n 1, 1) := by decide +kernel
theorem dX1_heightOf_5 : decode cX1_heightOf 5 = .ok (.bipush 36, 2) := by decide +kernel
theorem dX1_heightOf_7 : decode cX1_heightOf 7 = .ok (.if_icmp .ge 12, 3) := by decide +kernel
theorem dX1_heightOf_10 : decode cX1_heightOf 10 = .ok (.aload_n 0, 1) := by decide +kernel
theorem dX1_heightOf_11 : decode cX1_heightOf 11 = .ok (.getfield 9, 3) := by decide +kernel
theorem dX1_heightOf_14 : decode cX1_heightOf 14 = .ok (.iload_n 1, 1) := by decide +kernel
theorem dX1_heightOf_15 : decode cX1_heightOf 15 = .ok (.iaload, 1) := by decide +kernel
theorem dX1_heightOf_16 : decode cX1_heightOf 16 = .ok (.goto 4, 3) := by decide +kernel
theorem dX1_heightOf_19 : decode cX1_heightOf 19 = .ok (.iconst 0, 1) := by decide +kernel
theorem dX1_heightOf_20 : decode cX1_heightOf 20 = .ok (.ireturn, 1) := by decide +kernel
theorem dX1_putHeight_0 : decode cX1_putHeight 0 = .ok (.aload_n 0, 1) := by decide +kernel
theorem dX1_putHeight_1 : decode cX1_putHeight 1 = .ok (.iload_n 1, 1) := by decide +kernel
theorem dX1_putHeight_2 : decode cX1_putHeight 2 = .ok (.invokevirtual 50, 3) := by decide +kernel
theorem dX1_putHeight_5 : decode cX1_putHeight 5 = .ok (.ifCond .eq 9, 3) := by decide +kernel
theorem dX1_putHeight_8 : decode cX1_putHeight 8 = .ok (.iload_n 1, 1) := by decide +kernel
theorem dX1_putHeight_9 : decode cX1_putHeight 9 = .ok (.bipush 36, 2) := by decide +kernel
theorem dX1_putHeight_11 : decode cX1_putHeight 11 = .ok (.if_icmp .lt 5, 3) := by decide +kernel
theorem dX1_putHeight_14 : decode cX1_putHeight 14 = .ok (.iconst 0, 1) := by decide +kernel
theorem dX1_putHeight_15 : decode cX1_putHeight 15 = .ok (.ireturn, 1) := by decide +kernel
theorem dX1_putHeight_16 : decode cX1_putHeight 16 = .ok (.aload_n 0, 1) := by decide +kernel
theorem dX1_putHeight_17 : decode cX1_putHeight 17 = .ok (.getfield 9, 3) := by decide +kernel
theorem dX1_putHeight_20 : decode cX1_putHeight 20 = .ok (.iload_n 1, 1) := by decide +kernel
theorem dX1_putHeight_21 : decode cX1_putHeight 21 = .ok (.iload_n 2, 1) := by decide +kernel
theorem dX1_putHeight_22 : decode cX1_putHeight 22 = .ok (.iastore, 1) := by decide +kernel
theorem dX1_putHeight_23 : decode cX1_putHeight 23 = .ok (.iconst 1, 1) := by decide +kernel
theorem dX1_putHeight_24 : decode cX1_putHeight 24 = .ok (.ireturn, 1) := by decide +kernel
theorem dX1_putTower_0 : decode cX1_putTower 0 = .ok (.aload_n 0, 1) := by decide +kernel
theorem dX1_putTower_1 : decode cX1_putTower 1 = .ok (.iload_n 2, 1) := by decide +kernel
theorem dX1_putTower_2 : decode cX1_putTower 2 = .ok (.invokevirtual 50, 3) := by decide +kernel
theorem dX1_putTower_5 : decode cX1_putTower 5 = .ok (.ifCond .eq 23, 3) := by decide +kernel
theorem dX1_putTower_8 : decode cX1_putTower 8 = .ok (.aload_n 0, 1) := by decide +kernel
theorem dX1_putTower_9 : decode cX1_putTower 9 = .ok (.getfield 35, 3) := by decide +kernel
theorem dX1_putTower_12 : decode cX1_putTower 12 = .ok (.iconst 5, 1) := by decide +kernel
theorem dX1_putTower_13 : decode cX1_putTower 13 = .ok (.if_icmp .ge 15, 3) := by decide +kernel
theorem dX1_putTower_16 : decode cX1_putTower 16 = .ok (.iload_n 1, 1) := by decide +kernel
theorem dX1_putTower_17 : decode cX1_putTower 17 = .ok (.ifCond .lt 11, 3) := by decide +kernel
theorem dX1_putTower_20 : decode cX1_putTower 20 = .ok (.iload_n 1, 1) := by decide +kernel
theorem dX1_putTower_21 : decode cX1_putTower 21 = .ok (.aload_n 0, 1) := by decide +kernel
theorem dX1_putTower_22 : decode cX1_putTower 22 = .ok (.getfield 35, 3) := by decide +kernel
theorem dX1_putTower_25 : decode cX1_putTower 25 = .ok (.if_icmp .le 5, 3) := by decide +kernel
theorem dX1_putTower_28 : decode cX1_putTower 28 = .ok (.iconst 0, 1) := by decide +kernel
theorem dX1_putTower_29 : decode cX1_putTower 29 = .ok (.ireturn, 1) := by decide +kernel
theorem dX1_putTower_30 : decode cX1_putTower 30 = .ok (.aload_n 0, 1) := by decide +kernel
theorem dX1_putTower_31 : decode cX1_putTower 31 = .ok (.getfield 35, 3) := by decide +kernel
theorem dX1_putTower_34 : decode cX1_putTower 34 = .ok (.istore 4, 2) := by decide +kernel
theorem dX1_putTower_36 : decode cX1_putTower 36 = .ok (.iload 4, 2) := by decide +kernel
theorem dX1_putTower_38 : decode cX1_putTower 38 = .ok (.iload_n 1, 1) := by decide +kernel
theorem dX1_putTower_39 : decode cX1_putTower 39 = .ok (.if_icmp .le 41, 3) := by decide +kernel
theorem dX1_putTower_42 : decode cX1_putTower 42 = .ok (.aload_n 0, 1) := by decide +kernel
theorem dX1_putTower_43 : decode cX1_putTower 43 = .ok (.getfield 15, 3) := by decide +kernel
theorem dX1_putTower_46 : decode cX1_putTower 46 = .ok (.iload 4, 2) := by decide +kernel
theorem dX1_putTower_48 : decode cX1_putTower 48 = .ok (.aload_n 0, 1) := by decide +kernel
theorem dX1_putTower_49 : decode cX1_putTower 49 = .ok (.getfield 15, 3) := by decide +kernel
theorem dX1_putTower_52 : decode cX1_putTower 52 = .ok (.iload 4, 2) := by decide +kernel
theorem dX1_putTower_54 : decode cX1_putTower 54 = .ok (.iconst 1, 1) := by decide +kernel
theorem dX1_putTower_55 : decode cX1_putTower 55 = .ok (.isub, 1) := by decide +kernel
theorem dX1_putTower_56 : decode cX1_putTower 56 = .ok (.iaload, 1) := by decide +kernel
theorem dX1_putTower_57 : decode cX1_putTower 57 = .ok (.iastore, 1) := by decide +kernel
theorem dX1_putTower_58 : decode cX1_putTower 58 = .ok (.aload_n 0, 1) := by decide +kernel
theorem dX1_putTower_59 : decode cX1_putTower 59 = .ok (.getfield 18, 3) := by decide +kernel
theorem dX1_putTower_62 : decode cX1_putTower 62 = .ok (.iload 4, 2) := by decide +kernel
theorem dX1_putTower_64 : decode cX1_putTower 64 = .ok (.aload_n 0, 1) := by decide +kernel
theorem dX1_putTower_65 : decode cX1_putTower 65 = .ok (.getfield 18, 3) := by decide +kernel
theorem dX1_putTower_68 : decode cX1_putTower 68 = .ok (.iload 4, 2) := by decide +kernel
theorem dX1_putTower_70 : decode cX1_putTower 70 = .ok (.iconst 1, 1) := by decide +kernel
theorem dX1_putTower_71 : decode cX1_putTower 71 = .ok (.isub, 1) := by decide +kernel
theorem dX1_putTower_72 : decode cX1_putTower 72 = .ok (.iaload, 1) := by decide +kernel
theorem dX1_putTower_73 : decode cX1_putTower 73 = .ok (.iastore, 1) := by decide +kernel
theorem dX1_putTower_74 : decode cX1_putTower 74 = .ok (.iinc 4 (-1), 3) := by decide +kernel
theorem dX1_putTower_77 : decode cX1_putTower 77 = .ok (.goto (-41), 3) := by decide +kernel
theorem dX1_putTower_80 : decode cX1_putTower 80 = .ok (.aload_n 0, 1) := by decide +kernel
theorem dX1_putTower_81 : decode cX1_putTower 81 = .ok (.getfield 15, 3) := by decide +kernel
theorem dX1_putTower_84 : decode cX1_putTower 84 = .ok (.iload_n 1, 1) := by decide +kernel
theorem dX1_putTower_85 : decode cX1_putTower 85 = .ok (.iload_n 2, 1) := by decide +kernel
theorem dX1_putTower_86 : decode cX1_putTower 86 = .ok (.iastore, 1) := by decide +kernel
theorem dX1_putTower_87 : decode cX1_putTower 87 = .ok (.aload_n 0, 1) := by decide +kernel
theorem dX1_putTower_88 : decode cX1_putTower 88 = .ok (.getfield 18, 3) := by decide +kernel
theorem dX1_putTower_91 : decode cX1_putTower 91 = .ok (.iload_n 1, 1) := by decide +kernel
theorem dX1_putTower_92 : decode cX1_putTower 92 = .ok (.iload_n 3, 1) := by decide +kernel
theorem dX1_putTower_93 : decode cX1_putTower 93 = .ok (.iastore, 1) := by decide +kernel
theorem dX1_putTower_94 : decode cX1_putTower 94 = .ok (.aload_n 0, 1) := by decide +kernel
theorem dX1_putTower_95 : decode cX1_putTower 95 = .ok (.dup, 1) := by decide +kernel
theorem dX1_putTower_96 : decode cX1_putTower 96 = .ok (.getfield 35, 3) := by decide +kernel
theorem dX1_putTower_99 : decode cX1_putTower 99 = .ok (.iconst 1, 1) := by decide +kernel
theorem dX1_putTower_100 : decode cX1_putTower 100 = .ok (.iadd, 1) := by decide +kernel
theorem dX1_putTower_101 : decode cX1_putTower 101 = .ok (.putfield 35, 3) := by decide +kernel
theorem dX1_putTower_104 : decode cX1_putTower 104 = .ok (.iconst 1, 1) := by decide +kernel
theorem dX1_putTower_105 : decode cX1_putTower 105 = .ok (.ireturn, 1) := by decide +kernel
theorem dX1_dropTower_0 : decode cX1_dropTower 0 = .ok (.aload_n 0, 1) := by decide +kernel
theorem dX1_dropTower_1 : decode cX1_dropTower 1 = .ok (.iload_n 1, 1) := by decide +kernel
theorem dX1_dropTower_2 : decode cX1_dropTower 2 = .ok (.invokevirtual 54, 3) := by decide +kernel
theorem dX1_dropTower_5 : decode cX1_dropTower 5 = .ok (.ifCond .ne 5, 3) := by decide +kernel
theorem dX1_dropTower_8 : decode cX1_dropTower 8 = .ok (.iconst 0, 1) := by decide +kernel
theorem dX1_dropTower_9 : decode cX1_dropTower 9 = .ok (.ireturn, 1) := by decide +kernel
theorem dX1_dropTower_10 : decode cX1_dropTower 10 = .ok (.iload_n 1, 1) := by decide +kernel
theorem dX1_dropTower_11 : decode cX1_dropTower 11 = .ok (.iconst 1, 1) := by decide +kernel
theorem dX1_dropTower_12 : decode cX1_dropTower 12 = .ok (.iadd, 1) := by decide +kernel
theorem dX1_dropTower_13 : decode cX1_dropTower 13 = .ok (.istore_n 2, 1) := by decide +kernel
theorem dX1_dropTower_14 : decode cX1_dropTower 14 = .ok (.iload_n 2, 1) := by decide +kernel
theorem dX1_dropTower_15 : decode cX1_dropTower 15 = .ok (.aload_n 0, 1) := by decide +kernel
theorem dX1_dropTower_16 : decode cX1_dropTower 16 = .ok (.getfield 35, 3) := by decide +kernel
theorem dX1_dropTower_19 : decode cX1_dropTower 19 = .ok (.if_icmp .ge 42, 3) := by decide +kernel
theorem dX1_dropTower_22 : decode cX1_dropTower 22 = .ok (.iload_n 2, 1) := by decide +kernel
theorem dX1_dropTower_23 : decode cX1_dropTower 23 = .ok (.iconst 5, 1) := by decide +kernel
theorem dX1_dropTower_24 : decode cX1_dropTower 24 = .ok (.if_icmp .ge 37, 3) := by decide +kernel
theorem dX1_dropTower_27 : decode cX1_dropTower 27 = .ok (.aload_n 0, 1) := by decide +kernel
theorem dX1_dropTower_28 : decode cX1_dropTower 28 = .ok (.getfield 15, 3) := by decide +kernel
theorem dX1_dropTower_31 : decode cX1_dropTower 31 = .ok (.iload_n 2, 1) := by decide +kernel
theorem dX1_dropTower_32 : decode cX1_dropTower 32 = .ok (.iconst 1, 1) := by decide +kernel
theorem dX1_dropTower_33 : decode cX1_dropTower 33 = .ok (.isub, 1) := by decide +kernel
theorem dX1_dropTower_34 : decode cX1_dropTower 34 = .ok (.aload_n 0, 1) := by decide +kernel
theorem dX1_dropTower_35 : decode cX1_dropTower 35 = .ok (.getfield 15, 3) := by decide +kernel
theorem dX1_dropTower_38 : decode cX1_dropTower 38 = .ok (.iload_n 2, 1) := by decide +kernel
theorem dX1_dropTower_39 : decode cX1_dropTower 39 = .ok (.iaload, 1) := by decide +kernel
theorem dX1_dropTower_40 : decode cX1_dropTower 40 = .ok (.iastore, 1) := by decide +kernel
theorem dX1_dropTower_41 : decode cX1_dropTower 41 = .ok (.aload_n 0, 1) := by decide +kernel
theorem dX1_dropTower_42 : decode cX1_dropTower 42 = .ok (.getfield 18, 3) := by decide +kernel
theorem dX1_dropTower_45 : decode cX1_dropTower 45 = .ok (.iload_n 2, 1) := by decide +kernel
theorem dX1_dropTower_46 : decode cX1_dropTower 46 = .ok (.iconst 1, 1) := by decide +kernel
theorem dX1_dropTower_47 : decode cX1_dropTower 47 = .ok (.isub, 1) := by decide +kernel
theorem dX1_dropTower_48 : decode cX1_dropTower 48 = .ok (.aload_n 0, 1) := by decide +kernel
theorem dX1_dropTower_49 : decode cX1_dropTower 49 = .ok (.getfield 18, 3) := by decide +kernel
theorem dX1_dropTower_52 : decode cX1_dropTower 52 = .ok (.iload_n 2, 1) := by decide +kernel
theorem dX1_dropTower_53 : decode cX1_dropTower 53 = .ok (.iaload, 1) := by decide +kernel
theorem dX1_dropTower_54 : decode cX1_dropTower 54 = .ok (.iastore, 1) := by decide +kernel
theorem dX1_dropTower_55 : decode cX1_dropTower 55 = .ok (.iinc 2 1, 3) := by decide +kernel
theorem dX1_dropTower_58 : decode cX1_dropTower 58 = .ok (.goto (-44), 3) := by decide +kernel
theorem dX1_dropTower_61 : decode cX1_dropTower 61 = .ok (.aload_n 0, 1) := by decide +kernel
theorem dX1_dropTower_62 : decode cX1_dropTower 62 = .ok (.dup, 1) := by decide +kernel
theorem dX1_dropTower_63 : decode cX1_dropTower 63 = .ok (.getfield 35, 3) := by decide +kernel
theorem dX1_dropTower_66 : decode cX1_dropTower 66 = .ok (.iconst 1, 1) := by decide +kernel
theorem dX1_dropTower_67 : decode cX1_dropTower 67 = .ok (.isub, 1) := by decide +kernel
theorem dX1_dropTower_68 : decode cX1_dropTower 68 = .ok (.putfield 35, 3) := by decide +kernel
theorem dX1_dropTower_71 : decode cX1_dropTower 71 = .ok (.iconst 1, 1) := by decide +kernel
theorem dX1_dropTower_72 : decode cX1_dropTower 72 = .ok (.ireturn, 1) := by decide +kernel
theorem dX1_putSetting_0 : decode cX1_putSetting 0 = .ok (.iload_n 1, 1) := by decide +kernel
theorem dX1_putSetting_1 : decode cX1_putSetting 1 = .ok (.iload_n 2, 1) := by decide +kernel
theorem dX1_putSetting_2 : decode cX1_putSetting 2 = .ok (.invokestatic 57, 3) := by decide +kernel
theorem dX1_putSetting_5 : decode cX1_putSetting 5 = .ok (.ifCond .ne 5, 3) := by decide +kernel
theorem dX1_putSetting_8 : decode cX1_putSetting 8 = .ok (.iconst 0, 1) := by decide +kernel
theorem dX1_putSetting_9 : decode cX1_putSetting 9 = .ok (.ireturn, 1) := by decide +kernel
theorem dX1_putSetting_10 : decode cX1_putSetting 10 = .ok (.aload_n 0, 1) := by decide +kernel
theorem dX1_putSetting_11 : decode cX1_putSetting 11 = .ok (.getfield 21, 3) := by decide +kernel
theorem dX1_putSetting_14 : decode cX1_putSetting 14 = .ok (.iload_n 1, 1) := by decide +kernel
theorem dX1_putSetting_15 : decode cX1_putSetting 15 = .ok (.iload_n 2, 1) := by decide +kernel
theorem dX1_putSetting_16 : decode cX1_putSetting 16 = .ok (.iastore, 1) := by decide +kernel
theorem dX1_putSetting_17 : decode cX1_putSetting 17 = .ok (.iconst 1, 1) := by decide +kernel
theorem dX1_putSetting_18 : decode cX1_putSetting 18 = .ok (.ireturn, 1) := by decide +kernel
theorem dX1_distance_0 : decode cX1_distance 0 = .ok (.aload_n 0, 1) := by decide +kernel
theorem dX1_distance_1 : decode cX1_distance 1 = .ok (.iload_n 1, 1) := by decide +kernel
theorem dX1_distance_2 : decode cX1_distance 2 = .ok (.invokevirtual 61, 3) := by decide +kernel
theorem dX1_distance_5 : decode cX1_distance 5 = .ok (.aload_n 0, 1) := by decide +kernel
theorem dX1_distance_6 : decode cX1_distance 6 = .ok (.iload_n 2, 1) := by decide +kernel
theorem dX1_distance_7 : decode cX1_distance 7 = .ok (.invokevirtual 61, 3) := by decide +kernel
theorem dX1_distance_10 : decode cX1_distance 10 = .ok (.isub, 1) := by decide +kernel
theorem dX1_distance_11 : decode cX1_distance 11 = .ok (.invokestatic 65, 3) := by decide +kernel
theorem dX1_distance_14 : decode cX1_distance 14 = .ok (.istore_n 3, 1) := by decide +kernel
theorem dX1_distance_15 : decode cX1_distance 15 = .ok (.aload_n 0, 1) := by decide +kernel
theorem dX1_distance_16 : decode cX1_distance 16 = .ok (.iload_n 1, 1) := by decide +kernel
theorem dX1_distance_17 : decode cX1_distance 17 = .ok (.invokevirtual 70, 3) := by decide +kernel
theorem dX1_distance_20 : decode cX1_distance 20 = .ok (.aload_n 0, 1) := by decide +kernel
theorem dX1_distance_21 : decode cX1_distance 21 = .ok (.iload_n 2, 1) := by decide +kernel
theorem dX1_distance_22 : decode cX1_distance 22 = .ok (.invokevirtual 70, 3) := by decide +kernel
theorem dX1_distance_25 : decode cX1_distance 25 = .ok (.isub, 1) := by decide +kernel
theorem dX1_distance_26 : decode cX1_distance 26 = .ok (.invokestatic 65, 3) := by decide +kernel
theorem dX1_distance_29 : decode cX1_distance 29 = .ok (.istore 4, 2) := by decide +kernel
theorem dX1_distance_31 : decode cX1_distance 31 = .ok (.iload_n 3, 1) := by decide +kernel
theorem dX1_distance_32 : decode cX1_distance 32 = .ok (.iload 4, 2) := by decide +kernel
theorem dX1_distance_34 : decode cX1_distance 34 = .ok (.invokestatic 73, 3) := by decide +kernel
theorem dX1_distance_37 : decode cX1_distance 37 = .ok (.ireturn, 1) := by decide +kernel
theorem dX1_cellAtStep_0 : decode cX1_cellAtStep 0 = .ok (.iload_n 3, 1) := by decide +kernel
theorem dX1_cellAtStep_1 : decode cX1_cellAtStep 1 = .ok (.iconst 1, 1) := by decide +kernel
theorem dX1_cellAtStep_2 : decode cX1_cellAtStep 2 = .ok (.if_icmp .lt 11, 3) := by decide +kernel
theorem dX1_cellAtStep_5 : decode cX1_cellAtStep 5 = .ok (.aload_n 0, 1) := by decide +kernel
theorem dX1_cellAtStep_6 : decode cX1_cellAtStep 6 = .ok (.getfield 28, 3) := by decide +kernel
theorem dX1_cellAtStep_9 : decode cX1_cellAtStep 9 = .ok (.iconst 1, 1) := by decide +kernel
theorem dX1_cellAtStep_10 : decode cX1_cellAtStep 10 = .ok (.if_icmp .ge 5, 3) := by decide +kernel
theorem dX1_cellAtStep_13 : decode cX1_cellAtStep 13 = .ok (.iload_n 1, 1) := by decide +kernel
theorem dX1_cellAtStep_14 : decode cX1_cellAtStep 14 = .ok (.ireturn, 1) := by decide +kernel
theorem dX1_cellAtStep_15 : decode cX1_cellAtStep 15 = .ok (.iload_n 3, 1) := by decide +kernel
theorem dX1_cellAtStep_16 : decode cX1_cellAtStep 16 = .ok (.iload 4, 2) := by decide +kernel
theorem dX1_cellAtStep_18 : decode cX1_cellAtStep 18 = .ok (.isub, 1) := by decide +kernel
theorem dX1_cellAtStep_19 : decode cX1_cellAtStep 19 = .ok (.istore 6, 2) := by decide +kernel
theorem dX1_cellAtStep_21 : decode cX1_cellAtStep 21 = .ok (.iconst 2, 1) := by decide +kernel
theorem dX1_cellAtStep_22 : decode cX1_cellAtStep 22 = .ok (.iload_n 1, 1) := by decide +kernel
theorem dX1_cellAtStep_23 : decode cX1_cellAtStep 23 = .ok (.aload_n 0, 1) := by decide +kernel
theorem dX1_cellAtStep_24 : decode cX1_cellAtStep 24 = .ok (.getfield 28, 3) := by decide +kernel
theorem dX1_cellAtStep_27 : decode cX1_cellAtStep 27 = .ok (.irem, 1) := by decide +kernel
theorem dX1_cellAtStep_28 : decode cX1_cellAtStep 28 = .ok (.iload 6, 2) := by decide +kernel
theorem dX1_cellAtStep_30 : decode cX1_cellAtStep 30 = .ok (.imul, 1) := by decide +kernel
theorem dX1_cellAtStep_31 : decode cX1_cellAtStep 31 = .ok (.iload_n 2, 1) := by decide +kernel
theorem dX1_cellAtStep_32 : decode cX1_cellAtStep 32 = .ok (.aload_n 0, 1) := by decide +kernel
theorem dX1_cellAtStep_33 : decode cX1_cellAtStep 33 = .ok (.getfield 28, 3) := by decide +kernel
theorem dX1_cellAtStep_36 : decode cX1_cellAtStep 36 = .ok (.irem, 1) := by decide +kernel
theorem dX1_cellAtStep_37 : decode cX1_cellAtStep 37 = .ok (.iload 4, 2) := by decide +kernel
theorem dX1_cellAtStep_39 : decode cX1_cellAtStep 39 = .ok (.imul, 1) := by decide +kernel
theorem dX1_cellAtStep_40 : decode cX1_cellAtStep 40 = .ok (.iadd, 1) := by decide +kernel
theorem dX1_cellAtStep_41 : decode cX1_cellAtStep 41 = .ok (.imul, 1) := by decide +kernel
theorem dX1_cellAtStep_42 : decode cX1_cellAtStep 42 = .ok (.iload_n 3, 1) := by decide +kernel
theorem dX1_cellAtStep_43 : decode cX1_cellAtStep 43 = .ok (.iadd, 1) := by decide +kernel
theorem dX1_cellAtStep_44 : decode cX1_cellAtStep 44 = .ok (.iload 5, 2) := by decide +kernel
theorem dX1_cellAtStep_46 : decode cX1_cellAtStep 46 = .ok (.isub, 1) := by decide +kernel
theorem dX1_cellAtStep_47 : decode cX1_cellAtStep 47 = .ok (.iconst 2, 1) := by decide +kernel
theorem dX1_cellAtStep_48 : decode cX1_cellAtStep 48 = .ok (.iload_n 3, 1) := by decide +kernel
theorem dX1_cellAtStep_49 : decode cX1_cellAtStep 49 = .ok (.imul, 1) := by decide +kernel
theorem dX1_cellAtStep_50 : decode cX1_cellAtStep 50 = .ok (.idiv, 1) := by decide +kernel
theorem dX1_cellAtStep_51 : decode cX1_cellAtStep 51 = .ok (.istore 7, 2) := by decide +kernel
theorem dX1_cellAtStep_53 : decode cX1_cellAtStep 53 = .ok (.iconst 2, 1) := by decide +kernel
theorem dX1_cellAtStep_54 : decode cX1_cellAtStep 54 = .ok (.iload_n 1, 1) := by decide +kernel
theorem dX1_cellAtStep_55 : decode cX1_cellAtStep 55 = .ok (.aload_n 0, 1) := by decide +kernel
theorem dX1_cellAtStep_56 : decode cX1_cellAtStep 56 = .ok (.getfield 28, 3) := by decide +kernel
theorem dX1_cellAtStep_59 : decode cX1_cellAtStep 59 = .ok (.idiv, 1) := by decide +kernel
theorem dX1_cellAtStep_60 : decode cX1_cellAtStep 60 = .ok (.iload 6, 2) := by decide +kernel
theorem dX1_cellAtStep_62 : decode cX1_cellAtStep 62 = .ok (.imul, 1) := by decide +kernel
theorem dX1_cellAtStep_63 : decode cX1_cellAtStep 63 = .ok (.iload_n 2, 1) := by decide +kernel
theorem dX1_cellAtStep_64 : decode cX1_cellAtStep 64 = .ok (.aload_n 0, 1) := by decide +kernel
theorem dX1_cellAtStep_65 : decode cX1_cellAtStep 65 = .ok (.getfield 28, 3) := by decide +kernel
theorem dX1_cellAtStep_68 : decode cX1_cellAtStep 68 = .ok (.idiv, 1) := by decide +kernel
theorem dX1_cellAtStep_69 : decode cX1_cellAtStep 69 = .ok (.iload 4, 2) := by decide +kernel
theorem dX1_cellAtStep_71 : decode cX1_cellAtStep 71 = .ok (.imul, 1) := by decide +kernel
theorem dX1_cellAtStep_72 : decode cX1_cellAtStep 72 = .ok (.iadd, 1) := by decide +kernel
theorem dX1_cellAtStep_73 : decode cX1_cellAtStep 73 = .ok (.imul, 1) := by decide +kernel
theorem dX1_cellAtStep_74 : decode cX1_cellAtStep 74 = .ok (.iload_n 3, 1) := by decide +kernel
theorem dX1_cellAtStep_75 : decode cX1_cellAtStep 75 = .ok (.iadd, 1) := by decide +kernel
theorem dX1_cellAtStep_76 : decode cX1_cellAtStep 76 = .ok (.iload 5, 2) := by decide +kernel
theorem dX1_cellAtStep_78 : decode cX1_cellAtStep 78 = .ok (.isub, 1) := by decide +kernel
theorem dX1_cellAtStep_79 : decode cX1_cellAtStep 79 = .ok (.iconst 2, 1) := by decide +kernel
theorem dX1_cellAtStep_80 : decode cX1_cellAtStep 80 = .ok (.iload_n 3, 1) := by decide +kernel
theorem dX1_cellAtStep_81 : decode cX1_cellAtStep 81 = .ok (.imul, 1) := by decide +kernel
theorem dX1_cellAtStep_82 : decode cX1_cellAtStep 82 = .ok (.idiv, 1) := by decide +kernel
theorem dX1_cellAtStep_83 : decode cX1_cellAtStep 83 = .ok (.istore 8, 2) := by decide +kernel
theorem dX1_cellAtStep_85 : decode cX1_cellAtStep 85 = .ok (.iload 8, 2) := by decide +kernel
theorem dX1_cellAtStep_87 : decode cX1_cellAtStep 87 = .ok (.aload_n 0, 1) := by decide +kernel
theorem dX1_cellAtStep_88 : decode cX1_cellAtStep 88 = .ok (.getfield 28, 3) := by decide +kernel
theorem dX1_cellAtStep_91 : decode cX1_cellAtStep 91 = .ok (.imul, 1) := by decide +kernel
theorem dX1_cellAtStep_92 : decode cX1_cellAtStep 92 = .ok (.iload 7, 2) := by decide +kernel
theorem dX1_cellAtStep_94 : decode cX1_cellAtStep 94 = .ok (.iadd, 1) := by decide +kernel
theorem dX1_cellAtStep_95 : decode cX1_cellAtStep 95 = .ok (.ireturn, 1) := by decide +kernel
theorem dX1_excess_0 : decode cX1_excess 0 = .ok (.aload_n 0, 1) := by decide +kernel
theorem dX1_excess_1 : decode cX1_excess 1 = .ok (.aload_n 0, 1) := by decide +kernel
theorem dX1_excess_2 : decode cX1_excess 2 = .ok (.iload_n 1, 1) := by decide +kernel
theorem dX1_excess_3 : decode cX1_excess 3 = .ok (.iload_n 3, 1) := by decide +kernel
theorem dX1_excess_4 : decode cX1_excess 4 = .ok (.iload 4, 2) := by decide +kernel
theorem dX1_excess_6 : decode cX1_excess 6 = .ok (.iload 5, 2) := by decide +kernel
theorem dX1_excess_8 : decode cX1_excess 8 = .ok (.iconst 0, 1) := by decide +kernel
theorem dX1_excess_9 : decode cX1_excess 9 = .ok (.invokevirtual 77, 3) := by decide +kernel
theorem dX1_excess_12 : decode cX1_excess 12 = .ok (.invokevirtual 81, 3) := by decide +kernel
theorem dX1_excess_15 : decode cX1_excess 15 = .ok (.istore 6, 2) := by decide +kernel
theorem dX1_excess_17 : decode cX1_excess 17 = .ok (.aload_n 0, 1) := by decide +kernel
theorem dX1_excess_18 : decode cX1_excess 18 = .ok (.aload_n 0, 1) := by decide +kernel
theorem dX1_excess_19 : decode cX1_excess 19 = .ok (.iload_n 1, 1) := by decide +kernel
theorem dX1_excess_20 : decode cX1_excess 20 = .ok (.iload_n 3, 1) := by decide +kernel
theorem dX1_excess_21 : decode cX1_excess 21 = .ok (.iload 4, 2) := by decide +kernel
theorem dX1_excess_23 : decode cX1_excess 23 = .ok (.iload 5, 2) := by decide +kernel
theorem dX1_excess_25 : decode cX1_excess 25 = .ok (.iconst 1, 1) := by decide +kernel
theorem dX1_excess_26 : decode cX1_excess 26 = .ok (.invokevirtual 77, 3) := by decide +kernel
theorem dX1_excess_29 : decode cX1_excess 29 = .ok (.invokevirtual 81, 3) := by decide +kernel
theorem dX1_excess_32 : decode cX1_excess 32 = .ok (.istore 7, 2) := by decide +kernel
theorem dX1_excess_34 : decode cX1_excess 34 = .ok (.iload 4, 2) := by decide +kernel
theorem dX1_excess_36 : decode cX1_excess 36 = .ok (.iload 5, 2) := by decide +kernel
theorem dX1_excess_38 : decode cX1_excess 38 = .ok (.isub, 1) := by decide +kernel
theorem dX1_excess_39 : decode cX1_excess 39 = .ok (.istore 8, 2) := by decide +kernel
theorem dX1_excess_41 : decode cX1_excess 41 = .ok (.aload_n 0, 1) := by decide +kernel
theorem dX1_excess_42 : decode cX1_excess 42 = .ok (.iload_n 1, 1) := by decide +kernel
theorem dX1_excess_43 : decode cX1_excess 43 = .ok (.invokevirtual 81, 3) := by decide +kernel
theorem dX1_excess_46 : decode cX1_excess 46 = .ok (.iload_n 2, 1) := by decide +kernel
theorem dX1_excess_47 : decode cX1_excess 47 = .ok (.iadd, 1) := by decide +kernel
theorem dX1_excess_48 : decode cX1_excess 48 = .ok (.istore 9, 2) := by decide +kernel
theorem dX1_excess_50 : decode cX1_excess 50 = .ok (.aload_n 0, 1) := by decide +kernel
theorem dX1_excess_51 : decode cX1_excess 51 = .ok (.iload_n 3, 1) := by decide +kernel
theorem dX1_excess_52 : decode cX1_excess 52 = .ok (.invokevirtual 81, 3) := by decide +kernel
theorem dX1_excess_55 : decode cX1_excess 55 = .ok (.aload_n 0, 1) := by decide +kernel
theorem dX1_excess_56 : decode cX1_excess 56 = .ok (.getfield 21, 3) := by decide +kernel
theorem dX1_excess_59 : decode cX1_excess 59 = .ok (.iconst 1, 1) := by decide +kernel
theorem dX1_excess_60 : decode cX1_excess 60 = .ok (.iaload, 1) := by decide +kernel
theorem dX1_excess_61 : decode cX1_excess 61 = .ok (.iadd, 1) := by decide +kernel
theorem dX1_excess_62 : decode cX1_excess 62 = .ok (.istore 10, 2) := by decide +kernel
theorem dX1_excess_64 : decode cX1_excess 64 = .ok (.bipush 10, 2) := by decide +kernel
theorem dX1_excess_66 : decode cX1_excess 66 = .ok (.iload 4, 2) := by decide +kernel
theorem dX1_excess_68 : decode cX1_excess 68 = .ok (.imul, 1) := by decide +kernel
theorem dX1_excess_69 : decode cX1_excess 69 = .ok (.iload 6, 2) := by decide +kernel
theorem dX1_excess_71 : decode cX1_excess 71 = .ok (.iload 7, 2) := by decide +kernel
theorem dX1_excess_73 : decode cX1_excess 73 = .ok (.invokestatic 73, 3) := by decide +kernel
theorem dX1_excess_76 : decode cX1_excess 76 = .ok (.imul, 1) := by decide +kernel
theorem dX1_excess_77 : decode cX1_excess 77 = .ok (.iload 4, 2) := by decide +kernel
theorem dX1_excess_79 : decode cX1_excess 79 = .ok (.aload_n 0, 1) := by decide +kernel
theorem dX1_excess_80 : decode cX1_excess 80 = .ok (.getfield 21, 3) := by decide +kernel
theorem dX1_excess_83 : decode cX1_excess 83 = .ok (.iconst 2, 1) := by decide +kernel
theorem dX1_excess_84 : decode cX1_excess 84 = .ok (.iaload, 1) := by decide +kernel
theorem dX1_excess_85 : decode cX1_excess 85 = .ok (.imul, 1) := by decide +kernel
theorem dX1_excess_86 : decode cX1_excess 86 = .ok (.iload 5, 2) := by decide +kernel
theorem dX1_excess_88 : decode cX1_excess 88 = .ok (.imul, 1) := by decide +kernel
theorem dX1_excess_89 : decode cX1_excess 89 = .ok (.iload 8, 2) := by decide +kernel
theorem dX1_excess_91 : decode cX1_excess 91 = .ok (.imul, 1) := by decide +kernel
theorem dX1_excess_92 : decode cX1_excess 92 = .ok (.iadd, 1) := by decide +kernel
theorem dX1_excess_93 : decode cX1_excess 93 = .ok (.bipush 10, 2) := by decide +kernel
theorem dX1_excess_95 : decode cX1_excess 95 = .ok (.iload 9, 2) := by decide +kernel
theorem dX1_excess_97 : decode cX1_excess 97 = .ok (.iload 8, 2) := by decide +kernel
theorem dX1_excess_99 : decode cX1_excess 99 = .ok (.imul, 1) := by decide +kernel
theorem dX1_excess_100 : decode cX1_excess 100 = .ok (.iload 10, 2) := by decide +kernel
theorem dX1_excess_102 : decode cX1_excess 102 = .ok (.iload 5, 2) := by decide +kernel
theorem dX1_excess_104 : decode cX1_excess 104 = .ok (.imul, 1) := by decide +kernel
theorem dX1_excess_105 : decode cX1_excess 105 = .ok (.iadd, 1) := by decide +kernel
theorem dX1_excess_106 : decode cX1_excess 106 = .ok (.imul, 1) := by decide +kernel
theorem dX1_excess_107 : decode cX1_excess 107 = .ok (.isub, 1) := by decide +kernel
theorem dX1_excess_108 : decode cX1_excess 108 = .ok (.ireturn, 1) := by decide +kernel
theorem dX1_canSee_0 : decode cX1_canSee 0 = .ok (.aload_n 0, 1) := by decide +kernel
theorem dX1_canSee_1 : decode cX1_canSee 1 = .ok (.iload_n 1, 1) := by decide +kernel
theorem dX1_canSee_2 : decode cX1_canSee 2 = .ok (.iload_n 3, 1) := by decide +kernel
theorem dX1_canSee_3 : decode cX1_canSee 3 = .ok (.invokevirtual 84, 3) := by decide +kernel
theorem dX1_canSee_6 : decode cX1_canSee 6 = .ok (.istore 4, 2) := by decide +kernel
theorem dX1_canSee_8 : decode cX1_canSee 8 = .ok (.iload 4, 2) := by decide +kernel
theorem dX1_canSee_10 : decode cX1_canSee 10 = .ok (.aload_n 0, 1) := by decide +kernel
theorem dX1_canSee_11 : decode cX1_canSee 11 = .ok (.getfield 21, 3) := by decide +kernel
theorem dX1_canSee_14 : decode cX1_canSee 14 = .ok (.iconst 3, 1) := by decide +kernel
theorem dX1_canSee_15 : decode cX1_canSee 15 = .ok (.iaload, 1) := by decide +kernel
theorem dX1_canSee_16 : decode cX1_canSee 16 = .ok (.if_icmp .le 5, 3) := by decide +kernel
theorem dX1_canSee_19 : decode cX1_canSee 19 = .ok (.iconst 0, 1) := by decide +kernel
theorem dX1_canSee_20 : decode cX1_canSee 20 = .ok (.ireturn, 1) := by decide +kernel
theorem dX1_canSee_21 : decode cX1_canSee 21 = .ok (.iconst 1, 1) := by decide +kernel
theorem dX1_canSee_22 : decode cX1_canSee 22 = .ok (.istore 5, 2) := by decide +kernel
theorem dX1_canSee_24 : decode cX1_canSee 24 = .ok (.iload 5, 2) := by decide +kernel
theorem dX1_canSee_26 : decode cX1_canSee 26 = .ok (.iload 4, 2) := by decide +kernel
theorem dX1_canSee_28 : decode cX1_canSee 28 = .ok (.if_icmp .ge 25, 3) := by decide +kernel
theorem dX1_canSee_31 : decode cX1_canSee 31 = .ok (.aload_n 0, 1) := by decide +kernel
theorem dX1_canSee_32 : decode cX1_canSee 32 = .ok (.iload_n 1, 1) := by decide +kernel
theorem dX1_canSee_33 : decode cX1_canSee 33 = .ok (.iload_n 2, 1) := by decide +kernel
theorem dX1_canSee_34 : decode cX1_canSee 34 = .ok (.iload_n 3, 1) := by decide +kernel
theorem dX1_canSee_35 : decode cX1_canSee 35 = .ok (.iload 4, 2) := by decide +kernel
theorem dX1_canSee_37 : decode cX1_canSee 37 = .ok (.iload 5, 2) := by decide +kernel
theorem dX1_canSee_39 : decode cX1_canSee 39 = .ok (.invokevirtual 87, 3) := by decide +kernel
theorem dX1_canSee_42 : decode cX1_canSee 42 = .ok (.ifCond .le 5, 3) := by decide +kernel
theorem dX1_canSee_45 : decode cX1_canSee 45 = .ok (.iconst 0, 1) := by decide +kernel
theorem dX1_canSee_46 : decode cX1_canSee 46 = .ok (.ireturn, 1) := by decide +kernel
theorem dX1_canSee_47 : decode cX1_canSee 47 = .ok (.iinc 5 1, 3) := by decide +kernel
theorem dX1_canSee_50 : decode cX1_canSee 50 = .ok (.goto (-26), 3) := by decide +kernel
theorem dX1_canSee_53 : decode cX1_canSee 53 = .ok (.iconst 1, 1) := by decide +kernel
theorem dX1_canSee_54 : decode cX1_canSee 54 = .ok (.ireturn, 1) := by decide +kernel
theorem dX1_firstBlock_0 : decode cX1_firstBlock 0 = .ok (.aload_n 0, 1) := by decide +kernel
theorem dX1_firstBlock_1 : decode cX1_firstBlock 1 = .ok (.iload_n 1, 1) := by decide +kernel
theorem dX1_firstBlock_2 : decode cX1_firstBlock 2 = .ok (.iload_n 3, 1) := by decide +kernel
theorem dX1_firstBlock_3 : decode cX1_firstBlock 3 = .ok (.invokevirtual 84, 3) := by decide +kernel
theorem dX1_firstBlock_6 : decode cX1_firstBlock 6 = .ok (.istore 4, 2) := by decide +kernel
theorem dX1_firstBlock_8 : decode cX1_firstBlock 8 = .ok (.iconst 1, 1) := by decide +kernel
theorem dX1_firstBlock_9 : decode cX1_firstBlock 9 = .ok (.istore 5, 2) := by decide +kernel
theorem dX1_firstBlock_11 : decode cX1_firstBlock 11 = .ok (.iload 5, 2) := by decide +kernel
theorem dX1_firstBlock_13 : decode cX1_firstBlock 13 = .ok (.iload 4, 2) := by decide +kernel
theorem dX1_firstBlock_15 : decode cX1_firstBlock 15 = .ok (.if_icmp .ge 26, 3) := by decide +kernel
theorem dX1_firstBlock_18 : decode cX1_firstBlock 18 = .ok (.aload_n 0, 1) := by decide +kernel
theorem dX1_firstBlock_19 : decode cX1_firstBlock 19 = .ok (.iload_n 1, 1) := by decide +kernel
theorem dX1_firstBlock_20 : decode cX1_firstBlock 20 = .ok (.iload_n 2, 1) := by decide +kernel
theorem dX1_firstBlock_21 : decode cX1_firstBlock 21 = .ok (.iload_n 3, 1) := by decide +kernel
theorem dX1_firstBlock_22 : decode cX1_firstBlock 22 = .ok (.iload 4, 2) := by decide +kernel
theorem dX1_firstBlock_24 : decode cX1_firstBlock 24 = .ok (.iload 5, 2) := by decide +kernel
theorem dX1_firstBlock_26 : decode cX1_firstBlock 26 = .ok (.invokevirtual 87, 3) := by decide +kernel
theorem dX1_firstBlock_29 : decode cX1_firstBlock 29 = .ok (.ifCond .le 6, 3) := by decide +kernel
theorem dX1_firstBlock_32 : decode cX1_firstBlock 32 = .ok (.iload 5, 2) := by decide +kernel
theorem dX1_firstBlock_34 : decode cX1_firstBlock 34 = .ok (.ireturn, 1) := by decide +kernel
theorem dX1_firstBlock_35 : decode cX1_firstBlock 35 = .ok (.iinc 5 1, 3) := by decide +kernel
theorem dX1_firstBlock_38 : decode cX1_firstBlock 38 = .ok (.goto (-27), 3) := by decide +kernel
theorem dX1_firstBlock_41 : decode cX1_firstBlock 41 = .ok (.bipush (-9), 2) := by decide +kernel
theorem dX1_firstBlock_43 : decode cX1_firstBlock 43 = .ok (.ireturn, 1) := by decide +kernel
theorem dX1_greatestExcess_0 : decode cX1_greatestExcess 0 = .ok (.aload_n 0, 1) := by decide +kernel
theorem dX1_greatestExcess_1 : decode cX1_greatestExcess 1 = .ok (.iload_n 1, 1) := by decide +kernel
theorem dX1_greatestExcess_2 : decode cX1_greatestExcess 2 = .ok (.iload_n 3, 1) := by decide +kernel
theorem dX1_greatestExcess_3 : decode cX1_greatestExcess 3 = .ok (.invokevirtual 84, 3) := by decide +kernel
theorem dX1_greatestExcess_6 : decode cX1_greatestExcess 6 = .ok (.istore 4, 2) := by decide +kernel
theorem dX1_greatestExcess_8 : decode cX1_greatestExcess 8 = .ok (.aload_n 0, 1) := by decide +kernel
theorem dX1_greatestExcess_9 : decode cX1_greatestExcess 9 = .ok (.iload_n 1, 1) := by decide +kernel
theorem dX1_greatestExcess_10 : decode cX1_greatestExcess 10 = .ok (.iload_n 2, 1) := by decide +kernel
theorem dX1_greatestExcess_11 : decode cX1_greatestExcess 11 = .ok (.iload_n 3, 1) := by decide +kernel
theorem dX1_greatestExcess_12 : decode cX1_greatestExcess 12 = .ok (.iload 4, 2) := by decide +kernel
theorem dX1_greatestExcess_14 : decode cX1_greatestExcess 14 = .ok (.iconst 1, 1) := by decide +kernel
theorem dX1_greatestExcess_15 : decode cX1_greatestExcess 15 = .ok (.invokevirtual 87, 3) := by decide +kernel
theorem dX1_greatestExcess_18 : decode cX1_greatestExcess 18 = .ok (.istore 5, 2) := by decide +kernel
theorem dX1_greatestExcess_20 : decode cX1_greatestExcess 20 = .ok (.iconst 2, 1) := by decide +kernel
theorem dX1_greatestExcess_21 : decode cX1_greatestExcess 21 = .ok (.istore 6, 2) := by decide +kernel
theorem dX1_greatestExcess_23 : decode cX1_greatestExcess 23 = .ok (.iload 6, 2) := by decide +kernel
theorem dX1_greatestExcess_25 : decode cX1_greatestExcess 25 = .ok (.iload 4, 2) := by decide +kernel
theorem dX1_greatestExcess_27 : decode cX1_greatestExcess 27 = .ok (.if_icmp .ge 27, 3) := by decide +kernel
theorem dX1_greatestExcess_30 : decode cX1_greatestExcess 30 = .ok (.iload 5, 2) := by decide +kernel
theorem dX1_greatestExcess_32 : decode cX1_greatestExcess 32 = .ok (.aload_n 0, 1) := by decide +kernel
theorem dX1_greatestExcess_33 : decode cX1_greatestExcess 33 = .ok (.iload_n 1, 1) := by decide +kernel
theorem dX1_greatestExcess_34 : decode cX1_greatestExcess 34 = .ok (.iload_n 2, 1) := by decide +kernel
theorem dX1_greatestExcess_35 : decode cX1_greatestExcess 35 = .ok (.iload_n 3, 1) := by decide +kernel
theorem dX1_greatestExcess_36 : decode cX1_greatestExcess 36 = .ok (.iload 4, 2) := by decide +kernel
theorem dX1_greatestExcess_38 : decode cX1_greatestExcess 38 = .ok (.iload 6, 2) := by decide +kernel
theorem dX1_greatestExcess_40 : decode cX1_greatestExcess 40 = .ok (.invokevirtual 87, 3) := by decide +kernel
theorem dX1_greatestExcess_43 : decode cX1_greatestExcess 43 = .ok (.invokestatic 73, 3) := by decide +kernel
theorem dX1_greatestExcess_46 : decode cX1_greatestExcess 46 = .ok (.istore 5, 2) := by decide +kernel
theorem dX1_greatestExcess_48 : decode cX1_greatestExcess 48 = .ok (.iinc 6 1, 3) := by decide +kernel
theorem dX1_greatestExcess_51 : decode cX1_greatestExcess 51 = .ok (.goto (-28), 3) := by decide +kernel
theorem dX1_greatestExcess_54 : decode cX1_greatestExcess 54 = .ok (.iload 5, 2) := by decide +kernel
theorem dX1_greatestExcess_56 : decode cX1_greatestExcess 56 = .ok (.ireturn, 1) := by decide +kernel
theorem dX1_neededRise_0 : decode cX1_neededRise 0 = .ok (.iconst 0, 1) := by decide +kernel
theorem dX1_neededRise_1 : decode cX1_neededRise 1 = .ok (.istore_n 3, 1) := by decide +kernel
theorem dX1_neededRise_2 : decode cX1_neededRise 2 = .ok (.iload_n 3, 1) := by decide +kernel
theorem dX1_neededRise_3 : decode cX1_neededRise 3 = .ok (.bipush 99, 2) := by decide +kernel
theorem dX1_neededRise_5 : decode cX1_neededRise 5 = .ok (.if_icmp .gt 21, 3) := by decide +kernel
theorem dX1_neededRise_8 : decode cX1_neededRise 8 = .ok (.aload_n 0, 1) := by decide +kernel
theorem dX1_neededRise_9 : decode cX1_neededRise 9 = .ok (.iload_n 1, 1) := by decide +kernel
theorem dX1_neededRise_10 : decode cX1_neededRise 10 = .ok (.iload_n 3, 1) := by decide +kernel
theorem dX1_neededRise_11 : decode cX1_neededRise 11 = .ok (.iload_n 2, 1) := by decide +kernel
theorem dX1_neededRise_12 : decode cX1_neededRise 12 = .ok (.invokevirtual 90, 3) := by decide +kernel
theorem dX1_neededRise_15 : decode cX1_neededRise 15 = .ok (.ifCond .eq 5, 3) := by decide +kernel
theorem dX1_neededRise_18 : decode cX1_neededRise 18 = .ok (.iload_n 3, 1) := by decide +kernel
theorem dX1_neededRise_19 : decode cX1_neededRise 19 = .ok (.ireturn, 1) := by decide +kernel
theorem dX1_neededRise_20 : decode cX1_neededRise 20 = .ok (.iinc 3 1, 3) := by decide +kernel
theorem dX1_neededRise_23 : decode cX1_neededRise 23 = .ok (.goto (-21), 3) := by decide +kernel
theorem dX1_neededRise_26 : decode cX1_neededRise 26 = .ok (.bipush (-9), 2) := by decide +kernel
theorem dX1_neededRise_28 : decode cX1_neededRise 28 = .ok (.ireturn, 1) := by decide +kernel
theorem dX1_viewFrom_0 : decode cX1_viewFrom 0 = .ok (.lconst 0, 1) := by decide +kernel
theorem dX1_viewFrom_1 : decode cX1_viewFrom 1 = .ok (.lstore_n 3, 1) := by decide +kernel
theorem dX1_viewFrom_2 : decode cX1_viewFrom 2 = .ok (.iconst 0, 1) := by decide +kernel
theorem dX1_viewFrom_3 : decode cX1_viewFrom 3 = .ok (.istore 5, 2) := by decide +kernel
theorem dX1_viewFrom_5 : decode cX1_viewFrom 5 = .ok (.iload 5, 2) := by decide +kernel
theorem dX1_viewFrom_7 : decode cX1_viewFrom 7 = .ok (.aload_n 0, 1) := by decide +kernel
theorem dX1_viewFrom_8 : decode cX1_viewFrom 8 = .ok (.getfield 28, 3) := by decide +kernel
theorem dX1_viewFrom_11 : decode cX1_viewFrom 11 = .ok (.aload_n 0, 1) := by decide +kernel
theorem dX1_viewFrom_12 : decode cX1_viewFrom 12 = .ok (.getfield 32, 3) := by decide +kernel
theorem dX1_viewFrom_15 : decode cX1_viewFrom 15 = .ok (.imul, 1) := by decide +kernel
theorem dX1_viewFrom_16 : decode cX1_viewFrom 16 = .ok (.if_icmp .ge 27, 3) := by decide +kernel
theorem dX1_viewFrom_19 : decode cX1_viewFrom 19 = .ok (.aload_n 0, 1) := by decide +kernel
theorem dX1_viewFrom_20 : decode cX1_viewFrom 20 = .ok (.iload_n 1, 1) := by decide +kernel
theorem dX1_viewFrom_21 : decode cX1_viewFrom 21 = .ok (.iload_n 2, 1) := by decide +kernel
theorem dX1_viewFrom_22 : decode cX1_viewFrom 22 = .ok (.iload 5, 2) := by decide +kernel
theorem dX1_viewFrom_24 : decode cX1_viewFrom 24 = .ok (.invokevirtual 90, 3) := by decide +kernel
theorem dX1_viewFrom_27 : decode cX1_viewFrom 27 = .ok (.ifCond .eq 10, 3) := by decide +kernel
theorem dX1_viewFrom_30 : decode cX1_viewFrom 30 = .ok (.lload_n 3, 1) := by decide +kernel
theorem dX1_viewFrom_31 : decode cX1_viewFrom 31 = .ok (.lconst 1, 1) := by decide +kernel
theorem dX1_viewFrom_32 : decode cX1_viewFrom 32 = .ok (.iload 5, 2) := by decide +kernel
theorem dX1_viewFrom_34 : decode cX1_viewFrom 34 = .ok (.lshl, 1) := by decide +kernel
theorem dX1_viewFrom_35 : decode cX1_viewFrom 35 = .ok (.lor, 1) := by decide +kernel
theorem dX1_viewFrom_36 : decode cX1_viewFrom 36 = .ok (.lstore_n 3, 1) := by decide +kernel
theorem dX1_viewFrom_37 : decode cX1_viewFrom 37 = .ok (.iinc 5 1, 3) := by decide +kernel
theorem dX1_viewFrom_40 : decode cX1_viewFrom 40 = .ok (.goto (-35), 3) := by decide +kernel
theorem dX1_viewFrom_43 : decode cX1_viewFrom 43 = .ok (.lload_n 3, 1) := by decide +kernel
theorem dX1_viewFrom_44 : decode cX1_viewFrom 44 = .ok (.lreturn, 1) := by decide +kernel
theorem dX1_towerView_0 : decode cX1_towerView 0 = .ok (.aload_n 0, 1) := by decide +kernel
theorem dX1_towerView_1 : decode cX1_towerView 1 = .ok (.iload_n 1, 1) := by decide +kernel
theorem dX1_towerView_2 : decode cX1_towerView 2 = .ok (.invokevirtual 54, 3) := by decide +kernel
theorem dX1_towerView_5 : decode cX1_towerView 5 = .ok (.ifCond .eq 22, 3) := by decide +kernel
theorem dX1_towerView_8 : decode cX1_towerView 8 = .ok (.aload_n 0, 1) := by decide +kernel
theorem dX1_towerView_9 : decode cX1_towerView 9 = .ok (.aload_n 0, 1) := by decide +kernel
theorem dX1_towerView_10 : decode cX1_towerView 10 = .ok (.getfield 15, 3) := by decide +kernel
theorem dX1_towerView_13 : decode cX1_towerView 13 = .ok (.iload_n 1, 1) := by decide +kernel
theorem dX1_towerView_14 : decode cX1_towerView 14 = .ok (.iaload, 1) := by decide +kernel
theorem dX1_towerView_15 : decode cX1_towerView 15 = .ok (.aload_n 0, 1) := by decide +kernel
theorem dX1_towerView_16 : decode cX1_towerView 16 = .ok (.getfield 18, 3) := by decide +kernel
theorem dX1_towerView_19 : decode cX1_towerView 19 = .ok (.iload_n 1, 1) := by decide +kernel
theorem dX1_towerView_20 : decode cX1_towerView 20 = .ok (.iaload, 1) := by decide +kernel
theorem dX1_towerView_21 : decode cX1_towerView 21 = .ok (.invokevirtual 94, 3) := by decide +kernel
theorem dX1_towerView_24 : decode cX1_towerView 24 = .ok (.goto 4, 3) := by decide +kernel
theorem dX1_towerView_27 : decode cX1_towerView 27 = .ok (.lconst 0, 1) := by decide +kernel
theorem dX1_towerView_28 : decode cX1_towerView 28 = .ok (.lreturn, 1) := by decide +kernel
theorem dX1_seenAlone_0 : decode cX1_seenAlone 0 = .ok (.aload_n 0, 1) := by decide +kernel
theorem dX1_seenAlone_1 : decode cX1_seenAlone 1 = .ok (.iload_n 1, 1) := by decide +kernel
theorem dX1_seenAlone_2 : decode cX1_seenAlone 2 = .ok (.invokevirtual 98, 3) := by decide +kernel
theorem dX1_seenAlone_5 : decode cX1_seenAlone 5 = .ok (.lstore_n 2, 1) := by decide +kernel
theorem dX1_seenAlone_6 : decode cX1_seenAlone 6 = .ok (.iconst 0, 1) := by decide +kernel
theorem dX1_seenAlone_7 : decode cX1_seenAlone 7 = .ok (.istore 4, 2) := by decide +kernel
theorem dX1_seenAlone_9 : decode cX1_seenAlone 9 = .ok (.iload 4, 2) := by decide +kernel
theorem dX1_seenAlone_11 : decode cX1_seenAlone 11 = .ok (.aload_n 0, 1) := by decide +kernel
theorem dX1_seenAlone_12 : decode cX1_seenAlone 12 = .ok (.getfield 35, 3) := by decide +kernel
theorem dX1_seenAlone_15 : decode cX1_seenAlone 15 = .ok (.if_icmp .ge 46, 3) := by decide +kernel
theorem dX1_seenAlone_18 : decode cX1_seenAlone 18 = .ok (.iload 4, 2) := by decide +kernel
theorem dX1_seenAlone_20 : decode cX1_seenAlone 20 = .ok (.iconst 5, 1) := by decide +kernel
theorem dX1_seenAlone_21 : decode cX1_seenAlone 21 = .ok (.if_icmp .ge 40, 3) := by decide +kernel
theorem dX1_seenAlone_24 : decode cX1_seenAlone 24 = .ok (.iload 4, 2) := by decide +kernel
theorem dX1_seenAlone_26 : decode cX1_seenAlone 26 = .ok (.iload_n 1, 1) := by decide +kernel
theorem dX1_seenAlone_27 : decode cX1_seenAlone 27 = .ok (.if_icmp .eq 28, 3) := by decide +kernel
theorem dX1_seenAlone_30 : decode cX1_seenAlone 30 = .ok (.lload_n 2, 1) := by decide +kernel
theorem dX1_seenAlone_31 : decode cX1_seenAlone 31 = .ok (.aload_n 0, 1) := by decide +kernel
theorem dX1_seenAlone_32 : decode cX1_seenAlone 32 = .ok (.aload_n 0, 1) := by decide +kernel
theorem dX1_seenAlone_33 : decode cX1_seenAlone 33 = .ok (.getfield 15, 3) := by decide +kernel
theorem dX1_seenAlone_36 : decode cX1_seenAlone 36 = .ok (.iload 4, 2) := by decide +kernel
theorem dX1_seenAlone_38 : decode cX1_seenAlone 38 = .ok (.iaload, 1) := by decide +kernel
theorem dX1_seenAlone_39 : decode cX1_seenAlone 39 = .ok (.aload_n 0, 1) := by decide +kernel
theorem dX1_seenAlone_40 : decode cX1_seenAlone 40 = .ok (.getfield 18, 3) := by decide +kernel
theorem dX1_seenAlone_43 : decode cX1_seenAlone 43 = .ok (.iload 4, 2) := by decide +kernel
theorem dX1_seenAlone_45 : decode cX1_seenAlone 45 = .ok (.iaload, 1) := by decide +kernel
theorem dX1_seenAlone_46 : decode cX1_seenAlone 46 = .ok (.invokevirtual 94, 3) := by decide +kernel
theorem dX1_seenAlone_49 : decode cX1_seenAlone 49 = .ok (.ldc2_w 102, 3) := by decide +kernel
theorem dX1_seenAlone_52 : decode cX1_seenAlone 52 = .ok (.lxor, 1) := by decide +kernel
theorem dX1_seenAlone_53 : decode cX1_seenAlone 53 = .ok (.land, 1) := by decide +kernel
theorem dX1_seenAlone_54 : decode cX1_seenAlone 54 = .ok (.lstore_n 2, 1) := by decide +kernel
theorem dX1_seenAlone_55 : decode cX1_seenAlone 55 = .ok (.iinc 4 1, 3) := by decide +kernel
theorem dX1_seenAlone_58 : decode cX1_seenAlone 58 = .ok (.goto (-49), 3) := by decide +kernel
theorem dX1_seenAlone_61 : decode cX1_seenAlone 61 = .ok (.lload_n 2, 1) := by decide +kernel
theorem dX1_seenAlone_62 : decode cX1_seenAlone 62 = .ok (.lreturn, 1) := by decide +kernel
theorem dX1_hiddenSet_0 : decode cX1_hiddenSet 0 = .ok (.lconst 1, 1) := by decide +kernel
theorem dX1_hiddenSet_1 : decode cX1_hiddenSet 1 = .ok (.aload_n 0, 1) := by decide +kernel
theorem dX1_hiddenSet_2 : decode cX1_hiddenSet 2 = .ok (.getfield 28, 3) := by decide +kernel
theorem dX1_hiddenSet_5 : decode cX1_hiddenSet 5 = .ok (.aload_n 0, 1) := by decide +kernel
theorem dX1_hiddenSet_6 : decode cX1_hiddenSet 6 = .ok (.getfield 32, 3) := by decide +kernel
theorem dX1_hiddenSet_9 : decode cX1_hiddenSet 9 = .ok (.imul, 1) := by decide +kernel
theorem dX1_hiddenSet_10 : decode cX1_hiddenSet 10 = .ok (.lshl, 1) := by decide +kernel
theorem dX1_hiddenSet_11 : decode cX1_hiddenSet 11 = .ok (.lconst 1, 1) := by decide +kernel
theorem dX1_hiddenSet_12 : decode cX1_hiddenSet 12 = .ok (.lsub, 1) := by decide +kernel
theorem dX1_hiddenSet_13 : decode cX1_hiddenSet 13 = .ok (.lstore_n 1, 1) := by decide +kernel
theorem dX1_hiddenSet_14 : decode cX1_hiddenSet 14 = .ok (.iconst 0, 1) := by decide +kernel
theorem dX1_hiddenSet_15 : decode cX1_hiddenSet 15 = .ok (.istore_n 3, 1) := by decide +kernel
theorem dX1_hiddenSet_16 : decode cX1_hiddenSet 16 = .ok (.iload_n 3, 1) := by decide +kernel
theorem dX1_hiddenSet_17 : decode cX1_hiddenSet 17 = .ok (.aload_n 0, 1) := by decide +kernel
theorem dX1_hiddenSet_18 : decode cX1_hiddenSet 18 = .ok (.getfield 35, 3) := by decide +kernel
theorem dX1_hiddenSet_21 : decode cX1_hiddenSet 21 = .ok (.if_icmp .ge 37, 3) := by decide +kernel
theorem dX1_hiddenSet_24 : decode cX1_hiddenSet 24 = .ok (.iload_n 3, 1) := by decide +kernel
theorem dX1_hiddenSet_25 : decode cX1_hiddenSet 25 = .ok (.iconst 5, 1) := by decide +kernel
theorem dX1_hiddenSet_26 : decode cX1_hiddenSet 26 = .ok (.if_icmp .ge 32, 3) := by decide +kernel
theorem dX1_hiddenSet_29 : decode cX1_hiddenSet 29 = .ok (.lload_n 1, 1) := by decide +kernel
theorem dX1_hiddenSet_30 : decode cX1_hiddenSet 30 = .ok (.aload_n 0, 1) := by decide +kernel
theorem dX1_hiddenSet_31 : decode cX1_hiddenSet 31 = .ok (.aload_n 0, 1) := by decide +kernel
theorem dX1_hiddenSet_32 : decode cX1_hiddenSet 32 = .ok (.getfield 15, 3) := by decide +kernel
theorem dX1_hiddenSet_35 : decode cX1_hiddenSet 35 = .ok (.iload_n 3, 1) := by decide +kernel
theorem dX1_hiddenSet_36 : decode cX1_hiddenSet 36 = .ok (.iaload, 1) := by decide +kernel
theorem dX1_hiddenSet_37 : decode cX1_hiddenSet 37 = .ok (.aload_n 0, 1) := by decide +kernel
theorem dX1_hiddenSet_38 : decode cX1_hiddenSet 38 = .ok (.getfield 18, 3) := by decide +kernel
theorem dX1_hiddenSet_41 : decode cX1_hiddenSet 41 = .ok (.iload_n 3, 1) := by decide +kernel
theorem dX1_hiddenSet_42 : decode cX1_hiddenSet 42 = .ok (.iaload, 1) := by decide +kernel
theorem dX1_hiddenSet_43 : decode cX1_hiddenSet 43 = .ok (.invokevirtual 94, 3) := by decide +kernel
theorem dX1_hiddenSet_46 : decode cX1_hiddenSet 46 = .ok (.ldc2_w 102, 3) := by decide +kernel
theorem dX1_hiddenSet_49 : decode cX1_hiddenSet 49 = .ok (.lxor, 1) := by decide +kernel
theorem dX1_hiddenSet_50 : decode cX1_hiddenSet 50 = .ok (.land, 1) := by decide +kernel
theorem dX1_hiddenSet_51 : decode cX1_hiddenSet 51 = .ok (.lstore_n 1, 1) := by decide +kernel
theorem dX1_hiddenSet_52 : decode cX1_hiddenSet 52 = .ok (.iinc 3 1, 3) := by decide +kernel
theorem dX1_hiddenSet_55 : decode cX1_hiddenSet 55 = .ok (.goto (-39), 3) := by decide +kernel
theorem dX1_hiddenSet_58 : decode cX1_hiddenSet 58 = .ok (.lload_n 1, 1) := by decide +kernel
theorem dX1_hiddenSet_59 : decode cX1_hiddenSet 59 = .ok (.lreturn, 1) := by decide +kernel
theorem dX1_towersOn_0 : decode cX1_towersOn 0 = .ok (.iconst 0, 1) := by decide +kernel
theorem dX1_towersOn_1 : decode cX1_towersOn 1 = .ok (.istore_n 2, 1) := by decide +kernel
theorem dX1_towersOn_2 : decode cX1_towersOn 2 = .ok (.iconst 0, 1) := by decide +kernel
theorem dX1_towersOn_3 : decode cX1_towersOn 3 = .ok (.istore_n 3, 1) := by decide +kernel
theorem dX1_towersOn_4 : decode cX1_towersOn 4 = .ok (.iload_n 3, 1) := by decide +kernel
theorem dX1_towersOn_5 : decode cX1_towersOn 5 = .ok (.aload_n 0, 1) := by decide +kernel
theorem dX1_towersOn_6 : decode cX1_towersOn 6 = .ok (.getfield 35, 3) := by decide +kernel
theorem dX1_towersOn_9 : decode cX1_towersOn 9 = .ok (.if_icmp .ge 30, 3) := by decide +kernel
theorem dX1_towersOn_12 : decode cX1_towersOn 12 = .ok (.iload_n 3, 1) := by decide +kernel
theorem dX1_towersOn_13 : decode cX1_towersOn 13 = .ok (.iconst 5, 1) := by decide +kernel
theorem dX1_towersOn_14 : decode cX1_towersOn 14 = .ok (.if_icmp .ge 25, 3) := by decide +kernel
theorem dX1_towersOn_17 : decode cX1_towersOn 17 = .ok (.aload_n 0, 1) := by decide +kernel
theorem dX1_towersOn_18 : decode cX1_towersOn 18 = .ok (.getfield 15, 3) := by decide +kernel
theorem dX1_towersOn_21 : decode cX1_towersOn 21 = .ok (.iload_n 3, 1) := by decide +kernel
theorem dX1_towersOn_22 : decode cX1_towersOn 22 = .ok (.iaload, 1) := by decide +kernel
theorem dX1_towersOn_23 : decode cX1_towersOn 23 = .ok (.iload_n 1, 1) := by decide +kernel
theorem dX1_towersOn_24 : decode cX1_towersOn 24 = .ok (.if_icmp .ne 9, 3) := by decide +kernel
theorem dX1_towersOn_27 : decode cX1_towersOn 27 = .ok (.iload_n 2, 1) := by decide +kernel
theorem dX1_towersOn_28 : decode cX1_towersOn 28 = .ok (.iconst 1, 1) := by decide +kernel
theorem dX1_towersOn_29 : decode cX1_towersOn 29 = .ok (.iload_n 3, 1) := by decide +kernel
theorem dX1_towersOn_30 : decode cX1_towersOn 30 = .ok (.ishl, 1) := by decide +kernel
theorem dX1_towersOn_31 : decode cX1_towersOn 31 = .ok (.ior, 1) := by decide +kernel
theorem dX1_towersOn_32 : decode cX1_towersOn 32 = .ok (.istore_n 2, 1) := by decide +kernel
theorem dX1_towersOn_33 : decode cX1_towersOn 33 = .ok (.iinc 3 1, 3) := by decide +kernel
theorem dX1_towersOn_36 : decode cX1_towersOn 36 = .ok (.goto (-32), 3) := by decide +kernel
theorem dX1_towersOn_39 : decode cX1_towersOn 39 = .ok (.iload_n 2, 1) := by decide +kernel
theorem dX1_towersOn_40 : decode cX1_towersOn 40 = .ok (.ireturn, 1) := by decide +kernel
theorem dX1_watchersOf_0 : decode cX1_watchersOf 0 = .ok (.iconst 0, 1) := by decide +kernel
theorem dX1_watchersOf_1 : decode cX1_watchersOf 1 = .ok (.istore_n 2, 1) := by decide +kernel
theorem dX1_watchersOf_2 : decode cX1_watchersOf 2 = .ok (.iconst 0, 1) := by decide +kernel
theorem dX1_watchersOf_3 : decode cX1_watchersOf 3 = .ok (.istore_n 3, 1) := by decide +kernel
theorem dX1_watchersOf_4 : decode cX1_watchersOf 4 = .ok (.iload_n 3, 1) := by decide +kernel
theorem dX1_watchersOf_5 : decode cX1_watchersOf 5 = .ok (.aload_n 0, 1) := by decide +kernel
theorem dX1_watchersOf_6 : decode cX1_watchersOf 6 = .ok (.getfield 35, 3) := by decide +kernel
theorem dX1_watchersOf_9 : decode cX1_watchersOf 9 = .ok (.if_icmp .ge 37, 3) := by decide +kernel
theorem dX1_watchersOf_12 : decode cX1_watchersOf 12 = .ok (.iload_n 3, 1) := by decide +kernel
theorem dX1_watchersOf_13 : decode cX1_watchersOf 13 = .ok (.iconst 5, 1) := by decide +kernel
theorem dX1_watchersOf_14 : decode cX1_watchersOf 14 = .ok (.if_icmp .ge 32, 3) := by decide +kernel
theorem dX1_watchersOf_17 : decode cX1_watchersOf 17 = .ok (.aload_n 0, 1) := by decide +kernel
theorem dX1_watchersOf_18 : decode cX1_watchersOf 18 = .ok (.aload_n 0, 1) := by decide +kernel
theorem dX1_watchersOf_19 : decode cX1_watchersOf 19 = .ok (.getfield 15, 3) := by decide +kernel
theorem dX1_watchersOf_22 : decode cX1_watchersOf 22 = .ok (.iload_n 3, 1) := by decide +kernel
theorem dX1_watchersOf_23 : decode cX1_watchersOf 23 = .ok (.iaload, 1) := by decide +kernel
theorem dX1_watchersOf_24 : decode cX1_watchersOf 24 = .ok (.aload_n 0, 1) := by decide +kernel
theorem dX1_watchersOf_25 : decode cX1_watchersOf 25 = .ok (.getfield 18, 3) := by decide +kernel
theorem dX1_watchersOf_28 : decode cX1_watchersOf 28 = .ok (.iload_n 3, 1) := by decide +kernel
theorem dX1_watchersOf_29 : decode cX1_watchersOf 29 = .ok (.iaload, 1) := by decide +kernel
theorem dX1_watchersOf_30 : decode cX1_watchersOf 30 = .ok (.iload_n 1, 1) := by decide +kernel
theorem dX1_watchersOf_31 : decode cX1_watchersOf 31 = .ok (.invokevirtual 90, 3) := by decide +kernel
theorem dX1_watchersOf_34 : decode cX1_watchersOf 34 = .ok (.ifCond .eq 6, 3) := by decide +kernel
theorem dX1_watchersOf_37 : decode cX1_watchersOf 37 = .ok (.iinc 2 1, 3) := by decide +kernel
theorem dX1_watchersOf_40 : decode cX1_watchersOf 40 = .ok (.iinc 3 1, 3) := by decide +kernel
theorem dX1_watchersOf_43 : decode cX1_watchersOf 43 = .ok (.goto (-39), 3) := by decide +kernel
theorem dX1_watchersOf_46 : decode cX1_watchersOf 46 = .ok (.iload_n 2, 1) := by decide +kernel
theorem dX1_watchersOf_47 : decode cX1_watchersOf 47 = .ok (.ireturn, 1) := by decide +kernel
theorem dX1_lowestRegion_0 : decode cX1_lowestRegion 0 = .ok (.lconst 0, 1) := by decide +kernel
theorem dX1_lowestRegion_1 : decode cX1_lowestRegion 1 = .ok (.lstore_n 3, 1) := by decide +kernel
theorem dX1_lowestRegion_2 : decode cX1_lowestRegion 2 = .ok (.iconst 0, 1) := by decide +kernel
theorem dX1_lowestRegion_3 : decode cX1_lowestRegion 3 = .ok (.istore 5, 2) := by decide +kernel
theorem dX1_lowestRegion_5 : decode cX1_lowestRegion 5 = .ok (.iload 5, 2) := by decide +kernel
theorem dX1_lowestRegion_7 : decode cX1_lowestRegion 7 = .ok (.aload_n 0, 1) := by decide +kernel
theorem dX1_lowestRegion_8 : decode cX1_lowestRegion 8 = .ok (.getfield 32, 3) := by decide +kernel
theorem dX1_lowestRegion_11 : decode cX1_lowestRegion 11 = .ok (.if_icmp .ge 21, 3) := by decide +kernel
theorem dX1_lowestRegion_14 : decode cX1_lowestRegion 14 = .ok (.lload_n 3, 1) := by decide +kernel
theorem dX1_lowestRegion_15 : decode cX1_lowestRegion 15 = .ok (.lconst 1, 1) := by decide +kernel
theorem dX1_lowestRegion_16 : decode cX1_lowestRegion 16 = .ok (.iload 5, 2) := by decide +kernel
theorem dX1_lowestRegion_18 : decode cX1_lowestRegion 18 = .ok (.aload_n 0, 1) := by decide +kernel
theorem dX1_lowestRegion_19 : decode cX1_lowestRegion 19 = .ok (.getfield 28, 3) := by decide +kernel
theorem dX1_lowestRegion_22 : decode cX1_lowestRegion 22 = .ok (.imul, 1) := by decide +kernel
theorem dX1_lowestRegion_23 : decode cX1_lowestRegion 23 = .ok (.lshl, 1) := by decide +kernel
theorem dX1_lowestRegion_24 : decode cX1_lowestRegion 24 = .ok (.lor, 1) := by decide +kernel
theorem dX1_lowestRegion_25 : decode cX1_lowestRegion 25 = .ok (.lstore_n 3, 1) := by decide +kernel
theorem dX1_lowestRegion_26 : decode cX1_lowestRegion 26 = .ok (.iinc 5 1, 3) := by decide +kernel
theorem dX1_lowestRegion_29 : decode cX1_lowestRegion 29 = .ok (.goto (-24), 3) := by decide +kernel
theorem dX1_lowestRegion_32 : decode cX1_lowestRegion 32 = .ok (.lload_n 3, 1) := by decide +kernel
theorem dX1_lowestRegion_33 : decode cX1_lowestRegion 33 = .ok (.aload_n 0, 1) := by decide +kernel
theorem dX1_lowestRegion_34 : decode cX1_lowestRegion 34 = .ok (.getfield 28, 3) := by decide +kernel
theorem dX1_lowestRegion_37 : decode cX1_lowestRegion 37 = .ok (.iconst 1, 1) := by decide +kernel
theorem dX1_lowestRegion_38 : decode cX1_lowestRegion 38 = .ok (.isub, 1) := by decide +kernel
theorem dX1_lowestRegion_39 : decode cX1_lowestRegion 39 = .ok (.lshl, 1) := by decide +kernel
theorem dX1_lowestRegion_40 : decode cX1_lowestRegion 40 = .ok (.lstore 5, 2) := by decide +kernel
theorem dX1_lowestRegion_42 : decode cX1_lowestRegion 42 = .ok (.lload_n 1, 1) := by decide +kernel
theorem dX1_lowestRegion_43 : decode cX1_lowestRegion 43 = .ok (.lload_n 1, 1) := by decide +kernel
theorem dX1_lowestRegion_44 : decode cX1_lowestRegion 44 = .ok (.lneg, 1) := by decide +kernel
theorem dX1_lowestRegion_45 : decode cX1_lowestRegion 45 = .ok (.land, 1) := by decide +kernel
theorem dX1_lowestRegion_46 : decode cX1_lowestRegion 46 = .ok (.lstore 7, 2) := by decide +kernel
theorem dX1_lowestRegion_48 : decode cX1_lowestRegion 48 = .ok (.iconst 0, 1) := by decide +kernel
theorem dX1_lowestRegion_49 : decode cX1_lowestRegion 49 = .ok (.istore 9, 2) := by decide +kernel
theorem dX1_lowestRegion_51 : decode cX1_lowestRegion 51 = .ok (.iload 9, 2) := by decide +kernel
theorem dX1_lowestRegion_53 : decode cX1_lowestRegion 53 = .ok (.bipush 36, 2) := by decide +kernel
theorem dX1_lowestRegion_55 : decode cX1_lowestRegion 55 = .ok (.if_icmp .ge 62, 3) := by decide +kernel
theorem dX1_lowestRegion_58 : decode cX1_lowestRegion 58 = .ok (.lload 7, 2) := by decide +kernel
theorem dX1_lowestRegion_60 : decode cX1_lowestRegion 60 = .ok (.lload 5, 2) := by decide +kernel
theorem dX1_lowestRegion_62 : decode cX1_lowestRegion 62 = .ok (.ldc2_w 102, 3) := by decide +kernel
theorem dX1_lowestRegion_65 : decode cX1_lowestRegion 65 = .ok (.lxor, 1) := by decide +kernel
theorem dX1_lowestRegion_66 : decode cX1_lowestRegion 66 = .ok (.land, 1) := by decide +kernel
theorem dX1_lowestRegion_67 : decode cX1_lowestRegion 67 = .ok (.iconst 1, 1) := by decide +kernel
theorem dX1_lowestRegion_68 : decode cX1_lowestRegion 68 = .ok (.lshl, 1) := by decide +kernel
theorem dX1_lowestRegion_69 : decode cX1_lowestRegion 69 = .ok (.lstore 10, 2) := by decide +kernel
theorem dX1_lowestRegion_71 : decode cX1_lowestRegion 71 = .ok (.lload 7, 2) := by decide +kernel
theorem dX1_lowestRegion_73 : decode cX1_lowestRegion 73 = .ok (.lload_n 3, 1) := by decide +kernel
theorem dX1_lowestRegion_74 : decode cX1_lowestRegion 74 = .ok (.ldc2_w 102, 3) := by decide +kernel
theorem dX1_lowestRegion_77 : decode cX1_lowestRegion 77 = .ok (.lxor, 1) := by decide +kernel
theorem dX1_lowestRegion_78 : decode cX1_lowestRegion 78 = .ok (.land, 1) := by decide +kernel
theorem dX1_lowestRegion_79 : decode cX1_lowestRegion 79 = .ok (.iconst 1, 1) := by decide +kernel
theorem dX1_lowestRegion_80 : decode cX1_lowestRegion 80 = .ok (.lushr, 1) := by decide +kernel
theorem dX1_lowestRegion_81 : decode cX1_lowestRegion 81 = .ok (.lstore 12, 2) := by decide +kernel
theorem dX1_lowestRegion_83 : decode cX1_lowestRegion 83 = .ok (.lload 7, 2) := by decide +kernel
theorem dX1_lowestRegion_85 : decode cX1_lowestRegion 85 = .ok (.lload 10, 2) := by decide +kernel
theorem dX1_lowestRegion_87 : decode cX1_lowestRegion 87 = .ok (.lload 12, 2) := by decide +kernel
theorem dX1_lowestRegion_89 : decode cX1_lowestRegion 89 = .ok (.lor, 1) := by decide +kernel
theorem dX1_lowestRegion_90 : decode cX1_lowestRegion 90 = .ok (.lload 7, 2) := by decide +kernel
theorem dX1_lowestRegion_92 : decode cX1_lowestRegion 92 = .ok (.aload_n 0, 1) := by decide +kernel
theorem dX1_lowestRegion_93 : decode cX1_lowestRegion 93 = .ok (.getfield 28, 3) := by decide +kernel
theorem dX1_lowestRegion_96 : decode cX1_lowestRegion 96 = .ok (.lshl, 1) := by decide +kernel
theorem dX1_lowestRegion_97 : decode cX1_lowestRegion 97 = .ok (.lor, 1) := by decide +kernel
theorem dX1_lowestRegion_98 : decode cX1_lowestRegion 98 = .ok (.lload 7, 2) := by decide +kernel
theorem dX1_lowestRegion_100 : decode cX1_lowestRegion 100 = .ok (.aload_n 0, 1) := by decide +kernel
theorem dX1_lowestRegion_101 : decode cX1_lowestRegion 101 = .ok (.getfield 28, 3) := by decide +kernel
theorem dX1_lowestRegion_104 : decode cX1_lowestRegion 104 = .ok (.lushr, 1) := by decide +kernel
theorem dX1_lowestRegion_105 : decode cX1_lowestRegion 105 = .ok (.lor, 1) := by decide +kernel
theorem dX1_lowestRegion_106 : decode cX1_lowestRegion 106 = .ok (.lload_n 1, 1) := by decide +kernel
theorem dX1_lowestRegion_107 : decode cX1_lowestRegion 107 = .ok (.land, 1) := by decide +kernel
theorem dX1_lowestRegion_108 : decode cX1_lowestRegion 108 = .ok (.lor, 1) := by decide +kernel
theorem dX1_lowestRegion_109 : decode cX1_lowestRegion 109 = .ok (.lstore 7, 2) := by decide +kernel
theorem dX1_lowestRegion_111 : decode cX1_lowestRegion 111 = .ok (.iinc 9 1, 3) := by decide +kernel
theorem dX1_lowestRegion_114 : decode cX1_lowestRegion 114 = .ok (.goto (-63), 3) := by decide +kernel
theorem dX1_lowestRegion_117 : decode cX1_lowestRegion 117 = .ok (.lload 7, 2) := by decide +kernel
theorem dX1_lowestRegion_119 : decode cX1_lowestRegion 119 = .ok (.lreturn, 1) := by decide +kernel
theorem dX1_regionCount_0 : decode cX1_regionCount 0 = .ok (.lload_n 1, 1) := by decide +kernel
theorem dX1_regionCount_1 : decode cX1_regionCount 1 = .ok (.lstore_n 3, 1) := by decide +kernel
theorem dX1_regionCount_2 : decode cX1_regionCount 2 = .ok (.iconst 0, 1) := by decide +kernel
theorem dX1_regionCount_3 : decode cX1_regionCount 3 = .ok (.istore 5, 2) := by decide +kernel
theorem dX1_regionCount_5 : decode cX1_regionCount 5 = .ok (.lload_n 3, 1) := by decide +kernel
theorem dX1_regionCount_6 : decode cX1_regionCount 6 = .ok (.lconst 0, 1) := by decide +kernel
theorem dX1_regionCount_7 : decode cX1_regionCount 7 = .ok (.lcmp, 1) := by decide +kernel
theorem dX1_regionCount_8 : decode cX1_regionCount 8 = .ok (.ifCond .eq 28, 3) := by decide +kernel
theorem dX1_regionCount_11 : decode cX1_regionCount 11 = .ok (.iload 5, 2) := by decide +kernel
theorem dX1_regionCount_13 : decode cX1_regionCount 13 = .ok (.bipush 36, 2) := by decide +kernel
theorem dX1_regionCount_15 : decode cX1_regionCount 15 = .ok (.if_icmp .ge 21, 3) := by decide +kernel
theorem dX1_regionCount_18 : decode cX1_regionCount 18 = .ok (.lload_n 3, 1) := by decide +kernel
theorem dX1_regionCount_19 : decode cX1_regionCount 19 = .ok (.aload_n 0, 1) := by decide +kernel
theorem dX1_regionCount_20 : decode cX1_regionCount 20 = .ok (.lload_n 3, 1) := by decide +kernel
theorem dX1_regionCount_21 : decode cX1_regionCount 21 = .ok (.invokevirtual 104, 3) := by decide +kernel
theorem dX1_regionCount_24 : decode cX1_regionCount 24 = .ok (.ldc2_w 102, 3) := by decide +kernel
theorem dX1_regionCount_27 : decode cX1_regionCount 27 = .ok (.lxor, 1) := by decide +kernel
theorem dX1_regionCount_28 : decode cX1_regionCount 28 = .ok (.land, 1) := by decide +kernel
theorem dX1_regionCount_29 : decode cX1_regionCount 29 = .ok (.lstore_n 3, 1) := by decide +kernel
theorem dX1_regionCount_30 : decode cX1_regionCount 30 = .ok (.iinc 5 1, 3) := by decide +kernel
theorem dX1_regionCount_33 : decode cX1_regionCount 33 = .ok (.goto (-28), 3) := by decide +kernel
theorem dX1_regionCount_36 : decode cX1_regionCount 36 = .ok (.iload 5, 2) := by decide +kernel
theorem dX1_regionCount_38 : decode cX1_regionCount 38 = .ok (.ireturn, 1) := by decide +kernel
theorem dX1_regionNumbered_0 : decode cX1_regionNumbered 0 = .ok (.lload_n 2, 1) := by decide +kernel
theorem dX1_regionNumbered_1 : decode cX1_regionNumbered 1 = .ok (.lstore 4, 2) := by decide +kernel
theorem dX1_regionNumbered_3 : decode cX1_regionNumbered 3 = .ok (.iconst 0, 1) := by decide +kernel
theorem dX1_regionNumbered_4 : decode cX1_regionNumbered 4 = .ok (.istore 6, 2) := by decide +kernel
theorem dX1_regionNumbered_6 : decode cX1_regionNumbered 6 = .ok (.iload 6, 2) := by decide +kernel
theorem dX1_regionNumbered_8 : decode cX1_regionNumbered 8 = .ok (.iload_n 1, 1) := by decide +kernel
theorem dX1_regionNumbered_9 : decode cX1_regionNumbered 9 = .ok (.if_icmp .ge 31, 3) := by decide +kernel
theorem dX1_regionNumbered_12 : decode cX1_regionNumbered 12 = .ok (.iload 6, 2) := by decide +kernel
theorem dX1_regionNumbered_14 : decode cX1_regionNumbered 14 = .ok (.bipush 36, 2) := by decide +kernel
theorem dX1_regionNumbered_16 : decode cX1_regionNumbered 16 = .ok (.if_icmp .ge 24, 3) := by decide +kernel
theorem dX1_regionNumbered_19 : decode cX1_regionNumbered 19 = .ok (.lload 4, 2) := by decide +kernel
theorem dX1_regionNumbered_21 : decode cX1_regionNumbered 21 = .ok (.aload_n 0, 1) := by decide +kernel
theorem dX1_regionNumbered_22 : decode cX1_regionNumbered 22 = .ok (.lload 4, 2) := by decide +kernel
theorem dX1_regionNumbered_24 : decode cX1_regionNumbered 24 = .ok (.invokevirtual 104, 3) := by decide +kernel
theorem dX1_regionNumbered_27 : decode cX1_regionNumbered 27 = .ok (.ldc2_w 102, 3) := by decide +kernel
theorem dX1_regionNumbered_30 : decode cX1_regionNumbered 30 = .ok (.lxor, 1) := by decide +kernel
theorem dX1_regionNumbered_31 : decode cX1_regionNumbered 31 = .ok (.land, 1) := by decide +kernel
theorem dX1_regionNumbered_32 : decode cX1_regionNumbered 32 = .ok (.lstore 4, 2) := by decide +kernel
theorem dX1_regionNumbered_34 : decode cX1_regionNumbered 34 = .ok (.iinc 6 1, 3) := by decide +kernel
theorem dX1_regionNumbered_37 : decode cX1_regionNumbered 37 = .ok (.goto (-31), 3) := by decide +kernel
theorem dX1_regionNumbered_40 : decode cX1_regionNumbered 40 = .ok (.aload_n 0, 1) := by decide +kernel
theorem dX1_regionNumbered_41 : decode cX1_regionNumbered 41 = .ok (.lload 4, 2) := by decide +kernel
theorem dX1_regionNumbered_43 : decode cX1_regionNumbered 43 = .ok (.invokevirtual 104, 3) := by decide +kernel
theorem dX1_regionNumbered_46 : decode cX1_regionNumbered 46 = .ok (.lreturn, 1) := by decide +kernel
theorem dX1_regionOf_0 : decode cX1_regionOf 0 = .ok (.lload_n 2, 1) := by decide +kernel
theorem dX1_regionOf_1 : decode cX1_regionOf 1 = .ok (.lstore 4, 2) := by decide +kernel
theorem dX1_regionOf_3 : decode cX1_regionOf 3 = .ok (.iconst 0, 1) := by decide +kernel
theorem dX1_regionOf_4 : decode cX1_regionOf 4 = .ok (.istore 6, 2) := by decide +kernel
theorem dX1_regionOf_6 : decode cX1_regionOf 6 = .ok (.iload 6, 2) := by decide +kernel
theorem dX1_regionOf_8 : decode cX1_regionOf 8 = .ok (.bipush 36, 2) := by decide +kernel
theorem dX1_regionOf_10 : decode cX1_regionOf 10 = .ok (.if_icmp .ge 47, 3) := by decide +kernel
theorem dX1_regionOf_13 : decode cX1_regionOf 13 = .ok (.lload 4, 2) := by decide +kernel
theorem dX1_regionOf_15 : decode cX1_regionOf 15 = .ok (.lconst 0, 1) := by decide +kernel
theorem dX1_regionOf_16 : decode cX1_regionOf 16 = .ok (.lcmp, 1) := by decide +kernel
theorem dX1_regionOf_17 : decode cX1_regionOf 17 = .ok (.ifCond .eq 40, 3) := by decide +kernel
theorem dX1_regionOf_20 : decode cX1_regionOf 20 = .ok (.aload_n 0, 1) := by decide +kernel
theorem dX1_regionOf_21 : decode cX1_regionOf 21 = .ok (.lload 4, 2) := by decide +kernel
theorem dX1_regionOf_23 : decode cX1_regionOf 23 = .ok (.invokevirtual 104, 3) := by decide +kernel
theorem dX1_regionOf_26 : decode cX1_regionOf 26 = .ok (.lstore 7, 2) := by decide +kernel
theorem dX1_regionOf_28 : decode cX1_regionOf 28 = .ok (.lload 7, 2) := by decide +kernel
theorem dX1_regionOf_30 : decode cX1_regionOf 30 = .ok (.iload_n 1, 1) := by decide +kernel
theorem dX1_regionOf_31 : decode cX1_regionOf 31 = .ok (.invokestatic 108, 3) := by decide +kernel
theorem dX1_regionOf_34 : decode cX1_regionOf 34 = .ok (.ifCond .eq 6, 3) := by decide +kernel
theorem dX1_regionOf_37 : decode cX1_regionOf 37 = .ok (.iload 6, 2) := by decide +kernel
theorem dX1_regionOf_39 : decode cX1_regionOf 39 = .ok (.ireturn, 1) := by decide +kernel
theorem dX1_regionOf_40 : decode cX1_regionOf 40 = .ok (.lload 4, 2) := by decide +kernel
theorem dX1_regionOf_42 : decode cX1_regionOf 42 = .ok (.lload 7, 2) := by decide +kernel
theorem dX1_regionOf_44 : decode cX1_regionOf 44 = .ok (.ldc2_w 102, 3) := by decide +kernel
theorem dX1_regionOf_47 : decode cX1_regionOf 47 = .ok (.lxor, 1) := by decide +kernel
theorem dX1_regionOf_48 : decode cX1_regionOf 48 = .ok (.land, 1) := by decide +kernel
theorem dX1_regionOf_49 : decode cX1_regionOf 49 = .ok (.lstore 4, 2) := by decide +kernel
theorem dX1_regionOf_51 : decode cX1_regionOf 51 = .ok (.iinc 6 1, 3) := by decide +kernel
theorem dX1_regionOf_54 : decode cX1_regionOf 54 = .ok (.goto (-48), 3) := by decide +kernel
theorem dX1_regionOf_57 : decode cX1_regionOf 57 = .ok (.bipush (-9), 2) := by decide +kernel
theorem dX1_regionOf_59 : decode cX1_regionOf 59 = .ok (.ireturn, 1) := by decide +kernel
theorem dX2_init_0 : decode cX2_init 0 = .ok (.aload_n 0, 1) := by decide +kernel
theorem dX2_init_1 : decode cX2_init 1 = .ok (.invokespecial 3, 3) := by decide +kernel
theorem dX2_init_4 : decode cX2_init 4 = .ok (.aload_n 0, 1) := by decide +kernel
theorem dX2_init_5 : decode cX2_init 5 = .ok (.bipush 90, 2) := by decide +kernel
theorem dX2_init_7 : decode cX2_init 7 = .ok (.newarray .char, 2) := by decide +kernel
theorem dX2_init_9 : decode cX2_init 9 = .ok (.putfield 9, 3) := by decide +kernel
theorem dX2_init_12 : decode cX2_init 12 = .ok (.return_, 1) := by decide +kernel
theorem dX2_append_0 : decode cX2_append 0 = .ok (.aload_n 0, 1) := by decide +kernel
theorem dX2_append_1 : decode cX2_append 1 = .ok (.getfield 15, 3) := by decide +kernel
theorem dX2_append_4 : decode cX2_append 4 = .ok (.ifCond .lt 12, 3) := by decide +kernel
theorem dX2_append_7 : decode cX2_append 7 = .ok (.aload_n 0, 1) := by decide +kernel
theorem dX2_append_8 : decode cX2_append 8 = .ok (.getfield 15, 3) := by decide +kernel
theorem dX2_append_11 : decode cX2_append 11 = .ok (.bipush 90, 2) := by decide +kernel
theorem dX2_append_13 : decode cX2_append 13 = .ok (.if_icmp .lt 5, 3) := by decide +kernel
theorem dX2_append_16 : decode cX2_append 16 = .ok (.iconst 0, 1) := by decide +kernel
theorem dX2_append_17 : decode cX2_append 17 = .ok (.ireturn, 1) := by decide +kernel
theorem dX2_append_18 : decode cX2_append 18 = .ok (.aload_n 0, 1) := by decide +kernel
theorem dX2_append_19 : decode cX2_append 19 = .ok (.getfield 9, 3) := by decide +kernel
theorem dX2_append_22 : decode cX2_append 22 = .ok (.aload_n 0, 1) := by decide +kernel
theorem dX2_append_23 : decode cX2_append 23 = .ok (.getfield 15, 3) := by decide +kernel
theorem dX2_append_26 : decode cX2_append 26 = .ok (.iload_n 1, 1) := by decide +kernel
theorem dX2_append_27 : decode cX2_append 27 = .ok (.castore, 1) := by decide +kernel
theorem dX2_append_28 : decode cX2_append 28 = .ok (.aload_n 0, 1) := by decide +kernel
theorem dX2_append_29 : decode cX2_append 29 = .ok (.dup, 1) := by decide +kernel
theorem dX2_append_30 : decode cX2_append 30 = .ok (.getfield 15, 3) := by decide +kernel
theorem dX2_append_33 : decode cX2_append 33 = .ok (.iconst 1, 1) := by decide +kernel
theorem dX2_append_34 : decode cX2_append 34 = .ok (.iadd, 1) := by decide +kernel
theorem dX2_append_35 : decode cX2_append 35 = .ok (.putfield 15, 3) := by decide +kernel
theorem dX2_append_38 : decode cX2_append 38 = .ok (.iconst 1, 1) := by decide +kernel
theorem dX2_append_39 : decode cX2_append 39 = .ok (.ireturn, 1) := by decide +kernel
theorem dX2_readInto_0 : decode cX2_readInto 0 = .ok (.aload_n 0, 1) := by decide +kernel
theorem dX2_readInto_1 : decode cX2_readInto 1 = .ok (.iconst 0, 1) := by decide +kernel
theorem dX2_readInto_2 : decode cX2_readInto 2 = .ok (.putfield 19, 3) := by decide +kernel
theorem dX2_readInto_5 : decode cX2_readInto 5 = .ok (.aload_n 0, 1) := by decide +kernel
theorem dX2_readInto_6 : decode cX2_readInto 6 = .ok (.iconst 0, 1) := by decide +kernel
theorem dX2_readInto_7 : decode cX2_readInto 7 = .ok (.putfield 22, 3) := by decide +kernel
theorem dX2_readInto_10 : decode cX2_readInto 10 = .ok (.aload_n 0, 1) := by decide +kernel
theorem dX2_readInto_11 : decode cX2_readInto 11 = .ok (.invokevirtual 25, 3) := by decide +kernel
theorem dX2_readInto_14 : decode cX2_readInto 14 = .ok (.bipush 71, 2) := by decide +kernel
theorem dX2_readInto_16 : decode cX2_readInto 16 = .ok (.if_icmp .eq 5, 3) := by decide +kernel
theorem dX2_readInto_19 : decode cX2_readInto 19 = .ok (.iconst 0, 1) := by decide +kernel
theorem dX2_readInto_20 : decode cX2_readInto 20 = .ok (.ireturn, 1) := by decide +kernel
theorem dX2_readInto_21 : decode cX2_readInto 21 = .ok (.aload_n 0, 1) := by decide +kernel
theorem dX2_readInto_22 : decode cX2_readInto 22 = .ok (.dup, 1) := by decide +kernel
theorem dX2_readInto_23 : decode cX2_readInto 23 = .ok (.getfield 19, 3) := by decide +kernel
theorem dX2_readInto_26 : decode cX2_readInto 26 = .ok (.iconst 1, 1) := by decide +kernel
theorem dX2_readInto_27 : decode cX2_readInto 27 = .ok (.iadd, 1) := by decide +kernel
theorem dX2_readInto_28 : decode cX2_readInto 28 = .ok (.putfield 19, 3) := by decide +kernel
theorem dX2_readInto_31 : decode cX2_readInto 31 = .ok (.aload_n 0, 1) := by decide +kernel
theorem dX2_readInto_32 : decode cX2_readInto 32 = .ok (.iconst 2, 1) := by decide +kernel
theorem dX2_readInto_33 : decode cX2_readInto 33 = .ok (.bipush 6, 2) := by decide +kernel
theorem dX2_readInto_35 : decode cX2_readInto 35 = .ok (.invokevirtual 29, 3) := by decide +kernel
theorem dX2_readInto_38 : decode cX2_readInto 38 = .ok (.istore_n 2, 1) := by decide +kernel
theorem dX2_readInto_39 : decode cX2_readInto 39 = .ok (.iload_n 2, 1) := by decide +kernel
theorem dX2_readInto_40 : decode cX2_readInto 40 = .ok (.ifCond .ge 7, 3) := by decide +kernel
theorem dX2_readInto_43 : decode cX2_readInto 43 = .ok (.iconst (-1), 1) := by decide +kernel
theorem dX2_readInto_44 : decode cX2_readInto 44 = .ok (.goto 10, 3) := by decide +kernel
theorem dX2_readInto_47 : decode cX2_readInto 47 = .ok (.aload_n 0, 1) := by decide +kernel
theorem dX2_readInto_48 : decode cX2_readInto 48 = .ok (.iconst 2, 1) := by decide +kernel
theorem dX2_readInto_49 : decode cX2_readInto 49 = .ok (.bipush 6, 2) := by decide +kernel
theorem dX2_readInto_51 : decode cX2_readInto 51 = .ok (.invokevirtual 29, 3) := by decide +kernel
theorem dX2_readInto_54 : decode cX2_readInto 54 = .ok (.istore_n 3, 1) := by decide +kernel
theorem dX2_readInto_55 : decode cX2_readInto 55 = .ok (.iload_n 3, 1) := by decide +kernel
theorem dX2_readInto_56 : decode cX2_readInto 56 = .ok (.ifCond .ge 5, 3) := by decide +kernel
theorem dX2_readInto_59 : decode cX2_readInto 59 = .ok (.iconst 0, 1) := by decide +kernel
theorem dX2_readInto_60 : decode cX2_readInto 60 = .ok (.ireturn, 1) := by decide +kernel
theorem dX2_readInto_61 : decode cX2_readInto 61 = .ok (.aload_n 1, 1) := by decide +kernel
theorem dX2_readInto_62 : decode cX2_readInto 62 = .ok (.iload_n 2, 1) := by decide +kernel
theorem dX2_readInto_63 : decode cX2_readInto 63 = .ok (.iload_n 3, 1) := by decide +kernel
theorem dX2_readInto_64 : decode cX2_readInto 64 = .ok (.invokevirtual 33, 3) := by decide +kernel
theorem dX2_readInto_67 : decode cX2_readInto 67 = .ok (.aload_n 0, 1) := by decide +kernel
theorem dX2_readInto_68 : decode cX2_readInto 68 = .ok (.aload_n 1, 1) := by decide +kernel
theorem dX2_readInto_69 : decode cX2_readInto 69 = .ok (.invokevirtual 39, 3) := by decide +kernel
theorem dX2_readInto_72 : decode cX2_readInto 72 = .ok (.ifCond .eq 15, 3) := by decide +kernel
theorem dX2_readInto_75 : decode cX2_readInto 75 = .ok (.aload_n 0, 1) := by decide +kernel
theorem dX2_readInto_76 : decode cX2_readInto 76 = .ok (.aload_n 1, 1) := by decide +kernel
theorem dX2_readInto_77 : decode cX2_readInto 77 = .ok (.invokevirtual 43, 3) := by decide +kernel
theorem dX2_readInto_80 : decode cX2_readInto 80 = .ok (.ifCond .eq 7, 3) := by decide +kernel
theorem dX2_readInto_83 : decode cX2_readInto 83 = .ok (.iconst 1, 1) := by decide +kernel
theorem dX2_readInto_84 : decode cX2_readInto 84 = .ok (.goto 4, 3) := by decide +kernel
theorem dX2_readInto_87 : decode cX2_readInto 87 = .ok (.iconst 0, 1) := by decide +kernel
theorem dX2_readInto_88 : decode cX2_readInto 88 = .ok (.ireturn, 1) := by decide +kernel
theorem dX2_nextLetter_0 : decode cX2_nextLetter 0 = .ok (.aload_n 0, 1) := by decide +kernel
theorem dX2_nextLetter_1 : decode cX2_nextLetter 1 = .ok (.getfield 19, 3) := by decide +kernel
theorem dX2_nextLetter_4 : decode cX2_nextLetter 4 = .ok (.ifCond .lt 35, 3) := by decide +kernel
theorem dX2_nextLetter_7 : decode cX2_nextLetter 7 = .ok (.aload_n 0, 1) := by decide +kernel
theorem dX2_nextLetter_8 : decode cX2_nextLetter 8 = .ok (.getfield 19, 3) := by decide +kernel
theorem dX2_nextLetter_11 : decode cX2_nextLetter 11 = .ok (.aload_n 0, 1) := by decide +kernel
theorem dX2_nextLetter_12 : decode cX2_nextLetter 12 = .ok (.getfield 15, 3) := by decide +kernel
theorem dX2_nextLetter_15 : decode cX2_nextLetter 15 = .ok (.if_icmp .ge 24, 3) := by decide +kernel
theorem dX2_nextLetter_18 : decode cX2_nextLetter 18 = .ok (.aload_n 0, 1) := by decide +kernel
theorem dX2_nextLetter_19 : decode cX2_nextLetter 19 = .ok (.getfield 19, 3) := by decide +kernel
theorem dX2_nextLetter_22 : decode cX2_nextLetter 22 = .ok (.bipush 90, 2) := by decide +kernel
theorem dX2_nextLetter_24 : decode cX2_nextLetter 24 = .ok (.if_icmp .ge 15, 3) := by decide +kernel
theorem dX2_nextLetter_27 : decode cX2_nextLetter 27 = .ok (.aload_n 0, 1) := by decide +kernel
theorem dX2_nextLetter_28 : decode cX2_nextLetter 28 = .ok (.getfield 9, 3) := by decide +kernel
theorem dX2_nextLetter_31 : decode cX2_nextLetter 31 = .ok (.aload_n 0, 1) := by decide +kernel
theorem dX2_nextLetter_32 : decode cX2_nextLetter 32 = .ok (.getfield 19, 3) := by decide +kernel
theorem dX2_nextLetter_35 : decode cX2_nextLetter 35 = .ok (.caload, 1) := by decide +kernel
theorem dX2_nextLetter_36 : decode cX2_nextLetter 36 = .ok (.goto 4, 3) := by decide +kernel
theorem dX2_nextLetter_39 : decode cX2_nextLetter 39 = .ok (.iconst (-1), 1) := by decide +kernel
theorem dX2_nextLetter_40 : decode cX2_nextLetter 40 = .ok (.ireturn, 1) := by decide +kernel
theorem dX2_readDigit_0 : decode cX2_readDigit 0 = .ok (.aload_n 0, 1) := by decide +kernel
theorem dX2_readDigit_1 : decode cX2_readDigit 1 = .ok (.invokevirtual 25, 3) := by decide +kernel
theorem dX2_readDigit_4 : decode cX2_readDigit 4 = .ok (.bipush 48, 2) := by decide +kernel
theorem dX2_readDigit_6 : decode cX2_readDigit 6 = .ok (.isub, 1) := by decide +kernel
theorem dX2_readDigit_7 : decode cX2_readDigit 7 = .ok (.istore_n 3, 1) := by decide +kernel
theorem dX2_readDigit_8 : decode cX2_readDigit 8 = .ok (.iload_n 3, 1) := by decide +kernel
theorem dX2_readDigit_9 : decode cX2_readDigit 9 = .ok (.iload_n 1, 1) := by decide +kernel
theorem dX2_readDigit_10 : decode cX2_readDigit 10 = .ok (.if_icmp .lt 8, 3) := by decide +kernel
theorem dX2_readDigit_13 : decode cX2_readDigit 13 = .ok (.iload_n 3, 1) := by decide +kernel
theorem dX2_readDigit_14 : decode cX2_readDigit 14 = .ok (.iload_n 2, 1) := by decide +kernel
theorem dX2_readDigit_15 : decode cX2_readDigit 15 = .ok (.if_icmp .le 5, 3) := by decide +kernel
theorem dX2_readDigit_18 : decode cX2_readDigit 18 = .ok (.iconst (-1), 1) := by decide +kernel
theorem dX2_readDigit_19 : decode cX2_readDigit 19 = .ok (.ireturn, 1) := by decide +kernel
theorem dX2_readDigit_20 : decode cX2_readDigit 20 = .ok (.aload_n 0, 1) := by decide +kernel
theorem dX2_readDigit_21 : decode cX2_readDigit 21 = .ok (.dup, 1) := by decide +kernel
theorem dX2_readDigit_22 : decode cX2_readDigit 22 = .ok (.getfield 19, 3) := by decide +kernel
theorem dX2_readDigit_25 : decode cX2_readDigit 25 = .ok (.iconst 1, 1) := by decide +kernel
theorem dX2_readDigit_26 : decode cX2_readDigit 26 = .ok (.iadd, 1) := by decide +kernel
theorem dX2_readDigit_27 : decode cX2_readDigit 27 = .ok (.putfield 19, 3) := by decide +kernel
theorem dX2_readDigit_30 : decode cX2_readDigit 30 = .ok (.iload_n 3, 1) := by decide +kernel
theorem dX2_readDigit_31 : decode cX2_readDigit 31 = .ok (.ireturn, 1) := by decide +kernel
theorem dX2_readHeights_0 : decode cX2_readHeights 0 = .ok (.iconst 0, 1) := by decide +kernel
theorem dX2_readHeights_1 : decode cX2_readHeights 1 = .ok (.istore_n 2, 1) := by decide +kernel
theorem dX2_readHeights_2 : decode cX2_readHeights 2 = .ok (.iload_n 2, 1) := by decide +kernel
theorem dX2_readHeights_3 : decode cX2_readHeights 3 = .ok (.aload_n 1, 1) := by decide +kernel
theorem dX2_readHeights_4 : decode cX2_readHeights 4 = .ok (.invokevirtual 46, 3) := by decide +kernel
theorem dX2_readHeights_7 : decode cX2_readHeights 7 = .ok (.if_icmp .ge 30, 3) := by decide +kernel
theorem dX2_readHeights_10 : decode cX2_readHeights 10 = .ok (.aload_n 0, 1) := by decide +kernel
theorem dX2_readHeights_11 : decode cX2_readHeights 11 = .ok (.iconst 0, 1) := by decide +kernel
theorem dX2_readHeights_12 : decode cX2_readHeights 12 = .ok (.bipush 9, 2) := by decide +kernel
theorem dX2_readHeights_14 : decode cX2_readHeights 14 = .ok (.invokevirtual 29, 3) := by decide +kernel
theorem dX2_readHeights_17 : decode cX2_readHeights 17 = .ok (.istore_n 3, 1) := by decide +kernel
theorem dX2_readHeights_18 : decode cX2_readHeights 18 = .ok (.iload_n 3, 1) := by decide +kernel
theorem dX2_readHeights_19 : decode cX2_readHeights 19 = .ok (.ifCond .ge 5, 3) := by decide +kernel
theorem dX2_readHeights_22 : decode cX2_readHeights 22 = .ok (.iconst 0, 1) := by decide +kernel
theorem dX2_readHeights_23 : decode cX2_readHeights 23 = .ok (.ireturn, 1) := by decide +kernel
theorem dX2_readHeights_24 : decode cX2_readHeights 24 = .ok (.aload_n 1, 1) := by decide +kernel
theorem dX2_readHeights_25 : decode cX2_readHeights 25 = .ok (.iload_n 2, 1) := by decide +kernel
theorem dX2_readHeights_26 : decode cX2_readHeights 26 = .ok (.iload_n 3, 1) := by decide +kernel
theorem dX2_readHeights_27 : decode cX2_readHeights 27 = .ok (.invokevirtual 49, 3) := by decide +kernel
theorem dX2_readHeights_30 : decode cX2_readHeights 30 = .ok (.pop, 1) := by decide +kernel
theorem dX2_readHeights_31 : decode cX2_readHeights 31 = .ok (.iinc 2 1, 3) := by decide +kernel
theorem dX2_readHeights_34 : decode cX2_readHeights 34 = .ok (.goto (-32), 3) := by decide +kernel
theorem dX2_readHeights_37 : decode cX2_readHeights 37 = .ok (.iconst 1, 1) := by decide +kernel
theorem dX2_readHeights_38 : decode cX2_readHeights 38 = .ok (.ireturn, 1) := by decide +kernel
theorem dX2_readParts_0 : decode cX2_readParts 0 = .ok (.iconst 0, 1) := by decide +kernel
theorem dX2_readParts_1 : decode cX2_readParts 1 = .ok (.istore_n 2, 1) := by decide +kernel
theorem dX2_readParts_2 : decode cX2_readParts 2 = .ok (.iload_n 2, 1) := by decide +kernel
theorem dX2_readParts_3 : decode cX2_readParts 3 = .ok (.bipush 90, 2) := by decide +kernel
theorem dX2_readParts_5 : decode cX2_readParts 5 = .ok (.if_icmp .ge 49, 3) := by decide +kernel
theorem dX2_readParts_8 : decode cX2_readParts 8 = .ok (.aload_n 0, 1) := by decide +kernel
theorem dX2_readParts_9 : decode cX2_readParts 9 = .ok (.getfield 19, 3) := by decide +kernel
theorem dX2_readParts_12 : decode cX2_readParts 12 = .ok (.aload_n 0, 1) := by decide +kernel
theorem dX2_readParts_13 : decode cX2_readParts 13 = .ok (.getfield 15, 3) := by decide +kernel
theorem dX2_readParts_16 : decode cX2_readParts 16 = .ok (.if_icmp .ge 38, 3) := by decide +kernel
theorem dX2_readParts_19 : decode cX2_readParts 19 = .ok (.aload_n 0, 1) := by decide +kernel
theorem dX2_readParts_20 : decode cX2_readParts 20 = .ok (.invokevirtual 25, 3) := by decide +kernel
theorem dX2_readParts_23 : decode cX2_readParts 23 = .ok (.bipush 116, 2) := by decide +kernel
theorem dX2_readParts_25 : decode cX2_readParts 25 = .ok (.if_icmp .ne 11, 3) := by decide +kernel
theorem dX2_readParts_28 : decode cX2_readParts 28 = .ok (.aload_n 0, 1) := by decide +kernel
theorem dX2_readParts_29 : decode cX2_readParts 29 = .ok (.aload_n 1, 1) := by decide +kernel
theorem dX2_readParts_30 : decode cX2_readParts 30 = .ok (.invokevirtual 53, 3) := by decide +kernel
theorem dX2_readParts_33 : decode cX2_readParts 33 = .ok (.goto 8, 3) := by decide +kernel
theorem dX2_readParts_36 : decode cX2_readParts 36 = .ok (.aload_n 0, 1) := by decide +kernel
theorem dX2_readParts_37 : decode cX2_readParts 37 = .ok (.aload_n 1, 1) := by decide +kernel
theorem dX2_readParts_38 : decode cX2_readParts 38 = .ok (.invokevirtual 56, 3) := by decide +kernel
theorem dX2_readParts_41 : decode cX2_readParts 41 = .ok (.istore_n 3, 1) := by decide +kernel
theorem dX2_readParts_42 : decode cX2_readParts 42 = .ok (.iload_n 3, 1) := by decide +kernel
theorem dX2_readParts_43 : decode cX2_readParts 43 = .ok (.ifCond .ne 5, 3) := by decide +kernel
theorem dX2_readParts_46 : decode cX2_readParts 46 = .ok (.iconst 0, 1) := by decide +kernel
theorem dX2_readParts_47 : decode cX2_readParts 47 = .ok (.ireturn, 1) := by decide +kernel
theorem dX2_readParts_48 : decode cX2_readParts 48 = .ok (.iinc 2 1, 3) := by decide +kernel
theorem dX2_readParts_51 : decode cX2_readParts 51 = .ok (.goto (-49), 3) := by decide +kernel
theorem dX2_readParts_54 : decode cX2_readParts 54 = .ok (.iconst 1, 1) := by decide +kernel
theorem dX2_readParts_55 : decode cX2_readParts 55 = .ok (.ireturn, 1) := by decide +kernel
theorem dX2_readTower_0 : decode cX2_readTower 0 = .ok (.aload_n 1, 1) := by decide +kernel
theorem dX2_readTower_1 : decode cX2_readTower 1 = .ok (.getfield 59, 3) := by decide +kernel
theorem dX2_readTower_4 : decode cX2_readTower 4 = .ok (.iconst 5, 1) := by decide +kernel
theorem dX2_readTower_5 : decode cX2_readTower 5 = .ok (.if_icmp .lt 5, 3) := by decide +kernel
theorem dX2_readTower_8 : decode cX2_readTower 8 = .ok (.iconst 0, 1) := by decide +kernel
theorem dX2_readTower_9 : decode cX2_readTower 9 = .ok (.ireturn, 1) := by decide +kernel
theorem dX2_readTower_10 : decode cX2_readTower 10 = .ok (.aload_n 0, 1) := by decide +kernel
theorem dX2_readTower_11 : decode cX2_readTower 11 = .ok (.dup, 1) := by decide +kernel
theorem dX2_readTower_12 : decode cX2_readTower 12 = .ok (.getfield 19, 3) := by decide +kernel
theorem dX2_readTower_15 : decode cX2_readTower 15 = .ok (.iconst 1, 1) := by decide +kernel
theorem dX2_readTower_16 : decode cX2_readTower 16 = .ok (.iadd, 1) := by decide +kernel
theorem dX2_readTower_17 : decode cX2_readTower 17 = .ok (.putfield 19, 3) := by decide +kernel
theorem dX2_readTower_20 : decode cX2_readTower 20 = .ok (.aload_n 1, 1) := by decide +kernel
theorem dX2_readTower_21 : decode cX2_readTower 21 = .ok (.invokevirtual 46, 3) := by decide +kernel
theorem dX2_readTower_24 : decode cX2_readTower 24 = .ok (.iconst 1, 1) := by decide +kernel
theorem dX2_readTower_25 : decode cX2_readTower 25 = .ok (.isub, 1) := by decide +kernel
theorem dX2_readTower_26 : decode cX2_readTower 26 = .ok (.istore_n 2, 1) := by decide +kernel
theorem dX2_readTower_27 : decode cX2_readTower 27 = .ok (.aload_n 0, 1) := by decide +kernel
theorem dX2_readTower_28 : decode cX2_readTower 28 = .ok (.iconst 0, 1) := by decide +kernel
theorem dX2_readTower_29 : decode cX2_readTower 29 = .ok (.iload_n 2, 1) := by decide +kernel
theorem dX2_readTower_30 : decode cX2_readTower 30 = .ok (.bipush 10, 2) := by decide +kernel
theorem dX2_readTower_32 : decode cX2_readTower 32 = .ok (.idiv, 1) := by decide +kernel
theorem dX2_readTower_33 : decode cX2_readTower 33 = .ok (.invokevirtual 29, 3) := by decide +kernel
theorem dX2_readTower_36 : decode cX2_readTower 36 = .ok (.istore_n 3, 1) := by decide +kernel
theorem dX2_readTower_37 : decode cX2_readTower 37 = .ok (.iload_n 3, 1) := by decide +kernel
theorem dX2_readTower_38 : decode cX2_readTower 38 = .ok (.ifCond .ge 7, 3) := by decide +kernel
theorem dX2_readTower_41 : decode cX2_readTower 41 = .ok (.iconst (-1), 1) := by decide +kernel
theorem dX2_readTower_42 : decode cX2_readTower 42 = .ok (.goto 19, 3) := by decide +kernel
theorem dX2_readTower_45 : decode cX2_readTower 45 = .ok (.aload_n 0, 1) := by decide +kernel
theorem dX2_readTower_46 : decode cX2_readTower 46 = .ok (.iconst 0, 1) := by decide +kernel
theorem dX2_readTower_47 : decode cX2_readTower 47 = .ok (.bipush 9, 2) := by decide +kernel
theorem dX2_readTower_49 : decode cX2_readTower 49 = .ok (.iload_n 2, 1) := by decide +kernel
theorem dX2_readTower_50 : decode cX2_readTower 50 = .ok (.bipush 10, 2) := by decide +kernel
theorem dX2_readTower_52 : decode cX2_readTower 52 = .ok (.iload_n 3, 1) := by decide +kernel
theorem dX2_readTower_53 : decode cX2_readTower 53 = .ok (.imul, 1) := by decide +kernel
theorem dX2_readTower_54 : decode cX2_readTower 54 = .ok (.isub, 1) := by decide +kernel
theorem dX2_readTower_55 : decode cX2_readTower 55 = .ok (.invokestatic 62, 3) := by decide +kernel
theorem dX2_readTower_58 : decode cX2_readTower 58 = .ok (.invokevirtual 29, 3) := by decide +kernel
theorem dX2_readTower_61 : decode cX2_readTower 61 = .ok (.istore 4, 2) := by decide +kernel
theorem dX2_readTower_63 : decode cX2_readTower 63 = .ok (.iload 4, 2) := by decide +kernel
theorem dX2_readTower_65 : decode cX2_readTower 65 = .ok (.ifCond .ge 7, 3) := by decide +kernel
theorem dX2_readTower_68 : decode cX2_readTower 68 = .ok (.iconst (-1), 1) := by decide +kernel
theorem dX2_readTower_69 : decode cX2_readTower 69 = .ok (.goto 10, 3) := by decide +kernel
theorem dX2_readTower_72 : decode cX2_readTower 72 = .ok (.aload_n 0, 1) := by decide +kernel
theorem dX2_readTower_73 : decode cX2_readTower 73 = .ok (.iconst 0, 1) := by decide +kernel
theorem dX2_readTower_74 : decode cX2_readTower 74 = .ok (.bipush 9, 2) := by decide +kernel
theorem dX2_readTower_76 : decode cX2_readTower 76 = .ok (.invokevirtual 29, 3) := by decide +kernel
theorem dX2_readTower_79 : decode cX2_readTower 79 = .ok (.istore 5, 2) := by decide +kernel
theorem dX2_readTower_81 : decode cX2_readTower 81 = .ok (.iload 5, 2) := by decide +kernel
theorem dX2_readTower_83 : decode cX2_readTower 83 = .ok (.ifCond .lt 27, 3) := by decide +kernel
theorem dX2_readTower_86 : decode cX2_readTower 86 = .ok (.aload_n 1, 1) := by decide +kernel
theorem dX2_readTower_87 : decode cX2_readTower 87 = .ok (.aload_n 1, 1) := by decide +kernel
theorem dX2_readTower_88 : decode cX2_readTower 88 = .ok (.getfield 59, 3) := by decide +kernel
theorem dX2_readTower_91 : decode cX2_readTower 91 = .ok (.bipush 10, 2) := by decide +kernel
theorem dX2_readTower_93 : decode cX2_readTower 93 = .ok (.iload_n 3, 1) := by decide +kernel
theorem dX2_readTower_94 : decode cX2_readTower 94 = .ok (.imul, 1) := by decide +kernel
theorem dX2_readTower_95 : decode cX2_readTower 95 = .ok (.iload 4, 2) := by decide +kernel
theorem dX2_readTower_97 : decode cX2_readTower 97 = .ok (.iadd, 1) := by decide +kernel
theorem dX2_readTower_98 : decode cX2_readTower 98 = .ok (.iload 5, 2) := by decide +kernel
theorem dX2_readTower_100 : decode cX2_readTower 100 = .ok (.invokevirtual 67, 3) := by decide +kernel
theorem dX2_readTower_103 : decode cX2_readTower 103 = .ok (.ifCond .eq 7, 3) := by decide +kernel
theorem dX2_readTower_106 : decode cX2_readTower 106 = .ok (.iconst 1, 1) := by decide +kernel
theorem dX2_readTower_107 : decode cX2_readTower 107 = .ok (.goto 4, 3) := by decide +kernel
theorem dX2_readTower_110 : decode cX2_readTower 110 = .ok (.iconst 0, 1) := by decide +kernel
theorem dX2_readTower_111 : decode cX2_readTower 111 = .ok (.ireturn, 1) := by decide +kernel
theorem dX2_readSetting_0 : decode cX2_readSetting 0 = .ok (.aload_n 0, 1) := by decide +kernel
theorem dX2_readSetting_1 : decode cX2_readSetting 1 = .ok (.invokevirtual 25, 3) := by decide +kernel
theorem dX2_readSetting_4 : decode cX2_readSetting 4 = .ok (.istore_n 2, 1) := by decide +kernel
theorem dX2_readSetting_5 : decode cX2_readSetting 5 = .ok (.iload_n 2, 1) := by decide +kernel
theorem dX2_readSetting_6 : decode cX2_readSetting 6 = .ok (.ifCond .ge 7, 3) := by decide +kernel
theorem dX2_readSetting_9 : decode cX2_readSetting 9 = .ok (.iconst (-1), 1) := by decide +kernel
theorem dX2_readSetting_10 : decode cX2_readSetting 10 = .ok (.goto 10, 3) := by decide +kernel
theorem dX2_readSetting_13 : decode cX2_readSetting 13 = .ok (.ldc 71, 2) := by decide +kernel
theorem dX2_readSetting_15 : decode cX2_readSetting 15 = .ok (.iload_n 2, 1) := by decide +kernel
theorem dX2_readSetting_16 : decode cX2_readSetting 16 = .ok (.i2c, 1) := by decide +kernel
theorem dX2_readSetting_17 : decode cX2_readSetting 17 = .ok (.invokevirtual 73, 3) := by decide +kernel
theorem dX2_readSetting_20 : decode cX2_readSetting 20 = .ok (.istore_n 3, 1) := by decide +kernel
theorem dX2_readSetting_21 : decode cX2_readSetting 21 = .ok (.iload_n 3, 1) := by decide +kernel
theorem dX2_readSetting_22 : decode cX2_readSetting 22 = .ok (.ifCond .lt 14, 3) := by decide +kernel
theorem dX2_readSetting_25 : decode cX2_readSetting 25 = .ok (.aload_n 0, 1) := by decide +kernel
theorem dX2_readSetting_26 : decode cX2_readSetting 26 = .ok (.getfield 22, 3) := by decide +kernel
theorem dX2_readSetting_29 : decode cX2_readSetting 29 = .ok (.iload_n 3, 1) := by decide +kernel
theorem dX2_readSetting_30 : decode cX2_readSetting 30 = .ok (.ishr, 1) := by decide +kernel
theorem dX2_readSetting_31 : decode cX2_readSetting 31 = .ok (.iconst 1, 1) := by decide +kernel
theorem dX2_readSetting_32 : decode cX2_readSetting 32 = .ok (.iand, 1) := by decide +kernel
theorem dX2_readSetting_33 : decode cX2_readSetting 33 = .ok (.ifCond .eq 5, 3) := by decide +kernel
theorem dX2_readSetting_36 : decode cX2_readSetting 36 = .ok (.iconst 0, 1) := by decide +kernel
theorem dX2_readSetting_37 : decode cX2_readSetting 37 = .ok (.ireturn, 1) := by decide +kernel
theorem dX2_readSetting_38 : decode cX2_readSetting 38 = .ok (.aload_n 0, 1) := by decide +kernel
theorem dX2_readSetting_39 : decode cX2_readSetting 39 = .ok (.dup, 1) := by decide +kernel
theorem dX2_readSetting_40 : decode cX2_readSetting 40 = .ok (.getfield 19, 3) := by decide +kernel
theorem dX2_readSetting_43 : decode cX2_readSetting 43 = .ok (.iconst 1, 1) := by decide +kernel
theorem dX2_readSetting_44 : decode cX2_readSetting 44 = .ok (.iadd, 1) := by decide +kernel
theorem dX2_readSetting_45 : decode cX2_readSetting 45 = .ok (.putfield 19, 3) := by decide +kernel
theorem dX2_readSetting_48 : decode cX2_readSetting 48 = .ok (.aload_n 0, 1) := by decide +kernel
theorem dX2_readSetting_49 : decode cX2_readSetting 49 = .ok (.iload_n 3, 1) := by decide +kernel
theorem dX2_readSetting_50 : decode cX2_readSetting 50 = .ok (.invokestatic 79, 3) := by decide +kernel
theorem dX2_readSetting_53 : decode cX2_readSetting 53 = .ok (.bipush 9, 2) := by decide +kernel
theorem dX2_readSetting_55 : decode cX2_readSetting 55 = .ok (.invokevirtual 29, 3) := by decide +kernel
theorem dX2_readSetting_58 : decode cX2_readSetting 58 = .ok (.istore 4, 2) := by decide +kernel
theorem dX2_readSetting_60 : decode cX2_readSetting 60 = .ok (.aload_n 0, 1) := by decide +kernel
theorem dX2_readSetting_61 : decode cX2_readSetting 61 = .ok (.dup, 1) := by decide +kernel
theorem dX2_readSetting_62 : decode cX2_readSetting 62 = .ok (.getfield 22, 3) := by decide +kernel
theorem dX2_readSetting_65 : decode cX2_readSetting 65 = .ok (.iconst 1, 1) := by decide +kernel
theorem dX2_readSetting_66 : decode cX2_readSetting 66 = .ok (.iload_n 3, 1) := by decide +kernel
theorem dX2_readSetting_67 : decode cX2_readSetting 67 = .ok (.ishl, 1) := by decide +kernel
theorem dX2_readSetting_68 : decode cX2_readSetting 68 = .ok (.ior, 1) := by decide +kernel
theorem dX2_readSetting_69 : decode cX2_readSetting 69 = .ok (.putfield 22, 3) := by decide +kernel
theorem dX2_readSetting_72 : decode cX2_readSetting 72 = .ok (.iload 4, 2) := by decide +kernel
theorem dX2_readSetting_74 : decode cX2_readSetting 74 = .ok (.ifCond .lt 17, 3) := by decide +kernel
theorem dX2_readSetting_77 : decode cX2_readSetting 77 = .ok (.aload_n 1, 1) := by decide +kernel
theorem dX2_readSetting_78 : decode cX2_readSetting 78 = .ok (.iload_n 3, 1) := by decide +kernel
theorem dX2_readSetting_79 : decode cX2_readSetting 79 = .ok (.iload 4, 2) := by decide +kernel
theorem dX2_readSetting_81 : decode cX2_readSetting 81 = .ok (.invokevirtual 82, 3) := by decide +kernel
theorem dX2_readSetting_84 : decode cX2_readSetting 84 = .ok (.ifCond .eq 7, 3) := by decide +kernel
theorem dX2_readSetting_87 : decode cX2_readSetting 87 = .ok (.iconst 1, 1) := by decide +kernel
theorem dX2_readSetting_88 : decode cX2_readSetting 88 = .ok (.goto 4, 3) := by decide +kernel
theorem dX2_readSetting_91 : decode cX2_readSetting 91 = .ok (.iconst 0, 1) := by decide +kernel
theorem dX2_readSetting_92 : decode cX2_readSetting 92 = .ok (.ireturn, 1) := by decide +kernel
theorem dX3_init_0 : decode cX3_init 0 = .ok (.aload_n 0, 1) := by decide +kernel
theorem dX3_init_1 : decode cX3_init 1 = .ok (.invokespecial 3, 3) := by decide +kernel
theorem dX3_init_4 : decode cX3_init 4 = .ok (.aload_n 0, 1) := by decide +kernel
theorem dX3_init_5 : decode cX3_init 5 = .ok (.bipush 6, 2) := by decide +kernel
theorem dX3_init_7 : decode cX3_init 7 = .ok (.newarray .int, 2) := by decide +kernel
theorem dX3_init_9 : decode cX3_init 9 = .ok (.putfield 9, 3) := by decide +kernel
theorem dX3_init_12 : decode cX3_init 12 = .ok (.aload_n 0, 1) := by decide +kernel
theorem dX3_init_13 : decode cX3_init 13 = .ok (.bipush 6, 2) := by decide +kernel
theorem dX3_init_15 : decode cX3_init 15 = .ok (.newarray .boolean, 2) := by decide +kernel
theorem dX3_init_17 : decode cX3_init 17 = .ok (.putfield 15, 3) := by decide +kernel
theorem dX3_init_20 : decode cX3_init 20 = .ok (.return_, 1) := by decide +kernel
theorem dX3_add_0 : decode cX3_add 0 = .ok (.aload_n 0, 1) := by decide +kernel
theorem dX3_add_1 : decode cX3_add 1 = .ok (.getfield 19, 3) := by decide +kernel
theorem dX3_add_4 : decode cX3_add 4 = .ok (.ifCond .lt 12, 3) := by decide +kernel
theorem dX3_add_7 : decode cX3_add 7 = .ok (.aload_n 0, 1) := by decide +kernel
theorem dX3_add_8 : decode cX3_add 8 = .ok (.getfield 19, 3) := by decide +kernel
theorem dX3_add_11 : decode cX3_add 11 = .ok (.bipush 6, 2) := by decide +kernel
theorem dX3_add_13 : decode cX3_add 13 = .ok (.if_icmp .lt 5, 3) := by decide +kernel
theorem dX3_add_16 : decode cX3_add 16 = .ok (.iconst 0, 1) := by decide +kernel
theorem dX3_add_17 : decode cX3_add 17 = .ok (.ireturn, 1) := by decide +kernel
theorem dX3_add_18 : decode cX3_add 18 = .ok (.aload_n 0, 1) := by decide +kernel
theorem dX3_add_19 : decode cX3_add 19 = .ok (.getfield 9, 3) := by decide +kernel
theorem dX3_add_22 : decode cX3_add 22 = .ok (.aload_n 0, 1) := by decide +kernel
theorem dX3_add_23 : decode cX3_add 23 = .ok (.getfield 19, 3) := by decide +kernel
theorem dX3_add_26 : decode cX3_add 26 = .ok (.iload_n 1, 1) := by decide +kernel
theorem dX3_add_27 : decode cX3_add 27 = .ok (.iastore, 1) := by decide +kernel
theorem dX3_add_28 : decode cX3_add 28 = .ok (.aload_n 0, 1) := by decide +kernel
theorem dX3_add_29 : decode cX3_add 29 = .ok (.getfield 15, 3) := by decide +kernel
theorem dX3_add_32 : decode cX3_add 32 = .ok (.aload_n 0, 1) := by decide +kernel
theorem dX3_add_33 : decode cX3_add 33 = .ok (.getfield 19, 3) := by decide +kernel
theorem dX3_add_36 : decode cX3_add 36 = .ok (.iload_n 2, 1) := by decide +kernel
theorem dX3_add_37 : decode cX3_add 37 = .ok (.bastore, 1) := by decide +kernel
theorem dX3_add_38 : decode cX3_add 38 = .ok (.aload_n 0, 1) := by decide +kernel
theorem dX3_add_39 : decode cX3_add 39 = .ok (.dup, 1) := by decide +kernel
theorem dX3_add_40 : decode cX3_add 40 = .ok (.getfield 19, 3) := by decide +kernel
theorem dX3_add_43 : decode cX3_add 43 = .ok (.iconst 1, 1) := by decide +kernel
theorem dX3_add_44 : decode cX3_add 44 = .ok (.iadd, 1) := by decide +kernel
theorem dX3_add_45 : decode cX3_add 45 = .ok (.putfield 19, 3) := by decide +kernel
theorem dX3_add_48 : decode cX3_add 48 = .ok (.iconst 1, 1) := by decide +kernel
theorem dX3_add_49 : decode cX3_add 49 = .ok (.ireturn, 1) := by decide +kernel
theorem dX3_agreeFrom_0 : decode cX3_agreeFrom 0 = .ok (.aload_n 2, 1) := by decide +kernel
theorem dX3_agreeFrom_1 : decode cX3_agreeFrom 1 = .ok (.getfield 23, 3) := by decide +kernel
theorem dX3_agreeFrom_4 : decode cX3_agreeFrom 4 = .ok (.iconst 0, 1) := by decide +kernel
theorem dX3_agreeFrom_5 : decode cX3_agreeFrom 5 = .ok (.iaload, 1) := by decide +kernel
theorem dX3_agreeFrom_6 : decode cX3_agreeFrom 6 = .ok (.istore_n 3, 1) := by decide +kernel
theorem dX3_agreeFrom_7 : decode cX3_agreeFrom 7 = .ok (.iconst 0, 1) := by decide +kernel
theorem dX3_agreeFrom_8 : decode cX3_agreeFrom 8 = .ok (.istore 4, 2) := by decide +kernel
theorem dX3_agreeFrom_10 : decode cX3_agreeFrom 10 = .ok (.iload 4, 2) := by decide +kernel
theorem dX3_agreeFrom_12 : decode cX3_agreeFrom 12 = .ok (.aload_n 0, 1) := by decide +kernel
theorem dX3_agreeFrom_13 : decode cX3_agreeFrom 13 = .ok (.getfield 19, 3) := by decide +kernel
theorem dX3_agreeFrom_16 : decode cX3_agreeFrom 16 = .ok (.if_icmp .ge 67, 3) := by decide +kernel
theorem dX3_agreeFrom_19 : decode cX3_agreeFrom 19 = .ok (.iload 4, 2) := by decide +kernel
theorem dX3_agreeFrom_21 : decode cX3_agreeFrom 21 = .ok (.bipush 6, 2) := by decide +kernel
theorem dX3_agreeFrom_23 : decode cX3_agreeFrom 23 = .ok (.if_icmp .ge 60, 3) := by decide +kernel
theorem dX3_agreeFrom_26 : decode cX3_agreeFrom 26 = .ok (.aload_n 2, 1) := by decide +kernel
theorem dX3_agreeFrom_27 : decode cX3_agreeFrom 27 = .ok (.aload_n 0, 1) := by decide +kernel
theorem dX3_agreeFrom_28 : decode cX3_agreeFrom 28 = .ok (.getfield 9, 3) := by decide +kernel
theorem dX3_agreeFrom_31 : decode cX3_agreeFrom 31 = .ok (.iload 4, 2) := by decide +kernel
theorem dX3_agreeFrom_33 : decode cX3_agreeFrom 33 = .ok (.iaload, 1) := by decide +kernel
theorem dX3_agreeFrom_34 : decode cX3_agreeFrom 34 = .ok (.invokevirtual 28, 3) := by decide +kernel
theorem dX3_agreeFrom_37 : decode cX3_agreeFrom 37 = .ok (.ifCond .eq 23, 3) := by decide +kernel
theorem dX3_agreeFrom_40 : decode cX3_agreeFrom 40 = .ok (.aload_n 2, 1) := by decide +kernel
theorem dX3_agreeFrom_41 : decode cX3_agreeFrom 41 = .ok (.iload_n 1, 1) := by decide +kernel
theorem dX3_agreeFrom_42 : decode cX3_agreeFrom 42 = .ok (.iload_n 3, 1) := by decide +kernel
theorem dX3_agreeFrom_43 : decode cX3_agreeFrom 43 = .ok (.aload_n 0, 1) := by decide +kernel
theorem dX3_agreeFrom_44 : decode cX3_agreeFrom 44 = .ok (.getfield 9, 3) := by decide +kernel
theorem dX3_agreeFrom_47 : decode cX3_agreeFrom 47 = .ok (.iload 4, 2) := by decide +kernel
theorem dX3_agreeFrom_49 : decode cX3_agreeFrom 49 = .ok (.iaload, 1) := by decide +kernel
theorem dX3_agreeFrom_50 : decode cX3_agreeFrom 50 = .ok (.invokevirtual 32, 3) := by decide +kernel
theorem dX3_agreeFrom_53 : decode cX3_agreeFrom 53 = .ok (.ifCond .eq 7, 3) := by decide +kernel
theorem dX3_agreeFrom_56 : decode cX3_agreeFrom 56 = .ok (.iconst 1, 1) := by decide +kernel
theorem dX3_agreeFrom_57 : decode cX3_agreeFrom 57 = .ok (.goto 4, 3) := by decide +kernel
theorem dX3_agreeFrom_60 : decode cX3_agreeFrom 60 = .ok (.iconst 0, 1) := by decide +kernel
theorem dX3_agreeFrom_61 : decode cX3_agreeFrom 61 = .ok (.istore 5, 2) := by decide +kernel
theorem dX3_agreeFrom_63 : decode cX3_agreeFrom 63 = .ok (.iload 5, 2) := by decide +kernel
theorem dX3_agreeFrom_65 : decode cX3_agreeFrom 65 = .ok (.aload_n 0, 1) := by decide +kernel
theorem dX3_agreeFrom_66 : decode cX3_agreeFrom 66 = .ok (.getfield 15, 3) := by decide +kernel
theorem dX3_agreeFrom_69 : decode cX3_agreeFrom 69 = .ok (.iload 4, 2) := by decide +kernel
theorem dX3_agreeFrom_71 : decode cX3_agreeFrom 71 = .ok (.baload, 1) := by decide +kernel
theorem dX3_agreeFrom_72 : decode cX3_agreeFrom 72 = .ok (.if_icmp .eq 5, 3) := by decide +kernel
theorem dX3_agreeFrom_75 : decode cX3_agreeFrom 75 = .ok (.iconst 0, 1) := by decide +kernel
theorem dX3_agreeFrom_76 : decode cX3_agreeFrom 76 = .ok (.ireturn, 1) := by decide +kernel
theorem dX3_agreeFrom_77 : decode cX3_agreeFrom 77 = .ok (.iinc 4 1, 3) := by decide +kernel
theorem dX3_agreeFrom_80 : decode cX3_agreeFrom 80 = .ok (.goto (-70), 3) := by decide +kernel
theorem dX3_agreeFrom_83 : decode cX3_agreeFrom 83 = .ok (.iconst 1, 1) := by decide +kernel
theorem dX3_agreeFrom_84 : decode cX3_agreeFrom 84 = .ok (.ireturn, 1) := by decide +kernel
theorem dX4_init_0 : decode cX4_init 0 = .ok (.aload_n 0, 1) := by decide +kernel
theorem dX4_init_1 : decode cX4_init 1 = .ok (.invokespecial 1, 3) := by decide +kernel
theorem dX4_init_4 : decode cX4_init 4 = .ok (.aload_n 0, 1) := by decide +kernel
theorem dX4_init_5 : decode cX4_init 5 = .ok (.new 7, 3) := by decide +kernel
theorem dX4_init_8 : decode cX4_init 8 = .ok (.dup, 1) := by decide +kernel
theorem dX4_init_9 : decode cX4_init 9 = .ok (.invokespecial 9, 3) := by decide +kernel
theorem dX4_init_12 : decode cX4_init 12 = .ok (.putfield 10, 3) := by decide +kernel
theorem dX4_init_15 : decode cX4_init 15 = .ok (.aload_n 0, 1) := by decide +kernel
theorem dX4_init_16 : decode cX4_init 16 = .ok (.new 7, 3) := by decide +kernel
theorem dX4_init_19 : decode cX4_init 19 = .ok (.dup, 1) := by decide +kernel
theorem dX4_init_20 : decode cX4_init 20 = .ok (.invokespecial 9, 3) := by decide +kernel
theorem dX4_init_23 : decode cX4_init 23 = .ok (.putfield 16, 3) := by decide +kernel
theorem dX4_init_26 : decode cX4_init 26 = .ok (.aload_n 0, 1) := by decide +kernel
theorem dX4_init_27 : decode cX4_init 27 = .ok (.new 7, 3) := by decide +kernel
theorem dX4_init_30 : decode cX4_init 30 = .ok (.dup, 1) := by decide +kernel
theorem dX4_init_31 : decode cX4_init 31 = .ok (.invokespecial 9, 3) := by decide +kernel
theorem dX4_init_34 : decode cX4_init 34 = .ok (.putfield 19, 3) := by decide +kernel
theorem dX4_init_37 : decode cX4_init 37 = .ok (.aload_n 0, 1) := by decide +kernel
theorem dX4_init_38 : decode cX4_init 38 = .ok (.new 7, 3) := by decide +kernel
theorem dX4_init_41 : decode cX4_init 41 = .ok (.dup, 1) := by decide +kernel
theorem dX4_init_42 : decode cX4_init 42 = .ok (.invokespecial 9, 3) := by decide +kernel
theorem dX4_init_45 : decode cX4_init 45 = .ok (.putfield 22, 3) := by decide +kernel
theorem dX4_init_48 : decode cX4_init 48 = .ok (.aload_n 0, 1) := by decide +kernel
theorem dX4_init_49 : decode cX4_init 49 = .ok (.new 25, 3) := by decide +kernel
theorem dX4_init_52 : decode cX4_init 52 = .ok (.dup, 1) := by decide +kernel
theorem dX4_init_53 : decode cX4_init 53 = .ok (.invokespecial 27, 3) := by decide +kernel
theorem dX4_init_56 : decode cX4_init 56 = .ok (.putfield 28, 3) := by decide +kernel
theorem dX4_init_59 : decode cX4_init 59 = .ok (.aload_n 0, 1) := by decide +kernel
theorem dX4_init_60 : decode cX4_init 60 = .ok (.new 32, 3) := by decide +kernel
theorem dX4_init_63 : decode cX4_init 63 = .ok (.dup, 1) := by decide +kernel
theorem dX4_init_64 : decode cX4_init 64 = .ok (.invokespecial 34, 3) := by decide +kernel
theorem dX4_init_67 : decode cX4_init 67 = .ok (.putfield 35, 3) := by decide +kernel
theorem dX4_init_70 : decode cX4_init 70 = .ok (.aload_n 0, 1) := by decide +kernel
theorem dX4_init_71 : decode cX4_init 71 = .ok (.new 39, 3) := by decide +kernel
theorem dX4_init_74 : decode cX4_init 74 = .ok (.dup, 1) := by decide +kernel
theorem dX4_init_75 : decode cX4_init 75 = .ok (.invokespecial 41, 3) := by decide +kernel
theorem dX4_init_78 : decode cX4_init 78 = .ok (.putfield 42, 3) := by decide +kernel
theorem dX4_init_81 : decode cX4_init 81 = .ok (.aload_n 0, 1) := by decide +kernel
theorem dX4_init_82 : decode cX4_init 82 = .ok (.bipush 36, 2) := by decide +kernel
theorem dX4_init_84 : decode cX4_init 84 = .ok (.newarray .long, 2) := by decide +kernel
theorem dX4_init_86 : decode cX4_init 86 = .ok (.putfield 46, 3) := by decide +kernel
theorem dX4_init_89 : decode cX4_init 89 = .ok (.return_, 1) := by decide +kernel
theorem dX4_write_0 : decode cX4_write 0 = .ok (.iload_n 1, 1) := by decide +kernel
theorem dX4_write_1 : decode cX4_write 1 = .ok (.ifCond .lt 10, 3) := by decide +kernel
theorem dX4_write_4 : decode cX4_write 4 = .ok (.iload_n 1, 1) := by decide +kernel
theorem dX4_write_5 : decode cX4_write 5 = .ok (.sipush 255, 3) := by decide +kernel
theorem dX4_write_8 : decode cX4_write 8 = .ok (.if_icmp .le 6, 3) := by decide +kernel
theorem dX4_write_11 : decode cX4_write 11 = .ok (.bipush (-2), 2) := by decide +kernel
theorem dX4_write_13 : decode cX4_write 13 = .ok (.ireturn, 1) := by decide +kernel
theorem dX4_write_14 : decode cX4_write 14 = .ok (.aload_n 0, 1) := by decide +kernel
theorem dX4_write_15 : decode cX4_write 15 = .ok (.getfield 28, 3) := by decide +kernel
theorem dX4_write_18 : decode cX4_write 18 = .ok (.iload_n 1, 1) := by decide +kernel
theorem dX4_write_19 : decode cX4_write 19 = .ok (.i2c, 1) := by decide +kernel
theorem dX4_write_20 : decode cX4_write 20 = .ok (.invokevirtual 50, 3) := by decide +kernel
theorem dX4_write_23 : decode cX4_write 23 = .ok (.ifCond .eq 13, 3) := by decide +kernel
theorem dX4_write_26 : decode cX4_write 26 = .ok (.aload_n 0, 1) := by decide +kernel
theorem dX4_write_27 : decode cX4_write 27 = .ok (.getfield 28, 3) := by decide +kernel
theorem dX4_write_30 : decode cX4_write 30 = .ok (.getfield 54, 3) := by decide +kernel
theorem dX4_write_33 : decode cX4_write 33 = .ok (.goto 5, 3) := by decide +kernel
theorem dX4_write_36 : decode cX4_write 36 = .ok (.bipush (-4), 2) := by decide +kernel
theorem dX4_write_38 : decode cX4_write 38 = .ok (.ireturn, 1) := by decide +kernel
theorem dX4_wipe_0 : decode cX4_wipe 0 = .ok (.aload_n 0, 1) := by decide +kernel
theorem dX4_wipe_1 : decode cX4_wipe 1 = .ok (.getfield 28, 3) := by decide +kernel
theorem dX4_wipe_4 : decode cX4_wipe 4 = .ok (.getfield 54, 3) := by decide +kernel
theorem dX4_wipe_7 : decode cX4_wipe 7 = .ok (.istore_n 1, 1) := by decide +kernel
theorem dX4_wipe_8 : decode cX4_wipe 8 = .ok (.aload_n 0, 1) := by decide +kernel
theorem dX4_wipe_9 : decode cX4_wipe 9 = .ok (.getfield 28, 3) := by decide +kernel
theorem dX4_wipe_12 : decode cX4_wipe 12 = .ok (.iconst 0, 1) := by decide +kernel
theorem dX4_wipe_13 : decode cX4_wipe 13 = .ok (.putfield 54, 3) := by decide +kernel
theorem dX4_wipe_16 : decode cX4_wipe 16 = .ok (.iload_n 1, 1) := by decide +kernel
theorem dX4_wipe_17 : decode cX4_wipe 17 = .ok (.ireturn, 1) := by decide +kernel
theorem dX4_fault_0 : decode cX4_fault 0 = .ok (.aload_n 0, 1) := by decide +kernel
theorem dX4_fault_1 : decode cX4_fault 1 = .ok (.getfield 28, 3) := by decide +kernel
theorem dX4_fault_4 : decode cX4_fault 4 = .ok (.aload_n 0, 1) := by decide +kernel
theorem dX4_fault_5 : decode cX4_fault 5 = .ok (.getfield 16, 3) := by decide +kernel
theorem dX4_fault_8 : decode cX4_fault 8 = .ok (.invokevirtual 58, 3) := by decide +kernel
theorem dX4_fault_11 : decode cX4_fault 11 = .ok (.ifCond .eq 8, 3) := by decide +kernel
theorem dX4_fault_14 : decode cX4_fault 14 = .ok (.bipush (-9), 2) := by decide +kernel
theorem dX4_fault_16 : decode cX4_fault 16 = .ok (.goto 10, 3) := by decide +kernel
theorem dX4_fault_19 : decode cX4_fault 19 = .ok (.aload_n 0, 1) := by decide +kernel
theorem dX4_fault_20 : decode cX4_fault 20 = .ok (.getfield 28, 3) := by decide +kernel
theorem dX4_fault_23 : decode cX4_fault 23 = .ok (.getfield 62, 3) := by decide +kernel
theorem dX4_fault_26 : decode cX4_fault 26 = .ok (.ireturn, 1) := by decide +kernel
theorem dX4_map_0 : decode cX4_map 0 = .ok (.aload_n 0, 1) := by decide +kernel
theorem dX4_map_1 : decode cX4_map 1 = .ok (.getfield 28, 3) := by decide +kernel
theorem dX4_map_4 : decode cX4_map 4 = .ok (.aload_n 0, 1) := by decide +kernel
theorem dX4_map_5 : decode cX4_map 5 = .ok (.getfield 16, 3) := by decide +kernel
theorem dX4_map_8 : decode cX4_map 8 = .ok (.invokevirtual 58, 3) := by decide +kernel
theorem dX4_map_11 : decode cX4_map 11 = .ok (.ifCond .ne 6, 3) := by decide +kernel
theorem dX4_map_14 : decode cX4_map 14 = .ok (.bipush (-3), 2) := by decide +kernel
theorem dX4_map_16 : decode cX4_map 16 = .ok (.ireturn, 1) := by decide +kernel
theorem dX4_map_17 : decode cX4_map 17 = .ok (.aload_n 0, 1) := by decide +kernel
theorem dX4_map_18 : decode cX4_map 18 = .ok (.getfield 10, 3) := by decide +kernel
theorem dX4_map_21 : decode cX4_map 21 = .ok (.aload_n 0, 1) := by decide +kernel
theorem dX4_map_22 : decode cX4_map 22 = .ok (.getfield 16, 3) := by decide +kernel
theorem dX4_map_25 : decode cX4_map 25 = .ok (.invokevirtual 65, 3) := by decide +kernel
theorem dX4_map_28 : decode cX4_map 28 = .ok (.aload_n 0, 1) := by decide +kernel
theorem dX4_map_29 : decode cX4_map 29 = .ok (.getfield 35, 3) := by decide +kernel
theorem dX4_map_32 : decode cX4_map 32 = .ok (.iconst 0, 1) := by decide +kernel
theorem dX4_map_33 : decode cX4_map 33 = .ok (.putfield 69, 3) := by decide +kernel
theorem dX4_map_36 : decode cX4_map 36 = .ok (.aload_n 0, 1) := by decide +kernel
theorem dX4_map_37 : decode cX4_map 37 = .ok (.iconst 0, 1) := by decide +kernel
theorem dX4_map_38 : decode cX4_map 38 = .ok (.putfield 72, 3) := by decide +kernel
theorem dX4_map_41 : decode cX4_map 41 = .ok (.aload_n 0, 1) := by decide +kernel
theorem dX4_map_42 : decode cX4_map 42 = .ok (.getfield 10, 3) := by decide +kernel
theorem dX4_map_45 : decode cX4_map 45 = .ok (.invokevirtual 75, 3) := by decide +kernel
theorem dX4_map_48 : decode cX4_map 48 = .ok (.ireturn, 1) := by decide +kernel
theorem dX4_about_0 : decode cX4_about 0 = .ok (.iload_n 1, 1) := by decide +kernel
theorem dX4_about_1 : decode cX4_about 1 = .ok (.tableswitch 177 0 11 #[63, 71, 79, 87, 97, 107, 117, 127, 138, 153, 161, 169], 63) := by decide +kernel
theorem dX4_about_64 : decode cX4_about 64 = .ok (.aload_n 0, 1) := by decide +kernel
theorem dX4_about_65 : decode cX4_about 65 = .ok (.getfield 10, 3) := by decide +kernel
theorem dX4_about_68 : decode cX4_about 68 = .ok (.getfield 79, 3) := by decide +kernel
theorem dX4_about_71 : decode cX4_about 71 = .ok (.ireturn, 1) := by decide +kernel
theorem dX4_about_72 : decode cX4_about 72 = .ok (.aload_n 0, 1) := by decide +kernel
theorem dX4_about_73 : decode cX4_about 73 = .ok (.getfield 10, 3) := by decide +kernel
theorem dX4_about_76 : decode cX4_about 76 = .ok (.getfield 82, 3) := by decide +kernel
theorem dX4_about_79 : decode cX4_about 79 = .ok (.ireturn, 1) := by decide +kernel
theorem dX4_about_80 : decode cX4_about 80 = .ok (.aload_n 0, 1) := by decide +kernel
theorem dX4_about_81 : decode cX4_about 81 = .ok (.getfield 10, 3) := by decide +kernel
theorem dX4_about_84 : decode cX4_about 84 = .ok (.getfield 85, 3) := by decide +kernel
theorem dX4_about_87 : decode cX4_about 87 = .ok (.ireturn, 1) := by decide +kernel
theorem dX4_about_88 : decode cX4_about 88 = .ok (.aload_n 0, 1) := by decide +kernel
theorem dX4_about_89 : decode cX4_about 89 = .ok (.getfield 10, 3) := by decide +kernel
theorem dX4_about_92 : decode cX4_about 92 = .ok (.getfield 88, 3) := by decide +kernel
theorem dX4_about_95 : decode cX4_about 95 = .ok (.iconst 0, 1) := by decide +kernel
theorem dX4_about_96 : decode cX4_about 96 = .ok (.iaload, 1) := by decide +kernel
theorem dX4_about_97 : decode cX4_about 97 = .ok (.ireturn, 1) := by decide +kernel
theorem dX4_about_98 : decode cX4_about 98 = .ok (.aload_n 0, 1) := by decide +kernel
theorem dX4_about_99 : decode cX4_about 99 = .ok (.getfield 10, 3) := by decide +kernel
theorem dX4_about_102 : decode cX4_about 102 = .ok (.getfield 88, 3) := by decide +kernel
theorem dX4_about_105 : decode cX4_about 105 = .ok (.iconst 1, 1) := by decide +kernel
theorem dX4_about_106 : decode cX4_about 106 = .ok (.iaload, 1) := by decide +kernel
theorem dX4_about_107 : decode cX4_about 107 = .ok (.ireturn, 1) := by decide +kernel
theorem dX4_about_108 : decode cX4_about 108 = .ok (.aload_n 0, 1) := by decide +kernel
theorem dX4_about_109 : decode cX4_about 109 = .ok (.getfield 10, 3) := by decide +kernel
theorem dX4_about_112 : decode cX4_about 112 = .ok (.getfield 88, 3) := by decide +kernel
theorem dX4_about_115 : decode cX4_about 115 = .ok (.iconst 2, 1) := by decide +kernel
theorem dX4_about_116 : decode cX4_about 116 = .ok (.iaload, 1) := by decide +kernel
theorem dX4_about_117 : decode cX4_about 117 = .ok (.ireturn, 1) := by decide +kernel
theorem dX4_about_118 : decode cX4_about 118 = .ok (.aload_n 0, 1) := by decide +kernel
theorem dX4_about_119 : decode cX4_about 119 = .ok (.getfield 10, 3) := by decide +kernel
theorem dX4_about_122 : decode cX4_about 122 = .ok (.getfield 88, 3) := by decide +kernel
theorem dX4_about_125 : decode cX4_about 125 = .ok (.iconst 3, 1) := by decide +kernel
theorem dX4_about_126 : decode cX4_about 126 = .ok (.iaload, 1) := by decide +kernel
theorem dX4_about_127 : decode cX4_about 127 = .ok (.ireturn, 1) := by decide +kernel
theorem dX4_about_128 : decode cX4_about 128 = .ok (.aload_n 0, 1) := by decide +kernel
theorem dX4_about_129 : decode cX4_about 129 = .ok (.getfield 10, 3) := by decide +kernel
theorem dX4_about_132 : decode cX4_about 132 = .ok (.invokevirtual 92, 3) := by decide +kernel
theorem dX4_about_135 : decode cX4_about 135 = .ok (.invokestatic 96, 3) := by decide +kernel
theorem dX4_about_138 : decode cX4_about 138 = .ok (.ireturn, 1) := by decide +kernel
theorem dX4_about_139 : decode cX4_about 139 = .ok (.aload_n 0, 1) := by decide +kernel
theorem dX4_about_140 : decode cX4_about 140 = .ok (.getfield 10, 3) := by decide +kernel
theorem dX4_about_143 : decode cX4_about 143 = .ok (.aload_n 0, 1) := by decide +kernel
theorem dX4_about_144 : decode cX4_about 144 = .ok (.getfield 10, 3) := by decide +kernel
theorem dX4_about_147 : decode cX4_about 147 = .ok (.invokevirtual 92, 3) := by decide +kernel
theorem dX4_about_150 : decode cX4_about 150 = .ok (.invokevirtual 102, 3) := by decide +kernel
theorem dX4_about_153 : decode cX4_about 153 = .ok (.ireturn, 1) := by decide +kernel
theorem dX4_about_154 : decode cX4_about 154 = .ok (.aload_n 0, 1) := by decide +kernel
theorem dX4_about_155 : decode cX4_about 155 = .ok (.getfield 35, 3) := by decide +kernel
theorem dX4_about_158 : decode cX4_about 158 = .ok (.getfield 69, 3) := by decide +kernel
theorem dX4_about_161 : decode cX4_about 161 = .ok (.ireturn, 1) := by decide +kernel
theorem dX4_about_162 : decode cX4_about 162 = .ok (.aload_n 0, 1) := by decide +kernel
theorem dX4_about_163 : decode cX4_about 163 = .ok (.getfield 42, 3) := by decide +kernel
theorem dX4_about_166 : decode cX4_about 166 = .ok (.getfield 105, 3) := by decide +kernel
theorem dX4_about_169 : decode cX4_about 169 = .ok (.ireturn, 1) := by decide +kernel
theorem dX4_about_170 : decode cX4_about 170 = .ok (.aload_n 0, 1) := by decide +kernel
theorem dX4_about_171 : decode cX4_about 171 = .ok (.getfield 28, 3) := by decide +kernel
theorem dX4_about_174 : decode cX4_about 174 = .ok (.getfield 54, 3) := by decide +kernel
theorem dX4_about_177 : decode cX4_about 177 = .ok (.ireturn, 1) := by decide +kernel
theorem dX4_about_178 : decode cX4_about 178 = .ok (.bipush (-2), 2) := by decide +kernel
theorem dX4_about_180 : decode cX4_about 180 = .ok (.ireturn, 1) := by decide +kernel
theorem dX4_cell_0 : decode cX4_cell 0 = .ok (.aload_n 0, 1) := by decide +kernel
theorem dX4_cell_1 : decode cX4_cell 1 = .ok (.getfield 10, 3) := by decide +kernel
theorem dX4_cell_4 : decode cX4_cell 4 = .ok (.iload_n 1, 1) := by decide +kernel
theorem dX4_cell_5 : decode cX4_cell 5 = .ok (.invokevirtual 106, 3) := by decide +kernel
theorem dX4_cell_8 : decode cX4_cell 8 = .ok (.ifCond .ne 5, 3) := by decide +kernel
theorem dX4_cell_11 : decode cX4_cell 11 = .ok (.iconst (-1), 1) := by decide +kernel
theorem dX4_cell_12 : decode cX4_cell 12 = .ok (.ireturn, 1) := by decide +kernel
theorem dX4_cell_13 : decode cX4_cell 13 = .ok (.iload_n 2, 1) := by decide +kernel
theorem dX4_cell_14 : decode cX4_cell 14 = .ok (.tableswitch 98 0 4 #[34, 43, 52, 61, 82], 34) := by decide +kernel
theorem dX4_cell_48 : decode cX4_cell 48 = .ok (.aload_n 0, 1) := by decide +kernel
