theorem dX0_init_0 : decode cX0_init 0 = .ok (.aload_n 0, 1) := by decide +kernel
theorem dX0_init_1 : decode cX0_init 1 = .ok (.invokespecial 3, 3) := by decide +kernel
theorem dX0_init_4 : decode cX0_init 4 = .ok (.aload_n 0, 1) := by decide +kernel
theorem dX0_init_5 : decode cX0_init 5 = .ok (.bipush 9, 2) := by decide +kernel
theorem dX0_init_7 : decode cX0_init 7 = .ok (.newarray .int, 2) := by decide +kernel
theorem dX0_init_9 : decode cX0_init 9 = .ok (.putfield 9, 3) := by decide +kernel
theorem dX0_init_12 : decode cX0_init 12 = .ok (.aload_n 0, 1) := by decide +kernel
theorem dX0_init_13 : decode cX0_init 13 = .ok (.bipush 64, 2) := by decide +kernel
theorem dX0_init_15 : decode cX0_init 15 = .ok (.newarray .long, 2) := by decide +kernel
theorem dX0_init_17 : decode cX0_init 17 = .ok (.putfield 15, 3) := by decide +kernel
theorem dX0_init_20 : decode cX0_init 20 = .ok (.return_, 1) := by decide +kernel
theorem dX0_askOfPlace_0 : decode cX0_askOfPlace 0 = .ok (.aload_n 0, 1) := by decide +kernel
theorem dX0_askOfPlace_1 : decode cX0_askOfPlace 1 = .ok (.getfield 9, 3) := by decide +kernel
theorem dX0_askOfPlace_4 : decode cX0_askOfPlace 4 = .ok (.iconst 0, 1) := by decide +kernel
theorem dX0_askOfPlace_5 : decode cX0_askOfPlace 5 = .ok (.invokestatic 19, 3) := by decide +kernel
theorem dX0_askOfPlace_8 : decode cX0_askOfPlace 8 = .ok (.aload_n 0, 1) := by decide +kernel
theorem dX0_askOfPlace_9 : decode cX0_askOfPlace 9 = .ok (.getfield 9, 3) := by decide +kernel
theorem dX0_askOfPlace_12 : decode cX0_askOfPlace 12 = .ok (.iconst 0, 1) := by decide +kernel
theorem dX0_askOfPlace_13 : decode cX0_askOfPlace 13 = .ok (.iload_n 1, 1) := by decide +kernel
theorem dX0_askOfPlace_14 : decode cX0_askOfPlace 14 = .ok (.iastore, 1) := by decide +kernel
theorem dX0_askOfPlace_15 : decode cX0_askOfPlace 15 = .ok (.aload_n 0, 1) := by decide +kernel
theorem dX0_askOfPlace_16 : decode cX0_askOfPlace 16 = .ok (.getfield 9, 3) := by decide +kernel
theorem dX0_askOfPlace_19 : decode cX0_askOfPlace 19 = .ok (.iconst 1, 1) := by decide +kernel
theorem dX0_askOfPlace_20 : decode cX0_askOfPlace 20 = .ok (.iload_n 1, 1) := by decide +kernel
theorem dX0_askOfPlace_21 : decode cX0_askOfPlace 21 = .ok (.iconst 5, 1) := by decide +kernel
theorem dX0_askOfPlace_22 : decode cX0_askOfPlace 22 = .ok (.idiv, 1) := by decide +kernel
theorem dX0_askOfPlace_23 : decode cX0_askOfPlace 23 = .ok (.iastore, 1) := by decide +kernel
theorem dX0_askOfPlace_24 : decode cX0_askOfPlace 24 = .ok (.return_, 1) := by decide +kernel
theorem dX0_askOfWording_0 : decode cX0_askOfWording 0 = .ok (.aload_n 0, 1) := by decide +kernel
theorem dX0_askOfWording_1 : decode cX0_askOfWording 1 = .ok (.iload_n 1, 1) := by decide +kernel
theorem dX0_askOfWording_2 : decode cX0_askOfWording 2 = .ok (.invokevirtual 25, 3) := by decide +kernel
theorem dX0_askOfWording_5 : decode cX0_askOfWording 5 = .ok (.aload_n 0, 1) := by decide +kernel
theorem dX0_askOfWording_6 : decode cX0_askOfWording 6 = .ok (.getfield 9, 3) := by decide +kernel
theorem dX0_askOfWording_9 : decode cX0_askOfWording 9 = .ok (.iconst 2, 1) := by decide +kernel
theorem dX0_askOfWording_10 : decode cX0_askOfWording 10 = .ok (.iload_n 2, 1) := by decide +kernel
theorem dX0_askOfWording_11 : decode cX0_askOfWording 11 = .ok (.iastore, 1) := by decide +kernel
theorem dX0_askOfWording_12 : decode cX0_askOfWording 12 = .ok (.aload_n 0, 1) := by decide +kernel
theorem dX0_askOfWording_13 : decode cX0_askOfWording 13 = .ok (.getfield 9, 3) := by decide +kernel
theorem dX0_askOfWording_16 : decode cX0_askOfWording 16 = .ok (.iconst 3, 1) := by decide +kernel
theorem dX0_askOfWording_17 : decode cX0_askOfWording 17 = .ok (.iload_n 3, 1) := by decide +kernel
theorem dX0_askOfWording_18 : decode cX0_askOfWording 18 = .ok (.iastore, 1) := by decide +kernel
theorem dX0_askOfWording_19 : decode cX0_askOfWording 19 = .ok (.return_, 1) := by decide +kernel
theorem dX0_askOfNote_0 : decode cX0_askOfNote 0 = .ok (.aload_n 0, 1) := by decide +kernel
theorem dX0_askOfNote_1 : decode cX0_askOfNote 1 = .ok (.aload_n 1, 1) := by decide +kernel
theorem dX0_askOfNote_2 : decode cX0_askOfNote 2 = .ok (.getfield 29, 3) := by decide +kernel
theorem dX0_askOfNote_5 : decode cX0_askOfNote 5 = .ok (.iload_n 2, 1) := by decide +kernel
theorem dX0_askOfNote_6 : decode cX0_askOfNote 6 = .ok (.iconst 1, 1) := by decide +kernel
theorem dX0_askOfNote_7 : decode cX0_askOfNote 7 = .ok (.invokevirtual 35, 3) := by decide +kernel
theorem dX0_askOfNote_10 : decode cX0_askOfNote 10 = .ok (.aload_n 1, 1) := by decide +kernel
theorem dX0_askOfNote_11 : decode cX0_askOfNote 11 = .ok (.getfield 29, 3) := by decide +kernel
theorem dX0_askOfNote_14 : decode cX0_askOfNote 14 = .ok (.iload_n 2, 1) := by decide +kernel
theorem dX0_askOfNote_15 : decode cX0_askOfNote 15 = .ok (.iconst 2, 1) := by decide +kernel
theorem dX0_askOfNote_16 : decode cX0_askOfNote 16 = .ok (.invokevirtual 35, 3) := by decide +kernel
theorem dX0_askOfNote_19 : decode cX0_askOfNote 19 = .ok (.iload_n 3, 1) := by decide +kernel
theorem dX0_askOfNote_20 : decode cX0_askOfNote 20 = .ok (.invokevirtual 41, 3) := by decide +kernel
theorem dX0_askOfNote_23 : decode cX0_askOfNote 23 = .ok (.aload_n 0, 1) := by decide +kernel
theorem dX0_askOfNote_24 : decode cX0_askOfNote 24 = .ok (.getfield 9, 3) := by decide +kernel
theorem dX0_askOfNote_27 : decode cX0_askOfNote 27 = .ok (.iconst 5, 1) := by decide +kernel
theorem dX0_askOfNote_28 : decode cX0_askOfNote 28 = .ok (.aload_n 1, 1) := by decide +kernel
theorem dX0_askOfNote_29 : decode cX0_askOfNote 29 = .ok (.getfield 29, 3) := by decide +kernel
theorem dX0_askOfNote_32 : decode cX0_askOfNote 32 = .ok (.iload_n 2, 1) := by decide +kernel
theorem dX0_askOfNote_33 : decode cX0_askOfNote 33 = .ok (.iconst 3, 1) := by decide +kernel
theorem dX0_askOfNote_34 : decode cX0_askOfNote 34 = .ok (.invokevirtual 35, 3) := by decide +kernel
theorem dX0_askOfNote_37 : decode cX0_askOfNote 37 = .ok (.iastore, 1) := by decide +kernel
theorem dX0_askOfNote_38 : decode cX0_askOfNote 38 = .ok (.aload_n 0, 1) := by decide +kernel
theorem dX0_askOfNote_39 : decode cX0_askOfNote 39 = .ok (.getfield 9, 3) := by decide +kernel
theorem dX0_askOfNote_42 : decode cX0_askOfNote 42 = .ok (.bipush 6, 2) := by decide +kernel
theorem dX0_askOfNote_44 : decode cX0_askOfNote 44 = .ok (.aload_n 1, 1) := by decide +kernel
theorem dX0_askOfNote_45 : decode cX0_askOfNote 45 = .ok (.getfield 29, 3) := by decide +kernel
theorem dX0_askOfNote_48 : decode cX0_askOfNote 48 = .ok (.iload_n 2, 1) := by decide +kernel
theorem dX0_askOfNote_49 : decode cX0_askOfNote 49 = .ok (.iconst 4, 1) := by decide +kernel
theorem dX0_askOfNote_50 : decode cX0_askOfNote 50 = .ok (.invokevirtual 35, 3) := by decide +kernel
theorem dX0_askOfNote_53 : decode cX0_askOfNote 53 = .ok (.iastore, 1) := by decide +kernel
theorem dX0_askOfNote_54 : decode cX0_askOfNote 54 = .ok (.aload_n 0, 1) := by decide +kernel
theorem dX0_askOfNote_55 : decode cX0_askOfNote 55 = .ok (.aload_n 1, 1) := by decide +kernel
theorem dX0_askOfNote_56 : decode cX0_askOfNote 56 = .ok (.aload_n 1, 1) := by decide +kernel
theorem dX0_askOfNote_57 : decode cX0_askOfNote 57 = .ok (.getfield 29, 3) := by decide +kernel
theorem dX0_askOfNote_60 : decode cX0_askOfNote 60 = .ok (.iload_n 2, 1) := by decide +kernel
theorem dX0_askOfNote_61 : decode cX0_askOfNote 61 = .ok (.iconst 0, 1) := by decide +kernel
theorem dX0_askOfNote_62 : decode cX0_askOfNote 62 = .ok (.invokevirtual 35, 3) := by decide +kernel
theorem dX0_askOfNote_65 : decode cX0_askOfNote 65 = .ok (.invokevirtual 45, 3) := by decide +kernel
theorem dX0_askOfNote_68 : decode cX0_askOfNote 68 = .ok (.return_, 1) := by decide +kernel
theorem dX0_askOfChapter_0 : decode cX0_askOfChapter 0 = .ok (.aload_n 0, 1) := by decide +kernel
theorem dX0_askOfChapter_1 : decode cX0_askOfChapter 1 = .ok (.getfield 9, 3) := by decide +kernel
theorem dX0_askOfChapter_4 : decode cX0_askOfChapter 4 = .ok (.iconst 0, 1) := by decide +kernel
theorem dX0_askOfChapter_5 : decode cX0_askOfChapter 5 = .ok (.invokestatic 19, 3) := by decide +kernel
theorem dX0_askOfChapter_8 : decode cX0_askOfChapter 8 = .ok (.aload_n 0, 1) := by decide +kernel
theorem dX0_askOfChapter_9 : decode cX0_askOfChapter 9 = .ok (.getfield 9, 3) := by decide +kernel
theorem dX0_askOfChapter_12 : decode cX0_askOfChapter 12 = .ok (.iconst 1, 1) := by decide +kernel
theorem dX0_askOfChapter_13 : decode cX0_askOfChapter 13 = .ok (.iload_n 3, 1) := by decide +kernel
theorem dX0_askOfChapter_14 : decode cX0_askOfChapter 14 = .ok (.iastore, 1) := by decide +kernel
theorem dX0_askOfChapter_15 : decode cX0_askOfChapter 15 = .ok (.aload_n 0, 1) := by decide +kernel
theorem dX0_askOfChapter_16 : decode cX0_askOfChapter 16 = .ok (.aload_n 1, 1) := by decide +kernel
theorem dX0_askOfChapter_17 : decode cX0_askOfChapter 17 = .ok (.iload_n 2, 1) := by decide +kernel
theorem dX0_askOfChapter_18 : decode cX0_askOfChapter 18 = .ok (.invokevirtual 45, 3) := by decide +kernel
theorem dX0_askOfChapter_21 : decode cX0_askOfChapter 21 = .ok (.return_, 1) := by decide +kernel
theorem dX0_askOfCopy_0 : decode cX0_askOfCopy 0 = .ok (.aload_n 0, 1) := by decide +kernel
theorem dX0_askOfCopy_1 : decode cX0_askOfCopy 1 = .ok (.getfield 9, 3) := by decide +kernel
theorem dX0_askOfCopy_4 : decode cX0_askOfCopy 4 = .ok (.iconst 4, 1) := by decide +kernel
theorem dX0_askOfCopy_5 : decode cX0_askOfCopy 5 = .ok (.aload_n 1, 1) := by decide +kernel
theorem dX0_askOfCopy_6 : decode cX0_askOfCopy 6 = .ok (.getfield 49, 3) := by decide +kernel
theorem dX0_askOfCopy_9 : decode cX0_askOfCopy 9 = .ok (.iload_n 2, 1) := by decide +kernel
theorem dX0_askOfCopy_10 : decode cX0_askOfCopy 10 = .ok (.iconst 0, 1) := by decide +kernel
theorem dX0_askOfCopy_11 : decode cX0_askOfCopy 11 = .ok (.invokevirtual 35, 3) := by decide +kernel
theorem dX0_askOfCopy_14 : decode cX0_askOfCopy 14 = .ok (.iastore, 1) := by decide +kernel
theorem dX0_askOfCopy_15 : decode cX0_askOfCopy 15 = .ok (.aload_n 0, 1) := by decide +kernel
theorem dX0_askOfCopy_16 : decode cX0_askOfCopy 16 = .ok (.getfield 9, 3) := by decide +kernel
theorem dX0_askOfCopy_19 : decode cX0_askOfCopy 19 = .ok (.bipush 7, 2) := by decide +kernel
theorem dX0_askOfCopy_21 : decode cX0_askOfCopy 21 = .ok (.aload_n 1, 1) := by decide +kernel
theorem dX0_askOfCopy_22 : decode cX0_askOfCopy 22 = .ok (.getfield 49, 3) := by decide +kernel
theorem dX0_askOfCopy_25 : decode cX0_askOfCopy 25 = .ok (.iload_n 2, 1) := by decide +kernel
theorem dX0_askOfCopy_26 : decode cX0_askOfCopy 26 = .ok (.iconst 1, 1) := by decide +kernel
theorem dX0_askOfCopy_27 : decode cX0_askOfCopy 27 = .ok (.invokevirtual 35, 3) := by decide +kernel
theorem dX0_askOfCopy_30 : decode cX0_askOfCopy 30 = .ok (.iastore, 1) := by decide +kernel
theorem dX0_askOfCopy_31 : decode cX0_askOfCopy 31 = .ok (.aload_n 0, 1) := by decide +kernel
theorem dX0_askOfCopy_32 : decode cX0_askOfCopy 32 = .ok (.getfield 9, 3) := by decide +kernel
theorem dX0_askOfCopy_35 : decode cX0_askOfCopy 35 = .ok (.bipush 8, 2) := by decide +kernel
theorem dX0_askOfCopy_37 : decode cX0_askOfCopy 37 = .ok (.aload_n 1, 1) := by decide +kernel
theorem dX0_askOfCopy_38 : decode cX0_askOfCopy 38 = .ok (.getfield 49, 3) := by decide +kernel
theorem dX0_askOfCopy_41 : decode cX0_askOfCopy 41 = .ok (.iload_n 2, 1) := by decide +kernel
theorem dX0_askOfCopy_42 : decode cX0_askOfCopy 42 = .ok (.iconst 2, 1) := by decide +kernel
theorem dX0_askOfCopy_43 : decode cX0_askOfCopy 43 = .ok (.invokevirtual 35, 3) := by decide +kernel
theorem dX0_askOfCopy_46 : decode cX0_askOfCopy 46 = .ok (.iastore, 1) := by decide +kernel
theorem dX0_askOfCopy_47 : decode cX0_askOfCopy 47 = .ok (.return_, 1) := by decide +kernel
theorem dX0_told_0 : decode cX0_told 0 = .ok (.iload_n 3, 1) := by decide +kernel
theorem dX0_told_1 : decode cX0_told 1 = .ok (.istore 4, 2) := by decide +kernel
theorem dX0_told_3 : decode cX0_told 3 = .ok (.aload_n 1, 1) := by decide +kernel
theorem dX0_told_4 : decode cX0_told 4 = .ok (.ifnonnull 7, 3) := by decide +kernel
theorem dX0_told_7 : decode cX0_told 7 = .ok (.iconst 0, 1) := by decide +kernel
theorem dX0_told_8 : decode cX0_told 8 = .ok (.goto 7, 3) := by decide +kernel
theorem dX0_told_11 : decode cX0_told 11 = .ok (.aload_n 1, 1) := by decide +kernel
theorem dX0_told_12 : decode cX0_told 12 = .ok (.invokevirtual 52, 3) := by decide +kernel
theorem dX0_told_15 : decode cX0_told 15 = .ok (.istore 5, 2) := by decide +kernel
theorem dX0_told_17 : decode cX0_told 17 = .ok (.iconst 0, 1) := by decide +kernel
theorem dX0_told_18 : decode cX0_told 18 = .ok (.istore 6, 2) := by decide +kernel
theorem dX0_told_20 : decode cX0_told 20 = .ok (.iload 6, 2) := by decide +kernel
theorem dX0_told_22 : decode cX0_told 22 = .ok (.iload 5, 2) := by decide +kernel
theorem dX0_told_24 : decode cX0_told 24 = .ok (.if_icmp .ge 99, 3) := by decide +kernel
theorem dX0_told_27 : decode cX0_told 27 = .ok (.aload_n 1, 1) := by decide +kernel
theorem dX0_told_28 : decode cX0_told 28 = .ok (.iload 6, 2) := by decide +kernel
theorem dX0_told_30 : decode cX0_told 30 = .ok (.iconst 1, 1) := by decide +kernel
theorem dX0_told_31 : decode cX0_told 31 = .ok (.iadd, 1) := by decide +kernel
theorem dX0_told_32 : decode cX0_told 32 = .ok (.invokevirtual 58, 3) := by decide +kernel
theorem dX0_told_35 : decode cX0_told 35 = .ok (.istore 7, 2) := by decide +kernel
theorem dX0_told_37 : decode cX0_told 37 = .ok (.aload_n 1, 1) := by decide +kernel
theorem dX0_told_38 : decode cX0_told 38 = .ok (.iload 6, 2) := by decide +kernel
theorem dX0_told_40 : decode cX0_told 40 = .ok (.iconst 2, 1) := by decide +kernel
theorem dX0_told_41 : decode cX0_told 41 = .ok (.iadd, 1) := by decide +kernel
theorem dX0_told_42 : decode cX0_told 42 = .ok (.invokevirtual 58, 3) := by decide +kernel
theorem dX0_told_45 : decode cX0_told 45 = .ok (.istore 8, 2) := by decide +kernel
theorem dX0_told_47 : decode cX0_told 47 = .ok (.aload_n 1, 1) := by decide +kernel
theorem dX0_told_48 : decode cX0_told 48 = .ok (.iload 6, 2) := by decide +kernel
theorem dX0_told_50 : decode cX0_told 50 = .ok (.invokevirtual 58, 3) := by decide +kernel
theorem dX0_told_53 : decode cX0_told 53 = .ok (.iload_n 2, 1) := by decide +kernel
theorem dX0_told_54 : decode cX0_told 54 = .ok (.if_icmp .ne 55, 3) := by decide +kernel
theorem dX0_told_57 : decode cX0_told 57 = .ok (.aload_n 0, 1) := by decide +kernel
theorem dX0_told_58 : decode cX0_told 58 = .ok (.aload_n 1, 1) := by decide +kernel
theorem dX0_told_59 : decode cX0_told 59 = .ok (.iload 7, 2) := by decide +kernel
theorem dX0_told_61 : decode cX0_told 61 = .ok (.iload 8, 2) := by decide +kernel
theorem dX0_told_63 : decode cX0_told 63 = .ok (.invokevirtual 62, 3) := by decide +kernel
theorem dX0_told_66 : decode cX0_told 66 = .ok (.ifCond .eq 43, 3) := by decide +kernel
theorem dX0_told_69 : decode cX0_told 69 = .ok (.aload_n 0, 1) := by decide +kernel
theorem dX0_told_70 : decode cX0_told 70 = .ok (.aload_n 1, 1) := by decide +kernel
theorem dX0_told_71 : decode cX0_told 71 = .ok (.iload 6, 2) := by decide +kernel
theorem dX0_told_73 : decode cX0_told 73 = .ok (.iconst 3, 1) := by decide +kernel
theorem dX0_told_74 : decode cX0_told 74 = .ok (.iadd, 1) := by decide +kernel
theorem dX0_told_75 : decode cX0_told 75 = .ok (.iload 7, 2) := by decide +kernel
theorem dX0_told_77 : decode cX0_told 77 = .ok (.invokevirtual 66, 3) := by decide +kernel
theorem dX0_told_80 : decode cX0_told 80 = .ok (.lstore 9, 2) := by decide +kernel
theorem dX0_told_82 : decode cX0_told 82 = .ok (.aload_n 0, 1) := by decide +kernel
theorem dX0_told_83 : decode cX0_told 83 = .ok (.getfield 70, 3) := by decide +kernel
theorem dX0_told_86 : decode cX0_told 86 = .ok (.ifCond .eq 8, 3) := by decide +kernel
theorem dX0_told_89 : decode cX0_told 89 = .ok (.iload 4, 2) := by decide +kernel
theorem dX0_told_91 : decode cX0_told 91 = .ok (.goto 16, 3) := by decide +kernel
theorem dX0_told_94 : decode cX0_told 94 = .ok (.lconst 0, 1) := by decide +kernel
theorem dX0_told_95 : decode cX0_told 95 = .ok (.ldc2_w 74, 3) := by decide +kernel
theorem dX0_told_98 : decode cX0_told 98 = .ok (.lload 9, 2) := by decide +kernel
theorem dX0_told_100 : decode cX0_told 100 = .ok (.invokestatic 76, 3) := by decide +kernel
theorem dX0_told_103 : decode cX0_told 103 = .ok (.invokestatic 82, 3) := by decide +kernel
theorem dX0_told_106 : decode cX0_told 106 = .ok (.l2i, 1) := by decide +kernel
theorem dX0_told_107 : decode cX0_told 107 = .ok (.istore 4, 2) := by decide +kernel
theorem dX0_told_109 : decode cX0_told 109 = .ok (.iload 6, 2) := by decide +kernel
theorem dX0_told_111 : decode cX0_told 111 = .ok (.iconst 3, 1) := by decide +kernel
theorem dX0_told_112 : decode cX0_told 112 = .ok (.iadd, 1) := by decide +kernel
theorem dX0_told_113 : decode cX0_told 113 = .ok (.iload 8, 2) := by decide +kernel
theorem dX0_told_115 : decode cX0_told 115 = .ok (.invokestatic 85, 3) := by decide +kernel
theorem dX0_told_118 : decode cX0_told 118 = .ok (.istore 6, 2) := by decide +kernel
theorem dX0_told_120 : decode cX0_told 120 = .ok (.goto (-100), 3) := by decide +kernel
theorem dX0_told_123 : decode cX0_told 123 = .ok (.iload 4, 2) := by decide +kernel
theorem dX0_told_125 : decode cX0_told 125 = .ok (.ireturn, 1) := by decide +kernel
theorem dX0_holdsIn_0 : decode cX0_holdsIn 0 = .ok (.aload_n 1, 1) := by decide +kernel
theorem dX0_holdsIn_1 : decode cX0_holdsIn 1 = .ok (.ifnonnull 7, 3) := by decide +kernel
theorem dX0_holdsIn_4 : decode cX0_holdsIn 4 = .ok (.iconst 0, 1) := by decide +kernel
theorem dX0_holdsIn_5 : decode cX0_holdsIn 5 = .ok (.goto 7, 3) := by decide +kernel
theorem dX0_holdsIn_8 : decode cX0_holdsIn 8 = .ok (.aload_n 1, 1) := by decide +kernel
theorem dX0_holdsIn_9 : decode cX0_holdsIn 9 = .ok (.invokevirtual 52, 3) := by decide +kernel
theorem dX0_holdsIn_12 : decode cX0_holdsIn 12 = .ok (.istore_n 3, 1) := by decide +kernel
theorem dX0_holdsIn_13 : decode cX0_holdsIn 13 = .ok (.iconst 0, 1) := by decide +kernel
theorem dX0_holdsIn_14 : decode cX0_holdsIn 14 = .ok (.istore 4, 2) := by decide +kernel
theorem dX0_holdsIn_16 : decode cX0_holdsIn 16 = .ok (.iload 4, 2) := by decide +kernel
theorem dX0_holdsIn_18 : decode cX0_holdsIn 18 = .ok (.iload_n 3, 1) := by decide +kernel
theorem dX0_holdsIn_19 : decode cX0_holdsIn 19 = .ok (.if_icmp .ge 57, 3) := by decide +kernel
theorem dX0_holdsIn_22 : decode cX0_holdsIn 22 = .ok (.aload_n 1, 1) := by decide +kernel
theorem dX0_holdsIn_23 : decode cX0_holdsIn 23 = .ok (.iload 4, 2) := by decide +kernel
theorem dX0_holdsIn_25 : decode cX0_holdsIn 25 = .ok (.iconst 2, 1) := by decide +kernel
theorem dX0_holdsIn_26 : decode cX0_holdsIn 26 = .ok (.iadd, 1) := by decide +kernel
theorem dX0_holdsIn_27 : decode cX0_holdsIn 27 = .ok (.invokevirtual 58, 3) := by decide +kernel
theorem dX0_holdsIn_30 : decode cX0_holdsIn 30 = .ok (.istore 5, 2) := by decide +kernel
theorem dX0_holdsIn_32 : decode cX0_holdsIn 32 = .ok (.aload_n 1, 1) := by decide +kernel
theorem dX0_holdsIn_33 : decode cX0_holdsIn 33 = .ok (.iload 4, 2) := by decide +kernel
theorem dX0_holdsIn_35 : decode cX0_holdsIn 35 = .ok (.invokevirtual 58, 3) := by decide +kernel
theorem dX0_holdsIn_38 : decode cX0_holdsIn 38 = .ok (.iload_n 2, 1) := by decide +kernel
theorem dX0_holdsIn_39 : decode cX0_holdsIn 39 = .ok (.if_icmp .ne 23, 3) := by decide +kernel
theorem dX0_holdsIn_42 : decode cX0_holdsIn 42 = .ok (.aload_n 0, 1) := by decide +kernel
theorem dX0_holdsIn_43 : decode cX0_holdsIn 43 = .ok (.aload_n 1, 1) := by decide +kernel
theorem dX0_holdsIn_44 : decode cX0_holdsIn 44 = .ok (.aload_n 1, 1) := by decide +kernel
theorem dX0_holdsIn_45 : decode cX0_holdsIn 45 = .ok (.iload 4, 2) := by decide +kernel
theorem dX0_holdsIn_47 : decode cX0_holdsIn 47 = .ok (.iconst 1, 1) := by decide +kernel
theorem dX0_holdsIn_48 : decode cX0_holdsIn 48 = .ok (.iadd, 1) := by decide +kernel
theorem dX0_holdsIn_49 : decode cX0_holdsIn 49 = .ok (.invokevirtual 58, 3) := by decide +kernel
theorem dX0_holdsIn_52 : decode cX0_holdsIn 52 = .ok (.iload 5, 2) := by decide +kernel
theorem dX0_holdsIn_54 : decode cX0_holdsIn 54 = .ok (.invokevirtual 62, 3) := by decide +kernel
theorem dX0_holdsIn_57 : decode cX0_holdsIn 57 = .ok (.ifCond .eq 5, 3) := by decide +kernel
theorem dX0_holdsIn_60 : decode cX0_holdsIn 60 = .ok (.iconst 1, 1) := by decide +kernel
theorem dX0_holdsIn_61 : decode cX0_holdsIn 61 = .ok (.ireturn, 1) := by decide +kernel
theorem dX0_holdsIn_62 : decode cX0_holdsIn 62 = .ok (.iload 4, 2) := by decide +kernel
theorem dX0_holdsIn_64 : decode cX0_holdsIn 64 = .ok (.iconst 3, 1) := by decide +kernel
theorem dX0_holdsIn_65 : decode cX0_holdsIn 65 = .ok (.iadd, 1) := by decide +kernel
theorem dX0_holdsIn_66 : decode cX0_holdsIn 66 = .ok (.iload 5, 2) := by decide +kernel
theorem dX0_holdsIn_68 : decode cX0_holdsIn 68 = .ok (.invokestatic 85, 3) := by decide +kernel
theorem dX0_holdsIn_71 : decode cX0_holdsIn 71 = .ok (.istore 4, 2) := by decide +kernel
theorem dX0_holdsIn_73 : decode cX0_holdsIn 73 = .ok (.goto (-57), 3) := by decide +kernel
theorem dX0_holdsIn_76 : decode cX0_holdsIn 76 = .ok (.iconst 0, 1) := by decide +kernel
theorem dX0_holdsIn_77 : decode cX0_holdsIn 77 = .ok (.ireturn, 1) := by decide +kernel
theorem dX0_passes_0 : decode cX0_passes 0 = .ok (.iload_n 2, 1) := by decide +kernel
theorem dX0_passes_1 : decode cX0_passes 1 = .ok (.iload_n 3, 1) := by decide +kernel
theorem dX0_passes_2 : decode cX0_passes 2 = .ok (.if_icmp .ge 22, 3) := by decide +kernel
theorem dX0_passes_5 : decode cX0_passes 5 = .ok (.aload_n 0, 1) := by decide +kernel
theorem dX0_passes_6 : decode cX0_passes 6 = .ok (.aload_n 1, 1) := by decide +kernel
theorem dX0_passes_7 : decode cX0_passes 7 = .ok (.iload_n 2, 1) := by decide +kernel
theorem dX0_passes_8 : decode cX0_passes 8 = .ok (.iload_n 3, 1) := by decide +kernel
theorem dX0_passes_9 : decode cX0_passes 9 = .ok (.invokevirtual 66, 3) := by decide +kernel
theorem dX0_passes_12 : decode cX0_passes 12 = .ok (.lconst 1, 1) := by decide +kernel
theorem dX0_passes_13 : decode cX0_passes 13 = .ok (.lcmp, 1) := by decide +kernel
theorem dX0_passes_14 : decode cX0_passes 14 = .ok (.ifCond .ne 14, 3) := by decide +kernel
theorem dX0_passes_17 : decode cX0_passes 17 = .ok (.aload_n 0, 1) := by decide +kernel
theorem dX0_passes_18 : decode cX0_passes 18 = .ok (.getfield 70, 3) := by decide +kernel
theorem dX0_passes_21 : decode cX0_passes 21 = .ok (.ifCond .ne 7, 3) := by decide +kernel
theorem dX0_passes_24 : decode cX0_passes 24 = .ok (.iconst 1, 1) := by decide +kernel
theorem dX0_passes_25 : decode cX0_passes 25 = .ok (.goto 4, 3) := by decide +kernel
theorem dX0_passes_28 : decode cX0_passes 28 = .ok (.iconst 0, 1) := by decide +kernel
theorem dX0_passes_29 : decode cX0_passes 29 = .ok (.ireturn, 1) := by decide +kernel
theorem dX0_work_0 : decode cX0_work 0 = .ok (.iconst 0, 1) := by decide +kernel
theorem dX0_work_1 : decode cX0_work 1 = .ok (.istore 4, 2) := by decide +kernel
theorem dX0_work_3 : decode cX0_work 3 = .ok (.iload_n 2, 1) := by decide +kernel
theorem dX0_work_4 : decode cX0_work 4 = .ok (.istore 5, 2) := by decide +kernel
theorem dX0_work_6 : decode cX0_work 6 = .ok (.aload_n 0, 1) := by decide +kernel
theorem dX0_work_7 : decode cX0_work 7 = .ok (.iconst 0, 1) := by decide +kernel
theorem dX0_work_8 : decode cX0_work 8 = .ok (.putfield 70, 3) := by decide +kernel
theorem dX0_work_11 : decode cX0_work 11 = .ok (.iload 5, 2) := by decide +kernel
theorem dX0_work_13 : decode cX0_work 13 = .ok (.iload_n 3, 1) := by decide +kernel
theorem dX0_work_14 : decode cX0_work 14 = .ok (.if_icmp .ge 265, 3) := by decide +kernel
theorem dX0_work_17 : decode cX0_work 17 = .ok (.aload_n 0, 1) := by decide +kernel
theorem dX0_work_18 : decode cX0_work 18 = .ok (.getfield 70, 3) := by decide +kernel
theorem dX0_work_21 : decode cX0_work 21 = .ok (.ifCond .ne 258, 3) := by decide +kernel
theorem dX0_work_24 : decode cX0_work 24 = .ok (.aload_n 1, 1) := by decide +kernel
theorem dX0_work_25 : decode cX0_work 25 = .ok (.iload 5, 2) := by decide +kernel
theorem dX0_work_27 : decode cX0_work 27 = .ok (.invokevirtual 58, 3) := by decide +kernel
theorem dX0_work_30 : decode cX0_work 30 = .ok (.istore 6, 2) := by decide +kernel
theorem dX0_work_32 : decode cX0_work 32 = .ok (.aload_n 1, 1) := by decide +kernel
theorem dX0_work_33 : decode cX0_work 33 = .ok (.iload 5, 2) := by decide +kernel
theorem dX0_work_35 : decode cX0_work 35 = .ok (.iconst 1, 1) := by decide +kernel
theorem dX0_work_36 : decode cX0_work 36 = .ok (.iadd, 1) := by decide +kernel
theorem dX0_work_37 : decode cX0_work 37 = .ok (.invokevirtual 58, 3) := by decide +kernel
theorem dX0_work_40 : decode cX0_work 40 = .ok (.istore 7, 2) := by decide +kernel
theorem dX0_work_42 : decode cX0_work 42 = .ok (.iload 4, 2) := by decide +kernel
theorem dX0_work_44 : decode cX0_work 44 = .ok (.ifCond .le 22, 3) := by decide +kernel
theorem dX0_work_47 : decode cX0_work 47 = .ok (.iload 4, 2) := by decide +kernel
theorem dX0_work_49 : decode cX0_work 49 = .ok (.bipush 64, 2) := by decide +kernel
theorem dX0_work_51 : decode cX0_work 51 = .ok (.if_icmp .gt 15, 3) := by decide +kernel
theorem dX0_work_54 : decode cX0_work 54 = .ok (.aload_n 0, 1) := by decide +kernel
theorem dX0_work_55 : decode cX0_work 55 = .ok (.getfield 15, 3) := by decide +kernel
theorem dX0_work_58 : decode cX0_work 58 = .ok (.iload 4, 2) := by decide +kernel
theorem dX0_work_60 : decode cX0_work 60 = .ok (.iconst 1, 1) := by decide +kernel
theorem dX0_work_61 : decode cX0_work 61 = .ok (.isub, 1) := by decide +kernel
theorem dX0_work_62 : decode cX0_work 62 = .ok (.laload, 1) := by decide +kernel
theorem dX0_work_63 : decode cX0_work 63 = .ok (.goto 4, 3) := by decide +kernel
theorem dX0_work_66 : decode cX0_work 66 = .ok (.lconst 0, 1) := by decide +kernel
theorem dX0_work_67 : decode cX0_work 67 = .ok (.lstore 8, 2) := by decide +kernel
theorem dX0_work_69 : decode cX0_work 69 = .ok (.iload 5, 2) := by decide +kernel
theorem dX0_work_71 : decode cX0_work 71 = .ok (.iload 6, 2) := by decide +kernel
theorem dX0_work_73 : decode cX0_work 73 = .ok (.iconst 4, 1) := by decide +kernel
theorem dX0_work_74 : decode cX0_work 74 = .ok (.if_icmp .ge 7, 3) := by decide +kernel
theorem dX0_work_77 : decode cX0_work 77 = .ok (.iconst 2, 1) := by decide +kernel
theorem dX0_work_78 : decode cX0_work 78 = .ok (.goto 4, 3) := by decide +kernel
theorem dX0_work_81 : decode cX0_work 81 = .ok (.iconst 1, 1) := by decide +kernel
theorem dX0_work_82 : decode cX0_work 82 = .ok (.iadd, 1) := by decide +kernel
theorem dX0_work_83 : decode cX0_work 83 = .ok (.istore 5, 2) := by decide +kernel
theorem dX0_work_85 : decode cX0_work 85 = .ok (.iload 6, 2) := by decide +kernel
theorem dX0_work_87 : decode cX0_work 87 = .ok (.ifCond .eq 9, 3) := by decide +kernel
theorem dX0_work_90 : decode cX0_work 90 = .ok (.iload 6, 2) := by decide +kernel
theorem dX0_work_92 : decode cX0_work 92 = .ok (.iconst 1, 1) := by decide +kernel
theorem dX0_work_93 : decode cX0_work 93 = .ok (.if_icmp .ne 41, 3) := by decide +kernel
theorem dX0_work_96 : decode cX0_work 96 = .ok (.iload 4, 2) := by decide +kernel
theorem dX0_work_98 : decode cX0_work 98 = .ok (.bipush 64, 2) := by decide +kernel
theorem dX0_work_100 : decode cX0_work 100 = .ok (.if_icmp .ge 176, 3) := by decide +kernel
theorem dX0_work_103 : decode cX0_work 103 = .ok (.aload_n 0, 1) := by decide +kernel
theorem dX0_work_104 : decode cX0_work 104 = .ok (.getfield 15, 3) := by decide +kernel
theorem dX0_work_107 : decode cX0_work 107 = .ok (.iload 4, 2) := by decide +kernel
theorem dX0_work_109 : decode cX0_work 109 = .ok (.iload 6, 2) := by decide +kernel
theorem dX0_work_111 : decode cX0_work 111 = .ok (.ifCond .ne 9, 3) := by decide +kernel
theorem dX0_work_114 : decode cX0_work 114 = .ok (.iload 7, 2) := by decide +kernel
theorem dX0_work_116 : decode cX0_work 116 = .ok (.i2l, 1) := by decide +kernel
theorem dX0_work_117 : decode cX0_work 117 = .ok (.goto 10, 3) := by decide +kernel
theorem dX0_work_120 : decode cX0_work 120 = .ok (.aload_n 0, 1) := by decide +kernel
theorem dX0_work_121 : decode cX0_work 121 = .ok (.iload 7, 2) := by decide +kernel
theorem dX0_work_123 : decode cX0_work 123 = .ok (.invokevirtual 87, 3) := by decide +kernel
theorem dX0_work_126 : decode cX0_work 126 = .ok (.i2l, 1) := by decide +kernel
theorem dX0_work_127 : decode cX0_work 127 = .ok (.lastore, 1) := by decide +kernel
theorem dX0_work_128 : decode cX0_work 128 = .ok (.iinc 4 1, 3) := by decide +kernel
theorem dX0_work_131 : decode cX0_work 131 = .ok (.goto 145, 3) := by decide +kernel
theorem dX0_work_134 : decode cX0_work 134 = .ok (.iload 6, 2) := by decide +kernel
theorem dX0_work_136 : decode cX0_work 136 = .ok (.iconst 2, 1) := by decide +kernel
theorem dX0_work_137 : decode cX0_work 137 = .ok (.if_icmp .eq 9, 3) := by decide +kernel
theorem dX0_work_140 : decode cX0_work 140 = .ok (.iload 6, 2) := by decide +kernel
theorem dX0_work_142 : decode cX0_work 142 = .ok (.iconst 3, 1) := by decide +kernel
theorem dX0_work_143 : decode cX0_work 143 = .ok (.if_icmp .ne 70, 3) := by decide +kernel
theorem dX0_work_146 : decode cX0_work 146 = .ok (.lload 8, 2) := by decide +kernel
theorem dX0_work_148 : decode cX0_work 148 = .ok (.iload 6, 2) := by decide +kernel
theorem dX0_work_150 : decode cX0_work 150 = .ok (.iconst 2, 1) := by decide +kernel
theorem dX0_work_151 : decode cX0_work 151 = .ok (.if_icmp .ne 7, 3) := by decide +kernel
theorem dX0_work_154 : decode cX0_work 154 = .ok (.iconst 1, 1) := by decide +kernel
theorem dX0_work_155 : decode cX0_work 155 = .ok (.goto 4, 3) := by decide +kernel
theorem dX0_work_158 : decode cX0_work 158 = .ok (.iconst 0, 1) := by decide +kernel
theorem dX0_work_159 : decode cX0_work 159 = .ok (.i2l, 1) := by decide +kernel
theorem dX0_work_160 : decode cX0_work 160 = .ok (.lcmp, 1) := by decide +kernel
theorem dX0_work_161 : decode cX0_work 161 = .ok (.ifCond .ne 7, 3) := by decide +kernel
theorem dX0_work_164 : decode cX0_work 164 = .ok (.iconst 1, 1) := by decide +kernel
theorem dX0_work_165 : decode cX0_work 165 = .ok (.goto 4, 3) := by decide +kernel
theorem dX0_work_168 : decode cX0_work 168 = .ok (.iconst 0, 1) := by decide +kernel
theorem dX0_work_169 : decode cX0_work 169 = .ok (.istore 10, 2) := by decide +kernel
theorem dX0_work_171 : decode cX0_work 171 = .ok (.iload 10, 2) := by decide +kernel
theorem dX0_work_173 : decode cX0_work 173 = .ok (.ifCond .eq 13, 3) := by decide +kernel
theorem dX0_work_176 : decode cX0_work 176 = .ok (.iload 5, 2) := by decide +kernel
theorem dX0_work_178 : decode cX0_work 178 = .ok (.iload 7, 2) := by decide +kernel
theorem dX0_work_180 : decode cX0_work 180 = .ok (.invokestatic 85, 3) := by decide +kernel
theorem dX0_work_183 : decode cX0_work 183 = .ok (.goto 5, 3) := by decide +kernel
theorem dX0_work_186 : decode cX0_work 186 = .ok (.iload 5, 2) := by decide +kernel
theorem dX0_work_188 : decode cX0_work 188 = .ok (.istore 5, 2) := by decide +kernel
theorem dX0_work_190 : decode cX0_work 190 = .ok (.iload 10, 2) := by decide +kernel
theorem dX0_work_192 : decode cX0_work 192 = .ok (.ifCond .eq 8, 3) := by decide +kernel
theorem dX0_work_195 : decode cX0_work 195 = .ok (.iload 4, 2) := by decide +kernel
theorem dX0_work_197 : decode cX0_work 197 = .ok (.goto 11, 3) := by decide +kernel
theorem dX0_work_200 : decode cX0_work 200 = .ok (.iconst 0, 1) := by decide +kernel
theorem dX0_work_201 : decode cX0_work 201 = .ok (.iload 4, 2) := by decide +kernel
theorem dX0_work_203 : decode cX0_work 203 = .ok (.iconst 1, 1) := by decide +kernel
theorem dX0_work_204 : decode cX0_work 204 = .ok (.isub, 1) := by decide +kernel
theorem dX0_work_205 : decode cX0_work 205 = .ok (.invokestatic 85, 3) := by decide +kernel
theorem dX0_work_208 : decode cX0_work 208 = .ok (.istore 4, 2) := by decide +kernel
theorem dX0_work_210 : decode cX0_work 210 = .ok (.goto 66, 3) := by decide +kernel
theorem dX0_work_213 : decode cX0_work 213 = .ok (.iload 6, 2) := by decide +kernel
theorem dX0_work_215 : decode cX0_work 215 = .ok (.bipush 11, 2) := by decide +kernel
theorem dX0_work_217 : decode cX0_work 217 = .ok (.if_icmp .ne 24, 3) := by decide +kernel
theorem dX0_work_220 : decode cX0_work 220 = .ok (.iload 4, 2) := by decide +kernel
theorem dX0_work_222 : decode cX0_work 222 = .ok (.ifCond .le 54, 3) := by decide +kernel
theorem dX0_work_225 : decode cX0_work 225 = .ok (.aload_n 0, 1) := by decide +kernel
theorem dX0_work_226 : decode cX0_work 226 = .ok (.getfield 15, 3) := by decide +kernel
theorem dX0_work_229 : decode cX0_work 229 = .ok (.iload 4, 2) := by decide +kernel
theorem dX0_work_231 : decode cX0_work 231 = .ok (.iconst 1, 1) := by decide +kernel
theorem dX0_work_232 : decode cX0_work 232 = .ok (.isub, 1) := by decide +kernel
theorem dX0_work_233 : decode cX0_work 233 = .ok (.lconst 1, 1) := by decide +kernel
theorem dX0_work_234 : decode cX0_work 234 = .ok (.lload 8, 2) := by decide +kernel
theorem dX0_work_236 : decode cX0_work 236 = .ok (.lsub, 1) := by decide +kernel
theorem dX0_work_237 : decode cX0_work 237 = .ok (.lastore, 1) := by decide +kernel
theorem dX0_work_238 : decode cX0_work 238 = .ok (.goto 38, 3) := by decide +kernel
theorem dX0_work_241 : decode cX0_work 241 = .ok (.iload 4, 2) := by decide +kernel
theorem dX0_work_243 : decode cX0_work 243 = .ok (.iconst 1, 1) := by decide +kernel
theorem dX0_work_244 : decode cX0_work 244 = .ok (.if_icmp .le 32, 3) := by decide +kernel
theorem dX0_work_247 : decode cX0_work 247 = .ok (.iinc 4 (-1), 3) := by decide +kernel
theorem dX0_work_250 : decode cX0_work 250 = .ok (.aload_n 0, 1) := by decide +kernel
theorem dX0_work_251 : decode cX0_work 251 = .ok (.getfield 15, 3) := by decide +kernel
theorem dX0_work_254 : decode cX0_work 254 = .ok (.iload 4, 2) := by decide +kernel
theorem dX0_work_256 : decode cX0_work 256 = .ok (.iconst 1, 1) := by decide +kernel
theorem dX0_work_257 : decode cX0_work 257 = .ok (.isub, 1) := by decide +kernel
theorem dX0_work_258 : decode cX0_work 258 = .ok (.aload_n 0, 1) := by decide +kernel
theorem dX0_work_259 : decode cX0_work 259 = .ok (.iload 6, 2) := by decide +kernel
theorem dX0_work_261 : decode cX0_work 261 = .ok (.aload_n 0, 1) := by decide +kernel
theorem dX0_work_262 : decode cX0_work 262 = .ok (.getfield 15, 3) := by decide +kernel
theorem dX0_work_265 : decode cX0_work 265 = .ok (.iload 4, 2) := by decide +kernel
theorem dX0_work_267 : decode cX0_work 267 = .ok (.iconst 1, 1) := by decide +kernel
theorem dX0_work_268 : decode cX0_work 268 = .ok (.isub, 1) := by decide +kernel
theorem dX0_work_269 : decode cX0_work 269 = .ok (.laload, 1) := by decide +kernel
theorem dX0_work_270 : decode cX0_work 270 = .ok (.lload 8, 2) := by decide +kernel
theorem dX0_work_272 : decode cX0_work 272 = .ok (.invokevirtual 90, 3) := by decide +kernel
theorem dX0_work_275 : decode cX0_work 275 = .ok (.lastore, 1) := by decide +kernel
theorem dX0_work_276 : decode cX0_work 276 = .ok (.goto (-265), 3) := by decide +kernel
theorem dX0_work_279 : decode cX0_work 279 = .ok (.iload 4, 2) := by decide +kernel
theorem dX0_work_281 : decode cX0_work 281 = .ok (.ifCond .le 15, 3) := by decide +kernel
theorem dX0_work_284 : decode cX0_work 284 = .ok (.aload_n 0, 1) := by decide +kernel
theorem dX0_work_285 : decode cX0_work 285 = .ok (.getfield 15, 3) := by decide +kernel
theorem dX0_work_288 : decode cX0_work 288 = .ok (.iload 4, 2) := by decide +kernel
theorem dX0_work_290 : decode cX0_work 290 = .ok (.iconst 1, 1) := by decide +kernel
theorem dX0_work_291 : decode cX0_work 291 = .ok (.isub, 1) := by decide +kernel
theorem dX0_work_292 : decode cX0_work 292 = .ok (.laload, 1) := by decide +kernel
theorem dX0_work_293 : decode cX0_work 293 = .ok (.goto 4, 3) := by decide +kernel
theorem dX0_work_296 : decode cX0_work 296 = .ok (.lconst 0, 1) := by decide +kernel
theorem dX0_work_297 : decode cX0_work 297 = .ok (.lreturn, 1) := by decide +kernel
theorem dX0_askedOf_0 : decode cX0_askedOf 0 = .ok (.iload_n 1, 1) := by decide +kernel
theorem dX0_askedOf_1 : decode cX0_askedOf 1 = .ok (.ifCond .lt 18, 3) := by decide +kernel
theorem dX0_askedOf_4 : decode cX0_askedOf 4 = .ok (.iload_n 1, 1) := by decide +kernel
theorem dX0_askedOf_5 : decode cX0_askedOf 5 = .ok (.bipush 9, 2) := by decide +kernel
theorem dX0_askedOf_7 : decode cX0_askedOf 7 = .ok (.if_icmp .ge 12, 3) := by decide +kernel
theorem dX0_askedOf_10 : decode cX0_askedOf 10 = .ok (.aload_n 0, 1) := by decide +kernel
theorem dX0_askedOf_11 : decode cX0_askedOf 11 = .ok (.getfield 9, 3) := by decide +kernel
theorem dX0_askedOf_14 : decode cX0_askedOf 14 = .ok (.iload_n 1, 1) := by decide +kernel
theorem dX0_askedOf_15 : decode cX0_askedOf 15 = .ok (.iaload, 1) := by decide +kernel
theorem dX0_askedOf_16 : decode cX0_askedOf 16 = .ok (.goto 4, 3) := by decide +kernel
theorem dX0_askedOf_19 : decode cX0_askedOf 19 = .ok (.iconst 0, 1) := by decide +kernel
theorem dX0_askedOf_20 : decode cX0_askedOf 20 = .ok (.ireturn, 1) := by decide +kernel
theorem dX0_combined_0 : decode cX0_combined 0 = .ok (.iload_n 1, 1) := by decide +kernel
theorem dX0_combined_1 : decode cX0_combined 1 = .ok (.bipush 7, 2) := by decide +kernel
theorem dX0_combined_3 : decode cX0_combined 3 = .ok (.if_icmp .ne 17, 3) := by decide +kernel
theorem dX0_combined_6 : decode cX0_combined 6 = .ok (.lload 4, 2) := by decide +kernel
theorem dX0_combined_8 : decode cX0_combined 8 = .ok (.lconst 0, 1) := by decide +kernel
theorem dX0_combined_9 : decode cX0_combined 9 = .ok (.lcmp, 1) := by decide +kernel
theorem dX0_combined_10 : decode cX0_combined 10 = .ok (.ifCond .ne 10, 3) := by decide +kernel
theorem dX0_combined_13 : decode cX0_combined 13 = .ok (.aload_n 0, 1) := by decide +kernel
theorem dX0_combined_14 : decode cX0_combined 14 = .ok (.iconst 1, 1) := by decide +kernel
theorem dX0_combined_15 : decode cX0_combined 15 = .ok (.putfield 70, 3) := by decide +kernel
theorem dX0_combined_18 : decode cX0_combined 18 = .ok (.lconst 0, 1) := by decide +kernel
theorem dX0_combined_19 : decode cX0_combined 19 = .ok (.lreturn, 1) := by decide +kernel
theorem dX0_combined_20 : decode cX0_combined 20 = .ok (.iload_n 1, 1) := by decide +kernel
theorem dX0_combined_21 : decode cX0_combined 21 = .ok (.tableswitch 120 4 9 #[39, 48, 57, 66, 86, 103], 39) := by decide +kernel
theorem dX0_combined_60 : decode cX0_combined 60 = .ok (.lload_n 2, 1) := by decide +kernel
theorem dX0_combined_61 : decode cX0_combined 61 = .ok (.lload 4, 2) := by decide +kernel
theorem dX0_combined_63 : decode cX0_combined 63 = .ok (.ladd, 1) := by decide +kernel
theorem dX0_combined_64 : decode cX0_combined 64 = .ok (.lstore 6, 2) := by decide +kernel
theorem dX0_combined_66 : decode cX0_combined 66 = .ok (.goto 89, 3) := by decide +kernel
theorem dX0_combined_69 : decode cX0_combined 69 = .ok (.lload_n 2, 1) := by decide +kernel
theorem dX0_combined_70 : decode cX0_combined 70 = .ok (.lload 4, 2) := by decide +kernel
theorem dX0_combined_72 : decode cX0_combined 72 = .ok (.lsub, 1) := by decide +kernel
theorem dX0_combined_73 : decode cX0_combined 73 = .ok (.lstore 6, 2) := by decide +kernel
theorem dX0_combined_75 : decode cX0_combined 75 = .ok (.goto 80, 3) := by decide +kernel
theorem dX0_combined_78 : decode cX0_combined 78 = .ok (.lload_n 2, 1) := by decide +kernel
theorem dX0_combined_79 : decode cX0_combined 79 = .ok (.lload 4, 2) := by decide +kernel
theorem dX0_combined_81 : decode cX0_combined 81 = .ok (.lmul, 1) := by decide +kernel
theorem dX0_combined_82 : decode cX0_combined 82 = .ok (.lstore 6, 2) := by decide +kernel
theorem dX0_combined_84 : decode cX0_combined 84 = .ok (.goto 71, 3) := by decide +kernel
theorem dX0_combined_87 : decode cX0_combined 87 = .ok (.lload 4, 2) := by decide +kernel
theorem dX0_combined_89 : decode cX0_combined 89 = .ok (.lconst 0, 1) := by decide +kernel
theorem dX0_combined_90 : decode cX0_combined 90 = .ok (.lcmp, 1) := by decide +kernel
theorem dX0_combined_91 : decode cX0_combined 91 = .ok (.ifCond .ne 7, 3) := by decide +kernel
theorem dX0_combined_94 : decode cX0_combined 94 = .ok (.lconst 0, 1) := by decide +kernel
theorem dX0_combined_95 : decode cX0_combined 95 = .ok (.goto 7, 3) := by decide +kernel
theorem dX0_combined_98 : decode cX0_combined 98 = .ok (.lload_n 2, 1) := by decide +kernel
theorem dX0_combined_99 : decode cX0_combined 99 = .ok (.lload 4, 2) := by decide +kernel
theorem dX0_combined_101 : decode cX0_combined 101 = .ok (.ldiv, 1) := by decide +kernel
theorem dX0_combined_102 : decode cX0_combined 102 = .ok (.lstore 6, 2) := by decide +kernel
theorem dX0_combined_104 : decode cX0_combined 104 = .ok (.goto 51, 3) := by decide +kernel
theorem dX0_combined_107 : decode cX0_combined 107 = .ok (.lload_n 2, 1) := by decide +kernel
theorem dX0_combined_108 : decode cX0_combined 108 = .ok (.lload 4, 2) := by decide +kernel
theorem dX0_combined_110 : decode cX0_combined 110 = .ok (.lcmp, 1) := by decide +kernel
theorem dX0_combined_111 : decode cX0_combined 111 = .ok (.ifCond .ge 7, 3) := by decide +kernel
theorem dX0_combined_114 : decode cX0_combined 114 = .ok (.lconst 1, 1) := by decide +kernel
theorem dX0_combined_115 : decode cX0_combined 115 = .ok (.goto 4, 3) := by decide +kernel
theorem dX0_combined_118 : decode cX0_combined 118 = .ok (.lconst 0, 1) := by decide +kernel
theorem dX0_combined_119 : decode cX0_combined 119 = .ok (.lstore 6, 2) := by decide +kernel
theorem dX0_combined_121 : decode cX0_combined 121 = .ok (.goto 34, 3) := by decide +kernel
theorem dX0_combined_124 : decode cX0_combined 124 = .ok (.lload_n 2, 1) := by decide +kernel
theorem dX0_combined_125 : decode cX0_combined 125 = .ok (.lload 4, 2) := by decide +kernel
theorem dX0_combined_127 : decode cX0_combined 127 = .ok (.lcmp, 1) := by decide +kernel
theorem dX0_combined_128 : decode cX0_combined 128 = .ok (.ifCond .le 7, 3) := by decide +kernel
theorem dX0_combined_131 : decode cX0_combined 131 = .ok (.lconst 1, 1) := by decide +kernel
theorem dX0_combined_132 : decode cX0_combined 132 = .ok (.goto 4, 3) := by decide +kernel
theorem dX0_combined_135 : decode cX0_combined 135 = .ok (.lconst 0, 1) := by decide +kernel
theorem dX0_combined_136 : decode cX0_combined 136 = .ok (.lstore 6, 2) := by decide +kernel
theorem dX0_combined_138 : decode cX0_combined 138 = .ok (.goto 17, 3) := by decide +kernel
theorem dX0_combined_141 : decode cX0_combined 141 = .ok (.lload_n 2, 1) := by decide +kernel
theorem dX0_combined_142 : decode cX0_combined 142 = .ok (.lload 4, 2) := by decide +kernel
theorem dX0_combined_144 : decode cX0_combined 144 = .ok (.lcmp, 1) := by decide +kernel
theorem dX0_combined_145 : decode cX0_combined 145 = .ok (.ifCond .ne 7, 3) := by decide +kernel
theorem dX0_combined_148 : decode cX0_combined 148 = .ok (.lconst 1, 1) := by decide +kernel
theorem dX0_combined_149 : decode cX0_combined 149 = .ok (.goto 4, 3) := by decide +kernel
theorem dX0_combined_152 : decode cX0_combined 152 = .ok (.lconst 0, 1) := by decide +kernel
theorem dX0_combined_153 : decode cX0_combined 153 = .ok (.lstore 6, 2) := by decide +kernel
theorem dX0_combined_155 : decode cX0_combined 155 = .ok (.aload_n 0, 1) := by decide +kernel
theorem dX0_combined_156 : decode cX0_combined 156 = .ok (.lload 6, 2) := by decide +kernel
theorem dX0_combined_158 : decode cX0_combined 158 = .ok (.ldc2_w 94, 3) := by decide +kernel
theorem dX0_combined_161 : decode cX0_combined 161 = .ok (.lcmp, 1) := by decide +kernel
theorem dX0_combined_162 : decode cX0_combined 162 = .ok (.ifCond .gt 12, 3) := by decide +kernel
theorem dX0_combined_165 : decode cX0_combined 165 = .ok (.lload 6, 2) := by decide +kernel
theorem dX0_combined_167 : decode cX0_combined 167 = .ok (.ldc2_w 96, 3) := by decide +kernel
theorem dX0_combined_170 : decode cX0_combined 170 = .ok (.lcmp, 1) := by decide +kernel
theorem dX0_combined_171 : decode cX0_combined 171 = .ok (.ifCond .ge 7, 3) := by decide +kernel
theorem dX0_combined_174 : decode cX0_combined 174 = .ok (.iconst 1, 1) := by decide +kernel
theorem dX0_combined_175 : decode cX0_combined 175 = .ok (.goto 4, 3) := by decide +kernel
theorem dX0_combined_178 : decode cX0_combined 178 = .ok (.iconst 0, 1) := by decide +kernel
theorem dX0_combined_179 : decode cX0_combined 179 = .ok (.putfield 70, 3) := by decide +kernel
theorem dX0_combined_182 : decode cX0_combined 182 = .ok (.lload 6, 2) := by decide +kernel
theorem dX0_combined_184 : decode cX0_combined 184 = .ok (.lreturn, 1) := by decide +kernel
theorem dX1_init_0 : decode cX1_init 0 = .ok (.aload_n 0, 1) := by decide +kernel
theorem dX1_init_1 : decode cX1_init 1 = .ok (.invokespecial 3, 3) := by decide +kernel
theorem dX1_init_4 : decode cX1_init 4 = .ok (.aload_n 0, 1) := by decide +kernel
theorem dX1_init_5 : decode cX1_init 5 = .ok (.sipush 330, 3) := by decide +kernel
theorem dX1_init_8 : decode cX1_init 8 = .ok (.newarray .long, 2) := by decide +kernel
theorem dX1_init_10 : decode cX1_init 10 = .ok (.putfield 9, 3) := by decide +kernel
theorem dX1_init_13 : decode cX1_init 13 = .ok (.return_, 1) := by decide +kernel
theorem dX1_become_0 : decode cX1_become 0 = .ok (.aload_n 0, 1) := by decide +kernel
theorem dX1_become_1 : decode cX1_become 1 = .ok (.iconst 0, 1) := by decide +kernel
theorem dX1_become_2 : decode cX1_become 2 = .ok (.putfield 13, 3) := by decide +kernel
theorem dX1_become_5 : decode cX1_become 5 = .ok (.iload_n 1, 1) := by decide +kernel
theorem dX1_become_6 : decode cX1_become 6 = .ok (.ifCond .le 46, 3) := by decide +kernel
theorem dX1_become_9 : decode cX1_become 9 = .ok (.aload_n 0, 1) := by decide +kernel
theorem dX1_become_10 : decode cX1_become 10 = .ok (.getfield 9, 3) := by decide +kernel
theorem dX1_become_13 : decode cX1_become 13 = .ok (.iconst 0, 1) := by decide +kernel
theorem dX1_become_14 : decode cX1_become 14 = .ok (.iload_n 1, 1) := by decide +kernel
theorem dX1_become_15 : decode cX1_become 15 = .ok (.i2l, 1) := by decide +kernel
theorem dX1_become_16 : decode cX1_become 16 = .ok (.ldc2_w 17, 3) := by decide +kernel
theorem dX1_become_19 : decode cX1_become 19 = .ok (.land, 1) := by decide +kernel
theorem dX1_become_20 : decode cX1_become 20 = .ok (.lastore, 1) := by decide +kernel
theorem dX1_become_21 : decode cX1_become 21 = .ok (.aload_n 0, 1) := by decide +kernel
theorem dX1_become_22 : decode cX1_become 22 = .ok (.getfield 9, 3) := by decide +kernel
theorem dX1_become_25 : decode cX1_become 25 = .ok (.iconst 1, 1) := by decide +kernel
theorem dX1_become_26 : decode cX1_become 26 = .ok (.iload_n 1, 1) := by decide +kernel
theorem dX1_become_27 : decode cX1_become 27 = .ok (.bipush 30, 2) := by decide +kernel
theorem dX1_become_29 : decode cX1_become 29 = .ok (.ishr, 1) := by decide +kernel
theorem dX1_become_30 : decode cX1_become 30 = .ok (.i2l, 1) := by decide +kernel
theorem dX1_become_31 : decode cX1_become 31 = .ok (.lastore, 1) := by decide +kernel
theorem dX1_become_32 : decode cX1_become 32 = .ok (.aload_n 0, 1) := by decide +kernel
theorem dX1_become_33 : decode cX1_become 33 = .ok (.aload_n 0, 1) := by decide +kernel
theorem dX1_become_34 : decode cX1_become 34 = .ok (.getfield 9, 3) := by decide +kernel
theorem dX1_become_37 : decode cX1_become 37 = .ok (.iconst 1, 1) := by decide +kernel
theorem dX1_become_38 : decode cX1_become 38 = .ok (.laload, 1) := by decide +kernel
theorem dX1_become_39 : decode cX1_become 39 = .ok (.lconst 0, 1) := by decide +kernel
theorem dX1_become_40 : decode cX1_become 40 = .ok (.lcmp, 1) := by decide +kernel
theorem dX1_become_41 : decode cX1_become 41 = .ok (.ifCond .le 7, 3) := by decide +kernel
theorem dX1_become_44 : decode cX1_become 44 = .ok (.iconst 2, 1) := by decide +kernel
theorem dX1_become_45 : decode cX1_become 45 = .ok (.goto 4, 3) := by decide +kernel
theorem dX1_become_48 : decode cX1_become 48 = .ok (.iconst 1, 1) := by decide +kernel
theorem dX1_become_49 : decode cX1_become 49 = .ok (.putfield 13, 3) := by decide +kernel
theorem dX1_become_52 : decode cX1_become 52 = .ok (.return_, 1) := by decide +kernel
theorem dX1_takeFrom_0 : decode cX1_takeFrom 0 = .ok (.aload_n 0, 1) := by decide +kernel
theorem dX1_takeFrom_1 : decode cX1_takeFrom 1 = .ok (.aload_n 1, 1) := by decide +kernel
theorem dX1_takeFrom_2 : decode cX1_takeFrom 2 = .ok (.getfield 13, 3) := by decide +kernel
theorem dX1_takeFrom_5 : decode cX1_takeFrom 5 = .ok (.putfield 13, 3) := by decide +kernel
theorem dX1_takeFrom_8 : decode cX1_takeFrom 8 = .ok (.aload_n 1, 1) := by decide +kernel
theorem dX1_takeFrom_9 : decode cX1_takeFrom 9 = .ok (.getfield 9, 3) := by decide +kernel
theorem dX1_takeFrom_12 : decode cX1_takeFrom 12 = .ok (.iconst 0, 1) := by decide +kernel
theorem dX1_takeFrom_13 : decode cX1_takeFrom 13 = .ok (.aload_n 0, 1) := by decide +kernel
theorem dX1_takeFrom_14 : decode cX1_takeFrom 14 = .ok (.getfield 9, 3) := by decide +kernel
theorem dX1_takeFrom_17 : decode cX1_takeFrom 17 = .ok (.iconst 0, 1) := by decide +kernel
theorem dX1_takeFrom_18 : decode cX1_takeFrom 18 = .ok (.aload_n 0, 1) := by decide +kernel
theorem dX1_takeFrom_19 : decode cX1_takeFrom 19 = .ok (.getfield 13, 3) := by decide +kernel
theorem dX1_takeFrom_22 : decode cX1_takeFrom 22 = .ok (.sipush 330, 3) := by decide +kernel
theorem dX1_takeFrom_25 : decode cX1_takeFrom 25 = .ok (.invokestatic 19, 3) := by decide +kernel
theorem dX1_takeFrom_28 : decode cX1_takeFrom 28 = .ok (.invokestatic 25, 3) := by decide +kernel
theorem dX1_takeFrom_31 : decode cX1_takeFrom 31 = .ok (.return_, 1) := by decide +kernel
theorem dX1_isZero_0 : decode cX1_isZero 0 = .ok (.aload_n 0, 1) := by decide +kernel
theorem dX1_isZero_1 : decode cX1_isZero 1 = .ok (.getfield 13, 3) := by decide +kernel
theorem dX1_isZero_4 : decode cX1_isZero 4 = .ok (.ifCond .ne 7, 3) := by decide +kernel
theorem dX1_isZero_7 : decode cX1_isZero 7 = .ok (.iconst 1, 1) := by decide +kernel
theorem dX1_isZero_8 : decode cX1_isZero 8 = .ok (.goto 4, 3) := by decide +kernel
theorem dX1_isZero_11 : decode cX1_isZero 11 = .ok (.iconst 0, 1) := by decide +kernel
theorem dX1_isZero_12 : decode cX1_isZero 12 = .ok (.ireturn, 1) := by decide +kernel
theorem dX1_multiply_0 : decode cX1_multiply 0 = .ok (.lload_n 1, 1) := by decide +kernel
theorem dX1_multiply_1 : decode cX1_multiply 1 = .ok (.lconst 0, 1) := by decide +kernel
theorem dX1_multiply_2 : decode cX1_multiply 2 = .ok (.lcmp, 1) := by decide +kernel
theorem dX1_multiply_3 : decode cX1_multiply 3 = .ok (.ifCond .gt 9, 3) := by decide +kernel
theorem dX1_multiply_6 : decode cX1_multiply 6 = .ok (.aload_n 0, 1) := by decide +kernel
theorem dX1_multiply_7 : decode cX1_multiply 7 = .ok (.iconst 0, 1) := by decide +kernel
theorem dX1_multiply_8 : decode cX1_multiply 8 = .ok (.putfield 13, 3) := by decide +kernel
theorem dX1_multiply_11 : decode cX1_multiply 11 = .ok (.return_, 1) := by decide +kernel
theorem dX1_multiply_12 : decode cX1_multiply 12 = .ok (.lconst 0, 1) := by decide +kernel
theorem dX1_multiply_13 : decode cX1_multiply 13 = .ok (.lstore_n 3, 1) := by decide +kernel
theorem dX1_multiply_14 : decode cX1_multiply 14 = .ok (.iconst 0, 1) := by decide +kernel
theorem dX1_multiply_15 : decode cX1_multiply 15 = .ok (.istore 5, 2) := by decide +kernel
theorem dX1_multiply_17 : decode cX1_multiply 17 = .ok (.iload 5, 2) := by decide +kernel
theorem dX1_multiply_19 : decode cX1_multiply 19 = .ok (.aload_n 0, 1) := by decide +kernel
theorem dX1_multiply_20 : decode cX1_multiply 20 = .ok (.getfield 13, 3) := by decide +kernel
theorem dX1_multiply_23 : decode cX1_multiply 23 = .ok (.if_icmp .ge 49, 3) := by decide +kernel
theorem dX1_multiply_26 : decode cX1_multiply 26 = .ok (.iload 5, 2) := by decide +kernel
theorem dX1_multiply_28 : decode cX1_multiply 28 = .ok (.sipush 330, 3) := by decide +kernel
theorem dX1_multiply_31 : decode cX1_multiply 31 = .ok (.if_icmp .ge 41, 3) := by decide +kernel
theorem dX1_multiply_34 : decode cX1_multiply 34 = .ok (.aload_n 0, 1) := by decide +kernel
theorem dX1_multiply_35 : decode cX1_multiply 35 = .ok (.getfield 9, 3) := by decide +kernel
theorem dX1_multiply_38 : decode cX1_multiply 38 = .ok (.iload 5, 2) := by decide +kernel
theorem dX1_multiply_40 : decode cX1_multiply 40 = .ok (.laload, 1) := by decide +kernel
theorem dX1_multiply_41 : decode cX1_multiply 41 = .ok (.lload_n 1, 1) := by decide +kernel
theorem dX1_multiply_42 : decode cX1_multiply 42 = .ok (.lmul, 1) := by decide +kernel
theorem dX1_multiply_43 : decode cX1_multiply 43 = .ok (.lload_n 3, 1) := by decide +kernel
theorem dX1_multiply_44 : decode cX1_multiply 44 = .ok (.ladd, 1) := by decide +kernel
theorem dX1_multiply_45 : decode cX1_multiply 45 = .ok (.lstore 6, 2) := by decide +kernel
theorem dX1_multiply_47 : decode cX1_multiply 47 = .ok (.aload_n 0, 1) := by decide +kernel
theorem dX1_multiply_48 : decode cX1_multiply 48 = .ok (.getfield 9, 3) := by decide +kernel
theorem dX1_multiply_51 : decode cX1_multiply 51 = .ok (.iload 5, 2) := by decide +kernel
theorem dX1_multiply_53 : decode cX1_multiply 53 = .ok (.lload 6, 2) := by decide +kernel
theorem dX1_multiply_55 : decode cX1_multiply 55 = .ok (.ldc2_w 17, 3) := by decide +kernel
theorem dX1_multiply_58 : decode cX1_multiply 58 = .ok (.land, 1) := by decide +kernel
theorem dX1_multiply_59 : decode cX1_multiply 59 = .ok (.lastore, 1) := by decide +kernel
theorem dX1_multiply_60 : decode cX1_multiply 60 = .ok (.lload 6, 2) := by decide +kernel
theorem dX1_multiply_62 : decode cX1_multiply 62 = .ok (.bipush 30, 2) := by decide +kernel
theorem dX1_multiply_64 : decode cX1_multiply 64 = .ok (.lshr, 1) := by decide +kernel
theorem dX1_multiply_65 : decode cX1_multiply 65 = .ok (.lstore_n 3, 1) := by decide +kernel
theorem dX1_multiply_66 : decode cX1_multiply 66 = .ok (.iinc 5 1, 3) := by decide +kernel
theorem dX1_multiply_69 : decode cX1_multiply 69 = .ok (.goto (-52), 3) := by decide +kernel
theorem dX1_multiply_72 : decode cX1_multiply 72 = .ok (.iconst 0, 1) := by decide +kernel
theorem dX1_multiply_73 : decode cX1_multiply 73 = .ok (.istore 5, 2) := by decide +kernel
theorem dX1_multiply_75 : decode cX1_multiply 75 = .ok (.iload 5, 2) := by decide +kernel
theorem dX1_multiply_77 : decode cX1_multiply 77 = .ok (.iconst 2, 1) := by decide +kernel
theorem dX1_multiply_78 : decode cX1_multiply 78 = .ok (.if_icmp .ge 54, 3) := by decide +kernel
theorem dX1_multiply_81 : decode cX1_multiply 81 = .ok (.lload_n 3, 1) := by decide +kernel
theorem dX1_multiply_82 : decode cX1_multiply 82 = .ok (.lconst 0, 1) := by decide +kernel
theorem dX1_multiply_83 : decode cX1_multiply 83 = .ok (.lcmp, 1) := by decide +kernel
theorem dX1_multiply_84 : decode cX1_multiply 84 = .ok (.ifCond .le 48, 3) := by decide +kernel
theorem dX1_multiply_87 : decode cX1_multiply 87 = .ok (.aload_n 0, 1) := by decide +kernel
theorem dX1_multiply_88 : decode cX1_multiply 88 = .ok (.getfield 13, 3) := by decide +kernel
theorem dX1_multiply_91 : decode cX1_multiply 91 = .ok (.sipush 330, 3) := by decide +kernel
theorem dX1_multiply_94 : decode cX1_multiply 94 = .ok (.if_icmp .ge 38, 3) := by decide +kernel
theorem dX1_multiply_97 : decode cX1_multiply 97 = .ok (.aload_n 0, 1) := by decide +kernel
theorem dX1_multiply_98 : decode cX1_multiply 98 = .ok (.getfield 9, 3) := by decide +kernel
theorem dX1_multiply_101 : decode cX1_multiply 101 = .ok (.aload_n 0, 1) := by decide +kernel
theorem dX1_multiply_102 : decode cX1_multiply 102 = .ok (.getfield 13, 3) := by decide +kernel
theorem dX1_multiply_105 : decode cX1_multiply 105 = .ok (.lload_n 3, 1) := by decide +kernel
theorem dX1_multiply_106 : decode cX1_multiply 106 = .ok (.ldc2_w 17, 3) := by decide +kernel
theorem dX1_multiply_109 : decode cX1_multiply 109 = .ok (.land, 1) := by decide +kernel
theorem dX1_multiply_110 : decode cX1_multiply 110 = .ok (.lastore, 1) := by decide +kernel
theorem dX1_multiply_111 : decode cX1_multiply 111 = .ok (.lload_n 3, 1) := by decide +kernel
theorem dX1_multiply_112 : decode cX1_multiply 112 = .ok (.bipush 30, 2) := by decide +kernel
theorem dX1_multiply_114 : decode cX1_multiply 114 = .ok (.lshr, 1) := by decide +kernel
theorem dX1_multiply_115 : decode cX1_multiply 115 = .ok (.lstore_n 3, 1) := by decide +kernel
theorem dX1_multiply_116 : decode cX1_multiply 116 = .ok (.aload_n 0, 1) := by decide +kernel
theorem dX1_multiply_117 : decode cX1_multiply 117 = .ok (.dup, 1) := by decide +kernel
theorem dX1_multiply_118 : decode cX1_multiply 118 = .ok (.getfield 13, 3) := by decide +kernel
theorem dX1_multiply_121 : decode cX1_multiply 121 = .ok (.iconst 1, 1) := by decide +kernel
theorem dX1_multiply_122 : decode cX1_multiply 122 = .ok (.iadd, 1) := by decide +kernel
theorem dX1_multiply_123 : decode cX1_multiply 123 = .ok (.putfield 13, 3) := by decide +kernel
theorem dX1_multiply_126 : decode cX1_multiply 126 = .ok (.iinc 5 1, 3) := by decide +kernel
theorem dX1_multiply_129 : decode cX1_multiply 129 = .ok (.goto (-54), 3) := by decide +kernel
theorem dX1_multiply_132 : decode cX1_multiply 132 = .ok (.return_, 1) := by decide +kernel
theorem dX1_multiplyOften_0 : decode cX1_multiplyOften 0 = .ok (.lconst 1, 1) := by decide +kernel
theorem dX1_multiplyOften_1 : decode cX1_multiplyOften 1 = .ok (.lstore_n 3, 1) := by decide +kernel
theorem dX1_multiplyOften_2 : decode cX1_multiplyOften 2 = .ok (.iconst 0, 1) := by decide +kernel
theorem dX1_multiplyOften_3 : decode cX1_multiplyOften 3 = .ok (.istore 5, 2) := by decide +kernel
theorem dX1_multiplyOften_5 : decode cX1_multiplyOften 5 = .ok (.iload 5, 2) := by decide +kernel
theorem dX1_multiplyOften_7 : decode cX1_multiplyOften 7 = .ok (.iload_n 2, 1) := by decide +kernel
theorem dX1_multiplyOften_8 : decode cX1_multiplyOften 8 = .ok (.if_icmp .ge 32, 3) := by decide +kernel
theorem dX1_multiplyOften_11 : decode cX1_multiplyOften 11 = .ok (.lload_n 3, 1) := by decide +kernel
theorem dX1_multiplyOften_12 : decode cX1_multiplyOften 12 = .ok (.iload_n 1, 1) := by decide +kernel
theorem dX1_multiplyOften_13 : decode cX1_multiplyOften 13 = .ok (.i2l, 1) := by decide +kernel
theorem dX1_multiplyOften_14 : decode cX1_multiplyOften 14 = .ok (.lmul, 1) := by decide +kernel
theorem dX1_multiplyOften_15 : decode cX1_multiplyOften 15 = .ok (.ldc2_w 31, 3) := by decide +kernel
theorem dX1_multiplyOften_18 : decode cX1_multiplyOften 18 = .ok (.lcmp, 1) := by decide +kernel
theorem dX1_multiplyOften_19 : decode cX1_multiplyOften 19 = .ok (.ifCond .le 10, 3) := by decide +kernel
theorem dX1_multiplyOften_22 : decode cX1_multiplyOften 22 = .ok (.aload_n 0, 1) := by decide +kernel
theorem dX1_multiplyOften_23 : decode cX1_multiplyOften 23 = .ok (.lload_n 3, 1) := by decide +kernel
theorem dX1_multiplyOften_24 : decode cX1_multiplyOften 24 = .ok (.invokevirtual 33, 3) := by decide +kernel
theorem dX1_multiplyOften_27 : decode cX1_multiplyOften 27 = .ok (.lconst 1, 1) := by decide +kernel
theorem dX1_multiplyOften_28 : decode cX1_multiplyOften 28 = .ok (.lstore_n 3, 1) := by decide +kernel
theorem dX1_multiplyOften_29 : decode cX1_multiplyOften 29 = .ok (.lload_n 3, 1) := by decide +kernel
theorem dX1_multiplyOften_30 : decode cX1_multiplyOften 30 = .ok (.iload_n 1, 1) := by decide +kernel
theorem dX1_multiplyOften_31 : decode cX1_multiplyOften 31 = .ok (.i2l, 1) := by decide +kernel
theorem dX1_multiplyOften_32 : decode cX1_multiplyOften 32 = .ok (.lmul, 1) := by decide +kernel
theorem dX1_multiplyOften_33 : decode cX1_multiplyOften 33 = .ok (.lstore_n 3, 1) := by decide +kernel
theorem dX1_multiplyOften_34 : decode cX1_multiplyOften 34 = .ok (.iinc 5 1, 3) := by decide +kernel
theorem dX1_multiplyOften_37 : decode cX1_multiplyOften 37 = .ok (.goto (-32), 3) := by decide +kernel
theorem dX1_multiplyOften_40 : decode cX1_multiplyOften 40 = .ok (.aload_n 0, 1) := by decide +kernel
theorem dX1_multiplyOften_41 : decode cX1_multiplyOften 41 = .ok (.lload_n 3, 1) := by decide +kernel
theorem dX1_multiplyOften_42 : decode cX1_multiplyOften 42 = .ok (.invokevirtual 33, 3) := by decide +kernel
theorem dX1_multiplyOften_45 : decode cX1_multiplyOften 45 = .ok (.return_, 1) := by decide +kernel
theorem dX1_add_0 : decode cX1_add 0 = .ok (.lconst 0, 1) := by decide +kernel
theorem dX1_add_1 : decode cX1_add 1 = .ok (.lstore_n 2, 1) := by decide +kernel
theorem dX1_add_2 : decode cX1_add 2 = .ok (.aload_n 0, 1) := by decide +kernel
theorem dX1_add_3 : decode cX1_add 3 = .ok (.getfield 13, 3) := by decide +kernel
theorem dX1_add_6 : decode cX1_add 6 = .ok (.aload_n 1, 1) := by decide +kernel
theorem dX1_add_7 : decode cX1_add 7 = .ok (.getfield 13, 3) := by decide +kernel
theorem dX1_add_10 : decode cX1_add 10 = .ok (.invokestatic 37, 3) := by decide +kernel
theorem dX1_add_13 : decode cX1_add 13 = .ok (.sipush 330, 3) := by decide +kernel
theorem dX1_add_16 : decode cX1_add 16 = .ok (.invokestatic 19, 3) := by decide +kernel
theorem dX1_add_19 : decode cX1_add 19 = .ok (.istore 4, 2) := by decide +kernel
theorem dX1_add_21 : decode cX1_add 21 = .ok (.iconst 0, 1) := by decide +kernel
theorem dX1_add_22 : decode cX1_add 22 = .ok (.istore 5, 2) := by decide +kernel
theorem dX1_add_24 : decode cX1_add 24 = .ok (.iload 5, 2) := by decide +kernel
theorem dX1_add_26 : decode cX1_add 26 = .ok (.iload 4, 2) := by decide +kernel
theorem dX1_add_28 : decode cX1_add 28 = .ok (.if_icmp .ge 73, 3) := by decide +kernel
theorem dX1_add_31 : decode cX1_add 31 = .ok (.iload 5, 2) := by decide +kernel
theorem dX1_add_33 : decode cX1_add 33 = .ok (.aload_n 0, 1) := by decide +kernel
theorem dX1_add_34 : decode cX1_add 34 = .ok (.getfield 13, 3) := by decide +kernel
theorem dX1_add_37 : decode cX1_add 37 = .ok (.if_icmp .ge 13, 3) := by decide +kernel
theorem dX1_add_40 : decode cX1_add 40 = .ok (.aload_n 0, 1) := by decide +kernel
theorem dX1_add_41 : decode cX1_add 41 = .ok (.getfield 9, 3) := by decide +kernel
theorem dX1_add_44 : decode cX1_add 44 = .ok (.iload 5, 2) := by decide +kernel
theorem dX1_add_46 : decode cX1_add 46 = .ok (.laload, 1) := by decide +kernel
theorem dX1_add_47 : decode cX1_add 47 = .ok (.goto 4, 3) := by decide +kernel
theorem dX1_add_50 : decode cX1_add 50 = .ok (.lconst 0, 1) := by decide +kernel
theorem dX1_add_51 : decode cX1_add 51 = .ok (.iload 5, 2) := by decide +kernel
theorem dX1_add_53 : decode cX1_add 53 = .ok (.aload_n 1, 1) := by decide +kernel
theorem dX1_add_54 : decode cX1_add 54 = .ok (.getfield 13, 3) := by decide +kernel
theorem dX1_add_57 : decode cX1_add 57 = .ok (.if_icmp .ge 13, 3) := by decide +kernel
theorem dX1_add_60 : decode cX1_add 60 = .ok (.aload_n 1, 1) := by decide +kernel
theorem dX1_add_61 : decode cX1_add 61 = .ok (.getfield 9, 3) := by decide +kernel
theorem dX1_add_64 : decode cX1_add 64 = .ok (.iload 5, 2) := by decide +kernel
theorem dX1_add_66 : decode cX1_add 66 = .ok (.laload, 1) := by decide +kernel
theorem dX1_add_67 : decode cX1_add 67 = .ok (.goto 4, 3) := by decide +kernel
theorem dX1_add_70 : decode cX1_add 70 = .ok (.lconst 0, 1) := by decide +kernel
theorem dX1_add_71 : decode cX1_add 71 = .ok (.ladd, 1) := by decide +kernel
theorem dX1_add_72 : decode cX1_add 72 = .ok (.lload_n 2, 1) := by decide +kernel
theorem dX1_add_73 : decode cX1_add 73 = .ok (.ladd, 1) := by decide +kernel
theorem dX1_add_74 : decode cX1_add 74 = .ok (.lstore 6, 2) := by decide +kernel
theorem dX1_add_76 : decode cX1_add 76 = .ok (.aload_n 0, 1) := by decide +kernel
theorem dX1_add_77 : decode cX1_add 77 = .ok (.getfield 9, 3) := by decide +kernel
theorem dX1_add_80 : decode cX1_add 80 = .ok (.iload 5, 2) := by decide +kernel
theorem dX1_add_82 : decode cX1_add 82 = .ok (.lload 6, 2) := by decide +kernel
theorem dX1_add_84 : decode cX1_add 84 = .ok (.ldc2_w 17, 3) := by decide +kernel
theorem dX1_add_87 : decode cX1_add 87 = .ok (.land, 1) := by decide +kernel
theorem dX1_add_88 : decode cX1_add 88 = .ok (.lastore, 1) := by decide +kernel
theorem dX1_add_89 : decode cX1_add 89 = .ok (.lload 6, 2) := by decide +kernel
theorem dX1_add_91 : decode cX1_add 91 = .ok (.bipush 30, 2) := by decide +kernel
theorem dX1_add_93 : decode cX1_add 93 = .ok (.lshr, 1) := by decide +kernel
theorem dX1_add_94 : decode cX1_add 94 = .ok (.lstore_n 2, 1) := by decide +kernel
theorem dX1_add_95 : decode cX1_add 95 = .ok (.iinc 5 1, 3) := by decide +kernel
theorem dX1_add_98 : decode cX1_add 98 = .ok (.goto (-74), 3) := by decide +kernel
theorem dX1_add_101 : decode cX1_add 101 = .ok (.aload_n 0, 1) := by decide +kernel
theorem dX1_add_102 : decode cX1_add 102 = .ok (.iload 4, 2) := by decide +kernel
theorem dX1_add_104 : decode cX1_add 104 = .ok (.putfield 13, 3) := by decide +kernel
theorem dX1_add_107 : decode cX1_add 107 = .ok (.lload_n 2, 1) := by decide +kernel
theorem dX1_add_108 : decode cX1_add 108 = .ok (.lconst 0, 1) := by decide +kernel
theorem dX1_add_109 : decode cX1_add 109 = .ok (.lcmp, 1) := by decide +kernel
theorem dX1_add_110 : decode cX1_add 110 = .ok (.ifCond .le 33, 3) := by decide +kernel
theorem dX1_add_113 : decode cX1_add 113 = .ok (.aload_n 0, 1) := by decide +kernel
theorem dX1_add_114 : decode cX1_add 114 = .ok (.getfield 13, 3) := by decide +kernel
theorem dX1_add_117 : decode cX1_add 117 = .ok (.sipush 330, 3) := by decide +kernel
theorem dX1_add_120 : decode cX1_add 120 = .ok (.if_icmp .ge 23, 3) := by decide +kernel
theorem dX1_add_123 : decode cX1_add 123 = .ok (.aload_n 0, 1) := by decide +kernel
theorem dX1_add_124 : decode cX1_add 124 = .ok (.getfield 9, 3) := by decide +kernel
theorem dX1_add_127 : decode cX1_add 127 = .ok (.aload_n 0, 1) := by decide +kernel
theorem dX1_add_128 : decode cX1_add 128 = .ok (.getfield 13, 3) := by decide +kernel
theorem dX1_add_131 : decode cX1_add 131 = .ok (.lload_n 2, 1) := by decide +kernel
theorem dX1_add_132 : decode cX1_add 132 = .ok (.lastore, 1) := by decide +kernel
theorem dX1_add_133 : decode cX1_add 133 = .ok (.aload_n 0, 1) := by decide +kernel
theorem dX1_add_134 : decode cX1_add 134 = .ok (.dup, 1) := by decide +kernel
theorem dX1_add_135 : decode cX1_add 135 = .ok (.getfield 13, 3) := by decide +kernel
theorem dX1_add_138 : decode cX1_add 138 = .ok (.iconst 1, 1) := by decide +kernel
theorem dX1_add_139 : decode cX1_add 139 = .ok (.iadd, 1) := by decide +kernel
theorem dX1_add_140 : decode cX1_add 140 = .ok (.putfield 13, 3) := by decide +kernel
theorem dX1_add_143 : decode cX1_add 143 = .ok (.return_, 1) := by decide +kernel
theorem dX1_isMoreThan_0 : decode cX1_isMoreThan 0 = .ok (.aload_n 0, 1) := by decide +kernel
theorem dX1_isMoreThan_1 : decode cX1_isMoreThan 1 = .ok (.getfield 13, 3) := by decide +kernel
theorem dX1_isMoreThan_4 : decode cX1_isMoreThan 4 = .ok (.aload_n 1, 1) := by decide +kernel
theorem dX1_isMoreThan_5 : decode cX1_isMoreThan 5 = .ok (.getfield 13, 3) := by decide +kernel
theorem dX1_isMoreThan_8 : decode cX1_isMoreThan 8 = .ok (.if_icmp .eq 20, 3) := by decide +kernel
theorem dX1_isMoreThan_11 : decode cX1_isMoreThan 11 = .ok (.aload_n 0, 1) := by decide +kernel
theorem dX1_isMoreThan_12 : decode cX1_isMoreThan 12 = .ok (.getfield 13, 3) := by decide +kernel
theorem dX1_isMoreThan_15 : decode cX1_isMoreThan 15 = .ok (.aload_n 1, 1) := by decide +kernel
theorem dX1_isMoreThan_16 : decode cX1_isMoreThan 16 = .ok (.getfield 13, 3) := by decide +kernel
theorem dX1_isMoreThan_19 : decode cX1_isMoreThan 19 = .ok (.if_icmp .le 7, 3) := by decide +kernel
theorem dX1_isMoreThan_22 : decode cX1_isMoreThan 22 = .ok (.iconst 1, 1) := by decide +kernel
theorem dX1_isMoreThan_23 : decode cX1_isMoreThan 23 = .ok (.goto 4, 3) := by decide +kernel
theorem dX1_isMoreThan_26 : decode cX1_isMoreThan 26 = .ok (.iconst 0, 1) := by decide +kernel
theorem dX1_isMoreThan_27 : decode cX1_isMoreThan 27 = .ok (.ireturn, 1) := by decide +kernel
theorem dX1_isMoreThan_28 : decode cX1_isMoreThan 28 = .ok (.aload_n 0, 1) := by decide +kernel
theorem dX1_isMoreThan_29 : decode cX1_isMoreThan 29 = .ok (.getfield 13, 3) := by decide +kernel
theorem dX1_isMoreThan_32 : decode cX1_isMoreThan 32 = .ok (.sipush 330, 3) := by decide +kernel
theorem dX1_isMoreThan_35 : decode cX1_isMoreThan 35 = .ok (.invokestatic 19, 3) := by decide +kernel
theorem dX1_isMoreThan_38 : decode cX1_isMoreThan 38 = .ok (.iconst 1, 1) := by decide +kernel
theorem dX1_isMoreThan_39 : decode cX1_isMoreThan 39 = .ok (.isub, 1) := by decide +kernel
theorem dX1_isMoreThan_40 : decode cX1_isMoreThan 40 = .ok (.istore_n 2, 1) := by decide +kernel
theorem dX1_isMoreThan_41 : decode cX1_isMoreThan 41 = .ok (.iload_n 2, 1) := by decide +kernel
theorem dX1_isMoreThan_42 : decode cX1_isMoreThan 42 = .ok (.ifCond .lt 47, 3) := by decide +kernel
theorem dX1_isMoreThan_45 : decode cX1_isMoreThan 45 = .ok (.aload_n 0, 1) := by decide +kernel
theorem dX1_isMoreThan_46 : decode cX1_isMoreThan 46 = .ok (.getfield 9, 3) := by decide +kernel
theorem dX1_isMoreThan_49 : decode cX1_isMoreThan 49 = .ok (.iload_n 2, 1) := by decide +kernel
theorem dX1_isMoreThan_50 : decode cX1_isMoreThan 50 = .ok (.laload, 1) := by decide +kernel
theorem dX1_isMoreThan_51 : decode cX1_isMoreThan 51 = .ok (.aload_n 1, 1) := by decide +kernel
theorem dX1_isMoreThan_52 : decode cX1_isMoreThan 52 = .ok (.getfield 9, 3) := by decide +kernel
theorem dX1_isMoreThan_55 : decode cX1_isMoreThan 55 = .ok (.iload_n 2, 1) := by decide +kernel
theorem dX1_isMoreThan_56 : decode cX1_isMoreThan 56 = .ok (.laload, 1) := by decide +kernel
theorem dX1_isMoreThan_57 : decode cX1_isMoreThan 57 = .ok (.lcmp, 1) := by decide +kernel
theorem dX1_isMoreThan_58 : decode cX1_isMoreThan 58 = .ok (.ifCond .eq 25, 3) := by decide +kernel
theorem dX1_isMoreThan_61 : decode cX1_isMoreThan 61 = .ok (.aload_n 0, 1) := by decide +kernel
theorem dX1_isMoreThan_62 : decode cX1_isMoreThan 62 = .ok (.getfield 9, 3) := by decide +kernel
theorem dX1_isMoreThan_65 : decode cX1_isMoreThan 65 = .ok (.iload_n 2, 1) := by decide +kernel
theorem dX1_isMoreThan_66 : decode cX1_isMoreThan 66 = .ok (.laload, 1) := by decide +kernel
theorem dX1_isMoreThan_67 : decode cX1_isMoreThan 67 = .ok (.aload_n 1, 1) := by decide +kernel
theorem dX1_isMoreThan_68 : decode cX1_isMoreThan 68 = .ok (.getfield 9, 3) := by decide +kernel
theorem dX1_isMoreThan_71 : decode cX1_isMoreThan 71 = .ok (.iload_n 2, 1) := by decide +kernel
theorem dX1_isMoreThan_72 : decode cX1_isMoreThan 72 = .ok (.laload, 1) := by decide +kernel
theorem dX1_isMoreThan_73 : decode cX1_isMoreThan 73 = .ok (.lcmp, 1) := by decide +kernel
theorem dX1_isMoreThan_74 : decode cX1_isMoreThan 74 = .ok (.ifCond .le 7, 3) := by decide +kernel
theorem dX1_isMoreThan_77 : decode cX1_isMoreThan 77 = .ok (.iconst 1, 1) := by decide +kernel
theorem dX1_isMoreThan_78 : decode cX1_isMoreThan 78 = .ok (.goto 4, 3) := by decide +kernel
theorem dX1_isMoreThan_81 : decode cX1_isMoreThan 81 = .ok (.iconst 0, 1) := by decide +kernel
theorem dX1_isMoreThan_82 : decode cX1_isMoreThan 82 = .ok (.ireturn, 1) := by decide +kernel
theorem dX1_isMoreThan_83 : decode cX1_isMoreThan 83 = .ok (.iinc 2 (-1), 3) := by decide +kernel
theorem dX1_isMoreThan_86 : decode cX1_isMoreThan 86 = .ok (.goto (-45), 3) := by decide +kernel
theorem dX1_isMoreThan_89 : decode cX1_isMoreThan 89 = .ok (.iconst 0, 1) := by decide +kernel
theorem dX1_isMoreThan_90 : decode cX1_isMoreThan 90 = .ok (.ireturn, 1) := by decide +kernel
theorem dX2_init_0 : decode cX2_init 0 = .ok (.aload_n 0, 1) := by decide +kernel
theorem dX2_init_1 : decode cX2_init 1 = .ok (.invokespecial 3, 3) := by decide +kernel
theorem dX2_init_4 : decode cX2_init 4 = .ok (.aload_n 0, 1) := by decide +kernel
theorem dX2_init_5 : decode cX2_init 5 = .ok (.new 9, 3) := by decide +kernel
theorem dX2_init_8 : decode cX2_init 8 = .ok (.dup, 1) := by decide +kernel
theorem dX2_init_9 : decode cX2_init 9 = .ok (.invokespecial 11, 3) := by decide +kernel
theorem dX2_init_12 : decode cX2_init 12 = .ok (.putfield 12, 3) := by decide +kernel
theorem dX2_init_15 : decode cX2_init 15 = .ok (.aload_n 0, 1) := by decide +kernel
theorem dX2_init_16 : decode cX2_init 16 = .ok (.new 9, 3) := by decide +kernel
theorem dX2_init_19 : decode cX2_init 19 = .ok (.dup, 1) := by decide +kernel
theorem dX2_init_20 : decode cX2_init 20 = .ok (.invokespecial 11, 3) := by decide +kernel
theorem dX2_init_23 : decode cX2_init 23 = .ok (.putfield 18, 3) := by decide +kernel
theorem dX2_init_26 : decode cX2_init 26 = .ok (.aload_n 0, 1) := by decide +kernel
theorem dX2_init_27 : decode cX2_init 27 = .ok (.new 9, 3) := by decide +kernel
theorem dX2_init_30 : decode cX2_init 30 = .ok (.dup, 1) := by decide +kernel
theorem dX2_init_31 : decode cX2_init 31 = .ok (.invokespecial 11, 3) := by decide +kernel
theorem dX2_init_34 : decode cX2_init 34 = .ok (.putfield 21, 3) := by decide +kernel
theorem dX2_init_37 : decode cX2_init 37 = .ok (.aload_n 0, 1) := by decide +kernel
theorem dX2_init_38 : decode cX2_init 38 = .ok (.bipush 12, 2) := by decide +kernel
theorem dX2_init_40 : decode cX2_init 40 = .ok (.newarray .int, 2) := by decide +kernel
theorem dX2_init_42 : decode cX2_init 42 = .ok (.putfield 24, 3) := by decide +kernel
theorem dX2_init_45 : decode cX2_init 45 = .ok (.aload_n 0, 1) := by decide +kernel
theorem dX2_init_46 : decode cX2_init 46 = .ok (.bipush 12, 2) := by decide +kernel
theorem dX2_init_48 : decode cX2_init 48 = .ok (.newarray .int, 2) := by decide +kernel
theorem dX2_init_50 : decode cX2_init 50 = .ok (.putfield 28, 3) := by decide +kernel
theorem dX2_init_53 : decode cX2_init 53 = .ok (.return_, 1) := by decide +kernel
theorem dX2_timesAsLikely_0 : decode cX2_timesAsLikely 0 = .ok (.aload_n 0, 1) := by decide +kernel
theorem dX2_timesAsLikely_1 : decode cX2_timesAsLikely 1 = .ok (.aload_n 1, 1) := by decide +kernel
theorem dX2_timesAsLikely_2 : decode cX2_timesAsLikely 2 = .ok (.iload_n 2, 1) := by decide +kernel
theorem dX2_timesAsLikely_3 : decode cX2_timesAsLikely 3 = .ok (.iload_n 3, 1) := by decide +kernel
theorem dX2_timesAsLikely_4 : decode cX2_timesAsLikely 4 = .ok (.iload 4, 2) := by decide +kernel
theorem dX2_timesAsLikely_6 : decode cX2_timesAsLikely 6 = .ok (.invokevirtual 31, 3) := by decide +kernel
theorem dX2_timesAsLikely_9 : decode cX2_timesAsLikely 9 = .ok (.aload_n 0, 1) := by decide +kernel
theorem dX2_timesAsLikely_10 : decode cX2_timesAsLikely 10 = .ok (.invokevirtual 35, 3) := by decide +kernel
theorem dX2_timesAsLikely_13 : decode cX2_timesAsLikely 13 = .ok (.ireturn, 1) := by decide +kernel
theorem dX2_likeliestHand_0 : decode cX2_likeliestHand 0 = .ok (.iconst 0, 1) := by decide +kernel
theorem dX2_likeliestHand_1 : decode cX2_likeliestHand 1 = .ok (.istore_n 3, 1) := by decide +kernel
theorem dX2_likeliestHand_2 : decode cX2_likeliestHand 2 = .ok (.iconst 1, 1) := by decide +kernel
theorem dX2_likeliestHand_3 : decode cX2_likeliestHand 3 = .ok (.istore 4, 2) := by decide +kernel
theorem dX2_likeliestHand_5 : decode cX2_likeliestHand 5 = .ok (.iload 4, 2) := by decide +kernel
theorem dX2_likeliestHand_7 : decode cX2_likeliestHand 7 = .ok (.aload_n 1, 1) := by decide +kernel
theorem dX2_likeliestHand_8 : decode cX2_likeliestHand 8 = .ok (.getfield 39, 3) := by decide +kernel
theorem dX2_likeliestHand_11 : decode cX2_likeliestHand 11 = .ok (.invokevirtual 45, 3) := by decide +kernel
theorem dX2_likeliestHand_14 : decode cX2_likeliestHand 14 = .ok (.if_icmp .ge 39, 3) := by decide +kernel
theorem dX2_likeliestHand_17 : decode cX2_likeliestHand 17 = .ok (.aload_n 0, 1) := by decide +kernel
theorem dX2_likeliestHand_18 : decode cX2_likeliestHand 18 = .ok (.aload_n 1, 1) := by decide +kernel
theorem dX2_likeliestHand_19 : decode cX2_likeliestHand 19 = .ok (.iload_n 2, 1) := by decide +kernel
theorem dX2_likeliestHand_20 : decode cX2_likeliestHand 20 = .ok (.iload 4, 2) := by decide +kernel
theorem dX2_likeliestHand_22 : decode cX2_likeliestHand 22 = .ok (.iload_n 3, 1) := by decide +kernel
theorem dX2_likeliestHand_23 : decode cX2_likeliestHand 23 = .ok (.invokevirtual 31, 3) := by decide +kernel
theorem dX2_likeliestHand_26 : decode cX2_likeliestHand 26 = .ok (.aload_n 0, 1) := by decide +kernel
theorem dX2_likeliestHand_27 : decode cX2_likeliestHand 27 = .ok (.getfield 12, 3) := by decide +kernel
theorem dX2_likeliestHand_30 : decode cX2_likeliestHand 30 = .ok (.aload_n 0, 1) := by decide +kernel
theorem dX2_likeliestHand_31 : decode cX2_likeliestHand 31 = .ok (.getfield 18, 3) := by decide +kernel
theorem dX2_likeliestHand_34 : decode cX2_likeliestHand 34 = .ok (.invokevirtual 50, 3) := by decide +kernel
theorem dX2_likeliestHand_37 : decode cX2_likeliestHand 37 = .ok (.ifCond .eq 8, 3) := by decide +kernel
theorem dX2_likeliestHand_40 : decode cX2_likeliestHand 40 = .ok (.iload 4, 2) := by decide +kernel
theorem dX2_likeliestHand_42 : decode cX2_likeliestHand 42 = .ok (.goto 4, 3) := by decide +kernel
theorem dX2_likeliestHand_45 : decode cX2_likeliestHand 45 = .ok (.iload_n 3, 1) := by decide +kernel
theorem dX2_likeliestHand_46 : decode cX2_likeliestHand 46 = .ok (.istore_n 3, 1) := by decide +kernel
theorem dX2_likeliestHand_47 : decode cX2_likeliestHand 47 = .ok (.iinc 4 1, 3) := by decide +kernel
theorem dX2_likeliestHand_50 : decode cX2_likeliestHand 50 = .ok (.goto (-45), 3) := by decide +kernel
theorem dX2_likeliestHand_53 : decode cX2_likeliestHand 53 = .ok (.iload_n 3, 1) := by decide +kernel
theorem dX2_likeliestHand_54 : decode cX2_likeliestHand 54 = .ok (.ireturn, 1) := by decide +kernel
theorem dX2_weigh_0 : decode cX2_weigh 0 = .ok (.iconst 0, 1) := by decide +kernel
theorem dX2_weigh_1 : decode cX2_weigh 1 = .ok (.istore 5, 2) := by decide +kernel
theorem dX2_weigh_3 : decode cX2_weigh 3 = .ok (.bipush 6, 2) := by decide +kernel
theorem dX2_weigh_5 : decode cX2_weigh 5 = .ok (.istore 6, 2) := by decide +kernel
theorem dX2_weigh_7 : decode cX2_weigh 7 = .ok (.bipush 6, 2) := by decide +kernel
theorem dX2_weigh_9 : decode cX2_weigh 9 = .ok (.istore 7, 2) := by decide +kernel
theorem dX2_weigh_11 : decode cX2_weigh 11 = .ok (.aload_n 0, 1) := by decide +kernel
theorem dX2_weigh_12 : decode cX2_weigh 12 = .ok (.getfield 12, 3) := by decide +kernel
theorem dX2_weigh_15 : decode cX2_weigh 15 = .ok (.iconst 1, 1) := by decide +kernel
theorem dX2_weigh_16 : decode cX2_weigh 16 = .ok (.invokevirtual 54, 3) := by decide +kernel
theorem dX2_weigh_19 : decode cX2_weigh 19 = .ok (.aload_n 0, 1) := by decide +kernel
theorem dX2_weigh_20 : decode cX2_weigh 20 = .ok (.getfield 18, 3) := by decide +kernel
theorem dX2_weigh_23 : decode cX2_weigh 23 = .ok (.iconst 1, 1) := by decide +kernel
theorem dX2_weigh_24 : decode cX2_weigh 24 = .ok (.invokevirtual 54, 3) := by decide +kernel
theorem dX2_weigh_27 : decode cX2_weigh 27 = .ok (.iconst 0, 1) := by decide +kernel
theorem dX2_weigh_28 : decode cX2_weigh 28 = .ok (.istore 8, 2) := by decide +kernel
theorem dX2_weigh_30 : decode cX2_weigh 30 = .ok (.iload 8, 2) := by decide +kernel
theorem dX2_weigh_32 : decode cX2_weigh 32 = .ok (.bipush 6, 2) := by decide +kernel
theorem dX2_weigh_34 : decode cX2_weigh 34 = .ok (.if_icmp .ge 85, 3) := by decide +kernel
theorem dX2_weigh_37 : decode cX2_weigh 37 = .ok (.aload_n 1, 1) := by decide +kernel
theorem dX2_weigh_38 : decode cX2_weigh 38 = .ok (.getfield 58, 3) := by decide +kernel
theorem dX2_weigh_41 : decode cX2_weigh 41 = .ok (.iload_n 2, 1) := by decide +kernel
theorem dX2_weigh_42 : decode cX2_weigh 42 = .ok (.iload 8, 2) := by decide +kernel
theorem dX2_weigh_44 : decode cX2_weigh 44 = .ok (.invokevirtual 61, 3) := by decide +kernel
theorem dX2_weigh_47 : decode cX2_weigh 47 = .ok (.istore 9, 2) := by decide +kernel
theorem dX2_weigh_49 : decode cX2_weigh 49 = .ok (.aload_n 1, 1) := by decide +kernel
theorem dX2_weigh_50 : decode cX2_weigh 50 = .ok (.getfield 39, 3) := by decide +kernel
theorem dX2_weigh_53 : decode cX2_weigh 53 = .ok (.iload_n 3, 1) := by decide +kernel
theorem dX2_weigh_54 : decode cX2_weigh 54 = .ok (.iconst 2, 1) := by decide +kernel
theorem dX2_weigh_55 : decode cX2_weigh 55 = .ok (.iload 8, 2) := by decide +kernel
theorem dX2_weigh_57 : decode cX2_weigh 57 = .ok (.iadd, 1) := by decide +kernel
theorem dX2_weigh_58 : decode cX2_weigh 58 = .ok (.invokevirtual 61, 3) := by decide +kernel
theorem dX2_weigh_61 : decode cX2_weigh 61 = .ok (.istore 10, 2) := by decide +kernel
theorem dX2_weigh_63 : decode cX2_weigh 63 = .ok (.aload_n 1, 1) := by decide +kernel
theorem dX2_weigh_64 : decode cX2_weigh 64 = .ok (.getfield 39, 3) := by decide +kernel
theorem dX2_weigh_67 : decode cX2_weigh 67 = .ok (.iload 4, 2) := by decide +kernel
theorem dX2_weigh_69 : decode cX2_weigh 69 = .ok (.iconst 2, 1) := by decide +kernel
theorem dX2_weigh_70 : decode cX2_weigh 70 = .ok (.iload 8, 2) := by decide +kernel
theorem dX2_weigh_72 : decode cX2_weigh 72 = .ok (.iadd, 1) := by decide +kernel
theorem dX2_weigh_73 : decode cX2_weigh 73 = .ok (.invokevirtual 61, 3) := by decide +kernel
theorem dX2_weigh_76 : decode cX2_weigh 76 = .ok (.istore 11, 2) := by decide +kernel
theorem dX2_weigh_78 : decode cX2_weigh 78 = .ok (.aload_n 0, 1) := by decide +kernel
theorem dX2_weigh_79 : decode cX2_weigh 79 = .ok (.iload 10, 2) := by decide +kernel
theorem dX2_weigh_81 : decode cX2_weigh 81 = .ok (.iconst 1, 1) := by decide +kernel
theorem dX2_weigh_82 : decode cX2_weigh 82 = .ok (.iadd, 1) := by decide +kernel
theorem dX2_weigh_83 : decode cX2_weigh 83 = .ok (.iload 11, 2) := by decide +kernel
theorem dX2_weigh_85 : decode cX2_weigh 85 = .ok (.iconst 1, 1) := by decide +kernel
theorem dX2_weigh_86 : decode cX2_weigh 86 = .ok (.iadd, 1) := by decide +kernel
theorem dX2_weigh_87 : decode cX2_weigh 87 = .ok (.iload 9, 2) := by decide +kernel
theorem dX2_weigh_89 : decode cX2_weigh 89 = .ok (.invokevirtual 65, 3) := by decide +kernel
theorem dX2_weigh_92 : decode cX2_weigh 92 = .ok (.iload 5, 2) := by decide +kernel
theorem dX2_weigh_94 : decode cX2_weigh 94 = .ok (.iload 9, 2) := by decide +kernel
theorem dX2_weigh_96 : decode cX2_weigh 96 = .ok (.iadd, 1) := by decide +kernel
theorem dX2_weigh_97 : decode cX2_weigh 97 = .ok (.istore 5, 2) := by decide +kernel
theorem dX2_weigh_99 : decode cX2_weigh 99 = .ok (.iload 6, 2) := by decide +kernel
theorem dX2_weigh_101 : decode cX2_weigh 101 = .ok (.iload 10, 2) := by decide +kernel
theorem dX2_weigh_103 : decode cX2_weigh 103 = .ok (.iadd, 1) := by decide +kernel
theorem dX2_weigh_104 : decode cX2_weigh 104 = .ok (.istore 6, 2) := by decide +kernel
theorem dX2_weigh_106 : decode cX2_weigh 106 = .ok (.iload 7, 2) := by decide +kernel
theorem dX2_weigh_108 : decode cX2_weigh 108 = .ok (.iload 11, 2) := by decide +kernel
theorem dX2_weigh_110 : decode cX2_weigh 110 = .ok (.iadd, 1) := by decide +kernel
theorem dX2_weigh_111 : decode cX2_weigh 111 = .ok (.istore 7, 2) := by decide +kernel
theorem dX2_weigh_113 : decode cX2_weigh 113 = .ok (.iinc 8 1, 3) := by decide +kernel
theorem dX2_weigh_116 : decode cX2_weigh 116 = .ok (.goto (-86), 3) := by decide +kernel
theorem dX2_weigh_119 : decode cX2_weigh 119 = .ok (.aload_n 0, 1) := by decide +kernel
theorem dX2_weigh_120 : decode cX2_weigh 120 = .ok (.iload 7, 2) := by decide +kernel
theorem dX2_weigh_122 : decode cX2_weigh 122 = .ok (.iload 6, 2) := by decide +kernel
theorem dX2_weigh_124 : decode cX2_weigh 124 = .ok (.iload 5, 2) := by decide +kernel
theorem dX2_weigh_126 : decode cX2_weigh 126 = .ok (.invokevirtual 65, 3) := by decide +kernel
theorem dX2_weigh_129 : decode cX2_weigh 129 = .ok (.return_, 1) := by decide +kernel
theorem dX2_weighFactor_0 : decode cX2_weighFactor 0 = .ok (.iload_n 1, 1) := by decide +kernel
theorem dX2_weighFactor_1 : decode cX2_weighFactor 1 = .ok (.iload_n 2, 1) := by decide +kernel
theorem dX2_weighFactor_2 : decode cX2_weighFactor 2 = .ok (.invokestatic 69, 3) := by decide +kernel
theorem dX2_weighFactor_5 : decode cX2_weighFactor 5 = .ok (.istore 4, 2) := by decide +kernel
theorem dX2_weighFactor_7 : decode cX2_weighFactor 7 = .ok (.iload 4, 2) := by decide +kernel
theorem dX2_weighFactor_9 : decode cX2_weighFactor 9 = .ok (.ifCond .le 27, 3) := by decide +kernel
theorem dX2_weighFactor_12 : decode cX2_weighFactor 12 = .ok (.aload_n 0, 1) := by decide +kernel
theorem dX2_weighFactor_13 : decode cX2_weighFactor 13 = .ok (.getfield 12, 3) := by decide +kernel
theorem dX2_weighFactor_16 : decode cX2_weighFactor 16 = .ok (.iload_n 1, 1) := by decide +kernel
theorem dX2_weighFactor_17 : decode cX2_weighFactor 17 = .ok (.iload 4, 2) := by decide +kernel
theorem dX2_weighFactor_19 : decode cX2_weighFactor 19 = .ok (.idiv, 1) := by decide +kernel
theorem dX2_weighFactor_20 : decode cX2_weighFactor 20 = .ok (.iload_n 3, 1) := by decide +kernel
theorem dX2_weighFactor_21 : decode cX2_weighFactor 21 = .ok (.invokevirtual 72, 3) := by decide +kernel
theorem dX2_weighFactor_24 : decode cX2_weighFactor 24 = .ok (.aload_n 0, 1) := by decide +kernel
theorem dX2_weighFactor_25 : decode cX2_weighFactor 25 = .ok (.getfield 18, 3) := by decide +kernel
theorem dX2_weighFactor_28 : decode cX2_weighFactor 28 = .ok (.iload_n 2, 1) := by decide +kernel
theorem dX2_weighFactor_29 : decode cX2_weighFactor 29 = .ok (.iload 4, 2) := by decide +kernel
theorem dX2_weighFactor_31 : decode cX2_weighFactor 31 = .ok (.idiv, 1) := by decide +kernel
theorem dX2_weighFactor_32 : decode cX2_weighFactor 32 = .ok (.iload_n 3, 1) := by decide +kernel
theorem dX2_weighFactor_33 : decode cX2_weighFactor 33 = .ok (.invokevirtual 72, 3) := by decide +kernel
theorem dX2_weighFactor_36 : decode cX2_weighFactor 36 = .ok (.return_, 1) := by decide +kernel
theorem dX2_commonFactor_0 : decode cX2_commonFactor 0 = .ok (.iload_n 0, 1) := by decide +kernel
theorem dX2_commonFactor_1 : decode cX2_commonFactor 1 = .ok (.istore_n 2, 1) := by decide +kernel
theorem dX2_commonFactor_2 : decode cX2_commonFactor 2 = .ok (.iload_n 1, 1) := by decide +kernel
theorem dX2_commonFactor_3 : decode cX2_commonFactor 3 = .ok (.istore_n 3, 1) := by decide +kernel
theorem dX2_commonFactor_4 : decode cX2_commonFactor 4 = .ok (.iconst 0, 1) := by decide +kernel
theorem dX2_commonFactor_5 : decode cX2_commonFactor 5 = .ok (.istore 4, 2) := by decide +kernel
theorem dX2_commonFactor_7 : decode cX2_commonFactor 7 = .ok (.iload 4, 2) := by decide +kernel
theorem dX2_commonFactor_9 : decode cX2_commonFactor 9 = .ok (.bipush 64, 2) := by decide +kernel
theorem dX2_commonFactor_11 : decode cX2_commonFactor 11 = .ok (.if_icmp .ge 23, 3) := by decide +kernel
theorem dX2_commonFactor_14 : decode cX2_commonFactor 14 = .ok (.iload_n 3, 1) := by decide +kernel
theorem dX2_commonFactor_15 : decode cX2_commonFactor 15 = .ok (.ifCond .eq 19, 3) := by decide +kernel
theorem dX2_commonFactor_18 : decode cX2_commonFactor 18 = .ok (.iload_n 2, 1) := by decide +kernel
theorem dX2_commonFactor_19 : decode cX2_commonFactor 19 = .ok (.iload_n 3, 1) := by decide +kernel
theorem dX2_commonFactor_20 : decode cX2_commonFactor 20 = .ok (.irem, 1) := by decide +kernel
theorem dX2_commonFactor_21 : decode cX2_commonFactor 21 = .ok (.istore 5, 2) := by decide +kernel
theorem dX2_commonFactor_23 : decode cX2_commonFactor 23 = .ok (.iload_n 3, 1) := by decide +kernel
theorem dX2_commonFactor_24 : decode cX2_commonFactor 24 = .ok (.istore_n 2, 1) := by decide +kernel
theorem dX2_commonFactor_25 : decode cX2_commonFactor 25 = .ok (.iload 5, 2) := by decide +kernel
theorem dX2_commonFactor_27 : decode cX2_commonFactor 27 = .ok (.istore_n 3, 1) := by decide +kernel
theorem dX2_commonFactor_28 : decode cX2_commonFactor 28 = .ok (.iinc 4 1, 3) := by decide +kernel
theorem dX2_commonFactor_31 : decode cX2_commonFactor 31 = .ok (.goto (-24), 3) := by decide +kernel
theorem dX2_commonFactor_34 : decode cX2_commonFactor 34 = .ok (.iload_n 2, 1) := by decide +kernel
theorem dX2_commonFactor_35 : decode cX2_commonFactor 35 = .ok (.ireturn, 1) := by decide +kernel
theorem dX2_topThroughBottom_0 : decode cX2_topThroughBottom 0 = .ok (.iconst 0, 1) := by decide +kernel
theorem dX2_topThroughBottom_1 : decode cX2_topThroughBottom 1 = .ok (.istore_n 1, 1) := by decide +kernel
theorem dX2_topThroughBottom_2 : decode cX2_topThroughBottom 2 = .ok (.ldc 76, 2) := by decide +kernel
theorem dX2_topThroughBottom_4 : decode cX2_topThroughBottom 4 = .ok (.istore_n 2, 1) := by decide +kernel
theorem dX2_topThroughBottom_5 : decode cX2_topThroughBottom 5 = .ok (.iconst 0, 1) := by decide +kernel
theorem dX2_topThroughBottom_6 : decode cX2_topThroughBottom 6 = .ok (.istore_n 3, 1) := by decide +kernel
theorem dX2_topThroughBottom_7 : decode cX2_topThroughBottom 7 = .ok (.iload_n 3, 1) := by decide +kernel
theorem dX2_topThroughBottom_8 : decode cX2_topThroughBottom 8 = .ok (.bipush 32, 2) := by decide +kernel
theorem dX2_topThroughBottom_10 : decode cX2_topThroughBottom 10 = .ok (.if_icmp .ge 69, 3) := by decide +kernel
theorem dX2_topThroughBottom_13 : decode cX2_topThroughBottom 13 = .ok (.iload_n 1, 1) := by decide +kernel
theorem dX2_topThroughBottom_14 : decode cX2_topThroughBottom 14 = .ok (.iload_n 2, 1) := by decide +kernel
theorem dX2_topThroughBottom_15 : decode cX2_topThroughBottom 15 = .ok (.if_icmp .ge 64, 3) := by decide +kernel
theorem dX2_topThroughBottom_18 : decode cX2_topThroughBottom 18 = .ok (.iload_n 1, 1) := by decide +kernel
theorem dX2_topThroughBottom_19 : decode cX2_topThroughBottom 19 = .ok (.iload_n 2, 1) := by decide +kernel
theorem dX2_topThroughBottom_20 : decode cX2_topThroughBottom 20 = .ok (.iadd, 1) := by decide +kernel
theorem dX2_topThroughBottom_21 : decode cX2_topThroughBottom 21 = .ok (.iconst 1, 1) := by decide +kernel
theorem dX2_topThroughBottom_22 : decode cX2_topThroughBottom 22 = .ok (.iadd, 1) := by decide +kernel
theorem dX2_topThroughBottom_23 : decode cX2_topThroughBottom 23 = .ok (.iconst 2, 1) := by decide +kernel
theorem dX2_topThroughBottom_24 : decode cX2_topThroughBottom 24 = .ok (.idiv, 1) := by decide +kernel
theorem dX2_topThroughBottom_25 : decode cX2_topThroughBottom 25 = .ok (.istore 4, 2) := by decide +kernel
theorem dX2_topThroughBottom_27 : decode cX2_topThroughBottom 27 = .ok (.aload_n 0, 1) := by decide +kernel
theorem dX2_topThroughBottom_28 : decode cX2_topThroughBottom 28 = .ok (.getfield 21, 3) := by decide +kernel
theorem dX2_topThroughBottom_31 : decode cX2_topThroughBottom 31 = .ok (.aload_n 0, 1) := by decide +kernel
theorem dX2_topThroughBottom_32 : decode cX2_topThroughBottom 32 = .ok (.getfield 18, 3) := by decide +kernel
theorem dX2_topThroughBottom_35 : decode cX2_topThroughBottom 35 = .ok (.invokevirtual 77, 3) := by decide +kernel
theorem dX2_topThroughBottom_38 : decode cX2_topThroughBottom 38 = .ok (.aload_n 0, 1) := by decide +kernel
theorem dX2_topThroughBottom_39 : decode cX2_topThroughBottom 39 = .ok (.getfield 21, 3) := by decide +kernel
theorem dX2_topThroughBottom_42 : decode cX2_topThroughBottom 42 = .ok (.iload 4, 2) := by decide +kernel
theorem dX2_topThroughBottom_44 : decode cX2_topThroughBottom 44 = .ok (.i2l, 1) := by decide +kernel
theorem dX2_topThroughBottom_45 : decode cX2_topThroughBottom 45 = .ok (.invokevirtual 81, 3) := by decide +kernel
theorem dX2_topThroughBottom_48 : decode cX2_topThroughBottom 48 = .ok (.aload_n 0, 1) := by decide +kernel
theorem dX2_topThroughBottom_49 : decode cX2_topThroughBottom 49 = .ok (.getfield 21, 3) := by decide +kernel
theorem dX2_topThroughBottom_52 : decode cX2_topThroughBottom 52 = .ok (.aload_n 0, 1) := by decide +kernel
theorem dX2_topThroughBottom_53 : decode cX2_topThroughBottom 53 = .ok (.getfield 12, 3) := by decide +kernel
theorem dX2_topThroughBottom_56 : decode cX2_topThroughBottom 56 = .ok (.invokevirtual 50, 3) := by decide +kernel
theorem dX2_topThroughBottom_59 : decode cX2_topThroughBottom 59 = .ok (.ifCond .eq 11, 3) := by decide +kernel
theorem dX2_topThroughBottom_62 : decode cX2_topThroughBottom 62 = .ok (.iload 4, 2) := by decide +kernel
theorem dX2_topThroughBottom_64 : decode cX2_topThroughBottom 64 = .ok (.iconst 1, 1) := by decide +kernel
theorem dX2_topThroughBottom_65 : decode cX2_topThroughBottom 65 = .ok (.isub, 1) := by decide +kernel
theorem dX2_topThroughBottom_66 : decode cX2_topThroughBottom 66 = .ok (.istore_n 2, 1) := by decide +kernel
theorem dX2_topThroughBottom_67 : decode cX2_topThroughBottom 67 = .ok (.goto 6, 3) := by decide +kernel
theorem dX2_topThroughBottom_70 : decode cX2_topThroughBottom 70 = .ok (.iload 4, 2) := by decide +kernel
theorem dX2_topThroughBottom_72 : decode cX2_topThroughBottom 72 = .ok (.istore_n 1, 1) := by decide +kernel
theorem dX2_topThroughBottom_73 : decode cX2_topThroughBottom 73 = .ok (.iinc 3 1, 3) := by decide +kernel
theorem dX2_topThroughBottom_76 : decode cX2_topThroughBottom 76 = .ok (.goto (-69), 3) := by decide +kernel
theorem dX2_topThroughBottom_79 : decode cX2_topThroughBottom 79 = .ok (.iload_n 1, 1) := by decide +kernel
theorem dX2_topThroughBottom_80 : decode cX2_topThroughBottom 80 = .ok (.ireturn, 1) := by decide +kernel
theorem dX2_chanceRead_0 : decode cX2_chanceRead 0 = .ok (.iconst 0, 1) := by decide +kernel
theorem dX2_chanceRead_1 : decode cX2_chanceRead 1 = .ok (.istore 5, 2) := by decide +kernel
theorem dX2_chanceRead_3 : decode cX2_chanceRead 3 = .ok (.iload 5, 2) := by decide +kernel
theorem dX2_chanceRead_5 : decode cX2_chanceRead 5 = .ok (.bipush 12, 2) := by decide +kernel
theorem dX2_chanceRead_7 : decode cX2_chanceRead 7 = .ok (.if_icmp .ge 53, 3) := by decide +kernel
theorem dX2_chanceRead_10 : decode cX2_chanceRead 10 = .ok (.aload_n 2, 1) := by decide +kernel
theorem dX2_chanceRead_11 : decode cX2_chanceRead 11 = .ok (.aload_n 1, 1) := by decide +kernel
theorem dX2_chanceRead_12 : decode cX2_chanceRead 12 = .ok (.iload_n 3, 1) := by decide +kernel
theorem dX2_chanceRead_13 : decode cX2_chanceRead 13 = .ok (.iload 5, 2) := by decide +kernel
theorem dX2_chanceRead_15 : decode cX2_chanceRead 15 = .ok (.invokevirtual 85, 3) := by decide +kernel
theorem dX2_chanceRead_18 : decode cX2_chanceRead 18 = .ok (.aload_n 0, 1) := by decide +kernel
theorem dX2_chanceRead_19 : decode cX2_chanceRead 19 = .ok (.getfield 24, 3) := by decide +kernel
theorem dX2_chanceRead_22 : decode cX2_chanceRead 22 = .ok (.iload 5, 2) := by decide +kernel
theorem dX2_chanceRead_24 : decode cX2_chanceRead 24 = .ok (.aload_n 2, 1) := by decide +kernel
theorem dX2_chanceRead_25 : decode cX2_chanceRead 25 = .ok (.aload_n 1, 1) := by decide +kernel
theorem dX2_chanceRead_26 : decode cX2_chanceRead 26 = .ok (.invokevirtual 91, 3) := by decide +kernel
theorem dX2_chanceRead_29 : decode cX2_chanceRead 29 = .ok (.iconst 1, 1) := by decide +kernel
theorem dX2_chanceRead_30 : decode cX2_chanceRead 30 = .ok (.bipush 50, 2) := by decide +kernel
theorem dX2_chanceRead_32 : decode cX2_chanceRead 32 = .ok (.invokevirtual 95, 3) := by decide +kernel
theorem dX2_chanceRead_35 : decode cX2_chanceRead 35 = .ok (.iastore, 1) := by decide +kernel
theorem dX2_chanceRead_36 : decode cX2_chanceRead 36 = .ok (.aload_n 0, 1) := by decide +kernel
theorem dX2_chanceRead_37 : decode cX2_chanceRead 37 = .ok (.getfield 28, 3) := by decide +kernel
theorem dX2_chanceRead_40 : decode cX2_chanceRead 40 = .ok (.iload 5, 2) := by decide +kernel
theorem dX2_chanceRead_42 : decode cX2_chanceRead 42 = .ok (.aload_n 2, 1) := by decide +kernel
theorem dX2_chanceRead_43 : decode cX2_chanceRead 43 = .ok (.aload_n 1, 1) := by decide +kernel
theorem dX2_chanceRead_44 : decode cX2_chanceRead 44 = .ok (.invokevirtual 91, 3) := by decide +kernel
theorem dX2_chanceRead_47 : decode cX2_chanceRead 47 = .ok (.iconst 2, 1) := by decide +kernel
theorem dX2_chanceRead_48 : decode cX2_chanceRead 48 = .ok (.bipush 50, 2) := by decide +kernel
theorem dX2_chanceRead_50 : decode cX2_chanceRead 50 = .ok (.invokevirtual 95, 3) := by decide +kernel
theorem dX2_chanceRead_53 : decode cX2_chanceRead 53 = .ok (.iastore, 1) := by decide +kernel
theorem dX2_chanceRead_54 : decode cX2_chanceRead 54 = .ok (.iinc 5 1, 3) := by decide +kernel
theorem dX2_chanceRead_57 : decode cX2_chanceRead 57 = .ok (.goto (-54), 3) := by decide +kernel
theorem dX2_chanceRead_60 : decode cX2_chanceRead 60 = .ok (.aload_n 1, 1) := by decide +kernel
theorem dX2_chanceRead_61 : decode cX2_chanceRead 61 = .ok (.iload_n 3, 1) := by decide +kernel
theorem dX2_chanceRead_62 : decode cX2_chanceRead 62 = .ok (.invokevirtual 99, 3) := by decide +kernel
theorem dX2_chanceRead_65 : decode cX2_chanceRead 65 = .ok (.istore 5, 2) := by decide +kernel
theorem dX2_chanceRead_67 : decode cX2_chanceRead 67 = .ok (.aload_n 0, 1) := by decide +kernel
theorem dX2_chanceRead_68 : decode cX2_chanceRead 68 = .ok (.getfield 12, 3) := by decide +kernel
theorem dX2_chanceRead_71 : decode cX2_chanceRead 71 = .ok (.iconst 0, 1) := by decide +kernel
theorem dX2_chanceRead_72 : decode cX2_chanceRead 72 = .ok (.invokevirtual 54, 3) := by decide +kernel
theorem dX2_chanceRead_75 : decode cX2_chanceRead 75 = .ok (.aload_n 0, 1) := by decide +kernel
theorem dX2_chanceRead_76 : decode cX2_chanceRead 76 = .ok (.getfield 18, 3) := by decide +kernel
theorem dX2_chanceRead_79 : decode cX2_chanceRead 79 = .ok (.iconst 0, 1) := by decide +kernel
theorem dX2_chanceRead_80 : decode cX2_chanceRead 80 = .ok (.invokevirtual 54, 3) := by decide +kernel
theorem dX2_chanceRead_83 : decode cX2_chanceRead 83 = .ok (.iconst 1, 1) := by decide +kernel
theorem dX2_chanceRead_84 : decode cX2_chanceRead 84 = .ok (.iload 5, 2) := by decide +kernel
theorem dX2_chanceRead_86 : decode cX2_chanceRead 86 = .ok (.invokestatic 103, 3) := by decide +kernel
theorem dX2_chanceRead_89 : decode cX2_chanceRead 89 = .ok (.iconst 1, 1) := by decide +kernel
theorem dX2_chanceRead_90 : decode cX2_chanceRead 90 = .ok (.iadd, 1) := by decide +kernel
theorem dX2_chanceRead_91 : decode cX2_chanceRead 91 = .ok (.invokestatic 106, 3) := by decide +kernel
theorem dX2_chanceRead_94 : decode cX2_chanceRead 94 = .ok (.istore 6, 2) := by decide +kernel
theorem dX2_chanceRead_96 : decode cX2_chanceRead 96 = .ok (.iload 6, 2) := by decide +kernel
theorem dX2_chanceRead_98 : decode cX2_chanceRead 98 = .ok (.bipush 12, 2) := by decide +kernel
theorem dX2_chanceRead_100 : decode cX2_chanceRead 100 = .ok (.if_icmp .gt 46, 3) := by decide +kernel
theorem dX2_chanceRead_103 : decode cX2_chanceRead 103 = .ok (.aload_n 0, 1) := by decide +kernel
theorem dX2_chanceRead_104 : decode cX2_chanceRead 104 = .ok (.iload 6, 2) := by decide +kernel
theorem dX2_chanceRead_106 : decode cX2_chanceRead 106 = .ok (.iload 5, 2) := by decide +kernel
theorem dX2_chanceRead_108 : decode cX2_chanceRead 108 = .ok (.invokevirtual 111, 3) := by decide +kernel
theorem dX2_chanceRead_111 : decode cX2_chanceRead 111 = .ok (.aload_n 0, 1) := by decide +kernel
theorem dX2_chanceRead_112 : decode cX2_chanceRead 112 = .ok (.getfield 18, 3) := by decide +kernel
theorem dX2_chanceRead_115 : decode cX2_chanceRead 115 = .ok (.aload_n 0, 1) := by decide +kernel
theorem dX2_chanceRead_116 : decode cX2_chanceRead 116 = .ok (.getfield 21, 3) := by decide +kernel
theorem dX2_chanceRead_119 : decode cX2_chanceRead 119 = .ok (.invokevirtual 114, 3) := by decide +kernel
theorem dX2_chanceRead_122 : decode cX2_chanceRead 122 = .ok (.iload 6, 2) := by decide +kernel
theorem dX2_chanceRead_124 : decode cX2_chanceRead 124 = .ok (.iload 4, 2) := by decide +kernel
theorem dX2_chanceRead_126 : decode cX2_chanceRead 126 = .ok (.if_icmp .lt 14, 3) := by decide +kernel
theorem dX2_chanceRead_129 : decode cX2_chanceRead 129 = .ok (.aload_n 0, 1) := by decide +kernel
theorem dX2_chanceRead_130 : decode cX2_chanceRead 130 = .ok (.getfield 12, 3) := by decide +kernel
theorem dX2_chanceRead_133 : decode cX2_chanceRead 133 = .ok (.aload_n 0, 1) := by decide +kernel
theorem dX2_chanceRead_134 : decode cX2_chanceRead 134 = .ok (.getfield 21, 3) := by decide +kernel
theorem dX2_chanceRead_137 : decode cX2_chanceRead 137 = .ok (.invokevirtual 114, 3) := by decide +kernel
theorem dX2_chanceRead_140 : decode cX2_chanceRead 140 = .ok (.iinc 6 1, 3) := by decide +kernel
theorem dX2_chanceRead_143 : decode cX2_chanceRead 143 = .ok (.goto (-47), 3) := by decide +kernel
theorem dX2_chanceRead_146 : decode cX2_chanceRead 146 = .ok (.aload_n 0, 1) := by decide +kernel
theorem dX2_chanceRead_147 : decode cX2_chanceRead 147 = .ok (.getfield 18, 3) := by decide +kernel
theorem dX2_chanceRead_150 : decode cX2_chanceRead 150 = .ok (.invokevirtual 117, 3) := by decide +kernel
theorem dX2_chanceRead_153 : decode cX2_chanceRead 153 = .ok (.ifCond .eq 5, 3) := by decide +kernel
theorem dX2_chanceRead_156 : decode cX2_chanceRead 156 = .ok (.iconst (-1), 1) := by decide +kernel
theorem dX2_chanceRead_157 : decode cX2_chanceRead 157 = .ok (.ireturn, 1) := by decide +kernel
theorem dX2_chanceRead_158 : decode cX2_chanceRead 158 = .ok (.aload_n 0, 1) := by decide +kernel
theorem dX2_chanceRead_159 : decode cX2_chanceRead 159 = .ok (.getfield 12, 3) := by decide +kernel
theorem dX2_chanceRead_162 : decode cX2_chanceRead 162 = .ok (.ldc2_w 121, 3) := by decide +kernel
theorem dX2_chanceRead_165 : decode cX2_chanceRead 165 = .ok (.invokevirtual 81, 3) := by decide +kernel
theorem dX2_chanceRead_168 : decode cX2_chanceRead 168 = .ok (.aload_n 0, 1) := by decide +kernel
theorem dX2_chanceRead_169 : decode cX2_chanceRead 169 = .ok (.invokevirtual 35, 3) := by decide +kernel
theorem dX2_chanceRead_172 : decode cX2_chanceRead 172 = .ok (.ireturn, 1) := by decide +kernel
theorem dX2_weighRead_0 : decode cX2_weighRead 0 = .ok (.aload_n 0, 1) := by decide +kernel
theorem dX2_weighRead_1 : decode cX2_weighRead 1 = .ok (.getfield 21, 3) := by decide +kernel
theorem dX2_weighRead_4 : decode cX2_weighRead 4 = .ok (.iconst 1, 1) := by decide +kernel
theorem dX2_weighRead_5 : decode cX2_weighRead 5 = .ok (.invokevirtual 54, 3) := by decide +kernel
theorem dX2_weighRead_8 : decode cX2_weighRead 8 = .ok (.iconst 0, 1) := by decide +kernel
theorem dX2_weighRead_9 : decode cX2_weighRead 9 = .ok (.istore_n 3, 1) := by decide +kernel
theorem dX2_weighRead_10 : decode cX2_weighRead 10 = .ok (.iload_n 3, 1) := by decide +kernel
theorem dX2_weighRead_11 : decode cX2_weighRead 11 = .ok (.bipush 12, 2) := by decide +kernel
theorem dX2_weighRead_13 : decode cX2_weighRead 13 = .ok (.if_icmp .ge 121, 3) := by decide +kernel
theorem dX2_weighRead_16 : decode cX2_weighRead 16 = .ok (.iload_n 2, 1) := by decide +kernel
theorem dX2_weighRead_17 : decode cX2_weighRead 17 = .ok (.iload_n 3, 1) := by decide +kernel
theorem dX2_weighRead_18 : decode cX2_weighRead 18 = .ok (.ishr, 1) := by decide +kernel
theorem dX2_weighRead_19 : decode cX2_weighRead 19 = .ok (.iconst 1, 1) := by decide +kernel
theorem dX2_weighRead_20 : decode cX2_weighRead 20 = .ok (.iand, 1) := by decide +kernel
theorem dX2_weighRead_21 : decode cX2_weighRead 21 = .ok (.iconst 1, 1) := by decide +kernel
theorem dX2_weighRead_22 : decode cX2_weighRead 22 = .ok (.if_icmp .ne 7, 3) := by decide +kernel
theorem dX2_weighRead_25 : decode cX2_weighRead 25 = .ok (.iconst 1, 1) := by decide +kernel
theorem dX2_weighRead_26 : decode cX2_weighRead 26 = .ok (.goto 4, 3) := by decide +kernel
theorem dX2_weighRead_29 : decode cX2_weighRead 29 = .ok (.iconst 0, 1) := by decide +kernel
theorem dX2_weighRead_30 : decode cX2_weighRead 30 = .ok (.istore 4, 2) := by decide +kernel
theorem dX2_weighRead_32 : decode cX2_weighRead 32 = .ok (.iload 4, 2) := by decide +kernel
theorem dX2_weighRead_34 : decode cX2_weighRead 34 = .ok (.ifCond .eq 12, 3) := by decide +kernel
theorem dX2_weighRead_37 : decode cX2_weighRead 37 = .ok (.aload_n 0, 1) := by decide +kernel
theorem dX2_weighRead_38 : decode cX2_weighRead 38 = .ok (.getfield 28, 3) := by decide +kernel
theorem dX2_weighRead_41 : decode cX2_weighRead 41 = .ok (.iload_n 3, 1) := by decide +kernel
theorem dX2_weighRead_42 : decode cX2_weighRead 42 = .ok (.iaload, 1) := by decide +kernel
theorem dX2_weighRead_43 : decode cX2_weighRead 43 = .ok (.goto 12, 3) := by decide +kernel
theorem dX2_weighRead_46 : decode cX2_weighRead 46 = .ok (.bipush 100, 2) := by decide +kernel
theorem dX2_weighRead_48 : decode cX2_weighRead 48 = .ok (.aload_n 0, 1) := by decide +kernel
theorem dX2_weighRead_49 : decode cX2_weighRead 49 = .ok (.getfield 28, 3) := by decide +kernel
theorem dX2_weighRead_52 : decode cX2_weighRead 52 = .ok (.iload_n 3, 1) := by decide +kernel
theorem dX2_weighRead_53 : decode cX2_weighRead 53 = .ok (.iaload, 1) := by decide +kernel
theorem dX2_weighRead_54 : decode cX2_weighRead 54 = .ok (.isub, 1) := by decide +kernel
theorem dX2_weighRead_55 : decode cX2_weighRead 55 = .ok (.istore 5, 2) := by decide +kernel
theorem dX2_weighRead_57 : decode cX2_weighRead 57 = .ok (.aload_n 0, 1) := by decide +kernel
theorem dX2_weighRead_58 : decode cX2_weighRead 58 = .ok (.getfield 21, 3) := by decide +kernel
theorem dX2_weighRead_61 : decode cX2_weighRead 61 = .ok (.iload_n 3, 1) := by decide +kernel
theorem dX2_weighRead_62 : decode cX2_weighRead 62 = .ok (.iload_n 1, 1) := by decide +kernel
theorem dX2_weighRead_63 : decode cX2_weighRead 63 = .ok (.if_icmp .ge 9, 3) := by decide +kernel
theorem dX2_weighRead_66 : decode cX2_weighRead 66 = .ok (.iload 5, 2) := by decide +kernel
theorem dX2_weighRead_68 : decode cX2_weighRead 68 = .ok (.i2l, 1) := by decide +kernel
theorem dX2_weighRead_69 : decode cX2_weighRead 69 = .ok (.goto 6, 3) := by decide +kernel
theorem dX2_weighRead_72 : decode cX2_weighRead 72 = .ok (.ldc2_w 123, 3) := by decide +kernel
theorem dX2_weighRead_75 : decode cX2_weighRead 75 = .ok (.invokevirtual 81, 3) := by decide +kernel
theorem dX2_weighRead_78 : decode cX2_weighRead 78 = .ok (.iload_n 3, 1) := by decide +kernel
theorem dX2_weighRead_79 : decode cX2_weighRead 79 = .ok (.ifCond .le 49, 3) := by decide +kernel
theorem dX2_weighRead_82 : decode cX2_weighRead 82 = .ok (.iload_n 3, 1) := by decide +kernel
theorem dX2_weighRead_83 : decode cX2_weighRead 83 = .ok (.iload_n 1, 1) := by decide +kernel
theorem dX2_weighRead_84 : decode cX2_weighRead 84 = .ok (.if_icmp .ne 15, 3) := by decide +kernel
theorem dX2_weighRead_87 : decode cX2_weighRead 87 = .ok (.bipush 100, 2) := by decide +kernel
theorem dX2_weighRead_89 : decode cX2_weighRead 89 = .ok (.aload_n 0, 1) := by decide +kernel
theorem dX2_weighRead_90 : decode cX2_weighRead 90 = .ok (.getfield 24, 3) := by decide +kernel
theorem dX2_weighRead_93 : decode cX2_weighRead 93 = .ok (.iload_n 3, 1) := by decide +kernel
theorem dX2_weighRead_94 : decode cX2_weighRead 94 = .ok (.iaload, 1) := by decide +kernel
theorem dX2_weighRead_95 : decode cX2_weighRead 95 = .ok (.isub, 1) := by decide +kernel
theorem dX2_weighRead_96 : decode cX2_weighRead 96 = .ok (.goto 5, 3) := by decide +kernel
theorem dX2_weighRead_99 : decode cX2_weighRead 99 = .ok (.bipush 100, 2) := by decide +kernel
theorem dX2_weighRead_101 : decode cX2_weighRead 101 = .ok (.istore 6, 2) := by decide +kernel
theorem dX2_weighRead_103 : decode cX2_weighRead 103 = .ok (.aload_n 0, 1) := by decide +kernel
theorem dX2_weighRead_104 : decode cX2_weighRead 104 = .ok (.getfield 21, 3) := by decide +kernel
theorem dX2_weighRead_107 : decode cX2_weighRead 107 = .ok (.iload_n 3, 1) := by decide +kernel
theorem dX2_weighRead_108 : decode cX2_weighRead 108 = .ok (.iload_n 1, 1) := by decide +kernel
theorem dX2_weighRead_109 : decode cX2_weighRead 109 = .ok (.if_icmp .ge 13, 3) := by decide +kernel
theorem dX2_weighRead_112 : decode cX2_weighRead 112 = .ok (.aload_n 0, 1) := by decide +kernel
theorem dX2_weighRead_113 : decode cX2_weighRead 113 = .ok (.getfield 24, 3) := by decide +kernel
theorem dX2_weighRead_116 : decode cX2_weighRead 116 = .ok (.iload_n 3, 1) := by decide +kernel
theorem dX2_weighRead_117 : decode cX2_weighRead 117 = .ok (.iaload, 1) := by decide +kernel
theorem dX2_weighRead_118 : decode cX2_weighRead 118 = .ok (.i2l, 1) := by decide +kernel
theorem dX2_weighRead_119 : decode cX2_weighRead 119 = .ok (.goto 6, 3) := by decide +kernel
theorem dX2_weighRead_122 : decode cX2_weighRead 122 = .ok (.iload 6, 2) := by decide +kernel
theorem dX2_weighRead_124 : decode cX2_weighRead 124 = .ok (.i2l, 1) := by decide +kernel
theorem dX2_weighRead_125 : decode cX2_weighRead 125 = .ok (.invokevirtual 81, 3) := by decide +kernel
theorem dX2_weighRead_128 : decode cX2_weighRead 128 = .ok (.iinc 3 1, 3) := by decide +kernel
theorem dX2_weighRead_131 : decode cX2_weighRead 131 = .ok (.goto (-121), 3) := by decide +kernel
theorem dX2_weighRead_134 : decode cX2_weighRead 134 = .ok (.return_, 1) := by decide +kernel
theorem dX3_init_0 : decode cX3_init 0 = .ok (.aload_n 0, 1) := by decide +kernel
theorem dX3_init_1 : decode cX3_init 1 = .ok (.invokespecial 3, 3) := by decide +kernel
theorem dX3_init_4 : decode cX3_init 4 = .ok (.aload_n 0, 1) := by decide +kernel
theorem dX3_init_5 : decode cX3_init 5 = .ok (.sipush 400, 3) := by decide +kernel
theorem dX3_init_8 : decode cX3_init 8 = .ok (.newarray .int, 2) := by decide +kernel
theorem dX3_init_10 : decode cX3_init 10 = .ok (.putfield 11, 3) := by decide +kernel
theorem dX3_init_13 : decode cX3_init 13 = .ok (.aload_n 0, 1) := by decide +kernel
theorem dX3_init_14 : decode cX3_init 14 = .ok (.iconst (-1), 1) := by decide +kernel
theorem dX3_init_15 : decode cX3_init 15 = .ok (.putfield 15, 3) := by decide +kernel
theorem dX3_init_18 : decode cX3_init 18 = .ok (.aload_n 0, 1) := by decide +kernel
theorem dX3_init_19 : decode cX3_init 19 = .ok (.aload_n 1, 1) := by decide +kernel
theorem dX3_init_20 : decode cX3_init 20 = .ok (.putfield 19, 3) := by decide +kernel
theorem dX3_init_23 : decode cX3_init 23 = .ok (.return_, 1) := by decide +kernel
theorem dX3_faultPlace_0 : decode cX3_faultPlace 0 = .ok (.aload_n 0, 1) := by decide +kernel
theorem dX3_faultPlace_1 : decode cX3_faultPlace 1 = .ok (.getfield 15, 3) := by decide +kernel
theorem dX3_faultPlace_4 : decode cX3_faultPlace 4 = .ok (.ireturn, 1) := by decide +kernel
theorem dX3_compile_0 : decode cX3_compile 0 = .ok (.aload_n 0, 1) := by decide +kernel
theorem dX3_compile_1 : decode cX3_compile 1 = .ok (.iconst 0, 1) := by decide +kernel
theorem dX3_compile_2 : decode cX3_compile 2 = .ok (.putfield 23, 3) := by decide +kernel
theorem dX3_compile_5 : decode cX3_compile 5 = .ok (.aload_n 0, 1) := by decide +kernel
theorem dX3_compile_6 : decode cX3_compile 6 = .ok (.iconst 0, 1) := by decide +kernel
theorem dX3_compile_7 : decode cX3_compile 7 = .ok (.putfield 26, 3) := by decide +kernel
theorem dX3_compile_10 : decode cX3_compile 10 = .ok (.aload_n 0, 1) := by decide +kernel
theorem dX3_compile_11 : decode cX3_compile 11 = .ok (.iconst 0, 1) := by decide +kernel
theorem dX3_compile_12 : decode cX3_compile 12 = .ok (.putfield 29, 3) := by decide +kernel
theorem dX3_compile_15 : decode cX3_compile 15 = .ok (.aload_n 0, 1) := by decide +kernel
theorem dX3_compile_16 : decode cX3_compile 16 = .ok (.iconst (-1), 1) := by decide +kernel
theorem dX3_compile_17 : decode cX3_compile 17 = .ok (.putfield 15, 3) := by decide +kernel
theorem dX3_compile_20 : decode cX3_compile 20 = .ok (.aload_n 0, 1) := by decide +kernel
theorem dX3_compile_21 : decode cX3_compile 21 = .ok (.invokevirtual 32, 3) := by decide +kernel
theorem dX3_compile_24 : decode cX3_compile 24 = .ok (.iconst 0, 1) := by decide +kernel
theorem dX3_compile_25 : decode cX3_compile 25 = .ok (.istore_n 1, 1) := by decide +kernel
theorem dX3_compile_26 : decode cX3_compile 26 = .ok (.iload_n 1, 1) := by decide +kernel
theorem dX3_compile_27 : decode cX3_compile 27 = .ok (.bipush 12, 2) := by decide +kernel
theorem dX3_compile_29 : decode cX3_compile 29 = .ok (.if_icmp .gt 73, 3) := by decide +kernel
theorem dX3_compile_32 : decode cX3_compile 32 = .ok (.iload_n 1, 1) := by decide +kernel
theorem dX3_compile_33 : decode cX3_compile 33 = .ok (.bipush 12, 2) := by decide +kernel
theorem dX3_compile_35 : decode cX3_compile 35 = .ok (.if_icmp .ne 8, 3) := by decide +kernel
theorem dX3_compile_38 : decode cX3_compile 38 = .ok (.aload_n 0, 1) := by decide +kernel
theorem dX3_compile_39 : decode cX3_compile 39 = .ok (.invokevirtual 35, 3) := by decide +kernel
theorem dX3_compile_42 : decode cX3_compile 42 = .ok (.pop, 1) := by decide +kernel
theorem dX3_compile_43 : decode cX3_compile 43 = .ok (.aload_n 0, 1) := by decide +kernel
theorem dX3_compile_44 : decode cX3_compile 44 = .ok (.getfield 15, 3) := by decide +kernel
theorem dX3_compile_47 : decode cX3_compile 47 = .ok (.iconst (-1), 1) := by decide +kernel
theorem dX3_compile_48 : decode cX3_compile 48 = .ok (.if_icmp .ne 10, 3) := by decide +kernel
theorem dX3_compile_51 : decode cX3_compile 51 = .ok (.aload_n 0, 1) := by decide +kernel
theorem dX3_compile_52 : decode cX3_compile 52 = .ok (.invokevirtual 39, 3) := by decide +kernel
theorem dX3_compile_55 : decode cX3_compile 55 = .ok (.ifCond .ne 5, 3) := by decide +kernel
theorem dX3_compile_58 : decode cX3_compile 58 = .ok (.aconst_null, 1) := by decide +kernel
theorem dX3_compile_59 : decode cX3_compile 59 = .ok (.areturn, 1) := by decide +kernel
theorem dX3_compile_60 : decode cX3_compile 60 = .ok (.aload_n 0, 1) := by decide +kernel
theorem dX3_compile_61 : decode cX3_compile 61 = .ok (.getfield 42, 3) := by decide +kernel
theorem dX3_compile_64 : decode cX3_compile 64 = .ok (.bipush 22, 2) := by decide +kernel
theorem dX3_compile_66 : decode cX3_compile 66 = .ok (.if_icmp .ne 19, 3) := by decide +kernel
theorem dX3_compile_69 : decode cX3_compile 69 = .ok (.new 45, 3) := by decide +kernel
theorem dX3_compile_72 : decode cX3_compile 72 = .ok (.dup, 1) := by decide +kernel
theorem dX3_compile_73 : decode cX3_compile 73 = .ok (.aload_n 0, 1) := by decide +kernel
theorem dX3_compile_74 : decode cX3_compile 74 = .ok (.getfield 11, 3) := by decide +kernel
theorem dX3_compile_77 : decode cX3_compile 77 = .ok (.aload_n 0, 1) := by decide +kernel
theorem dX3_compile_78 : decode cX3_compile 78 = .ok (.getfield 23, 3) := by decide +kernel
theorem dX3_compile_81 : decode cX3_compile 81 = .ok (.invokespecial 47, 3) := by decide +kernel
theorem dX3_compile_84 : decode cX3_compile 84 = .ok (.areturn, 1) := by decide +kernel
theorem dX3_compile_85 : decode cX3_compile 85 = .ok (.aload_n 0, 1) := by decide +kernel
theorem dX3_compile_86 : decode cX3_compile 86 = .ok (.bipush 59, 2) := by decide +kernel
theorem dX3_compile_88 : decode cX3_compile 88 = .ok (.invokevirtual 50, 3) := by decide +kernel
theorem dX3_compile_91 : decode cX3_compile 91 = .ok (.ifCond .ne 5, 3) := by decide +kernel
theorem dX3_compile_94 : decode cX3_compile 94 = .ok (.aconst_null, 1) := by decide +kernel
theorem dX3_compile_95 : decode cX3_compile 95 = .ok (.areturn, 1) := by decide +kernel
theorem dX3_compile_96 : decode cX3_compile 96 = .ok (.iinc 1 1, 3) := by decide +kernel
theorem dX3_compile_99 : decode cX3_compile 99 = .ok (.goto (-73), 3) := by decide +kernel
theorem dX3_compile_102 : decode cX3_compile 102 = .ok (.aconst_null, 1) := by decide +kernel
theorem dX3_compile_103 : decode cX3_compile 103 = .ok (.areturn, 1) := by decide +kernel
theorem dX3_fail_0 : decode cX3_fail 0 = .ok (.aload_n 0, 1) := by decide +kernel
theorem dX3_fail_1 : decode cX3_fail 1 = .ok (.aload_n 0, 1) := by decide +kernel
theorem dX3_fail_2 : decode cX3_fail 2 = .ok (.getfield 54, 3) := by decide +kernel
theorem dX3_fail_5 : decode cX3_fail 5 = .ok (.putfield 15, 3) := by decide +kernel
theorem dX3_fail_8 : decode cX3_fail 8 = .ok (.iconst 0, 1) := by decide +kernel
theorem dX3_fail_9 : decode cX3_fail 9 = .ok (.ireturn, 1) := by decide +kernel
theorem dX3_readClause_0 : decode cX3_readClause 0 = .ok (.aload_n 0, 1) := by decide +kernel
theorem dX3_readClause_1 : decode cX3_readClause 1 = .ok (.getfield 42, 3) := by decide +kernel
theorem dX3_readClause_4 : decode cX3_readClause 4 = .ok (.ifCond .lt 12, 3) := by decide +kernel
theorem dX3_readClause_7 : decode cX3_readClause 7 = .ok (.aload_n 0, 1) := by decide +kernel
theorem dX3_readClause_8 : decode cX3_readClause 8 = .ok (.getfield 42, 3) := by decide +kernel
theorem dX3_readClause_11 : decode cX3_readClause 11 = .ok (.bipush 6, 2) := by decide +kernel
theorem dX3_readClause_13 : decode cX3_readClause 13 = .ok (.if_icmp .le 8, 3) := by decide +kernel
theorem dX3_readClause_16 : decode cX3_readClause 16 = .ok (.aload_n 0, 1) := by decide +kernel
theorem dX3_readClause_17 : decode cX3_readClause 17 = .ok (.invokevirtual 35, 3) := by decide +kernel
theorem dX3_readClause_20 : decode cX3_readClause 20 = .ok (.ireturn, 1) := by decide +kernel
theorem dX3_readClause_21 : decode cX3_readClause 21 = .ok (.aload_n 0, 1) := by decide +kernel
theorem dX3_readClause_22 : decode cX3_readClause 22 = .ok (.getfield 42, 3) := by decide +kernel
theorem dX3_readClause_25 : decode cX3_readClause 25 = .ok (.istore_n 1, 1) := by decide +kernel
theorem dX3_readClause_26 : decode cX3_readClause 26 = .ok (.aload_n 0, 1) := by decide +kernel
theorem dX3_readClause_27 : decode cX3_readClause 27 = .ok (.getfield 23, 3) := by decide +kernel
theorem dX3_readClause_30 : decode cX3_readClause 30 = .ok (.istore_n 2, 1) := by decide +kernel
theorem dX3_readClause_31 : decode cX3_readClause 31 = .ok (.aload_n 0, 1) := by decide +kernel
theorem dX3_readClause_32 : decode cX3_readClause 32 = .ok (.iload_n 1, 1) := by decide +kernel
theorem dX3_readClause_33 : decode cX3_readClause 33 = .ok (.invokevirtual 57, 3) := by decide +kernel
theorem dX3_readClause_36 : decode cX3_readClause 36 = .ok (.aload_n 0, 1) := by decide +kernel
theorem dX3_readClause_37 : decode cX3_readClause 37 = .ok (.iconst 0, 1) := by decide +kernel
theorem dX3_readClause_38 : decode cX3_readClause 38 = .ok (.invokevirtual 57, 3) := by decide +kernel
theorem dX3_readClause_41 : decode cX3_readClause 41 = .ok (.aload_n 0, 1) := by decide +kernel
theorem dX3_readClause_42 : decode cX3_readClause 42 = .ok (.iconst 0, 1) := by decide +kernel
theorem dX3_readClause_43 : decode cX3_readClause 43 = .ok (.invokevirtual 57, 3) := by decide +kernel
theorem dX3_readClause_46 : decode cX3_readClause 46 = .ok (.aload_n 0, 1) := by decide +kernel
theorem dX3_readClause_47 : decode cX3_readClause 47 = .ok (.invokevirtual 32, 3) := by decide +kernel
theorem dX3_readClause_50 : decode cX3_readClause 50 = .ok (.iload_n 1, 1) := by decide +kernel
theorem dX3_readClause_51 : decode cX3_readClause 51 = .ok (.iconst 5, 1) := by decide +kernel
theorem dX3_readClause_52 : decode cX3_readClause 52 = .ok (.if_icmp .ge 13, 3) := by decide +kernel
theorem dX3_readClause_55 : decode cX3_readClause 55 = .ok (.aload_n 0, 1) := by decide +kernel
theorem dX3_readClause_56 : decode cX3_readClause 56 = .ok (.iconst 0, 1) := by decide +kernel
theorem dX3_readClause_57 : decode cX3_readClause 57 = .ok (.invokevirtual 61, 3) := by decide +kernel
theorem dX3_readClause_60 : decode cX3_readClause 60 = .ok (.ifCond .ne 5, 3) := by decide +kernel
theorem dX3_readClause_63 : decode cX3_readClause 63 = .ok (.iconst 0, 1) := by decide +kernel
theorem dX3_readClause_64 : decode cX3_readClause 64 = .ok (.ireturn, 1) := by decide +kernel
theorem dX3_readClause_65 : decode cX3_readClause 65 = .ok (.aload_n 0, 1) := by decide +kernel
theorem dX3_readClause_66 : decode cX3_readClause 66 = .ok (.iload_n 2, 1) := by decide +kernel
theorem dX3_readClause_67 : decode cX3_readClause 67 = .ok (.iconst 1, 1) := by decide +kernel
theorem dX3_readClause_68 : decode cX3_readClause 68 = .ok (.iadd, 1) := by decide +kernel
theorem dX3_readClause_69 : decode cX3_readClause 69 = .ok (.invokevirtual 64, 3) := by decide +kernel
theorem dX3_readClause_72 : decode cX3_readClause 72 = .ok (.aload_n 0, 1) := by decide +kernel
theorem dX3_readClause_73 : decode cX3_readClause 73 = .ok (.getfield 42, 3) := by decide +kernel
theorem dX3_readClause_76 : decode cX3_readClause 76 = .ok (.bipush 7, 2) := by decide +kernel
theorem dX3_readClause_78 : decode cX3_readClause 78 = .ok (.if_icmp .ne 17, 3) := by decide +kernel
theorem dX3_readClause_81 : decode cX3_readClause 81 = .ok (.aload_n 0, 1) := by decide +kernel
theorem dX3_readClause_82 : decode cX3_readClause 82 = .ok (.invokevirtual 32, 3) := by decide +kernel
theorem dX3_readClause_85 : decode cX3_readClause 85 = .ok (.aload_n 0, 1) := by decide +kernel
theorem dX3_readClause_86 : decode cX3_readClause 86 = .ok (.iconst 0, 1) := by decide +kernel
theorem dX3_readClause_87 : decode cX3_readClause 87 = .ok (.invokevirtual 67, 3) := by decide +kernel
theorem dX3_readClause_90 : decode cX3_readClause 90 = .ok (.ifCond .ne 5, 3) := by decide +kernel
theorem dX3_readClause_93 : decode cX3_readClause 93 = .ok (.iconst 0, 1) := by decide +kernel
theorem dX3_readClause_94 : decode cX3_readClause 94 = .ok (.ireturn, 1) := by decide +kernel
theorem dX3_readClause_95 : decode cX3_readClause 95 = .ok (.aload_n 0, 1) := by decide +kernel
theorem dX3_readClause_96 : decode cX3_readClause 96 = .ok (.iload_n 2, 1) := by decide +kernel
theorem dX3_readClause_97 : decode cX3_readClause 97 = .ok (.iconst 2, 1) := by decide +kernel
theorem dX3_readClause_98 : decode cX3_readClause 98 = .ok (.iadd, 1) := by decide +kernel
theorem dX3_readClause_99 : decode cX3_readClause 99 = .ok (.invokevirtual 64, 3) := by decide +kernel
theorem dX3_readClause_102 : decode cX3_readClause 102 = .ok (.iconst 1, 1) := by decide +kernel
theorem dX3_readClause_103 : decode cX3_readClause 103 = .ok (.ireturn, 1) := by decide +kernel
theorem dX3_readTest_0 : decode cX3_readTest 0 = .ok (.aload_n 0, 1) := by decide +kernel
theorem dX3_readTest_1 : decode cX3_readTest 1 = .ok (.iload_n 1, 1) := by decide +kernel
theorem dX3_readTest_2 : decode cX3_readTest 2 = .ok (.invokevirtual 70, 3) := by decide +kernel
theorem dX3_readTest_5 : decode cX3_readTest 5 = .ok (.ifCond .ne 5, 3) := by decide +kernel
theorem dX3_readTest_8 : decode cX3_readTest 8 = .ok (.iconst 0, 1) := by decide +kernel
theorem dX3_readTest_9 : decode cX3_readTest 9 = .ok (.ireturn, 1) := by decide +kernel
theorem dX3_readTest_10 : decode cX3_readTest 10 = .ok (.iconst 0, 1) := by decide +kernel
theorem dX3_readTest_11 : decode cX3_readTest 11 = .ok (.istore_n 2, 1) := by decide +kernel
theorem dX3_readTest_12 : decode cX3_readTest 12 = .ok (.iload_n 2, 1) := by decide +kernel
theorem dX3_readTest_13 : decode cX3_readTest 13 = .ok (.sipush 400, 3) := by decide +kernel
theorem dX3_readTest_16 : decode cX3_readTest 16 = .ok (.if_icmp .ge 43, 3) := by decide +kernel
theorem dX3_readTest_19 : decode cX3_readTest 19 = .ok (.aload_n 0, 1) := by decide +kernel
theorem dX3_readTest_20 : decode cX3_readTest 20 = .ok (.getfield 42, 3) := by decide +kernel
theorem dX3_readTest_23 : decode cX3_readTest 23 = .ok (.bipush 8, 2) := by decide +kernel
theorem dX3_readTest_25 : decode cX3_readTest 25 = .ok (.if_icmp .ne 34, 3) := by decide +kernel
theorem dX3_readTest_28 : decode cX3_readTest 28 = .ok (.aload_n 0, 1) := by decide +kernel
theorem dX3_readTest_29 : decode cX3_readTest 29 = .ok (.iconst 2, 1) := by decide +kernel
theorem dX3_readTest_30 : decode cX3_readTest 30 = .ok (.invokevirtual 73, 3) := by decide +kernel
theorem dX3_readTest_33 : decode cX3_readTest 33 = .ok (.istore_n 3, 1) := by decide +kernel
theorem dX3_readTest_34 : decode cX3_readTest 34 = .ok (.aload_n 0, 1) := by decide +kernel
theorem dX3_readTest_35 : decode cX3_readTest 35 = .ok (.invokevirtual 32, 3) := by decide +kernel
theorem dX3_readTest_38 : decode cX3_readTest 38 = .ok (.aload_n 0, 1) := by decide +kernel
theorem dX3_readTest_39 : decode cX3_readTest 39 = .ok (.iload_n 1, 1) := by decide +kernel
theorem dX3_readTest_40 : decode cX3_readTest 40 = .ok (.invokevirtual 70, 3) := by decide +kernel
theorem dX3_readTest_43 : decode cX3_readTest 43 = .ok (.ifCond .ne 5, 3) := by decide +kernel
theorem dX3_readTest_46 : decode cX3_readTest 46 = .ok (.iconst 0, 1) := by decide +kernel
theorem dX3_readTest_47 : decode cX3_readTest 47 = .ok (.ireturn, 1) := by decide +kernel
theorem dX3_readTest_48 : decode cX3_readTest 48 = .ok (.aload_n 0, 1) := by decide +kernel
theorem dX3_readTest_49 : decode cX3_readTest 49 = .ok (.iload_n 3, 1) := by decide +kernel
theorem dX3_readTest_50 : decode cX3_readTest 50 = .ok (.invokevirtual 64, 3) := by decide +kernel
theorem dX3_readTest_53 : decode cX3_readTest 53 = .ok (.iinc 2 1, 3) := by decide +kernel
theorem dX3_readTest_56 : decode cX3_readTest 56 = .ok (.goto (-44), 3) := by decide +kernel
theorem dX3_readTest_59 : decode cX3_readTest 59 = .ok (.iconst 1, 1) := by decide +kernel
theorem dX3_readTest_60 : decode cX3_readTest 60 = .ok (.ireturn, 1) := by decide +kernel
theorem dX3_readBoth_0 : decode cX3_readBoth 0 = .ok (.aload_n 0, 1) := by decide +kernel
theorem dX3_readBoth_1 : decode cX3_readBoth 1 = .ok (.iload_n 1, 1) := by decide +kernel
theorem dX3_readBoth_2 : decode cX3_readBoth 2 = .ok (.invokevirtual 77, 3) := by decide +kernel
theorem dX3_readBoth_5 : decode cX3_readBoth 5 = .ok (.ifCond .ne 5, 3) := by decide +kernel
theorem dX3_readBoth_8 : decode cX3_readBoth 8 = .ok (.iconst 0, 1) := by decide +kernel
theorem dX3_readBoth_9 : decode cX3_readBoth 9 = .ok (.ireturn, 1) := by decide +kernel
theorem dX3_readBoth_10 : decode cX3_readBoth 10 = .ok (.iconst 0, 1) := by decide +kernel
theorem dX3_readBoth_11 : decode cX3_readBoth 11 = .ok (.istore_n 2, 1) := by decide +kernel
theorem dX3_readBoth_12 : decode cX3_readBoth 12 = .ok (.iload_n 2, 1) := by decide +kernel
theorem dX3_readBoth_13 : decode cX3_readBoth 13 = .ok (.sipush 400, 3) := by decide +kernel
theorem dX3_readBoth_16 : decode cX3_readBoth 16 = .ok (.if_icmp .ge 43, 3) := by decide +kernel
theorem dX3_readBoth_19 : decode cX3_readBoth 19 = .ok (.aload_n 0, 1) := by decide +kernel
theorem dX3_readBoth_20 : decode cX3_readBoth 20 = .ok (.getfield 42, 3) := by decide +kernel
theorem dX3_readBoth_23 : decode cX3_readBoth 23 = .ok (.bipush 9, 2) := by decide +kernel
theorem dX3_readBoth_25 : decode cX3_readBoth 25 = .ok (.if_icmp .ne 34, 3) := by decide +kernel
theorem dX3_readBoth_28 : decode cX3_readBoth 28 = .ok (.aload_n 0, 1) := by decide +kernel
theorem dX3_readBoth_29 : decode cX3_readBoth 29 = .ok (.iconst 3, 1) := by decide +kernel
theorem dX3_readBoth_30 : decode cX3_readBoth 30 = .ok (.invokevirtual 73, 3) := by decide +kernel
theorem dX3_readBoth_33 : decode cX3_readBoth 33 = .ok (.istore_n 3, 1) := by decide +kernel
theorem dX3_readBoth_34 : decode cX3_readBoth 34 = .ok (.aload_n 0, 1) := by decide +kernel
theorem dX3_readBoth_35 : decode cX3_readBoth 35 = .ok (.invokevirtual 32, 3) := by decide +kernel
theorem dX3_readBoth_38 : decode cX3_readBoth 38 = .ok (.aload_n 0, 1) := by decide +kernel
theorem dX3_readBoth_39 : decode cX3_readBoth 39 = .ok (.iload_n 1, 1) := by decide +kernel
theorem dX3_readBoth_40 : decode cX3_readBoth 40 = .ok (.invokevirtual 77, 3) := by decide +kernel
theorem dX3_readBoth_43 : decode cX3_readBoth 43 = .ok (.ifCond .ne 5, 3) := by decide +kernel
theorem dX3_readBoth_46 : decode cX3_readBoth 46 = .ok (.iconst 0, 1) := by decide +kernel
theorem dX3_readBoth_47 : decode cX3_readBoth 47 = .ok (.ireturn, 1) := by decide +kernel
theorem dX3_readBoth_48 : decode cX3_readBoth 48 = .ok (.aload_n 0, 1) := by decide +kernel
theorem dX3_readBoth_49 : decode cX3_readBoth 49 = .ok (.iload_n 3, 1) := by decide +kernel
theorem dX3_readBoth_50 : decode cX3_readBoth 50 = .ok (.invokevirtual 64, 3) := by decide +kernel
theorem dX3_readBoth_53 : decode cX3_readBoth 53 = .ok (.iinc 2 1, 3) := by decide +kernel
theorem dX3_readBoth_56 : decode cX3_readBoth 56 = .ok (.goto (-44), 3) := by decide +kernel
theorem dX3_readBoth_59 : decode cX3_readBoth 59 = .ok (.iconst 1, 1) := by decide +kernel
theorem dX3_readBoth_60 : decode cX3_readBoth 60 = .ok (.ireturn, 1) := by decide +kernel
theorem dX3_readPlain_0 : decode cX3_readPlain 0 = .ok (.iconst 0, 1) := by decide +kernel
theorem dX3_readPlain_1 : decode cX3_readPlain 1 = .ok (.istore_n 2, 1) := by decide +kernel
theorem dX3_readPlain_2 : decode cX3_readPlain 2 = .ok (.iconst 0, 1) := by decide +kernel
theorem dX3_readPlain_3 : decode cX3_readPlain 3 = .ok (.istore_n 3, 1) := by decide +kernel
theorem dX3_readPlain_4 : decode cX3_readPlain 4 = .ok (.iload_n 3, 1) := by decide +kernel
theorem dX3_readPlain_5 : decode cX3_readPlain 5 = .ok (.sipush 400, 3) := by decide +kernel
theorem dX3_readPlain_8 : decode cX3_readPlain 8 = .ok (.if_icmp .ge 32, 3) := by decide +kernel
theorem dX3_readPlain_11 : decode cX3_readPlain 11 = .ok (.aload_n 0, 1) := by decide +kernel
theorem dX3_readPlain_12 : decode cX3_readPlain 12 = .ok (.getfield 42, 3) := by decide +kernel
theorem dX3_readPlain_15 : decode cX3_readPlain 15 = .ok (.bipush 10, 2) := by decide +kernel
theorem dX3_readPlain_17 : decode cX3_readPlain 17 = .ok (.if_icmp .ne 23, 3) := by decide +kernel
theorem dX3_readPlain_20 : decode cX3_readPlain 20 = .ok (.iload_n 2, 1) := by decide +kernel
theorem dX3_readPlain_21 : decode cX3_readPlain 21 = .ok (.ifCond .ne 7, 3) := by decide +kernel
theorem dX3_readPlain_24 : decode cX3_readPlain 24 = .ok (.iconst 1, 1) := by decide +kernel
theorem dX3_readPlain_25 : decode cX3_readPlain 25 = .ok (.goto 4, 3) := by decide +kernel
theorem dX3_readPlain_28 : decode cX3_readPlain 28 = .ok (.iconst 0, 1) := by decide +kernel
theorem dX3_readPlain_29 : decode cX3_readPlain 29 = .ok (.istore_n 2, 1) := by decide +kernel
theorem dX3_readPlain_30 : decode cX3_readPlain 30 = .ok (.aload_n 0, 1) := by decide +kernel
theorem dX3_readPlain_31 : decode cX3_readPlain 31 = .ok (.invokevirtual 32, 3) := by decide +kernel
theorem dX3_readPlain_34 : decode cX3_readPlain 34 = .ok (.iinc 3 1, 3) := by decide +kernel
theorem dX3_readPlain_37 : decode cX3_readPlain 37 = .ok (.goto (-33), 3) := by decide +kernel
theorem dX3_readPlain_40 : decode cX3_readPlain 40 = .ok (.aload_n 0, 1) := by decide +kernel
theorem dX3_readPlain_41 : decode cX3_readPlain 41 = .ok (.getfield 42, 3) := by decide +kernel
theorem dX3_readPlain_44 : decode cX3_readPlain 44 = .ok (.sipush 140, 3) := by decide +kernel
theorem dX3_readPlain_47 : decode cX3_readPlain 47 = .ok (.if_icmp .ne 32, 3) := by decide +kernel
theorem dX3_readPlain_50 : decode cX3_readPlain 50 = .ok (.aload_n 0, 1) := by decide +kernel
theorem dX3_readPlain_51 : decode cX3_readPlain 51 = .ok (.iload_n 1, 1) := by decide +kernel
theorem dX3_readPlain_52 : decode cX3_readPlain 52 = .ok (.invokevirtual 80, 3) := by decide +kernel
theorem dX3_readPlain_55 : decode cX3_readPlain 55 = .ok (.ifCond .eq 22, 3) := by decide +kernel
theorem dX3_readPlain_58 : decode cX3_readPlain 58 = .ok (.aload_n 0, 1) := by decide +kernel
theorem dX3_readPlain_59 : decode cX3_readPlain 59 = .ok (.iload_n 1, 1) := by decide +kernel
theorem dX3_readPlain_60 : decode cX3_readPlain 60 = .ok (.iconst 1, 1) := by decide +kernel
theorem dX3_readPlain_61 : decode cX3_readPlain 61 = .ok (.iadd, 1) := by decide +kernel
theorem dX3_readPlain_62 : decode cX3_readPlain 62 = .ok (.invokevirtual 67, 3) := by decide +kernel
theorem dX3_readPlain_65 : decode cX3_readPlain 65 = .ok (.ifCond .eq 12, 3) := by decide +kernel
theorem dX3_readPlain_68 : decode cX3_readPlain 68 = .ok (.aload_n 0, 1) := by decide +kernel
theorem dX3_readPlain_69 : decode cX3_readPlain 69 = .ok (.bipush 41, 2) := by decide +kernel
theorem dX3_readPlain_71 : decode cX3_readPlain 71 = .ok (.invokevirtual 50, 3) := by decide +kernel
theorem dX3_readPlain_74 : decode cX3_readPlain 74 = .ok (.ifCond .ne 88, 3) := by decide +kernel
theorem dX3_readPlain_77 : decode cX3_readPlain 77 = .ok (.iconst 0, 1) := by decide +kernel
theorem dX3_readPlain_78 : decode cX3_readPlain 78 = .ok (.ireturn, 1) := by decide +kernel
theorem dX3_readPlain_79 : decode cX3_readPlain 79 = .ok (.aload_n 0, 1) := by decide +kernel
theorem dX3_readPlain_80 : decode cX3_readPlain 80 = .ok (.iload_n 1, 1) := by decide +kernel
theorem dX3_readPlain_81 : decode cX3_readPlain 81 = .ok (.invokevirtual 61, 3) := by decide +kernel
theorem dX3_readPlain_84 : decode cX3_readPlain 84 = .ok (.ifCond .ne 5, 3) := by decide +kernel
theorem dX3_readPlain_87 : decode cX3_readPlain 87 = .ok (.iconst 0, 1) := by decide +kernel
theorem dX3_readPlain_88 : decode cX3_readPlain 88 = .ok (.ireturn, 1) := by decide +kernel
theorem dX3_readPlain_89 : decode cX3_readPlain 89 = .ok (.aload_n 0, 1) := by decide +kernel
theorem dX3_readPlain_90 : decode cX3_readPlain 90 = .ok (.getfield 42, 3) := by decide +kernel
theorem dX3_readPlain_93 : decode cX3_readPlain 93 = .ok (.sipush 160, 3) := by decide +kernel
theorem dX3_readPlain_96 : decode cX3_readPlain 96 = .ok (.if_icmp .ne 8, 3) := by decide +kernel
theorem dX3_readPlain_99 : decode cX3_readPlain 99 = .ok (.bipush 8, 2) := by decide +kernel
theorem dX3_readPlain_101 : decode cX3_readPlain 101 = .ok (.goto 20, 3) := by decide +kernel
theorem dX3_readPlain_104 : decode cX3_readPlain 104 = .ok (.aload_n 0, 1) := by decide +kernel
theorem dX3_readPlain_105 : decode cX3_readPlain 105 = .ok (.getfield 42, 3) := by decide +kernel
theorem dX3_readPlain_108 : decode cX3_readPlain 108 = .ok (.sipush 162, 3) := by decide +kernel
theorem dX3_readPlain_111 : decode cX3_readPlain 111 = .ok (.if_icmp .ne 8, 3) := by decide +kernel
theorem dX3_readPlain_114 : decode cX3_readPlain 114 = .ok (.bipush 9, 2) := by decide +kernel
theorem dX3_readPlain_116 : decode cX3_readPlain 116 = .ok (.goto 5, 3) := by decide +kernel
theorem dX3_readPlain_119 : decode cX3_readPlain 119 = .ok (.bipush 10, 2) := by decide +kernel
theorem dX3_readPlain_121 : decode cX3_readPlain 121 = .ok (.istore_n 3, 1) := by decide +kernel
theorem dX3_readPlain_122 : decode cX3_readPlain 122 = .ok (.iload_n 3, 1) := by decide +kernel
theorem dX3_readPlain_123 : decode cX3_readPlain 123 = .ok (.bipush 10, 2) := by decide +kernel
theorem dX3_readPlain_125 : decode cX3_readPlain 125 = .ok (.if_icmp .ne 18, 3) := by decide +kernel
theorem dX3_readPlain_128 : decode cX3_readPlain 128 = .ok (.aload_n 0, 1) := by decide +kernel
theorem dX3_readPlain_129 : decode cX3_readPlain 129 = .ok (.getfield 42, 3) := by decide +kernel
theorem dX3_readPlain_132 : decode cX3_readPlain 132 = .ok (.sipush 161, 3) := by decide +kernel
theorem dX3_readPlain_135 : decode cX3_readPlain 135 = .ok (.if_icmp .eq 8, 3) := by decide +kernel
theorem dX3_readPlain_138 : decode cX3_readPlain 138 = .ok (.aload_n 0, 1) := by decide +kernel
theorem dX3_readPlain_139 : decode cX3_readPlain 139 = .ok (.invokevirtual 35, 3) := by decide +kernel
theorem dX3_readPlain_142 : decode cX3_readPlain 142 = .ok (.ireturn, 1) := by decide +kernel
theorem dX3_readPlain_143 : decode cX3_readPlain 143 = .ok (.aload_n 0, 1) := by decide +kernel
theorem dX3_readPlain_144 : decode cX3_readPlain 144 = .ok (.invokevirtual 32, 3) := by decide +kernel
theorem dX3_readPlain_147 : decode cX3_readPlain 147 = .ok (.aload_n 0, 1) := by decide +kernel
theorem dX3_readPlain_148 : decode cX3_readPlain 148 = .ok (.iload_n 1, 1) := by decide +kernel
theorem dX3_readPlain_149 : decode cX3_readPlain 149 = .ok (.invokevirtual 61, 3) := by decide +kernel
theorem dX3_readPlain_152 : decode cX3_readPlain 152 = .ok (.ifCond .ne 5, 3) := by decide +kernel
theorem dX3_readPlain_155 : decode cX3_readPlain 155 = .ok (.iconst 0, 1) := by decide +kernel
theorem dX3_readPlain_156 : decode cX3_readPlain 156 = .ok (.ireturn, 1) := by decide +kernel
theorem dX3_readPlain_157 : decode cX3_readPlain 157 = .ok (.aload_n 0, 1) := by decide +kernel
theorem dX3_readPlain_158 : decode cX3_readPlain 158 = .ok (.iload_n 3, 1) := by decide +kernel
theorem dX3_readPlain_159 : decode cX3_readPlain 159 = .ok (.invokevirtual 57, 3) := by decide +kernel
theorem dX3_readPlain_162 : decode cX3_readPlain 162 = .ok (.iload_n 2, 1) := by decide +kernel
theorem dX3_readPlain_163 : decode cX3_readPlain 163 = .ok (.ifCond .eq 9, 3) := by decide +kernel
theorem dX3_readPlain_166 : decode cX3_readPlain 166 = .ok (.aload_n 0, 1) := by decide +kernel
theorem dX3_readPlain_167 : decode cX3_readPlain 167 = .ok (.bipush 11, 2) := by decide +kernel
theorem dX3_readPlain_169 : decode cX3_readPlain 169 = .ok (.invokevirtual 57, 3) := by decide +kernel
theorem dX3_readPlain_172 : decode cX3_readPlain 172 = .ok (.iconst 1, 1) := by decide +kernel
theorem dX3_readPlain_173 : decode cX3_readPlain 173 = .ok (.ireturn, 1) := by decide +kernel
theorem dX3_readSum_0 : decode cX3_readSum 0 = .ok (.aload_n 0, 1) := by decide +kernel
theorem dX3_readSum_1 : decode cX3_readSum 1 = .ok (.iload_n 1, 1) := by decide +kernel
theorem dX3_readSum_2 : decode cX3_readSum 2 = .ok (.invokevirtual 83, 3) := by decide +kernel
theorem dX3_readSum_5 : decode cX3_readSum 5 = .ok (.ifCond .ne 5, 3) := by decide +kernel
theorem dX3_readSum_8 : decode cX3_readSum 8 = .ok (.iconst 0, 1) := by decide +kernel
theorem dX3_readSum_9 : decode cX3_readSum 9 = .ok (.ireturn, 1) := by decide +kernel
theorem dX3_readSum_10 : decode cX3_readSum 10 = .ok (.iconst 0, 1) := by decide +kernel
theorem dX3_readSum_11 : decode cX3_readSum 11 = .ok (.istore_n 2, 1) := by decide +kernel
theorem dX3_readSum_12 : decode cX3_readSum 12 = .ok (.iload_n 2, 1) := by decide +kernel
theorem dX3_readSum_13 : decode cX3_readSum 13 = .ok (.sipush 400, 3) := by decide +kernel
theorem dX3_readSum_16 : decode cX3_readSum 16 = .ok (.if_icmp .ge 64, 3) := by decide +kernel
theorem dX3_readSum_19 : decode cX3_readSum 19 = .ok (.aload_n 0, 1) := by decide +kernel
theorem dX3_readSum_20 : decode cX3_readSum 20 = .ok (.getfield 42, 3) := by decide +kernel
theorem dX3_readSum_23 : decode cX3_readSum 23 = .ok (.sipush 143, 3) := by decide +kernel
theorem dX3_readSum_26 : decode cX3_readSum 26 = .ok (.if_icmp .eq 13, 3) := by decide +kernel
theorem dX3_readSum_29 : decode cX3_readSum 29 = .ok (.aload_n 0, 1) := by decide +kernel
theorem dX3_readSum_30 : decode cX3_readSum 30 = .ok (.getfield 42, 3) := by decide +kernel
theorem dX3_readSum_33 : decode cX3_readSum 33 = .ok (.sipush 145, 3) := by decide +kernel
theorem dX3_readSum_36 : decode cX3_readSum 36 = .ok (.if_icmp .ne 44, 3) := by decide +kernel
theorem dX3_readSum_39 : decode cX3_readSum 39 = .ok (.aload_n 0, 1) := by decide +kernel
theorem dX3_readSum_40 : decode cX3_readSum 40 = .ok (.getfield 42, 3) := by decide +kernel
theorem dX3_readSum_43 : decode cX3_readSum 43 = .ok (.sipush 143, 3) := by decide +kernel
theorem dX3_readSum_46 : decode cX3_readSum 46 = .ok (.if_icmp .ne 7, 3) := by decide +kernel
theorem dX3_readSum_49 : decode cX3_readSum 49 = .ok (.iconst 4, 1) := by decide +kernel
theorem dX3_readSum_50 : decode cX3_readSum 50 = .ok (.goto 4, 3) := by decide +kernel
theorem dX3_readSum_53 : decode cX3_readSum 53 = .ok (.iconst 5, 1) := by decide +kernel
theorem dX3_readSum_54 : decode cX3_readSum 54 = .ok (.istore_n 3, 1) := by decide +kernel
theorem dX3_readSum_55 : decode cX3_readSum 55 = .ok (.aload_n 0, 1) := by decide +kernel
theorem dX3_readSum_56 : decode cX3_readSum 56 = .ok (.invokevirtual 32, 3) := by decide +kernel
theorem dX3_readSum_59 : decode cX3_readSum 59 = .ok (.aload_n 0, 1) := by decide +kernel
theorem dX3_readSum_60 : decode cX3_readSum 60 = .ok (.iload_n 1, 1) := by decide +kernel
theorem dX3_readSum_61 : decode cX3_readSum 61 = .ok (.invokevirtual 83, 3) := by decide +kernel
theorem dX3_readSum_64 : decode cX3_readSum 64 = .ok (.ifCond .ne 5, 3) := by decide +kernel
theorem dX3_readSum_67 : decode cX3_readSum 67 = .ok (.iconst 0, 1) := by decide +kernel
theorem dX3_readSum_68 : decode cX3_readSum 68 = .ok (.ireturn, 1) := by decide +kernel
theorem dX3_readSum_69 : decode cX3_readSum 69 = .ok (.aload_n 0, 1) := by decide +kernel
theorem dX3_readSum_70 : decode cX3_readSum 70 = .ok (.iload_n 3, 1) := by decide +kernel
theorem dX3_readSum_71 : decode cX3_readSum 71 = .ok (.invokevirtual 57, 3) := by decide +kernel
theorem dX3_readSum_74 : decode cX3_readSum 74 = .ok (.iinc 2 1, 3) := by decide +kernel
theorem dX3_readSum_77 : decode cX3_readSum 77 = .ok (.goto (-65), 3) := by decide +kernel
theorem dX3_readSum_80 : decode cX3_readSum 80 = .ok (.iconst 1, 1) := by decide +kernel
theorem dX3_readSum_81 : decode cX3_readSum 81 = .ok (.ireturn, 1) := by decide +kernel
theorem dX3_readTerm_0 : decode cX3_readTerm 0 = .ok (.aload_n 0, 1) := by decide +kernel
theorem dX3_readTerm_1 : decode cX3_readTerm 1 = .ok (.iload_n 1, 1) := by decide +kernel
theorem dX3_readTerm_2 : decode cX3_readTerm 2 = .ok (.invokevirtual 86, 3) := by decide +kernel
theorem dX3_readTerm_5 : decode cX3_readTerm 5 = .ok (.ifCond .ne 5, 3) := by decide +kernel
theorem dX3_readTerm_8 : decode cX3_readTerm 8 = .ok (.iconst 0, 1) := by decide +kernel
theorem dX3_readTerm_9 : decode cX3_readTerm 9 = .ok (.ireturn, 1) := by decide +kernel
theorem dX3_readTerm_10 : decode cX3_readTerm 10 = .ok (.iconst 0, 1) := by decide +kernel
theorem dX3_readTerm_11 : decode cX3_readTerm 11 = .ok (.istore_n 2, 1) := by decide +kernel
theorem dX3_readTerm_12 : decode cX3_readTerm 12 = .ok (.iload_n 2, 1) := by decide +kernel
theorem dX3_readTerm_13 : decode cX3_readTerm 13 = .ok (.sipush 400, 3) := by decide +kernel
theorem dX3_readTerm_16 : decode cX3_readTerm 16 = .ok (.if_icmp .ge 66, 3) := by decide +kernel
theorem dX3_readTerm_19 : decode cX3_readTerm 19 = .ok (.aload_n 0, 1) := by decide +kernel
theorem dX3_readTerm_20 : decode cX3_readTerm 20 = .ok (.getfield 42, 3) := by decide +kernel
theorem dX3_readTerm_23 : decode cX3_readTerm 23 = .ok (.sipush 142, 3) := by decide +kernel
theorem dX3_readTerm_26 : decode cX3_readTerm 26 = .ok (.if_icmp .eq 13, 3) := by decide +kernel
theorem dX3_readTerm_29 : decode cX3_readTerm 29 = .ok (.aload_n 0, 1) := by decide +kernel
theorem dX3_readTerm_30 : decode cX3_readTerm 30 = .ok (.getfield 42, 3) := by decide +kernel
theorem dX3_readTerm_33 : decode cX3_readTerm 33 = .ok (.sipush 147, 3) := by decide +kernel
theorem dX3_readTerm_36 : decode cX3_readTerm 36 = .ok (.if_icmp .ne 46, 3) := by decide +kernel
theorem dX3_readTerm_39 : decode cX3_readTerm 39 = .ok (.aload_n 0, 1) := by decide +kernel
theorem dX3_readTerm_40 : decode cX3_readTerm 40 = .ok (.getfield 42, 3) := by decide +kernel
theorem dX3_readTerm_43 : decode cX3_readTerm 43 = .ok (.sipush 142, 3) := by decide +kernel
theorem dX3_readTerm_46 : decode cX3_readTerm 46 = .ok (.if_icmp .ne 8, 3) := by decide +kernel
theorem dX3_readTerm_49 : decode cX3_readTerm 49 = .ok (.bipush 6, 2) := by decide +kernel
theorem dX3_readTerm_51 : decode cX3_readTerm 51 = .ok (.goto 5, 3) := by decide +kernel
theorem dX3_readTerm_54 : decode cX3_readTerm 54 = .ok (.bipush 7, 2) := by decide +kernel
theorem dX3_readTerm_56 : decode cX3_readTerm 56 = .ok (.istore_n 3, 1) := by decide +kernel
theorem dX3_readTerm_57 : decode cX3_readTerm 57 = .ok (.aload_n 0, 1) := by decide +kernel
theorem dX3_readTerm_58 : decode cX3_readTerm 58 = .ok (.invokevirtual 32, 3) := by decide +kernel
theorem dX3_readTerm_61 : decode cX3_readTerm 61 = .ok (.aload_n 0, 1) := by decide +kernel
theorem dX3_readTerm_62 : decode cX3_readTerm 62 = .ok (.iload_n 1, 1) := by decide +kernel
theorem dX3_readTerm_63 : decode cX3_readTerm 63 = .ok (.invokevirtual 86, 3) := by decide +kernel
theorem dX3_readTerm_66 : decode cX3_readTerm 66 = .ok (.ifCond .ne 5, 3) := by decide +kernel
theorem dX3_readTerm_69 : decode cX3_readTerm 69 = .ok (.iconst 0, 1) := by decide +kernel
theorem dX3_readTerm_70 : decode cX3_readTerm 70 = .ok (.ireturn, 1) := by decide +kernel
theorem dX3_readTerm_71 : decode cX3_readTerm 71 = .ok (.aload_n 0, 1) := by decide +kernel
theorem dX3_readTerm_72 : decode cX3_readTerm 72 = .ok (.iload_n 3, 1) := by decide +kernel
theorem dX3_readTerm_73 : decode cX3_readTerm 73 = .ok (.invokevirtual 57, 3) := by decide +kernel
theorem dX3_readTerm_76 : decode cX3_readTerm 76 = .ok (.iinc 2 1, 3) := by decide +kernel
theorem dX3_readTerm_79 : decode cX3_readTerm 79 = .ok (.goto (-67), 3) := by decide +kernel
theorem dX3_readTerm_82 : decode cX3_readTerm 82 = .ok (.iconst 1, 1) := by decide +kernel
theorem dX3_readTerm_83 : decode cX3_readTerm 83 = .ok (.ireturn, 1) := by decide +kernel
theorem dX3_readPart_0 : decode cX3_readPart 0 = .ok (.aload_n 0, 1) := by decide +kernel
theorem dX3_readPart_1 : decode cX3_readPart 1 = .ok (.getfield 42, 3) := by decide +kernel
theorem dX3_readPart_4 : decode cX3_readPart 4 = .ok (.sipush 191, 3) := by decide +kernel
theorem dX3_readPart_7 : decode cX3_readPart 7 = .ok (.if_icmp .ne 36, 3) := by decide +kernel
theorem dX3_readPart_10 : decode cX3_readPart 10 = .ok (.aload_n 0, 1) := by decide +kernel
theorem dX3_readPart_11 : decode cX3_readPart 11 = .ok (.iload_n 1, 1) := by decide +kernel
theorem dX3_readPart_12 : decode cX3_readPart 12 = .ok (.invokevirtual 80, 3) := by decide +kernel
theorem dX3_readPart_15 : decode cX3_readPart 15 = .ok (.ifCond .eq 26, 3) := by decide +kernel
theorem dX3_readPart_18 : decode cX3_readPart 18 = .ok (.aload_n 0, 1) := by decide +kernel
theorem dX3_readPart_19 : decode cX3_readPart 19 = .ok (.iload_n 1, 1) := by decide +kernel
theorem dX3_readPart_20 : decode cX3_readPart 20 = .ok (.iconst 1, 1) := by decide +kernel
theorem dX3_readPart_21 : decode cX3_readPart 21 = .ok (.iadd, 1) := by decide +kernel
theorem dX3_readPart_22 : decode cX3_readPart 22 = .ok (.invokevirtual 61, 3) := by decide +kernel
theorem dX3_readPart_25 : decode cX3_readPart 25 = .ok (.ifCond .eq 16, 3) := by decide +kernel
theorem dX3_readPart_28 : decode cX3_readPart 28 = .ok (.aload_n 0, 1) := by decide +kernel
theorem dX3_readPart_29 : decode cX3_readPart 29 = .ok (.bipush 93, 2) := by decide +kernel
theorem dX3_readPart_31 : decode cX3_readPart 31 = .ok (.invokevirtual 50, 3) := by decide +kernel
theorem dX3_readPart_34 : decode cX3_readPart 34 = .ok (.ifCond .eq 7, 3) := by decide +kernel
theorem dX3_readPart_37 : decode cX3_readPart 37 = .ok (.iconst 1, 1) := by decide +kernel
theorem dX3_readPart_38 : decode cX3_readPart 38 = .ok (.goto 4, 3) := by decide +kernel
theorem dX3_readPart_41 : decode cX3_readPart 41 = .ok (.iconst 0, 1) := by decide +kernel
theorem dX3_readPart_42 : decode cX3_readPart 42 = .ok (.ireturn, 1) := by decide +kernel
theorem dX3_readPart_43 : decode cX3_readPart 43 = .ok (.aload_n 0, 1) := by decide +kernel
theorem dX3_readPart_44 : decode cX3_readPart 44 = .ok (.getfield 42, 3) := by decide +kernel
theorem dX3_readPart_47 : decode cX3_readPart 47 = .ok (.bipush 21, 2) := by decide +kernel
theorem dX3_readPart_49 : decode cX3_readPart 49 = .ok (.if_icmp .ne 17, 3) := by decide +kernel
theorem dX3_readPart_52 : decode cX3_readPart 52 = .ok (.aload_n 0, 1) := by decide +kernel
theorem dX3_readPart_53 : decode cX3_readPart 53 = .ok (.getfield 89, 3) := by decide +kernel
theorem dX3_readPart_56 : decode cX3_readPart 56 = .ok (.sipush 1000, 3) := by decide +kernel
theorem dX3_readPart_59 : decode cX3_readPart 59 = .ok (.if_icmp .gt 7, 3) := by decide +kernel
theorem dX3_readPart_62 : decode cX3_readPart 62 = .ok (.iconst 1, 1) := by decide +kernel
theorem dX3_readPart_63 : decode cX3_readPart 63 = .ok (.goto 4, 3) := by decide +kernel
theorem dX3_readPart_66 : decode cX3_readPart 66 = .ok (.iconst 0, 1) := by decide +kernel
theorem dX3_readPart_67 : decode cX3_readPart 67 = .ok (.istore_n 2, 1) := by decide +kernel
theorem dX3_readPart_68 : decode cX3_readPart 68 = .ok (.aload_n 0, 1) := by decide +kernel
theorem dX3_readPart_69 : decode cX3_readPart 69 = .ok (.getfield 42, 3) := by decide +kernel
theorem dX3_readPart_72 : decode cX3_readPart 72 = .ok (.bipush 11, 2) := by decide +kernel
theorem dX3_readPart_74 : decode cX3_readPart 74 = .ok (.if_icmp .lt 16, 3) := by decide +kernel
theorem dX3_readPart_77 : decode cX3_readPart 77 = .ok (.aload_n 0, 1) := by decide +kernel
theorem dX3_readPart_78 : decode cX3_readPart 78 = .ok (.getfield 42, 3) := by decide +kernel
theorem dX3_readPart_81 : decode cX3_readPart 81 = .ok (.bipush 19, 2) := by decide +kernel
theorem dX3_readPart_83 : decode cX3_readPart 83 = .ok (.if_icmp .gt 7, 3) := by decide +kernel
theorem dX3_readPart_86 : decode cX3_readPart 86 = .ok (.iconst 1, 1) := by decide +kernel
theorem dX3_readPart_87 : decode cX3_readPart 87 = .ok (.goto 4, 3) := by decide +kernel
theorem dX3_readPart_90 : decode cX3_readPart 90 = .ok (.iconst 0, 1) := by decide +kernel
theorem dX3_readPart_91 : decode cX3_readPart 91 = .ok (.istore_n 3, 1) := by decide +kernel
theorem dX3_readPart_92 : decode cX3_readPart 92 = .ok (.iload_n 2, 1) := by decide +kernel
theorem dX3_readPart_93 : decode cX3_readPart 93 = .ok (.ifCond .ne 7, 3) := by decide +kernel
theorem dX3_readPart_96 : decode cX3_readPart 96 = .ok (.iload_n 3, 1) := by decide +kernel
theorem dX3_readPart_97 : decode cX3_readPart 97 = .ok (.ifCond .eq 12, 3) := by decide +kernel
theorem dX3_readPart_100 : decode cX3_readPart 100 = .ok (.aload_n 0, 1) := by decide +kernel
theorem dX3_readPart_101 : decode cX3_readPart 101 = .ok (.getfield 29, 3) := by decide +kernel
theorem dX3_readPart_104 : decode cX3_readPart 104 = .ok (.bipush 50, 2) := by decide +kernel
theorem dX3_readPart_106 : decode cX3_readPart 106 = .ok (.if_icmp .lt 8, 3) := by decide +kernel
theorem dX3_readPart_109 : decode cX3_readPart 109 = .ok (.aload_n 0, 1) := by decide +kernel
theorem dX3_readPart_110 : decode cX3_readPart 110 = .ok (.invokevirtual 35, 3) := by decide +kernel
theorem dX3_readPart_113 : decode cX3_readPart 113 = .ok (.ireturn, 1) := by decide +kernel
theorem dX3_readPart_114 : decode cX3_readPart 114 = .ok (.aload_n 0, 1) := by decide +kernel
theorem dX3_readPart_115 : decode cX3_readPart 115 = .ok (.dup, 1) := by decide +kernel
theorem dX3_readPart_116 : decode cX3_readPart 116 = .ok (.getfield 29, 3) := by decide +kernel
theorem dX3_readPart_119 : decode cX3_readPart 119 = .ok (.iconst 1, 1) := by decide +kernel
theorem dX3_readPart_120 : decode cX3_readPart 120 = .ok (.iadd, 1) := by decide +kernel
theorem dX3_readPart_121 : decode cX3_readPart 121 = .ok (.putfield 29, 3) := by decide +kernel
theorem dX3_readPart_124 : decode cX3_readPart 124 = .ok (.aload_n 0, 1) := by decide +kernel
theorem dX3_readPart_125 : decode cX3_readPart 125 = .ok (.iload_n 2, 1) := by decide +kernel
theorem dX3_readPart_126 : decode cX3_readPart 126 = .ok (.ifCond .eq 7, 3) := by decide +kernel
theorem dX3_readPart_129 : decode cX3_readPart 129 = .ok (.iconst 0, 1) := by decide +kernel
theorem dX3_readPart_130 : decode cX3_readPart 130 = .ok (.goto 4, 3) := by decide +kernel
theorem dX3_readPart_133 : decode cX3_readPart 133 = .ok (.iconst 1, 1) := by decide +kernel
theorem dX3_readPart_134 : decode cX3_readPart 134 = .ok (.invokevirtual 57, 3) := by decide +kernel
theorem dX3_readPart_137 : decode cX3_readPart 137 = .ok (.aload_n 0, 1) := by decide +kernel
theorem dX3_readPart_138 : decode cX3_readPart 138 = .ok (.iload_n 2, 1) := by decide +kernel
theorem dX3_readPart_139 : decode cX3_readPart 139 = .ok (.ifCond .eq 10, 3) := by decide +kernel
theorem dX3_readPart_142 : decode cX3_readPart 142 = .ok (.aload_n 0, 1) := by decide +kernel
theorem dX3_readPart_143 : decode cX3_readPart 143 = .ok (.getfield 89, 3) := by decide +kernel
theorem dX3_readPart_146 : decode cX3_readPart 146 = .ok (.goto 10, 3) := by decide +kernel
theorem dX3_readPart_149 : decode cX3_readPart 149 = .ok (.aload_n 0, 1) := by decide +kernel
theorem dX3_readPart_150 : decode cX3_readPart 150 = .ok (.getfield 42, 3) := by decide +kernel
theorem dX3_readPart_153 : decode cX3_readPart 153 = .ok (.bipush 11, 2) := by decide +kernel
theorem dX3_readPart_155 : decode cX3_readPart 155 = .ok (.isub, 1) := by decide +kernel
theorem dX3_readPart_156 : decode cX3_readPart 156 = .ok (.invokevirtual 57, 3) := by decide +kernel
theorem dX3_readPart_159 : decode cX3_readPart 159 = .ok (.aload_n 0, 1) := by decide +kernel
theorem dX3_readPart_160 : decode cX3_readPart 160 = .ok (.invokevirtual 32, 3) := by decide +kernel
theorem dX3_readPart_163 : decode cX3_readPart 163 = .ok (.iconst 1, 1) := by decide +kernel
theorem dX3_readPart_164 : decode cX3_readPart 164 = .ok (.ireturn, 1) := by decide +kernel
theorem dX3_openBracket_0 : decode cX3_openBracket 0 = .ok (.iload_n 1, 1) := by decide +kernel
theorem dX3_openBracket_1 : decode cX3_openBracket 1 = .ok (.bipush 8, 2) := by decide +kernel
theorem dX3_openBracket_3 : decode cX3_openBracket 3 = .ok (.if_icmp .lt 8, 3) := by decide +kernel
theorem dX3_openBracket_6 : decode cX3_openBracket 6 = .ok (.aload_n 0, 1) := by decide +kernel
theorem dX3_openBracket_7 : decode cX3_openBracket 7 = .ok (.invokevirtual 35, 3) := by decide +kernel
theorem dX3_openBracket_10 : decode cX3_openBracket 10 = .ok (.ireturn, 1) := by decide +kernel
theorem dX3_openBracket_11 : decode cX3_openBracket 11 = .ok (.aload_n 0, 1) := by decide +kernel
theorem dX3_openBracket_12 : decode cX3_openBracket 12 = .ok (.invokevirtual 32, 3) := by decide +kernel
theorem dX3_openBracket_15 : decode cX3_openBracket 15 = .ok (.iconst 1, 1) := by decide +kernel
theorem dX3_openBracket_16 : decode cX3_openBracket 16 = .ok (.ireturn, 1) := by decide +kernel
theorem dX3_takeSign_0 : decode cX3_takeSign 0 = .ok (.aload_n 0, 1) := by decide +kernel
theorem dX3_takeSign_1 : decode cX3_takeSign 1 = .ok (.getfield 42, 3) := by decide +kernel
theorem dX3_takeSign_4 : decode cX3_takeSign 4 = .ok (.bipush 100, 2) := by decide +kernel
theorem dX3_takeSign_6 : decode cX3_takeSign 6 = .ok (.iload_n 1, 1) := by decide +kernel
theorem dX3_takeSign_7 : decode cX3_takeSign 7 = .ok (.iadd, 1) := by decide +kernel
theorem dX3_takeSign_8 : decode cX3_takeSign 8 = .ok (.if_icmp .eq 8, 3) := by decide +kernel
theorem dX3_takeSign_11 : decode cX3_takeSign 11 = .ok (.aload_n 0, 1) := by decide +kernel
theorem dX3_takeSign_12 : decode cX3_takeSign 12 = .ok (.invokevirtual 35, 3) := by decide +kernel
theorem dX3_takeSign_15 : decode cX3_takeSign 15 = .ok (.ireturn, 1) := by decide +kernel
theorem dX3_takeSign_16 : decode cX3_takeSign 16 = .ok (.aload_n 0, 1) := by decide +kernel
theorem dX3_takeSign_17 : decode cX3_takeSign 17 = .ok (.invokevirtual 32, 3) := by decide +kernel
theorem dX3_takeSign_20 : decode cX3_takeSign 20 = .ok (.iconst 1, 1) := by decide +kernel
theorem dX3_takeSign_21 : decode cX3_takeSign 21 = .ok (.ireturn, 1) := by decide +kernel
theorem dX3_advance_0 : decode cX3_advance 0 = .ok (.aload_n 0, 1) := by decide +kernel
theorem dX3_advance_1 : decode cX3_advance 1 = .ok (.getfield 19, 3) := by decide +kernel
theorem dX3_advance_4 : decode cX3_advance 4 = .ok (.invokevirtual 92, 3) := by decide +kernel
theorem dX3_advance_7 : decode cX3_advance 7 = .ok (.istore_n 1, 1) := by decide +kernel
theorem dX3_advance_8 : decode cX3_advance 8 = .ok (.aload_n 0, 1) := by decide +kernel
theorem dX3_advance_9 : decode cX3_advance 9 = .ok (.aload_n 0, 1) := by decide +kernel
theorem dX3_advance_10 : decode cX3_advance 10 = .ok (.getfield 26, 3) := by decide +kernel
theorem dX3_advance_13 : decode cX3_advance 13 = .ok (.putfield 54, 3) := by decide +kernel
theorem dX3_advance_16 : decode cX3_advance 16 = .ok (.aload_n 0, 1) := by decide +kernel
theorem dX3_advance_17 : decode cX3_advance 17 = .ok (.getfield 54, 3) := by decide +kernel
theorem dX3_advance_20 : decode cX3_advance 20 = .ok (.iload_n 1, 1) := by decide +kernel
theorem dX3_advance_21 : decode cX3_advance 21 = .ok (.if_icmp .ge 32, 3) := by decide +kernel
theorem dX3_advance_24 : decode cX3_advance 24 = .ok (.aload_n 0, 1) := by decide +kernel
theorem dX3_advance_25 : decode cX3_advance 25 = .ok (.getfield 19, 3) := by decide +kernel
theorem dX3_advance_28 : decode cX3_advance 28 = .ok (.aload_n 0, 1) := by decide +kernel
theorem dX3_advance_29 : decode cX3_advance 29 = .ok (.getfield 54, 3) := by decide +kernel
theorem dX3_advance_32 : decode cX3_advance 32 = .ok (.invokevirtual 98, 3) := by decide +kernel
theorem dX3_advance_35 : decode cX3_advance 35 = .ok (.bipush 32, 2) := by decide +kernel
theorem dX3_advance_37 : decode cX3_advance 37 = .ok (.if_icmp .ne 16, 3) := by decide +kernel
theorem dX3_advance_40 : decode cX3_advance 40 = .ok (.aload_n 0, 1) := by decide +kernel
theorem dX3_advance_41 : decode cX3_advance 41 = .ok (.dup, 1) := by decide +kernel
theorem dX3_advance_42 : decode cX3_advance 42 = .ok (.getfield 54, 3) := by decide +kernel
theorem dX3_advance_45 : decode cX3_advance 45 = .ok (.iconst 1, 1) := by decide +kernel
theorem dX3_advance_46 : decode cX3_advance 46 = .ok (.iadd, 1) := by decide +kernel
theorem dX3_advance_47 : decode cX3_advance 47 = .ok (.putfield 54, 3) := by decide +kernel
theorem dX3_advance_50 : decode cX3_advance 50 = .ok (.goto (-34), 3) := by decide +kernel
theorem dX3_advance_53 : decode cX3_advance 53 = .ok (.aload_n 0, 1) := by decide +kernel
theorem dX3_advance_54 : decode cX3_advance 54 = .ok (.aload_n 0, 1) := by decide +kernel
theorem dX3_advance_55 : decode cX3_advance 55 = .ok (.getfield 54, 3) := by decide +kernel
theorem dX3_advance_58 : decode cX3_advance 58 = .ok (.putfield 26, 3) := by decide +kernel
theorem dX3_advance_61 : decode cX3_advance 61 = .ok (.aload_n 0, 1) := by decide +kernel
theorem dX3_advance_62 : decode cX3_advance 62 = .ok (.getfield 54, 3) := by decide +kernel
theorem dX3_advance_65 : decode cX3_advance 65 = .ok (.iload_n 1, 1) := by decide +kernel
theorem dX3_advance_66 : decode cX3_advance 66 = .ok (.if_icmp .lt 10, 3) := by decide +kernel
theorem dX3_advance_69 : decode cX3_advance 69 = .ok (.aload_n 0, 1) := by decide +kernel
theorem dX3_advance_70 : decode cX3_advance 70 = .ok (.bipush 22, 2) := by decide +kernel
theorem dX3_advance_72 : decode cX3_advance 72 = .ok (.putfield 42, 3) := by decide +kernel
theorem dX3_advance_75 : decode cX3_advance 75 = .ok (.return_, 1) := by decide +kernel
theorem dX3_advance_76 : decode cX3_advance 76 = .ok (.aload_n 0, 1) := by decide +kernel
theorem dX3_advance_77 : decode cX3_advance 77 = .ok (.getfield 19, 3) := by decide +kernel
theorem dX3_advance_80 : decode cX3_advance 80 = .ok (.aload_n 0, 1) := by decide +kernel
theorem dX3_advance_81 : decode cX3_advance 81 = .ok (.getfield 54, 3) := by decide +kernel
theorem dX3_advance_84 : decode cX3_advance 84 = .ok (.invokevirtual 98, 3) := by decide +kernel
theorem dX3_advance_87 : decode cX3_advance 87 = .ok (.istore_n 2, 1) := by decide +kernel
theorem dX3_advance_88 : decode cX3_advance 88 = .ok (.iload_n 2, 1) := by decide +kernel
theorem dX3_advance_89 : decode cX3_advance 89 = .ok (.invokestatic 101, 3) := by decide +kernel
theorem dX3_advance_92 : decode cX3_advance 92 = .ok (.ifCond .eq 52, 3) := by decide +kernel
theorem dX3_advance_95 : decode cX3_advance 95 = .ok (.aload_n 0, 1) := by decide +kernel
theorem dX3_advance_96 : decode cX3_advance 96 = .ok (.getfield 26, 3) := by decide +kernel
theorem dX3_advance_99 : decode cX3_advance 99 = .ok (.iload_n 1, 1) := by decide +kernel
theorem dX3_advance_100 : decode cX3_advance 100 = .ok (.if_icmp .ge 33, 3) := by decide +kernel
theorem dX3_advance_103 : decode cX3_advance 103 = .ok (.aload_n 0, 1) := by decide +kernel
theorem dX3_advance_104 : decode cX3_advance 104 = .ok (.getfield 19, 3) := by decide +kernel
theorem dX3_advance_107 : decode cX3_advance 107 = .ok (.aload_n 0, 1) := by decide +kernel
theorem dX3_advance_108 : decode cX3_advance 108 = .ok (.getfield 26, 3) := by decide +kernel
theorem dX3_advance_111 : decode cX3_advance 111 = .ok (.invokevirtual 98, 3) := by decide +kernel
theorem dX3_advance_114 : decode cX3_advance 114 = .ok (.invokestatic 101, 3) := by decide +kernel
theorem dX3_advance_117 : decode cX3_advance 117 = .ok (.ifCond .eq 16, 3) := by decide +kernel
theorem dX3_advance_120 : decode cX3_advance 120 = .ok (.aload_n 0, 1) := by decide +kernel
theorem dX3_advance_121 : decode cX3_advance 121 = .ok (.dup, 1) := by decide +kernel
theorem dX3_advance_122 : decode cX3_advance 122 = .ok (.getfield 26, 3) := by decide +kernel
theorem dX3_advance_125 : decode cX3_advance 125 = .ok (.iconst 1, 1) := by decide +kernel
theorem dX3_advance_126 : decode cX3_advance 126 = .ok (.iadd, 1) := by decide +kernel
theorem dX3_advance_127 : decode cX3_advance 127 = .ok (.putfield 26, 3) := by decide +kernel
theorem dX3_advance_130 : decode cX3_advance 130 = .ok (.goto (-35), 3) := by decide +kernel
theorem dX3_advance_133 : decode cX3_advance 133 = .ok (.aload_n 0, 1) := by decide +kernel
theorem dX3_advance_134 : decode cX3_advance 134 = .ok (.aload_n 0, 1) := by decide +kernel
theorem dX3_advance_135 : decode cX3_advance 135 = .ok (.invokevirtual 104, 3) := by decide +kernel
theorem dX3_advance_138 : decode cX3_advance 138 = .ok (.putfield 42, 3) := by decide +kernel
theorem dX3_advance_141 : decode cX3_advance 141 = .ok (.goto 109, 3) := by decide +kernel
theorem dX3_advance_144 : decode cX3_advance 144 = .ok (.iload_n 2, 1) := by decide +kernel
theorem dX3_advance_145 : decode cX3_advance 145 = .ok (.invokestatic 107, 3) := by decide +kernel
theorem dX3_advance_148 : decode cX3_advance 148 = .ok (.ifCond .eq 84, 3) := by decide +kernel
theorem dX3_advance_151 : decode cX3_advance 151 = .ok (.aload_n 0, 1) := by decide +kernel
theorem dX3_advance_152 : decode cX3_advance 152 = .ok (.bipush 21, 2) := by decide +kernel
theorem dX3_advance_154 : decode cX3_advance 154 = .ok (.putfield 42, 3) := by decide +kernel
theorem dX3_advance_157 : decode cX3_advance 157 = .ok (.aload_n 0, 1) := by decide +kernel
theorem dX3_advance_158 : decode cX3_advance 158 = .ok (.iconst 0, 1) := by decide +kernel
theorem dX3_advance_159 : decode cX3_advance 159 = .ok (.putfield 89, 3) := by decide +kernel
theorem dX3_advance_162 : decode cX3_advance 162 = .ok (.aload_n 0, 1) := by decide +kernel
theorem dX3_advance_163 : decode cX3_advance 163 = .ok (.getfield 26, 3) := by decide +kernel
theorem dX3_advance_166 : decode cX3_advance 166 = .ok (.iload_n 1, 1) := by decide +kernel
theorem dX3_advance_167 : decode cX3_advance 167 = .ok (.if_icmp .ge 83, 3) := by decide +kernel
theorem dX3_advance_170 : decode cX3_advance 170 = .ok (.aload_n 0, 1) := by decide +kernel
theorem dX3_advance_171 : decode cX3_advance 171 = .ok (.getfield 19, 3) := by decide +kernel
theorem dX3_advance_174 : decode cX3_advance 174 = .ok (.aload_n 0, 1) := by decide +kernel
theorem dX3_advance_175 : decode cX3_advance 175 = .ok (.getfield 26, 3) := by decide +kernel
theorem dX3_advance_178 : decode cX3_advance 178 = .ok (.invokevirtual 98, 3) := by decide +kernel
theorem dX3_advance_181 : decode cX3_advance 181 = .ok (.invokestatic 107, 3) := by decide +kernel
theorem dX3_advance_184 : decode cX3_advance 184 = .ok (.ifCond .eq 66, 3) := by decide +kernel
theorem dX3_advance_187 : decode cX3_advance 187 = .ok (.aload_n 0, 1) := by decide +kernel
theorem dX3_advance_188 : decode cX3_advance 188 = .ok (.aload_n 0, 1) := by decide +kernel
theorem dX3_advance_189 : decode cX3_advance 189 = .ok (.getfield 89, 3) := by decide +kernel
theorem dX3_advance_192 : decode cX3_advance 192 = .ok (.bipush 10, 2) := by decide +kernel
theorem dX3_advance_194 : decode cX3_advance 194 = .ok (.imul, 1) := by decide +kernel
theorem dX3_advance_195 : decode cX3_advance 195 = .ok (.aload_n 0, 1) := by decide +kernel
theorem dX3_advance_196 : decode cX3_advance 196 = .ok (.getfield 19, 3) := by decide +kernel
theorem dX3_advance_199 : decode cX3_advance 199 = .ok (.aload_n 0, 1) := by decide +kernel
theorem dX3_advance_200 : decode cX3_advance 200 = .ok (.getfield 26, 3) := by decide +kernel
theorem dX3_advance_203 : decode cX3_advance 203 = .ok (.invokevirtual 98, 3) := by decide +kernel
theorem dX3_advance_206 : decode cX3_advance 206 = .ok (.iadd, 1) := by decide +kernel
theorem dX3_advance_207 : decode cX3_advance 207 = .ok (.bipush 48, 2) := by decide +kernel
theorem dX3_advance_209 : decode cX3_advance 209 = .ok (.isub, 1) := by decide +kernel
theorem dX3_advance_210 : decode cX3_advance 210 = .ok (.sipush 1001, 3) := by decide +kernel
theorem dX3_advance_213 : decode cX3_advance 213 = .ok (.invokestatic 110, 3) := by decide +kernel
theorem dX3_advance_216 : decode cX3_advance 216 = .ok (.putfield 89, 3) := by decide +kernel
theorem dX3_advance_219 : decode cX3_advance 219 = .ok (.aload_n 0, 1) := by decide +kernel
theorem dX3_advance_220 : decode cX3_advance 220 = .ok (.dup, 1) := by decide +kernel
theorem dX3_advance_221 : decode cX3_advance 221 = .ok (.getfield 26, 3) := by decide +kernel
theorem dX3_advance_224 : decode cX3_advance 224 = .ok (.iconst 1, 1) := by decide +kernel
theorem dX3_advance_225 : decode cX3_advance 225 = .ok (.iadd, 1) := by decide +kernel
theorem dX3_advance_226 : decode cX3_advance 226 = .ok (.putfield 26, 3) := by decide +kernel
theorem dX3_advance_229 : decode cX3_advance 229 = .ok (.goto (-67), 3) := by decide +kernel
theorem dX3_advance_232 : decode cX3_advance 232 = .ok (.aload_n 0, 1) := by decide +kernel
theorem dX3_advance_233 : decode cX3_advance 233 = .ok (.aload_n 0, 1) := by decide +kernel
theorem dX3_advance_234 : decode cX3_advance 234 = .ok (.getfield 54, 3) := by decide +kernel
theorem dX3_advance_237 : decode cX3_advance 237 = .ok (.iconst 1, 1) := by decide +kernel
theorem dX3_advance_238 : decode cX3_advance 238 = .ok (.iadd, 1) := by decide +kernel
theorem dX3_advance_239 : decode cX3_advance 239 = .ok (.putfield 26, 3) := by decide +kernel
theorem dX3_advance_242 : decode cX3_advance 242 = .ok (.aload_n 0, 1) := by decide +kernel
theorem dX3_advance_243 : decode cX3_advance 243 = .ok (.bipush 100, 2) := by decide +kernel
theorem dX3_advance_245 : decode cX3_advance 245 = .ok (.iload_n 2, 1) := by decide +kernel
theorem dX3_advance_246 : decode cX3_advance 246 = .ok (.iadd, 1) := by decide +kernel
theorem dX3_advance_247 : decode cX3_advance 247 = .ok (.putfield 42, 3) := by decide +kernel
theorem dX3_advance_250 : decode cX3_advance 250 = .ok (.return_, 1) := by decide +kernel
theorem dX3_wordNumber_0 : decode cX3_wordNumber 0 = .ok (.iconst 0, 1) := by decide +kernel
theorem dX3_wordNumber_1 : decode cX3_wordNumber 1 = .ok (.istore_n 1, 1) := by decide +kernel
theorem dX3_wordNumber_2 : decode cX3_wordNumber 2 = .ok (.iconst 0, 1) := by decide +kernel
theorem dX3_wordNumber_3 : decode cX3_wordNumber 3 = .ok (.istore_n 2, 1) := by decide +kernel
theorem dX3_wordNumber_4 : decode cX3_wordNumber 4 = .ok (.iconst 1, 1) := by decide +kernel
theorem dX3_wordNumber_5 : decode cX3_wordNumber 5 = .ok (.istore_n 3, 1) := by decide +kernel
theorem dX3_wordNumber_6 : decode cX3_wordNumber 6 = .ok (.iconst 0, 1) := by decide +kernel
theorem dX3_wordNumber_7 : decode cX3_wordNumber 7 = .ok (.istore 4, 2) := by decide +kernel
theorem dX3_wordNumber_9 : decode cX3_wordNumber 9 = .ok (.iload 4, 2) := by decide +kernel
theorem dX3_wordNumber_11 : decode cX3_wordNumber 11 = .ok (.ldc 116, 2) := by decide +kernel
theorem dX3_wordNumber_13 : decode cX3_wordNumber 13 = .ok (.invokevirtual 118, 3) := by decide +kernel
theorem dX3_wordNumber_16 : decode cX3_wordNumber 16 = .ok (.if_icmp .ge 112, 3) := by decide +kernel
theorem dX3_wordNumber_19 : decode cX3_wordNumber 19 = .ok (.ldc 116, 2) := by decide +kernel
theorem dX3_wordNumber_21 : decode cX3_wordNumber 21 = .ok (.iload 4, 2) := by decide +kernel
theorem dX3_wordNumber_23 : decode cX3_wordNumber 23 = .ok (.invokevirtual 122, 3) := by decide +kernel
theorem dX3_wordNumber_26 : decode cX3_wordNumber 26 = .ok (.istore 5, 2) := by decide +kernel
theorem dX3_wordNumber_28 : decode cX3_wordNumber 28 = .ok (.iload 5, 2) := by decide +kernel
theorem dX3_wordNumber_30 : decode cX3_wordNumber 30 = .ok (.bipush 32, 2) := by decide +kernel
theorem dX3_wordNumber_32 : decode cX3_wordNumber 32 = .ok (.if_icmp .eq 64, 3) := by decide +kernel
theorem dX3_wordNumber_35 : decode cX3_wordNumber 35 = .ok (.aload_n 0, 1) := by decide +kernel
theorem dX3_wordNumber_36 : decode cX3_wordNumber 36 = .ok (.getfield 54, 3) := by decide +kernel
theorem dX3_wordNumber_39 : decode cX3_wordNumber 39 = .ok (.iload_n 2, 1) := by decide +kernel
theorem dX3_wordNumber_40 : decode cX3_wordNumber 40 = .ok (.iadd, 1) := by decide +kernel
theorem dX3_wordNumber_41 : decode cX3_wordNumber 41 = .ok (.istore 6, 2) := by decide +kernel
theorem dX3_wordNumber_43 : decode cX3_wordNumber 43 = .ok (.iload_n 3, 1) := by decide +kernel
theorem dX3_wordNumber_44 : decode cX3_wordNumber 44 = .ok (.ifCond .eq 44, 3) := by decide +kernel
theorem dX3_wordNumber_47 : decode cX3_wordNumber 47 = .ok (.iload 6, 2) := by decide +kernel
theorem dX3_wordNumber_49 : decode cX3_wordNumber 49 = .ok (.ifCond .lt 39, 3) := by decide +kernel
theorem dX3_wordNumber_52 : decode cX3_wordNumber 52 = .ok (.iload 6, 2) := by decide +kernel
theorem dX3_wordNumber_54 : decode cX3_wordNumber 54 = .ok (.aload_n 0, 1) := by decide +kernel
theorem dX3_wordNumber_55 : decode cX3_wordNumber 55 = .ok (.getfield 26, 3) := by decide +kernel
theorem dX3_wordNumber_58 : decode cX3_wordNumber 58 = .ok (.if_icmp .ge 30, 3) := by decide +kernel
theorem dX3_wordNumber_61 : decode cX3_wordNumber 61 = .ok (.iload 6, 2) := by decide +kernel
theorem dX3_wordNumber_63 : decode cX3_wordNumber 63 = .ok (.sipush 400, 3) := by decide +kernel
theorem dX3_wordNumber_66 : decode cX3_wordNumber 66 = .ok (.if_icmp .ge 22, 3) := by decide +kernel
theorem dX3_wordNumber_69 : decode cX3_wordNumber 69 = .ok (.aload_n 0, 1) := by decide +kernel
theorem dX3_wordNumber_70 : decode cX3_wordNumber 70 = .ok (.getfield 19, 3) := by decide +kernel
theorem dX3_wordNumber_73 : decode cX3_wordNumber 73 = .ok (.getfield 126, 3) := by decide +kernel
theorem dX3_wordNumber_76 : decode cX3_wordNumber 76 = .ok (.iload 6, 2) := by decide +kernel
theorem dX3_wordNumber_78 : decode cX3_wordNumber 78 = .ok (.iaload, 1) := by decide +kernel
theorem dX3_wordNumber_79 : decode cX3_wordNumber 79 = .ok (.iload 5, 2) := by decide +kernel
theorem dX3_wordNumber_81 : decode cX3_wordNumber 81 = .ok (.if_icmp .ne 7, 3) := by decide +kernel
theorem dX3_wordNumber_84 : decode cX3_wordNumber 84 = .ok (.iconst 1, 1) := by decide +kernel
theorem dX3_wordNumber_85 : decode cX3_wordNumber 85 = .ok (.goto 4, 3) := by decide +kernel
theorem dX3_wordNumber_88 : decode cX3_wordNumber 88 = .ok (.iconst 0, 1) := by decide +kernel
theorem dX3_wordNumber_89 : decode cX3_wordNumber 89 = .ok (.istore_n 3, 1) := by decide +kernel
theorem dX3_wordNumber_90 : decode cX3_wordNumber 90 = .ok (.iinc 2 1, 3) := by decide +kernel
theorem dX3_wordNumber_93 : decode cX3_wordNumber 93 = .ok (.goto 29, 3) := by decide +kernel
theorem dX3_wordNumber_96 : decode cX3_wordNumber 96 = .ok (.iload_n 3, 1) := by decide +kernel
theorem dX3_wordNumber_97 : decode cX3_wordNumber 97 = .ok (.ifCond .eq 18, 3) := by decide +kernel
theorem dX3_wordNumber_100 : decode cX3_wordNumber 100 = .ok (.aload_n 0, 1) := by decide +kernel
theorem dX3_wordNumber_101 : decode cX3_wordNumber 101 = .ok (.getfield 54, 3) := by decide +kernel
theorem dX3_wordNumber_104 : decode cX3_wordNumber 104 = .ok (.iload_n 2, 1) := by decide +kernel
theorem dX3_wordNumber_105 : decode cX3_wordNumber 105 = .ok (.iadd, 1) := by decide +kernel
theorem dX3_wordNumber_106 : decode cX3_wordNumber 106 = .ok (.aload_n 0, 1) := by decide +kernel
theorem dX3_wordNumber_107 : decode cX3_wordNumber 107 = .ok (.getfield 26, 3) := by decide +kernel
theorem dX3_wordNumber_110 : decode cX3_wordNumber 110 = .ok (.if_icmp .ne 5, 3) := by decide +kernel
theorem dX3_wordNumber_113 : decode cX3_wordNumber 113 = .ok (.iload_n 1, 1) := by decide +kernel
theorem dX3_wordNumber_114 : decode cX3_wordNumber 114 = .ok (.ireturn, 1) := by decide +kernel
theorem dX3_wordNumber_115 : decode cX3_wordNumber 115 = .ok (.iinc 1 1, 3) := by decide +kernel
theorem dX3_wordNumber_118 : decode cX3_wordNumber 118 = .ok (.iconst 0, 1) := by decide +kernel
theorem dX3_wordNumber_119 : decode cX3_wordNumber 119 = .ok (.istore_n 2, 1) := by decide +kernel
theorem dX3_wordNumber_120 : decode cX3_wordNumber 120 = .ok (.iconst 1, 1) := by decide +kernel
theorem dX3_wordNumber_121 : decode cX3_wordNumber 121 = .ok (.istore_n 3, 1) := by decide +kernel
theorem dX3_wordNumber_122 : decode cX3_wordNumber 122 = .ok (.iinc 4 1, 3) := by decide +kernel
theorem dX3_wordNumber_125 : decode cX3_wordNumber 125 = .ok (.goto (-116), 3) := by decide +kernel
theorem dX3_wordNumber_128 : decode cX3_wordNumber 128 = .ok (.bipush 20, 2) := by decide +kernel
theorem dX3_wordNumber_130 : decode cX3_wordNumber 130 = .ok (.ireturn, 1) := by decide +kernel
theorem dX3_isLetter_0 : decode cX3_isLetter 0 = .ok (.iload_n 0, 1) := by decide +kernel
theorem dX3_isLetter_1 : decode cX3_isLetter 1 = .ok (.bipush 97, 2) := by decide +kernel
theorem dX3_isLetter_3 : decode cX3_isLetter 3 = .ok (.if_icmp .lt 13, 3) := by decide +kernel
theorem dX3_isLetter_6 : decode cX3_isLetter 6 = .ok (.iload_n 0, 1) := by decide +kernel
theorem dX3_isLetter_7 : decode cX3_isLetter 7 = .ok (.bipush 122, 2) := by decide +kernel
theorem dX3_isLetter_9 : decode cX3_isLetter 9 = .ok (.if_icmp .gt 7, 3) := by decide +kernel
theorem dX3_isLetter_12 : decode cX3_isLetter 12 = .ok (.iconst 1, 1) := by decide +kernel
theorem dX3_isLetter_13 : decode cX3_isLetter 13 = .ok (.goto 4, 3) := by decide +kernel
theorem dX3_isLetter_16 : decode cX3_isLetter 16 = .ok (.iconst 0, 1) := by decide +kernel
theorem dX3_isLetter_17 : decode cX3_isLetter 17 = .ok (.ireturn, 1) := by decide +kernel
theorem dX3_isDigit_0 : decode cX3_isDigit 0 = .ok (.iload_n 0, 1) := by decide +kernel
theorem dX3_isDigit_1 : decode cX3_isDigit 1 = .ok (.bipush 48, 2) := by decide +kernel
theorem dX3_isDigit_3 : decode cX3_isDigit 3 = .ok (.if_icmp .lt 13, 3) := by decide +kernel
theorem dX3_isDigit_6 : decode cX3_isDigit 6 = .ok (.iload_n 0, 1) := by decide +kernel
theorem dX3_isDigit_7 : decode cX3_isDigit 7 = .ok (.bipush 57, 2) := by decide +kernel
theorem dX3_isDigit_9 : decode cX3_isDigit 9 = .ok (.if_icmp .gt 7, 3) := by decide +kernel
theorem dX3_isDigit_12 : decode cX3_isDigit 12 = .ok (.iconst 1, 1) := by decide +kernel
theorem dX3_isDigit_13 : decode cX3_isDigit 13 = .ok (.goto 4, 3) := by decide +kernel
theorem dX3_isDigit_16 : decode cX3_isDigit 16 = .ok (.iconst 0, 1) := by decide +kernel
theorem dX3_isDigit_17 : decode cX3_isDigit 17 = .ok (.ireturn, 1) := by decide +kernel
theorem dX3_emit_0 : decode cX3_emit 0 = .ok (.aload_n 0, 1) := by decide +kernel
theorem dX3_emit_1 : decode cX3_emit 1 = .ok (.getfield 23, 3) := by decide +kernel
theorem dX3_emit_4 : decode cX3_emit 4 = .ok (.ifCond .lt 33, 3) := by decide +kernel
theorem dX3_emit_7 : decode cX3_emit 7 = .ok (.aload_n 0, 1) := by decide +kernel
theorem dX3_emit_8 : decode cX3_emit 8 = .ok (.getfield 23, 3) := by decide +kernel
theorem dX3_emit_11 : decode cX3_emit 11 = .ok (.sipush 400, 3) := by decide +kernel
theorem dX3_emit_14 : decode cX3_emit 14 = .ok (.if_icmp .ge 23, 3) := by decide +kernel
theorem dX3_emit_17 : decode cX3_emit 17 = .ok (.aload_n 0, 1) := by decide +kernel
theorem dX3_emit_18 : decode cX3_emit 18 = .ok (.getfield 11, 3) := by decide +kernel
theorem dX3_emit_21 : decode cX3_emit 21 = .ok (.aload_n 0, 1) := by decide +kernel
theorem dX3_emit_22 : decode cX3_emit 22 = .ok (.getfield 23, 3) := by decide +kernel
theorem dX3_emit_25 : decode cX3_emit 25 = .ok (.iload_n 1, 1) := by decide +kernel
theorem dX3_emit_26 : decode cX3_emit 26 = .ok (.iastore, 1) := by decide +kernel
theorem dX3_emit_27 : decode cX3_emit 27 = .ok (.aload_n 0, 1) := by decide +kernel
theorem dX3_emit_28 : decode cX3_emit 28 = .ok (.dup, 1) := by decide +kernel
theorem dX3_emit_29 : decode cX3_emit 29 = .ok (.getfield 23, 3) := by decide +kernel
theorem dX3_emit_32 : decode cX3_emit 32 = .ok (.iconst 1, 1) := by decide +kernel
theorem dX3_emit_33 : decode cX3_emit 33 = .ok (.iadd, 1) := by decide +kernel
theorem dX3_emit_34 : decode cX3_emit 34 = .ok (.putfield 23, 3) := by decide +kernel
theorem dX3_emit_37 : decode cX3_emit 37 = .ok (.return_, 1) := by decide +kernel
theorem dX3_emitJump_0 : decode cX3_emitJump 0 = .ok (.aload_n 0, 1) := by decide +kernel
theorem dX3_emitJump_1 : decode cX3_emitJump 1 = .ok (.iload_n 1, 1) := by decide +kernel
theorem dX3_emitJump_2 : decode cX3_emitJump 2 = .ok (.invokevirtual 57, 3) := by decide +kernel
theorem dX3_emitJump_5 : decode cX3_emitJump 5 = .ok (.aload_n 0, 1) := by decide +kernel
theorem dX3_emitJump_6 : decode cX3_emitJump 6 = .ok (.iconst 0, 1) := by decide +kernel
theorem dX3_emitJump_7 : decode cX3_emitJump 7 = .ok (.invokevirtual 57, 3) := by decide +kernel
theorem dX3_emitJump_10 : decode cX3_emitJump 10 = .ok (.aload_n 0, 1) := by decide +kernel
theorem dX3_emitJump_11 : decode cX3_emitJump 11 = .ok (.getfield 23, 3) := by decide +kernel
theorem dX3_emitJump_14 : decode cX3_emitJump 14 = .ok (.iconst 1, 1) := by decide +kernel
theorem dX3_emitJump_15 : decode cX3_emitJump 15 = .ok (.isub, 1) := by decide +kernel
theorem dX3_emitJump_16 : decode cX3_emitJump 16 = .ok (.ireturn, 1) := by decide +kernel
theorem dX3_patch_0 : decode cX3_patch 0 = .ok (.iload_n 1, 1) := by decide +kernel
theorem dX3_patch_1 : decode cX3_patch 1 = .ok (.ifCond .lt 20, 3) := by decide +kernel
theorem dX3_patch_4 : decode cX3_patch 4 = .ok (.iload_n 1, 1) := by decide +kernel
theorem dX3_patch_5 : decode cX3_patch 5 = .ok (.sipush 400, 3) := by decide +kernel
theorem dX3_patch_8 : decode cX3_patch 8 = .ok (.if_icmp .ge 13, 3) := by decide +kernel
theorem dX3_patch_11 : decode cX3_patch 11 = .ok (.aload_n 0, 1) := by decide +kernel
theorem dX3_patch_12 : decode cX3_patch 12 = .ok (.getfield 11, 3) := by decide +kernel
theorem dX3_patch_15 : decode cX3_patch 15 = .ok (.iload_n 1, 1) := by decide +kernel
theorem dX3_patch_16 : decode cX3_patch 16 = .ok (.aload_n 0, 1) := by decide +kernel
theorem dX3_patch_17 : decode cX3_patch 17 = .ok (.getfield 23, 3) := by decide +kernel
theorem dX3_patch_20 : decode cX3_patch 20 = .ok (.iastore, 1) := by decide +kernel
theorem dX3_patch_21 : decode cX3_patch 21 = .ok (.return_, 1) := by decide +kernel
theorem dX4_init_0 : decode cX4_init 0 = .ok (.aload_n 0, 1) := by decide +kernel
theorem dX4_init_1 : decode cX4_init 1 = .ok (.invokespecial 3, 3) := by decide +kernel
theorem dX4_init_4 : decode cX4_init 4 = .ok (.aload_n 0, 1) := by decide +kernel
theorem dX4_init_5 : decode cX4_init 5 = .ok (.sipush 200, 3) := by decide +kernel
theorem dX4_init_8 : decode cX4_init 8 = .ok (.newarray .int, 2) := by decide +kernel
theorem dX4_init_10 : decode cX4_init 10 = .ok (.putfield 9, 3) := by decide +kernel
theorem dX4_init_13 : decode cX4_init 13 = .ok (.aload_n 0, 1) := by decide +kernel
theorem dX4_init_14 : decode cX4_init 14 = .ok (.sipush 200, 3) := by decide +kernel
theorem dX4_init_17 : decode cX4_init 17 = .ok (.newarray .int, 2) := by decide +kernel
theorem dX4_init_19 : decode cX4_init 19 = .ok (.putfield 15, 3) := by decide +kernel
theorem dX4_init_22 : decode cX4_init 22 = .ok (.aload_n 0, 1) := by decide +kernel
theorem dX4_init_23 : decode cX4_init 23 = .ok (.sipush 200, 3) := by decide +kernel
theorem dX4_init_26 : decode cX4_init 26 = .ok (.newarray .int, 2) := by decide +kernel
theorem dX4_init_28 : decode cX4_init 28 = .ok (.putfield 18, 3) := by decide +kernel
theorem dX4_init_31 : decode cX4_init 31 = .ok (.aload_n 0, 1) := by decide +kernel
theorem dX4_init_32 : decode cX4_init 32 = .ok (.sipush 200, 3) := by decide +kernel
theorem dX4_init_35 : decode cX4_init 35 = .ok (.newarray .int, 2) := by decide +kernel
theorem dX4_init_37 : decode cX4_init 37 = .ok (.putfield 21, 3) := by decide +kernel
theorem dX4_init_40 : decode cX4_init 40 = .ok (.aload_n 0, 1) := by decide +kernel
theorem dX4_init_41 : decode cX4_init 41 = .ok (.bipush 60, 2) := by decide +kernel
theorem dX4_init_43 : decode cX4_init 43 = .ok (.newarray .int, 2) := by decide +kernel
theorem dX4_init_45 : decode cX4_init 45 = .ok (.putfield 24, 3) := by decide +kernel
theorem dX4_init_48 : decode cX4_init 48 = .ok (.aload_n 0, 1) := by decide +kernel
theorem dX4_init_49 : decode cX4_init 49 = .ok (.sipush 200, 3) := by decide +kernel
theorem dX4_init_52 : decode cX4_init 52 = .ok (.newarray .int, 2) := by decide +kernel
theorem dX4_init_54 : decode cX4_init 54 = .ok (.putfield 27, 3) := by decide +kernel
theorem dX4_init_57 : decode cX4_init 57 = .ok (.aload_n 0, 1) := by decide +kernel
theorem dX4_init_58 : decode cX4_init 58 = .ok (.bipush 60, 2) := by decide +kernel
theorem dX4_init_60 : decode cX4_init 60 = .ok (.newarray .int, 2) := by decide +kernel
theorem dX4_init_62 : decode cX4_init 62 = .ok (.putfield 30, 3) := by decide +kernel
theorem dX4_init_65 : decode cX4_init 65 = .ok (.aload_n 0, 1) := by decide +kernel
theorem dX4_init_66 : decode cX4_init 66 = .ok (.bipush 12, 2) := by decide +kernel
theorem dX4_init_68 : decode cX4_init 68 = .ok (.newarray .int, 2) := by decide +kernel
theorem dX4_init_70 : decode cX4_init 70 = .ok (.putfield 33, 3) := by decide +kernel
theorem dX4_init_73 : decode cX4_init 73 = .ok (.return_, 1) := by decide +kernel
theorem dX4_gather_0 : decode cX4_gather 0 = .ok (.aload_n 0, 1) := by decide +kernel
theorem dX4_gather_1 : decode cX4_gather 1 = .ok (.iconst 0, 1) := by decide +kernel
theorem dX4_gather_2 : decode cX4_gather 2 = .ok (.putfield 36, 3) := by decide +kernel
theorem dX4_gather_5 : decode cX4_gather 5 = .ok (.aload_n 0, 1) := by decide +kernel
theorem dX4_gather_6 : decode cX4_gather 6 = .ok (.getfield 24, 3) := by decide +kernel
theorem dX4_gather_9 : decode cX4_gather 9 = .ok (.iconst (-1), 1) := by decide +kernel
theorem dX4_gather_10 : decode cX4_gather 10 = .ok (.invokestatic 40, 3) := by decide +kernel
theorem dX4_gather_13 : decode cX4_gather 13 = .ok (.aload_n 0, 1) := by decide +kernel
theorem dX4_gather_14 : decode cX4_gather 14 = .ok (.getfield 30, 3) := by decide +kernel
theorem dX4_gather_17 : decode cX4_gather 17 = .ok (.iconst 0, 1) := by decide +kernel
theorem dX4_gather_18 : decode cX4_gather 18 = .ok (.invokestatic 40, 3) := by decide +kernel
theorem dX4_gather_21 : decode cX4_gather 21 = .ok (.iconst 0, 1) := by decide +kernel
theorem dX4_gather_22 : decode cX4_gather 22 = .ok (.istore_n 3, 1) := by decide +kernel
theorem dX4_gather_23 : decode cX4_gather 23 = .ok (.iload_n 3, 1) := by decide +kernel
theorem dX4_gather_24 : decode cX4_gather 24 = .ok (.aload_n 1, 1) := by decide +kernel
theorem dX4_gather_25 : decode cX4_gather 25 = .ok (.getfield 46, 3) := by decide +kernel
theorem dX4_gather_28 : decode cX4_gather 28 = .ok (.invokevirtual 52, 3) := by decide +kernel
theorem dX4_gather_31 : decode cX4_gather 31 = .ok (.if_icmp .ge 99, 3) := by decide +kernel
theorem dX4_gather_34 : decode cX4_gather 34 = .ok (.iconst 1, 1) := by decide +kernel
theorem dX4_gather_35 : decode cX4_gather 35 = .ok (.aload_n 1, 1) := by decide +kernel
theorem dX4_gather_36 : decode cX4_gather 36 = .ok (.getfield 46, 3) := by decide +kernel
theorem dX4_gather_39 : decode cX4_gather 39 = .ok (.iload_n 3, 1) := by decide +kernel
theorem dX4_gather_40 : decode cX4_gather 40 = .ok (.iconst 0, 1) := by decide +kernel
theorem dX4_gather_41 : decode cX4_gather 41 = .ok (.invokevirtual 57, 3) := by decide +kernel
theorem dX4_gather_44 : decode cX4_gather 44 = .ok (.ishl, 1) := by decide +kernel
theorem dX4_gather_45 : decode cX4_gather 45 = .ok (.istore 4, 2) := by decide +kernel
theorem dX4_gather_47 : decode cX4_gather 47 = .ok (.aload_n 1, 1) := by decide +kernel
theorem dX4_gather_48 : decode cX4_gather 48 = .ok (.getfield 46, 3) := by decide +kernel
theorem dX4_gather_51 : decode cX4_gather 51 = .ok (.iload_n 3, 1) := by decide +kernel
theorem dX4_gather_52 : decode cX4_gather 52 = .ok (.iconst 1, 1) := by decide +kernel
theorem dX4_gather_53 : decode cX4_gather 53 = .ok (.invokevirtual 57, 3) := by decide +kernel
theorem dX4_gather_56 : decode cX4_gather 56 = .ok (.istore 5, 2) := by decide +kernel
theorem dX4_gather_58 : decode cX4_gather 58 = .ok (.aload_n 1, 1) := by decide +kernel
theorem dX4_gather_59 : decode cX4_gather 59 = .ok (.getfield 46, 3) := by decide +kernel
theorem dX4_gather_62 : decode cX4_gather 62 = .ok (.iload_n 3, 1) := by decide +kernel
theorem dX4_gather_63 : decode cX4_gather 63 = .ok (.iconst 4, 1) := by decide +kernel
theorem dX4_gather_64 : decode cX4_gather 64 = .ok (.invokevirtual 57, 3) := by decide +kernel
theorem dX4_gather_67 : decode cX4_gather 67 = .ok (.istore 6, 2) := by decide +kernel
theorem dX4_gather_69 : decode cX4_gather 69 = .ok (.iload 6, 2) := by decide +kernel
theorem dX4_gather_71 : decode cX4_gather 71 = .ok (.ifCond .ne 23, 3) := by decide +kernel
theorem dX4_gather_74 : decode cX4_gather 74 = .ok (.aload_n 0, 1) := by decide +kernel
theorem dX4_gather_75 : decode cX4_gather 75 = .ok (.iload 5, 2) := by decide +kernel
theorem dX4_gather_77 : decode cX4_gather 77 = .ok (.aload_n 1, 1) := by decide +kernel
theorem dX4_gather_78 : decode cX4_gather 78 = .ok (.getfield 46, 3) := by decide +kernel
theorem dX4_gather_81 : decode cX4_gather 81 = .ok (.iload_n 3, 1) := by decide +kernel
theorem dX4_gather_82 : decode cX4_gather 82 = .ok (.iconst 2, 1) := by decide +kernel
theorem dX4_gather_83 : decode cX4_gather 83 = .ok (.invokevirtual 57, 3) := by decide +kernel
theorem dX4_gather_86 : decode cX4_gather 86 = .ok (.iload 4, 2) := by decide +kernel
theorem dX4_gather_88 : decode cX4_gather 88 = .ok (.invokevirtual 61, 3) := by decide +kernel
theorem dX4_gather_91 : decode cX4_gather 91 = .ok (.goto 33, 3) := by decide +kernel
theorem dX4_gather_94 : decode cX4_gather 94 = .ok (.iload 6, 2) := by decide +kernel
theorem dX4_gather_96 : decode cX4_gather 96 = .ok (.iconst 1, 1) := by decide +kernel
theorem dX4_gather_97 : decode cX4_gather 97 = .ok (.if_icmp .ne 27, 3) := by decide +kernel
theorem dX4_gather_100 : decode cX4_gather 100 = .ok (.iload 5, 2) := by decide +kernel
theorem dX4_gather_102 : decode cX4_gather 102 = .ok (.ifCond .lt 22, 3) := by decide +kernel
theorem dX4_gather_105 : decode cX4_gather 105 = .ok (.iload 5, 2) := by decide +kernel
theorem dX4_gather_107 : decode cX4_gather 107 = .ok (.bipush 60, 2) := by decide +kernel
theorem dX4_gather_109 : decode cX4_gather 109 = .ok (.if_icmp .ge 15, 3) := by decide +kernel
theorem dX4_gather_112 : decode cX4_gather 112 = .ok (.aload_n 0, 1) := by decide +kernel
theorem dX4_gather_113 : decode cX4_gather 113 = .ok (.getfield 30, 3) := by decide +kernel
theorem dX4_gather_116 : decode cX4_gather 116 = .ok (.iload 5, 2) := by decide +kernel
theorem dX4_gather_118 : decode cX4_gather 118 = .ok (.dup2, 1) := by decide +kernel
theorem dX4_gather_119 : decode cX4_gather 119 = .ok (.iaload, 1) := by decide +kernel
theorem dX4_gather_120 : decode cX4_gather 120 = .ok (.iload 4, 2) := by decide +kernel
theorem dX4_gather_122 : decode cX4_gather 122 = .ok (.ior, 1) := by decide +kernel
theorem dX4_gather_123 : decode cX4_gather 123 = .ok (.iastore, 1) := by decide +kernel
theorem dX4_gather_124 : decode cX4_gather 124 = .ok (.iinc 3 1, 3) := by decide +kernel
theorem dX4_gather_127 : decode cX4_gather 127 = .ok (.goto (-104), 3) := by decide +kernel
theorem dX4_gather_130 : decode cX4_gather 130 = .ok (.iconst 0, 1) := by decide +kernel
theorem dX4_gather_131 : decode cX4_gather 131 = .ok (.istore_n 3, 1) := by decide +kernel
theorem dX4_gather_132 : decode cX4_gather 132 = .ok (.iload_n 3, 1) := by decide +kernel
theorem dX4_gather_133 : decode cX4_gather 133 = .ok (.aload_n 0, 1) := by decide +kernel
theorem dX4_gather_134 : decode cX4_gather 134 = .ok (.getfield 36, 3) := by decide +kernel
theorem dX4_gather_137 : decode cX4_gather 137 = .ok (.if_icmp .ge 51, 3) := by decide +kernel
theorem dX4_gather_140 : decode cX4_gather 140 = .ok (.aload_n 2, 1) := by decide +kernel
theorem dX4_gather_141 : decode cX4_gather 141 = .ok (.aload_n 0, 1) := by decide +kernel
theorem dX4_gather_142 : decode cX4_gather 142 = .ok (.getfield 9, 3) := by decide +kernel
theorem dX4_gather_145 : decode cX4_gather 145 = .ok (.iload_n 3, 1) := by decide +kernel
theorem dX4_gather_146 : decode cX4_gather 146 = .ok (.iaload, 1) := by decide +kernel
theorem dX4_gather_147 : decode cX4_gather 147 = .ok (.aload_n 0, 1) := by decide +kernel
theorem dX4_gather_148 : decode cX4_gather 148 = .ok (.getfield 15, 3) := by decide +kernel
theorem dX4_gather_151 : decode cX4_gather 151 = .ok (.iload_n 3, 1) := by decide +kernel
theorem dX4_gather_152 : decode cX4_gather 152 = .ok (.iaload, 1) := by decide +kernel
theorem dX4_gather_153 : decode cX4_gather 153 = .ok (.aload_n 0, 1) := by decide +kernel
theorem dX4_gather_154 : decode cX4_gather 154 = .ok (.getfield 18, 3) := by decide +kernel
theorem dX4_gather_157 : decode cX4_gather 157 = .ok (.iload_n 3, 1) := by decide +kernel
theorem dX4_gather_158 : decode cX4_gather 158 = .ok (.iaload, 1) := by decide +kernel
theorem dX4_gather_159 : decode cX4_gather 159 = .ok (.invokestatic 65, 3) := by decide +kernel
theorem dX4_gather_162 : decode cX4_gather 162 = .ok (.invokevirtual 71, 3) := by decide +kernel
theorem dX4_gather_165 : decode cX4_gather 165 = .ok (.aload_n 0, 1) := by decide +kernel
theorem dX4_gather_166 : decode cX4_gather 166 = .ok (.getfield 21, 3) := by decide +kernel
theorem dX4_gather_169 : decode cX4_gather 169 = .ok (.iload_n 3, 1) := by decide +kernel
theorem dX4_gather_170 : decode cX4_gather 170 = .ok (.aload_n 2, 1) := by decide +kernel
theorem dX4_gather_171 : decode cX4_gather 171 = .ok (.aload_n 1, 1) := by decide +kernel
theorem dX4_gather_172 : decode cX4_gather 172 = .ok (.invokevirtual 76, 3) := by decide +kernel
theorem dX4_gather_175 : decode cX4_gather 175 = .ok (.iconst 0, 1) := by decide +kernel
theorem dX4_gather_176 : decode cX4_gather 176 = .ok (.bipush 10, 2) := by decide +kernel
theorem dX4_gather_178 : decode cX4_gather 178 = .ok (.invokevirtual 80, 3) := by decide +kernel
theorem dX4_gather_181 : decode cX4_gather 181 = .ok (.iastore, 1) := by decide +kernel
theorem dX4_gather_182 : decode cX4_gather 182 = .ok (.iinc 3 1, 3) := by decide +kernel
theorem dX4_gather_185 : decode cX4_gather 185 = .ok (.goto (-53), 3) := by decide +kernel
theorem dX4_gather_188 : decode cX4_gather 188 = .ok (.return_, 1) := by decide +kernel
theorem dX4_addHolder_0 : decode cX4_addHolder 0 = .ok (.aload_n 0, 1) := by decide +kernel
theorem dX4_addHolder_1 : decode cX4_addHolder 1 = .ok (.iload_n 1, 1) := by decide +kernel
theorem dX4_addHolder_2 : decode cX4_addHolder 2 = .ok (.iload_n 2, 1) := by decide +kernel
theorem dX4_addHolder_3 : decode cX4_addHolder 3 = .ok (.invokevirtual 84, 3) := by decide +kernel
theorem dX4_addHolder_6 : decode cX4_addHolder 6 = .ok (.istore 4, 2) := by decide +kernel
theorem dX4_addHolder_8 : decode cX4_addHolder 8 = .ok (.iload 4, 2) := by decide +kernel
theorem dX4_addHolder_10 : decode cX4_addHolder 10 = .ok (.iconst (-1), 1) := by decide +kernel
theorem dX4_addHolder_11 : decode cX4_addHolder 11 = .ok (.if_icmp .ne 84, 3) := by decide +kernel
theorem dX4_addHolder_14 : decode cX4_addHolder 14 = .ok (.aload_n 0, 1) := by decide +kernel
theorem dX4_addHolder_15 : decode cX4_addHolder 15 = .ok (.getfield 36, 3) := by decide +kernel
theorem dX4_addHolder_18 : decode cX4_addHolder 18 = .ok (.sipush 200, 3) := by decide +kernel
theorem dX4_addHolder_21 : decode cX4_addHolder 21 = .ok (.if_icmp .ge 74, 3) := by decide +kernel
theorem dX4_addHolder_24 : decode cX4_addHolder 24 = .ok (.iload_n 1, 1) := by decide +kernel
theorem dX4_addHolder_25 : decode cX4_addHolder 25 = .ok (.ifCond .lt 70, 3) := by decide +kernel
theorem dX4_addHolder_28 : decode cX4_addHolder 28 = .ok (.iload_n 1, 1) := by decide +kernel
theorem dX4_addHolder_29 : decode cX4_addHolder 29 = .ok (.bipush 60, 2) := by decide +kernel
theorem dX4_addHolder_31 : decode cX4_addHolder 31 = .ok (.if_icmp .ge 64, 3) := by decide +kernel
theorem dX4_addHolder_34 : decode cX4_addHolder 34 = .ok (.aload_n 0, 1) := by decide +kernel
theorem dX4_addHolder_35 : decode cX4_addHolder 35 = .ok (.getfield 36, 3) := by decide +kernel
theorem dX4_addHolder_38 : decode cX4_addHolder 38 = .ok (.istore 4, 2) := by decide +kernel
theorem dX4_addHolder_40 : decode cX4_addHolder 40 = .ok (.aload_n 0, 1) := by decide +kernel
theorem dX4_addHolder_41 : decode cX4_addHolder 41 = .ok (.dup, 1) := by decide +kernel
theorem dX4_addHolder_42 : decode cX4_addHolder 42 = .ok (.getfield 36, 3) := by decide +kernel
theorem dX4_addHolder_45 : decode cX4_addHolder 45 = .ok (.iconst 1, 1) := by decide +kernel
theorem dX4_addHolder_46 : decode cX4_addHolder 46 = .ok (.iadd, 1) := by decide +kernel
theorem dX4_addHolder_47 : decode cX4_addHolder 47 = .ok (.putfield 36, 3) := by decide +kernel
theorem dX4_addHolder_50 : decode cX4_addHolder 50 = .ok (.aload_n 0, 1) := by decide +kernel
theorem dX4_addHolder_51 : decode cX4_addHolder 51 = .ok (.getfield 9, 3) := by decide +kernel
theorem dX4_addHolder_54 : decode cX4_addHolder 54 = .ok (.iload 4, 2) := by decide +kernel
theorem dX4_addHolder_56 : decode cX4_addHolder 56 = .ok (.iload_n 1, 1) := by decide +kernel
theorem dX4_addHolder_57 : decode cX4_addHolder 57 = .ok (.iastore, 1) := by decide +kernel
theorem dX4_addHolder_58 : decode cX4_addHolder 58 = .ok (.aload_n 0, 1) := by decide +kernel
theorem dX4_addHolder_59 : decode cX4_addHolder 59 = .ok (.getfield 15, 3) := by decide +kernel
theorem dX4_addHolder_62 : decode cX4_addHolder 62 = .ok (.iload 4, 2) := by decide +kernel
theorem dX4_addHolder_64 : decode cX4_addHolder 64 = .ok (.iload_n 2, 1) := by decide +kernel
theorem dX4_addHolder_65 : decode cX4_addHolder 65 = .ok (.iastore, 1) := by decide +kernel
theorem dX4_addHolder_66 : decode cX4_addHolder 66 = .ok (.aload_n 0, 1) := by decide +kernel
theorem dX4_addHolder_67 : decode cX4_addHolder 67 = .ok (.getfield 18, 3) := by decide +kernel
theorem dX4_addHolder_70 : decode cX4_addHolder 70 = .ok (.iload 4, 2) := by decide +kernel
theorem dX4_addHolder_72 : decode cX4_addHolder 72 = .ok (.iconst 0, 1) := by decide +kernel
theorem dX4_addHolder_73 : decode cX4_addHolder 73 = .ok (.iastore, 1) := by decide +kernel
theorem dX4_addHolder_74 : decode cX4_addHolder 74 = .ok (.aload_n 0, 1) := by decide +kernel
theorem dX4_addHolder_75 : decode cX4_addHolder 75 = .ok (.getfield 27, 3) := by decide +kernel
theorem dX4_addHolder_78 : decode cX4_addHolder 78 = .ok (.iload 4, 2) := by decide +kernel
theorem dX4_addHolder_80 : decode cX4_addHolder 80 = .ok (.aload_n 0, 1) := by decide +kernel
theorem dX4_addHolder_81 : decode cX4_addHolder 81 = .ok (.getfield 24, 3) := by decide +kernel
theorem dX4_addHolder_84 : decode cX4_addHolder 84 = .ok (.iload_n 1, 1) := by decide +kernel
theorem dX4_addHolder_85 : decode cX4_addHolder 85 = .ok (.iaload, 1) := by decide +kernel
theorem dX4_addHolder_86 : decode cX4_addHolder 86 = .ok (.iastore, 1) := by decide +kernel
theorem dX4_addHolder_87 : decode cX4_addHolder 87 = .ok (.aload_n 0, 1) := by decide +kernel
theorem dX4_addHolder_88 : decode cX4_addHolder 88 = .ok (.getfield 24, 3) := by decide +kernel
theorem dX4_addHolder_91 : decode cX4_addHolder 91 = .ok (.iload_n 1, 1) := by decide +kernel
theorem dX4_addHolder_92 : decode cX4_addHolder 92 = .ok (.iload 4, 2) := by decide +kernel
theorem dX4_addHolder_94 : decode cX4_addHolder 94 = .ok (.iastore, 1) := by decide +kernel
theorem dX4_addHolder_95 : decode cX4_addHolder 95 = .ok (.iload 4, 2) := by decide +kernel
theorem dX4_addHolder_97 : decode cX4_addHolder 97 = .ok (.iconst (-1), 1) := by decide +kernel
theorem dX4_addHolder_98 : decode cX4_addHolder 98 = .ok (.if_icmp .eq 14, 3) := by decide +kernel
theorem dX4_addHolder_101 : decode cX4_addHolder 101 = .ok (.aload_n 0, 1) := by decide +kernel
theorem dX4_addHolder_102 : decode cX4_addHolder 102 = .ok (.getfield 18, 3) := by decide +kernel
theorem dX4_addHolder_105 : decode cX4_addHolder 105 = .ok (.iload 4, 2) := by decide +kernel
theorem dX4_addHolder_107 : decode cX4_addHolder 107 = .ok (.dup2, 1) := by decide +kernel
theorem dX4_addHolder_108 : decode cX4_addHolder 108 = .ok (.iaload, 1) := by decide +kernel
theorem dX4_addHolder_109 : decode cX4_addHolder 109 = .ok (.iload_n 3, 1) := by decide +kernel
theorem dX4_addHolder_110 : decode cX4_addHolder 110 = .ok (.ior, 1) := by decide +kernel
theorem dX4_addHolder_111 : decode cX4_addHolder 111 = .ok (.iastore, 1) := by decide +kernel
theorem dX4_addHolder_112 : decode cX4_addHolder 112 = .ok (.return_, 1) := by decide +kernel
theorem dX4_find_0 : decode cX4_find 0 = .ok (.iload_n 1, 1) := by decide +kernel
theorem dX4_find_1 : decode cX4_find 1 = .ok (.ifCond .lt 18, 3) := by decide +kernel
theorem dX4_find_4 : decode cX4_find 4 = .ok (.iload_n 1, 1) := by decide +kernel
theorem dX4_find_5 : decode cX4_find 5 = .ok (.bipush 60, 2) := by decide +kernel
theorem dX4_find_7 : decode cX4_find 7 = .ok (.if_icmp .ge 12, 3) := by decide +kernel
theorem dX4_find_10 : decode cX4_find 10 = .ok (.aload_n 0, 1) := by decide +kernel
theorem dX4_find_11 : decode cX4_find 11 = .ok (.getfield 24, 3) := by decide +kernel
theorem dX4_find_14 : decode cX4_find 14 = .ok (.iload_n 1, 1) := by decide +kernel
theorem dX4_find_15 : decode cX4_find 15 = .ok (.iaload, 1) := by decide +kernel
theorem dX4_find_16 : decode cX4_find 16 = .ok (.goto 4, 3) := by decide +kernel
theorem dX4_find_19 : decode cX4_find 19 = .ok (.iconst (-1), 1) := by decide +kernel
theorem dX4_find_20 : decode cX4_find 20 = .ok (.istore_n 3, 1) := by decide +kernel
theorem dX4_find_21 : decode cX4_find 21 = .ok (.iconst 0, 1) := by decide +kernel
theorem dX4_find_22 : decode cX4_find 22 = .ok (.istore 4, 2) := by decide +kernel
theorem dX4_find_24 : decode cX4_find 24 = .ok (.iload 4, 2) := by decide +kernel
theorem dX4_find_26 : decode cX4_find 26 = .ok (.sipush 200, 3) := by decide +kernel
theorem dX4_find_29 : decode cX4_find 29 = .ok (.if_icmp .ge 40, 3) := by decide +kernel
theorem dX4_find_32 : decode cX4_find 32 = .ok (.iload_n 3, 1) := by decide +kernel
theorem dX4_find_33 : decode cX4_find 33 = .ok (.ifCond .lt 36, 3) := by decide +kernel
theorem dX4_find_36 : decode cX4_find 36 = .ok (.iload_n 3, 1) := by decide +kernel
theorem dX4_find_37 : decode cX4_find 37 = .ok (.aload_n 0, 1) := by decide +kernel
theorem dX4_find_38 : decode cX4_find 38 = .ok (.getfield 36, 3) := by decide +kernel
theorem dX4_find_41 : decode cX4_find 41 = .ok (.if_icmp .ge 28, 3) := by decide +kernel
theorem dX4_find_44 : decode cX4_find 44 = .ok (.aload_n 0, 1) := by decide +kernel
theorem dX4_find_45 : decode cX4_find 45 = .ok (.getfield 15, 3) := by decide +kernel
theorem dX4_find_48 : decode cX4_find 48 = .ok (.iload_n 3, 1) := by decide +kernel
theorem dX4_find_49 : decode cX4_find 49 = .ok (.iaload, 1) := by decide +kernel
theorem dX4_find_50 : decode cX4_find 50 = .ok (.iload_n 2, 1) := by decide +kernel
theorem dX4_find_51 : decode cX4_find 51 = .ok (.if_icmp .ne 5, 3) := by decide +kernel
theorem dX4_find_54 : decode cX4_find 54 = .ok (.iload_n 3, 1) := by decide +kernel
theorem dX4_find_55 : decode cX4_find 55 = .ok (.ireturn, 1) := by decide +kernel
theorem dX4_find_56 : decode cX4_find 56 = .ok (.aload_n 0, 1) := by decide +kernel
theorem dX4_find_57 : decode cX4_find 57 = .ok (.getfield 27, 3) := by decide +kernel
theorem dX4_find_60 : decode cX4_find 60 = .ok (.iload_n 3, 1) := by decide +kernel
theorem dX4_find_61 : decode cX4_find 61 = .ok (.iaload, 1) := by decide +kernel
theorem dX4_find_62 : decode cX4_find 62 = .ok (.istore_n 3, 1) := by decide +kernel
theorem dX4_find_63 : decode cX4_find 63 = .ok (.iinc 4 1, 3) := by decide +kernel
theorem dX4_find_66 : decode cX4_find 66 = .ok (.goto (-42), 3) := by decide +kernel
theorem dX4_find_69 : decode cX4_find 69 = .ok (.iconst (-1), 1) := by decide +kernel
theorem dX4_find_70 : decode cX4_find 70 = .ok (.ireturn, 1) := by decide +kernel
theorem dX4_holdersOf_0 : decode cX4_holdersOf 0 = .ok (.aload_n 0, 1) := by decide +kernel
theorem dX4_holdersOf_1 : decode cX4_holdersOf 1 = .ok (.iload_n 1, 1) := by decide +kernel
theorem dX4_holdersOf_2 : decode cX4_holdersOf 2 = .ok (.iload_n 2, 1) := by decide +kernel
theorem dX4_holdersOf_3 : decode cX4_holdersOf 3 = .ok (.invokevirtual 84, 3) := by decide +kernel
theorem dX4_holdersOf_6 : decode cX4_holdersOf 6 = .ok (.istore_n 3, 1) := by decide +kernel
theorem dX4_holdersOf_7 : decode cX4_holdersOf 7 = .ok (.iload_n 3, 1) := by decide +kernel
theorem dX4_holdersOf_8 : decode cX4_holdersOf 8 = .ok (.iconst (-1), 1) := by decide +kernel
theorem dX4_holdersOf_9 : decode cX4_holdersOf 9 = .ok (.if_icmp .ne 7, 3) := by decide +kernel
theorem dX4_holdersOf_12 : decode cX4_holdersOf 12 = .ok (.iconst 0, 1) := by decide +kernel
theorem dX4_holdersOf_13 : decode cX4_holdersOf 13 = .ok (.goto 9, 3) := by decide +kernel
theorem dX4_holdersOf_16 : decode cX4_holdersOf 16 = .ok (.aload_n 0, 1) := by decide +kernel
theorem dX4_holdersOf_17 : decode cX4_holdersOf 17 = .ok (.getfield 18, 3) := by decide +kernel
theorem dX4_holdersOf_20 : decode cX4_holdersOf 20 = .ok (.iload_n 3, 1) := by decide +kernel
theorem dX4_holdersOf_21 : decode cX4_holdersOf 21 = .ok (.iaload, 1) := by decide +kernel
theorem dX4_holdersOf_22 : decode cX4_holdersOf 22 = .ok (.ireturn, 1) := by decide +kernel
theorem dX4_sharedOf_0 : decode cX4_sharedOf 0 = .ok (.aload_n 1, 1) := by decide +kernel
theorem dX4_sharedOf_1 : decode cX4_sharedOf 1 = .ok (.getfield 46, 3) := by decide +kernel
theorem dX4_sharedOf_4 : decode cX4_sharedOf 4 = .ok (.iload_n 2, 1) := by decide +kernel
theorem dX4_sharedOf_5 : decode cX4_sharedOf 5 = .ok (.iconst 4, 1) := by decide +kernel
theorem dX4_sharedOf_6 : decode cX4_sharedOf 6 = .ok (.invokevirtual 57, 3) := by decide +kernel
theorem dX4_sharedOf_9 : decode cX4_sharedOf 9 = .ok (.ifCond .eq 5, 3) := by decide +kernel
theorem dX4_sharedOf_12 : decode cX4_sharedOf 12 = .ok (.iconst 0, 1) := by decide +kernel
theorem dX4_sharedOf_13 : decode cX4_sharedOf 13 = .ok (.ireturn, 1) := by decide +kernel
theorem dX4_sharedOf_14 : decode cX4_sharedOf 14 = .ok (.aload_n 1, 1) := by decide +kernel
theorem dX4_sharedOf_15 : decode cX4_sharedOf 15 = .ok (.getfield 46, 3) := by decide +kernel
theorem dX4_sharedOf_18 : decode cX4_sharedOf 18 = .ok (.iload_n 2, 1) := by decide +kernel
theorem dX4_sharedOf_19 : decode cX4_sharedOf 19 = .ok (.iconst 1, 1) := by decide +kernel
theorem dX4_sharedOf_20 : decode cX4_sharedOf 20 = .ok (.invokevirtual 57, 3) := by decide +kernel
theorem dX4_sharedOf_23 : decode cX4_sharedOf 23 = .ok (.istore_n 3, 1) := by decide +kernel
theorem dX4_sharedOf_24 : decode cX4_sharedOf 24 = .ok (.aload_n 0, 1) := by decide +kernel
theorem dX4_sharedOf_25 : decode cX4_sharedOf 25 = .ok (.iload_n 3, 1) := by decide +kernel
theorem dX4_sharedOf_26 : decode cX4_sharedOf 26 = .ok (.aload_n 1, 1) := by decide +kernel
theorem dX4_sharedOf_27 : decode cX4_sharedOf 27 = .ok (.getfield 46, 3) := by decide +kernel
theorem dX4_sharedOf_30 : decode cX4_sharedOf 30 = .ok (.iload_n 2, 1) := by decide +kernel
theorem dX4_sharedOf_31 : decode cX4_sharedOf 31 = .ok (.iconst 2, 1) := by decide +kernel
theorem dX4_sharedOf_32 : decode cX4_sharedOf 32 = .ok (.invokevirtual 57, 3) := by decide +kernel
theorem dX4_sharedOf_35 : decode cX4_sharedOf 35 = .ok (.invokevirtual 87, 3) := by decide +kernel
theorem dX4_sharedOf_38 : decode cX4_sharedOf 38 = .ok (.invokestatic 65, 3) := by decide +kernel
theorem dX4_sharedOf_41 : decode cX4_sharedOf 41 = .ok (.ireturn, 1) := by decide +kernel
theorem dX4_ownCost_0 : decode cX4_ownCost 0 = .ok (.iconst 0, 1) := by decide +kernel
theorem dX4_ownCost_1 : decode cX4_ownCost 1 = .ok (.istore_n 3, 1) := by decide +kernel
theorem dX4_ownCost_2 : decode cX4_ownCost 2 = .ok (.iconst 0, 1) := by decide +kernel
theorem dX4_ownCost_3 : decode cX4_ownCost 3 = .ok (.istore 4, 2) := by decide +kernel
theorem dX4_ownCost_5 : decode cX4_ownCost 5 = .ok (.iload 4, 2) := by decide +kernel
theorem dX4_ownCost_7 : decode cX4_ownCost 7 = .ok (.aload_n 0, 1) := by decide +kernel
theorem dX4_ownCost_8 : decode cX4_ownCost 8 = .ok (.getfield 36, 3) := by decide +kernel
theorem dX4_ownCost_11 : decode cX4_ownCost 11 = .ok (.if_icmp .ge 31, 3) := by decide +kernel
theorem dX4_ownCost_14 : decode cX4_ownCost 14 = .ok (.iload_n 3, 1) := by decide +kernel
theorem dX4_ownCost_15 : decode cX4_ownCost 15 = .ok (.aload_n 0, 1) := by decide +kernel
theorem dX4_ownCost_16 : decode cX4_ownCost 16 = .ok (.getfield 18, 3) := by decide +kernel
theorem dX4_ownCost_19 : decode cX4_ownCost 19 = .ok (.iload 4, 2) := by decide +kernel
theorem dX4_ownCost_21 : decode cX4_ownCost 21 = .ok (.iaload, 1) := by decide +kernel
theorem dX4_ownCost_22 : decode cX4_ownCost 22 = .ok (.iload_n 2, 1) := by decide +kernel
theorem dX4_ownCost_23 : decode cX4_ownCost 23 = .ok (.ishr, 1) := by decide +kernel
theorem dX4_ownCost_24 : decode cX4_ownCost 24 = .ok (.iconst 1, 1) := by decide +kernel
theorem dX4_ownCost_25 : decode cX4_ownCost 25 = .ok (.iand, 1) := by decide +kernel
theorem dX4_ownCost_26 : decode cX4_ownCost 26 = .ok (.aload_n 0, 1) := by decide +kernel
theorem dX4_ownCost_27 : decode cX4_ownCost 27 = .ok (.getfield 21, 3) := by decide +kernel
theorem dX4_ownCost_30 : decode cX4_ownCost 30 = .ok (.iload 4, 2) := by decide +kernel
theorem dX4_ownCost_32 : decode cX4_ownCost 32 = .ok (.iaload, 1) := by decide +kernel
theorem dX4_ownCost_33 : decode cX4_ownCost 33 = .ok (.imul, 1) := by decide +kernel
theorem dX4_ownCost_34 : decode cX4_ownCost 34 = .ok (.iadd, 1) := by decide +kernel
theorem dX4_ownCost_35 : decode cX4_ownCost 35 = .ok (.istore_n 3, 1) := by decide +kernel
theorem dX4_ownCost_36 : decode cX4_ownCost 36 = .ok (.iinc 4 1, 3) := by decide +kernel
theorem dX4_ownCost_39 : decode cX4_ownCost 39 = .ok (.goto (-34), 3) := by decide +kernel
theorem dX4_ownCost_42 : decode cX4_ownCost 42 = .ok (.iload_n 3, 1) := by decide +kernel
theorem dX4_ownCost_43 : decode cX4_ownCost 43 = .ok (.aload_n 1, 1) := by decide +kernel
theorem dX4_ownCost_44 : decode cX4_ownCost 44 = .ok (.getfield 90, 3) := by decide +kernel
theorem dX4_ownCost_47 : decode cX4_ownCost 47 = .ok (.iconst 2, 1) := by decide +kernel
theorem dX4_ownCost_48 : decode cX4_ownCost 48 = .ok (.iaload, 1) := by decide +kernel
theorem dX4_ownCost_49 : decode cX4_ownCost 49 = .ok (.imul, 1) := by decide +kernel
theorem dX4_ownCost_50 : decode cX4_ownCost 50 = .ok (.ireturn, 1) := by decide +kernel
theorem dX4_costFrom_0 : decode cX4_costFrom 0 = .ok (.iconst 0, 1) := by decide +kernel
theorem dX4_costFrom_1 : decode cX4_costFrom 1 = .ok (.istore 4, 2) := by decide +kernel
theorem dX4_costFrom_3 : decode cX4_costFrom 3 = .ok (.iconst 0, 1) := by decide +kernel
theorem dX4_costFrom_4 : decode cX4_costFrom 4 = .ok (.istore 5, 2) := by decide +kernel
theorem dX4_costFrom_6 : decode cX4_costFrom 6 = .ok (.iconst 0, 1) := by decide +kernel
theorem dX4_costFrom_7 : decode cX4_costFrom 7 = .ok (.istore 6, 2) := by decide +kernel
theorem dX4_costFrom_9 : decode cX4_costFrom 9 = .ok (.iload 6, 2) := by decide +kernel
theorem dX4_costFrom_11 : decode cX4_costFrom 11 = .ok (.aload_n 0, 1) := by decide +kernel
theorem dX4_costFrom_12 : decode cX4_costFrom 12 = .ok (.getfield 36, 3) := by decide +kernel
theorem dX4_costFrom_15 : decode cX4_costFrom 15 = .ok (.if_icmp .ge 128, 3) := by decide +kernel
theorem dX4_costFrom_18 : decode cX4_costFrom 18 = .ok (.aload_n 0, 1) := by decide +kernel
theorem dX4_costFrom_19 : decode cX4_costFrom 19 = .ok (.getfield 18, 3) := by decide +kernel
theorem dX4_costFrom_22 : decode cX4_costFrom 22 = .ok (.iload 6, 2) := by decide +kernel
theorem dX4_costFrom_24 : decode cX4_costFrom 24 = .ok (.iaload, 1) := by decide +kernel
theorem dX4_costFrom_25 : decode cX4_costFrom 25 = .ok (.iload_n 3, 1) := by decide +kernel
theorem dX4_costFrom_26 : decode cX4_costFrom 26 = .ok (.ishr, 1) := by decide +kernel
theorem dX4_costFrom_27 : decode cX4_costFrom 27 = .ok (.iconst 1, 1) := by decide +kernel
theorem dX4_costFrom_28 : decode cX4_costFrom 28 = .ok (.iand, 1) := by decide +kernel
theorem dX4_costFrom_29 : decode cX4_costFrom 29 = .ok (.iconst 1, 1) := by decide +kernel
theorem dX4_costFrom_30 : decode cX4_costFrom 30 = .ok (.if_icmp .ne 7, 3) := by decide +kernel
theorem dX4_costFrom_33 : decode cX4_costFrom 33 = .ok (.iconst 1, 1) := by decide +kernel
theorem dX4_costFrom_34 : decode cX4_costFrom 34 = .ok (.goto 4, 3) := by decide +kernel
theorem dX4_costFrom_37 : decode cX4_costFrom 37 = .ok (.iconst 0, 1) := by decide +kernel
theorem dX4_costFrom_38 : decode cX4_costFrom 38 = .ok (.istore 7, 2) := by decide +kernel
theorem dX4_costFrom_40 : decode cX4_costFrom 40 = .ok (.aload_n 0, 1) := by decide +kernel
theorem dX4_costFrom_41 : decode cX4_costFrom 41 = .ok (.getfield 18, 3) := by decide +kernel
theorem dX4_costFrom_44 : decode cX4_costFrom 44 = .ok (.iload 6, 2) := by decide +kernel
theorem dX4_costFrom_46 : decode cX4_costFrom 46 = .ok (.iaload, 1) := by decide +kernel
theorem dX4_costFrom_47 : decode cX4_costFrom 47 = .ok (.iload_n 2, 1) := by decide +kernel
theorem dX4_costFrom_48 : decode cX4_costFrom 48 = .ok (.iand, 1) := by decide +kernel
theorem dX4_costFrom_49 : decode cX4_costFrom 49 = .ok (.ifCond .eq 7, 3) := by decide +kernel
theorem dX4_costFrom_52 : decode cX4_costFrom 52 = .ok (.iconst 1, 1) := by decide +kernel
theorem dX4_costFrom_53 : decode cX4_costFrom 53 = .ok (.goto 4, 3) := by decide +kernel
theorem dX4_costFrom_56 : decode cX4_costFrom 56 = .ok (.iconst 0, 1) := by decide +kernel
theorem dX4_costFrom_57 : decode cX4_costFrom 57 = .ok (.istore 8, 2) := by decide +kernel
theorem dX4_costFrom_59 : decode cX4_costFrom 59 = .ok (.aload_n 0, 1) := by decide +kernel
theorem dX4_costFrom_60 : decode cX4_costFrom 60 = .ok (.getfield 30, 3) := by decide +kernel
theorem dX4_costFrom_63 : decode cX4_costFrom 63 = .ok (.aload_n 0, 1) := by decide +kernel
theorem dX4_costFrom_64 : decode cX4_costFrom 64 = .ok (.getfield 9, 3) := by decide +kernel
theorem dX4_costFrom_67 : decode cX4_costFrom 67 = .ok (.iload 6, 2) := by decide +kernel
theorem dX4_costFrom_69 : decode cX4_costFrom 69 = .ok (.iaload, 1) := by decide +kernel
theorem dX4_costFrom_70 : decode cX4_costFrom 70 = .ok (.iaload, 1) := by decide +kernel
theorem dX4_costFrom_71 : decode cX4_costFrom 71 = .ok (.istore 9, 2) := by decide +kernel
theorem dX4_costFrom_73 : decode cX4_costFrom 73 = .ok (.iload 7, 2) := by decide +kernel
theorem dX4_costFrom_75 : decode cX4_costFrom 75 = .ok (.ifCond .eq 31, 3) := by decide +kernel
theorem dX4_costFrom_78 : decode cX4_costFrom 78 = .ok (.iload 8, 2) := by decide +kernel
theorem dX4_costFrom_80 : decode cX4_costFrom 80 = .ok (.ifCond .ne 26, 3) := by decide +kernel
theorem dX4_costFrom_83 : decode cX4_costFrom 83 = .ok (.iload 9, 2) := by decide +kernel
theorem dX4_costFrom_85 : decode cX4_costFrom 85 = .ok (.iload_n 2, 1) := by decide +kernel
theorem dX4_costFrom_86 : decode cX4_costFrom 86 = .ok (.iand, 1) := by decide +kernel
theorem dX4_costFrom_87 : decode cX4_costFrom 87 = .ok (.iload_n 2, 1) := by decide +kernel
theorem dX4_costFrom_88 : decode cX4_costFrom 88 = .ok (.if_icmp .eq 18, 3) := by decide +kernel
theorem dX4_costFrom_91 : decode cX4_costFrom 91 = .ok (.iload 4, 2) := by decide +kernel
theorem dX4_costFrom_93 : decode cX4_costFrom 93 = .ok (.aload_n 0, 1) := by decide +kernel
theorem dX4_costFrom_94 : decode cX4_costFrom 94 = .ok (.getfield 21, 3) := by decide +kernel
theorem dX4_costFrom_97 : decode cX4_costFrom 97 = .ok (.iload 6, 2) := by decide +kernel
theorem dX4_costFrom_99 : decode cX4_costFrom 99 = .ok (.iaload, 1) := by decide +kernel
theorem dX4_costFrom_100 : decode cX4_costFrom 100 = .ok (.iadd, 1) := by decide +kernel
theorem dX4_costFrom_101 : decode cX4_costFrom 101 = .ok (.istore 4, 2) := by decide +kernel
theorem dX4_costFrom_103 : decode cX4_costFrom 103 = .ok (.goto 34, 3) := by decide +kernel
theorem dX4_costFrom_106 : decode cX4_costFrom 106 = .ok (.iload 8, 2) := by decide +kernel
theorem dX4_costFrom_108 : decode cX4_costFrom 108 = .ok (.ifCond .eq 29, 3) := by decide +kernel
theorem dX4_costFrom_111 : decode cX4_costFrom 111 = .ok (.iload 7, 2) := by decide +kernel
theorem dX4_costFrom_113 : decode cX4_costFrom 113 = .ok (.ifCond .ne 24, 3) := by decide +kernel
theorem dX4_costFrom_116 : decode cX4_costFrom 116 = .ok (.iload 9, 2) := by decide +kernel
theorem dX4_costFrom_118 : decode cX4_costFrom 118 = .ok (.iload_n 3, 1) := by decide +kernel
theorem dX4_costFrom_119 : decode cX4_costFrom 119 = .ok (.ishr, 1) := by decide +kernel
theorem dX4_costFrom_120 : decode cX4_costFrom 120 = .ok (.iconst 1, 1) := by decide +kernel
theorem dX4_costFrom_121 : decode cX4_costFrom 121 = .ok (.iand, 1) := by decide +kernel
theorem dX4_costFrom_122 : decode cX4_costFrom 122 = .ok (.ifCond .ne 15, 3) := by decide +kernel
theorem dX4_costFrom_125 : decode cX4_costFrom 125 = .ok (.iload 5, 2) := by decide +kernel
theorem dX4_costFrom_127 : decode cX4_costFrom 127 = .ok (.aload_n 0, 1) := by decide +kernel
theorem dX4_costFrom_128 : decode cX4_costFrom 128 = .ok (.getfield 21, 3) := by decide +kernel
theorem dX4_costFrom_131 : decode cX4_costFrom 131 = .ok (.iload 6, 2) := by decide +kernel
theorem dX4_costFrom_133 : decode cX4_costFrom 133 = .ok (.iaload, 1) := by decide +kernel
theorem dX4_costFrom_134 : decode cX4_costFrom 134 = .ok (.iadd, 1) := by decide +kernel
theorem dX4_costFrom_135 : decode cX4_costFrom 135 = .ok (.istore 5, 2) := by decide +kernel
theorem dX4_costFrom_137 : decode cX4_costFrom 137 = .ok (.iinc 6 1, 3) := by decide +kernel
theorem dX4_costFrom_140 : decode cX4_costFrom 140 = .ok (.goto (-131), 3) := by decide +kernel
theorem dX4_costFrom_143 : decode cX4_costFrom 143 = .ok (.aload_n 1, 1) := by decide +kernel
theorem dX4_costFrom_144 : decode cX4_costFrom 144 = .ok (.getfield 90, 3) := by decide +kernel
theorem dX4_costFrom_147 : decode cX4_costFrom 147 = .ok (.iconst 0, 1) := by decide +kernel
theorem dX4_costFrom_148 : decode cX4_costFrom 148 = .ok (.iaload, 1) := by decide +kernel
theorem dX4_costFrom_149 : decode cX4_costFrom 149 = .ok (.iload 4, 2) := by decide +kernel
theorem dX4_costFrom_151 : decode cX4_costFrom 151 = .ok (.imul, 1) := by decide +kernel
theorem dX4_costFrom_152 : decode cX4_costFrom 152 = .ok (.aload_n 1, 1) := by decide +kernel
theorem dX4_costFrom_153 : decode cX4_costFrom 153 = .ok (.getfield 90, 3) := by decide +kernel
theorem dX4_costFrom_156 : decode cX4_costFrom 156 = .ok (.iconst 1, 1) := by decide +kernel
theorem dX4_costFrom_157 : decode cX4_costFrom 157 = .ok (.iaload, 1) := by decide +kernel
theorem dX4_costFrom_158 : decode cX4_costFrom 158 = .ok (.iload 5, 2) := by decide +kernel
theorem dX4_costFrom_160 : decode cX4_costFrom 160 = .ok (.imul, 1) := by decide +kernel
theorem dX4_costFrom_161 : decode cX4_costFrom 161 = .ok (.iadd, 1) := by decide +kernel
theorem dX4_costFrom_162 : decode cX4_costFrom 162 = .ok (.ireturn, 1) := by decide +kernel
theorem dX4_bestPair_0 : decode cX4_bestPair 0 = .ok (.aload_n 1, 1) := by decide +kernel
theorem dX4_bestPair_1 : decode cX4_bestPair 1 = .ok (.iload_n 2, 1) := by decide +kernel
theorem dX4_bestPair_2 : decode cX4_bestPair 2 = .ok (.invokevirtual 93, 3) := by decide +kernel
theorem dX4_bestPair_5 : decode cX4_bestPair 5 = .ok (.istore_n 3, 1) := by decide +kernel
theorem dX4_bestPair_6 : decode cX4_bestPair 6 = .ok (.iconst 0, 1) := by decide +kernel
theorem dX4_bestPair_7 : decode cX4_bestPair 7 = .ok (.istore 4, 2) := by decide +kernel
theorem dX4_bestPair_9 : decode cX4_bestPair 9 = .ok (.iconst 0, 1) := by decide +kernel
theorem dX4_bestPair_10 : decode cX4_bestPair 10 = .ok (.istore 5, 2) := by decide +kernel
theorem dX4_bestPair_12 : decode cX4_bestPair 12 = .ok (.iconst 0, 1) := by decide +kernel
theorem dX4_bestPair_13 : decode cX4_bestPair 13 = .ok (.istore 6, 2) := by decide +kernel
theorem dX4_bestPair_15 : decode cX4_bestPair 15 = .ok (.iload 6, 2) := by decide +kernel
theorem dX4_bestPair_17 : decode cX4_bestPair 17 = .ok (.bipush 12, 2) := by decide +kernel
theorem dX4_bestPair_19 : decode cX4_bestPair 19 = .ok (.if_icmp .ge 78, 3) := by decide +kernel
theorem dX4_bestPair_22 : decode cX4_bestPair 22 = .ok (.iload 6, 2) := by decide +kernel
theorem dX4_bestPair_24 : decode cX4_bestPair 24 = .ok (.iconst 1, 1) := by decide +kernel
theorem dX4_bestPair_25 : decode cX4_bestPair 25 = .ok (.iadd, 1) := by decide +kernel
theorem dX4_bestPair_26 : decode cX4_bestPair 26 = .ok (.istore 7, 2) := by decide +kernel
theorem dX4_bestPair_28 : decode cX4_bestPair 28 = .ok (.iload 7, 2) := by decide +kernel
theorem dX4_bestPair_30 : decode cX4_bestPair 30 = .ok (.bipush 12, 2) := by decide +kernel
theorem dX4_bestPair_32 : decode cX4_bestPair 32 = .ok (.if_icmp .ge 59, 3) := by decide +kernel
theorem dX4_bestPair_35 : decode cX4_bestPair 35 = .ok (.iconst 1, 1) := by decide +kernel
theorem dX4_bestPair_36 : decode cX4_bestPair 36 = .ok (.iload 6, 2) := by decide +kernel
theorem dX4_bestPair_38 : decode cX4_bestPair 38 = .ok (.ishl, 1) := by decide +kernel
theorem dX4_bestPair_39 : decode cX4_bestPair 39 = .ok (.iconst 1, 1) := by decide +kernel
theorem dX4_bestPair_40 : decode cX4_bestPair 40 = .ok (.iload 7, 2) := by decide +kernel
theorem dX4_bestPair_42 : decode cX4_bestPair 42 = .ok (.ishl, 1) := by decide +kernel
theorem dX4_bestPair_43 : decode cX4_bestPair 43 = .ok (.ior, 1) := by decide +kernel
theorem dX4_bestPair_44 : decode cX4_bestPair 44 = .ok (.istore 8, 2) := by decide +kernel
theorem dX4_bestPair_46 : decode cX4_bestPair 46 = .ok (.iload_n 3, 1) := by decide +kernel
theorem dX4_bestPair_47 : decode cX4_bestPair 47 = .ok (.iload 8, 2) := by decide +kernel
theorem dX4_bestPair_49 : decode cX4_bestPair 49 = .ok (.iand, 1) := by decide +kernel
theorem dX4_bestPair_50 : decode cX4_bestPair 50 = .ok (.iload 8, 2) := by decide +kernel
theorem dX4_bestPair_52 : decode cX4_bestPair 52 = .ok (.if_icmp .ne 33, 3) := by decide +kernel
theorem dX4_bestPair_55 : decode cX4_bestPair 55 = .ok (.aload_n 0, 1) := by decide +kernel
theorem dX4_bestPair_56 : decode cX4_bestPair 56 = .ok (.aload_n 1, 1) := by decide +kernel
theorem dX4_bestPair_57 : decode cX4_bestPair 57 = .ok (.iload 8, 2) := by decide +kernel
theorem dX4_bestPair_59 : decode cX4_bestPair 59 = .ok (.iload_n 2, 1) := by decide +kernel
theorem dX4_bestPair_60 : decode cX4_bestPair 60 = .ok (.invokevirtual 96, 3) := by decide +kernel
theorem dX4_bestPair_63 : decode cX4_bestPair 63 = .ok (.istore 9, 2) := by decide +kernel
theorem dX4_bestPair_65 : decode cX4_bestPair 65 = .ok (.iload 4, 2) := by decide +kernel
theorem dX4_bestPair_67 : decode cX4_bestPair 67 = .ok (.ifCond .eq 10, 3) := by decide +kernel
theorem dX4_bestPair_70 : decode cX4_bestPair 70 = .ok (.iload 9, 2) := by decide +kernel
theorem dX4_bestPair_72 : decode cX4_bestPair 72 = .ok (.iload 5, 2) := by decide +kernel
theorem dX4_bestPair_74 : decode cX4_bestPair 74 = .ok (.if_icmp .ge 11, 3) := by decide +kernel
theorem dX4_bestPair_77 : decode cX4_bestPair 77 = .ok (.iload 8, 2) := by decide +kernel
theorem dX4_bestPair_79 : decode cX4_bestPair 79 = .ok (.istore 4, 2) := by decide +kernel
theorem dX4_bestPair_81 : decode cX4_bestPair 81 = .ok (.iload 9, 2) := by decide +kernel
theorem dX4_bestPair_83 : decode cX4_bestPair 83 = .ok (.istore 5, 2) := by decide +kernel
theorem dX4_bestPair_85 : decode cX4_bestPair 85 = .ok (.iinc 7 1, 3) := by decide +kernel
theorem dX4_bestPair_88 : decode cX4_bestPair 88 = .ok (.goto (-60), 3) := by decide +kernel
theorem dX4_bestPair_91 : decode cX4_bestPair 91 = .ok (.iinc 6 1, 3) := by decide +kernel
theorem dX4_bestPair_94 : decode cX4_bestPair 94 = .ok (.goto (-79), 3) := by decide +kernel
theorem dX4_bestPair_97 : decode cX4_bestPair 97 = .ok (.iload 4, 2) := by decide +kernel
theorem dX4_bestPair_99 : decode cX4_bestPair 99 = .ok (.ireturn, 1) := by decide +kernel
theorem dX4_bestSingleCost_0 : decode cX4_bestSingleCost 0 = .ok (.aload_n 1, 1) := by decide +kernel
theorem dX4_bestSingleCost_1 : decode cX4_bestSingleCost 1 = .ok (.iload_n 2, 1) := by decide +kernel
theorem dX4_bestSingleCost_2 : decode cX4_bestSingleCost 2 = .ok (.invokevirtual 93, 3) := by decide +kernel
theorem dX4_bestSingleCost_5 : decode cX4_bestSingleCost 5 = .ok (.istore_n 3, 1) := by decide +kernel
theorem dX4_bestSingleCost_6 : decode cX4_bestSingleCost 6 = .ok (.aload_n 0, 1) := by decide +kernel
theorem dX4_bestSingleCost_7 : decode cX4_bestSingleCost 7 = .ok (.aload_n 1, 1) := by decide +kernel
theorem dX4_bestSingleCost_8 : decode cX4_bestSingleCost 8 = .ok (.iload_n 2, 1) := by decide +kernel
theorem dX4_bestSingleCost_9 : decode cX4_bestSingleCost 9 = .ok (.invokevirtual 100, 3) := by decide +kernel
theorem dX4_bestSingleCost_12 : decode cX4_bestSingleCost 12 = .ok (.istore 4, 2) := by decide +kernel
theorem dX4_bestSingleCost_14 : decode cX4_bestSingleCost 14 = .ok (.iconst 0, 1) := by decide +kernel
theorem dX4_bestSingleCost_15 : decode cX4_bestSingleCost 15 = .ok (.istore 5, 2) := by decide +kernel
theorem dX4_bestSingleCost_17 : decode cX4_bestSingleCost 17 = .ok (.iload 5, 2) := by decide +kernel
theorem dX4_bestSingleCost_19 : decode cX4_bestSingleCost 19 = .ok (.bipush 12, 2) := by decide +kernel
theorem dX4_bestSingleCost_21 : decode cX4_bestSingleCost 21 = .ok (.if_icmp .ge 36, 3) := by decide +kernel
theorem dX4_bestSingleCost_24 : decode cX4_bestSingleCost 24 = .ok (.iload_n 3, 1) := by decide +kernel
theorem dX4_bestSingleCost_25 : decode cX4_bestSingleCost 25 = .ok (.iload 5, 2) := by decide +kernel
theorem dX4_bestSingleCost_27 : decode cX4_bestSingleCost 27 = .ok (.ishr, 1) := by decide +kernel
theorem dX4_bestSingleCost_28 : decode cX4_bestSingleCost 28 = .ok (.iconst 1, 1) := by decide +kernel
theorem dX4_bestSingleCost_29 : decode cX4_bestSingleCost 29 = .ok (.iand, 1) := by decide +kernel
theorem dX4_bestSingleCost_30 : decode cX4_bestSingleCost 30 = .ok (.iconst 1, 1) := by decide +kernel
theorem dX4_bestSingleCost_31 : decode cX4_bestSingleCost 31 = .ok (.if_icmp .ne 20, 3) := by decide +kernel
theorem dX4_bestSingleCost_34 : decode cX4_bestSingleCost 34 = .ok (.iload 4, 2) := by decide +kernel
theorem dX4_bestSingleCost_36 : decode cX4_bestSingleCost 36 = .ok (.aload_n 0, 1) := by decide +kernel
theorem dX4_bestSingleCost_37 : decode cX4_bestSingleCost 37 = .ok (.aload_n 1, 1) := by decide +kernel
theorem dX4_bestSingleCost_38 : decode cX4_bestSingleCost 38 = .ok (.iconst 1, 1) := by decide +kernel
theorem dX4_bestSingleCost_39 : decode cX4_bestSingleCost 39 = .ok (.iload 5, 2) := by decide +kernel
theorem dX4_bestSingleCost_41 : decode cX4_bestSingleCost 41 = .ok (.ishl, 1) := by decide +kernel
theorem dX4_bestSingleCost_42 : decode cX4_bestSingleCost 42 = .ok (.iload_n 2, 1) := by decide +kernel
theorem dX4_bestSingleCost_43 : decode cX4_bestSingleCost 43 = .ok (.invokevirtual 96, 3) := by decide +kernel
theorem dX4_bestSingleCost_46 : decode cX4_bestSingleCost 46 = .ok (.invokestatic 104, 3) := by decide +kernel
theorem dX4_bestSingleCost_49 : decode cX4_bestSingleCost 49 = .ok (.istore 4, 2) := by decide +kernel
theorem dX4_bestSingleCost_51 : decode cX4_bestSingleCost 51 = .ok (.iinc 5 1, 3) := by decide +kernel
theorem dX4_bestSingleCost_54 : decode cX4_bestSingleCost 54 = .ok (.goto (-37), 3) := by decide +kernel
theorem dX4_bestSingleCost_57 : decode cX4_bestSingleCost 57 = .ok (.iload 4, 2) := by decide +kernel
theorem dX4_bestSingleCost_59 : decode cX4_bestSingleCost 59 = .ok (.ireturn, 1) := by decide +kernel
theorem dX4_agreement_0 : decode cX4_agreement 0 = .ok (.iconst 1, 1) := by decide +kernel
theorem dX4_agreement_1 : decode cX4_agreement 1 = .ok (.iload_n 1, 1) := by decide +kernel
theorem dX4_agreement_2 : decode cX4_agreement 2 = .ok (.ishl, 1) := by decide +kernel
theorem dX4_agreement_3 : decode cX4_agreement 3 = .ok (.iconst 1, 1) := by decide +kernel
theorem dX4_agreement_4 : decode cX4_agreement 4 = .ok (.iload_n 2, 1) := by decide +kernel
theorem dX4_agreement_5 : decode cX4_agreement 5 = .ok (.ishl, 1) := by decide +kernel
theorem dX4_agreement_6 : decode cX4_agreement 6 = .ok (.ior, 1) := by decide +kernel
theorem dX4_agreement_7 : decode cX4_agreement 7 = .ok (.istore_n 3, 1) := by decide +kernel
theorem dX4_agreement_8 : decode cX4_agreement 8 = .ok (.iconst 0, 1) := by decide +kernel
theorem dX4_agreement_9 : decode cX4_agreement 9 = .ok (.istore 4, 2) := by decide +kernel
theorem dX4_agreement_11 : decode cX4_agreement 11 = .ok (.iconst 0, 1) := by decide +kernel
theorem dX4_agreement_12 : decode cX4_agreement 12 = .ok (.istore 5, 2) := by decide +kernel
theorem dX4_agreement_14 : decode cX4_agreement 14 = .ok (.iload 5, 2) := by decide +kernel
theorem dX4_agreement_16 : decode cX4_agreement 16 = .ok (.aload_n 0, 1) := by decide +kernel
theorem dX4_agreement_17 : decode cX4_agreement 17 = .ok (.getfield 36, 3) := by decide +kernel
theorem dX4_agreement_20 : decode cX4_agreement 20 = .ok (.if_icmp .ge 38, 3) := by decide +kernel
theorem dX4_agreement_23 : decode cX4_agreement 23 = .ok (.iload 4, 2) := by decide +kernel
theorem dX4_agreement_25 : decode cX4_agreement 25 = .ok (.aload_n 0, 1) := by decide +kernel
theorem dX4_agreement_26 : decode cX4_agreement 26 = .ok (.getfield 18, 3) := by decide +kernel
theorem dX4_agreement_29 : decode cX4_agreement 29 = .ok (.iload 5, 2) := by decide +kernel
theorem dX4_agreement_31 : decode cX4_agreement 31 = .ok (.iaload, 1) := by decide +kernel
theorem dX4_agreement_32 : decode cX4_agreement 32 = .ok (.iload_n 3, 1) := by decide +kernel
theorem dX4_agreement_33 : decode cX4_agreement 33 = .ok (.iand, 1) := by decide +kernel
theorem dX4_agreement_34 : decode cX4_agreement 34 = .ok (.iload_n 3, 1) := by decide +kernel
theorem dX4_agreement_35 : decode cX4_agreement 35 = .ok (.if_icmp .ne 13, 3) := by decide +kernel
theorem dX4_agreement_38 : decode cX4_agreement 38 = .ok (.aload_n 0, 1) := by decide +kernel
theorem dX4_agreement_39 : decode cX4_agreement 39 = .ok (.getfield 21, 3) := by decide +kernel
theorem dX4_agreement_42 : decode cX4_agreement 42 = .ok (.iload 5, 2) := by decide +kernel
theorem dX4_agreement_44 : decode cX4_agreement 44 = .ok (.iaload, 1) := by decide +kernel
theorem dX4_agreement_45 : decode cX4_agreement 45 = .ok (.goto 4, 3) := by decide +kernel
theorem dX4_agreement_48 : decode cX4_agreement 48 = .ok (.iconst 0, 1) := by decide +kernel
theorem dX4_agreement_49 : decode cX4_agreement 49 = .ok (.iadd, 1) := by decide +kernel
theorem dX4_agreement_50 : decode cX4_agreement 50 = .ok (.istore 4, 2) := by decide +kernel
theorem dX4_agreement_52 : decode cX4_agreement 52 = .ok (.iinc 5 1, 3) := by decide +kernel
theorem dX4_agreement_55 : decode cX4_agreement 55 = .ok (.goto (-41), 3) := by decide +kernel
theorem dX4_agreement_58 : decode cX4_agreement 58 = .ok (.iload 4, 2) := by decide +kernel
theorem dX4_agreement_60 : decode cX4_agreement 60 = .ok (.ireturn, 1) := by decide +kernel
theorem dX4_familiesOf_0 : decode cX4_familiesOf 0 = .ok (.aload_n 0, 1) := by decide +kernel
theorem dX4_familiesOf_1 : decode cX4_familiesOf 1 = .ok (.aload_n 1, 1) := by decide +kernel
theorem dX4_familiesOf_2 : decode cX4_familiesOf 2 = .ok (.invokevirtual 109, 3) := by decide +kernel
theorem dX4_familiesOf_5 : decode cX4_familiesOf 5 = .ok (.iload_n 2, 1) := by decide +kernel
theorem dX4_familiesOf_6 : decode cX4_familiesOf 6 = .ok (.istore 4, 2) := by decide +kernel
theorem dX4_familiesOf_8 : decode cX4_familiesOf 8 = .ok (.iconst 0, 1) := by decide +kernel
theorem dX4_familiesOf_9 : decode cX4_familiesOf 9 = .ok (.istore 5, 2) := by decide +kernel
theorem dX4_familiesOf_11 : decode cX4_familiesOf 11 = .ok (.iconst 0, 1) := by decide +kernel
theorem dX4_familiesOf_12 : decode cX4_familiesOf 12 = .ok (.istore 6, 2) := by decide +kernel
theorem dX4_familiesOf_14 : decode cX4_familiesOf 14 = .ok (.iload 6, 2) := by decide +kernel
theorem dX4_familiesOf_16 : decode cX4_familiesOf 16 = .ok (.bipush 12, 2) := by decide +kernel
theorem dX4_familiesOf_18 : decode cX4_familiesOf 18 = .ok (.if_icmp .ge 56, 3) := by decide +kernel
theorem dX4_familiesOf_21 : decode cX4_familiesOf 21 = .ok (.iload 4, 2) := by decide +kernel
theorem dX4_familiesOf_23 : decode cX4_familiesOf 23 = .ok (.iload 6, 2) := by decide +kernel
theorem dX4_familiesOf_25 : decode cX4_familiesOf 25 = .ok (.ishr, 1) := by decide +kernel
theorem dX4_familiesOf_26 : decode cX4_familiesOf 26 = .ok (.iconst 1, 1) := by decide +kernel
theorem dX4_familiesOf_27 : decode cX4_familiesOf 27 = .ok (.iand, 1) := by decide +kernel
theorem dX4_familiesOf_28 : decode cX4_familiesOf 28 = .ok (.iconst 1, 1) := by decide +kernel
theorem dX4_familiesOf_29 : decode cX4_familiesOf 29 = .ok (.if_icmp .ne 39, 3) := by decide +kernel
theorem dX4_familiesOf_32 : decode cX4_familiesOf 32 = .ok (.aload_n 0, 1) := by decide +kernel
theorem dX4_familiesOf_33 : decode cX4_familiesOf 33 = .ok (.iload 6, 2) := by decide +kernel
theorem dX4_familiesOf_35 : decode cX4_familiesOf 35 = .ok (.iload 4, 2) := by decide +kernel
theorem dX4_familiesOf_37 : decode cX4_familiesOf 37 = .ok (.invokevirtual 113, 3) := by decide +kernel
theorem dX4_familiesOf_40 : decode cX4_familiesOf 40 = .ok (.istore 7, 2) := by decide +kernel
theorem dX4_familiesOf_42 : decode cX4_familiesOf 42 = .ok (.iload 4, 2) := by decide +kernel
theorem dX4_familiesOf_44 : decode cX4_familiesOf 44 = .ok (.iload 7, 2) := by decide +kernel
theorem dX4_familiesOf_46 : decode cX4_familiesOf 46 = .ok (.iconst (-1), 1) := by decide +kernel
theorem dX4_familiesOf_47 : decode cX4_familiesOf 47 = .ok (.ixor, 1) := by decide +kernel
theorem dX4_familiesOf_48 : decode cX4_familiesOf 48 = .ok (.iand, 1) := by decide +kernel
theorem dX4_familiesOf_49 : decode cX4_familiesOf 49 = .ok (.istore 4, 2) := by decide +kernel
theorem dX4_familiesOf_51 : decode cX4_familiesOf 51 = .ok (.iload 5, 2) := by decide +kernel
theorem dX4_familiesOf_53 : decode cX4_familiesOf 53 = .ok (.iload 7, 2) := by decide +kernel
theorem dX4_familiesOf_55 : decode cX4_familiesOf 55 = .ok (.iload_n 3, 1) := by decide +kernel
theorem dX4_familiesOf_56 : decode cX4_familiesOf 56 = .ok (.iand, 1) := by decide +kernel
theorem dX4_familiesOf_57 : decode cX4_familiesOf 57 = .ok (.ifCond .eq 7, 3) := by decide +kernel
theorem dX4_familiesOf_60 : decode cX4_familiesOf 60 = .ok (.iconst 1, 1) := by decide +kernel
theorem dX4_familiesOf_61 : decode cX4_familiesOf 61 = .ok (.goto 4, 3) := by decide +kernel
theorem dX4_familiesOf_64 : decode cX4_familiesOf 64 = .ok (.iconst 0, 1) := by decide +kernel
theorem dX4_familiesOf_65 : decode cX4_familiesOf 65 = .ok (.iadd, 1) := by decide +kernel
theorem dX4_familiesOf_66 : decode cX4_familiesOf 66 = .ok (.istore 5, 2) := by decide +kernel
theorem dX4_familiesOf_68 : decode cX4_familiesOf 68 = .ok (.iinc 6 1, 3) := by decide +kernel
theorem dX4_familiesOf_71 : decode cX4_familiesOf 71 = .ok (.goto (-57), 3) := by decide +kernel
theorem dX4_familiesOf_74 : decode cX4_familiesOf 74 = .ok (.iload 5, 2) := by decide +kernel
theorem dX4_familiesOf_76 : decode cX4_familiesOf 76 = .ok (.ireturn, 1) := by decide +kernel
theorem dX4_familyOf_0 : decode cX4_familyOf 0 = .ok (.aload_n 0, 1) := by decide +kernel
theorem dX4_familyOf_1 : decode cX4_familyOf 1 = .ok (.aload_n 1, 1) := by decide +kernel
theorem dX4_familyOf_2 : decode cX4_familyOf 2 = .ok (.invokevirtual 109, 3) := by decide +kernel
theorem dX4_familyOf_5 : decode cX4_familyOf 5 = .ok (.aload_n 0, 1) := by decide +kernel
theorem dX4_familyOf_6 : decode cX4_familyOf 6 = .ok (.iload_n 2, 1) := by decide +kernel
theorem dX4_familyOf_7 : decode cX4_familyOf 7 = .ok (.iload_n 3, 1) := by decide +kernel
theorem dX4_familyOf_8 : decode cX4_familyOf 8 = .ok (.invokevirtual 113, 3) := by decide +kernel
theorem dX4_familyOf_11 : decode cX4_familyOf 11 = .ok (.ireturn, 1) := by decide +kernel
theorem dX4_findNear_0 : decode cX4_findNear 0 = .ok (.aload_n 0, 1) := by decide +kernel
theorem dX4_findNear_1 : decode cX4_findNear 1 = .ok (.getfield 33, 3) := by decide +kernel
theorem dX4_findNear_4 : decode cX4_findNear 4 = .ok (.iconst 0, 1) := by decide +kernel
theorem dX4_findNear_5 : decode cX4_findNear 5 = .ok (.invokestatic 40, 3) := by decide +kernel
theorem dX4_findNear_8 : decode cX4_findNear 8 = .ok (.aload_n 1, 1) := by decide +kernel
theorem dX4_findNear_9 : decode cX4_findNear 9 = .ok (.getfield 116, 3) := by decide +kernel
theorem dX4_findNear_12 : decode cX4_findNear 12 = .ok (.invokevirtual 52, 3) := by decide +kernel
theorem dX4_findNear_15 : decode cX4_findNear 15 = .ok (.bipush 12, 2) := by decide +kernel
theorem dX4_findNear_17 : decode cX4_findNear 17 = .ok (.invokestatic 104, 3) := by decide +kernel
theorem dX4_findNear_20 : decode cX4_findNear 20 = .ok (.istore_n 2, 1) := by decide +kernel
theorem dX4_findNear_21 : decode cX4_findNear 21 = .ok (.iconst 0, 1) := by decide +kernel
theorem dX4_findNear_22 : decode cX4_findNear 22 = .ok (.istore_n 3, 1) := by decide +kernel
theorem dX4_findNear_23 : decode cX4_findNear 23 = .ok (.iload_n 3, 1) := by decide +kernel
theorem dX4_findNear_24 : decode cX4_findNear 24 = .ok (.iload_n 2, 1) := by decide +kernel
theorem dX4_findNear_25 : decode cX4_findNear 25 = .ok (.if_icmp .ge 68, 3) := by decide +kernel
theorem dX4_findNear_28 : decode cX4_findNear 28 = .ok (.iload_n 3, 1) := by decide +kernel
theorem dX4_findNear_29 : decode cX4_findNear 29 = .ok (.iconst 1, 1) := by decide +kernel
theorem dX4_findNear_30 : decode cX4_findNear 30 = .ok (.iadd, 1) := by decide +kernel
theorem dX4_findNear_31 : decode cX4_findNear 31 = .ok (.istore 4, 2) := by decide +kernel
theorem dX4_findNear_33 : decode cX4_findNear 33 = .ok (.iload 4, 2) := by decide +kernel
theorem dX4_findNear_35 : decode cX4_findNear 35 = .ok (.iload_n 2, 1) := by decide +kernel
theorem dX4_findNear_36 : decode cX4_findNear 36 = .ok (.if_icmp .ge 51, 3) := by decide +kernel
theorem dX4_findNear_39 : decode cX4_findNear 39 = .ok (.aload_n 0, 1) := by decide +kernel
theorem dX4_findNear_40 : decode cX4_findNear 40 = .ok (.iload_n 3, 1) := by decide +kernel
theorem dX4_findNear_41 : decode cX4_findNear 41 = .ok (.iload 4, 2) := by decide +kernel
theorem dX4_findNear_43 : decode cX4_findNear 43 = .ok (.invokevirtual 119, 3) := by decide +kernel
theorem dX4_findNear_46 : decode cX4_findNear 46 = .ok (.aload_n 1, 1) := by decide +kernel
theorem dX4_findNear_47 : decode cX4_findNear 47 = .ok (.getfield 90, 3) := by decide +kernel
theorem dX4_findNear_50 : decode cX4_findNear 50 = .ok (.iconst 3, 1) := by decide +kernel
theorem dX4_findNear_51 : decode cX4_findNear 51 = .ok (.iaload, 1) := by decide +kernel
theorem dX4_findNear_52 : decode cX4_findNear 52 = .ok (.if_icmp .lt 29, 3) := by decide +kernel
theorem dX4_findNear_55 : decode cX4_findNear 55 = .ok (.aload_n 0, 1) := by decide +kernel
theorem dX4_findNear_56 : decode cX4_findNear 56 = .ok (.getfield 33, 3) := by decide +kernel
theorem dX4_findNear_59 : decode cX4_findNear 59 = .ok (.iload_n 3, 1) := by decide +kernel
theorem dX4_findNear_60 : decode cX4_findNear 60 = .ok (.dup2, 1) := by decide +kernel
theorem dX4_findNear_61 : decode cX4_findNear 61 = .ok (.iaload, 1) := by decide +kernel
theorem dX4_findNear_62 : decode cX4_findNear 62 = .ok (.iconst 1, 1) := by decide +kernel
theorem dX4_findNear_63 : decode cX4_findNear 63 = .ok (.iload 4, 2) := by decide +kernel
theorem dX4_findNear_65 : decode cX4_findNear 65 = .ok (.ishl, 1) := by decide +kernel
theorem dX4_findNear_66 : decode cX4_findNear 66 = .ok (.ior, 1) := by decide +kernel
theorem dX4_findNear_67 : decode cX4_findNear 67 = .ok (.iastore, 1) := by decide +kernel
theorem dX4_findNear_68 : decode cX4_findNear 68 = .ok (.aload_n 0, 1) := by decide +kernel
theorem dX4_findNear_69 : decode cX4_findNear 69 = .ok (.getfield 33, 3) := by decide +kernel
theorem dX4_findNear_72 : decode cX4_findNear 72 = .ok (.iload 4, 2) := by decide +kernel
theorem dX4_findNear_74 : decode cX4_findNear 74 = .ok (.dup2, 1) := by decide +kernel
theorem dX4_findNear_75 : decode cX4_findNear 75 = .ok (.iaload, 1) := by decide +kernel
theorem dX4_findNear_76 : decode cX4_findNear 76 = .ok (.iconst 1, 1) := by decide +kernel
theorem dX4_findNear_77 : decode cX4_findNear 77 = .ok (.iload_n 3, 1) := by decide +kernel
theorem dX4_findNear_78 : decode cX4_findNear 78 = .ok (.ishl, 1) := by decide +kernel
theorem dX4_findNear_79 : decode cX4_findNear 79 = .ok (.ior, 1) := by decide +kernel
theorem dX4_findNear_80 : decode cX4_findNear 80 = .ok (.iastore, 1) := by decide +kernel
theorem dX4_findNear_81 : decode cX4_findNear 81 = .ok (.iinc 4 1, 3) := by decide +kernel
theorem dX4_findNear_84 : decode cX4_findNear 84 = .ok (.goto (-51), 3) := by decide +kernel
theorem dX4_findNear_87 : decode cX4_findNear 87 = .ok (.iinc 3 1, 3) := by decide +kernel
theorem dX4_findNear_90 : decode cX4_findNear 90 = .ok (.goto (-67), 3) := by decide +kernel
theorem dX4_findNear_93 : decode cX4_findNear 93 = .ok (.return_, 1) := by decide +kernel
theorem dX4_spread_0 : decode cX4_spread 0 = .ok (.iconst 1, 1) := by decide +kernel
theorem dX4_spread_1 : decode cX4_spread 1 = .ok (.iload_n 1, 1) := by decide +kernel
theorem dX4_spread_2 : decode cX4_spread 2 = .ok (.ishl, 1) := by decide +kernel
theorem dX4_spread_3 : decode cX4_spread 3 = .ok (.istore_n 3, 1) := by decide +kernel
theorem dX4_spread_4 : decode cX4_spread 4 = .ok (.iconst 0, 1) := by decide +kernel
theorem dX4_spread_5 : decode cX4_spread 5 = .ok (.istore 4, 2) := by decide +kernel
theorem dX4_spread_7 : decode cX4_spread 7 = .ok (.iload 4, 2) := by decide +kernel
theorem dX4_spread_9 : decode cX4_spread 9 = .ok (.bipush 12, 2) := by decide +kernel
theorem dX4_spread_11 : decode cX4_spread 11 = .ok (.if_icmp .ge 64, 3) := by decide +kernel
theorem dX4_spread_14 : decode cX4_spread 14 = .ok (.iload_n 3, 1) := by decide +kernel
theorem dX4_spread_15 : decode cX4_spread 15 = .ok (.istore 5, 2) := by decide +kernel
theorem dX4_spread_17 : decode cX4_spread 17 = .ok (.iconst 0, 1) := by decide +kernel
theorem dX4_spread_18 : decode cX4_spread 18 = .ok (.istore 6, 2) := by decide +kernel
theorem dX4_spread_20 : decode cX4_spread 20 = .ok (.iload 6, 2) := by decide +kernel
theorem dX4_spread_22 : decode cX4_spread 22 = .ok (.bipush 12, 2) := by decide +kernel
theorem dX4_spread_24 : decode cX4_spread 24 = .ok (.if_icmp .ge 36, 3) := by decide +kernel
theorem dX4_spread_27 : decode cX4_spread 27 = .ok (.iload_n 3, 1) := by decide +kernel
theorem dX4_spread_28 : decode cX4_spread 28 = .ok (.iload 5, 2) := by decide +kernel
theorem dX4_spread_30 : decode cX4_spread 30 = .ok (.iload 6, 2) := by decide +kernel
theorem dX4_spread_32 : decode cX4_spread 32 = .ok (.ishr, 1) := by decide +kernel
theorem dX4_spread_33 : decode cX4_spread 33 = .ok (.iconst 1, 1) := by decide +kernel
theorem dX4_spread_34 : decode cX4_spread 34 = .ok (.iand, 1) := by decide +kernel
theorem dX4_spread_35 : decode cX4_spread 35 = .ok (.iconst 1, 1) := by decide +kernel
theorem dX4_spread_36 : decode cX4_spread 36 = .ok (.if_icmp .ne 15, 3) := by decide +kernel
theorem dX4_spread_39 : decode cX4_spread 39 = .ok (.aload_n 0, 1) := by decide +kernel
theorem dX4_spread_40 : decode cX4_spread 40 = .ok (.getfield 33, 3) := by decide +kernel
theorem dX4_spread_43 : decode cX4_spread 43 = .ok (.iload 6, 2) := by decide +kernel
theorem dX4_spread_45 : decode cX4_spread 45 = .ok (.iaload, 1) := by decide +kernel
theorem dX4_spread_46 : decode cX4_spread 46 = .ok (.iload_n 2, 1) := by decide +kernel
theorem dX4_spread_47 : decode cX4_spread 47 = .ok (.iand, 1) := by decide +kernel
theorem dX4_spread_48 : decode cX4_spread 48 = .ok (.goto 4, 3) := by decide +kernel
theorem dX4_spread_51 : decode cX4_spread 51 = .ok (.iconst 0, 1) := by decide +kernel
theorem dX4_spread_52 : decode cX4_spread 52 = .ok (.ior, 1) := by decide +kernel
theorem dX4_spread_53 : decode cX4_spread 53 = .ok (.istore_n 3, 1) := by decide +kernel
theorem dX4_spread_54 : decode cX4_spread 54 = .ok (.iinc 6 1, 3) := by decide +kernel
theorem dX4_spread_57 : decode cX4_spread 57 = .ok (.goto (-37), 3) := by decide +kernel
theorem dX4_spread_60 : decode cX4_spread 60 = .ok (.iload_n 3, 1) := by decide +kernel
theorem dX4_spread_61 : decode cX4_spread 61 = .ok (.iload 5, 2) := by decide +kernel
theorem dX4_spread_63 : decode cX4_spread 63 = .ok (.if_icmp .ne 6, 3) := by decide +kernel
theorem dX4_spread_66 : decode cX4_spread 66 = .ok (.goto 9, 3) := by decide +kernel
theorem dX4_spread_69 : decode cX4_spread 69 = .ok (.iinc 4 1, 3) := by decide +kernel
theorem dX4_spread_72 : decode cX4_spread 72 = .ok (.goto (-65), 3) := by decide +kernel
theorem dX4_spread_75 : decode cX4_spread 75 = .ok (.iload_n 3, 1) := by decide +kernel
theorem dX4_spread_76 : decode cX4_spread 76 = .ok (.ireturn, 1) := by decide +kernel
theorem dX5_init_0 : decode cX5_init 0 = .ok (.aload_n 0, 1) := by decide +kernel
theorem dX5_init_1 : decode cX5_init 1 = .ok (.invokespecial 3, 3) := by decide +kernel
theorem dX5_init_4 : decode cX5_init 4 = .ok (.aload_n 0, 1) := by decide +kernel
theorem dX5_init_5 : decode cX5_init 5 = .ok (.new 9, 3) := by decide +kernel
theorem dX5_init_8 : decode cX5_init 8 = .ok (.dup, 1) := by decide +kernel
theorem dX5_init_9 : decode cX5_init 9 = .ok (.bipush 12, 2) := by decide +kernel
theorem dX5_init_11 : decode cX5_init 11 = .ok (.iconst 3, 1) := by decide +kernel
theorem dX5_init_12 : decode cX5_init 12 = .ok (.invokespecial 11, 3) := by decide +kernel
theorem dX5_init_15 : decode cX5_init 15 = .ok (.putfield 14, 3) := by decide +kernel
theorem dX5_init_18 : decode cX5_init 18 = .ok (.aload_n 0, 1) := by decide +kernel
theorem dX5_init_19 : decode cX5_init 19 = .ok (.new 9, 3) := by decide +kernel
theorem dX5_init_22 : decode cX5_init 22 = .ok (.dup, 1) := by decide +kernel
theorem dX5_init_23 : decode cX5_init 23 = .ok (.bipush 40, 2) := by decide +kernel
theorem dX5_init_25 : decode cX5_init 25 = .ok (.iconst 4, 1) := by decide +kernel
theorem dX5_init_26 : decode cX5_init 26 = .ok (.invokespecial 11, 3) := by decide +kernel
theorem dX5_init_29 : decode cX5_init 29 = .ok (.putfield 20, 3) := by decide +kernel
theorem dX5_init_32 : decode cX5_init 32 = .ok (.aload_n 0, 1) := by decide +kernel
theorem dX5_init_33 : decode cX5_init 33 = .ok (.new 9, 3) := by decide +kernel
theorem dX5_init_36 : decode cX5_init 36 = .ok (.dup, 1) := by decide +kernel
theorem dX5_init_37 : decode cX5_init 37 = .ok (.bipush 12, 2) := by decide +kernel
theorem dX5_init_39 : decode cX5_init 39 = .ok (.bipush 8, 2) := by decide +kernel
theorem dX5_init_41 : decode cX5_init 41 = .ok (.invokespecial 11, 3) := by decide +kernel
theorem dX5_init_44 : decode cX5_init 44 = .ok (.putfield 23, 3) := by decide +kernel
theorem dX5_init_47 : decode cX5_init 47 = .ok (.aload_n 0, 1) := by decide +kernel
theorem dX5_init_48 : decode cX5_init 48 = .ok (.new 9, 3) := by decide +kernel
theorem dX5_init_51 : decode cX5_init 51 = .ok (.dup, 1) := by decide +kernel
theorem dX5_init_52 : decode cX5_init 52 = .ok (.bipush 8, 2) := by decide +kernel
theorem dX5_init_54 : decode cX5_init 54 = .ok (.bipush 6, 2) := by decide +kernel
theorem dX5_init_56 : decode cX5_init 56 = .ok (.invokespecial 11, 3) := by decide +kernel
theorem dX5_init_59 : decode cX5_init 59 = .ok (.putfield 26, 3) := by decide +kernel
theorem dX5_init_62 : decode cX5_init 62 = .ok (.aload_n 0, 1) := by decide +kernel
theorem dX5_init_63 : decode cX5_init 63 = .ok (.new 9, 3) := by decide +kernel
theorem dX5_init_66 : decode cX5_init 66 = .ok (.dup, 1) := by decide +kernel
theorem dX5_init_67 : decode cX5_init 67 = .ok (.sipush 200, 3) := by decide +kernel
theorem dX5_init_70 : decode cX5_init 70 = .ok (.iconst 5, 1) := by decide +kernel
theorem dX5_init_71 : decode cX5_init 71 = .ok (.invokespecial 11, 3) := by decide +kernel
theorem dX5_init_74 : decode cX5_init 74 = .ok (.putfield 29, 3) := by decide +kernel
theorem dX5_init_77 : decode cX5_init 77 = .ok (.aload_n 0, 1) := by decide +kernel
theorem dX5_init_78 : decode cX5_init 78 = .ok (.iconst 4, 1) := by decide +kernel
theorem dX5_init_79 : decode cX5_init 79 = .ok (.newarray .int, 2) := by decide +kernel
theorem dX5_init_81 : decode cX5_init 81 = .ok (.dup, 1) := by decide +kernel
theorem dX5_init_82 : decode cX5_init 82 = .ok (.iconst 0, 1) := by decide +kernel
theorem dX5_init_83 : decode cX5_init 83 = .ok (.iconst 3, 1) := by decide +kernel
theorem dX5_init_84 : decode cX5_init 84 = .ok (.iastore, 1) := by decide +kernel
theorem dX5_init_85 : decode cX5_init 85 = .ok (.dup, 1) := by decide +kernel
theorem dX5_init_86 : decode cX5_init 86 = .ok (.iconst 1, 1) := by decide +kernel
theorem dX5_init_87 : decode cX5_init 87 = .ok (.iconst 1, 1) := by decide +kernel
theorem dX5_init_88 : decode cX5_init 88 = .ok (.iastore, 1) := by decide +kernel
theorem dX5_init_89 : decode cX5_init 89 = .ok (.dup, 1) := by decide +kernel
theorem dX5_init_90 : decode cX5_init 90 = .ok (.iconst 2, 1) := by decide +kernel
theorem dX5_init_91 : decode cX5_init 91 = .ok (.iconst 2, 1) := by decide +kernel
theorem dX5_init_92 : decode cX5_init 92 = .ok (.iastore, 1) := by decide +kernel
theorem dX5_init_93 : decode cX5_init 93 = .ok (.dup, 1) := by decide +kernel
theorem dX5_init_94 : decode cX5_init 94 = .ok (.iconst 3, 1) := by decide +kernel
theorem dX5_init_95 : decode cX5_init 95 = .ok (.bipush 20, 2) := by decide +kernel
theorem dX5_init_97 : decode cX5_init 97 = .ok (.iastore, 1) := by decide +kernel
theorem dX5_init_98 : decode cX5_init 98 = .ok (.putfield 32, 3) := by decide +kernel
theorem dX5_init_101 : decode cX5_init 101 = .ok (.aload_n 0, 1) := by decide +kernel
theorem dX5_init_102 : decode cX5_init 102 = .ok (.bipush 8, 2) := by decide +kernel
theorem dX5_init_104 : decode cX5_init 104 = .ok (.anewarray 36, 3) := by decide +kernel
theorem dX5_init_107 : decode cX5_init 107 = .ok (.putfield 38, 3) := by decide +kernel
theorem dX5_init_110 : decode cX5_init 110 = .ok (.aload_n 0, 1) := by decide +kernel
theorem dX5_init_111 : decode cX5_init 111 = .ok (.iconst (-1), 1) := by decide +kernel
theorem dX5_init_112 : decode cX5_init 112 = .ok (.putfield 42, 3) := by decide +kernel
theorem dX5_init_115 : decode cX5_init 115 = .ok (.iconst 0, 1) := by decide +kernel
theorem dX5_init_116 : decode cX5_init 116 = .ok (.istore_n 1, 1) := by decide +kernel
theorem dX5_init_117 : decode cX5_init 117 = .ok (.iload_n 1, 1) := by decide +kernel
theorem dX5_init_118 : decode cX5_init 118 = .ok (.bipush 8, 2) := by decide +kernel
theorem dX5_init_120 : decode cX5_init 120 = .ok (.if_icmp .ge 17, 3) := by decide +kernel
theorem dX5_init_123 : decode cX5_init 123 = .ok (.aload_n 0, 1) := by decide +kernel
theorem dX5_init_124 : decode cX5_init 124 = .ok (.getfield 26, 3) := by decide +kernel
theorem dX5_init_127 : decode cX5_init 127 = .ok (.invokevirtual 46, 3) := by decide +kernel
theorem dX5_init_130 : decode cX5_init 130 = .ok (.pop, 1) := by decide +kernel
theorem dX5_init_131 : decode cX5_init 131 = .ok (.iinc 1 1, 3) := by decide +kernel
theorem dX5_init_134 : decode cX5_init 134 = .ok (.goto (-17), 3) := by decide +kernel
theorem dX5_init_137 : decode cX5_init 137 = .ok (.return_, 1) := by decide +kernel
theorem dX5_takeFrom_0 : decode cX5_takeFrom 0 = .ok (.aload_n 0, 1) := by decide +kernel
theorem dX5_takeFrom_1 : decode cX5_takeFrom 1 = .ok (.getfield 14, 3) := by decide +kernel
theorem dX5_takeFrom_4 : decode cX5_takeFrom 4 = .ok (.aload_n 1, 1) := by decide +kernel
theorem dX5_takeFrom_5 : decode cX5_takeFrom 5 = .ok (.getfield 14, 3) := by decide +kernel
theorem dX5_takeFrom_8 : decode cX5_takeFrom 8 = .ok (.invokevirtual 50, 3) := by decide +kernel
theorem dX5_takeFrom_11 : decode cX5_takeFrom 11 = .ok (.aload_n 0, 1) := by decide +kernel
theorem dX5_takeFrom_12 : decode cX5_takeFrom 12 = .ok (.getfield 20, 3) := by decide +kernel
theorem dX5_takeFrom_15 : decode cX5_takeFrom 15 = .ok (.aload_n 1, 1) := by decide +kernel
theorem dX5_takeFrom_16 : decode cX5_takeFrom 16 = .ok (.getfield 20, 3) := by decide +kernel
theorem dX5_takeFrom_19 : decode cX5_takeFrom 19 = .ok (.invokevirtual 50, 3) := by decide +kernel
theorem dX5_takeFrom_22 : decode cX5_takeFrom 22 = .ok (.aload_n 0, 1) := by decide +kernel
theorem dX5_takeFrom_23 : decode cX5_takeFrom 23 = .ok (.getfield 23, 3) := by decide +kernel
theorem dX5_takeFrom_26 : decode cX5_takeFrom 26 = .ok (.aload_n 1, 1) := by decide +kernel
theorem dX5_takeFrom_27 : decode cX5_takeFrom 27 = .ok (.getfield 23, 3) := by decide +kernel
theorem dX5_takeFrom_30 : decode cX5_takeFrom 30 = .ok (.invokevirtual 50, 3) := by decide +kernel
theorem dX5_takeFrom_33 : decode cX5_takeFrom 33 = .ok (.aload_n 0, 1) := by decide +kernel
theorem dX5_takeFrom_34 : decode cX5_takeFrom 34 = .ok (.getfield 26, 3) := by decide +kernel
theorem dX5_takeFrom_37 : decode cX5_takeFrom 37 = .ok (.aload_n 1, 1) := by decide +kernel
theorem dX5_takeFrom_38 : decode cX5_takeFrom 38 = .ok (.getfield 26, 3) := by decide +kernel
theorem dX5_takeFrom_41 : decode cX5_takeFrom 41 = .ok (.invokevirtual 50, 3) := by decide +kernel
theorem dX5_takeFrom_44 : decode cX5_takeFrom 44 = .ok (.aload_n 0, 1) := by decide +kernel
theorem dX5_takeFrom_45 : decode cX5_takeFrom 45 = .ok (.getfield 29, 3) := by decide +kernel
theorem dX5_takeFrom_48 : decode cX5_takeFrom 48 = .ok (.aload_n 1, 1) := by decide +kernel
theorem dX5_takeFrom_49 : decode cX5_takeFrom 49 = .ok (.getfield 29, 3) := by decide +kernel
theorem dX5_takeFrom_52 : decode cX5_takeFrom 52 = .ok (.invokevirtual 50, 3) := by decide +kernel
theorem dX5_takeFrom_55 : decode cX5_takeFrom 55 = .ok (.aload_n 1, 1) := by decide +kernel
theorem dX5_takeFrom_56 : decode cX5_takeFrom 56 = .ok (.getfield 32, 3) := by decide +kernel
theorem dX5_takeFrom_59 : decode cX5_takeFrom 59 = .ok (.iconst 0, 1) := by decide +kernel
theorem dX5_takeFrom_60 : decode cX5_takeFrom 60 = .ok (.aload_n 0, 1) := by decide +kernel
theorem dX5_takeFrom_61 : decode cX5_takeFrom 61 = .ok (.getfield 32, 3) := by decide +kernel
theorem dX5_takeFrom_64 : decode cX5_takeFrom 64 = .ok (.iconst 0, 1) := by decide +kernel
theorem dX5_takeFrom_65 : decode cX5_takeFrom 65 = .ok (.aload_n 0, 1) := by decide +kernel
theorem dX5_takeFrom_66 : decode cX5_takeFrom 66 = .ok (.getfield 32, 3) := by decide +kernel
theorem dX5_takeFrom_69 : decode cX5_takeFrom 69 = .ok (.arraylength, 1) := by decide +kernel
theorem dX5_takeFrom_70 : decode cX5_takeFrom 70 = .ok (.invokestatic 54, 3) := by decide +kernel
theorem dX5_takeFrom_73 : decode cX5_takeFrom 73 = .ok (.iconst 0, 1) := by decide +kernel
theorem dX5_takeFrom_74 : decode cX5_takeFrom 74 = .ok (.istore_n 2, 1) := by decide +kernel
theorem dX5_takeFrom_75 : decode cX5_takeFrom 75 = .ok (.iload_n 2, 1) := by decide +kernel
theorem dX5_takeFrom_76 : decode cX5_takeFrom 76 = .ok (.bipush 8, 2) := by decide +kernel
theorem dX5_takeFrom_78 : decode cX5_takeFrom 78 = .ok (.if_icmp .ge 21, 3) := by decide +kernel
theorem dX5_takeFrom_81 : decode cX5_takeFrom 81 = .ok (.aload_n 0, 1) := by decide +kernel
theorem dX5_takeFrom_82 : decode cX5_takeFrom 82 = .ok (.getfield 38, 3) := by decide +kernel
theorem dX5_takeFrom_85 : decode cX5_takeFrom 85 = .ok (.iload_n 2, 1) := by decide +kernel
theorem dX5_takeFrom_86 : decode cX5_takeFrom 86 = .ok (.aload_n 1, 1) := by decide +kernel
theorem dX5_takeFrom_87 : decode cX5_takeFrom 87 = .ok (.getfield 38, 3) := by decide +kernel
theorem dX5_takeFrom_90 : decode cX5_takeFrom 90 = .ok (.iload_n 2, 1) := by decide +kernel
theorem dX5_takeFrom_91 : decode cX5_takeFrom 91 = .ok (.aaload, 1) := by decide +kernel
theorem dX5_takeFrom_92 : decode cX5_takeFrom 92 = .ok (.aastore, 1) := by decide +kernel
theorem dX5_takeFrom_93 : decode cX5_takeFrom 93 = .ok (.iinc 2 1, 3) := by decide +kernel
theorem dX5_takeFrom_96 : decode cX5_takeFrom 96 = .ok (.goto (-21), 3) := by decide +kernel
theorem dX5_takeFrom_99 : decode cX5_takeFrom 99 = .ok (.aload_n 0, 1) := by decide +kernel
theorem dX5_takeFrom_100 : decode cX5_takeFrom 100 = .ok (.aload_n 1, 1) := by decide +kernel
theorem dX5_takeFrom_101 : decode cX5_takeFrom 101 = .ok (.getfield 60, 3) := by decide +kernel
theorem dX5_takeFrom_104 : decode cX5_takeFrom 104 = .ok (.putfield 60, 3) := by decide +kernel
theorem dX5_takeFrom_107 : decode cX5_takeFrom 107 = .ok (.aload_n 0, 1) := by decide +kernel
theorem dX5_takeFrom_108 : decode cX5_takeFrom 108 = .ok (.aload_n 1, 1) := by decide +kernel
theorem dX5_takeFrom_109 : decode cX5_takeFrom 109 = .ok (.getfield 42, 3) := by decide +kernel
theorem dX5_takeFrom_112 : decode cX5_takeFrom 112 = .ok (.putfield 42, 3) := by decide +kernel
theorem dX5_takeFrom_115 : decode cX5_takeFrom 115 = .ok (.return_, 1) := by decide +kernel
theorem dX5_addText_0 : decode cX5_addText 0 = .ok (.aload_n 0, 1) := by decide +kernel
theorem dX5_addText_1 : decode cX5_addText 1 = .ok (.getfield 60, 3) := by decide +kernel
theorem dX5_addText_4 : decode cX5_addText 4 = .ok (.ifCond .lt 12, 3) := by decide +kernel
theorem dX5_addText_7 : decode cX5_addText 7 = .ok (.aload_n 0, 1) := by decide +kernel
theorem dX5_addText_8 : decode cX5_addText 8 = .ok (.getfield 60, 3) := by decide +kernel
theorem dX5_addText_11 : decode cX5_addText 11 = .ok (.bipush 8, 2) := by decide +kernel
theorem dX5_addText_13 : decode cX5_addText 13 = .ok (.if_icmp .lt 5, 3) := by decide +kernel
theorem dX5_addText_16 : decode cX5_addText 16 = .ok (.iconst (-1), 1) := by decide +kernel
theorem dX5_addText_17 : decode cX5_addText 17 = .ok (.ireturn, 1) := by decide +kernel
theorem dX5_addText_18 : decode cX5_addText 18 = .ok (.aload_n 0, 1) := by decide +kernel
theorem dX5_addText_19 : decode cX5_addText 19 = .ok (.getfield 38, 3) := by decide +kernel
theorem dX5_addText_22 : decode cX5_addText 22 = .ok (.aload_n 0, 1) := by decide +kernel
theorem dX5_addText_23 : decode cX5_addText 23 = .ok (.getfield 60, 3) := by decide +kernel
theorem dX5_addText_26 : decode cX5_addText 26 = .ok (.aload_n 1, 1) := by decide +kernel
theorem dX5_addText_27 : decode cX5_addText 27 = .ok (.aastore, 1) := by decide +kernel
theorem dX5_addText_28 : decode cX5_addText 28 = .ok (.aload_n 0, 1) := by decide +kernel
theorem dX5_addText_29 : decode cX5_addText 29 = .ok (.dup, 1) := by decide +kernel
theorem dX5_addText_30 : decode cX5_addText 30 = .ok (.getfield 60, 3) := by decide +kernel
theorem dX5_addText_33 : decode cX5_addText 33 = .ok (.iconst 1, 1) := by decide +kernel
theorem dX5_addText_34 : decode cX5_addText 34 = .ok (.iadd, 1) := by decide +kernel
theorem dX5_addText_35 : decode cX5_addText 35 = .ok (.putfield 60, 3) := by decide +kernel
theorem dX5_addText_38 : decode cX5_addText 38 = .ok (.aload_n 0, 1) := by decide +kernel
theorem dX5_addText_39 : decode cX5_addText 39 = .ok (.getfield 60, 3) := by decide +kernel
theorem dX5_addText_42 : decode cX5_addText 42 = .ok (.iconst 1, 1) := by decide +kernel
theorem dX5_addText_43 : decode cX5_addText 43 = .ok (.isub, 1) := by decide +kernel
theorem dX5_addText_44 : decode cX5_addText 44 = .ok (.ireturn, 1) := by decide +kernel
theorem dX5_textOf_0 : decode cX5_textOf 0 = .ok (.iload_n 1, 1) := by decide +kernel
theorem dX5_textOf_1 : decode cX5_textOf 1 = .ok (.ifCond .lt 26, 3) := by decide +kernel
theorem dX5_textOf_4 : decode cX5_textOf 4 = .ok (.iload_n 1, 1) := by decide +kernel
theorem dX5_textOf_5 : decode cX5_textOf 5 = .ok (.aload_n 0, 1) := by decide +kernel
theorem dX5_textOf_6 : decode cX5_textOf 6 = .ok (.getfield 60, 3) := by decide +kernel
theorem dX5_textOf_9 : decode cX5_textOf 9 = .ok (.if_icmp .ge 18, 3) := by decide +kernel
theorem dX5_textOf_12 : decode cX5_textOf 12 = .ok (.iload_n 1, 1) := by decide +kernel
theorem dX5_textOf_13 : decode cX5_textOf 13 = .ok (.bipush 8, 2) := by decide +kernel
theorem dX5_textOf_15 : decode cX5_textOf 15 = .ok (.if_icmp .ge 12, 3) := by decide +kernel
theorem dX5_textOf_18 : decode cX5_textOf 18 = .ok (.aload_n 0, 1) := by decide +kernel
theorem dX5_textOf_19 : decode cX5_textOf 19 = .ok (.getfield 38, 3) := by decide +kernel
theorem dX5_textOf_22 : decode cX5_textOf 22 = .ok (.iload_n 1, 1) := by decide +kernel
theorem dX5_textOf_23 : decode cX5_textOf 23 = .ok (.aaload, 1) := by decide +kernel
theorem dX5_textOf_24 : decode cX5_textOf 24 = .ok (.goto 4, 3) := by decide +kernel
theorem dX5_textOf_27 : decode cX5_textOf 27 = .ok (.aconst_null, 1) := by decide +kernel
theorem dX5_textOf_28 : decode cX5_textOf 28 = .ok (.areturn, 1) := by decide +kernel
theorem dX5_textUsed_0 : decode cX5_textUsed 0 = .ok (.aload_n 0, 1) := by decide +kernel
theorem dX5_textUsed_1 : decode cX5_textUsed 1 = .ok (.aload_n 0, 1) := by decide +kernel
theorem dX5_textUsed_2 : decode cX5_textUsed 2 = .ok (.getfield 42, 3) := by decide +kernel
theorem dX5_textUsed_5 : decode cX5_textUsed 5 = .ok (.invokevirtual 63, 3) := by decide +kernel
theorem dX5_textUsed_8 : decode cX5_textUsed 8 = .ok (.areturn, 1) := by decide +kernel
theorem dX5_allCopies_0 : decode cX5_allCopies 0 = .ok (.iconst 1, 1) := by decide +kernel
theorem dX5_allCopies_1 : decode cX5_allCopies 1 = .ok (.aload_n 0, 1) := by decide +kernel
theorem dX5_allCopies_2 : decode cX5_allCopies 2 = .ok (.getfield 14, 3) := by decide +kernel
theorem dX5_allCopies_5 : decode cX5_allCopies 5 = .ok (.invokevirtual 67, 3) := by decide +kernel
theorem dX5_allCopies_8 : decode cX5_allCopies 8 = .ok (.ishl, 1) := by decide +kernel
theorem dX5_allCopies_9 : decode cX5_allCopies 9 = .ok (.iconst 1, 1) := by decide +kernel
theorem dX5_allCopies_10 : decode cX5_allCopies 10 = .ok (.isub, 1) := by decide +kernel
theorem dX5_allCopies_11 : decode cX5_allCopies 11 = .ok (.ireturn, 1) := by decide +kernel
theorem dX5_copiesLookedAt_0 : decode cX5_copiesLookedAt 0 = .ok (.iconst 0, 1) := by decide +kernel
theorem dX5_copiesLookedAt_1 : decode cX5_copiesLookedAt 1 = .ok (.istore_n 1, 1) := by decide +kernel
theorem dX5_copiesLookedAt_2 : decode cX5_copiesLookedAt 2 = .ok (.iconst 0, 1) := by decide +kernel
theorem dX5_copiesLookedAt_3 : decode cX5_copiesLookedAt 3 = .ok (.istore_n 2, 1) := by decide +kernel
theorem dX5_copiesLookedAt_4 : decode cX5_copiesLookedAt 4 = .ok (.iload_n 2, 1) := by decide +kernel
theorem dX5_copiesLookedAt_5 : decode cX5_copiesLookedAt 5 = .ok (.aload_n 0, 1) := by decide +kernel
theorem dX5_copiesLookedAt_6 : decode cX5_copiesLookedAt 6 = .ok (.getfield 14, 3) := by decide +kernel
theorem dX5_copiesLookedAt_9 : decode cX5_copiesLookedAt 9 = .ok (.invokevirtual 67, 3) := by decide +kernel
theorem dX5_copiesLookedAt_12 : decode cX5_copiesLookedAt 12 = .ok (.if_icmp .ge 23, 3) := by decide +kernel
theorem dX5_copiesLookedAt_15 : decode cX5_copiesLookedAt 15 = .ok (.iload_n 1, 1) := by decide +kernel
theorem dX5_copiesLookedAt_16 : decode cX5_copiesLookedAt 16 = .ok (.aload_n 0, 1) := by decide +kernel
theorem dX5_copiesLookedAt_17 : decode cX5_copiesLookedAt 17 = .ok (.getfield 14, 3) := by decide +kernel
theorem dX5_copiesLookedAt_20 : decode cX5_copiesLookedAt 20 = .ok (.iload_n 2, 1) := by decide +kernel
theorem dX5_copiesLookedAt_21 : decode cX5_copiesLookedAt 21 = .ok (.iconst 2, 1) := by decide +kernel
theorem dX5_copiesLookedAt_22 : decode cX5_copiesLookedAt 22 = .ok (.invokevirtual 70, 3) := by decide +kernel
theorem dX5_copiesLookedAt_25 : decode cX5_copiesLookedAt 25 = .ok (.iload_n 2, 1) := by decide +kernel
theorem dX5_copiesLookedAt_26 : decode cX5_copiesLookedAt 26 = .ok (.ishl, 1) := by decide +kernel
theorem dX5_copiesLookedAt_27 : decode cX5_copiesLookedAt 27 = .ok (.ior, 1) := by decide +kernel
theorem dX5_copiesLookedAt_28 : decode cX5_copiesLookedAt 28 = .ok (.istore_n 1, 1) := by decide +kernel
theorem dX5_copiesLookedAt_29 : decode cX5_copiesLookedAt 29 = .ok (.iinc 2 1, 3) := by decide +kernel
theorem dX5_copiesLookedAt_32 : decode cX5_copiesLookedAt 32 = .ok (.goto (-28), 3) := by decide +kernel
theorem dX5_copiesLookedAt_35 : decode cX5_copiesLookedAt 35 = .ok (.iload_n 1, 1) := by decide +kernel
theorem dX5_copiesLookedAt_36 : decode cX5_copiesLookedAt 36 = .ok (.ireturn, 1) := by decide +kernel
theorem dX5_isHandOrUnknown_0 : decode cX5_isHandOrUnknown 0 = .ok (.iload_n 1, 1) := by decide +kernel
theorem dX5_isHandOrUnknown_1 : decode cX5_isHandOrUnknown 1 = .ok (.iconst (-1), 1) := by decide +kernel
theorem dX5_isHandOrUnknown_2 : decode cX5_isHandOrUnknown 2 = .ok (.if_icmp .eq 14, 3) := by decide +kernel
theorem dX5_isHandOrUnknown_5 : decode cX5_isHandOrUnknown 5 = .ok (.aload_n 0, 1) := by decide +kernel
theorem dX5_isHandOrUnknown_6 : decode cX5_isHandOrUnknown 6 = .ok (.getfield 23, 3) := by decide +kernel
theorem dX5_isHandOrUnknown_9 : decode cX5_isHandOrUnknown 9 = .ok (.iload_n 1, 1) := by decide +kernel
theorem dX5_isHandOrUnknown_10 : decode cX5_isHandOrUnknown 10 = .ok (.invokevirtual 74, 3) := by decide +kernel
theorem dX5_isHandOrUnknown_13 : decode cX5_isHandOrUnknown 13 = .ok (.ifCond .eq 7, 3) := by decide +kernel
theorem dX5_isHandOrUnknown_16 : decode cX5_isHandOrUnknown 16 = .ok (.iconst 1, 1) := by decide +kernel
theorem dX5_isHandOrUnknown_17 : decode cX5_isHandOrUnknown 17 = .ok (.goto 4, 3) := by decide +kernel
theorem dX5_isHandOrUnknown_20 : decode cX5_isHandOrUnknown 20 = .ok (.iconst 0, 1) := by decide +kernel
theorem dX5_isHandOrUnknown_21 : decode cX5_isHandOrUnknown 21 = .ok (.ireturn, 1) := by decide +kernel
theorem dX5_hasNote_0 : decode cX5_hasNote 0 = .ok (.iconst 0, 1) := by decide +kernel
theorem dX5_hasNote_1 : decode cX5_hasNote 1 = .ok (.istore 5, 2) := by decide +kernel
theorem dX5_hasNote_3 : decode cX5_hasNote 3 = .ok (.iload 5, 2) := by decide +kernel
theorem dX5_hasNote_5 : decode cX5_hasNote 5 = .ok (.aload_n 0, 1) := by decide +kernel
theorem dX5_hasNote_6 : decode cX5_hasNote 6 = .ok (.getfield 29, 3) := by decide +kernel
theorem dX5_hasNote_9 : decode cX5_hasNote 9 = .ok (.invokevirtual 67, 3) := by decide +kernel
theorem dX5_hasNote_12 : decode cX5_hasNote 12 = .ok (.if_icmp .ge 68, 3) := by decide +kernel
theorem dX5_hasNote_15 : decode cX5_hasNote 15 = .ok (.aload_n 0, 1) := by decide +kernel
theorem dX5_hasNote_16 : decode cX5_hasNote 16 = .ok (.getfield 29, 3) := by decide +kernel
theorem dX5_hasNote_19 : decode cX5_hasNote 19 = .ok (.iload 5, 2) := by decide +kernel
theorem dX5_hasNote_21 : decode cX5_hasNote 21 = .ok (.iconst 1, 1) := by decide +kernel
theorem dX5_hasNote_22 : decode cX5_hasNote 22 = .ok (.invokevirtual 70, 3) := by decide +kernel
theorem dX5_hasNote_25 : decode cX5_hasNote 25 = .ok (.iload_n 2, 1) := by decide +kernel
theorem dX5_hasNote_26 : decode cX5_hasNote 26 = .ok (.if_icmp .ne 48, 3) := by decide +kernel
theorem dX5_hasNote_29 : decode cX5_hasNote 29 = .ok (.aload_n 0, 1) := by decide +kernel
theorem dX5_hasNote_30 : decode cX5_hasNote 30 = .ok (.getfield 29, 3) := by decide +kernel
theorem dX5_hasNote_33 : decode cX5_hasNote 33 = .ok (.iload 5, 2) := by decide +kernel
theorem dX5_hasNote_35 : decode cX5_hasNote 35 = .ok (.iconst 0, 1) := by decide +kernel
theorem dX5_hasNote_36 : decode cX5_hasNote 36 = .ok (.invokevirtual 70, 3) := by decide +kernel
theorem dX5_hasNote_39 : decode cX5_hasNote 39 = .ok (.iload_n 1, 1) := by decide +kernel
theorem dX5_hasNote_40 : decode cX5_hasNote 40 = .ok (.if_icmp .ne 34, 3) := by decide +kernel
theorem dX5_hasNote_43 : decode cX5_hasNote 43 = .ok (.aload_n 0, 1) := by decide +kernel
theorem dX5_hasNote_44 : decode cX5_hasNote 44 = .ok (.getfield 29, 3) := by decide +kernel
theorem dX5_hasNote_47 : decode cX5_hasNote 47 = .ok (.iload 5, 2) := by decide +kernel
theorem dX5_hasNote_49 : decode cX5_hasNote 49 = .ok (.iconst 2, 1) := by decide +kernel
theorem dX5_hasNote_50 : decode cX5_hasNote 50 = .ok (.invokevirtual 70, 3) := by decide +kernel
theorem dX5_hasNote_53 : decode cX5_hasNote 53 = .ok (.iload_n 3, 1) := by decide +kernel
theorem dX5_hasNote_54 : decode cX5_hasNote 54 = .ok (.if_icmp .ne 20, 3) := by decide +kernel
theorem dX5_hasNote_57 : decode cX5_hasNote 57 = .ok (.aload_n 0, 1) := by decide +kernel
theorem dX5_hasNote_58 : decode cX5_hasNote 58 = .ok (.getfield 29, 3) := by decide +kernel
theorem dX5_hasNote_61 : decode cX5_hasNote 61 = .ok (.iload 5, 2) := by decide +kernel
theorem dX5_hasNote_63 : decode cX5_hasNote 63 = .ok (.iconst 4, 1) := by decide +kernel
theorem dX5_hasNote_64 : decode cX5_hasNote 64 = .ok (.invokevirtual 70, 3) := by decide +kernel
theorem dX5_hasNote_67 : decode cX5_hasNote 67 = .ok (.iload 4, 2) := by decide +kernel
theorem dX5_hasNote_69 : decode cX5_hasNote 69 = .ok (.if_icmp .ne 5, 3) := by decide +kernel
theorem dX5_hasNote_72 : decode cX5_hasNote 72 = .ok (.iconst 1, 1) := by decide +kernel
theorem dX5_hasNote_73 : decode cX5_hasNote 73 = .ok (.ireturn, 1) := by decide +kernel
theorem dX5_hasNote_74 : decode cX5_hasNote 74 = .ok (.iinc 5 1, 3) := by decide +kernel
theorem dX5_hasNote_77 : decode cX5_hasNote 77 = .ok (.goto (-74), 3) := by decide +kernel
theorem dX5_hasNote_80 : decode cX5_hasNote 80 = .ok (.iconst 0, 1) := by decide +kernel
theorem dX5_hasNote_81 : decode cX5_hasNote 81 = .ok (.ireturn, 1) := by decide +kernel
theorem dX5_addNote_0 : decode cX5_addNote 0 = .ok (.aload_n 0, 1) := by decide +kernel
theorem dX5_addNote_1 : decode cX5_addNote 1 = .ok (.getfield 29, 3) := by decide +kernel
theorem dX5_addNote_4 : decode cX5_addNote 4 = .ok (.invokevirtual 46, 3) := by decide +kernel
theorem dX5_addNote_7 : decode cX5_addNote 7 = .ok (.istore 6, 2) := by decide +kernel
theorem dX5_addNote_9 : decode cX5_addNote 9 = .ok (.aload_n 0, 1) := by decide +kernel
theorem dX5_addNote_10 : decode cX5_addNote 10 = .ok (.getfield 29, 3) := by decide +kernel
theorem dX5_addNote_13 : decode cX5_addNote 13 = .ok (.iload 6, 2) := by decide +kernel
theorem dX5_addNote_15 : decode cX5_addNote 15 = .ok (.iconst 0, 1) := by decide +kernel
theorem dX5_addNote_16 : decode cX5_addNote 16 = .ok (.iload_n 1, 1) := by decide +kernel
theorem dX5_addNote_17 : decode cX5_addNote 17 = .ok (.invokevirtual 78, 3) := by decide +kernel
theorem dX5_addNote_20 : decode cX5_addNote 20 = .ok (.pop, 1) := by decide +kernel
theorem dX5_addNote_21 : decode cX5_addNote 21 = .ok (.aload_n 0, 1) := by decide +kernel
theorem dX5_addNote_22 : decode cX5_addNote 22 = .ok (.getfield 29, 3) := by decide +kernel
theorem dX5_addNote_25 : decode cX5_addNote 25 = .ok (.iload 6, 2) := by decide +kernel
theorem dX5_addNote_27 : decode cX5_addNote 27 = .ok (.iconst 1, 1) := by decide +kernel
theorem dX5_addNote_28 : decode cX5_addNote 28 = .ok (.iload_n 2, 1) := by decide +kernel
theorem dX5_addNote_29 : decode cX5_addNote 29 = .ok (.invokevirtual 78, 3) := by decide +kernel
theorem dX5_addNote_32 : decode cX5_addNote 32 = .ok (.pop, 1) := by decide +kernel
theorem dX5_addNote_33 : decode cX5_addNote 33 = .ok (.aload_n 0, 1) := by decide +kernel
theorem dX5_addNote_34 : decode cX5_addNote 34 = .ok (.getfield 29, 3) := by decide +kernel
theorem dX5_addNote_37 : decode cX5_addNote 37 = .ok (.iload 6, 2) := by decide +kernel
theorem dX5_addNote_39 : decode cX5_addNote 39 = .ok (.iconst 2, 1) := by decide +kernel
theorem dX5_addNote_40 : decode cX5_addNote 40 = .ok (.iload_n 3, 1) := by decide +kernel
theorem dX5_addNote_41 : decode cX5_addNote 41 = .ok (.invokevirtual 78, 3) := by decide +kernel
theorem dX5_addNote_44 : decode cX5_addNote 44 = .ok (.pop, 1) := by decide +kernel
theorem dX5_addNote_45 : decode cX5_addNote 45 = .ok (.aload_n 0, 1) := by decide +kernel
theorem dX5_addNote_46 : decode cX5_addNote 46 = .ok (.getfield 29, 3) := by decide +kernel
theorem dX5_addNote_49 : decode cX5_addNote 49 = .ok (.iload 6, 2) := by decide +kernel
theorem dX5_addNote_51 : decode cX5_addNote 51 = .ok (.iconst 3, 1) := by decide +kernel
theorem dX5_addNote_52 : decode cX5_addNote 52 = .ok (.iload 4, 2) := by decide +kernel
theorem dX5_addNote_54 : decode cX5_addNote 54 = .ok (.invokevirtual 78, 3) := by decide +kernel
theorem dX5_addNote_57 : decode cX5_addNote 57 = .ok (.pop, 1) := by decide +kernel
theorem dX5_addNote_58 : decode cX5_addNote 58 = .ok (.aload_n 0, 1) := by decide +kernel
theorem dX5_addNote_59 : decode cX5_addNote 59 = .ok (.getfield 29, 3) := by decide +kernel
theorem dX5_addNote_62 : decode cX5_addNote 62 = .ok (.iload 6, 2) := by decide +kernel
theorem dX5_addNote_64 : decode cX5_addNote 64 = .ok (.iconst 4, 1) := by decide +kernel
theorem dX5_addNote_65 : decode cX5_addNote 65 = .ok (.iload 5, 2) := by decide +kernel
theorem dX5_addNote_67 : decode cX5_addNote 67 = .ok (.invokevirtual 78, 3) := by decide +kernel
theorem dX5_addNote_70 : decode cX5_addNote 70 = .ok (.pop, 1) := by decide +kernel
theorem dX5_addNote_71 : decode cX5_addNote 71 = .ok (.iload 6, 2) := by decide +kernel
theorem dX5_addNote_73 : decode cX5_addNote 73 = .ok (.ireturn, 1) := by decide +kernel
theorem dX5_notesWritten_0 : decode cX5_notesWritten 0 = .ok (.iconst 0, 1) := by decide +kernel
theorem dX5_notesWritten_1 : decode cX5_notesWritten 1 = .ok (.istore_n 1, 1) := by decide +kernel
theorem dX5_notesWritten_2 : decode cX5_notesWritten 2 = .ok (.iconst 0, 1) := by decide +kernel
theorem dX5_notesWritten_3 : decode cX5_notesWritten 3 = .ok (.istore_n 2, 1) := by decide +kernel
theorem dX5_notesWritten_4 : decode cX5_notesWritten 4 = .ok (.iload_n 2, 1) := by decide +kernel
theorem dX5_notesWritten_5 : decode cX5_notesWritten 5 = .ok (.aload_n 0, 1) := by decide +kernel
theorem dX5_notesWritten_6 : decode cX5_notesWritten 6 = .ok (.getfield 29, 3) := by decide +kernel
theorem dX5_notesWritten_9 : decode cX5_notesWritten 9 = .ok (.invokevirtual 67, 3) := by decide +kernel
theorem dX5_notesWritten_12 : decode cX5_notesWritten 12 = .ok (.if_icmp .ge 29, 3) := by decide +kernel
theorem dX5_notesWritten_15 : decode cX5_notesWritten 15 = .ok (.iload_n 1, 1) := by decide +kernel
theorem dX5_notesWritten_16 : decode cX5_notesWritten 16 = .ok (.aload_n 0, 1) := by decide +kernel
theorem dX5_notesWritten_17 : decode cX5_notesWritten 17 = .ok (.getfield 29, 3) := by decide +kernel
theorem dX5_notesWritten_20 : decode cX5_notesWritten 20 = .ok (.iload_n 2, 1) := by decide +kernel
theorem dX5_notesWritten_21 : decode cX5_notesWritten 21 = .ok (.iconst 4, 1) := by decide +kernel
theorem dX5_notesWritten_22 : decode cX5_notesWritten 22 = .ok (.invokevirtual 70, 3) := by decide +kernel
theorem dX5_notesWritten_25 : decode cX5_notesWritten 25 = .ok (.ifCond .ne 7, 3) := by decide +kernel
theorem dX5_notesWritten_28 : decode cX5_notesWritten 28 = .ok (.iconst 1, 1) := by decide +kernel
theorem dX5_notesWritten_29 : decode cX5_notesWritten 29 = .ok (.goto 4, 3) := by decide +kernel
theorem dX5_notesWritten_32 : decode cX5_notesWritten 32 = .ok (.iconst 0, 1) := by decide +kernel
theorem dX5_notesWritten_33 : decode cX5_notesWritten 33 = .ok (.iadd, 1) := by decide +kernel
theorem dX5_notesWritten_34 : decode cX5_notesWritten 34 = .ok (.istore_n 1, 1) := by decide +kernel
theorem dX5_notesWritten_35 : decode cX5_notesWritten 35 = .ok (.iinc 2 1, 3) := by decide +kernel
theorem dX5_notesWritten_38 : decode cX5_notesWritten 38 = .ok (.goto (-34), 3) := by decide +kernel
theorem dX5_notesWritten_41 : decode cX5_notesWritten 41 = .ok (.iload_n 1, 1) := by decide +kernel
theorem dX5_notesWritten_42 : decode cX5_notesWritten 42 = .ok (.ireturn, 1) := by decide +kernel
theorem dX5_copiesWithHand_0 : decode cX5_copiesWithHand 0 = .ok (.iconst 0, 1) := by decide +kernel
theorem dX5_copiesWithHand_1 : decode cX5_copiesWithHand 1 = .ok (.istore_n 2, 1) := by decide +kernel
theorem dX5_copiesWithHand_2 : decode cX5_copiesWithHand 2 = .ok (.iconst 0, 1) := by decide +kernel
theorem dX5_copiesWithHand_3 : decode cX5_copiesWithHand 3 = .ok (.istore_n 3, 1) := by decide +kernel
theorem dX5_copiesWithHand_4 : decode cX5_copiesWithHand 4 = .ok (.iload_n 3, 1) := by decide +kernel
theorem dX5_copiesWithHand_5 : decode cX5_copiesWithHand 5 = .ok (.aload_n 0, 1) := by decide +kernel
theorem dX5_copiesWithHand_6 : decode cX5_copiesWithHand 6 = .ok (.getfield 29, 3) := by decide +kernel
theorem dX5_copiesWithHand_9 : decode cX5_copiesWithHand 9 = .ok (.invokevirtual 67, 3) := by decide +kernel
theorem dX5_copiesWithHand_12 : decode cX5_copiesWithHand 12 = .ok (.if_icmp .ge 40, 3) := by decide +kernel
theorem dX5_copiesWithHand_15 : decode cX5_copiesWithHand 15 = .ok (.iload_n 2, 1) := by decide +kernel
theorem dX5_copiesWithHand_16 : decode cX5_copiesWithHand 16 = .ok (.aload_n 0, 1) := by decide +kernel
theorem dX5_copiesWithHand_17 : decode cX5_copiesWithHand 17 = .ok (.getfield 29, 3) := by decide +kernel
theorem dX5_copiesWithHand_20 : decode cX5_copiesWithHand 20 = .ok (.iload_n 3, 1) := by decide +kernel
theorem dX5_copiesWithHand_21 : decode cX5_copiesWithHand 21 = .ok (.iconst 3, 1) := by decide +kernel
theorem dX5_copiesWithHand_22 : decode cX5_copiesWithHand 22 = .ok (.invokevirtual 70, 3) := by decide +kernel
theorem dX5_copiesWithHand_25 : decode cX5_copiesWithHand 25 = .ok (.iload_n 1, 1) := by decide +kernel
theorem dX5_copiesWithHand_26 : decode cX5_copiesWithHand 26 = .ok (.if_icmp .ne 17, 3) := by decide +kernel
theorem dX5_copiesWithHand_29 : decode cX5_copiesWithHand 29 = .ok (.iconst 1, 1) := by decide +kernel
theorem dX5_copiesWithHand_30 : decode cX5_copiesWithHand 30 = .ok (.aload_n 0, 1) := by decide +kernel
theorem dX5_copiesWithHand_31 : decode cX5_copiesWithHand 31 = .ok (.getfield 29, 3) := by decide +kernel
theorem dX5_copiesWithHand_34 : decode cX5_copiesWithHand 34 = .ok (.iload_n 3, 1) := by decide +kernel
theorem dX5_copiesWithHand_35 : decode cX5_copiesWithHand 35 = .ok (.iconst 0, 1) := by decide +kernel
theorem dX5_copiesWithHand_36 : decode cX5_copiesWithHand 36 = .ok (.invokevirtual 70, 3) := by decide +kernel
theorem dX5_copiesWithHand_39 : decode cX5_copiesWithHand 39 = .ok (.ishl, 1) := by decide +kernel
theorem dX5_copiesWithHand_40 : decode cX5_copiesWithHand 40 = .ok (.goto 4, 3) := by decide +kernel
theorem dX5_copiesWithHand_43 : decode cX5_copiesWithHand 43 = .ok (.iconst 0, 1) := by decide +kernel
theorem dX5_copiesWithHand_44 : decode cX5_copiesWithHand 44 = .ok (.ior, 1) := by decide +kernel
theorem dX5_copiesWithHand_45 : decode cX5_copiesWithHand 45 = .ok (.istore_n 2, 1) := by decide +kernel
theorem dX5_copiesWithHand_46 : decode cX5_copiesWithHand 46 = .ok (.iinc 3 1, 3) := by decide +kernel
theorem dX5_copiesWithHand_49 : decode cX5_copiesWithHand 49 = .ok (.goto (-45), 3) := by decide +kernel
theorem dX5_copiesWithHand_52 : decode cX5_copiesWithHand 52 = .ok (.iload_n 2, 1) := by decide +kernel
theorem dX5_copiesWithHand_53 : decode cX5_copiesWithHand 53 = .ok (.ireturn, 1) := by decide +kernel
theorem dX5_placesOfKind_0 : decode cX5_placesOfKind 0 = .ok (.lconst 0, 1) := by decide +kernel
theorem dX5_placesOfKind_1 : decode cX5_placesOfKind 1 = .ok (.lstore_n 3, 1) := by decide +kernel
theorem dX5_placesOfKind_2 : decode cX5_placesOfKind 2 = .ok (.iconst 0, 1) := by decide +kernel
theorem dX5_placesOfKind_3 : decode cX5_placesOfKind 3 = .ok (.istore 5, 2) := by decide +kernel
theorem dX5_placesOfKind_5 : decode cX5_placesOfKind 5 = .ok (.iload 5, 2) := by decide +kernel
theorem dX5_placesOfKind_7 : decode cX5_placesOfKind 7 = .ok (.aload_n 0, 1) := by decide +kernel
theorem dX5_placesOfKind_8 : decode cX5_placesOfKind 8 = .ok (.getfield 29, 3) := by decide +kernel
theorem dX5_placesOfKind_11 : decode cX5_placesOfKind 11 = .ok (.invokevirtual 67, 3) := by decide +kernel
theorem dX5_placesOfKind_14 : decode cX5_placesOfKind 14 = .ok (.if_icmp .ge 68, 3) := by decide +kernel
theorem dX5_placesOfKind_17 : decode cX5_placesOfKind 17 = .ok (.aload_n 0, 1) := by decide +kernel
theorem dX5_placesOfKind_18 : decode cX5_placesOfKind 18 = .ok (.getfield 29, 3) := by decide +kernel
theorem dX5_placesOfKind_21 : decode cX5_placesOfKind 21 = .ok (.iload 5, 2) := by decide +kernel
theorem dX5_placesOfKind_23 : decode cX5_placesOfKind 23 = .ok (.iconst 0, 1) := by decide +kernel
theorem dX5_placesOfKind_24 : decode cX5_placesOfKind 24 = .ok (.invokevirtual 70, 3) := by decide +kernel
theorem dX5_placesOfKind_27 : decode cX5_placesOfKind 27 = .ok (.iload_n 1, 1) := by decide +kernel
theorem dX5_placesOfKind_28 : decode cX5_placesOfKind 28 = .ok (.if_icmp .ne 21, 3) := by decide +kernel
theorem dX5_placesOfKind_31 : decode cX5_placesOfKind 31 = .ok (.aload_n 0, 1) := by decide +kernel
theorem dX5_placesOfKind_32 : decode cX5_placesOfKind 32 = .ok (.getfield 29, 3) := by decide +kernel
theorem dX5_placesOfKind_35 : decode cX5_placesOfKind 35 = .ok (.iload 5, 2) := by decide +kernel
theorem dX5_placesOfKind_37 : decode cX5_placesOfKind 37 = .ok (.iconst 4, 1) := by decide +kernel
theorem dX5_placesOfKind_38 : decode cX5_placesOfKind 38 = .ok (.invokevirtual 70, 3) := by decide +kernel
theorem dX5_placesOfKind_41 : decode cX5_placesOfKind 41 = .ok (.iload_n 2, 1) := by decide +kernel
theorem dX5_placesOfKind_42 : decode cX5_placesOfKind 42 = .ok (.if_icmp .ne 7, 3) := by decide +kernel
theorem dX5_placesOfKind_45 : decode cX5_placesOfKind 45 = .ok (.iconst 1, 1) := by decide +kernel
theorem dX5_placesOfKind_46 : decode cX5_placesOfKind 46 = .ok (.goto 4, 3) := by decide +kernel
theorem dX5_placesOfKind_49 : decode cX5_placesOfKind 49 = .ok (.iconst 0, 1) := by decide +kernel
theorem dX5_placesOfKind_50 : decode cX5_placesOfKind 50 = .ok (.istore 6, 2) := by decide +kernel
theorem dX5_placesOfKind_52 : decode cX5_placesOfKind 52 = .ok (.lload_n 3, 1) := by decide +kernel
theorem dX5_placesOfKind_53 : decode cX5_placesOfKind 53 = .ok (.iload 6, 2) := by decide +kernel
theorem dX5_placesOfKind_55 : decode cX5_placesOfKind 55 = .ok (.ifCond .eq 18, 3) := by decide +kernel
theorem dX5_placesOfKind_58 : decode cX5_placesOfKind 58 = .ok (.lconst 1, 1) := by decide +kernel
theorem dX5_placesOfKind_59 : decode cX5_placesOfKind 59 = .ok (.aload_n 0, 1) := by decide +kernel
theorem dX5_placesOfKind_60 : decode cX5_placesOfKind 60 = .ok (.getfield 29, 3) := by decide +kernel
theorem dX5_placesOfKind_63 : decode cX5_placesOfKind 63 = .ok (.iload 5, 2) := by decide +kernel
theorem dX5_placesOfKind_65 : decode cX5_placesOfKind 65 = .ok (.iconst 1, 1) := by decide +kernel
theorem dX5_placesOfKind_66 : decode cX5_placesOfKind 66 = .ok (.invokevirtual 70, 3) := by decide +kernel
theorem dX5_placesOfKind_69 : decode cX5_placesOfKind 69 = .ok (.lshl, 1) := by decide +kernel
theorem dX5_placesOfKind_70 : decode cX5_placesOfKind 70 = .ok (.goto 4, 3) := by decide +kernel
theorem dX5_placesOfKind_73 : decode cX5_placesOfKind 73 = .ok (.lconst 0, 1) := by decide +kernel
theorem dX5_placesOfKind_74 : decode cX5_placesOfKind 74 = .ok (.lor, 1) := by decide +kernel
theorem dX5_placesOfKind_75 : decode cX5_placesOfKind 75 = .ok (.lstore_n 3, 1) := by decide +kernel
theorem dX5_placesOfKind_76 : decode cX5_placesOfKind 76 = .ok (.iinc 5 1, 3) := by decide +kernel
theorem dX5_placesOfKind_79 : decode cX5_placesOfKind 79 = .ok (.goto (-74), 3) := by decide +kernel
theorem dX5_placesOfKind_82 : decode cX5_placesOfKind 82 = .ok (.lload_n 3, 1) := by decide +kernel
theorem dX5_placesOfKind_83 : decode cX5_placesOfKind 83 = .ok (.lreturn, 1) := by decide +kernel
theorem dX5_chaptersWritten_0 : decode cX5_chaptersWritten 0 = .ok (.aload_n 0, 1) := by decide +kernel
theorem dX5_chaptersWritten_1 : decode cX5_chaptersWritten 1 = .ok (.iload_n 1, 1) := by decide +kernel
theorem dX5_chaptersWritten_2 : decode cX5_chaptersWritten 2 = .ok (.iconst 0, 1) := by decide +kernel
theorem dX5_chaptersWritten_3 : decode cX5_chaptersWritten 3 = .ok (.invokevirtual 82, 3) := by decide +kernel
theorem dX5_chaptersWritten_6 : decode cX5_chaptersWritten 6 = .ok (.lstore_n 2, 1) := by decide +kernel
theorem dX5_chaptersWritten_7 : decode cX5_chaptersWritten 7 = .ok (.iconst 0, 1) := by decide +kernel
theorem dX5_chaptersWritten_8 : decode cX5_chaptersWritten 8 = .ok (.istore 4, 2) := by decide +kernel
theorem dX5_chaptersWritten_10 : decode cX5_chaptersWritten 10 = .ok (.iconst 0, 1) := by decide +kernel
theorem dX5_chaptersWritten_11 : decode cX5_chaptersWritten 11 = .ok (.istore 5, 2) := by decide +kernel
theorem dX5_chaptersWritten_13 : decode cX5_chaptersWritten 13 = .ok (.iload 5, 2) := by decide +kernel
theorem dX5_chaptersWritten_15 : decode cX5_chaptersWritten 15 = .ok (.bipush 60, 2) := by decide +kernel
theorem dX5_chaptersWritten_17 : decode cX5_chaptersWritten 17 = .ok (.if_icmp .ge 26, 3) := by decide +kernel
theorem dX5_chaptersWritten_20 : decode cX5_chaptersWritten 20 = .ok (.iload 4, 2) := by decide +kernel
theorem dX5_chaptersWritten_22 : decode cX5_chaptersWritten 22 = .ok (.lload_n 2, 1) := by decide +kernel
theorem dX5_chaptersWritten_23 : decode cX5_chaptersWritten 23 = .ok (.iload 5, 2) := by decide +kernel
theorem dX5_chaptersWritten_25 : decode cX5_chaptersWritten 25 = .ok (.lshr, 1) := by decide +kernel
theorem dX5_chaptersWritten_26 : decode cX5_chaptersWritten 26 = .ok (.lconst 1, 1) := by decide +kernel
theorem dX5_chaptersWritten_27 : decode cX5_chaptersWritten 27 = .ok (.land, 1) := by decide +kernel
theorem dX5_chaptersWritten_28 : decode cX5_chaptersWritten 28 = .ok (.l2i, 1) := by decide +kernel
theorem dX5_chaptersWritten_29 : decode cX5_chaptersWritten 29 = .ok (.iload 5, 2) := by decide +kernel
theorem dX5_chaptersWritten_31 : decode cX5_chaptersWritten 31 = .ok (.iconst 5, 1) := by decide +kernel
theorem dX5_chaptersWritten_32 : decode cX5_chaptersWritten 32 = .ok (.idiv, 1) := by decide +kernel
theorem dX5_chaptersWritten_33 : decode cX5_chaptersWritten 33 = .ok (.ishl, 1) := by decide +kernel
theorem dX5_chaptersWritten_34 : decode cX5_chaptersWritten 34 = .ok (.ior, 1) := by decide +kernel
theorem dX5_chaptersWritten_35 : decode cX5_chaptersWritten 35 = .ok (.istore 4, 2) := by decide +kernel
theorem dX5_chaptersWritten_37 : decode cX5_chaptersWritten 37 = .ok (.iinc 5 1, 3) := by decide +kernel
theorem dX5_chaptersWritten_40 : decode cX5_chaptersWritten 40 = .ok (.goto (-27), 3) := by decide +kernel
theorem dX5_chaptersWritten_43 : decode cX5_chaptersWritten 43 = .ok (.iload 4, 2) := by decide +kernel
theorem dX5_chaptersWritten_45 : decode cX5_chaptersWritten 45 = .ok (.ireturn, 1) := by decide +kernel
theorem dX5_companions_0 : decode cX5_companions 0 = .ok (.iconst 0, 1) := by decide +kernel
theorem dX5_companions_1 : decode cX5_companions 1 = .ok (.istore_n 2, 1) := by decide +kernel
theorem dX5_companions_2 : decode cX5_companions 2 = .ok (.iconst 0, 1) := by decide +kernel
theorem dX5_companions_3 : decode cX5_companions 3 = .ok (.istore_n 3, 1) := by decide +kernel
theorem dX5_companions_4 : decode cX5_companions 4 = .ok (.iconst 0, 1) := by decide +kernel
theorem dX5_companions_5 : decode cX5_companions 5 = .ok (.istore 4, 2) := by decide +kernel
theorem dX5_companions_7 : decode cX5_companions 7 = .ok (.iload 4, 2) := by decide +kernel
theorem dX5_companions_9 : decode cX5_companions 9 = .ok (.aload_n 0, 1) := by decide +kernel
theorem dX5_companions_10 : decode cX5_companions 10 = .ok (.getfield 20, 3) := by decide +kernel
theorem dX5_companions_13 : decode cX5_companions 13 = .ok (.invokevirtual 67, 3) := by decide +kernel
theorem dX5_companions_16 : decode cX5_companions 16 = .ok (.if_icmp .ge 55, 3) := by decide +kernel
theorem dX5_companions_19 : decode cX5_companions 19 = .ok (.aload_n 0, 1) := by decide +kernel
theorem dX5_companions_20 : decode cX5_companions 20 = .ok (.getfield 20, 3) := by decide +kernel
theorem dX5_companions_23 : decode cX5_companions 23 = .ok (.iload 4, 2) := by decide +kernel
theorem dX5_companions_25 : decode cX5_companions 25 = .ok (.iconst 0, 1) := by decide +kernel
theorem dX5_companions_26 : decode cX5_companions 26 = .ok (.invokevirtual 70, 3) := by decide +kernel
theorem dX5_companions_29 : decode cX5_companions 29 = .ok (.istore 5, 2) := by decide +kernel
theorem dX5_companions_31 : decode cX5_companions 31 = .ok (.iload_n 2, 1) := by decide +kernel
theorem dX5_companions_32 : decode cX5_companions 32 = .ok (.iconst 1, 1) := by decide +kernel
theorem dX5_companions_33 : decode cX5_companions 33 = .ok (.iload 5, 2) := by decide +kernel
theorem dX5_companions_35 : decode cX5_companions 35 = .ok (.ishl, 1) := by decide +kernel
theorem dX5_companions_36 : decode cX5_companions 36 = .ok (.ior, 1) := by decide +kernel
theorem dX5_companions_37 : decode cX5_companions 37 = .ok (.istore_n 2, 1) := by decide +kernel
theorem dX5_companions_38 : decode cX5_companions 38 = .ok (.iload_n 3, 1) := by decide +kernel
theorem dX5_companions_39 : decode cX5_companions 39 = .ok (.iload 5, 2) := by decide +kernel
theorem dX5_companions_41 : decode cX5_companions 41 = .ok (.iload_n 1, 1) := by decide +kernel
theorem dX5_companions_42 : decode cX5_companions 42 = .ok (.if_icmp .eq 20, 3) := by decide +kernel
theorem dX5_companions_45 : decode cX5_companions 45 = .ok (.aload_n 0, 1) := by decide +kernel
theorem dX5_companions_46 : decode cX5_companions 46 = .ok (.iload_n 1, 1) := by decide +kernel
theorem dX5_companions_47 : decode cX5_companions 47 = .ok (.iload 4, 2) := by decide +kernel
theorem dX5_companions_49 : decode cX5_companions 49 = .ok (.invokevirtual 86, 3) := by decide +kernel
theorem dX5_companions_52 : decode cX5_companions 52 = .ok (.ifCond .eq 10, 3) := by decide +kernel
theorem dX5_companions_55 : decode cX5_companions 55 = .ok (.iconst 1, 1) := by decide +kernel
theorem dX5_companions_56 : decode cX5_companions 56 = .ok (.iload 5, 2) := by decide +kernel
theorem dX5_companions_58 : decode cX5_companions 58 = .ok (.ishl, 1) := by decide +kernel
theorem dX5_companions_59 : decode cX5_companions 59 = .ok (.goto 4, 3) := by decide +kernel
theorem dX5_companions_62 : decode cX5_companions 62 = .ok (.iconst 0, 1) := by decide +kernel
theorem dX5_companions_63 : decode cX5_companions 63 = .ok (.ior, 1) := by decide +kernel
theorem dX5_companions_64 : decode cX5_companions 64 = .ok (.istore_n 3, 1) := by decide +kernel
theorem dX5_companions_65 : decode cX5_companions 65 = .ok (.iinc 4 1, 3) := by decide +kernel
theorem dX5_companions_68 : decode cX5_companions 68 = .ok (.goto (-61), 3) := by decide +kernel
theorem dX5_companions_71 : decode cX5_companions 71 = .ok (.iload_n 2, 1) := by decide +kernel
theorem dX5_companions_72 : decode cX5_companions 72 = .ok (.iload_n 1, 1) := by decide +kernel
theorem dX5_companions_73 : decode cX5_companions 73 = .ok (.ishr, 1) := by decide +kernel
theorem dX5_companions_74 : decode cX5_companions 74 = .ok (.iconst 1, 1) := by decide +kernel
theorem dX5_companions_75 : decode cX5_companions 75 = .ok (.iand, 1) := by decide +kernel
theorem dX5_companions_76 : decode cX5_companions 76 = .ok (.ifCond .ne 7, 3) := by decide +kernel
theorem dX5_companions_79 : decode cX5_companions 79 = .ok (.iconst 1, 1) := by decide +kernel
theorem dX5_companions_80 : decode cX5_companions 80 = .ok (.goto 4, 3) := by decide +kernel
theorem dX5_companions_83 : decode cX5_companions 83 = .ok (.iconst 0, 1) := by decide +kernel
theorem dX5_companions_84 : decode cX5_companions 84 = .ok (.istore 4, 2) := by decide +kernel
theorem dX5_companions_86 : decode cX5_companions 86 = .ok (.iload 4, 2) := by decide +kernel
theorem dX5_companions_88 : decode cX5_companions 88 = .ok (.ifCond .eq 10, 3) := by decide +kernel
theorem dX5_companions_91 : decode cX5_companions 91 = .ok (.aload_n 0, 1) := by decide +kernel
theorem dX5_companions_92 : decode cX5_companions 92 = .ok (.invokevirtual 90, 3) := by decide +kernel
theorem dX5_companions_95 : decode cX5_companions 95 = .ok (.goto 13, 3) := by decide +kernel
theorem dX5_companions_98 : decode cX5_companions 98 = .ok (.iload_n 3, 1) := by decide +kernel
theorem dX5_companions_99 : decode cX5_companions 99 = .ok (.aload_n 0, 1) := by decide +kernel
theorem dX5_companions_100 : decode cX5_companions 100 = .ok (.invokevirtual 90, 3) := by decide +kernel
theorem dX5_companions_103 : decode cX5_companions 103 = .ok (.iload_n 2, 1) := by decide +kernel
theorem dX5_companions_104 : decode cX5_companions 104 = .ok (.iconst (-1), 1) := by decide +kernel
theorem dX5_companions_105 : decode cX5_companions 105 = .ok (.ixor, 1) := by decide +kernel
theorem dX5_companions_106 : decode cX5_companions 106 = .ok (.iand, 1) := by decide +kernel
theorem dX5_companions_107 : decode cX5_companions 107 = .ok (.ior, 1) := by decide +kernel
theorem dX5_companions_108 : decode cX5_companions 108 = .ok (.istore 5, 2) := by decide +kernel
theorem dX5_companions_110 : decode cX5_companions 110 = .ok (.iload 5, 2) := by decide +kernel
theorem dX5_companions_112 : decode cX5_companions 112 = .ok (.iconst 1, 1) := by decide +kernel
theorem dX5_companions_113 : decode cX5_companions 113 = .ok (.iload_n 1, 1) := by decide +kernel
theorem dX5_companions_114 : decode cX5_companions 114 = .ok (.ishl, 1) := by decide +kernel
theorem dX5_companions_115 : decode cX5_companions 115 = .ok (.iconst (-1), 1) := by decide +kernel
theorem dX5_companions_116 : decode cX5_companions 116 = .ok (.ixor, 1) := by decide +kernel
theorem dX5_companions_117 : decode cX5_companions 117 = .ok (.iand, 1) := by decide +kernel
theorem dX5_companions_118 : decode cX5_companions 118 = .ok (.ireturn, 1) := by decide +kernel
theorem dX5_metDuring_0 : decode cX5_metDuring 0 = .ok (.aload_n 0, 1) := by decide +kernel
theorem dX5_metDuring_1 : decode cX5_metDuring 1 = .ok (.getfield 20, 3) := by decide +kernel
theorem dX5_metDuring_4 : decode cX5_metDuring 4 = .ok (.iload_n 2, 1) := by decide +kernel
theorem dX5_metDuring_5 : decode cX5_metDuring 5 = .ok (.iconst 1, 1) := by decide +kernel
theorem dX5_metDuring_6 : decode cX5_metDuring 6 = .ok (.invokevirtual 70, 3) := by decide +kernel
theorem dX5_metDuring_9 : decode cX5_metDuring 9 = .ok (.istore_n 3, 1) := by decide +kernel
theorem dX5_metDuring_10 : decode cX5_metDuring 10 = .ok (.aload_n 0, 1) := by decide +kernel
theorem dX5_metDuring_11 : decode cX5_metDuring 11 = .ok (.getfield 20, 3) := by decide +kernel
theorem dX5_metDuring_14 : decode cX5_metDuring 14 = .ok (.iload_n 2, 1) := by decide +kernel
theorem dX5_metDuring_15 : decode cX5_metDuring 15 = .ok (.iconst 2, 1) := by decide +kernel
theorem dX5_metDuring_16 : decode cX5_metDuring 16 = .ok (.invokevirtual 70, 3) := by decide +kernel
theorem dX5_metDuring_19 : decode cX5_metDuring 19 = .ok (.istore 4, 2) := by decide +kernel
theorem dX5_metDuring_21 : decode cX5_metDuring 21 = .ok (.aload_n 0, 1) := by decide +kernel
theorem dX5_metDuring_22 : decode cX5_metDuring 22 = .ok (.getfield 20, 3) := by decide +kernel
theorem dX5_metDuring_25 : decode cX5_metDuring 25 = .ok (.iload_n 2, 1) := by decide +kernel
theorem dX5_metDuring_26 : decode cX5_metDuring 26 = .ok (.iconst 3, 1) := by decide +kernel
theorem dX5_metDuring_27 : decode cX5_metDuring 27 = .ok (.invokevirtual 70, 3) := by decide +kernel
theorem dX5_metDuring_30 : decode cX5_metDuring 30 = .ok (.istore 5, 2) := by decide +kernel
theorem dX5_metDuring_32 : decode cX5_metDuring 32 = .ok (.iconst 0, 1) := by decide +kernel
theorem dX5_metDuring_33 : decode cX5_metDuring 33 = .ok (.istore 6, 2) := by decide +kernel
theorem dX5_metDuring_35 : decode cX5_metDuring 35 = .ok (.iload 6, 2) := by decide +kernel
theorem dX5_metDuring_37 : decode cX5_metDuring 37 = .ok (.aload_n 0, 1) := by decide +kernel
theorem dX5_metDuring_38 : decode cX5_metDuring 38 = .ok (.getfield 20, 3) := by decide +kernel
theorem dX5_metDuring_41 : decode cX5_metDuring 41 = .ok (.invokevirtual 67, 3) := by decide +kernel
theorem dX5_metDuring_44 : decode cX5_metDuring 44 = .ok (.if_icmp .ge 69, 3) := by decide +kernel
theorem dX5_metDuring_47 : decode cX5_metDuring 47 = .ok (.aload_n 0, 1) := by decide +kernel
theorem dX5_metDuring_48 : decode cX5_metDuring 48 = .ok (.getfield 20, 3) := by decide +kernel
theorem dX5_metDuring_51 : decode cX5_metDuring 51 = .ok (.iload 6, 2) := by decide +kernel
theorem dX5_metDuring_53 : decode cX5_metDuring 53 = .ok (.iconst 0, 1) := by decide +kernel
theorem dX5_metDuring_54 : decode cX5_metDuring 54 = .ok (.invokevirtual 70, 3) := by decide +kernel
theorem dX5_metDuring_57 : decode cX5_metDuring 57 = .ok (.iload_n 1, 1) := by decide +kernel
theorem dX5_metDuring_58 : decode cX5_metDuring 58 = .ok (.if_icmp .ne 49, 3) := by decide +kernel
theorem dX5_metDuring_61 : decode cX5_metDuring 61 = .ok (.aload_n 0, 1) := by decide +kernel
theorem dX5_metDuring_62 : decode cX5_metDuring 62 = .ok (.getfield 20, 3) := by decide +kernel
theorem dX5_metDuring_65 : decode cX5_metDuring 65 = .ok (.iload 6, 2) := by decide +kernel
theorem dX5_metDuring_67 : decode cX5_metDuring 67 = .ok (.iconst 1, 1) := by decide +kernel
theorem dX5_metDuring_68 : decode cX5_metDuring 68 = .ok (.invokevirtual 70, 3) := by decide +kernel
theorem dX5_metDuring_71 : decode cX5_metDuring 71 = .ok (.iload_n 3, 1) := by decide +kernel
theorem dX5_metDuring_72 : decode cX5_metDuring 72 = .ok (.if_icmp .ne 35, 3) := by decide +kernel
theorem dX5_metDuring_75 : decode cX5_metDuring 75 = .ok (.aload_n 0, 1) := by decide +kernel
theorem dX5_metDuring_76 : decode cX5_metDuring 76 = .ok (.getfield 20, 3) := by decide +kernel
theorem dX5_metDuring_79 : decode cX5_metDuring 79 = .ok (.iload 6, 2) := by decide +kernel
theorem dX5_metDuring_81 : decode cX5_metDuring 81 = .ok (.iconst 2, 1) := by decide +kernel
theorem dX5_metDuring_82 : decode cX5_metDuring 82 = .ok (.invokevirtual 70, 3) := by decide +kernel
theorem dX5_metDuring_85 : decode cX5_metDuring 85 = .ok (.iload 5, 2) := by decide +kernel
theorem dX5_metDuring_87 : decode cX5_metDuring 87 = .ok (.if_icmp .gt 20, 3) := by decide +kernel
theorem dX5_metDuring_90 : decode cX5_metDuring 90 = .ok (.aload_n 0, 1) := by decide +kernel
theorem dX5_metDuring_91 : decode cX5_metDuring 91 = .ok (.getfield 20, 3) := by decide +kernel
theorem dX5_metDuring_94 : decode cX5_metDuring 94 = .ok (.iload 6, 2) := by decide +kernel
theorem dX5_metDuring_96 : decode cX5_metDuring 96 = .ok (.iconst 3, 1) := by decide +kernel
theorem dX5_metDuring_97 : decode cX5_metDuring 97 = .ok (.invokevirtual 70, 3) := by decide +kernel
theorem dX5_metDuring_100 : decode cX5_metDuring 100 = .ok (.iload 4, 2) := by decide +kernel
theorem dX5_metDuring_102 : decode cX5_metDuring 102 = .ok (.if_icmp .lt 5, 3) := by decide +kernel
theorem dX5_metDuring_105 : decode cX5_metDuring 105 = .ok (.iconst 1, 1) := by decide +kernel
theorem dX5_metDuring_106 : decode cX5_metDuring 106 = .ok (.ireturn, 1) := by decide +kernel
theorem dX5_metDuring_107 : decode cX5_metDuring 107 = .ok (.iinc 6 1, 3) := by decide +kernel
theorem dX5_metDuring_110 : decode cX5_metDuring 110 = .ok (.goto (-75), 3) := by decide +kernel
theorem dX5_metDuring_113 : decode cX5_metDuring 113 = .ok (.iconst 0, 1) := by decide +kernel
theorem dX5_metDuring_114 : decode cX5_metDuring 114 = .ok (.ireturn, 1) := by decide +kernel
theorem dX5_firstYear_0 : decode cX5_firstYear 0 = .ok (.iconst 0, 1) := by decide +kernel
theorem dX5_firstYear_1 : decode cX5_firstYear 1 = .ok (.istore_n 2, 1) := by decide +kernel
theorem dX5_firstYear_2 : decode cX5_firstYear 2 = .ok (.aload_n 0, 1) := by decide +kernel
theorem dX5_firstYear_3 : decode cX5_firstYear 3 = .ok (.iload_n 1, 1) := by decide +kernel
theorem dX5_firstYear_4 : decode cX5_firstYear 4 = .ok (.invokevirtual 93, 3) := by decide +kernel
theorem dX5_firstYear_7 : decode cX5_firstYear 7 = .ok (.istore_n 3, 1) := by decide +kernel
theorem dX5_firstYear_8 : decode cX5_firstYear 8 = .ok (.iconst 0, 1) := by decide +kernel
theorem dX5_firstYear_9 : decode cX5_firstYear 9 = .ok (.istore 4, 2) := by decide +kernel
theorem dX5_firstYear_11 : decode cX5_firstYear 11 = .ok (.iload 4, 2) := by decide +kernel
theorem dX5_firstYear_13 : decode cX5_firstYear 13 = .ok (.aload_n 0, 1) := by decide +kernel
theorem dX5_firstYear_14 : decode cX5_firstYear 14 = .ok (.getfield 23, 3) := by decide +kernel
theorem dX5_firstYear_17 : decode cX5_firstYear 17 = .ok (.invokevirtual 67, 3) := by decide +kernel
theorem dX5_firstYear_20 : decode cX5_firstYear 20 = .ok (.if_icmp .ge 38, 3) := by decide +kernel
theorem dX5_firstYear_23 : decode cX5_firstYear 23 = .ok (.iload_n 2, 1) := by decide +kernel
theorem dX5_firstYear_24 : decode cX5_firstYear 24 = .ok (.iload_n 3, 1) := by decide +kernel
theorem dX5_firstYear_25 : decode cX5_firstYear 25 = .ok (.iload 4, 2) := by decide +kernel
theorem dX5_firstYear_27 : decode cX5_firstYear 27 = .ok (.ishr, 1) := by decide +kernel
theorem dX5_firstYear_28 : decode cX5_firstYear 28 = .ok (.iconst 1, 1) := by decide +kernel
theorem dX5_firstYear_29 : decode cX5_firstYear 29 = .ok (.iand, 1) := by decide +kernel
theorem dX5_firstYear_30 : decode cX5_firstYear 30 = .ok (.iconst 1, 1) := by decide +kernel
theorem dX5_firstYear_31 : decode cX5_firstYear 31 = .ok (.if_icmp .ne 16, 3) := by decide +kernel
theorem dX5_firstYear_34 : decode cX5_firstYear 34 = .ok (.aload_n 0, 1) := by decide +kernel
theorem dX5_firstYear_35 : decode cX5_firstYear 35 = .ok (.getfield 23, 3) := by decide +kernel
theorem dX5_firstYear_38 : decode cX5_firstYear 38 = .ok (.iload 4, 2) := by decide +kernel
theorem dX5_firstYear_40 : decode cX5_firstYear 40 = .ok (.iconst 0, 1) := by decide +kernel
theorem dX5_firstYear_41 : decode cX5_firstYear 41 = .ok (.invokevirtual 70, 3) := by decide +kernel
theorem dX5_firstYear_44 : decode cX5_firstYear 44 = .ok (.goto 4, 3) := by decide +kernel
theorem dX5_firstYear_47 : decode cX5_firstYear 47 = .ok (.iconst 0, 1) := by decide +kernel
theorem dX5_firstYear_48 : decode cX5_firstYear 48 = .ok (.invokestatic 97, 3) := by decide +kernel
theorem dX5_firstYear_51 : decode cX5_firstYear 51 = .ok (.istore_n 2, 1) := by decide +kernel
theorem dX5_firstYear_52 : decode cX5_firstYear 52 = .ok (.iinc 4 1, 3) := by decide +kernel
theorem dX5_firstYear_55 : decode cX5_firstYear 55 = .ok (.goto (-44), 3) := by decide +kernel
theorem dX5_firstYear_58 : decode cX5_firstYear 58 = .ok (.iconst (-1), 1) := by decide +kernel
theorem dX5_firstYear_59 : decode cX5_firstYear 59 = .ok (.istore 4, 2) := by decide +kernel
theorem dX5_firstYear_61 : decode cX5_firstYear 61 = .ok (.iconst 0, 1) := by decide +kernel
theorem dX5_firstYear_62 : decode cX5_firstYear 62 = .ok (.istore 5, 2) := by decide +kernel
theorem dX5_firstYear_64 : decode cX5_firstYear 64 = .ok (.iload 5, 2) := by decide +kernel
theorem dX5_firstYear_66 : decode cX5_firstYear 66 = .ok (.aload_n 0, 1) := by decide +kernel
theorem dX5_firstYear_67 : decode cX5_firstYear 67 = .ok (.getfield 20, 3) := by decide +kernel
theorem dX5_firstYear_70 : decode cX5_firstYear 70 = .ok (.invokevirtual 67, 3) := by decide +kernel
theorem dX5_firstYear_73 : decode cX5_firstYear 73 = .ok (.if_icmp .ge 55, 3) := by decide +kernel
theorem dX5_firstYear_76 : decode cX5_firstYear 76 = .ok (.aload_n 0, 1) := by decide +kernel
theorem dX5_firstYear_77 : decode cX5_firstYear 77 = .ok (.getfield 20, 3) := by decide +kernel
theorem dX5_firstYear_80 : decode cX5_firstYear 80 = .ok (.iload 5, 2) := by decide +kernel
theorem dX5_firstYear_82 : decode cX5_firstYear 82 = .ok (.iconst 0, 1) := by decide +kernel
theorem dX5_firstYear_83 : decode cX5_firstYear 83 = .ok (.invokevirtual 70, 3) := by decide +kernel
theorem dX5_firstYear_86 : decode cX5_firstYear 86 = .ok (.iload_n 1, 1) := by decide +kernel
theorem dX5_firstYear_87 : decode cX5_firstYear 87 = .ok (.if_icmp .ne 35, 3) := by decide +kernel
theorem dX5_firstYear_90 : decode cX5_firstYear 90 = .ok (.aload_n 0, 1) := by decide +kernel
theorem dX5_firstYear_91 : decode cX5_firstYear 91 = .ok (.getfield 20, 3) := by decide +kernel
theorem dX5_firstYear_94 : decode cX5_firstYear 94 = .ok (.iload 5, 2) := by decide +kernel
theorem dX5_firstYear_96 : decode cX5_firstYear 96 = .ok (.iconst 2, 1) := by decide +kernel
theorem dX5_firstYear_97 : decode cX5_firstYear 97 = .ok (.invokevirtual 70, 3) := by decide +kernel
theorem dX5_firstYear_100 : decode cX5_firstYear 100 = .ok (.istore 6, 2) := by decide +kernel
theorem dX5_firstYear_102 : decode cX5_firstYear 102 = .ok (.iload 4, 2) := by decide +kernel
theorem dX5_firstYear_104 : decode cX5_firstYear 104 = .ok (.iconst (-1), 1) := by decide +kernel
theorem dX5_firstYear_105 : decode cX5_firstYear 105 = .ok (.if_icmp .ne 8, 3) := by decide +kernel
theorem dX5_firstYear_108 : decode cX5_firstYear 108 = .ok (.iload 6, 2) := by decide +kernel
theorem dX5_firstYear_110 : decode cX5_firstYear 110 = .ok (.goto 10, 3) := by decide +kernel
theorem dX5_firstYear_113 : decode cX5_firstYear 113 = .ok (.iload 4, 2) := by decide +kernel
theorem dX5_firstYear_115 : decode cX5_firstYear 115 = .ok (.iload 6, 2) := by decide +kernel
theorem dX5_firstYear_117 : decode cX5_firstYear 117 = .ok (.invokestatic 102, 3) := by decide +kernel
theorem dX5_firstYear_120 : decode cX5_firstYear 120 = .ok (.istore 4, 2) := by decide +kernel
theorem dX5_firstYear_122 : decode cX5_firstYear 122 = .ok (.iinc 5 1, 3) := by decide +kernel
theorem dX5_firstYear_125 : decode cX5_firstYear 125 = .ok (.goto (-61), 3) := by decide +kernel
theorem dX5_firstYear_128 : decode cX5_firstYear 128 = .ok (.iload_n 2, 1) := by decide +kernel
theorem dX5_firstYear_129 : decode cX5_firstYear 129 = .ok (.iload 4, 2) := by decide +kernel
theorem dX5_firstYear_131 : decode cX5_firstYear 131 = .ok (.invokestatic 97, 3) := by decide +kernel
theorem dX5_firstYear_134 : decode cX5_firstYear 134 = .ok (.ireturn, 1) := by decide +kernel
theorem dX5_lastYear_0 : decode cX5_lastYear 0 = .ok (.sipush 400, 3) := by decide +kernel
theorem dX5_lastYear_3 : decode cX5_lastYear 3 = .ok (.istore_n 2, 1) := by decide +kernel
theorem dX5_lastYear_4 : decode cX5_lastYear 4 = .ok (.aload_n 0, 1) := by decide +kernel
theorem dX5_lastYear_5 : decode cX5_lastYear 5 = .ok (.iload_n 1, 1) := by decide +kernel
theorem dX5_lastYear_6 : decode cX5_lastYear 6 = .ok (.invokevirtual 93, 3) := by decide +kernel
theorem dX5_lastYear_9 : decode cX5_lastYear 9 = .ok (.istore_n 3, 1) := by decide +kernel
theorem dX5_lastYear_10 : decode cX5_lastYear 10 = .ok (.iconst 0, 1) := by decide +kernel
theorem dX5_lastYear_11 : decode cX5_lastYear 11 = .ok (.istore 4, 2) := by decide +kernel
theorem dX5_lastYear_13 : decode cX5_lastYear 13 = .ok (.iload 4, 2) := by decide +kernel
theorem dX5_lastYear_15 : decode cX5_lastYear 15 = .ok (.aload_n 0, 1) := by decide +kernel
theorem dX5_lastYear_16 : decode cX5_lastYear 16 = .ok (.getfield 23, 3) := by decide +kernel
theorem dX5_lastYear_19 : decode cX5_lastYear 19 = .ok (.invokevirtual 67, 3) := by decide +kernel
theorem dX5_lastYear_22 : decode cX5_lastYear 22 = .ok (.if_icmp .ge 40, 3) := by decide +kernel
theorem dX5_lastYear_25 : decode cX5_lastYear 25 = .ok (.iload_n 2, 1) := by decide +kernel
theorem dX5_lastYear_26 : decode cX5_lastYear 26 = .ok (.iload_n 3, 1) := by decide +kernel
theorem dX5_lastYear_27 : decode cX5_lastYear 27 = .ok (.iload 4, 2) := by decide +kernel
theorem dX5_lastYear_29 : decode cX5_lastYear 29 = .ok (.ishr, 1) := by decide +kernel
theorem dX5_lastYear_30 : decode cX5_lastYear 30 = .ok (.iconst 1, 1) := by decide +kernel
theorem dX5_lastYear_31 : decode cX5_lastYear 31 = .ok (.iand, 1) := by decide +kernel
theorem dX5_lastYear_32 : decode cX5_lastYear 32 = .ok (.iconst 1, 1) := by decide +kernel
theorem dX5_lastYear_33 : decode cX5_lastYear 33 = .ok (.if_icmp .ne 16, 3) := by decide +kernel
theorem dX5_lastYear_36 : decode cX5_lastYear 36 = .ok (.aload_n 0, 1) := by decide +kernel
theorem dX5_lastYear_37 : decode cX5_lastYear 37 = .ok (.getfield 23, 3) := by decide +kernel
theorem dX5_lastYear_40 : decode cX5_lastYear 40 = .ok (.iload 4, 2) := by decide +kernel
theorem dX5_lastYear_42 : decode cX5_lastYear 42 = .ok (.iconst 1, 1) := by decide +kernel
theorem dX5_lastYear_43 : decode cX5_lastYear 43 = .ok (.invokevirtual 70, 3) := by decide +kernel
theorem dX5_lastYear_46 : decode cX5_lastYear 46 = .ok (.goto 6, 3) := by decide +kernel
theorem dX5_lastYear_49 : decode cX5_lastYear 49 = .ok (.sipush 400, 3) := by decide +kernel
theorem dX5_lastYear_52 : decode cX5_lastYear 52 = .ok (.invokestatic 102, 3) := by decide +kernel
theorem dX5_lastYear_55 : decode cX5_lastYear 55 = .ok (.istore_n 2, 1) := by decide +kernel
theorem dX5_lastYear_56 : decode cX5_lastYear 56 = .ok (.iinc 4 1, 3) := by decide +kernel
theorem dX5_lastYear_59 : decode cX5_lastYear 59 = .ok (.goto (-46), 3) := by decide +kernel
theorem dX5_lastYear_62 : decode cX5_lastYear 62 = .ok (.iconst (-1), 1) := by decide +kernel
theorem dX5_lastYear_63 : decode cX5_lastYear 63 = .ok (.istore 4, 2) := by decide +kernel
theorem dX5_lastYear_65 : decode cX5_lastYear 65 = .ok (.iconst 0, 1) := by decide +kernel
theorem dX5_lastYear_66 : decode cX5_lastYear 66 = .ok (.istore 5, 2) := by decide +kernel
theorem dX5_lastYear_68 : decode cX5_lastYear 68 = .ok (.iload 5, 2) := by decide +kernel
theorem dX5_lastYear_70 : decode cX5_lastYear 70 = .ok (.aload_n 0, 1) := by decide +kernel
theorem dX5_lastYear_71 : decode cX5_lastYear 71 = .ok (.getfield 20, 3) := by decide +kernel
theorem dX5_lastYear_74 : decode cX5_lastYear 74 = .ok (.invokevirtual 67, 3) := by decide +kernel
theorem dX5_lastYear_77 : decode cX5_lastYear 77 = .ok (.if_icmp .ge 40, 3) := by decide +kernel
theorem dX5_lastYear_80 : decode cX5_lastYear 80 = .ok (.aload_n 0, 1) := by decide +kernel
theorem dX5_lastYear_81 : decode cX5_lastYear 81 = .ok (.getfield 20, 3) := by decide +kernel
theorem dX5_lastYear_84 : decode cX5_lastYear 84 = .ok (.iload 5, 2) := by decide +kernel
theorem dX5_lastYear_86 : decode cX5_lastYear 86 = .ok (.iconst 0, 1) := by decide +kernel
theorem dX5_lastYear_87 : decode cX5_lastYear 87 = .ok (.invokevirtual 70, 3) := by decide +kernel
theorem dX5_lastYear_90 : decode cX5_lastYear 90 = .ok (.iload_n 1, 1) := by decide +kernel
theorem dX5_lastYear_91 : decode cX5_lastYear 91 = .ok (.if_icmp .ne 20, 3) := by decide +kernel
theorem dX5_lastYear_94 : decode cX5_lastYear 94 = .ok (.iload 4, 2) := by decide +kernel
theorem dX5_lastYear_96 : decode cX5_lastYear 96 = .ok (.aload_n 0, 1) := by decide +kernel
theorem dX5_lastYear_97 : decode cX5_lastYear 97 = .ok (.getfield 20, 3) := by decide +kernel
theorem dX5_lastYear_100 : decode cX5_lastYear 100 = .ok (.iload 5, 2) := by decide +kernel
theorem dX5_lastYear_102 : decode cX5_lastYear 102 = .ok (.iconst 3, 1) := by decide +kernel
theorem dX5_lastYear_103 : decode cX5_lastYear 103 = .ok (.invokevirtual 70, 3) := by decide +kernel
theorem dX5_lastYear_106 : decode cX5_lastYear 106 = .ok (.invokestatic 97, 3) := by decide +kernel
theorem dX5_lastYear_109 : decode cX5_lastYear 109 = .ok (.istore 4, 2) := by decide +kernel
theorem dX5_lastYear_111 : decode cX5_lastYear 111 = .ok (.iinc 5 1, 3) := by decide +kernel
theorem dX5_lastYear_114 : decode cX5_lastYear 114 = .ok (.goto (-46), 3) := by decide +kernel
theorem dX5_lastYear_117 : decode cX5_lastYear 117 = .ok (.iload 4, 2) := by decide +kernel
theorem dX5_lastYear_119 : decode cX5_lastYear 119 = .ok (.iconst (-1), 1) := by decide +kernel
theorem dX5_lastYear_120 : decode cX5_lastYear 120 = .ok (.if_icmp .ne 7, 3) := by decide +kernel
theorem dX5_lastYear_123 : decode cX5_lastYear 123 = .ok (.iload_n 2, 1) := by decide +kernel
theorem dX5_lastYear_124 : decode cX5_lastYear 124 = .ok (.goto 9, 3) := by decide +kernel
theorem dX5_lastYear_127 : decode cX5_lastYear 127 = .ok (.iload_n 2, 1) := by decide +kernel
theorem dX5_lastYear_128 : decode cX5_lastYear 128 = .ok (.iload 4, 2) := by decide +kernel
theorem dX5_lastYear_130 : decode cX5_lastYear 130 = .ok (.invokestatic 102, 3) := by decide +kernel
theorem dX5_lastYear_133 : decode cX5_lastYear 133 = .ok (.ireturn, 1) := by decide +kernel
theorem dX5_handsIn_0 : decode cX5_handsIn 0 = .ok (.iconst 0, 1) := by decide +kernel
theorem dX5_handsIn_1 : decode cX5_handsIn 1 = .ok (.istore_n 2, 1) := by decide +kernel
theorem dX5_handsIn_2 : decode cX5_handsIn 2 = .ok (.iconst 0, 1) := by decide +kernel
theorem dX5_handsIn_3 : decode cX5_handsIn 3 = .ok (.istore_n 3, 1) := by decide +kernel
theorem dX5_handsIn_4 : decode cX5_handsIn 4 = .ok (.iload_n 3, 1) := by decide +kernel
theorem dX5_handsIn_5 : decode cX5_handsIn 5 = .ok (.aload_n 0, 1) := by decide +kernel
theorem dX5_handsIn_6 : decode cX5_handsIn 6 = .ok (.getfield 29, 3) := by decide +kernel
theorem dX5_handsIn_9 : decode cX5_handsIn 9 = .ok (.invokevirtual 67, 3) := by decide +kernel
theorem dX5_handsIn_12 : decode cX5_handsIn 12 = .ok (.if_icmp .ge 62, 3) := by decide +kernel
theorem dX5_handsIn_15 : decode cX5_handsIn 15 = .ok (.aload_n 0, 1) := by decide +kernel
theorem dX5_handsIn_16 : decode cX5_handsIn 16 = .ok (.getfield 29, 3) := by decide +kernel
theorem dX5_handsIn_19 : decode cX5_handsIn 19 = .ok (.iload_n 3, 1) := by decide +kernel
theorem dX5_handsIn_20 : decode cX5_handsIn 20 = .ok (.iconst 3, 1) := by decide +kernel
theorem dX5_handsIn_21 : decode cX5_handsIn 21 = .ok (.invokevirtual 70, 3) := by decide +kernel
theorem dX5_handsIn_24 : decode cX5_handsIn 24 = .ok (.istore 4, 2) := by decide +kernel
theorem dX5_handsIn_26 : decode cX5_handsIn 26 = .ok (.aload_n 0, 1) := by decide +kernel
theorem dX5_handsIn_27 : decode cX5_handsIn 27 = .ok (.getfield 29, 3) := by decide +kernel
theorem dX5_handsIn_30 : decode cX5_handsIn 30 = .ok (.iload_n 3, 1) := by decide +kernel
theorem dX5_handsIn_31 : decode cX5_handsIn 31 = .ok (.iconst 0, 1) := by decide +kernel
theorem dX5_handsIn_32 : decode cX5_handsIn 32 = .ok (.invokevirtual 70, 3) := by decide +kernel
theorem dX5_handsIn_35 : decode cX5_handsIn 35 = .ok (.iload_n 1, 1) := by decide +kernel
theorem dX5_handsIn_36 : decode cX5_handsIn 36 = .ok (.if_icmp .ne 13, 3) := by decide +kernel
theorem dX5_handsIn_39 : decode cX5_handsIn 39 = .ok (.iload 4, 2) := by decide +kernel
theorem dX5_handsIn_41 : decode cX5_handsIn 41 = .ok (.iconst (-1), 1) := by decide +kernel
theorem dX5_handsIn_42 : decode cX5_handsIn 42 = .ok (.if_icmp .eq 7, 3) := by decide +kernel
theorem dX5_handsIn_45 : decode cX5_handsIn 45 = .ok (.iconst 1, 1) := by decide +kernel
theorem dX5_handsIn_46 : decode cX5_handsIn 46 = .ok (.goto 4, 3) := by decide +kernel
theorem dX5_handsIn_49 : decode cX5_handsIn 49 = .ok (.iconst 0, 1) := by decide +kernel
theorem dX5_handsIn_50 : decode cX5_handsIn 50 = .ok (.istore 5, 2) := by decide +kernel
theorem dX5_handsIn_52 : decode cX5_handsIn 52 = .ok (.iload_n 2, 1) := by decide +kernel
theorem dX5_handsIn_53 : decode cX5_handsIn 53 = .ok (.iload 5, 2) := by decide +kernel
theorem dX5_handsIn_55 : decode cX5_handsIn 55 = .ok (.ifCond .eq 10, 3) := by decide +kernel
theorem dX5_handsIn_58 : decode cX5_handsIn 58 = .ok (.iconst 1, 1) := by decide +kernel
theorem dX5_handsIn_59 : decode cX5_handsIn 59 = .ok (.iload 4, 2) := by decide +kernel
theorem dX5_handsIn_61 : decode cX5_handsIn 61 = .ok (.ishl, 1) := by decide +kernel
theorem dX5_handsIn_62 : decode cX5_handsIn 62 = .ok (.goto 4, 3) := by decide +kernel
theorem dX5_handsIn_65 : decode cX5_handsIn 65 = .ok (.iconst 0, 1) := by decide +kernel
theorem dX5_handsIn_66 : decode cX5_handsIn 66 = .ok (.ior, 1) := by decide +kernel
theorem dX5_handsIn_67 : decode cX5_handsIn 67 = .ok (.istore_n 2, 1) := by decide +kernel
theorem dX5_handsIn_68 : decode cX5_handsIn 68 = .ok (.iinc 3 1, 3) := by decide +kernel
theorem dX5_handsIn_71 : decode cX5_handsIn 71 = .ok (.goto (-67), 3) := by decide +kernel
theorem dX5_handsIn_74 : decode cX5_handsIn 74 = .ok (.iload_n 2, 1) := by decide +kernel
theorem dX5_handsIn_75 : decode cX5_handsIn 75 = .ok (.ireturn, 1) := by decide +kernel
theorem dX6_init_0 : decode cX6_init 0 = .ok (.aload_n 0, 1) := by decide +kernel
theorem dX6_init_1 : decode cX6_init 1 = .ok (.invokespecial 3, 3) := by decide +kernel
theorem dX6_init_4 : decode cX6_init 4 = .ok (.aload_n 0, 1) := by decide +kernel
theorem dX6_init_5 : decode cX6_init 5 = .ok (.sipush 169, 3) := by decide +kernel
theorem dX6_init_8 : decode cX6_init 8 = .ok (.newarray .int, 2) := by decide +kernel
theorem dX6_init_10 : decode cX6_init 10 = .ok (.putfield 11, 3) := by decide +kernel
theorem dX6_init_13 : decode cX6_init 13 = .ok (.aload_n 0, 1) := by decide +kernel
theorem dX6_init_14 : decode cX6_init 14 = .ok (.sipush 169, 3) := by decide +kernel
theorem dX6_init_17 : decode cX6_init 17 = .ok (.newarray .long, 2) := by decide +kernel
theorem dX6_init_19 : decode cX6_init 19 = .ok (.putfield 15, 3) := by decide +kernel
theorem dX6_init_22 : decode cX6_init 22 = .ok (.aload_n 0, 1) := by decide +kernel
theorem dX6_init_23 : decode cX6_init 23 = .ok (.sipush 169, 3) := by decide +kernel
theorem dX6_init_26 : decode cX6_init 26 = .ok (.newarray .long, 2) := by decide +kernel
theorem dX6_init_28 : decode cX6_init 28 = .ok (.putfield 19, 3) := by decide +kernel
theorem dX6_init_31 : decode cX6_init 31 = .ok (.aload_n 0, 1) := by decide +kernel
theorem dX6_init_32 : decode cX6_init 32 = .ok (.bipush 13, 2) := by decide +kernel
theorem dX6_init_34 : decode cX6_init 34 = .ok (.newarray .int, 2) := by decide +kernel
theorem dX6_init_36 : decode cX6_init 36 = .ok (.putfield 22, 3) := by decide +kernel
theorem dX6_init_39 : decode cX6_init 39 = .ok (.aload_n 0, 1) := by decide +kernel
theorem dX6_init_40 : decode cX6_init 40 = .ok (.bipush 13, 2) := by decide +kernel
theorem dX6_init_42 : decode cX6_init 42 = .ok (.newarray .int, 2) := by decide +kernel
theorem dX6_init_44 : decode cX6_init 44 = .ok (.putfield 25, 3) := by decide +kernel
theorem dX6_init_47 : decode cX6_init 47 = .ok (.aload_n 0, 1) := by decide +kernel
theorem dX6_init_48 : decode cX6_init 48 = .ok (.bipush 13, 2) := by decide +kernel
theorem dX6_init_50 : decode cX6_init 50 = .ok (.newarray .int, 2) := by decide +kernel
theorem dX6_init_52 : decode cX6_init 52 = .ok (.putfield 28, 3) := by decide +kernel
theorem dX6_init_55 : decode cX6_init 55 = .ok (.aload_n 0, 1) := by decide +kernel
theorem dX6_init_56 : decode cX6_init 56 = .ok (.bipush 12, 2) := by decide +kernel
theorem dX6_init_58 : decode cX6_init 58 = .ok (.newarray .int, 2) := by decide +kernel
theorem dX6_init_60 : decode cX6_init 60 = .ok (.putfield 31, 3) := by decide +kernel
theorem dX6_init_63 : decode cX6_init 63 = .ok (.return_, 1) := by decide +kernel
theorem dX6_leastCost_0 : decode cX6_leastCost 0 = .ok (.aload_n 0, 1) := by decide +kernel
theorem dX6_leastCost_1 : decode cX6_leastCost 1 = .ok (.getfield 34, 3) := by decide +kernel
theorem dX6_leastCost_4 : decode cX6_leastCost 4 = .ok (.ireturn, 1) := by decide +kernel
theorem dX6_exemplarOf_0 : decode cX6_exemplarOf 0 = .ok (.iload_n 1, 1) := by decide +kernel
theorem dX6_exemplarOf_1 : decode cX6_exemplarOf 1 = .ok (.ifCond .lt 18, 3) := by decide +kernel
theorem dX6_exemplarOf_4 : decode cX6_exemplarOf 4 = .ok (.iload_n 1, 1) := by decide +kernel
theorem dX6_exemplarOf_5 : decode cX6_exemplarOf 5 = .ok (.bipush 12, 2) := by decide +kernel
theorem dX6_exemplarOf_7 : decode cX6_exemplarOf 7 = .ok (.if_icmp .ge 12, 3) := by decide +kernel
theorem dX6_exemplarOf_10 : decode cX6_exemplarOf 10 = .ok (.aload_n 0, 1) := by decide +kernel
theorem dX6_exemplarOf_11 : decode cX6_exemplarOf 11 = .ok (.getfield 31, 3) := by decide +kernel
theorem dX6_exemplarOf_14 : decode cX6_exemplarOf 14 = .ok (.iload_n 1, 1) := by decide +kernel
theorem dX6_exemplarOf_15 : decode cX6_exemplarOf 15 = .ok (.iaload, 1) := by decide +kernel
theorem dX6_exemplarOf_16 : decode cX6_exemplarOf 16 = .ok (.goto 4, 3) := by decide +kernel
theorem dX6_exemplarOf_19 : decode cX6_exemplarOf 19 = .ok (.iconst (-1), 1) := by decide +kernel
theorem dX6_exemplarOf_20 : decode cX6_exemplarOf 20 = .ok (.ireturn, 1) := by decide +kernel
theorem dX6_stepsFromNobody_0 : decode cX6_stepsFromNobody 0 = .ok (.iconst 0, 1) := by decide +kernel
theorem dX6_stepsFromNobody_1 : decode cX6_stepsFromNobody 1 = .ok (.istore_n 2, 1) := by decide +kernel
theorem dX6_stepsFromNobody_2 : decode cX6_stepsFromNobody 2 = .ok (.iload_n 1, 1) := by decide +kernel
theorem dX6_stepsFromNobody_3 : decode cX6_stepsFromNobody 3 = .ok (.istore_n 3, 1) := by decide +kernel
theorem dX6_stepsFromNobody_4 : decode cX6_stepsFromNobody 4 = .ok (.iconst 0, 1) := by decide +kernel
theorem dX6_stepsFromNobody_5 : decode cX6_stepsFromNobody 5 = .ok (.istore 4, 2) := by decide +kernel
theorem dX6_stepsFromNobody_7 : decode cX6_stepsFromNobody 7 = .ok (.iload 4, 2) := by decide +kernel
theorem dX6_stepsFromNobody_9 : decode cX6_stepsFromNobody 9 = .ok (.bipush 12, 2) := by decide +kernel
theorem dX6_stepsFromNobody_11 : decode cX6_stepsFromNobody 11 = .ok (.if_icmp .ge 23, 3) := by decide +kernel
theorem dX6_stepsFromNobody_14 : decode cX6_stepsFromNobody 14 = .ok (.iload_n 3, 1) := by decide +kernel
theorem dX6_stepsFromNobody_15 : decode cX6_stepsFromNobody 15 = .ok (.iconst (-1), 1) := by decide +kernel
theorem dX6_stepsFromNobody_16 : decode cX6_stepsFromNobody 16 = .ok (.if_icmp .eq 18, 3) := by decide +kernel
theorem dX6_stepsFromNobody_19 : decode cX6_stepsFromNobody 19 = .ok (.iinc 2 1, 3) := by decide +kernel
theorem dX6_stepsFromNobody_22 : decode cX6_stepsFromNobody 22 = .ok (.aload_n 0, 1) := by decide +kernel
theorem dX6_stepsFromNobody_23 : decode cX6_stepsFromNobody 23 = .ok (.iload_n 3, 1) := by decide +kernel
theorem dX6_stepsFromNobody_24 : decode cX6_stepsFromNobody 24 = .ok (.invokevirtual 38, 3) := by decide +kernel
theorem dX6_stepsFromNobody_27 : decode cX6_stepsFromNobody 27 = .ok (.istore_n 3, 1) := by decide +kernel
theorem dX6_stepsFromNobody_28 : decode cX6_stepsFromNobody 28 = .ok (.iinc 4 1, 3) := by decide +kernel
theorem dX6_stepsFromNobody_31 : decode cX6_stepsFromNobody 31 = .ok (.goto (-24), 3) := by decide +kernel
theorem dX6_stepsFromNobody_34 : decode cX6_stepsFromNobody 34 = .ok (.iload_n 2, 1) := by decide +kernel
theorem dX6_stepsFromNobody_35 : decode cX6_stepsFromNobody 35 = .ok (.ireturn, 1) := by decide +kernel
theorem dX6_comesOf_0 : decode cX6_comesOf 0 = .ok (.aload_n 0, 1) := by decide +kernel
theorem dX6_comesOf_1 : decode cX6_comesOf 1 = .ok (.iload_n 1, 1) := by decide +kernel
theorem dX6_comesOf_2 : decode cX6_comesOf 2 = .ok (.invokevirtual 38, 3) := by decide +kernel
theorem dX6_comesOf_5 : decode cX6_comesOf 5 = .ok (.istore_n 3, 1) := by decide +kernel
theorem dX6_comesOf_6 : decode cX6_comesOf 6 = .ok (.iconst 0, 1) := by decide +kernel
theorem dX6_comesOf_7 : decode cX6_comesOf 7 = .ok (.istore 4, 2) := by decide +kernel
theorem dX6_comesOf_9 : decode cX6_comesOf 9 = .ok (.iload 4, 2) := by decide +kernel
theorem dX6_comesOf_11 : decode cX6_comesOf 11 = .ok (.bipush 12, 2) := by decide +kernel
theorem dX6_comesOf_13 : decode cX6_comesOf 13 = .ok (.if_icmp .ge 27, 3) := by decide +kernel
theorem dX6_comesOf_16 : decode cX6_comesOf 16 = .ok (.iload_n 3, 1) := by decide +kernel
theorem dX6_comesOf_17 : decode cX6_comesOf 17 = .ok (.iconst (-1), 1) := by decide +kernel
theorem dX6_comesOf_18 : decode cX6_comesOf 18 = .ok (.if_icmp .eq 22, 3) := by decide +kernel
theorem dX6_comesOf_21 : decode cX6_comesOf 21 = .ok (.iload_n 3, 1) := by decide +kernel
theorem dX6_comesOf_22 : decode cX6_comesOf 22 = .ok (.iload_n 2, 1) := by decide +kernel
theorem dX6_comesOf_23 : decode cX6_comesOf 23 = .ok (.if_icmp .ne 5, 3) := by decide +kernel
theorem dX6_comesOf_26 : decode cX6_comesOf 26 = .ok (.iconst 1, 1) := by decide +kernel
theorem dX6_comesOf_27 : decode cX6_comesOf 27 = .ok (.ireturn, 1) := by decide +kernel
theorem dX6_comesOf_28 : decode cX6_comesOf 28 = .ok (.aload_n 0, 1) := by decide +kernel
theorem dX6_comesOf_29 : decode cX6_comesOf 29 = .ok (.iload_n 3, 1) := by decide +kernel
theorem dX6_comesOf_30 : decode cX6_comesOf 30 = .ok (.invokevirtual 38, 3) := by decide +kernel
theorem dX6_comesOf_33 : decode cX6_comesOf 33 = .ok (.istore_n 3, 1) := by decide +kernel
theorem dX6_comesOf_34 : decode cX6_comesOf 34 = .ok (.iinc 4 1, 3) := by decide +kernel
theorem dX6_comesOf_37 : decode cX6_comesOf 37 = .ok (.goto (-28), 3) := by decide +kernel
theorem dX6_comesOf_40 : decode cX6_comesOf 40 = .ok (.iconst 0, 1) := by decide +kernel
theorem dX6_comesOf_41 : decode cX6_comesOf 41 = .ok (.ireturn, 1) := by decide +kernel
theorem dX6_grow_0 : decode cX6_grow 0 = .ok (.aload_n 0, 1) := by decide +kernel
theorem dX6_grow_1 : decode cX6_grow 1 = .ok (.aload_n 1, 1) := by decide +kernel
theorem dX6_grow_2 : decode cX6_grow 2 = .ok (.aload_n 2, 1) := by decide +kernel
theorem dX6_grow_3 : decode cX6_grow 3 = .ok (.invokevirtual 42, 3) := by decide +kernel
theorem dX6_grow_6 : decode cX6_grow 6 = .ok (.ldc2_w 46, 3) := by decide +kernel
theorem dX6_grow_9 : decode cX6_grow 9 = .ok (.lstore_n 3, 1) := by decide +kernel
theorem dX6_grow_10 : decode cX6_grow 10 = .ok (.iconst 1, 1) := by decide +kernel
theorem dX6_grow_11 : decode cX6_grow 11 = .ok (.istore 5, 2) := by decide +kernel
theorem dX6_grow_13 : decode cX6_grow 13 = .ok (.iload 5, 2) := by decide +kernel
theorem dX6_grow_15 : decode cX6_grow 15 = .ok (.aload_n 0, 1) := by decide +kernel
theorem dX6_grow_16 : decode cX6_grow 16 = .ok (.getfield 48, 3) := by decide +kernel
theorem dX6_grow_19 : decode cX6_grow 19 = .ok (.if_icmp .ge 85, 3) := by decide +kernel
theorem dX6_grow_22 : decode cX6_grow 22 = .ok (.iconst 0, 1) := by decide +kernel
theorem dX6_grow_23 : decode cX6_grow 23 = .ok (.istore 6, 2) := by decide +kernel
theorem dX6_grow_25 : decode cX6_grow 25 = .ok (.iload 6, 2) := by decide +kernel
theorem dX6_grow_27 : decode cX6_grow 27 = .ok (.aload_n 0, 1) := by decide +kernel
theorem dX6_grow_28 : decode cX6_grow 28 = .ok (.getfield 48, 3) := by decide +kernel
theorem dX6_grow_31 : decode cX6_grow 31 = .ok (.if_icmp .ge 61, 3) := by decide +kernel
theorem dX6_grow_34 : decode cX6_grow 34 = .ok (.iload 6, 2) := by decide +kernel
theorem dX6_grow_36 : decode cX6_grow 36 = .ok (.bipush 13, 2) := by decide +kernel
theorem dX6_grow_38 : decode cX6_grow 38 = .ok (.imul, 1) := by decide +kernel
theorem dX6_grow_39 : decode cX6_grow 39 = .ok (.iload 5, 2) := by decide +kernel
theorem dX6_grow_41 : decode cX6_grow 41 = .ok (.iadd, 1) := by decide +kernel
theorem dX6_grow_42 : decode cX6_grow 42 = .ok (.istore 7, 2) := by decide +kernel
theorem dX6_grow_44 : decode cX6_grow 44 = .ok (.aload_n 0, 1) := by decide +kernel
theorem dX6_grow_45 : decode cX6_grow 45 = .ok (.getfield 15, 3) := by decide +kernel
theorem dX6_grow_48 : decode cX6_grow 48 = .ok (.iload 7, 2) := by decide +kernel
theorem dX6_grow_50 : decode cX6_grow 50 = .ok (.aload_n 0, 1) := by decide +kernel
theorem dX6_grow_51 : decode cX6_grow 51 = .ok (.getfield 11, 3) := by decide +kernel
theorem dX6_grow_54 : decode cX6_grow 54 = .ok (.iload 7, 2) := by decide +kernel
theorem dX6_grow_56 : decode cX6_grow 56 = .ok (.iaload, 1) := by decide +kernel
theorem dX6_grow_57 : decode cX6_grow 57 = .ok (.iconst (-1), 1) := by decide +kernel
theorem dX6_grow_58 : decode cX6_grow 58 = .ok (.if_icmp .ne 9, 3) := by decide +kernel
theorem dX6_grow_61 : decode cX6_grow 61 = .ok (.ldc2_w 51, 3) := by decide +kernel
theorem dX6_grow_64 : decode cX6_grow 64 = .ok (.goto 21, 3) := by decide +kernel
theorem dX6_grow_67 : decode cX6_grow 67 = .ok (.aload_n 0, 1) := by decide +kernel
theorem dX6_grow_68 : decode cX6_grow 68 = .ok (.getfield 11, 3) := by decide +kernel
theorem dX6_grow_71 : decode cX6_grow 71 = .ok (.iload 7, 2) := by decide +kernel
theorem dX6_grow_73 : decode cX6_grow 73 = .ok (.iaload, 1) := by decide +kernel
theorem dX6_grow_74 : decode cX6_grow 74 = .ok (.i2l, 1) := by decide +kernel
theorem dX6_grow_75 : decode cX6_grow 75 = .ok (.ldc2_w 53, 3) := by decide +kernel
theorem dX6_grow_78 : decode cX6_grow 78 = .ok (.lmul, 1) := by decide +kernel
theorem dX6_grow_79 : decode cX6_grow 79 = .ok (.lload_n 3, 1) := by decide +kernel
theorem dX6_grow_80 : decode cX6_grow 80 = .ok (.iload 6, 2) := by decide +kernel
theorem dX6_grow_82 : decode cX6_grow 82 = .ok (.i2l, 1) := by decide +kernel
theorem dX6_grow_83 : decode cX6_grow 83 = .ok (.lmul, 1) := by decide +kernel
theorem dX6_grow_84 : decode cX6_grow 84 = .ok (.ladd, 1) := by decide +kernel
theorem dX6_grow_85 : decode cX6_grow 85 = .ok (.lastore, 1) := by decide +kernel
theorem dX6_grow_86 : decode cX6_grow 86 = .ok (.iinc 6 1, 3) := by decide +kernel
theorem dX6_grow_89 : decode cX6_grow 89 = .ok (.goto (-64), 3) := by decide +kernel
theorem dX6_grow_92 : decode cX6_grow 92 = .ok (.lload_n 3, 1) := by decide +kernel
theorem dX6_grow_93 : decode cX6_grow 93 = .ok (.ldc2_w 55, 3) := by decide +kernel
theorem dX6_grow_96 : decode cX6_grow 96 = .ok (.ldiv, 1) := by decide +kernel
theorem dX6_grow_97 : decode cX6_grow 97 = .ok (.lstore_n 3, 1) := by decide +kernel
theorem dX6_grow_98 : decode cX6_grow 98 = .ok (.iinc 5 1, 3) := by decide +kernel
theorem dX6_grow_101 : decode cX6_grow 101 = .ok (.goto (-88), 3) := by decide +kernel
theorem dX6_grow_104 : decode cX6_grow 104 = .ok (.aload_n 0, 1) := by decide +kernel
theorem dX6_grow_105 : decode cX6_grow 105 = .ok (.invokevirtual 57, 3) := by decide +kernel
theorem dX6_grow_108 : decode cX6_grow 108 = .ok (.lstore 5, 2) := by decide +kernel
theorem dX6_grow_110 : decode cX6_grow 110 = .ok (.aload_n 0, 1) := by decide +kernel
theorem dX6_grow_111 : decode cX6_grow 111 = .ok (.lload 5, 2) := by decide +kernel
theorem dX6_grow_113 : decode cX6_grow 113 = .ok (.ldc2_w 53, 3) := by decide +kernel
theorem dX6_grow_116 : decode cX6_grow 116 = .ok (.ldiv, 1) := by decide +kernel
theorem dX6_grow_117 : decode cX6_grow 117 = .ok (.l2i, 1) := by decide +kernel
theorem dX6_grow_118 : decode cX6_grow 118 = .ok (.putfield 34, 3) := by decide +kernel
theorem dX6_grow_121 : decode cX6_grow 121 = .ok (.lload 5, 2) := by decide +kernel
theorem dX6_grow_123 : decode cX6_grow 123 = .ok (.ldc2_w 53, 3) := by decide +kernel
theorem dX6_grow_126 : decode cX6_grow 126 = .ok (.lrem, 1) := by decide +kernel
theorem dX6_grow_127 : decode cX6_grow 127 = .ok (.lstore 7, 2) := by decide +kernel
theorem dX6_grow_129 : decode cX6_grow 129 = .ok (.bipush 11, 2) := by decide +kernel
theorem dX6_grow_131 : decode cX6_grow 131 = .ok (.istore 9, 2) := by decide +kernel
theorem dX6_grow_133 : decode cX6_grow 133 = .ok (.iload 9, 2) := by decide +kernel
theorem dX6_grow_135 : decode cX6_grow 135 = .ok (.ifCond .lt 33, 3) := by decide +kernel
theorem dX6_grow_138 : decode cX6_grow 138 = .ok (.aload_n 0, 1) := by decide +kernel
theorem dX6_grow_139 : decode cX6_grow 139 = .ok (.getfield 31, 3) := by decide +kernel
theorem dX6_grow_142 : decode cX6_grow 142 = .ok (.iload 9, 2) := by decide +kernel
theorem dX6_grow_144 : decode cX6_grow 144 = .ok (.lload 7, 2) := by decide +kernel
theorem dX6_grow_146 : decode cX6_grow 146 = .ok (.ldc2_w 55, 3) := by decide +kernel
theorem dX6_grow_149 : decode cX6_grow 149 = .ok (.lrem, 1) := by decide +kernel
theorem dX6_grow_150 : decode cX6_grow 150 = .ok (.l2i, 1) := by decide +kernel
theorem dX6_grow_151 : decode cX6_grow 151 = .ok (.iconst 1, 1) := by decide +kernel
theorem dX6_grow_152 : decode cX6_grow 152 = .ok (.isub, 1) := by decide +kernel
theorem dX6_grow_153 : decode cX6_grow 153 = .ok (.iastore, 1) := by decide +kernel
theorem dX6_grow_154 : decode cX6_grow 154 = .ok (.lload 7, 2) := by decide +kernel
theorem dX6_grow_156 : decode cX6_grow 156 = .ok (.ldc2_w 55, 3) := by decide +kernel
theorem dX6_grow_159 : decode cX6_grow 159 = .ok (.ldiv, 1) := by decide +kernel
theorem dX6_grow_160 : decode cX6_grow 160 = .ok (.lstore 7, 2) := by decide +kernel
theorem dX6_grow_162 : decode cX6_grow 162 = .ok (.iinc 9 (-1), 3) := by decide +kernel
theorem dX6_grow_165 : decode cX6_grow 165 = .ok (.goto (-32), 3) := by decide +kernel
theorem dX6_grow_168 : decode cX6_grow 168 = .ok (.return_, 1) := by decide +kernel
theorem dX6_isSure_0 : decode cX6_isSure 0 = .ok (.iconst 0, 1) := by decide +kernel
theorem dX6_isSure_1 : decode cX6_isSure 1 = .ok (.istore_n 2, 1) := by decide +kernel
theorem dX6_isSure_2 : decode cX6_isSure 2 = .ok (.iload_n 2, 1) := by decide +kernel
theorem dX6_isSure_3 : decode cX6_isSure 3 = .ok (.aload_n 0, 1) := by decide +kernel
theorem dX6_isSure_4 : decode cX6_isSure 4 = .ok (.getfield 11, 3) := by decide +kernel
theorem dX6_isSure_7 : decode cX6_isSure 7 = .ok (.arraylength, 1) := by decide +kernel
theorem dX6_isSure_8 : decode cX6_isSure 8 = .ok (.if_icmp .ge 22, 3) := by decide +kernel
theorem dX6_isSure_11 : decode cX6_isSure 11 = .ok (.aload_n 0, 1) := by decide +kernel
theorem dX6_isSure_12 : decode cX6_isSure 12 = .ok (.getfield 15, 3) := by decide +kernel
theorem dX6_isSure_15 : decode cX6_isSure 15 = .ok (.iload_n 2, 1) := by decide +kernel
theorem dX6_isSure_16 : decode cX6_isSure 16 = .ok (.aload_n 0, 1) := by decide +kernel
theorem dX6_isSure_17 : decode cX6_isSure 17 = .ok (.getfield 11, 3) := by decide +kernel
theorem dX6_isSure_20 : decode cX6_isSure 20 = .ok (.iload_n 2, 1) := by decide +kernel
theorem dX6_isSure_21 : decode cX6_isSure 21 = .ok (.iaload, 1) := by decide +kernel
theorem dX6_isSure_22 : decode cX6_isSure 22 = .ok (.i2l, 1) := by decide +kernel
theorem dX6_isSure_23 : decode cX6_isSure 23 = .ok (.lastore, 1) := by decide +kernel
theorem dX6_isSure_24 : decode cX6_isSure 24 = .ok (.iinc 2 1, 3) := by decide +kernel
theorem dX6_isSure_27 : decode cX6_isSure 27 = .ok (.goto (-25), 3) := by decide +kernel
theorem dX6_isSure_30 : decode cX6_isSure 30 = .ok (.aload_n 0, 1) := by decide +kernel
theorem dX6_isSure_31 : decode cX6_isSure 31 = .ok (.iload_n 1, 1) := by decide +kernel
theorem dX6_isSure_32 : decode cX6_isSure 32 = .ok (.invokevirtual 38, 3) := by decide +kernel
theorem dX6_isSure_35 : decode cX6_isSure 35 = .ok (.iconst 1, 1) := by decide +kernel
theorem dX6_isSure_36 : decode cX6_isSure 36 = .ok (.iadd, 1) := by decide +kernel
theorem dX6_isSure_37 : decode cX6_isSure 37 = .ok (.bipush 13, 2) := by decide +kernel
theorem dX6_isSure_39 : decode cX6_isSure 39 = .ok (.imul, 1) := by decide +kernel
theorem dX6_isSure_40 : decode cX6_isSure 40 = .ok (.iload_n 1, 1) := by decide +kernel
theorem dX6_isSure_41 : decode cX6_isSure 41 = .ok (.iadd, 1) := by decide +kernel
theorem dX6_isSure_42 : decode cX6_isSure 42 = .ok (.iconst 1, 1) := by decide +kernel
theorem dX6_isSure_43 : decode cX6_isSure 43 = .ok (.iadd, 1) := by decide +kernel
theorem dX6_isSure_44 : decode cX6_isSure 44 = .ok (.istore_n 2, 1) := by decide +kernel
theorem dX6_isSure_45 : decode cX6_isSure 45 = .ok (.iload_n 2, 1) := by decide +kernel
theorem dX6_isSure_46 : decode cX6_isSure 46 = .ok (.ifCond .lt 21, 3) := by decide +kernel
theorem dX6_isSure_49 : decode cX6_isSure 49 = .ok (.iload_n 2, 1) := by decide +kernel
theorem dX6_isSure_50 : decode cX6_isSure 50 = .ok (.aload_n 0, 1) := by decide +kernel
theorem dX6_isSure_51 : decode cX6_isSure 51 = .ok (.getfield 15, 3) := by decide +kernel
theorem dX6_isSure_54 : decode cX6_isSure 54 = .ok (.arraylength, 1) := by decide +kernel
theorem dX6_isSure_55 : decode cX6_isSure 55 = .ok (.if_icmp .ge 12, 3) := by decide +kernel
theorem dX6_isSure_58 : decode cX6_isSure 58 = .ok (.aload_n 0, 1) := by decide +kernel
theorem dX6_isSure_59 : decode cX6_isSure 59 = .ok (.getfield 15, 3) := by decide +kernel
theorem dX6_isSure_62 : decode cX6_isSure 62 = .ok (.iload_n 2, 1) := by decide +kernel
theorem dX6_isSure_63 : decode cX6_isSure 63 = .ok (.ldc2_w 51, 3) := by decide +kernel
theorem dX6_isSure_66 : decode cX6_isSure 66 = .ok (.lastore, 1) := by decide +kernel
theorem dX6_isSure_67 : decode cX6_isSure 67 = .ok (.aload_n 0, 1) := by decide +kernel
theorem dX6_isSure_68 : decode cX6_isSure 68 = .ok (.invokevirtual 57, 3) := by decide +kernel
theorem dX6_isSure_71 : decode cX6_isSure 71 = .ok (.aload_n 0, 1) := by decide +kernel
theorem dX6_isSure_72 : decode cX6_isSure 72 = .ok (.getfield 34, 3) := by decide +kernel
theorem dX6_isSure_75 : decode cX6_isSure 75 = .ok (.i2l, 1) := by decide +kernel
theorem dX6_isSure_76 : decode cX6_isSure 76 = .ok (.lcmp, 1) := by decide +kernel
theorem dX6_isSure_77 : decode cX6_isSure 77 = .ok (.ifCond .le 7, 3) := by decide +kernel
theorem dX6_isSure_80 : decode cX6_isSure 80 = .ok (.iconst 1, 1) := by decide +kernel
theorem dX6_isSure_81 : decode cX6_isSure 81 = .ok (.goto 4, 3) := by decide +kernel
theorem dX6_isSure_84 : decode cX6_isSure 84 = .ok (.iconst 0, 1) := by decide +kernel
theorem dX6_isSure_85 : decode cX6_isSure 85 = .ok (.ireturn, 1) := by decide +kernel
theorem dX6_findCosts_0 : decode cX6_findCosts 0 = .ok (.aload_n 0, 1) := by decide +kernel
theorem dX6_findCosts_1 : decode cX6_findCosts 1 = .ok (.getfield 11, 3) := by decide +kernel
theorem dX6_findCosts_4 : decode cX6_findCosts 4 = .ok (.iconst (-1), 1) := by decide +kernel
theorem dX6_findCosts_5 : decode cX6_findCosts 5 = .ok (.invokestatic 61, 3) := by decide +kernel
theorem dX6_findCosts_8 : decode cX6_findCosts 8 = .ok (.aload_n 0, 1) := by decide +kernel
theorem dX6_findCosts_9 : decode cX6_findCosts 9 = .ok (.aload_n 1, 1) := by decide +kernel
theorem dX6_findCosts_10 : decode cX6_findCosts 10 = .ok (.getfield 67, 3) := by decide +kernel
theorem dX6_findCosts_13 : decode cX6_findCosts 13 = .ok (.invokevirtual 73, 3) := by decide +kernel
theorem dX6_findCosts_16 : decode cX6_findCosts 16 = .ok (.bipush 12, 2) := by decide +kernel
theorem dX6_findCosts_18 : decode cX6_findCosts 18 = .ok (.invokestatic 79, 3) := by decide +kernel
theorem dX6_findCosts_21 : decode cX6_findCosts 21 = .ok (.iconst 1, 1) := by decide +kernel
theorem dX6_findCosts_22 : decode cX6_findCosts 22 = .ok (.iadd, 1) := by decide +kernel
theorem dX6_findCosts_23 : decode cX6_findCosts 23 = .ok (.putfield 48, 3) := by decide +kernel
theorem dX6_findCosts_26 : decode cX6_findCosts 26 = .ok (.iconst 0, 1) := by decide +kernel
theorem dX6_findCosts_27 : decode cX6_findCosts 27 = .ok (.istore_n 3, 1) := by decide +kernel
theorem dX6_findCosts_28 : decode cX6_findCosts 28 = .ok (.iload_n 3, 1) := by decide +kernel
theorem dX6_findCosts_29 : decode cX6_findCosts 29 = .ok (.aload_n 0, 1) := by decide +kernel
theorem dX6_findCosts_30 : decode cX6_findCosts 30 = .ok (.getfield 48, 3) := by decide +kernel
theorem dX6_findCosts_33 : decode cX6_findCosts 33 = .ok (.iconst 1, 1) := by decide +kernel
theorem dX6_findCosts_34 : decode cX6_findCosts 34 = .ok (.isub, 1) := by decide +kernel
theorem dX6_findCosts_35 : decode cX6_findCosts 35 = .ok (.if_icmp .ge 87, 3) := by decide +kernel
theorem dX6_findCosts_38 : decode cX6_findCosts 38 = .ok (.aload_n 1, 1) := by decide +kernel
theorem dX6_findCosts_39 : decode cX6_findCosts 39 = .ok (.iload_n 3, 1) := by decide +kernel
theorem dX6_findCosts_40 : decode cX6_findCosts 40 = .ok (.invokevirtual 85, 3) := by decide +kernel
theorem dX6_findCosts_43 : decode cX6_findCosts 43 = .ok (.istore 4, 2) := by decide +kernel
theorem dX6_findCosts_45 : decode cX6_findCosts 45 = .ok (.aload_n 0, 1) := by decide +kernel
theorem dX6_findCosts_46 : decode cX6_findCosts 46 = .ok (.getfield 11, 3) := by decide +kernel
theorem dX6_findCosts_49 : decode cX6_findCosts 49 = .ok (.iload_n 3, 1) := by decide +kernel
theorem dX6_findCosts_50 : decode cX6_findCosts 50 = .ok (.iconst 1, 1) := by decide +kernel
theorem dX6_findCosts_51 : decode cX6_findCosts 51 = .ok (.iadd, 1) := by decide +kernel
theorem dX6_findCosts_52 : decode cX6_findCosts 52 = .ok (.aload_n 2, 1) := by decide +kernel
theorem dX6_findCosts_53 : decode cX6_findCosts 53 = .ok (.aload_n 1, 1) := by decide +kernel
theorem dX6_findCosts_54 : decode cX6_findCosts 54 = .ok (.iload_n 3, 1) := by decide +kernel
theorem dX6_findCosts_55 : decode cX6_findCosts 55 = .ok (.invokevirtual 88, 3) := by decide +kernel
theorem dX6_findCosts_58 : decode cX6_findCosts 58 = .ok (.iastore, 1) := by decide +kernel
theorem dX6_findCosts_59 : decode cX6_findCosts 59 = .ok (.iconst 0, 1) := by decide +kernel
theorem dX6_findCosts_60 : decode cX6_findCosts 60 = .ok (.istore 5, 2) := by decide +kernel
theorem dX6_findCosts_62 : decode cX6_findCosts 62 = .ok (.iload 5, 2) := by decide +kernel
theorem dX6_findCosts_64 : decode cX6_findCosts 64 = .ok (.aload_n 0, 1) := by decide +kernel
theorem dX6_findCosts_65 : decode cX6_findCosts 65 = .ok (.getfield 48, 3) := by decide +kernel
theorem dX6_findCosts_68 : decode cX6_findCosts 68 = .ok (.iconst 1, 1) := by decide +kernel
theorem dX6_findCosts_69 : decode cX6_findCosts 69 = .ok (.isub, 1) := by decide +kernel
theorem dX6_findCosts_70 : decode cX6_findCosts 70 = .ok (.if_icmp .ge 46, 3) := by decide +kernel
theorem dX6_findCosts_73 : decode cX6_findCosts 73 = .ok (.iload 4, 2) := by decide +kernel
theorem dX6_findCosts_75 : decode cX6_findCosts 75 = .ok (.iload 5, 2) := by decide +kernel
theorem dX6_findCosts_77 : decode cX6_findCosts 77 = .ok (.ishr, 1) := by decide +kernel
theorem dX6_findCosts_78 : decode cX6_findCosts 78 = .ok (.iconst 1, 1) := by decide +kernel
theorem dX6_findCosts_79 : decode cX6_findCosts 79 = .ok (.iand, 1) := by decide +kernel
theorem dX6_findCosts_80 : decode cX6_findCosts 80 = .ok (.iconst 1, 1) := by decide +kernel
theorem dX6_findCosts_81 : decode cX6_findCosts 81 = .ok (.if_icmp .ne 29, 3) := by decide +kernel
theorem dX6_findCosts_84 : decode cX6_findCosts 84 = .ok (.aload_n 0, 1) := by decide +kernel
theorem dX6_findCosts_85 : decode cX6_findCosts 85 = .ok (.getfield 11, 3) := by decide +kernel
theorem dX6_findCosts_88 : decode cX6_findCosts 88 = .ok (.iload 5, 2) := by decide +kernel
theorem dX6_findCosts_90 : decode cX6_findCosts 90 = .ok (.iconst 1, 1) := by decide +kernel
theorem dX6_findCosts_91 : decode cX6_findCosts 91 = .ok (.iadd, 1) := by decide +kernel
theorem dX6_findCosts_92 : decode cX6_findCosts 92 = .ok (.bipush 13, 2) := by decide +kernel
theorem dX6_findCosts_94 : decode cX6_findCosts 94 = .ok (.imul, 1) := by decide +kernel
theorem dX6_findCosts_95 : decode cX6_findCosts 95 = .ok (.iload_n 3, 1) := by decide +kernel
theorem dX6_findCosts_96 : decode cX6_findCosts 96 = .ok (.iadd, 1) := by decide +kernel
theorem dX6_findCosts_97 : decode cX6_findCosts 97 = .ok (.iconst 1, 1) := by decide +kernel
theorem dX6_findCosts_98 : decode cX6_findCosts 98 = .ok (.iadd, 1) := by decide +kernel
theorem dX6_findCosts_99 : decode cX6_findCosts 99 = .ok (.aload_n 2, 1) := by decide +kernel
theorem dX6_findCosts_100 : decode cX6_findCosts 100 = .ok (.aload_n 1, 1) := by decide +kernel
theorem dX6_findCosts_101 : decode cX6_findCosts 101 = .ok (.iconst 1, 1) := by decide +kernel
theorem dX6_findCosts_102 : decode cX6_findCosts 102 = .ok (.iload 5, 2) := by decide +kernel
theorem dX6_findCosts_104 : decode cX6_findCosts 104 = .ok (.ishl, 1) := by decide +kernel
theorem dX6_findCosts_105 : decode cX6_findCosts 105 = .ok (.iload_n 3, 1) := by decide +kernel
theorem dX6_findCosts_106 : decode cX6_findCosts 106 = .ok (.invokevirtual 94, 3) := by decide +kernel
theorem dX6_findCosts_109 : decode cX6_findCosts 109 = .ok (.iastore, 1) := by decide +kernel
theorem dX6_findCosts_110 : decode cX6_findCosts 110 = .ok (.iinc 5 1, 3) := by decide +kernel
theorem dX6_findCosts_113 : decode cX6_findCosts 113 = .ok (.goto (-51), 3) := by decide +kernel
theorem dX6_findCosts_116 : decode cX6_findCosts 116 = .ok (.iinc 3 1, 3) := by decide +kernel
theorem dX6_findCosts_119 : decode cX6_findCosts 119 = .ok (.goto (-91), 3) := by decide +kernel
theorem dX6_findCosts_122 : decode cX6_findCosts 122 = .ok (.return_, 1) := by decide +kernel
theorem dX6_leastSum_0 : decode cX6_leastSum 0 = .ok (.lconst 0, 1) := by decide +kernel
theorem dX6_leastSum_1 : decode cX6_leastSum 1 = .ok (.lstore_n 1, 1) := by decide +kernel
theorem dX6_leastSum_2 : decode cX6_leastSum 2 = .ok (.aload_n 0, 1) := by decide +kernel
theorem dX6_leastSum_3 : decode cX6_leastSum 3 = .ok (.getfield 48, 3) := by decide +kernel
theorem dX6_leastSum_6 : decode cX6_leastSum 6 = .ok (.istore_n 3, 1) := by decide +kernel
theorem dX6_leastSum_7 : decode cX6_leastSum 7 = .ok (.iconst 0, 1) := by decide +kernel
theorem dX6_leastSum_8 : decode cX6_leastSum 8 = .ok (.istore 4, 2) := by decide +kernel
theorem dX6_leastSum_10 : decode cX6_leastSum 10 = .ok (.iload 4, 2) := by decide +kernel
theorem dX6_leastSum_12 : decode cX6_leastSum 12 = .ok (.bipush 13, 2) := by decide +kernel
theorem dX6_leastSum_14 : decode cX6_leastSum 14 = .ok (.if_icmp .ge 103, 3) := by decide +kernel
theorem dX6_leastSum_17 : decode cX6_leastSum 17 = .ok (.iload_n 3, 1) := by decide +kernel
theorem dX6_leastSum_18 : decode cX6_leastSum 18 = .ok (.iconst 1, 1) := by decide +kernel
theorem dX6_leastSum_19 : decode cX6_leastSum 19 = .ok (.if_icmp .le 98, 3) := by decide +kernel
theorem dX6_leastSum_22 : decode cX6_leastSum 22 = .ok (.iconst 1, 1) := by decide +kernel
theorem dX6_leastSum_23 : decode cX6_leastSum 23 = .ok (.istore 5, 2) := by decide +kernel
theorem dX6_leastSum_25 : decode cX6_leastSum 25 = .ok (.iload 5, 2) := by decide +kernel
theorem dX6_leastSum_27 : decode cX6_leastSum 27 = .ok (.iload_n 3, 1) := by decide +kernel
theorem dX6_leastSum_28 : decode cX6_leastSum 28 = .ok (.if_icmp .ge 59, 3) := by decide +kernel
theorem dX6_leastSum_31 : decode cX6_leastSum 31 = .ok (.aload_n 0, 1) := by decide +kernel
theorem dX6_leastSum_32 : decode cX6_leastSum 32 = .ok (.getfield 22, 3) := by decide +kernel
theorem dX6_leastSum_35 : decode cX6_leastSum 35 = .ok (.iload 5, 2) := by decide +kernel
theorem dX6_leastSum_37 : decode cX6_leastSum 37 = .ok (.aload_n 0, 1) := by decide +kernel
theorem dX6_leastSum_38 : decode cX6_leastSum 38 = .ok (.iload 5, 2) := by decide +kernel
theorem dX6_leastSum_40 : decode cX6_leastSum 40 = .ok (.iload_n 3, 1) := by decide +kernel
theorem dX6_leastSum_41 : decode cX6_leastSum 41 = .ok (.invokevirtual 98, 3) := by decide +kernel
theorem dX6_leastSum_44 : decode cX6_leastSum 44 = .ok (.iastore, 1) := by decide +kernel
theorem dX6_leastSum_45 : decode cX6_leastSum 45 = .ok (.aload_n 0, 1) := by decide +kernel
theorem dX6_leastSum_46 : decode cX6_leastSum 46 = .ok (.getfield 22, 3) := by decide +kernel
theorem dX6_leastSum_49 : decode cX6_leastSum 49 = .ok (.iload 5, 2) := by decide +kernel
theorem dX6_leastSum_51 : decode cX6_leastSum 51 = .ok (.iaload, 1) := by decide +kernel
theorem dX6_leastSum_52 : decode cX6_leastSum 52 = .ok (.iconst (-1), 1) := by decide +kernel
theorem dX6_leastSum_53 : decode cX6_leastSum 53 = .ok (.if_icmp .ne 7, 3) := by decide +kernel
theorem dX6_leastSum_56 : decode cX6_leastSum 56 = .ok (.ldc2_w 101, 3) := by decide +kernel
theorem dX6_leastSum_59 : decode cX6_leastSum 59 = .ok (.lreturn, 1) := by decide +kernel
theorem dX6_leastSum_60 : decode cX6_leastSum 60 = .ok (.lload_n 1, 1) := by decide +kernel
theorem dX6_leastSum_61 : decode cX6_leastSum 61 = .ok (.aload_n 0, 1) := by decide +kernel
theorem dX6_leastSum_62 : decode cX6_leastSum 62 = .ok (.getfield 15, 3) := by decide +kernel
theorem dX6_leastSum_65 : decode cX6_leastSum 65 = .ok (.aload_n 0, 1) := by decide +kernel
theorem dX6_leastSum_66 : decode cX6_leastSum 66 = .ok (.getfield 22, 3) := by decide +kernel
theorem dX6_leastSum_69 : decode cX6_leastSum 69 = .ok (.iload 5, 2) := by decide +kernel
theorem dX6_leastSum_71 : decode cX6_leastSum 71 = .ok (.iaload, 1) := by decide +kernel
theorem dX6_leastSum_72 : decode cX6_leastSum 72 = .ok (.bipush 13, 2) := by decide +kernel
theorem dX6_leastSum_74 : decode cX6_leastSum 74 = .ok (.imul, 1) := by decide +kernel
theorem dX6_leastSum_75 : decode cX6_leastSum 75 = .ok (.iload 5, 2) := by decide +kernel
theorem dX6_leastSum_77 : decode cX6_leastSum 77 = .ok (.iadd, 1) := by decide +kernel
theorem dX6_leastSum_78 : decode cX6_leastSum 78 = .ok (.laload, 1) := by decide +kernel
theorem dX6_leastSum_79 : decode cX6_leastSum 79 = .ok (.ladd, 1) := by decide +kernel
theorem dX6_leastSum_80 : decode cX6_leastSum 80 = .ok (.lstore_n 1, 1) := by decide +kernel
theorem dX6_leastSum_81 : decode cX6_leastSum 81 = .ok (.iinc 5 1, 3) := by decide +kernel
theorem dX6_leastSum_84 : decode cX6_leastSum 84 = .ok (.goto (-59), 3) := by decide +kernel
theorem dX6_leastSum_87 : decode cX6_leastSum 87 = .ok (.aload_n 0, 1) := by decide +kernel
theorem dX6_leastSum_88 : decode cX6_leastSum 88 = .ok (.iload_n 3, 1) := by decide +kernel
theorem dX6_leastSum_89 : decode cX6_leastSum 89 = .ok (.invokevirtual 103, 3) := by decide +kernel
theorem dX6_leastSum_92 : decode cX6_leastSum 92 = .ok (.istore 5, 2) := by decide +kernel
theorem dX6_leastSum_94 : decode cX6_leastSum 94 = .ok (.iload 5, 2) := by decide +kernel
theorem dX6_leastSum_96 : decode cX6_leastSum 96 = .ok (.iload_n 3, 1) := by decide +kernel
theorem dX6_leastSum_97 : decode cX6_leastSum 97 = .ok (.if_icmp .ne 6, 3) := by decide +kernel
theorem dX6_leastSum_100 : decode cX6_leastSum 100 = .ok (.goto 17, 3) := by decide +kernel
theorem dX6_leastSum_103 : decode cX6_leastSum 103 = .ok (.aload_n 0, 1) := by decide +kernel
theorem dX6_leastSum_104 : decode cX6_leastSum 104 = .ok (.iload_n 3, 1) := by decide +kernel
theorem dX6_leastSum_105 : decode cX6_leastSum 105 = .ok (.invokevirtual 106, 3) := by decide +kernel
theorem dX6_leastSum_108 : decode cX6_leastSum 108 = .ok (.iload 5, 2) := by decide +kernel
theorem dX6_leastSum_110 : decode cX6_leastSum 110 = .ok (.istore_n 3, 1) := by decide +kernel
theorem dX6_leastSum_111 : decode cX6_leastSum 111 = .ok (.iinc 4 1, 3) := by decide +kernel
theorem dX6_leastSum_114 : decode cX6_leastSum 114 = .ok (.goto (-104), 3) := by decide +kernel
theorem dX6_leastSum_117 : decode cX6_leastSum 117 = .ok (.lload_n 1, 1) := by decide +kernel
theorem dX6_leastSum_118 : decode cX6_leastSum 118 = .ok (.lreturn, 1) := by decide +kernel
theorem dX6_nearestTo_0 : decode cX6_nearestTo 0 = .ok (.iconst (-1), 1) := by decide +kernel
theorem dX6_nearestTo_1 : decode cX6_nearestTo 1 = .ok (.istore_n 3, 1) := by decide +kernel
theorem dX6_nearestTo_2 : decode cX6_nearestTo 2 = .ok (.iconst 0, 1) := by decide +kernel
theorem dX6_nearestTo_3 : decode cX6_nearestTo 3 = .ok (.istore 4, 2) := by decide +kernel
theorem dX6_nearestTo_5 : decode cX6_nearestTo 5 = .ok (.iload 4, 2) := by decide +kernel
theorem dX6_nearestTo_7 : decode cX6_nearestTo 7 = .ok (.iload_n 2, 1) := by decide +kernel
theorem dX6_nearestTo_8 : decode cX6_nearestTo 8 = .ok (.if_icmp .ge 63, 3) := by decide +kernel
theorem dX6_nearestTo_11 : decode cX6_nearestTo 11 = .ok (.aload_n 0, 1) := by decide +kernel
theorem dX6_nearestTo_12 : decode cX6_nearestTo 12 = .ok (.getfield 15, 3) := by decide +kernel
theorem dX6_nearestTo_15 : decode cX6_nearestTo 15 = .ok (.iload 4, 2) := by decide +kernel
theorem dX6_nearestTo_17 : decode cX6_nearestTo 17 = .ok (.bipush 13, 2) := by decide +kernel
theorem dX6_nearestTo_19 : decode cX6_nearestTo 19 = .ok (.imul, 1) := by decide +kernel
theorem dX6_nearestTo_20 : decode cX6_nearestTo 20 = .ok (.iload_n 1, 1) := by decide +kernel
theorem dX6_nearestTo_21 : decode cX6_nearestTo 21 = .ok (.iadd, 1) := by decide +kernel
theorem dX6_nearestTo_22 : decode cX6_nearestTo 22 = .ok (.laload, 1) := by decide +kernel
theorem dX6_nearestTo_23 : decode cX6_nearestTo 23 = .ok (.lstore 5, 2) := by decide +kernel
theorem dX6_nearestTo_25 : decode cX6_nearestTo 25 = .ok (.iload 4, 2) := by decide +kernel
theorem dX6_nearestTo_27 : decode cX6_nearestTo 27 = .ok (.iload_n 1, 1) := by decide +kernel
theorem dX6_nearestTo_28 : decode cX6_nearestTo 28 = .ok (.if_icmp .eq 37, 3) := by decide +kernel
theorem dX6_nearestTo_31 : decode cX6_nearestTo 31 = .ok (.lload 5, 2) := by decide +kernel
theorem dX6_nearestTo_33 : decode cX6_nearestTo 33 = .ok (.ldc2_w 51, 3) := by decide +kernel
theorem dX6_nearestTo_36 : decode cX6_nearestTo 36 = .ok (.lcmp, 1) := by decide +kernel
theorem dX6_nearestTo_37 : decode cX6_nearestTo 37 = .ok (.ifCond .eq 28, 3) := by decide +kernel
theorem dX6_nearestTo_40 : decode cX6_nearestTo 40 = .ok (.iload_n 3, 1) := by decide +kernel
theorem dX6_nearestTo_41 : decode cX6_nearestTo 41 = .ok (.iconst (-1), 1) := by decide +kernel
theorem dX6_nearestTo_42 : decode cX6_nearestTo 42 = .ok (.if_icmp .eq 20, 3) := by decide +kernel
theorem dX6_nearestTo_45 : decode cX6_nearestTo 45 = .ok (.lload 5, 2) := by decide +kernel
theorem dX6_nearestTo_47 : decode cX6_nearestTo 47 = .ok (.aload_n 0, 1) := by decide +kernel
theorem dX6_nearestTo_48 : decode cX6_nearestTo 48 = .ok (.getfield 15, 3) := by decide +kernel
theorem dX6_nearestTo_51 : decode cX6_nearestTo 51 = .ok (.iload_n 3, 1) := by decide +kernel
theorem dX6_nearestTo_52 : decode cX6_nearestTo 52 = .ok (.bipush 13, 2) := by decide +kernel
theorem dX6_nearestTo_54 : decode cX6_nearestTo 54 = .ok (.imul, 1) := by decide +kernel
theorem dX6_nearestTo_55 : decode cX6_nearestTo 55 = .ok (.iload_n 1, 1) := by decide +kernel
theorem dX6_nearestTo_56 : decode cX6_nearestTo 56 = .ok (.iadd, 1) := by decide +kernel
theorem dX6_nearestTo_57 : decode cX6_nearestTo 57 = .ok (.laload, 1) := by decide +kernel
theorem dX6_nearestTo_58 : decode cX6_nearestTo 58 = .ok (.lcmp, 1) := by decide +kernel
theorem dX6_nearestTo_59 : decode cX6_nearestTo 59 = .ok (.ifCond .ge 6, 3) := by decide +kernel
theorem dX6_nearestTo_62 : decode cX6_nearestTo 62 = .ok (.iload 4, 2) := by decide +kernel
theorem dX6_nearestTo_64 : decode cX6_nearestTo 64 = .ok (.istore_n 3, 1) := by decide +kernel
theorem dX6_nearestTo_65 : decode cX6_nearestTo 65 = .ok (.iinc 4 1, 3) := by decide +kernel
theorem dX6_nearestTo_68 : decode cX6_nearestTo 68 = .ok (.goto (-63), 3) := by decide +kernel
theorem dX6_nearestTo_71 : decode cX6_nearestTo 71 = .ok (.iload_n 3, 1) := by decide +kernel
theorem dX6_nearestTo_72 : decode cX6_nearestTo 72 = .ok (.ireturn, 1) := by decide +kernel
theorem dX6_findGroups_0 : decode cX6_findGroups 0 = .ok (.aload_n 0, 1) := by decide +kernel
theorem dX6_findGroups_1 : decode cX6_findGroups 1 = .ok (.getfield 25, 3) := by decide +kernel
theorem dX6_findGroups_4 : decode cX6_findGroups 4 = .ok (.iconst (-1), 1) := by decide +kernel
theorem dX6_findGroups_5 : decode cX6_findGroups 5 = .ok (.invokestatic 61, 3) := by decide +kernel
theorem dX6_findGroups_8 : decode cX6_findGroups 8 = .ok (.aload_n 0, 1) := by decide +kernel
theorem dX6_findGroups_9 : decode cX6_findGroups 9 = .ok (.getfield 28, 3) := by decide +kernel
theorem dX6_findGroups_12 : decode cX6_findGroups 12 = .ok (.iconst 0, 1) := by decide +kernel
theorem dX6_findGroups_13 : decode cX6_findGroups 13 = .ok (.invokestatic 61, 3) := by decide +kernel
theorem dX6_findGroups_16 : decode cX6_findGroups 16 = .ok (.aload_n 0, 1) := by decide +kernel
theorem dX6_findGroups_17 : decode cX6_findGroups 17 = .ok (.getfield 25, 3) := by decide +kernel
theorem dX6_findGroups_20 : decode cX6_findGroups 20 = .ok (.iconst 0, 1) := by decide +kernel
theorem dX6_findGroups_21 : decode cX6_findGroups 21 = .ok (.iconst 0, 1) := by decide +kernel
theorem dX6_findGroups_22 : decode cX6_findGroups 22 = .ok (.iastore, 1) := by decide +kernel
theorem dX6_findGroups_23 : decode cX6_findGroups 23 = .ok (.iconst 1, 1) := by decide +kernel
theorem dX6_findGroups_24 : decode cX6_findGroups 24 = .ok (.istore_n 2, 1) := by decide +kernel
theorem dX6_findGroups_25 : decode cX6_findGroups 25 = .ok (.iconst 1, 1) := by decide +kernel
theorem dX6_findGroups_26 : decode cX6_findGroups 26 = .ok (.istore_n 3, 1) := by decide +kernel
theorem dX6_findGroups_27 : decode cX6_findGroups 27 = .ok (.iload_n 3, 1) := by decide +kernel
theorem dX6_findGroups_28 : decode cX6_findGroups 28 = .ok (.iload_n 1, 1) := by decide +kernel
theorem dX6_findGroups_29 : decode cX6_findGroups 29 = .ok (.if_icmp .ge 123, 3) := by decide +kernel
theorem dX6_findGroups_32 : decode cX6_findGroups 32 = .ok (.iload_n 3, 1) := by decide +kernel
theorem dX6_findGroups_33 : decode cX6_findGroups 33 = .ok (.istore 4, 2) := by decide +kernel
theorem dX6_findGroups_35 : decode cX6_findGroups 35 = .ok (.iconst 0, 1) := by decide +kernel
theorem dX6_findGroups_36 : decode cX6_findGroups 36 = .ok (.istore 5, 2) := by decide +kernel
theorem dX6_findGroups_38 : decode cX6_findGroups 38 = .ok (.iload 5, 2) := by decide +kernel
theorem dX6_findGroups_40 : decode cX6_findGroups 40 = .ok (.bipush 13, 2) := by decide +kernel
theorem dX6_findGroups_42 : decode cX6_findGroups 42 = .ok (.if_icmp .ge 41, 3) := by decide +kernel
theorem dX6_findGroups_45 : decode cX6_findGroups 45 = .ok (.iload 4, 2) := by decide +kernel
theorem dX6_findGroups_47 : decode cX6_findGroups 47 = .ok (.ifCond .eq 36, 3) := by decide +kernel
theorem dX6_findGroups_50 : decode cX6_findGroups 50 = .ok (.aload_n 0, 1) := by decide +kernel
theorem dX6_findGroups_51 : decode cX6_findGroups 51 = .ok (.getfield 28, 3) := by decide +kernel
theorem dX6_findGroups_54 : decode cX6_findGroups 54 = .ok (.iload 4, 2) := by decide +kernel
theorem dX6_findGroups_56 : decode cX6_findGroups 56 = .ok (.iaload, 1) := by decide +kernel
theorem dX6_findGroups_57 : decode cX6_findGroups 57 = .ok (.ifCond .ne 26, 3) := by decide +kernel
theorem dX6_findGroups_60 : decode cX6_findGroups 60 = .ok (.aload_n 0, 1) := by decide +kernel
theorem dX6_findGroups_61 : decode cX6_findGroups 61 = .ok (.getfield 28, 3) := by decide +kernel
theorem dX6_findGroups_64 : decode cX6_findGroups 64 = .ok (.iload 4, 2) := by decide +kernel
theorem dX6_findGroups_66 : decode cX6_findGroups 66 = .ok (.iload_n 3, 1) := by decide +kernel
theorem dX6_findGroups_67 : decode cX6_findGroups 67 = .ok (.iastore, 1) := by decide +kernel
theorem dX6_findGroups_68 : decode cX6_findGroups 68 = .ok (.aload_n 0, 1) := by decide +kernel
theorem dX6_findGroups_69 : decode cX6_findGroups 69 = .ok (.getfield 22, 3) := by decide +kernel
theorem dX6_findGroups_72 : decode cX6_findGroups 72 = .ok (.iload 4, 2) := by decide +kernel
theorem dX6_findGroups_74 : decode cX6_findGroups 74 = .ok (.iaload, 1) := by decide +kernel
theorem dX6_findGroups_75 : decode cX6_findGroups 75 = .ok (.istore 4, 2) := by decide +kernel
theorem dX6_findGroups_77 : decode cX6_findGroups 77 = .ok (.iinc 5 1, 3) := by decide +kernel
theorem dX6_findGroups_80 : decode cX6_findGroups 80 = .ok (.goto (-42), 3) := by decide +kernel
theorem dX6_findGroups_83 : decode cX6_findGroups 83 = .ok (.iload 4, 2) := by decide +kernel
theorem dX6_findGroups_85 : decode cX6_findGroups 85 = .ok (.ifCond .eq 61, 3) := by decide +kernel
theorem dX6_findGroups_88 : decode cX6_findGroups 88 = .ok (.aload_n 0, 1) := by decide +kernel
theorem dX6_findGroups_89 : decode cX6_findGroups 89 = .ok (.getfield 28, 3) := by decide +kernel
theorem dX6_findGroups_92 : decode cX6_findGroups 92 = .ok (.iload 4, 2) := by decide +kernel
theorem dX6_findGroups_94 : decode cX6_findGroups 94 = .ok (.iaload, 1) := by decide +kernel
theorem dX6_findGroups_95 : decode cX6_findGroups 95 = .ok (.iload_n 3, 1) := by decide +kernel
theorem dX6_findGroups_96 : decode cX6_findGroups 96 = .ok (.if_icmp .ne 50, 3) := by decide +kernel
theorem dX6_findGroups_99 : decode cX6_findGroups 99 = .ok (.iconst 0, 1) := by decide +kernel
theorem dX6_findGroups_100 : decode cX6_findGroups 100 = .ok (.istore 5, 2) := by decide +kernel
theorem dX6_findGroups_102 : decode cX6_findGroups 102 = .ok (.iload 5, 2) := by decide +kernel
theorem dX6_findGroups_104 : decode cX6_findGroups 104 = .ok (.bipush 13, 2) := by decide +kernel
theorem dX6_findGroups_106 : decode cX6_findGroups 106 = .ok (.if_icmp .ge 37, 3) := by decide +kernel
theorem dX6_findGroups_109 : decode cX6_findGroups 109 = .ok (.aload_n 0, 1) := by decide +kernel
theorem dX6_findGroups_110 : decode cX6_findGroups 110 = .ok (.getfield 25, 3) := by decide +kernel
theorem dX6_findGroups_113 : decode cX6_findGroups 113 = .ok (.iload 4, 2) := by decide +kernel
theorem dX6_findGroups_115 : decode cX6_findGroups 115 = .ok (.iaload, 1) := by decide +kernel
theorem dX6_findGroups_116 : decode cX6_findGroups 116 = .ok (.iconst (-1), 1) := by decide +kernel
theorem dX6_findGroups_117 : decode cX6_findGroups 117 = .ok (.if_icmp .ne 26, 3) := by decide +kernel
theorem dX6_findGroups_120 : decode cX6_findGroups 120 = .ok (.aload_n 0, 1) := by decide +kernel
theorem dX6_findGroups_121 : decode cX6_findGroups 121 = .ok (.getfield 25, 3) := by decide +kernel
theorem dX6_findGroups_124 : decode cX6_findGroups 124 = .ok (.iload 4, 2) := by decide +kernel
theorem dX6_findGroups_126 : decode cX6_findGroups 126 = .ok (.iload_n 2, 1) := by decide +kernel
theorem dX6_findGroups_127 : decode cX6_findGroups 127 = .ok (.iastore, 1) := by decide +kernel
theorem dX6_findGroups_128 : decode cX6_findGroups 128 = .ok (.aload_n 0, 1) := by decide +kernel
theorem dX6_findGroups_129 : decode cX6_findGroups 129 = .ok (.getfield 22, 3) := by decide +kernel
theorem dX6_findGroups_132 : decode cX6_findGroups 132 = .ok (.iload 4, 2) := by decide +kernel
theorem dX6_findGroups_134 : decode cX6_findGroups 134 = .ok (.iaload, 1) := by decide +kernel
theorem dX6_findGroups_135 : decode cX6_findGroups 135 = .ok (.istore 4, 2) := by decide +kernel
theorem dX6_findGroups_137 : decode cX6_findGroups 137 = .ok (.iinc 5 1, 3) := by decide +kernel
theorem dX6_findGroups_140 : decode cX6_findGroups 140 = .ok (.goto (-38), 3) := by decide +kernel
theorem dX6_findGroups_143 : decode cX6_findGroups 143 = .ok (.iinc 2 1, 3) := by decide +kernel
theorem dX6_findGroups_146 : decode cX6_findGroups 146 = .ok (.iinc 3 1, 3) := by decide +kernel
theorem dX6_findGroups_149 : decode cX6_findGroups 149 = .ok (.goto (-122), 3) := by decide +kernel
theorem dX6_findGroups_152 : decode cX6_findGroups 152 = .ok (.iconst 1, 1) := by decide +kernel
theorem dX6_findGroups_153 : decode cX6_findGroups 153 = .ok (.istore_n 3, 1) := by decide +kernel
theorem dX6_findGroups_154 : decode cX6_findGroups 154 = .ok (.iload_n 3, 1) := by decide +kernel
theorem dX6_findGroups_155 : decode cX6_findGroups 155 = .ok (.iload_n 1, 1) := by decide +kernel
theorem dX6_findGroups_156 : decode cX6_findGroups 156 = .ok (.if_icmp .ge 29, 3) := by decide +kernel
theorem dX6_findGroups_159 : decode cX6_findGroups 159 = .ok (.aload_n 0, 1) := by decide +kernel
theorem dX6_findGroups_160 : decode cX6_findGroups 160 = .ok (.getfield 25, 3) := by decide +kernel
theorem dX6_findGroups_163 : decode cX6_findGroups 163 = .ok (.iload_n 3, 1) := by decide +kernel
theorem dX6_findGroups_164 : decode cX6_findGroups 164 = .ok (.iaload, 1) := by decide +kernel
theorem dX6_findGroups_165 : decode cX6_findGroups 165 = .ok (.iconst (-1), 1) := by decide +kernel
theorem dX6_findGroups_166 : decode cX6_findGroups 166 = .ok (.if_icmp .ne 13, 3) := by decide +kernel
theorem dX6_findGroups_169 : decode cX6_findGroups 169 = .ok (.aload_n 0, 1) := by decide +kernel
theorem dX6_findGroups_170 : decode cX6_findGroups 170 = .ok (.getfield 25, 3) := by decide +kernel
theorem dX6_findGroups_173 : decode cX6_findGroups 173 = .ok (.iload_n 3, 1) := by decide +kernel
theorem dX6_findGroups_174 : decode cX6_findGroups 174 = .ok (.iload_n 2, 1) := by decide +kernel
theorem dX6_findGroups_175 : decode cX6_findGroups 175 = .ok (.iastore, 1) := by decide +kernel
theorem dX6_findGroups_176 : decode cX6_findGroups 176 = .ok (.iinc 2 1, 3) := by decide +kernel
theorem dX6_findGroups_179 : decode cX6_findGroups 179 = .ok (.iinc 3 1, 3) := by decide +kernel
theorem dX6_findGroups_182 : decode cX6_findGroups 182 = .ok (.goto (-28), 3) := by decide +kernel
theorem dX6_findGroups_185 : decode cX6_findGroups 185 = .ok (.iload_n 2, 1) := by decide +kernel
theorem dX6_findGroups_186 : decode cX6_findGroups 186 = .ok (.ireturn, 1) := by decide +kernel
theorem dX6_mergeGroups_0 : decode cX6_mergeGroups 0 = .ok (.aload_n 0, 1) := by decide +kernel
theorem dX6_mergeGroups_1 : decode cX6_mergeGroups 1 = .ok (.getfield 19, 3) := by decide +kernel
theorem dX6_mergeGroups_4 : decode cX6_mergeGroups 4 = .ok (.ldc2_w 51, 3) := by decide +kernel
theorem dX6_mergeGroups_7 : decode cX6_mergeGroups 7 = .ok (.invokestatic 110, 3) := by decide +kernel
theorem dX6_mergeGroups_10 : decode cX6_mergeGroups 10 = .ok (.iconst 1, 1) := by decide +kernel
theorem dX6_mergeGroups_11 : decode cX6_mergeGroups 11 = .ok (.istore_n 2, 1) := by decide +kernel
theorem dX6_mergeGroups_12 : decode cX6_mergeGroups 12 = .ok (.iload_n 2, 1) := by decide +kernel
theorem dX6_mergeGroups_13 : decode cX6_mergeGroups 13 = .ok (.iload_n 1, 1) := by decide +kernel
theorem dX6_mergeGroups_14 : decode cX6_mergeGroups 14 = .ok (.if_icmp .ge 139, 3) := by decide +kernel
theorem dX6_mergeGroups_17 : decode cX6_mergeGroups 17 = .ok (.aload_n 0, 1) := by decide +kernel
theorem dX6_mergeGroups_18 : decode cX6_mergeGroups 18 = .ok (.getfield 15, 3) := by decide +kernel
theorem dX6_mergeGroups_21 : decode cX6_mergeGroups 21 = .ok (.aload_n 0, 1) := by decide +kernel
theorem dX6_mergeGroups_22 : decode cX6_mergeGroups 22 = .ok (.getfield 22, 3) := by decide +kernel
theorem dX6_mergeGroups_25 : decode cX6_mergeGroups 25 = .ok (.iload_n 2, 1) := by decide +kernel
theorem dX6_mergeGroups_26 : decode cX6_mergeGroups 26 = .ok (.iaload, 1) := by decide +kernel
theorem dX6_mergeGroups_27 : decode cX6_mergeGroups 27 = .ok (.bipush 13, 2) := by decide +kernel
theorem dX6_mergeGroups_29 : decode cX6_mergeGroups 29 = .ok (.imul, 1) := by decide +kernel
theorem dX6_mergeGroups_30 : decode cX6_mergeGroups 30 = .ok (.iload_n 2, 1) := by decide +kernel
theorem dX6_mergeGroups_31 : decode cX6_mergeGroups 31 = .ok (.iadd, 1) := by decide +kernel
theorem dX6_mergeGroups_32 : decode cX6_mergeGroups 32 = .ok (.laload, 1) := by decide +kernel
theorem dX6_mergeGroups_33 : decode cX6_mergeGroups 33 = .ok (.lstore_n 3, 1) := by decide +kernel
theorem dX6_mergeGroups_34 : decode cX6_mergeGroups 34 = .ok (.iconst 0, 1) := by decide +kernel
theorem dX6_mergeGroups_35 : decode cX6_mergeGroups 35 = .ok (.istore 5, 2) := by decide +kernel
theorem dX6_mergeGroups_37 : decode cX6_mergeGroups 37 = .ok (.iload 5, 2) := by decide +kernel
theorem dX6_mergeGroups_39 : decode cX6_mergeGroups 39 = .ok (.iload_n 1, 1) := by decide +kernel
theorem dX6_mergeGroups_40 : decode cX6_mergeGroups 40 = .ok (.if_icmp .ge 107, 3) := by decide +kernel
theorem dX6_mergeGroups_43 : decode cX6_mergeGroups 43 = .ok (.aload_n 0, 1) := by decide +kernel
theorem dX6_mergeGroups_44 : decode cX6_mergeGroups 44 = .ok (.getfield 15, 3) := by decide +kernel
theorem dX6_mergeGroups_47 : decode cX6_mergeGroups 47 = .ok (.iload 5, 2) := by decide +kernel
theorem dX6_mergeGroups_49 : decode cX6_mergeGroups 49 = .ok (.bipush 13, 2) := by decide +kernel
theorem dX6_mergeGroups_51 : decode cX6_mergeGroups 51 = .ok (.imul, 1) := by decide +kernel
theorem dX6_mergeGroups_52 : decode cX6_mergeGroups 52 = .ok (.iload_n 2, 1) := by decide +kernel
theorem dX6_mergeGroups_53 : decode cX6_mergeGroups 53 = .ok (.iadd, 1) := by decide +kernel
theorem dX6_mergeGroups_54 : decode cX6_mergeGroups 54 = .ok (.laload, 1) := by decide +kernel
theorem dX6_mergeGroups_55 : decode cX6_mergeGroups 55 = .ok (.lstore 6, 2) := by decide +kernel
theorem dX6_mergeGroups_57 : decode cX6_mergeGroups 57 = .ok (.aload_n 0, 1) := by decide +kernel
theorem dX6_mergeGroups_58 : decode cX6_mergeGroups 58 = .ok (.getfield 25, 3) := by decide +kernel
theorem dX6_mergeGroups_61 : decode cX6_mergeGroups 61 = .ok (.iload 5, 2) := by decide +kernel
theorem dX6_mergeGroups_63 : decode cX6_mergeGroups 63 = .ok (.iaload, 1) := by decide +kernel
theorem dX6_mergeGroups_64 : decode cX6_mergeGroups 64 = .ok (.bipush 13, 2) := by decide +kernel
theorem dX6_mergeGroups_66 : decode cX6_mergeGroups 66 = .ok (.imul, 1) := by decide +kernel
theorem dX6_mergeGroups_67 : decode cX6_mergeGroups 67 = .ok (.aload_n 0, 1) := by decide +kernel
theorem dX6_mergeGroups_68 : decode cX6_mergeGroups 68 = .ok (.getfield 25, 3) := by decide +kernel
theorem dX6_mergeGroups_71 : decode cX6_mergeGroups 71 = .ok (.iload_n 2, 1) := by decide +kernel
theorem dX6_mergeGroups_72 : decode cX6_mergeGroups 72 = .ok (.iaload, 1) := by decide +kernel
theorem dX6_mergeGroups_73 : decode cX6_mergeGroups 73 = .ok (.iadd, 1) := by decide +kernel
theorem dX6_mergeGroups_74 : decode cX6_mergeGroups 74 = .ok (.istore 8, 2) := by decide +kernel
theorem dX6_mergeGroups_76 : decode cX6_mergeGroups 76 = .ok (.aload_n 0, 1) := by decide +kernel
theorem dX6_mergeGroups_77 : decode cX6_mergeGroups 77 = .ok (.getfield 25, 3) := by decide +kernel
theorem dX6_mergeGroups_80 : decode cX6_mergeGroups 80 = .ok (.iload 5, 2) := by decide +kernel
theorem dX6_mergeGroups_82 : decode cX6_mergeGroups 82 = .ok (.iaload, 1) := by decide +kernel
theorem dX6_mergeGroups_83 : decode cX6_mergeGroups 83 = .ok (.aload_n 0, 1) := by decide +kernel
theorem dX6_mergeGroups_84 : decode cX6_mergeGroups 84 = .ok (.getfield 25, 3) := by decide +kernel
theorem dX6_mergeGroups_87 : decode cX6_mergeGroups 87 = .ok (.iload_n 2, 1) := by decide +kernel
theorem dX6_mergeGroups_88 : decode cX6_mergeGroups 88 = .ok (.iaload, 1) := by decide +kernel
theorem dX6_mergeGroups_89 : decode cX6_mergeGroups 89 = .ok (.if_icmp .eq 52, 3) := by decide +kernel
theorem dX6_mergeGroups_92 : decode cX6_mergeGroups 92 = .ok (.lload 6, 2) := by decide +kernel
theorem dX6_mergeGroups_94 : decode cX6_mergeGroups 94 = .ok (.ldc2_w 51, 3) := by decide +kernel
theorem dX6_mergeGroups_97 : decode cX6_mergeGroups 97 = .ok (.lcmp, 1) := by decide +kernel
theorem dX6_mergeGroups_98 : decode cX6_mergeGroups 98 = .ok (.ifCond .eq 43, 3) := by decide +kernel
theorem dX6_mergeGroups_101 : decode cX6_mergeGroups 101 = .ok (.aload_n 0, 1) := by decide +kernel
theorem dX6_mergeGroups_102 : decode cX6_mergeGroups 102 = .ok (.getfield 19, 3) := by decide +kernel
theorem dX6_mergeGroups_105 : decode cX6_mergeGroups 105 = .ok (.iload 8, 2) := by decide +kernel
theorem dX6_mergeGroups_107 : decode cX6_mergeGroups 107 = .ok (.laload, 1) := by decide +kernel
theorem dX6_mergeGroups_108 : decode cX6_mergeGroups 108 = .ok (.ldc2_w 51, 3) := by decide +kernel
theorem dX6_mergeGroups_111 : decode cX6_mergeGroups 111 = .ok (.lcmp, 1) := by decide +kernel
theorem dX6_mergeGroups_112 : decode cX6_mergeGroups 112 = .ok (.ifCond .eq 18, 3) := by decide +kernel
theorem dX6_mergeGroups_115 : decode cX6_mergeGroups 115 = .ok (.lload 6, 2) := by decide +kernel
theorem dX6_mergeGroups_117 : decode cX6_mergeGroups 117 = .ok (.lload_n 3, 1) := by decide +kernel
theorem dX6_mergeGroups_118 : decode cX6_mergeGroups 118 = .ok (.lsub, 1) := by decide +kernel
theorem dX6_mergeGroups_119 : decode cX6_mergeGroups 119 = .ok (.aload_n 0, 1) := by decide +kernel
theorem dX6_mergeGroups_120 : decode cX6_mergeGroups 120 = .ok (.getfield 19, 3) := by decide +kernel
theorem dX6_mergeGroups_123 : decode cX6_mergeGroups 123 = .ok (.iload 8, 2) := by decide +kernel
theorem dX6_mergeGroups_125 : decode cX6_mergeGroups 125 = .ok (.laload, 1) := by decide +kernel
theorem dX6_mergeGroups_126 : decode cX6_mergeGroups 126 = .ok (.lcmp, 1) := by decide +kernel
theorem dX6_mergeGroups_127 : decode cX6_mergeGroups 127 = .ok (.ifCond .ge 14, 3) := by decide +kernel
theorem dX6_mergeGroups_130 : decode cX6_mergeGroups 130 = .ok (.aload_n 0, 1) := by decide +kernel
theorem dX6_mergeGroups_131 : decode cX6_mergeGroups 131 = .ok (.getfield 19, 3) := by decide +kernel
theorem dX6_mergeGroups_134 : decode cX6_mergeGroups 134 = .ok (.iload 8, 2) := by decide +kernel
theorem dX6_mergeGroups_136 : decode cX6_mergeGroups 136 = .ok (.lload 6, 2) := by decide +kernel
theorem dX6_mergeGroups_138 : decode cX6_mergeGroups 138 = .ok (.lload_n 3, 1) := by decide +kernel
theorem dX6_mergeGroups_139 : decode cX6_mergeGroups 139 = .ok (.lsub, 1) := by decide +kernel
theorem dX6_mergeGroups_140 : decode cX6_mergeGroups 140 = .ok (.lastore, 1) := by decide +kernel
theorem dX6_mergeGroups_141 : decode cX6_mergeGroups 141 = .ok (.iinc 5 1, 3) := by decide +kernel
theorem dX6_mergeGroups_144 : decode cX6_mergeGroups 144 = .ok (.goto (-107), 3) := by decide +kernel
theorem dX6_mergeGroups_147 : decode cX6_mergeGroups 147 = .ok (.iinc 2 1, 3) := by decide +kernel
theorem dX6_mergeGroups_150 : decode cX6_mergeGroups 150 = .ok (.goto (-138), 3) := by decide +kernel
theorem dX6_mergeGroups_153 : decode cX6_mergeGroups 153 = .ok (.aload_n 0, 1) := by decide +kernel
theorem dX6_mergeGroups_154 : decode cX6_mergeGroups 154 = .ok (.getfield 19, 3) := by decide +kernel
theorem dX6_mergeGroups_157 : decode cX6_mergeGroups 157 = .ok (.iconst 0, 1) := by decide +kernel
theorem dX6_mergeGroups_158 : decode cX6_mergeGroups 158 = .ok (.aload_n 0, 1) := by decide +kernel
theorem dX6_mergeGroups_159 : decode cX6_mergeGroups 159 = .ok (.getfield 15, 3) := by decide +kernel
theorem dX6_mergeGroups_162 : decode cX6_mergeGroups 162 = .ok (.iconst 0, 1) := by decide +kernel
theorem dX6_mergeGroups_163 : decode cX6_mergeGroups 163 = .ok (.aload_n 0, 1) := by decide +kernel
theorem dX6_mergeGroups_164 : decode cX6_mergeGroups 164 = .ok (.getfield 15, 3) := by decide +kernel
theorem dX6_mergeGroups_167 : decode cX6_mergeGroups 167 = .ok (.arraylength, 1) := by decide +kernel
theorem dX6_mergeGroups_168 : decode cX6_mergeGroups 168 = .ok (.invokestatic 113, 3) := by decide +kernel
theorem dX6_mergeGroups_171 : decode cX6_mergeGroups 171 = .ok (.return_, 1) := by decide +kernel
theorem dX7_init_0 : decode cX7_init 0 = .ok (.aload_n 0, 1) := by decide +kernel
theorem dX7_init_1 : decode cX7_init 1 = .ok (.invokespecial 3, 3) := by decide +kernel
theorem dX7_init_4 : decode cX7_init 4 = .ok (.aload_n 0, 1) := by decide +kernel
theorem dX7_init_5 : decode cX7_init 5 = .ok (.iload_n 1, 1) := by decide +kernel
theorem dX7_init_6 : decode cX7_init 6 = .ok (.iconst 0, 1) := by decide +kernel
theorem dX7_init_7 : decode cX7_init 7 = .ok (.invokestatic 9, 3) := by decide +kernel
theorem dX7_init_10 : decode cX7_init 10 = .ok (.putfield 15, 3) := by decide +kernel
theorem dX7_init_13 : decode cX7_init 13 = .ok (.aload_n 0, 1) := by decide +kernel
theorem dX7_init_14 : decode cX7_init 14 = .ok (.iload_n 2, 1) := by decide +kernel
theorem dX7_init_15 : decode cX7_init 15 = .ok (.iconst 0, 1) := by decide +kernel
theorem dX7_init_16 : decode cX7_init 16 = .ok (.invokestatic 9, 3) := by decide +kernel
theorem dX7_init_19 : decode cX7_init 19 = .ok (.putfield 21, 3) := by decide +kernel
theorem dX7_init_22 : decode cX7_init 22 = .ok (.aload_n 0, 1) := by decide +kernel
theorem dX7_init_23 : decode cX7_init 23 = .ok (.aload_n 0, 1) := by decide +kernel
theorem dX7_init_24 : decode cX7_init 24 = .ok (.getfield 15, 3) := by decide +kernel
theorem dX7_init_27 : decode cX7_init 27 = .ok (.aload_n 0, 1) := by decide +kernel
theorem dX7_init_28 : decode cX7_init 28 = .ok (.getfield 21, 3) := by decide +kernel
theorem dX7_init_31 : decode cX7_init 31 = .ok (.imul, 1) := by decide +kernel
theorem dX7_init_32 : decode cX7_init 32 = .ok (.newarray .int, 2) := by decide +kernel
theorem dX7_init_34 : decode cX7_init 34 = .ok (.putfield 24, 3) := by decide +kernel
theorem dX7_init_37 : decode cX7_init 37 = .ok (.return_, 1) := by decide +kernel
theorem dX7_size_0 : decode cX7_size 0 = .ok (.aload_n 0, 1) := by decide +kernel
theorem dX7_size_1 : decode cX7_size 1 = .ok (.getfield 28, 3) := by decide +kernel
theorem dX7_size_4 : decode cX7_size 4 = .ok (.ireturn, 1) := by decide +kernel
theorem dX7_holds_0 : decode cX7_holds 0 = .ok (.iload_n 1, 1) := by decide +kernel
theorem dX7_holds_1 : decode cX7_holds 1 = .ok (.ifCond .lt 15, 3) := by decide +kernel
theorem dX7_holds_4 : decode cX7_holds 4 = .ok (.iload_n 1, 1) := by decide +kernel
theorem dX7_holds_5 : decode cX7_holds 5 = .ok (.aload_n 0, 1) := by decide +kernel
theorem dX7_holds_6 : decode cX7_holds 6 = .ok (.getfield 28, 3) := by decide +kernel
theorem dX7_holds_9 : decode cX7_holds 9 = .ok (.if_icmp .ge 7, 3) := by decide +kernel
theorem dX7_holds_12 : decode cX7_holds 12 = .ok (.iconst 1, 1) := by decide +kernel
theorem dX7_holds_13 : decode cX7_holds 13 = .ok (.goto 4, 3) := by decide +kernel
theorem dX7_holds_16 : decode cX7_holds 16 = .ok (.iconst 0, 1) := by decide +kernel
theorem dX7_holds_17 : decode cX7_holds 17 = .ok (.ireturn, 1) := by decide +kernel
theorem dX7_open_0 : decode cX7_open 0 = .ok (.aload_n 0, 1) := by decide +kernel
theorem dX7_open_1 : decode cX7_open 1 = .ok (.getfield 28, 3) := by decide +kernel
theorem dX7_open_4 : decode cX7_open 4 = .ok (.aload_n 0, 1) := by decide +kernel
theorem dX7_open_5 : decode cX7_open 5 = .ok (.getfield 15, 3) := by decide +kernel
theorem dX7_open_8 : decode cX7_open 8 = .ok (.if_icmp .lt 5, 3) := by decide +kernel
theorem dX7_open_11 : decode cX7_open 11 = .ok (.iconst (-1), 1) := by decide +kernel
theorem dX7_open_12 : decode cX7_open 12 = .ok (.ireturn, 1) := by decide +kernel
theorem dX7_open_13 : decode cX7_open 13 = .ok (.aload_n 0, 1) := by decide +kernel
theorem dX7_open_14 : decode cX7_open 14 = .ok (.getfield 28, 3) := by decide +kernel
theorem dX7_open_17 : decode cX7_open 17 = .ok (.istore_n 1, 1) := by decide +kernel
theorem dX7_open_18 : decode cX7_open 18 = .ok (.aload_n 0, 1) := by decide +kernel
theorem dX7_open_19 : decode cX7_open 19 = .ok (.dup, 1) := by decide +kernel
theorem dX7_open_20 : decode cX7_open 20 = .ok (.getfield 28, 3) := by decide +kernel
theorem dX7_open_23 : decode cX7_open 23 = .ok (.iconst 1, 1) := by decide +kernel
theorem dX7_open_24 : decode cX7_open 24 = .ok (.iadd, 1) := by decide +kernel
theorem dX7_open_25 : decode cX7_open 25 = .ok (.putfield 28, 3) := by decide +kernel
theorem dX7_open_28 : decode cX7_open 28 = .ok (.iconst 0, 1) := by decide +kernel
theorem dX7_open_29 : decode cX7_open 29 = .ok (.istore_n 2, 1) := by decide +kernel
theorem dX7_open_30 : decode cX7_open 30 = .ok (.iload_n 2, 1) := by decide +kernel
theorem dX7_open_31 : decode cX7_open 31 = .ok (.aload_n 0, 1) := by decide +kernel
theorem dX7_open_32 : decode cX7_open 32 = .ok (.getfield 21, 3) := by decide +kernel
theorem dX7_open_35 : decode cX7_open 35 = .ok (.if_icmp .ge 17, 3) := by decide +kernel
theorem dX7_open_38 : decode cX7_open 38 = .ok (.aload_n 0, 1) := by decide +kernel
theorem dX7_open_39 : decode cX7_open 39 = .ok (.iload_n 1, 1) := by decide +kernel
theorem dX7_open_40 : decode cX7_open 40 = .ok (.iload_n 2, 1) := by decide +kernel
theorem dX7_open_41 : decode cX7_open 41 = .ok (.iconst 0, 1) := by decide +kernel
theorem dX7_open_42 : decode cX7_open 42 = .ok (.invokevirtual 31, 3) := by decide +kernel
theorem dX7_open_45 : decode cX7_open 45 = .ok (.pop, 1) := by decide +kernel
theorem dX7_open_46 : decode cX7_open 46 = .ok (.iinc 2 1, 3) := by decide +kernel
theorem dX7_open_49 : decode cX7_open 49 = .ok (.goto (-19), 3) := by decide +kernel
theorem dX7_open_52 : decode cX7_open 52 = .ok (.iload_n 1, 1) := by decide +kernel
theorem dX7_open_53 : decode cX7_open 53 = .ok (.ireturn, 1) := by decide +kernel
theorem dX7_at_0 : decode cX7_at 0 = .ok (.iload_n 1, 1) := by decide +kernel
theorem dX7_at_1 : decode cX7_at 1 = .ok (.ifCond .lt 23, 3) := by decide +kernel
theorem dX7_at_4 : decode cX7_at 4 = .ok (.iload_n 1, 1) := by decide +kernel
theorem dX7_at_5 : decode cX7_at 5 = .ok (.aload_n 0, 1) := by decide +kernel
theorem dX7_at_6 : decode cX7_at 6 = .ok (.getfield 28, 3) := by decide +kernel
theorem dX7_at_9 : decode cX7_at 9 = .ok (.if_icmp .ge 15, 3) := by decide +kernel
theorem dX7_at_12 : decode cX7_at 12 = .ok (.iload_n 2, 1) := by decide +kernel
theorem dX7_at_13 : decode cX7_at 13 = .ok (.ifCond .lt 11, 3) := by decide +kernel
theorem dX7_at_16 : decode cX7_at 16 = .ok (.iload_n 2, 1) := by decide +kernel
theorem dX7_at_17 : decode cX7_at 17 = .ok (.aload_n 0, 1) := by decide +kernel
theorem dX7_at_18 : decode cX7_at 18 = .ok (.getfield 21, 3) := by decide +kernel
theorem dX7_at_21 : decode cX7_at 21 = .ok (.if_icmp .lt 5, 3) := by decide +kernel
theorem dX7_at_24 : decode cX7_at 24 = .ok (.iconst 0, 1) := by decide +kernel
theorem dX7_at_25 : decode cX7_at 25 = .ok (.ireturn, 1) := by decide +kernel
theorem dX7_at_26 : decode cX7_at 26 = .ok (.aload_n 0, 1) := by decide +kernel
theorem dX7_at_27 : decode cX7_at 27 = .ok (.getfield 24, 3) := by decide +kernel
theorem dX7_at_30 : decode cX7_at 30 = .ok (.iload_n 1, 1) := by decide +kernel
theorem dX7_at_31 : decode cX7_at 31 = .ok (.aload_n 0, 1) := by decide +kernel
theorem dX7_at_32 : decode cX7_at 32 = .ok (.getfield 21, 3) := by decide +kernel
theorem dX7_at_35 : decode cX7_at 35 = .ok (.imul, 1) := by decide +kernel
theorem dX7_at_36 : decode cX7_at 36 = .ok (.iload_n 2, 1) := by decide +kernel
theorem dX7_at_37 : decode cX7_at 37 = .ok (.iadd, 1) := by decide +kernel
theorem dX7_at_38 : decode cX7_at 38 = .ok (.iaload, 1) := by decide +kernel
theorem dX7_at_39 : decode cX7_at 39 = .ok (.ireturn, 1) := by decide +kernel
theorem dX7_put_0 : decode cX7_put 0 = .ok (.aload_n 0, 1) := by decide +kernel
theorem dX7_put_1 : decode cX7_put 1 = .ok (.iload_n 1, 1) := by decide +kernel
theorem dX7_put_2 : decode cX7_put 2 = .ok (.invokevirtual 35, 3) := by decide +kernel
theorem dX7_put_5 : decode cX7_put 5 = .ok (.ifCond .eq 15, 3) := by decide +kernel
theorem dX7_put_8 : decode cX7_put 8 = .ok (.iload_n 2, 1) := by decide +kernel
theorem dX7_put_9 : decode cX7_put 9 = .ok (.ifCond .lt 11, 3) := by decide +kernel
theorem dX7_put_12 : decode cX7_put 12 = .ok (.iload_n 2, 1) := by decide +kernel
theorem dX7_put_13 : decode cX7_put 13 = .ok (.aload_n 0, 1) := by decide +kernel
theorem dX7_put_14 : decode cX7_put 14 = .ok (.getfield 21, 3) := by decide +kernel
theorem dX7_put_17 : decode cX7_put 17 = .ok (.if_icmp .lt 5, 3) := by decide +kernel
theorem dX7_put_20 : decode cX7_put 20 = .ok (.iconst 0, 1) := by decide +kernel
theorem dX7_put_21 : decode cX7_put 21 = .ok (.ireturn, 1) := by decide +kernel
theorem dX7_put_22 : decode cX7_put 22 = .ok (.iload_n 1, 1) := by decide +kernel
theorem dX7_put_23 : decode cX7_put 23 = .ok (.aload_n 0, 1) := by decide +kernel
theorem dX7_put_24 : decode cX7_put 24 = .ok (.getfield 21, 3) := by decide +kernel
theorem dX7_put_27 : decode cX7_put 27 = .ok (.imul, 1) := by decide +kernel
theorem dX7_put_28 : decode cX7_put 28 = .ok (.iload_n 2, 1) := by decide +kernel
theorem dX7_put_29 : decode cX7_put 29 = .ok (.iadd, 1) := by decide +kernel
theorem dX7_put_30 : decode cX7_put 30 = .ok (.istore 4, 2) := by decide +kernel
theorem dX7_put_32 : decode cX7_put 32 = .ok (.aload_n 0, 1) := by decide +kernel
theorem dX7_put_33 : decode cX7_put 33 = .ok (.getfield 24, 3) := by decide +kernel
theorem dX7_put_36 : decode cX7_put 36 = .ok (.iload 4, 2) := by decide +kernel
theorem dX7_put_38 : decode cX7_put 38 = .ok (.iaload, 1) := by decide +kernel
theorem dX7_put_39 : decode cX7_put 39 = .ok (.istore 5, 2) := by decide +kernel
theorem dX7_put_41 : decode cX7_put 41 = .ok (.aload_n 0, 1) := by decide +kernel
theorem dX7_put_42 : decode cX7_put 42 = .ok (.getfield 24, 3) := by decide +kernel
theorem dX7_put_45 : decode cX7_put 45 = .ok (.iload 4, 2) := by decide +kernel
theorem dX7_put_47 : decode cX7_put 47 = .ok (.iload_n 3, 1) := by decide +kernel
theorem dX7_put_48 : decode cX7_put 48 = .ok (.iastore, 1) := by decide +kernel
theorem dX7_put_49 : decode cX7_put 49 = .ok (.iload 5, 2) := by decide +kernel
theorem dX7_put_51 : decode cX7_put 51 = .ok (.ireturn, 1) := by decide +kernel
theorem dX7_takeFrom_0 : decode cX7_takeFrom 0 = .ok (.aload_n 0, 1) := by decide +kernel
theorem dX7_takeFrom_1 : decode cX7_takeFrom 1 = .ok (.aload_n 1, 1) := by decide +kernel
theorem dX7_takeFrom_2 : decode cX7_takeFrom 2 = .ok (.getfield 28, 3) := by decide +kernel
theorem dX7_takeFrom_5 : decode cX7_takeFrom 5 = .ok (.aload_n 0, 1) := by decide +kernel
theorem dX7_takeFrom_6 : decode cX7_takeFrom 6 = .ok (.getfield 15, 3) := by decide +kernel
theorem dX7_takeFrom_9 : decode cX7_takeFrom 9 = .ok (.invokestatic 39, 3) := by decide +kernel
theorem dX7_takeFrom_12 : decode cX7_takeFrom 12 = .ok (.putfield 28, 3) := by decide +kernel
theorem dX7_takeFrom_15 : decode cX7_takeFrom 15 = .ok (.aload_n 1, 1) := by decide +kernel
theorem dX7_takeFrom_16 : decode cX7_takeFrom 16 = .ok (.getfield 24, 3) := by decide +kernel
theorem dX7_takeFrom_19 : decode cX7_takeFrom 19 = .ok (.iconst 0, 1) := by decide +kernel
theorem dX7_takeFrom_20 : decode cX7_takeFrom 20 = .ok (.aload_n 0, 1) := by decide +kernel
theorem dX7_takeFrom_21 : decode cX7_takeFrom 21 = .ok (.getfield 24, 3) := by decide +kernel
theorem dX7_takeFrom_24 : decode cX7_takeFrom 24 = .ok (.iconst 0, 1) := by decide +kernel
theorem dX7_takeFrom_25 : decode cX7_takeFrom 25 = .ok (.aload_n 0, 1) := by decide +kernel
theorem dX7_takeFrom_26 : decode cX7_takeFrom 26 = .ok (.getfield 24, 3) := by decide +kernel
theorem dX7_takeFrom_29 : decode cX7_takeFrom 29 = .ok (.arraylength, 1) := by decide +kernel
theorem dX7_takeFrom_30 : decode cX7_takeFrom 30 = .ok (.aload_n 1, 1) := by decide +kernel
theorem dX7_takeFrom_31 : decode cX7_takeFrom 31 = .ok (.getfield 24, 3) := by decide +kernel
theorem dX7_takeFrom_34 : decode cX7_takeFrom 34 = .ok (.arraylength, 1) := by decide +kernel
theorem dX7_takeFrom_35 : decode cX7_takeFrom 35 = .ok (.invokestatic 39, 3) := by decide +kernel
theorem dX7_takeFrom_38 : decode cX7_takeFrom 38 = .ok (.invokestatic 42, 3) := by decide +kernel
theorem dX7_takeFrom_41 : decode cX7_takeFrom 41 = .ok (.return_, 1) := by decide +kernel
theorem dX8_init_0 : decode cX8_init 0 = .ok (.aload_n 0, 1) := by decide +kernel
theorem dX8_init_1 : decode cX8_init 1 = .ok (.invokespecial 3, 3) := by decide +kernel
theorem dX8_init_4 : decode cX8_init 4 = .ok (.aload_n 0, 1) := by decide +kernel
theorem dX8_init_5 : decode cX8_init 5 = .ok (.sipush 400, 3) := by decide +kernel
theorem dX8_init_8 : decode cX8_init 8 = .ok (.newarray .int, 2) := by decide +kernel
theorem dX8_init_10 : decode cX8_init 10 = .ok (.putfield 9, 3) := by decide +kernel
theorem dX8_init_13 : decode cX8_init 13 = .ok (.return_, 1) := by decide +kernel
theorem dX8_size_0 : decode cX8_size 0 = .ok (.aload_n 0, 1) := by decide +kernel
theorem dX8_size_1 : decode cX8_size 1 = .ok (.getfield 15, 3) := by decide +kernel
theorem dX8_size_4 : decode cX8_size 4 = .ok (.ireturn, 1) := by decide +kernel
theorem dX8_hasRoomFor_0 : decode cX8_hasRoomFor 0 = .ok (.aload_n 0, 1) := by decide +kernel
theorem dX8_hasRoomFor_1 : decode cX8_hasRoomFor 1 = .ok (.getfield 15, 3) := by decide +kernel
theorem dX8_hasRoomFor_4 : decode cX8_hasRoomFor 4 = .ok (.iload_n 1, 1) := by decide +kernel
theorem dX8_hasRoomFor_5 : decode cX8_hasRoomFor 5 = .ok (.iadd, 1) := by decide +kernel
theorem dX8_hasRoomFor_6 : decode cX8_hasRoomFor 6 = .ok (.sipush 400, 3) := by decide +kernel
theorem dX8_hasRoomFor_9 : decode cX8_hasRoomFor 9 = .ok (.if_icmp .gt 7, 3) := by decide +kernel
theorem dX8_hasRoomFor_12 : decode cX8_hasRoomFor 12 = .ok (.iconst 1, 1) := by decide +kernel
theorem dX8_hasRoomFor_13 : decode cX8_hasRoomFor 13 = .ok (.goto 4, 3) := by decide +kernel
theorem dX8_hasRoomFor_16 : decode cX8_hasRoomFor 16 = .ok (.iconst 0, 1) := by decide +kernel
theorem dX8_hasRoomFor_17 : decode cX8_hasRoomFor 17 = .ok (.ireturn, 1) := by decide +kernel
theorem dX8_putNumber_0 : decode cX8_putNumber 0 = .ok (.bipush 24, 2) := by decide +kernel
theorem dX8_putNumber_2 : decode cX8_putNumber 2 = .ok (.istore_n 2, 1) := by decide +kernel
theorem dX8_putNumber_3 : decode cX8_putNumber 3 = .ok (.iload_n 2, 1) := by decide +kernel
theorem dX8_putNumber_4 : decode cX8_putNumber 4 = .ok (.ifCond .lt 52, 3) := by decide +kernel
theorem dX8_putNumber_7 : decode cX8_putNumber 7 = .ok (.aload_n 0, 1) := by decide +kernel
theorem dX8_putNumber_8 : decode cX8_putNumber 8 = .ok (.getfield 15, 3) := by decide +kernel
theorem dX8_putNumber_11 : decode cX8_putNumber 11 = .ok (.ifCond .lt 39, 3) := by decide +kernel
theorem dX8_putNumber_14 : decode cX8_putNumber 14 = .ok (.aload_n 0, 1) := by decide +kernel
theorem dX8_putNumber_15 : decode cX8_putNumber 15 = .ok (.getfield 15, 3) := by decide +kernel
theorem dX8_putNumber_18 : decode cX8_putNumber 18 = .ok (.sipush 400, 3) := by decide +kernel
theorem dX8_putNumber_21 : decode cX8_putNumber 21 = .ok (.if_icmp .ge 29, 3) := by decide +kernel
theorem dX8_putNumber_24 : decode cX8_putNumber 24 = .ok (.aload_n 0, 1) := by decide +kernel
theorem dX8_putNumber_25 : decode cX8_putNumber 25 = .ok (.getfield 9, 3) := by decide +kernel
theorem dX8_putNumber_28 : decode cX8_putNumber 28 = .ok (.aload_n 0, 1) := by decide +kernel
theorem dX8_putNumber_29 : decode cX8_putNumber 29 = .ok (.getfield 15, 3) := by decide +kernel
theorem dX8_putNumber_32 : decode cX8_putNumber 32 = .ok (.iload_n 1, 1) := by decide +kernel
theorem dX8_putNumber_33 : decode cX8_putNumber 33 = .ok (.iload_n 2, 1) := by decide +kernel
theorem dX8_putNumber_34 : decode cX8_putNumber 34 = .ok (.ishr, 1) := by decide +kernel
theorem dX8_putNumber_35 : decode cX8_putNumber 35 = .ok (.sipush 255, 3) := by decide +kernel
theorem dX8_putNumber_38 : decode cX8_putNumber 38 = .ok (.iand, 1) := by decide +kernel
theorem dX8_putNumber_39 : decode cX8_putNumber 39 = .ok (.iastore, 1) := by decide +kernel
theorem dX8_putNumber_40 : decode cX8_putNumber 40 = .ok (.aload_n 0, 1) := by decide +kernel
theorem dX8_putNumber_41 : decode cX8_putNumber 41 = .ok (.dup, 1) := by decide +kernel
theorem dX8_putNumber_42 : decode cX8_putNumber 42 = .ok (.getfield 15, 3) := by decide +kernel
theorem dX8_putNumber_45 : decode cX8_putNumber 45 = .ok (.iconst 1, 1) := by decide +kernel
theorem dX8_putNumber_46 : decode cX8_putNumber 46 = .ok (.iadd, 1) := by decide +kernel
theorem dX8_putNumber_47 : decode cX8_putNumber 47 = .ok (.putfield 15, 3) := by decide +kernel
theorem dX8_putNumber_50 : decode cX8_putNumber 50 = .ok (.iinc 2 (-8), 3) := by decide +kernel
theorem dX8_putNumber_53 : decode cX8_putNumber 53 = .ok (.goto (-50), 3) := by decide +kernel
theorem dX8_putNumber_56 : decode cX8_putNumber 56 = .ok (.return_, 1) := by decide +kernel
theorem dX8_shorten_0 : decode cX8_shorten 0 = .ok (.aload_n 0, 1) := by decide +kernel
theorem dX8_shorten_1 : decode cX8_shorten 1 = .ok (.iconst 0, 1) := by decide +kernel
theorem dX8_shorten_2 : decode cX8_shorten 2 = .ok (.aload_n 0, 1) := by decide +kernel
theorem dX8_shorten_3 : decode cX8_shorten 3 = .ok (.getfield 15, 3) := by decide +kernel
theorem dX8_shorten_6 : decode cX8_shorten 6 = .ok (.iload_n 1, 1) := by decide +kernel
theorem dX8_shorten_7 : decode cX8_shorten 7 = .ok (.invokestatic 19, 3) := by decide +kernel
theorem dX8_shorten_10 : decode cX8_shorten 10 = .ok (.invokestatic 25, 3) := by decide +kernel
theorem dX8_shorten_13 : decode cX8_shorten 13 = .ok (.putfield 15, 3) := by decide +kernel
theorem dX8_shorten_16 : decode cX8_shorten 16 = .ok (.return_, 1) := by decide +kernel
theorem dX8_byteAt_0 : decode cX8_byteAt 0 = .ok (.iload_n 1, 1) := by decide +kernel
theorem dX8_byteAt_1 : decode cX8_byteAt 1 = .ok (.ifCond .lt 27, 3) := by decide +kernel
theorem dX8_byteAt_4 : decode cX8_byteAt 4 = .ok (.iload_n 1, 1) := by decide +kernel
theorem dX8_byteAt_5 : decode cX8_byteAt 5 = .ok (.aload_n 0, 1) := by decide +kernel
theorem dX8_byteAt_6 : decode cX8_byteAt 6 = .ok (.getfield 15, 3) := by decide +kernel
theorem dX8_byteAt_9 : decode cX8_byteAt 9 = .ok (.if_icmp .ge 19, 3) := by decide +kernel
theorem dX8_byteAt_12 : decode cX8_byteAt 12 = .ok (.iload_n 1, 1) := by decide +kernel
theorem dX8_byteAt_13 : decode cX8_byteAt 13 = .ok (.sipush 400, 3) := by decide +kernel
theorem dX8_byteAt_16 : decode cX8_byteAt 16 = .ok (.if_icmp .ge 12, 3) := by decide +kernel
theorem dX8_byteAt_19 : decode cX8_byteAt 19 = .ok (.aload_n 0, 1) := by decide +kernel
theorem dX8_byteAt_20 : decode cX8_byteAt 20 = .ok (.getfield 9, 3) := by decide +kernel
theorem dX8_byteAt_23 : decode cX8_byteAt 23 = .ok (.iload_n 1, 1) := by decide +kernel
theorem dX8_byteAt_24 : decode cX8_byteAt 24 = .ok (.iaload, 1) := by decide +kernel
theorem dX8_byteAt_25 : decode cX8_byteAt 25 = .ok (.goto 4, 3) := by decide +kernel
theorem dX8_byteAt_28 : decode cX8_byteAt 28 = .ok (.iconst (-1), 1) := by decide +kernel
theorem dX8_byteAt_29 : decode cX8_byteAt 29 = .ok (.ireturn, 1) := by decide +kernel
theorem dX9_init_0 : decode cX9_init 0 = .ok (.aload_n 0, 1) := by decide +kernel
theorem dX9_init_1 : decode cX9_init 1 = .ok (.invokespecial 1, 3) := by decide +kernel
theorem dX9_init_4 : decode cX9_init 4 = .ok (.aload_n 0, 1) := by decide +kernel
theorem dX9_init_5 : decode cX9_init 5 = .ok (.aload_n 1, 1) := by decide +kernel
theorem dX9_init_6 : decode cX9_init 6 = .ok (.iconst 0, 1) := by decide +kernel
theorem dX9_init_7 : decode cX9_init 7 = .ok (.iload_n 2, 1) := by decide +kernel
theorem dX9_init_8 : decode cX9_init 8 = .ok (.aload_n 1, 1) := by decide +kernel
theorem dX9_init_9 : decode cX9_init 9 = .ok (.arraylength, 1) := by decide +kernel
theorem dX9_init_10 : decode cX9_init 10 = .ok (.invokestatic 7, 3) := by decide +kernel
theorem dX9_init_13 : decode cX9_init 13 = .ok (.invokestatic 13, 3) := by decide +kernel
theorem dX9_init_16 : decode cX9_init 16 = .ok (.invokestatic 16, 3) := by decide +kernel
theorem dX9_init_19 : decode cX9_init 19 = .ok (.putfield 22, 3) := by decide +kernel
theorem dX9_init_22 : decode cX9_init 22 = .ok (.return_, 1) := by decide +kernel
theorem dX9_length_0 : decode cX9_length 0 = .ok (.aload_n 0, 1) := by decide +kernel
theorem dX9_length_1 : decode cX9_length 1 = .ok (.getfield 22, 3) := by decide +kernel
theorem dX9_length_4 : decode cX9_length 4 = .ok (.arraylength, 1) := by decide +kernel
theorem dX9_length_5 : decode cX9_length 5 = .ok (.ireturn, 1) := by decide +kernel
theorem dX9_codeAt_0 : decode cX9_codeAt 0 = .ok (.iload_n 1, 1) := by decide +kernel
theorem dX9_codeAt_1 : decode cX9_codeAt 1 = .ok (.ifCond .lt 21, 3) := by decide +kernel
theorem dX9_codeAt_4 : decode cX9_codeAt 4 = .ok (.iload_n 1, 1) := by decide +kernel
theorem dX9_codeAt_5 : decode cX9_codeAt 5 = .ok (.aload_n 0, 1) := by decide +kernel
theorem dX9_codeAt_6 : decode cX9_codeAt 6 = .ok (.getfield 22, 3) := by decide +kernel
theorem dX9_codeAt_9 : decode cX9_codeAt 9 = .ok (.arraylength, 1) := by decide +kernel
theorem dX9_codeAt_10 : decode cX9_codeAt 10 = .ok (.if_icmp .ge 12, 3) := by decide +kernel
theorem dX9_codeAt_13 : decode cX9_codeAt 13 = .ok (.aload_n 0, 1) := by decide +kernel
theorem dX9_codeAt_14 : decode cX9_codeAt 14 = .ok (.getfield 22, 3) := by decide +kernel
theorem dX9_codeAt_17 : decode cX9_codeAt 17 = .ok (.iload_n 1, 1) := by decide +kernel
theorem dX9_codeAt_18 : decode cX9_codeAt 18 = .ok (.iaload, 1) := by decide +kernel
theorem dX9_codeAt_19 : decode cX9_codeAt 19 = .ok (.goto 4, 3) := by decide +kernel
theorem dX9_codeAt_22 : decode cX9_codeAt 22 = .ok (.iconst 0, 1) := by decide +kernel
theorem dX9_codeAt_23 : decode cX9_codeAt 23 = .ok (.ireturn, 1) := by decide +kernel
theorem dX10_init_0 : decode cX10_init 0 = .ok (.aload_n 0, 1) := by decide +kernel
theorem dX10_init_1 : decode cX10_init 1 = .ok (.invokespecial 3, 3) := by decide +kernel
theorem dX10_init_4 : decode cX10_init 4 = .ok (.aload_n 0, 1) := by decide +kernel
theorem dX10_init_5 : decode cX10_init 5 = .ok (.sipush 1728, 3) := by decide +kernel
theorem dX10_init_8 : decode cX10_init 8 = .ok (.newarray .int, 2) := by decide +kernel
theorem dX10_init_10 : decode cX10_init 10 = .ok (.putfield 11, 3) := by decide +kernel
theorem dX10_init_13 : decode cX10_init 13 = .ok (.aload_n 0, 1) := by decide +kernel
theorem dX10_init_14 : decode cX10_init 14 = .ok (.bipush 12, 2) := by decide +kernel
theorem dX10_init_16 : decode cX10_init 16 = .ok (.newarray .int, 2) := by decide +kernel
theorem dX10_init_18 : decode cX10_init 18 = .ok (.putfield 15, 3) := by decide +kernel
theorem dX10_init_21 : decode cX10_init 21 = .ok (.aload_n 0, 1) := by decide +kernel
theorem dX10_init_22 : decode cX10_init 22 = .ok (.bipush 12, 2) := by decide +kernel
theorem dX10_init_24 : decode cX10_init 24 = .ok (.newarray .int, 2) := by decide +kernel
theorem dX10_init_26 : decode cX10_init 26 = .ok (.putfield 18, 3) := by decide +kernel
theorem dX10_init_29 : decode cX10_init 29 = .ok (.return_, 1) := by decide +kernel
theorem dX10_hasCopy_0 : decode cX10_hasCopy 0 = .ok (.iload_n 1, 1) := by decide +kernel
theorem dX10_hasCopy_1 : decode cX10_hasCopy 1 = .ok (.ifCond .lt 21, 3) := by decide +kernel
theorem dX10_hasCopy_4 : decode cX10_hasCopy 4 = .ok (.iload_n 1, 1) := by decide +kernel
theorem dX10_hasCopy_5 : decode cX10_hasCopy 5 = .ok (.aload_n 0, 1) := by decide +kernel
theorem dX10_hasCopy_6 : decode cX10_hasCopy 6 = .ok (.getfield 21, 3) := by decide +kernel
theorem dX10_hasCopy_9 : decode cX10_hasCopy 9 = .ok (.if_icmp .ge 13, 3) := by decide +kernel
theorem dX10_hasCopy_12 : decode cX10_hasCopy 12 = .ok (.iload_n 1, 1) := by decide +kernel
theorem dX10_hasCopy_13 : decode cX10_hasCopy 13 = .ok (.bipush 12, 2) := by decide +kernel
theorem dX10_hasCopy_15 : decode cX10_hasCopy 15 = .ok (.if_icmp .ge 7, 3) := by decide +kernel
theorem dX10_hasCopy_18 : decode cX10_hasCopy 18 = .ok (.iconst 1, 1) := by decide +kernel
theorem dX10_hasCopy_19 : decode cX10_hasCopy 19 = .ok (.goto 4, 3) := by decide +kernel
theorem dX10_hasCopy_22 : decode cX10_hasCopy 22 = .ok (.iconst 0, 1) := by decide +kernel
theorem dX10_hasCopy_23 : decode cX10_hasCopy 23 = .ok (.ireturn, 1) := by decide +kernel
theorem dX10_notesOf_0 : decode cX10_notesOf 0 = .ok (.aload_n 0, 1) := by decide +kernel
theorem dX10_notesOf_1 : decode cX10_notesOf 1 = .ok (.iload_n 1, 1) := by decide +kernel
theorem dX10_notesOf_2 : decode cX10_notesOf 2 = .ok (.invokevirtual 25, 3) := by decide +kernel
theorem dX10_notesOf_5 : decode cX10_notesOf 5 = .ok (.ifCond .eq 12, 3) := by decide +kernel
theorem dX10_notesOf_8 : decode cX10_notesOf 8 = .ok (.aload_n 0, 1) := by decide +kernel
theorem dX10_notesOf_9 : decode cX10_notesOf 9 = .ok (.getfield 15, 3) := by decide +kernel
theorem dX10_notesOf_12 : decode cX10_notesOf 12 = .ok (.iload_n 1, 1) := by decide +kernel
theorem dX10_notesOf_13 : decode cX10_notesOf 13 = .ok (.iaload, 1) := by decide +kernel
theorem dX10_notesOf_14 : decode cX10_notesOf 14 = .ok (.goto 4, 3) := by decide +kernel
theorem dX10_notesOf_17 : decode cX10_notesOf 17 = .ok (.iconst 0, 1) := by decide +kernel
theorem dX10_notesOf_18 : decode cX10_notesOf 18 = .ok (.ireturn, 1) := by decide +kernel
theorem dX10_notesCopied_0 : decode cX10_notesCopied 0 = .ok (.aload_n 0, 1) := by decide +kernel
theorem dX10_notesCopied_1 : decode cX10_notesCopied 1 = .ok (.iload_n 1, 1) := by decide +kernel
theorem dX10_notesCopied_2 : decode cX10_notesCopied 2 = .ok (.invokevirtual 25, 3) := by decide +kernel
theorem dX10_notesCopied_5 : decode cX10_notesCopied 5 = .ok (.ifCond .eq 12, 3) := by decide +kernel
theorem dX10_notesCopied_8 : decode cX10_notesCopied 8 = .ok (.aload_n 0, 1) := by decide +kernel
theorem dX10_notesCopied_9 : decode cX10_notesCopied 9 = .ok (.getfield 18, 3) := by decide +kernel
theorem dX10_notesCopied_12 : decode cX10_notesCopied 12 = .ok (.iload_n 1, 1) := by decide +kernel
theorem dX10_notesCopied_13 : decode cX10_notesCopied 13 = .ok (.iaload, 1) := by decide +kernel
theorem dX10_notesCopied_14 : decode cX10_notesCopied 14 = .ok (.goto 4, 3) := by decide +kernel
theorem dX10_notesCopied_17 : decode cX10_notesCopied 17 = .ok (.iconst 0, 1) := by decide +kernel
theorem dX10_notesCopied_18 : decode cX10_notesCopied 18 = .ok (.ireturn, 1) := by decide +kernel
theorem dX10_holdersOfFirst_0 : decode cX10_holdersOfFirst 0 = .ok (.aload_n 0, 1) := by decide +kernel
theorem dX10_holdersOfFirst_1 : decode cX10_holdersOfFirst 1 = .ok (.iload_n 1, 1) := by decide +kernel
theorem dX10_holdersOfFirst_2 : decode cX10_holdersOfFirst 2 = .ok (.invokevirtual 29, 3) := by decide +kernel
theorem dX10_holdersOfFirst_5 : decode cX10_holdersOfFirst 5 = .ok (.ifCond .ne 5, 3) := by decide +kernel
theorem dX10_holdersOfFirst_8 : decode cX10_holdersOfFirst 8 = .ok (.iconst 0, 1) := by decide +kernel
theorem dX10_holdersOfFirst_9 : decode cX10_holdersOfFirst 9 = .ok (.ireturn, 1) := by decide +kernel
theorem dX10_holdersOfFirst_10 : decode cX10_holdersOfFirst 10 = .ok (.aload_n 0, 1) := by decide +kernel
theorem dX10_holdersOfFirst_11 : decode cX10_holdersOfFirst 11 = .ok (.getfield 11, 3) := by decide +kernel
theorem dX10_holdersOfFirst_14 : decode cX10_holdersOfFirst 14 = .ok (.iload_n 1, 1) := by decide +kernel
theorem dX10_holdersOfFirst_15 : decode cX10_holdersOfFirst 15 = .ok (.sipush 144, 3) := by decide +kernel
theorem dX10_holdersOfFirst_18 : decode cX10_holdersOfFirst 18 = .ok (.imul, 1) := by decide +kernel
theorem dX10_holdersOfFirst_19 : decode cX10_holdersOfFirst 19 = .ok (.iaload, 1) := by decide +kernel
theorem dX10_holdersOfFirst_20 : decode cX10_holdersOfFirst 20 = .ok (.istore_n 2, 1) := by decide +kernel
theorem dX10_holdersOfFirst_21 : decode cX10_holdersOfFirst 21 = .ok (.iconst 0, 1) := by decide +kernel
theorem dX10_holdersOfFirst_22 : decode cX10_holdersOfFirst 22 = .ok (.istore_n 3, 1) := by decide +kernel
theorem dX10_holdersOfFirst_23 : decode cX10_holdersOfFirst 23 = .ok (.iconst 0, 1) := by decide +kernel
theorem dX10_holdersOfFirst_24 : decode cX10_holdersOfFirst 24 = .ok (.istore 4, 2) := by decide +kernel
theorem dX10_holdersOfFirst_26 : decode cX10_holdersOfFirst 26 = .ok (.iload 4, 2) := by decide +kernel
theorem dX10_holdersOfFirst_28 : decode cX10_holdersOfFirst 28 = .ok (.aload_n 0, 1) := by decide +kernel
theorem dX10_holdersOfFirst_29 : decode cX10_holdersOfFirst 29 = .ok (.getfield 21, 3) := by decide +kernel
theorem dX10_holdersOfFirst_32 : decode cX10_holdersOfFirst 32 = .ok (.if_icmp .ge 27, 3) := by decide +kernel
theorem dX10_holdersOfFirst_35 : decode cX10_holdersOfFirst 35 = .ok (.iload_n 3, 1) := by decide +kernel
theorem dX10_holdersOfFirst_36 : decode cX10_holdersOfFirst 36 = .ok (.aload_n 0, 1) := by decide +kernel
theorem dX10_holdersOfFirst_37 : decode cX10_holdersOfFirst 37 = .ok (.iload 4, 2) := by decide +kernel
theorem dX10_holdersOfFirst_39 : decode cX10_holdersOfFirst 39 = .ok (.iload_n 2, 1) := by decide +kernel
theorem dX10_holdersOfFirst_40 : decode cX10_holdersOfFirst 40 = .ok (.invokevirtual 33, 3) := by decide +kernel
theorem dX10_holdersOfFirst_43 : decode cX10_holdersOfFirst 43 = .ok (.ifCond .eq 7, 3) := by decide +kernel
theorem dX10_holdersOfFirst_46 : decode cX10_holdersOfFirst 46 = .ok (.iconst 1, 1) := by decide +kernel
theorem dX10_holdersOfFirst_47 : decode cX10_holdersOfFirst 47 = .ok (.goto 4, 3) := by decide +kernel
theorem dX10_holdersOfFirst_50 : decode cX10_holdersOfFirst 50 = .ok (.iconst 0, 1) := by decide +kernel
theorem dX10_holdersOfFirst_51 : decode cX10_holdersOfFirst 51 = .ok (.iadd, 1) := by decide +kernel
theorem dX10_holdersOfFirst_52 : decode cX10_holdersOfFirst 52 = .ok (.istore_n 3, 1) := by decide +kernel
theorem dX10_holdersOfFirst_53 : decode cX10_holdersOfFirst 53 = .ok (.iinc 4 1, 3) := by decide +kernel
theorem dX10_holdersOfFirst_56 : decode cX10_holdersOfFirst 56 = .ok (.goto (-30), 3) := by decide +kernel
theorem dX10_holdersOfFirst_59 : decode cX10_holdersOfFirst 59 = .ok (.iload_n 3, 1) := by decide +kernel
theorem dX10_holdersOfFirst_60 : decode cX10_holdersOfFirst 60 = .ok (.ireturn, 1) := by decide +kernel
theorem dX10_hasNote_0 : decode cX10_hasNote 0 = .ok (.iconst 0, 1) := by decide +kernel
theorem dX10_hasNote_1 : decode cX10_hasNote 1 = .ok (.istore_n 3, 1) := by decide +kernel
theorem dX10_hasNote_2 : decode cX10_hasNote 2 = .ok (.iload_n 3, 1) := by decide +kernel
theorem dX10_hasNote_3 : decode cX10_hasNote 3 = .ok (.aload_n 0, 1) := by decide +kernel
theorem dX10_hasNote_4 : decode cX10_hasNote 4 = .ok (.iload_n 1, 1) := by decide +kernel
theorem dX10_hasNote_5 : decode cX10_hasNote 5 = .ok (.invokevirtual 29, 3) := by decide +kernel
theorem dX10_hasNote_8 : decode cX10_hasNote 8 = .ok (.if_icmp .ge 27, 3) := by decide +kernel
theorem dX10_hasNote_11 : decode cX10_hasNote 11 = .ok (.aload_n 0, 1) := by decide +kernel
theorem dX10_hasNote_12 : decode cX10_hasNote 12 = .ok (.getfield 11, 3) := by decide +kernel
theorem dX10_hasNote_15 : decode cX10_hasNote 15 = .ok (.iload_n 1, 1) := by decide +kernel
theorem dX10_hasNote_16 : decode cX10_hasNote 16 = .ok (.sipush 144, 3) := by decide +kernel
theorem dX10_hasNote_19 : decode cX10_hasNote 19 = .ok (.imul, 1) := by decide +kernel
theorem dX10_hasNote_20 : decode cX10_hasNote 20 = .ok (.iload_n 3, 1) := by decide +kernel
theorem dX10_hasNote_21 : decode cX10_hasNote 21 = .ok (.iadd, 1) := by decide +kernel
theorem dX10_hasNote_22 : decode cX10_hasNote 22 = .ok (.iaload, 1) := by decide +kernel
theorem dX10_hasNote_23 : decode cX10_hasNote 23 = .ok (.iload_n 2, 1) := by decide +kernel
theorem dX10_hasNote_24 : decode cX10_hasNote 24 = .ok (.if_icmp .ne 5, 3) := by decide +kernel
theorem dX10_hasNote_27 : decode cX10_hasNote 27 = .ok (.iconst 1, 1) := by decide +kernel
theorem dX10_hasNote_28 : decode cX10_hasNote 28 = .ok (.ireturn, 1) := by decide +kernel
theorem dX10_hasNote_29 : decode cX10_hasNote 29 = .ok (.iinc 3 1, 3) := by decide +kernel
theorem dX10_hasNote_32 : decode cX10_hasNote 32 = .ok (.goto (-30), 3) := by decide +kernel
theorem dX10_hasNote_35 : decode cX10_hasNote 35 = .ok (.iconst 0, 1) := by decide +kernel
theorem dX10_hasNote_36 : decode cX10_hasNote 36 = .ok (.ireturn, 1) := by decide +kernel
theorem dX10_draw_0 : decode cX10_draw 0 = .ok (.aload_n 0, 1) := by decide +kernel
theorem dX10_draw_1 : decode cX10_draw 1 = .ok (.aload_n 1, 1) := by decide +kernel
theorem dX10_draw_2 : decode cX10_draw 2 = .ok (.getfield 37, 3) := by decide +kernel
theorem dX10_draw_5 : decode cX10_draw 5 = .ok (.invokevirtual 42, 3) := by decide +kernel
theorem dX10_draw_8 : decode cX10_draw 8 = .ok (.putfield 21, 3) := by decide +kernel
theorem dX10_draw_11 : decode cX10_draw 11 = .ok (.aload_n 0, 1) := by decide +kernel
theorem dX10_draw_12 : decode cX10_draw 12 = .ok (.iconst 0, 1) := by decide +kernel
theorem dX10_draw_13 : decode cX10_draw 13 = .ok (.putfield 48, 3) := by decide +kernel
theorem dX10_draw_16 : decode cX10_draw 16 = .ok (.aload_n 0, 1) := by decide +kernel
theorem dX10_draw_17 : decode cX10_draw 17 = .ok (.iload 4, 2) := by decide +kernel
theorem dX10_draw_19 : decode cX10_draw 19 = .ok (.i2l, 1) := by decide +kernel
theorem dX10_draw_20 : decode cX10_draw 20 = .ok (.putfield 51, 3) := by decide +kernel
theorem dX10_draw_23 : decode cX10_draw 23 = .ok (.iconst 0, 1) := by decide +kernel
theorem dX10_draw_24 : decode cX10_draw 24 = .ok (.istore 5, 2) := by decide +kernel
theorem dX10_draw_26 : decode cX10_draw 26 = .ok (.iconst 0, 1) := by decide +kernel
theorem dX10_draw_27 : decode cX10_draw 27 = .ok (.istore 6, 2) := by decide +kernel
theorem dX10_draw_29 : decode cX10_draw 29 = .ok (.iconst 0, 1) := by decide +kernel
theorem dX10_draw_30 : decode cX10_draw 30 = .ok (.istore 7, 2) := by decide +kernel
theorem dX10_draw_32 : decode cX10_draw 32 = .ok (.iload 7, 2) := by decide +kernel
theorem dX10_draw_34 : decode cX10_draw 34 = .ok (.aload_n 0, 1) := by decide +kernel
theorem dX10_draw_35 : decode cX10_draw 35 = .ok (.getfield 21, 3) := by decide +kernel
theorem dX10_draw_38 : decode cX10_draw 38 = .ok (.if_icmp .ge 89, 3) := by decide +kernel
theorem dX10_draw_41 : decode cX10_draw 41 = .ok (.aload_n 0, 1) := by decide +kernel
theorem dX10_draw_42 : decode cX10_draw 42 = .ok (.aload_n 2, 1) := by decide +kernel
theorem dX10_draw_43 : decode cX10_draw 43 = .ok (.iload 5, 2) := by decide +kernel
theorem dX10_draw_45 : decode cX10_draw 45 = .ok (.invokevirtual 55, 3) := by decide +kernel
theorem dX10_draw_48 : decode cX10_draw 48 = .ok (.istore 8, 2) := by decide +kernel
theorem dX10_draw_50 : decode cX10_draw 50 = .ok (.iload 8, 2) := by decide +kernel
theorem dX10_draw_52 : decode cX10_draw 52 = .ok (.iconst (-1), 1) := by decide +kernel
theorem dX10_draw_53 : decode cX10_draw 53 = .ok (.if_icmp .eq 68, 3) := by decide +kernel
theorem dX10_draw_56 : decode cX10_draw 56 = .ok (.aload_n 0, 1) := by decide +kernel
theorem dX10_draw_57 : decode cX10_draw 57 = .ok (.getfield 15, 3) := by decide +kernel
theorem dX10_draw_60 : decode cX10_draw 60 = .ok (.iload 8, 2) := by decide +kernel
theorem dX10_draw_62 : decode cX10_draw 62 = .ok (.iconst 0, 1) := by decide +kernel
theorem dX10_draw_63 : decode cX10_draw 63 = .ok (.iastore, 1) := by decide +kernel
theorem dX10_draw_64 : decode cX10_draw 64 = .ok (.aload_n 0, 1) := by decide +kernel
theorem dX10_draw_65 : decode cX10_draw 65 = .ok (.aload_n 1, 1) := by decide +kernel
theorem dX10_draw_66 : decode cX10_draw 66 = .ok (.aload_n 3, 1) := by decide +kernel
theorem dX10_draw_67 : decode cX10_draw 67 = .ok (.iload 8, 2) := by decide +kernel
theorem dX10_draw_69 : decode cX10_draw 69 = .ok (.aload_n 2, 1) := by decide +kernel
theorem dX10_draw_70 : decode cX10_draw 70 = .ok (.iload 8, 2) := by decide +kernel
theorem dX10_draw_72 : decode cX10_draw 72 = .ok (.invokevirtual 59, 3) := by decide +kernel
theorem dX10_draw_75 : decode cX10_draw 75 = .ok (.invokevirtual 64, 3) := by decide +kernel
theorem dX10_draw_78 : decode cX10_draw 78 = .ok (.aload_n 0, 1) := by decide +kernel
theorem dX10_draw_79 : decode cX10_draw 79 = .ok (.getfield 18, 3) := by decide +kernel
theorem dX10_draw_82 : decode cX10_draw 82 = .ok (.iload 8, 2) := by decide +kernel
theorem dX10_draw_84 : decode cX10_draw 84 = .ok (.aload_n 0, 1) := by decide +kernel
theorem dX10_draw_85 : decode cX10_draw 85 = .ok (.getfield 15, 3) := by decide +kernel
theorem dX10_draw_88 : decode cX10_draw 88 = .ok (.iload 8, 2) := by decide +kernel
theorem dX10_draw_90 : decode cX10_draw 90 = .ok (.iaload, 1) := by decide +kernel
theorem dX10_draw_91 : decode cX10_draw 91 = .ok (.iastore, 1) := by decide +kernel
theorem dX10_draw_92 : decode cX10_draw 92 = .ok (.aload_n 0, 1) := by decide +kernel
theorem dX10_draw_93 : decode cX10_draw 93 = .ok (.aload_n 1, 1) := by decide +kernel
theorem dX10_draw_94 : decode cX10_draw 94 = .ok (.aload_n 3, 1) := by decide +kernel
theorem dX10_draw_95 : decode cX10_draw 95 = .ok (.iload 8, 2) := by decide +kernel
theorem dX10_draw_97 : decode cX10_draw 97 = .ok (.invokevirtual 68, 3) := by decide +kernel
theorem dX10_draw_100 : decode cX10_draw 100 = .ok (.iload 5, 2) := by decide +kernel
theorem dX10_draw_102 : decode cX10_draw 102 = .ok (.iconst 1, 1) := by decide +kernel
theorem dX10_draw_103 : decode cX10_draw 103 = .ok (.iload 8, 2) := by decide +kernel
theorem dX10_draw_105 : decode cX10_draw 105 = .ok (.ishl, 1) := by decide +kernel
theorem dX10_draw_106 : decode cX10_draw 106 = .ok (.ior, 1) := by decide +kernel
theorem dX10_draw_107 : decode cX10_draw 107 = .ok (.istore 5, 2) := by decide +kernel
theorem dX10_draw_109 : decode cX10_draw 109 = .ok (.iload 6, 2) := by decide +kernel
theorem dX10_draw_111 : decode cX10_draw 111 = .ok (.aload_n 0, 1) := by decide +kernel
theorem dX10_draw_112 : decode cX10_draw 112 = .ok (.getfield 15, 3) := by decide +kernel
theorem dX10_draw_115 : decode cX10_draw 115 = .ok (.iload 8, 2) := by decide +kernel
theorem dX10_draw_117 : decode cX10_draw 117 = .ok (.iaload, 1) := by decide +kernel
theorem dX10_draw_118 : decode cX10_draw 118 = .ok (.iadd, 1) := by decide +kernel
theorem dX10_draw_119 : decode cX10_draw 119 = .ok (.istore 6, 2) := by decide +kernel
theorem dX10_draw_121 : decode cX10_draw 121 = .ok (.iinc 7 1, 3) := by decide +kernel
theorem dX10_draw_124 : decode cX10_draw 124 = .ok (.goto (-92), 3) := by decide +kernel
theorem dX10_draw_127 : decode cX10_draw 127 = .ok (.iload 6, 2) := by decide +kernel
theorem dX10_draw_129 : decode cX10_draw 129 = .ok (.ireturn, 1) := by decide +kernel
theorem dX10_nextCopy_0 : decode cX10_nextCopy 0 = .ok (.iconst 0, 1) := by decide +kernel
theorem dX10_nextCopy_1 : decode cX10_nextCopy 1 = .ok (.istore_n 3, 1) := by decide +kernel
theorem dX10_nextCopy_2 : decode cX10_nextCopy 2 = .ok (.iload_n 3, 1) := by decide +kernel
theorem dX10_nextCopy_3 : decode cX10_nextCopy 3 = .ok (.aload_n 0, 1) := by decide +kernel
theorem dX10_nextCopy_4 : decode cX10_nextCopy 4 = .ok (.getfield 21, 3) := by decide +kernel
theorem dX10_nextCopy_7 : decode cX10_nextCopy 7 = .ok (.if_icmp .ge 48, 3) := by decide +kernel
theorem dX10_nextCopy_10 : decode cX10_nextCopy 10 = .ok (.iload_n 3, 1) := by decide +kernel
theorem dX10_nextCopy_11 : decode cX10_nextCopy 11 = .ok (.bipush 12, 2) := by decide +kernel
theorem dX10_nextCopy_13 : decode cX10_nextCopy 13 = .ok (.if_icmp .ge 42, 3) := by decide +kernel
theorem dX10_nextCopy_16 : decode cX10_nextCopy 16 = .ok (.aload_n 1, 1) := by decide +kernel
theorem dX10_nextCopy_17 : decode cX10_nextCopy 17 = .ok (.iload_n 3, 1) := by decide +kernel
theorem dX10_nextCopy_18 : decode cX10_nextCopy 18 = .ok (.invokevirtual 59, 3) := by decide +kernel
theorem dX10_nextCopy_21 : decode cX10_nextCopy 21 = .ok (.istore 4, 2) := by decide +kernel
theorem dX10_nextCopy_23 : decode cX10_nextCopy 23 = .ok (.iload_n 2, 1) := by decide +kernel
theorem dX10_nextCopy_24 : decode cX10_nextCopy 24 = .ok (.iload_n 3, 1) := by decide +kernel
theorem dX10_nextCopy_25 : decode cX10_nextCopy 25 = .ok (.ishr, 1) := by decide +kernel
theorem dX10_nextCopy_26 : decode cX10_nextCopy 26 = .ok (.iconst 1, 1) := by decide +kernel
theorem dX10_nextCopy_27 : decode cX10_nextCopy 27 = .ok (.iand, 1) := by decide +kernel
theorem dX10_nextCopy_28 : decode cX10_nextCopy 28 = .ok (.ifCond .ne 21, 3) := by decide +kernel
theorem dX10_nextCopy_31 : decode cX10_nextCopy 31 = .ok (.iload 4, 2) := by decide +kernel
theorem dX10_nextCopy_33 : decode cX10_nextCopy 33 = .ok (.iconst (-1), 1) := by decide +kernel
theorem dX10_nextCopy_34 : decode cX10_nextCopy 34 = .ok (.if_icmp .eq 13, 3) := by decide +kernel
theorem dX10_nextCopy_37 : decode cX10_nextCopy 37 = .ok (.iload_n 2, 1) := by decide +kernel
theorem dX10_nextCopy_38 : decode cX10_nextCopy 38 = .ok (.iload 4, 2) := by decide +kernel
theorem dX10_nextCopy_40 : decode cX10_nextCopy 40 = .ok (.ishr, 1) := by decide +kernel
theorem dX10_nextCopy_41 : decode cX10_nextCopy 41 = .ok (.iconst 1, 1) := by decide +kernel
theorem dX10_nextCopy_42 : decode cX10_nextCopy 42 = .ok (.iand, 1) := by decide +kernel
theorem dX10_nextCopy_43 : decode cX10_nextCopy 43 = .ok (.iconst 1, 1) := by decide +kernel
theorem dX10_nextCopy_44 : decode cX10_nextCopy 44 = .ok (.if_icmp .ne 5, 3) := by decide +kernel
theorem dX10_nextCopy_47 : decode cX10_nextCopy 47 = .ok (.iload_n 3, 1) := by decide +kernel
theorem dX10_nextCopy_48 : decode cX10_nextCopy 48 = .ok (.ireturn, 1) := by decide +kernel
theorem dX10_nextCopy_49 : decode cX10_nextCopy 49 = .ok (.iinc 3 1, 3) := by decide +kernel
theorem dX10_nextCopy_52 : decode cX10_nextCopy 52 = .ok (.goto (-50), 3) := by decide +kernel
theorem dX10_nextCopy_55 : decode cX10_nextCopy 55 = .ok (.iconst (-1), 1) := by decide +kernel
theorem dX10_nextCopy_56 : decode cX10_nextCopy 56 = .ok (.ireturn, 1) := by decide +kernel
theorem dX10_takeNotes_0 : decode cX10_takeNotes 0 = .ok (.aload_n 2, 1) := by decide +kernel
theorem dX10_takeNotes_1 : decode cX10_takeNotes 1 = .ok (.aload_n 1, 1) := by decide +kernel
theorem dX10_takeNotes_2 : decode cX10_takeNotes 2 = .ok (.iload_n 3, 1) := by decide +kernel
theorem dX10_takeNotes_3 : decode cX10_takeNotes 3 = .ok (.iconst 0, 1) := by decide +kernel
theorem dX10_takeNotes_4 : decode cX10_takeNotes 4 = .ok (.invokevirtual 72, 3) := by decide +kernel
theorem dX10_takeNotes_7 : decode cX10_takeNotes 7 = .ok (.aload_n 2, 1) := by decide +kernel
theorem dX10_takeNotes_8 : decode cX10_takeNotes 8 = .ok (.aload_n 1, 1) := by decide +kernel
theorem dX10_takeNotes_9 : decode cX10_takeNotes 9 = .ok (.invokevirtual 78, 3) := by decide +kernel
theorem dX10_takeNotes_12 : decode cX10_takeNotes 12 = .ok (.iconst 3, 1) := by decide +kernel
theorem dX10_takeNotes_13 : decode cX10_takeNotes 13 = .ok (.bipush 50, 2) := by decide +kernel
theorem dX10_takeNotes_15 : decode cX10_takeNotes 15 = .ok (.invokevirtual 82, 3) := by decide +kernel
theorem dX10_takeNotes_18 : decode cX10_takeNotes 18 = .ok (.istore 5, 2) := by decide +kernel
theorem dX10_takeNotes_20 : decode cX10_takeNotes 20 = .ok (.iconst 0, 1) := by decide +kernel
theorem dX10_takeNotes_21 : decode cX10_takeNotes 21 = .ok (.istore 6, 2) := by decide +kernel
theorem dX10_takeNotes_23 : decode cX10_takeNotes 23 = .ok (.iload 6, 2) := by decide +kernel
theorem dX10_takeNotes_25 : decode cX10_takeNotes 25 = .ok (.aload_n 0, 1) := by decide +kernel
theorem dX10_takeNotes_26 : decode cX10_takeNotes 26 = .ok (.iload 4, 2) := by decide +kernel
theorem dX10_takeNotes_28 : decode cX10_takeNotes 28 = .ok (.invokevirtual 29, 3) := by decide +kernel
theorem dX10_takeNotes_31 : decode cX10_takeNotes 31 = .ok (.if_icmp .ge 37, 3) := by decide +kernel
theorem dX10_takeNotes_34 : decode cX10_takeNotes 34 = .ok (.aload_n 0, 1) := by decide +kernel
theorem dX10_takeNotes_35 : decode cX10_takeNotes 35 = .ok (.invokevirtual 86, 3) := by decide +kernel
theorem dX10_takeNotes_38 : decode cX10_takeNotes 38 = .ok (.iload 5, 2) := by decide +kernel
theorem dX10_takeNotes_40 : decode cX10_takeNotes 40 = .ok (.if_icmp .ge 22, 3) := by decide +kernel
theorem dX10_takeNotes_43 : decode cX10_takeNotes 43 = .ok (.aload_n 0, 1) := by decide +kernel
theorem dX10_takeNotes_44 : decode cX10_takeNotes 44 = .ok (.iload_n 3, 1) := by decide +kernel
theorem dX10_takeNotes_45 : decode cX10_takeNotes 45 = .ok (.aload_n 0, 1) := by decide +kernel
theorem dX10_takeNotes_46 : decode cX10_takeNotes 46 = .ok (.getfield 11, 3) := by decide +kernel
theorem dX10_takeNotes_49 : decode cX10_takeNotes 49 = .ok (.iload 4, 2) := by decide +kernel
theorem dX10_takeNotes_51 : decode cX10_takeNotes 51 = .ok (.sipush 144, 3) := by decide +kernel
theorem dX10_takeNotes_54 : decode cX10_takeNotes 54 = .ok (.imul, 1) := by decide +kernel
theorem dX10_takeNotes_55 : decode cX10_takeNotes 55 = .ok (.iload 6, 2) := by decide +kernel
theorem dX10_takeNotes_57 : decode cX10_takeNotes 57 = .ok (.iadd, 1) := by decide +kernel
theorem dX10_takeNotes_58 : decode cX10_takeNotes 58 = .ok (.iaload, 1) := by decide +kernel
theorem dX10_takeNotes_59 : decode cX10_takeNotes 59 = .ok (.invokevirtual 89, 3) := by decide +kernel
theorem dX10_takeNotes_62 : decode cX10_takeNotes 62 = .ok (.iinc 6 1, 3) := by decide +kernel
theorem dX10_takeNotes_65 : decode cX10_takeNotes 65 = .ok (.goto (-42), 3) := by decide +kernel
theorem dX10_takeNotes_68 : decode cX10_takeNotes 68 = .ok (.return_, 1) := by decide +kernel
theorem dX10_writeNotes_0 : decode cX10_writeNotes 0 = .ok (.iconst 0, 1) := by decide +kernel
theorem dX10_writeNotes_1 : decode cX10_writeNotes 1 = .ok (.istore 4, 2) := by decide +kernel
theorem dX10_writeNotes_3 : decode cX10_writeNotes 3 = .ok (.iload 4, 2) := by decide +kernel
theorem dX10_writeNotes_5 : decode cX10_writeNotes 5 = .ok (.bipush 12, 2) := by decide +kernel
theorem dX10_writeNotes_7 : decode cX10_writeNotes 7 = .ok (.if_icmp .ge 54, 3) := by decide +kernel
theorem dX10_writeNotes_10 : decode cX10_writeNotes 10 = .ok (.aload_n 2, 1) := by decide +kernel
theorem dX10_writeNotes_11 : decode cX10_writeNotes 11 = .ok (.aload_n 1, 1) := by decide +kernel
theorem dX10_writeNotes_12 : decode cX10_writeNotes 12 = .ok (.iload_n 3, 1) := by decide +kernel
theorem dX10_writeNotes_13 : decode cX10_writeNotes 13 = .ok (.iload 4, 2) := by decide +kernel
theorem dX10_writeNotes_15 : decode cX10_writeNotes 15 = .ok (.invokevirtual 72, 3) := by decide +kernel
theorem dX10_writeNotes_18 : decode cX10_writeNotes 18 = .ok (.aload_n 0, 1) := by decide +kernel
theorem dX10_writeNotes_19 : decode cX10_writeNotes 19 = .ok (.invokevirtual 86, 3) := by decide +kernel
theorem dX10_writeNotes_22 : decode cX10_writeNotes 22 = .ok (.aload_n 2, 1) := by decide +kernel
theorem dX10_writeNotes_23 : decode cX10_writeNotes 23 = .ok (.aload_n 1, 1) := by decide +kernel
theorem dX10_writeNotes_24 : decode cX10_writeNotes 24 = .ok (.invokevirtual 78, 3) := by decide +kernel
theorem dX10_writeNotes_27 : decode cX10_writeNotes 27 = .ok (.iconst 4, 1) := by decide +kernel
theorem dX10_writeNotes_28 : decode cX10_writeNotes 28 = .ok (.bipush 50, 2) := by decide +kernel
theorem dX10_writeNotes_30 : decode cX10_writeNotes 30 = .ok (.invokevirtual 82, 3) := by decide +kernel
theorem dX10_writeNotes_33 : decode cX10_writeNotes 33 = .ok (.if_icmp .ge 22, 3) := by decide +kernel
theorem dX10_writeNotes_36 : decode cX10_writeNotes 36 = .ok (.aload_n 0, 1) := by decide +kernel
theorem dX10_writeNotes_37 : decode cX10_writeNotes 37 = .ok (.dup, 1) := by decide +kernel
theorem dX10_writeNotes_38 : decode cX10_writeNotes 38 = .ok (.getfield 48, 3) := by decide +kernel
theorem dX10_writeNotes_41 : decode cX10_writeNotes 41 = .ok (.iconst 1, 1) := by decide +kernel
theorem dX10_writeNotes_42 : decode cX10_writeNotes 42 = .ok (.iadd, 1) := by decide +kernel
theorem dX10_writeNotes_43 : decode cX10_writeNotes 43 = .ok (.putfield 48, 3) := by decide +kernel
theorem dX10_writeNotes_46 : decode cX10_writeNotes 46 = .ok (.aload_n 0, 1) := by decide +kernel
theorem dX10_writeNotes_47 : decode cX10_writeNotes 47 = .ok (.iload_n 3, 1) := by decide +kernel
theorem dX10_writeNotes_48 : decode cX10_writeNotes 48 = .ok (.aload_n 0, 1) := by decide +kernel
theorem dX10_writeNotes_49 : decode cX10_writeNotes 49 = .ok (.getfield 48, 3) := by decide +kernel
theorem dX10_writeNotes_52 : decode cX10_writeNotes 52 = .ok (.invokevirtual 89, 3) := by decide +kernel
theorem dX10_writeNotes_55 : decode cX10_writeNotes 55 = .ok (.iinc 4 1, 3) := by decide +kernel
theorem dX10_writeNotes_58 : decode cX10_writeNotes 58 = .ok (.goto (-55), 3) := by decide +kernel
theorem dX10_writeNotes_61 : decode cX10_writeNotes 61 = .ok (.return_, 1) := by decide +kernel
theorem dX10_put_0 : decode cX10_put 0 = .ok (.aload_n 0, 1) := by decide +kernel
theorem dX10_put_1 : decode cX10_put 1 = .ok (.iload_n 1, 1) := by decide +kernel
theorem dX10_put_2 : decode cX10_put 2 = .ok (.invokevirtual 25, 3) := by decide +kernel
theorem dX10_put_5 : decode cX10_put 5 = .ok (.ifCond .eq 43, 3) := by decide +kernel
theorem dX10_put_8 : decode cX10_put 8 = .ok (.aload_n 0, 1) := by decide +kernel
theorem dX10_put_9 : decode cX10_put 9 = .ok (.getfield 15, 3) := by decide +kernel
theorem dX10_put_12 : decode cX10_put 12 = .ok (.iload_n 1, 1) := by decide +kernel
theorem dX10_put_13 : decode cX10_put 13 = .ok (.iaload, 1) := by decide +kernel
theorem dX10_put_14 : decode cX10_put 14 = .ok (.sipush 144, 3) := by decide +kernel
theorem dX10_put_17 : decode cX10_put 17 = .ok (.if_icmp .ge 31, 3) := by decide +kernel
theorem dX10_put_20 : decode cX10_put 20 = .ok (.aload_n 0, 1) := by decide +kernel
theorem dX10_put_21 : decode cX10_put 21 = .ok (.getfield 11, 3) := by decide +kernel
theorem dX10_put_24 : decode cX10_put 24 = .ok (.iload_n 1, 1) := by decide +kernel
theorem dX10_put_25 : decode cX10_put 25 = .ok (.sipush 144, 3) := by decide +kernel
theorem dX10_put_28 : decode cX10_put 28 = .ok (.imul, 1) := by decide +kernel
theorem dX10_put_29 : decode cX10_put 29 = .ok (.aload_n 0, 1) := by decide +kernel
theorem dX10_put_30 : decode cX10_put 30 = .ok (.getfield 15, 3) := by decide +kernel
theorem dX10_put_33 : decode cX10_put 33 = .ok (.iload_n 1, 1) := by decide +kernel
theorem dX10_put_34 : decode cX10_put 34 = .ok (.iaload, 1) := by decide +kernel
theorem dX10_put_35 : decode cX10_put 35 = .ok (.iadd, 1) := by decide +kernel
theorem dX10_put_36 : decode cX10_put 36 = .ok (.iload_n 2, 1) := by decide +kernel
theorem dX10_put_37 : decode cX10_put 37 = .ok (.iastore, 1) := by decide +kernel
theorem dX10_put_38 : decode cX10_put 38 = .ok (.aload_n 0, 1) := by decide +kernel
theorem dX10_put_39 : decode cX10_put 39 = .ok (.getfield 15, 3) := by decide +kernel
theorem dX10_put_42 : decode cX10_put 42 = .ok (.iload_n 1, 1) := by decide +kernel
theorem dX10_put_43 : decode cX10_put 43 = .ok (.dup2, 1) := by decide +kernel
theorem dX10_put_44 : decode cX10_put 44 = .ok (.iaload, 1) := by decide +kernel
theorem dX10_put_45 : decode cX10_put 45 = .ok (.iconst 1, 1) := by decide +kernel
theorem dX10_put_46 : decode cX10_put 46 = .ok (.iadd, 1) := by decide +kernel
theorem dX10_put_47 : decode cX10_put 47 = .ok (.iastore, 1) := by decide +kernel
theorem dX10_put_48 : decode cX10_put 48 = .ok (.return_, 1) := by decide +kernel
theorem dX10_drawOfHundred_0 : decode cX10_drawOfHundred 0 = .ok (.aload_n 0, 1) := by decide +kernel
theorem dX10_drawOfHundred_1 : decode cX10_drawOfHundred 1 = .ok (.aload_n 0, 1) := by decide +kernel
theorem dX10_drawOfHundred_2 : decode cX10_drawOfHundred 2 = .ok (.getfield 51, 3) := by decide +kernel
theorem dX10_drawOfHundred_5 : decode cX10_drawOfHundred 5 = .ok (.ldc2_w 93, 3) := by decide +kernel
theorem dX10_drawOfHundred_8 : decode cX10_drawOfHundred 8 = .ok (.lmul, 1) := by decide +kernel
theorem dX10_drawOfHundred_9 : decode cX10_drawOfHundred 9 = .ok (.ldc2_w 95, 3) := by decide +kernel
theorem dX10_drawOfHundred_12 : decode cX10_drawOfHundred 12 = .ok (.ladd, 1) := by decide +kernel
theorem dX10_drawOfHundred_13 : decode cX10_drawOfHundred 13 = .ok (.ldc2_w 97, 3) := by decide +kernel
theorem dX10_drawOfHundred_16 : decode cX10_drawOfHundred 16 = .ok (.lrem, 1) := by decide +kernel
theorem dX10_drawOfHundred_17 : decode cX10_drawOfHundred 17 = .ok (.putfield 51, 3) := by decide +kernel
theorem dX10_drawOfHundred_20 : decode cX10_drawOfHundred 20 = .ok (.aload_n 0, 1) := by decide +kernel
theorem dX10_drawOfHundred_21 : decode cX10_drawOfHundred 21 = .ok (.getfield 51, 3) := by decide +kernel
theorem dX10_drawOfHundred_24 : decode cX10_drawOfHundred 24 = .ok (.ldc2_w 99, 3) := by decide +kernel
theorem dX10_drawOfHundred_27 : decode cX10_drawOfHundred 27 = .ok (.lrem, 1) := by decide +kernel
theorem dX10_drawOfHundred_28 : decode cX10_drawOfHundred 28 = .ok (.l2i, 1) := by decide +kernel
theorem dX10_drawOfHundred_29 : decode cX10_drawOfHundred 29 = .ok (.ireturn, 1) := by decide +kernel
theorem dX11_init_0 : decode cX11_init 0 = .ok (.aload_n 0, 1) := by decide +kernel
theorem dX11_init_1 : decode cX11_init 1 = .ok (.invokespecial 1, 3) := by decide +kernel
theorem dX11_init_4 : decode cX11_init 4 = .ok (.aload_n 0, 1) := by decide +kernel
theorem dX11_init_5 : decode cX11_init 5 = .ok (.new 7, 3) := by decide +kernel
theorem dX11_init_8 : decode cX11_init 8 = .ok (.dup, 1) := by decide +kernel
theorem dX11_init_9 : decode cX11_init 9 = .ok (.invokespecial 9, 3) := by decide +kernel
theorem dX11_init_12 : decode cX11_init 12 = .ok (.putfield 10, 3) := by decide +kernel
theorem dX11_init_15 : decode cX11_init 15 = .ok (.aload_n 0, 1) := by decide +kernel
theorem dX11_init_16 : decode cX11_init 16 = .ok (.iconst 2, 1) := by decide +kernel
theorem dX11_init_17 : decode cX11_init 17 = .ok (.anewarray 7, 3) := by decide +kernel
theorem dX11_init_20 : decode cX11_init 20 = .ok (.dup, 1) := by decide +kernel
theorem dX11_init_21 : decode cX11_init 21 = .ok (.iconst 0, 1) := by decide +kernel
theorem dX11_init_22 : decode cX11_init 22 = .ok (.new 7, 3) := by decide +kernel
theorem dX11_init_25 : decode cX11_init 25 = .ok (.dup, 1) := by decide +kernel
theorem dX11_init_26 : decode cX11_init 26 = .ok (.invokespecial 9, 3) := by decide +kernel
theorem dX11_init_29 : decode cX11_init 29 = .ok (.aastore, 1) := by decide +kernel
theorem dX11_init_30 : decode cX11_init 30 = .ok (.dup, 1) := by decide +kernel
theorem dX11_init_31 : decode cX11_init 31 = .ok (.iconst 1, 1) := by decide +kernel
theorem dX11_init_32 : decode cX11_init 32 = .ok (.new 7, 3) := by decide +kernel
theorem dX11_init_35 : decode cX11_init 35 = .ok (.dup, 1) := by decide +kernel
theorem dX11_init_36 : decode cX11_init 36 = .ok (.invokespecial 9, 3) := by decide +kernel
theorem dX11_init_39 : decode cX11_init 39 = .ok (.aastore, 1) := by decide +kernel
theorem dX11_init_40 : decode cX11_init 40 = .ok (.putfield 16, 3) := by decide +kernel
theorem dX11_init_43 : decode cX11_init 43 = .ok (.aload_n 0, 1) := by decide +kernel
theorem dX11_init_44 : decode cX11_init 44 = .ok (.iconst 2, 1) := by decide +kernel
theorem dX11_init_45 : decode cX11_init 45 = .ok (.newarray .boolean, 2) := by decide +kernel
theorem dX11_init_47 : decode cX11_init 47 = .ok (.putfield 20, 3) := by decide +kernel
theorem dX11_init_50 : decode cX11_init 50 = .ok (.aload_n 0, 1) := by decide +kernel
theorem dX11_init_51 : decode cX11_init 51 = .ok (.new 24, 3) := by decide +kernel
theorem dX11_init_54 : decode cX11_init 54 = .ok (.dup, 1) := by decide +kernel
theorem dX11_init_55 : decode cX11_init 55 = .ok (.invokespecial 26, 3) := by decide +kernel
theorem dX11_init_58 : decode cX11_init 58 = .ok (.putfield 27, 3) := by decide +kernel
theorem dX11_init_61 : decode cX11_init 61 = .ok (.aload_n 0, 1) := by decide +kernel
theorem dX11_init_62 : decode cX11_init 62 = .ok (.new 31, 3) := by decide +kernel
theorem dX11_init_65 : decode cX11_init 65 = .ok (.dup, 1) := by decide +kernel
theorem dX11_init_66 : decode cX11_init 66 = .ok (.aload_n 0, 1) := by decide +kernel
theorem dX11_init_67 : decode cX11_init 67 = .ok (.getfield 27, 3) := by decide +kernel
theorem dX11_init_70 : decode cX11_init 70 = .ok (.invokespecial 33, 3) := by decide +kernel
theorem dX11_init_73 : decode cX11_init 73 = .ok (.putfield 36, 3) := by decide +kernel
theorem dX11_init_76 : decode cX11_init 76 = .ok (.aload_n 0, 1) := by decide +kernel
theorem dX11_init_77 : decode cX11_init 77 = .ok (.new 40, 3) := by decide +kernel
theorem dX11_init_80 : decode cX11_init 80 = .ok (.dup, 1) := by decide +kernel
theorem dX11_init_81 : decode cX11_init 81 = .ok (.invokespecial 42, 3) := by decide +kernel
theorem dX11_init_84 : decode cX11_init 84 = .ok (.putfield 43, 3) := by decide +kernel
theorem dX11_init_87 : decode cX11_init 87 = .ok (.aload_n 0, 1) := by decide +kernel
theorem dX11_init_88 : decode cX11_init 88 = .ok (.new 47, 3) := by decide +kernel
theorem dX11_init_91 : decode cX11_init 91 = .ok (.dup, 1) := by decide +kernel
theorem dX11_init_92 : decode cX11_init 92 = .ok (.invokespecial 49, 3) := by decide +kernel
theorem dX11_init_95 : decode cX11_init 95 = .ok (.putfield 50, 3) := by decide +kernel
theorem dX11_init_98 : decode cX11_init 98 = .ok (.aload_n 0, 1) := by decide +kernel
theorem dX11_init_99 : decode cX11_init 99 = .ok (.new 54, 3) := by decide +kernel
theorem dX11_init_102 : decode cX11_init 102 = .ok (.dup, 1) := by decide +kernel
theorem dX11_init_103 : decode cX11_init 103 = .ok (.invokespecial 56, 3) := by decide +kernel
theorem dX11_init_106 : decode cX11_init 106 = .ok (.putfield 57, 3) := by decide +kernel
theorem dX11_init_109 : decode cX11_init 109 = .ok (.aload_n 0, 1) := by decide +kernel
theorem dX11_init_110 : decode cX11_init 110 = .ok (.new 61, 3) := by decide +kernel
theorem dX11_init_113 : decode cX11_init 113 = .ok (.dup, 1) := by decide +kernel
theorem dX11_init_114 : decode cX11_init 114 = .ok (.invokespecial 63, 3) := by decide +kernel
theorem dX11_init_117 : decode cX11_init 117 = .ok (.putfield 64, 3) := by decide +kernel
theorem dX11_init_120 : decode cX11_init 120 = .ok (.aload_n 0, 1) := by decide +kernel
theorem dX11_init_121 : decode cX11_init 121 = .ok (.new 68, 3) := by decide +kernel
theorem dX11_init_124 : decode cX11_init 124 = .ok (.dup, 1) := by decide +kernel
theorem dX11_init_125 : decode cX11_init 125 = .ok (.invokespecial 70, 3) := by decide +kernel
theorem dX11_init_128 : decode cX11_init 128 = .ok (.putfield 71, 3) := by decide +kernel
theorem dX11_init_131 : decode cX11_init 131 = .ok (.aload_n 0, 1) := by decide +kernel
theorem dX11_init_132 : decode cX11_init 132 = .ok (.bipush 7, 2) := by decide +kernel
theorem dX11_init_134 : decode cX11_init 134 = .ok (.newarray .int, 2) := by decide +kernel
theorem dX11_init_136 : decode cX11_init 136 = .ok (.putfield 75, 3) := by decide +kernel
theorem dX11_init_139 : decode cX11_init 139 = .ok (.aload_n 0, 1) := by decide +kernel
theorem dX11_init_140 : decode cX11_init 140 = .ok (.iconst (-1), 1) := by decide +kernel
theorem dX11_init_141 : decode cX11_init 141 = .ok (.putfield 79, 3) := by decide +kernel
theorem dX11_init_144 : decode cX11_init 144 = .ok (.return_, 1) := by decide +kernel
theorem dX11_copy_0 : decode cX11_copy 0 = .ok (.iload_n 1, 1) := by decide +kernel
theorem dX11_copy_1 : decode cX11_copy 1 = .ok (.iconst 0, 1) := by decide +kernel
theorem dX11_copy_2 : decode cX11_copy 2 = .ok (.bipush 7, 2) := by decide +kernel
theorem dX11_copy_4 : decode cX11_copy 4 = .ok (.invokestatic 83, 3) := by decide +kernel
theorem dX11_copy_7 : decode cX11_copy 7 = .ok (.ifCond .eq 13, 3) := by decide +kernel
theorem dX11_copy_10 : decode cX11_copy 10 = .ok (.iload_n 2, 1) := by decide +kernel
theorem dX11_copy_11 : decode cX11_copy 11 = .ok (.iconst 0, 1) := by decide +kernel
theorem dX11_copy_12 : decode cX11_copy 12 = .ok (.bipush 63, 2) := by decide +kernel
theorem dX11_copy_14 : decode cX11_copy 14 = .ok (.invokestatic 83, 3) := by decide +kernel
theorem dX11_copy_17 : decode cX11_copy 17 = .ok (.ifCond .ne 9, 3) := by decide +kernel
theorem dX11_copy_20 : decode cX11_copy 20 = .ok (.aload_n 0, 1) := by decide +kernel
theorem dX11_copy_21 : decode cX11_copy 21 = .ok (.iconst (-1), 1) := by decide +kernel
theorem dX11_copy_22 : decode cX11_copy 22 = .ok (.invokevirtual 87, 3) := by decide +kernel
theorem dX11_copy_25 : decode cX11_copy 25 = .ok (.ireturn, 1) := by decide +kernel
theorem dX11_copy_26 : decode cX11_copy 26 = .ok (.aload_n 0, 1) := by decide +kernel
theorem dX11_copy_27 : decode cX11_copy 27 = .ok (.getfield 10, 3) := by decide +kernel
theorem dX11_copy_30 : decode cX11_copy 30 = .ok (.getfield 91, 3) := by decide +kernel
theorem dX11_copy_33 : decode cX11_copy 33 = .ok (.invokevirtual 95, 3) := by decide +kernel
theorem dX11_copy_36 : decode cX11_copy 36 = .ok (.istore_n 3, 1) := by decide +kernel
theorem dX11_copy_37 : decode cX11_copy 37 = .ok (.iload_n 3, 1) := by decide +kernel
theorem dX11_copy_38 : decode cX11_copy 38 = .ok (.iconst (-1), 1) := by decide +kernel
theorem dX11_copy_39 : decode cX11_copy 39 = .ok (.if_icmp .ne 10, 3) := by decide +kernel
theorem dX11_copy_42 : decode cX11_copy 42 = .ok (.aload_n 0, 1) := by decide +kernel
theorem dX11_copy_43 : decode cX11_copy 43 = .ok (.bipush (-5), 2) := by decide +kernel
theorem dX11_copy_45 : decode cX11_copy 45 = .ok (.invokevirtual 87, 3) := by decide +kernel
theorem dX11_copy_48 : decode cX11_copy 48 = .ok (.ireturn, 1) := by decide +kernel
theorem dX11_copy_49 : decode cX11_copy 49 = .ok (.aload_n 0, 1) := by decide +kernel
theorem dX11_copy_50 : decode cX11_copy 50 = .ok (.getfield 10, 3) := by decide +kernel
theorem dX11_copy_53 : decode cX11_copy 53 = .ok (.getfield 91, 3) := by decide +kernel
theorem dX11_copy_56 : decode cX11_copy 56 = .ok (.iload_n 3, 1) := by decide +kernel
theorem dX11_copy_57 : decode cX11_copy 57 = .ok (.iconst 0, 1) := by decide +kernel
theorem dX11_copy_58 : decode cX11_copy 58 = .ok (.iload_n 1, 1) := by decide +kernel
theorem dX11_copy_59 : decode cX11_copy 59 = .ok (.invokevirtual 101, 3) := by decide +kernel
theorem dX11_copy_62 : decode cX11_copy 62 = .ok (.pop, 1) := by decide +kernel
theorem dX11_copy_63 : decode cX11_copy 63 = .ok (.aload_n 0, 1) := by decide +kernel
theorem dX11_copy_64 : decode cX11_copy 64 = .ok (.getfield 10, 3) := by decide +kernel
theorem dX11_copy_67 : decode cX11_copy 67 = .ok (.getfield 91, 3) := by decide +kernel
theorem dX11_copy_70 : decode cX11_copy 70 = .ok (.iload_n 3, 1) := by decide +kernel
theorem dX11_copy_71 : decode cX11_copy 71 = .ok (.iconst 1, 1) := by decide +kernel
theorem dX11_copy_72 : decode cX11_copy 72 = .ok (.iload_n 2, 1) := by decide +kernel
theorem dX11_copy_73 : decode cX11_copy 73 = .ok (.invokevirtual 101, 3) := by decide +kernel
theorem dX11_copy_76 : decode cX11_copy 76 = .ok (.pop, 1) := by decide +kernel
theorem dX11_copy_77 : decode cX11_copy 77 = .ok (.aload_n 0, 1) := by decide +kernel
theorem dX11_copy_78 : decode cX11_copy 78 = .ok (.iload_n 3, 1) := by decide +kernel
theorem dX11_copy_79 : decode cX11_copy 79 = .ok (.invokevirtual 105, 3) := by decide +kernel
theorem dX11_copy_82 : decode cX11_copy 82 = .ok (.ireturn, 1) := by decide +kernel
theorem dX11_look_0 : decode cX11_look 0 = .ok (.iload_n 2, 1) := by decide +kernel
theorem dX11_look_1 : decode cX11_look 1 = .ok (.iconst 0, 1) := by decide +kernel
theorem dX11_look_2 : decode cX11_look 2 = .ok (.iconst 1, 1) := by decide +kernel
theorem dX11_look_3 : decode cX11_look 3 = .ok (.invokestatic 83, 3) := by decide +kernel
theorem dX11_look_6 : decode cX11_look 6 = .ok (.ifCond .ne 9, 3) := by decide +kernel
theorem dX11_look_9 : decode cX11_look 9 = .ok (.aload_n 0, 1) := by decide +kernel
theorem dX11_look_10 : decode cX11_look 10 = .ok (.iconst (-1), 1) := by decide +kernel
theorem dX11_look_11 : decode cX11_look 11 = .ok (.invokevirtual 87, 3) := by decide +kernel
theorem dX11_look_14 : decode cX11_look 14 = .ok (.ireturn, 1) := by decide +kernel
theorem dX11_look_15 : decode cX11_look 15 = .ok (.aload_n 0, 1) := by decide +kernel
theorem dX11_look_16 : decode cX11_look 16 = .ok (.getfield 10, 3) := by decide +kernel
theorem dX11_look_19 : decode cX11_look 19 = .ok (.getfield 91, 3) := by decide +kernel
theorem dX11_look_22 : decode cX11_look 22 = .ok (.iload_n 1, 1) := by decide +kernel
theorem dX11_look_23 : decode cX11_look 23 = .ok (.invokevirtual 108, 3) := by decide +kernel
theorem dX11_look_26 : decode cX11_look 26 = .ok (.ifCond .ne 10, 3) := by decide +kernel
theorem dX11_look_29 : decode cX11_look 29 = .ok (.aload_n 0, 1) := by decide +kernel
theorem dX11_look_30 : decode cX11_look 30 = .ok (.bipush (-2), 2) := by decide +kernel
theorem dX11_look_32 : decode cX11_look 32 = .ok (.invokevirtual 87, 3) := by decide +kernel
theorem dX11_look_35 : decode cX11_look 35 = .ok (.ireturn, 1) := by decide +kernel
theorem dX11_look_36 : decode cX11_look 36 = .ok (.aload_n 0, 1) := by decide +kernel
theorem dX11_look_37 : decode cX11_look 37 = .ok (.aload_n 0, 1) := by decide +kernel
