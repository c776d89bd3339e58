theorem dX11_look_38 : decode cX11_look 38 = .ok (.getfield 10, 3) := by decide +kernel
theorem dX11_look_41 : decode cX11_look 41 = .ok (.getfield 91, 3) := by decide +kernel
theorem dX11_look_44 : decode cX11_look 44 = .ok (.iload_n 1, 1) := by decide +kernel
theorem dX11_look_45 : decode cX11_look 45 = .ok (.iconst 2, 1) := by decide +kernel
theorem dX11_look_46 : decode cX11_look 46 = .ok (.iload_n 2, 1) := by decide +kernel
theorem dX11_look_47 : decode cX11_look 47 = .ok (.invokevirtual 101, 3) := by decide +kernel
theorem dX11_look_50 : decode cX11_look 50 = .ok (.invokevirtual 112, 3) := by decide +kernel
theorem dX11_look_53 : decode cX11_look 53 = .ok (.ireturn, 1) := by decide +kernel
theorem dX11_stay_0 : decode cX11_stay 0 = .ok (.iload_n 2, 1) := by decide +kernel
theorem dX11_stay_1 : decode cX11_stay 1 = .ok (.iconst 0, 1) := by decide +kernel
theorem dX11_stay_2 : decode cX11_stay 2 = .ok (.bipush 31, 2) := by decide +kernel
theorem dX11_stay_4 : decode cX11_stay 4 = .ok (.invokestatic 83, 3) := by decide +kernel
theorem dX11_stay_7 : decode cX11_stay 7 = .ok (.ifCond .eq 12, 3) := by decide +kernel
theorem dX11_stay_10 : decode cX11_stay 10 = .ok (.iload_n 3, 1) := by decide +kernel
theorem dX11_stay_11 : decode cX11_stay 11 = .ok (.iload 4, 2) := by decide +kernel
theorem dX11_stay_13 : decode cX11_stay 13 = .ok (.invokestatic 115, 3) := by decide +kernel
theorem dX11_stay_16 : decode cX11_stay 16 = .ok (.ifCond .ne 9, 3) := by decide +kernel
theorem dX11_stay_19 : decode cX11_stay 19 = .ok (.aload_n 0, 1) := by decide +kernel
theorem dX11_stay_20 : decode cX11_stay 20 = .ok (.iconst (-1), 1) := by decide +kernel
theorem dX11_stay_21 : decode cX11_stay 21 = .ok (.invokevirtual 87, 3) := by decide +kernel
theorem dX11_stay_24 : decode cX11_stay 24 = .ok (.ireturn, 1) := by decide +kernel
theorem dX11_stay_25 : decode cX11_stay 25 = .ok (.aload_n 0, 1) := by decide +kernel
theorem dX11_stay_26 : decode cX11_stay 26 = .ok (.getfield 10, 3) := by decide +kernel
theorem dX11_stay_29 : decode cX11_stay 29 = .ok (.getfield 91, 3) := by decide +kernel
theorem dX11_stay_32 : decode cX11_stay 32 = .ok (.iload_n 1, 1) := by decide +kernel
theorem dX11_stay_33 : decode cX11_stay 33 = .ok (.invokevirtual 108, 3) := by decide +kernel
theorem dX11_stay_36 : decode cX11_stay 36 = .ok (.ifCond .ne 10, 3) := by decide +kernel
theorem dX11_stay_39 : decode cX11_stay 39 = .ok (.aload_n 0, 1) := by decide +kernel
theorem dX11_stay_40 : decode cX11_stay 40 = .ok (.bipush (-2), 2) := by decide +kernel
theorem dX11_stay_42 : decode cX11_stay 42 = .ok (.invokevirtual 87, 3) := by decide +kernel
theorem dX11_stay_45 : decode cX11_stay 45 = .ok (.ireturn, 1) := by decide +kernel
theorem dX11_stay_46 : decode cX11_stay 46 = .ok (.aload_n 0, 1) := by decide +kernel
theorem dX11_stay_47 : decode cX11_stay 47 = .ok (.getfield 10, 3) := by decide +kernel
theorem dX11_stay_50 : decode cX11_stay 50 = .ok (.getfield 119, 3) := by decide +kernel
theorem dX11_stay_53 : decode cX11_stay 53 = .ok (.invokevirtual 95, 3) := by decide +kernel
theorem dX11_stay_56 : decode cX11_stay 56 = .ok (.istore 5, 2) := by decide +kernel
theorem dX11_stay_58 : decode cX11_stay 58 = .ok (.iload 5, 2) := by decide +kernel
theorem dX11_stay_60 : decode cX11_stay 60 = .ok (.iconst (-1), 1) := by decide +kernel
theorem dX11_stay_61 : decode cX11_stay 61 = .ok (.if_icmp .ne 10, 3) := by decide +kernel
theorem dX11_stay_64 : decode cX11_stay 64 = .ok (.aload_n 0, 1) := by decide +kernel
theorem dX11_stay_65 : decode cX11_stay 65 = .ok (.bipush (-5), 2) := by decide +kernel
theorem dX11_stay_67 : decode cX11_stay 67 = .ok (.invokevirtual 87, 3) := by decide +kernel
theorem dX11_stay_70 : decode cX11_stay 70 = .ok (.ireturn, 1) := by decide +kernel
theorem dX11_stay_71 : decode cX11_stay 71 = .ok (.aload_n 0, 1) := by decide +kernel
theorem dX11_stay_72 : decode cX11_stay 72 = .ok (.getfield 10, 3) := by decide +kernel
theorem dX11_stay_75 : decode cX11_stay 75 = .ok (.getfield 119, 3) := by decide +kernel
theorem dX11_stay_78 : decode cX11_stay 78 = .ok (.iload 5, 2) := by decide +kernel
theorem dX11_stay_80 : decode cX11_stay 80 = .ok (.iconst 0, 1) := by decide +kernel
theorem dX11_stay_81 : decode cX11_stay 81 = .ok (.iload_n 1, 1) := by decide +kernel
theorem dX11_stay_82 : decode cX11_stay 82 = .ok (.invokevirtual 101, 3) := by decide +kernel
theorem dX11_stay_85 : decode cX11_stay 85 = .ok (.pop, 1) := by decide +kernel
theorem dX11_stay_86 : decode cX11_stay 86 = .ok (.aload_n 0, 1) := by decide +kernel
theorem dX11_stay_87 : decode cX11_stay 87 = .ok (.getfield 10, 3) := by decide +kernel
theorem dX11_stay_90 : decode cX11_stay 90 = .ok (.getfield 119, 3) := by decide +kernel
theorem dX11_stay_93 : decode cX11_stay 93 = .ok (.iload 5, 2) := by decide +kernel
theorem dX11_stay_95 : decode cX11_stay 95 = .ok (.iconst 1, 1) := by decide +kernel
theorem dX11_stay_96 : decode cX11_stay 96 = .ok (.iload_n 2, 1) := by decide +kernel
theorem dX11_stay_97 : decode cX11_stay 97 = .ok (.invokevirtual 101, 3) := by decide +kernel
theorem dX11_stay_100 : decode cX11_stay 100 = .ok (.pop, 1) := by decide +kernel
theorem dX11_stay_101 : decode cX11_stay 101 = .ok (.aload_n 0, 1) := by decide +kernel
theorem dX11_stay_102 : decode cX11_stay 102 = .ok (.getfield 10, 3) := by decide +kernel
theorem dX11_stay_105 : decode cX11_stay 105 = .ok (.getfield 119, 3) := by decide +kernel
theorem dX11_stay_108 : decode cX11_stay 108 = .ok (.iload 5, 2) := by decide +kernel
theorem dX11_stay_110 : decode cX11_stay 110 = .ok (.iconst 2, 1) := by decide +kernel
theorem dX11_stay_111 : decode cX11_stay 111 = .ok (.iload_n 3, 1) := by decide +kernel
theorem dX11_stay_112 : decode cX11_stay 112 = .ok (.invokevirtual 101, 3) := by decide +kernel
theorem dX11_stay_115 : decode cX11_stay 115 = .ok (.pop, 1) := by decide +kernel
theorem dX11_stay_116 : decode cX11_stay 116 = .ok (.aload_n 0, 1) := by decide +kernel
theorem dX11_stay_117 : decode cX11_stay 117 = .ok (.getfield 10, 3) := by decide +kernel
theorem dX11_stay_120 : decode cX11_stay 120 = .ok (.getfield 119, 3) := by decide +kernel
theorem dX11_stay_123 : decode cX11_stay 123 = .ok (.iload 5, 2) := by decide +kernel
theorem dX11_stay_125 : decode cX11_stay 125 = .ok (.iconst 3, 1) := by decide +kernel
theorem dX11_stay_126 : decode cX11_stay 126 = .ok (.iload 4, 2) := by decide +kernel
theorem dX11_stay_128 : decode cX11_stay 128 = .ok (.invokevirtual 101, 3) := by decide +kernel
theorem dX11_stay_131 : decode cX11_stay 131 = .ok (.pop, 1) := by decide +kernel
theorem dX11_stay_132 : decode cX11_stay 132 = .ok (.aload_n 0, 1) := by decide +kernel
theorem dX11_stay_133 : decode cX11_stay 133 = .ok (.aload_n 0, 1) := by decide +kernel
theorem dX11_stay_134 : decode cX11_stay 134 = .ok (.getfield 10, 3) := by decide +kernel
theorem dX11_stay_137 : decode cX11_stay 137 = .ok (.getfield 119, 3) := by decide +kernel
theorem dX11_stay_140 : decode cX11_stay 140 = .ok (.invokevirtual 122, 3) := by decide +kernel
theorem dX11_stay_143 : decode cX11_stay 143 = .ok (.invokevirtual 105, 3) := by decide +kernel
theorem dX11_stay_146 : decode cX11_stay 146 = .ok (.ireturn, 1) := by decide +kernel
theorem dX11_hand_0 : decode cX11_hand 0 = .ok (.iload_n 1, 1) := by decide +kernel
theorem dX11_hand_1 : decode cX11_hand 1 = .ok (.iload_n 2, 1) := by decide +kernel
theorem dX11_hand_2 : decode cX11_hand 2 = .ok (.invokestatic 115, 3) := by decide +kernel
theorem dX11_hand_5 : decode cX11_hand 5 = .ok (.ifCond .ne 9, 3) := by decide +kernel
theorem dX11_hand_8 : decode cX11_hand 8 = .ok (.aload_n 0, 1) := by decide +kernel
theorem dX11_hand_9 : decode cX11_hand 9 = .ok (.iconst (-1), 1) := by decide +kernel
theorem dX11_hand_10 : decode cX11_hand 10 = .ok (.invokevirtual 87, 3) := by decide +kernel
theorem dX11_hand_13 : decode cX11_hand 13 = .ok (.ireturn, 1) := by decide +kernel
theorem dX11_hand_14 : decode cX11_hand 14 = .ok (.aload_n 0, 1) := by decide +kernel
theorem dX11_hand_15 : decode cX11_hand 15 = .ok (.getfield 10, 3) := by decide +kernel
theorem dX11_hand_18 : decode cX11_hand 18 = .ok (.getfield 125, 3) := by decide +kernel
theorem dX11_hand_21 : decode cX11_hand 21 = .ok (.invokevirtual 95, 3) := by decide +kernel
theorem dX11_hand_24 : decode cX11_hand 24 = .ok (.istore_n 3, 1) := by decide +kernel
theorem dX11_hand_25 : decode cX11_hand 25 = .ok (.iload_n 3, 1) := by decide +kernel
theorem dX11_hand_26 : decode cX11_hand 26 = .ok (.iconst (-1), 1) := by decide +kernel
theorem dX11_hand_27 : decode cX11_hand 27 = .ok (.if_icmp .ne 10, 3) := by decide +kernel
theorem dX11_hand_30 : decode cX11_hand 30 = .ok (.aload_n 0, 1) := by decide +kernel
theorem dX11_hand_31 : decode cX11_hand 31 = .ok (.bipush (-5), 2) := by decide +kernel
theorem dX11_hand_33 : decode cX11_hand 33 = .ok (.invokevirtual 87, 3) := by decide +kernel
theorem dX11_hand_36 : decode cX11_hand 36 = .ok (.ireturn, 1) := by decide +kernel
theorem dX11_hand_37 : decode cX11_hand 37 = .ok (.aload_n 0, 1) := by decide +kernel
theorem dX11_hand_38 : decode cX11_hand 38 = .ok (.getfield 10, 3) := by decide +kernel
theorem dX11_hand_41 : decode cX11_hand 41 = .ok (.getfield 125, 3) := by decide +kernel
theorem dX11_hand_44 : decode cX11_hand 44 = .ok (.iload_n 3, 1) := by decide +kernel
theorem dX11_hand_45 : decode cX11_hand 45 = .ok (.iconst 0, 1) := by decide +kernel
theorem dX11_hand_46 : decode cX11_hand 46 = .ok (.iload_n 1, 1) := by decide +kernel
theorem dX11_hand_47 : decode cX11_hand 47 = .ok (.invokevirtual 101, 3) := by decide +kernel
theorem dX11_hand_50 : decode cX11_hand 50 = .ok (.pop, 1) := by decide +kernel
theorem dX11_hand_51 : decode cX11_hand 51 = .ok (.aload_n 0, 1) := by decide +kernel
theorem dX11_hand_52 : decode cX11_hand 52 = .ok (.getfield 10, 3) := by decide +kernel
theorem dX11_hand_55 : decode cX11_hand 55 = .ok (.getfield 125, 3) := by decide +kernel
theorem dX11_hand_58 : decode cX11_hand 58 = .ok (.iload_n 3, 1) := by decide +kernel
theorem dX11_hand_59 : decode cX11_hand 59 = .ok (.iconst 1, 1) := by decide +kernel
theorem dX11_hand_60 : decode cX11_hand 60 = .ok (.iload_n 2, 1) := by decide +kernel
theorem dX11_hand_61 : decode cX11_hand 61 = .ok (.invokevirtual 101, 3) := by decide +kernel
theorem dX11_hand_64 : decode cX11_hand 64 = .ok (.pop, 1) := by decide +kernel
theorem dX11_hand_65 : decode cX11_hand 65 = .ok (.aload_n 0, 1) := by decide +kernel
theorem dX11_hand_66 : decode cX11_hand 66 = .ok (.iload_n 3, 1) := by decide +kernel
theorem dX11_hand_67 : decode cX11_hand 67 = .ok (.invokevirtual 112, 3) := by decide +kernel
theorem dX11_hand_70 : decode cX11_hand 70 = .ok (.ireturn, 1) := by decide +kernel
theorem dX11_form_0 : decode cX11_form 0 = .ok (.iload_n 2, 1) := by decide +kernel
theorem dX11_form_1 : decode cX11_form 1 = .ok (.iconst 0, 1) := by decide +kernel
theorem dX11_form_2 : decode cX11_form 2 = .ok (.iconst 5, 1) := by decide +kernel
theorem dX11_form_3 : decode cX11_form 3 = .ok (.invokestatic 83, 3) := by decide +kernel
theorem dX11_form_6 : decode cX11_form 6 = .ok (.ifCond .eq 13, 3) := by decide +kernel
theorem dX11_form_9 : decode cX11_form 9 = .ok (.iload_n 3, 1) := by decide +kernel
theorem dX11_form_10 : decode cX11_form 10 = .ok (.iconst 0, 1) := by decide +kernel
theorem dX11_form_11 : decode cX11_form 11 = .ok (.bipush 99, 2) := by decide +kernel
theorem dX11_form_13 : decode cX11_form 13 = .ok (.invokestatic 83, 3) := by decide +kernel
theorem dX11_form_16 : decode cX11_form 16 = .ok (.ifCond .ne 9, 3) := by decide +kernel
theorem dX11_form_19 : decode cX11_form 19 = .ok (.aload_n 0, 1) := by decide +kernel
theorem dX11_form_20 : decode cX11_form 20 = .ok (.iconst (-1), 1) := by decide +kernel
theorem dX11_form_21 : decode cX11_form 21 = .ok (.invokevirtual 87, 3) := by decide +kernel
theorem dX11_form_24 : decode cX11_form 24 = .ok (.ireturn, 1) := by decide +kernel
theorem dX11_form_25 : decode cX11_form 25 = .ok (.aload_n 0, 1) := by decide +kernel
theorem dX11_form_26 : decode cX11_form 26 = .ok (.getfield 10, 3) := by decide +kernel
theorem dX11_form_29 : decode cX11_form 29 = .ok (.getfield 125, 3) := by decide +kernel
theorem dX11_form_32 : decode cX11_form 32 = .ok (.iload_n 1, 1) := by decide +kernel
theorem dX11_form_33 : decode cX11_form 33 = .ok (.invokevirtual 108, 3) := by decide +kernel
theorem dX11_form_36 : decode cX11_form 36 = .ok (.ifCond .ne 10, 3) := by decide +kernel
theorem dX11_form_39 : decode cX11_form 39 = .ok (.aload_n 0, 1) := by decide +kernel
theorem dX11_form_40 : decode cX11_form 40 = .ok (.bipush (-2), 2) := by decide +kernel
theorem dX11_form_42 : decode cX11_form 42 = .ok (.invokevirtual 87, 3) := by decide +kernel
theorem dX11_form_45 : decode cX11_form 45 = .ok (.ireturn, 1) := by decide +kernel
theorem dX11_form_46 : decode cX11_form 46 = .ok (.aload_n 0, 1) := by decide +kernel
theorem dX11_form_47 : decode cX11_form 47 = .ok (.aload_n 0, 1) := by decide +kernel
theorem dX11_form_48 : decode cX11_form 48 = .ok (.getfield 10, 3) := by decide +kernel
theorem dX11_form_51 : decode cX11_form 51 = .ok (.getfield 125, 3) := by decide +kernel
theorem dX11_form_54 : decode cX11_form 54 = .ok (.iload_n 1, 1) := by decide +kernel
theorem dX11_form_55 : decode cX11_form 55 = .ok (.iconst 2, 1) := by decide +kernel
theorem dX11_form_56 : decode cX11_form 56 = .ok (.iload_n 2, 1) := by decide +kernel
theorem dX11_form_57 : decode cX11_form 57 = .ok (.iadd, 1) := by decide +kernel
theorem dX11_form_58 : decode cX11_form 58 = .ok (.iload_n 3, 1) := by decide +kernel
theorem dX11_form_59 : decode cX11_form 59 = .ok (.invokevirtual 101, 3) := by decide +kernel
theorem dX11_form_62 : decode cX11_form 62 = .ok (.invokevirtual 112, 3) := by decide +kernel
theorem dX11_form_65 : decode cX11_form 65 = .ok (.ireturn, 1) := by decide +kernel
theorem dX11_sample_0 : decode cX11_sample 0 = .ok (.iload_n 1, 1) := by decide +kernel
theorem dX11_sample_1 : decode cX11_sample 1 = .ok (.iconst 0, 1) := by decide +kernel
theorem dX11_sample_2 : decode cX11_sample 2 = .ok (.bipush 7, 2) := by decide +kernel
theorem dX11_sample_4 : decode cX11_sample 4 = .ok (.invokestatic 83, 3) := by decide +kernel
theorem dX11_sample_7 : decode cX11_sample 7 = .ok (.ifCond .eq 22, 3) := by decide +kernel
theorem dX11_sample_10 : decode cX11_sample 10 = .ok (.iload_n 2, 1) := by decide +kernel
theorem dX11_sample_11 : decode cX11_sample 11 = .ok (.iconst 0, 1) := by decide +kernel
theorem dX11_sample_12 : decode cX11_sample 12 = .ok (.iconst 5, 1) := by decide +kernel
theorem dX11_sample_13 : decode cX11_sample 13 = .ok (.invokestatic 83, 3) := by decide +kernel
theorem dX11_sample_16 : decode cX11_sample 16 = .ok (.ifCond .eq 13, 3) := by decide +kernel
theorem dX11_sample_19 : decode cX11_sample 19 = .ok (.iload_n 3, 1) := by decide +kernel
theorem dX11_sample_20 : decode cX11_sample 20 = .ok (.iconst 0, 1) := by decide +kernel
theorem dX11_sample_21 : decode cX11_sample 21 = .ok (.bipush 99, 2) := by decide +kernel
theorem dX11_sample_23 : decode cX11_sample 23 = .ok (.invokestatic 83, 3) := by decide +kernel
theorem dX11_sample_26 : decode cX11_sample 26 = .ok (.ifCond .ne 9, 3) := by decide +kernel
theorem dX11_sample_29 : decode cX11_sample 29 = .ok (.aload_n 0, 1) := by decide +kernel
theorem dX11_sample_30 : decode cX11_sample 30 = .ok (.iconst (-1), 1) := by decide +kernel
theorem dX11_sample_31 : decode cX11_sample 31 = .ok (.invokevirtual 87, 3) := by decide +kernel
theorem dX11_sample_34 : decode cX11_sample 34 = .ok (.ireturn, 1) := by decide +kernel
theorem dX11_sample_35 : decode cX11_sample 35 = .ok (.aload_n 0, 1) := by decide +kernel
theorem dX11_sample_36 : decode cX11_sample 36 = .ok (.aload_n 0, 1) := by decide +kernel
theorem dX11_sample_37 : decode cX11_sample 37 = .ok (.getfield 10, 3) := by decide +kernel
theorem dX11_sample_40 : decode cX11_sample 40 = .ok (.getfield 128, 3) := by decide +kernel
theorem dX11_sample_43 : decode cX11_sample 43 = .ok (.iload_n 1, 1) := by decide +kernel
theorem dX11_sample_44 : decode cX11_sample 44 = .ok (.iload_n 2, 1) := by decide +kernel
theorem dX11_sample_45 : decode cX11_sample 45 = .ok (.iload_n 3, 1) := by decide +kernel
theorem dX11_sample_46 : decode cX11_sample 46 = .ok (.invokevirtual 101, 3) := by decide +kernel
theorem dX11_sample_49 : decode cX11_sample 49 = .ok (.invokevirtual 112, 3) := by decide +kernel
theorem dX11_sample_52 : decode cX11_sample 52 = .ok (.ireturn, 1) := by decide +kernel
theorem dX11_note_0 : decode cX11_note 0 = .ok (.iload_n 2, 1) := by decide +kernel
theorem dX11_note_1 : decode cX11_note 1 = .ok (.iload_n 3, 1) := by decide +kernel
theorem dX11_note_2 : decode cX11_note 2 = .ok (.iload 5, 2) := by decide +kernel
theorem dX11_note_4 : decode cX11_note 4 = .ok (.invokestatic 131, 3) := by decide +kernel
theorem dX11_note_7 : decode cX11_note 7 = .ok (.ifCond .ne 9, 3) := by decide +kernel
theorem dX11_note_10 : decode cX11_note 10 = .ok (.aload_n 0, 1) := by decide +kernel
theorem dX11_note_11 : decode cX11_note 11 = .ok (.iconst (-1), 1) := by decide +kernel
theorem dX11_note_12 : decode cX11_note 12 = .ok (.invokevirtual 87, 3) := by decide +kernel
theorem dX11_note_15 : decode cX11_note 15 = .ok (.ireturn, 1) := by decide +kernel
theorem dX11_note_16 : decode cX11_note 16 = .ok (.aload_n 0, 1) := by decide +kernel
theorem dX11_note_17 : decode cX11_note 17 = .ok (.getfield 10, 3) := by decide +kernel
theorem dX11_note_20 : decode cX11_note 20 = .ok (.getfield 91, 3) := by decide +kernel
theorem dX11_note_23 : decode cX11_note 23 = .ok (.iload_n 1, 1) := by decide +kernel
theorem dX11_note_24 : decode cX11_note 24 = .ok (.invokevirtual 108, 3) := by decide +kernel
theorem dX11_note_27 : decode cX11_note 27 = .ok (.ifCond .eq 15, 3) := by decide +kernel
theorem dX11_note_30 : decode cX11_note 30 = .ok (.aload_n 0, 1) := by decide +kernel
theorem dX11_note_31 : decode cX11_note 31 = .ok (.getfield 10, 3) := by decide +kernel
theorem dX11_note_34 : decode cX11_note 34 = .ok (.iload 4, 2) := by decide +kernel
theorem dX11_note_36 : decode cX11_note 36 = .ok (.invokevirtual 134, 3) := by decide +kernel
theorem dX11_note_39 : decode cX11_note 39 = .ok (.ifCond .ne 10, 3) := by decide +kernel
theorem dX11_note_42 : decode cX11_note 42 = .ok (.aload_n 0, 1) := by decide +kernel
theorem dX11_note_43 : decode cX11_note 43 = .ok (.bipush (-2), 2) := by decide +kernel
theorem dX11_note_45 : decode cX11_note 45 = .ok (.invokevirtual 87, 3) := by decide +kernel
theorem dX11_note_48 : decode cX11_note 48 = .ok (.ireturn, 1) := by decide +kernel
theorem dX11_note_49 : decode cX11_note 49 = .ok (.aload_n 0, 1) := by decide +kernel
theorem dX11_note_50 : decode cX11_note 50 = .ok (.getfield 10, 3) := by decide +kernel
theorem dX11_note_53 : decode cX11_note 53 = .ok (.iload_n 1, 1) := by decide +kernel
theorem dX11_note_54 : decode cX11_note 54 = .ok (.iload_n 2, 1) := by decide +kernel
theorem dX11_note_55 : decode cX11_note 55 = .ok (.iload_n 3, 1) := by decide +kernel
theorem dX11_note_56 : decode cX11_note 56 = .ok (.iload 5, 2) := by decide +kernel
theorem dX11_note_58 : decode cX11_note 58 = .ok (.invokevirtual 137, 3) := by decide +kernel
theorem dX11_note_61 : decode cX11_note 61 = .ok (.ifCond .eq 10, 3) := by decide +kernel
theorem dX11_note_64 : decode cX11_note 64 = .ok (.aload_n 0, 1) := by decide +kernel
theorem dX11_note_65 : decode cX11_note 65 = .ok (.bipush (-3), 2) := by decide +kernel
theorem dX11_note_67 : decode cX11_note 67 = .ok (.invokevirtual 87, 3) := by decide +kernel
theorem dX11_note_70 : decode cX11_note 70 = .ok (.ireturn, 1) := by decide +kernel
theorem dX11_note_71 : decode cX11_note 71 = .ok (.aload_n 0, 1) := by decide +kernel
theorem dX11_note_72 : decode cX11_note 72 = .ok (.getfield 10, 3) := by decide +kernel
theorem dX11_note_75 : decode cX11_note 75 = .ok (.iload_n 1, 1) := by decide +kernel
theorem dX11_note_76 : decode cX11_note 76 = .ok (.iload_n 2, 1) := by decide +kernel
theorem dX11_note_77 : decode cX11_note 77 = .ok (.iload_n 3, 1) := by decide +kernel
theorem dX11_note_78 : decode cX11_note 78 = .ok (.iload 4, 2) := by decide +kernel
theorem dX11_note_80 : decode cX11_note 80 = .ok (.iload 5, 2) := by decide +kernel
theorem dX11_note_82 : decode cX11_note 82 = .ok (.invokevirtual 141, 3) := by decide +kernel
theorem dX11_note_85 : decode cX11_note 85 = .ok (.istore 6, 2) := by decide +kernel
theorem dX11_note_87 : decode cX11_note 87 = .ok (.iload 6, 2) := by decide +kernel
theorem dX11_note_89 : decode cX11_note 89 = .ok (.iconst (-1), 1) := by decide +kernel
theorem dX11_note_90 : decode cX11_note 90 = .ok (.if_icmp .ne 12, 3) := by decide +kernel
theorem dX11_note_93 : decode cX11_note 93 = .ok (.aload_n 0, 1) := by decide +kernel
theorem dX11_note_94 : decode cX11_note 94 = .ok (.bipush (-5), 2) := by decide +kernel
theorem dX11_note_96 : decode cX11_note 96 = .ok (.invokevirtual 87, 3) := by decide +kernel
theorem dX11_note_99 : decode cX11_note 99 = .ok (.goto 9, 3) := by decide +kernel
theorem dX11_note_102 : decode cX11_note 102 = .ok (.aload_n 0, 1) := by decide +kernel
theorem dX11_note_103 : decode cX11_note 103 = .ok (.iload 6, 2) := by decide +kernel
theorem dX11_note_105 : decode cX11_note 105 = .ok (.invokevirtual 105, 3) := by decide +kernel
theorem dX11_note_108 : decode cX11_note 108 = .ok (.ireturn, 1) := by decide +kernel
theorem dX11_of_0 : decode cX11_of 0 = .ok (.aload_n 0, 1) := by decide +kernel
theorem dX11_of_1 : decode cX11_of 1 = .ok (.getfield 10, 3) := by decide +kernel
theorem dX11_of_4 : decode cX11_of 4 = .ok (.getfield 145, 3) := by decide +kernel
theorem dX11_of_7 : decode cX11_of 7 = .ok (.iload_n 1, 1) := by decide +kernel
theorem dX11_of_8 : decode cX11_of 8 = .ok (.invokevirtual 108, 3) := by decide +kernel
theorem dX11_of_11 : decode cX11_of 11 = .ok (.ifCond .eq 12, 3) := by decide +kernel
theorem dX11_of_14 : decode cX11_of 14 = .ok (.iload_n 2, 1) := by decide +kernel
theorem dX11_of_15 : decode cX11_of 15 = .ok (.iconst 0, 1) := by decide +kernel
theorem dX11_of_16 : decode cX11_of 16 = .ok (.iconst 5, 1) := by decide +kernel
theorem dX11_of_17 : decode cX11_of 17 = .ok (.invokestatic 83, 3) := by decide +kernel
theorem dX11_of_20 : decode cX11_of 20 = .ok (.ifCond .ne 6, 3) := by decide +kernel
theorem dX11_of_23 : decode cX11_of 23 = .ok (.bipush (-2), 2) := by decide +kernel
theorem dX11_of_25 : decode cX11_of 25 = .ok (.ireturn, 1) := by decide +kernel
theorem dX11_of_26 : decode cX11_of 26 = .ok (.iload_n 2, 1) := by decide +kernel
theorem dX11_of_27 : decode cX11_of 27 = .ok (.iconst 5, 1) := by decide +kernel
theorem dX11_of_28 : decode cX11_of 28 = .ok (.if_icmp .ne 18, 3) := by decide +kernel
theorem dX11_of_31 : decode cX11_of 31 = .ok (.aload_n 0, 1) := by decide +kernel
theorem dX11_of_32 : decode cX11_of 32 = .ok (.invokevirtual 148, 3) := by decide +kernel
theorem dX11_of_35 : decode cX11_of 35 = .ok (.aload_n 0, 1) := by decide +kernel
theorem dX11_of_36 : decode cX11_of 36 = .ok (.getfield 10, 3) := by decide +kernel
theorem dX11_of_39 : decode cX11_of 39 = .ok (.iload_n 1, 1) := by decide +kernel
theorem dX11_of_40 : decode cX11_of 40 = .ok (.invokevirtual 152, 3) := by decide +kernel
theorem dX11_of_43 : decode cX11_of 43 = .ok (.goto 15, 3) := by decide +kernel
theorem dX11_of_46 : decode cX11_of 46 = .ok (.aload_n 0, 1) := by decide +kernel
theorem dX11_of_47 : decode cX11_of 47 = .ok (.getfield 10, 3) := by decide +kernel
theorem dX11_of_50 : decode cX11_of 50 = .ok (.getfield 145, 3) := by decide +kernel
theorem dX11_of_53 : decode cX11_of 53 = .ok (.iload_n 1, 1) := by decide +kernel
theorem dX11_of_54 : decode cX11_of 54 = .ok (.iload_n 2, 1) := by decide +kernel
theorem dX11_of_55 : decode cX11_of 55 = .ok (.invokevirtual 156, 3) := by decide +kernel
theorem dX11_of_58 : decode cX11_of 58 = .ok (.ireturn, 1) := by decide +kernel
theorem dX11_terms_0 : decode cX11_terms 0 = .ok (.iload_n 1, 1) := by decide +kernel
theorem dX11_terms_1 : decode cX11_terms 1 = .ok (.iconst 0, 1) := by decide +kernel
theorem dX11_terms_2 : decode cX11_terms 2 = .ok (.iconst 3, 1) := by decide +kernel
theorem dX11_terms_3 : decode cX11_terms 3 = .ok (.invokestatic 83, 3) := by decide +kernel
theorem dX11_terms_6 : decode cX11_terms 6 = .ok (.ifCond .eq 20, 3) := by decide +kernel
theorem dX11_terms_9 : decode cX11_terms 9 = .ok (.iload_n 2, 1) := by decide +kernel
theorem dX11_terms_10 : decode cX11_terms 10 = .ok (.getstatic 160, 3) := by decide +kernel
theorem dX11_terms_13 : decode cX11_terms 13 = .ok (.iload_n 1, 1) := by decide +kernel
theorem dX11_terms_14 : decode cX11_terms 14 = .ok (.iaload, 1) := by decide +kernel
theorem dX11_terms_15 : decode cX11_terms 15 = .ok (.getstatic 163, 3) := by decide +kernel
theorem dX11_terms_18 : decode cX11_terms 18 = .ok (.iload_n 1, 1) := by decide +kernel
theorem dX11_terms_19 : decode cX11_terms 19 = .ok (.iaload, 1) := by decide +kernel
theorem dX11_terms_20 : decode cX11_terms 20 = .ok (.invokestatic 83, 3) := by decide +kernel
theorem dX11_terms_23 : decode cX11_terms 23 = .ok (.ifCond .ne 9, 3) := by decide +kernel
theorem dX11_terms_26 : decode cX11_terms 26 = .ok (.aload_n 0, 1) := by decide +kernel
theorem dX11_terms_27 : decode cX11_terms 27 = .ok (.iconst (-1), 1) := by decide +kernel
theorem dX11_terms_28 : decode cX11_terms 28 = .ok (.invokevirtual 87, 3) := by decide +kernel
theorem dX11_terms_31 : decode cX11_terms 31 = .ok (.ireturn, 1) := by decide +kernel
theorem dX11_terms_32 : decode cX11_terms 32 = .ok (.aload_n 0, 1) := by decide +kernel
theorem dX11_terms_33 : decode cX11_terms 33 = .ok (.getfield 10, 3) := by decide +kernel
theorem dX11_terms_36 : decode cX11_terms 36 = .ok (.getfield 166, 3) := by decide +kernel
theorem dX11_terms_39 : decode cX11_terms 39 = .ok (.iload_n 1, 1) := by decide +kernel
theorem dX11_terms_40 : decode cX11_terms 40 = .ok (.iaload, 1) := by decide +kernel
theorem dX11_terms_41 : decode cX11_terms 41 = .ok (.istore_n 3, 1) := by decide +kernel
theorem dX11_terms_42 : decode cX11_terms 42 = .ok (.aload_n 0, 1) := by decide +kernel
theorem dX11_terms_43 : decode cX11_terms 43 = .ok (.getfield 10, 3) := by decide +kernel
theorem dX11_terms_46 : decode cX11_terms 46 = .ok (.getfield 166, 3) := by decide +kernel
theorem dX11_terms_49 : decode cX11_terms 49 = .ok (.iload_n 1, 1) := by decide +kernel
theorem dX11_terms_50 : decode cX11_terms 50 = .ok (.iload_n 2, 1) := by decide +kernel
theorem dX11_terms_51 : decode cX11_terms 51 = .ok (.iastore, 1) := by decide +kernel
theorem dX11_terms_52 : decode cX11_terms 52 = .ok (.aload_n 0, 1) := by decide +kernel
theorem dX11_terms_53 : decode cX11_terms 53 = .ok (.iload_n 3, 1) := by decide +kernel
theorem dX11_terms_54 : decode cX11_terms 54 = .ok (.invokevirtual 105, 3) := by decide +kernel
theorem dX11_terms_57 : decode cX11_terms 57 = .ok (.ireturn, 1) := by decide +kernel
theorem dX11_feed_0 : decode cX11_feed 0 = .ok (.aload_n 0, 1) := by decide +kernel
theorem dX11_feed_1 : decode cX11_feed 1 = .ok (.getfield 27, 3) := by decide +kernel
theorem dX11_feed_4 : decode cX11_feed 4 = .ok (.bipush 20, 2) := by decide +kernel
theorem dX11_feed_6 : decode cX11_feed 6 = .ok (.invokevirtual 169, 3) := by decide +kernel
theorem dX11_feed_9 : decode cX11_feed 9 = .ok (.ifCond .ne 5, 3) := by decide +kernel
theorem dX11_feed_12 : decode cX11_feed 12 = .ok (.iconst (-1), 1) := by decide +kernel
theorem dX11_feed_13 : decode cX11_feed 13 = .ok (.ireturn, 1) := by decide +kernel
theorem dX11_feed_14 : decode cX11_feed 14 = .ok (.aload_n 0, 1) := by decide +kernel
theorem dX11_feed_15 : decode cX11_feed 15 = .ok (.getfield 27, 3) := by decide +kernel
theorem dX11_feed_18 : decode cX11_feed 18 = .ok (.iload_n 1, 1) := by decide +kernel
theorem dX11_feed_19 : decode cX11_feed 19 = .ok (.invokevirtual 172, 3) := by decide +kernel
theorem dX11_feed_22 : decode cX11_feed 22 = .ok (.aload_n 0, 1) := by decide +kernel
theorem dX11_feed_23 : decode cX11_feed 23 = .ok (.getfield 27, 3) := by decide +kernel
theorem dX11_feed_26 : decode cX11_feed 26 = .ok (.iload_n 2, 1) := by decide +kernel
theorem dX11_feed_27 : decode cX11_feed 27 = .ok (.invokevirtual 172, 3) := by decide +kernel
theorem dX11_feed_30 : decode cX11_feed 30 = .ok (.aload_n 0, 1) := by decide +kernel
theorem dX11_feed_31 : decode cX11_feed 31 = .ok (.getfield 27, 3) := by decide +kernel
theorem dX11_feed_34 : decode cX11_feed 34 = .ok (.iload_n 3, 1) := by decide +kernel
theorem dX11_feed_35 : decode cX11_feed 35 = .ok (.invokevirtual 172, 3) := by decide +kernel
theorem dX11_feed_38 : decode cX11_feed 38 = .ok (.aload_n 0, 1) := by decide +kernel
theorem dX11_feed_39 : decode cX11_feed 39 = .ok (.getfield 27, 3) := by decide +kernel
theorem dX11_feed_42 : decode cX11_feed 42 = .ok (.iload 4, 2) := by decide +kernel
theorem dX11_feed_44 : decode cX11_feed 44 = .ok (.invokevirtual 172, 3) := by decide +kernel
theorem dX11_feed_47 : decode cX11_feed 47 = .ok (.aload_n 0, 1) := by decide +kernel
theorem dX11_feed_48 : decode cX11_feed 48 = .ok (.getfield 27, 3) := by decide +kernel
theorem dX11_feed_51 : decode cX11_feed 51 = .ok (.iload 5, 2) := by decide +kernel
theorem dX11_feed_53 : decode cX11_feed 53 = .ok (.invokevirtual 172, 3) := by decide +kernel
theorem dX11_feed_56 : decode cX11_feed 56 = .ok (.aload_n 0, 1) := by decide +kernel
theorem dX11_feed_57 : decode cX11_feed 57 = .ok (.getfield 27, 3) := by decide +kernel
theorem dX11_feed_60 : decode cX11_feed 60 = .ok (.invokevirtual 176, 3) := by decide +kernel
theorem dX11_feed_63 : decode cX11_feed 63 = .ok (.ireturn, 1) := by decide +kernel
theorem dX11_end_0 : decode cX11_end 0 = .ok (.iload_n 1, 1) := by decide +kernel
theorem dX11_end_1 : decode cX11_end 1 = .ok (.iconst 0, 1) := by decide +kernel
theorem dX11_end_2 : decode cX11_end 2 = .ok (.aload_n 0, 1) := by decide +kernel
theorem dX11_end_3 : decode cX11_end 3 = .ok (.getfield 27, 3) := by decide +kernel
theorem dX11_end_6 : decode cX11_end 6 = .ok (.invokevirtual 176, 3) := by decide +kernel
theorem dX11_end_9 : decode cX11_end 9 = .ok (.invokestatic 83, 3) := by decide +kernel
theorem dX11_end_12 : decode cX11_end 12 = .ok (.ifCond .ne 5, 3) := by decide +kernel
theorem dX11_end_15 : decode cX11_end 15 = .ok (.iconst (-1), 1) := by decide +kernel
theorem dX11_end_16 : decode cX11_end 16 = .ok (.ireturn, 1) := by decide +kernel
theorem dX11_end_17 : decode cX11_end 17 = .ok (.aload_n 0, 1) := by decide +kernel
theorem dX11_end_18 : decode cX11_end 18 = .ok (.getfield 27, 3) := by decide +kernel
theorem dX11_end_21 : decode cX11_end 21 = .ok (.iload_n 1, 1) := by decide +kernel
theorem dX11_end_22 : decode cX11_end 22 = .ok (.invokevirtual 177, 3) := by decide +kernel
theorem dX11_end_25 : decode cX11_end 25 = .ok (.iload_n 1, 1) := by decide +kernel
theorem dX11_end_26 : decode cX11_end 26 = .ok (.ireturn, 1) := by decide +kernel
theorem dX11_row_0 : decode cX11_row 0 = .ok (.aload_n 0, 1) := by decide +kernel
theorem dX11_row_1 : decode cX11_row 1 = .ok (.getfield 10, 3) := by decide +kernel
theorem dX11_row_4 : decode cX11_row 4 = .ok (.getfield 91, 3) := by decide +kernel
theorem dX11_row_7 : decode cX11_row 7 = .ok (.iload_n 1, 1) := by decide +kernel
theorem dX11_row_8 : decode cX11_row 8 = .ok (.invokevirtual 108, 3) := by decide +kernel
theorem dX11_row_11 : decode cX11_row 11 = .ok (.ifCond .ne 10, 3) := by decide +kernel
theorem dX11_row_14 : decode cX11_row 14 = .ok (.aload_n 0, 1) := by decide +kernel
theorem dX11_row_15 : decode cX11_row 15 = .ok (.bipush (-2), 2) := by decide +kernel
theorem dX11_row_17 : decode cX11_row 17 = .ok (.invokevirtual 87, 3) := by decide +kernel
theorem dX11_row_20 : decode cX11_row 20 = .ok (.ireturn, 1) := by decide +kernel
theorem dX11_row_21 : decode cX11_row 21 = .ok (.aload_n 0, 1) := by decide +kernel
theorem dX11_row_22 : decode cX11_row 22 = .ok (.getfield 27, 3) := by decide +kernel
theorem dX11_row_25 : decode cX11_row 25 = .ok (.invokevirtual 176, 3) := by decide +kernel
theorem dX11_row_28 : decode cX11_row 28 = .ok (.istore_n 2, 1) := by decide +kernel
theorem dX11_row_29 : decode cX11_row 29 = .ok (.iload_n 2, 1) := by decide +kernel
theorem dX11_row_30 : decode cX11_row 30 = .ok (.ifCond .ne 10, 3) := by decide +kernel
theorem dX11_row_33 : decode cX11_row 33 = .ok (.aload_n 0, 1) := by decide +kernel
theorem dX11_row_34 : decode cX11_row 34 = .ok (.bipush (-6), 2) := by decide +kernel
theorem dX11_row_36 : decode cX11_row 36 = .ok (.invokevirtual 87, 3) := by decide +kernel
theorem dX11_row_39 : decode cX11_row 39 = .ok (.ireturn, 1) := by decide +kernel
theorem dX11_row_40 : decode cX11_row 40 = .ok (.iconst 0, 1) := by decide +kernel
theorem dX11_row_41 : decode cX11_row 41 = .ok (.istore_n 3, 1) := by decide +kernel
theorem dX11_row_42 : decode cX11_row 42 = .ok (.iconst 0, 1) := by decide +kernel
theorem dX11_row_43 : decode cX11_row 43 = .ok (.istore 4, 2) := by decide +kernel
theorem dX11_row_45 : decode cX11_row 45 = .ok (.iconst 0, 1) := by decide +kernel
theorem dX11_row_46 : decode cX11_row 46 = .ok (.istore 5, 2) := by decide +kernel
theorem dX11_row_48 : decode cX11_row 48 = .ok (.iload 5, 2) := by decide +kernel
theorem dX11_row_50 : decode cX11_row 50 = .ok (.iload_n 2, 1) := by decide +kernel
theorem dX11_row_51 : decode cX11_row 51 = .ok (.if_icmp .ge 36, 3) := by decide +kernel
theorem dX11_row_54 : decode cX11_row 54 = .ok (.iload 5, 2) := by decide +kernel
theorem dX11_row_56 : decode cX11_row 56 = .ok (.iconst 3, 1) := by decide +kernel
theorem dX11_row_57 : decode cX11_row 57 = .ok (.iadd, 1) := by decide +kernel
theorem dX11_row_58 : decode cX11_row 58 = .ok (.iload_n 2, 1) := by decide +kernel
theorem dX11_row_59 : decode cX11_row 59 = .ok (.if_icmp .gt 19, 3) := by decide +kernel
theorem dX11_row_62 : decode cX11_row 62 = .ok (.aload_n 0, 1) := by decide +kernel
theorem dX11_row_63 : decode cX11_row 63 = .ok (.iload_n 1, 1) := by decide +kernel
theorem dX11_row_64 : decode cX11_row 64 = .ok (.iload 5, 2) := by decide +kernel
theorem dX11_row_66 : decode cX11_row 66 = .ok (.invokevirtual 180, 3) := by decide +kernel
theorem dX11_row_69 : decode cX11_row 69 = .ok (.ifCond .eq 9, 3) := by decide +kernel
theorem dX11_row_72 : decode cX11_row 72 = .ok (.iinc 3 1, 3) := by decide +kernel
theorem dX11_row_75 : decode cX11_row 75 = .ok (.goto 6, 3) := by decide +kernel
theorem dX11_row_78 : decode cX11_row 78 = .ok (.iinc 4 1, 3) := by decide +kernel
theorem dX11_row_81 : decode cX11_row 81 = .ok (.iinc 5 3, 3) := by decide +kernel
theorem dX11_row_84 : decode cX11_row 84 = .ok (.goto (-36), 3) := by decide +kernel
theorem dX11_row_87 : decode cX11_row 87 = .ok (.aload_n 0, 1) := by decide +kernel
theorem dX11_row_88 : decode cX11_row 88 = .ok (.getfield 27, 3) := by decide +kernel
theorem dX11_row_91 : decode cX11_row 91 = .ok (.iconst 0, 1) := by decide +kernel
theorem dX11_row_92 : decode cX11_row 92 = .ok (.invokevirtual 177, 3) := by decide +kernel
theorem dX11_row_95 : decode cX11_row 95 = .ok (.aload_n 0, 1) := by decide +kernel
theorem dX11_row_96 : decode cX11_row 96 = .ok (.iload 4, 2) := by decide +kernel
theorem dX11_row_98 : decode cX11_row 98 = .ok (.putfield 183, 3) := by decide +kernel
theorem dX11_row_101 : decode cX11_row 101 = .ok (.aload_n 0, 1) := by decide +kernel
theorem dX11_row_102 : decode cX11_row 102 = .ok (.iload_n 3, 1) := by decide +kernel
theorem dX11_row_103 : decode cX11_row 103 = .ok (.invokevirtual 105, 3) := by decide +kernel
theorem dX11_row_106 : decode cX11_row 106 = .ok (.ireturn, 1) := by decide +kernel
theorem dX11_trimmed_0 : decode cX11_trimmed 0 = .ok (.aload_n 0, 1) := by decide +kernel
theorem dX11_trimmed_1 : decode cX11_trimmed 1 = .ok (.getfield 183, 3) := by decide +kernel
theorem dX11_trimmed_4 : decode cX11_trimmed 4 = .ok (.ireturn, 1) := by decide +kernel
theorem dX11_text_0 : decode cX11_text 0 = .ok (.aload_n 0, 1) := by decide +kernel
theorem dX11_text_1 : decode cX11_text 1 = .ok (.getfield 10, 3) := by decide +kernel
theorem dX11_text_4 : decode cX11_text 4 = .ok (.getfield 186, 3) := by decide +kernel
theorem dX11_text_7 : decode cX11_text 7 = .ok (.bipush 8, 2) := by decide +kernel
theorem dX11_text_9 : decode cX11_text 9 = .ok (.if_icmp .lt 18, 3) := by decide +kernel
theorem dX11_text_12 : decode cX11_text 12 = .ok (.aload_n 0, 1) := by decide +kernel
theorem dX11_text_13 : decode cX11_text 13 = .ok (.getfield 27, 3) := by decide +kernel
theorem dX11_text_16 : decode cX11_text 16 = .ok (.iconst 0, 1) := by decide +kernel
theorem dX11_text_17 : decode cX11_text 17 = .ok (.invokevirtual 177, 3) := by decide +kernel
theorem dX11_text_20 : decode cX11_text 20 = .ok (.aload_n 0, 1) := by decide +kernel
theorem dX11_text_21 : decode cX11_text 21 = .ok (.bipush (-5), 2) := by decide +kernel
theorem dX11_text_23 : decode cX11_text 23 = .ok (.invokevirtual 87, 3) := by decide +kernel
theorem dX11_text_26 : decode cX11_text 26 = .ok (.ireturn, 1) := by decide +kernel
theorem dX11_text_27 : decode cX11_text 27 = .ok (.aload_n 0, 1) := by decide +kernel
theorem dX11_text_28 : decode cX11_text 28 = .ok (.getfield 36, 3) := by decide +kernel
theorem dX11_text_31 : decode cX11_text 31 = .ok (.invokevirtual 189, 3) := by decide +kernel
theorem dX11_text_34 : decode cX11_text 34 = .ok (.astore_n 1, 1) := by decide +kernel
theorem dX11_text_35 : decode cX11_text 35 = .ok (.aload_n 0, 1) := by decide +kernel
theorem dX11_text_36 : decode cX11_text 36 = .ok (.aload_n 0, 1) := by decide +kernel
theorem dX11_text_37 : decode cX11_text 37 = .ok (.getfield 36, 3) := by decide +kernel
theorem dX11_text_40 : decode cX11_text 40 = .ok (.invokevirtual 193, 3) := by decide +kernel
theorem dX11_text_43 : decode cX11_text 43 = .ok (.putfield 79, 3) := by decide +kernel
theorem dX11_text_46 : decode cX11_text 46 = .ok (.aload_n 0, 1) := by decide +kernel
theorem dX11_text_47 : decode cX11_text 47 = .ok (.getfield 27, 3) := by decide +kernel
theorem dX11_text_50 : decode cX11_text 50 = .ok (.iconst 0, 1) := by decide +kernel
theorem dX11_text_51 : decode cX11_text 51 = .ok (.invokevirtual 177, 3) := by decide +kernel
theorem dX11_text_54 : decode cX11_text 54 = .ok (.aload_n 1, 1) := by decide +kernel
theorem dX11_text_55 : decode cX11_text 55 = .ok (.ifnonnull 10, 3) := by decide +kernel
theorem dX11_text_58 : decode cX11_text 58 = .ok (.aload_n 0, 1) := by decide +kernel
theorem dX11_text_59 : decode cX11_text 59 = .ok (.bipush (-6), 2) := by decide +kernel
theorem dX11_text_61 : decode cX11_text 61 = .ok (.invokevirtual 87, 3) := by decide +kernel
theorem dX11_text_64 : decode cX11_text 64 = .ok (.ireturn, 1) := by decide +kernel
theorem dX11_text_65 : decode cX11_text 65 = .ok (.aload_n 0, 1) := by decide +kernel
theorem dX11_text_66 : decode cX11_text 66 = .ok (.aload_n 0, 1) := by decide +kernel
theorem dX11_text_67 : decode cX11_text 67 = .ok (.getfield 10, 3) := by decide +kernel
theorem dX11_text_70 : decode cX11_text 70 = .ok (.aload_n 1, 1) := by decide +kernel
theorem dX11_text_71 : decode cX11_text 71 = .ok (.invokevirtual 196, 3) := by decide +kernel
theorem dX11_text_74 : decode cX11_text 74 = .ok (.invokevirtual 112, 3) := by decide +kernel
theorem dX11_text_77 : decode cX11_text 77 = .ok (.ireturn, 1) := by decide +kernel
theorem dX11_fault_0 : decode cX11_fault 0 = .ok (.aload_n 0, 1) := by decide +kernel
theorem dX11_fault_1 : decode cX11_fault 1 = .ok (.getfield 79, 3) := by decide +kernel
theorem dX11_fault_4 : decode cX11_fault 4 = .ok (.ireturn, 1) := by decide +kernel
theorem dX11_use_0 : decode cX11_use 0 = .ok (.iload_n 1, 1) := by decide +kernel
theorem dX11_use_1 : decode cX11_use 1 = .ok (.iconst (-1), 1) := by decide +kernel
theorem dX11_use_2 : decode cX11_use 2 = .ok (.if_icmp .eq 21, 3) := by decide +kernel
theorem dX11_use_5 : decode cX11_use 5 = .ok (.aload_n 0, 1) := by decide +kernel
theorem dX11_use_6 : decode cX11_use 6 = .ok (.getfield 10, 3) := by decide +kernel
theorem dX11_use_9 : decode cX11_use 9 = .ok (.iload_n 1, 1) := by decide +kernel
theorem dX11_use_10 : decode cX11_use 10 = .ok (.invokevirtual 200, 3) := by decide +kernel
theorem dX11_use_13 : decode cX11_use 13 = .ok (.ifnonnull 10, 3) := by decide +kernel
theorem dX11_use_16 : decode cX11_use 16 = .ok (.aload_n 0, 1) := by decide +kernel
theorem dX11_use_17 : decode cX11_use 17 = .ok (.bipush (-3), 2) := by decide +kernel
theorem dX11_use_19 : decode cX11_use 19 = .ok (.invokevirtual 87, 3) := by decide +kernel
theorem dX11_use_22 : decode cX11_use 22 = .ok (.ireturn, 1) := by decide +kernel
theorem dX11_use_23 : decode cX11_use 23 = .ok (.aload_n 0, 1) := by decide +kernel
theorem dX11_use_24 : decode cX11_use 24 = .ok (.getfield 10, 3) := by decide +kernel
theorem dX11_use_27 : decode cX11_use 27 = .ok (.getfield 204, 3) := by decide +kernel
theorem dX11_use_30 : decode cX11_use 30 = .ok (.istore_n 2, 1) := by decide +kernel
theorem dX11_use_31 : decode cX11_use 31 = .ok (.aload_n 0, 1) := by decide +kernel
theorem dX11_use_32 : decode cX11_use 32 = .ok (.getfield 10, 3) := by decide +kernel
theorem dX11_use_35 : decode cX11_use 35 = .ok (.iload_n 1, 1) := by decide +kernel
theorem dX11_use_36 : decode cX11_use 36 = .ok (.putfield 204, 3) := by decide +kernel
theorem dX11_use_39 : decode cX11_use 39 = .ok (.aload_n 0, 1) := by decide +kernel
theorem dX11_use_40 : decode cX11_use 40 = .ok (.iload_n 2, 1) := by decide +kernel
theorem dX11_use_41 : decode cX11_use 41 = .ok (.invokevirtual 105, 3) := by decide +kernel
theorem dX11_use_44 : decode cX11_use 44 = .ok (.ireturn, 1) := by decide +kernel
theorem dX11_weight_0 : decode cX11_weight 0 = .ok (.iload_n 1, 1) := by decide +kernel
theorem dX11_weight_1 : decode cX11_weight 1 = .ok (.iconst 0, 1) := by decide +kernel
theorem dX11_weight_2 : decode cX11_weight 2 = .ok (.bipush 59, 2) := by decide +kernel
theorem dX11_weight_4 : decode cX11_weight 4 = .ok (.invokestatic 83, 3) := by decide +kernel
theorem dX11_weight_7 : decode cX11_weight 7 = .ok (.ifCond .eq 13, 3) := by decide +kernel
theorem dX11_weight_10 : decode cX11_weight 10 = .ok (.iload_n 2, 1) := by decide +kernel
theorem dX11_weight_11 : decode cX11_weight 11 = .ok (.iconst 0, 1) := by decide +kernel
theorem dX11_weight_12 : decode cX11_weight 12 = .ok (.bipush 99, 2) := by decide +kernel
theorem dX11_weight_14 : decode cX11_weight 14 = .ok (.invokestatic 83, 3) := by decide +kernel
theorem dX11_weight_17 : decode cX11_weight 17 = .ok (.ifCond .ne 5, 3) := by decide +kernel
theorem dX11_weight_20 : decode cX11_weight 20 = .ok (.iconst (-1), 1) := by decide +kernel
theorem dX11_weight_21 : decode cX11_weight 21 = .ok (.ireturn, 1) := by decide +kernel
theorem dX11_weight_22 : decode cX11_weight 22 = .ok (.aload_n 0, 1) := by decide +kernel
theorem dX11_weight_23 : decode cX11_weight 23 = .ok (.invokevirtual 148, 3) := by decide +kernel
theorem dX11_weight_26 : decode cX11_weight 26 = .ok (.iload_n 1, 1) := by decide +kernel
theorem dX11_weight_27 : decode cX11_weight 27 = .ok (.iload_n 2, 1) := by decide +kernel
theorem dX11_weight_28 : decode cX11_weight 28 = .ok (.invokevirtual 207, 3) := by decide +kernel
theorem dX11_weight_31 : decode cX11_weight 31 = .ok (.invokestatic 210, 3) := by decide +kernel
theorem dX11_weight_34 : decode cX11_weight 34 = .ok (.istore_n 3, 1) := by decide +kernel
theorem dX11_weight_35 : decode cX11_weight 35 = .ok (.aload_n 0, 1) := by decide +kernel
theorem dX11_weight_36 : decode cX11_weight 36 = .ok (.getfield 43, 3) := by decide +kernel
theorem dX11_weight_39 : decode cX11_weight 39 = .ok (.iload_n 1, 1) := by decide +kernel
theorem dX11_weight_40 : decode cX11_weight 40 = .ok (.iload_n 2, 1) := by decide +kernel
theorem dX11_weight_41 : decode cX11_weight 41 = .ok (.iload_n 3, 1) := by decide +kernel
theorem dX11_weight_42 : decode cX11_weight 42 = .ok (.invokevirtual 215, 3) := by decide +kernel
theorem dX11_weight_45 : decode cX11_weight 45 = .ok (.aload_n 0, 1) := by decide +kernel
theorem dX11_weight_46 : decode cX11_weight 46 = .ok (.getfield 43, 3) := by decide +kernel
theorem dX11_weight_49 : decode cX11_weight 49 = .ok (.aload_n 0, 1) := by decide +kernel
theorem dX11_weight_50 : decode cX11_weight 50 = .ok (.getfield 10, 3) := by decide +kernel
theorem dX11_weight_53 : decode cX11_weight 53 = .ok (.invokevirtual 219, 3) := by decide +kernel
theorem dX11_weight_56 : decode cX11_weight 56 = .ok (.iconst 0, 1) := by decide +kernel
theorem dX11_weight_57 : decode cX11_weight 57 = .ok (.bipush 10, 2) := by decide +kernel
theorem dX11_weight_59 : decode cX11_weight 59 = .ok (.invokevirtual 222, 3) := by decide +kernel
theorem dX11_weight_62 : decode cX11_weight 62 = .ok (.ireturn, 1) := by decide +kernel
theorem dX11_may_0 : decode cX11_may 0 = .ok (.aload_n 0, 1) := by decide +kernel
theorem dX11_may_1 : decode cX11_may 1 = .ok (.iload_n 1, 1) := by decide +kernel
theorem dX11_may_2 : decode cX11_may 2 = .ok (.iload_n 2, 1) := by decide +kernel
theorem dX11_may_3 : decode cX11_may 3 = .ok (.invokevirtual 226, 3) := by decide +kernel
theorem dX11_may_6 : decode cX11_may 6 = .ok (.ifCond .ne 5, 3) := by decide +kernel
theorem dX11_may_9 : decode cX11_may 9 = .ok (.iconst (-1), 1) := by decide +kernel
theorem dX11_may_10 : decode cX11_may 10 = .ok (.ireturn, 1) := by decide +kernel
theorem dX11_may_11 : decode cX11_may 11 = .ok (.aload_n 0, 1) := by decide +kernel
theorem dX11_may_12 : decode cX11_may 12 = .ok (.getfield 10, 3) := by decide +kernel
theorem dX11_may_15 : decode cX11_may 15 = .ok (.iload_n 2, 1) := by decide +kernel
theorem dX11_may_16 : decode cX11_may 16 = .ok (.invokevirtual 229, 3) := by decide +kernel
theorem dX11_may_19 : decode cX11_may 19 = .ok (.iload_n 1, 1) := by decide +kernel
theorem dX11_may_20 : decode cX11_may 20 = .ok (.ishr, 1) := by decide +kernel
theorem dX11_may_21 : decode cX11_may 21 = .ok (.iconst 1, 1) := by decide +kernel
theorem dX11_may_22 : decode cX11_may 22 = .ok (.iand, 1) := by decide +kernel
theorem dX11_may_23 : decode cX11_may 23 = .ok (.ireturn, 1) := by decide +kernel
theorem dX11_cost_0 : decode cX11_cost 0 = .ok (.iload_n 1, 1) := by decide +kernel
theorem dX11_cost_1 : decode cX11_cost 1 = .ok (.iconst (-1), 1) := by decide +kernel
theorem dX11_cost_2 : decode cX11_cost 2 = .ok (.if_icmp .ne 34, 3) := by decide +kernel
theorem dX11_cost_5 : decode cX11_cost 5 = .ok (.aload_n 0, 1) := by decide +kernel
theorem dX11_cost_6 : decode cX11_cost 6 = .ok (.getfield 10, 3) := by decide +kernel
theorem dX11_cost_9 : decode cX11_cost 9 = .ok (.getfield 91, 3) := by decide +kernel
theorem dX11_cost_12 : decode cX11_cost 12 = .ok (.iload_n 2, 1) := by decide +kernel
theorem dX11_cost_13 : decode cX11_cost 13 = .ok (.invokevirtual 108, 3) := by decide +kernel
theorem dX11_cost_16 : decode cX11_cost 16 = .ok (.ifCond .eq 18, 3) := by decide +kernel
theorem dX11_cost_19 : decode cX11_cost 19 = .ok (.aload_n 0, 1) := by decide +kernel
theorem dX11_cost_20 : decode cX11_cost 20 = .ok (.invokevirtual 148, 3) := by decide +kernel
theorem dX11_cost_23 : decode cX11_cost 23 = .ok (.aload_n 0, 1) := by decide +kernel
theorem dX11_cost_24 : decode cX11_cost 24 = .ok (.getfield 10, 3) := by decide +kernel
theorem dX11_cost_27 : decode cX11_cost 27 = .ok (.iload_n 2, 1) := by decide +kernel
theorem dX11_cost_28 : decode cX11_cost 28 = .ok (.invokevirtual 232, 3) := by decide +kernel
theorem dX11_cost_31 : decode cX11_cost 31 = .ok (.goto 4, 3) := by decide +kernel
theorem dX11_cost_34 : decode cX11_cost 34 = .ok (.iconst (-1), 1) := by decide +kernel
theorem dX11_cost_35 : decode cX11_cost 35 = .ok (.ireturn, 1) := by decide +kernel
theorem dX11_cost_36 : decode cX11_cost 36 = .ok (.aload_n 0, 1) := by decide +kernel
theorem dX11_cost_37 : decode cX11_cost 37 = .ok (.iload_n 1, 1) := by decide +kernel
theorem dX11_cost_38 : decode cX11_cost 38 = .ok (.iload_n 2, 1) := by decide +kernel
theorem dX11_cost_39 : decode cX11_cost 39 = .ok (.invokevirtual 226, 3) := by decide +kernel
theorem dX11_cost_42 : decode cX11_cost 42 = .ok (.ifCond .ne 5, 3) := by decide +kernel
theorem dX11_cost_45 : decode cX11_cost 45 = .ok (.iconst (-1), 1) := by decide +kernel
theorem dX11_cost_46 : decode cX11_cost 46 = .ok (.ireturn, 1) := by decide +kernel
theorem dX11_cost_47 : decode cX11_cost 47 = .ok (.aload_n 0, 1) := by decide +kernel
theorem dX11_cost_48 : decode cX11_cost 48 = .ok (.invokevirtual 148, 3) := by decide +kernel
theorem dX11_cost_51 : decode cX11_cost 51 = .ok (.aload_n 0, 1) := by decide +kernel
theorem dX11_cost_52 : decode cX11_cost 52 = .ok (.getfield 10, 3) := by decide +kernel
theorem dX11_cost_55 : decode cX11_cost 55 = .ok (.iconst 1, 1) := by decide +kernel
theorem dX11_cost_56 : decode cX11_cost 56 = .ok (.iload_n 1, 1) := by decide +kernel
theorem dX11_cost_57 : decode cX11_cost 57 = .ok (.ishl, 1) := by decide +kernel
theorem dX11_cost_58 : decode cX11_cost 58 = .ok (.iload_n 2, 1) := by decide +kernel
theorem dX11_cost_59 : decode cX11_cost 59 = .ok (.invokevirtual 235, 3) := by decide +kernel
theorem dX11_cost_62 : decode cX11_cost 62 = .ok (.ireturn, 1) := by decide +kernel
theorem dX11_tree_0 : decode cX11_tree 0 = .ok (.aload_n 0, 1) := by decide +kernel
theorem dX11_tree_1 : decode cX11_tree 1 = .ok (.invokevirtual 239, 3) := by decide +kernel
theorem dX11_tree_4 : decode cX11_tree 4 = .ok (.invokevirtual 243, 3) := by decide +kernel
theorem dX11_tree_7 : decode cX11_tree 7 = .ok (.ireturn, 1) := by decide +kernel
theorem dX11_whose_0 : decode cX11_whose 0 = .ok (.aload_n 0, 1) := by decide +kernel
theorem dX11_whose_1 : decode cX11_whose 1 = .ok (.getfield 10, 3) := by decide +kernel
theorem dX11_whose_4 : decode cX11_whose 4 = .ok (.getfield 91, 3) := by decide +kernel
theorem dX11_whose_7 : decode cX11_whose 7 = .ok (.iload_n 1, 1) := by decide +kernel
theorem dX11_whose_8 : decode cX11_whose 8 = .ok (.invokevirtual 108, 3) := by decide +kernel
theorem dX11_whose_11 : decode cX11_whose 11 = .ok (.ifCond .ne 5, 3) := by decide +kernel
theorem dX11_whose_14 : decode cX11_whose 14 = .ok (.iconst (-1), 1) := by decide +kernel
theorem dX11_whose_15 : decode cX11_whose 15 = .ok (.ireturn, 1) := by decide +kernel
theorem dX11_whose_16 : decode cX11_whose 16 = .ok (.aload_n 0, 1) := by decide +kernel
theorem dX11_whose_17 : decode cX11_whose 17 = .ok (.invokevirtual 239, 3) := by decide +kernel
theorem dX11_whose_20 : decode cX11_whose 20 = .ok (.iload_n 1, 1) := by decide +kernel
theorem dX11_whose_21 : decode cX11_whose 21 = .ok (.invokevirtual 246, 3) := by decide +kernel
theorem dX11_whose_24 : decode cX11_whose 24 = .ok (.istore_n 2, 1) := by decide +kernel
theorem dX11_whose_25 : decode cX11_whose 25 = .ok (.iload_n 2, 1) := by decide +kernel
theorem dX11_whose_26 : decode cX11_whose 26 = .ok (.iconst (-1), 1) := by decide +kernel
theorem dX11_whose_27 : decode cX11_whose 27 = .ok (.if_icmp .ne 8, 3) := by decide +kernel
theorem dX11_whose_30 : decode cX11_whose 30 = .ok (.bipush 100, 2) := by decide +kernel
theorem dX11_whose_32 : decode cX11_whose 32 = .ok (.goto 4, 3) := by decide +kernel
theorem dX11_whose_35 : decode cX11_whose 35 = .ok (.iload_n 2, 1) := by decide +kernel
theorem dX11_whose_36 : decode cX11_whose 36 = .ok (.ireturn, 1) := by decide +kernel
theorem dX11_sure_0 : decode cX11_sure 0 = .ok (.aload_n 0, 1) := by decide +kernel
theorem dX11_sure_1 : decode cX11_sure 1 = .ok (.getfield 10, 3) := by decide +kernel
theorem dX11_sure_4 : decode cX11_sure 4 = .ok (.getfield 91, 3) := by decide +kernel
theorem dX11_sure_7 : decode cX11_sure 7 = .ok (.iload_n 1, 1) := by decide +kernel
theorem dX11_sure_8 : decode cX11_sure 8 = .ok (.invokevirtual 108, 3) := by decide +kernel
theorem dX11_sure_11 : decode cX11_sure 11 = .ok (.ifCond .ne 5, 3) := by decide +kernel
theorem dX11_sure_14 : decode cX11_sure 14 = .ok (.iconst (-1), 1) := by decide +kernel
theorem dX11_sure_15 : decode cX11_sure 15 = .ok (.ireturn, 1) := by decide +kernel
theorem dX11_sure_16 : decode cX11_sure 16 = .ok (.aload_n 0, 1) := by decide +kernel
theorem dX11_sure_17 : decode cX11_sure 17 = .ok (.invokevirtual 239, 3) := by decide +kernel
theorem dX11_sure_20 : decode cX11_sure 20 = .ok (.iload_n 1, 1) := by decide +kernel
theorem dX11_sure_21 : decode cX11_sure 21 = .ok (.invokevirtual 249, 3) := by decide +kernel
theorem dX11_sure_24 : decode cX11_sure 24 = .ok (.ifCond .eq 7, 3) := by decide +kernel
theorem dX11_sure_27 : decode cX11_sure 27 = .ok (.iconst 1, 1) := by decide +kernel
theorem dX11_sure_28 : decode cX11_sure 28 = .ok (.goto 4, 3) := by decide +kernel
theorem dX11_sure_31 : decode cX11_sure 31 = .ok (.iconst 0, 1) := by decide +kernel
theorem dX11_sure_32 : decode cX11_sure 32 = .ok (.ireturn, 1) := by decide +kernel
theorem dX11_come_0 : decode cX11_come 0 = .ok (.aload_n 0, 1) := by decide +kernel
theorem dX11_come_1 : decode cX11_come 1 = .ok (.getfield 10, 3) := by decide +kernel
theorem dX11_come_4 : decode cX11_come 4 = .ok (.getfield 91, 3) := by decide +kernel
theorem dX11_come_7 : decode cX11_come 7 = .ok (.iload_n 1, 1) := by decide +kernel
theorem dX11_come_8 : decode cX11_come 8 = .ok (.invokevirtual 108, 3) := by decide +kernel
theorem dX11_come_11 : decode cX11_come 11 = .ok (.ifCond .eq 12, 3) := by decide +kernel
theorem dX11_come_14 : decode cX11_come 14 = .ok (.iload_n 2, 1) := by decide +kernel
theorem dX11_come_15 : decode cX11_come 15 = .ok (.iconst 0, 1) := by decide +kernel
theorem dX11_come_16 : decode cX11_come 16 = .ok (.iconst 2, 1) := by decide +kernel
theorem dX11_come_17 : decode cX11_come 17 = .ok (.invokestatic 83, 3) := by decide +kernel
theorem dX11_come_20 : decode cX11_come 20 = .ok (.ifCond .ne 5, 3) := by decide +kernel
theorem dX11_come_23 : decode cX11_come 23 = .ok (.iconst (-1), 1) := by decide +kernel
theorem dX11_come_24 : decode cX11_come 24 = .ok (.ireturn, 1) := by decide +kernel
theorem dX11_come_25 : decode cX11_come 25 = .ok (.aload_n 0, 1) := by decide +kernel
theorem dX11_come_26 : decode cX11_come 26 = .ok (.invokevirtual 239, 3) := by decide +kernel
theorem dX11_come_29 : decode cX11_come 29 = .ok (.astore_n 3, 1) := by decide +kernel
theorem dX11_come_30 : decode cX11_come 30 = .ok (.iload_n 2, 1) := by decide +kernel
theorem dX11_come_31 : decode cX11_come 31 = .ok (.iconst 2, 1) := by decide +kernel
theorem dX11_come_32 : decode cX11_come 32 = .ok (.if_icmp .ne 9, 3) := by decide +kernel
theorem dX11_come_35 : decode cX11_come 35 = .ok (.aload_n 3, 1) := by decide +kernel
theorem dX11_come_36 : decode cX11_come 36 = .ok (.iload_n 1, 1) := by decide +kernel
theorem dX11_come_37 : decode cX11_come 37 = .ok (.invokevirtual 252, 3) := by decide +kernel
theorem dX11_come_40 : decode cX11_come 40 = .ok (.ireturn, 1) := by decide +kernel
theorem dX11_come_41 : decode cX11_come 41 = .ok (.iconst 0, 1) := by decide +kernel
theorem dX11_come_42 : decode cX11_come 42 = .ok (.istore 4, 2) := by decide +kernel
theorem dX11_come_44 : decode cX11_come 44 = .ok (.iconst 0, 1) := by decide +kernel
theorem dX11_come_45 : decode cX11_come 45 = .ok (.istore 5, 2) := by decide +kernel
theorem dX11_come_47 : decode cX11_come 47 = .ok (.iload 5, 2) := by decide +kernel
theorem dX11_come_49 : decode cX11_come 49 = .ok (.aload_n 0, 1) := by decide +kernel
theorem dX11_come_50 : decode cX11_come 50 = .ok (.getfield 10, 3) := by decide +kernel
theorem dX11_come_53 : decode cX11_come 53 = .ok (.getfield 91, 3) := by decide +kernel
theorem dX11_come_56 : decode cX11_come 56 = .ok (.invokevirtual 122, 3) := by decide +kernel
theorem dX11_come_59 : decode cX11_come 59 = .ok (.if_icmp .ge 55, 3) := by decide +kernel
theorem dX11_come_62 : decode cX11_come 62 = .ok (.iload_n 2, 1) := by decide +kernel
theorem dX11_come_63 : decode cX11_come 63 = .ok (.ifCond .ne 13, 3) := by decide +kernel
theorem dX11_come_66 : decode cX11_come 66 = .ok (.aload_n 3, 1) := by decide +kernel
theorem dX11_come_67 : decode cX11_come 67 = .ok (.iload 5, 2) := by decide +kernel
theorem dX11_come_69 : decode cX11_come 69 = .ok (.iload_n 1, 1) := by decide +kernel
theorem dX11_come_70 : decode cX11_come 70 = .ok (.invokevirtual 255, 3) := by decide +kernel
theorem dX11_come_73 : decode cX11_come 73 = .ok (.goto 18, 3) := by decide +kernel
theorem dX11_come_76 : decode cX11_come 76 = .ok (.aload_n 3, 1) := by decide +kernel
theorem dX11_come_77 : decode cX11_come 77 = .ok (.iload 5, 2) := by decide +kernel
theorem dX11_come_79 : decode cX11_come 79 = .ok (.invokevirtual 246, 3) := by decide +kernel
theorem dX11_come_82 : decode cX11_come 82 = .ok (.iload_n 1, 1) := by decide +kernel
theorem dX11_come_83 : decode cX11_come 83 = .ok (.if_icmp .ne 7, 3) := by decide +kernel
theorem dX11_come_86 : decode cX11_come 86 = .ok (.iconst 1, 1) := by decide +kernel
theorem dX11_come_87 : decode cX11_come 87 = .ok (.goto 4, 3) := by decide +kernel
theorem dX11_come_90 : decode cX11_come 90 = .ok (.iconst 0, 1) := by decide +kernel
theorem dX11_come_91 : decode cX11_come 91 = .ok (.istore 6, 2) := by decide +kernel
theorem dX11_come_93 : decode cX11_come 93 = .ok (.iload 4, 2) := by decide +kernel
theorem dX11_come_95 : decode cX11_come 95 = .ok (.iload 6, 2) := by decide +kernel
theorem dX11_come_97 : decode cX11_come 97 = .ok (.ifCond .eq 7, 3) := by decide +kernel
theorem dX11_come_100 : decode cX11_come 100 = .ok (.iconst 1, 1) := by decide +kernel
theorem dX11_come_101 : decode cX11_come 101 = .ok (.goto 4, 3) := by decide +kernel
theorem dX11_come_104 : decode cX11_come 104 = .ok (.iconst 0, 1) := by decide +kernel
theorem dX11_come_105 : decode cX11_come 105 = .ok (.iadd, 1) := by decide +kernel
theorem dX11_come_106 : decode cX11_come 106 = .ok (.istore 4, 2) := by decide +kernel
theorem dX11_come_108 : decode cX11_come 108 = .ok (.iinc 5 1, 3) := by decide +kernel
theorem dX11_come_111 : decode cX11_come 111 = .ok (.goto (-64), 3) := by decide +kernel
theorem dX11_come_114 : decode cX11_come 114 = .ok (.iload 4, 2) := by decide +kernel
theorem dX11_come_116 : decode cX11_come 116 = .ok (.ireturn, 1) := by decide +kernel
theorem dX11_net_0 : decode cX11_net 0 = .ok (.aload_n 0, 1) := by decide +kernel
theorem dX11_net_1 : decode cX11_net 1 = .ok (.getfield 10, 3) := by decide +kernel
theorem dX11_net_4 : decode cX11_net 4 = .ok (.getfield 91, 3) := by decide +kernel
theorem dX11_net_7 : decode cX11_net 7 = .ok (.iload_n 1, 1) := by decide +kernel
theorem dX11_net_8 : decode cX11_net 8 = .ok (.invokevirtual 108, 3) := by decide +kernel
theorem dX11_net_11 : decode cX11_net 11 = .ok (.ifCond .eq 12, 3) := by decide +kernel
theorem dX11_net_14 : decode cX11_net 14 = .ok (.iload_n 2, 1) := by decide +kernel
theorem dX11_net_15 : decode cX11_net 15 = .ok (.iconst 0, 1) := by decide +kernel
theorem dX11_net_16 : decode cX11_net 16 = .ok (.iconst 3, 1) := by decide +kernel
theorem dX11_net_17 : decode cX11_net 17 = .ok (.invokestatic 83, 3) := by decide +kernel
theorem dX11_net_20 : decode cX11_net 20 = .ok (.ifCond .ne 7, 3) := by decide +kernel
theorem dX11_net_23 : decode cX11_net 23 = .ok (.ldc_w 258, 3) := by decide +kernel
theorem dX11_net_26 : decode cX11_net 26 = .ok (.ireturn, 1) := by decide +kernel
theorem dX11_net_27 : decode cX11_net 27 = .ok (.aload_n 0, 1) := by decide +kernel
theorem dX11_net_28 : decode cX11_net 28 = .ok (.invokevirtual 148, 3) := by decide +kernel
theorem dX11_net_31 : decode cX11_net 31 = .ok (.astore_n 3, 1) := by decide +kernel
theorem dX11_net_32 : decode cX11_net 32 = .ok (.aload_n 3, 1) := by decide +kernel
theorem dX11_net_33 : decode cX11_net 33 = .ok (.aload_n 0, 1) := by decide +kernel
theorem dX11_net_34 : decode cX11_net 34 = .ok (.getfield 10, 3) := by decide +kernel
theorem dX11_net_37 : decode cX11_net 37 = .ok (.iload_n 1, 1) := by decide +kernel
theorem dX11_net_38 : decode cX11_net 38 = .ok (.invokevirtual 259, 3) := by decide +kernel
theorem dX11_net_41 : decode cX11_net 41 = .ok (.istore 4, 2) := by decide +kernel
theorem dX11_net_43 : decode cX11_net 43 = .ok (.iload 4, 2) := by decide +kernel
theorem dX11_net_45 : decode cX11_net 45 = .ok (.ifCond .ne 7, 3) := by decide +kernel
theorem dX11_net_48 : decode cX11_net 48 = .ok (.ldc_w 258, 3) := by decide +kernel
theorem dX11_net_51 : decode cX11_net 51 = .ok (.ireturn, 1) := by decide +kernel
theorem dX11_net_52 : decode cX11_net 52 = .ok (.iload_n 2, 1) := by decide +kernel
theorem dX11_net_53 : decode cX11_net 53 = .ok (.ifCond .ne 9, 3) := by decide +kernel
theorem dX11_net_56 : decode cX11_net 56 = .ok (.iload 4, 2) := by decide +kernel
theorem dX11_net_58 : decode cX11_net 58 = .ok (.invokestatic 262, 3) := by decide +kernel
theorem dX11_net_61 : decode cX11_net 61 = .ok (.ireturn, 1) := by decide +kernel
theorem dX11_net_62 : decode cX11_net 62 = .ok (.iload_n 2, 1) := by decide +kernel
theorem dX11_net_63 : decode cX11_net 63 = .ok (.iconst 1, 1) := by decide +kernel
theorem dX11_net_64 : decode cX11_net 64 = .ok (.if_icmp .ne 12, 3) := by decide +kernel
theorem dX11_net_67 : decode cX11_net 67 = .ok (.bipush 31, 2) := by decide +kernel
theorem dX11_net_69 : decode cX11_net 69 = .ok (.iload 4, 2) := by decide +kernel
theorem dX11_net_71 : decode cX11_net 71 = .ok (.invokestatic 265, 3) := by decide +kernel
theorem dX11_net_74 : decode cX11_net 74 = .ok (.isub, 1) := by decide +kernel
theorem dX11_net_75 : decode cX11_net 75 = .ok (.ireturn, 1) := by decide +kernel
theorem dX11_net_76 : decode cX11_net 76 = .ok (.aload_n 3, 1) := by decide +kernel
theorem dX11_net_77 : decode cX11_net 77 = .ok (.aload_n 0, 1) := by decide +kernel
theorem dX11_net_78 : decode cX11_net 78 = .ok (.getfield 10, 3) := by decide +kernel
theorem dX11_net_81 : decode cX11_net 81 = .ok (.iload 4, 2) := by decide +kernel
theorem dX11_net_83 : decode cX11_net 83 = .ok (.iload_n 1, 1) := by decide +kernel
theorem dX11_net_84 : decode cX11_net 84 = .ok (.invokevirtual 235, 3) := by decide +kernel
theorem dX11_net_87 : decode cX11_net 87 = .ok (.istore 5, 2) := by decide +kernel
theorem dX11_net_89 : decode cX11_net 89 = .ok (.iload_n 2, 1) := by decide +kernel
theorem dX11_net_90 : decode cX11_net 90 = .ok (.iconst 2, 1) := by decide +kernel
theorem dX11_net_91 : decode cX11_net 91 = .ok (.if_icmp .ne 8, 3) := by decide +kernel
theorem dX11_net_94 : decode cX11_net 94 = .ok (.iload 5, 2) := by decide +kernel
theorem dX11_net_96 : decode cX11_net 96 = .ok (.goto 15, 3) := by decide +kernel
theorem dX11_net_99 : decode cX11_net 99 = .ok (.aload_n 3, 1) := by decide +kernel
theorem dX11_net_100 : decode cX11_net 100 = .ok (.aload_n 0, 1) := by decide +kernel
theorem dX11_net_101 : decode cX11_net 101 = .ok (.getfield 10, 3) := by decide +kernel
theorem dX11_net_104 : decode cX11_net 104 = .ok (.iload_n 1, 1) := by decide +kernel
theorem dX11_net_105 : decode cX11_net 105 = .ok (.invokevirtual 268, 3) := by decide +kernel
theorem dX11_net_108 : decode cX11_net 108 = .ok (.iload 5, 2) := by decide +kernel
theorem dX11_net_110 : decode cX11_net 110 = .ok (.isub, 1) := by decide +kernel
theorem dX11_net_111 : decode cX11_net 111 = .ok (.ireturn, 1) := by decide +kernel
theorem dX11_agree_0 : decode cX11_agree 0 = .ok (.aload_n 0, 1) := by decide +kernel
theorem dX11_agree_1 : decode cX11_agree 1 = .ok (.iload_n 1, 1) := by decide +kernel
theorem dX11_agree_2 : decode cX11_agree 2 = .ok (.iload_n 2, 1) := by decide +kernel
theorem dX11_agree_3 : decode cX11_agree 3 = .ok (.invokevirtual 226, 3) := by decide +kernel
theorem dX11_agree_6 : decode cX11_agree 6 = .ok (.ifCond .eq 15, 3) := by decide +kernel
theorem dX11_agree_9 : decode cX11_agree 9 = .ok (.aload_n 0, 1) := by decide +kernel
theorem dX11_agree_10 : decode cX11_agree 10 = .ok (.invokevirtual 148, 3) := by decide +kernel
theorem dX11_agree_13 : decode cX11_agree 13 = .ok (.iload_n 1, 1) := by decide +kernel
theorem dX11_agree_14 : decode cX11_agree 14 = .ok (.iload_n 2, 1) := by decide +kernel
theorem dX11_agree_15 : decode cX11_agree 15 = .ok (.invokevirtual 271, 3) := by decide +kernel
theorem dX11_agree_18 : decode cX11_agree 18 = .ok (.goto 4, 3) := by decide +kernel
theorem dX11_agree_21 : decode cX11_agree 21 = .ok (.iconst (-1), 1) := by decide +kernel
theorem dX11_agree_22 : decode cX11_agree 22 = .ok (.ireturn, 1) := by decide +kernel
theorem dX11_families_0 : decode cX11_families 0 = .ok (.aload_n 0, 1) := by decide +kernel
theorem dX11_families_1 : decode cX11_families 1 = .ok (.getfield 10, 3) := by decide +kernel
theorem dX11_families_4 : decode cX11_families 4 = .ok (.invokevirtual 274, 3) := by decide +kernel
theorem dX11_families_7 : decode cX11_families 7 = .ok (.istore_n 1, 1) := by decide +kernel
theorem dX11_families_8 : decode cX11_families 8 = .ok (.aload_n 0, 1) := by decide +kernel
theorem dX11_families_9 : decode cX11_families 9 = .ok (.invokevirtual 148, 3) := by decide +kernel
theorem dX11_families_12 : decode cX11_families 12 = .ok (.aload_n 0, 1) := by decide +kernel
theorem dX11_families_13 : decode cX11_families 13 = .ok (.getfield 10, 3) := by decide +kernel
theorem dX11_families_16 : decode cX11_families 16 = .ok (.iload_n 1, 1) := by decide +kernel
theorem dX11_families_17 : decode cX11_families 17 = .ok (.iload_n 1, 1) := by decide +kernel
theorem dX11_families_18 : decode cX11_families 18 = .ok (.invokevirtual 277, 3) := by decide +kernel
theorem dX11_families_21 : decode cX11_families 21 = .ok (.ireturn, 1) := by decide +kernel
theorem dX11_family_0 : decode cX11_family 0 = .ok (.aload_n 0, 1) := by decide +kernel
theorem dX11_family_1 : decode cX11_family 1 = .ok (.getfield 10, 3) := by decide +kernel
theorem dX11_family_4 : decode cX11_family 4 = .ok (.getfield 91, 3) := by decide +kernel
theorem dX11_family_7 : decode cX11_family 7 = .ok (.iload_n 1, 1) := by decide +kernel
theorem dX11_family_8 : decode cX11_family 8 = .ok (.invokevirtual 108, 3) := by decide +kernel
theorem dX11_family_11 : decode cX11_family 11 = .ok (.ifCond .ne 5, 3) := by decide +kernel
theorem dX11_family_14 : decode cX11_family 14 = .ok (.iconst (-1), 1) := by decide +kernel
theorem dX11_family_15 : decode cX11_family 15 = .ok (.ireturn, 1) := by decide +kernel
theorem dX11_family_16 : decode cX11_family 16 = .ok (.aload_n 0, 1) := by decide +kernel
theorem dX11_family_17 : decode cX11_family 17 = .ok (.invokevirtual 148, 3) := by decide +kernel
theorem dX11_family_20 : decode cX11_family 20 = .ok (.aload_n 0, 1) := by decide +kernel
theorem dX11_family_21 : decode cX11_family 21 = .ok (.getfield 10, 3) := by decide +kernel
theorem dX11_family_24 : decode cX11_family 24 = .ok (.iload_n 1, 1) := by decide +kernel
theorem dX11_family_25 : decode cX11_family 25 = .ok (.aload_n 0, 1) := by decide +kernel
theorem dX11_family_26 : decode cX11_family 26 = .ok (.getfield 10, 3) := by decide +kernel
theorem dX11_family_29 : decode cX11_family 29 = .ok (.invokevirtual 274, 3) := by decide +kernel
theorem dX11_family_32 : decode cX11_family 32 = .ok (.invokevirtual 280, 3) := by decide +kernel
theorem dX11_family_35 : decode cX11_family 35 = .ok (.istore_n 2, 1) := by decide +kernel
theorem dX11_family_36 : decode cX11_family 36 = .ok (.iload_n 2, 1) := by decide +kernel
theorem dX11_family_37 : decode cX11_family 37 = .ok (.invokestatic 262, 3) := by decide +kernel
theorem dX11_family_40 : decode cX11_family 40 = .ok (.ireturn, 1) := by decide +kernel
theorem dX11_joins_0 : decode cX11_joins 0 = .ok (.aload_n 0, 1) := by decide +kernel
theorem dX11_joins_1 : decode cX11_joins 1 = .ok (.getfield 10, 3) := by decide +kernel
theorem dX11_joins_4 : decode cX11_joins 4 = .ok (.getfield 91, 3) := by decide +kernel
theorem dX11_joins_7 : decode cX11_joins 7 = .ok (.iload_n 1, 1) := by decide +kernel
theorem dX11_joins_8 : decode cX11_joins 8 = .ok (.invokevirtual 108, 3) := by decide +kernel
theorem dX11_joins_11 : decode cX11_joins 11 = .ok (.ifCond .ne 7, 3) := by decide +kernel
theorem dX11_joins_14 : decode cX11_joins 14 = .ok (.ldc_w 258, 3) := by decide +kernel
theorem dX11_joins_17 : decode cX11_joins 17 = .ok (.ireturn, 1) := by decide +kernel
theorem dX11_joins_18 : decode cX11_joins 18 = .ok (.aload_n 0, 1) := by decide +kernel
theorem dX11_joins_19 : decode cX11_joins 19 = .ok (.getfield 10, 3) := by decide +kernel
theorem dX11_joins_22 : decode cX11_joins 22 = .ok (.invokevirtual 274, 3) := by decide +kernel
theorem dX11_joins_25 : decode cX11_joins 25 = .ok (.istore_n 2, 1) := by decide +kernel
theorem dX11_joins_26 : decode cX11_joins 26 = .ok (.iload_n 2, 1) := by decide +kernel
theorem dX11_joins_27 : decode cX11_joins 27 = .ok (.iconst 1, 1) := by decide +kernel
theorem dX11_joins_28 : decode cX11_joins 28 = .ok (.iload_n 1, 1) := by decide +kernel
theorem dX11_joins_29 : decode cX11_joins 29 = .ok (.ishl, 1) := by decide +kernel
theorem dX11_joins_30 : decode cX11_joins 30 = .ok (.iconst (-1), 1) := by decide +kernel
theorem dX11_joins_31 : decode cX11_joins 31 = .ok (.ixor, 1) := by decide +kernel
theorem dX11_joins_32 : decode cX11_joins 32 = .ok (.iand, 1) := by decide +kernel
theorem dX11_joins_33 : decode cX11_joins 33 = .ok (.istore_n 3, 1) := by decide +kernel
theorem dX11_joins_34 : decode cX11_joins 34 = .ok (.aload_n 0, 1) := by decide +kernel
theorem dX11_joins_35 : decode cX11_joins 35 = .ok (.invokevirtual 148, 3) := by decide +kernel
theorem dX11_joins_38 : decode cX11_joins 38 = .ok (.astore 4, 2) := by decide +kernel
theorem dX11_joins_40 : decode cX11_joins 40 = .ok (.aload 4, 2) := by decide +kernel
theorem dX11_joins_42 : decode cX11_joins 42 = .ok (.aload_n 0, 1) := by decide +kernel
theorem dX11_joins_43 : decode cX11_joins 43 = .ok (.getfield 10, 3) := by decide +kernel
theorem dX11_joins_46 : decode cX11_joins 46 = .ok (.iload_n 3, 1) := by decide +kernel
theorem dX11_joins_47 : decode cX11_joins 47 = .ok (.iload_n 3, 1) := by decide +kernel
theorem dX11_joins_48 : decode cX11_joins 48 = .ok (.invokevirtual 277, 3) := by decide +kernel
theorem dX11_joins_51 : decode cX11_joins 51 = .ok (.aload 4, 2) := by decide +kernel
theorem dX11_joins_53 : decode cX11_joins 53 = .ok (.aload_n 0, 1) := by decide +kernel
theorem dX11_joins_54 : decode cX11_joins 54 = .ok (.getfield 10, 3) := by decide +kernel
theorem dX11_joins_57 : decode cX11_joins 57 = .ok (.iload_n 2, 1) := by decide +kernel
theorem dX11_joins_58 : decode cX11_joins 58 = .ok (.iload_n 3, 1) := by decide +kernel
theorem dX11_joins_59 : decode cX11_joins 59 = .ok (.invokevirtual 277, 3) := by decide +kernel
theorem dX11_joins_62 : decode cX11_joins 62 = .ok (.isub, 1) := by decide +kernel
theorem dX11_joins_63 : decode cX11_joins 63 = .ok (.ireturn, 1) := by decide +kernel
theorem dX11_times_0 : decode cX11_times 0 = .ok (.aload_n 0, 1) := by decide +kernel
theorem dX11_times_1 : decode cX11_times 1 = .ok (.getfield 10, 3) := by decide +kernel
theorem dX11_times_4 : decode cX11_times 4 = .ok (.getfield 128, 3) := by decide +kernel
theorem dX11_times_7 : decode cX11_times 7 = .ok (.iload_n 1, 1) := by decide +kernel
theorem dX11_times_8 : decode cX11_times 8 = .ok (.invokevirtual 108, 3) := by decide +kernel
theorem dX11_times_11 : decode cX11_times 11 = .ok (.ifCond .eq 31, 3) := by decide +kernel
theorem dX11_times_14 : decode cX11_times 14 = .ok (.aload_n 0, 1) := by decide +kernel
theorem dX11_times_15 : decode cX11_times 15 = .ok (.getfield 10, 3) := by decide +kernel
theorem dX11_times_18 : decode cX11_times 18 = .ok (.getfield 125, 3) := by decide +kernel
theorem dX11_times_21 : decode cX11_times 21 = .ok (.iload_n 2, 1) := by decide +kernel
theorem dX11_times_22 : decode cX11_times 22 = .ok (.invokevirtual 108, 3) := by decide +kernel
theorem dX11_times_25 : decode cX11_times 25 = .ok (.ifCond .eq 17, 3) := by decide +kernel
theorem dX11_times_28 : decode cX11_times 28 = .ok (.aload_n 0, 1) := by decide +kernel
theorem dX11_times_29 : decode cX11_times 29 = .ok (.getfield 10, 3) := by decide +kernel
theorem dX11_times_32 : decode cX11_times 32 = .ok (.getfield 125, 3) := by decide +kernel
theorem dX11_times_35 : decode cX11_times 35 = .ok (.iload_n 3, 1) := by decide +kernel
theorem dX11_times_36 : decode cX11_times 36 = .ok (.invokevirtual 108, 3) := by decide +kernel
theorem dX11_times_39 : decode cX11_times 39 = .ok (.ifCond .ne 5, 3) := by decide +kernel
theorem dX11_times_42 : decode cX11_times 42 = .ok (.iconst (-1), 1) := by decide +kernel
theorem dX11_times_43 : decode cX11_times 43 = .ok (.ireturn, 1) := by decide +kernel
theorem dX11_times_44 : decode cX11_times 44 = .ok (.aload_n 0, 1) := by decide +kernel
theorem dX11_times_45 : decode cX11_times 45 = .ok (.getfield 64, 3) := by decide +kernel
theorem dX11_times_48 : decode cX11_times 48 = .ok (.aload_n 0, 1) := by decide +kernel
theorem dX11_times_49 : decode cX11_times 49 = .ok (.getfield 10, 3) := by decide +kernel
theorem dX11_times_52 : decode cX11_times 52 = .ok (.iload_n 1, 1) := by decide +kernel
theorem dX11_times_53 : decode cX11_times 53 = .ok (.iload_n 2, 1) := by decide +kernel
theorem dX11_times_54 : decode cX11_times 54 = .ok (.iload_n 3, 1) := by decide +kernel
theorem dX11_times_55 : decode cX11_times 55 = .ok (.invokevirtual 283, 3) := by decide +kernel
theorem dX11_times_58 : decode cX11_times 58 = .ok (.ireturn, 1) := by decide +kernel
theorem dX11_written_0 : decode cX11_written 0 = .ok (.aload_n 0, 1) := by decide +kernel
theorem dX11_written_1 : decode cX11_written 1 = .ok (.getfield 10, 3) := by decide +kernel
theorem dX11_written_4 : decode cX11_written 4 = .ok (.getfield 128, 3) := by decide +kernel
theorem dX11_written_7 : decode cX11_written 7 = .ok (.iload_n 1, 1) := by decide +kernel
theorem dX11_written_8 : decode cX11_written 8 = .ok (.invokevirtual 108, 3) := by decide +kernel
theorem dX11_written_11 : decode cX11_written 11 = .ok (.ifCond .eq 16, 3) := by decide +kernel
theorem dX11_written_14 : decode cX11_written 14 = .ok (.aload_n 0, 1) := by decide +kernel
theorem dX11_written_15 : decode cX11_written 15 = .ok (.getfield 10, 3) := by decide +kernel
theorem dX11_written_18 : decode cX11_written 18 = .ok (.getfield 125, 3) := by decide +kernel
theorem dX11_written_21 : decode cX11_written 21 = .ok (.invokevirtual 122, 3) := by decide +kernel
theorem dX11_written_24 : decode cX11_written 24 = .ok (.ifCond .ne 5, 3) := by decide +kernel
theorem dX11_written_27 : decode cX11_written 27 = .ok (.iconst (-1), 1) := by decide +kernel
theorem dX11_written_28 : decode cX11_written 28 = .ok (.ireturn, 1) := by decide +kernel
theorem dX11_written_29 : decode cX11_written 29 = .ok (.aload_n 0, 1) := by decide +kernel
theorem dX11_written_30 : decode cX11_written 30 = .ok (.getfield 64, 3) := by decide +kernel
theorem dX11_written_33 : decode cX11_written 33 = .ok (.aload_n 0, 1) := by decide +kernel
theorem dX11_written_34 : decode cX11_written 34 = .ok (.getfield 10, 3) := by decide +kernel
theorem dX11_written_37 : decode cX11_written 37 = .ok (.iload_n 1, 1) := by decide +kernel
theorem dX11_written_38 : decode cX11_written 38 = .ok (.invokevirtual 287, 3) := by decide +kernel
theorem dX11_written_41 : decode cX11_written 41 = .ok (.ireturn, 1) := by decide +kernel
theorem dX11_towns_0 : decode cX11_towns 0 = .ok (.aload_n 0, 1) := by decide +kernel
theorem dX11_towns_1 : decode cX11_towns 1 = .ok (.getfield 10, 3) := by decide +kernel
theorem dX11_towns_4 : decode cX11_towns 4 = .ok (.getfield 125, 3) := by decide +kernel
theorem dX11_towns_7 : decode cX11_towns 7 = .ok (.iload_n 1, 1) := by decide +kernel
theorem dX11_towns_8 : decode cX11_towns 8 = .ok (.invokevirtual 108, 3) := by decide +kernel
theorem dX11_towns_11 : decode cX11_towns 11 = .ok (.ifCond .ne 5, 3) := by decide +kernel
theorem dX11_towns_14 : decode cX11_towns 14 = .ok (.iconst (-1), 1) := by decide +kernel
theorem dX11_towns_15 : decode cX11_towns 15 = .ok (.ireturn, 1) := by decide +kernel
theorem dX11_towns_16 : decode cX11_towns 16 = .ok (.aload_n 0, 1) := by decide +kernel
theorem dX11_towns_17 : decode cX11_towns 17 = .ok (.getfield 10, 3) := by decide +kernel
theorem dX11_towns_20 : decode cX11_towns 20 = .ok (.iload_n 1, 1) := by decide +kernel
theorem dX11_towns_21 : decode cX11_towns 21 = .ok (.invokevirtual 290, 3) := by decide +kernel
theorem dX11_towns_24 : decode cX11_towns 24 = .ok (.istore_n 2, 1) := by decide +kernel
theorem dX11_towns_25 : decode cX11_towns 25 = .ok (.aload_n 0, 1) := by decide +kernel
theorem dX11_towns_26 : decode cX11_towns 26 = .ok (.getfield 10, 3) := by decide +kernel
theorem dX11_towns_29 : decode cX11_towns 29 = .ok (.getfield 125, 3) := by decide +kernel
theorem dX11_towns_32 : decode cX11_towns 32 = .ok (.iload_n 1, 1) := by decide +kernel
theorem dX11_towns_33 : decode cX11_towns 33 = .ok (.iconst 0, 1) := by decide +kernel
theorem dX11_towns_34 : decode cX11_towns 34 = .ok (.invokevirtual 156, 3) := by decide +kernel
theorem dX11_towns_37 : decode cX11_towns 37 = .ok (.istore_n 3, 1) := by decide +kernel
theorem dX11_towns_38 : decode cX11_towns 38 = .ok (.aload_n 0, 1) := by decide +kernel
theorem dX11_towns_39 : decode cX11_towns 39 = .ok (.getfield 10, 3) := by decide +kernel
theorem dX11_towns_42 : decode cX11_towns 42 = .ok (.getfield 125, 3) := by decide +kernel
theorem dX11_towns_45 : decode cX11_towns 45 = .ok (.iload_n 1, 1) := by decide +kernel
theorem dX11_towns_46 : decode cX11_towns 46 = .ok (.iconst 1, 1) := by decide +kernel
theorem dX11_towns_47 : decode cX11_towns 47 = .ok (.invokevirtual 156, 3) := by decide +kernel
theorem dX11_towns_50 : decode cX11_towns 50 = .ok (.istore 4, 2) := by decide +kernel
theorem dX11_towns_52 : decode cX11_towns 52 = .ok (.iconst 0, 1) := by decide +kernel
theorem dX11_towns_53 : decode cX11_towns 53 = .ok (.istore 5, 2) := by decide +kernel
theorem dX11_towns_55 : decode cX11_towns 55 = .ok (.iconst 0, 1) := by decide +kernel
theorem dX11_towns_56 : decode cX11_towns 56 = .ok (.istore 6, 2) := by decide +kernel
theorem dX11_towns_58 : decode cX11_towns 58 = .ok (.iload 6, 2) := by decide +kernel
theorem dX11_towns_60 : decode cX11_towns 60 = .ok (.aload_n 0, 1) := by decide +kernel
theorem dX11_towns_61 : decode cX11_towns 61 = .ok (.getfield 10, 3) := by decide +kernel
theorem dX11_towns_64 : decode cX11_towns 64 = .ok (.getfield 119, 3) := by decide +kernel
theorem dX11_towns_67 : decode cX11_towns 67 = .ok (.invokevirtual 122, 3) := by decide +kernel
theorem dX11_towns_70 : decode cX11_towns 70 = .ok (.if_icmp .ge 97, 3) := by decide +kernel
theorem dX11_towns_73 : decode cX11_towns 73 = .ok (.iload_n 2, 1) := by decide +kernel
theorem dX11_towns_74 : decode cX11_towns 74 = .ok (.aload_n 0, 1) := by decide +kernel
theorem dX11_towns_75 : decode cX11_towns 75 = .ok (.getfield 10, 3) := by decide +kernel
theorem dX11_towns_78 : decode cX11_towns 78 = .ok (.getfield 119, 3) := by decide +kernel
theorem dX11_towns_81 : decode cX11_towns 81 = .ok (.iload 6, 2) := by decide +kernel
theorem dX11_towns_83 : decode cX11_towns 83 = .ok (.iconst 0, 1) := by decide +kernel
theorem dX11_towns_84 : decode cX11_towns 84 = .ok (.invokevirtual 156, 3) := by decide +kernel
theorem dX11_towns_87 : decode cX11_towns 87 = .ok (.ishr, 1) := by decide +kernel
theorem dX11_towns_88 : decode cX11_towns 88 = .ok (.iconst 1, 1) := by decide +kernel
theorem dX11_towns_89 : decode cX11_towns 89 = .ok (.iand, 1) := by decide +kernel
theorem dX11_towns_90 : decode cX11_towns 90 = .ok (.iconst 1, 1) := by decide +kernel
theorem dX11_towns_91 : decode cX11_towns 91 = .ok (.if_icmp .ne 7, 3) := by decide +kernel
theorem dX11_towns_94 : decode cX11_towns 94 = .ok (.iconst 1, 1) := by decide +kernel
theorem dX11_towns_95 : decode cX11_towns 95 = .ok (.goto 4, 3) := by decide +kernel
theorem dX11_towns_98 : decode cX11_towns 98 = .ok (.iconst 0, 1) := by decide +kernel
theorem dX11_towns_99 : decode cX11_towns 99 = .ok (.istore 7, 2) := by decide +kernel
theorem dX11_towns_101 : decode cX11_towns 101 = .ok (.iload 7, 2) := by decide +kernel
theorem dX11_towns_103 : decode cX11_towns 103 = .ok (.ifCond .eq 58, 3) := by decide +kernel
theorem dX11_towns_106 : decode cX11_towns 106 = .ok (.aload_n 0, 1) := by decide +kernel
theorem dX11_towns_107 : decode cX11_towns 107 = .ok (.getfield 10, 3) := by decide +kernel
theorem dX11_towns_110 : decode cX11_towns 110 = .ok (.getfield 119, 3) := by decide +kernel
theorem dX11_towns_113 : decode cX11_towns 113 = .ok (.iload 6, 2) := by decide +kernel
theorem dX11_towns_115 : decode cX11_towns 115 = .ok (.iconst 2, 1) := by decide +kernel
theorem dX11_towns_116 : decode cX11_towns 116 = .ok (.invokevirtual 156, 3) := by decide +kernel
theorem dX11_towns_119 : decode cX11_towns 119 = .ok (.iload 4, 2) := by decide +kernel
theorem dX11_towns_121 : decode cX11_towns 121 = .ok (.if_icmp .gt 40, 3) := by decide +kernel
theorem dX11_towns_124 : decode cX11_towns 124 = .ok (.aload_n 0, 1) := by decide +kernel
theorem dX11_towns_125 : decode cX11_towns 125 = .ok (.getfield 10, 3) := by decide +kernel
theorem dX11_towns_128 : decode cX11_towns 128 = .ok (.getfield 119, 3) := by decide +kernel
theorem dX11_towns_131 : decode cX11_towns 131 = .ok (.iload 6, 2) := by decide +kernel
theorem dX11_towns_133 : decode cX11_towns 133 = .ok (.iconst 3, 1) := by decide +kernel
theorem dX11_towns_134 : decode cX11_towns 134 = .ok (.invokevirtual 156, 3) := by decide +kernel
theorem dX11_towns_137 : decode cX11_towns 137 = .ok (.iload_n 3, 1) := by decide +kernel
theorem dX11_towns_138 : decode cX11_towns 138 = .ok (.if_icmp .lt 23, 3) := by decide +kernel
theorem dX11_towns_141 : decode cX11_towns 141 = .ok (.iload 5, 2) := by decide +kernel
theorem dX11_towns_143 : decode cX11_towns 143 = .ok (.iconst 1, 1) := by decide +kernel
theorem dX11_towns_144 : decode cX11_towns 144 = .ok (.aload_n 0, 1) := by decide +kernel
theorem dX11_towns_145 : decode cX11_towns 145 = .ok (.getfield 10, 3) := by decide +kernel
theorem dX11_towns_148 : decode cX11_towns 148 = .ok (.getfield 119, 3) := by decide +kernel
theorem dX11_towns_151 : decode cX11_towns 151 = .ok (.iload 6, 2) := by decide +kernel
theorem dX11_towns_153 : decode cX11_towns 153 = .ok (.iconst 1, 1) := by decide +kernel
theorem dX11_towns_154 : decode cX11_towns 154 = .ok (.invokevirtual 156, 3) := by decide +kernel
theorem dX11_towns_157 : decode cX11_towns 157 = .ok (.ishl, 1) := by decide +kernel
theorem dX11_towns_158 : decode cX11_towns 158 = .ok (.ior, 1) := by decide +kernel
theorem dX11_towns_159 : decode cX11_towns 159 = .ok (.istore 5, 2) := by decide +kernel
theorem dX11_towns_161 : decode cX11_towns 161 = .ok (.iinc 6 1, 3) := by decide +kernel
theorem dX11_towns_164 : decode cX11_towns 164 = .ok (.goto (-106), 3) := by decide +kernel
theorem dX11_towns_167 : decode cX11_towns 167 = .ok (.iload 5, 2) := by decide +kernel
theorem dX11_towns_169 : decode cX11_towns 169 = .ok (.invokestatic 210, 3) := by decide +kernel
theorem dX11_towns_172 : decode cX11_towns 172 = .ok (.ireturn, 1) := by decide +kernel
theorem dX11_dates_0 : decode cX11_dates 0 = .ok (.aload_n 0, 1) := by decide +kernel
theorem dX11_dates_1 : decode cX11_dates 1 = .ok (.getfield 10, 3) := by decide +kernel
theorem dX11_dates_4 : decode cX11_dates 4 = .ok (.getfield 91, 3) := by decide +kernel
theorem dX11_dates_7 : decode cX11_dates 7 = .ok (.iload_n 1, 1) := by decide +kernel
theorem dX11_dates_8 : decode cX11_dates 8 = .ok (.invokevirtual 108, 3) := by decide +kernel
theorem dX11_dates_11 : decode cX11_dates 11 = .ok (.ifCond .eq 12, 3) := by decide +kernel
theorem dX11_dates_14 : decode cX11_dates 14 = .ok (.iload_n 2, 1) := by decide +kernel
theorem dX11_dates_15 : decode cX11_dates 15 = .ok (.iconst 0, 1) := by decide +kernel
theorem dX11_dates_16 : decode cX11_dates 16 = .ok (.iconst 3, 1) := by decide +kernel
theorem dX11_dates_17 : decode cX11_dates 17 = .ok (.invokestatic 83, 3) := by decide +kernel
theorem dX11_dates_20 : decode cX11_dates 20 = .ok (.ifCond .ne 5, 3) := by decide +kernel
theorem dX11_dates_23 : decode cX11_dates 23 = .ok (.iconst (-1), 1) := by decide +kernel
theorem dX11_dates_24 : decode cX11_dates 24 = .ok (.ireturn, 1) := by decide +kernel
theorem dX11_dates_25 : decode cX11_dates 25 = .ok (.iload_n 2, 1) := by decide +kernel
theorem dX11_dates_26 : decode cX11_dates 26 = .ok (.iconst 2, 1) := by decide +kernel
theorem dX11_dates_27 : decode cX11_dates 27 = .ok (.if_icmp .ge 27, 3) := by decide +kernel
theorem dX11_dates_30 : decode cX11_dates 30 = .ok (.iload_n 2, 1) := by decide +kernel
theorem dX11_dates_31 : decode cX11_dates 31 = .ok (.ifCond .ne 14, 3) := by decide +kernel
theorem dX11_dates_34 : decode cX11_dates 34 = .ok (.aload_n 0, 1) := by decide +kernel
theorem dX11_dates_35 : decode cX11_dates 35 = .ok (.getfield 10, 3) := by decide +kernel
theorem dX11_dates_38 : decode cX11_dates 38 = .ok (.iload_n 1, 1) := by decide +kernel
theorem dX11_dates_39 : decode cX11_dates 39 = .ok (.invokevirtual 293, 3) := by decide +kernel
theorem dX11_dates_42 : decode cX11_dates 42 = .ok (.goto 11, 3) := by decide +kernel
theorem dX11_dates_45 : decode cX11_dates 45 = .ok (.aload_n 0, 1) := by decide +kernel
theorem dX11_dates_46 : decode cX11_dates 46 = .ok (.getfield 10, 3) := by decide +kernel
theorem dX11_dates_49 : decode cX11_dates 49 = .ok (.iload_n 1, 1) := by decide +kernel
theorem dX11_dates_50 : decode cX11_dates 50 = .ok (.invokevirtual 296, 3) := by decide +kernel
theorem dX11_dates_53 : decode cX11_dates 53 = .ok (.ireturn, 1) := by decide +kernel
theorem dX11_dates_54 : decode cX11_dates 54 = .ok (.aload_n 0, 1) := by decide +kernel
theorem dX11_dates_55 : decode cX11_dates 55 = .ok (.invokevirtual 239, 3) := by decide +kernel
theorem dX11_dates_58 : decode cX11_dates 58 = .ok (.astore_n 3, 1) := by decide +kernel
theorem dX11_dates_59 : decode cX11_dates 59 = .ok (.iload_n 2, 1) := by decide +kernel
theorem dX11_dates_60 : decode cX11_dates 60 = .ok (.iconst 2, 1) := by decide +kernel
theorem dX11_dates_61 : decode cX11_dates 61 = .ok (.if_icmp .ne 12, 3) := by decide +kernel
theorem dX11_dates_64 : decode cX11_dates 64 = .ok (.aload_n 0, 1) := by decide +kernel
theorem dX11_dates_65 : decode cX11_dates 65 = .ok (.aload_n 3, 1) := by decide +kernel
theorem dX11_dates_66 : decode cX11_dates 66 = .ok (.iload_n 1, 1) := by decide +kernel
theorem dX11_dates_67 : decode cX11_dates 67 = .ok (.invokevirtual 299, 3) := by decide +kernel
theorem dX11_dates_70 : decode cX11_dates 70 = .ok (.goto 9, 3) := by decide +kernel
theorem dX11_dates_73 : decode cX11_dates 73 = .ok (.aload_n 0, 1) := by decide +kernel
theorem dX11_dates_74 : decode cX11_dates 74 = .ok (.aload_n 3, 1) := by decide +kernel
theorem dX11_dates_75 : decode cX11_dates 75 = .ok (.iload_n 1, 1) := by decide +kernel
theorem dX11_dates_76 : decode cX11_dates 76 = .ok (.invokevirtual 303, 3) := by decide +kernel
theorem dX11_dates_79 : decode cX11_dates 79 = .ok (.ireturn, 1) := by decide +kernel
theorem dX11_read_0 : decode cX11_read 0 = .ok (.aload_n 0, 1) := by decide +kernel
theorem dX11_read_1 : decode cX11_read 1 = .ok (.getfield 10, 3) := by decide +kernel
theorem dX11_read_4 : decode cX11_read 4 = .ok (.getfield 91, 3) := by decide +kernel
theorem dX11_read_7 : decode cX11_read 7 = .ok (.iload_n 1, 1) := by decide +kernel
theorem dX11_read_8 : decode cX11_read 8 = .ok (.invokevirtual 108, 3) := by decide +kernel
theorem dX11_read_11 : decode cX11_read 11 = .ok (.ifCond .eq 13, 3) := by decide +kernel
theorem dX11_read_14 : decode cX11_read 14 = .ok (.iload_n 2, 1) := by decide +kernel
theorem dX11_read_15 : decode cX11_read 15 = .ok (.iconst 1, 1) := by decide +kernel
theorem dX11_read_16 : decode cX11_read 16 = .ok (.bipush 12, 2) := by decide +kernel
theorem dX11_read_18 : decode cX11_read 18 = .ok (.invokestatic 83, 3) := by decide +kernel
theorem dX11_read_21 : decode cX11_read 21 = .ok (.ifCond .ne 5, 3) := by decide +kernel
theorem dX11_read_24 : decode cX11_read 24 = .ok (.iconst (-1), 1) := by decide +kernel
theorem dX11_read_25 : decode cX11_read 25 = .ok (.ireturn, 1) := by decide +kernel
theorem dX11_read_26 : decode cX11_read 26 = .ok (.aload_n 0, 1) := by decide +kernel
theorem dX11_read_27 : decode cX11_read 27 = .ok (.getfield 64, 3) := by decide +kernel
theorem dX11_read_30 : decode cX11_read 30 = .ok (.aload_n 0, 1) := by decide +kernel
theorem dX11_read_31 : decode cX11_read 31 = .ok (.getfield 10, 3) := by decide +kernel
theorem dX11_read_34 : decode cX11_read 34 = .ok (.aload_n 0, 1) := by decide +kernel
theorem dX11_read_35 : decode cX11_read 35 = .ok (.getfield 43, 3) := by decide +kernel
theorem dX11_read_38 : decode cX11_read 38 = .ok (.iload_n 1, 1) := by decide +kernel
theorem dX11_read_39 : decode cX11_read 39 = .ok (.iload_n 2, 1) := by decide +kernel
theorem dX11_read_40 : decode cX11_read 40 = .ok (.invokevirtual 306, 3) := by decide +kernel
theorem dX11_read_43 : decode cX11_read 43 = .ok (.ireturn, 1) := by decide +kernel
theorem dX11_stops_0 : decode cX11_stops 0 = .ok (.aload_n 0, 1) := by decide +kernel
theorem dX11_stops_1 : decode cX11_stops 1 = .ok (.getfield 10, 3) := by decide +kernel
theorem dX11_stops_4 : decode cX11_stops 4 = .ok (.getfield 91, 3) := by decide +kernel
theorem dX11_stops_7 : decode cX11_stops 7 = .ok (.iload_n 1, 1) := by decide +kernel
theorem dX11_stops_8 : decode cX11_stops 8 = .ok (.invokevirtual 108, 3) := by decide +kernel
theorem dX11_stops_11 : decode cX11_stops 11 = .ok (.ifCond .eq 12, 3) := by decide +kernel
theorem dX11_stops_14 : decode cX11_stops 14 = .ok (.iload_n 2, 1) := by decide +kernel
theorem dX11_stops_15 : decode cX11_stops 15 = .ok (.iconst 0, 1) := by decide +kernel
theorem dX11_stops_16 : decode cX11_stops 16 = .ok (.iconst 1, 1) := by decide +kernel
theorem dX11_stops_17 : decode cX11_stops 17 = .ok (.invokestatic 83, 3) := by decide +kernel
theorem dX11_stops_20 : decode cX11_stops 20 = .ok (.ifCond .ne 5, 3) := by decide +kernel
theorem dX11_stops_23 : decode cX11_stops 23 = .ok (.iconst (-1), 1) := by decide +kernel
theorem dX11_stops_24 : decode cX11_stops 24 = .ok (.ireturn, 1) := by decide +kernel
theorem dX11_stops_25 : decode cX11_stops 25 = .ok (.aload_n 0, 1) := by decide +kernel
theorem dX11_stops_26 : decode cX11_stops 26 = .ok (.getfield 10, 3) := by decide +kernel
theorem dX11_stops_29 : decode cX11_stops 29 = .ok (.iload_n 1, 1) := by decide +kernel
theorem dX11_stops_30 : decode cX11_stops 30 = .ok (.invokevirtual 310, 3) := by decide +kernel
theorem dX11_stops_33 : decode cX11_stops 33 = .ok (.istore_n 3, 1) := by decide +kernel
theorem dX11_stops_34 : decode cX11_stops 34 = .ok (.iload_n 2, 1) := by decide +kernel
theorem dX11_stops_35 : decode cX11_stops 35 = .ok (.ifCond .ne 10, 3) := by decide +kernel
theorem dX11_stops_38 : decode cX11_stops 38 = .ok (.iload_n 3, 1) := by decide +kernel
theorem dX11_stops_39 : decode cX11_stops 39 = .ok (.invokestatic 210, 3) := by decide +kernel
theorem dX11_stops_42 : decode cX11_stops 42 = .ok (.goto 7, 3) := by decide +kernel
theorem dX11_stops_45 : decode cX11_stops 45 = .ok (.iload_n 3, 1) := by decide +kernel
theorem dX11_stops_46 : decode cX11_stops 46 = .ok (.invokestatic 313, 3) := by decide +kernel
theorem dX11_stops_49 : decode cX11_stops 49 = .ok (.ireturn, 1) := by decide +kernel
theorem dX11_many_0 : decode cX11_many 0 = .ok (.iload_n 1, 1) := by decide +kernel
theorem dX11_many_1 : decode cX11_many 1 = .ok (.iconst 0, 1) := by decide +kernel
theorem dX11_many_2 : decode cX11_many 2 = .ok (.iconst 5, 1) := by decide +kernel
theorem dX11_many_3 : decode cX11_many 3 = .ok (.invokestatic 83, 3) := by decide +kernel
theorem dX11_many_6 : decode cX11_many 6 = .ok (.ifCond .eq 17, 3) := by decide +kernel
theorem dX11_many_9 : decode cX11_many 9 = .ok (.iload_n 2, 1) := by decide +kernel
theorem dX11_many_10 : decode cX11_many 10 = .ok (.iconst 0, 1) := by decide +kernel
theorem dX11_many_11 : decode cX11_many 11 = .ok (.iconst 5, 1) := by decide +kernel
theorem dX11_many_12 : decode cX11_many 12 = .ok (.invokestatic 83, 3) := by decide +kernel
theorem dX11_many_15 : decode cX11_many 15 = .ok (.ifCond .eq 8, 3) := by decide +kernel
theorem dX11_many_18 : decode cX11_many 18 = .ok (.iload_n 1, 1) := by decide +kernel
theorem dX11_many_19 : decode cX11_many 19 = .ok (.iload_n 2, 1) := by decide +kernel
theorem dX11_many_20 : decode cX11_many 20 = .ok (.if_icmp .ne 5, 3) := by decide +kernel
theorem dX11_many_23 : decode cX11_many 23 = .ok (.iconst (-1), 1) := by decide +kernel
theorem dX11_many_24 : decode cX11_many 24 = .ok (.ireturn, 1) := by decide +kernel
theorem dX11_many_25 : decode cX11_many 25 = .ok (.iconst 0, 1) := by decide +kernel
theorem dX11_many_26 : decode cX11_many 26 = .ok (.istore_n 3, 1) := by decide +kernel
theorem dX11_many_27 : decode cX11_many 27 = .ok (.iconst 0, 1) := by decide +kernel
theorem dX11_many_28 : decode cX11_many 28 = .ok (.istore 4, 2) := by decide +kernel
theorem dX11_many_30 : decode cX11_many 30 = .ok (.iconst 0, 1) := by decide +kernel
theorem dX11_many_31 : decode cX11_many 31 = .ok (.istore 5, 2) := by decide +kernel
theorem dX11_many_33 : decode cX11_many 33 = .ok (.iconst 0, 1) := by decide +kernel
theorem dX11_many_34 : decode cX11_many 34 = .ok (.istore 6, 2) := by decide +kernel
theorem dX11_many_36 : decode cX11_many 36 = .ok (.iload 6, 2) := by decide +kernel
theorem dX11_many_38 : decode cX11_many 38 = .ok (.aload_n 0, 1) := by decide +kernel
theorem dX11_many_39 : decode cX11_many 39 = .ok (.getfield 10, 3) := by decide +kernel
theorem dX11_many_42 : decode cX11_many 42 = .ok (.getfield 91, 3) := by decide +kernel
theorem dX11_many_45 : decode cX11_many 45 = .ok (.invokevirtual 122, 3) := by decide +kernel
theorem dX11_many_48 : decode cX11_many 48 = .ok (.if_icmp .ge 62, 3) := by decide +kernel
theorem dX11_many_51 : decode cX11_many 51 = .ok (.aload_n 0, 1) := by decide +kernel
theorem dX11_many_52 : decode cX11_many 52 = .ok (.getfield 10, 3) := by decide +kernel
theorem dX11_many_55 : decode cX11_many 55 = .ok (.getfield 91, 3) := by decide +kernel
theorem dX11_many_58 : decode cX11_many 58 = .ok (.iload 6, 2) := by decide +kernel
theorem dX11_many_60 : decode cX11_many 60 = .ok (.iconst 1, 1) := by decide +kernel
theorem dX11_many_61 : decode cX11_many 61 = .ok (.invokevirtual 156, 3) := by decide +kernel
theorem dX11_many_64 : decode cX11_many 64 = .ok (.istore 7, 2) := by decide +kernel
theorem dX11_many_66 : decode cX11_many 66 = .ok (.iload 7, 2) := by decide +kernel
theorem dX11_many_68 : decode cX11_many 68 = .ok (.iload_n 1, 1) := by decide +kernel
theorem dX11_many_69 : decode cX11_many 69 = .ok (.ishr, 1) := by decide +kernel
theorem dX11_many_70 : decode cX11_many 70 = .ok (.iconst 1, 1) := by decide +kernel
theorem dX11_many_71 : decode cX11_many 71 = .ok (.iand, 1) := by decide +kernel
theorem dX11_many_72 : decode cX11_many 72 = .ok (.istore 8, 2) := by decide +kernel
theorem dX11_many_74 : decode cX11_many 74 = .ok (.iload 7, 2) := by decide +kernel
theorem dX11_many_76 : decode cX11_many 76 = .ok (.iload_n 2, 1) := by decide +kernel
theorem dX11_many_77 : decode cX11_many 77 = .ok (.ishr, 1) := by decide +kernel
theorem dX11_many_78 : decode cX11_many 78 = .ok (.iconst 1, 1) := by decide +kernel
theorem dX11_many_79 : decode cX11_many 79 = .ok (.iand, 1) := by decide +kernel
theorem dX11_many_80 : decode cX11_many 80 = .ok (.istore 9, 2) := by decide +kernel
theorem dX11_many_82 : decode cX11_many 82 = .ok (.iload_n 3, 1) := by decide +kernel
theorem dX11_many_83 : decode cX11_many 83 = .ok (.iload 8, 2) := by decide +kernel
theorem dX11_many_85 : decode cX11_many 85 = .ok (.iadd, 1) := by decide +kernel
theorem dX11_many_86 : decode cX11_many 86 = .ok (.istore_n 3, 1) := by decide +kernel
theorem dX11_many_87 : decode cX11_many 87 = .ok (.iload 4, 2) := by decide +kernel
theorem dX11_many_89 : decode cX11_many 89 = .ok (.iload 9, 2) := by decide +kernel
theorem dX11_many_91 : decode cX11_many 91 = .ok (.iadd, 1) := by decide +kernel
theorem dX11_many_92 : decode cX11_many 92 = .ok (.istore 4, 2) := by decide +kernel
theorem dX11_many_94 : decode cX11_many 94 = .ok (.iload 5, 2) := by decide +kernel
theorem dX11_many_96 : decode cX11_many 96 = .ok (.iload 8, 2) := by decide +kernel
theorem dX11_many_98 : decode cX11_many 98 = .ok (.iload 9, 2) := by decide +kernel
theorem dX11_many_100 : decode cX11_many 100 = .ok (.iand, 1) := by decide +kernel
theorem dX11_many_101 : decode cX11_many 101 = .ok (.iadd, 1) := by decide +kernel
theorem dX11_many_102 : decode cX11_many 102 = .ok (.istore 5, 2) := by decide +kernel
theorem dX11_many_104 : decode cX11_many 104 = .ok (.iinc 6 1, 3) := by decide +kernel
theorem dX11_many_107 : decode cX11_many 107 = .ok (.goto (-71), 3) := by decide +kernel
theorem dX11_many_110 : decode cX11_many 110 = .ok (.iload 5, 2) := by decide +kernel
theorem dX11_many_112 : decode cX11_many 112 = .ok (.ifCond .ne 7, 3) := by decide +kernel
theorem dX11_many_115 : decode cX11_many 115 = .ok (.iconst (-1), 1) := by decide +kernel
theorem dX11_many_116 : decode cX11_many 116 = .ok (.goto 10, 3) := by decide +kernel
theorem dX11_many_119 : decode cX11_many 119 = .ok (.iload_n 3, 1) := by decide +kernel
theorem dX11_many_120 : decode cX11_many 120 = .ok (.iload 4, 2) := by decide +kernel
theorem dX11_many_122 : decode cX11_many 122 = .ok (.imul, 1) := by decide +kernel
theorem dX11_many_123 : decode cX11_many 123 = .ok (.iload 5, 2) := by decide +kernel
theorem dX11_many_125 : decode cX11_many 125 = .ok (.idiv, 1) := by decide +kernel
theorem dX11_many_126 : decode cX11_many 126 = .ok (.ireturn, 1) := by decide +kernel
theorem dX11_chao_0 : decode cX11_chao 0 = .ok (.iconst 0, 1) := by decide +kernel
theorem dX11_chao_1 : decode cX11_chao 1 = .ok (.istore_n 1, 1) := by decide +kernel
theorem dX11_chao_2 : decode cX11_chao 2 = .ok (.iconst 0, 1) := by decide +kernel
theorem dX11_chao_3 : decode cX11_chao 3 = .ok (.istore_n 2, 1) := by decide +kernel
theorem dX11_chao_4 : decode cX11_chao 4 = .ok (.iconst 0, 1) := by decide +kernel
theorem dX11_chao_5 : decode cX11_chao 5 = .ok (.istore_n 3, 1) := by decide +kernel
theorem dX11_chao_6 : decode cX11_chao 6 = .ok (.iconst 0, 1) := by decide +kernel
theorem dX11_chao_7 : decode cX11_chao 7 = .ok (.istore 4, 2) := by decide +kernel
theorem dX11_chao_9 : decode cX11_chao 9 = .ok (.iload 4, 2) := by decide +kernel
theorem dX11_chao_11 : decode cX11_chao 11 = .ok (.aload_n 0, 1) := by decide +kernel
theorem dX11_chao_12 : decode cX11_chao 12 = .ok (.getfield 10, 3) := by decide +kernel
theorem dX11_chao_15 : decode cX11_chao 15 = .ok (.getfield 91, 3) := by decide +kernel
theorem dX11_chao_18 : decode cX11_chao 18 = .ok (.invokevirtual 122, 3) := by decide +kernel
theorem dX11_chao_21 : decode cX11_chao 21 = .ok (.if_icmp .ge 68, 3) := by decide +kernel
theorem dX11_chao_24 : decode cX11_chao 24 = .ok (.aload_n 0, 1) := by decide +kernel
theorem dX11_chao_25 : decode cX11_chao 25 = .ok (.getfield 10, 3) := by decide +kernel
theorem dX11_chao_28 : decode cX11_chao 28 = .ok (.getfield 91, 3) := by decide +kernel
theorem dX11_chao_31 : decode cX11_chao 31 = .ok (.iload 4, 2) := by decide +kernel
theorem dX11_chao_33 : decode cX11_chao 33 = .ok (.iconst 1, 1) := by decide +kernel
theorem dX11_chao_34 : decode cX11_chao 34 = .ok (.invokevirtual 156, 3) := by decide +kernel
theorem dX11_chao_37 : decode cX11_chao 37 = .ok (.invokestatic 210, 3) := by decide +kernel
theorem dX11_chao_40 : decode cX11_chao 40 = .ok (.istore 5, 2) := by decide +kernel
theorem dX11_chao_42 : decode cX11_chao 42 = .ok (.iload_n 1, 1) := by decide +kernel
theorem dX11_chao_43 : decode cX11_chao 43 = .ok (.iload 5, 2) := by decide +kernel
theorem dX11_chao_45 : decode cX11_chao 45 = .ok (.ifCond .le 7, 3) := by decide +kernel
theorem dX11_chao_48 : decode cX11_chao 48 = .ok (.iconst 1, 1) := by decide +kernel
theorem dX11_chao_49 : decode cX11_chao 49 = .ok (.goto 4, 3) := by decide +kernel
theorem dX11_chao_52 : decode cX11_chao 52 = .ok (.iconst 0, 1) := by decide +kernel
theorem dX11_chao_53 : decode cX11_chao 53 = .ok (.iadd, 1) := by decide +kernel
theorem dX11_chao_54 : decode cX11_chao 54 = .ok (.istore_n 1, 1) := by decide +kernel
theorem dX11_chao_55 : decode cX11_chao 55 = .ok (.iload_n 2, 1) := by decide +kernel
theorem dX11_chao_56 : decode cX11_chao 56 = .ok (.iload 5, 2) := by decide +kernel
theorem dX11_chao_58 : decode cX11_chao 58 = .ok (.iconst 1, 1) := by decide +kernel
theorem dX11_chao_59 : decode cX11_chao 59 = .ok (.if_icmp .ne 7, 3) := by decide +kernel
theorem dX11_chao_62 : decode cX11_chao 62 = .ok (.iconst 1, 1) := by decide +kernel
theorem dX11_chao_63 : decode cX11_chao 63 = .ok (.goto 4, 3) := by decide +kernel
theorem dX11_chao_66 : decode cX11_chao 66 = .ok (.iconst 0, 1) := by decide +kernel
theorem dX11_chao_67 : decode cX11_chao 67 = .ok (.iadd, 1) := by decide +kernel
theorem dX11_chao_68 : decode cX11_chao 68 = .ok (.istore_n 2, 1) := by decide +kernel
theorem dX11_chao_69 : decode cX11_chao 69 = .ok (.iload_n 3, 1) := by decide +kernel
theorem dX11_chao_70 : decode cX11_chao 70 = .ok (.iload 5, 2) := by decide +kernel
theorem dX11_chao_72 : decode cX11_chao 72 = .ok (.iconst 2, 1) := by decide +kernel
theorem dX11_chao_73 : decode cX11_chao 73 = .ok (.if_icmp .ne 7, 3) := by decide +kernel
theorem dX11_chao_76 : decode cX11_chao 76 = .ok (.iconst 1, 1) := by decide +kernel
theorem dX11_chao_77 : decode cX11_chao 77 = .ok (.goto 4, 3) := by decide +kernel
theorem dX11_chao_80 : decode cX11_chao 80 = .ok (.iconst 0, 1) := by decide +kernel
theorem dX11_chao_81 : decode cX11_chao 81 = .ok (.iadd, 1) := by decide +kernel
theorem dX11_chao_82 : decode cX11_chao 82 = .ok (.istore_n 3, 1) := by decide +kernel
theorem dX11_chao_83 : decode cX11_chao 83 = .ok (.iinc 4 1, 3) := by decide +kernel
theorem dX11_chao_86 : decode cX11_chao 86 = .ok (.goto (-77), 3) := by decide +kernel
theorem dX11_chao_89 : decode cX11_chao 89 = .ok (.iload_n 3, 1) := by decide +kernel
theorem dX11_chao_90 : decode cX11_chao 90 = .ok (.ifCond .le 15, 3) := by decide +kernel
theorem dX11_chao_93 : decode cX11_chao 93 = .ok (.iload_n 1, 1) := by decide +kernel
theorem dX11_chao_94 : decode cX11_chao 94 = .ok (.iload_n 2, 1) := by decide +kernel
theorem dX11_chao_95 : decode cX11_chao 95 = .ok (.iload_n 2, 1) := by decide +kernel
theorem dX11_chao_96 : decode cX11_chao 96 = .ok (.imul, 1) := by decide +kernel
theorem dX11_chao_97 : decode cX11_chao 97 = .ok (.iconst 2, 1) := by decide +kernel
theorem dX11_chao_98 : decode cX11_chao 98 = .ok (.iload_n 3, 1) := by decide +kernel
theorem dX11_chao_99 : decode cX11_chao 99 = .ok (.imul, 1) := by decide +kernel
theorem dX11_chao_100 : decode cX11_chao 100 = .ok (.idiv, 1) := by decide +kernel
theorem dX11_chao_101 : decode cX11_chao 101 = .ok (.iadd, 1) := by decide +kernel
theorem dX11_chao_102 : decode cX11_chao 102 = .ok (.goto 12, 3) := by decide +kernel
theorem dX11_chao_105 : decode cX11_chao 105 = .ok (.iload_n 1, 1) := by decide +kernel
theorem dX11_chao_106 : decode cX11_chao 106 = .ok (.iload_n 2, 1) := by decide +kernel
theorem dX11_chao_107 : decode cX11_chao 107 = .ok (.iload_n 2, 1) := by decide +kernel
theorem dX11_chao_108 : decode cX11_chao 108 = .ok (.iconst 1, 1) := by decide +kernel
theorem dX11_chao_109 : decode cX11_chao 109 = .ok (.isub, 1) := by decide +kernel
theorem dX11_chao_110 : decode cX11_chao 110 = .ok (.imul, 1) := by decide +kernel
theorem dX11_chao_111 : decode cX11_chao 111 = .ok (.iconst 2, 1) := by decide +kernel
theorem dX11_chao_112 : decode cX11_chao 112 = .ok (.idiv, 1) := by decide +kernel
theorem dX11_chao_113 : decode cX11_chao 113 = .ok (.iadd, 1) := by decide +kernel
theorem dX11_chao_114 : decode cX11_chao 114 = .ok (.ireturn, 1) := by decide +kernel
theorem dX11_censor_0 : decode cX11_censor 0 = .ok (.aload_n 0, 1) := by decide +kernel
theorem dX11_censor_1 : decode cX11_censor 1 = .ok (.getfield 10, 3) := by decide +kernel
theorem dX11_censor_4 : decode cX11_censor 4 = .ok (.iload_n 2, 1) := by decide +kernel
theorem dX11_censor_5 : decode cX11_censor 5 = .ok (.invokevirtual 200, 3) := by decide +kernel
theorem dX11_censor_8 : decode cX11_censor 8 = .ok (.astore 4, 2) := by decide +kernel
theorem dX11_censor_10 : decode cX11_censor 10 = .ok (.iload_n 1, 1) := by decide +kernel
theorem dX11_censor_11 : decode cX11_censor 11 = .ok (.iconst 0, 1) := by decide +kernel
theorem dX11_censor_12 : decode cX11_censor 12 = .ok (.bipush 7, 2) := by decide +kernel
theorem dX11_censor_14 : decode cX11_censor 14 = .ok (.invokestatic 83, 3) := by decide +kernel
theorem dX11_censor_17 : decode cX11_censor 17 = .ok (.ifCond .eq 17, 3) := by decide +kernel
theorem dX11_censor_20 : decode cX11_censor 20 = .ok (.aload 4, 2) := by decide +kernel
theorem dX11_censor_22 : decode cX11_censor 22 = .ok (.ifnull 12, 3) := by decide +kernel
theorem dX11_censor_25 : decode cX11_censor 25 = .ok (.iload_n 3, 1) := by decide +kernel
theorem dX11_censor_26 : decode cX11_censor 26 = .ok (.iconst 0, 1) := by decide +kernel
theorem dX11_censor_27 : decode cX11_censor 27 = .ok (.iconst 5, 1) := by decide +kernel
theorem dX11_censor_28 : decode cX11_censor 28 = .ok (.invokestatic 83, 3) := by decide +kernel
theorem dX11_censor_31 : decode cX11_censor 31 = .ok (.ifCond .ne 5, 3) := by decide +kernel
theorem dX11_censor_34 : decode cX11_censor 34 = .ok (.iconst (-1), 1) := by decide +kernel
theorem dX11_censor_35 : decode cX11_censor 35 = .ok (.ireturn, 1) := by decide +kernel
theorem dX11_censor_36 : decode cX11_censor 36 = .ok (.aload_n 0, 1) := by decide +kernel
theorem dX11_censor_37 : decode cX11_censor 37 = .ok (.aload 4, 2) := by decide +kernel
theorem dX11_censor_39 : decode cX11_censor 39 = .ok (.invokevirtual 316, 3) := by decide +kernel
theorem dX11_censor_42 : decode cX11_censor 42 = .ok (.lstore 5, 2) := by decide +kernel
theorem dX11_censor_44 : decode cX11_censor 44 = .ok (.iconst 0, 1) := by decide +kernel
theorem dX11_censor_45 : decode cX11_censor 45 = .ok (.istore 7, 2) := by decide +kernel
theorem dX11_censor_47 : decode cX11_censor 47 = .ok (.iconst 0, 1) := by decide +kernel
theorem dX11_censor_48 : decode cX11_censor 48 = .ok (.istore 8, 2) := by decide +kernel
theorem dX11_censor_50 : decode cX11_censor 50 = .ok (.iload 8, 2) := by decide +kernel
theorem dX11_censor_52 : decode cX11_censor 52 = .ok (.aload_n 0, 1) := by decide +kernel
theorem dX11_censor_53 : decode cX11_censor 53 = .ok (.getfield 10, 3) := by decide +kernel
theorem dX11_censor_56 : decode cX11_censor 56 = .ok (.getfield 91, 3) := by decide +kernel
theorem dX11_censor_59 : decode cX11_censor 59 = .ok (.invokevirtual 122, 3) := by decide +kernel
theorem dX11_censor_62 : decode cX11_censor 62 = .ok (.if_icmp .ge 73, 3) := by decide +kernel
theorem dX11_censor_65 : decode cX11_censor 65 = .ok (.aload_n 0, 1) := by decide +kernel
theorem dX11_censor_66 : decode cX11_censor 66 = .ok (.getfield 10, 3) := by decide +kernel
theorem dX11_censor_69 : decode cX11_censor 69 = .ok (.getfield 91, 3) := by decide +kernel
theorem dX11_censor_72 : decode cX11_censor 72 = .ok (.iload 8, 2) := by decide +kernel
theorem dX11_censor_74 : decode cX11_censor 74 = .ok (.iconst 0, 1) := by decide +kernel
theorem dX11_censor_75 : decode cX11_censor 75 = .ok (.invokevirtual 156, 3) := by decide +kernel
theorem dX11_censor_78 : decode cX11_censor 78 = .ok (.iload_n 1, 1) := by decide +kernel
theorem dX11_censor_79 : decode cX11_censor 79 = .ok (.if_icmp .ne 24, 3) := by decide +kernel
theorem dX11_censor_82 : decode cX11_censor 82 = .ok (.aload_n 0, 1) := by decide +kernel
theorem dX11_censor_83 : decode cX11_censor 83 = .ok (.getfield 10, 3) := by decide +kernel
theorem dX11_censor_86 : decode cX11_censor 86 = .ok (.getfield 91, 3) := by decide +kernel
theorem dX11_censor_89 : decode cX11_censor 89 = .ok (.iload 8, 2) := by decide +kernel
theorem dX11_censor_91 : decode cX11_censor 91 = .ok (.iconst 2, 1) := by decide +kernel
theorem dX11_censor_92 : decode cX11_censor 92 = .ok (.invokevirtual 156, 3) := by decide +kernel
theorem dX11_censor_95 : decode cX11_censor 95 = .ok (.iconst 1, 1) := by decide +kernel
theorem dX11_censor_96 : decode cX11_censor 96 = .ok (.if_icmp .ne 7, 3) := by decide +kernel
theorem dX11_censor_99 : decode cX11_censor 99 = .ok (.iconst 1, 1) := by decide +kernel
theorem dX11_censor_100 : decode cX11_censor 100 = .ok (.goto 4, 3) := by decide +kernel
theorem dX11_censor_103 : decode cX11_censor 103 = .ok (.iconst 0, 1) := by decide +kernel
theorem dX11_censor_104 : decode cX11_censor 104 = .ok (.istore 9, 2) := by decide +kernel
theorem dX11_censor_106 : decode cX11_censor 106 = .ok (.iload 7, 2) := by decide +kernel
theorem dX11_censor_108 : decode cX11_censor 108 = .ok (.iload 9, 2) := by decide +kernel
theorem dX11_censor_110 : decode cX11_censor 110 = .ok (.ifCond .eq 15, 3) := by decide +kernel
theorem dX11_censor_113 : decode cX11_censor 113 = .ok (.aload_n 0, 1) := by decide +kernel
theorem dX11_censor_114 : decode cX11_censor 114 = .ok (.iload 8, 2) := by decide +kernel
theorem dX11_censor_116 : decode cX11_censor 116 = .ok (.lload 5, 2) := by decide +kernel
theorem dX11_censor_118 : decode cX11_censor 118 = .ok (.iload_n 3, 1) := by decide +kernel
theorem dX11_censor_119 : decode cX11_censor 119 = .ok (.invokevirtual 320, 3) := by decide +kernel
theorem dX11_censor_122 : decode cX11_censor 122 = .ok (.goto 4, 3) := by decide +kernel
theorem dX11_censor_125 : decode cX11_censor 125 = .ok (.iconst 0, 1) := by decide +kernel
theorem dX11_censor_126 : decode cX11_censor 126 = .ok (.iadd, 1) := by decide +kernel
theorem dX11_censor_127 : decode cX11_censor 127 = .ok (.istore 7, 2) := by decide +kernel
theorem dX11_censor_129 : decode cX11_censor 129 = .ok (.iinc 8 1, 3) := by decide +kernel
theorem dX11_censor_132 : decode cX11_censor 132 = .ok (.goto (-82), 3) := by decide +kernel
theorem dX11_censor_135 : decode cX11_censor 135 = .ok (.iload 7, 2) := by decide +kernel
theorem dX11_censor_137 : decode cX11_censor 137 = .ok (.ireturn, 1) := by decide +kernel
theorem dX11_late_0 : decode cX11_late 0 = .ok (.aload_n 0, 1) := by decide +kernel
theorem dX11_late_1 : decode cX11_late 1 = .ok (.getfield 10, 3) := by decide +kernel
theorem dX11_late_4 : decode cX11_late 4 = .ok (.iload_n 1, 1) := by decide +kernel
theorem dX11_late_5 : decode cX11_late 5 = .ok (.invokevirtual 200, 3) := by decide +kernel
theorem dX11_late_8 : decode cX11_late 8 = .ok (.astore_n 3, 1) := by decide +kernel
theorem dX11_late_9 : decode cX11_late 9 = .ok (.aload_n 3, 1) := by decide +kernel
theorem dX11_late_10 : decode cX11_late 10 = .ok (.ifnull 22, 3) := by decide +kernel
theorem dX11_late_13 : decode cX11_late 13 = .ok (.iload_n 2, 1) := by decide +kernel
theorem dX11_late_14 : decode cX11_late 14 = .ok (.iconst (-1), 1) := by decide +kernel
theorem dX11_late_15 : decode cX11_late 15 = .ok (.if_icmp .eq 19, 3) := by decide +kernel
theorem dX11_late_18 : decode cX11_late 18 = .ok (.aload_n 0, 1) := by decide +kernel
theorem dX11_late_19 : decode cX11_late 19 = .ok (.getfield 10, 3) := by decide +kernel
theorem dX11_late_22 : decode cX11_late 22 = .ok (.getfield 91, 3) := by decide +kernel
theorem dX11_late_25 : decode cX11_late 25 = .ok (.iload_n 2, 1) := by decide +kernel
theorem dX11_late_26 : decode cX11_late 26 = .ok (.invokevirtual 108, 3) := by decide +kernel
theorem dX11_late_29 : decode cX11_late 29 = .ok (.ifCond .ne 5, 3) := by decide +kernel
theorem dX11_late_32 : decode cX11_late 32 = .ok (.iconst (-1), 1) := by decide +kernel
theorem dX11_late_33 : decode cX11_late 33 = .ok (.ireturn, 1) := by decide +kernel
theorem dX11_late_34 : decode cX11_late 34 = .ok (.aload_n 0, 1) := by decide +kernel
theorem dX11_late_35 : decode cX11_late 35 = .ok (.invokevirtual 148, 3) := by decide +kernel
theorem dX11_late_38 : decode cX11_late 38 = .ok (.astore 4, 2) := by decide +kernel
theorem dX11_late_40 : decode cX11_late 40 = .ok (.iconst 0, 1) := by decide +kernel
theorem dX11_late_41 : decode cX11_late 41 = .ok (.istore 5, 2) := by decide +kernel
theorem dX11_late_43 : decode cX11_late 43 = .ok (.iconst 0, 1) := by decide +kernel
theorem dX11_late_44 : decode cX11_late 44 = .ok (.istore 6, 2) := by decide +kernel
theorem dX11_late_46 : decode cX11_late 46 = .ok (.iload 6, 2) := by decide +kernel
theorem dX11_late_48 : decode cX11_late 48 = .ok (.aload_n 0, 1) := by decide +kernel
theorem dX11_late_49 : decode cX11_late 49 = .ok (.getfield 10, 3) := by decide +kernel
theorem dX11_late_52 : decode cX11_late 52 = .ok (.getfield 145, 3) := by decide +kernel
theorem dX11_late_55 : decode cX11_late 55 = .ok (.invokevirtual 122, 3) := by decide +kernel
theorem dX11_late_58 : decode cX11_late 58 = .ok (.if_icmp .ge 77, 3) := by decide +kernel
theorem dX11_late_61 : decode cX11_late 61 = .ok (.iload_n 2, 1) := by decide +kernel
theorem dX11_late_62 : decode cX11_late 62 = .ok (.iconst (-1), 1) := by decide +kernel
theorem dX11_late_63 : decode cX11_late 63 = .ok (.if_icmp .eq 20, 3) := by decide +kernel
theorem dX11_late_66 : decode cX11_late 66 = .ok (.aload_n 0, 1) := by decide +kernel
theorem dX11_late_67 : decode cX11_late 67 = .ok (.getfield 10, 3) := by decide +kernel
theorem dX11_late_70 : decode cX11_late 70 = .ok (.getfield 145, 3) := by decide +kernel
theorem dX11_late_73 : decode cX11_late 73 = .ok (.iload 6, 2) := by decide +kernel
theorem dX11_late_75 : decode cX11_late 75 = .ok (.iconst 0, 1) := by decide +kernel
theorem dX11_late_76 : decode cX11_late 76 = .ok (.invokevirtual 156, 3) := by decide +kernel
theorem dX11_late_79 : decode cX11_late 79 = .ok (.iload_n 2, 1) := by decide +kernel
theorem dX11_late_80 : decode cX11_late 80 = .ok (.if_icmp .ne 49, 3) := by decide +kernel
theorem dX11_late_83 : decode cX11_late 83 = .ok (.aload_n 0, 1) := by decide +kernel
theorem dX11_late_84 : decode cX11_late 84 = .ok (.getfield 43, 3) := by decide +kernel
theorem dX11_late_87 : decode cX11_late 87 = .ok (.aload_n 0, 1) := by decide +kernel
theorem dX11_late_88 : decode cX11_late 88 = .ok (.getfield 10, 3) := by decide +kernel
theorem dX11_late_91 : decode cX11_late 91 = .ok (.iload 6, 2) := by decide +kernel
theorem dX11_late_93 : decode cX11_late 93 = .ok (.aload 4, 2) := by decide +kernel
theorem dX11_late_95 : decode cX11_late 95 = .ok (.aload_n 0, 1) := by decide +kernel
theorem dX11_late_96 : decode cX11_late 96 = .ok (.getfield 10, 3) := by decide +kernel
theorem dX11_late_99 : decode cX11_late 99 = .ok (.iload 6, 2) := by decide +kernel
theorem dX11_late_101 : decode cX11_late 101 = .ok (.invokevirtual 152, 3) := by decide +kernel
theorem dX11_late_104 : decode cX11_late 104 = .ok (.invokevirtual 324, 3) := by decide +kernel
theorem dX11_late_107 : decode cX11_late 107 = .ok (.iload 5, 2) := by decide +kernel
theorem dX11_late_109 : decode cX11_late 109 = .ok (.aload_n 0, 1) := by decide +kernel
theorem dX11_late_110 : decode cX11_late 110 = .ok (.getfield 43, 3) := by decide +kernel
theorem dX11_late_113 : decode cX11_late 113 = .ok (.aload_n 3, 1) := by decide +kernel
theorem dX11_late_114 : decode cX11_late 114 = .ok (.iconst 5, 1) := by decide +kernel
theorem dX11_late_115 : decode cX11_late 115 = .ok (.invokevirtual 328, 3) := by decide +kernel
theorem dX11_late_118 : decode cX11_late 118 = .ok (.ifCond .eq 7, 3) := by decide +kernel
theorem dX11_late_121 : decode cX11_late 121 = .ok (.iconst 1, 1) := by decide +kernel
theorem dX11_late_122 : decode cX11_late 122 = .ok (.goto 4, 3) := by decide +kernel
theorem dX11_late_125 : decode cX11_late 125 = .ok (.iconst 0, 1) := by decide +kernel
theorem dX11_late_126 : decode cX11_late 126 = .ok (.iadd, 1) := by decide +kernel
theorem dX11_late_127 : decode cX11_late 127 = .ok (.istore 5, 2) := by decide +kernel
theorem dX11_late_129 : decode cX11_late 129 = .ok (.iinc 6 1, 3) := by decide +kernel
theorem dX11_late_132 : decode cX11_late 132 = .ok (.goto (-86), 3) := by decide +kernel
theorem dX11_late_135 : decode cX11_late 135 = .ok (.iload 5, 2) := by decide +kernel
theorem dX11_late_137 : decode cX11_late 137 = .ok (.ireturn, 1) := by decide +kernel
theorem dX11_next_0 : decode cX11_next 0 = .ok (.iload_n 1, 1) := by decide +kernel
theorem dX11_next_1 : decode cX11_next 1 = .ok (.iconst 0, 1) := by decide +kernel
theorem dX11_next_2 : decode cX11_next 2 = .ok (.iconst 1, 1) := by decide +kernel
theorem dX11_next_3 : decode cX11_next 3 = .ok (.invokestatic 83, 3) := by decide +kernel
theorem dX11_next_6 : decode cX11_next 6 = .ok (.ifCond .ne 5, 3) := by decide +kernel
theorem dX11_next_9 : decode cX11_next 9 = .ok (.iconst (-1), 1) := by decide +kernel
theorem dX11_next_10 : decode cX11_next 10 = .ok (.ireturn, 1) := by decide +kernel
theorem dX11_next_11 : decode cX11_next 11 = .ok (.aload_n 0, 1) := by decide +kernel
theorem dX11_next_12 : decode cX11_next 12 = .ok (.getfield 10, 3) := by decide +kernel
theorem dX11_next_15 : decode cX11_next 15 = .ok (.invokevirtual 332, 3) := by decide +kernel
theorem dX11_next_18 : decode cX11_next 18 = .ok (.istore_n 2, 1) := by decide +kernel
theorem dX11_next_19 : decode cX11_next 19 = .ok (.iconst (-1), 1) := by decide +kernel
theorem dX11_next_20 : decode cX11_next 20 = .ok (.istore_n 3, 1) := by decide +kernel
theorem dX11_next_21 : decode cX11_next 21 = .ok (.iconst (-1), 1) := by decide +kernel
theorem dX11_next_22 : decode cX11_next 22 = .ok (.istore 4, 2) := by decide +kernel
theorem dX11_next_24 : decode cX11_next 24 = .ok (.iconst 0, 1) := by decide +kernel
theorem dX11_next_25 : decode cX11_next 25 = .ok (.istore 5, 2) := by decide +kernel
theorem dX11_next_27 : decode cX11_next 27 = .ok (.iload 5, 2) := by decide +kernel
theorem dX11_next_29 : decode cX11_next 29 = .ok (.aload_n 0, 1) := by decide +kernel
theorem dX11_next_30 : decode cX11_next 30 = .ok (.getfield 10, 3) := by decide +kernel
theorem dX11_next_33 : decode cX11_next 33 = .ok (.getfield 91, 3) := by decide +kernel
theorem dX11_next_36 : decode cX11_next 36 = .ok (.invokevirtual 122, 3) := by decide +kernel
theorem dX11_next_39 : decode cX11_next 39 = .ok (.if_icmp .ge 48, 3) := by decide +kernel
theorem dX11_next_42 : decode cX11_next 42 = .ok (.iload_n 2, 1) := by decide +kernel
theorem dX11_next_43 : decode cX11_next 43 = .ok (.iload 5, 2) := by decide +kernel
theorem dX11_next_45 : decode cX11_next 45 = .ok (.ishr, 1) := by decide +kernel
theorem dX11_next_46 : decode cX11_next 46 = .ok (.iconst 1, 1) := by decide +kernel
theorem dX11_next_47 : decode cX11_next 47 = .ok (.iand, 1) := by decide +kernel
theorem dX11_next_48 : decode cX11_next 48 = .ok (.ifCond .ne 33, 3) := by decide +kernel
theorem dX11_next_51 : decode cX11_next 51 = .ok (.aload_n 0, 1) := by decide +kernel
theorem dX11_next_52 : decode cX11_next 52 = .ok (.getfield 10, 3) := by decide +kernel
theorem dX11_next_55 : decode cX11_next 55 = .ok (.iload 5, 2) := by decide +kernel
theorem dX11_next_57 : decode cX11_next 57 = .ok (.invokevirtual 229, 3) := by decide +kernel
theorem dX11_next_60 : decode cX11_next 60 = .ok (.iload_n 2, 1) := by decide +kernel
theorem dX11_next_61 : decode cX11_next 61 = .ok (.iand, 1) := by decide +kernel
theorem dX11_next_62 : decode cX11_next 62 = .ok (.invokestatic 210, 3) := by decide +kernel
theorem dX11_next_65 : decode cX11_next 65 = .ok (.istore 6, 2) := by decide +kernel
theorem dX11_next_67 : decode cX11_next 67 = .ok (.iload 6, 2) := by decide +kernel
theorem dX11_next_69 : decode cX11_next 69 = .ok (.iload 4, 2) := by decide +kernel
theorem dX11_next_71 : decode cX11_next 71 = .ok (.if_icmp .le 10, 3) := by decide +kernel
theorem dX11_next_74 : decode cX11_next 74 = .ok (.iload 6, 2) := by decide +kernel
theorem dX11_next_76 : decode cX11_next 76 = .ok (.istore 4, 2) := by decide +kernel
theorem dX11_next_78 : decode cX11_next 78 = .ok (.iload 5, 2) := by decide +kernel
theorem dX11_next_80 : decode cX11_next 80 = .ok (.istore_n 3, 1) := by decide +kernel
theorem dX11_next_81 : decode cX11_next 81 = .ok (.iinc 5 1, 3) := by decide +kernel
theorem dX11_next_84 : decode cX11_next 84 = .ok (.goto (-57), 3) := by decide +kernel
theorem dX11_next_87 : decode cX11_next 87 = .ok (.iload_n 1, 1) := by decide +kernel
theorem dX11_next_88 : decode cX11_next 88 = .ok (.ifCond .ne 7, 3) := by decide +kernel
theorem dX11_next_91 : decode cX11_next 91 = .ok (.iload_n 3, 1) := by decide +kernel
theorem dX11_next_92 : decode cX11_next 92 = .ok (.goto 5, 3) := by decide +kernel
theorem dX11_next_95 : decode cX11_next 95 = .ok (.iload 4, 2) := by decide +kernel
theorem dX11_next_97 : decode cX11_next 97 = .ok (.ireturn, 1) := by decide +kernel
theorem dX11_run_0 : decode cX11_run 0 = .ok (.iload_n 1, 1) := by decide +kernel
theorem dX11_run_1 : decode cX11_run 1 = .ok (.iconst 0, 1) := by decide +kernel
theorem dX11_run_2 : decode cX11_run 2 = .ok (.ldc_w 335, 3) := by decide +kernel
theorem dX11_run_5 : decode cX11_run 5 = .ok (.invokestatic 83, 3) := by decide +kernel
theorem dX11_run_8 : decode cX11_run 8 = .ok (.ifCond .ne 9, 3) := by decide +kernel
theorem dX11_run_11 : decode cX11_run 11 = .ok (.aload_n 0, 1) := by decide +kernel
theorem dX11_run_12 : decode cX11_run 12 = .ok (.iconst (-1), 1) := by decide +kernel
theorem dX11_run_13 : decode cX11_run 13 = .ok (.invokevirtual 87, 3) := by decide +kernel
theorem dX11_run_16 : decode cX11_run 16 = .ok (.ireturn, 1) := by decide +kernel
theorem dX11_run_17 : decode cX11_run 17 = .ok (.aload_n 0, 1) := by decide +kernel
theorem dX11_run_18 : decode cX11_run 18 = .ok (.aload_n 0, 1) := by decide +kernel
theorem dX11_run_19 : decode cX11_run 19 = .ok (.getfield 71, 3) := by decide +kernel
theorem dX11_run_22 : decode cX11_run 22 = .ok (.aload_n 0, 1) := by decide +kernel
theorem dX11_run_23 : decode cX11_run 23 = .ok (.getfield 10, 3) := by decide +kernel
theorem dX11_run_26 : decode cX11_run 26 = .ok (.aload_n 0, 1) := by decide +kernel
theorem dX11_run_27 : decode cX11_run 27 = .ok (.invokevirtual 239, 3) := by decide +kernel
theorem dX11_run_30 : decode cX11_run 30 = .ok (.aload_n 0, 1) := by decide +kernel
theorem dX11_run_31 : decode cX11_run 31 = .ok (.getfield 43, 3) := by decide +kernel
theorem dX11_run_34 : decode cX11_run 34 = .ok (.iload_n 1, 1) := by decide +kernel
theorem dX11_run_35 : decode cX11_run 35 = .ok (.invokevirtual 336, 3) := by decide +kernel
theorem dX11_run_38 : decode cX11_run 38 = .ok (.invokevirtual 112, 3) := by decide +kernel
theorem dX11_run_41 : decode cX11_run 41 = .ok (.ireturn, 1) := by decide +kernel
theorem dX11_world_0 : decode cX11_world 0 = .ok (.aload_n 0, 1) := by decide +kernel
theorem dX11_world_1 : decode cX11_world 1 = .ok (.getfield 71, 3) := by decide +kernel
theorem dX11_world_4 : decode cX11_world 4 = .ok (.iload_n 1, 1) := by decide +kernel
theorem dX11_world_5 : decode cX11_world 5 = .ok (.invokevirtual 340, 3) := by decide +kernel
theorem dX11_world_8 : decode cX11_world 8 = .ok (.ifCond .eq 12, 3) := by decide +kernel
theorem dX11_world_11 : decode cX11_world 11 = .ok (.iload_n 2, 1) := by decide +kernel
theorem dX11_world_12 : decode cX11_world 12 = .ok (.iconst 0, 1) := by decide +kernel
theorem dX11_world_13 : decode cX11_world 13 = .ok (.iconst 2, 1) := by decide +kernel
theorem dX11_world_14 : decode cX11_world 14 = .ok (.invokestatic 83, 3) := by decide +kernel
theorem dX11_world_17 : decode cX11_world 17 = .ok (.ifCond .ne 5, 3) := by decide +kernel
theorem dX11_world_20 : decode cX11_world 20 = .ok (.iconst (-1), 1) := by decide +kernel
theorem dX11_world_21 : decode cX11_world 21 = .ok (.ireturn, 1) := by decide +kernel
theorem dX11_world_22 : decode cX11_world 22 = .ok (.iload_n 2, 1) := by decide +kernel
theorem dX11_world_23 : decode cX11_world 23 = .ok (.ifCond .ne 12, 3) := by decide +kernel
theorem dX11_world_26 : decode cX11_world 26 = .ok (.aload_n 0, 1) := by decide +kernel
theorem dX11_world_27 : decode cX11_world 27 = .ok (.getfield 71, 3) := by decide +kernel
theorem dX11_world_30 : decode cX11_world 30 = .ok (.iload_n 1, 1) := by decide +kernel
theorem dX11_world_31 : decode cX11_world 31 = .ok (.invokevirtual 343, 3) := by decide +kernel
theorem dX11_world_34 : decode cX11_world 34 = .ok (.ireturn, 1) := by decide +kernel
theorem dX11_world_35 : decode cX11_world 35 = .ok (.iload_n 2, 1) := by decide +kernel
theorem dX11_world_36 : decode cX11_world 36 = .ok (.iconst 1, 1) := by decide +kernel
theorem dX11_world_37 : decode cX11_world 37 = .ok (.if_icmp .ne 14, 3) := by decide +kernel
theorem dX11_world_40 : decode cX11_world 40 = .ok (.aload_n 0, 1) := by decide +kernel
theorem dX11_world_41 : decode cX11_world 41 = .ok (.getfield 71, 3) := by decide +kernel
theorem dX11_world_44 : decode cX11_world 44 = .ok (.iload_n 1, 1) := by decide +kernel
theorem dX11_world_45 : decode cX11_world 45 = .ok (.invokevirtual 346, 3) := by decide +kernel
theorem dX11_world_48 : decode cX11_world 48 = .ok (.goto 11, 3) := by decide +kernel
theorem dX11_world_51 : decode cX11_world 51 = .ok (.aload_n 0, 1) := by decide +kernel
theorem dX11_world_52 : decode cX11_world 52 = .ok (.getfield 71, 3) := by decide +kernel
theorem dX11_world_55 : decode cX11_world 55 = .ok (.iload_n 1, 1) := by decide +kernel
theorem dX11_world_56 : decode cX11_world 56 = .ok (.invokevirtual 349, 3) := by decide +kernel
theorem dX11_world_59 : decode cX11_world 59 = .ok (.ireturn, 1) := by decide +kernel
theorem dX11_image_0 : decode cX11_image 0 = .ok (.iload_n 1, 1) := by decide +kernel
theorem dX11_image_1 : decode cX11_image 1 = .ok (.iconst 0, 1) := by decide +kernel
theorem dX11_image_2 : decode cX11_image 2 = .ok (.iconst 1, 1) := by decide +kernel
theorem dX11_image_3 : decode cX11_image 3 = .ok (.invokestatic 83, 3) := by decide +kernel
theorem dX11_image_6 : decode cX11_image 6 = .ok (.ifCond .ne 9, 3) := by decide +kernel
theorem dX11_image_9 : decode cX11_image 9 = .ok (.aload_n 0, 1) := by decide +kernel
theorem dX11_image_10 : decode cX11_image 10 = .ok (.iconst (-1), 1) := by decide +kernel
theorem dX11_image_11 : decode cX11_image 11 = .ok (.invokevirtual 87, 3) := by decide +kernel
theorem dX11_image_14 : decode cX11_image 14 = .ok (.ireturn, 1) := by decide +kernel
theorem dX11_image_15 : decode cX11_image 15 = .ok (.aload_n 0, 1) := by decide +kernel
theorem dX11_image_16 : decode cX11_image 16 = .ok (.getfield 16, 3) := by decide +kernel
theorem dX11_image_19 : decode cX11_image 19 = .ok (.iload_n 1, 1) := by decide +kernel
theorem dX11_image_20 : decode cX11_image 20 = .ok (.aaload, 1) := by decide +kernel
theorem dX11_image_21 : decode cX11_image 21 = .ok (.aload_n 0, 1) := by decide +kernel
theorem dX11_image_22 : decode cX11_image 22 = .ok (.getfield 10, 3) := by decide +kernel
theorem dX11_image_25 : decode cX11_image 25 = .ok (.invokevirtual 352, 3) := by decide +kernel
theorem dX11_image_28 : decode cX11_image 28 = .ok (.aload_n 0, 1) := by decide +kernel
theorem dX11_image_29 : decode cX11_image 29 = .ok (.getfield 20, 3) := by decide +kernel
theorem dX11_image_32 : decode cX11_image 32 = .ok (.iload_n 1, 1) := by decide +kernel
theorem dX11_image_33 : decode cX11_image 33 = .ok (.iconst 1, 1) := by decide +kernel
theorem dX11_image_34 : decode cX11_image 34 = .ok (.bastore, 1) := by decide +kernel
theorem dX11_image_35 : decode cX11_image 35 = .ok (.aload_n 0, 1) := by decide +kernel
theorem dX11_image_36 : decode cX11_image 36 = .ok (.iconst 0, 1) := by decide +kernel
theorem dX11_image_37 : decode cX11_image 37 = .ok (.invokevirtual 112, 3) := by decide +kernel
theorem dX11_image_40 : decode cX11_image 40 = .ok (.ireturn, 1) := by decide +kernel
theorem dX11_back_0 : decode cX11_back 0 = .ok (.iload_n 1, 1) := by decide +kernel
theorem dX11_back_1 : decode cX11_back 1 = .ok (.iconst 0, 1) := by decide +kernel
theorem dX11_back_2 : decode cX11_back 2 = .ok (.iconst 1, 1) := by decide +kernel
theorem dX11_back_3 : decode cX11_back 3 = .ok (.invokestatic 83, 3) := by decide +kernel
theorem dX11_back_6 : decode cX11_back 6 = .ok (.ifCond .ne 9, 3) := by decide +kernel
theorem dX11_back_9 : decode cX11_back 9 = .ok (.aload_n 0, 1) := by decide +kernel
theorem dX11_back_10 : decode cX11_back 10 = .ok (.iconst (-1), 1) := by decide +kernel
theorem dX11_back_11 : decode cX11_back 11 = .ok (.invokevirtual 87, 3) := by decide +kernel
theorem dX11_back_14 : decode cX11_back 14 = .ok (.ireturn, 1) := by decide +kernel
theorem dX11_back_15 : decode cX11_back 15 = .ok (.aload_n 0, 1) := by decide +kernel
theorem dX11_back_16 : decode cX11_back 16 = .ok (.getfield 20, 3) := by decide +kernel
theorem dX11_back_19 : decode cX11_back 19 = .ok (.iload_n 1, 1) := by decide +kernel
theorem dX11_back_20 : decode cX11_back 20 = .ok (.baload, 1) := by decide +kernel
theorem dX11_back_21 : decode cX11_back 21 = .ok (.ifCond .ne 10, 3) := by decide +kernel
theorem dX11_back_24 : decode cX11_back 24 = .ok (.aload_n 0, 1) := by decide +kernel
theorem dX11_back_25 : decode cX11_back 25 = .ok (.bipush (-2), 2) := by decide +kernel
theorem dX11_back_27 : decode cX11_back 27 = .ok (.invokevirtual 87, 3) := by decide +kernel
theorem dX11_back_30 : decode cX11_back 30 = .ok (.ireturn, 1) := by decide +kernel
theorem dX11_back_31 : decode cX11_back 31 = .ok (.aload_n 0, 1) := by decide +kernel
theorem dX11_back_32 : decode cX11_back 32 = .ok (.getfield 10, 3) := by decide +kernel
theorem dX11_back_35 : decode cX11_back 35 = .ok (.aload_n 0, 1) := by decide +kernel
theorem dX11_back_36 : decode cX11_back 36 = .ok (.getfield 16, 3) := by decide +kernel
theorem dX11_back_39 : decode cX11_back 39 = .ok (.iload_n 1, 1) := by decide +kernel
theorem dX11_back_40 : decode cX11_back 40 = .ok (.aaload, 1) := by decide +kernel
theorem dX11_back_41 : decode cX11_back 41 = .ok (.invokevirtual 352, 3) := by decide +kernel
theorem dX11_back_44 : decode cX11_back 44 = .ok (.aload_n 0, 1) := by decide +kernel
theorem dX11_back_45 : decode cX11_back 45 = .ok (.iconst 0, 1) := by decide +kernel
theorem dX11_back_46 : decode cX11_back 46 = .ok (.invokevirtual 105, 3) := by decide +kernel
theorem dX11_back_49 : decode cX11_back 49 = .ok (.ireturn, 1) := by decide +kernel
theorem dX11_count_0 : decode cX11_count 0 = .ok (.iload_n 1, 1) := by decide +kernel
theorem dX11_count_1 : decode cX11_count 1 = .ok (.tableswitch 194 0 13 #[71, 82, 93, 104, 115, 123, 134, 142, 150, 157, 164, 171, 178, 186], 71) := by decide +kernel
theorem dX11_count_72 : decode cX11_count 72 = .ok (.aload_n 0, 1) := by decide +kernel
theorem dX11_count_73 : decode cX11_count 73 = .ok (.getfield 10, 3) := by decide +kernel
theorem dX11_count_76 : decode cX11_count 76 = .ok (.getfield 91, 3) := by decide +kernel
theorem dX11_count_79 : decode cX11_count 79 = .ok (.invokevirtual 122, 3) := by decide +kernel
theorem dX11_count_82 : decode cX11_count 82 = .ok (.ireturn, 1) := by decide +kernel
theorem dX11_count_83 : decode cX11_count 83 = .ok (.aload_n 0, 1) := by decide +kernel
theorem dX11_count_84 : decode cX11_count 84 = .ok (.getfield 10, 3) := by decide +kernel
theorem dX11_count_87 : decode cX11_count 87 = .ok (.getfield 119, 3) := by decide +kernel
theorem dX11_count_90 : decode cX11_count 90 = .ok (.invokevirtual 122, 3) := by decide +kernel
theorem dX11_count_93 : decode cX11_count 93 = .ok (.ireturn, 1) := by decide +kernel
theorem dX11_count_94 : decode cX11_count 94 = .ok (.aload_n 0, 1) := by decide +kernel
theorem dX11_count_95 : decode cX11_count 95 = .ok (.getfield 10, 3) := by decide +kernel
theorem dX11_count_98 : decode cX11_count 98 = .ok (.getfield 125, 3) := by decide +kernel
theorem dX11_count_101 : decode cX11_count 101 = .ok (.invokevirtual 122, 3) := by decide +kernel
theorem dX11_count_104 : decode cX11_count 104 = .ok (.ireturn, 1) := by decide +kernel
theorem dX11_count_105 : decode cX11_count 105 = .ok (.aload_n 0, 1) := by decide +kernel
theorem dX11_count_106 : decode cX11_count 106 = .ok (.getfield 10, 3) := by decide +kernel
theorem dX11_count_109 : decode cX11_count 109 = .ok (.getfield 145, 3) := by decide +kernel
theorem dX11_count_112 : decode cX11_count 112 = .ok (.invokevirtual 122, 3) := by decide +kernel
theorem dX11_count_115 : decode cX11_count 115 = .ok (.ireturn, 1) := by decide +kernel
theorem dX11_count_116 : decode cX11_count 116 = .ok (.aload_n 0, 1) := by decide +kernel
theorem dX11_count_117 : decode cX11_count 117 = .ok (.getfield 10, 3) := by decide +kernel
theorem dX11_count_120 : decode cX11_count 120 = .ok (.getfield 186, 3) := by decide +kernel
theorem dX11_count_123 : decode cX11_count 123 = .ok (.ireturn, 1) := by decide +kernel
theorem dX11_count_124 : decode cX11_count 124 = .ok (.aload_n 0, 1) := by decide +kernel
theorem dX11_count_125 : decode cX11_count 125 = .ok (.getfield 10, 3) := by decide +kernel
theorem dX11_count_128 : decode cX11_count 128 = .ok (.invokevirtual 332, 3) := by decide +kernel
theorem dX11_count_131 : decode cX11_count 131 = .ok (.invokestatic 210, 3) := by decide +kernel
theorem dX11_count_134 : decode cX11_count 134 = .ok (.ireturn, 1) := by decide +kernel
theorem dX11_count_135 : decode cX11_count 135 = .ok (.aload_n 0, 1) := by decide +kernel
theorem dX11_count_136 : decode cX11_count 136 = .ok (.getfield 10, 3) := by decide +kernel
theorem dX11_count_139 : decode cX11_count 139 = .ok (.invokevirtual 356, 3) := by decide +kernel
theorem dX11_count_142 : decode cX11_count 142 = .ok (.ireturn, 1) := by decide +kernel
theorem dX11_count_143 : decode cX11_count 143 = .ok (.aload_n 0, 1) := by decide +kernel
theorem dX11_count_144 : decode cX11_count 144 = .ok (.getfield 27, 3) := by decide +kernel
theorem dX11_count_147 : decode cX11_count 147 = .ok (.invokevirtual 176, 3) := by decide +kernel
theorem dX11_count_150 : decode cX11_count 150 = .ok (.ireturn, 1) := by decide +kernel
theorem dX11_count_151 : decode cX11_count 151 = .ok (.aload_n 0, 1) := by decide +kernel
theorem dX11_count_152 : decode cX11_count 152 = .ok (.getfield 75, 3) := by decide +kernel
theorem dX11_count_155 : decode cX11_count 155 = .ok (.iconst 1, 1) := by decide +kernel
theorem dX11_count_156 : decode cX11_count 156 = .ok (.iaload, 1) := by decide +kernel
theorem dX11_count_157 : decode cX11_count 157 = .ok (.ireturn, 1) := by decide +kernel
theorem dX11_count_158 : decode cX11_count 158 = .ok (.aload_n 0, 1) := by decide +kernel
theorem dX11_count_159 : decode cX11_count 159 = .ok (.getfield 75, 3) := by decide +kernel
theorem dX11_count_162 : decode cX11_count 162 = .ok (.iconst 2, 1) := by decide +kernel
theorem dX11_count_163 : decode cX11_count 163 = .ok (.iaload, 1) := by decide +kernel
theorem dX11_count_164 : decode cX11_count 164 = .ok (.ireturn, 1) := by decide +kernel
theorem dX11_count_165 : decode cX11_count 165 = .ok (.aload_n 0, 1) := by decide +kernel
theorem dX11_count_166 : decode cX11_count 166 = .ok (.getfield 75, 3) := by decide +kernel
theorem dX11_count_169 : decode cX11_count 169 = .ok (.iconst 3, 1) := by decide +kernel
theorem dX11_count_170 : decode cX11_count 170 = .ok (.iaload, 1) := by decide +kernel
theorem dX11_count_171 : decode cX11_count 171 = .ok (.ireturn, 1) := by decide +kernel
theorem dX11_count_172 : decode cX11_count 172 = .ok (.aload_n 0, 1) := by decide +kernel
theorem dX11_count_173 : decode cX11_count 173 = .ok (.getfield 75, 3) := by decide +kernel
theorem dX11_count_176 : decode cX11_count 176 = .ok (.iconst 5, 1) := by decide +kernel
theorem dX11_count_177 : decode cX11_count 177 = .ok (.iaload, 1) := by decide +kernel
theorem dX11_count_178 : decode cX11_count 178 = .ok (.ireturn, 1) := by decide +kernel
theorem dX11_count_179 : decode cX11_count 179 = .ok (.aload_n 0, 1) := by decide +kernel
theorem dX11_count_180 : decode cX11_count 180 = .ok (.getfield 75, 3) := by decide +kernel
theorem dX11_count_183 : decode cX11_count 183 = .ok (.bipush 6, 2) := by decide +kernel
theorem dX11_count_185 : decode cX11_count 185 = .ok (.iaload, 1) := by decide +kernel
theorem dX11_count_186 : decode cX11_count 186 = .ok (.ireturn, 1) := by decide +kernel
theorem dX11_count_187 : decode cX11_count 187 = .ok (.aload_n 0, 1) := by decide +kernel
theorem dX11_count_188 : decode cX11_count 188 = .ok (.getfield 10, 3) := by decide +kernel
theorem dX11_count_191 : decode cX11_count 191 = .ok (.getfield 204, 3) := by decide +kernel
theorem dX11_count_194 : decode cX11_count 194 = .ok (.ireturn, 1) := by decide +kernel
theorem dX11_count_195 : decode cX11_count 195 = .ok (.iconst (-1), 1) := by decide +kernel
theorem dX11_count_196 : decode cX11_count 196 = .ok (.ireturn, 1) := by decide +kernel
theorem dX11_status_0 : decode cX11_status 0 = .ok (.aload_n 0, 1) := by decide +kernel
theorem dX11_status_1 : decode cX11_status 1 = .ok (.getfield 359, 3) := by decide +kernel
theorem dX11_status_4 : decode cX11_status 4 = .ok (.ireturn, 1) := by decide +kernel
theorem dX11_refuse_0 : decode cX11_refuse 0 = .ok (.aload_n 0, 1) := by decide +kernel
theorem dX11_refuse_1 : decode cX11_refuse 1 = .ok (.iload_n 1, 1) := by decide +kernel
theorem dX11_refuse_2 : decode cX11_refuse 2 = .ok (.putfield 359, 3) := by decide +kernel
theorem dX11_refuse_5 : decode cX11_refuse 5 = .ok (.iload_n 1, 1) := by decide +kernel
theorem dX11_refuse_6 : decode cX11_refuse 6 = .ok (.ineg, 1) := by decide +kernel
theorem dX11_refuse_7 : decode cX11_refuse 7 = .ok (.iconst 0, 1) := by decide +kernel
theorem dX11_refuse_8 : decode cX11_refuse 8 = .ok (.bipush 6, 2) := by decide +kernel
theorem dX11_refuse_10 : decode cX11_refuse 10 = .ok (.invokestatic 83, 3) := by decide +kernel
theorem dX11_refuse_13 : decode cX11_refuse 13 = .ok (.ifCond .eq 14, 3) := by decide +kernel
theorem dX11_refuse_16 : decode cX11_refuse 16 = .ok (.aload_n 0, 1) := by decide +kernel
theorem dX11_refuse_17 : decode cX11_refuse 17 = .ok (.getfield 75, 3) := by decide +kernel
theorem dX11_refuse_20 : decode cX11_refuse 20 = .ok (.iload_n 1, 1) := by decide +kernel
theorem dX11_refuse_21 : decode cX11_refuse 21 = .ok (.ineg, 1) := by decide +kernel
theorem dX11_refuse_22 : decode cX11_refuse 22 = .ok (.dup2, 1) := by decide +kernel
theorem dX11_refuse_23 : decode cX11_refuse 23 = .ok (.iaload, 1) := by decide +kernel
theorem dX11_refuse_24 : decode cX11_refuse 24 = .ok (.iconst 1, 1) := by decide +kernel
theorem dX11_refuse_25 : decode cX11_refuse 25 = .ok (.iadd, 1) := by decide +kernel
theorem dX11_refuse_26 : decode cX11_refuse 26 = .ok (.iastore, 1) := by decide +kernel
theorem dX11_refuse_27 : decode cX11_refuse 27 = .ok (.iload_n 1, 1) := by decide +kernel
theorem dX11_refuse_28 : decode cX11_refuse 28 = .ok (.ireturn, 1) := by decide +kernel
theorem dX11_accept_0 : decode cX11_accept 0 = .ok (.aload_n 0, 1) := by decide +kernel
theorem dX11_accept_1 : decode cX11_accept 1 = .ok (.iconst 0, 1) := by decide +kernel
theorem dX11_accept_2 : decode cX11_accept 2 = .ok (.putfield 359, 3) := by decide +kernel
theorem dX11_accept_5 : decode cX11_accept 5 = .ok (.iload_n 1, 1) := by decide +kernel
theorem dX11_accept_6 : decode cX11_accept 6 = .ok (.ireturn, 1) := by decide +kernel
theorem dX11_changed_0 : decode cX11_changed 0 = .ok (.aload_n 0, 1) := by decide +kernel
theorem dX11_changed_1 : decode cX11_changed 1 = .ok (.iconst 0, 1) := by decide +kernel
theorem dX11_changed_2 : decode cX11_changed 2 = .ok (.putfield 362, 3) := by decide +kernel
theorem dX11_changed_5 : decode cX11_changed 5 = .ok (.aload_n 0, 1) := by decide +kernel
theorem dX11_changed_6 : decode cX11_changed 6 = .ok (.iconst 0, 1) := by decide +kernel
theorem dX11_changed_7 : decode cX11_changed 7 = .ok (.putfield 366, 3) := by decide +kernel
theorem dX11_changed_10 : decode cX11_changed 10 = .ok (.aload_n 0, 1) := by decide +kernel
theorem dX11_changed_11 : decode cX11_changed 11 = .ok (.iload_n 1, 1) := by decide +kernel
theorem dX11_changed_12 : decode cX11_changed 12 = .ok (.invokevirtual 112, 3) := by decide +kernel
theorem dX11_changed_15 : decode cX11_changed 15 = .ok (.ireturn, 1) := by decide +kernel
theorem dX11_freshReadings_0 : decode cX11_freshReadings 0 = .ok (.aload_n 0, 1) := by decide +kernel
theorem dX11_freshReadings_1 : decode cX11_freshReadings 1 = .ok (.getfield 362, 3) := by decide +kernel
theorem dX11_freshReadings_4 : decode cX11_freshReadings 4 = .ok (.ifCond .ne 23, 3) := by decide +kernel
theorem dX11_freshReadings_7 : decode cX11_freshReadings 7 = .ok (.aload_n 0, 1) := by decide +kernel
theorem dX11_freshReadings_8 : decode cX11_freshReadings 8 = .ok (.getfield 50, 3) := by decide +kernel
theorem dX11_freshReadings_11 : decode cX11_freshReadings 11 = .ok (.aload_n 0, 1) := by decide +kernel
theorem dX11_freshReadings_12 : decode cX11_freshReadings 12 = .ok (.getfield 10, 3) := by decide +kernel
theorem dX11_freshReadings_15 : decode cX11_freshReadings 15 = .ok (.aload_n 0, 1) := by decide +kernel
theorem dX11_freshReadings_16 : decode cX11_freshReadings 16 = .ok (.getfield 43, 3) := by decide +kernel
theorem dX11_freshReadings_19 : decode cX11_freshReadings 19 = .ok (.invokevirtual 369, 3) := by decide +kernel
theorem dX11_freshReadings_22 : decode cX11_freshReadings 22 = .ok (.aload_n 0, 1) := by decide +kernel
theorem dX11_freshReadings_23 : decode cX11_freshReadings 23 = .ok (.iconst 1, 1) := by decide +kernel
theorem dX11_freshReadings_24 : decode cX11_freshReadings 24 = .ok (.putfield 362, 3) := by decide +kernel
theorem dX11_freshReadings_27 : decode cX11_freshReadings 27 = .ok (.aload_n 0, 1) := by decide +kernel
theorem dX11_freshReadings_28 : decode cX11_freshReadings 28 = .ok (.getfield 50, 3) := by decide +kernel
theorem dX11_freshReadings_31 : decode cX11_freshReadings 31 = .ok (.areturn, 1) := by decide +kernel
theorem dX11_freshStemma_0 : decode cX11_freshStemma 0 = .ok (.aload_n 0, 1) := by decide +kernel
theorem dX11_freshStemma_1 : decode cX11_freshStemma 1 = .ok (.getfield 366, 3) := by decide +kernel
theorem dX11_freshStemma_4 : decode cX11_freshStemma 4 = .ok (.ifCond .ne 23, 3) := by decide +kernel
theorem dX11_freshStemma_7 : decode cX11_freshStemma 7 = .ok (.aload_n 0, 1) := by decide +kernel
theorem dX11_freshStemma_8 : decode cX11_freshStemma 8 = .ok (.getfield 57, 3) := by decide +kernel
theorem dX11_freshStemma_11 : decode cX11_freshStemma 11 = .ok (.aload_n 0, 1) := by decide +kernel
theorem dX11_freshStemma_12 : decode cX11_freshStemma 12 = .ok (.getfield 10, 3) := by decide +kernel
theorem dX11_freshStemma_15 : decode cX11_freshStemma 15 = .ok (.aload_n 0, 1) := by decide +kernel
theorem dX11_freshStemma_16 : decode cX11_freshStemma 16 = .ok (.invokevirtual 148, 3) := by decide +kernel
theorem dX11_freshStemma_19 : decode cX11_freshStemma 19 = .ok (.invokevirtual 373, 3) := by decide +kernel
theorem dX11_freshStemma_22 : decode cX11_freshStemma 22 = .ok (.aload_n 0, 1) := by decide +kernel
theorem dX11_freshStemma_23 : decode cX11_freshStemma 23 = .ok (.iconst 1, 1) := by decide +kernel
theorem dX11_freshStemma_24 : decode cX11_freshStemma 24 = .ok (.putfield 366, 3) := by decide +kernel
theorem dX11_freshStemma_27 : decode cX11_freshStemma 27 = .ok (.aload_n 0, 1) := by decide +kernel
theorem dX11_freshStemma_28 : decode cX11_freshStemma 28 = .ok (.getfield 57, 3) := by decide +kernel
theorem dX11_freshStemma_31 : decode cX11_freshStemma 31 = .ok (.areturn, 1) := by decide +kernel
theorem dX11_areTwoCopies_0 : decode cX11_areTwoCopies 0 = .ok (.iload_n 1, 1) := by decide +kernel
theorem dX11_areTwoCopies_1 : decode cX11_areTwoCopies 1 = .ok (.iload_n 2, 1) := by decide +kernel
theorem dX11_areTwoCopies_2 : decode cX11_areTwoCopies 2 = .ok (.if_icmp .eq 35, 3) := by decide +kernel
theorem dX11_areTwoCopies_5 : decode cX11_areTwoCopies 5 = .ok (.aload_n 0, 1) := by decide +kernel
theorem dX11_areTwoCopies_6 : decode cX11_areTwoCopies 6 = .ok (.getfield 10, 3) := by decide +kernel
theorem dX11_areTwoCopies_9 : decode cX11_areTwoCopies 9 = .ok (.getfield 91, 3) := by decide +kernel
theorem dX11_areTwoCopies_12 : decode cX11_areTwoCopies 12 = .ok (.iload_n 1, 1) := by decide +kernel
theorem dX11_areTwoCopies_13 : decode cX11_areTwoCopies 13 = .ok (.invokevirtual 108, 3) := by decide +kernel
theorem dX11_areTwoCopies_16 : decode cX11_areTwoCopies 16 = .ok (.ifCond .eq 21, 3) := by decide +kernel
theorem dX11_areTwoCopies_19 : decode cX11_areTwoCopies 19 = .ok (.aload_n 0, 1) := by decide +kernel
theorem dX11_areTwoCopies_20 : decode cX11_areTwoCopies 20 = .ok (.getfield 10, 3) := by decide +kernel
theorem dX11_areTwoCopies_23 : decode cX11_areTwoCopies 23 = .ok (.getfield 91, 3) := by decide +kernel
theorem dX11_areTwoCopies_26 : decode cX11_areTwoCopies 26 = .ok (.iload_n 2, 1) := by decide +kernel
theorem dX11_areTwoCopies_27 : decode cX11_areTwoCopies 27 = .ok (.invokevirtual 108, 3) := by decide +kernel
theorem dX11_areTwoCopies_30 : decode cX11_areTwoCopies 30 = .ok (.ifCond .eq 7, 3) := by decide +kernel
theorem dX11_areTwoCopies_33 : decode cX11_areTwoCopies 33 = .ok (.iconst 1, 1) := by decide +kernel
theorem dX11_areTwoCopies_34 : decode cX11_areTwoCopies 34 = .ok (.goto 4, 3) := by decide +kernel
theorem dX11_areTwoCopies_37 : decode cX11_areTwoCopies 37 = .ok (.iconst 0, 1) := by decide +kernel
theorem dX11_areTwoCopies_38 : decode cX11_areTwoCopies 38 = .ok (.ireturn, 1) := by decide +kernel
theorem dX11_takeFromRow_0 : decode cX11_takeFromRow 0 = .ok (.aload_n 0, 1) := by decide +kernel
theorem dX11_takeFromRow_1 : decode cX11_takeFromRow 1 = .ok (.getfield 27, 3) := by decide +kernel
theorem dX11_takeFromRow_4 : decode cX11_takeFromRow 4 = .ok (.iload_n 2, 1) := by decide +kernel
theorem dX11_takeFromRow_5 : decode cX11_takeFromRow 5 = .ok (.invokevirtual 377, 3) := by decide +kernel
theorem dX11_takeFromRow_8 : decode cX11_takeFromRow 8 = .ok (.istore_n 3, 1) := by decide +kernel
theorem dX11_takeFromRow_9 : decode cX11_takeFromRow 9 = .ok (.aload_n 0, 1) := by decide +kernel
theorem dX11_takeFromRow_10 : decode cX11_takeFromRow 10 = .ok (.getfield 27, 3) := by decide +kernel
theorem dX11_takeFromRow_13 : decode cX11_takeFromRow 13 = .ok (.iload_n 2, 1) := by decide +kernel
theorem dX11_takeFromRow_14 : decode cX11_takeFromRow 14 = .ok (.iconst 1, 1) := by decide +kernel
theorem dX11_takeFromRow_15 : decode cX11_takeFromRow 15 = .ok (.iadd, 1) := by decide +kernel
theorem dX11_takeFromRow_16 : decode cX11_takeFromRow 16 = .ok (.invokevirtual 377, 3) := by decide +kernel
theorem dX11_takeFromRow_19 : decode cX11_takeFromRow 19 = .ok (.istore 4, 2) := by decide +kernel
theorem dX11_takeFromRow_21 : decode cX11_takeFromRow 21 = .ok (.aload_n 0, 1) := by decide +kernel
theorem dX11_takeFromRow_22 : decode cX11_takeFromRow 22 = .ok (.getfield 27, 3) := by decide +kernel
theorem dX11_takeFromRow_25 : decode cX11_takeFromRow 25 = .ok (.iload_n 2, 1) := by decide +kernel
theorem dX11_takeFromRow_26 : decode cX11_takeFromRow 26 = .ok (.iconst 2, 1) := by decide +kernel
theorem dX11_takeFromRow_27 : decode cX11_takeFromRow 27 = .ok (.iadd, 1) := by decide +kernel
theorem dX11_takeFromRow_28 : decode cX11_takeFromRow 28 = .ok (.invokevirtual 377, 3) := by decide +kernel
theorem dX11_takeFromRow_31 : decode cX11_takeFromRow 31 = .ok (.istore 5, 2) := by decide +kernel
theorem dX11_takeFromRow_33 : decode cX11_takeFromRow 33 = .ok (.iload 5, 2) := by decide +kernel
theorem dX11_takeFromRow_35 : decode cX11_takeFromRow 35 = .ok (.sipush 255, 3) := by decide +kernel
theorem dX11_takeFromRow_38 : decode cX11_takeFromRow 38 = .ok (.if_icmp .ne 7, 3) := by decide +kernel
theorem dX11_takeFromRow_41 : decode cX11_takeFromRow 41 = .ok (.iconst (-1), 1) := by decide +kernel
theorem dX11_takeFromRow_42 : decode cX11_takeFromRow 42 = .ok (.goto 5, 3) := by decide +kernel
theorem dX11_takeFromRow_45 : decode cX11_takeFromRow 45 = .ok (.iload 5, 2) := by decide +kernel
theorem dX11_takeFromRow_47 : decode cX11_takeFromRow 47 = .ok (.istore 6, 2) := by decide +kernel
theorem dX11_takeFromRow_49 : decode cX11_takeFromRow 49 = .ok (.iload_n 3, 1) := by decide +kernel
theorem dX11_takeFromRow_50 : decode cX11_takeFromRow 50 = .ok (.iload 4, 2) := by decide +kernel
theorem dX11_takeFromRow_52 : decode cX11_takeFromRow 52 = .ok (.iconst 0, 1) := by decide +kernel
theorem dX11_takeFromRow_53 : decode cX11_takeFromRow 53 = .ok (.invokestatic 131, 3) := by decide +kernel
theorem dX11_takeFromRow_56 : decode cX11_takeFromRow 56 = .ok (.ifCond .eq 52, 3) := by decide +kernel
theorem dX11_takeFromRow_59 : decode cX11_takeFromRow 59 = .ok (.aload_n 0, 1) := by decide +kernel
theorem dX11_takeFromRow_60 : decode cX11_takeFromRow 60 = .ok (.getfield 10, 3) := by decide +kernel
theorem dX11_takeFromRow_63 : decode cX11_takeFromRow 63 = .ok (.iload 6, 2) := by decide +kernel
theorem dX11_takeFromRow_65 : decode cX11_takeFromRow 65 = .ok (.invokevirtual 134, 3) := by decide +kernel
theorem dX11_takeFromRow_68 : decode cX11_takeFromRow 68 = .ok (.ifCond .eq 40, 3) := by decide +kernel
theorem dX11_takeFromRow_71 : decode cX11_takeFromRow 71 = .ok (.aload_n 0, 1) := by decide +kernel
theorem dX11_takeFromRow_72 : decode cX11_takeFromRow 72 = .ok (.getfield 10, 3) := by decide +kernel
theorem dX11_takeFromRow_75 : decode cX11_takeFromRow 75 = .ok (.iload_n 1, 1) := by decide +kernel
theorem dX11_takeFromRow_76 : decode cX11_takeFromRow 76 = .ok (.iload_n 3, 1) := by decide +kernel
theorem dX11_takeFromRow_77 : decode cX11_takeFromRow 77 = .ok (.iload 4, 2) := by decide +kernel
theorem dX11_takeFromRow_79 : decode cX11_takeFromRow 79 = .ok (.iconst 0, 1) := by decide +kernel
theorem dX11_takeFromRow_80 : decode cX11_takeFromRow 80 = .ok (.invokevirtual 137, 3) := by decide +kernel
theorem dX11_takeFromRow_83 : decode cX11_takeFromRow 83 = .ok (.ifCond .ne 25, 3) := by decide +kernel
theorem dX11_takeFromRow_86 : decode cX11_takeFromRow 86 = .ok (.aload_n 0, 1) := by decide +kernel
theorem dX11_takeFromRow_87 : decode cX11_takeFromRow 87 = .ok (.getfield 10, 3) := by decide +kernel
theorem dX11_takeFromRow_90 : decode cX11_takeFromRow 90 = .ok (.iload_n 1, 1) := by decide +kernel
theorem dX11_takeFromRow_91 : decode cX11_takeFromRow 91 = .ok (.iload_n 3, 1) := by decide +kernel
theorem dX11_takeFromRow_92 : decode cX11_takeFromRow 92 = .ok (.iload 4, 2) := by decide +kernel
theorem dX11_takeFromRow_94 : decode cX11_takeFromRow 94 = .ok (.iload 6, 2) := by decide +kernel
theorem dX11_takeFromRow_96 : decode cX11_takeFromRow 96 = .ok (.iconst 0, 1) := by decide +kernel
theorem dX11_takeFromRow_97 : decode cX11_takeFromRow 97 = .ok (.invokevirtual 141, 3) := by decide +kernel
theorem dX11_takeFromRow_100 : decode cX11_takeFromRow 100 = .ok (.iconst (-1), 1) := by decide +kernel
theorem dX11_takeFromRow_101 : decode cX11_takeFromRow 101 = .ok (.if_icmp .eq 7, 3) := by decide +kernel
theorem dX11_takeFromRow_104 : decode cX11_takeFromRow 104 = .ok (.iconst 1, 1) := by decide +kernel
theorem dX11_takeFromRow_105 : decode cX11_takeFromRow 105 = .ok (.goto 4, 3) := by decide +kernel
theorem dX11_takeFromRow_108 : decode cX11_takeFromRow 108 = .ok (.iconst 0, 1) := by decide +kernel
theorem dX11_takeFromRow_109 : decode cX11_takeFromRow 109 = .ok (.ireturn, 1) := by decide +kernel
theorem dX11_firstYearByTree_0 : decode cX11_firstYearByTree 0 = .ok (.iconst 0, 1) := by decide +kernel
theorem dX11_firstYearByTree_1 : decode cX11_firstYearByTree 1 = .ok (.istore_n 3, 1) := by decide +kernel
theorem dX11_firstYearByTree_2 : decode cX11_firstYearByTree 2 = .ok (.iload_n 2, 1) := by decide +kernel
theorem dX11_firstYearByTree_3 : decode cX11_firstYearByTree 3 = .ok (.istore 4, 2) := by decide +kernel
theorem dX11_firstYearByTree_5 : decode cX11_firstYearByTree 5 = .ok (.iconst 0, 1) := by decide +kernel
theorem dX11_firstYearByTree_6 : decode cX11_firstYearByTree 6 = .ok (.istore 5, 2) := by decide +kernel
theorem dX11_firstYearByTree_8 : decode cX11_firstYearByTree 8 = .ok (.iload 5, 2) := by decide +kernel
theorem dX11_firstYearByTree_10 : decode cX11_firstYearByTree 10 = .ok (.bipush 12, 2) := by decide +kernel
theorem dX11_firstYearByTree_12 : decode cX11_firstYearByTree 12 = .ok (.if_icmp .ge 37, 3) := by decide +kernel
theorem dX11_firstYearByTree_15 : decode cX11_firstYearByTree 15 = .ok (.iload 4, 2) := by decide +kernel
theorem dX11_firstYearByTree_17 : decode cX11_firstYearByTree 17 = .ok (.iconst (-1), 1) := by decide +kernel
theorem dX11_firstYearByTree_18 : decode cX11_firstYearByTree 18 = .ok (.if_icmp .eq 31, 3) := by decide +kernel
theorem dX11_firstYearByTree_21 : decode cX11_firstYearByTree 21 = .ok (.iload_n 3, 1) := by decide +kernel
theorem dX11_firstYearByTree_22 : decode cX11_firstYearByTree 22 = .ok (.aload_n 0, 1) := by decide +kernel
theorem dX11_firstYearByTree_23 : decode cX11_firstYearByTree 23 = .ok (.getfield 10, 3) := by decide +kernel
theorem dX11_firstYearByTree_26 : decode cX11_firstYearByTree 26 = .ok (.iload 4, 2) := by decide +kernel
theorem dX11_firstYearByTree_28 : decode cX11_firstYearByTree 28 = .ok (.invokevirtual 293, 3) := by decide +kernel
theorem dX11_firstYearByTree_31 : decode cX11_firstYearByTree 31 = .ok (.invokestatic 380, 3) := by decide +kernel
theorem dX11_firstYearByTree_34 : decode cX11_firstYearByTree 34 = .ok (.istore_n 3, 1) := by decide +kernel
theorem dX11_firstYearByTree_35 : decode cX11_firstYearByTree 35 = .ok (.aload_n 1, 1) := by decide +kernel
theorem dX11_firstYearByTree_36 : decode cX11_firstYearByTree 36 = .ok (.iload 4, 2) := by decide +kernel
theorem dX11_firstYearByTree_38 : decode cX11_firstYearByTree 38 = .ok (.invokevirtual 246, 3) := by decide +kernel
theorem dX11_firstYearByTree_41 : decode cX11_firstYearByTree 41 = .ok (.istore 4, 2) := by decide +kernel
theorem dX11_firstYearByTree_43 : decode cX11_firstYearByTree 43 = .ok (.iinc 5 1, 3) := by decide +kernel
theorem dX11_firstYearByTree_46 : decode cX11_firstYearByTree 46 = .ok (.goto (-38), 3) := by decide +kernel
theorem dX11_firstYearByTree_49 : decode cX11_firstYearByTree 49 = .ok (.iload_n 3, 1) := by decide +kernel
theorem dX11_firstYearByTree_50 : decode cX11_firstYearByTree 50 = .ok (.ireturn, 1) := by decide +kernel
theorem dX11_lastYearByTree_0 : decode cX11_lastYearByTree 0 = .ok (.aload_n 0, 1) := by decide +kernel
theorem dX11_lastYearByTree_1 : decode cX11_lastYearByTree 1 = .ok (.getfield 10, 3) := by decide +kernel
theorem dX11_lastYearByTree_4 : decode cX11_lastYearByTree 4 = .ok (.iload_n 2, 1) := by decide +kernel
theorem dX11_lastYearByTree_5 : decode cX11_lastYearByTree 5 = .ok (.invokevirtual 296, 3) := by decide +kernel
theorem dX11_lastYearByTree_8 : decode cX11_lastYearByTree 8 = .ok (.istore_n 3, 1) := by decide +kernel
theorem dX11_lastYearByTree_9 : decode cX11_lastYearByTree 9 = .ok (.iconst 0, 1) := by decide +kernel
theorem dX11_lastYearByTree_10 : decode cX11_lastYearByTree 10 = .ok (.istore 4, 2) := by decide +kernel
theorem dX11_lastYearByTree_12 : decode cX11_lastYearByTree 12 = .ok (.iload 4, 2) := by decide +kernel
theorem dX11_lastYearByTree_14 : decode cX11_lastYearByTree 14 = .ok (.aload_n 0, 1) := by decide +kernel
theorem dX11_lastYearByTree_15 : decode cX11_lastYearByTree 15 = .ok (.getfield 10, 3) := by decide +kernel
theorem dX11_lastYearByTree_18 : decode cX11_lastYearByTree 18 = .ok (.getfield 91, 3) := by decide +kernel
theorem dX11_lastYearByTree_21 : decode cX11_lastYearByTree 21 = .ok (.invokevirtual 122, 3) := by decide +kernel
theorem dX11_lastYearByTree_24 : decode cX11_lastYearByTree 24 = .ok (.if_icmp .ge 33, 3) := by decide +kernel
theorem dX11_lastYearByTree_27 : decode cX11_lastYearByTree 27 = .ok (.aload_n 1, 1) := by decide +kernel
theorem dX11_lastYearByTree_28 : decode cX11_lastYearByTree 28 = .ok (.iload 4, 2) := by decide +kernel
theorem dX11_lastYearByTree_30 : decode cX11_lastYearByTree 30 = .ok (.iload_n 2, 1) := by decide +kernel
theorem dX11_lastYearByTree_31 : decode cX11_lastYearByTree 31 = .ok (.invokevirtual 255, 3) := by decide +kernel
theorem dX11_lastYearByTree_34 : decode cX11_lastYearByTree 34 = .ok (.ifCond .eq 17, 3) := by decide +kernel
theorem dX11_lastYearByTree_37 : decode cX11_lastYearByTree 37 = .ok (.iload_n 3, 1) := by decide +kernel
theorem dX11_lastYearByTree_38 : decode cX11_lastYearByTree 38 = .ok (.aload_n 0, 1) := by decide +kernel
theorem dX11_lastYearByTree_39 : decode cX11_lastYearByTree 39 = .ok (.getfield 10, 3) := by decide +kernel
theorem dX11_lastYearByTree_42 : decode cX11_lastYearByTree 42 = .ok (.iload 4, 2) := by decide +kernel
theorem dX11_lastYearByTree_44 : decode cX11_lastYearByTree 44 = .ok (.invokevirtual 296, 3) := by decide +kernel
theorem dX11_lastYearByTree_47 : decode cX11_lastYearByTree 47 = .ok (.invokestatic 385, 3) := by decide +kernel
theorem dX11_lastYearByTree_50 : decode cX11_lastYearByTree 50 = .ok (.istore_n 3, 1) := by decide +kernel
theorem dX11_lastYearByTree_51 : decode cX11_lastYearByTree 51 = .ok (.iinc 4 1, 3) := by decide +kernel
theorem dX11_lastYearByTree_54 : decode cX11_lastYearByTree 54 = .ok (.goto (-42), 3) := by decide +kernel
theorem dX11_lastYearByTree_57 : decode cX11_lastYearByTree 57 = .ok (.iload_n 3, 1) := by decide +kernel
theorem dX11_lastYearByTree_58 : decode cX11_lastYearByTree 58 = .ok (.ireturn, 1) := by decide +kernel
theorem dX11_placesStruck_0 : decode cX11_placesStruck 0 = .ok (.lconst 0, 1) := by decide +kernel
theorem dX11_placesStruck_1 : decode cX11_placesStruck 1 = .ok (.lstore_n 2, 1) := by decide +kernel
theorem dX11_placesStruck_2 : decode cX11_placesStruck 2 = .ok (.iconst 0, 1) := by decide +kernel
theorem dX11_placesStruck_3 : decode cX11_placesStruck 3 = .ok (.istore 4, 2) := by decide +kernel
theorem dX11_placesStruck_5 : decode cX11_placesStruck 5 = .ok (.iload 4, 2) := by decide +kernel
theorem dX11_placesStruck_7 : decode cX11_placesStruck 7 = .ok (.bipush 60, 2) := by decide +kernel
theorem dX11_placesStruck_9 : decode cX11_placesStruck 9 = .ok (.if_icmp .ge 42, 3) := by decide +kernel
theorem dX11_placesStruck_12 : decode cX11_placesStruck 12 = .ok (.aload_n 0, 1) := by decide +kernel
theorem dX11_placesStruck_13 : decode cX11_placesStruck 13 = .ok (.getfield 43, 3) := by decide +kernel
theorem dX11_placesStruck_16 : decode cX11_placesStruck 16 = .ok (.iload 4, 2) := by decide +kernel
theorem dX11_placesStruck_18 : decode cX11_placesStruck 18 = .ok (.invokevirtual 388, 3) := by decide +kernel
theorem dX11_placesStruck_21 : decode cX11_placesStruck 21 = .ok (.lload_n 2, 1) := by decide +kernel
theorem dX11_placesStruck_22 : decode cX11_placesStruck 22 = .ok (.aload_n 0, 1) := by decide +kernel
theorem dX11_placesStruck_23 : decode cX11_placesStruck 23 = .ok (.getfield 43, 3) := by decide +kernel
theorem dX11_placesStruck_26 : decode cX11_placesStruck 26 = .ok (.aload_n 1, 1) := by decide +kernel
theorem dX11_placesStruck_27 : decode cX11_placesStruck 27 = .ok (.bipush 6, 2) := by decide +kernel
theorem dX11_placesStruck_29 : decode cX11_placesStruck 29 = .ok (.invokevirtual 328, 3) := by decide +kernel
theorem dX11_placesStruck_32 : decode cX11_placesStruck 32 = .ok (.ifCond .eq 10, 3) := by decide +kernel
theorem dX11_placesStruck_35 : decode cX11_placesStruck 35 = .ok (.lconst 1, 1) := by decide +kernel
theorem dX11_placesStruck_36 : decode cX11_placesStruck 36 = .ok (.iload 4, 2) := by decide +kernel
theorem dX11_placesStruck_38 : decode cX11_placesStruck 38 = .ok (.lshl, 1) := by decide +kernel
theorem dX11_placesStruck_39 : decode cX11_placesStruck 39 = .ok (.goto 4, 3) := by decide +kernel
theorem dX11_placesStruck_42 : decode cX11_placesStruck 42 = .ok (.lconst 0, 1) := by decide +kernel
theorem dX11_placesStruck_43 : decode cX11_placesStruck 43 = .ok (.lor, 1) := by decide +kernel
theorem dX11_placesStruck_44 : decode cX11_placesStruck 44 = .ok (.lstore_n 2, 1) := by decide +kernel
theorem dX11_placesStruck_45 : decode cX11_placesStruck 45 = .ok (.iinc 4 1, 3) := by decide +kernel
theorem dX11_placesStruck_48 : decode cX11_placesStruck 48 = .ok (.goto (-43), 3) := by decide +kernel
theorem dX11_placesStruck_51 : decode cX11_placesStruck 51 = .ok (.lload_n 2, 1) := by decide +kernel
theorem dX11_placesStruck_52 : decode cX11_placesStruck 52 = .ok (.lreturn, 1) := by decide +kernel
theorem dX11_toldOfCensor_0 : decode cX11_toldOfCensor 0 = .ok (.iload 4, 2) := by decide +kernel
theorem dX11_toldOfCensor_2 : decode cX11_toldOfCensor 2 = .ok (.ifCond .ne 5, 3) := by decide +kernel
theorem dX11_toldOfCensor_5 : decode cX11_toldOfCensor 5 = .ok (.iconst 1, 1) := by decide +kernel
theorem dX11_toldOfCensor_6 : decode cX11_toldOfCensor 6 = .ok (.ireturn, 1) := by decide +kernel
theorem dX11_toldOfCensor_7 : decode cX11_toldOfCensor 7 = .ok (.aload_n 0, 1) := by decide +kernel
theorem dX11_toldOfCensor_8 : decode cX11_toldOfCensor 8 = .ok (.getfield 10, 3) := by decide +kernel
theorem dX11_toldOfCensor_11 : decode cX11_toldOfCensor 11 = .ok (.iload_n 1, 1) := by decide +kernel
theorem dX11_toldOfCensor_12 : decode cX11_toldOfCensor 12 = .ok (.iconst 2, 1) := by decide +kernel
theorem dX11_toldOfCensor_13 : decode cX11_toldOfCensor 13 = .ok (.invokevirtual 391, 3) := by decide +kernel
theorem dX11_toldOfCensor_16 : decode cX11_toldOfCensor 16 = .ok (.lload_n 2, 1) := by decide +kernel
theorem dX11_toldOfCensor_17 : decode cX11_toldOfCensor 17 = .ok (.land, 1) := by decide +kernel
theorem dX11_toldOfCensor_18 : decode cX11_toldOfCensor 18 = .ok (.lstore 5, 2) := by decide +kernel
theorem dX11_toldOfCensor_20 : decode cX11_toldOfCensor 20 = .ok (.aload_n 0, 1) := by decide +kernel
theorem dX11_toldOfCensor_21 : decode cX11_toldOfCensor 21 = .ok (.getfield 10, 3) := by decide +kernel
theorem dX11_toldOfCensor_24 : decode cX11_toldOfCensor 24 = .ok (.iload_n 1, 1) := by decide +kernel
theorem dX11_toldOfCensor_25 : decode cX11_toldOfCensor 25 = .ok (.iconst 3, 1) := by decide +kernel
theorem dX11_toldOfCensor_26 : decode cX11_toldOfCensor 26 = .ok (.invokevirtual 391, 3) := by decide +kernel
theorem dX11_toldOfCensor_29 : decode cX11_toldOfCensor 29 = .ok (.lload_n 2, 1) := by decide +kernel
theorem dX11_toldOfCensor_30 : decode cX11_toldOfCensor 30 = .ok (.land, 1) := by decide +kernel
theorem dX11_toldOfCensor_31 : decode cX11_toldOfCensor 31 = .ok (.lstore 7, 2) := by decide +kernel
theorem dX11_toldOfCensor_33 : decode cX11_toldOfCensor 33 = .ok (.iload 4, 2) := by decide +kernel
theorem dX11_toldOfCensor_35 : decode cX11_toldOfCensor 35 = .ok (.iconst 3, 1) := by decide +kernel
theorem dX11_toldOfCensor_36 : decode cX11_toldOfCensor 36 = .ok (.if_icmp .le 20, 3) := by decide +kernel
theorem dX11_toldOfCensor_39 : decode cX11_toldOfCensor 39 = .ok (.iload 4, 2) := by decide +kernel
theorem dX11_toldOfCensor_41 : decode cX11_toldOfCensor 41 = .ok (.iconst 4, 1) := by decide +kernel
theorem dX11_toldOfCensor_42 : decode cX11_toldOfCensor 42 = .ok (.if_icmp .ne 8, 3) := by decide +kernel
theorem dX11_toldOfCensor_45 : decode cX11_toldOfCensor 45 = .ok (.lload 5, 2) := by decide +kernel
theorem dX11_toldOfCensor_47 : decode cX11_toldOfCensor 47 = .ok (.goto 5, 3) := by decide +kernel
theorem dX11_toldOfCensor_50 : decode cX11_toldOfCensor 50 = .ok (.lload 7, 2) := by decide +kernel
theorem dX11_toldOfCensor_52 : decode cX11_toldOfCensor 52 = .ok (.invokestatic 395, 3) := by decide +kernel
theorem dX11_toldOfCensor_55 : decode cX11_toldOfCensor 55 = .ok (.ireturn, 1) := by decide +kernel
theorem dX11_toldOfCensor_56 : decode cX11_toldOfCensor 56 = .ok (.lload 5, 2) := by decide +kernel
theorem dX11_toldOfCensor_58 : decode cX11_toldOfCensor 58 = .ok (.lload 7, 2) := by decide +kernel
theorem dX11_toldOfCensor_60 : decode cX11_toldOfCensor 60 = .ok (.lor, 1) := by decide +kernel
theorem dX11_toldOfCensor_61 : decode cX11_toldOfCensor 61 = .ok (.lstore 9, 2) := by decide +kernel
theorem dX11_toldOfCensor_63 : decode cX11_toldOfCensor 63 = .ok (.lload 9, 2) := by decide +kernel
theorem dX11_toldOfCensor_65 : decode cX11_toldOfCensor 65 = .ok (.lload_n 2, 1) := by decide +kernel
theorem dX11_toldOfCensor_66 : decode cX11_toldOfCensor 66 = .ok (.lcmp, 1) := by decide +kernel
theorem dX11_toldOfCensor_67 : decode cX11_toldOfCensor 67 = .ok (.ifCond .ne 7, 3) := by decide +kernel
theorem dX11_toldOfCensor_70 : decode cX11_toldOfCensor 70 = .ok (.iconst 1, 1) := by decide +kernel
theorem dX11_toldOfCensor_71 : decode cX11_toldOfCensor 71 = .ok (.goto 15, 3) := by decide +kernel
theorem dX11_toldOfCensor_74 : decode cX11_toldOfCensor 74 = .ok (.lload 9, 2) := by decide +kernel
theorem dX11_toldOfCensor_76 : decode cX11_toldOfCensor 76 = .ok (.lconst 0, 1) := by decide +kernel
theorem dX11_toldOfCensor_77 : decode cX11_toldOfCensor 77 = .ok (.lcmp, 1) := by decide +kernel
theorem dX11_toldOfCensor_78 : decode cX11_toldOfCensor 78 = .ok (.ifCond .eq 7, 3) := by decide +kernel
theorem dX11_toldOfCensor_81 : decode cX11_toldOfCensor 81 = .ok (.iconst 2, 1) := by decide +kernel
theorem dX11_toldOfCensor_82 : decode cX11_toldOfCensor 82 = .ok (.goto 4, 3) := by decide +kernel
theorem dX11_toldOfCensor_85 : decode cX11_toldOfCensor 85 = .ok (.iconst 3, 1) := by decide +kernel
theorem dX11_toldOfCensor_86 : decode cX11_toldOfCensor 86 = .ok (.istore 11, 2) := by decide +kernel
theorem dX11_toldOfCensor_88 : decode cX11_toldOfCensor 88 = .ok (.iload 11, 2) := by decide +kernel
theorem dX11_toldOfCensor_90 : decode cX11_toldOfCensor 90 = .ok (.iload 4, 2) := by decide +kernel
theorem dX11_toldOfCensor_92 : decode cX11_toldOfCensor 92 = .ok (.if_icmp .ne 7, 3) := by decide +kernel
theorem dX11_toldOfCensor_95 : decode cX11_toldOfCensor 95 = .ok (.iconst 1, 1) := by decide +kernel
theorem dX11_toldOfCensor_96 : decode cX11_toldOfCensor 96 = .ok (.goto 4, 3) := by decide +kernel
theorem dX11_toldOfCensor_99 : decode cX11_toldOfCensor 99 = .ok (.iconst 0, 1) := by decide +kernel
theorem dX11_toldOfCensor_100 : decode cX11_toldOfCensor 100 = .ok (.ireturn, 1) := by decide +kernel
theorem dX11_within_0 : decode cX11_within 0 = .ok (.iload_n 0, 1) := by decide +kernel
theorem dX11_within_1 : decode cX11_within 1 = .ok (.iload_n 1, 1) := by decide +kernel
theorem dX11_within_2 : decode cX11_within 2 = .ok (.if_icmp .lt 12, 3) := by decide +kernel
theorem dX11_within_5 : decode cX11_within 5 = .ok (.iload_n 0, 1) := by decide +kernel
theorem dX11_within_6 : decode cX11_within 6 = .ok (.iload_n 2, 1) := by decide +kernel
theorem dX11_within_7 : decode cX11_within 7 = .ok (.if_icmp .gt 7, 3) := by decide +kernel
theorem dX11_within_10 : decode cX11_within 10 = .ok (.iconst 1, 1) := by decide +kernel
theorem dX11_within_11 : decode cX11_within 11 = .ok (.goto 4, 3) := by decide +kernel
theorem dX11_within_14 : decode cX11_within 14 = .ok (.iconst 0, 1) := by decide +kernel
theorem dX11_within_15 : decode cX11_within 15 = .ok (.ireturn, 1) := by decide +kernel
theorem dX11_areYears_0 : decode cX11_areYears 0 = .ok (.iload_n 0, 1) := by decide +kernel
theorem dX11_areYears_1 : decode cX11_areYears 1 = .ok (.iconst 0, 1) := by decide +kernel
theorem dX11_areYears_2 : decode cX11_areYears 2 = .ok (.sipush 400, 3) := by decide +kernel
theorem dX11_areYears_5 : decode cX11_areYears 5 = .ok (.invokestatic 83, 3) := by decide +kernel
theorem dX11_areYears_8 : decode cX11_areYears 8 = .ok (.ifCond .eq 18, 3) := by decide +kernel
theorem dX11_areYears_11 : decode cX11_areYears 11 = .ok (.iload_n 1, 1) := by decide +kernel
theorem dX11_areYears_12 : decode cX11_areYears 12 = .ok (.iload_n 0, 1) := by decide +kernel
theorem dX11_areYears_13 : decode cX11_areYears 13 = .ok (.sipush 400, 3) := by decide +kernel
theorem dX11_areYears_16 : decode cX11_areYears 16 = .ok (.invokestatic 83, 3) := by decide +kernel
theorem dX11_areYears_19 : decode cX11_areYears 19 = .ok (.ifCond .eq 7, 3) := by decide +kernel
theorem dX11_areYears_22 : decode cX11_areYears 22 = .ok (.iconst 1, 1) := by decide +kernel
theorem dX11_areYears_23 : decode cX11_areYears 23 = .ok (.goto 4, 3) := by decide +kernel
theorem dX11_areYears_26 : decode cX11_areYears 26 = .ok (.iconst 0, 1) := by decide +kernel
theorem dX11_areYears_27 : decode cX11_areYears 27 = .ok (.ireturn, 1) := by decide +kernel
theorem dX11_isNote_0 : decode cX11_isNote 0 = .ok (.iload_n 0, 1) := by decide +kernel
theorem dX11_isNote_1 : decode cX11_isNote 1 = .ok (.iconst 0, 1) := by decide +kernel
theorem dX11_isNote_2 : decode cX11_isNote 2 = .ok (.bipush 59, 2) := by decide +kernel
theorem dX11_isNote_4 : decode cX11_isNote 4 = .ok (.invokestatic 83, 3) := by decide +kernel
theorem dX11_isNote_7 : decode cX11_isNote 7 = .ok (.ifCond .eq 34, 3) := by decide +kernel
theorem dX11_isNote_10 : decode cX11_isNote 10 = .ok (.iload_n 2, 1) := by decide +kernel
theorem dX11_isNote_11 : decode cX11_isNote 11 = .ok (.iconst 0, 1) := by decide +kernel
theorem dX11_isNote_12 : decode cX11_isNote 12 = .ok (.iconst 3, 1) := by decide +kernel
theorem dX11_isNote_13 : decode cX11_isNote 13 = .ok (.invokestatic 83, 3) := by decide +kernel
theorem dX11_isNote_16 : decode cX11_isNote 16 = .ok (.ifCond .eq 25, 3) := by decide +kernel
theorem dX11_isNote_19 : decode cX11_isNote 19 = .ok (.iload_n 1, 1) := by decide +kernel
theorem dX11_isNote_20 : decode cX11_isNote 20 = .ok (.iconst 0, 1) := by decide +kernel
theorem dX11_isNote_21 : decode cX11_isNote 21 = .ok (.iload_n 2, 1) := by decide +kernel
theorem dX11_isNote_22 : decode cX11_isNote 22 = .ok (.ifCond .ne 8, 3) := by decide +kernel
theorem dX11_isNote_25 : decode cX11_isNote 25 = .ok (.bipush 99, 2) := by decide +kernel
theorem dX11_isNote_27 : decode cX11_isNote 27 = .ok (.goto 4, 3) := by decide +kernel
theorem dX11_isNote_30 : decode cX11_isNote 30 = .ok (.iconst 0, 1) := by decide +kernel
theorem dX11_isNote_31 : decode cX11_isNote 31 = .ok (.invokestatic 83, 3) := by decide +kernel
theorem dX11_isNote_34 : decode cX11_isNote 34 = .ok (.ifCond .eq 7, 3) := by decide +kernel
theorem dX11_isNote_37 : decode cX11_isNote 37 = .ok (.iconst 1, 1) := by decide +kernel
theorem dX11_isNote_38 : decode cX11_isNote 38 = .ok (.goto 4, 3) := by decide +kernel
theorem dX11_isNote_41 : decode cX11_isNote 41 = .ok (.iconst 0, 1) := by decide +kernel
theorem dX11_isNote_42 : decode cX11_isNote 42 = .ok (.ireturn, 1) := by decide +kernel
theorem dX11_lastBit_0 : decode cX11_lastBit 0 = .ok (.bipush 31, 2) := by decide +kernel
theorem dX11_lastBit_2 : decode cX11_lastBit 2 = .ok (.iload_n 0, 1) := by decide +kernel
theorem dX11_lastBit_3 : decode cX11_lastBit 3 = .ok (.invokestatic 265, 3) := by decide +kernel
theorem dX11_lastBit_6 : decode cX11_lastBit 6 = .ok (.isub, 1) := by decide +kernel
theorem dX11_lastBit_7 : decode cX11_lastBit 7 = .ok (.ireturn, 1) := by decide +kernel
theorem dX12_lies_0 : decode cX12_lies 0 = .ok (.iload_n 0, 1) := by decide +kernel
theorem dX12_lies_1 : decode cX12_lies 1 = .ok (.iload_n 1, 1) := by decide +kernel
theorem dX12_lies_2 : decode cX12_lies 2 = .ok (.if_icmp .lt 12, 3) := by decide +kernel
theorem dX12_lies_5 : decode cX12_lies 5 = .ok (.iload_n 0, 1) := by decide +kernel
theorem dX12_lies_6 : decode cX12_lies 6 = .ok (.iload_n 2, 1) := by decide +kernel
theorem dX12_lies_7 : decode cX12_lies 7 = .ok (.if_icmp .gt 7, 3) := by decide +kernel
theorem dX12_lies_10 : decode cX12_lies 10 = .ok (.iconst 1, 1) := by decide +kernel
theorem dX12_lies_11 : decode cX12_lies 11 = .ok (.goto 4, 3) := by decide +kernel
theorem dX12_lies_14 : decode cX12_lies 14 = .ok (.iconst 0, 1) := by decide +kernel
theorem dX12_lies_15 : decode cX12_lies 15 = .ok (.ireturn, 1) := by decide +kernel
theorem dX12_refuses_0 : decode cX12_refuses 0 = .ok (.aload_n 0, 1) := by decide +kernel
theorem dX12_refuses_1 : decode cX12_refuses 1 = .ok (.iload_n 1, 1) := by decide +kernel
theorem dX12_refuses_2 : decode cX12_refuses 2 = .ok (.putfield 3, 3) := by decide +kernel
theorem dX12_refuses_5 : decode cX12_refuses 5 = .ok (.aload_n 0, 1) := by decide +kernel
theorem dX12_refuses_6 : decode cX12_refuses 6 = .ok (.getfield 7, 3) := by decide +kernel
theorem dX12_refuses_9 : decode cX12_refuses 9 = .ok (.iload_n 1, 1) := by decide +kernel
theorem dX12_refuses_10 : decode cX12_refuses 10 = .ok (.ineg, 1) := by decide +kernel
theorem dX12_refuses_11 : decode cX12_refuses 11 = .ok (.dup2, 1) := by decide +kernel
theorem dX12_refuses_12 : decode cX12_refuses 12 = .ok (.iaload, 1) := by decide +kernel
theorem dX12_refuses_13 : decode cX12_refuses 13 = .ok (.iconst 1, 1) := by decide +kernel
theorem dX12_refuses_14 : decode cX12_refuses 14 = .ok (.iadd, 1) := by decide +kernel
theorem dX12_refuses_15 : decode cX12_refuses 15 = .ok (.iastore, 1) := by decide +kernel
theorem dX12_refuses_16 : decode cX12_refuses 16 = .ok (.iload_n 1, 1) := by decide +kernel
theorem dX12_refuses_17 : decode cX12_refuses 17 = .ok (.ireturn, 1) := by decide +kernel
theorem dX12_good_0 : decode cX12_good 0 = .ok (.aload_n 0, 1) := by decide +kernel
theorem dX12_good_1 : decode cX12_good 1 = .ok (.iconst 0, 1) := by decide +kernel
theorem dX12_good_2 : decode cX12_good 2 = .ok (.putfield 3, 3) := by decide +kernel
theorem dX12_good_5 : decode cX12_good 5 = .ok (.aload_n 0, 1) := by decide +kernel
theorem dX12_good_6 : decode cX12_good 6 = .ok (.dup, 1) := by decide +kernel
theorem dX12_good_7 : decode cX12_good 7 = .ok (.getfield 11, 3) := by decide +kernel
theorem dX12_good_10 : decode cX12_good 10 = .ok (.iconst 1, 1) := by decide +kernel
theorem dX12_good_11 : decode cX12_good 11 = .ok (.iadd, 1) := by decide +kernel
theorem dX12_good_12 : decode cX12_good 12 = .ok (.putfield 11, 3) := by decide +kernel
theorem dX12_good_15 : decode cX12_good 15 = .ok (.iload_n 1, 1) := by decide +kernel
theorem dX12_good_16 : decode cX12_good 16 = .ok (.ireturn, 1) := by decide +kernel
theorem dX12_init_0 : decode cX12_init 0 = .ok (.aload_n 0, 1) := by decide +kernel
theorem dX12_init_1 : decode cX12_init 1 = .ok (.invokespecial 14, 3) := by decide +kernel
theorem dX12_init_4 : decode cX12_init 4 = .ok (.aload_n 0, 1) := by decide +kernel
theorem dX12_init_5 : decode cX12_init 5 = .ok (.bipush 7, 2) := by decide +kernel
theorem dX12_init_7 : decode cX12_init 7 = .ok (.newarray .int, 2) := by decide +kernel
theorem dX12_init_9 : decode cX12_init 9 = .ok (.putfield 7, 3) := by decide +kernel
theorem dX12_init_12 : decode cX12_init 12 = .ok (.aload_n 0, 1) := by decide +kernel
theorem dX12_init_13 : decode cX12_init 13 = .ok (.sipush 7758, 3) := by decide +kernel
theorem dX12_init_16 : decode cX12_init 16 = .ok (.newarray .int, 2) := by decide +kernel
theorem dX12_init_18 : decode cX12_init 18 = .ok (.putfield 20, 3) := by decide +kernel
theorem dX12_init_21 : decode cX12_init 21 = .ok (.aload_n 0, 1) := by decide +kernel
theorem dX12_init_22 : decode cX12_init 22 = .ok (.sipush 15516, 3) := by decide +kernel
theorem dX12_init_25 : decode cX12_init 25 = .ok (.newarray .int, 2) := by decide +kernel
theorem dX12_init_27 : decode cX12_init 27 = .ok (.putfield 23, 3) := by decide +kernel
theorem dX12_init_30 : decode cX12_init 30 = .ok (.aload_n 0, 1) := by decide +kernel
theorem dX12_init_31 : decode cX12_init 31 = .ok (.iconst 2, 1) := by decide +kernel
theorem dX12_init_32 : decode cX12_init 32 = .ok (.newarray .boolean, 2) := by decide +kernel
theorem dX12_init_34 : decode cX12_init 34 = .ok (.putfield 26, 3) := by decide +kernel
theorem dX12_init_37 : decode cX12_init 37 = .ok (.aload_n 0, 1) := by decide +kernel
theorem dX12_init_38 : decode cX12_init 38 = .ok (.bipush 114, 2) := by decide +kernel
theorem dX12_init_40 : decode cX12_init 40 = .ok (.newarray .byte, 2) := by decide +kernel
theorem dX12_init_42 : decode cX12_init 42 = .ok (.dup, 1) := by decide +kernel
theorem dX12_init_43 : decode cX12_init 43 = .ok (.iconst 0, 1) := by decide +kernel
theorem dX12_init_44 : decode cX12_init 44 = .ok (.bipush 119, 2) := by decide +kernel
theorem dX12_init_46 : decode cX12_init 46 = .ok (.bastore, 1) := by decide +kernel
theorem dX12_init_47 : decode cX12_init 47 = .ok (.dup, 1) := by decide +kernel
theorem dX12_init_48 : decode cX12_init 48 = .ok (.iconst 1, 1) := by decide +kernel
theorem dX12_init_49 : decode cX12_init 49 = .ok (.bipush 101, 2) := by decide +kernel
theorem dX12_init_51 : decode cX12_init 51 = .ok (.bastore, 1) := by decide +kernel
theorem dX12_init_52 : decode cX12_init 52 = .ok (.dup, 1) := by decide +kernel
theorem dX12_init_53 : decode cX12_init 53 = .ok (.iconst 2, 1) := by decide +kernel
theorem dX12_init_54 : decode cX12_init 54 = .ok (.bipush 105, 2) := by decide +kernel
theorem dX12_init_56 : decode cX12_init 56 = .ok (.bastore, 1) := by decide +kernel
theorem dX12_init_57 : decode cX12_init 57 = .ok (.dup, 1) := by decide +kernel
theorem dX12_init_58 : decode cX12_init 58 = .ok (.iconst 3, 1) := by decide +kernel
theorem dX12_init_59 : decode cX12_init 59 = .ok (.bipush 103, 2) := by decide +kernel
theorem dX12_init_61 : decode cX12_init 61 = .ok (.bastore, 1) := by decide +kernel
theorem dX12_init_62 : decode cX12_init 62 = .ok (.dup, 1) := by decide +kernel
theorem dX12_init_63 : decode cX12_init 63 = .ok (.iconst 4, 1) := by decide +kernel
theorem dX12_init_64 : decode cX12_init 64 = .ok (.bipush 104, 2) := by decide +kernel
theorem dX12_init_66 : decode cX12_init 66 = .ok (.bastore, 1) := by decide +kernel
theorem dX12_init_67 : decode cX12_init 67 = .ok (.dup, 1) := by decide +kernel
theorem dX12_init_68 : decode cX12_init 68 = .ok (.iconst 5, 1) := by decide +kernel
theorem dX12_init_69 : decode cX12_init 69 = .ok (.bipush 116, 2) := by decide +kernel
theorem dX12_init_71 : decode cX12_init 71 = .ok (.bastore, 1) := by decide +kernel
theorem dX12_init_72 : decode cX12_init 72 = .ok (.dup, 1) := by decide +kernel
theorem dX12_init_73 : decode cX12_init 73 = .ok (.bipush 6, 2) := by decide +kernel
theorem dX12_init_75 : decode cX12_init 75 = .ok (.bipush 32, 2) := by decide +kernel
theorem dX12_init_77 : decode cX12_init 77 = .ok (.bastore, 1) := by decide +kernel
theorem dX12_init_78 : decode cX12_init 78 = .ok (.dup, 1) := by decide +kernel
theorem dX12_init_79 : decode cX12_init 79 = .ok (.bipush 7, 2) := by decide +kernel
theorem dX12_init_81 : decode cX12_init 81 = .ok (.bipush 114, 2) := by decide +kernel
theorem dX12_init_83 : decode cX12_init 83 = .ok (.bastore, 1) := by decide +kernel
theorem dX12_init_84 : decode cX12_init 84 = .ok (.dup, 1) := by decide +kernel
theorem dX12_init_85 : decode cX12_init 85 = .ok (.bipush 8, 2) := by decide +kernel
theorem dX12_init_87 : decode cX12_init 87 = .ok (.bipush 101, 2) := by decide +kernel
theorem dX12_init_89 : decode cX12_init 89 = .ok (.bastore, 1) := by decide +kernel
theorem dX12_init_90 : decode cX12_init 90 = .ok (.dup, 1) := by decide +kernel
theorem dX12_init_91 : decode cX12_init 91 = .ok (.bipush 9, 2) := by decide +kernel
theorem dX12_init_93 : decode cX12_init 93 = .ok (.bipush 97, 2) := by decide +kernel
theorem dX12_init_95 : decode cX12_init 95 = .ok (.bastore, 1) := by decide +kernel
theorem dX12_init_96 : decode cX12_init 96 = .ok (.dup, 1) := by decide +kernel
theorem dX12_init_97 : decode cX12_init 97 = .ok (.bipush 10, 2) := by decide +kernel
theorem dX12_init_99 : decode cX12_init 99 = .ok (.bipush 100, 2) := by decide +kernel
theorem dX12_init_101 : decode cX12_init 101 = .ok (.bastore, 1) := by decide +kernel
theorem dX12_init_102 : decode cX12_init 102 = .ok (.dup, 1) := by decide +kernel
theorem dX12_init_103 : decode cX12_init 103 = .ok (.bipush 11, 2) := by decide +kernel
theorem dX12_init_105 : decode cX12_init 105 = .ok (.bipush 115, 2) := by decide +kernel
theorem dX12_init_107 : decode cX12_init 107 = .ok (.bastore, 1) := by decide +kernel
theorem dX12_init_108 : decode cX12_init 108 = .ok (.dup, 1) := by decide +kernel
theorem dX12_init_109 : decode cX12_init 109 = .ok (.bipush 12, 2) := by decide +kernel
theorem dX12_init_111 : decode cX12_init 111 = .ok (.bipush 32, 2) := by decide +kernel
theorem dX12_init_113 : decode cX12_init 113 = .ok (.bastore, 1) := by decide +kernel
theorem dX12_init_114 : decode cX12_init 114 = .ok (.dup, 1) := by decide +kernel
theorem dX12_init_115 : decode cX12_init 115 = .ok (.bipush 13, 2) := by decide +kernel
theorem dX12_init_117 : decode cX12_init 117 = .ok (.bipush 110, 2) := by decide +kernel
theorem dX12_init_119 : decode cX12_init 119 = .ok (.bastore, 1) := by decide +kernel
theorem dX12_init_120 : decode cX12_init 120 = .ok (.dup, 1) := by decide +kernel
theorem dX12_init_121 : decode cX12_init 121 = .ok (.bipush 14, 2) := by decide +kernel
theorem dX12_init_123 : decode cX12_init 123 = .ok (.bipush 111, 2) := by decide +kernel
theorem dX12_init_125 : decode cX12_init 125 = .ok (.bastore, 1) := by decide +kernel
theorem dX12_init_126 : decode cX12_init 126 = .ok (.dup, 1) := by decide +kernel
theorem dX12_init_127 : decode cX12_init 127 = .ok (.bipush 15, 2) := by decide +kernel
theorem dX12_init_129 : decode cX12_init 129 = .ok (.bipush 116, 2) := by decide +kernel
theorem dX12_init_131 : decode cX12_init 131 = .ok (.bastore, 1) := by decide +kernel
theorem dX12_init_132 : decode cX12_init 132 = .ok (.dup, 1) := by decide +kernel
theorem dX12_init_133 : decode cX12_init 133 = .ok (.bipush 16, 2) := by decide +kernel
theorem dX12_init_135 : decode cX12_init 135 = .ok (.bipush 101, 2) := by decide +kernel
theorem dX12_init_137 : decode cX12_init 137 = .ok (.bastore, 1) := by decide +kernel
theorem dX12_init_138 : decode cX12_init 138 = .ok (.dup, 1) := by decide +kernel
theorem dX12_init_139 : decode cX12_init 139 = .ok (.bipush 17, 2) := by decide +kernel
theorem dX12_init_141 : decode cX12_init 141 = .ok (.bipush 115, 2) := by decide +kernel
theorem dX12_init_143 : decode cX12_init 143 = .ok (.bastore, 1) := by decide +kernel
theorem dX12_init_144 : decode cX12_init 144 = .ok (.dup, 1) := by decide +kernel
theorem dX12_init_145 : decode cX12_init 145 = .ok (.bipush 18, 2) := by decide +kernel
theorem dX12_init_147 : decode cX12_init 147 = .ok (.bipush 32, 2) := by decide +kernel
theorem dX12_init_149 : decode cX12_init 149 = .ok (.bastore, 1) := by decide +kernel
theorem dX12_init_150 : decode cX12_init 150 = .ok (.dup, 1) := by decide +kernel
theorem dX12_init_151 : decode cX12_init 151 = .ok (.bipush 19, 2) := by decide +kernel
theorem dX12_init_153 : decode cX12_init 153 = .ok (.bipush 99, 2) := by decide +kernel
theorem dX12_init_155 : decode cX12_init 155 = .ok (.bastore, 1) := by decide +kernel
theorem dX12_init_156 : decode cX12_init 156 = .ok (.dup, 1) := by decide +kernel
theorem dX12_init_157 : decode cX12_init 157 = .ok (.bipush 20, 2) := by decide +kernel
theorem dX12_init_159 : decode cX12_init 159 = .ok (.bipush 111, 2) := by decide +kernel
theorem dX12_init_161 : decode cX12_init 161 = .ok (.bastore, 1) := by decide +kernel
theorem dX12_init_162 : decode cX12_init 162 = .ok (.dup, 1) := by decide +kernel
theorem dX12_init_163 : decode cX12_init 163 = .ok (.bipush 21, 2) := by decide +kernel
theorem dX12_init_165 : decode cX12_init 165 = .ok (.bipush 112, 2) := by decide +kernel
theorem dX12_init_167 : decode cX12_init 167 = .ok (.bastore, 1) := by decide +kernel
theorem dX12_init_168 : decode cX12_init 168 = .ok (.dup, 1) := by decide +kernel
theorem dX12_init_169 : decode cX12_init 169 = .ok (.bipush 22, 2) := by decide +kernel
theorem dX12_init_171 : decode cX12_init 171 = .ok (.bipush 105, 2) := by decide +kernel
theorem dX12_init_173 : decode cX12_init 173 = .ok (.bastore, 1) := by decide +kernel
theorem dX12_init_174 : decode cX12_init 174 = .ok (.dup, 1) := by decide +kernel
theorem dX12_init_175 : decode cX12_init 175 = .ok (.bipush 23, 2) := by decide +kernel
theorem dX12_init_177 : decode cX12_init 177 = .ok (.bipush 101, 2) := by decide +kernel
theorem dX12_init_179 : decode cX12_init 179 = .ok (.bastore, 1) := by decide +kernel
theorem dX12_init_180 : decode cX12_init 180 = .ok (.dup, 1) := by decide +kernel
theorem dX12_init_181 : decode cX12_init 181 = .ok (.bipush 24, 2) := by decide +kernel
theorem dX12_init_183 : decode cX12_init 183 = .ok (.bipush 115, 2) := by decide +kernel
theorem dX12_init_185 : decode cX12_init 185 = .ok (.bastore, 1) := by decide +kernel
theorem dX12_init_186 : decode cX12_init 186 = .ok (.dup, 1) := by decide +kernel
theorem dX12_init_187 : decode cX12_init 187 = .ok (.bipush 25, 2) := by decide +kernel
theorem dX12_init_189 : decode cX12_init 189 = .ok (.bipush 32, 2) := by decide +kernel
theorem dX12_init_191 : decode cX12_init 191 = .ok (.bastore, 1) := by decide +kernel
theorem dX12_init_192 : decode cX12_init 192 = .ok (.dup, 1) := by decide +kernel
theorem dX12_init_193 : decode cX12_init 193 = .ok (.bipush 26, 2) := by decide +kernel
theorem dX12_init_195 : decode cX12_init 195 = .ok (.bipush 97, 2) := by decide +kernel
theorem dX12_init_197 : decode cX12_init 197 = .ok (.bastore, 1) := by decide +kernel
theorem dX12_init_198 : decode cX12_init 198 = .ok (.dup, 1) := by decide +kernel
theorem dX12_init_199 : decode cX12_init 199 = .ok (.bipush 27, 2) := by decide +kernel
theorem dX12_init_201 : decode cX12_init 201 = .ok (.bipush 100, 2) := by decide +kernel
theorem dX12_init_203 : decode cX12_init 203 = .ok (.bastore, 1) := by decide +kernel
theorem dX12_init_204 : decode cX12_init 204 = .ok (.dup, 1) := by decide +kernel
theorem dX12_init_205 : decode cX12_init 205 = .ok (.bipush 28, 2) := by decide +kernel
theorem dX12_init_207 : decode cX12_init 207 = .ok (.bipush 100, 2) := by decide +kernel
theorem dX12_init_209 : decode cX12_init 209 = .ok (.bastore, 1) := by decide +kernel
theorem dX12_init_210 : decode cX12_init 210 = .ok (.dup, 1) := by decide +kernel
theorem dX12_init_211 : decode cX12_init 211 = .ok (.bipush 29, 2) := by decide +kernel
theorem dX12_init_213 : decode cX12_init 213 = .ok (.bipush 115, 2) := by decide +kernel
theorem dX12_init_215 : decode cX12_init 215 = .ok (.bastore, 1) := by decide +kernel
theorem dX12_init_216 : decode cX12_init 216 = .ok (.dup, 1) := by decide +kernel
theorem dX12_init_217 : decode cX12_init 217 = .ok (.bipush 30, 2) := by decide +kernel
theorem dX12_init_219 : decode cX12_init 219 = .ok (.bipush 32, 2) := by decide +kernel
theorem dX12_init_221 : decode cX12_init 221 = .ok (.bastore, 1) := by decide +kernel
theorem dX12_init_222 : decode cX12_init 222 = .ok (.dup, 1) := by decide +kernel
theorem dX12_init_223 : decode cX12_init 223 = .ok (.bipush 31, 2) := by decide +kernel
theorem dX12_init_225 : decode cX12_init 225 = .ok (.bipush 108, 2) := by decide +kernel
theorem dX12_init_227 : decode cX12_init 227 = .ok (.bastore, 1) := by decide +kernel
theorem dX12_init_228 : decode cX12_init 228 = .ok (.dup, 1) := by decide +kernel
theorem dX12_init_229 : decode cX12_init 229 = .ok (.bipush 32, 2) := by decide +kernel
theorem dX12_init_231 : decode cX12_init 231 = .ok (.bipush 97, 2) := by decide +kernel
theorem dX12_init_233 : decode cX12_init 233 = .ok (.bastore, 1) := by decide +kernel
theorem dX12_init_234 : decode cX12_init 234 = .ok (.dup, 1) := by decide +kernel
theorem dX12_init_235 : decode cX12_init 235 = .ok (.bipush 33, 2) := by decide +kernel
theorem dX12_init_237 : decode cX12_init 237 = .ok (.bipush 116, 2) := by decide +kernel
theorem dX12_init_239 : decode cX12_init 239 = .ok (.bastore, 1) := by decide +kernel
theorem dX12_init_240 : decode cX12_init 240 = .ok (.dup, 1) := by decide +kernel
theorem dX12_init_241 : decode cX12_init 241 = .ok (.bipush 34, 2) := by decide +kernel
theorem dX12_init_243 : decode cX12_init 243 = .ok (.bipush 101, 2) := by decide +kernel
theorem dX12_init_245 : decode cX12_init 245 = .ok (.bastore, 1) := by decide +kernel
theorem dX12_init_246 : decode cX12_init 246 = .ok (.dup, 1) := by decide +kernel
theorem dX12_init_247 : decode cX12_init 247 = .ok (.bipush 35, 2) := by decide +kernel
theorem dX12_init_249 : decode cX12_init 249 = .ok (.bipush 32, 2) := by decide +kernel
theorem dX12_init_251 : decode cX12_init 251 = .ok (.bastore, 1) := by decide +kernel
theorem dX12_init_252 : decode cX12_init 252 = .ok (.dup, 1) := by decide +kernel
theorem dX12_init_253 : decode cX12_init 253 = .ok (.bipush 36, 2) := by decide +kernel
theorem dX12_init_255 : decode cX12_init 255 = .ok (.bipush 115, 2) := by decide +kernel
theorem dX12_init_257 : decode cX12_init 257 = .ok (.bastore, 1) := by decide +kernel
theorem dX12_init_258 : decode cX12_init 258 = .ok (.dup, 1) := by decide +kernel
theorem dX12_init_259 : decode cX12_init 259 = .ok (.bipush 37, 2) := by decide +kernel
theorem dX12_init_261 : decode cX12_init 261 = .ok (.bipush 116, 2) := by decide +kernel
theorem dX12_init_263 : decode cX12_init 263 = .ok (.bastore, 1) := by decide +kernel
theorem dX12_init_264 : decode cX12_init 264 = .ok (.dup, 1) := by decide +kernel
theorem dX12_init_265 : decode cX12_init 265 = .ok (.bipush 38, 2) := by decide +kernel
theorem dX12_init_267 : decode cX12_init 267 = .ok (.bipush 114, 2) := by decide +kernel
theorem dX12_init_269 : decode cX12_init 269 = .ok (.bastore, 1) := by decide +kernel
theorem dX12_init_270 : decode cX12_init 270 = .ok (.dup, 1) := by decide +kernel
theorem dX12_init_271 : decode cX12_init 271 = .ok (.bipush 39, 2) := by decide +kernel
theorem dX12_init_273 : decode cX12_init 273 = .ok (.bipush 117, 2) := by decide +kernel
theorem dX12_init_275 : decode cX12_init 275 = .ok (.bastore, 1) := by decide +kernel
theorem dX12_init_276 : decode cX12_init 276 = .ok (.dup, 1) := by decide +kernel
theorem dX12_init_277 : decode cX12_init 277 = .ok (.bipush 40, 2) := by decide +kernel
theorem dX12_init_279 : decode cX12_init 279 = .ok (.bipush 99, 2) := by decide +kernel
theorem dX12_init_281 : decode cX12_init 281 = .ok (.bastore, 1) := by decide +kernel
theorem dX12_init_282 : decode cX12_init 282 = .ok (.dup, 1) := by decide +kernel
theorem dX12_init_283 : decode cX12_init 283 = .ok (.bipush 41, 2) := by decide +kernel
theorem dX12_init_285 : decode cX12_init 285 = .ok (.bipush 107, 2) := by decide +kernel
theorem dX12_init_287 : decode cX12_init 287 = .ok (.bastore, 1) := by decide +kernel
theorem dX12_init_288 : decode cX12_init 288 = .ok (.dup, 1) := by decide +kernel
theorem dX12_init_289 : decode cX12_init 289 = .ok (.bipush 42, 2) := by decide +kernel
theorem dX12_init_291 : decode cX12_init 291 = .ok (.bipush 32, 2) := by decide +kernel
theorem dX12_init_293 : decode cX12_init 293 = .ok (.bastore, 1) := by decide +kernel
theorem dX12_init_294 : decode cX12_init 294 = .ok (.dup, 1) := by decide +kernel
theorem dX12_init_295 : decode cX12_init 295 = .ok (.bipush 43, 2) := by decide +kernel
theorem dX12_init_297 : decode cX12_init 297 = .ok (.bipush 105, 2) := by decide +kernel
theorem dX12_init_299 : decode cX12_init 299 = .ok (.bastore, 1) := by decide +kernel
theorem dX12_init_300 : decode cX12_init 300 = .ok (.dup, 1) := by decide +kernel
theorem dX12_init_301 : decode cX12_init 301 = .ok (.bipush 44, 2) := by decide +kernel
theorem dX12_init_303 : decode cX12_init 303 = .ok (.bipush 102, 2) := by decide +kernel
theorem dX12_init_305 : decode cX12_init 305 = .ok (.bastore, 1) := by decide +kernel
theorem dX12_init_306 : decode cX12_init 306 = .ok (.dup, 1) := by decide +kernel
theorem dX12_init_307 : decode cX12_init 307 = .ok (.bipush 45, 2) := by decide +kernel
theorem dX12_init_309 : decode cX12_init 309 = .ok (.bipush 32, 2) := by decide +kernel
theorem dX12_init_311 : decode cX12_init 311 = .ok (.bastore, 1) := by decide +kernel
theorem dX12_init_312 : decode cX12_init 312 = .ok (.dup, 1) := by decide +kernel
theorem dX12_init_313 : decode cX12_init 313 = .ok (.bipush 46, 2) := by decide +kernel
theorem dX12_init_315 : decode cX12_init 315 = .ok (.bipush 111, 2) := by decide +kernel
theorem dX12_init_317 : decode cX12_init 317 = .ok (.bastore, 1) := by decide +kernel
theorem dX12_init_318 : decode cX12_init 318 = .ok (.dup, 1) := by decide +kernel
theorem dX12_init_319 : decode cX12_init 319 = .ok (.bipush 47, 2) := by decide +kernel
theorem dX12_init_321 : decode cX12_init 321 = .ok (.bipush 114, 2) := by decide +kernel
theorem dX12_init_323 : decode cX12_init 323 = .ok (.bastore, 1) := by decide +kernel
theorem dX12_init_324 : decode cX12_init 324 = .ok (.dup, 1) := by decide +kernel
theorem dX12_init_325 : decode cX12_init 325 = .ok (.bipush 48, 2) := by decide +kernel
theorem dX12_init_327 : decode cX12_init 327 = .ok (.bipush 32, 2) := by decide +kernel
theorem dX12_init_329 : decode cX12_init 329 = .ok (.bastore, 1) := by decide +kernel
theorem dX12_init_330 : decode cX12_init 330 = .ok (.dup, 1) := by decide +kernel
theorem dX12_init_331 : decode cX12_init 331 = .ok (.bipush 49, 2) := by decide +kernel
theorem dX12_init_333 : decode cX12_init 333 = .ok (.bipush 97, 2) := by decide +kernel
theorem dX12_init_335 : decode cX12_init 335 = .ok (.bastore, 1) := by decide +kernel
theorem dX12_init_336 : decode cX12_init 336 = .ok (.dup, 1) := by decide +kernel
theorem dX12_init_337 : decode cX12_init 337 = .ok (.bipush 50, 2) := by decide +kernel
theorem dX12_init_339 : decode cX12_init 339 = .ok (.bipush 110, 2) := by decide +kernel
theorem dX12_init_341 : decode cX12_init 341 = .ok (.bastore, 1) := by decide +kernel
theorem dX12_init_342 : decode cX12_init 342 = .ok (.dup, 1) := by decide +kernel
theorem dX12_init_343 : decode cX12_init 343 = .ok (.bipush 51, 2) := by decide +kernel
theorem dX12_init_345 : decode cX12_init 345 = .ok (.bipush 100, 2) := by decide +kernel
theorem dX12_init_347 : decode cX12_init 347 = .ok (.bastore, 1) := by decide +kernel
theorem dX12_init_348 : decode cX12_init 348 = .ok (.dup, 1) := by decide +kernel
theorem dX12_init_349 : decode cX12_init 349 = .ok (.bipush 52, 2) := by decide +kernel
theorem dX12_init_351 : decode cX12_init 351 = .ok (.bipush 32, 2) := by decide +kernel
theorem dX12_init_353 : decode cX12_init 353 = .ok (.bastore, 1) := by decide +kernel
theorem dX12_init_354 : decode cX12_init 354 = .ok (.dup, 1) := by decide +kernel
theorem dX12_init_355 : decode cX12_init 355 = .ok (.bipush 53, 2) := by decide +kernel
theorem dX12_init_357 : decode cX12_init 357 = .ok (.bipush 110, 2) := by decide +kernel
theorem dX12_init_359 : decode cX12_init 359 = .ok (.bastore, 1) := by decide +kernel
theorem dX12_init_360 : decode cX12_init 360 = .ok (.dup, 1) := by decide +kernel
theorem dX12_init_361 : decode cX12_init 361 = .ok (.bipush 54, 2) := by decide +kernel
theorem dX12_init_363 : decode cX12_init 363 = .ok (.bipush 111, 2) := by decide +kernel
theorem dX12_init_365 : decode cX12_init 365 = .ok (.bastore, 1) := by decide +kernel
theorem dX12_init_366 : decode cX12_init 366 = .ok (.dup, 1) := by decide +kernel
theorem dX12_init_367 : decode cX12_init 367 = .ok (.bipush 55, 2) := by decide +kernel
theorem dX12_init_369 : decode cX12_init 369 = .ok (.bipush 116, 2) := by decide +kernel
theorem dX12_init_371 : decode cX12_init 371 = .ok (.bastore, 1) := by decide +kernel
theorem dX12_init_372 : decode cX12_init 372 = .ok (.dup, 1) := by decide +kernel
theorem dX12_init_373 : decode cX12_init 373 = .ok (.bipush 56, 2) := by decide +kernel
theorem dX12_init_375 : decode cX12_init 375 = .ok (.bipush 32, 2) := by decide +kernel
theorem dX12_init_377 : decode cX12_init 377 = .ok (.bastore, 1) := by decide +kernel
theorem dX12_init_378 : decode cX12_init 378 = .ok (.dup, 1) := by decide +kernel
theorem dX12_init_379 : decode cX12_init 379 = .ok (.bipush 57, 2) := by decide +kernel
theorem dX12_init_381 : decode cX12_init 381 = .ok (.bipush 112, 2) := by decide +kernel
theorem dX12_init_383 : decode cX12_init 383 = .ok (.bastore, 1) := by decide +kernel
theorem dX12_init_384 : decode cX12_init 384 = .ok (.dup, 1) := by decide +kernel
theorem dX12_init_385 : decode cX12_init 385 = .ok (.bipush 58, 2) := by decide +kernel
theorem dX12_init_387 : decode cX12_init 387 = .ok (.bipush 108, 2) := by decide +kernel
theorem dX12_init_389 : decode cX12_init 389 = .ok (.bastore, 1) := by decide +kernel
theorem dX12_init_390 : decode cX12_init 390 = .ok (.dup, 1) := by decide +kernel
theorem dX12_init_391 : decode cX12_init 391 = .ok (.bipush 59, 2) := by decide +kernel
theorem dX12_init_393 : decode cX12_init 393 = .ok (.bipush 97, 2) := by decide +kernel
theorem dX12_init_395 : decode cX12_init 395 = .ok (.bastore, 1) := by decide +kernel
theorem dX12_init_396 : decode cX12_init 396 = .ok (.dup, 1) := by decide +kernel
theorem dX12_init_397 : decode cX12_init 397 = .ok (.bipush 60, 2) := by decide +kernel
theorem dX12_init_399 : decode cX12_init 399 = .ok (.bipush 99, 2) := by decide +kernel
theorem dX12_init_401 : decode cX12_init 401 = .ok (.bastore, 1) := by decide +kernel
theorem dX12_init_402 : decode cX12_init 402 = .ok (.dup, 1) := by decide +kernel
theorem dX12_init_403 : decode cX12_init 403 = .ok (.bipush 61, 2) := by decide +kernel
theorem dX12_init_405 : decode cX12_init 405 = .ok (.bipush 101, 2) := by decide +kernel
theorem dX12_init_407 : decode cX12_init 407 = .ok (.bastore, 1) := by decide +kernel
theorem dX12_init_408 : decode cX12_init 408 = .ok (.dup, 1) := by decide +kernel
theorem dX12_init_409 : decode cX12_init 409 = .ok (.bipush 62, 2) := by decide +kernel
theorem dX12_init_411 : decode cX12_init 411 = .ok (.bipush 32, 2) := by decide +kernel
theorem dX12_init_413 : decode cX12_init 413 = .ok (.bastore, 1) := by decide +kernel
theorem dX12_init_414 : decode cX12_init 414 = .ok (.dup, 1) := by decide +kernel
theorem dX12_init_415 : decode cX12_init 415 = .ok (.bipush 63, 2) := by decide +kernel
theorem dX12_init_417 : decode cX12_init 417 = .ok (.bipush 99, 2) := by decide +kernel
theorem dX12_init_419 : decode cX12_init 419 = .ok (.bastore, 1) := by decide +kernel
theorem dX12_init_420 : decode cX12_init 420 = .ok (.dup, 1) := by decide +kernel
theorem dX12_init_421 : decode cX12_init 421 = .ok (.bipush 64, 2) := by decide +kernel
theorem dX12_init_423 : decode cX12_init 423 = .ok (.bipush 104, 2) := by decide +kernel
theorem dX12_init_425 : decode cX12_init 425 = .ok (.bastore, 1) := by decide +kernel
theorem dX12_init_426 : decode cX12_init 426 = .ok (.dup, 1) := by decide +kernel
theorem dX12_init_427 : decode cX12_init 427 = .ok (.bipush 65, 2) := by decide +kernel
theorem dX12_init_429 : decode cX12_init 429 = .ok (.bipush 97, 2) := by decide +kernel
theorem dX12_init_431 : decode cX12_init 431 = .ok (.bastore, 1) := by decide +kernel
theorem dX12_init_432 : decode cX12_init 432 = .ok (.dup, 1) := by decide +kernel
theorem dX12_init_433 : decode cX12_init 433 = .ok (.bipush 66, 2) := by decide +kernel
theorem dX12_init_435 : decode cX12_init 435 = .ok (.bipush 112, 2) := by decide +kernel
theorem dX12_init_437 : decode cX12_init 437 = .ok (.bastore, 1) := by decide +kernel
theorem dX12_init_438 : decode cX12_init 438 = .ok (.dup, 1) := by decide +kernel
theorem dX12_init_439 : decode cX12_init 439 = .ok (.bipush 67, 2) := by decide +kernel
theorem dX12_init_441 : decode cX12_init 441 = .ok (.bipush 116, 2) := by decide +kernel
theorem dX12_init_443 : decode cX12_init 443 = .ok (.bastore, 1) := by decide +kernel
theorem dX12_init_444 : decode cX12_init 444 = .ok (.dup, 1) := by decide +kernel
theorem dX12_init_445 : decode cX12_init 445 = .ok (.bipush 68, 2) := by decide +kernel
theorem dX12_init_447 : decode cX12_init 447 = .ok (.bipush 101, 2) := by decide +kernel
theorem dX12_init_449 : decode cX12_init 449 = .ok (.bastore, 1) := by decide +kernel
theorem dX12_init_450 : decode cX12_init 450 = .ok (.dup, 1) := by decide +kernel
theorem dX12_init_451 : decode cX12_init 451 = .ok (.bipush 69, 2) := by decide +kernel
theorem dX12_init_453 : decode cX12_init 453 = .ok (.bipush 114, 2) := by decide +kernel
theorem dX12_init_455 : decode cX12_init 455 = .ok (.bastore, 1) := by decide +kernel
theorem dX12_init_456 : decode cX12_init 456 = .ok (.dup, 1) := by decide +kernel
theorem dX12_init_457 : decode cX12_init 457 = .ok (.bipush 70, 2) := by decide +kernel
theorem dX12_init_459 : decode cX12_init 459 = .ok (.bipush 32, 2) := by decide +kernel
theorem dX12_init_461 : decode cX12_init 461 = .ok (.bastore, 1) := by decide +kernel
theorem dX12_init_462 : decode cX12_init 462 = .ok (.dup, 1) := by decide +kernel
theorem dX12_init_463 : decode cX12_init 463 = .ok (.bipush 71, 2) := by decide +kernel
theorem dX12_init_465 : decode cX12_init 465 = .ok (.bipush 119, 2) := by decide +kernel
theorem dX12_init_467 : decode cX12_init 467 = .ok (.bastore, 1) := by decide +kernel
theorem dX12_init_468 : decode cX12_init 468 = .ok (.dup, 1) := by decide +kernel
theorem dX12_init_469 : decode cX12_init 469 = .ok (.bipush 72, 2) := by decide +kernel
theorem dX12_init_471 : decode cX12_init 471 = .ok (.bipush 111, 2) := by decide +kernel
theorem dX12_init_473 : decode cX12_init 473 = .ok (.bastore, 1) := by decide +kernel
theorem dX12_init_474 : decode cX12_init 474 = .ok (.dup, 1) := by decide +kernel
theorem dX12_init_475 : decode cX12_init 475 = .ok (.bipush 73, 2) := by decide +kernel
theorem dX12_init_477 : decode cX12_init 477 = .ok (.bipush 114, 2) := by decide +kernel
theorem dX12_init_479 : decode cX12_init 479 = .ok (.bastore, 1) := by decide +kernel
theorem dX12_init_480 : decode cX12_init 480 = .ok (.dup, 1) := by decide +kernel
theorem dX12_init_481 : decode cX12_init 481 = .ok (.bipush 74, 2) := by decide +kernel
theorem dX12_init_483 : decode cX12_init 483 = .ok (.bipush 100, 2) := by decide +kernel
theorem dX12_init_485 : decode cX12_init 485 = .ok (.bastore, 1) := by decide +kernel
theorem dX12_init_486 : decode cX12_init 486 = .ok (.dup, 1) := by decide +kernel
theorem dX12_init_487 : decode cX12_init 487 = .ok (.bipush 75, 2) := by decide +kernel
theorem dX12_init_489 : decode cX12_init 489 = .ok (.bipush 105, 2) := by decide +kernel
theorem dX12_init_491 : decode cX12_init 491 = .ok (.bastore, 1) := by decide +kernel
theorem dX12_init_492 : decode cX12_init 492 = .ok (.dup, 1) := by decide +kernel
theorem dX12_init_493 : decode cX12_init 493 = .ok (.bipush 76, 2) := by decide +kernel
theorem dX12_init_495 : decode cX12_init 495 = .ok (.bipush 110, 2) := by decide +kernel
theorem dX12_init_497 : decode cX12_init 497 = .ok (.bastore, 1) := by decide +kernel
theorem dX12_init_498 : decode cX12_init 498 = .ok (.dup, 1) := by decide +kernel
theorem dX12_init_499 : decode cX12_init 499 = .ok (.bipush 77, 2) := by decide +kernel
theorem dX12_init_501 : decode cX12_init 501 = .ok (.bipush 103, 2) := by decide +kernel
theorem dX12_init_503 : decode cX12_init 503 = .ok (.bastore, 1) := by decide +kernel
theorem dX12_init_504 : decode cX12_init 504 = .ok (.dup, 1) := by decide +kernel
theorem dX12_init_505 : decode cX12_init 505 = .ok (.bipush 78, 2) := by decide +kernel
theorem dX12_init_507 : decode cX12_init 507 = .ok (.bipush 32, 2) := by decide +kernel
theorem dX12_init_509 : decode cX12_init 509 = .ok (.bastore, 1) := by decide +kernel
theorem dX12_init_510 : decode cX12_init 510 = .ok (.dup, 1) := by decide +kernel
theorem dX12_init_511 : decode cX12_init 511 = .ok (.bipush 79, 2) := by decide +kernel
theorem dX12_init_513 : decode cX12_init 513 = .ok (.bipush 115, 2) := by decide +kernel
theorem dX12_init_515 : decode cX12_init 515 = .ok (.bastore, 1) := by decide +kernel
theorem dX12_init_516 : decode cX12_init 516 = .ok (.dup, 1) := by decide +kernel
theorem dX12_init_517 : decode cX12_init 517 = .ok (.bipush 80, 2) := by decide +kernel
theorem dX12_init_519 : decode cX12_init 519 = .ok (.bipush 104, 2) := by decide +kernel
theorem dX12_init_521 : decode cX12_init 521 = .ok (.bastore, 1) := by decide +kernel
theorem dX12_init_522 : decode cX12_init 522 = .ok (.dup, 1) := by decide +kernel
theorem dX12_init_523 : decode cX12_init 523 = .ok (.bipush 81, 2) := by decide +kernel
theorem dX12_init_525 : decode cX12_init 525 = .ok (.bipush 97, 2) := by decide +kernel
theorem dX12_init_527 : decode cX12_init 527 = .ok (.bastore, 1) := by decide +kernel
theorem dX12_init_528 : decode cX12_init 528 = .ok (.dup, 1) := by decide +kernel
theorem dX12_init_529 : decode cX12_init 529 = .ok (.bipush 82, 2) := by decide +kernel
theorem dX12_init_531 : decode cX12_init 531 = .ok (.bipush 114, 2) := by decide +kernel
theorem dX12_init_533 : decode cX12_init 533 = .ok (.bastore, 1) := by decide +kernel
theorem dX12_init_534 : decode cX12_init 534 = .ok (.dup, 1) := by decide +kernel
theorem dX12_init_535 : decode cX12_init 535 = .ok (.bipush 83, 2) := by decide +kernel
theorem dX12_init_537 : decode cX12_init 537 = .ok (.bipush 101, 2) := by decide +kernel
theorem dX12_init_539 : decode cX12_init 539 = .ok (.bastore, 1) := by decide +kernel
theorem dX12_init_540 : decode cX12_init 540 = .ok (.dup, 1) := by decide +kernel
theorem dX12_init_541 : decode cX12_init 541 = .ok (.bipush 84, 2) := by decide +kernel
theorem dX12_init_543 : decode cX12_init 543 = .ok (.bipush 100, 2) := by decide +kernel
theorem dX12_init_545 : decode cX12_init 545 = .ok (.bastore, 1) := by decide +kernel
theorem dX12_init_546 : decode cX12_init 546 = .ok (.dup, 1) := by decide +kernel
theorem dX12_init_547 : decode cX12_init 547 = .ok (.bipush 85, 2) := by decide +kernel
theorem dX12_init_549 : decode cX12_init 549 = .ok (.bipush 32, 2) := by decide +kernel
theorem dX12_init_551 : decode cX12_init 551 = .ok (.bastore, 1) := by decide +kernel
theorem dX12_init_552 : decode cX12_init 552 = .ok (.dup, 1) := by decide +kernel
theorem dX12_init_553 : decode cX12_init 553 = .ok (.bipush 86, 2) := by decide +kernel
theorem dX12_init_555 : decode cX12_init 555 = .ok (.bipush 108, 2) := by decide +kernel
theorem dX12_init_557 : decode cX12_init 557 = .ok (.bastore, 1) := by decide +kernel
theorem dX12_init_558 : decode cX12_init 558 = .ok (.dup, 1) := by decide +kernel
theorem dX12_init_559 : decode cX12_init 559 = .ok (.bipush 87, 2) := by decide +kernel
theorem dX12_init_561 : decode cX12_init 561 = .ok (.bipush 97, 2) := by decide +kernel
theorem dX12_init_563 : decode cX12_init 563 = .ok (.bastore, 1) := by decide +kernel
theorem dX12_init_564 : decode cX12_init 564 = .ok (.dup, 1) := by decide +kernel
theorem dX12_init_565 : decode cX12_init 565 = .ok (.bipush 88, 2) := by decide +kernel
theorem dX12_init_567 : decode cX12_init 567 = .ok (.bipush 110, 2) := by decide +kernel
theorem dX12_init_569 : decode cX12_init 569 = .ok (.bastore, 1) := by decide +kernel
theorem dX12_init_570 : decode cX12_init 570 = .ok (.dup, 1) := by decide +kernel
theorem dX12_init_571 : decode cX12_init 571 = .ok (.bipush 89, 2) := by decide +kernel
theorem dX12_init_573 : decode cX12_init 573 = .ok (.bipush 100, 2) := by decide +kernel
theorem dX12_init_575 : decode cX12_init 575 = .ok (.bastore, 1) := by decide +kernel
theorem dX12_init_576 : decode cX12_init 576 = .ok (.dup, 1) := by decide +kernel
theorem dX12_init_577 : decode cX12_init 577 = .ok (.bipush 90, 2) := by decide +kernel
theorem dX12_init_579 : decode cX12_init 579 = .ok (.bipush 32, 2) := by decide +kernel
theorem dX12_init_581 : decode cX12_init 581 = .ok (.bastore, 1) := by decide +kernel
theorem dX12_init_582 : decode cX12_init 582 = .ok (.dup, 1) := by decide +kernel
theorem dX12_init_583 : decode cX12_init 583 = .ok (.bipush 91, 2) := by decide +kernel
theorem dX12_init_585 : decode cX12_init 585 = .ok (.bipush 104, 2) := by decide +kernel
theorem dX12_init_587 : decode cX12_init 587 = .ok (.bastore, 1) := by decide +kernel
theorem dX12_init_588 : decode cX12_init 588 = .ok (.dup, 1) := by decide +kernel
theorem dX12_init_589 : decode cX12_init 589 = .ok (.bipush 92, 2) := by decide +kernel
theorem dX12_init_591 : decode cX12_init 591 = .ok (.bipush 97, 2) := by decide +kernel
theorem dX12_init_593 : decode cX12_init 593 = .ok (.bastore, 1) := by decide +kernel
theorem dX12_init_594 : decode cX12_init 594 = .ok (.dup, 1) := by decide +kernel
theorem dX12_init_595 : decode cX12_init 595 = .ok (.bipush 93, 2) := by decide +kernel
theorem dX12_init_597 : decode cX12_init 597 = .ok (.bipush 110, 2) := by decide +kernel
theorem dX12_init_599 : decode cX12_init 599 = .ok (.bastore, 1) := by decide +kernel
theorem dX12_init_600 : decode cX12_init 600 = .ok (.dup, 1) := by decide +kernel
theorem dX12_init_601 : decode cX12_init 601 = .ok (.bipush 94, 2) := by decide +kernel
theorem dX12_init_603 : decode cX12_init 603 = .ok (.bipush 100, 2) := by decide +kernel
theorem dX12_init_605 : decode cX12_init 605 = .ok (.bastore, 1) := by decide +kernel
theorem dX12_init_606 : decode cX12_init 606 = .ok (.dup, 1) := by decide +kernel
theorem dX12_init_607 : decode cX12_init 607 = .ok (.bipush 95, 2) := by decide +kernel
theorem dX12_init_609 : decode cX12_init 609 = .ok (.bipush 32, 2) := by decide +kernel
theorem dX12_init_611 : decode cX12_init 611 = .ok (.bastore, 1) := by decide +kernel
theorem dX12_init_612 : decode cX12_init 612 = .ok (.dup, 1) := by decide +kernel
theorem dX12_init_613 : decode cX12_init 613 = .ok (.bipush 96, 2) := by decide +kernel
theorem dX12_init_615 : decode cX12_init 615 = .ok (.bipush 107, 2) := by decide +kernel
theorem dX12_init_617 : decode cX12_init 617 = .ok (.bastore, 1) := by decide +kernel
theorem dX12_init_618 : decode cX12_init 618 = .ok (.dup, 1) := by decide +kernel
theorem dX12_init_619 : decode cX12_init 619 = .ok (.bipush 97, 2) := by decide +kernel
theorem dX12_init_621 : decode cX12_init 621 = .ok (.bipush 105, 2) := by decide +kernel
theorem dX12_init_623 : decode cX12_init 623 = .ok (.bastore, 1) := by decide +kernel
theorem dX12_init_624 : decode cX12_init 624 = .ok (.dup, 1) := by decide +kernel
theorem dX12_init_625 : decode cX12_init 625 = .ok (.bipush 98, 2) := by decide +kernel
theorem dX12_init_627 : decode cX12_init 627 = .ok (.bipush 110, 2) := by decide +kernel
theorem dX12_init_629 : decode cX12_init 629 = .ok (.bastore, 1) := by decide +kernel
theorem dX12_init_630 : decode cX12_init 630 = .ok (.dup, 1) := by decide +kernel
theorem dX12_init_631 : decode cX12_init 631 = .ok (.bipush 99, 2) := by decide +kernel
theorem dX12_init_633 : decode cX12_init 633 = .ok (.bipush 100, 2) := by decide +kernel
theorem dX12_init_635 : decode cX12_init 635 = .ok (.bastore, 1) := by decide +kernel
theorem dX12_init_636 : decode cX12_init 636 = .ok (.dup, 1) := by decide +kernel
theorem dX12_init_637 : decode cX12_init 637 = .ok (.bipush 100, 2) := by decide +kernel
theorem dX12_init_639 : decode cX12_init 639 = .ok (.bipush 32, 2) := by decide +kernel
theorem dX12_init_641 : decode cX12_init 641 = .ok (.bastore, 1) := by decide +kernel
theorem dX12_init_642 : decode cX12_init 642 = .ok (.dup, 1) := by decide +kernel
theorem dX12_init_643 : decode cX12_init 643 = .ok (.bipush 101, 2) := by decide +kernel
theorem dX12_init_645 : decode cX12_init 645 = .ok (.bipush 108, 2) := by decide +kernel
theorem dX12_init_647 : decode cX12_init 647 = .ok (.bastore, 1) := by decide +kernel
theorem dX12_init_648 : decode cX12_init 648 = .ok (.dup, 1) := by decide +kernel
theorem dX12_init_649 : decode cX12_init 649 = .ok (.bipush 102, 2) := by decide +kernel
theorem dX12_init_651 : decode cX12_init 651 = .ok (.bipush 105, 2) := by decide +kernel
theorem dX12_init_653 : decode cX12_init 653 = .ok (.bastore, 1) := by decide +kernel
theorem dX12_init_654 : decode cX12_init 654 = .ok (.dup, 1) := by decide +kernel
theorem dX12_init_655 : decode cX12_init 655 = .ok (.bipush 103, 2) := by decide +kernel
theorem dX12_init_657 : decode cX12_init 657 = .ok (.bipush 115, 2) := by decide +kernel
theorem dX12_init_659 : decode cX12_init 659 = .ok (.bastore, 1) := by decide +kernel
theorem dX12_init_660 : decode cX12_init 660 = .ok (.dup, 1) := by decide +kernel
theorem dX12_init_661 : decode cX12_init 661 = .ok (.bipush 104, 2) := by decide +kernel
theorem dX12_init_663 : decode cX12_init 663 = .ok (.bipush 116, 2) := by decide +kernel
theorem dX12_init_665 : decode cX12_init 665 = .ok (.bastore, 1) := by decide +kernel
theorem dX12_init_666 : decode cX12_init 666 = .ok (.dup, 1) := by decide +kernel
theorem dX12_init_667 : decode cX12_init 667 = .ok (.bipush 105, 2) := by decide +kernel
theorem dX12_init_669 : decode cX12_init 669 = .ok (.bipush 115, 2) := by decide +kernel
theorem dX12_init_671 : decode cX12_init 671 = .ok (.bastore, 1) := by decide +kernel
theorem dX12_init_672 : decode cX12_init 672 = .ok (.dup, 1) := by decide +kernel
theorem dX12_init_673 : decode cX12_init 673 = .ok (.bipush 106, 2) := by decide +kernel
theorem dX12_init_675 : decode cX12_init 675 = .ok (.bipush 32, 2) := by decide +kernel
theorem dX12_init_677 : decode cX12_init 677 = .ok (.bastore, 1) := by decide +kernel
theorem dX12_init_678 : decode cX12_init 678 = .ok (.dup, 1) := by decide +kernel
theorem dX12_init_679 : decode cX12_init 679 = .ok (.bipush 107, 2) := by decide +kernel
theorem dX12_init_681 : decode cX12_init 681 = .ok (.bipush 108, 2) := by decide +kernel
theorem dX12_init_683 : decode cX12_init 683 = .ok (.bastore, 1) := by decide +kernel
theorem dX12_init_684 : decode cX12_init 684 = .ok (.dup, 1) := by decide +kernel
theorem dX12_init_685 : decode cX12_init 685 = .ok (.bipush 108, 2) := by decide +kernel
theorem dX12_init_687 : decode cX12_init 687 = .ok (.bipush 111, 2) := by decide +kernel
theorem dX12_init_689 : decode cX12_init 689 = .ok (.bastore, 1) := by decide +kernel
theorem dX12_init_690 : decode cX12_init 690 = .ok (.dup, 1) := by decide +kernel
theorem dX12_init_691 : decode cX12_init 691 = .ok (.bipush 109, 2) := by decide +kernel
theorem dX12_init_693 : decode cX12_init 693 = .ok (.bipush 111, 2) := by decide +kernel
theorem dX12_init_695 : decode cX12_init 695 = .ok (.bastore, 1) := by decide +kernel
theorem dX12_init_696 : decode cX12_init 696 = .ok (.dup, 1) := by decide +kernel
theorem dX12_init_697 : decode cX12_init 697 = .ok (.bipush 110, 2) := by decide +kernel
theorem dX12_init_699 : decode cX12_init 699 = .ok (.bipush 107, 2) := by decide +kernel
theorem dX12_init_701 : decode cX12_init 701 = .ok (.bastore, 1) := by decide +kernel
theorem dX12_init_702 : decode cX12_init 702 = .ok (.dup, 1) := by decide +kernel
theorem dX12_init_703 : decode cX12_init 703 = .ok (.bipush 111, 2) := by decide +kernel
theorem dX12_init_705 : decode cX12_init 705 = .ok (.bipush 101, 2) := by decide +kernel
theorem dX12_init_707 : decode cX12_init 707 = .ok (.bastore, 1) := by decide +kernel
theorem dX12_init_708 : decode cX12_init 708 = .ok (.dup, 1) := by decide +kernel
theorem dX12_init_709 : decode cX12_init 709 = .ok (.bipush 112, 2) := by decide +kernel
theorem dX12_init_711 : decode cX12_init 711 = .ok (.bipush 100, 2) := by decide +kernel
theorem dX12_init_713 : decode cX12_init 713 = .ok (.bastore, 1) := by decide +kernel
theorem dX12_init_714 : decode cX12_init 714 = .ok (.dup, 1) := by decide +kernel
theorem dX12_init_715 : decode cX12_init 715 = .ok (.bipush 113, 2) := by decide +kernel
theorem dX12_init_717 : decode cX12_init 717 = .ok (.bipush 32, 2) := by decide +kernel
theorem dX12_init_719 : decode cX12_init 719 = .ok (.bastore, 1) := by decide +kernel
theorem dX12_init_720 : decode cX12_init 720 = .ok (.putfield 30, 3) := by decide +kernel
theorem dX12_init_723 : decode cX12_init 723 = .ok (.aload_n 0, 1) := by decide +kernel
theorem dX12_init_724 : decode cX12_init 724 = .ok (.sipush 400, 3) := by decide +kernel
theorem dX12_init_727 : decode cX12_init 727 = .ok (.newarray .byte, 2) := by decide +kernel
theorem dX12_init_729 : decode cX12_init 729 = .ok (.putfield 34, 3) := by decide +kernel
theorem dX12_init_732 : decode cX12_init 732 = .ok (.aload_n 0, 1) := by decide +kernel
theorem dX12_init_733 : decode cX12_init 733 = .ok (.iconst 5, 1) := by decide +kernel
theorem dX12_init_734 : decode cX12_init 734 = .ok (.newarray .int, 2) := by decide +kernel
theorem dX12_init_736 : decode cX12_init 736 = .ok (.putfield 37, 3) := by decide +kernel
theorem dX12_init_739 : decode cX12_init 739 = .ok (.aload_n 0, 1) := by decide +kernel
theorem dX12_init_740 : decode cX12_init 740 = .ok (.iconst (-1), 1) := by decide +kernel
theorem dX12_init_741 : decode cX12_init 741 = .ok (.putfield 40, 3) := by decide +kernel
theorem dX12_init_744 : decode cX12_init 744 = .ok (.aload_n 0, 1) := by decide +kernel
theorem dX12_init_745 : decode cX12_init 745 = .ok (.sipush 401, 3) := by decide +kernel
theorem dX12_init_748 : decode cX12_init 748 = .ok (.newarray .int, 2) := by decide +kernel
theorem dX12_init_750 : decode cX12_init 750 = .ok (.putfield 43, 3) := by decide +kernel
theorem dX12_init_753 : decode cX12_init 753 = .ok (.aload_n 0, 1) := by decide +kernel
theorem dX12_init_754 : decode cX12_init 754 = .ok (.sipush 401, 3) := by decide +kernel
theorem dX12_init_757 : decode cX12_init 757 = .ok (.newarray .int, 2) := by decide +kernel
theorem dX12_init_759 : decode cX12_init 759 = .ok (.putfield 46, 3) := by decide +kernel
theorem dX12_init_762 : decode cX12_init 762 = .ok (.aload_n 0, 1) := by decide +kernel
theorem dX12_init_763 : decode cX12_init 763 = .ok (.sipush 401, 3) := by decide +kernel
theorem dX12_init_766 : decode cX12_init 766 = .ok (.newarray .int, 2) := by decide +kernel
theorem dX12_init_768 : decode cX12_init 768 = .ok (.putfield 49, 3) := by decide +kernel
theorem dX12_init_771 : decode cX12_init 771 = .ok (.aload_n 0, 1) := by decide +kernel
theorem dX12_init_772 : decode cX12_init 772 = .ok (.bipush 9, 2) := by decide +kernel
theorem dX12_init_774 : decode cX12_init 774 = .ok (.newarray .int, 2) := by decide +kernel
theorem dX12_init_776 : decode cX12_init 776 = .ok (.putfield 52, 3) := by decide +kernel
theorem dX12_init_779 : decode cX12_init 779 = .ok (.aload_n 0, 1) := by decide +kernel
theorem dX12_init_780 : decode cX12_init 780 = .ok (.sipush 200, 3) := by decide +kernel
theorem dX12_init_783 : decode cX12_init 783 = .ok (.newarray .int, 2) := by decide +kernel
theorem dX12_init_785 : decode cX12_init 785 = .ok (.putfield 55, 3) := by decide +kernel
theorem dX12_init_788 : decode cX12_init 788 = .ok (.aload_n 0, 1) := by decide +kernel
theorem dX12_init_789 : decode cX12_init 789 = .ok (.sipush 156, 3) := by decide +kernel
theorem dX12_init_792 : decode cX12_init 792 = .ok (.newarray .int, 2) := by decide +kernel
theorem dX12_init_794 : decode cX12_init 794 = .ok (.putfield 58, 3) := by decide +kernel
theorem dX12_init_797 : decode cX12_init 797 = .ok (.aload_n 0, 1) := by decide +kernel
theorem dX12_init_798 : decode cX12_init 798 = .ok (.bipush 12, 2) := by decide +kernel
theorem dX12_init_800 : decode cX12_init 800 = .ok (.newarray .int, 2) := by decide +kernel
theorem dX12_init_802 : decode cX12_init 802 = .ok (.putfield 61, 3) := by decide +kernel
theorem dX12_init_805 : decode cX12_init 805 = .ok (.aload_n 0, 1) := by decide +kernel
theorem dX12_init_806 : decode cX12_init 806 = .ok (.sipush 4096, 3) := by decide +kernel
theorem dX12_init_809 : decode cX12_init 809 = .ok (.newarray .int, 2) := by decide +kernel
theorem dX12_init_811 : decode cX12_init 811 = .ok (.putfield 64, 3) := by decide +kernel
theorem dX12_init_814 : decode cX12_init 814 = .ok (.aload_n 0, 1) := by decide +kernel
theorem dX12_init_815 : decode cX12_init 815 = .ok (.bipush 12, 2) := by decide +kernel
theorem dX12_init_817 : decode cX12_init 817 = .ok (.newarray .int, 2) := by decide +kernel
theorem dX12_init_819 : decode cX12_init 819 = .ok (.putfield 67, 3) := by decide +kernel
theorem dX12_init_822 : decode cX12_init 822 = .ok (.aload_n 0, 1) := by decide +kernel
theorem dX12_init_823 : decode cX12_init 823 = .ok (.iconst (-1), 1) := by decide +kernel
theorem dX12_init_824 : decode cX12_init 824 = .ok (.putfield 70, 3) := by decide +kernel
theorem dX12_init_827 : decode cX12_init 827 = .ok (.aload_n 0, 1) := by decide +kernel
theorem dX12_init_828 : decode cX12_init 828 = .ok (.sipush 144, 3) := by decide +kernel
theorem dX12_init_831 : decode cX12_init 831 = .ok (.newarray .boolean, 2) := by decide +kernel
theorem dX12_init_833 : decode cX12_init 833 = .ok (.putfield 73, 3) := by decide +kernel
theorem dX12_init_836 : decode cX12_init 836 = .ok (.aload_n 0, 1) := by decide +kernel
theorem dX12_init_837 : decode cX12_init 837 = .ok (.bipush 12, 2) := by decide +kernel
theorem dX12_init_839 : decode cX12_init 839 = .ok (.newarray .int, 2) := by decide +kernel
theorem dX12_init_841 : decode cX12_init 841 = .ok (.putfield 76, 3) := by decide +kernel
theorem dX12_init_844 : decode cX12_init 844 = .ok (.aload_n 0, 1) := by decide +kernel
theorem dX12_init_845 : decode cX12_init 845 = .ok (.sipush 380, 3) := by decide +kernel
theorem dX12_init_848 : decode cX12_init 848 = .ok (.newarray .long, 2) := by decide +kernel
theorem dX12_init_850 : decode cX12_init 850 = .ok (.putfield 79, 3) := by decide +kernel
theorem dX12_init_853 : decode cX12_init 853 = .ok (.aload_n 0, 1) := by decide +kernel
theorem dX12_init_854 : decode cX12_init 854 = .ok (.sipush 380, 3) := by decide +kernel
theorem dX12_init_857 : decode cX12_init 857 = .ok (.newarray .long, 2) := by decide +kernel
theorem dX12_init_859 : decode cX12_init 859 = .ok (.putfield 83, 3) := by decide +kernel
theorem dX12_init_862 : decode cX12_init 862 = .ok (.aload_n 0, 1) := by decide +kernel
theorem dX12_init_863 : decode cX12_init 863 = .ok (.sipush 380, 3) := by decide +kernel
theorem dX12_init_866 : decode cX12_init 866 = .ok (.newarray .long, 2) := by decide +kernel
theorem dX12_init_868 : decode cX12_init 868 = .ok (.putfield 86, 3) := by decide +kernel
theorem dX12_init_871 : decode cX12_init 871 = .ok (.aload_n 0, 1) := by decide +kernel
theorem dX12_init_872 : decode cX12_init 872 = .ok (.bipush 12, 2) := by decide +kernel
theorem dX12_init_874 : decode cX12_init 874 = .ok (.newarray .int, 2) := by decide +kernel
theorem dX12_init_876 : decode cX12_init 876 = .ok (.putfield 89, 3) := by decide +kernel
theorem dX12_init_879 : decode cX12_init 879 = .ok (.aload_n 0, 1) := by decide +kernel
theorem dX12_init_880 : decode cX12_init 880 = .ok (.bipush 12, 2) := by decide +kernel
theorem dX12_init_882 : decode cX12_init 882 = .ok (.newarray .int, 2) := by decide +kernel
theorem dX12_init_884 : decode cX12_init 884 = .ok (.putfield 92, 3) := by decide +kernel
theorem dX12_init_887 : decode cX12_init 887 = .ok (.aload_n 0, 1) := by decide +kernel
theorem dX12_init_888 : decode cX12_init 888 = .ok (.sipush 380, 3) := by decide +kernel
theorem dX12_init_891 : decode cX12_init 891 = .ok (.newarray .long, 2) := by decide +kernel
theorem dX12_init_893 : decode cX12_init 893 = .ok (.putfield 95, 3) := by decide +kernel
theorem dX12_init_896 : decode cX12_init 896 = .ok (.aload_n 0, 1) := by decide +kernel
theorem dX12_init_897 : decode cX12_init 897 = .ok (.bipush 60, 2) := by decide +kernel
theorem dX12_init_899 : decode cX12_init 899 = .ok (.newarray .boolean, 2) := by decide +kernel
theorem dX12_init_901 : decode cX12_init 901 = .ok (.putfield 98, 3) := by decide +kernel
theorem dX12_init_904 : decode cX12_init 904 = .ok (.aload_n 0, 1) := by decide +kernel
theorem dX12_init_905 : decode cX12_init 905 = .ok (.sipush 1728, 3) := by decide +kernel
theorem dX12_init_908 : decode cX12_init 908 = .ok (.newarray .int, 2) := by decide +kernel
theorem dX12_init_910 : decode cX12_init 910 = .ok (.putfield 101, 3) := by decide +kernel
theorem dX12_init_913 : decode cX12_init 913 = .ok (.aload_n 0, 1) := by decide +kernel
theorem dX12_init_914 : decode cX12_init 914 = .ok (.bipush 12, 2) := by decide +kernel
theorem dX12_init_916 : decode cX12_init 916 = .ok (.newarray .int, 2) := by decide +kernel
theorem dX12_init_918 : decode cX12_init 918 = .ok (.putfield 104, 3) := by decide +kernel
theorem dX12_init_921 : decode cX12_init 921 = .ok (.aload_n 0, 1) := by decide +kernel
theorem dX12_init_922 : decode cX12_init 922 = .ok (.bipush 12, 2) := by decide +kernel
theorem dX12_init_924 : decode cX12_init 924 = .ok (.newarray .int, 2) := by decide +kernel
theorem dX12_init_926 : decode cX12_init 926 = .ok (.putfield 107, 3) := by decide +kernel
theorem dX12_init_929 : decode cX12_init 929 = .ok (.aload_n 0, 1) := by decide +kernel
theorem dX12_init_930 : decode cX12_init 930 = .ok (.iconst (-1), 1) := by decide +kernel
theorem dX12_init_931 : decode cX12_init 931 = .ok (.putfield 110, 3) := by decide +kernel
theorem dX12_init_934 : decode cX12_init 934 = .ok (.aload_n 0, 1) := by decide +kernel
theorem dX12_init_935 : decode cX12_init 935 = .ok (.getfield 20, 3) := by decide +kernel
theorem dX12_init_938 : decode cX12_init 938 = .ok (.sipush 1340, 3) := by decide +kernel
theorem dX12_init_941 : decode cX12_init 941 = .ok (.iconst 3, 1) := by decide +kernel
theorem dX12_init_942 : decode cX12_init 942 = .ok (.iastore, 1) := by decide +kernel
theorem dX12_init_943 : decode cX12_init 943 = .ok (.aload_n 0, 1) := by decide +kernel
theorem dX12_init_944 : decode cX12_init 944 = .ok (.getfield 20, 3) := by decide +kernel
theorem dX12_init_947 : decode cX12_init 947 = .ok (.sipush 1341, 3) := by decide +kernel
theorem dX12_init_950 : decode cX12_init 950 = .ok (.iconst 1, 1) := by decide +kernel
theorem dX12_init_951 : decode cX12_init 951 = .ok (.iastore, 1) := by decide +kernel
theorem dX12_init_952 : decode cX12_init 952 = .ok (.aload_n 0, 1) := by decide +kernel
theorem dX12_init_953 : decode cX12_init 953 = .ok (.getfield 20, 3) := by decide +kernel
theorem dX12_init_956 : decode cX12_init 956 = .ok (.sipush 1342, 3) := by decide +kernel
theorem dX12_init_959 : decode cX12_init 959 = .ok (.iconst 2, 1) := by decide +kernel
theorem dX12_init_960 : decode cX12_init 960 = .ok (.iastore, 1) := by decide +kernel
theorem dX12_init_961 : decode cX12_init 961 = .ok (.aload_n 0, 1) := by decide +kernel
theorem dX12_init_962 : decode cX12_init 962 = .ok (.getfield 20, 3) := by decide +kernel
theorem dX12_init_965 : decode cX12_init 965 = .ok (.sipush 1343, 3) := by decide +kernel
theorem dX12_init_968 : decode cX12_init 968 = .ok (.bipush 20, 2) := by decide +kernel
theorem dX12_init_970 : decode cX12_init 970 = .ok (.iastore, 1) := by decide +kernel
theorem dX12_init_971 : decode cX12_init 971 = .ok (.aload_n 0, 1) := by decide +kernel
theorem dX12_init_972 : decode cX12_init 972 = .ok (.getfield 20, 3) := by decide +kernel
theorem dX12_init_975 : decode cX12_init 975 = .ok (.sipush 1349, 3) := by decide +kernel
theorem dX12_init_978 : decode cX12_init 978 = .ok (.iconst (-1), 1) := by decide +kernel
theorem dX12_init_979 : decode cX12_init 979 = .ok (.iastore, 1) := by decide +kernel
theorem dX12_init_980 : decode cX12_init 980 = .ok (.return_, 1) := by decide +kernel
theorem dX12_image_0 : decode cX12_image 0 = .ok (.iload_n 1, 1) := by decide +kernel
theorem dX12_image_1 : decode cX12_image 1 = .ok (.iconst 0, 1) := by decide +kernel
theorem dX12_image_2 : decode cX12_image 2 = .ok (.iconst 1, 1) := by decide +kernel
theorem dX12_image_3 : decode cX12_image 3 = .ok (.invokestatic 113, 3) := by decide +kernel
theorem dX12_image_6 : decode cX12_image 6 = .ok (.ifCond .ne 9, 3) := by decide +kernel
theorem dX12_image_9 : decode cX12_image 9 = .ok (.aload_n 0, 1) := by decide +kernel
theorem dX12_image_10 : decode cX12_image 10 = .ok (.iconst (-1), 1) := by decide +kernel
theorem dX12_image_11 : decode cX12_image 11 = .ok (.invokevirtual 117, 3) := by decide +kernel
theorem dX12_image_14 : decode cX12_image 14 = .ok (.ireturn, 1) := by decide +kernel
theorem dX12_image_15 : decode cX12_image 15 = .ok (.iconst 0, 1) := by decide +kernel
theorem dX12_image_16 : decode cX12_image 16 = .ok (.istore_n 2, 1) := by decide +kernel
theorem dX12_image_17 : decode cX12_image 17 = .ok (.iload_n 2, 1) := by decide +kernel
theorem dX12_image_18 : decode cX12_image 18 = .ok (.sipush 7758, 3) := by decide +kernel
theorem dX12_image_21 : decode cX12_image 21 = .ok (.if_icmp .ge 27, 3) := by decide +kernel
theorem dX12_image_24 : decode cX12_image 24 = .ok (.aload_n 0, 1) := by decide +kernel
theorem dX12_image_25 : decode cX12_image 25 = .ok (.getfield 23, 3) := by decide +kernel
theorem dX12_image_28 : decode cX12_image 28 = .ok (.sipush 7758, 3) := by decide +kernel
theorem dX12_image_31 : decode cX12_image 31 = .ok (.iload_n 1, 1) := by decide +kernel
theorem dX12_image_32 : decode cX12_image 32 = .ok (.imul, 1) := by decide +kernel
theorem dX12_image_33 : decode cX12_image 33 = .ok (.iload_n 2, 1) := by decide +kernel
theorem dX12_image_34 : decode cX12_image 34 = .ok (.iadd, 1) := by decide +kernel
theorem dX12_image_35 : decode cX12_image 35 = .ok (.aload_n 0, 1) := by decide +kernel
theorem dX12_image_36 : decode cX12_image 36 = .ok (.getfield 20, 3) := by decide +kernel
theorem dX12_image_39 : decode cX12_image 39 = .ok (.iload_n 2, 1) := by decide +kernel
theorem dX12_image_40 : decode cX12_image 40 = .ok (.iaload, 1) := by decide +kernel
theorem dX12_image_41 : decode cX12_image 41 = .ok (.iastore, 1) := by decide +kernel
theorem dX12_image_42 : decode cX12_image 42 = .ok (.iinc 2 1, 3) := by decide +kernel
theorem dX12_image_45 : decode cX12_image 45 = .ok (.goto (-28), 3) := by decide +kernel
theorem dX12_image_48 : decode cX12_image 48 = .ok (.aload_n 0, 1) := by decide +kernel
theorem dX12_image_49 : decode cX12_image 49 = .ok (.getfield 26, 3) := by decide +kernel
theorem dX12_image_52 : decode cX12_image 52 = .ok (.iload_n 1, 1) := by decide +kernel
theorem dX12_image_53 : decode cX12_image 53 = .ok (.iconst 1, 1) := by decide +kernel
theorem dX12_image_54 : decode cX12_image 54 = .ok (.bastore, 1) := by decide +kernel
theorem dX12_image_55 : decode cX12_image 55 = .ok (.aload_n 0, 1) := by decide +kernel
theorem dX12_image_56 : decode cX12_image 56 = .ok (.iconst 0, 1) := by decide +kernel
theorem dX12_image_57 : decode cX12_image 57 = .ok (.invokevirtual 121, 3) := by decide +kernel
theorem dX12_image_60 : decode cX12_image 60 = .ok (.ireturn, 1) := by decide +kernel
theorem dX12_back_0 : decode cX12_back 0 = .ok (.iload_n 1, 1) := by decide +kernel
theorem dX12_back_1 : decode cX12_back 1 = .ok (.iconst 0, 1) := by decide +kernel
theorem dX12_back_2 : decode cX12_back 2 = .ok (.iconst 1, 1) := by decide +kernel
theorem dX12_back_3 : decode cX12_back 3 = .ok (.invokestatic 113, 3) := by decide +kernel
theorem dX12_back_6 : decode cX12_back 6 = .ok (.ifCond .ne 9, 3) := by decide +kernel
theorem dX12_back_9 : decode cX12_back 9 = .ok (.aload_n 0, 1) := by decide +kernel
theorem dX12_back_10 : decode cX12_back 10 = .ok (.iconst (-1), 1) := by decide +kernel
theorem dX12_back_11 : decode cX12_back 11 = .ok (.invokevirtual 117, 3) := by decide +kernel
theorem dX12_back_14 : decode cX12_back 14 = .ok (.ireturn, 1) := by decide +kernel
theorem dX12_back_15 : decode cX12_back 15 = .ok (.aload_n 0, 1) := by decide +kernel
theorem dX12_back_16 : decode cX12_back 16 = .ok (.getfield 26, 3) := by decide +kernel
theorem dX12_back_19 : decode cX12_back 19 = .ok (.iload_n 1, 1) := by decide +kernel
theorem dX12_back_20 : decode cX12_back 20 = .ok (.baload, 1) := by decide +kernel
theorem dX12_back_21 : decode cX12_back 21 = .ok (.ifCond .ne 10, 3) := by decide +kernel
theorem dX12_back_24 : decode cX12_back 24 = .ok (.aload_n 0, 1) := by decide +kernel
theorem dX12_back_25 : decode cX12_back 25 = .ok (.bipush (-2), 2) := by decide +kernel
theorem dX12_back_27 : decode cX12_back 27 = .ok (.invokevirtual 117, 3) := by decide +kernel
theorem dX12_back_30 : decode cX12_back 30 = .ok (.ireturn, 1) := by decide +kernel
theorem dX12_back_31 : decode cX12_back 31 = .ok (.iconst 0, 1) := by decide +kernel
theorem dX12_back_32 : decode cX12_back 32 = .ok (.istore_n 2, 1) := by decide +kernel
theorem dX12_back_33 : decode cX12_back 33 = .ok (.iload_n 2, 1) := by decide +kernel
theorem dX12_back_34 : decode cX12_back 34 = .ok (.sipush 7758, 3) := by decide +kernel
theorem dX12_back_37 : decode cX12_back 37 = .ok (.if_icmp .ge 27, 3) := by decide +kernel
theorem dX12_back_40 : decode cX12_back 40 = .ok (.aload_n 0, 1) := by decide +kernel
theorem dX12_back_41 : decode cX12_back 41 = .ok (.getfield 20, 3) := by decide +kernel
theorem dX12_back_44 : decode cX12_back 44 = .ok (.iload_n 2, 1) := by decide +kernel
theorem dX12_back_45 : decode cX12_back 45 = .ok (.aload_n 0, 1) := by decide +kernel
theorem dX12_back_46 : decode cX12_back 46 = .ok (.getfield 23, 3) := by decide +kernel
theorem dX12_back_49 : decode cX12_back 49 = .ok (.sipush 7758, 3) := by decide +kernel
theorem dX12_back_52 : decode cX12_back 52 = .ok (.iload_n 1, 1) := by decide +kernel
theorem dX12_back_53 : decode cX12_back 53 = .ok (.imul, 1) := by decide +kernel
theorem dX12_back_54 : decode cX12_back 54 = .ok (.iload_n 2, 1) := by decide +kernel
theorem dX12_back_55 : decode cX12_back 55 = .ok (.iadd, 1) := by decide +kernel
theorem dX12_back_56 : decode cX12_back 56 = .ok (.iaload, 1) := by decide +kernel
theorem dX12_back_57 : decode cX12_back 57 = .ok (.iastore, 1) := by decide +kernel
theorem dX12_back_58 : decode cX12_back 58 = .ok (.iinc 2 1, 3) := by decide +kernel
theorem dX12_back_61 : decode cX12_back 61 = .ok (.goto (-28), 3) := by decide +kernel
theorem dX12_back_64 : decode cX12_back 64 = .ok (.aload_n 0, 1) := by decide +kernel
theorem dX12_back_65 : decode cX12_back 65 = .ok (.iconst 0, 1) := by decide +kernel
theorem dX12_back_66 : decode cX12_back 66 = .ok (.invokevirtual 121, 3) := by decide +kernel
theorem dX12_back_69 : decode cX12_back 69 = .ok (.ireturn, 1) := by decide +kernel
theorem dX12_term_0 : decode cX12_term 0 = .ok (.aload_n 0, 1) := by decide +kernel
theorem dX12_term_1 : decode cX12_term 1 = .ok (.getfield 20, 3) := by decide +kernel
theorem dX12_term_4 : decode cX12_term 4 = .ok (.sipush 1340, 3) := by decide +kernel
theorem dX12_term_7 : decode cX12_term 7 = .ok (.iload_n 1, 1) := by decide +kernel
theorem dX12_term_8 : decode cX12_term 8 = .ok (.iadd, 1) := by decide +kernel
theorem dX12_term_9 : decode cX12_term 9 = .ok (.iaload, 1) := by decide +kernel
theorem dX12_term_10 : decode cX12_term 10 = .ok (.ireturn, 1) := by decide +kernel
theorem dX12_copies_0 : decode cX12_copies 0 = .ok (.aload_n 0, 1) := by decide +kernel
theorem dX12_copies_1 : decode cX12_copies 1 = .ok (.getfield 20, 3) := by decide +kernel
theorem dX12_copies_4 : decode cX12_copies 4 = .ok (.sipush 1344, 3) := by decide +kernel
theorem dX12_copies_7 : decode cX12_copies 7 = .ok (.iaload, 1) := by decide +kernel
theorem dX12_copies_8 : decode cX12_copies 8 = .ok (.ireturn, 1) := by decide +kernel
theorem dX12_isCopy_0 : decode cX12_isCopy 0 = .ok (.iload_n 1, 1) := by decide +kernel
theorem dX12_isCopy_1 : decode cX12_isCopy 1 = .ok (.iconst 0, 1) := by decide +kernel
theorem dX12_isCopy_2 : decode cX12_isCopy 2 = .ok (.aload_n 0, 1) := by decide +kernel
theorem dX12_isCopy_3 : decode cX12_isCopy 3 = .ok (.invokevirtual 124, 3) := by decide +kernel
theorem dX12_isCopy_6 : decode cX12_isCopy 6 = .ok (.iconst 1, 1) := by decide +kernel
theorem dX12_isCopy_7 : decode cX12_isCopy 7 = .ok (.isub, 1) := by decide +kernel
theorem dX12_isCopy_8 : decode cX12_isCopy 8 = .ok (.invokestatic 113, 3) := by decide +kernel
theorem dX12_isCopy_11 : decode cX12_isCopy 11 = .ok (.ireturn, 1) := by decide +kernel
theorem dX12_isHand_0 : decode cX12_isHand 0 = .ok (.iload_n 1, 1) := by decide +kernel
theorem dX12_isHand_1 : decode cX12_isHand 1 = .ok (.iconst 0, 1) := by decide +kernel
theorem dX12_isHand_2 : decode cX12_isHand 2 = .ok (.aload_n 0, 1) := by decide +kernel
theorem dX12_isHand_3 : decode cX12_isHand 3 = .ok (.getfield 20, 3) := by decide +kernel
theorem dX12_isHand_6 : decode cX12_isHand 6 = .ok (.sipush 1346, 3) := by decide +kernel
theorem dX12_isHand_9 : decode cX12_isHand 9 = .ok (.iaload, 1) := by decide +kernel
theorem dX12_isHand_10 : decode cX12_isHand 10 = .ok (.iconst 1, 1) := by decide +kernel
theorem dX12_isHand_11 : decode cX12_isHand 11 = .ok (.isub, 1) := by decide +kernel
theorem dX12_isHand_12 : decode cX12_isHand 12 = .ok (.invokestatic 113, 3) := by decide +kernel
theorem dX12_isHand_15 : decode cX12_isHand 15 = .ok (.ireturn, 1) := by decide +kernel
theorem dX12_isText_0 : decode cX12_isText 0 = .ok (.iload_n 1, 1) := by decide +kernel
theorem dX12_isText_1 : decode cX12_isText 1 = .ok (.iconst 0, 1) := by decide +kernel
theorem dX12_isText_2 : decode cX12_isText 2 = .ok (.aload_n 0, 1) := by decide +kernel
theorem dX12_isText_3 : decode cX12_isText 3 = .ok (.getfield 20, 3) := by decide +kernel
theorem dX12_isText_6 : decode cX12_isText 6 = .ok (.sipush 1348, 3) := by decide +kernel
theorem dX12_isText_9 : decode cX12_isText 9 = .ok (.iaload, 1) := by decide +kernel
theorem dX12_isText_10 : decode cX12_isText 10 = .ok (.iconst 1, 1) := by decide +kernel
theorem dX12_isText_11 : decode cX12_isText 11 = .ok (.isub, 1) := by decide +kernel
theorem dX12_isText_12 : decode cX12_isText 12 = .ok (.invokestatic 113, 3) := by decide +kernel
theorem dX12_isText_15 : decode cX12_isText 15 = .ok (.ireturn, 1) := by decide +kernel
theorem dX12_copyOf_0 : decode cX12_copyOf 0 = .ok (.aload_n 0, 1) := by decide +kernel
theorem dX12_copyOf_1 : decode cX12_copyOf 1 = .ok (.getfield 20, 3) := by decide +kernel
theorem dX12_copyOf_4 : decode cX12_copyOf 4 = .ok (.iconst 0, 1) := by decide +kernel
theorem dX12_copyOf_5 : decode cX12_copyOf 5 = .ok (.iconst 3, 1) := by decide +kernel
theorem dX12_copyOf_6 : decode cX12_copyOf 6 = .ok (.iload_n 1, 1) := by decide +kernel
theorem dX12_copyOf_7 : decode cX12_copyOf 7 = .ok (.imul, 1) := by decide +kernel
theorem dX12_copyOf_8 : decode cX12_copyOf 8 = .ok (.iadd, 1) := by decide +kernel
theorem dX12_copyOf_9 : decode cX12_copyOf 9 = .ok (.iload_n 2, 1) := by decide +kernel
theorem dX12_copyOf_10 : decode cX12_copyOf 10 = .ok (.iadd, 1) := by decide +kernel
theorem dX12_copyOf_11 : decode cX12_copyOf 11 = .ok (.iaload, 1) := by decide +kernel
theorem dX12_copyOf_12 : decode cX12_copyOf 12 = .ok (.ireturn, 1) := by decide +kernel
theorem dX12_stayOf_0 : decode cX12_stayOf 0 = .ok (.aload_n 0, 1) := by decide +kernel
theorem dX12_stayOf_1 : decode cX12_stayOf 1 = .ok (.getfield 20, 3) := by decide +kernel
theorem dX12_stayOf_4 : decode cX12_stayOf 4 = .ok (.bipush 36, 2) := by decide +kernel
theorem dX12_stayOf_6 : decode cX12_stayOf 6 = .ok (.iconst 4, 1) := by decide +kernel
theorem dX12_stayOf_7 : decode cX12_stayOf 7 = .ok (.iload_n 1, 1) := by decide +kernel
theorem dX12_stayOf_8 : decode cX12_stayOf 8 = .ok (.imul, 1) := by decide +kernel
theorem dX12_stayOf_9 : decode cX12_stayOf 9 = .ok (.iadd, 1) := by decide +kernel
theorem dX12_stayOf_10 : decode cX12_stayOf 10 = .ok (.iload_n 2, 1) := by decide +kernel
theorem dX12_stayOf_11 : decode cX12_stayOf 11 = .ok (.iadd, 1) := by decide +kernel
theorem dX12_stayOf_12 : decode cX12_stayOf 12 = .ok (.iaload, 1) := by decide +kernel
theorem dX12_stayOf_13 : decode cX12_stayOf 13 = .ok (.ireturn, 1) := by decide +kernel
theorem dX12_handOf_0 : decode cX12_handOf 0 = .ok (.aload_n 0, 1) := by decide +kernel
theorem dX12_handOf_1 : decode cX12_handOf 1 = .ok (.getfield 20, 3) := by decide +kernel
theorem dX12_handOf_4 : decode cX12_handOf 4 = .ok (.sipush 196, 3) := by decide +kernel
theorem dX12_handOf_7 : decode cX12_handOf 7 = .ok (.bipush 8, 2) := by decide +kernel
theorem dX12_handOf_9 : decode cX12_handOf 9 = .ok (.iload_n 1, 1) := by decide +kernel
theorem dX12_handOf_10 : decode cX12_handOf 10 = .ok (.imul, 1) := by decide +kernel
theorem dX12_handOf_11 : decode cX12_handOf 11 = .ok (.iadd, 1) := by decide +kernel
theorem dX12_handOf_12 : decode cX12_handOf 12 = .ok (.iload_n 2, 1) := by decide +kernel
theorem dX12_handOf_13 : decode cX12_handOf 13 = .ok (.iadd, 1) := by decide +kernel
theorem dX12_handOf_14 : decode cX12_handOf 14 = .ok (.iaload, 1) := by decide +kernel
theorem dX12_handOf_15 : decode cX12_handOf 15 = .ok (.ireturn, 1) := by decide +kernel
theorem dX12_noteOf_0 : decode cX12_noteOf 0 = .ok (.aload_n 0, 1) := by decide +kernel
theorem dX12_noteOf_1 : decode cX12_noteOf 1 = .ok (.getfield 20, 3) := by decide +kernel
theorem dX12_noteOf_4 : decode cX12_noteOf 4 = .ok (.sipush 340, 3) := by decide +kernel
theorem dX12_noteOf_7 : decode cX12_noteOf 7 = .ok (.iconst 5, 1) := by decide +kernel
theorem dX12_noteOf_8 : decode cX12_noteOf 8 = .ok (.iload_n 1, 1) := by decide +kernel
theorem dX12_noteOf_9 : decode cX12_noteOf 9 = .ok (.imul, 1) := by decide +kernel
theorem dX12_noteOf_10 : decode cX12_noteOf 10 = .ok (.iadd, 1) := by decide +kernel
theorem dX12_noteOf_11 : decode cX12_noteOf 11 = .ok (.iload_n 2, 1) := by decide +kernel
theorem dX12_noteOf_12 : decode cX12_noteOf 12 = .ok (.iadd, 1) := by decide +kernel
theorem dX12_noteOf_13 : decode cX12_noteOf 13 = .ok (.iaload, 1) := by decide +kernel
theorem dX12_noteOf_14 : decode cX12_noteOf 14 = .ok (.ireturn, 1) := by decide +kernel
theorem dX12_replaces_0 : decode cX12_replaces 0 = .ok (.aload_n 0, 1) := by decide +kernel
theorem dX12_replaces_1 : decode cX12_replaces 1 = .ok (.getfield 20, 3) := by decide +kernel
theorem dX12_replaces_4 : decode cX12_replaces 4 = .ok (.iload_n 1, 1) := by decide +kernel
theorem dX12_replaces_5 : decode cX12_replaces 5 = .ok (.iaload, 1) := by decide +kernel
theorem dX12_replaces_6 : decode cX12_replaces 6 = .ok (.istore_n 3, 1) := by decide +kernel
theorem dX12_replaces_7 : decode cX12_replaces 7 = .ok (.aload_n 0, 1) := by decide +kernel
theorem dX12_replaces_8 : decode cX12_replaces 8 = .ok (.getfield 20, 3) := by decide +kernel
theorem dX12_replaces_11 : decode cX12_replaces 11 = .ok (.iload_n 1, 1) := by decide +kernel
theorem dX12_replaces_12 : decode cX12_replaces 12 = .ok (.iload_n 2, 1) := by decide +kernel
theorem dX12_replaces_13 : decode cX12_replaces 13 = .ok (.iastore, 1) := by decide +kernel
theorem dX12_replaces_14 : decode cX12_replaces 14 = .ok (.aload_n 0, 1) := by decide +kernel
theorem dX12_replaces_15 : decode cX12_replaces 15 = .ok (.iload_n 3, 1) := by decide +kernel
theorem dX12_replaces_16 : decode cX12_replaces 16 = .ok (.invokevirtual 121, 3) := by decide +kernel
theorem dX12_replaces_19 : decode cX12_replaces 19 = .ok (.ireturn, 1) := by decide +kernel
theorem dX12_copy_0 : decode cX12_copy 0 = .ok (.iload_n 1, 1) := by decide +kernel
theorem dX12_copy_1 : decode cX12_copy 1 = .ok (.iconst 0, 1) := by decide +kernel
theorem dX12_copy_2 : decode cX12_copy 2 = .ok (.bipush 7, 2) := by decide +kernel
theorem dX12_copy_4 : decode cX12_copy 4 = .ok (.invokestatic 113, 3) := by decide +kernel
theorem dX12_copy_7 : decode cX12_copy 7 = .ok (.ifCond .eq 13, 3) := by decide +kernel
theorem dX12_copy_10 : decode cX12_copy 10 = .ok (.iload_n 2, 1) := by decide +kernel
theorem dX12_copy_11 : decode cX12_copy 11 = .ok (.iconst 0, 1) := by decide +kernel
theorem dX12_copy_12 : decode cX12_copy 12 = .ok (.bipush 63, 2) := by decide +kernel
theorem dX12_copy_14 : decode cX12_copy 14 = .ok (.invokestatic 113, 3) := by decide +kernel
theorem dX12_copy_17 : decode cX12_copy 17 = .ok (.ifCond .ne 9, 3) := by decide +kernel
theorem dX12_copy_20 : decode cX12_copy 20 = .ok (.aload_n 0, 1) := by decide +kernel
theorem dX12_copy_21 : decode cX12_copy 21 = .ok (.iconst (-1), 1) := by decide +kernel
theorem dX12_copy_22 : decode cX12_copy 22 = .ok (.invokevirtual 117, 3) := by decide +kernel
theorem dX12_copy_25 : decode cX12_copy 25 = .ok (.ireturn, 1) := by decide +kernel
theorem dX12_copy_26 : decode cX12_copy 26 = .ok (.aload_n 0, 1) := by decide +kernel
theorem dX12_copy_27 : decode cX12_copy 27 = .ok (.invokevirtual 124, 3) := by decide +kernel
theorem dX12_copy_30 : decode cX12_copy 30 = .ok (.istore_n 3, 1) := by decide +kernel
theorem dX12_copy_31 : decode cX12_copy 31 = .ok (.iload_n 3, 1) := by decide +kernel
theorem dX12_copy_32 : decode cX12_copy 32 = .ok (.bipush 12, 2) := by decide +kernel
theorem dX12_copy_34 : decode cX12_copy 34 = .ok (.if_icmp .ne 10, 3) := by decide +kernel
theorem dX12_copy_37 : decode cX12_copy 37 = .ok (.aload_n 0, 1) := by decide +kernel
theorem dX12_copy_38 : decode cX12_copy 38 = .ok (.bipush (-5), 2) := by decide +kernel
theorem dX12_copy_40 : decode cX12_copy 40 = .ok (.invokevirtual 117, 3) := by decide +kernel
theorem dX12_copy_43 : decode cX12_copy 43 = .ok (.ireturn, 1) := by decide +kernel
theorem dX12_copy_44 : decode cX12_copy 44 = .ok (.aload_n 0, 1) := by decide +kernel
theorem dX12_copy_45 : decode cX12_copy 45 = .ok (.getfield 20, 3) := by decide +kernel
theorem dX12_copy_48 : decode cX12_copy 48 = .ok (.iconst 0, 1) := by decide +kernel
theorem dX12_copy_49 : decode cX12_copy 49 = .ok (.iconst 3, 1) := by decide +kernel
theorem dX12_copy_50 : decode cX12_copy 50 = .ok (.iload_n 3, 1) := by decide +kernel
theorem dX12_copy_51 : decode cX12_copy 51 = .ok (.imul, 1) := by decide +kernel
theorem dX12_copy_52 : decode cX12_copy 52 = .ok (.iadd, 1) := by decide +kernel
theorem dX12_copy_53 : decode cX12_copy 53 = .ok (.iload_n 1, 1) := by decide +kernel
theorem dX12_copy_54 : decode cX12_copy 54 = .ok (.iastore, 1) := by decide +kernel
theorem dX12_copy_55 : decode cX12_copy 55 = .ok (.aload_n 0, 1) := by decide +kernel
theorem dX12_copy_56 : decode cX12_copy 56 = .ok (.getfield 20, 3) := by decide +kernel
theorem dX12_copy_59 : decode cX12_copy 59 = .ok (.iconst 0, 1) := by decide +kernel
theorem dX12_copy_60 : decode cX12_copy 60 = .ok (.iconst 3, 1) := by decide +kernel
theorem dX12_copy_61 : decode cX12_copy 61 = .ok (.iload_n 3, 1) := by decide +kernel
theorem dX12_copy_62 : decode cX12_copy 62 = .ok (.imul, 1) := by decide +kernel
theorem dX12_copy_63 : decode cX12_copy 63 = .ok (.iadd, 1) := by decide +kernel
theorem dX12_copy_64 : decode cX12_copy 64 = .ok (.iconst 1, 1) := by decide +kernel
theorem dX12_copy_65 : decode cX12_copy 65 = .ok (.iadd, 1) := by decide +kernel
theorem dX12_copy_66 : decode cX12_copy 66 = .ok (.iload_n 2, 1) := by decide +kernel
theorem dX12_copy_67 : decode cX12_copy 67 = .ok (.iastore, 1) := by decide +kernel
theorem dX12_copy_68 : decode cX12_copy 68 = .ok (.aload_n 0, 1) := by decide +kernel
theorem dX12_copy_69 : decode cX12_copy 69 = .ok (.getfield 20, 3) := by decide +kernel
theorem dX12_copy_72 : decode cX12_copy 72 = .ok (.iconst 0, 1) := by decide +kernel
theorem dX12_copy_73 : decode cX12_copy 73 = .ok (.iconst 3, 1) := by decide +kernel
theorem dX12_copy_74 : decode cX12_copy 74 = .ok (.iload_n 3, 1) := by decide +kernel
theorem dX12_copy_75 : decode cX12_copy 75 = .ok (.imul, 1) := by decide +kernel
theorem dX12_copy_76 : decode cX12_copy 76 = .ok (.iadd, 1) := by decide +kernel
theorem dX12_copy_77 : decode cX12_copy 77 = .ok (.iconst 2, 1) := by decide +kernel
theorem dX12_copy_78 : decode cX12_copy 78 = .ok (.iadd, 1) := by decide +kernel
theorem dX12_copy_79 : decode cX12_copy 79 = .ok (.iconst 0, 1) := by decide +kernel
theorem dX12_copy_80 : decode cX12_copy 80 = .ok (.iastore, 1) := by decide +kernel
theorem dX12_copy_81 : decode cX12_copy 81 = .ok (.aload_n 0, 1) := by decide +kernel
theorem dX12_copy_82 : decode cX12_copy 82 = .ok (.getfield 20, 3) := by decide +kernel
theorem dX12_copy_85 : decode cX12_copy 85 = .ok (.sipush 1344, 3) := by decide +kernel
theorem dX12_copy_88 : decode cX12_copy 88 = .ok (.dup2, 1) := by decide +kernel
theorem dX12_copy_89 : decode cX12_copy 89 = .ok (.iaload, 1) := by decide +kernel
theorem dX12_copy_90 : decode cX12_copy 90 = .ok (.iconst 1, 1) := by decide +kernel
theorem dX12_copy_91 : decode cX12_copy 91 = .ok (.iadd, 1) := by decide +kernel
theorem dX12_copy_92 : decode cX12_copy 92 = .ok (.iastore, 1) := by decide +kernel
theorem dX12_copy_93 : decode cX12_copy 93 = .ok (.aload_n 0, 1) := by decide +kernel
theorem dX12_copy_94 : decode cX12_copy 94 = .ok (.iload_n 3, 1) := by decide +kernel
theorem dX12_copy_95 : decode cX12_copy 95 = .ok (.invokevirtual 121, 3) := by decide +kernel
theorem dX12_copy_98 : decode cX12_copy 98 = .ok (.ireturn, 1) := by decide +kernel
theorem dX12_look_0 : decode cX12_look 0 = .ok (.iload_n 2, 1) := by decide +kernel
theorem dX12_look_1 : decode cX12_look 1 = .ok (.iconst 0, 1) := by decide +kernel
theorem dX12_look_2 : decode cX12_look 2 = .ok (.iconst 1, 1) := by decide +kernel
theorem dX12_look_3 : decode cX12_look 3 = .ok (.invokestatic 113, 3) := by decide +kernel
theorem dX12_look_6 : decode cX12_look 6 = .ok (.ifCond .ne 9, 3) := by decide +kernel
theorem dX12_look_9 : decode cX12_look 9 = .ok (.aload_n 0, 1) := by decide +kernel
theorem dX12_look_10 : decode cX12_look 10 = .ok (.iconst (-1), 1) := by decide +kernel
theorem dX12_look_11 : decode cX12_look 11 = .ok (.invokevirtual 117, 3) := by decide +kernel
theorem dX12_look_14 : decode cX12_look 14 = .ok (.ireturn, 1) := by decide +kernel
theorem dX12_look_15 : decode cX12_look 15 = .ok (.aload_n 0, 1) := by decide +kernel
theorem dX12_look_16 : decode cX12_look 16 = .ok (.iload_n 1, 1) := by decide +kernel
theorem dX12_look_17 : decode cX12_look 17 = .ok (.invokevirtual 128, 3) := by decide +kernel
theorem dX12_look_20 : decode cX12_look 20 = .ok (.ifCond .ne 10, 3) := by decide +kernel
theorem dX12_look_23 : decode cX12_look 23 = .ok (.aload_n 0, 1) := by decide +kernel
theorem dX12_look_24 : decode cX12_look 24 = .ok (.bipush (-2), 2) := by decide +kernel
theorem dX12_look_26 : decode cX12_look 26 = .ok (.invokevirtual 117, 3) := by decide +kernel
theorem dX12_look_29 : decode cX12_look 29 = .ok (.ireturn, 1) := by decide +kernel
theorem dX12_look_30 : decode cX12_look 30 = .ok (.aload_n 0, 1) := by decide +kernel
theorem dX12_look_31 : decode cX12_look 31 = .ok (.iconst 0, 1) := by decide +kernel
theorem dX12_look_32 : decode cX12_look 32 = .ok (.iconst 3, 1) := by decide +kernel
theorem dX12_look_33 : decode cX12_look 33 = .ok (.iload_n 1, 1) := by decide +kernel
theorem dX12_look_34 : decode cX12_look 34 = .ok (.imul, 1) := by decide +kernel
theorem dX12_look_35 : decode cX12_look 35 = .ok (.iadd, 1) := by decide +kernel
theorem dX12_look_36 : decode cX12_look 36 = .ok (.iconst 2, 1) := by decide +kernel
theorem dX12_look_37 : decode cX12_look 37 = .ok (.iadd, 1) := by decide +kernel
theorem dX12_look_38 : decode cX12_look 38 = .ok (.iload_n 2, 1) := by decide +kernel
theorem dX12_look_39 : decode cX12_look 39 = .ok (.invokevirtual 132, 3) := by decide +kernel
theorem dX12_look_42 : decode cX12_look 42 = .ok (.ireturn, 1) := by decide +kernel
theorem dX12_areYears_0 : decode cX12_areYears 0 = .ok (.iload_n 0, 1) := by decide +kernel
theorem dX12_areYears_1 : decode cX12_areYears 1 = .ok (.iconst 0, 1) := by decide +kernel
theorem dX12_areYears_2 : decode cX12_areYears 2 = .ok (.sipush 400, 3) := by decide +kernel
theorem dX12_areYears_5 : decode cX12_areYears 5 = .ok (.invokestatic 113, 3) := by decide +kernel
theorem dX12_areYears_8 : decode cX12_areYears 8 = .ok (.ifCond .eq 18, 3) := by decide +kernel
theorem dX12_areYears_11 : decode cX12_areYears 11 = .ok (.iload_n 1, 1) := by decide +kernel
theorem dX12_areYears_12 : decode cX12_areYears 12 = .ok (.iload_n 0, 1) := by decide +kernel
theorem dX12_areYears_13 : decode cX12_areYears 13 = .ok (.sipush 400, 3) := by decide +kernel
theorem dX12_areYears_16 : decode cX12_areYears 16 = .ok (.invokestatic 113, 3) := by decide +kernel
theorem dX12_areYears_19 : decode cX12_areYears 19 = .ok (.ifCond .eq 7, 3) := by decide +kernel
theorem dX12_areYears_22 : decode cX12_areYears 22 = .ok (.iconst 1, 1) := by decide +kernel
theorem dX12_areYears_23 : decode cX12_areYears 23 = .ok (.goto 4, 3) := by decide +kernel
theorem dX12_areYears_26 : decode cX12_areYears 26 = .ok (.iconst 0, 1) := by decide +kernel
theorem dX12_areYears_27 : decode cX12_areYears 27 = .ok (.ireturn, 1) := by decide +kernel
theorem dX12_stay_0 : decode cX12_stay 0 = .ok (.iload_n 2, 1) := by decide +kernel
theorem dX12_stay_1 : decode cX12_stay 1 = .ok (.iconst 0, 1) := by decide +kernel
theorem dX12_stay_2 : decode cX12_stay 2 = .ok (.bipush 31, 2) := by decide +kernel
theorem dX12_stay_4 : decode cX12_stay 4 = .ok (.invokestatic 113, 3) := by decide +kernel
theorem dX12_stay_7 : decode cX12_stay 7 = .ok (.ifCond .eq 12, 3) := by decide +kernel
theorem dX12_stay_10 : decode cX12_stay 10 = .ok (.iload_n 3, 1) := by decide +kernel
theorem dX12_stay_11 : decode cX12_stay 11 = .ok (.iload 4, 2) := by decide +kernel
theorem dX12_stay_13 : decode cX12_stay 13 = .ok (.invokestatic 136, 3) := by decide +kernel
theorem dX12_stay_16 : decode cX12_stay 16 = .ok (.ifCond .ne 9, 3) := by decide +kernel
theorem dX12_stay_19 : decode cX12_stay 19 = .ok (.aload_n 0, 1) := by decide +kernel
theorem dX12_stay_20 : decode cX12_stay 20 = .ok (.iconst (-1), 1) := by decide +kernel
theorem dX12_stay_21 : decode cX12_stay 21 = .ok (.invokevirtual 117, 3) := by decide +kernel
theorem dX12_stay_24 : decode cX12_stay 24 = .ok (.ireturn, 1) := by decide +kernel
theorem dX12_stay_25 : decode cX12_stay 25 = .ok (.aload_n 0, 1) := by decide +kernel
theorem dX12_stay_26 : decode cX12_stay 26 = .ok (.iload_n 1, 1) := by decide +kernel
theorem dX12_stay_27 : decode cX12_stay 27 = .ok (.invokevirtual 128, 3) := by decide +kernel
theorem dX12_stay_30 : decode cX12_stay 30 = .ok (.ifCond .ne 10, 3) := by decide +kernel
theorem dX12_stay_33 : decode cX12_stay 33 = .ok (.aload_n 0, 1) := by decide +kernel
theorem dX12_stay_34 : decode cX12_stay 34 = .ok (.bipush (-2), 2) := by decide +kernel
theorem dX12_stay_36 : decode cX12_stay 36 = .ok (.invokevirtual 117, 3) := by decide +kernel
theorem dX12_stay_39 : decode cX12_stay 39 = .ok (.ireturn, 1) := by decide +kernel
theorem dX12_stay_40 : decode cX12_stay 40 = .ok (.aload_n 0, 1) := by decide +kernel
theorem dX12_stay_41 : decode cX12_stay 41 = .ok (.getfield 20, 3) := by decide +kernel
theorem dX12_stay_44 : decode cX12_stay 44 = .ok (.sipush 1345, 3) := by decide +kernel
theorem dX12_stay_47 : decode cX12_stay 47 = .ok (.iaload, 1) := by decide +kernel
theorem dX12_stay_48 : decode cX12_stay 48 = .ok (.istore 5, 2) := by decide +kernel
theorem dX12_stay_50 : decode cX12_stay 50 = .ok (.iload 5, 2) := by decide +kernel
theorem dX12_stay_52 : decode cX12_stay 52 = .ok (.bipush 40, 2) := by decide +kernel
theorem dX12_stay_54 : decode cX12_stay 54 = .ok (.if_icmp .ne 10, 3) := by decide +kernel
theorem dX12_stay_57 : decode cX12_stay 57 = .ok (.aload_n 0, 1) := by decide +kernel
theorem dX12_stay_58 : decode cX12_stay 58 = .ok (.bipush (-5), 2) := by decide +kernel
theorem dX12_stay_60 : decode cX12_stay 60 = .ok (.invokevirtual 117, 3) := by decide +kernel
theorem dX12_stay_63 : decode cX12_stay 63 = .ok (.ireturn, 1) := by decide +kernel
theorem dX12_stay_64 : decode cX12_stay 64 = .ok (.aload_n 0, 1) := by decide +kernel
theorem dX12_stay_65 : decode cX12_stay 65 = .ok (.getfield 20, 3) := by decide +kernel
theorem dX12_stay_68 : decode cX12_stay 68 = .ok (.bipush 36, 2) := by decide +kernel
theorem dX12_stay_70 : decode cX12_stay 70 = .ok (.iconst 4, 1) := by decide +kernel
theorem dX12_stay_71 : decode cX12_stay 71 = .ok (.iload 5, 2) := by decide +kernel
theorem dX12_stay_73 : decode cX12_stay 73 = .ok (.imul, 1) := by decide +kernel
theorem dX12_stay_74 : decode cX12_stay 74 = .ok (.iadd, 1) := by decide +kernel
theorem dX12_stay_75 : decode cX12_stay 75 = .ok (.iload_n 1, 1) := by decide +kernel
theorem dX12_stay_76 : decode cX12_stay 76 = .ok (.iastore, 1) := by decide +kernel
theorem dX12_stay_77 : decode cX12_stay 77 = .ok (.aload_n 0, 1) := by decide +kernel
theorem dX12_stay_78 : decode cX12_stay 78 = .ok (.getfield 20, 3) := by decide +kernel
theorem dX12_stay_81 : decode cX12_stay 81 = .ok (.bipush 36, 2) := by decide +kernel
theorem dX12_stay_83 : decode cX12_stay 83 = .ok (.iconst 4, 1) := by decide +kernel
theorem dX12_stay_84 : decode cX12_stay 84 = .ok (.iload 5, 2) := by decide +kernel
theorem dX12_stay_86 : decode cX12_stay 86 = .ok (.imul, 1) := by decide +kernel
theorem dX12_stay_87 : decode cX12_stay 87 = .ok (.iadd, 1) := by decide +kernel
theorem dX12_stay_88 : decode cX12_stay 88 = .ok (.iconst 1, 1) := by decide +kernel
theorem dX12_stay_89 : decode cX12_stay 89 = .ok (.iadd, 1) := by decide +kernel
theorem dX12_stay_90 : decode cX12_stay 90 = .ok (.iload_n 2, 1) := by decide +kernel
theorem dX12_stay_91 : decode cX12_stay 91 = .ok (.iastore, 1) := by decide +kernel
theorem dX12_stay_92 : decode cX12_stay 92 = .ok (.aload_n 0, 1) := by decide +kernel
theorem dX12_stay_93 : decode cX12_stay 93 = .ok (.getfield 20, 3) := by decide +kernel
theorem dX12_stay_96 : decode cX12_stay 96 = .ok (.bipush 36, 2) := by decide +kernel
theorem dX12_stay_98 : decode cX12_stay 98 = .ok (.iconst 4, 1) := by decide +kernel
theorem dX12_stay_99 : decode cX12_stay 99 = .ok (.iload 5, 2) := by decide +kernel
theorem dX12_stay_101 : decode cX12_stay 101 = .ok (.imul, 1) := by decide +kernel
theorem dX12_stay_102 : decode cX12_stay 102 = .ok (.iadd, 1) := by decide +kernel
theorem dX12_stay_103 : decode cX12_stay 103 = .ok (.iconst 2, 1) := by decide +kernel
theorem dX12_stay_104 : decode cX12_stay 104 = .ok (.iadd, 1) := by decide +kernel
theorem dX12_stay_105 : decode cX12_stay 105 = .ok (.iload_n 3, 1) := by decide +kernel
theorem dX12_stay_106 : decode cX12_stay 106 = .ok (.iastore, 1) := by decide +kernel
theorem dX12_stay_107 : decode cX12_stay 107 = .ok (.aload_n 0, 1) := by decide +kernel
theorem dX12_stay_108 : decode cX12_stay 108 = .ok (.getfield 20, 3) := by decide +kernel
theorem dX12_stay_111 : decode cX12_stay 111 = .ok (.bipush 36, 2) := by decide +kernel
theorem dX12_stay_113 : decode cX12_stay 113 = .ok (.iconst 4, 1) := by decide +kernel
theorem dX12_stay_114 : decode cX12_stay 114 = .ok (.iload 5, 2) := by decide +kernel
theorem dX12_stay_116 : decode cX12_stay 116 = .ok (.imul, 1) := by decide +kernel
theorem dX12_stay_117 : decode cX12_stay 117 = .ok (.iadd, 1) := by decide +kernel
theorem dX12_stay_118 : decode cX12_stay 118 = .ok (.iconst 3, 1) := by decide +kernel
theorem dX12_stay_119 : decode cX12_stay 119 = .ok (.iadd, 1) := by decide +kernel
theorem dX12_stay_120 : decode cX12_stay 120 = .ok (.iload 4, 2) := by decide +kernel
theorem dX12_stay_122 : decode cX12_stay 122 = .ok (.iastore, 1) := by decide +kernel
theorem dX12_stay_123 : decode cX12_stay 123 = .ok (.aload_n 0, 1) := by decide +kernel
theorem dX12_stay_124 : decode cX12_stay 124 = .ok (.getfield 20, 3) := by decide +kernel
theorem dX12_stay_127 : decode cX12_stay 127 = .ok (.sipush 1345, 3) := by decide +kernel
theorem dX12_stay_130 : decode cX12_stay 130 = .ok (.dup2, 1) := by decide +kernel
theorem dX12_stay_131 : decode cX12_stay 131 = .ok (.iaload, 1) := by decide +kernel
theorem dX12_stay_132 : decode cX12_stay 132 = .ok (.iconst 1, 1) := by decide +kernel
theorem dX12_stay_133 : decode cX12_stay 133 = .ok (.iadd, 1) := by decide +kernel
theorem dX12_stay_134 : decode cX12_stay 134 = .ok (.iastore, 1) := by decide +kernel
theorem dX12_stay_135 : decode cX12_stay 135 = .ok (.aload_n 0, 1) := by decide +kernel
theorem dX12_stay_136 : decode cX12_stay 136 = .ok (.iload 5, 2) := by decide +kernel
theorem dX12_stay_138 : decode cX12_stay 138 = .ok (.iconst 1, 1) := by decide +kernel
theorem dX12_stay_139 : decode cX12_stay 139 = .ok (.iadd, 1) := by decide +kernel
theorem dX12_stay_140 : decode cX12_stay 140 = .ok (.invokevirtual 121, 3) := by decide +kernel
theorem dX12_stay_143 : decode cX12_stay 143 = .ok (.ireturn, 1) := by decide +kernel
theorem dX12_hand_0 : decode cX12_hand 0 = .ok (.iload_n 1, 1) := by decide +kernel
theorem dX12_hand_1 : decode cX12_hand 1 = .ok (.iload_n 2, 1) := by decide +kernel
theorem dX12_hand_2 : decode cX12_hand 2 = .ok (.invokestatic 136, 3) := by decide +kernel
theorem dX12_hand_5 : decode cX12_hand 5 = .ok (.ifCond .ne 9, 3) := by decide +kernel
theorem dX12_hand_8 : decode cX12_hand 8 = .ok (.aload_n 0, 1) := by decide +kernel
theorem dX12_hand_9 : decode cX12_hand 9 = .ok (.iconst (-1), 1) := by decide +kernel
theorem dX12_hand_10 : decode cX12_hand 10 = .ok (.invokevirtual 117, 3) := by decide +kernel
theorem dX12_hand_13 : decode cX12_hand 13 = .ok (.ireturn, 1) := by decide +kernel
theorem dX12_hand_14 : decode cX12_hand 14 = .ok (.aload_n 0, 1) := by decide +kernel
theorem dX12_hand_15 : decode cX12_hand 15 = .ok (.getfield 20, 3) := by decide +kernel
theorem dX12_hand_18 : decode cX12_hand 18 = .ok (.sipush 1346, 3) := by decide +kernel
theorem dX12_hand_21 : decode cX12_hand 21 = .ok (.iaload, 1) := by decide +kernel
theorem dX12_hand_22 : decode cX12_hand 22 = .ok (.istore_n 3, 1) := by decide +kernel
theorem dX12_hand_23 : decode cX12_hand 23 = .ok (.iload_n 3, 1) := by decide +kernel
theorem dX12_hand_24 : decode cX12_hand 24 = .ok (.bipush 12, 2) := by decide +kernel
theorem dX12_hand_26 : decode cX12_hand 26 = .ok (.if_icmp .ne 10, 3) := by decide +kernel
theorem dX12_hand_29 : decode cX12_hand 29 = .ok (.aload_n 0, 1) := by decide +kernel
theorem dX12_hand_30 : decode cX12_hand 30 = .ok (.bipush (-5), 2) := by decide +kernel
theorem dX12_hand_32 : decode cX12_hand 32 = .ok (.invokevirtual 117, 3) := by decide +kernel
theorem dX12_hand_35 : decode cX12_hand 35 = .ok (.ireturn, 1) := by decide +kernel
theorem dX12_hand_36 : decode cX12_hand 36 = .ok (.iconst 0, 1) := by decide +kernel
theorem dX12_hand_37 : decode cX12_hand 37 = .ok (.istore 4, 2) := by decide +kernel
theorem dX12_hand_39 : decode cX12_hand 39 = .ok (.iload 4, 2) := by decide +kernel
theorem dX12_hand_41 : decode cX12_hand 41 = .ok (.bipush 8, 2) := by decide +kernel
theorem dX12_hand_43 : decode cX12_hand 43 = .ok (.if_icmp .ge 26, 3) := by decide +kernel
theorem dX12_hand_46 : decode cX12_hand 46 = .ok (.aload_n 0, 1) := by decide +kernel
theorem dX12_hand_47 : decode cX12_hand 47 = .ok (.getfield 20, 3) := by decide +kernel
theorem dX12_hand_50 : decode cX12_hand 50 = .ok (.sipush 196, 3) := by decide +kernel
theorem dX12_hand_53 : decode cX12_hand 53 = .ok (.bipush 8, 2) := by decide +kernel
theorem dX12_hand_55 : decode cX12_hand 55 = .ok (.iload_n 3, 1) := by decide +kernel
theorem dX12_hand_56 : decode cX12_hand 56 = .ok (.imul, 1) := by decide +kernel
theorem dX12_hand_57 : decode cX12_hand 57 = .ok (.iadd, 1) := by decide +kernel
theorem dX12_hand_58 : decode cX12_hand 58 = .ok (.iload 4, 2) := by decide +kernel
theorem dX12_hand_60 : decode cX12_hand 60 = .ok (.iadd, 1) := by decide +kernel
theorem dX12_hand_61 : decode cX12_hand 61 = .ok (.iconst 0, 1) := by decide +kernel
theorem dX12_hand_62 : decode cX12_hand 62 = .ok (.iastore, 1) := by decide +kernel
theorem dX12_hand_63 : decode cX12_hand 63 = .ok (.iinc 4 1, 3) := by decide +kernel
theorem dX12_hand_66 : decode cX12_hand 66 = .ok (.goto (-27), 3) := by decide +kernel
theorem dX12_hand_69 : decode cX12_hand 69 = .ok (.aload_n 0, 1) := by decide +kernel
theorem dX12_hand_70 : decode cX12_hand 70 = .ok (.getfield 20, 3) := by decide +kernel
theorem dX12_hand_73 : decode cX12_hand 73 = .ok (.sipush 196, 3) := by decide +kernel
theorem dX12_hand_76 : decode cX12_hand 76 = .ok (.bipush 8, 2) := by decide +kernel
theorem dX12_hand_78 : decode cX12_hand 78 = .ok (.iload_n 3, 1) := by decide +kernel
theorem dX12_hand_79 : decode cX12_hand 79 = .ok (.imul, 1) := by decide +kernel
theorem dX12_hand_80 : decode cX12_hand 80 = .ok (.iadd, 1) := by decide +kernel
theorem dX12_hand_81 : decode cX12_hand 81 = .ok (.iload_n 1, 1) := by decide +kernel
theorem dX12_hand_82 : decode cX12_hand 82 = .ok (.iastore, 1) := by decide +kernel
theorem dX12_hand_83 : decode cX12_hand 83 = .ok (.aload_n 0, 1) := by decide +kernel
theorem dX12_hand_84 : decode cX12_hand 84 = .ok (.getfield 20, 3) := by decide +kernel
theorem dX12_hand_87 : decode cX12_hand 87 = .ok (.sipush 196, 3) := by decide +kernel
theorem dX12_hand_90 : decode cX12_hand 90 = .ok (.bipush 8, 2) := by decide +kernel
theorem dX12_hand_92 : decode cX12_hand 92 = .ok (.iload_n 3, 1) := by decide +kernel
theorem dX12_hand_93 : decode cX12_hand 93 = .ok (.imul, 1) := by decide +kernel
theorem dX12_hand_94 : decode cX12_hand 94 = .ok (.iadd, 1) := by decide +kernel
theorem dX12_hand_95 : decode cX12_hand 95 = .ok (.iconst 1, 1) := by decide +kernel
theorem dX12_hand_96 : decode cX12_hand 96 = .ok (.iadd, 1) := by decide +kernel
theorem dX12_hand_97 : decode cX12_hand 97 = .ok (.iload_n 2, 1) := by decide +kernel
theorem dX12_hand_98 : decode cX12_hand 98 = .ok (.iastore, 1) := by decide +kernel
theorem dX12_hand_99 : decode cX12_hand 99 = .ok (.aload_n 0, 1) := by decide +kernel
theorem dX12_hand_100 : decode cX12_hand 100 = .ok (.getfield 20, 3) := by decide +kernel
theorem dX12_hand_103 : decode cX12_hand 103 = .ok (.sipush 1346, 3) := by decide +kernel
theorem dX12_hand_106 : decode cX12_hand 106 = .ok (.dup2, 1) := by decide +kernel
theorem dX12_hand_107 : decode cX12_hand 107 = .ok (.iaload, 1) := by decide +kernel
theorem dX12_hand_108 : decode cX12_hand 108 = .ok (.iconst 1, 1) := by decide +kernel
theorem dX12_hand_109 : decode cX12_hand 109 = .ok (.iadd, 1) := by decide +kernel
theorem dX12_hand_110 : decode cX12_hand 110 = .ok (.iastore, 1) := by decide +kernel
theorem dX12_hand_111 : decode cX12_hand 111 = .ok (.aload_n 0, 1) := by decide +kernel
theorem dX12_hand_112 : decode cX12_hand 112 = .ok (.iload_n 3, 1) := by decide +kernel
theorem dX12_hand_113 : decode cX12_hand 113 = .ok (.invokevirtual 121, 3) := by decide +kernel
theorem dX12_hand_116 : decode cX12_hand 116 = .ok (.ireturn, 1) := by decide +kernel
theorem dX12_form_0 : decode cX12_form 0 = .ok (.iload_n 2, 1) := by decide +kernel
theorem dX12_form_1 : decode cX12_form 1 = .ok (.iconst 0, 1) := by decide +kernel
theorem dX12_form_2 : decode cX12_form 2 = .ok (.iconst 5, 1) := by decide +kernel
theorem dX12_form_3 : decode cX12_form 3 = .ok (.invokestatic 113, 3) := by decide +kernel
theorem dX12_form_6 : decode cX12_form 6 = .ok (.ifCond .eq 13, 3) := by decide +kernel
theorem dX12_form_9 : decode cX12_form 9 = .ok (.iload_n 3, 1) := by decide +kernel
theorem dX12_form_10 : decode cX12_form 10 = .ok (.iconst 0, 1) := by decide +kernel
theorem dX12_form_11 : decode cX12_form 11 = .ok (.bipush 99, 2) := by decide +kernel
theorem dX12_form_13 : decode cX12_form 13 = .ok (.invokestatic 113, 3) := by decide +kernel
theorem dX12_form_16 : decode cX12_form 16 = .ok (.ifCond .ne 9, 3) := by decide +kernel
theorem dX12_form_19 : decode cX12_form 19 = .ok (.aload_n 0, 1) := by decide +kernel
theorem dX12_form_20 : decode cX12_form 20 = .ok (.iconst (-1), 1) := by decide +kernel
theorem dX12_form_21 : decode cX12_form 21 = .ok (.invokevirtual 117, 3) := by decide +kernel
theorem dX12_form_24 : decode cX12_form 24 = .ok (.ireturn, 1) := by decide +kernel
theorem dX12_form_25 : decode cX12_form 25 = .ok (.aload_n 0, 1) := by decide +kernel
theorem dX12_form_26 : decode cX12_form 26 = .ok (.iload_n 1, 1) := by decide +kernel
theorem dX12_form_27 : decode cX12_form 27 = .ok (.invokevirtual 140, 3) := by decide +kernel
theorem dX12_form_30 : decode cX12_form 30 = .ok (.ifCond .ne 10, 3) := by decide +kernel
theorem dX12_form_33 : decode cX12_form 33 = .ok (.aload_n 0, 1) := by decide +kernel
theorem dX12_form_34 : decode cX12_form 34 = .ok (.bipush (-2), 2) := by decide +kernel
theorem dX12_form_36 : decode cX12_form 36 = .ok (.invokevirtual 117, 3) := by decide +kernel
theorem dX12_form_39 : decode cX12_form 39 = .ok (.ireturn, 1) := by decide +kernel
theorem dX12_form_40 : decode cX12_form 40 = .ok (.aload_n 0, 1) := by decide +kernel
theorem dX12_form_41 : decode cX12_form 41 = .ok (.sipush 196, 3) := by decide +kernel
theorem dX12_form_44 : decode cX12_form 44 = .ok (.bipush 8, 2) := by decide +kernel
theorem dX12_form_46 : decode cX12_form 46 = .ok (.iload_n 1, 1) := by decide +kernel
theorem dX12_form_47 : decode cX12_form 47 = .ok (.imul, 1) := by decide +kernel
theorem dX12_form_48 : decode cX12_form 48 = .ok (.iadd, 1) := by decide +kernel
theorem dX12_form_49 : decode cX12_form 49 = .ok (.iconst 2, 1) := by decide +kernel
theorem dX12_form_50 : decode cX12_form 50 = .ok (.iadd, 1) := by decide +kernel
theorem dX12_form_51 : decode cX12_form 51 = .ok (.iload_n 2, 1) := by decide +kernel
theorem dX12_form_52 : decode cX12_form 52 = .ok (.iadd, 1) := by decide +kernel
theorem dX12_form_53 : decode cX12_form 53 = .ok (.iload_n 3, 1) := by decide +kernel
theorem dX12_form_54 : decode cX12_form 54 = .ok (.invokevirtual 132, 3) := by decide +kernel
theorem dX12_form_57 : decode cX12_form 57 = .ok (.ireturn, 1) := by decide +kernel
theorem dX12_sample_0 : decode cX12_sample 0 = .ok (.iload_n 1, 1) := by decide +kernel
theorem dX12_sample_1 : decode cX12_sample 1 = .ok (.iconst 0, 1) := by decide +kernel
theorem dX12_sample_2 : decode cX12_sample 2 = .ok (.bipush 7, 2) := by decide +kernel
theorem dX12_sample_4 : decode cX12_sample 4 = .ok (.invokestatic 113, 3) := by decide +kernel
theorem dX12_sample_7 : decode cX12_sample 7 = .ok (.ifCond .eq 40, 3) := by decide +kernel
theorem dX12_sample_10 : decode cX12_sample 10 = .ok (.iload_n 2, 1) := by decide +kernel
theorem dX12_sample_11 : decode cX12_sample 11 = .ok (.iconst 0, 1) := by decide +kernel
theorem dX12_sample_12 : decode cX12_sample 12 = .ok (.iconst 5, 1) := by decide +kernel
theorem dX12_sample_13 : decode cX12_sample 13 = .ok (.invokestatic 113, 3) := by decide +kernel
theorem dX12_sample_16 : decode cX12_sample 16 = .ok (.ifCond .eq 31, 3) := by decide +kernel
theorem dX12_sample_19 : decode cX12_sample 19 = .ok (.iload_n 3, 1) := by decide +kernel
theorem dX12_sample_20 : decode cX12_sample 20 = .ok (.iconst 0, 1) := by decide +kernel
theorem dX12_sample_21 : decode cX12_sample 21 = .ok (.bipush 99, 2) := by decide +kernel
theorem dX12_sample_23 : decode cX12_sample 23 = .ok (.invokestatic 113, 3) := by decide +kernel
theorem dX12_sample_26 : decode cX12_sample 26 = .ok (.ifCond .eq 21, 3) := by decide +kernel
theorem dX12_sample_29 : decode cX12_sample 29 = .ok (.aload_n 0, 1) := by decide +kernel
theorem dX12_sample_30 : decode cX12_sample 30 = .ok (.sipush 292, 3) := by decide +kernel
theorem dX12_sample_33 : decode cX12_sample 33 = .ok (.bipush 6, 2) := by decide +kernel
theorem dX12_sample_35 : decode cX12_sample 35 = .ok (.iload_n 1, 1) := by decide +kernel
theorem dX12_sample_36 : decode cX12_sample 36 = .ok (.imul, 1) := by decide +kernel
theorem dX12_sample_37 : decode cX12_sample 37 = .ok (.iadd, 1) := by decide +kernel
theorem dX12_sample_38 : decode cX12_sample 38 = .ok (.iload_n 2, 1) := by decide +kernel
theorem dX12_sample_39 : decode cX12_sample 39 = .ok (.iadd, 1) := by decide +kernel
theorem dX12_sample_40 : decode cX12_sample 40 = .ok (.iload_n 3, 1) := by decide +kernel
theorem dX12_sample_41 : decode cX12_sample 41 = .ok (.invokevirtual 132, 3) := by decide +kernel
theorem dX12_sample_44 : decode cX12_sample 44 = .ok (.goto 8, 3) := by decide +kernel
theorem dX12_sample_47 : decode cX12_sample 47 = .ok (.aload_n 0, 1) := by decide +kernel
theorem dX12_sample_48 : decode cX12_sample 48 = .ok (.iconst (-1), 1) := by decide +kernel
theorem dX12_sample_49 : decode cX12_sample 49 = .ok (.invokevirtual 117, 3) := by decide +kernel
theorem dX12_sample_52 : decode cX12_sample 52 = .ok (.ireturn, 1) := by decide +kernel
theorem dX12_has_0 : decode cX12_has 0 = .ok (.iconst 0, 1) := by decide +kernel
theorem dX12_has_1 : decode cX12_has 1 = .ok (.istore 4, 2) := by decide +kernel
theorem dX12_has_3 : decode cX12_has 3 = .ok (.iload 4, 2) := by decide +kernel
theorem dX12_has_5 : decode cX12_has 5 = .ok (.aload_n 0, 1) := by decide +kernel
theorem dX12_has_6 : decode cX12_has 6 = .ok (.getfield 20, 3) := by decide +kernel
theorem dX12_has_9 : decode cX12_has 9 = .ok (.sipush 1347, 3) := by decide +kernel
theorem dX12_has_12 : decode cX12_has 12 = .ok (.iaload, 1) := by decide +kernel
theorem dX12_has_13 : decode cX12_has 13 = .ok (.if_icmp .ge 54, 3) := by decide +kernel
theorem dX12_has_16 : decode cX12_has 16 = .ok (.aload_n 0, 1) := by decide +kernel
theorem dX12_has_17 : decode cX12_has 17 = .ok (.iload 4, 2) := by decide +kernel
theorem dX12_has_19 : decode cX12_has 19 = .ok (.iconst 0, 1) := by decide +kernel
theorem dX12_has_20 : decode cX12_has 20 = .ok (.invokevirtual 143, 3) := by decide +kernel
theorem dX12_has_23 : decode cX12_has 23 = .ok (.iload_n 1, 1) := by decide +kernel
theorem dX12_has_24 : decode cX12_has 24 = .ok (.if_icmp .ne 37, 3) := by decide +kernel
theorem dX12_has_27 : decode cX12_has 27 = .ok (.aload_n 0, 1) := by decide +kernel
theorem dX12_has_28 : decode cX12_has 28 = .ok (.iload 4, 2) := by decide +kernel
theorem dX12_has_30 : decode cX12_has 30 = .ok (.iconst 1, 1) := by decide +kernel
theorem dX12_has_31 : decode cX12_has 31 = .ok (.invokevirtual 143, 3) := by decide +kernel
theorem dX12_has_34 : decode cX12_has 34 = .ok (.iload_n 2, 1) := by decide +kernel
theorem dX12_has_35 : decode cX12_has 35 = .ok (.if_icmp .ne 26, 3) := by decide +kernel
theorem dX12_has_38 : decode cX12_has 38 = .ok (.aload_n 0, 1) := by decide +kernel
theorem dX12_has_39 : decode cX12_has 39 = .ok (.iload 4, 2) := by decide +kernel
theorem dX12_has_41 : decode cX12_has 41 = .ok (.iconst 2, 1) := by decide +kernel
theorem dX12_has_42 : decode cX12_has 42 = .ok (.invokevirtual 143, 3) := by decide +kernel
theorem dX12_has_45 : decode cX12_has 45 = .ok (.iload_n 3, 1) := by decide +kernel
theorem dX12_has_46 : decode cX12_has 46 = .ok (.if_icmp .ne 15, 3) := by decide +kernel
theorem dX12_has_49 : decode cX12_has 49 = .ok (.aload_n 0, 1) := by decide +kernel
theorem dX12_has_50 : decode cX12_has 50 = .ok (.iload 4, 2) := by decide +kernel
theorem dX12_has_52 : decode cX12_has 52 = .ok (.iconst 4, 1) := by decide +kernel
theorem dX12_has_53 : decode cX12_has 53 = .ok (.invokevirtual 143, 3) := by decide +kernel
theorem dX12_has_56 : decode cX12_has 56 = .ok (.ifCond .ne 5, 3) := by decide +kernel
theorem dX12_has_59 : decode cX12_has 59 = .ok (.iconst 1, 1) := by decide +kernel
theorem dX12_has_60 : decode cX12_has 60 = .ok (.ireturn, 1) := by decide +kernel
theorem dX12_has_61 : decode cX12_has 61 = .ok (.iinc 4 1, 3) := by decide +kernel
theorem dX12_has_64 : decode cX12_has 64 = .ok (.goto (-61), 3) := by decide +kernel
theorem dX12_has_67 : decode cX12_has 67 = .ok (.iconst 0, 1) := by decide +kernel
theorem dX12_has_68 : decode cX12_has 68 = .ok (.ireturn, 1) := by decide +kernel
theorem dX12_hasKind_0 : decode cX12_hasKind 0 = .ok (.iconst 0, 1) := by decide +kernel
theorem dX12_hasKind_1 : decode cX12_hasKind 1 = .ok (.istore 4, 2) := by decide +kernel
theorem dX12_hasKind_3 : decode cX12_hasKind 3 = .ok (.iload 4, 2) := by decide +kernel
theorem dX12_hasKind_5 : decode cX12_hasKind 5 = .ok (.aload_n 0, 1) := by decide +kernel
theorem dX12_hasKind_6 : decode cX12_hasKind 6 = .ok (.getfield 20, 3) := by decide +kernel
theorem dX12_hasKind_9 : decode cX12_hasKind 9 = .ok (.sipush 1347, 3) := by decide +kernel
theorem dX12_hasKind_12 : decode cX12_hasKind 12 = .ok (.iaload, 1) := by decide +kernel
theorem dX12_hasKind_13 : decode cX12_hasKind 13 = .ok (.if_icmp .ge 44, 3) := by decide +kernel
theorem dX12_hasKind_16 : decode cX12_hasKind 16 = .ok (.aload_n 0, 1) := by decide +kernel
theorem dX12_hasKind_17 : decode cX12_hasKind 17 = .ok (.iload 4, 2) := by decide +kernel
theorem dX12_hasKind_19 : decode cX12_hasKind 19 = .ok (.iconst 0, 1) := by decide +kernel
theorem dX12_hasKind_20 : decode cX12_hasKind 20 = .ok (.invokevirtual 143, 3) := by decide +kernel
theorem dX12_hasKind_23 : decode cX12_hasKind 23 = .ok (.iload_n 1, 1) := by decide +kernel
theorem dX12_hasKind_24 : decode cX12_hasKind 24 = .ok (.if_icmp .ne 27, 3) := by decide +kernel
theorem dX12_hasKind_27 : decode cX12_hasKind 27 = .ok (.aload_n 0, 1) := by decide +kernel
theorem dX12_hasKind_28 : decode cX12_hasKind 28 = .ok (.iload 4, 2) := by decide +kernel
theorem dX12_hasKind_30 : decode cX12_hasKind 30 = .ok (.iconst 1, 1) := by decide +kernel
theorem dX12_hasKind_31 : decode cX12_hasKind 31 = .ok (.invokevirtual 143, 3) := by decide +kernel
theorem dX12_hasKind_34 : decode cX12_hasKind 34 = .ok (.iload_n 2, 1) := by decide +kernel
theorem dX12_hasKind_35 : decode cX12_hasKind 35 = .ok (.if_icmp .ne 16, 3) := by decide +kernel
theorem dX12_hasKind_38 : decode cX12_hasKind 38 = .ok (.aload_n 0, 1) := by decide +kernel
theorem dX12_hasKind_39 : decode cX12_hasKind 39 = .ok (.iload 4, 2) := by decide +kernel
theorem dX12_hasKind_41 : decode cX12_hasKind 41 = .ok (.iconst 4, 1) := by decide +kernel
theorem dX12_hasKind_42 : decode cX12_hasKind 42 = .ok (.invokevirtual 143, 3) := by decide +kernel
theorem dX12_hasKind_45 : decode cX12_hasKind 45 = .ok (.iload_n 3, 1) := by decide +kernel
theorem dX12_hasKind_46 : decode cX12_hasKind 46 = .ok (.if_icmp .ne 5, 3) := by decide +kernel
theorem dX12_hasKind_49 : decode cX12_hasKind 49 = .ok (.iconst 1, 1) := by decide +kernel
theorem dX12_hasKind_50 : decode cX12_hasKind 50 = .ok (.ireturn, 1) := by decide +kernel
theorem dX12_hasKind_51 : decode cX12_hasKind 51 = .ok (.iinc 4 1, 3) := by decide +kernel
theorem dX12_hasKind_54 : decode cX12_hasKind 54 = .ok (.goto (-51), 3) := by decide +kernel
theorem dX12_hasKind_57 : decode cX12_hasKind 57 = .ok (.iconst 0, 1) := by decide +kernel
theorem dX12_hasKind_58 : decode cX12_hasKind 58 = .ok (.ireturn, 1) := by decide +kernel
theorem dX12_hasIt_0 : decode cX12_hasIt 0 = .ok (.iload 4, 2) := by decide +kernel
theorem dX12_hasIt_2 : decode cX12_hasIt 2 = .ok (.ifCond .ne 13, 3) := by decide +kernel
theorem dX12_hasIt_5 : decode cX12_hasIt 5 = .ok (.aload_n 0, 1) := by decide +kernel
theorem dX12_hasIt_6 : decode cX12_hasIt 6 = .ok (.iload_n 1, 1) := by decide +kernel
theorem dX12_hasIt_7 : decode cX12_hasIt 7 = .ok (.iload_n 2, 1) := by decide +kernel
theorem dX12_hasIt_8 : decode cX12_hasIt 8 = .ok (.iload_n 3, 1) := by decide +kernel
theorem dX12_hasIt_9 : decode cX12_hasIt 9 = .ok (.invokevirtual 146, 3) := by decide +kernel
theorem dX12_hasIt_12 : decode cX12_hasIt 12 = .ok (.goto 11, 3) := by decide +kernel
theorem dX12_hasIt_15 : decode cX12_hasIt 15 = .ok (.aload_n 0, 1) := by decide +kernel
theorem dX12_hasIt_16 : decode cX12_hasIt 16 = .ok (.iload_n 1, 1) := by decide +kernel
theorem dX12_hasIt_17 : decode cX12_hasIt 17 = .ok (.iload_n 2, 1) := by decide +kernel
theorem dX12_hasIt_18 : decode cX12_hasIt 18 = .ok (.iload 4, 2) := by decide +kernel
theorem dX12_hasIt_20 : decode cX12_hasIt 20 = .ok (.invokevirtual 149, 3) := by decide +kernel
theorem dX12_hasIt_23 : decode cX12_hasIt 23 = .ok (.ireturn, 1) := by decide +kernel
theorem dX12_notes_0 : decode cX12_notes 0 = .ok (.sipush 340, 3) := by decide +kernel
theorem dX12_notes_3 : decode cX12_notes 3 = .ok (.iconst 5, 1) := by decide +kernel
theorem dX12_notes_4 : decode cX12_notes 4 = .ok (.aload_n 0, 1) := by decide +kernel
theorem dX12_notes_5 : decode cX12_notes 5 = .ok (.getfield 20, 3) := by decide +kernel
theorem dX12_notes_8 : decode cX12_notes 8 = .ok (.sipush 1347, 3) := by decide +kernel
theorem dX12_notes_11 : decode cX12_notes 11 = .ok (.iaload, 1) := by decide +kernel
theorem dX12_notes_12 : decode cX12_notes 12 = .ok (.imul, 1) := by decide +kernel
theorem dX12_notes_13 : decode cX12_notes 13 = .ok (.iadd, 1) := by decide +kernel
theorem dX12_notes_14 : decode cX12_notes 14 = .ok (.istore 6, 2) := by decide +kernel
theorem dX12_notes_16 : decode cX12_notes 16 = .ok (.aload_n 0, 1) := by decide +kernel
theorem dX12_notes_17 : decode cX12_notes 17 = .ok (.getfield 20, 3) := by decide +kernel
theorem dX12_notes_20 : decode cX12_notes 20 = .ok (.iload 6, 2) := by decide +kernel
theorem dX12_notes_22 : decode cX12_notes 22 = .ok (.iload_n 1, 1) := by decide +kernel
theorem dX12_notes_23 : decode cX12_notes 23 = .ok (.iastore, 1) := by decide +kernel
theorem dX12_notes_24 : decode cX12_notes 24 = .ok (.aload_n 0, 1) := by decide +kernel
theorem dX12_notes_25 : decode cX12_notes 25 = .ok (.getfield 20, 3) := by decide +kernel
theorem dX12_notes_28 : decode cX12_notes 28 = .ok (.iload 6, 2) := by decide +kernel
theorem dX12_notes_30 : decode cX12_notes 30 = .ok (.iconst 1, 1) := by decide +kernel
theorem dX12_notes_31 : decode cX12_notes 31 = .ok (.iadd, 1) := by decide +kernel
theorem dX12_notes_32 : decode cX12_notes 32 = .ok (.iload_n 2, 1) := by decide +kernel
theorem dX12_notes_33 : decode cX12_notes 33 = .ok (.iastore, 1) := by decide +kernel
theorem dX12_notes_34 : decode cX12_notes 34 = .ok (.aload_n 0, 1) := by decide +kernel
theorem dX12_notes_35 : decode cX12_notes 35 = .ok (.getfield 20, 3) := by decide +kernel
theorem dX12_notes_38 : decode cX12_notes 38 = .ok (.iload 6, 2) := by decide +kernel
theorem dX12_notes_40 : decode cX12_notes 40 = .ok (.iconst 2, 1) := by decide +kernel
theorem dX12_notes_41 : decode cX12_notes 41 = .ok (.iadd, 1) := by decide +kernel
theorem dX12_notes_42 : decode cX12_notes 42 = .ok (.iload_n 3, 1) := by decide +kernel
theorem dX12_notes_43 : decode cX12_notes 43 = .ok (.iastore, 1) := by decide +kernel
theorem dX12_notes_44 : decode cX12_notes 44 = .ok (.aload_n 0, 1) := by decide +kernel
theorem dX12_notes_45 : decode cX12_notes 45 = .ok (.getfield 20, 3) := by decide +kernel
theorem dX12_notes_48 : decode cX12_notes 48 = .ok (.iload 6, 2) := by decide +kernel
theorem dX12_notes_50 : decode cX12_notes 50 = .ok (.iconst 3, 1) := by decide +kernel
theorem dX12_notes_51 : decode cX12_notes 51 = .ok (.iadd, 1) := by decide +kernel
theorem dX12_notes_52 : decode cX12_notes 52 = .ok (.iload 4, 2) := by decide +kernel
theorem dX12_notes_54 : decode cX12_notes 54 = .ok (.iastore, 1) := by decide +kernel
theorem dX12_notes_55 : decode cX12_notes 55 = .ok (.aload_n 0, 1) := by decide +kernel
theorem dX12_notes_56 : decode cX12_notes 56 = .ok (.getfield 20, 3) := by decide +kernel
theorem dX12_notes_59 : decode cX12_notes 59 = .ok (.iload 6, 2) := by decide +kernel
theorem dX12_notes_61 : decode cX12_notes 61 = .ok (.iconst 4, 1) := by decide +kernel
theorem dX12_notes_62 : decode cX12_notes 62 = .ok (.iadd, 1) := by decide +kernel
theorem dX12_notes_63 : decode cX12_notes 63 = .ok (.iload 5, 2) := by decide +kernel
theorem dX12_notes_65 : decode cX12_notes 65 = .ok (.iastore, 1) := by decide +kernel
theorem dX12_notes_66 : decode cX12_notes 66 = .ok (.aload_n 0, 1) := by decide +kernel
theorem dX12_notes_67 : decode cX12_notes 67 = .ok (.getfield 20, 3) := by decide +kernel
theorem dX12_notes_70 : decode cX12_notes 70 = .ok (.sipush 1347, 3) := by decide +kernel
theorem dX12_notes_73 : decode cX12_notes 73 = .ok (.dup2, 1) := by decide +kernel
theorem dX12_notes_74 : decode cX12_notes 74 = .ok (.iaload, 1) := by decide +kernel
theorem dX12_notes_75 : decode cX12_notes 75 = .ok (.iconst 1, 1) := by decide +kernel
theorem dX12_notes_76 : decode cX12_notes 76 = .ok (.iadd, 1) := by decide +kernel
theorem dX12_notes_77 : decode cX12_notes 77 = .ok (.iastore, 1) := by decide +kernel
theorem dX12_notes_78 : decode cX12_notes 78 = .ok (.return_, 1) := by decide +kernel
theorem dX12_note_0 : decode cX12_note 0 = .ok (.iload_n 2, 1) := by decide +kernel
theorem dX12_note_1 : decode cX12_note 1 = .ok (.iconst 0, 1) := by decide +kernel
theorem dX12_note_2 : decode cX12_note 2 = .ok (.bipush 59, 2) := by decide +kernel
theorem dX12_note_4 : decode cX12_note 4 = .ok (.invokestatic 113, 3) := by decide +kernel
theorem dX12_note_7 : decode cX12_note 7 = .ok (.ifCond .eq 32, 3) := by decide +kernel
theorem dX12_note_10 : decode cX12_note 10 = .ok (.iload_n 3, 1) := by decide +kernel
theorem dX12_note_11 : decode cX12_note 11 = .ok (.iconst 0, 1) := by decide +kernel
theorem dX12_note_12 : decode cX12_note 12 = .ok (.bipush 99, 2) := by decide +kernel
theorem dX12_note_14 : decode cX12_note 14 = .ok (.invokestatic 113, 3) := by decide +kernel
theorem dX12_note_17 : decode cX12_note 17 = .ok (.ifCond .eq 22, 3) := by decide +kernel
theorem dX12_note_20 : decode cX12_note 20 = .ok (.iload 5, 2) := by decide +kernel
theorem dX12_note_22 : decode cX12_note 22 = .ok (.iconst 0, 1) := by decide +kernel
theorem dX12_note_23 : decode cX12_note 23 = .ok (.iconst 3, 1) := by decide +kernel
theorem dX12_note_24 : decode cX12_note 24 = .ok (.invokestatic 113, 3) := by decide +kernel
theorem dX12_note_27 : decode cX12_note 27 = .ok (.ifCond .eq 12, 3) := by decide +kernel
theorem dX12_note_30 : decode cX12_note 30 = .ok (.iload 5, 2) := by decide +kernel
theorem dX12_note_32 : decode cX12_note 32 = .ok (.ifCond .eq 13, 3) := by decide +kernel
theorem dX12_note_35 : decode cX12_note 35 = .ok (.iload_n 3, 1) := by decide +kernel
theorem dX12_note_36 : decode cX12_note 36 = .ok (.ifCond .eq 9, 3) := by decide +kernel
theorem dX12_note_39 : decode cX12_note 39 = .ok (.aload_n 0, 1) := by decide +kernel
theorem dX12_note_40 : decode cX12_note 40 = .ok (.iconst (-1), 1) := by decide +kernel
theorem dX12_note_41 : decode cX12_note 41 = .ok (.invokevirtual 117, 3) := by decide +kernel
theorem dX12_note_44 : decode cX12_note 44 = .ok (.ireturn, 1) := by decide +kernel
theorem dX12_note_45 : decode cX12_note 45 = .ok (.aload_n 0, 1) := by decide +kernel
theorem dX12_note_46 : decode cX12_note 46 = .ok (.iload_n 1, 1) := by decide +kernel
theorem dX12_note_47 : decode cX12_note 47 = .ok (.invokevirtual 128, 3) := by decide +kernel
theorem dX12_note_50 : decode cX12_note 50 = .ok (.ifCond .eq 18, 3) := by decide +kernel
theorem dX12_note_53 : decode cX12_note 53 = .ok (.iload 4, 2) := by decide +kernel
theorem dX12_note_55 : decode cX12_note 55 = .ok (.iconst (-1), 1) := by decide +kernel
theorem dX12_note_56 : decode cX12_note 56 = .ok (.if_icmp .eq 19, 3) := by decide +kernel
theorem dX12_note_59 : decode cX12_note 59 = .ok (.aload_n 0, 1) := by decide +kernel
theorem dX12_note_60 : decode cX12_note 60 = .ok (.iload 4, 2) := by decide +kernel
theorem dX12_note_62 : decode cX12_note 62 = .ok (.invokevirtual 140, 3) := by decide +kernel
theorem dX12_note_65 : decode cX12_note 65 = .ok (.ifCond .ne 10, 3) := by decide +kernel
theorem dX12_note_68 : decode cX12_note 68 = .ok (.aload_n 0, 1) := by decide +kernel
theorem dX12_note_69 : decode cX12_note 69 = .ok (.bipush (-2), 2) := by decide +kernel
theorem dX12_note_71 : decode cX12_note 71 = .ok (.invokevirtual 117, 3) := by decide +kernel
theorem dX12_note_74 : decode cX12_note 74 = .ok (.ireturn, 1) := by decide +kernel
theorem dX12_note_75 : decode cX12_note 75 = .ok (.aload_n 0, 1) := by decide +kernel
theorem dX12_note_76 : decode cX12_note 76 = .ok (.iload_n 1, 1) := by decide +kernel
theorem dX12_note_77 : decode cX12_note 77 = .ok (.iload_n 2, 1) := by decide +kernel
theorem dX12_note_78 : decode cX12_note 78 = .ok (.iload_n 3, 1) := by decide +kernel
theorem dX12_note_79 : decode cX12_note 79 = .ok (.iload 5, 2) := by decide +kernel
theorem dX12_note_81 : decode cX12_note 81 = .ok (.invokevirtual 152, 3) := by decide +kernel
theorem dX12_note_84 : decode cX12_note 84 = .ok (.ifCond .eq 10, 3) := by decide +kernel
theorem dX12_note_87 : decode cX12_note 87 = .ok (.aload_n 0, 1) := by decide +kernel
theorem dX12_note_88 : decode cX12_note 88 = .ok (.bipush (-3), 2) := by decide +kernel
theorem dX12_note_90 : decode cX12_note 90 = .ok (.invokevirtual 117, 3) := by decide +kernel
theorem dX12_note_93 : decode cX12_note 93 = .ok (.ireturn, 1) := by decide +kernel
theorem dX12_note_94 : decode cX12_note 94 = .ok (.aload_n 0, 1) := by decide +kernel
theorem dX12_note_95 : decode cX12_note 95 = .ok (.getfield 20, 3) := by decide +kernel
theorem dX12_note_98 : decode cX12_note 98 = .ok (.sipush 1347, 3) := by decide +kernel
theorem dX12_note_101 : decode cX12_note 101 = .ok (.iaload, 1) := by decide +kernel
theorem dX12_note_102 : decode cX12_note 102 = .ok (.sipush 200, 3) := by decide +kernel
theorem dX12_note_105 : decode cX12_note 105 = .ok (.if_icmp .ne 10, 3) := by decide +kernel
theorem dX12_note_108 : decode cX12_note 108 = .ok (.aload_n 0, 1) := by decide +kernel
theorem dX12_note_109 : decode cX12_note 109 = .ok (.bipush (-5), 2) := by decide +kernel
theorem dX12_note_111 : decode cX12_note 111 = .ok (.invokevirtual 117, 3) := by decide +kernel
theorem dX12_note_114 : decode cX12_note 114 = .ok (.ireturn, 1) := by decide +kernel
theorem dX12_note_115 : decode cX12_note 115 = .ok (.aload_n 0, 1) := by decide +kernel
theorem dX12_note_116 : decode cX12_note 116 = .ok (.iload_n 1, 1) := by decide +kernel
theorem dX12_note_117 : decode cX12_note 117 = .ok (.iload_n 2, 1) := by decide +kernel
theorem dX12_note_118 : decode cX12_note 118 = .ok (.iload_n 3, 1) := by decide +kernel
theorem dX12_note_119 : decode cX12_note 119 = .ok (.iload 4, 2) := by decide +kernel
theorem dX12_note_121 : decode cX12_note 121 = .ok (.iload 5, 2) := by decide +kernel
theorem dX12_note_123 : decode cX12_note 123 = .ok (.invokevirtual 156, 3) := by decide +kernel
theorem dX12_note_126 : decode cX12_note 126 = .ok (.aload_n 0, 1) := by decide +kernel
theorem dX12_note_127 : decode cX12_note 127 = .ok (.aload_n 0, 1) := by decide +kernel
theorem dX12_note_128 : decode cX12_note 128 = .ok (.getfield 20, 3) := by decide +kernel
theorem dX12_note_131 : decode cX12_note 131 = .ok (.sipush 1347, 3) := by decide +kernel
theorem dX12_note_134 : decode cX12_note 134 = .ok (.iaload, 1) := by decide +kernel
theorem dX12_note_135 : decode cX12_note 135 = .ok (.iconst 1, 1) := by decide +kernel
theorem dX12_note_136 : decode cX12_note 136 = .ok (.isub, 1) := by decide +kernel
theorem dX12_note_137 : decode cX12_note 137 = .ok (.invokevirtual 121, 3) := by decide +kernel
theorem dX12_note_140 : decode cX12_note 140 = .ok (.ireturn, 1) := by decide +kernel
theorem dX12_sharedBy_0 : decode cX12_sharedBy 0 = .ok (.iconst 0, 1) := by decide +kernel
theorem dX12_sharedBy_1 : decode cX12_sharedBy 1 = .ok (.istore_n 3, 1) := by decide +kernel
theorem dX12_sharedBy_2 : decode cX12_sharedBy 2 = .ok (.iconst 0, 1) := by decide +kernel
theorem dX12_sharedBy_3 : decode cX12_sharedBy 3 = .ok (.istore 4, 2) := by decide +kernel
theorem dX12_sharedBy_5 : decode cX12_sharedBy 5 = .ok (.iload 4, 2) := by decide +kernel
theorem dX12_sharedBy_7 : decode cX12_sharedBy 7 = .ok (.aload_n 0, 1) := by decide +kernel
theorem dX12_sharedBy_8 : decode cX12_sharedBy 8 = .ok (.invokevirtual 124, 3) := by decide +kernel
theorem dX12_sharedBy_11 : decode cX12_sharedBy 11 = .ok (.if_icmp .ge 28, 3) := by decide +kernel
theorem dX12_sharedBy_14 : decode cX12_sharedBy 14 = .ok (.iload_n 3, 1) := by decide +kernel
theorem dX12_sharedBy_15 : decode cX12_sharedBy 15 = .ok (.aload_n 0, 1) := by decide +kernel
theorem dX12_sharedBy_16 : decode cX12_sharedBy 16 = .ok (.iload 4, 2) := by decide +kernel
theorem dX12_sharedBy_18 : decode cX12_sharedBy 18 = .ok (.iload_n 1, 1) := by decide +kernel
theorem dX12_sharedBy_19 : decode cX12_sharedBy 19 = .ok (.iload_n 2, 1) := by decide +kernel
theorem dX12_sharedBy_20 : decode cX12_sharedBy 20 = .ok (.invokevirtual 146, 3) := by decide +kernel
theorem dX12_sharedBy_23 : decode cX12_sharedBy 23 = .ok (.ifCond .eq 7, 3) := by decide +kernel
theorem dX12_sharedBy_26 : decode cX12_sharedBy 26 = .ok (.iconst 1, 1) := by decide +kernel
theorem dX12_sharedBy_27 : decode cX12_sharedBy 27 = .ok (.goto 4, 3) := by decide +kernel
theorem dX12_sharedBy_30 : decode cX12_sharedBy 30 = .ok (.iconst 0, 1) := by decide +kernel
theorem dX12_sharedBy_31 : decode cX12_sharedBy 31 = .ok (.iadd, 1) := by decide +kernel
theorem dX12_sharedBy_32 : decode cX12_sharedBy 32 = .ok (.istore_n 3, 1) := by decide +kernel
theorem dX12_sharedBy_33 : decode cX12_sharedBy 33 = .ok (.iinc 4 1, 3) := by decide +kernel
theorem dX12_sharedBy_36 : decode cX12_sharedBy 36 = .ok (.goto (-31), 3) := by decide +kernel
theorem dX12_sharedBy_39 : decode cX12_sharedBy 39 = .ok (.iload_n 3, 1) := by decide +kernel
theorem dX12_sharedBy_40 : decode cX12_sharedBy 40 = .ok (.ireturn, 1) := by decide +kernel
theorem dX12_of_0 : decode cX12_of 0 = .ok (.iload_n 1, 1) := by decide +kernel
theorem dX12_of_1 : decode cX12_of 1 = .ok (.iconst 0, 1) := by decide +kernel
theorem dX12_of_2 : decode cX12_of 2 = .ok (.aload_n 0, 1) := by decide +kernel
theorem dX12_of_3 : decode cX12_of 3 = .ok (.getfield 20, 3) := by decide +kernel
theorem dX12_of_6 : decode cX12_of 6 = .ok (.sipush 1347, 3) := by decide +kernel
theorem dX12_of_9 : decode cX12_of 9 = .ok (.iaload, 1) := by decide +kernel
theorem dX12_of_10 : decode cX12_of 10 = .ok (.iconst 1, 1) := by decide +kernel
theorem dX12_of_11 : decode cX12_of 11 = .ok (.isub, 1) := by decide +kernel
theorem dX12_of_12 : decode cX12_of 12 = .ok (.invokestatic 113, 3) := by decide +kernel
theorem dX12_of_15 : decode cX12_of 15 = .ok (.ifCond .eq 12, 3) := by decide +kernel
theorem dX12_of_18 : decode cX12_of 18 = .ok (.iload_n 2, 1) := by decide +kernel
theorem dX12_of_19 : decode cX12_of 19 = .ok (.iconst 0, 1) := by decide +kernel
theorem dX12_of_20 : decode cX12_of 20 = .ok (.iconst 5, 1) := by decide +kernel
theorem dX12_of_21 : decode cX12_of 21 = .ok (.invokestatic 113, 3) := by decide +kernel
theorem dX12_of_24 : decode cX12_of 24 = .ok (.ifCond .ne 6, 3) := by decide +kernel
theorem dX12_of_27 : decode cX12_of 27 = .ok (.bipush (-2), 2) := by decide +kernel
theorem dX12_of_29 : decode cX12_of 29 = .ok (.ireturn, 1) := by decide +kernel
theorem dX12_of_30 : decode cX12_of 30 = .ok (.iload_n 2, 1) := by decide +kernel
theorem dX12_of_31 : decode cX12_of 31 = .ok (.iconst 5, 1) := by decide +kernel
theorem dX12_of_32 : decode cX12_of 32 = .ok (.if_icmp .ge 12, 3) := by decide +kernel
theorem dX12_of_35 : decode cX12_of 35 = .ok (.aload_n 0, 1) := by decide +kernel
theorem dX12_of_36 : decode cX12_of 36 = .ok (.iload_n 1, 1) := by decide +kernel
theorem dX12_of_37 : decode cX12_of 37 = .ok (.iload_n 2, 1) := by decide +kernel
theorem dX12_of_38 : decode cX12_of 38 = .ok (.invokevirtual 143, 3) := by decide +kernel
theorem dX12_of_41 : decode cX12_of 41 = .ok (.goto 32, 3) := by decide +kernel
theorem dX12_of_44 : decode cX12_of 44 = .ok (.aload_n 0, 1) := by decide +kernel
theorem dX12_of_45 : decode cX12_of 45 = .ok (.iload_n 1, 1) := by decide +kernel
theorem dX12_of_46 : decode cX12_of 46 = .ok (.iconst 4, 1) := by decide +kernel
theorem dX12_of_47 : decode cX12_of 47 = .ok (.invokevirtual 143, 3) := by decide +kernel
theorem dX12_of_50 : decode cX12_of 50 = .ok (.ifCond .ne 22, 3) := by decide +kernel
theorem dX12_of_53 : decode cX12_of 53 = .ok (.aload_n 0, 1) := by decide +kernel
theorem dX12_of_54 : decode cX12_of 54 = .ok (.aload_n 0, 1) := by decide +kernel
theorem dX12_of_55 : decode cX12_of 55 = .ok (.iload_n 1, 1) := by decide +kernel
theorem dX12_of_56 : decode cX12_of 56 = .ok (.iconst 1, 1) := by decide +kernel
theorem dX12_of_57 : decode cX12_of 57 = .ok (.invokevirtual 143, 3) := by decide +kernel
theorem dX12_of_60 : decode cX12_of 60 = .ok (.aload_n 0, 1) := by decide +kernel
theorem dX12_of_61 : decode cX12_of 61 = .ok (.iload_n 1, 1) := by decide +kernel
theorem dX12_of_62 : decode cX12_of 62 = .ok (.iconst 2, 1) := by decide +kernel
theorem dX12_of_63 : decode cX12_of 63 = .ok (.invokevirtual 143, 3) := by decide +kernel
theorem dX12_of_66 : decode cX12_of 66 = .ok (.invokevirtual 160, 3) := by decide +kernel
theorem dX12_of_69 : decode cX12_of 69 = .ok (.goto 4, 3) := by decide +kernel
theorem dX12_of_72 : decode cX12_of 72 = .ok (.iconst 0, 1) := by decide +kernel
theorem dX12_of_73 : decode cX12_of 73 = .ok (.ireturn, 1) := by decide +kernel
theorem dX12_terms_0 : decode cX12_terms 0 = .ok (.iload_n 1, 1) := by decide +kernel
theorem dX12_terms_1 : decode cX12_terms 1 = .ok (.iconst 0, 1) := by decide +kernel
theorem dX12_terms_2 : decode cX12_terms 2 = .ok (.iconst 3, 1) := by decide +kernel
theorem dX12_terms_3 : decode cX12_terms 3 = .ok (.invokestatic 113, 3) := by decide +kernel
theorem dX12_terms_6 : decode cX12_terms 6 = .ok (.ifCond .eq 37, 3) := by decide +kernel
theorem dX12_terms_9 : decode cX12_terms 9 = .ok (.iload_n 2, 1) := by decide +kernel
theorem dX12_terms_10 : decode cX12_terms 10 = .ok (.iload_n 1, 1) := by decide +kernel
theorem dX12_terms_11 : decode cX12_terms 11 = .ok (.ifCond .eq 8, 3) := by decide +kernel
theorem dX12_terms_14 : decode cX12_terms 14 = .ok (.iload_n 1, 1) := by decide +kernel
theorem dX12_terms_15 : decode cX12_terms 15 = .ok (.iconst 2, 1) := by decide +kernel
theorem dX12_terms_16 : decode cX12_terms 16 = .ok (.if_icmp .ne 7, 3) := by decide +kernel
theorem dX12_terms_19 : decode cX12_terms 19 = .ok (.iconst 1, 1) := by decide +kernel
theorem dX12_terms_20 : decode cX12_terms 20 = .ok (.goto 4, 3) := by decide +kernel
theorem dX12_terms_23 : decode cX12_terms 23 = .ok (.iconst 0, 1) := by decide +kernel
theorem dX12_terms_24 : decode cX12_terms 24 = .ok (.iload_n 1, 1) := by decide +kernel
theorem dX12_terms_25 : decode cX12_terms 25 = .ok (.iconst 3, 1) := by decide +kernel
theorem dX12_terms_26 : decode cX12_terms 26 = .ok (.if_icmp .ne 9, 3) := by decide +kernel
theorem dX12_terms_29 : decode cX12_terms 29 = .ok (.sipush 1000, 3) := by decide +kernel
theorem dX12_terms_32 : decode cX12_terms 32 = .ok (.goto 5, 3) := by decide +kernel
theorem dX12_terms_35 : decode cX12_terms 35 = .ok (.bipush 9, 2) := by decide +kernel
theorem dX12_terms_37 : decode cX12_terms 37 = .ok (.invokestatic 113, 3) := by decide +kernel
theorem dX12_terms_40 : decode cX12_terms 40 = .ok (.ifCond .ne 9, 3) := by decide +kernel
theorem dX12_terms_43 : decode cX12_terms 43 = .ok (.aload_n 0, 1) := by decide +kernel
theorem dX12_terms_44 : decode cX12_terms 44 = .ok (.iconst (-1), 1) := by decide +kernel
theorem dX12_terms_45 : decode cX12_terms 45 = .ok (.invokevirtual 117, 3) := by decide +kernel
theorem dX12_terms_48 : decode cX12_terms 48 = .ok (.ireturn, 1) := by decide +kernel
theorem dX12_terms_49 : decode cX12_terms 49 = .ok (.aload_n 0, 1) := by decide +kernel
theorem dX12_terms_50 : decode cX12_terms 50 = .ok (.sipush 1340, 3) := by decide +kernel
theorem dX12_terms_53 : decode cX12_terms 53 = .ok (.iload_n 1, 1) := by decide +kernel
theorem dX12_terms_54 : decode cX12_terms 54 = .ok (.iadd, 1) := by decide +kernel
theorem dX12_terms_55 : decode cX12_terms 55 = .ok (.iload_n 2, 1) := by decide +kernel
theorem dX12_terms_56 : decode cX12_terms 56 = .ok (.invokevirtual 132, 3) := by decide +kernel
theorem dX12_terms_59 : decode cX12_terms 59 = .ok (.ireturn, 1) := by decide +kernel
theorem dX12_row_0 : decode cX12_row 0 = .ok (.aload_n 0, 1) := by decide +kernel
theorem dX12_row_1 : decode cX12_row 1 = .ok (.iload_n 1, 1) := by decide +kernel
theorem dX12_row_2 : decode cX12_row 2 = .ok (.invokevirtual 128, 3) := by decide +kernel
theorem dX12_row_5 : decode cX12_row 5 = .ok (.ifCond .ne 10, 3) := by decide +kernel
theorem dX12_row_8 : decode cX12_row 8 = .ok (.aload_n 0, 1) := by decide +kernel
theorem dX12_row_9 : decode cX12_row 9 = .ok (.bipush (-2), 2) := by decide +kernel
theorem dX12_row_11 : decode cX12_row 11 = .ok (.invokevirtual 117, 3) := by decide +kernel
theorem dX12_row_14 : decode cX12_row 14 = .ok (.ireturn, 1) := by decide +kernel
theorem dX12_row_15 : decode cX12_row 15 = .ok (.aload_n 0, 1) := by decide +kernel
theorem dX12_row_16 : decode cX12_row 16 = .ok (.getfield 163, 3) := by decide +kernel
theorem dX12_row_19 : decode cX12_row 19 = .ok (.istore_n 2, 1) := by decide +kernel
theorem dX12_row_20 : decode cX12_row 20 = .ok (.aload_n 0, 1) := by decide +kernel
theorem dX12_row_21 : decode cX12_row 21 = .ok (.iconst 0, 1) := by decide +kernel
theorem dX12_row_22 : decode cX12_row 22 = .ok (.putfield 163, 3) := by decide +kernel
theorem dX12_row_25 : decode cX12_row 25 = .ok (.iload_n 2, 1) := by decide +kernel
theorem dX12_row_26 : decode cX12_row 26 = .ok (.ifCond .ne 10, 3) := by decide +kernel
theorem dX12_row_29 : decode cX12_row 29 = .ok (.aload_n 0, 1) := by decide +kernel
theorem dX12_row_30 : decode cX12_row 30 = .ok (.bipush (-6), 2) := by decide +kernel
theorem dX12_row_32 : decode cX12_row 32 = .ok (.invokevirtual 117, 3) := by decide +kernel
theorem dX12_row_35 : decode cX12_row 35 = .ok (.ireturn, 1) := by decide +kernel
theorem dX12_row_36 : decode cX12_row 36 = .ok (.iconst 0, 1) := by decide +kernel
theorem dX12_row_37 : decode cX12_row 37 = .ok (.istore_n 3, 1) := by decide +kernel
theorem dX12_row_38 : decode cX12_row 38 = .ok (.aload_n 0, 1) := by decide +kernel
theorem dX12_row_39 : decode cX12_row 39 = .ok (.iload_n 2, 1) := by decide +kernel
theorem dX12_row_40 : decode cX12_row 40 = .ok (.iconst 3, 1) := by decide +kernel
theorem dX12_row_41 : decode cX12_row 41 = .ok (.irem, 1) := by decide +kernel
theorem dX12_row_42 : decode cX12_row 42 = .ok (.ifCond .ne 7, 3) := by decide +kernel
theorem dX12_row_45 : decode cX12_row 45 = .ok (.iconst 0, 1) := by decide +kernel
theorem dX12_row_46 : decode cX12_row 46 = .ok (.goto 4, 3) := by decide +kernel
theorem dX12_row_49 : decode cX12_row 49 = .ok (.iconst 1, 1) := by decide +kernel
theorem dX12_row_50 : decode cX12_row 50 = .ok (.putfield 166, 3) := by decide +kernel
theorem dX12_row_53 : decode cX12_row 53 = .ok (.iconst 0, 1) := by decide +kernel
theorem dX12_row_54 : decode cX12_row 54 = .ok (.istore 4, 2) := by decide +kernel
theorem dX12_row_56 : decode cX12_row 56 = .ok (.iload 4, 2) := by decide +kernel
theorem dX12_row_58 : decode cX12_row 58 = .ok (.iconst 3, 1) := by decide +kernel
theorem dX12_row_59 : decode cX12_row 59 = .ok (.iadd, 1) := by decide +kernel
theorem dX12_row_60 : decode cX12_row 60 = .ok (.iload_n 2, 1) := by decide +kernel
theorem dX12_row_61 : decode cX12_row 61 = .ok (.if_icmp .gt 202, 3) := by decide +kernel
theorem dX12_row_64 : decode cX12_row 64 = .ok (.aload_n 0, 1) := by decide +kernel
theorem dX12_row_65 : decode cX12_row 65 = .ok (.getfield 34, 3) := by decide +kernel
theorem dX12_row_68 : decode cX12_row 68 = .ok (.iload 4, 2) := by decide +kernel
theorem dX12_row_70 : decode cX12_row 70 = .ok (.iconst 2, 1) := by decide +kernel
theorem dX12_row_71 : decode cX12_row 71 = .ok (.iadd, 1) := by decide +kernel
theorem dX12_row_72 : decode cX12_row 72 = .ok (.baload, 1) := by decide +kernel
theorem dX12_row_73 : decode cX12_row 73 = .ok (.sipush 255, 3) := by decide +kernel
theorem dX12_row_76 : decode cX12_row 76 = .ok (.iand, 1) := by decide +kernel
theorem dX12_row_77 : decode cX12_row 77 = .ok (.sipush 255, 3) := by decide +kernel
theorem dX12_row_80 : decode cX12_row 80 = .ok (.if_icmp .ne 7, 3) := by decide +kernel
theorem dX12_row_83 : decode cX12_row 83 = .ok (.iconst (-1), 1) := by decide +kernel
theorem dX12_row_84 : decode cX12_row 84 = .ok (.goto 16, 3) := by decide +kernel
theorem dX12_row_87 : decode cX12_row 87 = .ok (.aload_n 0, 1) := by decide +kernel
theorem dX12_row_88 : decode cX12_row 88 = .ok (.getfield 34, 3) := by decide +kernel
theorem dX12_row_91 : decode cX12_row 91 = .ok (.iload 4, 2) := by decide +kernel
theorem dX12_row_93 : decode cX12_row 93 = .ok (.iconst 2, 1) := by decide +kernel
theorem dX12_row_94 : decode cX12_row 94 = .ok (.iadd, 1) := by decide +kernel
theorem dX12_row_95 : decode cX12_row 95 = .ok (.baload, 1) := by decide +kernel
theorem dX12_row_96 : decode cX12_row 96 = .ok (.sipush 255, 3) := by decide +kernel
theorem dX12_row_99 : decode cX12_row 99 = .ok (.iand, 1) := by decide +kernel
theorem dX12_row_100 : decode cX12_row 100 = .ok (.istore 5, 2) := by decide +kernel
theorem dX12_row_102 : decode cX12_row 102 = .ok (.aload_n 0, 1) := by decide +kernel
theorem dX12_row_103 : decode cX12_row 103 = .ok (.getfield 34, 3) := by decide +kernel
theorem dX12_row_106 : decode cX12_row 106 = .ok (.iload 4, 2) := by decide +kernel
theorem dX12_row_108 : decode cX12_row 108 = .ok (.baload, 1) := by decide +kernel
theorem dX12_row_109 : decode cX12_row 109 = .ok (.iconst 0, 1) := by decide +kernel
theorem dX12_row_110 : decode cX12_row 110 = .ok (.bipush 59, 2) := by decide +kernel
theorem dX12_row_112 : decode cX12_row 112 = .ok (.invokestatic 113, 3) := by decide +kernel
theorem dX12_row_115 : decode cX12_row 115 = .ok (.ifCond .eq 78, 3) := by decide +kernel
theorem dX12_row_118 : decode cX12_row 118 = .ok (.aload_n 0, 1) := by decide +kernel
theorem dX12_row_119 : decode cX12_row 119 = .ok (.getfield 34, 3) := by decide +kernel
theorem dX12_row_122 : decode cX12_row 122 = .ok (.iload 4, 2) := by decide +kernel
theorem dX12_row_124 : decode cX12_row 124 = .ok (.iconst 1, 1) := by decide +kernel
theorem dX12_row_125 : decode cX12_row 125 = .ok (.iadd, 1) := by decide +kernel
theorem dX12_row_126 : decode cX12_row 126 = .ok (.baload, 1) := by decide +kernel
theorem dX12_row_127 : decode cX12_row 127 = .ok (.iconst 0, 1) := by decide +kernel
theorem dX12_row_128 : decode cX12_row 128 = .ok (.bipush 99, 2) := by decide +kernel
theorem dX12_row_130 : decode cX12_row 130 = .ok (.invokestatic 113, 3) := by decide +kernel
theorem dX12_row_133 : decode cX12_row 133 = .ok (.ifCond .eq 60, 3) := by decide +kernel
theorem dX12_row_136 : decode cX12_row 136 = .ok (.iload 5, 2) := by decide +kernel
theorem dX12_row_138 : decode cX12_row 138 = .ok (.iconst (-1), 1) := by decide +kernel
theorem dX12_row_139 : decode cX12_row 139 = .ok (.if_icmp .eq 12, 3) := by decide +kernel
theorem dX12_row_142 : decode cX12_row 142 = .ok (.aload_n 0, 1) := by decide +kernel
theorem dX12_row_143 : decode cX12_row 143 = .ok (.iload 5, 2) := by decide +kernel
theorem dX12_row_145 : decode cX12_row 145 = .ok (.invokevirtual 140, 3) := by decide +kernel
theorem dX12_row_148 : decode cX12_row 148 = .ok (.ifCond .eq 45, 3) := by decide +kernel
theorem dX12_row_151 : decode cX12_row 151 = .ok (.aload_n 0, 1) := by decide +kernel
theorem dX12_row_152 : decode cX12_row 152 = .ok (.getfield 20, 3) := by decide +kernel
theorem dX12_row_155 : decode cX12_row 155 = .ok (.sipush 1347, 3) := by decide +kernel
theorem dX12_row_158 : decode cX12_row 158 = .ok (.iaload, 1) := by decide +kernel
theorem dX12_row_159 : decode cX12_row 159 = .ok (.sipush 200, 3) := by decide +kernel
theorem dX12_row_162 : decode cX12_row 162 = .ok (.if_icmp .ge 31, 3) := by decide +kernel
theorem dX12_row_165 : decode cX12_row 165 = .ok (.aload_n 0, 1) := by decide +kernel
theorem dX12_row_166 : decode cX12_row 166 = .ok (.iload_n 1, 1) := by decide +kernel
theorem dX12_row_167 : decode cX12_row 167 = .ok (.aload_n 0, 1) := by decide +kernel
theorem dX12_row_168 : decode cX12_row 168 = .ok (.getfield 34, 3) := by decide +kernel
theorem dX12_row_171 : decode cX12_row 171 = .ok (.iload 4, 2) := by decide +kernel
theorem dX12_row_173 : decode cX12_row 173 = .ok (.baload, 1) := by decide +kernel
theorem dX12_row_174 : decode cX12_row 174 = .ok (.aload_n 0, 1) := by decide +kernel
theorem dX12_row_175 : decode cX12_row 175 = .ok (.getfield 34, 3) := by decide +kernel
theorem dX12_row_178 : decode cX12_row 178 = .ok (.iload 4, 2) := by decide +kernel
theorem dX12_row_180 : decode cX12_row 180 = .ok (.iconst 1, 1) := by decide +kernel
theorem dX12_row_181 : decode cX12_row 181 = .ok (.iadd, 1) := by decide +kernel
theorem dX12_row_182 : decode cX12_row 182 = .ok (.baload, 1) := by decide +kernel
theorem dX12_row_183 : decode cX12_row 183 = .ok (.invokevirtual 146, 3) := by decide +kernel
theorem dX12_row_186 : decode cX12_row 186 = .ok (.ifCond .ne 7, 3) := by decide +kernel
theorem dX12_row_189 : decode cX12_row 189 = .ok (.iconst 1, 1) := by decide +kernel
theorem dX12_row_190 : decode cX12_row 190 = .ok (.goto 4, 3) := by decide +kernel
theorem dX12_row_193 : decode cX12_row 193 = .ok (.iconst 0, 1) := by decide +kernel
theorem dX12_row_194 : decode cX12_row 194 = .ok (.istore 6, 2) := by decide +kernel
theorem dX12_row_196 : decode cX12_row 196 = .ok (.iload 6, 2) := by decide +kernel
theorem dX12_row_198 : decode cX12_row 198 = .ok (.ifCond .eq 27, 3) := by decide +kernel
theorem dX12_row_201 : decode cX12_row 201 = .ok (.aload_n 0, 1) := by decide +kernel
theorem dX12_row_202 : decode cX12_row 202 = .ok (.iload_n 1, 1) := by decide +kernel
theorem dX12_row_203 : decode cX12_row 203 = .ok (.aload_n 0, 1) := by decide +kernel
theorem dX12_row_204 : decode cX12_row 204 = .ok (.getfield 34, 3) := by decide +kernel
theorem dX12_row_207 : decode cX12_row 207 = .ok (.iload 4, 2) := by decide +kernel
theorem dX12_row_209 : decode cX12_row 209 = .ok (.baload, 1) := by decide +kernel
theorem dX12_row_210 : decode cX12_row 210 = .ok (.aload_n 0, 1) := by decide +kernel
theorem dX12_row_211 : decode cX12_row 211 = .ok (.getfield 34, 3) := by decide +kernel
theorem dX12_row_214 : decode cX12_row 214 = .ok (.iload 4, 2) := by decide +kernel
theorem dX12_row_216 : decode cX12_row 216 = .ok (.iconst 1, 1) := by decide +kernel
theorem dX12_row_217 : decode cX12_row 217 = .ok (.iadd, 1) := by decide +kernel
theorem dX12_row_218 : decode cX12_row 218 = .ok (.baload, 1) := by decide +kernel
theorem dX12_row_219 : decode cX12_row 219 = .ok (.iload 5, 2) := by decide +kernel
theorem dX12_row_221 : decode cX12_row 221 = .ok (.iconst 0, 1) := by decide +kernel
theorem dX12_row_222 : decode cX12_row 222 = .ok (.invokevirtual 156, 3) := by decide +kernel
theorem dX12_row_225 : decode cX12_row 225 = .ok (.iload_n 3, 1) := by decide +kernel
theorem dX12_row_226 : decode cX12_row 226 = .ok (.iload 6, 2) := by decide +kernel
theorem dX12_row_228 : decode cX12_row 228 = .ok (.ifCond .eq 7, 3) := by decide +kernel
theorem dX12_row_231 : decode cX12_row 231 = .ok (.iconst 1, 1) := by decide +kernel
theorem dX12_row_232 : decode cX12_row 232 = .ok (.goto 4, 3) := by decide +kernel
theorem dX12_row_235 : decode cX12_row 235 = .ok (.iconst 0, 1) := by decide +kernel
theorem dX12_row_236 : decode cX12_row 236 = .ok (.iadd, 1) := by decide +kernel
theorem dX12_row_237 : decode cX12_row 237 = .ok (.istore_n 3, 1) := by decide +kernel
theorem dX12_row_238 : decode cX12_row 238 = .ok (.aload_n 0, 1) := by decide +kernel
theorem dX12_row_239 : decode cX12_row 239 = .ok (.dup, 1) := by decide +kernel
theorem dX12_row_240 : decode cX12_row 240 = .ok (.getfield 166, 3) := by decide +kernel
theorem dX12_row_243 : decode cX12_row 243 = .ok (.iload 6, 2) := by decide +kernel
theorem dX12_row_245 : decode cX12_row 245 = .ok (.ifCond .eq 7, 3) := by decide +kernel
theorem dX12_row_248 : decode cX12_row 248 = .ok (.iconst 0, 1) := by decide +kernel
theorem dX12_row_249 : decode cX12_row 249 = .ok (.goto 4, 3) := by decide +kernel
theorem dX12_row_252 : decode cX12_row 252 = .ok (.iconst 1, 1) := by decide +kernel
theorem dX12_row_253 : decode cX12_row 253 = .ok (.iadd, 1) := by decide +kernel
theorem dX12_row_254 : decode cX12_row 254 = .ok (.putfield 166, 3) := by decide +kernel
theorem dX12_row_257 : decode cX12_row 257 = .ok (.iinc 4 3, 3) := by decide +kernel
theorem dX12_row_260 : decode cX12_row 260 = .ok (.goto (-204), 3) := by decide +kernel
theorem dX12_row_263 : decode cX12_row 263 = .ok (.aload_n 0, 1) := by decide +kernel
theorem dX12_row_264 : decode cX12_row 264 = .ok (.iload_n 3, 1) := by decide +kernel
theorem dX12_row_265 : decode cX12_row 265 = .ok (.invokevirtual 121, 3) := by decide +kernel
theorem dX12_row_268 : decode cX12_row 268 = .ok (.ireturn, 1) := by decide +kernel
theorem dX12_trimmed_0 : decode cX12_trimmed 0 = .ok (.aload_n 0, 1) := by decide +kernel
theorem dX12_trimmed_1 : decode cX12_trimmed 1 = .ok (.getfield 166, 3) := by decide +kernel
theorem dX12_trimmed_4 : decode cX12_trimmed 4 = .ok (.ireturn, 1) := by decide +kernel
theorem dX12_feed_0 : decode cX12_feed 0 = .ok (.aload_n 0, 1) := by decide +kernel
theorem dX12_feed_1 : decode cX12_feed 1 = .ok (.getfield 163, 3) := by decide +kernel
theorem dX12_feed_4 : decode cX12_feed 4 = .ok (.bipush 20, 2) := by decide +kernel
theorem dX12_feed_6 : decode cX12_feed 6 = .ok (.iadd, 1) := by decide +kernel
theorem dX12_feed_7 : decode cX12_feed 7 = .ok (.sipush 400, 3) := by decide +kernel
theorem dX12_feed_10 : decode cX12_feed 10 = .ok (.if_icmp .le 5, 3) := by decide +kernel
theorem dX12_feed_13 : decode cX12_feed 13 = .ok (.iconst (-1), 1) := by decide +kernel
theorem dX12_feed_14 : decode cX12_feed 14 = .ok (.ireturn, 1) := by decide +kernel
theorem dX12_feed_15 : decode cX12_feed 15 = .ok (.aload_n 0, 1) := by decide +kernel
theorem dX12_feed_16 : decode cX12_feed 16 = .ok (.getfield 37, 3) := by decide +kernel
theorem dX12_feed_19 : decode cX12_feed 19 = .ok (.iconst 0, 1) := by decide +kernel
theorem dX12_feed_20 : decode cX12_feed 20 = .ok (.iload_n 1, 1) := by decide +kernel
theorem dX12_feed_21 : decode cX12_feed 21 = .ok (.iastore, 1) := by decide +kernel
theorem dX12_feed_22 : decode cX12_feed 22 = .ok (.aload_n 0, 1) := by decide +kernel
theorem dX12_feed_23 : decode cX12_feed 23 = .ok (.getfield 37, 3) := by decide +kernel
theorem dX12_feed_26 : decode cX12_feed 26 = .ok (.iconst 1, 1) := by decide +kernel
theorem dX12_feed_27 : decode cX12_feed 27 = .ok (.iload_n 2, 1) := by decide +kernel
theorem dX12_feed_28 : decode cX12_feed 28 = .ok (.iastore, 1) := by decide +kernel
theorem dX12_feed_29 : decode cX12_feed 29 = .ok (.aload_n 0, 1) := by decide +kernel
theorem dX12_feed_30 : decode cX12_feed 30 = .ok (.getfield 37, 3) := by decide +kernel
theorem dX12_feed_33 : decode cX12_feed 33 = .ok (.iconst 2, 1) := by decide +kernel
theorem dX12_feed_34 : decode cX12_feed 34 = .ok (.iload_n 3, 1) := by decide +kernel
theorem dX12_feed_35 : decode cX12_feed 35 = .ok (.iastore, 1) := by decide +kernel
theorem dX12_feed_36 : decode cX12_feed 36 = .ok (.aload_n 0, 1) := by decide +kernel
theorem dX12_feed_37 : decode cX12_feed 37 = .ok (.getfield 37, 3) := by decide +kernel
theorem dX12_feed_40 : decode cX12_feed 40 = .ok (.iconst 3, 1) := by decide +kernel
theorem dX12_feed_41 : decode cX12_feed 41 = .ok (.iload 4, 2) := by decide +kernel
theorem dX12_feed_43 : decode cX12_feed 43 = .ok (.iastore, 1) := by decide +kernel
theorem dX12_feed_44 : decode cX12_feed 44 = .ok (.aload_n 0, 1) := by decide +kernel
theorem dX12_feed_45 : decode cX12_feed 45 = .ok (.getfield 37, 3) := by decide +kernel
theorem dX12_feed_48 : decode cX12_feed 48 = .ok (.iconst 4, 1) := by decide +kernel
theorem dX12_feed_49 : decode cX12_feed 49 = .ok (.iload 5, 2) := by decide +kernel
theorem dX12_feed_51 : decode cX12_feed 51 = .ok (.iastore, 1) := by decide +kernel
theorem dX12_feed_52 : decode cX12_feed 52 = .ok (.iconst 0, 1) := by decide +kernel
theorem dX12_feed_53 : decode cX12_feed 53 = .ok (.istore 6, 2) := by decide +kernel
theorem dX12_feed_55 : decode cX12_feed 55 = .ok (.iload 6, 2) := by decide +kernel
theorem dX12_feed_57 : decode cX12_feed 57 = .ok (.bipush 20, 2) := by decide +kernel
theorem dX12_feed_59 : decode cX12_feed 59 = .ok (.if_icmp .ge 42, 3) := by decide +kernel
theorem dX12_feed_62 : decode cX12_feed 62 = .ok (.aload_n 0, 1) := by decide +kernel
theorem dX12_feed_63 : decode cX12_feed 63 = .ok (.getfield 34, 3) := by decide +kernel
theorem dX12_feed_66 : decode cX12_feed 66 = .ok (.aload_n 0, 1) := by decide +kernel
theorem dX12_feed_67 : decode cX12_feed 67 = .ok (.getfield 163, 3) := by decide +kernel
theorem dX12_feed_70 : decode cX12_feed 70 = .ok (.iload 6, 2) := by decide +kernel
theorem dX12_feed_72 : decode cX12_feed 72 = .ok (.iadd, 1) := by decide +kernel
theorem dX12_feed_73 : decode cX12_feed 73 = .ok (.aload_n 0, 1) := by decide +kernel
theorem dX12_feed_74 : decode cX12_feed 74 = .ok (.getfield 37, 3) := by decide +kernel
theorem dX12_feed_77 : decode cX12_feed 77 = .ok (.iload 6, 2) := by decide +kernel
theorem dX12_feed_79 : decode cX12_feed 79 = .ok (.iconst 4, 1) := by decide +kernel
theorem dX12_feed_80 : decode cX12_feed 80 = .ok (.idiv, 1) := by decide +kernel
theorem dX12_feed_81 : decode cX12_feed 81 = .ok (.iaload, 1) := by decide +kernel
theorem dX12_feed_82 : decode cX12_feed 82 = .ok (.bipush 24, 2) := by decide +kernel
theorem dX12_feed_84 : decode cX12_feed 84 = .ok (.bipush 8, 2) := by decide +kernel
theorem dX12_feed_86 : decode cX12_feed 86 = .ok (.iload 6, 2) := by decide +kernel
theorem dX12_feed_88 : decode cX12_feed 88 = .ok (.iconst 4, 1) := by decide +kernel
theorem dX12_feed_89 : decode cX12_feed 89 = .ok (.irem, 1) := by decide +kernel
theorem dX12_feed_90 : decode cX12_feed 90 = .ok (.imul, 1) := by decide +kernel
theorem dX12_feed_91 : decode cX12_feed 91 = .ok (.isub, 1) := by decide +kernel
theorem dX12_feed_92 : decode cX12_feed 92 = .ok (.ishr, 1) := by decide +kernel
theorem dX12_feed_93 : decode cX12_feed 93 = .ok (.i2b, 1) := by decide +kernel
theorem dX12_feed_94 : decode cX12_feed 94 = .ok (.bastore, 1) := by decide +kernel
theorem dX12_feed_95 : decode cX12_feed 95 = .ok (.iinc 6 1, 3) := by decide +kernel
theorem dX12_feed_98 : decode cX12_feed 98 = .ok (.goto (-43), 3) := by decide +kernel
theorem dX12_feed_101 : decode cX12_feed 101 = .ok (.aload_n 0, 1) := by decide +kernel
theorem dX12_feed_102 : decode cX12_feed 102 = .ok (.dup, 1) := by decide +kernel
theorem dX12_feed_103 : decode cX12_feed 103 = .ok (.getfield 163, 3) := by decide +kernel
theorem dX12_feed_106 : decode cX12_feed 106 = .ok (.bipush 20, 2) := by decide +kernel
theorem dX12_feed_108 : decode cX12_feed 108 = .ok (.iadd, 1) := by decide +kernel
theorem dX12_feed_109 : decode cX12_feed 109 = .ok (.putfield 163, 3) := by decide +kernel
theorem dX12_feed_112 : decode cX12_feed 112 = .ok (.aload_n 0, 1) := by decide +kernel
theorem dX12_feed_113 : decode cX12_feed 113 = .ok (.getfield 163, 3) := by decide +kernel
theorem dX12_feed_116 : decode cX12_feed 116 = .ok (.ireturn, 1) := by decide +kernel
theorem dX12_end_0 : decode cX12_end 0 = .ok (.iload_n 1, 1) := by decide +kernel
theorem dX12_end_1 : decode cX12_end 1 = .ok (.iconst 0, 1) := by decide +kernel
theorem dX12_end_2 : decode cX12_end 2 = .ok (.aload_n 0, 1) := by decide +kernel
theorem dX12_end_3 : decode cX12_end 3 = .ok (.getfield 163, 3) := by decide +kernel
theorem dX12_end_6 : decode cX12_end 6 = .ok (.invokestatic 113, 3) := by decide +kernel
theorem dX12_end_9 : decode cX12_end 9 = .ok (.ifCond .ne 5, 3) := by decide +kernel
theorem dX12_end_12 : decode cX12_end 12 = .ok (.iconst (-1), 1) := by decide +kernel
theorem dX12_end_13 : decode cX12_end 13 = .ok (.ireturn, 1) := by decide +kernel
theorem dX12_end_14 : decode cX12_end 14 = .ok (.aload_n 0, 1) := by decide +kernel
theorem dX12_end_15 : decode cX12_end 15 = .ok (.iload_n 1, 1) := by decide +kernel
theorem dX12_end_16 : decode cX12_end 16 = .ok (.putfield 163, 3) := by decide +kernel
theorem dX12_end_19 : decode cX12_end 19 = .ok (.iload_n 1, 1) := by decide +kernel
theorem dX12_end_20 : decode cX12_end 20 = .ok (.ireturn, 1) := by decide +kernel
theorem dX12_isSmall_0 : decode cX12_isSmall 0 = .ok (.iload_n 0, 1) := by decide +kernel
theorem dX12_isSmall_1 : decode cX12_isSmall 1 = .ok (.bipush 97, 2) := by decide +kernel
theorem dX12_isSmall_3 : decode cX12_isSmall 3 = .ok (.if_icmp .lt 13, 3) := by decide +kernel
theorem dX12_isSmall_6 : decode cX12_isSmall 6 = .ok (.iload_n 0, 1) := by decide +kernel
theorem dX12_isSmall_7 : decode cX12_isSmall 7 = .ok (.bipush 122, 2) := by decide +kernel
theorem dX12_isSmall_9 : decode cX12_isSmall 9 = .ok (.if_icmp .gt 7, 3) := by decide +kernel
theorem dX12_isSmall_12 : decode cX12_isSmall 12 = .ok (.iconst 1, 1) := by decide +kernel
theorem dX12_isSmall_13 : decode cX12_isSmall 13 = .ok (.goto 4, 3) := by decide +kernel
theorem dX12_isSmall_16 : decode cX12_isSmall 16 = .ok (.iconst 0, 1) := by decide +kernel
theorem dX12_isSmall_17 : decode cX12_isSmall 17 = .ok (.ireturn, 1) := by decide +kernel
theorem dX12_isDigit_0 : decode cX12_isDigit 0 = .ok (.iload_n 0, 1) := by decide +kernel
theorem dX12_isDigit_1 : decode cX12_isDigit 1 = .ok (.bipush 48, 2) := by decide +kernel
theorem dX12_isDigit_3 : decode cX12_isDigit 3 = .ok (.if_icmp .lt 13, 3) := by decide +kernel
theorem dX12_isDigit_6 : decode cX12_isDigit 6 = .ok (.iload_n 0, 1) := by decide +kernel
theorem dX12_isDigit_7 : decode cX12_isDigit 7 = .ok (.bipush 57, 2) := by decide +kernel
theorem dX12_isDigit_9 : decode cX12_isDigit 9 = .ok (.if_icmp .gt 7, 3) := by decide +kernel
theorem dX12_isDigit_12 : decode cX12_isDigit 12 = .ok (.iconst 1, 1) := by decide +kernel
theorem dX12_isDigit_13 : decode cX12_isDigit 13 = .ok (.goto 4, 3) := by decide +kernel
theorem dX12_isDigit_16 : decode cX12_isDigit 16 = .ok (.iconst 0, 1) := by decide +kernel
theorem dX12_isDigit_17 : decode cX12_isDigit 17 = .ok (.ireturn, 1) := by decide +kernel
theorem dX12_wordOf_0 : decode cX12_wordOf 0 = .ok (.iconst 1, 1) := by decide +kernel
theorem dX12_wordOf_1 : decode cX12_wordOf 1 = .ok (.istore_n 3, 1) := by decide +kernel
theorem dX12_wordOf_2 : decode cX12_wordOf 2 = .ok (.iconst 0, 1) := by decide +kernel
theorem dX12_wordOf_3 : decode cX12_wordOf 3 = .ok (.istore 4, 2) := by decide +kernel
theorem dX12_wordOf_5 : decode cX12_wordOf 5 = .ok (.iload 4, 2) := by decide +kernel
theorem dX12_wordOf_7 : decode cX12_wordOf 7 = .ok (.aload_n 0, 1) := by decide +kernel
theorem dX12_wordOf_8 : decode cX12_wordOf 8 = .ok (.getfield 30, 3) := by decide +kernel
theorem dX12_wordOf_11 : decode cX12_wordOf 11 = .ok (.arraylength, 1) := by decide +kernel
theorem dX12_wordOf_12 : decode cX12_wordOf 12 = .ok (.if_icmp .ge 114, 3) := by decide +kernel
theorem dX12_wordOf_15 : decode cX12_wordOf 15 = .ok (.iconst 0, 1) := by decide +kernel
theorem dX12_wordOf_16 : decode cX12_wordOf 16 = .ok (.istore 5, 2) := by decide +kernel
theorem dX12_wordOf_18 : decode cX12_wordOf 18 = .ok (.aload_n 0, 1) := by decide +kernel
theorem dX12_wordOf_19 : decode cX12_wordOf 19 = .ok (.getfield 30, 3) := by decide +kernel
theorem dX12_wordOf_22 : decode cX12_wordOf 22 = .ok (.iload 4, 2) := by decide +kernel
theorem dX12_wordOf_24 : decode cX12_wordOf 24 = .ok (.iload 5, 2) := by decide +kernel
theorem dX12_wordOf_26 : decode cX12_wordOf 26 = .ok (.iadd, 1) := by decide +kernel
theorem dX12_wordOf_27 : decode cX12_wordOf 27 = .ok (.baload, 1) := by decide +kernel
theorem dX12_wordOf_28 : decode cX12_wordOf 28 = .ok (.bipush 32, 2) := by decide +kernel
theorem dX12_wordOf_30 : decode cX12_wordOf 30 = .ok (.if_icmp .eq 9, 3) := by decide +kernel
theorem dX12_wordOf_33 : decode cX12_wordOf 33 = .ok (.iinc 5 1, 3) := by decide +kernel
theorem dX12_wordOf_36 : decode cX12_wordOf 36 = .ok (.goto (-18), 3) := by decide +kernel
theorem dX12_wordOf_39 : decode cX12_wordOf 39 = .ok (.iload 5, 2) := by decide +kernel
theorem dX12_wordOf_41 : decode cX12_wordOf 41 = .ok (.iload_n 2, 1) := by decide +kernel
theorem dX12_wordOf_42 : decode cX12_wordOf 42 = .ok (.iload_n 1, 1) := by decide +kernel
theorem dX12_wordOf_43 : decode cX12_wordOf 43 = .ok (.isub, 1) := by decide +kernel
theorem dX12_wordOf_44 : decode cX12_wordOf 44 = .ok (.if_icmp .ne 7, 3) := by decide +kernel
theorem dX12_wordOf_47 : decode cX12_wordOf 47 = .ok (.iconst 1, 1) := by decide +kernel
theorem dX12_wordOf_48 : decode cX12_wordOf 48 = .ok (.goto 4, 3) := by decide +kernel
theorem dX12_wordOf_51 : decode cX12_wordOf 51 = .ok (.iconst 0, 1) := by decide +kernel
theorem dX12_wordOf_52 : decode cX12_wordOf 52 = .ok (.istore 6, 2) := by decide +kernel
theorem dX12_wordOf_54 : decode cX12_wordOf 54 = .ok (.iconst 0, 1) := by decide +kernel
theorem dX12_wordOf_55 : decode cX12_wordOf 55 = .ok (.istore 7, 2) := by decide +kernel
theorem dX12_wordOf_57 : decode cX12_wordOf 57 = .ok (.iload 7, 2) := by decide +kernel
theorem dX12_wordOf_59 : decode cX12_wordOf 59 = .ok (.iload 5, 2) := by decide +kernel
theorem dX12_wordOf_61 : decode cX12_wordOf 61 = .ok (.if_icmp .ge 43, 3) := by decide +kernel
theorem dX12_wordOf_64 : decode cX12_wordOf 64 = .ok (.iload 6, 2) := by decide +kernel
theorem dX12_wordOf_66 : decode cX12_wordOf 66 = .ok (.ifCond .eq 38, 3) := by decide +kernel
theorem dX12_wordOf_69 : decode cX12_wordOf 69 = .ok (.aload_n 0, 1) := by decide +kernel
theorem dX12_wordOf_70 : decode cX12_wordOf 70 = .ok (.getfield 30, 3) := by decide +kernel
theorem dX12_wordOf_73 : decode cX12_wordOf 73 = .ok (.iload 4, 2) := by decide +kernel
theorem dX12_wordOf_75 : decode cX12_wordOf 75 = .ok (.iload 7, 2) := by decide +kernel
theorem dX12_wordOf_77 : decode cX12_wordOf 77 = .ok (.iadd, 1) := by decide +kernel
theorem dX12_wordOf_78 : decode cX12_wordOf 78 = .ok (.baload, 1) := by decide +kernel
theorem dX12_wordOf_79 : decode cX12_wordOf 79 = .ok (.aload_n 0, 1) := by decide +kernel
theorem dX12_wordOf_80 : decode cX12_wordOf 80 = .ok (.getfield 34, 3) := by decide +kernel
theorem dX12_wordOf_83 : decode cX12_wordOf 83 = .ok (.iload_n 1, 1) := by decide +kernel
theorem dX12_wordOf_84 : decode cX12_wordOf 84 = .ok (.iload 7, 2) := by decide +kernel
theorem dX12_wordOf_86 : decode cX12_wordOf 86 = .ok (.iadd, 1) := by decide +kernel
theorem dX12_wordOf_87 : decode cX12_wordOf 87 = .ok (.baload, 1) := by decide +kernel
theorem dX12_wordOf_88 : decode cX12_wordOf 88 = .ok (.if_icmp .ne 7, 3) := by decide +kernel
theorem dX12_wordOf_91 : decode cX12_wordOf 91 = .ok (.iconst 1, 1) := by decide +kernel
theorem dX12_wordOf_92 : decode cX12_wordOf 92 = .ok (.goto 4, 3) := by decide +kernel
theorem dX12_wordOf_95 : decode cX12_wordOf 95 = .ok (.iconst 0, 1) := by decide +kernel
theorem dX12_wordOf_96 : decode cX12_wordOf 96 = .ok (.istore 6, 2) := by decide +kernel
theorem dX12_wordOf_98 : decode cX12_wordOf 98 = .ok (.iinc 7 1, 3) := by decide +kernel
theorem dX12_wordOf_101 : decode cX12_wordOf 101 = .ok (.goto (-44), 3) := by decide +kernel
theorem dX12_wordOf_104 : decode cX12_wordOf 104 = .ok (.iload 6, 2) := by decide +kernel
theorem dX12_wordOf_106 : decode cX12_wordOf 106 = .ok (.ifCond .eq 5, 3) := by decide +kernel
theorem dX12_wordOf_109 : decode cX12_wordOf 109 = .ok (.iload_n 3, 1) := by decide +kernel
theorem dX12_wordOf_110 : decode cX12_wordOf 110 = .ok (.ireturn, 1) := by decide +kernel
theorem dX12_wordOf_111 : decode cX12_wordOf 111 = .ok (.iload 4, 2) := by decide +kernel
theorem dX12_wordOf_113 : decode cX12_wordOf 113 = .ok (.iload 5, 2) := by decide +kernel
theorem dX12_wordOf_115 : decode cX12_wordOf 115 = .ok (.iconst 1, 1) := by decide +kernel
theorem dX12_wordOf_116 : decode cX12_wordOf 116 = .ok (.iadd, 1) := by decide +kernel
theorem dX12_wordOf_117 : decode cX12_wordOf 117 = .ok (.iadd, 1) := by decide +kernel
theorem dX12_wordOf_118 : decode cX12_wordOf 118 = .ok (.istore 4, 2) := by decide +kernel
theorem dX12_wordOf_120 : decode cX12_wordOf 120 = .ok (.iinc 3 1, 3) := by decide +kernel
theorem dX12_wordOf_123 : decode cX12_wordOf 123 = .ok (.goto (-118), 3) := by decide +kernel
theorem dX12_wordOf_126 : decode cX12_wordOf 126 = .ok (.iconst 0, 1) := by decide +kernel
theorem dX12_wordOf_127 : decode cX12_wordOf 127 = .ok (.ireturn, 1) := by decide +kernel
theorem dX12_splits_0 : decode cX12_splits 0 = .ok (.aload_n 0, 1) := by decide +kernel
theorem dX12_splits_1 : decode cX12_splits 1 = .ok (.iconst 0, 1) := by decide +kernel
theorem dX12_splits_2 : decode cX12_splits 2 = .ok (.putfield 169, 3) := by decide +kernel
theorem dX12_splits_5 : decode cX12_splits 5 = .ok (.iconst 0, 1) := by decide +kernel
theorem dX12_splits_6 : decode cX12_splits 6 = .ok (.istore_n 2, 1) := by decide +kernel
theorem dX12_splits_7 : decode cX12_splits 7 = .ok (.iload_n 2, 1) := by decide +kernel
theorem dX12_splits_8 : decode cX12_splits 8 = .ok (.iload_n 1, 1) := by decide +kernel
theorem dX12_splits_9 : decode cX12_splits 9 = .ok (.if_icmp .ge 254, 3) := by decide +kernel
theorem dX12_splits_12 : decode cX12_splits 12 = .ok (.aload_n 0, 1) := by decide +kernel
theorem dX12_splits_13 : decode cX12_splits 13 = .ok (.getfield 34, 3) := by decide +kernel
theorem dX12_splits_16 : decode cX12_splits 16 = .ok (.iload_n 2, 1) := by decide +kernel
theorem dX12_splits_17 : decode cX12_splits 17 = .ok (.baload, 1) := by decide +kernel
theorem dX12_splits_18 : decode cX12_splits 18 = .ok (.istore_n 3, 1) := by decide +kernel
theorem dX12_splits_19 : decode cX12_splits 19 = .ok (.iload_n 3, 1) := by decide +kernel
theorem dX12_splits_20 : decode cX12_splits 20 = .ok (.bipush 32, 2) := by decide +kernel
theorem dX12_splits_22 : decode cX12_splits 22 = .ok (.if_icmp .ne 9, 3) := by decide +kernel
theorem dX12_splits_25 : decode cX12_splits 25 = .ok (.iinc 2 1, 3) := by decide +kernel
theorem dX12_splits_28 : decode cX12_splits 28 = .ok (.goto (-21), 3) := by decide +kernel
theorem dX12_splits_31 : decode cX12_splits 31 = .ok (.iload_n 2, 1) := by decide +kernel
theorem dX12_splits_32 : decode cX12_splits 32 = .ok (.iconst 1, 1) := by decide +kernel
theorem dX12_splits_33 : decode cX12_splits 33 = .ok (.iadd, 1) := by decide +kernel
theorem dX12_splits_34 : decode cX12_splits 34 = .ok (.istore 4, 2) := by decide +kernel
theorem dX12_splits_36 : decode cX12_splits 36 = .ok (.iload_n 3, 1) := by decide +kernel
theorem dX12_splits_37 : decode cX12_splits 37 = .ok (.invokestatic 172, 3) := by decide +kernel
theorem dX12_splits_40 : decode cX12_splits 40 = .ok (.ifCond .eq 28, 3) := by decide +kernel
theorem dX12_splits_43 : decode cX12_splits 43 = .ok (.iload 4, 2) := by decide +kernel
theorem dX12_splits_45 : decode cX12_splits 45 = .ok (.iload_n 1, 1) := by decide +kernel
theorem dX12_splits_46 : decode cX12_splits 46 = .ok (.if_icmp .ge 22, 3) := by decide +kernel
theorem dX12_splits_49 : decode cX12_splits 49 = .ok (.aload_n 0, 1) := by decide +kernel
theorem dX12_splits_50 : decode cX12_splits 50 = .ok (.getfield 34, 3) := by decide +kernel
theorem dX12_splits_53 : decode cX12_splits 53 = .ok (.iload 4, 2) := by decide +kernel
theorem dX12_splits_55 : decode cX12_splits 55 = .ok (.baload, 1) := by decide +kernel
theorem dX12_splits_56 : decode cX12_splits 56 = .ok (.invokestatic 172, 3) := by decide +kernel
theorem dX12_splits_59 : decode cX12_splits 59 = .ok (.ifCond .eq 9, 3) := by decide +kernel
theorem dX12_splits_62 : decode cX12_splits 62 = .ok (.iinc 4 1, 3) := by decide +kernel
theorem dX12_splits_65 : decode cX12_splits 65 = .ok (.goto (-22), 3) := by decide +kernel
theorem dX12_splits_68 : decode cX12_splits 68 = .ok (.iload_n 3, 1) := by decide +kernel
theorem dX12_splits_69 : decode cX12_splits 69 = .ok (.invokestatic 175, 3) := by decide +kernel
theorem dX12_splits_72 : decode cX12_splits 72 = .ok (.ifCond .eq 28, 3) := by decide +kernel
theorem dX12_splits_75 : decode cX12_splits 75 = .ok (.iload 4, 2) := by decide +kernel
theorem dX12_splits_77 : decode cX12_splits 77 = .ok (.iload_n 1, 1) := by decide +kernel
theorem dX12_splits_78 : decode cX12_splits 78 = .ok (.if_icmp .ge 22, 3) := by decide +kernel
theorem dX12_splits_81 : decode cX12_splits 81 = .ok (.aload_n 0, 1) := by decide +kernel
theorem dX12_splits_82 : decode cX12_splits 82 = .ok (.getfield 34, 3) := by decide +kernel
theorem dX12_splits_85 : decode cX12_splits 85 = .ok (.iload 4, 2) := by decide +kernel
theorem dX12_splits_87 : decode cX12_splits 87 = .ok (.baload, 1) := by decide +kernel
theorem dX12_splits_88 : decode cX12_splits 88 = .ok (.invokestatic 175, 3) := by decide +kernel
theorem dX12_splits_91 : decode cX12_splits 91 = .ok (.ifCond .eq 9, 3) := by decide +kernel
theorem dX12_splits_94 : decode cX12_splits 94 = .ok (.iinc 4 1, 3) := by decide +kernel
theorem dX12_splits_97 : decode cX12_splits 97 = .ok (.goto (-22), 3) := by decide +kernel
theorem dX12_splits_100 : decode cX12_splits 100 = .ok (.aload_n 0, 1) := by decide +kernel
theorem dX12_splits_101 : decode cX12_splits 101 = .ok (.getfield 49, 3) := by decide +kernel
theorem dX12_splits_104 : decode cX12_splits 104 = .ok (.aload_n 0, 1) := by decide +kernel
theorem dX12_splits_105 : decode cX12_splits 105 = .ok (.getfield 169, 3) := by decide +kernel
theorem dX12_splits_108 : decode cX12_splits 108 = .ok (.iload_n 2, 1) := by decide +kernel
theorem dX12_splits_109 : decode cX12_splits 109 = .ok (.iastore, 1) := by decide +kernel
theorem dX12_splits_110 : decode cX12_splits 110 = .ok (.aload_n 0, 1) := by decide +kernel
theorem dX12_splits_111 : decode cX12_splits 111 = .ok (.getfield 46, 3) := by decide +kernel
theorem dX12_splits_114 : decode cX12_splits 114 = .ok (.aload_n 0, 1) := by decide +kernel
theorem dX12_splits_115 : decode cX12_splits 115 = .ok (.getfield 169, 3) := by decide +kernel
theorem dX12_splits_118 : decode cX12_splits 118 = .ok (.iconst 0, 1) := by decide +kernel
theorem dX12_splits_119 : decode cX12_splits 119 = .ok (.iastore, 1) := by decide +kernel
theorem dX12_splits_120 : decode cX12_splits 120 = .ok (.aload_n 0, 1) := by decide +kernel
theorem dX12_splits_121 : decode cX12_splits 121 = .ok (.getfield 43, 3) := by decide +kernel
theorem dX12_splits_124 : decode cX12_splits 124 = .ok (.aload_n 0, 1) := by decide +kernel
theorem dX12_splits_125 : decode cX12_splits 125 = .ok (.getfield 169, 3) := by decide +kernel
theorem dX12_splits_128 : decode cX12_splits 128 = .ok (.iload_n 3, 1) := by decide +kernel
theorem dX12_splits_129 : decode cX12_splits 129 = .ok (.invokestatic 172, 3) := by decide +kernel
theorem dX12_splits_132 : decode cX12_splits 132 = .ok (.ifCond .eq 13, 3) := by decide +kernel
theorem dX12_splits_135 : decode cX12_splits 135 = .ok (.aload_n 0, 1) := by decide +kernel
theorem dX12_splits_136 : decode cX12_splits 136 = .ok (.iload_n 2, 1) := by decide +kernel
theorem dX12_splits_137 : decode cX12_splits 137 = .ok (.iload 4, 2) := by decide +kernel
theorem dX12_splits_139 : decode cX12_splits 139 = .ok (.invokevirtual 178, 3) := by decide +kernel
theorem dX12_splits_142 : decode cX12_splits 142 = .ok (.goto 23, 3) := by decide +kernel
theorem dX12_splits_145 : decode cX12_splits 145 = .ok (.iload_n 3, 1) := by decide +kernel
theorem dX12_splits_146 : decode cX12_splits 146 = .ok (.invokestatic 175, 3) := by decide +kernel
theorem dX12_splits_149 : decode cX12_splits 149 = .ok (.ifCond .eq 8, 3) := by decide +kernel
theorem dX12_splits_152 : decode cX12_splits 152 = .ok (.bipush 50, 2) := by decide +kernel
theorem dX12_splits_154 : decode cX12_splits 154 = .ok (.goto 11, 3) := by decide +kernel
theorem dX12_splits_157 : decode cX12_splits 157 = .ok (.bipush 100, 2) := by decide +kernel
theorem dX12_splits_159 : decode cX12_splits 159 = .ok (.iload_n 3, 1) := by decide +kernel
theorem dX12_splits_160 : decode cX12_splits 160 = .ok (.sipush 255, 3) := by decide +kernel
theorem dX12_splits_163 : decode cX12_splits 163 = .ok (.iand, 1) := by decide +kernel
theorem dX12_splits_164 : decode cX12_splits 164 = .ok (.iadd, 1) := by decide +kernel
theorem dX12_splits_165 : decode cX12_splits 165 = .ok (.iastore, 1) := by decide +kernel
theorem dX12_splits_166 : decode cX12_splits 166 = .ok (.iload_n 2, 1) := by decide +kernel
theorem dX12_splits_167 : decode cX12_splits 167 = .ok (.istore 5, 2) := by decide +kernel
theorem dX12_splits_169 : decode cX12_splits 169 = .ok (.iload 5, 2) := by decide +kernel
theorem dX12_splits_171 : decode cX12_splits 171 = .ok (.iload 4, 2) := by decide +kernel
theorem dX12_splits_173 : decode cX12_splits 173 = .ok (.if_icmp .ge 74, 3) := by decide +kernel
theorem dX12_splits_176 : decode cX12_splits 176 = .ok (.iload_n 3, 1) := by decide +kernel
theorem dX12_splits_177 : decode cX12_splits 177 = .ok (.invokestatic 175, 3) := by decide +kernel
theorem dX12_splits_180 : decode cX12_splits 180 = .ok (.ifCond .eq 67, 3) := by decide +kernel
theorem dX12_splits_183 : decode cX12_splits 183 = .ok (.aload_n 0, 1) := by decide +kernel
theorem dX12_splits_184 : decode cX12_splits 184 = .ok (.getfield 46, 3) := by decide +kernel
theorem dX12_splits_187 : decode cX12_splits 187 = .ok (.aload_n 0, 1) := by decide +kernel
theorem dX12_splits_188 : decode cX12_splits 188 = .ok (.getfield 169, 3) := by decide +kernel
theorem dX12_splits_191 : decode cX12_splits 191 = .ok (.aload_n 0, 1) := by decide +kernel
theorem dX12_splits_192 : decode cX12_splits 192 = .ok (.getfield 46, 3) := by decide +kernel
theorem dX12_splits_195 : decode cX12_splits 195 = .ok (.aload_n 0, 1) := by decide +kernel
theorem dX12_splits_196 : decode cX12_splits 196 = .ok (.getfield 169, 3) := by decide +kernel
theorem dX12_splits_199 : decode cX12_splits 199 = .ok (.iaload, 1) := by decide +kernel
theorem dX12_splits_200 : decode cX12_splits 200 = .ok (.ldc 181, 2) := by decide +kernel
theorem dX12_splits_202 : decode cX12_splits 202 = .ok (.if_icmp .le 15, 3) := by decide +kernel
theorem dX12_splits_205 : decode cX12_splits 205 = .ok (.aload_n 0, 1) := by decide +kernel
theorem dX12_splits_206 : decode cX12_splits 206 = .ok (.getfield 46, 3) := by decide +kernel
theorem dX12_splits_209 : decode cX12_splits 209 = .ok (.aload_n 0, 1) := by decide +kernel
theorem dX12_splits_210 : decode cX12_splits 210 = .ok (.getfield 169, 3) := by decide +kernel
theorem dX12_splits_213 : decode cX12_splits 213 = .ok (.iaload, 1) := by decide +kernel
theorem dX12_splits_214 : decode cX12_splits 214 = .ok (.goto 26, 3) := by decide +kernel
theorem dX12_splits_217 : decode cX12_splits 217 = .ok (.bipush 10, 2) := by decide +kernel
theorem dX12_splits_219 : decode cX12_splits 219 = .ok (.aload_n 0, 1) := by decide +kernel
theorem dX12_splits_220 : decode cX12_splits 220 = .ok (.getfield 46, 3) := by decide +kernel
theorem dX12_splits_223 : decode cX12_splits 223 = .ok (.aload_n 0, 1) := by decide +kernel
theorem dX12_splits_224 : decode cX12_splits 224 = .ok (.getfield 169, 3) := by decide +kernel
theorem dX12_splits_227 : decode cX12_splits 227 = .ok (.iaload, 1) := by decide +kernel
theorem dX12_splits_228 : decode cX12_splits 228 = .ok (.imul, 1) := by decide +kernel
theorem dX12_splits_229 : decode cX12_splits 229 = .ok (.aload_n 0, 1) := by decide +kernel
theorem dX12_splits_230 : decode cX12_splits 230 = .ok (.getfield 34, 3) := by decide +kernel
theorem dX12_splits_233 : decode cX12_splits 233 = .ok (.iload 5, 2) := by decide +kernel
theorem dX12_splits_235 : decode cX12_splits 235 = .ok (.baload, 1) := by decide +kernel
theorem dX12_splits_236 : decode cX12_splits 236 = .ok (.iadd, 1) := by decide +kernel
theorem dX12_splits_237 : decode cX12_splits 237 = .ok (.bipush 48, 2) := by decide +kernel
theorem dX12_splits_239 : decode cX12_splits 239 = .ok (.isub, 1) := by decide +kernel
theorem dX12_splits_240 : decode cX12_splits 240 = .ok (.iastore, 1) := by decide +kernel
theorem dX12_splits_241 : decode cX12_splits 241 = .ok (.iinc 5 1, 3) := by decide +kernel
theorem dX12_splits_244 : decode cX12_splits 244 = .ok (.goto (-75), 3) := by decide +kernel
theorem dX12_splits_247 : decode cX12_splits 247 = .ok (.aload_n 0, 1) := by decide +kernel
theorem dX12_splits_248 : decode cX12_splits 248 = .ok (.dup, 1) := by decide +kernel
theorem dX12_splits_249 : decode cX12_splits 249 = .ok (.getfield 169, 3) := by decide +kernel
theorem dX12_splits_252 : decode cX12_splits 252 = .ok (.iconst 1, 1) := by decide +kernel
theorem dX12_splits_253 : decode cX12_splits 253 = .ok (.iadd, 1) := by decide +kernel
theorem dX12_splits_254 : decode cX12_splits 254 = .ok (.putfield 169, 3) := by decide +kernel
theorem dX12_splits_257 : decode cX12_splits 257 = .ok (.iload 4, 2) := by decide +kernel
theorem dX12_splits_259 : decode cX12_splits 259 = .ok (.istore_n 2, 1) := by decide +kernel
theorem dX12_splits_260 : decode cX12_splits 260 = .ok (.goto (-253), 3) := by decide +kernel
theorem dX12_splits_263 : decode cX12_splits 263 = .ok (.aload_n 0, 1) := by decide +kernel
theorem dX12_splits_264 : decode cX12_splits 264 = .ok (.getfield 49, 3) := by decide +kernel
theorem dX12_splits_267 : decode cX12_splits 267 = .ok (.aload_n 0, 1) := by decide +kernel
theorem dX12_splits_268 : decode cX12_splits 268 = .ok (.getfield 169, 3) := by decide +kernel
theorem dX12_splits_271 : decode cX12_splits 271 = .ok (.iload_n 1, 1) := by decide +kernel
theorem dX12_splits_272 : decode cX12_splits 272 = .ok (.iastore, 1) := by decide +kernel
theorem dX12_splits_273 : decode cX12_splits 273 = .ok (.aload_n 0, 1) := by decide +kernel
theorem dX12_splits_274 : decode cX12_splits 274 = .ok (.getfield 43, 3) := by decide +kernel
theorem dX12_splits_277 : decode cX12_splits 277 = .ok (.aload_n 0, 1) := by decide +kernel
theorem dX12_splits_278 : decode cX12_splits 278 = .ok (.getfield 169, 3) := by decide +kernel
theorem dX12_splits_281 : decode cX12_splits 281 = .ok (.iconst 0, 1) := by decide +kernel
theorem dX12_splits_282 : decode cX12_splits 282 = .ok (.iastore, 1) := by decide +kernel
theorem dX12_splits_283 : decode cX12_splits 283 = .ok (.aload_n 0, 1) := by decide +kernel
theorem dX12_splits_284 : decode cX12_splits 284 = .ok (.getfield 46, 3) := by decide +kernel
theorem dX12_splits_287 : decode cX12_splits 287 = .ok (.aload_n 0, 1) := by decide +kernel
theorem dX12_splits_288 : decode cX12_splits 288 = .ok (.getfield 169, 3) := by decide +kernel
theorem dX12_splits_291 : decode cX12_splits 291 = .ok (.iconst 0, 1) := by decide +kernel
theorem dX12_splits_292 : decode cX12_splits 292 = .ok (.iastore, 1) := by decide +kernel
theorem dX12_splits_293 : decode cX12_splits 293 = .ok (.return_, 1) := by decide +kernel
theorem dX12_fine_0 : decode cX12_fine 0 = .ok (.aload_n 0, 1) := by decide +kernel
theorem dX12_fine_1 : decode cX12_fine 1 = .ok (.getfield 182, 3) := by decide +kernel
theorem dX12_fine_4 : decode cX12_fine 4 = .ok (.iconst (-1), 1) := by decide +kernel
theorem dX12_fine_5 : decode cX12_fine 5 = .ok (.if_icmp .ne 7, 3) := by decide +kernel
theorem dX12_fine_8 : decode cX12_fine 8 = .ok (.iconst 1, 1) := by decide +kernel
theorem dX12_fine_9 : decode cX12_fine 9 = .ok (.goto 4, 3) := by decide +kernel
theorem dX12_fine_12 : decode cX12_fine 12 = .ok (.iconst 0, 1) := by decide +kernel
theorem dX12_fine_13 : decode cX12_fine 13 = .ok (.ireturn, 1) := by decide +kernel
theorem dX12_faults_0 : decode cX12_faults 0 = .ok (.aload_n 0, 1) := by decide +kernel
theorem dX12_faults_1 : decode cX12_faults 1 = .ok (.invokevirtual 185, 3) := by decide +kernel
theorem dX12_faults_4 : decode cX12_faults 4 = .ok (.ifCond .eq 16, 3) := by decide +kernel
theorem dX12_faults_7 : decode cX12_faults 7 = .ok (.aload_n 0, 1) := by decide +kernel
theorem dX12_faults_8 : decode cX12_faults 8 = .ok (.aload_n 0, 1) := by decide +kernel
theorem dX12_faults_9 : decode cX12_faults 9 = .ok (.getfield 49, 3) := by decide +kernel
theorem dX12_faults_12 : decode cX12_faults 12 = .ok (.aload_n 0, 1) := by decide +kernel
theorem dX12_faults_13 : decode cX12_faults 13 = .ok (.getfield 189, 3) := by decide +kernel
theorem dX12_faults_16 : decode cX12_faults 16 = .ok (.iaload, 1) := by decide +kernel
theorem dX12_faults_17 : decode cX12_faults 17 = .ok (.putfield 182, 3) := by decide +kernel
theorem dX12_faults_20 : decode cX12_faults 20 = .ok (.return_, 1) := by decide +kernel
theorem dX12_takes_0 : decode cX12_takes 0 = .ok (.aload_n 0, 1) := by decide +kernel
theorem dX12_takes_1 : decode cX12_takes 1 = .ok (.invokevirtual 185, 3) := by decide +kernel
theorem dX12_takes_4 : decode cX12_takes 4 = .ok (.ifCond .eq 20, 3) := by decide +kernel
theorem dX12_takes_7 : decode cX12_takes 7 = .ok (.aload_n 0, 1) := by decide +kernel
theorem dX12_takes_8 : decode cX12_takes 8 = .ok (.getfield 43, 3) := by decide +kernel
theorem dX12_takes_11 : decode cX12_takes 11 = .ok (.aload_n 0, 1) := by decide +kernel
theorem dX12_takes_12 : decode cX12_takes 12 = .ok (.getfield 189, 3) := by decide +kernel
theorem dX12_takes_15 : decode cX12_takes 15 = .ok (.iaload, 1) := by decide +kernel
theorem dX12_takes_16 : decode cX12_takes 16 = .ok (.iload_n 1, 1) := by decide +kernel
theorem dX12_takes_17 : decode cX12_takes 17 = .ok (.if_icmp .ne 7, 3) := by decide +kernel
theorem dX12_takes_20 : decode cX12_takes 20 = .ok (.iconst 1, 1) := by decide +kernel
theorem dX12_takes_21 : decode cX12_takes 21 = .ok (.goto 4, 3) := by decide +kernel
theorem dX12_takes_24 : decode cX12_takes 24 = .ok (.iconst 0, 1) := by decide +kernel
theorem dX12_takes_25 : decode cX12_takes 25 = .ok (.istore_n 2, 1) := by decide +kernel
theorem dX12_takes_26 : decode cX12_takes 26 = .ok (.iload_n 2, 1) := by decide +kernel
theorem dX12_takes_27 : decode cX12_takes 27 = .ok (.ifCond .eq 13, 3) := by decide +kernel
theorem dX12_takes_30 : decode cX12_takes 30 = .ok (.aload_n 0, 1) := by decide +kernel
theorem dX12_takes_31 : decode cX12_takes 31 = .ok (.dup, 1) := by decide +kernel
theorem dX12_takes_32 : decode cX12_takes 32 = .ok (.getfield 189, 3) := by decide +kernel
theorem dX12_takes_35 : decode cX12_takes 35 = .ok (.iconst 1, 1) := by decide +kernel
theorem dX12_takes_36 : decode cX12_takes 36 = .ok (.iadd, 1) := by decide +kernel
theorem dX12_takes_37 : decode cX12_takes 37 = .ok (.putfield 189, 3) := by decide +kernel
theorem dX12_takes_40 : decode cX12_takes 40 = .ok (.iload_n 2, 1) := by decide +kernel
theorem dX12_takes_41 : decode cX12_takes 41 = .ok (.ireturn, 1) := by decide +kernel
theorem dX12_must_0 : decode cX12_must 0 = .ok (.aload_n 0, 1) := by decide +kernel
theorem dX12_must_1 : decode cX12_must 1 = .ok (.iload_n 1, 1) := by decide +kernel
theorem dX12_must_2 : decode cX12_must 2 = .ok (.invokevirtual 192, 3) := by decide +kernel
theorem dX12_must_5 : decode cX12_must 5 = .ok (.ifCond .ne 7, 3) := by decide +kernel
theorem dX12_must_8 : decode cX12_must 8 = .ok (.aload_n 0, 1) := by decide +kernel
theorem dX12_must_9 : decode cX12_must 9 = .ok (.invokevirtual 195, 3) := by decide +kernel
theorem dX12_must_12 : decode cX12_must 12 = .ok (.return_, 1) := by decide +kernel
theorem dX12_leaf_0 : decode cX12_leaf 0 = .ok (.aload_n 0, 1) := by decide +kernel
theorem dX12_leaf_1 : decode cX12_leaf 1 = .ok (.getfield 198, 3) := by decide +kernel
theorem dX12_leaf_4 : decode cX12_leaf 4 = .ok (.bipush 50, 2) := by decide +kernel
theorem dX12_leaf_6 : decode cX12_leaf 6 = .ok (.if_icmp .ne 7, 3) := by decide +kernel
theorem dX12_leaf_9 : decode cX12_leaf 9 = .ok (.aload_n 0, 1) := by decide +kernel
theorem dX12_leaf_10 : decode cX12_leaf 10 = .ok (.invokevirtual 195, 3) := by decide +kernel
theorem dX12_leaf_13 : decode cX12_leaf 13 = .ok (.aload_n 0, 1) := by decide +kernel
theorem dX12_leaf_14 : decode cX12_leaf 14 = .ok (.dup, 1) := by decide +kernel
theorem dX12_leaf_15 : decode cX12_leaf 15 = .ok (.getfield 198, 3) := by decide +kernel
theorem dX12_leaf_18 : decode cX12_leaf 18 = .ok (.iconst 1, 1) := by decide +kernel
theorem dX12_leaf_19 : decode cX12_leaf 19 = .ok (.iadd, 1) := by decide +kernel
theorem dX12_leaf_20 : decode cX12_leaf 20 = .ok (.putfield 198, 3) := by decide +kernel
theorem dX12_leaf_23 : decode cX12_leaf 23 = .ok (.aload_n 0, 1) := by decide +kernel
theorem dX12_leaf_24 : decode cX12_leaf 24 = .ok (.invokevirtual 185, 3) := by decide +kernel
theorem dX12_leaf_27 : decode cX12_leaf 27 = .ok (.ifCond .eq 13, 3) := by decide +kernel
theorem dX12_leaf_30 : decode cX12_leaf 30 = .ok (.aload_n 0, 1) := by decide +kernel
theorem dX12_leaf_31 : decode cX12_leaf 31 = .ok (.dup, 1) := by decide +kernel
theorem dX12_leaf_32 : decode cX12_leaf 32 = .ok (.getfield 189, 3) := by decide +kernel
theorem dX12_leaf_35 : decode cX12_leaf 35 = .ok (.iconst 1, 1) := by decide +kernel
theorem dX12_leaf_36 : decode cX12_leaf 36 = .ok (.iadd, 1) := by decide +kernel
theorem dX12_leaf_37 : decode cX12_leaf 37 = .ok (.putfield 189, 3) := by decide +kernel
theorem dX12_leaf_40 : decode cX12_leaf 40 = .ok (.return_, 1) := by decide +kernel
theorem dX12_sign_0 : decode cX12_sign 0 = .ok (.bipush 100, 2) := by decide +kernel
theorem dX12_sign_2 : decode cX12_sign 2 = .ok (.iload_n 0, 1) := by decide +kernel
theorem dX12_sign_3 : decode cX12_sign 3 = .ok (.iadd, 1) := by decide +kernel
theorem dX12_sign_4 : decode cX12_sign 4 = .ok (.ireturn, 1) := by decide +kernel
theorem dX12_readClause_0 : decode cX12_readClause 0 = .ok (.aload_n 0, 1) := by decide +kernel
theorem dX12_readClause_1 : decode cX12_readClause 1 = .ok (.iconst 1, 1) := by decide +kernel
theorem dX12_readClause_2 : decode cX12_readClause 2 = .ok (.invokevirtual 192, 3) := by decide +kernel
theorem dX12_readClause_5 : decode cX12_readClause 5 = .ok (.ifCond .ne 35, 3) := by decide +kernel
theorem dX12_readClause_8 : decode cX12_readClause 8 = .ok (.aload_n 0, 1) := by decide +kernel
theorem dX12_readClause_9 : decode cX12_readClause 9 = .ok (.iconst 2, 1) := by decide +kernel
theorem dX12_readClause_10 : decode cX12_readClause 10 = .ok (.invokevirtual 192, 3) := by decide +kernel
theorem dX12_readClause_13 : decode cX12_readClause 13 = .ok (.ifCond .ne 27, 3) := by decide +kernel
theorem dX12_readClause_16 : decode cX12_readClause 16 = .ok (.aload_n 0, 1) := by decide +kernel
theorem dX12_readClause_17 : decode cX12_readClause 17 = .ok (.iconst 3, 1) := by decide +kernel
theorem dX12_readClause_18 : decode cX12_readClause 18 = .ok (.invokevirtual 192, 3) := by decide +kernel
theorem dX12_readClause_21 : decode cX12_readClause 21 = .ok (.ifCond .ne 19, 3) := by decide +kernel
theorem dX12_readClause_24 : decode cX12_readClause 24 = .ok (.aload_n 0, 1) := by decide +kernel
theorem dX12_readClause_25 : decode cX12_readClause 25 = .ok (.iconst 4, 1) := by decide +kernel
theorem dX12_readClause_26 : decode cX12_readClause 26 = .ok (.invokevirtual 192, 3) := by decide +kernel
theorem dX12_readClause_29 : decode cX12_readClause 29 = .ok (.ifCond .ne 11, 3) := by decide +kernel
theorem dX12_readClause_32 : decode cX12_readClause 32 = .ok (.aload_n 0, 1) := by decide +kernel
theorem dX12_readClause_33 : decode cX12_readClause 33 = .ok (.iconst 5, 1) := by decide +kernel
theorem dX12_readClause_34 : decode cX12_readClause 34 = .ok (.invokevirtual 192, 3) := by decide +kernel
theorem dX12_readClause_37 : decode cX12_readClause 37 = .ok (.ifCond .eq 11, 3) := by decide +kernel
theorem dX12_readClause_40 : decode cX12_readClause 40 = .ok (.aload_n 0, 1) := by decide +kernel
theorem dX12_readClause_41 : decode cX12_readClause 41 = .ok (.iconst 0, 1) := by decide +kernel
theorem dX12_readClause_42 : decode cX12_readClause 42 = .ok (.invokevirtual 201, 3) := by decide +kernel
theorem dX12_readClause_45 : decode cX12_readClause 45 = .ok (.goto 18, 3) := by decide +kernel
theorem dX12_readClause_48 : decode cX12_readClause 48 = .ok (.aload_n 0, 1) := by decide +kernel
theorem dX12_readClause_49 : decode cX12_readClause 49 = .ok (.bipush 6, 2) := by decide +kernel
theorem dX12_readClause_51 : decode cX12_readClause 51 = .ok (.invokevirtual 192, 3) := by decide +kernel
theorem dX12_readClause_54 : decode cX12_readClause 54 = .ok (.ifCond .ne 9, 3) := by decide +kernel
theorem dX12_readClause_57 : decode cX12_readClause 57 = .ok (.aload_n 0, 1) := by decide +kernel
theorem dX12_readClause_58 : decode cX12_readClause 58 = .ok (.bipush 7, 2) := by decide +kernel
theorem dX12_readClause_60 : decode cX12_readClause 60 = .ok (.invokevirtual 205, 3) := by decide +kernel
theorem dX12_readClause_63 : decode cX12_readClause 63 = .ok (.aload_n 0, 1) := by decide +kernel
theorem dX12_readClause_64 : decode cX12_readClause 64 = .ok (.bipush 8, 2) := by decide +kernel
theorem dX12_readClause_66 : decode cX12_readClause 66 = .ok (.invokevirtual 192, 3) := by decide +kernel
theorem dX12_readClause_69 : decode cX12_readClause 69 = .ok (.ifCond .eq 8, 3) := by decide +kernel
theorem dX12_readClause_72 : decode cX12_readClause 72 = .ok (.aload_n 0, 1) := by decide +kernel
theorem dX12_readClause_73 : decode cX12_readClause 73 = .ok (.iconst 0, 1) := by decide +kernel
theorem dX12_readClause_74 : decode cX12_readClause 74 = .ok (.invokevirtual 208, 3) := by decide +kernel
theorem dX12_readClause_77 : decode cX12_readClause 77 = .ok (.return_, 1) := by decide +kernel
theorem dX12_readTest_0 : decode cX12_readTest 0 = .ok (.aload_n 0, 1) := by decide +kernel
theorem dX12_readTest_1 : decode cX12_readTest 1 = .ok (.iload_n 1, 1) := by decide +kernel
theorem dX12_readTest_2 : decode cX12_readTest 2 = .ok (.invokevirtual 211, 3) := by decide +kernel
theorem dX12_readTest_5 : decode cX12_readTest 5 = .ok (.aload_n 0, 1) := by decide +kernel
theorem dX12_readTest_6 : decode cX12_readTest 6 = .ok (.bipush 9, 2) := by decide +kernel
theorem dX12_readTest_8 : decode cX12_readTest 8 = .ok (.invokevirtual 192, 3) := by decide +kernel
theorem dX12_readTest_11 : decode cX12_readTest 11 = .ok (.ifCond .eq 11, 3) := by decide +kernel
theorem dX12_readTest_14 : decode cX12_readTest 14 = .ok (.aload_n 0, 1) := by decide +kernel
theorem dX12_readTest_15 : decode cX12_readTest 15 = .ok (.iload_n 1, 1) := by decide +kernel
theorem dX12_readTest_16 : decode cX12_readTest 16 = .ok (.invokevirtual 211, 3) := by decide +kernel
theorem dX12_readTest_19 : decode cX12_readTest 19 = .ok (.goto (-14), 3) := by decide +kernel
theorem dX12_readTest_22 : decode cX12_readTest 22 = .ok (.return_, 1) := by decide +kernel
theorem dX12_readBoth_0 : decode cX12_readBoth 0 = .ok (.aload_n 0, 1) := by decide +kernel
theorem dX12_readBoth_1 : decode cX12_readBoth 1 = .ok (.iload_n 1, 1) := by decide +kernel
theorem dX12_readBoth_2 : decode cX12_readBoth 2 = .ok (.invokevirtual 214, 3) := by decide +kernel
theorem dX12_readBoth_5 : decode cX12_readBoth 5 = .ok (.aload_n 0, 1) := by decide +kernel
theorem dX12_readBoth_6 : decode cX12_readBoth 6 = .ok (.bipush 10, 2) := by decide +kernel
theorem dX12_readBoth_8 : decode cX12_readBoth 8 = .ok (.invokevirtual 192, 3) := by decide +kernel
theorem dX12_readBoth_11 : decode cX12_readBoth 11 = .ok (.ifCond .eq 11, 3) := by decide +kernel
theorem dX12_readBoth_14 : decode cX12_readBoth 14 = .ok (.aload_n 0, 1) := by decide +kernel
theorem dX12_readBoth_15 : decode cX12_readBoth 15 = .ok (.iload_n 1, 1) := by decide +kernel
theorem dX12_readBoth_16 : decode cX12_readBoth 16 = .ok (.invokevirtual 214, 3) := by decide +kernel
theorem dX12_readBoth_19 : decode cX12_readBoth 19 = .ok (.goto (-14), 3) := by decide +kernel
theorem dX12_readBoth_22 : decode cX12_readBoth 22 = .ok (.return_, 1) := by decide +kernel
theorem dX12_readPlain_0 : decode cX12_readPlain 0 = .ok (.iconst 1, 1) := by decide +kernel
theorem dX12_readPlain_1 : decode cX12_readPlain 1 = .ok (.istore_n 2, 1) := by decide +kernel
theorem dX12_readPlain_2 : decode cX12_readPlain 2 = .ok (.iload_n 2, 1) := by decide +kernel
theorem dX12_readPlain_3 : decode cX12_readPlain 3 = .ok (.ifCond .eq 13, 3) := by decide +kernel
theorem dX12_readPlain_6 : decode cX12_readPlain 6 = .ok (.aload_n 0, 1) := by decide +kernel
theorem dX12_readPlain_7 : decode cX12_readPlain 7 = .ok (.bipush 11, 2) := by decide +kernel
theorem dX12_readPlain_9 : decode cX12_readPlain 9 = .ok (.invokevirtual 192, 3) := by decide +kernel
theorem dX12_readPlain_12 : decode cX12_readPlain 12 = .ok (.istore_n 2, 1) := by decide +kernel
theorem dX12_readPlain_13 : decode cX12_readPlain 13 = .ok (.goto (-11), 3) := by decide +kernel
theorem dX12_readPlain_16 : decode cX12_readPlain 16 = .ok (.aload_n 0, 1) := by decide +kernel
theorem dX12_readPlain_17 : decode cX12_readPlain 17 = .ok (.invokevirtual 185, 3) := by decide +kernel
theorem dX12_readPlain_20 : decode cX12_readPlain 20 = .ok (.ifCond .ne 4, 3) := by decide +kernel
theorem dX12_readPlain_23 : decode cX12_readPlain 23 = .ok (.return_, 1) := by decide +kernel
theorem dX12_readPlain_24 : decode cX12_readPlain 24 = .ok (.aload_n 0, 1) := by decide +kernel
theorem dX12_readPlain_25 : decode cX12_readPlain 25 = .ok (.getfield 43, 3) := by decide +kernel
theorem dX12_readPlain_28 : decode cX12_readPlain 28 = .ok (.aload_n 0, 1) := by decide +kernel
theorem dX12_readPlain_29 : decode cX12_readPlain 29 = .ok (.getfield 189, 3) := by decide +kernel
theorem dX12_readPlain_32 : decode cX12_readPlain 32 = .ok (.iaload, 1) := by decide +kernel
theorem dX12_readPlain_33 : decode cX12_readPlain 33 = .ok (.istore_n 3, 1) := by decide +kernel
theorem dX12_readPlain_34 : decode cX12_readPlain 34 = .ok (.iload_n 3, 1) := by decide +kernel
theorem dX12_readPlain_35 : decode cX12_readPlain 35 = .ok (.bipush 40, 2) := by decide +kernel
theorem dX12_readPlain_37 : decode cX12_readPlain 37 = .ok (.invokestatic 217, 3) := by decide +kernel
theorem dX12_readPlain_40 : decode cX12_readPlain 40 = .ok (.if_icmp .ne 50, 3) := by decide +kernel
theorem dX12_readPlain_43 : decode cX12_readPlain 43 = .ok (.iload_n 1, 1) := by decide +kernel
theorem dX12_readPlain_44 : decode cX12_readPlain 44 = .ok (.bipush 8, 2) := by decide +kernel
theorem dX12_readPlain_46 : decode cX12_readPlain 46 = .ok (.if_icmp .ne 7, 3) := by decide +kernel
theorem dX12_readPlain_49 : decode cX12_readPlain 49 = .ok (.aload_n 0, 1) := by decide +kernel
theorem dX12_readPlain_50 : decode cX12_readPlain 50 = .ok (.invokevirtual 195, 3) := by decide +kernel
theorem dX12_readPlain_53 : decode cX12_readPlain 53 = .ok (.aload_n 0, 1) := by decide +kernel
theorem dX12_readPlain_54 : decode cX12_readPlain 54 = .ok (.invokevirtual 185, 3) := by decide +kernel
theorem dX12_readPlain_57 : decode cX12_readPlain 57 = .ok (.ifCond .ne 4, 3) := by decide +kernel
theorem dX12_readPlain_60 : decode cX12_readPlain 60 = .ok (.return_, 1) := by decide +kernel
theorem dX12_readPlain_61 : decode cX12_readPlain 61 = .ok (.aload_n 0, 1) := by decide +kernel
theorem dX12_readPlain_62 : decode cX12_readPlain 62 = .ok (.dup, 1) := by decide +kernel
theorem dX12_readPlain_63 : decode cX12_readPlain 63 = .ok (.getfield 189, 3) := by decide +kernel
theorem dX12_readPlain_66 : decode cX12_readPlain 66 = .ok (.iconst 1, 1) := by decide +kernel
theorem dX12_readPlain_67 : decode cX12_readPlain 67 = .ok (.iadd, 1) := by decide +kernel
theorem dX12_readPlain_68 : decode cX12_readPlain 68 = .ok (.putfield 189, 3) := by decide +kernel
theorem dX12_readPlain_71 : decode cX12_readPlain 71 = .ok (.aload_n 0, 1) := by decide +kernel
theorem dX12_readPlain_72 : decode cX12_readPlain 72 = .ok (.iload_n 1, 1) := by decide +kernel
theorem dX12_readPlain_73 : decode cX12_readPlain 73 = .ok (.iconst 1, 1) := by decide +kernel
theorem dX12_readPlain_74 : decode cX12_readPlain 74 = .ok (.iadd, 1) := by decide +kernel
theorem dX12_readPlain_75 : decode cX12_readPlain 75 = .ok (.invokevirtual 208, 3) := by decide +kernel
theorem dX12_readPlain_78 : decode cX12_readPlain 78 = .ok (.aload_n 0, 1) := by decide +kernel
theorem dX12_readPlain_79 : decode cX12_readPlain 79 = .ok (.bipush 41, 2) := by decide +kernel
theorem dX12_readPlain_81 : decode cX12_readPlain 81 = .ok (.invokestatic 217, 3) := by decide +kernel
theorem dX12_readPlain_84 : decode cX12_readPlain 84 = .ok (.invokevirtual 205, 3) := by decide +kernel
theorem dX12_readPlain_87 : decode cX12_readPlain 87 = .ok (.goto 46, 3) := by decide +kernel
theorem dX12_readPlain_90 : decode cX12_readPlain 90 = .ok (.aload_n 0, 1) := by decide +kernel
theorem dX12_readPlain_91 : decode cX12_readPlain 91 = .ok (.iload_n 1, 1) := by decide +kernel
theorem dX12_readPlain_92 : decode cX12_readPlain 92 = .ok (.invokevirtual 201, 3) := by decide +kernel
theorem dX12_readPlain_95 : decode cX12_readPlain 95 = .ok (.aload_n 0, 1) := by decide +kernel
theorem dX12_readPlain_96 : decode cX12_readPlain 96 = .ok (.bipush 60, 2) := by decide +kernel
theorem dX12_readPlain_98 : decode cX12_readPlain 98 = .ok (.invokestatic 217, 3) := by decide +kernel
theorem dX12_readPlain_101 : decode cX12_readPlain 101 = .ok (.invokevirtual 192, 3) := by decide +kernel
theorem dX12_readPlain_104 : decode cX12_readPlain 104 = .ok (.ifCond .ne 24, 3) := by decide +kernel
theorem dX12_readPlain_107 : decode cX12_readPlain 107 = .ok (.aload_n 0, 1) := by decide +kernel
theorem dX12_readPlain_108 : decode cX12_readPlain 108 = .ok (.bipush 62, 2) := by decide +kernel
theorem dX12_readPlain_110 : decode cX12_readPlain 110 = .ok (.invokestatic 217, 3) := by decide +kernel
theorem dX12_readPlain_113 : decode cX12_readPlain 113 = .ok (.invokevirtual 192, 3) := by decide +kernel
theorem dX12_readPlain_116 : decode cX12_readPlain 116 = .ok (.ifCond .ne 12, 3) := by decide +kernel
theorem dX12_readPlain_119 : decode cX12_readPlain 119 = .ok (.aload_n 0, 1) := by decide +kernel
theorem dX12_readPlain_120 : decode cX12_readPlain 120 = .ok (.bipush 61, 2) := by decide +kernel
theorem dX12_readPlain_122 : decode cX12_readPlain 122 = .ok (.invokestatic 217, 3) := by decide +kernel
theorem dX12_readPlain_125 : decode cX12_readPlain 125 = .ok (.invokevirtual 205, 3) := by decide +kernel
theorem dX12_readPlain_128 : decode cX12_readPlain 128 = .ok (.aload_n 0, 1) := by decide +kernel
theorem dX12_readPlain_129 : decode cX12_readPlain 129 = .ok (.iload_n 1, 1) := by decide +kernel
theorem dX12_readPlain_130 : decode cX12_readPlain 130 = .ok (.invokevirtual 201, 3) := by decide +kernel
theorem dX12_readPlain_133 : decode cX12_readPlain 133 = .ok (.return_, 1) := by decide +kernel
theorem dX12_readSum_0 : decode cX12_readSum 0 = .ok (.aload_n 0, 1) := by decide +kernel
theorem dX12_readSum_1 : decode cX12_readSum 1 = .ok (.iload_n 1, 1) := by decide +kernel
theorem dX12_readSum_2 : decode cX12_readSum 2 = .ok (.invokevirtual 221, 3) := by decide +kernel
theorem dX12_readSum_5 : decode cX12_readSum 5 = .ok (.aload_n 0, 1) := by decide +kernel
theorem dX12_readSum_6 : decode cX12_readSum 6 = .ok (.bipush 43, 2) := by decide +kernel
theorem dX12_readSum_8 : decode cX12_readSum 8 = .ok (.invokestatic 217, 3) := by decide +kernel
theorem dX12_readSum_11 : decode cX12_readSum 11 = .ok (.invokevirtual 192, 3) := by decide +kernel
theorem dX12_readSum_14 : decode cX12_readSum 14 = .ok (.ifCond .ne 15, 3) := by decide +kernel
theorem dX12_readSum_17 : decode cX12_readSum 17 = .ok (.aload_n 0, 1) := by decide +kernel
theorem dX12_readSum_18 : decode cX12_readSum 18 = .ok (.bipush 45, 2) := by decide +kernel
theorem dX12_readSum_20 : decode cX12_readSum 20 = .ok (.invokestatic 217, 3) := by decide +kernel
theorem dX12_readSum_23 : decode cX12_readSum 23 = .ok (.invokevirtual 192, 3) := by decide +kernel
theorem dX12_readSum_26 : decode cX12_readSum 26 = .ok (.ifCond .eq 11, 3) := by decide +kernel
theorem dX12_readSum_29 : decode cX12_readSum 29 = .ok (.aload_n 0, 1) := by decide +kernel
theorem dX12_readSum_30 : decode cX12_readSum 30 = .ok (.iload_n 1, 1) := by decide +kernel
theorem dX12_readSum_31 : decode cX12_readSum 31 = .ok (.invokevirtual 221, 3) := by decide +kernel
theorem dX12_readSum_34 : decode cX12_readSum 34 = .ok (.goto (-29), 3) := by decide +kernel
theorem dX12_readSum_37 : decode cX12_readSum 37 = .ok (.return_, 1) := by decide +kernel
theorem dX12_readTerm_0 : decode cX12_readTerm 0 = .ok (.aload_n 0, 1) := by decide +kernel
theorem dX12_readTerm_1 : decode cX12_readTerm 1 = .ok (.iload_n 1, 1) := by decide +kernel
theorem dX12_readTerm_2 : decode cX12_readTerm 2 = .ok (.invokevirtual 224, 3) := by decide +kernel
theorem dX12_readTerm_5 : decode cX12_readTerm 5 = .ok (.aload_n 0, 1) := by decide +kernel
theorem dX12_readTerm_6 : decode cX12_readTerm 6 = .ok (.bipush 42, 2) := by decide +kernel
theorem dX12_readTerm_8 : decode cX12_readTerm 8 = .ok (.invokestatic 217, 3) := by decide +kernel
theorem dX12_readTerm_11 : decode cX12_readTerm 11 = .ok (.invokevirtual 192, 3) := by decide +kernel
theorem dX12_readTerm_14 : decode cX12_readTerm 14 = .ok (.ifCond .ne 15, 3) := by decide +kernel
theorem dX12_readTerm_17 : decode cX12_readTerm 17 = .ok (.aload_n 0, 1) := by decide +kernel
theorem dX12_readTerm_18 : decode cX12_readTerm 18 = .ok (.bipush 47, 2) := by decide +kernel
theorem dX12_readTerm_20 : decode cX12_readTerm 20 = .ok (.invokestatic 217, 3) := by decide +kernel
theorem dX12_readTerm_23 : decode cX12_readTerm 23 = .ok (.invokevirtual 192, 3) := by decide +kernel
theorem dX12_readTerm_26 : decode cX12_readTerm 26 = .ok (.ifCond .eq 11, 3) := by decide +kernel
theorem dX12_readTerm_29 : decode cX12_readTerm 29 = .ok (.aload_n 0, 1) := by decide +kernel
theorem dX12_readTerm_30 : decode cX12_readTerm 30 = .ok (.iload_n 1, 1) := by decide +kernel
theorem dX12_readTerm_31 : decode cX12_readTerm 31 = .ok (.invokevirtual 224, 3) := by decide +kernel
theorem dX12_readTerm_34 : decode cX12_readTerm 34 = .ok (.goto (-29), 3) := by decide +kernel
theorem dX12_readTerm_37 : decode cX12_readTerm 37 = .ok (.return_, 1) := by decide +kernel
theorem dX12_readPart_0 : decode cX12_readPart 0 = .ok (.aload_n 0, 1) := by decide +kernel
theorem dX12_readPart_1 : decode cX12_readPart 1 = .ok (.invokevirtual 185, 3) := by decide +kernel
theorem dX12_readPart_4 : decode cX12_readPart 4 = .ok (.ifCond .ne 4, 3) := by decide +kernel
theorem dX12_readPart_7 : decode cX12_readPart 7 = .ok (.return_, 1) := by decide +kernel
theorem dX12_readPart_8 : decode cX12_readPart 8 = .ok (.aload_n 0, 1) := by decide +kernel
theorem dX12_readPart_9 : decode cX12_readPart 9 = .ok (.getfield 43, 3) := by decide +kernel
theorem dX12_readPart_12 : decode cX12_readPart 12 = .ok (.aload_n 0, 1) := by decide +kernel
theorem dX12_readPart_13 : decode cX12_readPart 13 = .ok (.getfield 189, 3) := by decide +kernel
theorem dX12_readPart_16 : decode cX12_readPart 16 = .ok (.iaload, 1) := by decide +kernel
theorem dX12_readPart_17 : decode cX12_readPart 17 = .ok (.istore_n 2, 1) := by decide +kernel
theorem dX12_readPart_18 : decode cX12_readPart 18 = .ok (.iload_n 2, 1) := by decide +kernel
theorem dX12_readPart_19 : decode cX12_readPart 19 = .ok (.bipush 91, 2) := by decide +kernel
theorem dX12_readPart_21 : decode cX12_readPart 21 = .ok (.invokestatic 217, 3) := by decide +kernel
theorem dX12_readPart_24 : decode cX12_readPart 24 = .ok (.if_icmp .ne 50, 3) := by decide +kernel
theorem dX12_readPart_27 : decode cX12_readPart 27 = .ok (.iload_n 1, 1) := by decide +kernel
theorem dX12_readPart_28 : decode cX12_readPart 28 = .ok (.bipush 8, 2) := by decide +kernel
theorem dX12_readPart_30 : decode cX12_readPart 30 = .ok (.if_icmp .ne 7, 3) := by decide +kernel
theorem dX12_readPart_33 : decode cX12_readPart 33 = .ok (.aload_n 0, 1) := by decide +kernel
theorem dX12_readPart_34 : decode cX12_readPart 34 = .ok (.invokevirtual 195, 3) := by decide +kernel
theorem dX12_readPart_37 : decode cX12_readPart 37 = .ok (.aload_n 0, 1) := by decide +kernel
theorem dX12_readPart_38 : decode cX12_readPart 38 = .ok (.invokevirtual 185, 3) := by decide +kernel
theorem dX12_readPart_41 : decode cX12_readPart 41 = .ok (.ifCond .ne 4, 3) := by decide +kernel
theorem dX12_readPart_44 : decode cX12_readPart 44 = .ok (.return_, 1) := by decide +kernel
theorem dX12_readPart_45 : decode cX12_readPart 45 = .ok (.aload_n 0, 1) := by decide +kernel
theorem dX12_readPart_46 : decode cX12_readPart 46 = .ok (.dup, 1) := by decide +kernel
theorem dX12_readPart_47 : decode cX12_readPart 47 = .ok (.getfield 189, 3) := by decide +kernel
theorem dX12_readPart_50 : decode cX12_readPart 50 = .ok (.iconst 1, 1) := by decide +kernel
theorem dX12_readPart_51 : decode cX12_readPart 51 = .ok (.iadd, 1) := by decide +kernel
theorem dX12_readPart_52 : decode cX12_readPart 52 = .ok (.putfield 189, 3) := by decide +kernel
theorem dX12_readPart_55 : decode cX12_readPart 55 = .ok (.aload_n 0, 1) := by decide +kernel
theorem dX12_readPart_56 : decode cX12_readPart 56 = .ok (.iload_n 1, 1) := by decide +kernel
theorem dX12_readPart_57 : decode cX12_readPart 57 = .ok (.iconst 1, 1) := by decide +kernel
theorem dX12_readPart_58 : decode cX12_readPart 58 = .ok (.iadd, 1) := by decide +kernel
theorem dX12_readPart_59 : decode cX12_readPart 59 = .ok (.invokevirtual 201, 3) := by decide +kernel
theorem dX12_readPart_62 : decode cX12_readPart 62 = .ok (.aload_n 0, 1) := by decide +kernel
theorem dX12_readPart_63 : decode cX12_readPart 63 = .ok (.bipush 93, 2) := by decide +kernel
theorem dX12_readPart_65 : decode cX12_readPart 65 = .ok (.invokestatic 217, 3) := by decide +kernel
theorem dX12_readPart_68 : decode cX12_readPart 68 = .ok (.invokevirtual 205, 3) := by decide +kernel
theorem dX12_readPart_71 : decode cX12_readPart 71 = .ok (.goto 47, 3) := by decide +kernel
theorem dX12_readPart_74 : decode cX12_readPart 74 = .ok (.iload_n 2, 1) := by decide +kernel
theorem dX12_readPart_75 : decode cX12_readPart 75 = .ok (.bipush 50, 2) := by decide +kernel
theorem dX12_readPart_77 : decode cX12_readPart 77 = .ok (.if_icmp .ne 18, 3) := by decide +kernel
theorem dX12_readPart_80 : decode cX12_readPart 80 = .ok (.aload_n 0, 1) := by decide +kernel
theorem dX12_readPart_81 : decode cX12_readPart 81 = .ok (.getfield 46, 3) := by decide +kernel
theorem dX12_readPart_84 : decode cX12_readPart 84 = .ok (.aload_n 0, 1) := by decide +kernel
theorem dX12_readPart_85 : decode cX12_readPart 85 = .ok (.getfield 189, 3) := by decide +kernel
theorem dX12_readPart_88 : decode cX12_readPart 88 = .ok (.iaload, 1) := by decide +kernel
theorem dX12_readPart_89 : decode cX12_readPart 89 = .ok (.sipush 1000, 3) := by decide +kernel
theorem dX12_readPart_92 : decode cX12_readPart 92 = .ok (.if_icmp .le 15, 3) := by decide +kernel
theorem dX12_readPart_95 : decode cX12_readPart 95 = .ok (.iload_n 2, 1) := by decide +kernel
theorem dX12_readPart_96 : decode cX12_readPart 96 = .ok (.bipush 12, 2) := by decide +kernel
theorem dX12_readPart_98 : decode cX12_readPart 98 = .ok (.if_icmp .lt 16, 3) := by decide +kernel
theorem dX12_readPart_101 : decode cX12_readPart 101 = .ok (.iload_n 2, 1) := by decide +kernel
theorem dX12_readPart_102 : decode cX12_readPart 102 = .ok (.bipush 20, 2) := by decide +kernel
theorem dX12_readPart_104 : decode cX12_readPart 104 = .ok (.if_icmp .gt 10, 3) := by decide +kernel
theorem dX12_readPart_107 : decode cX12_readPart 107 = .ok (.aload_n 0, 1) := by decide +kernel
theorem dX12_readPart_108 : decode cX12_readPart 108 = .ok (.invokevirtual 227, 3) := by decide +kernel
theorem dX12_readPart_111 : decode cX12_readPart 111 = .ok (.goto 7, 3) := by decide +kernel
theorem dX12_readPart_114 : decode cX12_readPart 114 = .ok (.aload_n 0, 1) := by decide +kernel
theorem dX12_readPart_115 : decode cX12_readPart 115 = .ok (.invokevirtual 195, 3) := by decide +kernel
theorem dX12_readPart_118 : decode cX12_readPart 118 = .ok (.return_, 1) := by decide +kernel
theorem dX12_reads_0 : decode cX12_reads 0 = .ok (.aload_n 0, 1) := by decide +kernel
theorem dX12_reads_1 : decode cX12_reads 1 = .ok (.aload_n 0, 1) := by decide +kernel
theorem dX12_reads_2 : decode cX12_reads 2 = .ok (.getfield 163, 3) := by decide +kernel
theorem dX12_reads_5 : decode cX12_reads 5 = .ok (.invokevirtual 230, 3) := by decide +kernel
theorem dX12_reads_8 : decode cX12_reads 8 = .ok (.aload_n 0, 1) := by decide +kernel
theorem dX12_reads_9 : decode cX12_reads 9 = .ok (.iconst 0, 1) := by decide +kernel
theorem dX12_reads_10 : decode cX12_reads 10 = .ok (.putfield 163, 3) := by decide +kernel
theorem dX12_reads_13 : decode cX12_reads 13 = .ok (.aload_n 0, 1) := by decide +kernel
theorem dX12_reads_14 : decode cX12_reads 14 = .ok (.iconst 0, 1) := by decide +kernel
theorem dX12_reads_15 : decode cX12_reads 15 = .ok (.putfield 189, 3) := by decide +kernel
theorem dX12_reads_18 : decode cX12_reads 18 = .ok (.aload_n 0, 1) := by decide +kernel
theorem dX12_reads_19 : decode cX12_reads 19 = .ok (.iconst 0, 1) := by decide +kernel
theorem dX12_reads_20 : decode cX12_reads 20 = .ok (.putfield 198, 3) := by decide +kernel
theorem dX12_reads_23 : decode cX12_reads 23 = .ok (.aload_n 0, 1) := by decide +kernel
theorem dX12_reads_24 : decode cX12_reads 24 = .ok (.iconst (-1), 1) := by decide +kernel
theorem dX12_reads_25 : decode cX12_reads 25 = .ok (.putfield 182, 3) := by decide +kernel
theorem dX12_reads_28 : decode cX12_reads 28 = .ok (.aload_n 0, 1) := by decide +kernel
theorem dX12_reads_29 : decode cX12_reads 29 = .ok (.invokevirtual 233, 3) := by decide +kernel
theorem dX12_reads_32 : decode cX12_reads 32 = .ok (.iconst 1, 1) := by decide +kernel
theorem dX12_reads_33 : decode cX12_reads 33 = .ok (.istore_n 1, 1) := by decide +kernel
theorem dX12_reads_34 : decode cX12_reads 34 = .ok (.aload_n 0, 1) := by decide +kernel
theorem dX12_reads_35 : decode cX12_reads 35 = .ok (.bipush 59, 2) := by decide +kernel
theorem dX12_reads_37 : decode cX12_reads 37 = .ok (.invokestatic 217, 3) := by decide +kernel
theorem dX12_reads_40 : decode cX12_reads 40 = .ok (.invokevirtual 192, 3) := by decide +kernel
theorem dX12_reads_43 : decode cX12_reads 43 = .ok (.ifCond .eq 30, 3) := by decide +kernel
theorem dX12_reads_46 : decode cX12_reads 46 = .ok (.iload_n 1, 1) := by decide +kernel
theorem dX12_reads_47 : decode cX12_reads 47 = .ok (.bipush 12, 2) := by decide +kernel
theorem dX12_reads_49 : decode cX12_reads 49 = .ok (.if_icmp .ne 7, 3) := by decide +kernel
theorem dX12_reads_52 : decode cX12_reads 52 = .ok (.aload_n 0, 1) := by decide +kernel
theorem dX12_reads_53 : decode cX12_reads 53 = .ok (.invokevirtual 195, 3) := by decide +kernel
theorem dX12_reads_56 : decode cX12_reads 56 = .ok (.aload_n 0, 1) := by decide +kernel
theorem dX12_reads_57 : decode cX12_reads 57 = .ok (.invokevirtual 185, 3) := by decide +kernel
theorem dX12_reads_60 : decode cX12_reads 60 = .ok (.ifCond .eq 7, 3) := by decide +kernel
theorem dX12_reads_63 : decode cX12_reads 63 = .ok (.aload_n 0, 1) := by decide +kernel
theorem dX12_reads_64 : decode cX12_reads 64 = .ok (.invokevirtual 233, 3) := by decide +kernel
theorem dX12_reads_67 : decode cX12_reads 67 = .ok (.iinc 1 1, 3) := by decide +kernel
theorem dX12_reads_70 : decode cX12_reads 70 = .ok (.goto (-36), 3) := by decide +kernel
theorem dX12_reads_73 : decode cX12_reads 73 = .ok (.aload_n 0, 1) := by decide +kernel
theorem dX12_reads_74 : decode cX12_reads 74 = .ok (.invokevirtual 185, 3) := by decide +kernel
theorem dX12_reads_77 : decode cX12_reads 77 = .ok (.ifCond .eq 18, 3) := by decide +kernel
theorem dX12_reads_80 : decode cX12_reads 80 = .ok (.aload_n 0, 1) := by decide +kernel
theorem dX12_reads_81 : decode cX12_reads 81 = .ok (.getfield 189, 3) := by decide +kernel
theorem dX12_reads_84 : decode cX12_reads 84 = .ok (.aload_n 0, 1) := by decide +kernel
theorem dX12_reads_85 : decode cX12_reads 85 = .ok (.getfield 169, 3) := by decide +kernel
theorem dX12_reads_88 : decode cX12_reads 88 = .ok (.if_icmp .ge 7, 3) := by decide +kernel
theorem dX12_reads_91 : decode cX12_reads 91 = .ok (.aload_n 0, 1) := by decide +kernel
theorem dX12_reads_92 : decode cX12_reads 92 = .ok (.invokevirtual 195, 3) := by decide +kernel
theorem dX12_reads_95 : decode cX12_reads 95 = .ok (.aload_n 0, 1) := by decide +kernel
theorem dX12_reads_96 : decode cX12_reads 96 = .ok (.aload_n 0, 1) := by decide +kernel
theorem dX12_reads_97 : decode cX12_reads 97 = .ok (.getfield 182, 3) := by decide +kernel
theorem dX12_reads_100 : decode cX12_reads 100 = .ok (.putfield 40, 3) := by decide +kernel
theorem dX12_reads_103 : decode cX12_reads 103 = .ok (.aload_n 0, 1) := by decide +kernel
theorem dX12_reads_104 : decode cX12_reads 104 = .ok (.invokevirtual 185, 3) := by decide +kernel
theorem dX12_reads_107 : decode cX12_reads 107 = .ok (.ireturn, 1) := by decide +kernel
theorem dX12_text_0 : decode cX12_text 0 = .ok (.aload_n 0, 1) := by decide +kernel
theorem dX12_text_1 : decode cX12_text 1 = .ok (.getfield 20, 3) := by decide +kernel
theorem dX12_text_4 : decode cX12_text 4 = .ok (.sipush 1348, 3) := by decide +kernel
theorem dX12_text_7 : decode cX12_text 7 = .ok (.iaload, 1) := by decide +kernel
theorem dX12_text_8 : decode cX12_text 8 = .ok (.bipush 8, 2) := by decide +kernel
theorem dX12_text_10 : decode cX12_text 10 = .ok (.if_icmp .ne 15, 3) := by decide +kernel
theorem dX12_text_13 : decode cX12_text 13 = .ok (.aload_n 0, 1) := by decide +kernel
theorem dX12_text_14 : decode cX12_text 14 = .ok (.iconst 0, 1) := by decide +kernel
theorem dX12_text_15 : decode cX12_text 15 = .ok (.putfield 163, 3) := by decide +kernel
theorem dX12_text_18 : decode cX12_text 18 = .ok (.aload_n 0, 1) := by decide +kernel
theorem dX12_text_19 : decode cX12_text 19 = .ok (.bipush (-5), 2) := by decide +kernel
theorem dX12_text_21 : decode cX12_text 21 = .ok (.invokevirtual 117, 3) := by decide +kernel
theorem dX12_text_24 : decode cX12_text 24 = .ok (.ireturn, 1) := by decide +kernel
theorem dX12_text_25 : decode cX12_text 25 = .ok (.aload_n 0, 1) := by decide +kernel
theorem dX12_text_26 : decode cX12_text 26 = .ok (.invokevirtual 236, 3) := by decide +kernel
theorem dX12_text_29 : decode cX12_text 29 = .ok (.ifCond .ne 10, 3) := by decide +kernel
theorem dX12_text_32 : decode cX12_text 32 = .ok (.aload_n 0, 1) := by decide +kernel
theorem dX12_text_33 : decode cX12_text 33 = .ok (.bipush (-6), 2) := by decide +kernel
theorem dX12_text_35 : decode cX12_text 35 = .ok (.invokevirtual 117, 3) := by decide +kernel
theorem dX12_text_38 : decode cX12_text 38 = .ok (.ireturn, 1) := by decide +kernel
theorem dX12_text_39 : decode cX12_text 39 = .ok (.aload_n 0, 1) := by decide +kernel
theorem dX12_text_40 : decode cX12_text 40 = .ok (.getfield 20, 3) := by decide +kernel
theorem dX12_text_43 : decode cX12_text 43 = .ok (.sipush 1348, 3) := by decide +kernel
theorem dX12_text_46 : decode cX12_text 46 = .ok (.iaload, 1) := by decide +kernel
theorem dX12_text_47 : decode cX12_text 47 = .ok (.istore_n 1, 1) := by decide +kernel
theorem dX12_text_48 : decode cX12_text 48 = .ok (.aload_n 0, 1) := by decide +kernel
theorem dX12_text_49 : decode cX12_text 49 = .ok (.getfield 20, 3) := by decide +kernel
theorem dX12_text_52 : decode cX12_text 52 = .ok (.sipush 1350, 3) := by decide +kernel
theorem dX12_text_55 : decode cX12_text 55 = .ok (.iload_n 1, 1) := by decide +kernel
theorem dX12_text_56 : decode cX12_text 56 = .ok (.iadd, 1) := by decide +kernel
theorem dX12_text_57 : decode cX12_text 57 = .ok (.aload_n 0, 1) := by decide +kernel
theorem dX12_text_58 : decode cX12_text 58 = .ok (.getfield 169, 3) := by decide +kernel
theorem dX12_text_61 : decode cX12_text 61 = .ok (.iastore, 1) := by decide +kernel
theorem dX12_text_62 : decode cX12_text 62 = .ok (.iconst 0, 1) := by decide +kernel
theorem dX12_text_63 : decode cX12_text 63 = .ok (.istore_n 2, 1) := by decide +kernel
theorem dX12_text_64 : decode cX12_text 64 = .ok (.iload_n 2, 1) := by decide +kernel
theorem dX12_text_65 : decode cX12_text 65 = .ok (.aload_n 0, 1) := by decide +kernel
theorem dX12_text_66 : decode cX12_text 66 = .ok (.getfield 169, 3) := by decide +kernel
theorem dX12_text_69 : decode cX12_text 69 = .ok (.if_icmp .ge 53, 3) := by decide +kernel
theorem dX12_text_72 : decode cX12_text 72 = .ok (.aload_n 0, 1) := by decide +kernel
theorem dX12_text_73 : decode cX12_text 73 = .ok (.getfield 20, 3) := by decide +kernel
theorem dX12_text_76 : decode cX12_text 76 = .ok (.sipush 1358, 3) := by decide +kernel
theorem dX12_text_79 : decode cX12_text 79 = .ok (.sipush 400, 3) := by decide +kernel
theorem dX12_text_82 : decode cX12_text 82 = .ok (.iload_n 1, 1) := by decide +kernel
theorem dX12_text_83 : decode cX12_text 83 = .ok (.imul, 1) := by decide +kernel
theorem dX12_text_84 : decode cX12_text 84 = .ok (.iadd, 1) := by decide +kernel
theorem dX12_text_85 : decode cX12_text 85 = .ok (.iload_n 2, 1) := by decide +kernel
theorem dX12_text_86 : decode cX12_text 86 = .ok (.iadd, 1) := by decide +kernel
theorem dX12_text_87 : decode cX12_text 87 = .ok (.aload_n 0, 1) := by decide +kernel
theorem dX12_text_88 : decode cX12_text 88 = .ok (.getfield 43, 3) := by decide +kernel
theorem dX12_text_91 : decode cX12_text 91 = .ok (.iload_n 2, 1) := by decide +kernel
theorem dX12_text_92 : decode cX12_text 92 = .ok (.iaload, 1) := by decide +kernel
theorem dX12_text_93 : decode cX12_text 93 = .ok (.iastore, 1) := by decide +kernel
theorem dX12_text_94 : decode cX12_text 94 = .ok (.aload_n 0, 1) := by decide +kernel
theorem dX12_text_95 : decode cX12_text 95 = .ok (.getfield 20, 3) := by decide +kernel
theorem dX12_text_98 : decode cX12_text 98 = .ok (.sipush 4558, 3) := by decide +kernel
theorem dX12_text_101 : decode cX12_text 101 = .ok (.sipush 400, 3) := by decide +kernel
theorem dX12_text_104 : decode cX12_text 104 = .ok (.iload_n 1, 1) := by decide +kernel
theorem dX12_text_105 : decode cX12_text 105 = .ok (.imul, 1) := by decide +kernel
theorem dX12_text_106 : decode cX12_text 106 = .ok (.iadd, 1) := by decide +kernel
theorem dX12_text_107 : decode cX12_text 107 = .ok (.iload_n 2, 1) := by decide +kernel
theorem dX12_text_108 : decode cX12_text 108 = .ok (.iadd, 1) := by decide +kernel
theorem dX12_text_109 : decode cX12_text 109 = .ok (.aload_n 0, 1) := by decide +kernel
theorem dX12_text_110 : decode cX12_text 110 = .ok (.getfield 46, 3) := by decide +kernel
theorem dX12_text_113 : decode cX12_text 113 = .ok (.iload_n 2, 1) := by decide +kernel
theorem dX12_text_114 : decode cX12_text 114 = .ok (.iaload, 1) := by decide +kernel
theorem dX12_text_115 : decode cX12_text 115 = .ok (.iastore, 1) := by decide +kernel
theorem dX12_text_116 : decode cX12_text 116 = .ok (.iinc 2 1, 3) := by decide +kernel
theorem dX12_text_119 : decode cX12_text 119 = .ok (.goto (-55), 3) := by decide +kernel
theorem dX12_text_122 : decode cX12_text 122 = .ok (.aload_n 0, 1) := by decide +kernel
theorem dX12_text_123 : decode cX12_text 123 = .ok (.getfield 20, 3) := by decide +kernel
theorem dX12_text_126 : decode cX12_text 126 = .ok (.sipush 1348, 3) := by decide +kernel
theorem dX12_text_129 : decode cX12_text 129 = .ok (.dup2, 1) := by decide +kernel
theorem dX12_text_130 : decode cX12_text 130 = .ok (.iaload, 1) := by decide +kernel
theorem dX12_text_131 : decode cX12_text 131 = .ok (.iconst 1, 1) := by decide +kernel
theorem dX12_text_132 : decode cX12_text 132 = .ok (.iadd, 1) := by decide +kernel
theorem dX12_text_133 : decode cX12_text 133 = .ok (.iastore, 1) := by decide +kernel
theorem dX12_text_134 : decode cX12_text 134 = .ok (.aload_n 0, 1) := by decide +kernel
theorem dX12_text_135 : decode cX12_text 135 = .ok (.iload_n 1, 1) := by decide +kernel
theorem dX12_text_136 : decode cX12_text 136 = .ok (.invokevirtual 121, 3) := by decide +kernel
theorem dX12_text_139 : decode cX12_text 139 = .ok (.ireturn, 1) := by decide +kernel
theorem dX12_fault_0 : decode cX12_fault 0 = .ok (.aload_n 0, 1) := by decide +kernel
theorem dX12_fault_1 : decode cX12_fault 1 = .ok (.getfield 40, 3) := by decide +kernel
theorem dX12_fault_4 : decode cX12_fault 4 = .ok (.ireturn, 1) := by decide +kernel
theorem dX12_use_0 : decode cX12_use 0 = .ok (.iload_n 1, 1) := by decide +kernel
theorem dX12_use_1 : decode cX12_use 1 = .ok (.iconst (-1), 1) := by decide +kernel
theorem dX12_use_2 : decode cX12_use 2 = .ok (.if_icmp .eq 18, 3) := by decide +kernel
theorem dX12_use_5 : decode cX12_use 5 = .ok (.aload_n 0, 1) := by decide +kernel
theorem dX12_use_6 : decode cX12_use 6 = .ok (.iload_n 1, 1) := by decide +kernel
theorem dX12_use_7 : decode cX12_use 7 = .ok (.invokevirtual 239, 3) := by decide +kernel
theorem dX12_use_10 : decode cX12_use 10 = .ok (.ifCond .ne 10, 3) := by decide +kernel
theorem dX12_use_13 : decode cX12_use 13 = .ok (.aload_n 0, 1) := by decide +kernel
theorem dX12_use_14 : decode cX12_use 14 = .ok (.bipush (-3), 2) := by decide +kernel
theorem dX12_use_16 : decode cX12_use 16 = .ok (.invokevirtual 117, 3) := by decide +kernel
theorem dX12_use_19 : decode cX12_use 19 = .ok (.ireturn, 1) := by decide +kernel
theorem dX12_use_20 : decode cX12_use 20 = .ok (.aload_n 0, 1) := by decide +kernel
theorem dX12_use_21 : decode cX12_use 21 = .ok (.sipush 1349, 3) := by decide +kernel
theorem dX12_use_24 : decode cX12_use 24 = .ok (.iload_n 1, 1) := by decide +kernel
theorem dX12_use_25 : decode cX12_use 25 = .ok (.invokevirtual 132, 3) := by decide +kernel
theorem dX12_use_28 : decode cX12_use 28 = .ok (.ireturn, 1) := by decide +kernel
theorem dX12_codeAt_0 : decode cX12_codeAt 0 = .ok (.iload_n 1, 1) := by decide +kernel
theorem dX12_codeAt_1 : decode cX12_codeAt 1 = .ok (.aload_n 0, 1) := by decide +kernel
theorem dX12_codeAt_2 : decode cX12_codeAt 2 = .ok (.getfield 242, 3) := by decide +kernel
theorem dX12_codeAt_5 : decode cX12_codeAt 5 = .ok (.if_icmp .ge 16, 3) := by decide +kernel
theorem dX12_codeAt_8 : decode cX12_codeAt 8 = .ok (.aload_n 0, 1) := by decide +kernel
theorem dX12_codeAt_9 : decode cX12_codeAt 9 = .ok (.getfield 20, 3) := by decide +kernel
theorem dX12_codeAt_12 : decode cX12_codeAt 12 = .ok (.sipush 1358, 3) := by decide +kernel
theorem dX12_codeAt_15 : decode cX12_codeAt 15 = .ok (.iload_n 1, 1) := by decide +kernel
theorem dX12_codeAt_16 : decode cX12_codeAt 16 = .ok (.iadd, 1) := by decide +kernel
theorem dX12_codeAt_17 : decode cX12_codeAt 17 = .ok (.iaload, 1) := by decide +kernel
theorem dX12_codeAt_18 : decode cX12_codeAt 18 = .ok (.goto 4, 3) := by decide +kernel
theorem dX12_codeAt_21 : decode cX12_codeAt 21 = .ok (.iconst 0, 1) := by decide +kernel
theorem dX12_codeAt_22 : decode cX12_codeAt 22 = .ok (.ireturn, 1) := by decide +kernel
theorem dX12_passes_0 : decode cX12_passes 0 = .ok (.aload_n 0, 1) := by decide +kernel
theorem dX12_passes_1 : decode cX12_passes 1 = .ok (.aload_n 0, 1) := by decide +kernel
theorem dX12_passes_2 : decode cX12_passes 2 = .ok (.getfield 245, 3) := by decide +kernel
theorem dX12_passes_5 : decode cX12_passes 5 = .ok (.invokevirtual 248, 3) := by decide +kernel
theorem dX12_passes_8 : decode cX12_passes 8 = .ok (.iload_n 1, 1) := by decide +kernel
theorem dX12_passes_9 : decode cX12_passes 9 = .ok (.if_icmp .ne 7, 3) := by decide +kernel
theorem dX12_passes_12 : decode cX12_passes 12 = .ok (.iconst 1, 1) := by decide +kernel
theorem dX12_passes_13 : decode cX12_passes 13 = .ok (.goto 4, 3) := by decide +kernel
theorem dX12_passes_16 : decode cX12_passes 16 = .ok (.iconst 0, 1) := by decide +kernel
theorem dX12_passes_17 : decode cX12_passes 17 = .ok (.istore_n 2, 1) := by decide +kernel
theorem dX12_passes_18 : decode cX12_passes 18 = .ok (.iload_n 2, 1) := by decide +kernel
theorem dX12_passes_19 : decode cX12_passes 19 = .ok (.ifCond .eq 13, 3) := by decide +kernel
theorem dX12_passes_22 : decode cX12_passes 22 = .ok (.aload_n 0, 1) := by decide +kernel
theorem dX12_passes_23 : decode cX12_passes 23 = .ok (.dup, 1) := by decide +kernel
theorem dX12_passes_24 : decode cX12_passes 24 = .ok (.getfield 245, 3) := by decide +kernel
theorem dX12_passes_27 : decode cX12_passes 27 = .ok (.iconst 1, 1) := by decide +kernel
theorem dX12_passes_28 : decode cX12_passes 28 = .ok (.iadd, 1) := by decide +kernel
theorem dX12_passes_29 : decode cX12_passes 29 = .ok (.putfield 245, 3) := by decide +kernel
theorem dX12_passes_32 : decode cX12_passes 32 = .ok (.iload_n 2, 1) := by decide +kernel
theorem dX12_passes_33 : decode cX12_passes 33 = .ok (.ireturn, 1) := by decide +kernel
theorem dX12_bounded_0 : decode cX12_bounded 0 = .ok (.iload_n 3, 1) := by decide +kernel
theorem dX12_bounded_1 : decode cX12_bounded 1 = .ok (.ifCond .eq 24, 3) := by decide +kernel
theorem dX12_bounded_4 : decode cX12_bounded 4 = .ok (.lload_n 1, 1) := by decide +kernel
theorem dX12_bounded_5 : decode cX12_bounded 5 = .ok (.ldc2_w 251, 3) := by decide +kernel
theorem dX12_bounded_8 : decode cX12_bounded 8 = .ok (.lcmp, 1) := by decide +kernel
theorem dX12_bounded_9 : decode cX12_bounded 9 = .ok (.ifCond .gt 11, 3) := by decide +kernel
theorem dX12_bounded_12 : decode cX12_bounded 12 = .ok (.lload_n 1, 1) := by decide +kernel
theorem dX12_bounded_13 : decode cX12_bounded 13 = .ok (.ldc2_w 253, 3) := by decide +kernel
theorem dX12_bounded_16 : decode cX12_bounded 16 = .ok (.lcmp, 1) := by decide +kernel
theorem dX12_bounded_17 : decode cX12_bounded 17 = .ok (.ifCond .ge 8, 3) := by decide +kernel
theorem dX12_bounded_20 : decode cX12_bounded 20 = .ok (.aload_n 0, 1) := by decide +kernel
theorem dX12_bounded_21 : decode cX12_bounded 21 = .ok (.iconst 1, 1) := by decide +kernel
theorem dX12_bounded_22 : decode cX12_bounded 22 = .ok (.putfield 255, 3) := by decide +kernel
theorem dX12_bounded_25 : decode cX12_bounded 25 = .ok (.aload_n 0, 1) := by decide +kernel
theorem dX12_bounded_26 : decode cX12_bounded 26 = .ok (.getfield 255, 3) := by decide +kernel
theorem dX12_bounded_29 : decode cX12_bounded 29 = .ok (.ifCond .eq 7, 3) := by decide +kernel
theorem dX12_bounded_32 : decode cX12_bounded 32 = .ok (.lconst 0, 1) := by decide +kernel
theorem dX12_bounded_33 : decode cX12_bounded 33 = .ok (.goto 4, 3) := by decide +kernel
theorem dX12_bounded_36 : decode cX12_bounded 36 = .ok (.lload_n 1, 1) := by decide +kernel
theorem dX12_bounded_37 : decode cX12_bounded 37 = .ok (.lreturn, 1) := by decide +kernel
theorem dX12_sumOf_0 : decode cX12_sumOf 0 = .ok (.aload_n 0, 1) := by decide +kernel
theorem dX12_sumOf_1 : decode cX12_sumOf 1 = .ok (.iload_n 1, 1) := by decide +kernel
theorem dX12_sumOf_2 : decode cX12_sumOf 2 = .ok (.invokevirtual 259, 3) := by decide +kernel
theorem dX12_sumOf_5 : decode cX12_sumOf 5 = .ok (.lstore_n 2, 1) := by decide +kernel
theorem dX12_sumOf_6 : decode cX12_sumOf 6 = .ok (.aload_n 0, 1) := by decide +kernel
theorem dX12_sumOf_7 : decode cX12_sumOf 7 = .ok (.aload_n 0, 1) := by decide +kernel
theorem dX12_sumOf_8 : decode cX12_sumOf 8 = .ok (.getfield 245, 3) := by decide +kernel
theorem dX12_sumOf_11 : decode cX12_sumOf 11 = .ok (.invokevirtual 248, 3) := by decide +kernel
theorem dX12_sumOf_14 : decode cX12_sumOf 14 = .ok (.bipush 43, 2) := by decide +kernel
theorem dX12_sumOf_16 : decode cX12_sumOf 16 = .ok (.invokestatic 217, 3) := by decide +kernel
theorem dX12_sumOf_19 : decode cX12_sumOf 19 = .ok (.if_icmp .eq 19, 3) := by decide +kernel
theorem dX12_sumOf_22 : decode cX12_sumOf 22 = .ok (.aload_n 0, 1) := by decide +kernel
theorem dX12_sumOf_23 : decode cX12_sumOf 23 = .ok (.aload_n 0, 1) := by decide +kernel
theorem dX12_sumOf_24 : decode cX12_sumOf 24 = .ok (.getfield 245, 3) := by decide +kernel
theorem dX12_sumOf_27 : decode cX12_sumOf 27 = .ok (.invokevirtual 248, 3) := by decide +kernel
theorem dX12_sumOf_30 : decode cX12_sumOf 30 = .ok (.bipush 45, 2) := by decide +kernel
theorem dX12_sumOf_32 : decode cX12_sumOf 32 = .ok (.invokestatic 217, 3) := by decide +kernel
theorem dX12_sumOf_35 : decode cX12_sumOf 35 = .ok (.if_icmp .ne 68, 3) := by decide +kernel
theorem dX12_sumOf_38 : decode cX12_sumOf 38 = .ok (.aload_n 0, 1) := by decide +kernel
theorem dX12_sumOf_39 : decode cX12_sumOf 39 = .ok (.aload_n 0, 1) := by decide +kernel
theorem dX12_sumOf_40 : decode cX12_sumOf 40 = .ok (.getfield 245, 3) := by decide +kernel
theorem dX12_sumOf_43 : decode cX12_sumOf 43 = .ok (.invokevirtual 248, 3) := by decide +kernel
theorem dX12_sumOf_46 : decode cX12_sumOf 46 = .ok (.bipush 43, 2) := by decide +kernel
theorem dX12_sumOf_48 : decode cX12_sumOf 48 = .ok (.invokestatic 217, 3) := by decide +kernel
theorem dX12_sumOf_51 : decode cX12_sumOf 51 = .ok (.if_icmp .ne 7, 3) := by decide +kernel
theorem dX12_sumOf_54 : decode cX12_sumOf 54 = .ok (.iconst 1, 1) := by decide +kernel
theorem dX12_sumOf_55 : decode cX12_sumOf 55 = .ok (.goto 4, 3) := by decide +kernel
theorem dX12_sumOf_58 : decode cX12_sumOf 58 = .ok (.iconst 0, 1) := by decide +kernel
theorem dX12_sumOf_59 : decode cX12_sumOf 59 = .ok (.istore 4, 2) := by decide +kernel
theorem dX12_sumOf_61 : decode cX12_sumOf 61 = .ok (.aload_n 0, 1) := by decide +kernel
theorem dX12_sumOf_62 : decode cX12_sumOf 62 = .ok (.dup, 1) := by decide +kernel
theorem dX12_sumOf_63 : decode cX12_sumOf 63 = .ok (.getfield 245, 3) := by decide +kernel
theorem dX12_sumOf_66 : decode cX12_sumOf 66 = .ok (.iconst 1, 1) := by decide +kernel
theorem dX12_sumOf_67 : decode cX12_sumOf 67 = .ok (.iadd, 1) := by decide +kernel
theorem dX12_sumOf_68 : decode cX12_sumOf 68 = .ok (.putfield 245, 3) := by decide +kernel
theorem dX12_sumOf_71 : decode cX12_sumOf 71 = .ok (.aload_n 0, 1) := by decide +kernel
theorem dX12_sumOf_72 : decode cX12_sumOf 72 = .ok (.iload_n 1, 1) := by decide +kernel
theorem dX12_sumOf_73 : decode cX12_sumOf 73 = .ok (.invokevirtual 259, 3) := by decide +kernel
theorem dX12_sumOf_76 : decode cX12_sumOf 76 = .ok (.lstore 5, 2) := by decide +kernel
theorem dX12_sumOf_78 : decode cX12_sumOf 78 = .ok (.aload_n 0, 1) := by decide +kernel
theorem dX12_sumOf_79 : decode cX12_sumOf 79 = .ok (.iload 4, 2) := by decide +kernel
theorem dX12_sumOf_81 : decode cX12_sumOf 81 = .ok (.ifCond .eq 10, 3) := by decide +kernel
theorem dX12_sumOf_84 : decode cX12_sumOf 84 = .ok (.lload_n 2, 1) := by decide +kernel
theorem dX12_sumOf_85 : decode cX12_sumOf 85 = .ok (.lload 5, 2) := by decide +kernel
theorem dX12_sumOf_87 : decode cX12_sumOf 87 = .ok (.ladd, 1) := by decide +kernel
theorem dX12_sumOf_88 : decode cX12_sumOf 88 = .ok (.goto 7, 3) := by decide +kernel
theorem dX12_sumOf_91 : decode cX12_sumOf 91 = .ok (.lload_n 2, 1) := by decide +kernel
theorem dX12_sumOf_92 : decode cX12_sumOf 92 = .ok (.lload 5, 2) := by decide +kernel
theorem dX12_sumOf_94 : decode cX12_sumOf 94 = .ok (.lsub, 1) := by decide +kernel
theorem dX12_sumOf_95 : decode cX12_sumOf 95 = .ok (.iload_n 1, 1) := by decide +kernel
theorem dX12_sumOf_96 : decode cX12_sumOf 96 = .ok (.invokevirtual 263, 3) := by decide +kernel
theorem dX12_sumOf_99 : decode cX12_sumOf 99 = .ok (.lstore_n 2, 1) := by decide +kernel
theorem dX12_sumOf_100 : decode cX12_sumOf 100 = .ok (.goto (-94), 3) := by decide +kernel
theorem dX12_sumOf_103 : decode cX12_sumOf 103 = .ok (.lload_n 2, 1) := by decide +kernel
theorem dX12_sumOf_104 : decode cX12_sumOf 104 = .ok (.lreturn, 1) := by decide +kernel
theorem dX12_termOf_0 : decode cX12_termOf 0 = .ok (.aload_n 0, 1) := by decide +kernel
theorem dX12_termOf_1 : decode cX12_termOf 1 = .ok (.iload_n 1, 1) := by decide +kernel
theorem dX12_termOf_2 : decode cX12_termOf 2 = .ok (.invokevirtual 267, 3) := by decide +kernel
theorem dX12_termOf_5 : decode cX12_termOf 5 = .ok (.lstore_n 2, 1) := by decide +kernel
theorem dX12_termOf_6 : decode cX12_termOf 6 = .ok (.aload_n 0, 1) := by decide +kernel
theorem dX12_termOf_7 : decode cX12_termOf 7 = .ok (.aload_n 0, 1) := by decide +kernel
theorem dX12_termOf_8 : decode cX12_termOf 8 = .ok (.getfield 245, 3) := by decide +kernel
theorem dX12_termOf_11 : decode cX12_termOf 11 = .ok (.invokevirtual 248, 3) := by decide +kernel
theorem dX12_termOf_14 : decode cX12_termOf 14 = .ok (.bipush 42, 2) := by decide +kernel
theorem dX12_termOf_16 : decode cX12_termOf 16 = .ok (.invokestatic 217, 3) := by decide +kernel
theorem dX12_termOf_19 : decode cX12_termOf 19 = .ok (.if_icmp .eq 19, 3) := by decide +kernel
theorem dX12_termOf_22 : decode cX12_termOf 22 = .ok (.aload_n 0, 1) := by decide +kernel
theorem dX12_termOf_23 : decode cX12_termOf 23 = .ok (.aload_n 0, 1) := by decide +kernel
theorem dX12_termOf_24 : decode cX12_termOf 24 = .ok (.getfield 245, 3) := by decide +kernel
theorem dX12_termOf_27 : decode cX12_termOf 27 = .ok (.invokevirtual 248, 3) := by decide +kernel
theorem dX12_termOf_30 : decode cX12_termOf 30 = .ok (.bipush 47, 2) := by decide +kernel
theorem dX12_termOf_32 : decode cX12_termOf 32 = .ok (.invokestatic 217, 3) := by decide +kernel
theorem dX12_termOf_35 : decode cX12_termOf 35 = .ok (.if_icmp .ne 103, 3) := by decide +kernel
theorem dX12_termOf_38 : decode cX12_termOf 38 = .ok (.aload_n 0, 1) := by decide +kernel
theorem dX12_termOf_39 : decode cX12_termOf 39 = .ok (.aload_n 0, 1) := by decide +kernel
theorem dX12_termOf_40 : decode cX12_termOf 40 = .ok (.getfield 245, 3) := by decide +kernel
theorem dX12_termOf_43 : decode cX12_termOf 43 = .ok (.invokevirtual 248, 3) := by decide +kernel
theorem dX12_termOf_46 : decode cX12_termOf 46 = .ok (.bipush 42, 2) := by decide +kernel
theorem dX12_termOf_48 : decode cX12_termOf 48 = .ok (.invokestatic 217, 3) := by decide +kernel
theorem dX12_termOf_51 : decode cX12_termOf 51 = .ok (.if_icmp .ne 7, 3) := by decide +kernel
theorem dX12_termOf_54 : decode cX12_termOf 54 = .ok (.iconst 1, 1) := by decide +kernel
theorem dX12_termOf_55 : decode cX12_termOf 55 = .ok (.goto 4, 3) := by decide +kernel
theorem dX12_termOf_58 : decode cX12_termOf 58 = .ok (.iconst 0, 1) := by decide +kernel
theorem dX12_termOf_59 : decode cX12_termOf 59 = .ok (.istore 4, 2) := by decide +kernel
theorem dX12_termOf_61 : decode cX12_termOf 61 = .ok (.aload_n 0, 1) := by decide +kernel
theorem dX12_termOf_62 : decode cX12_termOf 62 = .ok (.dup, 1) := by decide +kernel
theorem dX12_termOf_63 : decode cX12_termOf 63 = .ok (.getfield 245, 3) := by decide +kernel
theorem dX12_termOf_66 : decode cX12_termOf 66 = .ok (.iconst 1, 1) := by decide +kernel
theorem dX12_termOf_67 : decode cX12_termOf 67 = .ok (.iadd, 1) := by decide +kernel
theorem dX12_termOf_68 : decode cX12_termOf 68 = .ok (.putfield 245, 3) := by decide +kernel
theorem dX12_termOf_71 : decode cX12_termOf 71 = .ok (.aload_n 0, 1) := by decide +kernel
theorem dX12_termOf_72 : decode cX12_termOf 72 = .ok (.iload_n 1, 1) := by decide +kernel
theorem dX12_termOf_73 : decode cX12_termOf 73 = .ok (.invokevirtual 267, 3) := by decide +kernel
theorem dX12_termOf_76 : decode cX12_termOf 76 = .ok (.lstore 5, 2) := by decide +kernel
theorem dX12_termOf_78 : decode cX12_termOf 78 = .ok (.iload 4, 2) := by decide +kernel
theorem dX12_termOf_80 : decode cX12_termOf 80 = .ok (.ifCond .ne 33, 3) := by decide +kernel
theorem dX12_termOf_83 : decode cX12_termOf 83 = .ok (.lload 5, 2) := by decide +kernel
theorem dX12_termOf_85 : decode cX12_termOf 85 = .ok (.lconst 0, 1) := by decide +kernel
theorem dX12_termOf_86 : decode cX12_termOf 86 = .ok (.lcmp, 1) := by decide +kernel
theorem dX12_termOf_87 : decode cX12_termOf 87 = .ok (.ifCond .ne 26, 3) := by decide +kernel
theorem dX12_termOf_90 : decode cX12_termOf 90 = .ok (.aload_n 0, 1) := by decide +kernel
theorem dX12_termOf_91 : decode cX12_termOf 91 = .ok (.aload_n 0, 1) := by decide +kernel
theorem dX12_termOf_92 : decode cX12_termOf 92 = .ok (.getfield 255, 3) := by decide +kernel
theorem dX12_termOf_95 : decode cX12_termOf 95 = .ok (.ifCond .ne 7, 3) := by decide +kernel
theorem dX12_termOf_98 : decode cX12_termOf 98 = .ok (.iload_n 1, 1) := by decide +kernel
theorem dX12_termOf_99 : decode cX12_termOf 99 = .ok (.ifCond .eq 7, 3) := by decide +kernel
theorem dX12_termOf_102 : decode cX12_termOf 102 = .ok (.iconst 1, 1) := by decide +kernel
theorem dX12_termOf_103 : decode cX12_termOf 103 = .ok (.goto 4, 3) := by decide +kernel
theorem dX12_termOf_106 : decode cX12_termOf 106 = .ok (.iconst 0, 1) := by decide +kernel
theorem dX12_termOf_107 : decode cX12_termOf 107 = .ok (.putfield 255, 3) := by decide +kernel
theorem dX12_termOf_110 : decode cX12_termOf 110 = .ok (.lconst 1, 1) := by decide +kernel
theorem dX12_termOf_111 : decode cX12_termOf 111 = .ok (.lstore 5, 2) := by decide +kernel
theorem dX12_termOf_113 : decode cX12_termOf 113 = .ok (.aload_n 0, 1) := by decide +kernel
theorem dX12_termOf_114 : decode cX12_termOf 114 = .ok (.iload 4, 2) := by decide +kernel
theorem dX12_termOf_116 : decode cX12_termOf 116 = .ok (.ifCond .eq 10, 3) := by decide +kernel
theorem dX12_termOf_119 : decode cX12_termOf 119 = .ok (.lload_n 2, 1) := by decide +kernel
theorem dX12_termOf_120 : decode cX12_termOf 120 = .ok (.lload 5, 2) := by decide +kernel
theorem dX12_termOf_122 : decode cX12_termOf 122 = .ok (.lmul, 1) := by decide +kernel
theorem dX12_termOf_123 : decode cX12_termOf 123 = .ok (.goto 7, 3) := by decide +kernel
theorem dX12_termOf_126 : decode cX12_termOf 126 = .ok (.lload_n 2, 1) := by decide +kernel
theorem dX12_termOf_127 : decode cX12_termOf 127 = .ok (.lload 5, 2) := by decide +kernel
theorem dX12_termOf_129 : decode cX12_termOf 129 = .ok (.ldiv, 1) := by decide +kernel
theorem dX12_termOf_130 : decode cX12_termOf 130 = .ok (.iload_n 1, 1) := by decide +kernel
theorem dX12_termOf_131 : decode cX12_termOf 131 = .ok (.invokevirtual 263, 3) := by decide +kernel
theorem dX12_termOf_134 : decode cX12_termOf 134 = .ok (.lstore_n 2, 1) := by decide +kernel
theorem dX12_termOf_135 : decode cX12_termOf 135 = .ok (.goto (-129), 3) := by decide +kernel
theorem dX12_termOf_138 : decode cX12_termOf 138 = .ok (.lload_n 2, 1) := by decide +kernel
theorem dX12_termOf_139 : decode cX12_termOf 139 = .ok (.lreturn, 1) := by decide +kernel
theorem dX12_partOf_0 : decode cX12_partOf 0 = .ok (.aload_n 0, 1) := by decide +kernel
theorem dX12_partOf_1 : decode cX12_partOf 1 = .ok (.bipush 91, 2) := by decide +kernel
theorem dX12_partOf_3 : decode cX12_partOf 3 = .ok (.invokestatic 217, 3) := by decide +kernel
theorem dX12_partOf_6 : decode cX12_partOf 6 = .ok (.invokevirtual 270, 3) := by decide +kernel
theorem dX12_partOf_9 : decode cX12_partOf 9 = .ok (.ifCond .eq 21, 3) := by decide +kernel
theorem dX12_partOf_12 : decode cX12_partOf 12 = .ok (.aload_n 0, 1) := by decide +kernel
theorem dX12_partOf_13 : decode cX12_partOf 13 = .ok (.iload_n 1, 1) := by decide +kernel
theorem dX12_partOf_14 : decode cX12_partOf 14 = .ok (.invokevirtual 273, 3) := by decide +kernel
theorem dX12_partOf_17 : decode cX12_partOf 17 = .ok (.lstore_n 2, 1) := by decide +kernel
theorem dX12_partOf_18 : decode cX12_partOf 18 = .ok (.aload_n 0, 1) := by decide +kernel
theorem dX12_partOf_19 : decode cX12_partOf 19 = .ok (.dup, 1) := by decide +kernel
theorem dX12_partOf_20 : decode cX12_partOf 20 = .ok (.getfield 245, 3) := by decide +kernel
theorem dX12_partOf_23 : decode cX12_partOf 23 = .ok (.iconst 1, 1) := by decide +kernel
theorem dX12_partOf_24 : decode cX12_partOf 24 = .ok (.iadd, 1) := by decide +kernel
theorem dX12_partOf_25 : decode cX12_partOf 25 = .ok (.putfield 245, 3) := by decide +kernel
theorem dX12_partOf_28 : decode cX12_partOf 28 = .ok (.lload_n 2, 1) := by decide +kernel
theorem dX12_partOf_29 : decode cX12_partOf 29 = .ok (.lreturn, 1) := by decide +kernel
theorem dX12_partOf_30 : decode cX12_partOf 30 = .ok (.aload_n 0, 1) := by decide +kernel
theorem dX12_partOf_31 : decode cX12_partOf 31 = .ok (.aload_n 0, 1) := by decide +kernel
theorem dX12_partOf_32 : decode cX12_partOf 32 = .ok (.getfield 245, 3) := by decide +kernel
theorem dX12_partOf_35 : decode cX12_partOf 35 = .ok (.invokevirtual 248, 3) := by decide +kernel
theorem dX12_partOf_38 : decode cX12_partOf 38 = .ok (.istore_n 2, 1) := by decide +kernel
theorem dX12_partOf_39 : decode cX12_partOf 39 = .ok (.aload_n 0, 1) := by decide +kernel
theorem dX12_partOf_40 : decode cX12_partOf 40 = .ok (.dup, 1) := by decide +kernel
theorem dX12_partOf_41 : decode cX12_partOf 41 = .ok (.getfield 245, 3) := by decide +kernel
theorem dX12_partOf_44 : decode cX12_partOf 44 = .ok (.iconst 1, 1) := by decide +kernel
theorem dX12_partOf_45 : decode cX12_partOf 45 = .ok (.iadd, 1) := by decide +kernel
theorem dX12_partOf_46 : decode cX12_partOf 46 = .ok (.putfield 245, 3) := by decide +kernel
theorem dX12_partOf_49 : decode cX12_partOf 49 = .ok (.iload_n 1, 1) := by decide +kernel
theorem dX12_partOf_50 : decode cX12_partOf 50 = .ok (.ifCond .eq 10, 3) := by decide +kernel
theorem dX12_partOf_53 : decode cX12_partOf 53 = .ok (.aload_n 0, 1) := by decide +kernel
theorem dX12_partOf_54 : decode cX12_partOf 54 = .ok (.getfield 255, 3) := by decide +kernel
theorem dX12_partOf_57 : decode cX12_partOf 57 = .ok (.ifCond .eq 5, 3) := by decide +kernel
theorem dX12_partOf_60 : decode cX12_partOf 60 = .ok (.lconst 0, 1) := by decide +kernel
theorem dX12_partOf_61 : decode cX12_partOf 61 = .ok (.lreturn, 1) := by decide +kernel
theorem dX12_partOf_62 : decode cX12_partOf 62 = .ok (.iload_n 2, 1) := by decide +kernel
theorem dX12_partOf_63 : decode cX12_partOf 63 = .ok (.bipush 50, 2) := by decide +kernel
theorem dX12_partOf_65 : decode cX12_partOf 65 = .ok (.if_icmp .ne 22, 3) := by decide +kernel
theorem dX12_partOf_68 : decode cX12_partOf 68 = .ok (.aload_n 0, 1) := by decide +kernel
theorem dX12_partOf_69 : decode cX12_partOf 69 = .ok (.getfield 20, 3) := by decide +kernel
theorem dX12_partOf_72 : decode cX12_partOf 72 = .ok (.sipush 4558, 3) := by decide +kernel
theorem dX12_partOf_75 : decode cX12_partOf 75 = .ok (.aload_n 0, 1) := by decide +kernel
theorem dX12_partOf_76 : decode cX12_partOf 76 = .ok (.getfield 245, 3) := by decide +kernel
theorem dX12_partOf_79 : decode cX12_partOf 79 = .ok (.iadd, 1) := by decide +kernel
theorem dX12_partOf_80 : decode cX12_partOf 80 = .ok (.iconst 1, 1) := by decide +kernel
theorem dX12_partOf_81 : decode cX12_partOf 81 = .ok (.isub, 1) := by decide +kernel
theorem dX12_partOf_82 : decode cX12_partOf 82 = .ok (.iaload, 1) := by decide +kernel
theorem dX12_partOf_83 : decode cX12_partOf 83 = .ok (.i2l, 1) := by decide +kernel
theorem dX12_partOf_84 : decode cX12_partOf 84 = .ok (.goto 13, 3) := by decide +kernel
theorem dX12_partOf_87 : decode cX12_partOf 87 = .ok (.aload_n 0, 1) := by decide +kernel
theorem dX12_partOf_88 : decode cX12_partOf 88 = .ok (.getfield 52, 3) := by decide +kernel
theorem dX12_partOf_91 : decode cX12_partOf 91 = .ok (.iload_n 2, 1) := by decide +kernel
theorem dX12_partOf_92 : decode cX12_partOf 92 = .ok (.bipush 12, 2) := by decide +kernel
theorem dX12_partOf_94 : decode cX12_partOf 94 = .ok (.isub, 1) := by decide +kernel
theorem dX12_partOf_95 : decode cX12_partOf 95 = .ok (.iaload, 1) := by decide +kernel
theorem dX12_partOf_96 : decode cX12_partOf 96 = .ok (.i2l, 1) := by decide +kernel
theorem dX12_partOf_97 : decode cX12_partOf 97 = .ok (.lreturn, 1) := by decide +kernel
theorem dX12_testOf_0 : decode cX12_testOf 0 = .ok (.aload_n 0, 1) := by decide +kernel
theorem dX12_testOf_1 : decode cX12_testOf 1 = .ok (.iload_n 1, 1) := by decide +kernel
theorem dX12_testOf_2 : decode cX12_testOf 2 = .ok (.invokevirtual 276, 3) := by decide +kernel
theorem dX12_testOf_5 : decode cX12_testOf 5 = .ok (.istore_n 2, 1) := by decide +kernel
theorem dX12_testOf_6 : decode cX12_testOf 6 = .ok (.aload_n 0, 1) := by decide +kernel
theorem dX12_testOf_7 : decode cX12_testOf 7 = .ok (.bipush 9, 2) := by decide +kernel
theorem dX12_testOf_9 : decode cX12_testOf 9 = .ok (.invokevirtual 270, 3) := by decide +kernel
theorem dX12_testOf_12 : decode cX12_testOf 12 = .ok (.ifCond .eq 38, 3) := by decide +kernel
theorem dX12_testOf_15 : decode cX12_testOf 15 = .ok (.aload_n 0, 1) := by decide +kernel
theorem dX12_testOf_16 : decode cX12_testOf 16 = .ok (.iload_n 1, 1) := by decide +kernel
theorem dX12_testOf_17 : decode cX12_testOf 17 = .ok (.ifCond .eq 11, 3) := by decide +kernel
theorem dX12_testOf_20 : decode cX12_testOf 20 = .ok (.iload_n 2, 1) := by decide +kernel
theorem dX12_testOf_21 : decode cX12_testOf 21 = .ok (.ifCond .ne 7, 3) := by decide +kernel
theorem dX12_testOf_24 : decode cX12_testOf 24 = .ok (.iconst 1, 1) := by decide +kernel
theorem dX12_testOf_25 : decode cX12_testOf 25 = .ok (.goto 4, 3) := by decide +kernel
theorem dX12_testOf_28 : decode cX12_testOf 28 = .ok (.iconst 0, 1) := by decide +kernel
theorem dX12_testOf_29 : decode cX12_testOf 29 = .ok (.invokevirtual 276, 3) := by decide +kernel
theorem dX12_testOf_32 : decode cX12_testOf 32 = .ok (.istore_n 3, 1) := by decide +kernel
theorem dX12_testOf_33 : decode cX12_testOf 33 = .ok (.iload_n 2, 1) := by decide +kernel
theorem dX12_testOf_34 : decode cX12_testOf 34 = .ok (.ifCond .ne 7, 3) := by decide +kernel
theorem dX12_testOf_37 : decode cX12_testOf 37 = .ok (.iload_n 3, 1) := by decide +kernel
theorem dX12_testOf_38 : decode cX12_testOf 38 = .ok (.ifCond .eq 7, 3) := by decide +kernel
theorem dX12_testOf_41 : decode cX12_testOf 41 = .ok (.iconst 1, 1) := by decide +kernel
theorem dX12_testOf_42 : decode cX12_testOf 42 = .ok (.goto 4, 3) := by decide +kernel
theorem dX12_testOf_45 : decode cX12_testOf 45 = .ok (.iconst 0, 1) := by decide +kernel
theorem dX12_testOf_46 : decode cX12_testOf 46 = .ok (.istore_n 2, 1) := by decide +kernel
theorem dX12_testOf_47 : decode cX12_testOf 47 = .ok (.goto (-41), 3) := by decide +kernel
theorem dX12_testOf_50 : decode cX12_testOf 50 = .ok (.iload_n 2, 1) := by decide +kernel
theorem dX12_testOf_51 : decode cX12_testOf 51 = .ok (.ireturn, 1) := by decide +kernel
theorem dX12_bothOf_0 : decode cX12_bothOf 0 = .ok (.aload_n 0, 1) := by decide +kernel
theorem dX12_bothOf_1 : decode cX12_bothOf 1 = .ok (.iload_n 1, 1) := by decide +kernel
theorem dX12_bothOf_2 : decode cX12_bothOf 2 = .ok (.invokevirtual 280, 3) := by decide +kernel
theorem dX12_bothOf_5 : decode cX12_bothOf 5 = .ok (.istore_n 2, 1) := by decide +kernel
theorem dX12_bothOf_6 : decode cX12_bothOf 6 = .ok (.aload_n 0, 1) := by decide +kernel
theorem dX12_bothOf_7 : decode cX12_bothOf 7 = .ok (.bipush 10, 2) := by decide +kernel
theorem dX12_bothOf_9 : decode cX12_bothOf 9 = .ok (.invokevirtual 270, 3) := by decide +kernel
theorem dX12_bothOf_12 : decode cX12_bothOf 12 = .ok (.ifCond .eq 38, 3) := by decide +kernel
theorem dX12_bothOf_15 : decode cX12_bothOf 15 = .ok (.aload_n 0, 1) := by decide +kernel
theorem dX12_bothOf_16 : decode cX12_bothOf 16 = .ok (.iload_n 1, 1) := by decide +kernel
theorem dX12_bothOf_17 : decode cX12_bothOf 17 = .ok (.ifCond .eq 11, 3) := by decide +kernel
theorem dX12_bothOf_20 : decode cX12_bothOf 20 = .ok (.iload_n 2, 1) := by decide +kernel
theorem dX12_bothOf_21 : decode cX12_bothOf 21 = .ok (.ifCond .eq 7, 3) := by decide +kernel
theorem dX12_bothOf_24 : decode cX12_bothOf 24 = .ok (.iconst 1, 1) := by decide +kernel
theorem dX12_bothOf_25 : decode cX12_bothOf 25 = .ok (.goto 4, 3) := by decide +kernel
theorem dX12_bothOf_28 : decode cX12_bothOf 28 = .ok (.iconst 0, 1) := by decide +kernel
theorem dX12_bothOf_29 : decode cX12_bothOf 29 = .ok (.invokevirtual 280, 3) := by decide +kernel
theorem dX12_bothOf_32 : decode cX12_bothOf 32 = .ok (.istore_n 3, 1) := by decide +kernel
theorem dX12_bothOf_33 : decode cX12_bothOf 33 = .ok (.iload_n 2, 1) := by decide +kernel
theorem dX12_bothOf_34 : decode cX12_bothOf 34 = .ok (.ifCond .eq 11, 3) := by decide +kernel
theorem dX12_bothOf_37 : decode cX12_bothOf 37 = .ok (.iload_n 3, 1) := by decide +kernel
theorem dX12_bothOf_38 : decode cX12_bothOf 38 = .ok (.ifCond .eq 7, 3) := by decide +kernel
theorem dX12_bothOf_41 : decode cX12_bothOf 41 = .ok (.iconst 1, 1) := by decide +kernel
theorem dX12_bothOf_42 : decode cX12_bothOf 42 = .ok (.goto 4, 3) := by decide +kernel
theorem dX12_bothOf_45 : decode cX12_bothOf 45 = .ok (.iconst 0, 1) := by decide +kernel
theorem dX12_bothOf_46 : decode cX12_bothOf 46 = .ok (.istore_n 2, 1) := by decide +kernel
theorem dX12_bothOf_47 : decode cX12_bothOf 47 = .ok (.goto (-41), 3) := by decide +kernel
theorem dX12_bothOf_50 : decode cX12_bothOf 50 = .ok (.iload_n 2, 1) := by decide +kernel
theorem dX12_bothOf_51 : decode cX12_bothOf 51 = .ok (.ireturn, 1) := by decide +kernel
theorem dX12_plainOf_0 : decode cX12_plainOf 0 = .ok (.iconst 0, 1) := by decide +kernel
theorem dX12_plainOf_1 : decode cX12_plainOf 1 = .ok (.istore_n 2, 1) := by decide +kernel
theorem dX12_plainOf_2 : decode cX12_plainOf 2 = .ok (.aload_n 0, 1) := by decide +kernel
theorem dX12_plainOf_3 : decode cX12_plainOf 3 = .ok (.bipush 11, 2) := by decide +kernel
theorem dX12_plainOf_5 : decode cX12_plainOf 5 = .ok (.invokevirtual 270, 3) := by decide +kernel
theorem dX12_plainOf_8 : decode cX12_plainOf 8 = .ok (.ifCond .eq 16, 3) := by decide +kernel
theorem dX12_plainOf_11 : decode cX12_plainOf 11 = .ok (.iload_n 2, 1) := by decide +kernel
theorem dX12_plainOf_12 : decode cX12_plainOf 12 = .ok (.ifCond .ne 7, 3) := by decide +kernel
theorem dX12_plainOf_15 : decode cX12_plainOf 15 = .ok (.iconst 1, 1) := by decide +kernel
theorem dX12_plainOf_16 : decode cX12_plainOf 16 = .ok (.goto 4, 3) := by decide +kernel
theorem dX12_plainOf_19 : decode cX12_plainOf 19 = .ok (.iconst 0, 1) := by decide +kernel
theorem dX12_plainOf_20 : decode cX12_plainOf 20 = .ok (.istore_n 2, 1) := by decide +kernel
theorem dX12_plainOf_21 : decode cX12_plainOf 21 = .ok (.goto (-19), 3) := by decide +kernel
theorem dX12_plainOf_24 : decode cX12_plainOf 24 = .ok (.aload_n 0, 1) := by decide +kernel
theorem dX12_plainOf_25 : decode cX12_plainOf 25 = .ok (.iload_n 1, 1) := by decide +kernel
theorem dX12_plainOf_26 : decode cX12_plainOf 26 = .ok (.invokevirtual 283, 3) := by decide +kernel
theorem dX12_plainOf_29 : decode cX12_plainOf 29 = .ok (.iload_n 2, 1) := by decide +kernel
theorem dX12_plainOf_30 : decode cX12_plainOf 30 = .ok (.if_icmp .eq 7, 3) := by decide +kernel
theorem dX12_plainOf_33 : decode cX12_plainOf 33 = .ok (.iconst 1, 1) := by decide +kernel
theorem dX12_plainOf_34 : decode cX12_plainOf 34 = .ok (.goto 4, 3) := by decide +kernel
theorem dX12_plainOf_37 : decode cX12_plainOf 37 = .ok (.iconst 0, 1) := by decide +kernel
theorem dX12_plainOf_38 : decode cX12_plainOf 38 = .ok (.ireturn, 1) := by decide +kernel
theorem dX12_positiveOf_0 : decode cX12_positiveOf 0 = .ok (.aload_n 0, 1) := by decide +kernel
theorem dX12_positiveOf_1 : decode cX12_positiveOf 1 = .ok (.bipush 40, 2) := by decide +kernel
theorem dX12_positiveOf_3 : decode cX12_positiveOf 3 = .ok (.invokestatic 217, 3) := by decide +kernel
theorem dX12_positiveOf_6 : decode cX12_positiveOf 6 = .ok (.invokevirtual 270, 3) := by decide +kernel
theorem dX12_positiveOf_9 : decode cX12_positiveOf 9 = .ok (.ifCond .eq 21, 3) := by decide +kernel
theorem dX12_positiveOf_12 : decode cX12_positiveOf 12 = .ok (.aload_n 0, 1) := by decide +kernel
theorem dX12_positiveOf_13 : decode cX12_positiveOf 13 = .ok (.iload_n 1, 1) := by decide +kernel
theorem dX12_positiveOf_14 : decode cX12_positiveOf 14 = .ok (.invokevirtual 286, 3) := by decide +kernel
theorem dX12_positiveOf_17 : decode cX12_positiveOf 17 = .ok (.istore_n 2, 1) := by decide +kernel
theorem dX12_positiveOf_18 : decode cX12_positiveOf 18 = .ok (.aload_n 0, 1) := by decide +kernel
theorem dX12_positiveOf_19 : decode cX12_positiveOf 19 = .ok (.dup, 1) := by decide +kernel
theorem dX12_positiveOf_20 : decode cX12_positiveOf 20 = .ok (.getfield 245, 3) := by decide +kernel
theorem dX12_positiveOf_23 : decode cX12_positiveOf 23 = .ok (.iconst 1, 1) := by decide +kernel
theorem dX12_positiveOf_24 : decode cX12_positiveOf 24 = .ok (.iadd, 1) := by decide +kernel
theorem dX12_positiveOf_25 : decode cX12_positiveOf 25 = .ok (.putfield 245, 3) := by decide +kernel
theorem dX12_positiveOf_28 : decode cX12_positiveOf 28 = .ok (.iload_n 2, 1) := by decide +kernel
theorem dX12_positiveOf_29 : decode cX12_positiveOf 29 = .ok (.ireturn, 1) := by decide +kernel
theorem dX12_positiveOf_30 : decode cX12_positiveOf 30 = .ok (.aload_n 0, 1) := by decide +kernel
theorem dX12_positiveOf_31 : decode cX12_positiveOf 31 = .ok (.iload_n 1, 1) := by decide +kernel
theorem dX12_positiveOf_32 : decode cX12_positiveOf 32 = .ok (.invokevirtual 273, 3) := by decide +kernel
theorem dX12_positiveOf_35 : decode cX12_positiveOf 35 = .ok (.lstore_n 2, 1) := by decide +kernel
theorem dX12_positiveOf_36 : decode cX12_positiveOf 36 = .ok (.aload_n 0, 1) := by decide +kernel
theorem dX12_positiveOf_37 : decode cX12_positiveOf 37 = .ok (.aload_n 0, 1) := by decide +kernel
theorem dX12_positiveOf_38 : decode cX12_positiveOf 38 = .ok (.getfield 245, 3) := by decide +kernel
theorem dX12_positiveOf_41 : decode cX12_positiveOf 41 = .ok (.invokevirtual 248, 3) := by decide +kernel
theorem dX12_positiveOf_44 : decode cX12_positiveOf 44 = .ok (.istore 4, 2) := by decide +kernel
theorem dX12_positiveOf_46 : decode cX12_positiveOf 46 = .ok (.aload_n 0, 1) := by decide +kernel
theorem dX12_positiveOf_47 : decode cX12_positiveOf 47 = .ok (.dup, 1) := by decide +kernel
theorem dX12_positiveOf_48 : decode cX12_positiveOf 48 = .ok (.getfield 245, 3) := by decide +kernel
theorem dX12_positiveOf_51 : decode cX12_positiveOf 51 = .ok (.iconst 1, 1) := by decide +kernel
theorem dX12_positiveOf_52 : decode cX12_positiveOf 52 = .ok (.iadd, 1) := by decide +kernel
theorem dX12_positiveOf_53 : decode cX12_positiveOf 53 = .ok (.putfield 245, 3) := by decide +kernel
theorem dX12_positiveOf_56 : decode cX12_positiveOf 56 = .ok (.aload_n 0, 1) := by decide +kernel
theorem dX12_positiveOf_57 : decode cX12_positiveOf 57 = .ok (.iload_n 1, 1) := by decide +kernel
theorem dX12_positiveOf_58 : decode cX12_positiveOf 58 = .ok (.invokevirtual 273, 3) := by decide +kernel
theorem dX12_positiveOf_61 : decode cX12_positiveOf 61 = .ok (.lstore 5, 2) := by decide +kernel
theorem dX12_positiveOf_63 : decode cX12_positiveOf 63 = .ok (.iload_n 1, 1) := by decide +kernel
theorem dX12_positiveOf_64 : decode cX12_positiveOf 64 = .ok (.ifCond .eq 61, 3) := by decide +kernel
theorem dX12_positiveOf_67 : decode cX12_positiveOf 67 = .ok (.aload_n 0, 1) := by decide +kernel
theorem dX12_positiveOf_68 : decode cX12_positiveOf 68 = .ok (.getfield 255, 3) := by decide +kernel
theorem dX12_positiveOf_71 : decode cX12_positiveOf 71 = .ok (.ifCond .ne 54, 3) := by decide +kernel
theorem dX12_positiveOf_74 : decode cX12_positiveOf 74 = .ok (.iload 4, 2) := by decide +kernel
theorem dX12_positiveOf_76 : decode cX12_positiveOf 76 = .ok (.bipush 60, 2) := by decide +kernel
theorem dX12_positiveOf_78 : decode cX12_positiveOf 78 = .ok (.invokestatic 217, 3) := by decide +kernel
theorem dX12_positiveOf_81 : decode cX12_positiveOf 81 = .ok (.if_icmp .ne 13, 3) := by decide +kernel
theorem dX12_positiveOf_84 : decode cX12_positiveOf 84 = .ok (.lload_n 2, 1) := by decide +kernel
theorem dX12_positiveOf_85 : decode cX12_positiveOf 85 = .ok (.lload 5, 2) := by decide +kernel
theorem dX12_positiveOf_87 : decode cX12_positiveOf 87 = .ok (.lcmp, 1) := by decide +kernel
theorem dX12_positiveOf_88 : decode cX12_positiveOf 88 = .ok (.ifCond .ge 37, 3) := by decide +kernel
theorem dX12_positiveOf_91 : decode cX12_positiveOf 91 = .ok (.goto 30, 3) := by decide +kernel
theorem dX12_positiveOf_94 : decode cX12_positiveOf 94 = .ok (.iload 4, 2) := by decide +kernel
theorem dX12_positiveOf_96 : decode cX12_positiveOf 96 = .ok (.bipush 62, 2) := by decide +kernel
theorem dX12_positiveOf_98 : decode cX12_positiveOf 98 = .ok (.invokestatic 217, 3) := by decide +kernel
theorem dX12_positiveOf_101 : decode cX12_positiveOf 101 = .ok (.if_icmp .ne 13, 3) := by decide +kernel
theorem dX12_positiveOf_104 : decode cX12_positiveOf 104 = .ok (.lload_n 2, 1) := by decide +kernel
theorem dX12_positiveOf_105 : decode cX12_positiveOf 105 = .ok (.lload 5, 2) := by decide +kernel
theorem dX12_positiveOf_107 : decode cX12_positiveOf 107 = .ok (.lcmp, 1) := by decide +kernel
theorem dX12_positiveOf_108 : decode cX12_positiveOf 108 = .ok (.ifCond .le 17, 3) := by decide +kernel
theorem dX12_positiveOf_111 : decode cX12_positiveOf 111 = .ok (.goto 10, 3) := by decide +kernel
theorem dX12_positiveOf_114 : decode cX12_positiveOf 114 = .ok (.lload_n 2, 1) := by decide +kernel
theorem dX12_positiveOf_115 : decode cX12_positiveOf 115 = .ok (.lload 5, 2) := by decide +kernel
theorem dX12_positiveOf_117 : decode cX12_positiveOf 117 = .ok (.lcmp, 1) := by decide +kernel
theorem dX12_positiveOf_118 : decode cX12_positiveOf 118 = .ok (.ifCond .ne 7, 3) := by decide +kernel
theorem dX12_positiveOf_121 : decode cX12_positiveOf 121 = .ok (.iconst 1, 1) := by decide +kernel
theorem dX12_positiveOf_122 : decode cX12_positiveOf 122 = .ok (.goto 4, 3) := by decide +kernel
theorem dX12_positiveOf_125 : decode cX12_positiveOf 125 = .ok (.iconst 0, 1) := by decide +kernel
theorem dX12_positiveOf_126 : decode cX12_positiveOf 126 = .ok (.ireturn, 1) := by decide +kernel
theorem dX12_asks_0 : decode cX12_asks 0 = .ok (.aload_n 0, 1) := by decide +kernel
theorem dX12_asks_1 : decode cX12_asks 1 = .ok (.lconst 0, 1) := by decide +kernel
theorem dX12_asks_2 : decode cX12_asks 2 = .ok (.putfield 289, 3) := by decide +kernel
theorem dX12_asks_5 : decode cX12_asks 5 = .ok (.aload_n 0, 1) := by decide +kernel
theorem dX12_asks_6 : decode cX12_asks 6 = .ok (.iconst 0, 1) := by decide +kernel
theorem dX12_asks_7 : decode cX12_asks 7 = .ok (.putfield 293, 3) := by decide +kernel
theorem dX12_asks_10 : decode cX12_asks 10 = .ok (.iload_n 1, 1) := by decide +kernel
theorem dX12_asks_11 : decode cX12_asks 11 = .ok (.iconst (-1), 1) := by decide +kernel
theorem dX12_asks_12 : decode cX12_asks 12 = .ok (.if_icmp .ne 4, 3) := by decide +kernel
theorem dX12_asks_15 : decode cX12_asks 15 = .ok (.return_, 1) := by decide +kernel
theorem dX12_asks_16 : decode cX12_asks 16 = .ok (.aload_n 0, 1) := by decide +kernel
theorem dX12_asks_17 : decode cX12_asks 17 = .ok (.sipush 400, 3) := by decide +kernel
theorem dX12_asks_20 : decode cX12_asks 20 = .ok (.iload_n 1, 1) := by decide +kernel
theorem dX12_asks_21 : decode cX12_asks 21 = .ok (.imul, 1) := by decide +kernel
theorem dX12_asks_22 : decode cX12_asks 22 = .ok (.putfield 245, 3) := by decide +kernel
theorem dX12_asks_25 : decode cX12_asks 25 = .ok (.aload_n 0, 1) := by decide +kernel
theorem dX12_asks_26 : decode cX12_asks 26 = .ok (.aload_n 0, 1) := by decide +kernel
theorem dX12_asks_27 : decode cX12_asks 27 = .ok (.getfield 245, 3) := by decide +kernel
theorem dX12_asks_30 : decode cX12_asks 30 = .ok (.aload_n 0, 1) := by decide +kernel
theorem dX12_asks_31 : decode cX12_asks 31 = .ok (.getfield 20, 3) := by decide +kernel
theorem dX12_asks_34 : decode cX12_asks 34 = .ok (.sipush 1350, 3) := by decide +kernel
theorem dX12_asks_37 : decode cX12_asks 37 = .ok (.iload_n 1, 1) := by decide +kernel
theorem dX12_asks_38 : decode cX12_asks 38 = .ok (.iadd, 1) := by decide +kernel
theorem dX12_asks_39 : decode cX12_asks 39 = .ok (.iaload, 1) := by decide +kernel
theorem dX12_asks_40 : decode cX12_asks 40 = .ok (.iadd, 1) := by decide +kernel
theorem dX12_asks_41 : decode cX12_asks 41 = .ok (.putfield 242, 3) := by decide +kernel
theorem dX12_asks_44 : decode cX12_asks 44 = .ok (.aload_n 0, 1) := by decide +kernel
theorem dX12_asks_45 : decode cX12_asks 45 = .ok (.getfield 245, 3) := by decide +kernel
