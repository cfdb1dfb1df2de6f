theorem dX0_init_0 : decode cX0_init 0 = .ok (.aload_n 0, 1) := by decide +kernel
theorem dX0_init_1 : decode cX0_init 1 = .ok (.invokespecial 3, 3) := by decide +kernel
theorem dX0_init_4 : decode cX0_init 4 = .ok (.aload_n 0, 1) := by decide +kernel
theorem dX0_init_5 : decode cX0_init 5 = .ok (.bipush 64, 2) := by decide +kernel
theorem dX0_init_7 : decode cX0_init 7 = .ok (.newarray .int, 2) := by decide +kernel
theorem dX0_init_9 : decode cX0_init 9 = .ok (.putfield 9, 3) := by decide +kernel
theorem dX0_init_12 : decode cX0_init 12 = .ok (.aload_n 0, 1) := by decide +kernel
theorem dX0_init_13 : decode cX0_init 13 = .ok (.bipush 8, 2) := by decide +kernel
theorem dX0_init_15 : decode cX0_init 15 = .ok (.newarray .int, 2) := by decide +kernel
theorem dX0_init_17 : decode cX0_init 17 = .ok (.putfield 15, 3) := by decide +kernel
theorem dX0_init_20 : decode cX0_init 20 = .ok (.aload_n 0, 1) := by decide +kernel
theorem dX0_init_21 : decode cX0_init 21 = .ok (.bipush 8, 2) := by decide +kernel
theorem dX0_init_23 : decode cX0_init 23 = .ok (.newarray .int, 2) := by decide +kernel
theorem dX0_init_25 : decode cX0_init 25 = .ok (.putfield 18, 3) := by decide +kernel
theorem dX0_init_28 : decode cX0_init 28 = .ok (.return_, 1) := by decide +kernel
theorem dX0_forget_0 : decode cX0_forget 0 = .ok (.aload_n 0, 1) := by decide +kernel
theorem dX0_forget_1 : decode cX0_forget 1 = .ok (.iconst 0, 1) := by decide +kernel
theorem dX0_forget_2 : decode cX0_forget 2 = .ok (.putfield 21, 3) := by decide +kernel
theorem dX0_forget_5 : decode cX0_forget 5 = .ok (.return_, 1) := by decide +kernel
theorem dX0_becomeLike_0 : decode cX0_becomeLike 0 = .ok (.aload_n 1, 1) := by decide +kernel
theorem dX0_becomeLike_1 : decode cX0_becomeLike 1 = .ok (.getfield 9, 3) := by decide +kernel
theorem dX0_becomeLike_4 : decode cX0_becomeLike 4 = .ok (.iconst 0, 1) := by decide +kernel
theorem dX0_becomeLike_5 : decode cX0_becomeLike 5 = .ok (.aload_n 0, 1) := by decide +kernel
theorem dX0_becomeLike_6 : decode cX0_becomeLike 6 = .ok (.getfield 9, 3) := by decide +kernel
theorem dX0_becomeLike_9 : decode cX0_becomeLike 9 = .ok (.iconst 0, 1) := by decide +kernel
theorem dX0_becomeLike_10 : decode cX0_becomeLike 10 = .ok (.bipush 64, 2) := by decide +kernel
theorem dX0_becomeLike_12 : decode cX0_becomeLike 12 = .ok (.invokestatic 25, 3) := by decide +kernel
theorem dX0_becomeLike_15 : decode cX0_becomeLike 15 = .ok (.aload_n 1, 1) := by decide +kernel
theorem dX0_becomeLike_16 : decode cX0_becomeLike 16 = .ok (.getfield 15, 3) := by decide +kernel
theorem dX0_becomeLike_19 : decode cX0_becomeLike 19 = .ok (.iconst 0, 1) := by decide +kernel
theorem dX0_becomeLike_20 : decode cX0_becomeLike 20 = .ok (.aload_n 0, 1) := by decide +kernel
theorem dX0_becomeLike_21 : decode cX0_becomeLike 21 = .ok (.getfield 15, 3) := by decide +kernel
theorem dX0_becomeLike_24 : decode cX0_becomeLike 24 = .ok (.iconst 0, 1) := by decide +kernel
theorem dX0_becomeLike_25 : decode cX0_becomeLike 25 = .ok (.bipush 8, 2) := by decide +kernel
theorem dX0_becomeLike_27 : decode cX0_becomeLike 27 = .ok (.invokestatic 25, 3) := by decide +kernel
theorem dX0_becomeLike_30 : decode cX0_becomeLike 30 = .ok (.aload_n 1, 1) := by decide +kernel
theorem dX0_becomeLike_31 : decode cX0_becomeLike 31 = .ok (.getfield 18, 3) := by decide +kernel
theorem dX0_becomeLike_34 : decode cX0_becomeLike 34 = .ok (.iconst 0, 1) := by decide +kernel
theorem dX0_becomeLike_35 : decode cX0_becomeLike 35 = .ok (.aload_n 0, 1) := by decide +kernel
theorem dX0_becomeLike_36 : decode cX0_becomeLike 36 = .ok (.getfield 18, 3) := by decide +kernel
theorem dX0_becomeLike_39 : decode cX0_becomeLike 39 = .ok (.iconst 0, 1) := by decide +kernel
theorem dX0_becomeLike_40 : decode cX0_becomeLike 40 = .ok (.bipush 8, 2) := by decide +kernel
theorem dX0_becomeLike_42 : decode cX0_becomeLike 42 = .ok (.invokestatic 25, 3) := by decide +kernel
theorem dX0_becomeLike_45 : decode cX0_becomeLike 45 = .ok (.aload_n 0, 1) := by decide +kernel
theorem dX0_becomeLike_46 : decode cX0_becomeLike 46 = .ok (.aload_n 1, 1) := by decide +kernel
theorem dX0_becomeLike_47 : decode cX0_becomeLike 47 = .ok (.getfield 31, 3) := by decide +kernel
theorem dX0_becomeLike_50 : decode cX0_becomeLike 50 = .ok (.putfield 31, 3) := by decide +kernel
theorem dX0_becomeLike_53 : decode cX0_becomeLike 53 = .ok (.aload_n 0, 1) := by decide +kernel
theorem dX0_becomeLike_54 : decode cX0_becomeLike 54 = .ok (.aload_n 1, 1) := by decide +kernel
theorem dX0_becomeLike_55 : decode cX0_becomeLike 55 = .ok (.getfield 21, 3) := by decide +kernel
theorem dX0_becomeLike_58 : decode cX0_becomeLike 58 = .ok (.putfield 21, 3) := by decide +kernel
theorem dX0_becomeLike_61 : decode cX0_becomeLike 61 = .ok (.return_, 1) := by decide +kernel
theorem dX0_note_0 : decode cX0_note 0 = .ok (.aload_n 1, 1) := by decide +kernel
theorem dX0_note_1 : decode cX0_note 1 = .ok (.getfield 34, 3) := by decide +kernel
theorem dX0_note_4 : decode cX0_note 4 = .ok (.iconst 0, 1) := by decide +kernel
theorem dX0_note_5 : decode cX0_note 5 = .ok (.aload_n 0, 1) := by decide +kernel
theorem dX0_note_6 : decode cX0_note 6 = .ok (.getfield 9, 3) := by decide +kernel
theorem dX0_note_9 : decode cX0_note 9 = .ok (.aload_n 0, 1) := by decide +kernel
theorem dX0_note_10 : decode cX0_note 10 = .ok (.getfield 31, 3) := by decide +kernel
theorem dX0_note_13 : decode cX0_note 13 = .ok (.bipush 8, 2) := by decide +kernel
theorem dX0_note_15 : decode cX0_note 15 = .ok (.imul, 1) := by decide +kernel
theorem dX0_note_16 : decode cX0_note 16 = .ok (.bipush 8, 2) := by decide +kernel
theorem dX0_note_18 : decode cX0_note 18 = .ok (.invokestatic 25, 3) := by decide +kernel
theorem dX0_note_21 : decode cX0_note 21 = .ok (.aload_n 0, 1) := by decide +kernel
theorem dX0_note_22 : decode cX0_note 22 = .ok (.getfield 15, 3) := by decide +kernel
theorem dX0_note_25 : decode cX0_note 25 = .ok (.aload_n 0, 1) := by decide +kernel
theorem dX0_note_26 : decode cX0_note 26 = .ok (.getfield 31, 3) := by decide +kernel
theorem dX0_note_29 : decode cX0_note 29 = .ok (.aload_n 1, 1) := by decide +kernel
theorem dX0_note_30 : decode cX0_note 30 = .ok (.getfield 37, 3) := by decide +kernel
theorem dX0_note_33 : decode cX0_note 33 = .ok (.iastore, 1) := by decide +kernel
theorem dX0_note_34 : decode cX0_note 34 = .ok (.aload_n 0, 1) := by decide +kernel
theorem dX0_note_35 : decode cX0_note 35 = .ok (.getfield 18, 3) := by decide +kernel
theorem dX0_note_38 : decode cX0_note 38 = .ok (.aload_n 0, 1) := by decide +kernel
theorem dX0_note_39 : decode cX0_note 39 = .ok (.getfield 31, 3) := by decide +kernel
theorem dX0_note_42 : decode cX0_note 42 = .ok (.aload_n 1, 1) := by decide +kernel
theorem dX0_note_43 : decode cX0_note 43 = .ok (.getfield 40, 3) := by decide +kernel
theorem dX0_note_46 : decode cX0_note 46 = .ok (.iastore, 1) := by decide +kernel
theorem dX0_note_47 : decode cX0_note 47 = .ok (.aload_n 0, 1) := by decide +kernel
theorem dX0_note_48 : decode cX0_note 48 = .ok (.aload_n 0, 1) := by decide +kernel
theorem dX0_note_49 : decode cX0_note 49 = .ok (.getfield 31, 3) := by decide +kernel
theorem dX0_note_52 : decode cX0_note 52 = .ok (.iconst 1, 1) := by decide +kernel
theorem dX0_note_53 : decode cX0_note 53 = .ok (.iadd, 1) := by decide +kernel
theorem dX0_note_54 : decode cX0_note 54 = .ok (.bipush 8, 2) := by decide +kernel
theorem dX0_note_56 : decode cX0_note 56 = .ok (.irem, 1) := by decide +kernel
theorem dX0_note_57 : decode cX0_note 57 = .ok (.putfield 31, 3) := by decide +kernel
theorem dX0_note_60 : decode cX0_note 60 = .ok (.aload_n 0, 1) := by decide +kernel
theorem dX0_note_61 : decode cX0_note 61 = .ok (.aload_n 0, 1) := by decide +kernel
theorem dX0_note_62 : decode cX0_note 62 = .ok (.getfield 21, 3) := by decide +kernel
theorem dX0_note_65 : decode cX0_note 65 = .ok (.iconst 1, 1) := by decide +kernel
theorem dX0_note_66 : decode cX0_note 66 = .ok (.iadd, 1) := by decide +kernel
theorem dX0_note_67 : decode cX0_note 67 = .ok (.bipush 8, 2) := by decide +kernel
theorem dX0_note_69 : decode cX0_note 69 = .ok (.invokestatic 43, 3) := by decide +kernel
theorem dX0_note_72 : decode cX0_note 72 = .ok (.putfield 21, 3) := by decide +kernel
theorem dX0_note_75 : decode cX0_note 75 = .ok (.return_, 1) := by decide +kernel
theorem dX0_bringBack_0 : decode cX0_bringBack 0 = .ok (.aload_n 0, 1) := by decide +kernel
theorem dX0_bringBack_1 : decode cX0_bringBack 1 = .ok (.aload_n 0, 1) := by decide +kernel
theorem dX0_bringBack_2 : decode cX0_bringBack 2 = .ok (.getfield 31, 3) := by decide +kernel
theorem dX0_bringBack_5 : decode cX0_bringBack 5 = .ok (.bipush 8, 2) := by decide +kernel
theorem dX0_bringBack_7 : decode cX0_bringBack 7 = .ok (.iadd, 1) := by decide +kernel
theorem dX0_bringBack_8 : decode cX0_bringBack 8 = .ok (.iconst 1, 1) := by decide +kernel
theorem dX0_bringBack_9 : decode cX0_bringBack 9 = .ok (.isub, 1) := by decide +kernel
theorem dX0_bringBack_10 : decode cX0_bringBack 10 = .ok (.bipush 8, 2) := by decide +kernel
theorem dX0_bringBack_12 : decode cX0_bringBack 12 = .ok (.irem, 1) := by decide +kernel
theorem dX0_bringBack_13 : decode cX0_bringBack 13 = .ok (.putfield 31, 3) := by decide +kernel
theorem dX0_bringBack_16 : decode cX0_bringBack 16 = .ok (.aload_n 0, 1) := by decide +kernel
theorem dX0_bringBack_17 : decode cX0_bringBack 17 = .ok (.dup, 1) := by decide +kernel
theorem dX0_bringBack_18 : decode cX0_bringBack 18 = .ok (.getfield 21, 3) := by decide +kernel
theorem dX0_bringBack_21 : decode cX0_bringBack 21 = .ok (.iconst 1, 1) := by decide +kernel
theorem dX0_bringBack_22 : decode cX0_bringBack 22 = .ok (.isub, 1) := by decide +kernel
theorem dX0_bringBack_23 : decode cX0_bringBack 23 = .ok (.putfield 21, 3) := by decide +kernel
theorem dX0_bringBack_26 : decode cX0_bringBack 26 = .ok (.aload_n 0, 1) := by decide +kernel
theorem dX0_bringBack_27 : decode cX0_bringBack 27 = .ok (.getfield 9, 3) := by decide +kernel
theorem dX0_bringBack_30 : decode cX0_bringBack 30 = .ok (.aload_n 0, 1) := by decide +kernel
theorem dX0_bringBack_31 : decode cX0_bringBack 31 = .ok (.getfield 31, 3) := by decide +kernel
theorem dX0_bringBack_34 : decode cX0_bringBack 34 = .ok (.bipush 8, 2) := by decide +kernel
theorem dX0_bringBack_36 : decode cX0_bringBack 36 = .ok (.imul, 1) := by decide +kernel
theorem dX0_bringBack_37 : decode cX0_bringBack 37 = .ok (.aload_n 1, 1) := by decide +kernel
theorem dX0_bringBack_38 : decode cX0_bringBack 38 = .ok (.getfield 34, 3) := by decide +kernel
theorem dX0_bringBack_41 : decode cX0_bringBack 41 = .ok (.iconst 0, 1) := by decide +kernel
theorem dX0_bringBack_42 : decode cX0_bringBack 42 = .ok (.bipush 8, 2) := by decide +kernel
theorem dX0_bringBack_44 : decode cX0_bringBack 44 = .ok (.invokestatic 25, 3) := by decide +kernel
theorem dX0_bringBack_47 : decode cX0_bringBack 47 = .ok (.aload_n 1, 1) := by decide +kernel
theorem dX0_bringBack_48 : decode cX0_bringBack 48 = .ok (.aload_n 0, 1) := by decide +kernel
theorem dX0_bringBack_49 : decode cX0_bringBack 49 = .ok (.getfield 15, 3) := by decide +kernel
theorem dX0_bringBack_52 : decode cX0_bringBack 52 = .ok (.aload_n 0, 1) := by decide +kernel
theorem dX0_bringBack_53 : decode cX0_bringBack 53 = .ok (.getfield 31, 3) := by decide +kernel
theorem dX0_bringBack_56 : decode cX0_bringBack 56 = .ok (.iaload, 1) := by decide +kernel
theorem dX0_bringBack_57 : decode cX0_bringBack 57 = .ok (.putfield 37, 3) := by decide +kernel
theorem dX0_bringBack_60 : decode cX0_bringBack 60 = .ok (.aload_n 1, 1) := by decide +kernel
theorem dX0_bringBack_61 : decode cX0_bringBack 61 = .ok (.aload_n 0, 1) := by decide +kernel
theorem dX0_bringBack_62 : decode cX0_bringBack 62 = .ok (.getfield 18, 3) := by decide +kernel
theorem dX0_bringBack_65 : decode cX0_bringBack 65 = .ok (.aload_n 0, 1) := by decide +kernel
theorem dX0_bringBack_66 : decode cX0_bringBack 66 = .ok (.getfield 31, 3) := by decide +kernel
theorem dX0_bringBack_69 : decode cX0_bringBack 69 = .ok (.iaload, 1) := by decide +kernel
theorem dX0_bringBack_70 : decode cX0_bringBack 70 = .ok (.putfield 40, 3) := by decide +kernel
theorem dX0_bringBack_73 : decode cX0_bringBack 73 = .ok (.return_, 1) := by decide +kernel
theorem dX1_init_0 : decode cX1_init 0 = .ok (.aload_n 0, 1) := by decide +kernel
theorem dX1_init_1 : decode cX1_init 1 = .ok (.invokespecial 3, 3) := by decide +kernel
theorem dX1_init_4 : decode cX1_init 4 = .ok (.aload_n 0, 1) := by decide +kernel
theorem dX1_init_5 : decode cX1_init 5 = .ok (.bipush 8, 2) := by decide +kernel
theorem dX1_init_7 : decode cX1_init 7 = .ok (.newarray .int, 2) := by decide +kernel
theorem dX1_init_9 : decode cX1_init 9 = .ok (.putfield 9, 3) := by decide +kernel
theorem dX1_init_12 : decode cX1_init 12 = .ok (.aload_n 0, 1) := by decide +kernel
theorem dX1_init_13 : decode cX1_init 13 = .ok (.iconst 5, 1) := by decide +kernel
theorem dX1_init_14 : decode cX1_init 14 = .ok (.newarray .int, 2) := by decide +kernel
theorem dX1_init_16 : decode cX1_init 16 = .ok (.putfield 15, 3) := by decide +kernel
theorem dX1_init_19 : decode cX1_init 19 = .ok (.aload_n 0, 1) := by decide +kernel
theorem dX1_init_20 : decode cX1_init 20 = .ok (.iconst 5, 1) := by decide +kernel
theorem dX1_init_21 : decode cX1_init 21 = .ok (.newarray .int, 2) := by decide +kernel
theorem dX1_init_23 : decode cX1_init 23 = .ok (.putfield 18, 3) := by decide +kernel
theorem dX1_init_26 : decode cX1_init 26 = .ok (.aload_n 0, 1) := by decide +kernel
theorem dX1_init_27 : decode cX1_init 27 = .ok (.bipush 40, 2) := by decide +kernel
theorem dX1_init_29 : decode cX1_init 29 = .ok (.newarray .int, 2) := by decide +kernel
theorem dX1_init_31 : decode cX1_init 31 = .ok (.putfield 21, 3) := by decide +kernel
theorem dX1_init_34 : decode cX1_init 34 = .ok (.aload_n 0, 1) := by decide +kernel
theorem dX1_init_35 : decode cX1_init 35 = .ok (.bipush 16, 2) := by decide +kernel
theorem dX1_init_37 : decode cX1_init 37 = .ok (.newarray .int, 2) := by decide +kernel
theorem dX1_init_39 : decode cX1_init 39 = .ok (.putfield 24, 3) := by decide +kernel
theorem dX1_init_42 : decode cX1_init 42 = .ok (.aload_n 0, 1) := by decide +kernel
theorem dX1_init_43 : decode cX1_init 43 = .ok (.new 27, 3) := by decide +kernel
theorem dX1_init_46 : decode cX1_init 46 = .ok (.dup, 1) := by decide +kernel
theorem dX1_init_47 : decode cX1_init 47 = .ok (.invokespecial 29, 3) := by decide +kernel
theorem dX1_init_50 : decode cX1_init 50 = .ok (.putfield 30, 3) := by decide +kernel
theorem dX1_init_53 : decode cX1_init 53 = .ok (.aload_n 0, 1) := by decide +kernel
theorem dX1_init_54 : decode cX1_init 54 = .ok (.iconst 1, 1) := by decide +kernel
theorem dX1_init_55 : decode cX1_init 55 = .ok (.putfield 34, 3) := by decide +kernel
theorem dX1_init_58 : decode cX1_init 58 = .ok (.return_, 1) := by decide +kernel
theorem dX1_clear_0 : decode cX1_clear 0 = .ok (.aload_n 0, 1) := by decide +kernel
theorem dX1_clear_1 : decode cX1_clear 1 = .ok (.iconst 0, 1) := by decide +kernel
theorem dX1_clear_2 : decode cX1_clear 2 = .ok (.putfield 38, 3) := by decide +kernel
theorem dX1_clear_5 : decode cX1_clear 5 = .ok (.aload_n 0, 1) := by decide +kernel
theorem dX1_clear_6 : decode cX1_clear 6 = .ok (.iconst 0, 1) := by decide +kernel
theorem dX1_clear_7 : decode cX1_clear 7 = .ok (.putfield 41, 3) := by decide +kernel
theorem dX1_clear_10 : decode cX1_clear 10 = .ok (.aload_n 0, 1) := by decide +kernel
theorem dX1_clear_11 : decode cX1_clear 11 = .ok (.iconst 0, 1) := by decide +kernel
theorem dX1_clear_12 : decode cX1_clear 12 = .ok (.putfield 44, 3) := by decide +kernel
theorem dX1_clear_15 : decode cX1_clear 15 = .ok (.aload_n 0, 1) := by decide +kernel
theorem dX1_clear_16 : decode cX1_clear 16 = .ok (.iconst 0, 1) := by decide +kernel
theorem dX1_clear_17 : decode cX1_clear 17 = .ok (.putfield 47, 3) := by decide +kernel
theorem dX1_clear_20 : decode cX1_clear 20 = .ok (.aload_n 0, 1) := by decide +kernel
theorem dX1_clear_21 : decode cX1_clear 21 = .ok (.getfield 30, 3) := by decide +kernel
theorem dX1_clear_24 : decode cX1_clear 24 = .ok (.invokevirtual 50, 3) := by decide +kernel
theorem dX1_clear_27 : decode cX1_clear 27 = .ok (.return_, 1) := by decide +kernel
theorem dX1_becomeLike_0 : decode cX1_becomeLike 0 = .ok (.aload_n 1, 1) := by decide +kernel
theorem dX1_becomeLike_1 : decode cX1_becomeLike 1 = .ok (.getfield 9, 3) := by decide +kernel
theorem dX1_becomeLike_4 : decode cX1_becomeLike 4 = .ok (.iconst 0, 1) := by decide +kernel
theorem dX1_becomeLike_5 : decode cX1_becomeLike 5 = .ok (.aload_n 0, 1) := by decide +kernel
theorem dX1_becomeLike_6 : decode cX1_becomeLike 6 = .ok (.getfield 9, 3) := by decide +kernel
theorem dX1_becomeLike_9 : decode cX1_becomeLike 9 = .ok (.iconst 0, 1) := by decide +kernel
theorem dX1_becomeLike_10 : decode cX1_becomeLike 10 = .ok (.bipush 8, 2) := by decide +kernel
theorem dX1_becomeLike_12 : decode cX1_becomeLike 12 = .ok (.invokestatic 53, 3) := by decide +kernel
theorem dX1_becomeLike_15 : decode cX1_becomeLike 15 = .ok (.aload_n 1, 1) := by decide +kernel
theorem dX1_becomeLike_16 : decode cX1_becomeLike 16 = .ok (.getfield 15, 3) := by decide +kernel
theorem dX1_becomeLike_19 : decode cX1_becomeLike 19 = .ok (.iconst 0, 1) := by decide +kernel
theorem dX1_becomeLike_20 : decode cX1_becomeLike 20 = .ok (.aload_n 0, 1) := by decide +kernel
theorem dX1_becomeLike_21 : decode cX1_becomeLike 21 = .ok (.getfield 15, 3) := by decide +kernel
theorem dX1_becomeLike_24 : decode cX1_becomeLike 24 = .ok (.iconst 0, 1) := by decide +kernel
theorem dX1_becomeLike_25 : decode cX1_becomeLike 25 = .ok (.iconst 5, 1) := by decide +kernel
theorem dX1_becomeLike_26 : decode cX1_becomeLike 26 = .ok (.invokestatic 53, 3) := by decide +kernel
theorem dX1_becomeLike_29 : decode cX1_becomeLike 29 = .ok (.aload_n 1, 1) := by decide +kernel
theorem dX1_becomeLike_30 : decode cX1_becomeLike 30 = .ok (.getfield 18, 3) := by decide +kernel
theorem dX1_becomeLike_33 : decode cX1_becomeLike 33 = .ok (.iconst 0, 1) := by decide +kernel
theorem dX1_becomeLike_34 : decode cX1_becomeLike 34 = .ok (.aload_n 0, 1) := by decide +kernel
theorem dX1_becomeLike_35 : decode cX1_becomeLike 35 = .ok (.getfield 18, 3) := by decide +kernel
theorem dX1_becomeLike_38 : decode cX1_becomeLike 38 = .ok (.iconst 0, 1) := by decide +kernel
theorem dX1_becomeLike_39 : decode cX1_becomeLike 39 = .ok (.iconst 5, 1) := by decide +kernel
theorem dX1_becomeLike_40 : decode cX1_becomeLike 40 = .ok (.invokestatic 53, 3) := by decide +kernel
theorem dX1_becomeLike_43 : decode cX1_becomeLike 43 = .ok (.aload_n 1, 1) := by decide +kernel
theorem dX1_becomeLike_44 : decode cX1_becomeLike 44 = .ok (.getfield 21, 3) := by decide +kernel
theorem dX1_becomeLike_47 : decode cX1_becomeLike 47 = .ok (.iconst 0, 1) := by decide +kernel
theorem dX1_becomeLike_48 : decode cX1_becomeLike 48 = .ok (.aload_n 0, 1) := by decide +kernel
theorem dX1_becomeLike_49 : decode cX1_becomeLike 49 = .ok (.getfield 21, 3) := by decide +kernel
theorem dX1_becomeLike_52 : decode cX1_becomeLike 52 = .ok (.iconst 0, 1) := by decide +kernel
theorem dX1_becomeLike_53 : decode cX1_becomeLike 53 = .ok (.bipush 40, 2) := by decide +kernel
theorem dX1_becomeLike_55 : decode cX1_becomeLike 55 = .ok (.invokestatic 53, 3) := by decide +kernel
theorem dX1_becomeLike_58 : decode cX1_becomeLike 58 = .ok (.aload_n 1, 1) := by decide +kernel
theorem dX1_becomeLike_59 : decode cX1_becomeLike 59 = .ok (.getfield 24, 3) := by decide +kernel
theorem dX1_becomeLike_62 : decode cX1_becomeLike 62 = .ok (.iconst 0, 1) := by decide +kernel
theorem dX1_becomeLike_63 : decode cX1_becomeLike 63 = .ok (.aload_n 0, 1) := by decide +kernel
theorem dX1_becomeLike_64 : decode cX1_becomeLike 64 = .ok (.getfield 24, 3) := by decide +kernel
theorem dX1_becomeLike_67 : decode cX1_becomeLike 67 = .ok (.iconst 0, 1) := by decide +kernel
theorem dX1_becomeLike_68 : decode cX1_becomeLike 68 = .ok (.bipush 16, 2) := by decide +kernel
theorem dX1_becomeLike_70 : decode cX1_becomeLike 70 = .ok (.invokestatic 53, 3) := by decide +kernel
theorem dX1_becomeLike_73 : decode cX1_becomeLike 73 = .ok (.aload_n 0, 1) := by decide +kernel
theorem dX1_becomeLike_74 : decode cX1_becomeLike 74 = .ok (.aload_n 1, 1) := by decide +kernel
theorem dX1_becomeLike_75 : decode cX1_becomeLike 75 = .ok (.getfield 38, 3) := by decide +kernel
theorem dX1_becomeLike_78 : decode cX1_becomeLike 78 = .ok (.putfield 38, 3) := by decide +kernel
theorem dX1_becomeLike_81 : decode cX1_becomeLike 81 = .ok (.aload_n 0, 1) := by decide +kernel
theorem dX1_becomeLike_82 : decode cX1_becomeLike 82 = .ok (.aload_n 1, 1) := by decide +kernel
theorem dX1_becomeLike_83 : decode cX1_becomeLike 83 = .ok (.getfield 41, 3) := by decide +kernel
theorem dX1_becomeLike_86 : decode cX1_becomeLike 86 = .ok (.putfield 41, 3) := by decide +kernel
theorem dX1_becomeLike_89 : decode cX1_becomeLike 89 = .ok (.aload_n 0, 1) := by decide +kernel
theorem dX1_becomeLike_90 : decode cX1_becomeLike 90 = .ok (.aload_n 1, 1) := by decide +kernel
theorem dX1_becomeLike_91 : decode cX1_becomeLike 91 = .ok (.getfield 44, 3) := by decide +kernel
theorem dX1_becomeLike_94 : decode cX1_becomeLike 94 = .ok (.putfield 44, 3) := by decide +kernel
theorem dX1_becomeLike_97 : decode cX1_becomeLike 97 = .ok (.aload_n 0, 1) := by decide +kernel
theorem dX1_becomeLike_98 : decode cX1_becomeLike 98 = .ok (.aload_n 1, 1) := by decide +kernel
theorem dX1_becomeLike_99 : decode cX1_becomeLike 99 = .ok (.getfield 47, 3) := by decide +kernel
theorem dX1_becomeLike_102 : decode cX1_becomeLike 102 = .ok (.putfield 47, 3) := by decide +kernel
theorem dX1_becomeLike_105 : decode cX1_becomeLike 105 = .ok (.aload_n 0, 1) := by decide +kernel
theorem dX1_becomeLike_106 : decode cX1_becomeLike 106 = .ok (.aload_n 1, 1) := by decide +kernel
theorem dX1_becomeLike_107 : decode cX1_becomeLike 107 = .ok (.getfield 34, 3) := by decide +kernel
theorem dX1_becomeLike_110 : decode cX1_becomeLike 110 = .ok (.putfield 34, 3) := by decide +kernel
theorem dX1_becomeLike_113 : decode cX1_becomeLike 113 = .ok (.aload_n 0, 1) := by decide +kernel
theorem dX1_becomeLike_114 : decode cX1_becomeLike 114 = .ok (.getfield 30, 3) := by decide +kernel
theorem dX1_becomeLike_117 : decode cX1_becomeLike 117 = .ok (.aload_n 1, 1) := by decide +kernel
theorem dX1_becomeLike_118 : decode cX1_becomeLike 118 = .ok (.getfield 30, 3) := by decide +kernel
theorem dX1_becomeLike_121 : decode cX1_becomeLike 121 = .ok (.invokevirtual 59, 3) := by decide +kernel
theorem dX1_becomeLike_124 : decode cX1_becomeLike 124 = .ok (.return_, 1) := by decide +kernel
theorem dX1_hasAngel_0 : decode cX1_hasAngel 0 = .ok (.iload_n 1, 1) := by decide +kernel
theorem dX1_hasAngel_1 : decode cX1_hasAngel 1 = .ok (.ifCond .lt 15, 3) := by decide +kernel
theorem dX1_hasAngel_4 : decode cX1_hasAngel 4 = .ok (.iload_n 1, 1) := by decide +kernel
theorem dX1_hasAngel_5 : decode cX1_hasAngel 5 = .ok (.aload_n 0, 1) := by decide +kernel
theorem dX1_hasAngel_6 : decode cX1_hasAngel 6 = .ok (.getfield 38, 3) := by decide +kernel
theorem dX1_hasAngel_9 : decode cX1_hasAngel 9 = .ok (.if_icmp .ge 7, 3) := by decide +kernel
theorem dX1_hasAngel_12 : decode cX1_hasAngel 12 = .ok (.iconst 1, 1) := by decide +kernel
theorem dX1_hasAngel_13 : decode cX1_hasAngel 13 = .ok (.goto 4, 3) := by decide +kernel
theorem dX1_hasAngel_16 : decode cX1_hasAngel 16 = .ok (.iconst 0, 1) := by decide +kernel
theorem dX1_hasAngel_17 : decode cX1_hasAngel 17 = .ok (.ireturn, 1) := by decide +kernel
theorem dX1_hasFigure_0 : decode cX1_hasFigure 0 = .ok (.iload_n 1, 1) := by decide +kernel
theorem dX1_hasFigure_1 : decode cX1_hasFigure 1 = .ok (.ifCond .lt 15, 3) := by decide +kernel
theorem dX1_hasFigure_4 : decode cX1_hasFigure 4 = .ok (.iload_n 1, 1) := by decide +kernel
theorem dX1_hasFigure_5 : decode cX1_hasFigure 5 = .ok (.aload_n 0, 1) := by decide +kernel
theorem dX1_hasFigure_6 : decode cX1_hasFigure 6 = .ok (.getfield 41, 3) := by decide +kernel
theorem dX1_hasFigure_9 : decode cX1_hasFigure 9 = .ok (.if_icmp .ge 7, 3) := by decide +kernel
theorem dX1_hasFigure_12 : decode cX1_hasFigure 12 = .ok (.iconst 1, 1) := by decide +kernel
theorem dX1_hasFigure_13 : decode cX1_hasFigure 13 = .ok (.goto 4, 3) := by decide +kernel
theorem dX1_hasFigure_16 : decode cX1_hasFigure 16 = .ok (.iconst 0, 1) := by decide +kernel
theorem dX1_hasFigure_17 : decode cX1_hasFigure 17 = .ok (.ireturn, 1) := by decide +kernel
theorem dX1_addAngel_0 : decode cX1_addAngel 0 = .ok (.aload_n 0, 1) := by decide +kernel
theorem dX1_addAngel_1 : decode cX1_addAngel 1 = .ok (.getfield 38, 3) := by decide +kernel
theorem dX1_addAngel_4 : decode cX1_addAngel 4 = .ok (.bipush 8, 2) := by decide +kernel
theorem dX1_addAngel_6 : decode cX1_addAngel 6 = .ok (.if_icmp .lt 6, 3) := by decide +kernel
theorem dX1_addAngel_9 : decode cX1_addAngel 9 = .ok (.bipush (-3), 2) := by decide +kernel
theorem dX1_addAngel_11 : decode cX1_addAngel 11 = .ok (.ireturn, 1) := by decide +kernel
theorem dX1_addAngel_12 : decode cX1_addAngel 12 = .ok (.aload_n 0, 1) := by decide +kernel
theorem dX1_addAngel_13 : decode cX1_addAngel 13 = .ok (.getfield 9, 3) := by decide +kernel
theorem dX1_addAngel_16 : decode cX1_addAngel 16 = .ok (.aload_n 0, 1) := by decide +kernel
theorem dX1_addAngel_17 : decode cX1_addAngel 17 = .ok (.getfield 38, 3) := by decide +kernel
theorem dX1_addAngel_20 : decode cX1_addAngel 20 = .ok (.iload_n 1, 1) := by decide +kernel
theorem dX1_addAngel_21 : decode cX1_addAngel 21 = .ok (.iastore, 1) := by decide +kernel
theorem dX1_addAngel_22 : decode cX1_addAngel 22 = .ok (.aload_n 0, 1) := by decide +kernel
theorem dX1_addAngel_23 : decode cX1_addAngel 23 = .ok (.dup, 1) := by decide +kernel
theorem dX1_addAngel_24 : decode cX1_addAngel 24 = .ok (.getfield 38, 3) := by decide +kernel
theorem dX1_addAngel_27 : decode cX1_addAngel 27 = .ok (.iconst 1, 1) := by decide +kernel
theorem dX1_addAngel_28 : decode cX1_addAngel 28 = .ok (.iadd, 1) := by decide +kernel
theorem dX1_addAngel_29 : decode cX1_addAngel 29 = .ok (.putfield 38, 3) := by decide +kernel
theorem dX1_addAngel_32 : decode cX1_addAngel 32 = .ok (.aload_n 0, 1) := by decide +kernel
theorem dX1_addAngel_33 : decode cX1_addAngel 33 = .ok (.getfield 38, 3) := by decide +kernel
theorem dX1_addAngel_36 : decode cX1_addAngel 36 = .ok (.iconst 1, 1) := by decide +kernel
theorem dX1_addAngel_37 : decode cX1_addAngel 37 = .ok (.isub, 1) := by decide +kernel
theorem dX1_addAngel_38 : decode cX1_addAngel 38 = .ok (.ireturn, 1) := by decide +kernel
theorem dX1_addFigure_0 : decode cX1_addFigure 0 = .ok (.aload_n 0, 1) := by decide +kernel
theorem dX1_addFigure_1 : decode cX1_addFigure 1 = .ok (.getfield 41, 3) := by decide +kernel
theorem dX1_addFigure_4 : decode cX1_addFigure 4 = .ok (.iconst 5, 1) := by decide +kernel
theorem dX1_addFigure_5 : decode cX1_addFigure 5 = .ok (.if_icmp .lt 6, 3) := by decide +kernel
theorem dX1_addFigure_8 : decode cX1_addFigure 8 = .ok (.bipush (-3), 2) := by decide +kernel
theorem dX1_addFigure_10 : decode cX1_addFigure 10 = .ok (.ireturn, 1) := by decide +kernel
theorem dX1_addFigure_11 : decode cX1_addFigure 11 = .ok (.aload_n 0, 1) := by decide +kernel
theorem dX1_addFigure_12 : decode cX1_addFigure 12 = .ok (.aload_n 0, 1) := by decide +kernel
theorem dX1_addFigure_13 : decode cX1_addFigure 13 = .ok (.getfield 41, 3) := by decide +kernel
theorem dX1_addFigure_16 : decode cX1_addFigure 16 = .ok (.iload_n 1, 1) := by decide +kernel
theorem dX1_addFigure_17 : decode cX1_addFigure 17 = .ok (.iload_n 2, 1) := by decide +kernel
theorem dX1_addFigure_18 : decode cX1_addFigure 18 = .ok (.invokevirtual 63, 3) := by decide +kernel
theorem dX1_addFigure_21 : decode cX1_addFigure 21 = .ok (.aload_n 0, 1) := by decide +kernel
theorem dX1_addFigure_22 : decode cX1_addFigure 22 = .ok (.dup, 1) := by decide +kernel
theorem dX1_addFigure_23 : decode cX1_addFigure 23 = .ok (.getfield 41, 3) := by decide +kernel
theorem dX1_addFigure_26 : decode cX1_addFigure 26 = .ok (.iconst 1, 1) := by decide +kernel
theorem dX1_addFigure_27 : decode cX1_addFigure 27 = .ok (.iadd, 1) := by decide +kernel
theorem dX1_addFigure_28 : decode cX1_addFigure 28 = .ok (.putfield 41, 3) := by decide +kernel
theorem dX1_addFigure_31 : decode cX1_addFigure 31 = .ok (.aload_n 0, 1) := by decide +kernel
theorem dX1_addFigure_32 : decode cX1_addFigure 32 = .ok (.getfield 41, 3) := by decide +kernel
theorem dX1_addFigure_35 : decode cX1_addFigure 35 = .ok (.iconst 1, 1) := by decide +kernel
theorem dX1_addFigure_36 : decode cX1_addFigure 36 = .ok (.isub, 1) := by decide +kernel
theorem dX1_addFigure_37 : decode cX1_addFigure 37 = .ok (.ireturn, 1) := by decide +kernel
theorem dX1_tell_0 : decode cX1_tell 0 = .ok (.aload_n 0, 1) := by decide +kernel
theorem dX1_tell_1 : decode cX1_tell 1 = .ok (.getfield 15, 3) := by decide +kernel
theorem dX1_tell_4 : decode cX1_tell 4 = .ok (.iload_n 1, 1) := by decide +kernel
theorem dX1_tell_5 : decode cX1_tell 5 = .ok (.iload_n 2, 1) := by decide +kernel
theorem dX1_tell_6 : decode cX1_tell 6 = .ok (.iastore, 1) := by decide +kernel
theorem dX1_tell_7 : decode cX1_tell 7 = .ok (.aload_n 0, 1) := by decide +kernel
theorem dX1_tell_8 : decode cX1_tell 8 = .ok (.getfield 18, 3) := by decide +kernel
theorem dX1_tell_11 : decode cX1_tell 11 = .ok (.iload_n 1, 1) := by decide +kernel
theorem dX1_tell_12 : decode cX1_tell 12 = .ok (.iload_n 3, 1) := by decide +kernel
theorem dX1_tell_13 : decode cX1_tell 13 = .ok (.iastore, 1) := by decide +kernel
theorem dX1_tell_14 : decode cX1_tell 14 = .ok (.iconst 0, 1) := by decide +kernel
theorem dX1_tell_15 : decode cX1_tell 15 = .ok (.istore 4, 2) := by decide +kernel
theorem dX1_tell_17 : decode cX1_tell 17 = .ok (.iload 4, 2) := by decide +kernel
theorem dX1_tell_19 : decode cX1_tell 19 = .ok (.bipush 8, 2) := by decide +kernel
theorem dX1_tell_21 : decode cX1_tell 21 = .ok (.if_icmp .ge 28, 3) := by decide +kernel
theorem dX1_tell_24 : decode cX1_tell 24 = .ok (.aload_n 0, 1) := by decide +kernel
theorem dX1_tell_25 : decode cX1_tell 25 = .ok (.getfield 21, 3) := by decide +kernel
theorem dX1_tell_28 : decode cX1_tell 28 = .ok (.iload_n 1, 1) := by decide +kernel
theorem dX1_tell_29 : decode cX1_tell 29 = .ok (.bipush 8, 2) := by decide +kernel
theorem dX1_tell_31 : decode cX1_tell 31 = .ok (.imul, 1) := by decide +kernel
theorem dX1_tell_32 : decode cX1_tell 32 = .ok (.iload 4, 2) := by decide +kernel
theorem dX1_tell_34 : decode cX1_tell 34 = .ok (.iadd, 1) := by decide +kernel
theorem dX1_tell_35 : decode cX1_tell 35 = .ok (.iload_n 2, 1) := by decide +kernel
theorem dX1_tell_36 : decode cX1_tell 36 = .ok (.iload_n 3, 1) := by decide +kernel
theorem dX1_tell_37 : decode cX1_tell 37 = .ok (.iload 4, 2) := by decide +kernel
theorem dX1_tell_39 : decode cX1_tell 39 = .ok (.invokestatic 67, 3) := by decide +kernel
theorem dX1_tell_42 : decode cX1_tell 42 = .ok (.iastore, 1) := by decide +kernel
theorem dX1_tell_43 : decode cX1_tell 43 = .ok (.iinc 4 1, 3) := by decide +kernel
theorem dX1_tell_46 : decode cX1_tell 46 = .ok (.goto (-29), 3) := by decide +kernel
theorem dX1_tell_49 : decode cX1_tell 49 = .ok (.return_, 1) := by decide +kernel
theorem dX1_addToTune_0 : decode cX1_addToTune 0 = .ok (.aload_n 0, 1) := by decide +kernel
theorem dX1_addToTune_1 : decode cX1_addToTune 1 = .ok (.getfield 44, 3) := by decide +kernel
theorem dX1_addToTune_4 : decode cX1_addToTune 4 = .ok (.bipush 16, 2) := by decide +kernel
theorem dX1_addToTune_6 : decode cX1_addToTune 6 = .ok (.if_icmp .lt 6, 3) := by decide +kernel
theorem dX1_addToTune_9 : decode cX1_addToTune 9 = .ok (.bipush (-3), 2) := by decide +kernel
theorem dX1_addToTune_11 : decode cX1_addToTune 11 = .ok (.ireturn, 1) := by decide +kernel
theorem dX1_addToTune_12 : decode cX1_addToTune 12 = .ok (.aload_n 0, 1) := by decide +kernel
theorem dX1_addToTune_13 : decode cX1_addToTune 13 = .ok (.getfield 24, 3) := by decide +kernel
theorem dX1_addToTune_16 : decode cX1_addToTune 16 = .ok (.aload_n 0, 1) := by decide +kernel
theorem dX1_addToTune_17 : decode cX1_addToTune 17 = .ok (.getfield 44, 3) := by decide +kernel
theorem dX1_addToTune_20 : decode cX1_addToTune 20 = .ok (.iload_n 1, 1) := by decide +kernel
theorem dX1_addToTune_21 : decode cX1_addToTune 21 = .ok (.iastore, 1) := by decide +kernel
theorem dX1_addToTune_22 : decode cX1_addToTune 22 = .ok (.aload_n 0, 1) := by decide +kernel
theorem dX1_addToTune_23 : decode cX1_addToTune 23 = .ok (.dup, 1) := by decide +kernel
theorem dX1_addToTune_24 : decode cX1_addToTune 24 = .ok (.getfield 44, 3) := by decide +kernel
theorem dX1_addToTune_27 : decode cX1_addToTune 27 = .ok (.iconst 1, 1) := by decide +kernel
theorem dX1_addToTune_28 : decode cX1_addToTune 28 = .ok (.iadd, 1) := by decide +kernel
theorem dX1_addToTune_29 : decode cX1_addToTune 29 = .ok (.putfield 44, 3) := by decide +kernel
theorem dX1_addToTune_32 : decode cX1_addToTune 32 = .ok (.aload_n 0, 1) := by decide +kernel
theorem dX1_addToTune_33 : decode cX1_addToTune 33 = .ok (.getfield 44, 3) := by decide +kernel
theorem dX1_addToTune_36 : decode cX1_addToTune 36 = .ok (.ireturn, 1) := by decide +kernel
theorem dX1_standing_0 : decode cX1_standing 0 = .ok (.iconst 0, 1) := by decide +kernel
theorem dX1_standing_1 : decode cX1_standing 1 = .ok (.istore_n 1, 1) := by decide +kernel
theorem dX1_standing_2 : decode cX1_standing 2 = .ok (.iconst 0, 1) := by decide +kernel
theorem dX1_standing_3 : decode cX1_standing 3 = .ok (.istore_n 2, 1) := by decide +kernel
theorem dX1_standing_4 : decode cX1_standing 4 = .ok (.iload_n 2, 1) := by decide +kernel
theorem dX1_standing_5 : decode cX1_standing 5 = .ok (.aload_n 0, 1) := by decide +kernel
theorem dX1_standing_6 : decode cX1_standing 6 = .ok (.getfield 38, 3) := by decide +kernel
theorem dX1_standing_9 : decode cX1_standing 9 = .ok (.if_icmp .ge 21, 3) := by decide +kernel
theorem dX1_standing_12 : decode cX1_standing 12 = .ok (.iload_n 1, 1) := by decide +kernel
theorem dX1_standing_13 : decode cX1_standing 13 = .ok (.aload_n 0, 1) := by decide +kernel
theorem dX1_standing_14 : decode cX1_standing 14 = .ok (.getfield 9, 3) := by decide +kernel
theorem dX1_standing_17 : decode cX1_standing 17 = .ok (.iload_n 2, 1) := by decide +kernel
theorem dX1_standing_18 : decode cX1_standing 18 = .ok (.iaload, 1) := by decide +kernel
theorem dX1_standing_19 : decode cX1_standing 19 = .ok (.invokestatic 71, 3) := by decide +kernel
theorem dX1_standing_22 : decode cX1_standing 22 = .ok (.ior, 1) := by decide +kernel
theorem dX1_standing_23 : decode cX1_standing 23 = .ok (.istore_n 1, 1) := by decide +kernel
theorem dX1_standing_24 : decode cX1_standing 24 = .ok (.iinc 2 1, 3) := by decide +kernel
theorem dX1_standing_27 : decode cX1_standing 27 = .ok (.goto (-23), 3) := by decide +kernel
theorem dX1_standing_30 : decode cX1_standing 30 = .ok (.iload_n 1, 1) := by decide +kernel
theorem dX1_standing_31 : decode cX1_standing 31 = .ok (.ireturn, 1) := by decide +kernel
theorem dX1_goneOnes_0 : decode cX1_goneOnes 0 = .ok (.iconst 0, 1) := by decide +kernel
theorem dX1_goneOnes_1 : decode cX1_goneOnes 1 = .ok (.istore_n 1, 1) := by decide +kernel
theorem dX1_goneOnes_2 : decode cX1_goneOnes 2 = .ok (.iconst 0, 1) := by decide +kernel
theorem dX1_goneOnes_3 : decode cX1_goneOnes 3 = .ok (.istore_n 2, 1) := by decide +kernel
theorem dX1_goneOnes_4 : decode cX1_goneOnes 4 = .ok (.iload_n 2, 1) := by decide +kernel
theorem dX1_goneOnes_5 : decode cX1_goneOnes 5 = .ok (.aload_n 0, 1) := by decide +kernel
theorem dX1_goneOnes_6 : decode cX1_goneOnes 6 = .ok (.getfield 38, 3) := by decide +kernel
theorem dX1_goneOnes_9 : decode cX1_goneOnes 9 = .ok (.if_icmp .ge 26, 3) := by decide +kernel
theorem dX1_goneOnes_12 : decode cX1_goneOnes 12 = .ok (.aload_n 0, 1) := by decide +kernel
theorem dX1_goneOnes_13 : decode cX1_goneOnes 13 = .ok (.getfield 9, 3) := by decide +kernel
theorem dX1_goneOnes_16 : decode cX1_goneOnes 16 = .ok (.iload_n 2, 1) := by decide +kernel
theorem dX1_goneOnes_17 : decode cX1_goneOnes 17 = .ok (.iaload, 1) := by decide +kernel
theorem dX1_goneOnes_18 : decode cX1_goneOnes 18 = .ok (.bipush (-4), 2) := by decide +kernel
theorem dX1_goneOnes_20 : decode cX1_goneOnes 20 = .ok (.if_icmp .ne 9, 3) := by decide +kernel
theorem dX1_goneOnes_23 : decode cX1_goneOnes 23 = .ok (.iload_n 1, 1) := by decide +kernel
theorem dX1_goneOnes_24 : decode cX1_goneOnes 24 = .ok (.iconst 1, 1) := by decide +kernel
theorem dX1_goneOnes_25 : decode cX1_goneOnes 25 = .ok (.iload_n 2, 1) := by decide +kernel
theorem dX1_goneOnes_26 : decode cX1_goneOnes 26 = .ok (.ishl, 1) := by decide +kernel
theorem dX1_goneOnes_27 : decode cX1_goneOnes 27 = .ok (.ior, 1) := by decide +kernel
theorem dX1_goneOnes_28 : decode cX1_goneOnes 28 = .ok (.istore_n 1, 1) := by decide +kernel
theorem dX1_goneOnes_29 : decode cX1_goneOnes 29 = .ok (.iinc 2 1, 3) := by decide +kernel
theorem dX1_goneOnes_32 : decode cX1_goneOnes 32 = .ok (.goto (-28), 3) := by decide +kernel
theorem dX1_goneOnes_35 : decode cX1_goneOnes 35 = .ok (.iload_n 1, 1) := by decide +kernel
theorem dX1_goneOnes_36 : decode cX1_goneOnes 36 = .ok (.ireturn, 1) := by decide +kernel
theorem dX1_ledBy_0 : decode cX1_ledBy 0 = .ok (.aload_n 0, 1) := by decide +kernel
theorem dX1_ledBy_1 : decode cX1_ledBy 1 = .ok (.getfield 21, 3) := by decide +kernel
theorem dX1_ledBy_4 : decode cX1_ledBy 4 = .ok (.iload_n 1, 1) := by decide +kernel
theorem dX1_ledBy_5 : decode cX1_ledBy 5 = .ok (.bipush 8, 2) := by decide +kernel
theorem dX1_ledBy_7 : decode cX1_ledBy 7 = .ok (.imul, 1) := by decide +kernel
theorem dX1_ledBy_8 : decode cX1_ledBy 8 = .ok (.iload_n 2, 1) := by decide +kernel
theorem dX1_ledBy_9 : decode cX1_ledBy 9 = .ok (.iadd, 1) := by decide +kernel
theorem dX1_ledBy_10 : decode cX1_ledBy 10 = .ok (.iaload, 1) := by decide +kernel
theorem dX1_ledBy_11 : decode cX1_ledBy 11 = .ok (.ireturn, 1) := by decide +kernel
theorem dX1_setLedBy_0 : decode cX1_setLedBy 0 = .ok (.iconst 0, 1) := by decide +kernel
theorem dX1_setLedBy_1 : decode cX1_setLedBy 1 = .ok (.istore_n 3, 1) := by decide +kernel
theorem dX1_setLedBy_2 : decode cX1_setLedBy 2 = .ok (.iconst 0, 1) := by decide +kernel
theorem dX1_setLedBy_3 : decode cX1_setLedBy 3 = .ok (.istore 4, 2) := by decide +kernel
theorem dX1_setLedBy_5 : decode cX1_setLedBy 5 = .ok (.iload 4, 2) := by decide +kernel
theorem dX1_setLedBy_7 : decode cX1_setLedBy 7 = .ok (.bipush 8, 2) := by decide +kernel
theorem dX1_setLedBy_9 : decode cX1_setLedBy 9 = .ok (.if_icmp .ge 31, 3) := by decide +kernel
theorem dX1_setLedBy_12 : decode cX1_setLedBy 12 = .ok (.iload_n 2, 1) := by decide +kernel
theorem dX1_setLedBy_13 : decode cX1_setLedBy 13 = .ok (.iload 4, 2) := by decide +kernel
theorem dX1_setLedBy_15 : decode cX1_setLedBy 15 = .ok (.invokestatic 75, 3) := by decide +kernel
theorem dX1_setLedBy_18 : decode cX1_setLedBy 18 = .ok (.ifCond .eq 16, 3) := by decide +kernel
theorem dX1_setLedBy_21 : decode cX1_setLedBy 21 = .ok (.iload_n 3, 1) := by decide +kernel
theorem dX1_setLedBy_22 : decode cX1_setLedBy 22 = .ok (.aload_n 0, 1) := by decide +kernel
theorem dX1_setLedBy_23 : decode cX1_setLedBy 23 = .ok (.iload_n 1, 1) := by decide +kernel
theorem dX1_setLedBy_24 : decode cX1_setLedBy 24 = .ok (.iload 4, 2) := by decide +kernel
theorem dX1_setLedBy_26 : decode cX1_setLedBy 26 = .ok (.invokevirtual 79, 3) := by decide +kernel
theorem dX1_setLedBy_29 : decode cX1_setLedBy 29 = .ok (.invokestatic 71, 3) := by decide +kernel
theorem dX1_setLedBy_32 : decode cX1_setLedBy 32 = .ok (.ior, 1) := by decide +kernel
theorem dX1_setLedBy_33 : decode cX1_setLedBy 33 = .ok (.istore_n 3, 1) := by decide +kernel
theorem dX1_setLedBy_34 : decode cX1_setLedBy 34 = .ok (.iinc 4 1, 3) := by decide +kernel
theorem dX1_setLedBy_37 : decode cX1_setLedBy 37 = .ok (.goto (-32), 3) := by decide +kernel
theorem dX1_setLedBy_40 : decode cX1_setLedBy 40 = .ok (.iload_n 3, 1) := by decide +kernel
theorem dX1_setLedBy_41 : decode cX1_setLedBy 41 = .ok (.ireturn, 1) := by decide +kernel
theorem dX1_orderOf_0 : decode cX1_orderOf 0 = .ok (.iconst 1, 1) := by decide +kernel
theorem dX1_orderOf_1 : decode cX1_orderOf 1 = .ok (.istore_n 2, 1) := by decide +kernel
theorem dX1_orderOf_2 : decode cX1_orderOf 2 = .ok (.iconst 0, 1) := by decide +kernel
theorem dX1_orderOf_3 : decode cX1_orderOf 3 = .ok (.istore_n 3, 1) := by decide +kernel
theorem dX1_orderOf_4 : decode cX1_orderOf 4 = .ok (.iload_n 3, 1) := by decide +kernel
theorem dX1_orderOf_5 : decode cX1_orderOf 5 = .ok (.bipush 8, 2) := by decide +kernel
theorem dX1_orderOf_7 : decode cX1_orderOf 7 = .ok (.if_icmp .ge 38, 3) := by decide +kernel
theorem dX1_orderOf_10 : decode cX1_orderOf 10 = .ok (.aload_n 0, 1) := by decide +kernel
theorem dX1_orderOf_11 : decode cX1_orderOf 11 = .ok (.iload_n 1, 1) := by decide +kernel
theorem dX1_orderOf_12 : decode cX1_orderOf 12 = .ok (.iload_n 3, 1) := by decide +kernel
theorem dX1_orderOf_13 : decode cX1_orderOf 13 = .ok (.invokevirtual 83, 3) := by decide +kernel
theorem dX1_orderOf_16 : decode cX1_orderOf 16 = .ok (.istore 4, 2) := by decide +kernel
theorem dX1_orderOf_18 : decode cX1_orderOf 18 = .ok (.iload_n 2, 1) := by decide +kernel
theorem dX1_orderOf_19 : decode cX1_orderOf 19 = .ok (.iload 4, 2) := by decide +kernel
theorem dX1_orderOf_21 : decode cX1_orderOf 21 = .ok (.invokestatic 86, 3) := by decide +kernel
theorem dX1_orderOf_24 : decode cX1_orderOf 24 = .ok (.istore 5, 2) := by decide +kernel
theorem dX1_orderOf_26 : decode cX1_orderOf 26 = .ok (.iload 5, 2) := by decide +kernel
theorem dX1_orderOf_28 : decode cX1_orderOf 28 = .ok (.ifCond .le 11, 3) := by decide +kernel
theorem dX1_orderOf_31 : decode cX1_orderOf 31 = .ok (.iload_n 2, 1) := by decide +kernel
theorem dX1_orderOf_32 : decode cX1_orderOf 32 = .ok (.iload 5, 2) := by decide +kernel
theorem dX1_orderOf_34 : decode cX1_orderOf 34 = .ok (.idiv, 1) := by decide +kernel
theorem dX1_orderOf_35 : decode cX1_orderOf 35 = .ok (.iload 4, 2) := by decide +kernel
theorem dX1_orderOf_37 : decode cX1_orderOf 37 = .ok (.imul, 1) := by decide +kernel
theorem dX1_orderOf_38 : decode cX1_orderOf 38 = .ok (.istore_n 2, 1) := by decide +kernel
theorem dX1_orderOf_39 : decode cX1_orderOf 39 = .ok (.iinc 3 1, 3) := by decide +kernel
theorem dX1_orderOf_42 : decode cX1_orderOf 42 = .ok (.goto (-38), 3) := by decide +kernel
theorem dX1_orderOf_45 : decode cX1_orderOf 45 = .ok (.iload_n 2, 1) := by decide +kernel
theorem dX1_orderOf_46 : decode cX1_orderOf 46 = .ok (.ireturn, 1) := by decide +kernel
theorem dX1_turnsTillBack_0 : decode cX1_turnsTillBack 0 = .ok (.iconst 1, 1) := by decide +kernel
theorem dX1_turnsTillBack_1 : decode cX1_turnsTillBack 1 = .ok (.istore_n 3, 1) := by decide +kernel
theorem dX1_turnsTillBack_2 : decode cX1_turnsTillBack 2 = .ok (.aload_n 0, 1) := by decide +kernel
theorem dX1_turnsTillBack_3 : decode cX1_turnsTillBack 3 = .ok (.iload_n 1, 1) := by decide +kernel
theorem dX1_turnsTillBack_4 : decode cX1_turnsTillBack 4 = .ok (.iload_n 2, 1) := by decide +kernel
theorem dX1_turnsTillBack_5 : decode cX1_turnsTillBack 5 = .ok (.invokevirtual 79, 3) := by decide +kernel
theorem dX1_turnsTillBack_8 : decode cX1_turnsTillBack 8 = .ok (.istore 4, 2) := by decide +kernel
theorem dX1_turnsTillBack_10 : decode cX1_turnsTillBack 10 = .ok (.iload_n 3, 1) := by decide +kernel
theorem dX1_turnsTillBack_11 : decode cX1_turnsTillBack 11 = .ok (.bipush 8, 2) := by decide +kernel
theorem dX1_turnsTillBack_13 : decode cX1_turnsTillBack 13 = .ok (.if_icmp .ge 24, 3) := by decide +kernel
theorem dX1_turnsTillBack_16 : decode cX1_turnsTillBack 16 = .ok (.iload 4, 2) := by decide +kernel
theorem dX1_turnsTillBack_18 : decode cX1_turnsTillBack 18 = .ok (.iload_n 2, 1) := by decide +kernel
theorem dX1_turnsTillBack_19 : decode cX1_turnsTillBack 19 = .ok (.if_icmp .eq 18, 3) := by decide +kernel
theorem dX1_turnsTillBack_22 : decode cX1_turnsTillBack 22 = .ok (.aload_n 0, 1) := by decide +kernel
theorem dX1_turnsTillBack_23 : decode cX1_turnsTillBack 23 = .ok (.iload_n 1, 1) := by decide +kernel
theorem dX1_turnsTillBack_24 : decode cX1_turnsTillBack 24 = .ok (.iload 4, 2) := by decide +kernel
theorem dX1_turnsTillBack_26 : decode cX1_turnsTillBack 26 = .ok (.invokevirtual 79, 3) := by decide +kernel
theorem dX1_turnsTillBack_29 : decode cX1_turnsTillBack 29 = .ok (.istore 4, 2) := by decide +kernel
theorem dX1_turnsTillBack_31 : decode cX1_turnsTillBack 31 = .ok (.iinc 3 1, 3) := by decide +kernel
theorem dX1_turnsTillBack_34 : decode cX1_turnsTillBack 34 = .ok (.goto (-24), 3) := by decide +kernel
theorem dX1_turnsTillBack_37 : decode cX1_turnsTillBack 37 = .ok (.iload_n 3, 1) := by decide +kernel
theorem dX1_turnsTillBack_38 : decode cX1_turnsTillBack 38 = .ok (.ireturn, 1) := by decide +kernel
theorem dX1_keptBy_0 : decode cX1_keptBy 0 = .ok (.iconst 0, 1) := by decide +kernel
theorem dX1_keptBy_1 : decode cX1_keptBy 1 = .ok (.istore_n 2, 1) := by decide +kernel
theorem dX1_keptBy_2 : decode cX1_keptBy 2 = .ok (.iconst 0, 1) := by decide +kernel
theorem dX1_keptBy_3 : decode cX1_keptBy 3 = .ok (.istore_n 3, 1) := by decide +kernel
theorem dX1_keptBy_4 : decode cX1_keptBy 4 = .ok (.iload_n 3, 1) := by decide +kernel
theorem dX1_keptBy_5 : decode cX1_keptBy 5 = .ok (.bipush 8, 2) := by decide +kernel
theorem dX1_keptBy_7 : decode cX1_keptBy 7 = .ok (.if_icmp .ge 26, 3) := by decide +kernel
theorem dX1_keptBy_10 : decode cX1_keptBy 10 = .ok (.aload_n 0, 1) := by decide +kernel
theorem dX1_keptBy_11 : decode cX1_keptBy 11 = .ok (.iload_n 1, 1) := by decide +kernel
theorem dX1_keptBy_12 : decode cX1_keptBy 12 = .ok (.iload_n 3, 1) := by decide +kernel
theorem dX1_keptBy_13 : decode cX1_keptBy 13 = .ok (.invokevirtual 79, 3) := by decide +kernel
theorem dX1_keptBy_16 : decode cX1_keptBy 16 = .ok (.iload_n 3, 1) := by decide +kernel
theorem dX1_keptBy_17 : decode cX1_keptBy 17 = .ok (.if_icmp .ne 10, 3) := by decide +kernel
theorem dX1_keptBy_20 : decode cX1_keptBy 20 = .ok (.iload_n 2, 1) := by decide +kernel
theorem dX1_keptBy_21 : decode cX1_keptBy 21 = .ok (.iload_n 3, 1) := by decide +kernel
theorem dX1_keptBy_22 : decode cX1_keptBy 22 = .ok (.invokestatic 71, 3) := by decide +kernel
theorem dX1_keptBy_25 : decode cX1_keptBy 25 = .ok (.ior, 1) := by decide +kernel
theorem dX1_keptBy_26 : decode cX1_keptBy 26 = .ok (.istore_n 2, 1) := by decide +kernel
theorem dX1_keptBy_27 : decode cX1_keptBy 27 = .ok (.iinc 3 1, 3) := by decide +kernel
theorem dX1_keptBy_30 : decode cX1_keptBy 30 = .ok (.goto (-26), 3) := by decide +kernel
theorem dX1_keptBy_33 : decode cX1_keptBy 33 = .ok (.iload_n 2, 1) := by decide +kernel
theorem dX1_keptBy_34 : decode cX1_keptBy 34 = .ok (.ireturn, 1) := by decide +kernel
theorem dX1_leastLike_0 : decode cX1_leastLike 0 = .ok (.iconst 0, 1) := by decide +kernel
theorem dX1_leastLike_1 : decode cX1_leastLike 1 = .ok (.istore_n 2, 1) := by decide +kernel
theorem dX1_leastLike_2 : decode cX1_leastLike 2 = .ok (.iload_n 2, 1) := by decide +kernel
theorem dX1_leastLike_3 : decode cX1_leastLike 3 = .ok (.iload_n 1, 1) := by decide +kernel
theorem dX1_leastLike_4 : decode cX1_leastLike 4 = .ok (.if_icmp .ge 20, 3) := by decide +kernel
theorem dX1_leastLike_7 : decode cX1_leastLike 7 = .ok (.aload_n 0, 1) := by decide +kernel
theorem dX1_leastLike_8 : decode cX1_leastLike 8 = .ok (.iload_n 2, 1) := by decide +kernel
theorem dX1_leastLike_9 : decode cX1_leastLike 9 = .ok (.iload_n 1, 1) := by decide +kernel
theorem dX1_leastLike_10 : decode cX1_leastLike 10 = .ok (.invokevirtual 89, 3) := by decide +kernel
theorem dX1_leastLike_13 : decode cX1_leastLike 13 = .ok (.ifCond .eq 5, 3) := by decide +kernel
theorem dX1_leastLike_16 : decode cX1_leastLike 16 = .ok (.iload_n 2, 1) := by decide +kernel
theorem dX1_leastLike_17 : decode cX1_leastLike 17 = .ok (.ireturn, 1) := by decide +kernel
theorem dX1_leastLike_18 : decode cX1_leastLike 18 = .ok (.iinc 2 1, 3) := by decide +kernel
theorem dX1_leastLike_21 : decode cX1_leastLike 21 = .ok (.goto (-19), 3) := by decide +kernel
theorem dX1_leastLike_24 : decode cX1_leastLike 24 = .ok (.iload_n 1, 1) := by decide +kernel
theorem dX1_leastLike_25 : decode cX1_leastLike 25 = .ok (.ireturn, 1) := by decide +kernel
theorem dX1_leadAlike_0 : decode cX1_leadAlike 0 = .ok (.iconst 0, 1) := by decide +kernel
theorem dX1_leadAlike_1 : decode cX1_leadAlike 1 = .ok (.istore_n 3, 1) := by decide +kernel
theorem dX1_leadAlike_2 : decode cX1_leadAlike 2 = .ok (.iload_n 3, 1) := by decide +kernel
theorem dX1_leadAlike_3 : decode cX1_leadAlike 3 = .ok (.bipush 8, 2) := by decide +kernel
theorem dX1_leadAlike_5 : decode cX1_leadAlike 5 = .ok (.if_icmp .ge 26, 3) := by decide +kernel
theorem dX1_leadAlike_8 : decode cX1_leadAlike 8 = .ok (.aload_n 0, 1) := by decide +kernel
theorem dX1_leadAlike_9 : decode cX1_leadAlike 9 = .ok (.iload_n 1, 1) := by decide +kernel
theorem dX1_leadAlike_10 : decode cX1_leadAlike 10 = .ok (.iload_n 3, 1) := by decide +kernel
theorem dX1_leadAlike_11 : decode cX1_leadAlike 11 = .ok (.invokevirtual 79, 3) := by decide +kernel
theorem dX1_leadAlike_14 : decode cX1_leadAlike 14 = .ok (.aload_n 0, 1) := by decide +kernel
theorem dX1_leadAlike_15 : decode cX1_leadAlike 15 = .ok (.iload_n 2, 1) := by decide +kernel
theorem dX1_leadAlike_16 : decode cX1_leadAlike 16 = .ok (.iload_n 3, 1) := by decide +kernel
theorem dX1_leadAlike_17 : decode cX1_leadAlike 17 = .ok (.invokevirtual 79, 3) := by decide +kernel
theorem dX1_leadAlike_20 : decode cX1_leadAlike 20 = .ok (.if_icmp .eq 5, 3) := by decide +kernel
theorem dX1_leadAlike_23 : decode cX1_leadAlike 23 = .ok (.iconst 0, 1) := by decide +kernel
theorem dX1_leadAlike_24 : decode cX1_leadAlike 24 = .ok (.ireturn, 1) := by decide +kernel
theorem dX1_leadAlike_25 : decode cX1_leadAlike 25 = .ok (.iinc 3 1, 3) := by decide +kernel
theorem dX1_leadAlike_28 : decode cX1_leadAlike 28 = .ok (.goto (-26), 3) := by decide +kernel
theorem dX1_leadAlike_31 : decode cX1_leadAlike 31 = .ok (.iconst 1, 1) := by decide +kernel
theorem dX1_leadAlike_32 : decode cX1_leadAlike 32 = .ok (.ireturn, 1) := by decide +kernel
theorem dX1_figureOfBeat_0 : decode cX1_figureOfBeat 0 = .ok (.aload_n 0, 1) := by decide +kernel
theorem dX1_figureOfBeat_1 : decode cX1_figureOfBeat 1 = .ok (.getfield 44, 3) := by decide +kernel
theorem dX1_figureOfBeat_4 : decode cX1_figureOfBeat 4 = .ok (.ifCond .gt 8, 3) := by decide +kernel
theorem dX1_figureOfBeat_7 : decode cX1_figureOfBeat 7 = .ok (.bipush (-4), 2) := by decide +kernel
theorem dX1_figureOfBeat_9 : decode cX1_figureOfBeat 9 = .ok (.goto 14, 3) := by decide +kernel
theorem dX1_figureOfBeat_12 : decode cX1_figureOfBeat 12 = .ok (.aload_n 0, 1) := by decide +kernel
theorem dX1_figureOfBeat_13 : decode cX1_figureOfBeat 13 = .ok (.getfield 24, 3) := by decide +kernel
theorem dX1_figureOfBeat_16 : decode cX1_figureOfBeat 16 = .ok (.iload_n 1, 1) := by decide +kernel
theorem dX1_figureOfBeat_17 : decode cX1_figureOfBeat 17 = .ok (.aload_n 0, 1) := by decide +kernel
theorem dX1_figureOfBeat_18 : decode cX1_figureOfBeat 18 = .ok (.getfield 44, 3) := by decide +kernel
theorem dX1_figureOfBeat_21 : decode cX1_figureOfBeat 21 = .ok (.irem, 1) := by decide +kernel
theorem dX1_figureOfBeat_22 : decode cX1_figureOfBeat 22 = .ok (.iaload, 1) := by decide +kernel
theorem dX1_figureOfBeat_23 : decode cX1_figureOfBeat 23 = .ok (.ireturn, 1) := by decide +kernel
theorem dX1_goesOn_0 : decode cX1_goesOn 0 = .ok (.aload_n 0, 1) := by decide +kernel
theorem dX1_goesOn_1 : decode cX1_goesOn 1 = .ok (.getfield 44, 3) := by decide +kernel
theorem dX1_goesOn_4 : decode cX1_goesOn 4 = .ok (.ifCond .le 9, 3) := by decide +kernel
theorem dX1_goesOn_7 : decode cX1_goesOn 7 = .ok (.iload_n 1, 1) := by decide +kernel
theorem dX1_goesOn_8 : decode cX1_goesOn 8 = .ok (.bipush (-4), 2) := by decide +kernel
theorem dX1_goesOn_10 : decode cX1_goesOn 10 = .ok (.if_icmp .ne 5, 3) := by decide +kernel
theorem dX1_goesOn_13 : decode cX1_goesOn 13 = .ok (.iload_n 1, 1) := by decide +kernel
theorem dX1_goesOn_14 : decode cX1_goesOn 14 = .ok (.ireturn, 1) := by decide +kernel
theorem dX1_goesOn_15 : decode cX1_goesOn 15 = .ok (.aload_n 0, 1) := by decide +kernel
theorem dX1_goesOn_16 : decode cX1_goesOn 16 = .ok (.aload_n 0, 1) := by decide +kernel
theorem dX1_goesOn_17 : decode cX1_goesOn 17 = .ok (.getfield 24, 3) := by decide +kernel
theorem dX1_goesOn_20 : decode cX1_goesOn 20 = .ok (.iload_n 2, 1) := by decide +kernel
theorem dX1_goesOn_21 : decode cX1_goesOn 21 = .ok (.aload_n 0, 1) := by decide +kernel
theorem dX1_goesOn_22 : decode cX1_goesOn 22 = .ok (.getfield 44, 3) := by decide +kernel
theorem dX1_goesOn_25 : decode cX1_goesOn 25 = .ok (.irem, 1) := by decide +kernel
theorem dX1_goesOn_26 : decode cX1_goesOn 26 = .ok (.iaload, 1) := by decide +kernel
theorem dX1_goesOn_27 : decode cX1_goesOn 27 = .ok (.iload_n 1, 1) := by decide +kernel
theorem dX1_goesOn_28 : decode cX1_goesOn 28 = .ok (.invokevirtual 79, 3) := by decide +kernel
theorem dX1_goesOn_31 : decode cX1_goesOn 31 = .ok (.ireturn, 1) := by decide +kernel
theorem dX1_dance_0 : decode cX1_dance 0 = .ok (.iconst 0, 1) := by decide +kernel
theorem dX1_dance_1 : decode cX1_dance 1 = .ok (.istore_n 1, 1) := by decide +kernel
theorem dX1_dance_2 : decode cX1_dance 2 = .ok (.iload_n 1, 1) := by decide +kernel
theorem dX1_dance_3 : decode cX1_dance 3 = .ok (.aload_n 0, 1) := by decide +kernel
theorem dX1_dance_4 : decode cX1_dance 4 = .ok (.getfield 38, 3) := by decide +kernel
theorem dX1_dance_7 : decode cX1_dance 7 = .ok (.if_icmp .ge 29, 3) := by decide +kernel
theorem dX1_dance_10 : decode cX1_dance 10 = .ok (.aload_n 0, 1) := by decide +kernel
theorem dX1_dance_11 : decode cX1_dance 11 = .ok (.getfield 9, 3) := by decide +kernel
theorem dX1_dance_14 : decode cX1_dance 14 = .ok (.iload_n 1, 1) := by decide +kernel
theorem dX1_dance_15 : decode cX1_dance 15 = .ok (.aload_n 0, 1) := by decide +kernel
theorem dX1_dance_16 : decode cX1_dance 16 = .ok (.aload_n 0, 1) := by decide +kernel
theorem dX1_dance_17 : decode cX1_dance 17 = .ok (.getfield 9, 3) := by decide +kernel
theorem dX1_dance_20 : decode cX1_dance 20 = .ok (.iload_n 1, 1) := by decide +kernel
theorem dX1_dance_21 : decode cX1_dance 21 = .ok (.iaload, 1) := by decide +kernel
theorem dX1_dance_22 : decode cX1_dance 22 = .ok (.aload_n 0, 1) := by decide +kernel
theorem dX1_dance_23 : decode cX1_dance 23 = .ok (.getfield 47, 3) := by decide +kernel
theorem dX1_dance_26 : decode cX1_dance 26 = .ok (.invokevirtual 92, 3) := by decide +kernel
theorem dX1_dance_29 : decode cX1_dance 29 = .ok (.iastore, 1) := by decide +kernel
theorem dX1_dance_30 : decode cX1_dance 30 = .ok (.iinc 1 1, 3) := by decide +kernel
theorem dX1_dance_33 : decode cX1_dance 33 = .ok (.goto (-31), 3) := by decide +kernel
theorem dX1_dance_36 : decode cX1_dance 36 = .ok (.aload_n 0, 1) := by decide +kernel
theorem dX1_dance_37 : decode cX1_dance 37 = .ok (.dup, 1) := by decide +kernel
theorem dX1_dance_38 : decode cX1_dance 38 = .ok (.getfield 47, 3) := by decide +kernel
theorem dX1_dance_41 : decode cX1_dance 41 = .ok (.iconst 1, 1) := by decide +kernel
theorem dX1_dance_42 : decode cX1_dance 42 = .ok (.iadd, 1) := by decide +kernel
theorem dX1_dance_43 : decode cX1_dance 43 = .ok (.putfield 47, 3) := by decide +kernel
theorem dX1_dance_46 : decode cX1_dance 46 = .ok (.return_, 1) := by decide +kernel
theorem dX1_blow_0 : decode cX1_blow 0 = .ok (.iconst 0, 1) := by decide +kernel
theorem dX1_blow_1 : decode cX1_blow 1 = .ok (.istore_n 2, 1) := by decide +kernel
theorem dX1_blow_2 : decode cX1_blow 2 = .ok (.iload_n 2, 1) := by decide +kernel
theorem dX1_blow_3 : decode cX1_blow 3 = .ok (.aload_n 0, 1) := by decide +kernel
theorem dX1_blow_4 : decode cX1_blow 4 = .ok (.getfield 38, 3) := by decide +kernel
theorem dX1_blow_7 : decode cX1_blow 7 = .ok (.if_icmp .ge 37, 3) := by decide +kernel
theorem dX1_blow_10 : decode cX1_blow 10 = .ok (.aload_n 0, 1) := by decide +kernel
theorem dX1_blow_11 : decode cX1_blow 11 = .ok (.getfield 9, 3) := by decide +kernel
theorem dX1_blow_14 : decode cX1_blow 14 = .ok (.iload_n 2, 1) := by decide +kernel
theorem dX1_blow_15 : decode cX1_blow 15 = .ok (.iaload, 1) := by decide +kernel
theorem dX1_blow_16 : decode cX1_blow 16 = .ok (.bipush (-4), 2) := by decide +kernel
theorem dX1_blow_18 : decode cX1_blow 18 = .ok (.if_icmp .eq 20, 3) := by decide +kernel
theorem dX1_blow_21 : decode cX1_blow 21 = .ok (.aload_n 0, 1) := by decide +kernel
theorem dX1_blow_22 : decode cX1_blow 22 = .ok (.getfield 9, 3) := by decide +kernel
theorem dX1_blow_25 : decode cX1_blow 25 = .ok (.iload_n 2, 1) := by decide +kernel
theorem dX1_blow_26 : decode cX1_blow 26 = .ok (.aload_n 0, 1) := by decide +kernel
theorem dX1_blow_27 : decode cX1_blow 27 = .ok (.getfield 9, 3) := by decide +kernel
theorem dX1_blow_30 : decode cX1_blow 30 = .ok (.iload_n 2, 1) := by decide +kernel
theorem dX1_blow_31 : decode cX1_blow 31 = .ok (.iaload, 1) := by decide +kernel
theorem dX1_blow_32 : decode cX1_blow 32 = .ok (.iload_n 1, 1) := by decide +kernel
theorem dX1_blow_33 : decode cX1_blow 33 = .ok (.iadd, 1) := by decide +kernel
theorem dX1_blow_34 : decode cX1_blow 34 = .ok (.invokestatic 95, 3) := by decide +kernel
theorem dX1_blow_37 : decode cX1_blow 37 = .ok (.iastore, 1) := by decide +kernel
theorem dX1_blow_38 : decode cX1_blow 38 = .ok (.iinc 2 1, 3) := by decide +kernel
theorem dX1_blow_41 : decode cX1_blow 41 = .ok (.goto (-39), 3) := by decide +kernel
theorem dX1_blow_44 : decode cX1_blow 44 = .ok (.return_, 1) := by decide +kernel
theorem dX1_drawAndBlow_0 : decode cX1_drawAndBlow 0 = .ok (.aload_n 0, 1) := by decide +kernel
theorem dX1_drawAndBlow_1 : decode cX1_drawAndBlow 1 = .ok (.aload_n 0, 1) := by decide +kernel
theorem dX1_drawAndBlow_2 : decode cX1_drawAndBlow 2 = .ok (.getfield 34, 3) := by decide +kernel
theorem dX1_drawAndBlow_5 : decode cX1_drawAndBlow 5 = .ok (.i2l, 1) := by decide +kernel
theorem dX1_drawAndBlow_6 : decode cX1_drawAndBlow 6 = .ok (.ldc2_w 98, 3) := by decide +kernel
theorem dX1_drawAndBlow_9 : decode cX1_drawAndBlow 9 = .ok (.lmul, 1) := by decide +kernel
theorem dX1_drawAndBlow_10 : decode cX1_drawAndBlow 10 = .ok (.ldc2_w 100, 3) := by decide +kernel
theorem dX1_drawAndBlow_13 : decode cX1_drawAndBlow 13 = .ok (.ladd, 1) := by decide +kernel
theorem dX1_drawAndBlow_14 : decode cX1_drawAndBlow 14 = .ok (.ldc2_w 102, 3) := by decide +kernel
theorem dX1_drawAndBlow_17 : decode cX1_drawAndBlow 17 = .ok (.land, 1) := by decide +kernel
theorem dX1_drawAndBlow_18 : decode cX1_drawAndBlow 18 = .ok (.l2i, 1) := by decide +kernel
theorem dX1_drawAndBlow_19 : decode cX1_drawAndBlow 19 = .ok (.putfield 34, 3) := by decide +kernel
theorem dX1_drawAndBlow_22 : decode cX1_drawAndBlow 22 = .ok (.aload_n 0, 1) := by decide +kernel
theorem dX1_drawAndBlow_23 : decode cX1_drawAndBlow 23 = .ok (.getfield 34, 3) := by decide +kernel
theorem dX1_drawAndBlow_26 : decode cX1_drawAndBlow 26 = .ok (.ldc 104, 2) := by decide +kernel
theorem dX1_drawAndBlow_28 : decode cX1_drawAndBlow 28 = .ok (.idiv, 1) := by decide +kernel
theorem dX1_drawAndBlow_29 : decode cX1_drawAndBlow 29 = .ok (.iconst 4, 1) := by decide +kernel
theorem dX1_drawAndBlow_30 : decode cX1_drawAndBlow 30 = .ok (.irem, 1) := by decide +kernel
theorem dX1_drawAndBlow_31 : decode cX1_drawAndBlow 31 = .ok (.ifCond .ne 20, 3) := by decide +kernel
theorem dX1_drawAndBlow_34 : decode cX1_drawAndBlow 34 = .ok (.aload_n 0, 1) := by decide +kernel
theorem dX1_drawAndBlow_35 : decode cX1_drawAndBlow 35 = .ok (.iconst 1, 1) := by decide +kernel
theorem dX1_drawAndBlow_36 : decode cX1_drawAndBlow 36 = .ok (.aload_n 0, 1) := by decide +kernel
theorem dX1_drawAndBlow_37 : decode cX1_drawAndBlow 37 = .ok (.getfield 34, 3) := by decide +kernel
theorem dX1_drawAndBlow_40 : decode cX1_drawAndBlow 40 = .ok (.sipush 128, 3) := by decide +kernel
theorem dX1_drawAndBlow_43 : decode cX1_drawAndBlow 43 = .ok (.idiv, 1) := by decide +kernel
theorem dX1_drawAndBlow_44 : decode cX1_drawAndBlow 44 = .ok (.bipush 7, 2) := by decide +kernel
theorem dX1_drawAndBlow_46 : decode cX1_drawAndBlow 46 = .ok (.irem, 1) := by decide +kernel
theorem dX1_drawAndBlow_47 : decode cX1_drawAndBlow 47 = .ok (.iadd, 1) := by decide +kernel
theorem dX1_drawAndBlow_48 : decode cX1_drawAndBlow 48 = .ok (.invokevirtual 105, 3) := by decide +kernel
theorem dX1_drawAndBlow_51 : decode cX1_drawAndBlow 51 = .ok (.return_, 1) := by decide +kernel
theorem dX1_walk_0 : decode cX1_walk 0 = .ok (.iload_n 1, 1) := by decide +kernel
theorem dX1_walk_1 : decode cX1_walk 1 = .ok (.istore_n 3, 1) := by decide +kernel
theorem dX1_walk_2 : decode cX1_walk 2 = .ok (.iconst 0, 1) := by decide +kernel
theorem dX1_walk_3 : decode cX1_walk 3 = .ok (.istore 4, 2) := by decide +kernel
theorem dX1_walk_5 : decode cX1_walk 5 = .ok (.iload 4, 2) := by decide +kernel
theorem dX1_walk_7 : decode cX1_walk 7 = .ok (.iload_n 2, 1) := by decide +kernel
theorem dX1_walk_8 : decode cX1_walk 8 = .ok (.if_icmp .ge 22, 3) := by decide +kernel
theorem dX1_walk_11 : decode cX1_walk 11 = .ok (.aload_n 0, 1) := by decide +kernel
theorem dX1_walk_12 : decode cX1_walk 12 = .ok (.iload_n 3, 1) := by decide +kernel
theorem dX1_walk_13 : decode cX1_walk 13 = .ok (.aload_n 0, 1) := by decide +kernel
theorem dX1_walk_14 : decode cX1_walk 14 = .ok (.getfield 47, 3) := by decide +kernel
theorem dX1_walk_17 : decode cX1_walk 17 = .ok (.iload 4, 2) := by decide +kernel
theorem dX1_walk_19 : decode cX1_walk 19 = .ok (.iadd, 1) := by decide +kernel
theorem dX1_walk_20 : decode cX1_walk 20 = .ok (.invokevirtual 92, 3) := by decide +kernel
theorem dX1_walk_23 : decode cX1_walk 23 = .ok (.istore_n 3, 1) := by decide +kernel
theorem dX1_walk_24 : decode cX1_walk 24 = .ok (.iinc 4 1, 3) := by decide +kernel
theorem dX1_walk_27 : decode cX1_walk 27 = .ok (.goto (-22), 3) := by decide +kernel
theorem dX1_walk_30 : decode cX1_walk 30 = .ok (.iload_n 3, 1) := by decide +kernel
theorem dX1_walk_31 : decode cX1_walk 31 = .ok (.ireturn, 1) := by decide +kernel
theorem dX1_roundsTillBack_0 : decode cX1_roundsTillBack 0 = .ok (.iconst 1, 1) := by decide +kernel
theorem dX1_roundsTillBack_1 : decode cX1_roundsTillBack 1 = .ok (.istore_n 2, 1) := by decide +kernel
theorem dX1_roundsTillBack_2 : decode cX1_roundsTillBack 2 = .ok (.aload_n 0, 1) := by decide +kernel
theorem dX1_roundsTillBack_3 : decode cX1_roundsTillBack 3 = .ok (.iload_n 1, 1) := by decide +kernel
theorem dX1_roundsTillBack_4 : decode cX1_roundsTillBack 4 = .ok (.aload_n 0, 1) := by decide +kernel
theorem dX1_roundsTillBack_5 : decode cX1_roundsTillBack 5 = .ok (.getfield 44, 3) := by decide +kernel
theorem dX1_roundsTillBack_8 : decode cX1_roundsTillBack 8 = .ok (.invokevirtual 109, 3) := by decide +kernel
theorem dX1_roundsTillBack_11 : decode cX1_roundsTillBack 11 = .ok (.istore_n 3, 1) := by decide +kernel
theorem dX1_roundsTillBack_12 : decode cX1_roundsTillBack 12 = .ok (.iload_n 2, 1) := by decide +kernel
theorem dX1_roundsTillBack_13 : decode cX1_roundsTillBack 13 = .ok (.bipush 8, 2) := by decide +kernel
theorem dX1_roundsTillBack_15 : decode cX1_roundsTillBack 15 = .ok (.if_icmp .ge 24, 3) := by decide +kernel
theorem dX1_roundsTillBack_18 : decode cX1_roundsTillBack 18 = .ok (.iload_n 3, 1) := by decide +kernel
theorem dX1_roundsTillBack_19 : decode cX1_roundsTillBack 19 = .ok (.iload_n 1, 1) := by decide +kernel
theorem dX1_roundsTillBack_20 : decode cX1_roundsTillBack 20 = .ok (.if_icmp .eq 19, 3) := by decide +kernel
theorem dX1_roundsTillBack_23 : decode cX1_roundsTillBack 23 = .ok (.aload_n 0, 1) := by decide +kernel
theorem dX1_roundsTillBack_24 : decode cX1_roundsTillBack 24 = .ok (.iload_n 3, 1) := by decide +kernel
theorem dX1_roundsTillBack_25 : decode cX1_roundsTillBack 25 = .ok (.aload_n 0, 1) := by decide +kernel
theorem dX1_roundsTillBack_26 : decode cX1_roundsTillBack 26 = .ok (.getfield 44, 3) := by decide +kernel
theorem dX1_roundsTillBack_29 : decode cX1_roundsTillBack 29 = .ok (.invokevirtual 109, 3) := by decide +kernel
theorem dX1_roundsTillBack_32 : decode cX1_roundsTillBack 32 = .ok (.istore_n 3, 1) := by decide +kernel
theorem dX1_roundsTillBack_33 : decode cX1_roundsTillBack 33 = .ok (.iinc 2 1, 3) := by decide +kernel
theorem dX1_roundsTillBack_36 : decode cX1_roundsTillBack 36 = .ok (.goto (-24), 3) := by decide +kernel
theorem dX1_roundsTillBack_39 : decode cX1_roundsTillBack 39 = .ok (.iload_n 2, 1) := by decide +kernel
theorem dX1_roundsTillBack_40 : decode cX1_roundsTillBack 40 = .ok (.ireturn, 1) := by decide +kernel
theorem dX1_placeBehind_0 : decode cX1_placeBehind 0 = .ok (.aload_n 0, 1) := by decide +kernel
theorem dX1_placeBehind_1 : decode cX1_placeBehind 1 = .ok (.iload_n 1, 1) := by decide +kernel
theorem dX1_placeBehind_2 : decode cX1_placeBehind 2 = .ok (.invokevirtual 112, 3) := by decide +kernel
theorem dX1_placeBehind_5 : decode cX1_placeBehind 5 = .ok (.istore_n 3, 1) := by decide +kernel
theorem dX1_placeBehind_6 : decode cX1_placeBehind 6 = .ok (.aload_n 0, 1) := by decide +kernel
theorem dX1_placeBehind_7 : decode cX1_placeBehind 7 = .ok (.getfield 44, 3) := by decide +kernel
theorem dX1_placeBehind_10 : decode cX1_placeBehind 10 = .ok (.ifCond .le 7, 3) := by decide +kernel
theorem dX1_placeBehind_13 : decode cX1_placeBehind 13 = .ok (.iload_n 3, 1) := by decide +kernel
theorem dX1_placeBehind_14 : decode cX1_placeBehind 14 = .ok (.ifCond .gt 5, 3) := by decide +kernel
theorem dX1_placeBehind_17 : decode cX1_placeBehind 17 = .ok (.iload_n 1, 1) := by decide +kernel
theorem dX1_placeBehind_18 : decode cX1_placeBehind 18 = .ok (.ireturn, 1) := by decide +kernel
theorem dX1_placeBehind_19 : decode cX1_placeBehind 19 = .ok (.iload_n 2, 1) := by decide +kernel
theorem dX1_placeBehind_20 : decode cX1_placeBehind 20 = .ok (.aload_n 0, 1) := by decide +kernel
theorem dX1_placeBehind_21 : decode cX1_placeBehind 21 = .ok (.getfield 44, 3) := by decide +kernel
theorem dX1_placeBehind_24 : decode cX1_placeBehind 24 = .ok (.idiv, 1) := by decide +kernel
theorem dX1_placeBehind_25 : decode cX1_placeBehind 25 = .ok (.iload_n 3, 1) := by decide +kernel
theorem dX1_placeBehind_26 : decode cX1_placeBehind 26 = .ok (.irem, 1) := by decide +kernel
theorem dX1_placeBehind_27 : decode cX1_placeBehind 27 = .ok (.istore 4, 2) := by decide +kernel
theorem dX1_placeBehind_29 : decode cX1_placeBehind 29 = .ok (.iload_n 1, 1) := by decide +kernel
theorem dX1_placeBehind_30 : decode cX1_placeBehind 30 = .ok (.istore 5, 2) := by decide +kernel
theorem dX1_placeBehind_32 : decode cX1_placeBehind 32 = .ok (.iconst 0, 1) := by decide +kernel
theorem dX1_placeBehind_33 : decode cX1_placeBehind 33 = .ok (.istore 6, 2) := by decide +kernel
theorem dX1_placeBehind_35 : decode cX1_placeBehind 35 = .ok (.iload 6, 2) := by decide +kernel
theorem dX1_placeBehind_37 : decode cX1_placeBehind 37 = .ok (.iload 4, 2) := by decide +kernel
theorem dX1_placeBehind_39 : decode cX1_placeBehind 39 = .ok (.if_icmp .ge 21, 3) := by decide +kernel
theorem dX1_placeBehind_42 : decode cX1_placeBehind 42 = .ok (.aload_n 0, 1) := by decide +kernel
theorem dX1_placeBehind_43 : decode cX1_placeBehind 43 = .ok (.iload 5, 2) := by decide +kernel
theorem dX1_placeBehind_45 : decode cX1_placeBehind 45 = .ok (.aload_n 0, 1) := by decide +kernel
theorem dX1_placeBehind_46 : decode cX1_placeBehind 46 = .ok (.getfield 44, 3) := by decide +kernel
theorem dX1_placeBehind_49 : decode cX1_placeBehind 49 = .ok (.invokevirtual 109, 3) := by decide +kernel
theorem dX1_placeBehind_52 : decode cX1_placeBehind 52 = .ok (.istore 5, 2) := by decide +kernel
theorem dX1_placeBehind_54 : decode cX1_placeBehind 54 = .ok (.iinc 6 1, 3) := by decide +kernel
theorem dX1_placeBehind_57 : decode cX1_placeBehind 57 = .ok (.goto (-22), 3) := by decide +kernel
theorem dX1_placeBehind_60 : decode cX1_placeBehind 60 = .ok (.aload_n 0, 1) := by decide +kernel
theorem dX1_placeBehind_61 : decode cX1_placeBehind 61 = .ok (.iload 5, 2) := by decide +kernel
theorem dX1_placeBehind_63 : decode cX1_placeBehind 63 = .ok (.iload_n 2, 1) := by decide +kernel
theorem dX1_placeBehind_64 : decode cX1_placeBehind 64 = .ok (.aload_n 0, 1) := by decide +kernel
theorem dX1_placeBehind_65 : decode cX1_placeBehind 65 = .ok (.getfield 44, 3) := by decide +kernel
theorem dX1_placeBehind_68 : decode cX1_placeBehind 68 = .ok (.irem, 1) := by decide +kernel
theorem dX1_placeBehind_69 : decode cX1_placeBehind 69 = .ok (.invokevirtual 109, 3) := by decide +kernel
theorem dX1_placeBehind_72 : decode cX1_placeBehind 72 = .ok (.ireturn, 1) := by decide +kernel
theorem dX2_init_0 : decode cX2_init 0 = .ok (.aload_n 0, 1) := by decide +kernel
theorem dX2_init_1 : decode cX2_init 1 = .ok (.invokespecial 3, 3) := by decide +kernel
theorem dX2_init_4 : decode cX2_init 4 = .ok (.aload_n 0, 1) := by decide +kernel
theorem dX2_init_5 : decode cX2_init 5 = .ok (.sipush 256, 3) := by decide +kernel
theorem dX2_init_8 : decode cX2_init 8 = .ok (.newarray .int, 2) := by decide +kernel
theorem dX2_init_10 : decode cX2_init 10 = .ok (.putfield 9, 3) := by decide +kernel
theorem dX2_init_13 : decode cX2_init 13 = .ok (.aload_n 0, 1) := by decide +kernel
theorem dX2_init_14 : decode cX2_init 14 = .ok (.sipush 256, 3) := by decide +kernel
theorem dX2_init_17 : decode cX2_init 17 = .ok (.newarray .int, 2) := by decide +kernel
theorem dX2_init_19 : decode cX2_init 19 = .ok (.putfield 15, 3) := by decide +kernel
theorem dX2_init_22 : decode cX2_init 22 = .ok (.aload_n 0, 1) := by decide +kernel
theorem dX2_init_23 : decode cX2_init 23 = .ok (.sipush 256, 3) := by decide +kernel
theorem dX2_init_26 : decode cX2_init 26 = .ok (.newarray .int, 2) := by decide +kernel
theorem dX2_init_28 : decode cX2_init 28 = .ok (.putfield 18, 3) := by decide +kernel
theorem dX2_init_31 : decode cX2_init 31 = .ok (.aload_n 0, 1) := by decide +kernel
theorem dX2_init_32 : decode cX2_init 32 = .ok (.sipush 256, 3) := by decide +kernel
theorem dX2_init_35 : decode cX2_init 35 = .ok (.newarray .int, 2) := by decide +kernel
theorem dX2_init_37 : decode cX2_init 37 = .ok (.putfield 21, 3) := by decide +kernel
theorem dX2_init_40 : decode cX2_init 40 = .ok (.return_, 1) := by decide +kernel
theorem dX2_explore_0 : decode cX2_explore 0 = .ok (.iconst 0, 1) := by decide +kernel
theorem dX2_explore_1 : decode cX2_explore 1 = .ok (.istore_n 3, 1) := by decide +kernel
theorem dX2_explore_2 : decode cX2_explore 2 = .ok (.iload_n 3, 1) := by decide +kernel
theorem dX2_explore_3 : decode cX2_explore 3 = .ok (.sipush 256, 3) := by decide +kernel
theorem dX2_explore_6 : decode cX2_explore 6 = .ok (.if_icmp .ge 17, 3) := by decide +kernel
theorem dX2_explore_9 : decode cX2_explore 9 = .ok (.aload_n 0, 1) := by decide +kernel
theorem dX2_explore_10 : decode cX2_explore 10 = .ok (.getfield 9, 3) := by decide +kernel
theorem dX2_explore_13 : decode cX2_explore 13 = .ok (.iload_n 3, 1) := by decide +kernel
theorem dX2_explore_14 : decode cX2_explore 14 = .ok (.bipush (-4), 2) := by decide +kernel
theorem dX2_explore_16 : decode cX2_explore 16 = .ok (.iastore, 1) := by decide +kernel
theorem dX2_explore_17 : decode cX2_explore 17 = .ok (.iinc 3 1, 3) := by decide +kernel
theorem dX2_explore_20 : decode cX2_explore 20 = .ok (.goto (-18), 3) := by decide +kernel
theorem dX2_explore_23 : decode cX2_explore 23 = .ok (.aload_n 0, 1) := by decide +kernel
theorem dX2_explore_24 : decode cX2_explore 24 = .ok (.getfield 9, 3) := by decide +kernel
theorem dX2_explore_27 : decode cX2_explore 27 = .ok (.iload_n 2, 1) := by decide +kernel
theorem dX2_explore_28 : decode cX2_explore 28 = .ok (.iconst 0, 1) := by decide +kernel
theorem dX2_explore_29 : decode cX2_explore 29 = .ok (.iastore, 1) := by decide +kernel
theorem dX2_explore_30 : decode cX2_explore 30 = .ok (.aload_n 0, 1) := by decide +kernel
theorem dX2_explore_31 : decode cX2_explore 31 = .ok (.getfield 21, 3) := by decide +kernel
theorem dX2_explore_34 : decode cX2_explore 34 = .ok (.iconst 0, 1) := by decide +kernel
theorem dX2_explore_35 : decode cX2_explore 35 = .ok (.iload_n 2, 1) := by decide +kernel
theorem dX2_explore_36 : decode cX2_explore 36 = .ok (.iastore, 1) := by decide +kernel
theorem dX2_explore_37 : decode cX2_explore 37 = .ok (.aload_n 0, 1) := by decide +kernel
theorem dX2_explore_38 : decode cX2_explore 38 = .ok (.iconst 1, 1) := by decide +kernel
theorem dX2_explore_39 : decode cX2_explore 39 = .ok (.putfield 24, 3) := by decide +kernel
theorem dX2_explore_42 : decode cX2_explore 42 = .ok (.iconst 0, 1) := by decide +kernel
theorem dX2_explore_43 : decode cX2_explore 43 = .ok (.istore_n 3, 1) := by decide +kernel
theorem dX2_explore_44 : decode cX2_explore 44 = .ok (.iload_n 3, 1) := by decide +kernel
theorem dX2_explore_45 : decode cX2_explore 45 = .ok (.aload_n 0, 1) := by decide +kernel
theorem dX2_explore_46 : decode cX2_explore 46 = .ok (.getfield 24, 3) := by decide +kernel
theorem dX2_explore_49 : decode cX2_explore 49 = .ok (.if_icmp .ge 58, 3) := by decide +kernel
theorem dX2_explore_52 : decode cX2_explore 52 = .ok (.iload_n 3, 1) := by decide +kernel
theorem dX2_explore_53 : decode cX2_explore 53 = .ok (.sipush 256, 3) := by decide +kernel
theorem dX2_explore_56 : decode cX2_explore 56 = .ok (.if_icmp .ge 51, 3) := by decide +kernel
theorem dX2_explore_59 : decode cX2_explore 59 = .ok (.iconst 0, 1) := by decide +kernel
theorem dX2_explore_60 : decode cX2_explore 60 = .ok (.istore 4, 2) := by decide +kernel
theorem dX2_explore_62 : decode cX2_explore 62 = .ok (.iload 4, 2) := by decide +kernel
theorem dX2_explore_64 : decode cX2_explore 64 = .ok (.aload_n 1, 1) := by decide +kernel
theorem dX2_explore_65 : decode cX2_explore 65 = .ok (.getfield 28, 3) := by decide +kernel
theorem dX2_explore_68 : decode cX2_explore 68 = .ok (.if_icmp .ge 33, 3) := by decide +kernel
theorem dX2_explore_71 : decode cX2_explore 71 = .ok (.aload_n 0, 1) := by decide +kernel
theorem dX2_explore_72 : decode cX2_explore 72 = .ok (.aload_n 1, 1) := by decide +kernel
theorem dX2_explore_73 : decode cX2_explore 73 = .ok (.iload 4, 2) := by decide +kernel
theorem dX2_explore_75 : decode cX2_explore 75 = .ok (.aload_n 0, 1) := by decide +kernel
theorem dX2_explore_76 : decode cX2_explore 76 = .ok (.getfield 21, 3) := by decide +kernel
theorem dX2_explore_79 : decode cX2_explore 79 = .ok (.iload_n 3, 1) := by decide +kernel
theorem dX2_explore_80 : decode cX2_explore 80 = .ok (.iaload, 1) := by decide +kernel
theorem dX2_explore_81 : decode cX2_explore 81 = .ok (.invokevirtual 33, 3) := by decide +kernel
theorem dX2_explore_84 : decode cX2_explore 84 = .ok (.aload_n 0, 1) := by decide +kernel
theorem dX2_explore_85 : decode cX2_explore 85 = .ok (.getfield 21, 3) := by decide +kernel
theorem dX2_explore_88 : decode cX2_explore 88 = .ok (.iload_n 3, 1) := by decide +kernel
theorem dX2_explore_89 : decode cX2_explore 89 = .ok (.iaload, 1) := by decide +kernel
theorem dX2_explore_90 : decode cX2_explore 90 = .ok (.iload 4, 2) := by decide +kernel
theorem dX2_explore_92 : decode cX2_explore 92 = .ok (.invokevirtual 37, 3) := by decide +kernel
theorem dX2_explore_95 : decode cX2_explore 95 = .ok (.iinc 4 1, 3) := by decide +kernel
theorem dX2_explore_98 : decode cX2_explore 98 = .ok (.goto (-36), 3) := by decide +kernel
theorem dX2_explore_101 : decode cX2_explore 101 = .ok (.iinc 3 1, 3) := by decide +kernel
theorem dX2_explore_104 : decode cX2_explore 104 = .ok (.goto (-60), 3) := by decide +kernel
theorem dX2_explore_107 : decode cX2_explore 107 = .ok (.return_, 1) := by decide +kernel
theorem dX2_comeTo_0 : decode cX2_comeTo 0 = .ok (.aload_n 0, 1) := by decide +kernel
theorem dX2_comeTo_1 : decode cX2_comeTo 1 = .ok (.getfield 9, 3) := by decide +kernel
theorem dX2_comeTo_4 : decode cX2_comeTo 4 = .ok (.iload_n 1, 1) := by decide +kernel
theorem dX2_comeTo_5 : decode cX2_comeTo 5 = .ok (.iaload, 1) := by decide +kernel
theorem dX2_comeTo_6 : decode cX2_comeTo 6 = .ok (.bipush (-4), 2) := by decide +kernel
theorem dX2_comeTo_8 : decode cX2_comeTo 8 = .ok (.if_icmp .ne 13, 3) := by decide +kernel
theorem dX2_comeTo_11 : decode cX2_comeTo 11 = .ok (.aload_n 0, 1) := by decide +kernel
theorem dX2_comeTo_12 : decode cX2_comeTo 12 = .ok (.getfield 24, 3) := by decide +kernel
theorem dX2_comeTo_15 : decode cX2_comeTo 15 = .ok (.sipush 256, 3) := by decide +kernel
theorem dX2_comeTo_18 : decode cX2_comeTo 18 = .ok (.if_icmp .lt 4, 3) := by decide +kernel
theorem dX2_comeTo_21 : decode cX2_comeTo 21 = .ok (.return_, 1) := by decide +kernel
theorem dX2_comeTo_22 : decode cX2_comeTo 22 = .ok (.aload_n 0, 1) := by decide +kernel
theorem dX2_comeTo_23 : decode cX2_comeTo 23 = .ok (.getfield 9, 3) := by decide +kernel
theorem dX2_comeTo_26 : decode cX2_comeTo 26 = .ok (.iload_n 1, 1) := by decide +kernel
theorem dX2_comeTo_27 : decode cX2_comeTo 27 = .ok (.aload_n 0, 1) := by decide +kernel
theorem dX2_comeTo_28 : decode cX2_comeTo 28 = .ok (.getfield 9, 3) := by decide +kernel
theorem dX2_comeTo_31 : decode cX2_comeTo 31 = .ok (.iload_n 2, 1) := by decide +kernel
theorem dX2_comeTo_32 : decode cX2_comeTo 32 = .ok (.iaload, 1) := by decide +kernel
theorem dX2_comeTo_33 : decode cX2_comeTo 33 = .ok (.iconst 1, 1) := by decide +kernel
theorem dX2_comeTo_34 : decode cX2_comeTo 34 = .ok (.iadd, 1) := by decide +kernel
theorem dX2_comeTo_35 : decode cX2_comeTo 35 = .ok (.iastore, 1) := by decide +kernel
theorem dX2_comeTo_36 : decode cX2_comeTo 36 = .ok (.aload_n 0, 1) := by decide +kernel
theorem dX2_comeTo_37 : decode cX2_comeTo 37 = .ok (.getfield 15, 3) := by decide +kernel
theorem dX2_comeTo_40 : decode cX2_comeTo 40 = .ok (.iload_n 1, 1) := by decide +kernel
theorem dX2_comeTo_41 : decode cX2_comeTo 41 = .ok (.iload_n 2, 1) := by decide +kernel
theorem dX2_comeTo_42 : decode cX2_comeTo 42 = .ok (.iastore, 1) := by decide +kernel
theorem dX2_comeTo_43 : decode cX2_comeTo 43 = .ok (.aload_n 0, 1) := by decide +kernel
theorem dX2_comeTo_44 : decode cX2_comeTo 44 = .ok (.getfield 18, 3) := by decide +kernel
theorem dX2_comeTo_47 : decode cX2_comeTo 47 = .ok (.iload_n 1, 1) := by decide +kernel
theorem dX2_comeTo_48 : decode cX2_comeTo 48 = .ok (.iload_n 3, 1) := by decide +kernel
theorem dX2_comeTo_49 : decode cX2_comeTo 49 = .ok (.iastore, 1) := by decide +kernel
theorem dX2_comeTo_50 : decode cX2_comeTo 50 = .ok (.aload_n 0, 1) := by decide +kernel
theorem dX2_comeTo_51 : decode cX2_comeTo 51 = .ok (.getfield 21, 3) := by decide +kernel
theorem dX2_comeTo_54 : decode cX2_comeTo 54 = .ok (.aload_n 0, 1) := by decide +kernel
theorem dX2_comeTo_55 : decode cX2_comeTo 55 = .ok (.getfield 24, 3) := by decide +kernel
theorem dX2_comeTo_58 : decode cX2_comeTo 58 = .ok (.iload_n 1, 1) := by decide +kernel
theorem dX2_comeTo_59 : decode cX2_comeTo 59 = .ok (.iastore, 1) := by decide +kernel
theorem dX2_comeTo_60 : decode cX2_comeTo 60 = .ok (.aload_n 0, 1) := by decide +kernel
theorem dX2_comeTo_61 : decode cX2_comeTo 61 = .ok (.dup, 1) := by decide +kernel
theorem dX2_comeTo_62 : decode cX2_comeTo 62 = .ok (.getfield 24, 3) := by decide +kernel
theorem dX2_comeTo_65 : decode cX2_comeTo 65 = .ok (.iconst 1, 1) := by decide +kernel
theorem dX2_comeTo_66 : decode cX2_comeTo 66 = .ok (.iadd, 1) := by decide +kernel
theorem dX2_comeTo_67 : decode cX2_comeTo 67 = .ok (.putfield 24, 3) := by decide +kernel
theorem dX2_comeTo_70 : decode cX2_comeTo 70 = .ok (.return_, 1) := by decide +kernel
theorem dX2_howFar_0 : decode cX2_howFar 0 = .ok (.aload_n 0, 1) := by decide +kernel
theorem dX2_howFar_1 : decode cX2_howFar 1 = .ok (.getfield 9, 3) := by decide +kernel
theorem dX2_howFar_4 : decode cX2_howFar 4 = .ok (.iload_n 1, 1) := by decide +kernel
theorem dX2_howFar_5 : decode cX2_howFar 5 = .ok (.iaload, 1) := by decide +kernel
theorem dX2_howFar_6 : decode cX2_howFar 6 = .ok (.ireturn, 1) := by decide +kernel
theorem dX2_figureOnWay_0 : decode cX2_figureOnWay 0 = .ok (.aload_n 0, 1) := by decide +kernel
theorem dX2_figureOnWay_1 : decode cX2_figureOnWay 1 = .ok (.getfield 9, 3) := by decide +kernel
theorem dX2_figureOnWay_4 : decode cX2_figureOnWay 4 = .ok (.iload_n 1, 1) := by decide +kernel
theorem dX2_figureOnWay_5 : decode cX2_figureOnWay 5 = .ok (.iaload, 1) := by decide +kernel
theorem dX2_figureOnWay_6 : decode cX2_figureOnWay 6 = .ok (.bipush (-4), 2) := by decide +kernel
theorem dX2_figureOnWay_8 : decode cX2_figureOnWay 8 = .ok (.if_icmp .eq 13, 3) := by decide +kernel
theorem dX2_figureOnWay_11 : decode cX2_figureOnWay 11 = .ok (.iload_n 2, 1) := by decide +kernel
theorem dX2_figureOnWay_12 : decode cX2_figureOnWay 12 = .ok (.aload_n 0, 1) := by decide +kernel
theorem dX2_figureOnWay_13 : decode cX2_figureOnWay 13 = .ok (.getfield 9, 3) := by decide +kernel
theorem dX2_figureOnWay_16 : decode cX2_figureOnWay 16 = .ok (.iload_n 1, 1) := by decide +kernel
theorem dX2_figureOnWay_17 : decode cX2_figureOnWay 17 = .ok (.iaload, 1) := by decide +kernel
theorem dX2_figureOnWay_18 : decode cX2_figureOnWay 18 = .ok (.if_icmp .lt 6, 3) := by decide +kernel
theorem dX2_figureOnWay_21 : decode cX2_figureOnWay 21 = .ok (.bipush (-4), 2) := by decide +kernel
theorem dX2_figureOnWay_23 : decode cX2_figureOnWay 23 = .ok (.ireturn, 1) := by decide +kernel
theorem dX2_figureOnWay_24 : decode cX2_figureOnWay 24 = .ok (.iload_n 1, 1) := by decide +kernel
theorem dX2_figureOnWay_25 : decode cX2_figureOnWay 25 = .ok (.istore_n 3, 1) := by decide +kernel
theorem dX2_figureOnWay_26 : decode cX2_figureOnWay 26 = .ok (.aload_n 0, 1) := by decide +kernel
theorem dX2_figureOnWay_27 : decode cX2_figureOnWay 27 = .ok (.getfield 9, 3) := by decide +kernel
theorem dX2_figureOnWay_30 : decode cX2_figureOnWay 30 = .ok (.iload_n 1, 1) := by decide +kernel
theorem dX2_figureOnWay_31 : decode cX2_figureOnWay 31 = .ok (.iaload, 1) := by decide +kernel
theorem dX2_figureOnWay_32 : decode cX2_figureOnWay 32 = .ok (.iconst 1, 1) := by decide +kernel
theorem dX2_figureOnWay_33 : decode cX2_figureOnWay 33 = .ok (.isub, 1) := by decide +kernel
theorem dX2_figureOnWay_34 : decode cX2_figureOnWay 34 = .ok (.istore 4, 2) := by decide +kernel
theorem dX2_figureOnWay_36 : decode cX2_figureOnWay 36 = .ok (.iload 4, 2) := by decide +kernel
theorem dX2_figureOnWay_38 : decode cX2_figureOnWay 38 = .ok (.iload_n 2, 1) := by decide +kernel
theorem dX2_figureOnWay_39 : decode cX2_figureOnWay 39 = .ok (.if_icmp .le 16, 3) := by decide +kernel
theorem dX2_figureOnWay_42 : decode cX2_figureOnWay 42 = .ok (.aload_n 0, 1) := by decide +kernel
theorem dX2_figureOnWay_43 : decode cX2_figureOnWay 43 = .ok (.getfield 15, 3) := by decide +kernel
theorem dX2_figureOnWay_46 : decode cX2_figureOnWay 46 = .ok (.iload_n 3, 1) := by decide +kernel
theorem dX2_figureOnWay_47 : decode cX2_figureOnWay 47 = .ok (.iaload, 1) := by decide +kernel
theorem dX2_figureOnWay_48 : decode cX2_figureOnWay 48 = .ok (.istore_n 3, 1) := by decide +kernel
theorem dX2_figureOnWay_49 : decode cX2_figureOnWay 49 = .ok (.iinc 4 (-1), 3) := by decide +kernel
theorem dX2_figureOnWay_52 : decode cX2_figureOnWay 52 = .ok (.goto (-16), 3) := by decide +kernel
theorem dX2_figureOnWay_55 : decode cX2_figureOnWay 55 = .ok (.aload_n 0, 1) := by decide +kernel
theorem dX2_figureOnWay_56 : decode cX2_figureOnWay 56 = .ok (.getfield 18, 3) := by decide +kernel
theorem dX2_figureOnWay_59 : decode cX2_figureOnWay 59 = .ok (.iload_n 3, 1) := by decide +kernel
theorem dX2_figureOnWay_60 : decode cX2_figureOnWay 60 = .ok (.iaload, 1) := by decide +kernel
theorem dX2_figureOnWay_61 : decode cX2_figureOnWay 61 = .ok (.ireturn, 1) := by decide +kernel
theorem dX2_widestPair_0 : decode cX2_widestPair 0 = .ok (.aload_n 0, 1) := by decide +kernel
theorem dX2_widestPair_1 : decode cX2_widestPair 1 = .ok (.getfield 21, 3) := by decide +kernel
theorem dX2_widestPair_4 : decode cX2_widestPair 4 = .ok (.iconst 0, 1) := by decide +kernel
theorem dX2_widestPair_5 : decode cX2_widestPair 5 = .ok (.iaload, 1) := by decide +kernel
theorem dX2_widestPair_6 : decode cX2_widestPair 6 = .ok (.istore_n 1, 1) := by decide +kernel
theorem dX2_widestPair_7 : decode cX2_widestPair 7 = .ok (.iconst 1, 1) := by decide +kernel
theorem dX2_widestPair_8 : decode cX2_widestPair 8 = .ok (.istore_n 2, 1) := by decide +kernel
theorem dX2_widestPair_9 : decode cX2_widestPair 9 = .ok (.iload_n 2, 1) := by decide +kernel
theorem dX2_widestPair_10 : decode cX2_widestPair 10 = .ok (.aload_n 0, 1) := by decide +kernel
theorem dX2_widestPair_11 : decode cX2_widestPair 11 = .ok (.getfield 24, 3) := by decide +kernel
theorem dX2_widestPair_14 : decode cX2_widestPair 14 = .ok (.if_icmp .ge 32, 3) := by decide +kernel
theorem dX2_widestPair_17 : decode cX2_widestPair 17 = .ok (.aload_n 0, 1) := by decide +kernel
theorem dX2_widestPair_18 : decode cX2_widestPair 18 = .ok (.getfield 21, 3) := by decide +kernel
theorem dX2_widestPair_21 : decode cX2_widestPair 21 = .ok (.iload_n 2, 1) := by decide +kernel
theorem dX2_widestPair_22 : decode cX2_widestPair 22 = .ok (.iaload, 1) := by decide +kernel
theorem dX2_widestPair_23 : decode cX2_widestPair 23 = .ok (.invokestatic 41, 3) := by decide +kernel
theorem dX2_widestPair_26 : decode cX2_widestPair 26 = .ok (.iload_n 1, 1) := by decide +kernel
theorem dX2_widestPair_27 : decode cX2_widestPair 27 = .ok (.invokestatic 41, 3) := by decide +kernel
theorem dX2_widestPair_30 : decode cX2_widestPair 30 = .ok (.if_icmp .le 10, 3) := by decide +kernel
theorem dX2_widestPair_33 : decode cX2_widestPair 33 = .ok (.aload_n 0, 1) := by decide +kernel
theorem dX2_widestPair_34 : decode cX2_widestPair 34 = .ok (.getfield 21, 3) := by decide +kernel
theorem dX2_widestPair_37 : decode cX2_widestPair 37 = .ok (.iload_n 2, 1) := by decide +kernel
theorem dX2_widestPair_38 : decode cX2_widestPair 38 = .ok (.iaload, 1) := by decide +kernel
theorem dX2_widestPair_39 : decode cX2_widestPair 39 = .ok (.istore_n 1, 1) := by decide +kernel
theorem dX2_widestPair_40 : decode cX2_widestPair 40 = .ok (.iinc 2 1, 3) := by decide +kernel
theorem dX2_widestPair_43 : decode cX2_widestPair 43 = .ok (.goto (-34), 3) := by decide +kernel
theorem dX2_widestPair_46 : decode cX2_widestPair 46 = .ok (.iload_n 1, 1) := by decide +kernel
theorem dX2_widestPair_47 : decode cX2_widestPair 47 = .ok (.ireturn, 1) := by decide +kernel
theorem dX3_init_0 : decode cX3_init 0 = .ok (.aload_n 0, 1) := by decide +kernel
theorem dX3_init_1 : decode cX3_init 1 = .ok (.invokespecial 3, 3) := by decide +kernel
theorem dX3_init_4 : decode cX3_init 4 = .ok (.aload_n 0, 1) := by decide +kernel
theorem dX3_init_5 : decode cX3_init 5 = .ok (.iconst 4, 1) := by decide +kernel
theorem dX3_init_6 : decode cX3_init 6 = .ok (.newarray .int, 2) := by decide +kernel
theorem dX3_init_8 : decode cX3_init 8 = .ok (.dup, 1) := by decide +kernel
theorem dX3_init_9 : decode cX3_init 9 = .ok (.iconst 0, 1) := by decide +kernel
theorem dX3_init_10 : decode cX3_init 10 = .ok (.bipush (-4), 2) := by decide +kernel
theorem dX3_init_12 : decode cX3_init 12 = .ok (.iastore, 1) := by decide +kernel
theorem dX3_init_13 : decode cX3_init 13 = .ok (.dup, 1) := by decide +kernel
theorem dX3_init_14 : decode cX3_init 14 = .ok (.iconst 1, 1) := by decide +kernel
theorem dX3_init_15 : decode cX3_init 15 = .ok (.bipush (-4), 2) := by decide +kernel
theorem dX3_init_17 : decode cX3_init 17 = .ok (.iastore, 1) := by decide +kernel
theorem dX3_init_18 : decode cX3_init 18 = .ok (.dup, 1) := by decide +kernel
theorem dX3_init_19 : decode cX3_init 19 = .ok (.iconst 2, 1) := by decide +kernel
theorem dX3_init_20 : decode cX3_init 20 = .ok (.bipush (-4), 2) := by decide +kernel
theorem dX3_init_22 : decode cX3_init 22 = .ok (.iastore, 1) := by decide +kernel
theorem dX3_init_23 : decode cX3_init 23 = .ok (.dup, 1) := by decide +kernel
theorem dX3_init_24 : decode cX3_init 24 = .ok (.iconst 3, 1) := by decide +kernel
theorem dX3_init_25 : decode cX3_init 25 = .ok (.bipush (-4), 2) := by decide +kernel
theorem dX3_init_27 : decode cX3_init 27 = .ok (.iastore, 1) := by decide +kernel
theorem dX3_init_28 : decode cX3_init 28 = .ok (.putfield 9, 3) := by decide +kernel
theorem dX3_init_31 : decode cX3_init 31 = .ok (.aload_n 0, 1) := by decide +kernel
theorem dX3_init_32 : decode cX3_init 32 = .ok (.iconst 4, 1) := by decide +kernel
theorem dX3_init_33 : decode cX3_init 33 = .ok (.newarray .int, 2) := by decide +kernel
theorem dX3_init_35 : decode cX3_init 35 = .ok (.putfield 15, 3) := by decide +kernel
theorem dX3_init_38 : decode cX3_init 38 = .ok (.aload_n 0, 1) := by decide +kernel
theorem dX3_init_39 : decode cX3_init 39 = .ok (.bipush 96, 2) := by decide +kernel
theorem dX3_init_41 : decode cX3_init 41 = .ok (.newarray .long, 2) := by decide +kernel
theorem dX3_init_43 : decode cX3_init 43 = .ok (.putfield 18, 3) := by decide +kernel
theorem dX3_init_46 : decode cX3_init 46 = .ok (.return_, 1) := by decide +kernel
theorem dX3_isThere_0 : decode cX3_isThere 0 = .ok (.aload_n 0, 1) := by decide +kernel
theorem dX3_isThere_1 : decode cX3_isThere 1 = .ok (.getfield 9, 3) := by decide +kernel
theorem dX3_isThere_4 : decode cX3_isThere 4 = .ok (.iload_n 1, 1) := by decide +kernel
theorem dX3_isThere_5 : decode cX3_isThere 5 = .ok (.iaload, 1) := by decide +kernel
theorem dX3_isThere_6 : decode cX3_isThere 6 = .ok (.bipush (-4), 2) := by decide +kernel
theorem dX3_isThere_8 : decode cX3_isThere 8 = .ok (.if_icmp .eq 7, 3) := by decide +kernel
theorem dX3_isThere_11 : decode cX3_isThere 11 = .ok (.iconst 1, 1) := by decide +kernel
theorem dX3_isThere_12 : decode cX3_isThere 12 = .ok (.goto 4, 3) := by decide +kernel
theorem dX3_isThere_15 : decode cX3_isThere 15 = .ok (.iconst 0, 1) := by decide +kernel
theorem dX3_isThere_16 : decode cX3_isThere 16 = .ok (.ireturn, 1) := by decide +kernel
theorem dX3_hasItems_0 : decode cX3_hasItems 0 = .ok (.iload_n 3, 1) := by decide +kernel
theorem dX3_hasItems_1 : decode cX3_hasItems 1 = .ok (.ifCond .lt 33, 3) := by decide +kernel
theorem dX3_hasItems_4 : decode cX3_hasItems 4 = .ok (.iload_n 2, 1) := by decide +kernel
theorem dX3_hasItems_5 : decode cX3_hasItems 5 = .ok (.ifCond .lt 29, 3) := by decide +kernel
theorem dX3_hasItems_8 : decode cX3_hasItems 8 = .ok (.iload_n 2, 1) := by decide +kernel
theorem dX3_hasItems_9 : decode cX3_hasItems 9 = .ok (.aload_n 0, 1) := by decide +kernel
theorem dX3_hasItems_10 : decode cX3_hasItems 10 = .ok (.getfield 15, 3) := by decide +kernel
theorem dX3_hasItems_13 : decode cX3_hasItems 13 = .ok (.iload_n 1, 1) := by decide +kernel
theorem dX3_hasItems_14 : decode cX3_hasItems 14 = .ok (.iaload, 1) := by decide +kernel
theorem dX3_hasItems_15 : decode cX3_hasItems 15 = .ok (.if_icmp .gt 19, 3) := by decide +kernel
theorem dX3_hasItems_18 : decode cX3_hasItems 18 = .ok (.iload_n 3, 1) := by decide +kernel
theorem dX3_hasItems_19 : decode cX3_hasItems 19 = .ok (.aload_n 0, 1) := by decide +kernel
theorem dX3_hasItems_20 : decode cX3_hasItems 20 = .ok (.getfield 15, 3) := by decide +kernel
theorem dX3_hasItems_23 : decode cX3_hasItems 23 = .ok (.iload_n 1, 1) := by decide +kernel
theorem dX3_hasItems_24 : decode cX3_hasItems 24 = .ok (.iaload, 1) := by decide +kernel
theorem dX3_hasItems_25 : decode cX3_hasItems 25 = .ok (.iload_n 2, 1) := by decide +kernel
theorem dX3_hasItems_26 : decode cX3_hasItems 26 = .ok (.isub, 1) := by decide +kernel
theorem dX3_hasItems_27 : decode cX3_hasItems 27 = .ok (.if_icmp .gt 7, 3) := by decide +kernel
theorem dX3_hasItems_30 : decode cX3_hasItems 30 = .ok (.iconst 1, 1) := by decide +kernel
theorem dX3_hasItems_31 : decode cX3_hasItems 31 = .ok (.goto 4, 3) := by decide +kernel
theorem dX3_hasItems_34 : decode cX3_hasItems 34 = .ok (.iconst 0, 1) := by decide +kernel
theorem dX3_hasItems_35 : decode cX3_hasItems 35 = .ok (.ireturn, 1) := by decide +kernel
theorem dX3_refused_0 : decode cX3_refused 0 = .ok (.aload_n 0, 1) := by decide +kernel
theorem dX3_refused_1 : decode cX3_refused 1 = .ok (.iload_n 1, 1) := by decide +kernel
theorem dX3_refused_2 : decode cX3_refused 2 = .ok (.invokevirtual 22, 3) := by decide +kernel
theorem dX3_refused_5 : decode cX3_refused 5 = .ok (.ifCond .ne 6, 3) := by decide +kernel
theorem dX3_refused_8 : decode cX3_refused 8 = .ok (.bipush (-11), 2) := by decide +kernel
theorem dX3_refused_10 : decode cX3_refused 10 = .ok (.ireturn, 1) := by decide +kernel
theorem dX3_refused_11 : decode cX3_refused 11 = .ok (.aload_n 0, 1) := by decide +kernel
theorem dX3_refused_12 : decode cX3_refused 12 = .ok (.getfield 9, 3) := by decide +kernel
theorem dX3_refused_15 : decode cX3_refused 15 = .ok (.iload_n 1, 1) := by decide +kernel
theorem dX3_refused_16 : decode cX3_refused 16 = .ok (.iaload, 1) := by decide +kernel
theorem dX3_refused_17 : decode cX3_refused 17 = .ok (.iload_n 2, 1) := by decide +kernel
theorem dX3_refused_18 : decode cX3_refused 18 = .ok (.if_icmp .eq 6, 3) := by decide +kernel
theorem dX3_refused_21 : decode cX3_refused 21 = .ok (.bipush (-12), 2) := by decide +kernel
theorem dX3_refused_23 : decode cX3_refused 23 = .ok (.ireturn, 1) := by decide +kernel
theorem dX3_refused_24 : decode cX3_refused 24 = .ok (.aload_n 0, 1) := by decide +kernel
theorem dX3_refused_25 : decode cX3_refused 25 = .ok (.iload_n 1, 1) := by decide +kernel
theorem dX3_refused_26 : decode cX3_refused 26 = .ok (.iload_n 3, 1) := by decide +kernel
theorem dX3_refused_27 : decode cX3_refused 27 = .ok (.iload 4, 2) := by decide +kernel
theorem dX3_refused_29 : decode cX3_refused 29 = .ok (.invokevirtual 26, 3) := by decide +kernel
theorem dX3_refused_32 : decode cX3_refused 32 = .ok (.ifCond .eq 7, 3) := by decide +kernel
theorem dX3_refused_35 : decode cX3_refused 35 = .ok (.iconst 0, 1) := by decide +kernel
theorem dX3_refused_36 : decode cX3_refused 36 = .ok (.goto 5, 3) := by decide +kernel
theorem dX3_refused_39 : decode cX3_refused 39 = .ok (.bipush (-13), 2) := by decide +kernel
theorem dX3_refused_41 : decode cX3_refused 41 = .ok (.ireturn, 1) := by decide +kernel
theorem dX3_renew_0 : decode cX3_renew 0 = .ok (.aload_n 0, 1) := by decide +kernel
theorem dX3_renew_1 : decode cX3_renew 1 = .ok (.getfield 9, 3) := by decide +kernel
theorem dX3_renew_4 : decode cX3_renew 4 = .ok (.iload_n 1, 1) := by decide +kernel
theorem dX3_renew_5 : decode cX3_renew 5 = .ok (.iload_n 2, 1) := by decide +kernel
theorem dX3_renew_6 : decode cX3_renew 6 = .ok (.iastore, 1) := by decide +kernel
theorem dX3_renew_7 : decode cX3_renew 7 = .ok (.aload_n 0, 1) := by decide +kernel
theorem dX3_renew_8 : decode cX3_renew 8 = .ok (.getfield 15, 3) := by decide +kernel
theorem dX3_renew_11 : decode cX3_renew 11 = .ok (.iload_n 1, 1) := by decide +kernel
theorem dX3_renew_12 : decode cX3_renew 12 = .ok (.iload_n 3, 1) := by decide +kernel
theorem dX3_renew_13 : decode cX3_renew 13 = .ok (.iastore, 1) := by decide +kernel
theorem dX3_renew_14 : decode cX3_renew 14 = .ok (.iconst 0, 1) := by decide +kernel
theorem dX3_renew_15 : decode cX3_renew 15 = .ok (.istore 4, 2) := by decide +kernel
theorem dX3_renew_17 : decode cX3_renew 17 = .ok (.iload 4, 2) := by decide +kernel
theorem dX3_renew_19 : decode cX3_renew 19 = .ok (.iload_n 3, 1) := by decide +kernel
theorem dX3_renew_20 : decode cX3_renew 20 = .ok (.if_icmp .ge 22, 3) := by decide +kernel
theorem dX3_renew_23 : decode cX3_renew 23 = .ok (.aload_n 0, 1) := by decide +kernel
theorem dX3_renew_24 : decode cX3_renew 24 = .ok (.getfield 18, 3) := by decide +kernel
theorem dX3_renew_27 : decode cX3_renew 27 = .ok (.iload_n 1, 1) := by decide +kernel
theorem dX3_renew_28 : decode cX3_renew 28 = .ok (.bipush 24, 2) := by decide +kernel
theorem dX3_renew_30 : decode cX3_renew 30 = .ok (.imul, 1) := by decide +kernel
theorem dX3_renew_31 : decode cX3_renew 31 = .ok (.iload 4, 2) := by decide +kernel
theorem dX3_renew_33 : decode cX3_renew 33 = .ok (.iadd, 1) := by decide +kernel
theorem dX3_renew_34 : decode cX3_renew 34 = .ok (.lconst 0, 1) := by decide +kernel
theorem dX3_renew_35 : decode cX3_renew 35 = .ok (.lastore, 1) := by decide +kernel
theorem dX3_renew_36 : decode cX3_renew 36 = .ok (.iinc 4 1, 3) := by decide +kernel
theorem dX3_renew_39 : decode cX3_renew 39 = .ok (.goto (-22), 3) := by decide +kernel
theorem dX3_renew_42 : decode cX3_renew 42 = .ok (.return_, 1) := by decide +kernel
theorem dX3_takeAway_0 : decode cX3_takeAway 0 = .ok (.aload_n 0, 1) := by decide +kernel
theorem dX3_takeAway_1 : decode cX3_takeAway 1 = .ok (.getfield 9, 3) := by decide +kernel
theorem dX3_takeAway_4 : decode cX3_takeAway 4 = .ok (.iload_n 1, 1) := by decide +kernel
theorem dX3_takeAway_5 : decode cX3_takeAway 5 = .ok (.bipush (-4), 2) := by decide +kernel
theorem dX3_takeAway_7 : decode cX3_takeAway 7 = .ok (.iastore, 1) := by decide +kernel
theorem dX3_takeAway_8 : decode cX3_takeAway 8 = .ok (.aload_n 0, 1) := by decide +kernel
theorem dX3_takeAway_9 : decode cX3_takeAway 9 = .ok (.getfield 15, 3) := by decide +kernel
theorem dX3_takeAway_12 : decode cX3_takeAway 12 = .ok (.iload_n 1, 1) := by decide +kernel
theorem dX3_takeAway_13 : decode cX3_takeAway 13 = .ok (.iaload, 1) := by decide +kernel
theorem dX3_takeAway_14 : decode cX3_takeAway 14 = .ok (.ireturn, 1) := by decide +kernel
theorem dX3_itemOf_0 : decode cX3_itemOf 0 = .ok (.aload_n 0, 1) := by decide +kernel
theorem dX3_itemOf_1 : decode cX3_itemOf 1 = .ok (.getfield 18, 3) := by decide +kernel
theorem dX3_itemOf_4 : decode cX3_itemOf 4 = .ok (.iload_n 1, 1) := by decide +kernel
theorem dX3_itemOf_5 : decode cX3_itemOf 5 = .ok (.bipush 24, 2) := by decide +kernel
theorem dX3_itemOf_7 : decode cX3_itemOf 7 = .ok (.imul, 1) := by decide +kernel
theorem dX3_itemOf_8 : decode cX3_itemOf 8 = .ok (.iload_n 2, 1) := by decide +kernel
theorem dX3_itemOf_9 : decode cX3_itemOf 9 = .ok (.iadd, 1) := by decide +kernel
theorem dX3_itemOf_10 : decode cX3_itemOf 10 = .ok (.laload, 1) := by decide +kernel
theorem dX3_itemOf_11 : decode cX3_itemOf 11 = .ok (.lreturn, 1) := by decide +kernel
theorem dX3_put_0 : decode cX3_put 0 = .ok (.aload_n 0, 1) := by decide +kernel
theorem dX3_put_1 : decode cX3_put 1 = .ok (.getfield 18, 3) := by decide +kernel
theorem dX3_put_4 : decode cX3_put 4 = .ok (.iload_n 1, 1) := by decide +kernel
theorem dX3_put_5 : decode cX3_put 5 = .ok (.bipush 24, 2) := by decide +kernel
theorem dX3_put_7 : decode cX3_put 7 = .ok (.imul, 1) := by decide +kernel
theorem dX3_put_8 : decode cX3_put 8 = .ok (.iload_n 2, 1) := by decide +kernel
theorem dX3_put_9 : decode cX3_put 9 = .ok (.iadd, 1) := by decide +kernel
theorem dX3_put_10 : decode cX3_put 10 = .ok (.aload_n 0, 1) := by decide +kernel
theorem dX3_put_11 : decode cX3_put 11 = .ok (.getfield 9, 3) := by decide +kernel
theorem dX3_put_14 : decode cX3_put 14 = .ok (.iload_n 1, 1) := by decide +kernel
theorem dX3_put_15 : decode cX3_put 15 = .ok (.iaload, 1) := by decide +kernel
theorem dX3_put_16 : decode cX3_put 16 = .ok (.lload_n 3, 1) := by decide +kernel
theorem dX3_put_17 : decode cX3_put 17 = .ok (.invokestatic 30, 3) := by decide +kernel
theorem dX3_put_20 : decode cX3_put 20 = .ok (.lastore, 1) := by decide +kernel
theorem dX3_put_21 : decode cX3_put 21 = .ok (.return_, 1) := by decide +kernel
theorem dX3_carry_0 : decode cX3_carry 0 = .ok (.aload_n 0, 1) := by decide +kernel
theorem dX3_carry_1 : decode cX3_carry 1 = .ok (.getfield 18, 3) := by decide +kernel
theorem dX3_carry_4 : decode cX3_carry 4 = .ok (.iload_n 1, 1) := by decide +kernel
theorem dX3_carry_5 : decode cX3_carry 5 = .ok (.bipush 24, 2) := by decide +kernel
theorem dX3_carry_7 : decode cX3_carry 7 = .ok (.imul, 1) := by decide +kernel
theorem dX3_carry_8 : decode cX3_carry 8 = .ok (.iload_n 2, 1) := by decide +kernel
theorem dX3_carry_9 : decode cX3_carry 9 = .ok (.iadd, 1) := by decide +kernel
theorem dX3_carry_10 : decode cX3_carry 10 = .ok (.aload_n 0, 1) := by decide +kernel
theorem dX3_carry_11 : decode cX3_carry 11 = .ok (.getfield 18, 3) := by decide +kernel
theorem dX3_carry_14 : decode cX3_carry 14 = .ok (.iload_n 3, 1) := by decide +kernel
theorem dX3_carry_15 : decode cX3_carry 15 = .ok (.bipush 24, 2) := by decide +kernel
theorem dX3_carry_17 : decode cX3_carry 17 = .ok (.imul, 1) := by decide +kernel
theorem dX3_carry_18 : decode cX3_carry 18 = .ok (.iload 4, 2) := by decide +kernel
theorem dX3_carry_20 : decode cX3_carry 20 = .ok (.iadd, 1) := by decide +kernel
theorem dX3_carry_21 : decode cX3_carry 21 = .ok (.iload 5, 2) := by decide +kernel
theorem dX3_carry_23 : decode cX3_carry 23 = .ok (.invokestatic 34, 3) := by decide +kernel
theorem dX3_carry_26 : decode cX3_carry 26 = .ok (.return_, 1) := by decide +kernel
theorem dX3_lowestBits_0 : decode cX3_lowestBits 0 = .ok (.iload_n 0, 1) := by decide +kernel
theorem dX3_lowestBits_1 : decode cX3_lowestBits 1 = .ok (.tableswitch 41 0 2 #[27, 32, 37], 27) := by decide +kernel
theorem dX3_lowestBits_28 : decode cX3_lowestBits 28 = .ok (.lload_n 1, 1) := by decide +kernel
theorem dX3_lowestBits_29 : decode cX3_lowestBits 29 = .ok (.l2i, 1) := by decide +kernel
theorem dX3_lowestBits_30 : decode cX3_lowestBits 30 = .ok (.i2b, 1) := by decide +kernel
theorem dX3_lowestBits_31 : decode cX3_lowestBits 31 = .ok (.i2l, 1) := by decide +kernel
theorem dX3_lowestBits_32 : decode cX3_lowestBits 32 = .ok (.lreturn, 1) := by decide +kernel
theorem dX3_lowestBits_33 : decode cX3_lowestBits 33 = .ok (.lload_n 1, 1) := by decide +kernel
theorem dX3_lowestBits_34 : decode cX3_lowestBits 34 = .ok (.l2i, 1) := by decide +kernel
theorem dX3_lowestBits_35 : decode cX3_lowestBits 35 = .ok (.i2s, 1) := by decide +kernel
theorem dX3_lowestBits_36 : decode cX3_lowestBits 36 = .ok (.i2l, 1) := by decide +kernel
theorem dX3_lowestBits_37 : decode cX3_lowestBits 37 = .ok (.lreturn, 1) := by decide +kernel
theorem dX3_lowestBits_38 : decode cX3_lowestBits 38 = .ok (.lload_n 1, 1) := by decide +kernel
theorem dX3_lowestBits_39 : decode cX3_lowestBits 39 = .ok (.l2i, 1) := by decide +kernel
theorem dX3_lowestBits_40 : decode cX3_lowestBits 40 = .ok (.i2l, 1) := by decide +kernel
theorem dX3_lowestBits_41 : decode cX3_lowestBits 41 = .ok (.lreturn, 1) := by decide +kernel
theorem dX3_lowestBits_42 : decode cX3_lowestBits 42 = .ok (.lload_n 1, 1) := by decide +kernel
theorem dX3_lowestBits_43 : decode cX3_lowestBits 43 = .ok (.lreturn, 1) := by decide +kernel
theorem dX4_init_0 : decode cX4_init 0 = .ok (.aload_n 0, 1) := by decide +kernel
theorem dX4_init_1 : decode cX4_init 1 = .ok (.invokespecial 3, 3) := by decide +kernel
theorem dX4_init_4 : decode cX4_init 4 = .ok (.aload_n 0, 1) := by decide +kernel
theorem dX4_init_5 : decode cX4_init 5 = .ok (.bipush 60, 2) := by decide +kernel
theorem dX4_init_7 : decode cX4_init 7 = .ok (.newarray .int, 2) := by decide +kernel
theorem dX4_init_9 : decode cX4_init 9 = .ok (.putfield 11, 3) := by decide +kernel
theorem dX4_init_12 : decode cX4_init 12 = .ok (.return_, 1) := by decide +kernel
theorem dX4_isFull_0 : decode cX4_isFull 0 = .ok (.aload_n 0, 1) := by decide +kernel
theorem dX4_isFull_1 : decode cX4_isFull 1 = .ok (.getfield 15, 3) := by decide +kernel
theorem dX4_isFull_4 : decode cX4_isFull 4 = .ok (.bipush 60, 2) := by decide +kernel
theorem dX4_isFull_6 : decode cX4_isFull 6 = .ok (.if_icmp .lt 7, 3) := by decide +kernel
theorem dX4_isFull_9 : decode cX4_isFull 9 = .ok (.iconst 1, 1) := by decide +kernel
theorem dX4_isFull_10 : decode cX4_isFull 10 = .ok (.goto 4, 3) := by decide +kernel
theorem dX4_isFull_13 : decode cX4_isFull 13 = .ok (.iconst 0, 1) := by decide +kernel
theorem dX4_isFull_14 : decode cX4_isFull 14 = .ok (.ireturn, 1) := by decide +kernel
theorem dX4_put_0 : decode cX4_put 0 = .ok (.aload_n 0, 1) := by decide +kernel
theorem dX4_put_1 : decode cX4_put 1 = .ok (.getfield 15, 3) := by decide +kernel
theorem dX4_put_4 : decode cX4_put 4 = .ok (.bipush 60, 2) := by decide +kernel
theorem dX4_put_6 : decode cX4_put 6 = .ok (.if_icmp .ge 23, 3) := by decide +kernel
theorem dX4_put_9 : decode cX4_put 9 = .ok (.aload_n 0, 1) := by decide +kernel
theorem dX4_put_10 : decode cX4_put 10 = .ok (.getfield 11, 3) := by decide +kernel
theorem dX4_put_13 : decode cX4_put 13 = .ok (.aload_n 0, 1) := by decide +kernel
theorem dX4_put_14 : decode cX4_put 14 = .ok (.getfield 15, 3) := by decide +kernel
theorem dX4_put_17 : decode cX4_put 17 = .ok (.iload_n 1, 1) := by decide +kernel
theorem dX4_put_18 : decode cX4_put 18 = .ok (.iastore, 1) := by decide +kernel
theorem dX4_put_19 : decode cX4_put 19 = .ok (.aload_n 0, 1) := by decide +kernel
theorem dX4_put_20 : decode cX4_put 20 = .ok (.dup, 1) := by decide +kernel
theorem dX4_put_21 : decode cX4_put 21 = .ok (.getfield 15, 3) := by decide +kernel
theorem dX4_put_24 : decode cX4_put 24 = .ok (.iconst 1, 1) := by decide +kernel
theorem dX4_put_25 : decode cX4_put 25 = .ok (.iadd, 1) := by decide +kernel
theorem dX4_put_26 : decode cX4_put 26 = .ok (.putfield 15, 3) := by decide +kernel
theorem dX4_put_29 : decode cX4_put 29 = .ok (.aload_n 0, 1) := by decide +kernel
theorem dX4_put_30 : decode cX4_put 30 = .ok (.getfield 15, 3) := by decide +kernel
theorem dX4_put_33 : decode cX4_put 33 = .ok (.ireturn, 1) := by decide +kernel
theorem dX4_wipe_0 : decode cX4_wipe 0 = .ok (.aload_n 0, 1) := by decide +kernel
theorem dX4_wipe_1 : decode cX4_wipe 1 = .ok (.iconst 0, 1) := by decide +kernel
theorem dX4_wipe_2 : decode cX4_wipe 2 = .ok (.putfield 15, 3) := by decide +kernel
theorem dX4_wipe_5 : decode cX4_wipe 5 = .ok (.return_, 1) := by decide +kernel
theorem dX4_readInto_0 : decode cX4_readInto 0 = .ok (.aload_n 0, 1) := by decide +kernel
theorem dX4_readInto_1 : decode cX4_readInto 1 = .ok (.iconst 0, 1) := by decide +kernel
theorem dX4_readInto_2 : decode cX4_readInto 2 = .ok (.putfield 19, 3) := by decide +kernel
theorem dX4_readInto_5 : decode cX4_readInto 5 = .ok (.aload_n 1, 1) := by decide +kernel
theorem dX4_readInto_6 : decode cX4_readInto 6 = .ok (.invokevirtual 22, 3) := by decide +kernel
theorem dX4_readInto_9 : decode cX4_readInto 9 = .ok (.aload_n 0, 1) := by decide +kernel
theorem dX4_readInto_10 : decode cX4_readInto 10 = .ok (.aload_n 1, 1) := by decide +kernel
theorem dX4_readInto_11 : decode cX4_readInto 11 = .ok (.invokevirtual 27, 3) := by decide +kernel
theorem dX4_readInto_14 : decode cX4_readInto 14 = .ok (.ifCond .eq 22, 3) := by decide +kernel
theorem dX4_readInto_17 : decode cX4_readInto 17 = .ok (.aload_n 0, 1) := by decide +kernel
theorem dX4_readInto_18 : decode cX4_readInto 18 = .ok (.aload_n 1, 1) := by decide +kernel
theorem dX4_readInto_19 : decode cX4_readInto 19 = .ok (.invokevirtual 31, 3) := by decide +kernel
theorem dX4_readInto_22 : decode cX4_readInto 22 = .ok (.ifCond .eq 14, 3) := by decide +kernel
theorem dX4_readInto_25 : decode cX4_readInto 25 = .ok (.aload_n 0, 1) := by decide +kernel
theorem dX4_readInto_26 : decode cX4_readInto 26 = .ok (.invokevirtual 34, 3) := by decide +kernel
theorem dX4_readInto_29 : decode cX4_readInto 29 = .ok (.ifCond .ne 7, 3) := by decide +kernel
theorem dX4_readInto_32 : decode cX4_readInto 32 = .ok (.iconst 1, 1) := by decide +kernel
theorem dX4_readInto_33 : decode cX4_readInto 33 = .ok (.goto 4, 3) := by decide +kernel
theorem dX4_readInto_36 : decode cX4_readInto 36 = .ok (.iconst 0, 1) := by decide +kernel
theorem dX4_readInto_37 : decode cX4_readInto 37 = .ok (.ireturn, 1) := by decide +kernel
theorem dX4_readPlaces_0 : decode cX4_readPlaces 0 = .ok (.iconst 0, 1) := by decide +kernel
theorem dX4_readPlaces_1 : decode cX4_readPlaces 1 = .ok (.istore_n 2, 1) := by decide +kernel
theorem dX4_readPlaces_2 : decode cX4_readPlaces 2 = .ok (.iload_n 2, 1) := by decide +kernel
theorem dX4_readPlaces_3 : decode cX4_readPlaces 3 = .ok (.bipush 8, 2) := by decide +kernel
theorem dX4_readPlaces_5 : decode cX4_readPlaces 5 = .ok (.if_icmp .ge 38, 3) := by decide +kernel
theorem dX4_readPlaces_8 : decode cX4_readPlaces 8 = .ok (.aload_n 0, 1) := by decide +kernel
theorem dX4_readPlaces_9 : decode cX4_readPlaces 9 = .ok (.bipush 42, 2) := by decide +kernel
theorem dX4_readPlaces_11 : decode cX4_readPlaces 11 = .ok (.invokevirtual 38, 3) := by decide +kernel
theorem dX4_readPlaces_14 : decode cX4_readPlaces 14 = .ok (.ifCond .eq 12, 3) := by decide +kernel
theorem dX4_readPlaces_17 : decode cX4_readPlaces 17 = .ok (.aload_n 1, 1) := by decide +kernel
theorem dX4_readPlaces_18 : decode cX4_readPlaces 18 = .ok (.iload_n 2, 1) := by decide +kernel
theorem dX4_readPlaces_19 : decode cX4_readPlaces 19 = .ok (.invokevirtual 42, 3) := by decide +kernel
theorem dX4_readPlaces_22 : decode cX4_readPlaces 22 = .ok (.pop, 1) := by decide +kernel
theorem dX4_readPlaces_23 : decode cX4_readPlaces 23 = .ok (.goto 14, 3) := by decide +kernel
theorem dX4_readPlaces_26 : decode cX4_readPlaces 26 = .ok (.aload_n 0, 1) := by decide +kernel
theorem dX4_readPlaces_27 : decode cX4_readPlaces 27 = .ok (.bipush 46, 2) := by decide +kernel
theorem dX4_readPlaces_29 : decode cX4_readPlaces 29 = .ok (.invokevirtual 38, 3) := by decide +kernel
theorem dX4_readPlaces_32 : decode cX4_readPlaces 32 = .ok (.ifCond .ne 5, 3) := by decide +kernel
theorem dX4_readPlaces_35 : decode cX4_readPlaces 35 = .ok (.iconst 0, 1) := by decide +kernel
theorem dX4_readPlaces_36 : decode cX4_readPlaces 36 = .ok (.ireturn, 1) := by decide +kernel
theorem dX4_readPlaces_37 : decode cX4_readPlaces 37 = .ok (.iinc 2 1, 3) := by decide +kernel
theorem dX4_readPlaces_40 : decode cX4_readPlaces 40 = .ok (.goto (-38), 3) := by decide +kernel
theorem dX4_readPlaces_43 : decode cX4_readPlaces 43 = .ok (.iconst 1, 1) := by decide +kernel
theorem dX4_readPlaces_44 : decode cX4_readPlaces 44 = .ok (.ireturn, 1) := by decide +kernel
theorem dX4_readFigures_0 : decode cX4_readFigures 0 = .ok (.aload_n 0, 1) := by decide +kernel
theorem dX4_readFigures_1 : decode cX4_readFigures 1 = .ok (.bipush 59, 2) := by decide +kernel
theorem dX4_readFigures_3 : decode cX4_readFigures 3 = .ok (.invokevirtual 38, 3) := by decide +kernel
theorem dX4_readFigures_6 : decode cX4_readFigures 6 = .ok (.ifCond .ne 5, 3) := by decide +kernel
theorem dX4_readFigures_9 : decode cX4_readFigures 9 = .ok (.iconst 1, 1) := by decide +kernel
theorem dX4_readFigures_10 : decode cX4_readFigures 10 = .ok (.ireturn, 1) := by decide +kernel
theorem dX4_readFigures_11 : decode cX4_readFigures 11 = .ok (.iconst 0, 1) := by decide +kernel
theorem dX4_readFigures_12 : decode cX4_readFigures 12 = .ok (.istore_n 2, 1) := by decide +kernel
theorem dX4_readFigures_13 : decode cX4_readFigures 13 = .ok (.iload_n 2, 1) := by decide +kernel
theorem dX4_readFigures_14 : decode cX4_readFigures 14 = .ok (.iconst 5, 1) := by decide +kernel
theorem dX4_readFigures_15 : decode cX4_readFigures 15 = .ok (.if_icmp .ge 35, 3) := by decide +kernel
theorem dX4_readFigures_18 : decode cX4_readFigures 18 = .ok (.iload_n 2, 1) := by decide +kernel
theorem dX4_readFigures_19 : decode cX4_readFigures 19 = .ok (.ifCond .le 15, 3) := by decide +kernel
theorem dX4_readFigures_22 : decode cX4_readFigures 22 = .ok (.aload_n 0, 1) := by decide +kernel
theorem dX4_readFigures_23 : decode cX4_readFigures 23 = .ok (.bipush 44, 2) := by decide +kernel
theorem dX4_readFigures_25 : decode cX4_readFigures 25 = .ok (.invokevirtual 38, 3) := by decide +kernel
theorem dX4_readFigures_28 : decode cX4_readFigures 28 = .ok (.ifCond .ne 6, 3) := by decide +kernel
theorem dX4_readFigures_31 : decode cX4_readFigures 31 = .ok (.goto 19, 3) := by decide +kernel
theorem dX4_readFigures_34 : decode cX4_readFigures 34 = .ok (.aload_n 0, 1) := by decide +kernel
theorem dX4_readFigures_35 : decode cX4_readFigures 35 = .ok (.aload_n 1, 1) := by decide +kernel
theorem dX4_readFigures_36 : decode cX4_readFigures 36 = .ok (.invokevirtual 46, 3) := by decide +kernel
theorem dX4_readFigures_39 : decode cX4_readFigures 39 = .ok (.ifCond .ne 5, 3) := by decide +kernel
theorem dX4_readFigures_42 : decode cX4_readFigures 42 = .ok (.iconst 0, 1) := by decide +kernel
theorem dX4_readFigures_43 : decode cX4_readFigures 43 = .ok (.ireturn, 1) := by decide +kernel
theorem dX4_readFigures_44 : decode cX4_readFigures 44 = .ok (.iinc 2 1, 3) := by decide +kernel
theorem dX4_readFigures_47 : decode cX4_readFigures 47 = .ok (.goto (-34), 3) := by decide +kernel
theorem dX4_readFigures_50 : decode cX4_readFigures 50 = .ok (.aload_n 0, 1) := by decide +kernel
theorem dX4_readFigures_51 : decode cX4_readFigures 51 = .ok (.aload_n 1, 1) := by decide +kernel
theorem dX4_readFigures_52 : decode cX4_readFigures 52 = .ok (.invokevirtual 49, 3) := by decide +kernel
theorem dX4_readFigures_55 : decode cX4_readFigures 55 = .ok (.ireturn, 1) := by decide +kernel
theorem dX4_readFigure_0 : decode cX4_readFigure 0 = .ok (.aload_n 0, 1) := by decide +kernel
theorem dX4_readFigure_1 : decode cX4_readFigure 1 = .ok (.invokevirtual 34, 3) := by decide +kernel
theorem dX4_readFigure_4 : decode cX4_readFigure 4 = .ok (.invokestatic 52, 3) := by decide +kernel
theorem dX4_readFigure_7 : decode cX4_readFigure 7 = .ok (.istore_n 2, 1) := by decide +kernel
theorem dX4_readFigure_8 : decode cX4_readFigure 8 = .ok (.iload_n 2, 1) := by decide +kernel
theorem dX4_readFigure_9 : decode cX4_readFigure 9 = .ok (.bipush (-4), 2) := by decide +kernel
theorem dX4_readFigure_11 : decode cX4_readFigure 11 = .ok (.if_icmp .ne 5, 3) := by decide +kernel
theorem dX4_readFigure_14 : decode cX4_readFigure 14 = .ok (.iconst 0, 1) := by decide +kernel
theorem dX4_readFigure_15 : decode cX4_readFigure 15 = .ok (.ireturn, 1) := by decide +kernel
theorem dX4_readFigure_16 : decode cX4_readFigure 16 = .ok (.aload_n 0, 1) := by decide +kernel
theorem dX4_readFigure_17 : decode cX4_readFigure 17 = .ok (.dup, 1) := by decide +kernel
theorem dX4_readFigure_18 : decode cX4_readFigure 18 = .ok (.getfield 19, 3) := by decide +kernel
theorem dX4_readFigure_21 : decode cX4_readFigure 21 = .ok (.iconst 1, 1) := by decide +kernel
theorem dX4_readFigure_22 : decode cX4_readFigure 22 = .ok (.iadd, 1) := by decide +kernel
theorem dX4_readFigure_23 : decode cX4_readFigure 23 = .ok (.putfield 19, 3) := by decide +kernel
theorem dX4_readFigure_26 : decode cX4_readFigure 26 = .ok (.aload_n 0, 1) := by decide +kernel
theorem dX4_readFigure_27 : decode cX4_readFigure 27 = .ok (.bipush 8, 2) := by decide +kernel
theorem dX4_readFigure_29 : decode cX4_readFigure 29 = .ok (.invokevirtual 55, 3) := by decide +kernel
theorem dX4_readFigure_32 : decode cX4_readFigure 32 = .ok (.istore_n 3, 1) := by decide +kernel
theorem dX4_readFigure_33 : decode cX4_readFigure 33 = .ok (.iload_n 3, 1) := by decide +kernel
theorem dX4_readFigure_34 : decode cX4_readFigure 34 = .ok (.bipush (-4), 2) := by decide +kernel
theorem dX4_readFigure_36 : decode cX4_readFigure 36 = .ok (.if_icmp .ne 5, 3) := by decide +kernel
theorem dX4_readFigure_39 : decode cX4_readFigure 39 = .ok (.iconst 0, 1) := by decide +kernel
theorem dX4_readFigure_40 : decode cX4_readFigure 40 = .ok (.ireturn, 1) := by decide +kernel
theorem dX4_readFigure_41 : decode cX4_readFigure 41 = .ok (.aload_n 1, 1) := by decide +kernel
theorem dX4_readFigure_42 : decode cX4_readFigure 42 = .ok (.iload_n 2, 1) := by decide +kernel
theorem dX4_readFigure_43 : decode cX4_readFigure 43 = .ok (.iload_n 3, 1) := by decide +kernel
theorem dX4_readFigure_44 : decode cX4_readFigure 44 = .ok (.invokevirtual 58, 3) := by decide +kernel
theorem dX4_readFigure_47 : decode cX4_readFigure 47 = .ok (.pop, 1) := by decide +kernel
theorem dX4_readFigure_48 : decode cX4_readFigure 48 = .ok (.iconst 1, 1) := by decide +kernel
theorem dX4_readFigure_49 : decode cX4_readFigure 49 = .ok (.ireturn, 1) := by decide +kernel
theorem dX4_readTune_0 : decode cX4_readTune 0 = .ok (.aload_n 0, 1) := by decide +kernel
theorem dX4_readTune_1 : decode cX4_readTune 1 = .ok (.bipush 58, 2) := by decide +kernel
theorem dX4_readTune_3 : decode cX4_readTune 3 = .ok (.invokevirtual 38, 3) := by decide +kernel
theorem dX4_readTune_6 : decode cX4_readTune 6 = .ok (.ifCond .ne 5, 3) := by decide +kernel
theorem dX4_readTune_9 : decode cX4_readTune 9 = .ok (.iconst 1, 1) := by decide +kernel
theorem dX4_readTune_10 : decode cX4_readTune 10 = .ok (.ireturn, 1) := by decide +kernel
theorem dX4_readTune_11 : decode cX4_readTune 11 = .ok (.iconst 0, 1) := by decide +kernel
theorem dX4_readTune_12 : decode cX4_readTune 12 = .ok (.istore_n 2, 1) := by decide +kernel
theorem dX4_readTune_13 : decode cX4_readTune 13 = .ok (.iload_n 2, 1) := by decide +kernel
theorem dX4_readTune_14 : decode cX4_readTune 14 = .ok (.bipush 16, 2) := by decide +kernel
theorem dX4_readTune_16 : decode cX4_readTune 16 = .ok (.if_icmp .ge 33, 3) := by decide +kernel
theorem dX4_readTune_19 : decode cX4_readTune 19 = .ok (.aload_n 0, 1) := by decide +kernel
theorem dX4_readTune_20 : decode cX4_readTune 20 = .ok (.aload_n 1, 1) := by decide +kernel
theorem dX4_readTune_21 : decode cX4_readTune 21 = .ok (.getfield 62, 3) := by decide +kernel
theorem dX4_readTune_24 : decode cX4_readTune 24 = .ok (.invokevirtual 55, 3) := by decide +kernel
theorem dX4_readTune_27 : decode cX4_readTune 27 = .ok (.istore_n 3, 1) := by decide +kernel
theorem dX4_readTune_28 : decode cX4_readTune 28 = .ok (.iload_n 3, 1) := by decide +kernel
theorem dX4_readTune_29 : decode cX4_readTune 29 = .ok (.bipush (-4), 2) := by decide +kernel
theorem dX4_readTune_31 : decode cX4_readTune 31 = .ok (.if_icmp .ne 6, 3) := by decide +kernel
theorem dX4_readTune_34 : decode cX4_readTune 34 = .ok (.goto 15, 3) := by decide +kernel
theorem dX4_readTune_37 : decode cX4_readTune 37 = .ok (.aload_n 1, 1) := by decide +kernel
theorem dX4_readTune_38 : decode cX4_readTune 38 = .ok (.iload_n 3, 1) := by decide +kernel
theorem dX4_readTune_39 : decode cX4_readTune 39 = .ok (.invokevirtual 65, 3) := by decide +kernel
theorem dX4_readTune_42 : decode cX4_readTune 42 = .ok (.pop, 1) := by decide +kernel
theorem dX4_readTune_43 : decode cX4_readTune 43 = .ok (.iinc 2 1, 3) := by decide +kernel
theorem dX4_readTune_46 : decode cX4_readTune 46 = .ok (.goto (-33), 3) := by decide +kernel
theorem dX4_readTune_49 : decode cX4_readTune 49 = .ok (.aload_n 1, 1) := by decide +kernel
theorem dX4_readTune_50 : decode cX4_readTune 50 = .ok (.getfield 68, 3) := by decide +kernel
theorem dX4_readTune_53 : decode cX4_readTune 53 = .ok (.ifCond .le 7, 3) := by decide +kernel
theorem dX4_readTune_56 : decode cX4_readTune 56 = .ok (.iconst 1, 1) := by decide +kernel
theorem dX4_readTune_57 : decode cX4_readTune 57 = .ok (.goto 4, 3) := by decide +kernel
theorem dX4_readTune_60 : decode cX4_readTune 60 = .ok (.iconst 0, 1) := by decide +kernel
theorem dX4_readTune_61 : decode cX4_readTune 61 = .ok (.ireturn, 1) := by decide +kernel
theorem dX4_next_0 : decode cX4_next 0 = .ok (.aload_n 0, 1) := by decide +kernel
theorem dX4_next_1 : decode cX4_next 1 = .ok (.getfield 19, 3) := by decide +kernel
theorem dX4_next_4 : decode cX4_next 4 = .ok (.aload_n 0, 1) := by decide +kernel
theorem dX4_next_5 : decode cX4_next 5 = .ok (.getfield 15, 3) := by decide +kernel
theorem dX4_next_8 : decode cX4_next 8 = .ok (.if_icmp .ge 30, 3) := by decide +kernel
theorem dX4_next_11 : decode cX4_next 11 = .ok (.aload_n 0, 1) := by decide +kernel
theorem dX4_next_12 : decode cX4_next 12 = .ok (.getfield 11, 3) := by decide +kernel
theorem dX4_next_15 : decode cX4_next 15 = .ok (.aload_n 0, 1) := by decide +kernel
theorem dX4_next_16 : decode cX4_next 16 = .ok (.getfield 19, 3) := by decide +kernel
theorem dX4_next_19 : decode cX4_next 19 = .ok (.iaload, 1) := by decide +kernel
theorem dX4_next_20 : decode cX4_next 20 = .ok (.bipush 32, 2) := by decide +kernel
theorem dX4_next_22 : decode cX4_next 22 = .ok (.if_icmp .ne 16, 3) := by decide +kernel
theorem dX4_next_25 : decode cX4_next 25 = .ok (.aload_n 0, 1) := by decide +kernel
theorem dX4_next_26 : decode cX4_next 26 = .ok (.dup, 1) := by decide +kernel
theorem dX4_next_27 : decode cX4_next 27 = .ok (.getfield 19, 3) := by decide +kernel
theorem dX4_next_30 : decode cX4_next 30 = .ok (.iconst 1, 1) := by decide +kernel
theorem dX4_next_31 : decode cX4_next 31 = .ok (.iadd, 1) := by decide +kernel
theorem dX4_next_32 : decode cX4_next 32 = .ok (.putfield 19, 3) := by decide +kernel
theorem dX4_next_35 : decode cX4_next 35 = .ok (.goto (-35), 3) := by decide +kernel
theorem dX4_next_38 : decode cX4_next 38 = .ok (.aload_n 0, 1) := by decide +kernel
theorem dX4_next_39 : decode cX4_next 39 = .ok (.getfield 19, 3) := by decide +kernel
theorem dX4_next_42 : decode cX4_next 42 = .ok (.aload_n 0, 1) := by decide +kernel
theorem dX4_next_43 : decode cX4_next 43 = .ok (.getfield 15, 3) := by decide +kernel
theorem dX4_next_46 : decode cX4_next 46 = .ok (.if_icmp .ge 15, 3) := by decide +kernel
theorem dX4_next_49 : decode cX4_next 49 = .ok (.aload_n 0, 1) := by decide +kernel
theorem dX4_next_50 : decode cX4_next 50 = .ok (.getfield 11, 3) := by decide +kernel
theorem dX4_next_53 : decode cX4_next 53 = .ok (.aload_n 0, 1) := by decide +kernel
theorem dX4_next_54 : decode cX4_next 54 = .ok (.getfield 19, 3) := by decide +kernel
theorem dX4_next_57 : decode cX4_next 57 = .ok (.iaload, 1) := by decide +kernel
theorem dX4_next_58 : decode cX4_next 58 = .ok (.goto 4, 3) := by decide +kernel
theorem dX4_next_61 : decode cX4_next 61 = .ok (.iconst 0, 1) := by decide +kernel
theorem dX4_next_62 : decode cX4_next 62 = .ok (.ireturn, 1) := by decide +kernel
theorem dX4_takes_0 : decode cX4_takes 0 = .ok (.aload_n 0, 1) := by decide +kernel
theorem dX4_takes_1 : decode cX4_takes 1 = .ok (.invokevirtual 34, 3) := by decide +kernel
theorem dX4_takes_4 : decode cX4_takes 4 = .ok (.iload_n 1, 1) := by decide +kernel
theorem dX4_takes_5 : decode cX4_takes 5 = .ok (.if_icmp .eq 5, 3) := by decide +kernel
theorem dX4_takes_8 : decode cX4_takes 8 = .ok (.iconst 0, 1) := by decide +kernel
theorem dX4_takes_9 : decode cX4_takes 9 = .ok (.ireturn, 1) := by decide +kernel
theorem dX4_takes_10 : decode cX4_takes 10 = .ok (.aload_n 0, 1) := by decide +kernel
theorem dX4_takes_11 : decode cX4_takes 11 = .ok (.dup, 1) := by decide +kernel
theorem dX4_takes_12 : decode cX4_takes 12 = .ok (.getfield 19, 3) := by decide +kernel
theorem dX4_takes_15 : decode cX4_takes 15 = .ok (.iconst 1, 1) := by decide +kernel
theorem dX4_takes_16 : decode cX4_takes 16 = .ok (.iadd, 1) := by decide +kernel
theorem dX4_takes_17 : decode cX4_takes 17 = .ok (.putfield 19, 3) := by decide +kernel
theorem dX4_takes_20 : decode cX4_takes 20 = .ok (.iconst 1, 1) := by decide +kernel
theorem dX4_takes_21 : decode cX4_takes 21 = .ok (.ireturn, 1) := by decide +kernel
theorem dX4_takeDigit_0 : decode cX4_takeDigit 0 = .ok (.aload_n 0, 1) := by decide +kernel
theorem dX4_takeDigit_1 : decode cX4_takeDigit 1 = .ok (.invokevirtual 34, 3) := by decide +kernel
theorem dX4_takeDigit_4 : decode cX4_takeDigit 4 = .ok (.bipush 48, 2) := by decide +kernel
theorem dX4_takeDigit_6 : decode cX4_takeDigit 6 = .ok (.isub, 1) := by decide +kernel
theorem dX4_takeDigit_7 : decode cX4_takeDigit 7 = .ok (.istore_n 2, 1) := by decide +kernel
theorem dX4_takeDigit_8 : decode cX4_takeDigit 8 = .ok (.iload_n 2, 1) := by decide +kernel
theorem dX4_takeDigit_9 : decode cX4_takeDigit 9 = .ok (.ifCond .lt 8, 3) := by decide +kernel
theorem dX4_takeDigit_12 : decode cX4_takeDigit 12 = .ok (.iload_n 2, 1) := by decide +kernel
theorem dX4_takeDigit_13 : decode cX4_takeDigit 13 = .ok (.iload_n 1, 1) := by decide +kernel
theorem dX4_takeDigit_14 : decode cX4_takeDigit 14 = .ok (.if_icmp .lt 6, 3) := by decide +kernel
theorem dX4_takeDigit_17 : decode cX4_takeDigit 17 = .ok (.bipush (-4), 2) := by decide +kernel
theorem dX4_takeDigit_19 : decode cX4_takeDigit 19 = .ok (.ireturn, 1) := by decide +kernel
theorem dX4_takeDigit_20 : decode cX4_takeDigit 20 = .ok (.aload_n 0, 1) := by decide +kernel
theorem dX4_takeDigit_21 : decode cX4_takeDigit 21 = .ok (.dup, 1) := by decide +kernel
theorem dX4_takeDigit_22 : decode cX4_takeDigit 22 = .ok (.getfield 19, 3) := by decide +kernel
theorem dX4_takeDigit_25 : decode cX4_takeDigit 25 = .ok (.iconst 1, 1) := by decide +kernel
theorem dX4_takeDigit_26 : decode cX4_takeDigit 26 = .ok (.iadd, 1) := by decide +kernel
theorem dX4_takeDigit_27 : decode cX4_takeDigit 27 = .ok (.putfield 19, 3) := by decide +kernel
theorem dX4_takeDigit_30 : decode cX4_takeDigit 30 = .ok (.iload_n 2, 1) := by decide +kernel
theorem dX4_takeDigit_31 : decode cX4_takeDigit 31 = .ok (.ireturn, 1) := by decide +kernel
theorem dX4_kindOf_0 : decode cX4_kindOf 0 = .ok (.iload_n 0, 1) := by decide +kernel
theorem dX4_kindOf_1 : decode cX4_kindOf 1 = .ok (.lookupswitch 61 #[(99, 59), (101, 53), (104, 57), (109, 55), (114, 51)], 51) := by decide +kernel
theorem dX4_kindOf_52 : decode cX4_kindOf 52 = .ok (.iconst 0, 1) := by decide +kernel
theorem dX4_kindOf_53 : decode cX4_kindOf 53 = .ok (.ireturn, 1) := by decide +kernel
theorem dX4_kindOf_54 : decode cX4_kindOf 54 = .ok (.iconst 1, 1) := by decide +kernel
theorem dX4_kindOf_55 : decode cX4_kindOf 55 = .ok (.ireturn, 1) := by decide +kernel
theorem dX4_kindOf_56 : decode cX4_kindOf 56 = .ok (.iconst 2, 1) := by decide +kernel
theorem dX4_kindOf_57 : decode cX4_kindOf 57 = .ok (.ireturn, 1) := by decide +kernel
theorem dX4_kindOf_58 : decode cX4_kindOf 58 = .ok (.iconst 3, 1) := by decide +kernel
theorem dX4_kindOf_59 : decode cX4_kindOf 59 = .ok (.ireturn, 1) := by decide +kernel
theorem dX4_kindOf_60 : decode cX4_kindOf 60 = .ok (.iconst 4, 1) := by decide +kernel
theorem dX4_kindOf_61 : decode cX4_kindOf 61 = .ok (.ireturn, 1) := by decide +kernel
theorem dX4_kindOf_62 : decode cX4_kindOf 62 = .ok (.bipush (-4), 2) := by decide +kernel
theorem dX4_kindOf_64 : decode cX4_kindOf 64 = .ok (.ireturn, 1) := by decide +kernel
theorem dJ6_bitCount_0f7a4_0 : decode cJ6_bitCount_0f7a4 0 = .ok (.iload_n 0, 1) := by decide +kernel
theorem dJ6_bitCount_0f7a4_1 : decode cJ6_bitCount_0f7a4 1 = .ok (.iload_n 0, 1) := by decide +kernel
theorem dJ6_bitCount_0f7a4_2 : decode cJ6_bitCount_0f7a4 2 = .ok (.iconst 1, 1) := by decide +kernel
theorem dJ6_bitCount_0f7a4_3 : decode cJ6_bitCount_0f7a4 3 = .ok (.iushr, 1) := by decide +kernel
theorem dJ6_bitCount_0f7a4_4 : decode cJ6_bitCount_0f7a4 4 = .ok (.ldc_w 265, 3) := by decide +kernel
theorem dJ6_bitCount_0f7a4_7 : decode cJ6_bitCount_0f7a4 7 = .ok (.iand, 1) := by decide +kernel
theorem dJ6_bitCount_0f7a4_8 : decode cJ6_bitCount_0f7a4 8 = .ok (.isub, 1) := by decide +kernel
theorem dJ6_bitCount_0f7a4_9 : decode cJ6_bitCount_0f7a4 9 = .ok (.istore_n 0, 1) := by decide +kernel
theorem dJ6_bitCount_0f7a4_10 : decode cJ6_bitCount_0f7a4 10 = .ok (.iload_n 0, 1) := by decide +kernel
theorem dJ6_bitCount_0f7a4_11 : decode cJ6_bitCount_0f7a4 11 = .ok (.ldc_w 266, 3) := by decide +kernel
theorem dJ6_bitCount_0f7a4_14 : decode cJ6_bitCount_0f7a4 14 = .ok (.iand, 1) := by decide +kernel
theorem dJ6_bitCount_0f7a4_15 : decode cJ6_bitCount_0f7a4 15 = .ok (.iload_n 0, 1) := by decide +kernel
theorem dJ6_bitCount_0f7a4_16 : decode cJ6_bitCount_0f7a4 16 = .ok (.iconst 2, 1) := by decide +kernel
theorem dJ6_bitCount_0f7a4_17 : decode cJ6_bitCount_0f7a4 17 = .ok (.iushr, 1) := by decide +kernel
theorem dJ6_bitCount_0f7a4_18 : decode cJ6_bitCount_0f7a4 18 = .ok (.ldc_w 266, 3) := by decide +kernel
theorem dJ6_bitCount_0f7a4_21 : decode cJ6_bitCount_0f7a4 21 = .ok (.iand, 1) := by decide +kernel
theorem dJ6_bitCount_0f7a4_22 : decode cJ6_bitCount_0f7a4 22 = .ok (.iadd, 1) := by decide +kernel
theorem dJ6_bitCount_0f7a4_23 : decode cJ6_bitCount_0f7a4 23 = .ok (.istore_n 0, 1) := by decide +kernel
theorem dJ6_bitCount_0f7a4_24 : decode cJ6_bitCount_0f7a4 24 = .ok (.iload_n 0, 1) := by decide +kernel
theorem dJ6_bitCount_0f7a4_25 : decode cJ6_bitCount_0f7a4 25 = .ok (.iload_n 0, 1) := by decide +kernel
theorem dJ6_bitCount_0f7a4_26 : decode cJ6_bitCount_0f7a4 26 = .ok (.iconst 4, 1) := by decide +kernel
theorem dJ6_bitCount_0f7a4_27 : decode cJ6_bitCount_0f7a4 27 = .ok (.iushr, 1) := by decide +kernel
theorem dJ6_bitCount_0f7a4_28 : decode cJ6_bitCount_0f7a4 28 = .ok (.iadd, 1) := by decide +kernel
theorem dJ6_bitCount_0f7a4_29 : decode cJ6_bitCount_0f7a4 29 = .ok (.ldc_w 267, 3) := by decide +kernel
theorem dJ6_bitCount_0f7a4_32 : decode cJ6_bitCount_0f7a4 32 = .ok (.iand, 1) := by decide +kernel
theorem dJ6_bitCount_0f7a4_33 : decode cJ6_bitCount_0f7a4 33 = .ok (.istore_n 0, 1) := by decide +kernel
theorem dJ6_bitCount_0f7a4_34 : decode cJ6_bitCount_0f7a4 34 = .ok (.iload_n 0, 1) := by decide +kernel
theorem dJ6_bitCount_0f7a4_35 : decode cJ6_bitCount_0f7a4 35 = .ok (.iload_n 0, 1) := by decide +kernel
theorem dJ6_bitCount_0f7a4_36 : decode cJ6_bitCount_0f7a4 36 = .ok (.bipush 8, 2) := by decide +kernel
theorem dJ6_bitCount_0f7a4_38 : decode cJ6_bitCount_0f7a4 38 = .ok (.iushr, 1) := by decide +kernel
theorem dJ6_bitCount_0f7a4_39 : decode cJ6_bitCount_0f7a4 39 = .ok (.iadd, 1) := by decide +kernel
theorem dJ6_bitCount_0f7a4_40 : decode cJ6_bitCount_0f7a4 40 = .ok (.istore_n 0, 1) := by decide +kernel
theorem dJ6_bitCount_0f7a4_41 : decode cJ6_bitCount_0f7a4 41 = .ok (.iload_n 0, 1) := by decide +kernel
theorem dJ6_bitCount_0f7a4_42 : decode cJ6_bitCount_0f7a4 42 = .ok (.iload_n 0, 1) := by decide +kernel
theorem dJ6_bitCount_0f7a4_43 : decode cJ6_bitCount_0f7a4 43 = .ok (.bipush 16, 2) := by decide +kernel
theorem dJ6_bitCount_0f7a4_45 : decode cJ6_bitCount_0f7a4 45 = .ok (.iushr, 1) := by decide +kernel
theorem dJ6_bitCount_0f7a4_46 : decode cJ6_bitCount_0f7a4 46 = .ok (.iadd, 1) := by decide +kernel
theorem dJ6_bitCount_0f7a4_47 : decode cJ6_bitCount_0f7a4 47 = .ok (.istore_n 0, 1) := by decide +kernel
theorem dJ6_bitCount_0f7a4_48 : decode cJ6_bitCount_0f7a4 48 = .ok (.iload_n 0, 1) := by decide +kernel
theorem dJ6_bitCount_0f7a4_49 : decode cJ6_bitCount_0f7a4 49 = .ok (.bipush 63, 2) := by decide +kernel
theorem dJ6_bitCount_0f7a4_51 : decode cJ6_bitCount_0f7a4 51 = .ok (.iand, 1) := by decide +kernel
theorem dJ6_bitCount_0f7a4_52 : decode cJ6_bitCount_0f7a4 52 = .ok (.ireturn, 1) := by decide +kernel
theorem dJ9_max_7cf53_0 : decode cJ9_max_7cf53 0 = .ok (.iload_n 0, 1) := by decide +kernel
theorem dJ9_max_7cf53_1 : decode cJ9_max_7cf53 1 = .ok (.iload_n 1, 1) := by decide +kernel
theorem dJ9_max_7cf53_2 : decode cJ9_max_7cf53 2 = .ok (.if_icmp .lt 7, 3) := by decide +kernel
theorem dJ9_max_7cf53_5 : decode cJ9_max_7cf53 5 = .ok (.iload_n 0, 1) := by decide +kernel
theorem dJ9_max_7cf53_6 : decode cJ9_max_7cf53 6 = .ok (.goto 4, 3) := by decide +kernel
theorem dJ9_max_7cf53_9 : decode cJ9_max_7cf53 9 = .ok (.iload_n 1, 1) := by decide +kernel
theorem dJ9_max_7cf53_10 : decode cJ9_max_7cf53 10 = .ok (.ireturn, 1) := by decide +kernel
theorem dJ9_min_7cf53_0 : decode cJ9_min_7cf53 0 = .ok (.iload_n 0, 1) := by decide +kernel
theorem dJ9_min_7cf53_1 : decode cJ9_min_7cf53 1 = .ok (.iload_n 1, 1) := by decide +kernel
theorem dJ9_min_7cf53_2 : decode cJ9_min_7cf53 2 = .ok (.if_icmp .gt 7, 3) := by decide +kernel
theorem dJ9_min_7cf53_5 : decode cJ9_min_7cf53 5 = .ok (.iload_n 0, 1) := by decide +kernel
theorem dJ9_min_7cf53_6 : decode cJ9_min_7cf53 6 = .ok (.goto 4, 3) := by decide +kernel
theorem dJ9_min_7cf53_9 : decode cJ9_min_7cf53 9 = .ok (.iload_n 1, 1) := by decide +kernel
theorem dJ9_min_7cf53_10 : decode cJ9_min_7cf53 10 = .ok (.ireturn, 1) := by decide +kernel
