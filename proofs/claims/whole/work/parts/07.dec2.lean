theorem dX5_init_0 : decode cX5_init 0 = .ok (.aload_n 0, 1) := by decide +kernel
theorem dX5_init_1 : decode cX5_init 1 = .ok (.invokespecial 1, 3) := by decide +kernel
theorem dX5_init_4 : decode cX5_init 4 = .ok (.aload_n 0, 1) := by decide +kernel
theorem dX5_init_5 : decode cX5_init 5 = .ok (.new 7, 3) := by decide +kernel
theorem dX5_init_8 : decode cX5_init 8 = .ok (.dup, 1) := by decide +kernel
theorem dX5_init_9 : decode cX5_init 9 = .ok (.invokespecial 9, 3) := by decide +kernel
theorem dX5_init_12 : decode cX5_init 12 = .ok (.putfield 10, 3) := by decide +kernel
theorem dX5_init_15 : decode cX5_init 15 = .ok (.aload_n 0, 1) := by decide +kernel
theorem dX5_init_16 : decode cX5_init 16 = .ok (.new 7, 3) := by decide +kernel
theorem dX5_init_19 : decode cX5_init 19 = .ok (.dup, 1) := by decide +kernel
theorem dX5_init_20 : decode cX5_init 20 = .ok (.invokespecial 9, 3) := by decide +kernel
theorem dX5_init_23 : decode cX5_init 23 = .ok (.putfield 16, 3) := by decide +kernel
theorem dX5_init_26 : decode cX5_init 26 = .ok (.aload_n 0, 1) := by decide +kernel
theorem dX5_init_27 : decode cX5_init 27 = .ok (.new 7, 3) := by decide +kernel
theorem dX5_init_30 : decode cX5_init 30 = .ok (.dup, 1) := by decide +kernel
theorem dX5_init_31 : decode cX5_init 31 = .ok (.invokespecial 9, 3) := by decide +kernel
theorem dX5_init_34 : decode cX5_init 34 = .ok (.putfield 19, 3) := by decide +kernel
theorem dX5_init_37 : decode cX5_init 37 = .ok (.aload_n 0, 1) := by decide +kernel
theorem dX5_init_38 : decode cX5_init 38 = .ok (.new 22, 3) := by decide +kernel
theorem dX5_init_41 : decode cX5_init 41 = .ok (.dup, 1) := by decide +kernel
theorem dX5_init_42 : decode cX5_init 42 = .ok (.invokespecial 24, 3) := by decide +kernel
theorem dX5_init_45 : decode cX5_init 45 = .ok (.putfield 25, 3) := by decide +kernel
theorem dX5_init_48 : decode cX5_init 48 = .ok (.aload_n 0, 1) := by decide +kernel
theorem dX5_init_49 : decode cX5_init 49 = .ok (.new 29, 3) := by decide +kernel
theorem dX5_init_52 : decode cX5_init 52 = .ok (.dup, 1) := by decide +kernel
theorem dX5_init_53 : decode cX5_init 53 = .ok (.invokespecial 31, 3) := by decide +kernel
theorem dX5_init_56 : decode cX5_init 56 = .ok (.putfield 32, 3) := by decide +kernel
theorem dX5_init_59 : decode cX5_init 59 = .ok (.aload_n 0, 1) := by decide +kernel
theorem dX5_init_60 : decode cX5_init 60 = .ok (.new 36, 3) := by decide +kernel
theorem dX5_init_63 : decode cX5_init 63 = .ok (.dup, 1) := by decide +kernel
theorem dX5_init_64 : decode cX5_init 64 = .ok (.invokespecial 38, 3) := by decide +kernel
theorem dX5_init_67 : decode cX5_init 67 = .ok (.putfield 39, 3) := by decide +kernel
theorem dX5_init_70 : decode cX5_init 70 = .ok (.aload_n 0, 1) := by decide +kernel
theorem dX5_init_71 : decode cX5_init 71 = .ok (.bipush 8, 2) := by decide +kernel
theorem dX5_init_73 : decode cX5_init 73 = .ok (.newarray .int, 2) := by decide +kernel
theorem dX5_init_75 : decode cX5_init 75 = .ok (.putfield 43, 3) := by decide +kernel
theorem dX5_init_78 : decode cX5_init 78 = .ok (.aload_n 0, 1) := by decide +kernel
theorem dX5_init_79 : decode cX5_init 79 = .ok (.bipush 8, 2) := by decide +kernel
theorem dX5_init_81 : decode cX5_init 81 = .ok (.newarray .int, 2) := by decide +kernel
theorem dX5_init_83 : decode cX5_init 83 = .ok (.putfield 47, 3) := by decide +kernel
theorem dX5_init_86 : decode cX5_init 86 = .ok (.aload_n 0, 1) := by decide +kernel
theorem dX5_init_87 : decode cX5_init 87 = .ok (.iconst 0, 1) := by decide +kernel
theorem dX5_init_88 : decode cX5_init 88 = .ok (.putfield 50, 3) := by decide +kernel
theorem dX5_init_91 : decode cX5_init 91 = .ok (.return_, 1) := by decide +kernel
theorem dX5_angel_0 : decode cX5_angel 0 = .ok (.iload_n 1, 1) := by decide +kernel
theorem dX5_angel_1 : decode cX5_angel 1 = .ok (.invokestatic 54, 3) := by decide +kernel
theorem dX5_angel_4 : decode cX5_angel 4 = .ok (.ifCond .ne 5, 3) := by decide +kernel
theorem dX5_angel_7 : decode cX5_angel 7 = .ok (.iconst (-1), 1) := by decide +kernel
theorem dX5_angel_8 : decode cX5_angel 8 = .ok (.ireturn, 1) := by decide +kernel
theorem dX5_angel_9 : decode cX5_angel 9 = .ok (.aload_n 0, 1) := by decide +kernel
theorem dX5_angel_10 : decode cX5_angel 10 = .ok (.getfield 10, 3) := by decide +kernel
theorem dX5_angel_13 : decode cX5_angel 13 = .ok (.getfield 58, 3) := by decide +kernel
theorem dX5_angel_16 : decode cX5_angel 16 = .ok (.bipush 8, 2) := by decide +kernel
theorem dX5_angel_18 : decode cX5_angel 18 = .ok (.if_icmp .lt 6, 3) := by decide +kernel
theorem dX5_angel_21 : decode cX5_angel 21 = .ok (.bipush (-3), 2) := by decide +kernel
theorem dX5_angel_23 : decode cX5_angel 23 = .ok (.ireturn, 1) := by decide +kernel
theorem dX5_angel_24 : decode cX5_angel 24 = .ok (.aload_n 0, 1) := by decide +kernel
theorem dX5_angel_25 : decode cX5_angel 25 = .ok (.getfield 10, 3) := by decide +kernel
theorem dX5_angel_28 : decode cX5_angel 28 = .ok (.invokevirtual 62, 3) := by decide +kernel
theorem dX5_angel_31 : decode cX5_angel 31 = .ok (.iload_n 1, 1) := by decide +kernel
theorem dX5_angel_32 : decode cX5_angel 32 = .ok (.invokestatic 66, 3) := by decide +kernel
theorem dX5_angel_35 : decode cX5_angel 35 = .ok (.ifCond .eq 6, 3) := by decide +kernel
theorem dX5_angel_38 : decode cX5_angel 38 = .ok (.bipush (-2), 2) := by decide +kernel
theorem dX5_angel_40 : decode cX5_angel 40 = .ok (.ireturn, 1) := by decide +kernel
theorem dX5_angel_41 : decode cX5_angel 41 = .ok (.aload_n 0, 1) := by decide +kernel
theorem dX5_angel_42 : decode cX5_angel 42 = .ok (.getfield 10, 3) := by decide +kernel
theorem dX5_angel_45 : decode cX5_angel 45 = .ok (.getfield 70, 3) := by decide +kernel
theorem dX5_angel_48 : decode cX5_angel 48 = .ok (.invokevirtual 74, 3) := by decide +kernel
theorem dX5_angel_51 : decode cX5_angel 51 = .ok (.aload_n 0, 1) := by decide +kernel
theorem dX5_angel_52 : decode cX5_angel 52 = .ok (.getfield 10, 3) := by decide +kernel
theorem dX5_angel_55 : decode cX5_angel 55 = .ok (.iload_n 1, 1) := by decide +kernel
theorem dX5_angel_56 : decode cX5_angel 56 = .ok (.invokevirtual 79, 3) := by decide +kernel
theorem dX5_angel_59 : decode cX5_angel 59 = .ok (.ireturn, 1) := by decide +kernel
theorem dX5_figure_0 : decode cX5_figure 0 = .ok (.iload_n 1, 1) := by decide +kernel
theorem dX5_figure_1 : decode cX5_figure 1 = .ok (.iconst 0, 1) := by decide +kernel
theorem dX5_figure_2 : decode cX5_figure 2 = .ok (.iconst 4, 1) := by decide +kernel
theorem dX5_figure_3 : decode cX5_figure 3 = .ok (.invokestatic 83, 3) := by decide +kernel
theorem dX5_figure_6 : decode cX5_figure 6 = .ok (.ifCond .eq 10, 3) := by decide +kernel
theorem dX5_figure_9 : decode cX5_figure 9 = .ok (.iload_n 2, 1) := by decide +kernel
theorem dX5_figure_10 : decode cX5_figure 10 = .ok (.invokestatic 54, 3) := by decide +kernel
theorem dX5_figure_13 : decode cX5_figure 13 = .ok (.ifCond .ne 5, 3) := by decide +kernel
theorem dX5_figure_16 : decode cX5_figure 16 = .ok (.iconst (-1), 1) := by decide +kernel
theorem dX5_figure_17 : decode cX5_figure 17 = .ok (.ireturn, 1) := by decide +kernel
theorem dX5_figure_18 : decode cX5_figure 18 = .ok (.aload_n 0, 1) := by decide +kernel
theorem dX5_figure_19 : decode cX5_figure 19 = .ok (.getfield 10, 3) := by decide +kernel
theorem dX5_figure_22 : decode cX5_figure 22 = .ok (.getfield 87, 3) := by decide +kernel
theorem dX5_figure_25 : decode cX5_figure 25 = .ok (.iconst 5, 1) := by decide +kernel
theorem dX5_figure_26 : decode cX5_figure 26 = .ok (.if_icmp .lt 6, 3) := by decide +kernel
theorem dX5_figure_29 : decode cX5_figure 29 = .ok (.bipush (-3), 2) := by decide +kernel
theorem dX5_figure_31 : decode cX5_figure 31 = .ok (.ireturn, 1) := by decide +kernel
theorem dX5_figure_32 : decode cX5_figure 32 = .ok (.aload_n 0, 1) := by decide +kernel
theorem dX5_figure_33 : decode cX5_figure 33 = .ok (.getfield 10, 3) := by decide +kernel
theorem dX5_figure_36 : decode cX5_figure 36 = .ok (.getfield 70, 3) := by decide +kernel
theorem dX5_figure_39 : decode cX5_figure 39 = .ok (.invokevirtual 74, 3) := by decide +kernel
theorem dX5_figure_42 : decode cX5_figure 42 = .ok (.aload_n 0, 1) := by decide +kernel
theorem dX5_figure_43 : decode cX5_figure 43 = .ok (.getfield 10, 3) := by decide +kernel
theorem dX5_figure_46 : decode cX5_figure 46 = .ok (.iload_n 1, 1) := by decide +kernel
theorem dX5_figure_47 : decode cX5_figure 47 = .ok (.iload_n 2, 1) := by decide +kernel
theorem dX5_figure_48 : decode cX5_figure 48 = .ok (.invokevirtual 90, 3) := by decide +kernel
theorem dX5_figure_51 : decode cX5_figure 51 = .ok (.ireturn, 1) := by decide +kernel
theorem dX5_tune_0 : decode cX5_tune 0 = .ok (.aload_n 0, 1) := by decide +kernel
theorem dX5_tune_1 : decode cX5_tune 1 = .ok (.getfield 10, 3) := by decide +kernel
theorem dX5_tune_4 : decode cX5_tune 4 = .ok (.iload_n 1, 1) := by decide +kernel
theorem dX5_tune_5 : decode cX5_tune 5 = .ok (.invokevirtual 94, 3) := by decide +kernel
theorem dX5_tune_8 : decode cX5_tune 8 = .ok (.ifCond .ne 5, 3) := by decide +kernel
theorem dX5_tune_11 : decode cX5_tune 11 = .ok (.iconst (-1), 1) := by decide +kernel
theorem dX5_tune_12 : decode cX5_tune 12 = .ok (.ireturn, 1) := by decide +kernel
theorem dX5_tune_13 : decode cX5_tune 13 = .ok (.aload_n 0, 1) := by decide +kernel
theorem dX5_tune_14 : decode cX5_tune 14 = .ok (.getfield 10, 3) := by decide +kernel
theorem dX5_tune_17 : decode cX5_tune 17 = .ok (.getfield 97, 3) := by decide +kernel
theorem dX5_tune_20 : decode cX5_tune 20 = .ok (.bipush 16, 2) := by decide +kernel
theorem dX5_tune_22 : decode cX5_tune 22 = .ok (.if_icmp .lt 6, 3) := by decide +kernel
theorem dX5_tune_25 : decode cX5_tune 25 = .ok (.bipush (-3), 2) := by decide +kernel
theorem dX5_tune_27 : decode cX5_tune 27 = .ok (.ireturn, 1) := by decide +kernel
theorem dX5_tune_28 : decode cX5_tune 28 = .ok (.aload_n 0, 1) := by decide +kernel
theorem dX5_tune_29 : decode cX5_tune 29 = .ok (.getfield 10, 3) := by decide +kernel
theorem dX5_tune_32 : decode cX5_tune 32 = .ok (.getfield 70, 3) := by decide +kernel
theorem dX5_tune_35 : decode cX5_tune 35 = .ok (.invokevirtual 74, 3) := by decide +kernel
theorem dX5_tune_38 : decode cX5_tune 38 = .ok (.aload_n 0, 1) := by decide +kernel
theorem dX5_tune_39 : decode cX5_tune 39 = .ok (.getfield 10, 3) := by decide +kernel
theorem dX5_tune_42 : decode cX5_tune 42 = .ok (.iload_n 1, 1) := by decide +kernel
theorem dX5_tune_43 : decode cX5_tune 43 = .ok (.invokevirtual 100, 3) := by decide +kernel
theorem dX5_tune_46 : decode cX5_tune 46 = .ok (.ireturn, 1) := by decide +kernel
theorem dX5_hush_0 : decode cX5_hush 0 = .ok (.aload_n 0, 1) := by decide +kernel
theorem dX5_hush_1 : decode cX5_hush 1 = .ok (.getfield 10, 3) := by decide +kernel
theorem dX5_hush_4 : decode cX5_hush 4 = .ok (.getfield 70, 3) := by decide +kernel
theorem dX5_hush_7 : decode cX5_hush 7 = .ok (.invokevirtual 74, 3) := by decide +kernel
theorem dX5_hush_10 : decode cX5_hush 10 = .ok (.aload_n 0, 1) := by decide +kernel
theorem dX5_hush_11 : decode cX5_hush 11 = .ok (.getfield 10, 3) := by decide +kernel
theorem dX5_hush_14 : decode cX5_hush 14 = .ok (.getfield 97, 3) := by decide +kernel
theorem dX5_hush_17 : decode cX5_hush 17 = .ok (.istore_n 1, 1) := by decide +kernel
theorem dX5_hush_18 : decode cX5_hush 18 = .ok (.aload_n 0, 1) := by decide +kernel
theorem dX5_hush_19 : decode cX5_hush 19 = .ok (.getfield 10, 3) := by decide +kernel
theorem dX5_hush_22 : decode cX5_hush 22 = .ok (.iconst 0, 1) := by decide +kernel
theorem dX5_hush_23 : decode cX5_hush 23 = .ok (.putfield 97, 3) := by decide +kernel
theorem dX5_hush_26 : decode cX5_hush 26 = .ok (.iload_n 1, 1) := by decide +kernel
theorem dX5_hush_27 : decode cX5_hush 27 = .ok (.ireturn, 1) := by decide +kernel
theorem dX5_of_0 : decode cX5_of 0 = .ok (.aload_n 0, 1) := by decide +kernel
theorem dX5_of_1 : decode cX5_of 1 = .ok (.getfield 10, 3) := by decide +kernel
theorem dX5_of_4 : decode cX5_of 4 = .ok (.iload_n 1, 1) := by decide +kernel
theorem dX5_of_5 : decode cX5_of 5 = .ok (.invokevirtual 94, 3) := by decide +kernel
theorem dX5_of_8 : decode cX5_of 8 = .ok (.ifCond .ne 5, 3) := by decide +kernel
theorem dX5_of_11 : decode cX5_of 11 = .ok (.iconst (-1), 1) := by decide +kernel
theorem dX5_of_12 : decode cX5_of 12 = .ok (.ireturn, 1) := by decide +kernel
theorem dX5_of_13 : decode cX5_of 13 = .ok (.iload_n 2, 1) := by decide +kernel
theorem dX5_of_14 : decode cX5_of 14 = .ok (.tableswitch 81 0 4 #[34, 44, 54, 63, 72], 34) := by decide +kernel
theorem dX5_of_48 : decode cX5_of 48 = .ok (.aload_n 0, 1) := by decide +kernel
theorem dX5_of_49 : decode cX5_of 49 = .ok (.getfield 10, 3) := by decide +kernel
theorem dX5_of_52 : decode cX5_of 52 = .ok (.getfield 103, 3) := by decide +kernel
theorem dX5_of_55 : decode cX5_of 55 = .ok (.iload_n 1, 1) := by decide +kernel
theorem dX5_of_56 : decode cX5_of 56 = .ok (.iaload, 1) := by decide +kernel
theorem dX5_of_57 : decode cX5_of 57 = .ok (.ireturn, 1) := by decide +kernel
theorem dX5_of_58 : decode cX5_of 58 = .ok (.aload_n 0, 1) := by decide +kernel
theorem dX5_of_59 : decode cX5_of 59 = .ok (.getfield 10, 3) := by decide +kernel
theorem dX5_of_62 : decode cX5_of 62 = .ok (.getfield 106, 3) := by decide +kernel
theorem dX5_of_65 : decode cX5_of 65 = .ok (.iload_n 1, 1) := by decide +kernel
theorem dX5_of_66 : decode cX5_of 66 = .ok (.iaload, 1) := by decide +kernel
theorem dX5_of_67 : decode cX5_of 67 = .ok (.ireturn, 1) := by decide +kernel
theorem dX5_of_68 : decode cX5_of 68 = .ok (.aload_n 0, 1) := by decide +kernel
theorem dX5_of_69 : decode cX5_of 69 = .ok (.getfield 10, 3) := by decide +kernel
theorem dX5_of_72 : decode cX5_of 72 = .ok (.iload_n 1, 1) := by decide +kernel
theorem dX5_of_73 : decode cX5_of 73 = .ok (.invokevirtual 109, 3) := by decide +kernel
theorem dX5_of_76 : decode cX5_of 76 = .ok (.ireturn, 1) := by decide +kernel
theorem dX5_of_77 : decode cX5_of 77 = .ok (.aload_n 0, 1) := by decide +kernel
theorem dX5_of_78 : decode cX5_of 78 = .ok (.getfield 10, 3) := by decide +kernel
theorem dX5_of_81 : decode cX5_of 81 = .ok (.iload_n 1, 1) := by decide +kernel
theorem dX5_of_82 : decode cX5_of 82 = .ok (.invokevirtual 112, 3) := by decide +kernel
theorem dX5_of_85 : decode cX5_of 85 = .ok (.ireturn, 1) := by decide +kernel
theorem dX5_of_86 : decode cX5_of 86 = .ok (.aload_n 0, 1) := by decide +kernel
theorem dX5_of_87 : decode cX5_of 87 = .ok (.getfield 10, 3) := by decide +kernel
theorem dX5_of_90 : decode cX5_of 90 = .ok (.iload_n 1, 1) := by decide +kernel
theorem dX5_of_91 : decode cX5_of 91 = .ok (.invokevirtual 115, 3) := by decide +kernel
theorem dX5_of_94 : decode cX5_of 94 = .ok (.ireturn, 1) := by decide +kernel
theorem dX5_of_95 : decode cX5_of 95 = .ok (.iconst (-1), 1) := by decide +kernel
theorem dX5_of_96 : decode cX5_of 96 = .ok (.ireturn, 1) := by decide +kernel
theorem dX5_leads_0 : decode cX5_leads 0 = .ok (.aload_n 0, 1) := by decide +kernel
theorem dX5_leads_1 : decode cX5_leads 1 = .ok (.getfield 10, 3) := by decide +kernel
theorem dX5_leads_4 : decode cX5_leads 4 = .ok (.iload_n 1, 1) := by decide +kernel
theorem dX5_leads_5 : decode cX5_leads 5 = .ok (.invokevirtual 94, 3) := by decide +kernel
theorem dX5_leads_8 : decode cX5_leads 8 = .ok (.ifCond .eq 10, 3) := by decide +kernel
theorem dX5_leads_11 : decode cX5_leads 11 = .ok (.iload_n 2, 1) := by decide +kernel
theorem dX5_leads_12 : decode cX5_leads 12 = .ok (.invokestatic 54, 3) := by decide +kernel
theorem dX5_leads_15 : decode cX5_leads 15 = .ok (.ifCond .ne 5, 3) := by decide +kernel
theorem dX5_leads_18 : decode cX5_leads 18 = .ok (.iconst (-1), 1) := by decide +kernel
theorem dX5_leads_19 : decode cX5_leads 19 = .ok (.ireturn, 1) := by decide +kernel
theorem dX5_leads_20 : decode cX5_leads 20 = .ok (.aload_n 0, 1) := by decide +kernel
theorem dX5_leads_21 : decode cX5_leads 21 = .ok (.getfield 10, 3) := by decide +kernel
theorem dX5_leads_24 : decode cX5_leads 24 = .ok (.iload_n 1, 1) := by decide +kernel
theorem dX5_leads_25 : decode cX5_leads 25 = .ok (.iload_n 2, 1) := by decide +kernel
theorem dX5_leads_26 : decode cX5_leads 26 = .ok (.invokevirtual 118, 3) := by decide +kernel
theorem dX5_leads_29 : decode cX5_leads 29 = .ok (.ireturn, 1) := by decide +kernel
theorem dX5_at_0 : decode cX5_at 0 = .ok (.aload_n 0, 1) := by decide +kernel
theorem dX5_at_1 : decode cX5_at 1 = .ok (.getfield 10, 3) := by decide +kernel
theorem dX5_at_4 : decode cX5_at 4 = .ok (.iload_n 1, 1) := by decide +kernel
theorem dX5_at_5 : decode cX5_at 5 = .ok (.invokevirtual 121, 3) := by decide +kernel
theorem dX5_at_8 : decode cX5_at 8 = .ok (.ifCond .ne 5, 3) := by decide +kernel
theorem dX5_at_11 : decode cX5_at 11 = .ok (.iconst (-1), 1) := by decide +kernel
theorem dX5_at_12 : decode cX5_at 12 = .ok (.ireturn, 1) := by decide +kernel
theorem dX5_at_13 : decode cX5_at 13 = .ok (.aload_n 0, 1) := by decide +kernel
theorem dX5_at_14 : decode cX5_at 14 = .ok (.getfield 10, 3) := by decide +kernel
theorem dX5_at_17 : decode cX5_at 17 = .ok (.getfield 124, 3) := by decide +kernel
theorem dX5_at_20 : decode cX5_at 20 = .ok (.iload_n 1, 1) := by decide +kernel
theorem dX5_at_21 : decode cX5_at 21 = .ok (.iaload, 1) := by decide +kernel
theorem dX5_at_22 : decode cX5_at 22 = .ok (.ireturn, 1) := by decide +kernel
theorem dX5_seen_0 : decode cX5_seen 0 = .ok (.iload_n 1, 1) := by decide +kernel
theorem dX5_seen_1 : decode cX5_seen 1 = .ok (.invokestatic 54, 3) := by decide +kernel
theorem dX5_seen_4 : decode cX5_seen 4 = .ok (.ifCond .ne 5, 3) := by decide +kernel
theorem dX5_seen_7 : decode cX5_seen 7 = .ok (.iconst (-1), 1) := by decide +kernel
theorem dX5_seen_8 : decode cX5_seen 8 = .ok (.ireturn, 1) := by decide +kernel
theorem dX5_seen_9 : decode cX5_seen 9 = .ok (.aload_n 0, 1) := by decide +kernel
theorem dX5_seen_10 : decode cX5_seen 10 = .ok (.getfield 10, 3) := by decide +kernel
theorem dX5_seen_13 : decode cX5_seen 13 = .ok (.invokevirtual 62, 3) := by decide +kernel
theorem dX5_seen_16 : decode cX5_seen 16 = .ok (.iload_n 1, 1) := by decide +kernel
theorem dX5_seen_17 : decode cX5_seen 17 = .ok (.invokestatic 127, 3) := by decide +kernel
theorem dX5_seen_20 : decode cX5_seen 20 = .ok (.ireturn, 1) := by decide +kernel
theorem dX5_type_0 : decode cX5_type 0 = .ok (.iload_n 1, 1) := by decide +kernel
theorem dX5_type_1 : decode cX5_type 1 = .ok (.bipush 32, 2) := by decide +kernel
theorem dX5_type_3 : decode cX5_type 3 = .ok (.bipush 126, 2) := by decide +kernel
theorem dX5_type_5 : decode cX5_type 5 = .ok (.invokestatic 83, 3) := by decide +kernel
theorem dX5_type_8 : decode cX5_type 8 = .ok (.ifCond .ne 5, 3) := by decide +kernel
theorem dX5_type_11 : decode cX5_type 11 = .ok (.iconst (-1), 1) := by decide +kernel
theorem dX5_type_12 : decode cX5_type 12 = .ok (.ireturn, 1) := by decide +kernel
theorem dX5_type_13 : decode cX5_type 13 = .ok (.aload_n 0, 1) := by decide +kernel
theorem dX5_type_14 : decode cX5_type 14 = .ok (.getfield 25, 3) := by decide +kernel
theorem dX5_type_17 : decode cX5_type 17 = .ok (.invokevirtual 130, 3) := by decide +kernel
theorem dX5_type_20 : decode cX5_type 20 = .ok (.ifCond .eq 6, 3) := by decide +kernel
theorem dX5_type_23 : decode cX5_type 23 = .ok (.bipush (-3), 2) := by decide +kernel
theorem dX5_type_25 : decode cX5_type 25 = .ok (.ireturn, 1) := by decide +kernel
theorem dX5_type_26 : decode cX5_type 26 = .ok (.aload_n 0, 1) := by decide +kernel
theorem dX5_type_27 : decode cX5_type 27 = .ok (.getfield 25, 3) := by decide +kernel
theorem dX5_type_30 : decode cX5_type 30 = .ok (.iload_n 1, 1) := by decide +kernel
theorem dX5_type_31 : decode cX5_type 31 = .ok (.invokevirtual 134, 3) := by decide +kernel
theorem dX5_type_34 : decode cX5_type 34 = .ok (.ireturn, 1) := by decide +kernel
theorem dX5_ring_0 : decode cX5_ring 0 = .ok (.aload_n 0, 1) := by decide +kernel
theorem dX5_ring_1 : decode cX5_ring 1 = .ok (.getfield 25, 3) := by decide +kernel
theorem dX5_ring_4 : decode cX5_ring 4 = .ok (.aload_n 0, 1) := by decide +kernel
theorem dX5_ring_5 : decode cX5_ring 5 = .ok (.getfield 19, 3) := by decide +kernel
theorem dX5_ring_8 : decode cX5_ring 8 = .ok (.invokevirtual 137, 3) := by decide +kernel
theorem dX5_ring_11 : decode cX5_ring 11 = .ok (.istore_n 1, 1) := by decide +kernel
theorem dX5_ring_12 : decode cX5_ring 12 = .ok (.bipush (-20), 2) := by decide +kernel
theorem dX5_ring_14 : decode cX5_ring 14 = .ok (.aload_n 0, 1) := by decide +kernel
theorem dX5_ring_15 : decode cX5_ring 15 = .ok (.getfield 25, 3) := by decide +kernel
theorem dX5_ring_18 : decode cX5_ring 18 = .ok (.getfield 141, 3) := by decide +kernel
theorem dX5_ring_21 : decode cX5_ring 21 = .ok (.isub, 1) := by decide +kernel
theorem dX5_ring_22 : decode cX5_ring 22 = .ok (.istore_n 2, 1) := by decide +kernel
theorem dX5_ring_23 : decode cX5_ring 23 = .ok (.aload_n 0, 1) := by decide +kernel
theorem dX5_ring_24 : decode cX5_ring 24 = .ok (.getfield 25, 3) := by decide +kernel
theorem dX5_ring_27 : decode cX5_ring 27 = .ok (.invokevirtual 144, 3) := by decide +kernel
theorem dX5_ring_30 : decode cX5_ring 30 = .ok (.iload_n 1, 1) := by decide +kernel
theorem dX5_ring_31 : decode cX5_ring 31 = .ok (.ifCond .ne 5, 3) := by decide +kernel
theorem dX5_ring_34 : decode cX5_ring 34 = .ok (.iload_n 2, 1) := by decide +kernel
theorem dX5_ring_35 : decode cX5_ring 35 = .ok (.ireturn, 1) := by decide +kernel
theorem dX5_ring_36 : decode cX5_ring 36 = .ok (.aload_n 0, 1) := by decide +kernel
theorem dX5_ring_37 : decode cX5_ring 37 = .ok (.getfield 19, 3) := by decide +kernel
theorem dX5_ring_40 : decode cX5_ring 40 = .ok (.aload_n 0, 1) := by decide +kernel
theorem dX5_ring_41 : decode cX5_ring 41 = .ok (.getfield 10, 3) := by decide +kernel
theorem dX5_ring_44 : decode cX5_ring 44 = .ok (.getfield 147, 3) := by decide +kernel
theorem dX5_ring_47 : decode cX5_ring 47 = .ok (.putfield 147, 3) := by decide +kernel
theorem dX5_ring_50 : decode cX5_ring 50 = .ok (.aload_n 0, 1) := by decide +kernel
theorem dX5_ring_51 : decode cX5_ring 51 = .ok (.getfield 10, 3) := by decide +kernel
theorem dX5_ring_54 : decode cX5_ring 54 = .ok (.aload_n 0, 1) := by decide +kernel
theorem dX5_ring_55 : decode cX5_ring 55 = .ok (.getfield 19, 3) := by decide +kernel
theorem dX5_ring_58 : decode cX5_ring 58 = .ok (.invokevirtual 150, 3) := by decide +kernel
theorem dX5_ring_61 : decode cX5_ring 61 = .ok (.aload_n 0, 1) := by decide +kernel
theorem dX5_ring_62 : decode cX5_ring 62 = .ok (.getfield 10, 3) := by decide +kernel
theorem dX5_ring_65 : decode cX5_ring 65 = .ok (.getfield 58, 3) := by decide +kernel
theorem dX5_ring_68 : decode cX5_ring 68 = .ok (.ireturn, 1) := by decide +kernel
theorem dX5_count_0 : decode cX5_count 0 = .ok (.iload_n 1, 1) := by decide +kernel
theorem dX5_count_1 : decode cX5_count 1 = .ok (.tableswitch 121 0 7 #[47, 55, 63, 71, 79, 87, 95, 110], 47) := by decide +kernel
theorem dX5_count_48 : decode cX5_count 48 = .ok (.aload_n 0, 1) := by decide +kernel
theorem dX5_count_49 : decode cX5_count 49 = .ok (.getfield 10, 3) := by decide +kernel
theorem dX5_count_52 : decode cX5_count 52 = .ok (.getfield 58, 3) := by decide +kernel
theorem dX5_count_55 : decode cX5_count 55 = .ok (.ireturn, 1) := by decide +kernel
theorem dX5_count_56 : decode cX5_count 56 = .ok (.aload_n 0, 1) := by decide +kernel
theorem dX5_count_57 : decode cX5_count 57 = .ok (.getfield 10, 3) := by decide +kernel
theorem dX5_count_60 : decode cX5_count 60 = .ok (.getfield 87, 3) := by decide +kernel
theorem dX5_count_63 : decode cX5_count 63 = .ok (.ireturn, 1) := by decide +kernel
theorem dX5_count_64 : decode cX5_count 64 = .ok (.aload_n 0, 1) := by decide +kernel
theorem dX5_count_65 : decode cX5_count 65 = .ok (.getfield 10, 3) := by decide +kernel
theorem dX5_count_68 : decode cX5_count 68 = .ok (.getfield 97, 3) := by decide +kernel
theorem dX5_count_71 : decode cX5_count 71 = .ok (.ireturn, 1) := by decide +kernel
theorem dX5_count_72 : decode cX5_count 72 = .ok (.aload_n 0, 1) := by decide +kernel
theorem dX5_count_73 : decode cX5_count 73 = .ok (.getfield 10, 3) := by decide +kernel
theorem dX5_count_76 : decode cX5_count 76 = .ok (.getfield 154, 3) := by decide +kernel
theorem dX5_count_79 : decode cX5_count 79 = .ok (.ireturn, 1) := by decide +kernel
theorem dX5_count_80 : decode cX5_count 80 = .ok (.aload_n 0, 1) := by decide +kernel
theorem dX5_count_81 : decode cX5_count 81 = .ok (.getfield 10, 3) := by decide +kernel
theorem dX5_count_84 : decode cX5_count 84 = .ok (.invokevirtual 62, 3) := by decide +kernel
theorem dX5_count_87 : decode cX5_count 87 = .ok (.ireturn, 1) := by decide +kernel
theorem dX5_count_88 : decode cX5_count 88 = .ok (.aload_n 0, 1) := by decide +kernel
theorem dX5_count_89 : decode cX5_count 89 = .ok (.getfield 10, 3) := by decide +kernel
theorem dX5_count_92 : decode cX5_count 92 = .ok (.invokevirtual 157, 3) := by decide +kernel
theorem dX5_count_95 : decode cX5_count 95 = .ok (.ireturn, 1) := by decide +kernel
theorem dX5_count_96 : decode cX5_count 96 = .ok (.aload_n 0, 1) := by decide +kernel
theorem dX5_count_97 : decode cX5_count 97 = .ok (.getfield 10, 3) := by decide +kernel
theorem dX5_count_100 : decode cX5_count 100 = .ok (.aload_n 0, 1) := by decide +kernel
theorem dX5_count_101 : decode cX5_count 101 = .ok (.getfield 10, 3) := by decide +kernel
theorem dX5_count_104 : decode cX5_count 104 = .ok (.getfield 154, 3) := by decide +kernel
theorem dX5_count_107 : decode cX5_count 107 = .ok (.invokevirtual 160, 3) := by decide +kernel
theorem dX5_count_110 : decode cX5_count 110 = .ok (.ireturn, 1) := by decide +kernel
theorem dX5_count_111 : decode cX5_count 111 = .ok (.aload_n 0, 1) := by decide +kernel
theorem dX5_count_112 : decode cX5_count 112 = .ok (.getfield 10, 3) := by decide +kernel
theorem dX5_count_115 : decode cX5_count 115 = .ok (.getfield 70, 3) := by decide +kernel
theorem dX5_count_118 : decode cX5_count 118 = .ok (.getfield 163, 3) := by decide +kernel
theorem dX5_count_121 : decode cX5_count 121 = .ok (.ireturn, 1) := by decide +kernel
theorem dX5_count_122 : decode cX5_count 122 = .ok (.iconst (-1), 1) := by decide +kernel
theorem dX5_count_123 : decode cX5_count 123 = .ok (.ireturn, 1) := by decide +kernel
theorem dX5_beats_0 : decode cX5_beats 0 = .ok (.aload_n 0, 1) := by decide +kernel
theorem dX5_beats_1 : decode cX5_beats 1 = .ok (.iload_n 1, 1) := by decide +kernel
theorem dX5_beats_2 : decode cX5_beats 2 = .ok (.invokevirtual 166, 3) := by decide +kernel
theorem dX5_beats_5 : decode cX5_beats 5 = .ok (.istore_n 2, 1) := by decide +kernel
theorem dX5_beats_6 : decode cX5_beats 6 = .ok (.iload_n 2, 1) := by decide +kernel
theorem dX5_beats_7 : decode cX5_beats 7 = .ok (.ifCond .ge 5, 3) := by decide +kernel
theorem dX5_beats_10 : decode cX5_beats 10 = .ok (.iload_n 2, 1) := by decide +kernel
theorem dX5_beats_11 : decode cX5_beats 11 = .ok (.ireturn, 1) := by decide +kernel
theorem dX5_beats_12 : decode cX5_beats 12 = .ok (.iconst 0, 1) := by decide +kernel
theorem dX5_beats_13 : decode cX5_beats 13 = .ok (.istore_n 3, 1) := by decide +kernel
theorem dX5_beats_14 : decode cX5_beats 14 = .ok (.iload_n 3, 1) := by decide +kernel
theorem dX5_beats_15 : decode cX5_beats 15 = .ok (.iload_n 1, 1) := by decide +kernel
theorem dX5_beats_16 : decode cX5_beats 16 = .ok (.if_icmp .ge 30, 3) := by decide +kernel
theorem dX5_beats_19 : decode cX5_beats 19 = .ok (.aload_n 0, 1) := by decide +kernel
theorem dX5_beats_20 : decode cX5_beats 20 = .ok (.getfield 10, 3) := by decide +kernel
theorem dX5_beats_23 : decode cX5_beats 23 = .ok (.getfield 70, 3) := by decide +kernel
theorem dX5_beats_26 : decode cX5_beats 26 = .ok (.aload_n 0, 1) := by decide +kernel
theorem dX5_beats_27 : decode cX5_beats 27 = .ok (.getfield 10, 3) := by decide +kernel
theorem dX5_beats_30 : decode cX5_beats 30 = .ok (.invokevirtual 169, 3) := by decide +kernel
theorem dX5_beats_33 : decode cX5_beats 33 = .ok (.aload_n 0, 1) := by decide +kernel
theorem dX5_beats_34 : decode cX5_beats 34 = .ok (.getfield 10, 3) := by decide +kernel
theorem dX5_beats_37 : decode cX5_beats 37 = .ok (.invokevirtual 172, 3) := by decide +kernel
theorem dX5_beats_40 : decode cX5_beats 40 = .ok (.iinc 3 1, 3) := by decide +kernel
theorem dX5_beats_43 : decode cX5_beats 43 = .ok (.goto (-29), 3) := by decide +kernel
theorem dX5_beats_46 : decode cX5_beats 46 = .ok (.aload_n 0, 1) := by decide +kernel
theorem dX5_beats_47 : decode cX5_beats 47 = .ok (.getfield 10, 3) := by decide +kernel
theorem dX5_beats_50 : decode cX5_beats 50 = .ok (.invokevirtual 62, 3) := by decide +kernel
theorem dX5_beats_53 : decode cX5_beats 53 = .ok (.ireturn, 1) := by decide +kernel
theorem dX5_draught_0 : decode cX5_draught 0 = .ok (.iload_n 1, 1) := by decide +kernel
theorem dX5_draught_1 : decode cX5_draught 1 = .ok (.iconst 1, 1) := by decide +kernel
theorem dX5_draught_2 : decode cX5_draught 2 = .ok (.bipush 7, 2) := by decide +kernel
theorem dX5_draught_4 : decode cX5_draught 4 = .ok (.invokestatic 83, 3) := by decide +kernel
theorem dX5_draught_7 : decode cX5_draught 7 = .ok (.ifCond .ne 5, 3) := by decide +kernel
theorem dX5_draught_10 : decode cX5_draught 10 = .ok (.iconst (-1), 1) := by decide +kernel
theorem dX5_draught_11 : decode cX5_draught 11 = .ok (.ireturn, 1) := by decide +kernel
theorem dX5_draught_12 : decode cX5_draught 12 = .ok (.aload_n 0, 1) := by decide +kernel
theorem dX5_draught_13 : decode cX5_draught 13 = .ok (.getfield 10, 3) := by decide +kernel
theorem dX5_draught_16 : decode cX5_draught 16 = .ok (.getfield 70, 3) := by decide +kernel
theorem dX5_draught_19 : decode cX5_draught 19 = .ok (.aload_n 0, 1) := by decide +kernel
theorem dX5_draught_20 : decode cX5_draught 20 = .ok (.getfield 10, 3) := by decide +kernel
theorem dX5_draught_23 : decode cX5_draught 23 = .ok (.invokevirtual 169, 3) := by decide +kernel
theorem dX5_draught_26 : decode cX5_draught 26 = .ok (.aload_n 0, 1) := by decide +kernel
theorem dX5_draught_27 : decode cX5_draught 27 = .ok (.getfield 10, 3) := by decide +kernel
theorem dX5_draught_30 : decode cX5_draught 30 = .ok (.iload_n 1, 1) := by decide +kernel
theorem dX5_draught_31 : decode cX5_draught 31 = .ok (.invokevirtual 175, 3) := by decide +kernel
theorem dX5_draught_34 : decode cX5_draught 34 = .ok (.aload_n 0, 1) := by decide +kernel
theorem dX5_draught_35 : decode cX5_draught 35 = .ok (.getfield 10, 3) := by decide +kernel
theorem dX5_draught_38 : decode cX5_draught 38 = .ok (.invokevirtual 62, 3) := by decide +kernel
theorem dX5_draught_41 : decode cX5_draught 41 = .ok (.ireturn, 1) := by decide +kernel
theorem dX5_leave_0 : decode cX5_leave 0 = .ok (.aload_n 0, 1) := by decide +kernel
theorem dX5_leave_1 : decode cX5_leave 1 = .ok (.getfield 10, 3) := by decide +kernel
theorem dX5_leave_4 : decode cX5_leave 4 = .ok (.iload_n 1, 1) := by decide +kernel
theorem dX5_leave_5 : decode cX5_leave 5 = .ok (.invokevirtual 121, 3) := by decide +kernel
theorem dX5_leave_8 : decode cX5_leave 8 = .ok (.ifCond .ne 5, 3) := by decide +kernel
theorem dX5_leave_11 : decode cX5_leave 11 = .ok (.iconst (-1), 1) := by decide +kernel
theorem dX5_leave_12 : decode cX5_leave 12 = .ok (.ireturn, 1) := by decide +kernel
theorem dX5_leave_13 : decode cX5_leave 13 = .ok (.aload_n 0, 1) := by decide +kernel
theorem dX5_leave_14 : decode cX5_leave 14 = .ok (.getfield 10, 3) := by decide +kernel
theorem dX5_leave_17 : decode cX5_leave 17 = .ok (.getfield 124, 3) := by decide +kernel
theorem dX5_leave_20 : decode cX5_leave 20 = .ok (.iload_n 1, 1) := by decide +kernel
theorem dX5_leave_21 : decode cX5_leave 21 = .ok (.iaload, 1) := by decide +kernel
theorem dX5_leave_22 : decode cX5_leave 22 = .ok (.istore_n 2, 1) := by decide +kernel
theorem dX5_leave_23 : decode cX5_leave 23 = .ok (.iload_n 2, 1) := by decide +kernel
theorem dX5_leave_24 : decode cX5_leave 24 = .ok (.bipush (-4), 2) := by decide +kernel
theorem dX5_leave_26 : decode cX5_leave 26 = .ok (.if_icmp .ne 6, 3) := by decide +kernel
theorem dX5_leave_29 : decode cX5_leave 29 = .ok (.bipush (-2), 2) := by decide +kernel
theorem dX5_leave_31 : decode cX5_leave 31 = .ok (.ireturn, 1) := by decide +kernel
theorem dX5_leave_32 : decode cX5_leave 32 = .ok (.aload_n 0, 1) := by decide +kernel
theorem dX5_leave_33 : decode cX5_leave 33 = .ok (.getfield 10, 3) := by decide +kernel
theorem dX5_leave_36 : decode cX5_leave 36 = .ok (.getfield 70, 3) := by decide +kernel
theorem dX5_leave_39 : decode cX5_leave 39 = .ok (.aload_n 0, 1) := by decide +kernel
theorem dX5_leave_40 : decode cX5_leave 40 = .ok (.getfield 10, 3) := by decide +kernel
theorem dX5_leave_43 : decode cX5_leave 43 = .ok (.invokevirtual 169, 3) := by decide +kernel
theorem dX5_leave_46 : decode cX5_leave 46 = .ok (.aload_n 0, 1) := by decide +kernel
theorem dX5_leave_47 : decode cX5_leave 47 = .ok (.getfield 10, 3) := by decide +kernel
theorem dX5_leave_50 : decode cX5_leave 50 = .ok (.getfield 124, 3) := by decide +kernel
theorem dX5_leave_53 : decode cX5_leave 53 = .ok (.iload_n 1, 1) := by decide +kernel
theorem dX5_leave_54 : decode cX5_leave 54 = .ok (.bipush (-4), 2) := by decide +kernel
theorem dX5_leave_56 : decode cX5_leave 56 = .ok (.iastore, 1) := by decide +kernel
theorem dX5_leave_57 : decode cX5_leave 57 = .ok (.iload_n 2, 1) := by decide +kernel
theorem dX5_leave_58 : decode cX5_leave 58 = .ok (.ireturn, 1) := by decide +kernel
theorem dX5_come_0 : decode cX5_come 0 = .ok (.aload_n 0, 1) := by decide +kernel
theorem dX5_come_1 : decode cX5_come 1 = .ok (.getfield 10, 3) := by decide +kernel
theorem dX5_come_4 : decode cX5_come 4 = .ok (.iload_n 1, 1) := by decide +kernel
theorem dX5_come_5 : decode cX5_come 5 = .ok (.invokevirtual 121, 3) := by decide +kernel
theorem dX5_come_8 : decode cX5_come 8 = .ok (.ifCond .eq 10, 3) := by decide +kernel
theorem dX5_come_11 : decode cX5_come 11 = .ok (.iload_n 2, 1) := by decide +kernel
theorem dX5_come_12 : decode cX5_come 12 = .ok (.invokestatic 54, 3) := by decide +kernel
theorem dX5_come_15 : decode cX5_come 15 = .ok (.ifCond .ne 5, 3) := by decide +kernel
theorem dX5_come_18 : decode cX5_come 18 = .ok (.iconst (-1), 1) := by decide +kernel
theorem dX5_come_19 : decode cX5_come 19 = .ok (.ireturn, 1) := by decide +kernel
theorem dX5_come_20 : decode cX5_come 20 = .ok (.aload_n 0, 1) := by decide +kernel
theorem dX5_come_21 : decode cX5_come 21 = .ok (.getfield 10, 3) := by decide +kernel
theorem dX5_come_24 : decode cX5_come 24 = .ok (.getfield 124, 3) := by decide +kernel
theorem dX5_come_27 : decode cX5_come 27 = .ok (.iload_n 1, 1) := by decide +kernel
theorem dX5_come_28 : decode cX5_come 28 = .ok (.iaload, 1) := by decide +kernel
theorem dX5_come_29 : decode cX5_come 29 = .ok (.bipush (-4), 2) := by decide +kernel
theorem dX5_come_31 : decode cX5_come 31 = .ok (.if_icmp .ne 17, 3) := by decide +kernel
theorem dX5_come_34 : decode cX5_come 34 = .ok (.aload_n 0, 1) := by decide +kernel
theorem dX5_come_35 : decode cX5_come 35 = .ok (.getfield 10, 3) := by decide +kernel
theorem dX5_come_38 : decode cX5_come 38 = .ok (.invokevirtual 62, 3) := by decide +kernel
theorem dX5_come_41 : decode cX5_come 41 = .ok (.iload_n 2, 1) := by decide +kernel
theorem dX5_come_42 : decode cX5_come 42 = .ok (.invokestatic 66, 3) := by decide +kernel
theorem dX5_come_45 : decode cX5_come 45 = .ok (.ifCond .eq 6, 3) := by decide +kernel
theorem dX5_come_48 : decode cX5_come 48 = .ok (.bipush (-2), 2) := by decide +kernel
theorem dX5_come_50 : decode cX5_come 50 = .ok (.ireturn, 1) := by decide +kernel
theorem dX5_come_51 : decode cX5_come 51 = .ok (.aload_n 0, 1) := by decide +kernel
theorem dX5_come_52 : decode cX5_come 52 = .ok (.getfield 10, 3) := by decide +kernel
theorem dX5_come_55 : decode cX5_come 55 = .ok (.getfield 70, 3) := by decide +kernel
theorem dX5_come_58 : decode cX5_come 58 = .ok (.aload_n 0, 1) := by decide +kernel
theorem dX5_come_59 : decode cX5_come 59 = .ok (.getfield 10, 3) := by decide +kernel
theorem dX5_come_62 : decode cX5_come 62 = .ok (.invokevirtual 169, 3) := by decide +kernel
theorem dX5_come_65 : decode cX5_come 65 = .ok (.aload_n 0, 1) := by decide +kernel
theorem dX5_come_66 : decode cX5_come 66 = .ok (.getfield 10, 3) := by decide +kernel
theorem dX5_come_69 : decode cX5_come 69 = .ok (.getfield 124, 3) := by decide +kernel
theorem dX5_come_72 : decode cX5_come 72 = .ok (.iload_n 1, 1) := by decide +kernel
theorem dX5_come_73 : decode cX5_come 73 = .ok (.iload_n 2, 1) := by decide +kernel
theorem dX5_come_74 : decode cX5_come 74 = .ok (.iastore, 1) := by decide +kernel
theorem dX5_come_75 : decode cX5_come 75 = .ok (.aload_n 0, 1) := by decide +kernel
theorem dX5_come_76 : decode cX5_come 76 = .ok (.getfield 10, 3) := by decide +kernel
theorem dX5_come_79 : decode cX5_come 79 = .ok (.invokevirtual 62, 3) := by decide +kernel
theorem dX5_come_82 : decode cX5_come 82 = .ok (.invokestatic 179, 3) := by decide +kernel
theorem dX5_come_85 : decode cX5_come 85 = .ok (.ireturn, 1) := by decide +kernel
theorem dX5_drift_0 : decode cX5_drift 0 = .ok (.aload_n 0, 1) := by decide +kernel
theorem dX5_drift_1 : decode cX5_drift 1 = .ok (.iload_n 1, 1) := by decide +kernel
theorem dX5_drift_2 : decode cX5_drift 2 = .ok (.invokevirtual 166, 3) := by decide +kernel
theorem dX5_drift_5 : decode cX5_drift 5 = .ok (.istore_n 2, 1) := by decide +kernel
theorem dX5_drift_6 : decode cX5_drift 6 = .ok (.iload_n 2, 1) := by decide +kernel
theorem dX5_drift_7 : decode cX5_drift 7 = .ok (.ifCond .ge 5, 3) := by decide +kernel
theorem dX5_drift_10 : decode cX5_drift 10 = .ok (.iload_n 2, 1) := by decide +kernel
theorem dX5_drift_11 : decode cX5_drift 11 = .ok (.ireturn, 1) := by decide +kernel
theorem dX5_drift_12 : decode cX5_drift 12 = .ok (.iconst 0, 1) := by decide +kernel
theorem dX5_drift_13 : decode cX5_drift 13 = .ok (.istore_n 3, 1) := by decide +kernel
theorem dX5_drift_14 : decode cX5_drift 14 = .ok (.iload_n 3, 1) := by decide +kernel
theorem dX5_drift_15 : decode cX5_drift 15 = .ok (.iload_n 1, 1) := by decide +kernel
theorem dX5_drift_16 : decode cX5_drift 16 = .ok (.if_icmp .ge 37, 3) := by decide +kernel
theorem dX5_drift_19 : decode cX5_drift 19 = .ok (.aload_n 0, 1) := by decide +kernel
theorem dX5_drift_20 : decode cX5_drift 20 = .ok (.getfield 10, 3) := by decide +kernel
theorem dX5_drift_23 : decode cX5_drift 23 = .ok (.getfield 70, 3) := by decide +kernel
theorem dX5_drift_26 : decode cX5_drift 26 = .ok (.aload_n 0, 1) := by decide +kernel
theorem dX5_drift_27 : decode cX5_drift 27 = .ok (.getfield 10, 3) := by decide +kernel
theorem dX5_drift_30 : decode cX5_drift 30 = .ok (.invokevirtual 169, 3) := by decide +kernel
theorem dX5_drift_33 : decode cX5_drift 33 = .ok (.aload_n 0, 1) := by decide +kernel
theorem dX5_drift_34 : decode cX5_drift 34 = .ok (.getfield 10, 3) := by decide +kernel
theorem dX5_drift_37 : decode cX5_drift 37 = .ok (.invokevirtual 184, 3) := by decide +kernel
theorem dX5_drift_40 : decode cX5_drift 40 = .ok (.aload_n 0, 1) := by decide +kernel
theorem dX5_drift_41 : decode cX5_drift 41 = .ok (.getfield 10, 3) := by decide +kernel
theorem dX5_drift_44 : decode cX5_drift 44 = .ok (.invokevirtual 172, 3) := by decide +kernel
theorem dX5_drift_47 : decode cX5_drift 47 = .ok (.iinc 3 1, 3) := by decide +kernel
theorem dX5_drift_50 : decode cX5_drift 50 = .ok (.goto (-36), 3) := by decide +kernel
theorem dX5_drift_53 : decode cX5_drift 53 = .ok (.aload_n 0, 1) := by decide +kernel
theorem dX5_drift_54 : decode cX5_drift 54 = .ok (.getfield 10, 3) := by decide +kernel
theorem dX5_drift_57 : decode cX5_drift 57 = .ok (.invokevirtual 62, 3) := by decide +kernel
theorem dX5_drift_60 : decode cX5_drift 60 = .ok (.ireturn, 1) := by decide +kernel
theorem dX5_undo_0 : decode cX5_undo 0 = .ok (.aload_n 0, 1) := by decide +kernel
theorem dX5_undo_1 : decode cX5_undo 1 = .ok (.getfield 10, 3) := by decide +kernel
theorem dX5_undo_4 : decode cX5_undo 4 = .ok (.getfield 70, 3) := by decide +kernel
theorem dX5_undo_7 : decode cX5_undo 7 = .ok (.getfield 163, 3) := by decide +kernel
theorem dX5_undo_10 : decode cX5_undo 10 = .ok (.ifCond .gt 6, 3) := by decide +kernel
theorem dX5_undo_13 : decode cX5_undo 13 = .ok (.bipush (-4), 2) := by decide +kernel
theorem dX5_undo_15 : decode cX5_undo 15 = .ok (.ireturn, 1) := by decide +kernel
theorem dX5_undo_16 : decode cX5_undo 16 = .ok (.aload_n 0, 1) := by decide +kernel
theorem dX5_undo_17 : decode cX5_undo 17 = .ok (.getfield 10, 3) := by decide +kernel
theorem dX5_undo_20 : decode cX5_undo 20 = .ok (.getfield 70, 3) := by decide +kernel
theorem dX5_undo_23 : decode cX5_undo 23 = .ok (.aload_n 0, 1) := by decide +kernel
theorem dX5_undo_24 : decode cX5_undo 24 = .ok (.getfield 10, 3) := by decide +kernel
theorem dX5_undo_27 : decode cX5_undo 27 = .ok (.invokevirtual 187, 3) := by decide +kernel
theorem dX5_undo_30 : decode cX5_undo 30 = .ok (.aload_n 0, 1) := by decide +kernel
theorem dX5_undo_31 : decode cX5_undo 31 = .ok (.getfield 10, 3) := by decide +kernel
theorem dX5_undo_34 : decode cX5_undo 34 = .ok (.getfield 70, 3) := by decide +kernel
theorem dX5_undo_37 : decode cX5_undo 37 = .ok (.getfield 163, 3) := by decide +kernel
theorem dX5_undo_40 : decode cX5_undo 40 = .ok (.ireturn, 1) := by decide +kernel
theorem dX5_seed_0 : decode cX5_seed 0 = .ok (.iload_n 1, 1) := by decide +kernel
theorem dX5_seed_1 : decode cX5_seed 1 = .ok (.ifCond .ge 5, 3) := by decide +kernel
theorem dX5_seed_4 : decode cX5_seed 4 = .ok (.iconst (-1), 1) := by decide +kernel
theorem dX5_seed_5 : decode cX5_seed 5 = .ok (.ireturn, 1) := by decide +kernel
theorem dX5_seed_6 : decode cX5_seed 6 = .ok (.aload_n 0, 1) := by decide +kernel
theorem dX5_seed_7 : decode cX5_seed 7 = .ok (.getfield 10, 3) := by decide +kernel
theorem dX5_seed_10 : decode cX5_seed 10 = .ok (.getfield 147, 3) := by decide +kernel
theorem dX5_seed_13 : decode cX5_seed 13 = .ok (.istore_n 2, 1) := by decide +kernel
theorem dX5_seed_14 : decode cX5_seed 14 = .ok (.aload_n 0, 1) := by decide +kernel
theorem dX5_seed_15 : decode cX5_seed 15 = .ok (.getfield 10, 3) := by decide +kernel
theorem dX5_seed_18 : decode cX5_seed 18 = .ok (.iload_n 1, 1) := by decide +kernel
theorem dX5_seed_19 : decode cX5_seed 19 = .ok (.putfield 147, 3) := by decide +kernel
theorem dX5_seed_22 : decode cX5_seed 22 = .ok (.iload_n 2, 1) := by decide +kernel
theorem dX5_seed_23 : decode cX5_seed 23 = .ok (.ireturn, 1) := by decide +kernel
theorem dX5_ahead_0 : decode cX5_ahead 0 = .ok (.aload_n 0, 1) := by decide +kernel
theorem dX5_ahead_1 : decode cX5_ahead 1 = .ok (.getfield 10, 3) := by decide +kernel
theorem dX5_ahead_4 : decode cX5_ahead 4 = .ok (.iload_n 1, 1) := by decide +kernel
theorem dX5_ahead_5 : decode cX5_ahead 5 = .ok (.invokevirtual 121, 3) := by decide +kernel
theorem dX5_ahead_8 : decode cX5_ahead 8 = .ok (.ifCond .eq 13, 3) := by decide +kernel
theorem dX5_ahead_11 : decode cX5_ahead 11 = .ok (.iload_n 2, 1) := by decide +kernel
theorem dX5_ahead_12 : decode cX5_ahead 12 = .ok (.iconst 0, 1) := by decide +kernel
theorem dX5_ahead_13 : decode cX5_ahead 13 = .ok (.ldc 190, 2) := by decide +kernel
theorem dX5_ahead_15 : decode cX5_ahead 15 = .ok (.invokestatic 83, 3) := by decide +kernel
theorem dX5_ahead_18 : decode cX5_ahead 18 = .ok (.ifCond .ne 5, 3) := by decide +kernel
theorem dX5_ahead_21 : decode cX5_ahead 21 = .ok (.iconst (-1), 1) := by decide +kernel
theorem dX5_ahead_22 : decode cX5_ahead 22 = .ok (.ireturn, 1) := by decide +kernel
theorem dX5_ahead_23 : decode cX5_ahead 23 = .ok (.aload_n 0, 1) := by decide +kernel
theorem dX5_ahead_24 : decode cX5_ahead 24 = .ok (.getfield 10, 3) := by decide +kernel
theorem dX5_ahead_27 : decode cX5_ahead 27 = .ok (.aload_n 0, 1) := by decide +kernel
theorem dX5_ahead_28 : decode cX5_ahead 28 = .ok (.getfield 10, 3) := by decide +kernel
theorem dX5_ahead_31 : decode cX5_ahead 31 = .ok (.getfield 124, 3) := by decide +kernel
theorem dX5_ahead_34 : decode cX5_ahead 34 = .ok (.iload_n 1, 1) := by decide +kernel
theorem dX5_ahead_35 : decode cX5_ahead 35 = .ok (.iaload, 1) := by decide +kernel
theorem dX5_ahead_36 : decode cX5_ahead 36 = .ok (.iload_n 2, 1) := by decide +kernel
theorem dX5_ahead_37 : decode cX5_ahead 37 = .ok (.invokevirtual 191, 3) := by decide +kernel
theorem dX5_ahead_40 : decode cX5_ahead 40 = .ok (.ireturn, 1) := by decide +kernel
theorem dX5_then_0 : decode cX5_then 0 = .ok (.iload_n 1, 1) := by decide +kernel
theorem dX5_then_1 : decode cX5_then 1 = .ok (.invokestatic 54, 3) := by decide +kernel
theorem dX5_then_4 : decode cX5_then 4 = .ok (.ifCond .eq 22, 3) := by decide +kernel
theorem dX5_then_7 : decode cX5_then 7 = .ok (.iload_n 2, 1) := by decide +kernel
theorem dX5_then_8 : decode cX5_then 8 = .ok (.iconst 0, 1) := by decide +kernel
theorem dX5_then_9 : decode cX5_then 9 = .ok (.ldc 190, 2) := by decide +kernel
theorem dX5_then_11 : decode cX5_then 11 = .ok (.invokestatic 83, 3) := by decide +kernel
theorem dX5_then_14 : decode cX5_then 14 = .ok (.ifCond .eq 12, 3) := by decide +kernel
theorem dX5_then_17 : decode cX5_then 17 = .ok (.iload_n 3, 1) := by decide +kernel
theorem dX5_then_18 : decode cX5_then 18 = .ok (.iconst 0, 1) := by decide +kernel
theorem dX5_then_19 : decode cX5_then 19 = .ok (.iconst 1, 1) := by decide +kernel
theorem dX5_then_20 : decode cX5_then 20 = .ok (.invokestatic 83, 3) := by decide +kernel
theorem dX5_then_23 : decode cX5_then 23 = .ok (.ifCond .ne 5, 3) := by decide +kernel
theorem dX5_then_26 : decode cX5_then 26 = .ok (.iconst (-1), 1) := by decide +kernel
theorem dX5_then_27 : decode cX5_then 27 = .ok (.ireturn, 1) := by decide +kernel
theorem dX5_then_28 : decode cX5_then 28 = .ok (.iconst 0, 1) := by decide +kernel
theorem dX5_then_29 : decode cX5_then 29 = .ok (.istore 4, 2) := by decide +kernel
theorem dX5_then_31 : decode cX5_then 31 = .ok (.bipush (-4), 2) := by decide +kernel
theorem dX5_then_33 : decode cX5_then 33 = .ok (.istore 5, 2) := by decide +kernel
theorem dX5_then_35 : decode cX5_then 35 = .ok (.iconst 0, 1) := by decide +kernel
theorem dX5_then_36 : decode cX5_then 36 = .ok (.istore 6, 2) := by decide +kernel
theorem dX5_then_38 : decode cX5_then 38 = .ok (.iload 6, 2) := by decide +kernel
theorem dX5_then_40 : decode cX5_then 40 = .ok (.aload_n 0, 1) := by decide +kernel
theorem dX5_then_41 : decode cX5_then 41 = .ok (.getfield 10, 3) := by decide +kernel
theorem dX5_then_44 : decode cX5_then 44 = .ok (.getfield 58, 3) := by decide +kernel
theorem dX5_then_47 : decode cX5_then 47 = .ok (.if_icmp .ge 49, 3) := by decide +kernel
theorem dX5_then_50 : decode cX5_then 50 = .ok (.aload_n 0, 1) := by decide +kernel
theorem dX5_then_51 : decode cX5_then 51 = .ok (.getfield 10, 3) := by decide +kernel
theorem dX5_then_54 : decode cX5_then 54 = .ok (.aload_n 0, 1) := by decide +kernel
theorem dX5_then_55 : decode cX5_then 55 = .ok (.getfield 10, 3) := by decide +kernel
theorem dX5_then_58 : decode cX5_then 58 = .ok (.getfield 124, 3) := by decide +kernel
theorem dX5_then_61 : decode cX5_then 61 = .ok (.iload 6, 2) := by decide +kernel
theorem dX5_then_63 : decode cX5_then 63 = .ok (.iaload, 1) := by decide +kernel
theorem dX5_then_64 : decode cX5_then 64 = .ok (.iload_n 2, 1) := by decide +kernel
theorem dX5_then_65 : decode cX5_then 65 = .ok (.invokevirtual 191, 3) := by decide +kernel
theorem dX5_then_68 : decode cX5_then 68 = .ok (.istore 7, 2) := by decide +kernel
theorem dX5_then_70 : decode cX5_then 70 = .ok (.iload 4, 2) := by decide +kernel
theorem dX5_then_72 : decode cX5_then 72 = .ok (.iload 7, 2) := by decide +kernel
theorem dX5_then_74 : decode cX5_then 74 = .ok (.invokestatic 194, 3) := by decide +kernel
theorem dX5_then_77 : decode cX5_then 77 = .ok (.ior, 1) := by decide +kernel
theorem dX5_then_78 : decode cX5_then 78 = .ok (.istore 4, 2) := by decide +kernel
theorem dX5_then_80 : decode cX5_then 80 = .ok (.iload 7, 2) := by decide +kernel
theorem dX5_then_82 : decode cX5_then 82 = .ok (.iload_n 1, 1) := by decide +kernel
theorem dX5_then_83 : decode cX5_then 83 = .ok (.if_icmp .ne 7, 3) := by decide +kernel
theorem dX5_then_86 : decode cX5_then 86 = .ok (.iload 6, 2) := by decide +kernel
theorem dX5_then_88 : decode cX5_then 88 = .ok (.istore 5, 2) := by decide +kernel
theorem dX5_then_90 : decode cX5_then 90 = .ok (.iinc 6 1, 3) := by decide +kernel
theorem dX5_then_93 : decode cX5_then 93 = .ok (.goto (-55), 3) := by decide +kernel
theorem dX5_then_96 : decode cX5_then 96 = .ok (.iload_n 3, 1) := by decide +kernel
theorem dX5_then_97 : decode cX5_then 97 = .ok (.ifCond .ne 8, 3) := by decide +kernel
theorem dX5_then_100 : decode cX5_then 100 = .ok (.iload 5, 2) := by decide +kernel
theorem dX5_then_102 : decode cX5_then 102 = .ok (.goto 9, 3) := by decide +kernel
theorem dX5_then_105 : decode cX5_then 105 = .ok (.iload 4, 2) := by decide +kernel
theorem dX5_then_107 : decode cX5_then 107 = .ok (.iload_n 1, 1) := by decide +kernel
theorem dX5_then_108 : decode cX5_then 108 = .ok (.invokestatic 127, 3) := by decide +kernel
theorem dX5_then_111 : decode cX5_then 111 = .ok (.ireturn, 1) := by decide +kernel
theorem dX5_back_0 : decode cX5_back 0 = .ok (.iload_n 1, 1) := by decide +kernel
theorem dX5_back_1 : decode cX5_back 1 = .ok (.iconst (-1), 1) := by decide +kernel
theorem dX5_back_2 : decode cX5_back 2 = .ok (.if_icmp .ne 16, 3) := by decide +kernel
theorem dX5_back_5 : decode cX5_back 5 = .ok (.aload_n 0, 1) := by decide +kernel
theorem dX5_back_6 : decode cX5_back 6 = .ok (.getfield 10, 3) := by decide +kernel
theorem dX5_back_9 : decode cX5_back 9 = .ok (.getfield 97, 3) := by decide +kernel
theorem dX5_back_12 : decode cX5_back 12 = .ok (.aload_n 0, 1) := by decide +kernel
theorem dX5_back_13 : decode cX5_back 13 = .ok (.invokevirtual 197, 3) := by decide +kernel
theorem dX5_back_16 : decode cX5_back 16 = .ok (.imul, 1) := by decide +kernel
theorem dX5_back_17 : decode cX5_back 17 = .ok (.ireturn, 1) := by decide +kernel
theorem dX5_back_18 : decode cX5_back 18 = .ok (.aload_n 0, 1) := by decide +kernel
theorem dX5_back_19 : decode cX5_back 19 = .ok (.getfield 10, 3) := by decide +kernel
theorem dX5_back_22 : decode cX5_back 22 = .ok (.iload_n 1, 1) := by decide +kernel
theorem dX5_back_23 : decode cX5_back 23 = .ok (.invokevirtual 121, 3) := by decide +kernel
theorem dX5_back_26 : decode cX5_back 26 = .ok (.ifCond .ne 5, 3) := by decide +kernel
theorem dX5_back_29 : decode cX5_back 29 = .ok (.iconst (-1), 1) := by decide +kernel
theorem dX5_back_30 : decode cX5_back 30 = .ok (.ireturn, 1) := by decide +kernel
theorem dX5_back_31 : decode cX5_back 31 = .ok (.aload_n 0, 1) := by decide +kernel
theorem dX5_back_32 : decode cX5_back 32 = .ok (.getfield 10, 3) := by decide +kernel
theorem dX5_back_35 : decode cX5_back 35 = .ok (.getfield 97, 3) := by decide +kernel
theorem dX5_back_38 : decode cX5_back 38 = .ok (.aload_n 0, 1) := by decide +kernel
theorem dX5_back_39 : decode cX5_back 39 = .ok (.getfield 10, 3) := by decide +kernel
theorem dX5_back_42 : decode cX5_back 42 = .ok (.aload_n 0, 1) := by decide +kernel
theorem dX5_back_43 : decode cX5_back 43 = .ok (.getfield 10, 3) := by decide +kernel
theorem dX5_back_46 : decode cX5_back 46 = .ok (.getfield 124, 3) := by decide +kernel
theorem dX5_back_49 : decode cX5_back 49 = .ok (.iload_n 1, 1) := by decide +kernel
theorem dX5_back_50 : decode cX5_back 50 = .ok (.iaload, 1) := by decide +kernel
theorem dX5_back_51 : decode cX5_back 51 = .ok (.invokevirtual 200, 3) := by decide +kernel
theorem dX5_back_54 : decode cX5_back 54 = .ok (.imul, 1) := by decide +kernel
theorem dX5_back_55 : decode cX5_back 55 = .ok (.ireturn, 1) := by decide +kernel
theorem dX5_been_0 : decode cX5_been 0 = .ok (.aload_n 0, 1) := by decide +kernel
theorem dX5_been_1 : decode cX5_been 1 = .ok (.getfield 10, 3) := by decide +kernel
theorem dX5_been_4 : decode cX5_been 4 = .ok (.iload_n 1, 1) := by decide +kernel
theorem dX5_been_5 : decode cX5_been 5 = .ok (.invokevirtual 121, 3) := by decide +kernel
theorem dX5_been_8 : decode cX5_been 8 = .ok (.ifCond .ne 5, 3) := by decide +kernel
theorem dX5_been_11 : decode cX5_been 11 = .ok (.iconst (-1), 1) := by decide +kernel
theorem dX5_been_12 : decode cX5_been 12 = .ok (.ireturn, 1) := by decide +kernel
theorem dX5_been_13 : decode cX5_been 13 = .ok (.aload_n 0, 1) := by decide +kernel
theorem dX5_been_14 : decode cX5_been 14 = .ok (.getfield 10, 3) := by decide +kernel
theorem dX5_been_17 : decode cX5_been 17 = .ok (.getfield 124, 3) := by decide +kernel
theorem dX5_been_20 : decode cX5_been 20 = .ok (.iload_n 1, 1) := by decide +kernel
theorem dX5_been_21 : decode cX5_been 21 = .ok (.iaload, 1) := by decide +kernel
theorem dX5_been_22 : decode cX5_been 22 = .ok (.istore_n 2, 1) := by decide +kernel
theorem dX5_been_23 : decode cX5_been 23 = .ok (.iload_n 2, 1) := by decide +kernel
theorem dX5_been_24 : decode cX5_been 24 = .ok (.invokestatic 194, 3) := by decide +kernel
theorem dX5_been_27 : decode cX5_been 27 = .ok (.istore_n 3, 1) := by decide +kernel
theorem dX5_been_28 : decode cX5_been 28 = .ok (.iconst 0, 1) := by decide +kernel
theorem dX5_been_29 : decode cX5_been 29 = .ok (.istore 4, 2) := by decide +kernel
theorem dX5_been_31 : decode cX5_been 31 = .ok (.iload 4, 2) := by decide +kernel
theorem dX5_been_33 : decode cX5_been 33 = .ok (.bipush 8, 2) := by decide +kernel
theorem dX5_been_35 : decode cX5_been 35 = .ok (.aload_n 0, 1) := by decide +kernel
theorem dX5_been_36 : decode cX5_been 36 = .ok (.getfield 10, 3) := by decide +kernel
theorem dX5_been_39 : decode cX5_been 39 = .ok (.getfield 97, 3) := by decide +kernel
theorem dX5_been_42 : decode cX5_been 42 = .ok (.imul, 1) := by decide +kernel
theorem dX5_been_43 : decode cX5_been 43 = .ok (.if_icmp .ge 35, 3) := by decide +kernel
theorem dX5_been_46 : decode cX5_been 46 = .ok (.aload_n 0, 1) := by decide +kernel
theorem dX5_been_47 : decode cX5_been 47 = .ok (.getfield 10, 3) := by decide +kernel
theorem dX5_been_50 : decode cX5_been 50 = .ok (.iload_n 2, 1) := by decide +kernel
theorem dX5_been_51 : decode cX5_been 51 = .ok (.aload_n 0, 1) := by decide +kernel
theorem dX5_been_52 : decode cX5_been 52 = .ok (.getfield 10, 3) := by decide +kernel
theorem dX5_been_55 : decode cX5_been 55 = .ok (.getfield 154, 3) := by decide +kernel
theorem dX5_been_58 : decode cX5_been 58 = .ok (.iload 4, 2) := by decide +kernel
theorem dX5_been_60 : decode cX5_been 60 = .ok (.iadd, 1) := by decide +kernel
theorem dX5_been_61 : decode cX5_been 61 = .ok (.invokevirtual 203, 3) := by decide +kernel
theorem dX5_been_64 : decode cX5_been 64 = .ok (.istore_n 2, 1) := by decide +kernel
theorem dX5_been_65 : decode cX5_been 65 = .ok (.iload_n 3, 1) := by decide +kernel
theorem dX5_been_66 : decode cX5_been 66 = .ok (.iload_n 2, 1) := by decide +kernel
theorem dX5_been_67 : decode cX5_been 67 = .ok (.invokestatic 194, 3) := by decide +kernel
theorem dX5_been_70 : decode cX5_been 70 = .ok (.ior, 1) := by decide +kernel
theorem dX5_been_71 : decode cX5_been 71 = .ok (.istore_n 3, 1) := by decide +kernel
theorem dX5_been_72 : decode cX5_been 72 = .ok (.iinc 4 1, 3) := by decide +kernel
theorem dX5_been_75 : decode cX5_been 75 = .ok (.goto (-44), 3) := by decide +kernel
theorem dX5_been_78 : decode cX5_been 78 = .ok (.iload_n 3, 1) := by decide +kernel
theorem dX5_been_79 : decode cX5_been 79 = .ok (.ireturn, 1) := by decide +kernel
theorem dX5_shortest_0 : decode cX5_shortest 0 = .ok (.iload_n 1, 1) := by decide +kernel
theorem dX5_shortest_1 : decode cX5_shortest 1 = .ok (.iconst 0, 1) := by decide +kernel
theorem dX5_shortest_2 : decode cX5_shortest 2 = .ok (.sipush 255, 3) := by decide +kernel
theorem dX5_shortest_5 : decode cX5_shortest 5 = .ok (.invokestatic 83, 3) := by decide +kernel
theorem dX5_shortest_8 : decode cX5_shortest 8 = .ok (.ifCond .eq 8, 3) := by decide +kernel
theorem dX5_shortest_11 : decode cX5_shortest 11 = .ok (.iload_n 2, 1) := by decide +kernel
theorem dX5_shortest_12 : decode cX5_shortest 12 = .ok (.iconst (-1), 1) := by decide +kernel
theorem dX5_shortest_13 : decode cX5_shortest 13 = .ok (.if_icmp .ge 5, 3) := by decide +kernel
theorem dX5_shortest_16 : decode cX5_shortest 16 = .ok (.iconst (-1), 1) := by decide +kernel
theorem dX5_shortest_17 : decode cX5_shortest 17 = .ok (.ireturn, 1) := by decide +kernel
theorem dX5_shortest_18 : decode cX5_shortest 18 = .ok (.aload_n 0, 1) := by decide +kernel
theorem dX5_shortest_19 : decode cX5_shortest 19 = .ok (.getfield 39, 3) := by decide +kernel
theorem dX5_shortest_22 : decode cX5_shortest 22 = .ok (.aload_n 0, 1) := by decide +kernel
theorem dX5_shortest_23 : decode cX5_shortest 23 = .ok (.getfield 10, 3) := by decide +kernel
theorem dX5_shortest_26 : decode cX5_shortest 26 = .ok (.aload_n 0, 1) := by decide +kernel
theorem dX5_shortest_27 : decode cX5_shortest 27 = .ok (.getfield 10, 3) := by decide +kernel
theorem dX5_shortest_30 : decode cX5_shortest 30 = .ok (.invokevirtual 62, 3) := by decide +kernel
theorem dX5_shortest_33 : decode cX5_shortest 33 = .ok (.invokevirtual 206, 3) := by decide +kernel
theorem dX5_shortest_36 : decode cX5_shortest 36 = .ok (.iload_n 2, 1) := by decide +kernel
theorem dX5_shortest_37 : decode cX5_shortest 37 = .ok (.iconst (-1), 1) := by decide +kernel
theorem dX5_shortest_38 : decode cX5_shortest 38 = .ok (.if_icmp .ne 14, 3) := by decide +kernel
theorem dX5_shortest_41 : decode cX5_shortest 41 = .ok (.aload_n 0, 1) := by decide +kernel
theorem dX5_shortest_42 : decode cX5_shortest 42 = .ok (.getfield 39, 3) := by decide +kernel
theorem dX5_shortest_45 : decode cX5_shortest 45 = .ok (.iload_n 1, 1) := by decide +kernel
theorem dX5_shortest_46 : decode cX5_shortest 46 = .ok (.invokevirtual 210, 3) := by decide +kernel
theorem dX5_shortest_49 : decode cX5_shortest 49 = .ok (.goto 12, 3) := by decide +kernel
theorem dX5_shortest_52 : decode cX5_shortest 52 = .ok (.aload_n 0, 1) := by decide +kernel
theorem dX5_shortest_53 : decode cX5_shortest 53 = .ok (.getfield 39, 3) := by decide +kernel
theorem dX5_shortest_56 : decode cX5_shortest 56 = .ok (.iload_n 1, 1) := by decide +kernel
theorem dX5_shortest_57 : decode cX5_shortest 57 = .ok (.iload_n 2, 1) := by decide +kernel
theorem dX5_shortest_58 : decode cX5_shortest 58 = .ok (.invokevirtual 213, 3) := by decide +kernel
theorem dX5_shortest_61 : decode cX5_shortest 61 = .ok (.ireturn, 1) := by decide +kernel
theorem dX5_sorts_0 : decode cX5_sorts 0 = .ok (.aload_n 0, 1) := by decide +kernel
theorem dX5_sorts_1 : decode cX5_sorts 1 = .ok (.getfield 39, 3) := by decide +kernel
theorem dX5_sorts_4 : decode cX5_sorts 4 = .ok (.aload_n 0, 1) := by decide +kernel
theorem dX5_sorts_5 : decode cX5_sorts 5 = .ok (.getfield 10, 3) := by decide +kernel
theorem dX5_sorts_8 : decode cX5_sorts 8 = .ok (.aload_n 0, 1) := by decide +kernel
theorem dX5_sorts_9 : decode cX5_sorts 9 = .ok (.getfield 10, 3) := by decide +kernel
theorem dX5_sorts_12 : decode cX5_sorts 12 = .ok (.invokevirtual 62, 3) := by decide +kernel
theorem dX5_sorts_15 : decode cX5_sorts 15 = .ok (.invokevirtual 206, 3) := by decide +kernel
theorem dX5_sorts_18 : decode cX5_sorts 18 = .ok (.aload_n 0, 1) := by decide +kernel
theorem dX5_sorts_19 : decode cX5_sorts 19 = .ok (.getfield 39, 3) := by decide +kernel
theorem dX5_sorts_22 : decode cX5_sorts 22 = .ok (.getfield 216, 3) := by decide +kernel
theorem dX5_sorts_25 : decode cX5_sorts 25 = .ok (.ireturn, 1) := by decide +kernel
theorem dX5_apart_0 : decode cX5_apart 0 = .ok (.aload_n 0, 1) := by decide +kernel
theorem dX5_apart_1 : decode cX5_apart 1 = .ok (.getfield 10, 3) := by decide +kernel
theorem dX5_apart_4 : decode cX5_apart 4 = .ok (.iload_n 1, 1) := by decide +kernel
theorem dX5_apart_5 : decode cX5_apart 5 = .ok (.invokevirtual 121, 3) := by decide +kernel
theorem dX5_apart_8 : decode cX5_apart 8 = .ok (.ifCond .eq 28, 3) := by decide +kernel
theorem dX5_apart_11 : decode cX5_apart 11 = .ok (.aload_n 0, 1) := by decide +kernel
theorem dX5_apart_12 : decode cX5_apart 12 = .ok (.getfield 10, 3) := by decide +kernel
theorem dX5_apart_15 : decode cX5_apart 15 = .ok (.iload_n 2, 1) := by decide +kernel
theorem dX5_apart_16 : decode cX5_apart 16 = .ok (.invokevirtual 121, 3) := by decide +kernel
theorem dX5_apart_19 : decode cX5_apart 19 = .ok (.ifCond .eq 17, 3) := by decide +kernel
theorem dX5_apart_22 : decode cX5_apart 22 = .ok (.iload_n 1, 1) := by decide +kernel
theorem dX5_apart_23 : decode cX5_apart 23 = .ok (.iload_n 2, 1) := by decide +kernel
theorem dX5_apart_24 : decode cX5_apart 24 = .ok (.if_icmp .eq 12, 3) := by decide +kernel
theorem dX5_apart_27 : decode cX5_apart 27 = .ok (.iload_n 3, 1) := by decide +kernel
theorem dX5_apart_28 : decode cX5_apart 28 = .ok (.iconst 0, 1) := by decide +kernel
theorem dX5_apart_29 : decode cX5_apart 29 = .ok (.iconst 1, 1) := by decide +kernel
theorem dX5_apart_30 : decode cX5_apart 30 = .ok (.invokestatic 83, 3) := by decide +kernel
theorem dX5_apart_33 : decode cX5_apart 33 = .ok (.ifCond .ne 5, 3) := by decide +kernel
theorem dX5_apart_36 : decode cX5_apart 36 = .ok (.iconst (-1), 1) := by decide +kernel
theorem dX5_apart_37 : decode cX5_apart 37 = .ok (.ireturn, 1) := by decide +kernel
theorem dX5_apart_38 : decode cX5_apart 38 = .ok (.aload_n 0, 1) := by decide +kernel
theorem dX5_apart_39 : decode cX5_apart 39 = .ok (.getfield 10, 3) := by decide +kernel
theorem dX5_apart_42 : decode cX5_apart 42 = .ok (.getfield 124, 3) := by decide +kernel
theorem dX5_apart_45 : decode cX5_apart 45 = .ok (.iload_n 1, 1) := by decide +kernel
theorem dX5_apart_46 : decode cX5_apart 46 = .ok (.iaload, 1) := by decide +kernel
theorem dX5_apart_47 : decode cX5_apart 47 = .ok (.bipush (-4), 2) := by decide +kernel
theorem dX5_apart_49 : decode cX5_apart 49 = .ok (.if_icmp .eq 17, 3) := by decide +kernel
theorem dX5_apart_52 : decode cX5_apart 52 = .ok (.aload_n 0, 1) := by decide +kernel
theorem dX5_apart_53 : decode cX5_apart 53 = .ok (.getfield 10, 3) := by decide +kernel
theorem dX5_apart_56 : decode cX5_apart 56 = .ok (.getfield 124, 3) := by decide +kernel
theorem dX5_apart_59 : decode cX5_apart 59 = .ok (.iload_n 2, 1) := by decide +kernel
theorem dX5_apart_60 : decode cX5_apart 60 = .ok (.iaload, 1) := by decide +kernel
theorem dX5_apart_61 : decode cX5_apart 61 = .ok (.bipush (-4), 2) := by decide +kernel
theorem dX5_apart_63 : decode cX5_apart 63 = .ok (.if_icmp .ne 6, 3) := by decide +kernel
theorem dX5_apart_66 : decode cX5_apart 66 = .ok (.bipush (-2), 2) := by decide +kernel
theorem dX5_apart_68 : decode cX5_apart 68 = .ok (.ireturn, 1) := by decide +kernel
theorem dX5_apart_69 : decode cX5_apart 69 = .ok (.aload_n 0, 1) := by decide +kernel
theorem dX5_apart_70 : decode cX5_apart 70 = .ok (.getfield 39, 3) := by decide +kernel
theorem dX5_apart_73 : decode cX5_apart 73 = .ok (.aload_n 0, 1) := by decide +kernel
theorem dX5_apart_74 : decode cX5_apart 74 = .ok (.getfield 10, 3) := by decide +kernel
theorem dX5_apart_77 : decode cX5_apart 77 = .ok (.aload_n 0, 1) := by decide +kernel
theorem dX5_apart_78 : decode cX5_apart 78 = .ok (.getfield 10, 3) := by decide +kernel
theorem dX5_apart_81 : decode cX5_apart 81 = .ok (.getfield 124, 3) := by decide +kernel
theorem dX5_apart_84 : decode cX5_apart 84 = .ok (.iload_n 1, 1) := by decide +kernel
theorem dX5_apart_85 : decode cX5_apart 85 = .ok (.iaload, 1) := by decide +kernel
theorem dX5_apart_86 : decode cX5_apart 86 = .ok (.invokestatic 194, 3) := by decide +kernel
theorem dX5_apart_89 : decode cX5_apart 89 = .ok (.aload_n 0, 1) := by decide +kernel
theorem dX5_apart_90 : decode cX5_apart 90 = .ok (.getfield 10, 3) := by decide +kernel
theorem dX5_apart_93 : decode cX5_apart 93 = .ok (.getfield 124, 3) := by decide +kernel
theorem dX5_apart_96 : decode cX5_apart 96 = .ok (.iload_n 2, 1) := by decide +kernel
theorem dX5_apart_97 : decode cX5_apart 97 = .ok (.iaload, 1) := by decide +kernel
theorem dX5_apart_98 : decode cX5_apart 98 = .ok (.invokestatic 194, 3) := by decide +kernel
theorem dX5_apart_101 : decode cX5_apart 101 = .ok (.ior, 1) := by decide +kernel
theorem dX5_apart_102 : decode cX5_apart 102 = .ok (.invokevirtual 206, 3) := by decide +kernel
theorem dX5_apart_105 : decode cX5_apart 105 = .ok (.aload_n 0, 1) := by decide +kernel
theorem dX5_apart_106 : decode cX5_apart 106 = .ok (.getfield 39, 3) := by decide +kernel
theorem dX5_apart_109 : decode cX5_apart 109 = .ok (.invokevirtual 219, 3) := by decide +kernel
theorem dX5_apart_112 : decode cX5_apart 112 = .ok (.istore 4, 2) := by decide +kernel
theorem dX5_apart_114 : decode cX5_apart 114 = .ok (.iload_n 3, 1) := by decide +kernel
theorem dX5_apart_115 : decode cX5_apart 115 = .ok (.ifCond .ne 15, 3) := by decide +kernel
theorem dX5_apart_118 : decode cX5_apart 118 = .ok (.aload_n 0, 1) := by decide +kernel
theorem dX5_apart_119 : decode cX5_apart 119 = .ok (.getfield 39, 3) := by decide +kernel
theorem dX5_apart_122 : decode cX5_apart 122 = .ok (.iload 4, 2) := by decide +kernel
theorem dX5_apart_124 : decode cX5_apart 124 = .ok (.invokevirtual 210, 3) := by decide +kernel
theorem dX5_apart_127 : decode cX5_apart 127 = .ok (.goto 8, 3) := by decide +kernel
theorem dX5_apart_130 : decode cX5_apart 130 = .ok (.iload 4, 2) := by decide +kernel
theorem dX5_apart_132 : decode cX5_apart 132 = .ok (.invokestatic 222, 3) := by decide +kernel
theorem dX5_apart_135 : decode cX5_apart 135 = .ok (.ireturn, 1) := by decide +kernel
theorem dX5_chance_0 : decode cX5_chance 0 = .ok (.aload_n 0, 1) := by decide +kernel
theorem dX5_chance_1 : decode cX5_chance 1 = .ok (.getfield 10, 3) := by decide +kernel
theorem dX5_chance_4 : decode cX5_chance 4 = .ok (.iload_n 1, 1) := by decide +kernel
theorem dX5_chance_5 : decode cX5_chance 5 = .ok (.invokevirtual 121, 3) := by decide +kernel
theorem dX5_chance_8 : decode cX5_chance 8 = .ok (.ifCond .eq 30, 3) := by decide +kernel
theorem dX5_chance_11 : decode cX5_chance 11 = .ok (.iload_n 2, 1) := by decide +kernel
theorem dX5_chance_12 : decode cX5_chance 12 = .ok (.invokestatic 54, 3) := by decide +kernel
theorem dX5_chance_15 : decode cX5_chance 15 = .ok (.ifCond .eq 23, 3) := by decide +kernel
theorem dX5_chance_18 : decode cX5_chance 18 = .ok (.iload_n 3, 1) := by decide +kernel
theorem dX5_chance_19 : decode cX5_chance 19 = .ok (.iconst 0, 1) := by decide +kernel
theorem dX5_chance_20 : decode cX5_chance 20 = .ok (.bipush 8, 2) := by decide +kernel
theorem dX5_chance_22 : decode cX5_chance 22 = .ok (.invokestatic 83, 3) := by decide +kernel
theorem dX5_chance_25 : decode cX5_chance 25 = .ok (.ifCond .eq 13, 3) := by decide +kernel
theorem dX5_chance_28 : decode cX5_chance 28 = .ok (.iload 4, 2) := by decide +kernel
theorem dX5_chance_30 : decode cX5_chance 30 = .ok (.iconst 0, 1) := by decide +kernel
theorem dX5_chance_31 : decode cX5_chance 31 = .ok (.iconst 1, 1) := by decide +kernel
theorem dX5_chance_32 : decode cX5_chance 32 = .ok (.invokestatic 83, 3) := by decide +kernel
theorem dX5_chance_35 : decode cX5_chance 35 = .ok (.ifCond .ne 5, 3) := by decide +kernel
theorem dX5_chance_38 : decode cX5_chance 38 = .ok (.iconst (-1), 1) := by decide +kernel
theorem dX5_chance_39 : decode cX5_chance 39 = .ok (.ireturn, 1) := by decide +kernel
theorem dX5_chance_40 : decode cX5_chance 40 = .ok (.aload_n 0, 1) := by decide +kernel
theorem dX5_chance_41 : decode cX5_chance 41 = .ok (.getfield 10, 3) := by decide +kernel
theorem dX5_chance_44 : decode cX5_chance 44 = .ok (.getfield 124, 3) := by decide +kernel
theorem dX5_chance_47 : decode cX5_chance 47 = .ok (.iload_n 1, 1) := by decide +kernel
theorem dX5_chance_48 : decode cX5_chance 48 = .ok (.iaload, 1) := by decide +kernel
theorem dX5_chance_49 : decode cX5_chance 49 = .ok (.bipush (-4), 2) := by decide +kernel
theorem dX5_chance_51 : decode cX5_chance 51 = .ok (.if_icmp .eq 13, 3) := by decide +kernel
theorem dX5_chance_54 : decode cX5_chance 54 = .ok (.aload_n 0, 1) := by decide +kernel
theorem dX5_chance_55 : decode cX5_chance 55 = .ok (.getfield 10, 3) := by decide +kernel
theorem dX5_chance_58 : decode cX5_chance 58 = .ok (.getfield 87, 3) := by decide +kernel
theorem dX5_chance_61 : decode cX5_chance 61 = .ok (.ifCond .gt 6, 3) := by decide +kernel
theorem dX5_chance_64 : decode cX5_chance 64 = .ok (.bipush (-2), 2) := by decide +kernel
theorem dX5_chance_66 : decode cX5_chance 66 = .ok (.ireturn, 1) := by decide +kernel
theorem dX5_chance_67 : decode cX5_chance 67 = .ok (.aload_n 0, 1) := by decide +kernel
theorem dX5_chance_68 : decode cX5_chance 68 = .ok (.aload_n 0, 1) := by decide +kernel
theorem dX5_chance_69 : decode cX5_chance 69 = .ok (.getfield 10, 3) := by decide +kernel
theorem dX5_chance_72 : decode cX5_chance 72 = .ok (.getfield 124, 3) := by decide +kernel
theorem dX5_chance_75 : decode cX5_chance 75 = .ok (.iload_n 1, 1) := by decide +kernel
theorem dX5_chance_76 : decode cX5_chance 76 = .ok (.iaload, 1) := by decide +kernel
theorem dX5_chance_77 : decode cX5_chance 77 = .ok (.iload_n 3, 1) := by decide +kernel
theorem dX5_chance_78 : decode cX5_chance 78 = .ok (.invokevirtual 225, 3) := by decide +kernel
theorem dX5_chance_81 : decode cX5_chance 81 = .ok (.iconst 1, 1) := by decide +kernel
theorem dX5_chance_82 : decode cX5_chance 82 = .ok (.istore 5, 2) := by decide +kernel
theorem dX5_chance_84 : decode cX5_chance 84 = .ok (.iconst 0, 1) := by decide +kernel
theorem dX5_chance_85 : decode cX5_chance 85 = .ok (.istore 6, 2) := by decide +kernel
theorem dX5_chance_87 : decode cX5_chance 87 = .ok (.iload 6, 2) := by decide +kernel
theorem dX5_chance_89 : decode cX5_chance 89 = .ok (.iload_n 3, 1) := by decide +kernel
theorem dX5_chance_90 : decode cX5_chance 90 = .ok (.if_icmp .ge 21, 3) := by decide +kernel
theorem dX5_chance_93 : decode cX5_chance 93 = .ok (.iload 5, 2) := by decide +kernel
theorem dX5_chance_95 : decode cX5_chance 95 = .ok (.aload_n 0, 1) := by decide +kernel
theorem dX5_chance_96 : decode cX5_chance 96 = .ok (.getfield 10, 3) := by decide +kernel
theorem dX5_chance_99 : decode cX5_chance 99 = .ok (.getfield 87, 3) := by decide +kernel
theorem dX5_chance_102 : decode cX5_chance 102 = .ok (.imul, 1) := by decide +kernel
theorem dX5_chance_103 : decode cX5_chance 103 = .ok (.istore 5, 2) := by decide +kernel
theorem dX5_chance_105 : decode cX5_chance 105 = .ok (.iinc 6 1, 3) := by decide +kernel
theorem dX5_chance_108 : decode cX5_chance 108 = .ok (.goto (-21), 3) := by decide +kernel
theorem dX5_chance_111 : decode cX5_chance 111 = .ok (.aload_n 0, 1) := by decide +kernel
theorem dX5_chance_112 : decode cX5_chance 112 = .ok (.getfield 43, 3) := by decide +kernel
theorem dX5_chance_115 : decode cX5_chance 115 = .ok (.iload_n 2, 1) := by decide +kernel
theorem dX5_chance_116 : decode cX5_chance 116 = .ok (.iaload, 1) := by decide +kernel
theorem dX5_chance_117 : decode cX5_chance 117 = .ok (.iload 5, 2) := by decide +kernel
theorem dX5_chance_119 : decode cX5_chance 119 = .ok (.invokestatic 229, 3) := by decide +kernel
theorem dX5_chance_122 : decode cX5_chance 122 = .ok (.istore 6, 2) := by decide +kernel
theorem dX5_chance_124 : decode cX5_chance 124 = .ok (.iload 6, 2) := by decide +kernel
theorem dX5_chance_126 : decode cX5_chance 126 = .ok (.ifCond .gt 6, 3) := by decide +kernel
theorem dX5_chance_129 : decode cX5_chance 129 = .ok (.bipush (-4), 2) := by decide +kernel
theorem dX5_chance_131 : decode cX5_chance 131 = .ok (.ireturn, 1) := by decide +kernel
theorem dX5_chance_132 : decode cX5_chance 132 = .ok (.iload 4, 2) := by decide +kernel
theorem dX5_chance_134 : decode cX5_chance 134 = .ok (.ifCond .ne 12, 3) := by decide +kernel
theorem dX5_chance_137 : decode cX5_chance 137 = .ok (.aload_n 0, 1) := by decide +kernel
theorem dX5_chance_138 : decode cX5_chance 138 = .ok (.getfield 43, 3) := by decide +kernel
theorem dX5_chance_141 : decode cX5_chance 141 = .ok (.iload_n 2, 1) := by decide +kernel
theorem dX5_chance_142 : decode cX5_chance 142 = .ok (.iaload, 1) := by decide +kernel
theorem dX5_chance_143 : decode cX5_chance 143 = .ok (.goto 5, 3) := by decide +kernel
theorem dX5_chance_146 : decode cX5_chance 146 = .ok (.iload 5, 2) := by decide +kernel
theorem dX5_chance_148 : decode cX5_chance 148 = .ok (.iload 6, 2) := by decide +kernel
theorem dX5_chance_150 : decode cX5_chance 150 = .ok (.idiv, 1) := by decide +kernel
theorem dX5_chance_151 : decode cX5_chance 151 = .ok (.ireturn, 1) := by decide +kernel
theorem dX5_image_0 : decode cX5_image 0 = .ok (.aload_n 0, 1) := by decide +kernel
theorem dX5_image_1 : decode cX5_image 1 = .ok (.getfield 16, 3) := by decide +kernel
theorem dX5_image_4 : decode cX5_image 4 = .ok (.aload_n 0, 1) := by decide +kernel
theorem dX5_image_5 : decode cX5_image 5 = .ok (.getfield 10, 3) := by decide +kernel
theorem dX5_image_8 : decode cX5_image 8 = .ok (.invokevirtual 150, 3) := by decide +kernel
theorem dX5_image_11 : decode cX5_image 11 = .ok (.aload_n 0, 1) := by decide +kernel
theorem dX5_image_12 : decode cX5_image 12 = .ok (.iconst 1, 1) := by decide +kernel
theorem dX5_image_13 : decode cX5_image 13 = .ok (.putfield 50, 3) := by decide +kernel
theorem dX5_image_16 : decode cX5_image 16 = .ok (.iconst 1, 1) := by decide +kernel
theorem dX5_image_17 : decode cX5_image 17 = .ok (.ireturn, 1) := by decide +kernel
theorem dX5_restore_0 : decode cX5_restore 0 = .ok (.aload_n 0, 1) := by decide +kernel
theorem dX5_restore_1 : decode cX5_restore 1 = .ok (.getfield 50, 3) := by decide +kernel
theorem dX5_restore_4 : decode cX5_restore 4 = .ok (.ifCond .ne 6, 3) := by decide +kernel
theorem dX5_restore_7 : decode cX5_restore 7 = .ok (.bipush (-4), 2) := by decide +kernel
theorem dX5_restore_9 : decode cX5_restore 9 = .ok (.ireturn, 1) := by decide +kernel
theorem dX5_restore_10 : decode cX5_restore 10 = .ok (.aload_n 0, 1) := by decide +kernel
theorem dX5_restore_11 : decode cX5_restore 11 = .ok (.getfield 10, 3) := by decide +kernel
theorem dX5_restore_14 : decode cX5_restore 14 = .ok (.aload_n 0, 1) := by decide +kernel
theorem dX5_restore_15 : decode cX5_restore 15 = .ok (.getfield 16, 3) := by decide +kernel
theorem dX5_restore_18 : decode cX5_restore 18 = .ok (.invokevirtual 150, 3) := by decide +kernel
theorem dX5_restore_21 : decode cX5_restore 21 = .ok (.iconst 1, 1) := by decide +kernel
theorem dX5_restore_22 : decode cX5_restore 22 = .ok (.ireturn, 1) := by decide +kernel
theorem dX5_counts_0 : decode cX5_counts 0 = .ok (.iload_n 1, 1) := by decide +kernel
theorem dX5_counts_1 : decode cX5_counts 1 = .ok (.invokestatic 54, 3) := by decide +kernel
theorem dX5_counts_4 : decode cX5_counts 4 = .ok (.ifCond .eq 38, 3) := by decide +kernel
theorem dX5_counts_7 : decode cX5_counts 7 = .ok (.iload_n 2, 1) := by decide +kernel
theorem dX5_counts_8 : decode cX5_counts 8 = .ok (.invokestatic 232, 3) := by decide +kernel
theorem dX5_counts_11 : decode cX5_counts 11 = .ok (.ifCond .eq 31, 3) := by decide +kernel
theorem dX5_counts_14 : decode cX5_counts 14 = .ok (.iload_n 3, 1) := by decide +kernel
theorem dX5_counts_15 : decode cX5_counts 15 = .ok (.invokestatic 235, 3) := by decide +kernel
theorem dX5_counts_18 : decode cX5_counts 18 = .ok (.ifCond .eq 24, 3) := by decide +kernel
theorem dX5_counts_21 : decode cX5_counts 21 = .ok (.iload 5, 2) := by decide +kernel
theorem dX5_counts_23 : decode cX5_counts 23 = .ok (.iconst 1, 1) := by decide +kernel
theorem dX5_counts_24 : decode cX5_counts 24 = .ok (.bipush 8, 2) := by decide +kernel
theorem dX5_counts_26 : decode cX5_counts 26 = .ok (.invokestatic 83, 3) := by decide +kernel
theorem dX5_counts_29 : decode cX5_counts 29 = .ok (.ifCond .eq 13, 3) := by decide +kernel
theorem dX5_counts_32 : decode cX5_counts 32 = .ok (.iload 6, 2) := by decide +kernel
theorem dX5_counts_34 : decode cX5_counts 34 = .ok (.iconst 0, 1) := by decide +kernel
theorem dX5_counts_35 : decode cX5_counts 35 = .ok (.iconst 2, 1) := by decide +kernel
theorem dX5_counts_36 : decode cX5_counts 36 = .ok (.invokestatic 83, 3) := by decide +kernel
theorem dX5_counts_39 : decode cX5_counts 39 = .ok (.ifCond .ne 5, 3) := by decide +kernel
theorem dX5_counts_42 : decode cX5_counts 42 = .ok (.iconst (-1), 1) := by decide +kernel
theorem dX5_counts_43 : decode cX5_counts 43 = .ok (.ireturn, 1) := by decide +kernel
theorem dX5_counts_44 : decode cX5_counts 44 = .ok (.aload_n 0, 1) := by decide +kernel
theorem dX5_counts_45 : decode cX5_counts 45 = .ok (.getfield 32, 3) := by decide +kernel
theorem dX5_counts_48 : decode cX5_counts 48 = .ok (.iload_n 2, 1) := by decide +kernel
theorem dX5_counts_49 : decode cX5_counts 49 = .ok (.iload_n 3, 1) := by decide +kernel
theorem dX5_counts_50 : decode cX5_counts 50 = .ok (.iload 4, 2) := by decide +kernel
theorem dX5_counts_52 : decode cX5_counts 52 = .ok (.iload 5, 2) := by decide +kernel
theorem dX5_counts_54 : decode cX5_counts 54 = .ok (.invokevirtual 238, 3) := by decide +kernel
theorem dX5_counts_57 : decode cX5_counts 57 = .ok (.istore 7, 2) := by decide +kernel
theorem dX5_counts_59 : decode cX5_counts 59 = .ok (.iload 7, 2) := by decide +kernel
theorem dX5_counts_61 : decode cX5_counts 61 = .ok (.ifCond .ge 6, 3) := by decide +kernel
theorem dX5_counts_64 : decode cX5_counts 64 = .ok (.iload 7, 2) := by decide +kernel
theorem dX5_counts_66 : decode cX5_counts 66 = .ok (.ireturn, 1) := by decide +kernel
theorem dX5_counts_67 : decode cX5_counts 67 = .ok (.iconst 0, 1) := by decide +kernel
theorem dX5_counts_68 : decode cX5_counts 68 = .ok (.istore 8, 2) := by decide +kernel
theorem dX5_counts_70 : decode cX5_counts 70 = .ok (.bipush (-4), 2) := by decide +kernel
theorem dX5_counts_72 : decode cX5_counts 72 = .ok (.istore 9, 2) := by decide +kernel
theorem dX5_counts_74 : decode cX5_counts 74 = .ok (.bipush (-4), 2) := by decide +kernel
theorem dX5_counts_76 : decode cX5_counts 76 = .ok (.istore 10, 2) := by decide +kernel
theorem dX5_counts_78 : decode cX5_counts 78 = .ok (.iconst 0, 1) := by decide +kernel
theorem dX5_counts_79 : decode cX5_counts 79 = .ok (.istore 11, 2) := by decide +kernel
theorem dX5_counts_81 : decode cX5_counts 81 = .ok (.iload 11, 2) := by decide +kernel
theorem dX5_counts_83 : decode cX5_counts 83 = .ok (.sipush 256, 3) := by decide +kernel
theorem dX5_counts_86 : decode cX5_counts 86 = .ok (.if_icmp .ge 64, 3) := by decide +kernel
theorem dX5_counts_89 : decode cX5_counts 89 = .ok (.aload_n 0, 1) := by decide +kernel
theorem dX5_counts_90 : decode cX5_counts 90 = .ok (.iload 11, 2) := by decide +kernel
theorem dX5_counts_92 : decode cX5_counts 92 = .ok (.iload_n 1, 1) := by decide +kernel
theorem dX5_counts_93 : decode cX5_counts 93 = .ok (.iload_n 2, 1) := by decide +kernel
theorem dX5_counts_94 : decode cX5_counts 94 = .ok (.iload 4, 2) := by decide +kernel
theorem dX5_counts_96 : decode cX5_counts 96 = .ok (.iload 5, 2) := by decide +kernel
theorem dX5_counts_98 : decode cX5_counts 98 = .ok (.invokevirtual 242, 3) := by decide +kernel
theorem dX5_counts_101 : decode cX5_counts 101 = .ok (.ifCond .eq 43, 3) := by decide +kernel
theorem dX5_counts_104 : decode cX5_counts 104 = .ok (.iload 11, 2) := by decide +kernel
theorem dX5_counts_106 : decode cX5_counts 106 = .ok (.invokestatic 179, 3) := by decide +kernel
theorem dX5_counts_109 : decode cX5_counts 109 = .ok (.istore 12, 2) := by decide +kernel
theorem dX5_counts_111 : decode cX5_counts 111 = .ok (.iinc 8 1, 3) := by decide +kernel
theorem dX5_counts_114 : decode cX5_counts 114 = .ok (.iload 9, 2) := by decide +kernel
theorem dX5_counts_116 : decode cX5_counts 116 = .ok (.bipush (-4), 2) := by decide +kernel
theorem dX5_counts_118 : decode cX5_counts 118 = .ok (.if_icmp .ne 8, 3) := by decide +kernel
theorem dX5_counts_121 : decode cX5_counts 121 = .ok (.iload 12, 2) := by decide +kernel
theorem dX5_counts_123 : decode cX5_counts 123 = .ok (.goto 10, 3) := by decide +kernel
theorem dX5_counts_126 : decode cX5_counts 126 = .ok (.iload 9, 2) := by decide +kernel
theorem dX5_counts_128 : decode cX5_counts 128 = .ok (.iload 12, 2) := by decide +kernel
theorem dX5_counts_130 : decode cX5_counts 130 = .ok (.invokestatic 246, 3) := by decide +kernel
theorem dX5_counts_133 : decode cX5_counts 133 = .ok (.istore 9, 2) := by decide +kernel
theorem dX5_counts_135 : decode cX5_counts 135 = .ok (.iload 10, 2) := by decide +kernel
theorem dX5_counts_137 : decode cX5_counts 137 = .ok (.iload 12, 2) := by decide +kernel
theorem dX5_counts_139 : decode cX5_counts 139 = .ok (.invokestatic 251, 3) := by decide +kernel
theorem dX5_counts_142 : decode cX5_counts 142 = .ok (.istore 10, 2) := by decide +kernel
theorem dX5_counts_144 : decode cX5_counts 144 = .ok (.iinc 11 1, 3) := by decide +kernel
theorem dX5_counts_147 : decode cX5_counts 147 = .ok (.goto (-66), 3) := by decide +kernel
theorem dX5_counts_150 : decode cX5_counts 150 = .ok (.iload 6, 2) := by decide +kernel
theorem dX5_counts_152 : decode cX5_counts 152 = .ok (.ifCond .ne 8, 3) := by decide +kernel
theorem dX5_counts_155 : decode cX5_counts 155 = .ok (.iload 8, 2) := by decide +kernel
theorem dX5_counts_157 : decode cX5_counts 157 = .ok (.goto 16, 3) := by decide +kernel
theorem dX5_counts_160 : decode cX5_counts 160 = .ok (.iload 6, 2) := by decide +kernel
theorem dX5_counts_162 : decode cX5_counts 162 = .ok (.iconst 1, 1) := by decide +kernel
theorem dX5_counts_163 : decode cX5_counts 163 = .ok (.if_icmp .ne 8, 3) := by decide +kernel
theorem dX5_counts_166 : decode cX5_counts 166 = .ok (.iload 9, 2) := by decide +kernel
theorem dX5_counts_168 : decode cX5_counts 168 = .ok (.goto 5, 3) := by decide +kernel
theorem dX5_counts_171 : decode cX5_counts 171 = .ok (.iload 10, 2) := by decide +kernel
theorem dX5_counts_173 : decode cX5_counts 173 = .ok (.ireturn, 1) := by decide +kernel
theorem dX5_steps_0 : decode cX5_steps 0 = .ok (.aload_n 0, 1) := by decide +kernel
theorem dX5_steps_1 : decode cX5_steps 1 = .ok (.getfield 10, 3) := by decide +kernel
theorem dX5_steps_4 : decode cX5_steps 4 = .ok (.iload_n 1, 1) := by decide +kernel
theorem dX5_steps_5 : decode cX5_steps 5 = .ok (.invokevirtual 121, 3) := by decide +kernel
theorem dX5_steps_8 : decode cX5_steps 8 = .ok (.ifCond .eq 29, 3) := by decide +kernel
theorem dX5_steps_11 : decode cX5_steps 11 = .ok (.aload_n 0, 1) := by decide +kernel
theorem dX5_steps_12 : decode cX5_steps 12 = .ok (.getfield 10, 3) := by decide +kernel
theorem dX5_steps_15 : decode cX5_steps 15 = .ok (.iload_n 2, 1) := by decide +kernel
theorem dX5_steps_16 : decode cX5_steps 16 = .ok (.invokevirtual 94, 3) := by decide +kernel
theorem dX5_steps_19 : decode cX5_steps 19 = .ok (.ifCond .eq 18, 3) := by decide +kernel
theorem dX5_steps_22 : decode cX5_steps 22 = .ok (.iload_n 3, 1) := by decide +kernel
theorem dX5_steps_23 : decode cX5_steps 23 = .ok (.invokestatic 232, 3) := by decide +kernel
theorem dX5_steps_26 : decode cX5_steps 26 = .ok (.ifCond .eq 11, 3) := by decide +kernel
theorem dX5_steps_29 : decode cX5_steps 29 = .ok (.iload 4, 2) := by decide +kernel
theorem dX5_steps_31 : decode cX5_steps 31 = .ok (.invokestatic 235, 3) := by decide +kernel
theorem dX5_steps_34 : decode cX5_steps 34 = .ok (.ifCond .ne 5, 3) := by decide +kernel
theorem dX5_steps_37 : decode cX5_steps 37 = .ok (.iconst (-1), 1) := by decide +kernel
theorem dX5_steps_38 : decode cX5_steps 38 = .ok (.ireturn, 1) := by decide +kernel
theorem dX5_steps_39 : decode cX5_steps 39 = .ok (.iload 6, 2) := by decide +kernel
theorem dX5_steps_41 : decode cX5_steps 41 = .ok (.iconst 1, 1) := by decide +kernel
theorem dX5_steps_42 : decode cX5_steps 42 = .ok (.bipush 8, 2) := by decide +kernel
theorem dX5_steps_44 : decode cX5_steps 44 = .ok (.invokestatic 83, 3) := by decide +kernel
theorem dX5_steps_47 : decode cX5_steps 47 = .ok (.ifCond .eq 13, 3) := by decide +kernel
theorem dX5_steps_50 : decode cX5_steps 50 = .ok (.iload 7, 2) := by decide +kernel
theorem dX5_steps_52 : decode cX5_steps 52 = .ok (.iconst 0, 1) := by decide +kernel
theorem dX5_steps_53 : decode cX5_steps 53 = .ok (.iconst 1, 1) := by decide +kernel
theorem dX5_steps_54 : decode cX5_steps 54 = .ok (.invokestatic 83, 3) := by decide +kernel
theorem dX5_steps_57 : decode cX5_steps 57 = .ok (.ifCond .ne 5, 3) := by decide +kernel
theorem dX5_steps_60 : decode cX5_steps 60 = .ok (.iconst (-1), 1) := by decide +kernel
theorem dX5_steps_61 : decode cX5_steps 61 = .ok (.ireturn, 1) := by decide +kernel
theorem dX5_steps_62 : decode cX5_steps 62 = .ok (.aload_n 0, 1) := by decide +kernel
theorem dX5_steps_63 : decode cX5_steps 63 = .ok (.getfield 32, 3) := by decide +kernel
theorem dX5_steps_66 : decode cX5_steps 66 = .ok (.iload_n 3, 1) := by decide +kernel
theorem dX5_steps_67 : decode cX5_steps 67 = .ok (.iload 4, 2) := by decide +kernel
theorem dX5_steps_69 : decode cX5_steps 69 = .ok (.iload 5, 2) := by decide +kernel
theorem dX5_steps_71 : decode cX5_steps 71 = .ok (.iload 6, 2) := by decide +kernel
theorem dX5_steps_73 : decode cX5_steps 73 = .ok (.invokevirtual 238, 3) := by decide +kernel
theorem dX5_steps_76 : decode cX5_steps 76 = .ok (.istore 8, 2) := by decide +kernel
theorem dX5_steps_78 : decode cX5_steps 78 = .ok (.iload 8, 2) := by decide +kernel
theorem dX5_steps_80 : decode cX5_steps 80 = .ok (.ifCond .ge 6, 3) := by decide +kernel
theorem dX5_steps_83 : decode cX5_steps 83 = .ok (.iload 8, 2) := by decide +kernel
theorem dX5_steps_85 : decode cX5_steps 85 = .ok (.ireturn, 1) := by decide +kernel
theorem dX5_steps_86 : decode cX5_steps 86 = .ok (.aload_n 0, 1) := by decide +kernel
theorem dX5_steps_87 : decode cX5_steps 87 = .ok (.getfield 10, 3) := by decide +kernel
theorem dX5_steps_90 : decode cX5_steps 90 = .ok (.getfield 124, 3) := by decide +kernel
theorem dX5_steps_93 : decode cX5_steps 93 = .ok (.iload_n 1, 1) := by decide +kernel
theorem dX5_steps_94 : decode cX5_steps 94 = .ok (.iaload, 1) := by decide +kernel
theorem dX5_steps_95 : decode cX5_steps 95 = .ok (.bipush (-4), 2) := by decide +kernel
theorem dX5_steps_97 : decode cX5_steps 97 = .ok (.if_icmp .ne 6, 3) := by decide +kernel
theorem dX5_steps_100 : decode cX5_steps 100 = .ok (.bipush (-2), 2) := by decide +kernel
theorem dX5_steps_102 : decode cX5_steps 102 = .ok (.ireturn, 1) := by decide +kernel
theorem dX5_steps_103 : decode cX5_steps 103 = .ok (.aload_n 0, 1) := by decide +kernel
theorem dX5_steps_104 : decode cX5_steps 104 = .ok (.getfield 19, 3) := by decide +kernel
theorem dX5_steps_107 : decode cX5_steps 107 = .ok (.aload_n 0, 1) := by decide +kernel
theorem dX5_steps_108 : decode cX5_steps 108 = .ok (.getfield 10, 3) := by decide +kernel
theorem dX5_steps_111 : decode cX5_steps 111 = .ok (.invokevirtual 150, 3) := by decide +kernel
theorem dX5_steps_114 : decode cX5_steps 114 = .ok (.iconst 0, 1) := by decide +kernel
theorem dX5_steps_115 : decode cX5_steps 115 = .ok (.istore 9, 2) := by decide +kernel
theorem dX5_steps_117 : decode cX5_steps 117 = .ok (.iload 7, 2) := by decide +kernel
theorem dX5_steps_119 : decode cX5_steps 119 = .ok (.ifCond .ne 7, 3) := by decide +kernel
theorem dX5_steps_122 : decode cX5_steps 122 = .ok (.iconst 5, 1) := by decide +kernel
theorem dX5_steps_123 : decode cX5_steps 123 = .ok (.goto 5, 3) := by decide +kernel
theorem dX5_steps_126 : decode cX5_steps 126 = .ok (.bipush 8, 2) := by decide +kernel
theorem dX5_steps_128 : decode cX5_steps 128 = .ok (.istore 10, 2) := by decide +kernel
theorem dX5_steps_130 : decode cX5_steps 130 = .ok (.iconst 0, 1) := by decide +kernel
theorem dX5_steps_131 : decode cX5_steps 131 = .ok (.istore 11, 2) := by decide +kernel
theorem dX5_steps_133 : decode cX5_steps 133 = .ok (.iload 11, 2) := by decide +kernel
theorem dX5_steps_135 : decode cX5_steps 135 = .ok (.iload 10, 2) := by decide +kernel
theorem dX5_steps_137 : decode cX5_steps 137 = .ok (.if_icmp .ge 81, 3) := by decide +kernel
theorem dX5_steps_140 : decode cX5_steps 140 = .ok (.iload 7, 2) := by decide +kernel
theorem dX5_steps_142 : decode cX5_steps 142 = .ok (.ifCond .ne 25, 3) := by decide +kernel
theorem dX5_steps_145 : decode cX5_steps 145 = .ok (.aload_n 0, 1) := by decide +kernel
theorem dX5_steps_146 : decode cX5_steps 146 = .ok (.getfield 19, 3) := by decide +kernel
theorem dX5_steps_149 : decode cX5_steps 149 = .ok (.iload_n 2, 1) := by decide +kernel
theorem dX5_steps_150 : decode cX5_steps 150 = .ok (.iload 11, 2) := by decide +kernel
theorem dX5_steps_152 : decode cX5_steps 152 = .ok (.aload_n 0, 1) := by decide +kernel
theorem dX5_steps_153 : decode cX5_steps 153 = .ok (.getfield 10, 3) := by decide +kernel
theorem dX5_steps_156 : decode cX5_steps 156 = .ok (.getfield 106, 3) := by decide +kernel
theorem dX5_steps_159 : decode cX5_steps 159 = .ok (.iload_n 2, 1) := by decide +kernel
theorem dX5_steps_160 : decode cX5_steps 160 = .ok (.iaload, 1) := by decide +kernel
theorem dX5_steps_161 : decode cX5_steps 161 = .ok (.invokevirtual 254, 3) := by decide +kernel
theorem dX5_steps_164 : decode cX5_steps 164 = .ok (.goto 22, 3) := by decide +kernel
theorem dX5_steps_167 : decode cX5_steps 167 = .ok (.aload_n 0, 1) := by decide +kernel
theorem dX5_steps_168 : decode cX5_steps 168 = .ok (.getfield 19, 3) := by decide +kernel
theorem dX5_steps_171 : decode cX5_steps 171 = .ok (.iload_n 2, 1) := by decide +kernel
theorem dX5_steps_172 : decode cX5_steps 172 = .ok (.aload_n 0, 1) := by decide +kernel
theorem dX5_steps_173 : decode cX5_steps 173 = .ok (.getfield 10, 3) := by decide +kernel
theorem dX5_steps_176 : decode cX5_steps 176 = .ok (.getfield 103, 3) := by decide +kernel
theorem dX5_steps_179 : decode cX5_steps 179 = .ok (.iload_n 2, 1) := by decide +kernel
theorem dX5_steps_180 : decode cX5_steps 180 = .ok (.iaload, 1) := by decide +kernel
theorem dX5_steps_181 : decode cX5_steps 181 = .ok (.iload 11, 2) := by decide +kernel
theorem dX5_steps_183 : decode cX5_steps 183 = .ok (.invokevirtual 254, 3) := by decide +kernel
theorem dX5_steps_186 : decode cX5_steps 186 = .ok (.aload_n 0, 1) := by decide +kernel
theorem dX5_steps_187 : decode cX5_steps 187 = .ok (.aload_n 0, 1) := by decide +kernel
theorem dX5_steps_188 : decode cX5_steps 188 = .ok (.getfield 19, 3) := by decide +kernel
theorem dX5_steps_191 : decode cX5_steps 191 = .ok (.iload_n 1, 1) := by decide +kernel
theorem dX5_steps_192 : decode cX5_steps 192 = .ok (.iload_n 3, 1) := by decide +kernel
theorem dX5_steps_193 : decode cX5_steps 193 = .ok (.iload 5, 2) := by decide +kernel
theorem dX5_steps_195 : decode cX5_steps 195 = .ok (.iload 6, 2) := by decide +kernel
theorem dX5_steps_197 : decode cX5_steps 197 = .ok (.invokevirtual 258, 3) := by decide +kernel
theorem dX5_steps_200 : decode cX5_steps 200 = .ok (.ifCond .eq 12, 3) := by decide +kernel
theorem dX5_steps_203 : decode cX5_steps 203 = .ok (.iload 9, 2) := by decide +kernel
theorem dX5_steps_205 : decode cX5_steps 205 = .ok (.iconst 1, 1) := by decide +kernel
theorem dX5_steps_206 : decode cX5_steps 206 = .ok (.iload 11, 2) := by decide +kernel
theorem dX5_steps_208 : decode cX5_steps 208 = .ok (.ishl, 1) := by decide +kernel
theorem dX5_steps_209 : decode cX5_steps 209 = .ok (.ior, 1) := by decide +kernel
theorem dX5_steps_210 : decode cX5_steps 210 = .ok (.istore 9, 2) := by decide +kernel
theorem dX5_steps_212 : decode cX5_steps 212 = .ok (.iinc 11 1, 3) := by decide +kernel
theorem dX5_steps_215 : decode cX5_steps 215 = .ok (.goto (-82), 3) := by decide +kernel
theorem dX5_steps_218 : decode cX5_steps 218 = .ok (.iload 9, 2) := by decide +kernel
theorem dX5_steps_220 : decode cX5_steps 220 = .ok (.ireturn, 1) := by decide +kernel
theorem dX5_film_0 : decode cX5_film 0 = .ok (.aload_n 0, 1) := by decide +kernel
theorem dX5_film_1 : decode cX5_film 1 = .ok (.getfield 10, 3) := by decide +kernel
theorem dX5_film_4 : decode cX5_film 4 = .ok (.iload_n 1, 1) := by decide +kernel
theorem dX5_film_5 : decode cX5_film 5 = .ok (.invokevirtual 121, 3) := by decide +kernel
theorem dX5_film_8 : decode cX5_film 8 = .ok (.ifCond .eq 28, 3) := by decide +kernel
theorem dX5_film_11 : decode cX5_film 11 = .ok (.iload_n 2, 1) := by decide +kernel
theorem dX5_film_12 : decode cX5_film 12 = .ok (.iconst 1, 1) := by decide +kernel
theorem dX5_film_13 : decode cX5_film 13 = .ok (.bipush 24, 2) := by decide +kernel
theorem dX5_film_15 : decode cX5_film 15 = .ok (.invokestatic 83, 3) := by decide +kernel
theorem dX5_film_18 : decode cX5_film 18 = .ok (.ifCond .eq 18, 3) := by decide +kernel
theorem dX5_film_21 : decode cX5_film 21 = .ok (.iload_n 3, 1) := by decide +kernel
theorem dX5_film_22 : decode cX5_film 22 = .ok (.invokestatic 232, 3) := by decide +kernel
theorem dX5_film_25 : decode cX5_film 25 = .ok (.ifCond .eq 11, 3) := by decide +kernel
theorem dX5_film_28 : decode cX5_film 28 = .ok (.iload 4, 2) := by decide +kernel
theorem dX5_film_30 : decode cX5_film 30 = .ok (.invokestatic 235, 3) := by decide +kernel
theorem dX5_film_33 : decode cX5_film 33 = .ok (.ifCond .ne 5, 3) := by decide +kernel
theorem dX5_film_36 : decode cX5_film 36 = .ok (.iconst (-1), 1) := by decide +kernel
theorem dX5_film_37 : decode cX5_film 37 = .ok (.ireturn, 1) := by decide +kernel
theorem dX5_film_38 : decode cX5_film 38 = .ok (.aload_n 0, 1) := by decide +kernel
theorem dX5_film_39 : decode cX5_film 39 = .ok (.getfield 32, 3) := by decide +kernel
theorem dX5_film_42 : decode cX5_film 42 = .ok (.iload_n 3, 1) := by decide +kernel
theorem dX5_film_43 : decode cX5_film 43 = .ok (.iload 4, 2) := by decide +kernel
theorem dX5_film_45 : decode cX5_film 45 = .ok (.iload 5, 2) := by decide +kernel
theorem dX5_film_47 : decode cX5_film 47 = .ok (.iload_n 2, 1) := by decide +kernel
theorem dX5_film_48 : decode cX5_film 48 = .ok (.invokevirtual 238, 3) := by decide +kernel
theorem dX5_film_51 : decode cX5_film 51 = .ok (.istore 6, 2) := by decide +kernel
theorem dX5_film_53 : decode cX5_film 53 = .ok (.iload 6, 2) := by decide +kernel
theorem dX5_film_55 : decode cX5_film 55 = .ok (.ifCond .ge 6, 3) := by decide +kernel
theorem dX5_film_58 : decode cX5_film 58 = .ok (.iload 6, 2) := by decide +kernel
theorem dX5_film_60 : decode cX5_film 60 = .ok (.ireturn, 1) := by decide +kernel
theorem dX5_film_61 : decode cX5_film 61 = .ok (.aload_n 0, 1) := by decide +kernel
theorem dX5_film_62 : decode cX5_film 62 = .ok (.getfield 10, 3) := by decide +kernel
theorem dX5_film_65 : decode cX5_film 65 = .ok (.getfield 124, 3) := by decide +kernel
theorem dX5_film_68 : decode cX5_film 68 = .ok (.iload_n 1, 1) := by decide +kernel
theorem dX5_film_69 : decode cX5_film 69 = .ok (.iaload, 1) := by decide +kernel
theorem dX5_film_70 : decode cX5_film 70 = .ok (.istore 7, 2) := by decide +kernel
theorem dX5_film_72 : decode cX5_film 72 = .ok (.iconst 0, 1) := by decide +kernel
theorem dX5_film_73 : decode cX5_film 73 = .ok (.istore 8, 2) := by decide +kernel
theorem dX5_film_75 : decode cX5_film 75 = .ok (.iload 8, 2) := by decide +kernel
theorem dX5_film_77 : decode cX5_film 77 = .ok (.iload_n 2, 1) := by decide +kernel
theorem dX5_film_78 : decode cX5_film 78 = .ok (.if_icmp .ge 46, 3) := by decide +kernel
theorem dX5_film_81 : decode cX5_film 81 = .ok (.aload_n 0, 1) := by decide +kernel
theorem dX5_film_82 : decode cX5_film 82 = .ok (.getfield 10, 3) := by decide +kernel
theorem dX5_film_85 : decode cX5_film 85 = .ok (.iload 7, 2) := by decide +kernel
theorem dX5_film_87 : decode cX5_film 87 = .ok (.aload_n 0, 1) := by decide +kernel
theorem dX5_film_88 : decode cX5_film 88 = .ok (.getfield 10, 3) := by decide +kernel
theorem dX5_film_91 : decode cX5_film 91 = .ok (.getfield 154, 3) := by decide +kernel
theorem dX5_film_94 : decode cX5_film 94 = .ok (.iload 8, 2) := by decide +kernel
theorem dX5_film_96 : decode cX5_film 96 = .ok (.iadd, 1) := by decide +kernel
theorem dX5_film_97 : decode cX5_film 97 = .ok (.invokevirtual 203, 3) := by decide +kernel
theorem dX5_film_100 : decode cX5_film 100 = .ok (.istore 7, 2) := by decide +kernel
theorem dX5_film_102 : decode cX5_film 102 = .ok (.aload_n 0, 1) := by decide +kernel
theorem dX5_film_103 : decode cX5_film 103 = .ok (.getfield 32, 3) := by decide +kernel
theorem dX5_film_106 : decode cX5_film 106 = .ok (.iload_n 3, 1) := by decide +kernel
theorem dX5_film_107 : decode cX5_film 107 = .ok (.iload 5, 2) := by decide +kernel
theorem dX5_film_109 : decode cX5_film 109 = .ok (.iload 8, 2) := by decide +kernel
theorem dX5_film_111 : decode cX5_film 111 = .ok (.iadd, 1) := by decide +kernel
theorem dX5_film_112 : decode cX5_film 112 = .ok (.iload 7, 2) := by decide +kernel
theorem dX5_film_114 : decode cX5_film 114 = .ok (.i2l, 1) := by decide +kernel
theorem dX5_film_115 : decode cX5_film 115 = .ok (.invokevirtual 262, 3) := by decide +kernel
theorem dX5_film_118 : decode cX5_film 118 = .ok (.iinc 8 1, 3) := by decide +kernel
theorem dX5_film_121 : decode cX5_film 121 = .ok (.goto (-46), 3) := by decide +kernel
theorem dX5_film_124 : decode cX5_film 124 = .ok (.iload_n 2, 1) := by decide +kernel
theorem dX5_film_125 : decode cX5_film 125 = .ok (.ireturn, 1) := by decide +kernel
theorem dX5_sheet_0 : decode cX5_sheet 0 = .ok (.iload_n 1, 1) := by decide +kernel
theorem dX5_sheet_1 : decode cX5_sheet 1 = .ok (.invokestatic 232, 3) := by decide +kernel
theorem dX5_sheet_4 : decode cX5_sheet 4 = .ok (.ifCond .eq 16, 3) := by decide +kernel
theorem dX5_sheet_7 : decode cX5_sheet 7 = .ok (.iload_n 2, 1) := by decide +kernel
theorem dX5_sheet_8 : decode cX5_sheet 8 = .ok (.invokestatic 235, 3) := by decide +kernel
theorem dX5_sheet_11 : decode cX5_sheet 11 = .ok (.ifCond .eq 9, 3) := by decide +kernel
theorem dX5_sheet_14 : decode cX5_sheet 14 = .ok (.iload_n 3, 1) := by decide +kernel
theorem dX5_sheet_15 : decode cX5_sheet 15 = .ok (.bipush 24, 2) := by decide +kernel
theorem dX5_sheet_17 : decode cX5_sheet 17 = .ok (.if_icmp .le 5, 3) := by decide +kernel
theorem dX5_sheet_20 : decode cX5_sheet 20 = .ok (.iconst (-1), 1) := by decide +kernel
theorem dX5_sheet_21 : decode cX5_sheet 21 = .ok (.ireturn, 1) := by decide +kernel
theorem dX5_sheet_22 : decode cX5_sheet 22 = .ok (.iload_n 3, 1) := by decide +kernel
theorem dX5_sheet_23 : decode cX5_sheet 23 = .ok (.ifCond .ge 6, 3) := by decide +kernel
theorem dX5_sheet_26 : decode cX5_sheet 26 = .ok (.bipush (-14), 2) := by decide +kernel
theorem dX5_sheet_28 : decode cX5_sheet 28 = .ok (.ireturn, 1) := by decide +kernel
theorem dX5_sheet_29 : decode cX5_sheet 29 = .ok (.aload_n 0, 1) := by decide +kernel
theorem dX5_sheet_30 : decode cX5_sheet 30 = .ok (.getfield 32, 3) := by decide +kernel
theorem dX5_sheet_33 : decode cX5_sheet 33 = .ok (.iload_n 1, 1) := by decide +kernel
theorem dX5_sheet_34 : decode cX5_sheet 34 = .ok (.iload_n 2, 1) := by decide +kernel
theorem dX5_sheet_35 : decode cX5_sheet 35 = .ok (.iload_n 3, 1) := by decide +kernel
theorem dX5_sheet_36 : decode cX5_sheet 36 = .ok (.invokevirtual 265, 3) := by decide +kernel
theorem dX5_sheet_39 : decode cX5_sheet 39 = .ok (.iload_n 3, 1) := by decide +kernel
theorem dX5_sheet_40 : decode cX5_sheet 40 = .ok (.ireturn, 1) := by decide +kernel
theorem dX5_drop_0 : decode cX5_drop 0 = .ok (.iload_n 1, 1) := by decide +kernel
theorem dX5_drop_1 : decode cX5_drop 1 = .ok (.invokestatic 232, 3) := by decide +kernel
theorem dX5_drop_4 : decode cX5_drop 4 = .ok (.ifCond .ne 5, 3) := by decide +kernel
theorem dX5_drop_7 : decode cX5_drop 7 = .ok (.iconst (-1), 1) := by decide +kernel
theorem dX5_drop_8 : decode cX5_drop 8 = .ok (.ireturn, 1) := by decide +kernel
theorem dX5_drop_9 : decode cX5_drop 9 = .ok (.aload_n 0, 1) := by decide +kernel
theorem dX5_drop_10 : decode cX5_drop 10 = .ok (.getfield 32, 3) := by decide +kernel
theorem dX5_drop_13 : decode cX5_drop 13 = .ok (.iload_n 1, 1) := by decide +kernel
theorem dX5_drop_14 : decode cX5_drop 14 = .ok (.invokevirtual 268, 3) := by decide +kernel
theorem dX5_drop_17 : decode cX5_drop 17 = .ok (.ifCond .ne 6, 3) := by decide +kernel
theorem dX5_drop_20 : decode cX5_drop 20 = .ok (.bipush (-11), 2) := by decide +kernel
theorem dX5_drop_22 : decode cX5_drop 22 = .ok (.ireturn, 1) := by decide +kernel
theorem dX5_drop_23 : decode cX5_drop 23 = .ok (.aload_n 0, 1) := by decide +kernel
theorem dX5_drop_24 : decode cX5_drop 24 = .ok (.getfield 32, 3) := by decide +kernel
theorem dX5_drop_27 : decode cX5_drop 27 = .ok (.iload_n 1, 1) := by decide +kernel
theorem dX5_drop_28 : decode cX5_drop 28 = .ok (.invokevirtual 271, 3) := by decide +kernel
theorem dX5_drop_31 : decode cX5_drop 31 = .ok (.ireturn, 1) := by decide +kernel
theorem dX5_item_0 : decode cX5_item 0 = .ok (.iload_n 1, 1) := by decide +kernel
theorem dX5_item_1 : decode cX5_item 1 = .ok (.invokestatic 232, 3) := by decide +kernel
theorem dX5_item_4 : decode cX5_item 4 = .ok (.ifCond .eq 10, 3) := by decide +kernel
theorem dX5_item_7 : decode cX5_item 7 = .ok (.iload_n 2, 1) := by decide +kernel
theorem dX5_item_8 : decode cX5_item 8 = .ok (.invokestatic 235, 3) := by decide +kernel
theorem dX5_item_11 : decode cX5_item 11 = .ok (.ifCond .ne 5, 3) := by decide +kernel
theorem dX5_item_14 : decode cX5_item 14 = .ok (.iconst (-1), 1) := by decide +kernel
theorem dX5_item_15 : decode cX5_item 15 = .ok (.ireturn, 1) := by decide +kernel
theorem dX5_item_16 : decode cX5_item 16 = .ok (.aload_n 0, 1) := by decide +kernel
theorem dX5_item_17 : decode cX5_item 17 = .ok (.getfield 32, 3) := by decide +kernel
theorem dX5_item_20 : decode cX5_item 20 = .ok (.iload_n 1, 1) := by decide +kernel
theorem dX5_item_21 : decode cX5_item 21 = .ok (.iload_n 2, 1) := by decide +kernel
theorem dX5_item_22 : decode cX5_item 22 = .ok (.iload_n 3, 1) := by decide +kernel
theorem dX5_item_23 : decode cX5_item 23 = .ok (.iconst 1, 1) := by decide +kernel
theorem dX5_item_24 : decode cX5_item 24 = .ok (.invokevirtual 238, 3) := by decide +kernel
theorem dX5_item_27 : decode cX5_item 27 = .ok (.istore 6, 2) := by decide +kernel
theorem dX5_item_29 : decode cX5_item 29 = .ok (.iload 6, 2) := by decide +kernel
theorem dX5_item_31 : decode cX5_item 31 = .ok (.ifCond .ge 6, 3) := by decide +kernel
theorem dX5_item_34 : decode cX5_item 34 = .ok (.iload 6, 2) := by decide +kernel
theorem dX5_item_36 : decode cX5_item 36 = .ok (.ireturn, 1) := by decide +kernel
theorem dX5_item_37 : decode cX5_item 37 = .ok (.aload_n 0, 1) := by decide +kernel
theorem dX5_item_38 : decode cX5_item 38 = .ok (.getfield 32, 3) := by decide +kernel
theorem dX5_item_41 : decode cX5_item 41 = .ok (.iload_n 1, 1) := by decide +kernel
theorem dX5_item_42 : decode cX5_item 42 = .ok (.iload_n 3, 1) := by decide +kernel
theorem dX5_item_43 : decode cX5_item 43 = .ok (.lload 4, 2) := by decide +kernel
theorem dX5_item_45 : decode cX5_item 45 = .ok (.invokevirtual 262, 3) := by decide +kernel
theorem dX5_item_48 : decode cX5_item 48 = .ok (.iconst 1, 1) := by decide +kernel
theorem dX5_item_49 : decode cX5_item 49 = .ok (.ireturn, 1) := by decide +kernel
theorem dX5_copy_0 : decode cX5_copy 0 = .ok (.iload_n 1, 1) := by decide +kernel
theorem dX5_copy_1 : decode cX5_copy 1 = .ok (.invokestatic 232, 3) := by decide +kernel
theorem dX5_copy_4 : decode cX5_copy 4 = .ok (.ifCond .eq 10, 3) := by decide +kernel
theorem dX5_copy_7 : decode cX5_copy 7 = .ok (.iload_n 3, 1) := by decide +kernel
theorem dX5_copy_8 : decode cX5_copy 8 = .ok (.invokestatic 232, 3) := by decide +kernel
theorem dX5_copy_11 : decode cX5_copy 11 = .ok (.ifCond .ne 5, 3) := by decide +kernel
theorem dX5_copy_14 : decode cX5_copy 14 = .ok (.iconst (-1), 1) := by decide +kernel
theorem dX5_copy_15 : decode cX5_copy 15 = .ok (.ireturn, 1) := by decide +kernel
theorem dX5_copy_16 : decode cX5_copy 16 = .ok (.aload_n 0, 1) := by decide +kernel
theorem dX5_copy_17 : decode cX5_copy 17 = .ok (.getfield 32, 3) := by decide +kernel
theorem dX5_copy_20 : decode cX5_copy 20 = .ok (.iload_n 1, 1) := by decide +kernel
theorem dX5_copy_21 : decode cX5_copy 21 = .ok (.invokevirtual 268, 3) := by decide +kernel
theorem dX5_copy_24 : decode cX5_copy 24 = .ok (.ifCond .eq 14, 3) := by decide +kernel
theorem dX5_copy_27 : decode cX5_copy 27 = .ok (.aload_n 0, 1) := by decide +kernel
theorem dX5_copy_28 : decode cX5_copy 28 = .ok (.getfield 32, 3) := by decide +kernel
theorem dX5_copy_31 : decode cX5_copy 31 = .ok (.iload_n 3, 1) := by decide +kernel
theorem dX5_copy_32 : decode cX5_copy 32 = .ok (.invokevirtual 268, 3) := by decide +kernel
theorem dX5_copy_35 : decode cX5_copy 35 = .ok (.ifCond .ne 6, 3) := by decide +kernel
theorem dX5_copy_38 : decode cX5_copy 38 = .ok (.bipush (-11), 2) := by decide +kernel
theorem dX5_copy_40 : decode cX5_copy 40 = .ok (.ireturn, 1) := by decide +kernel
theorem dX5_copy_41 : decode cX5_copy 41 = .ok (.aload_n 0, 1) := by decide +kernel
theorem dX5_copy_42 : decode cX5_copy 42 = .ok (.getfield 32, 3) := by decide +kernel
theorem dX5_copy_45 : decode cX5_copy 45 = .ok (.getfield 274, 3) := by decide +kernel
theorem dX5_copy_48 : decode cX5_copy 48 = .ok (.iload_n 1, 1) := by decide +kernel
theorem dX5_copy_49 : decode cX5_copy 49 = .ok (.iaload, 1) := by decide +kernel
theorem dX5_copy_50 : decode cX5_copy 50 = .ok (.aload_n 0, 1) := by decide +kernel
theorem dX5_copy_51 : decode cX5_copy 51 = .ok (.getfield 32, 3) := by decide +kernel
theorem dX5_copy_54 : decode cX5_copy 54 = .ok (.getfield 274, 3) := by decide +kernel
theorem dX5_copy_57 : decode cX5_copy 57 = .ok (.iload_n 3, 1) := by decide +kernel
theorem dX5_copy_58 : decode cX5_copy 58 = .ok (.iaload, 1) := by decide +kernel
theorem dX5_copy_59 : decode cX5_copy 59 = .ok (.if_icmp .eq 6, 3) := by decide +kernel
theorem dX5_copy_62 : decode cX5_copy 62 = .ok (.bipush (-12), 2) := by decide +kernel
theorem dX5_copy_64 : decode cX5_copy 64 = .ok (.ireturn, 1) := by decide +kernel
theorem dX5_copy_65 : decode cX5_copy 65 = .ok (.aload_n 0, 1) := by decide +kernel
theorem dX5_copy_66 : decode cX5_copy 66 = .ok (.getfield 32, 3) := by decide +kernel
theorem dX5_copy_69 : decode cX5_copy 69 = .ok (.iload_n 1, 1) := by decide +kernel
theorem dX5_copy_70 : decode cX5_copy 70 = .ok (.iload_n 2, 1) := by decide +kernel
theorem dX5_copy_71 : decode cX5_copy 71 = .ok (.iload 5, 2) := by decide +kernel
theorem dX5_copy_73 : decode cX5_copy 73 = .ok (.invokevirtual 277, 3) := by decide +kernel
theorem dX5_copy_76 : decode cX5_copy 76 = .ok (.ifCond .eq 18, 3) := by decide +kernel
theorem dX5_copy_79 : decode cX5_copy 79 = .ok (.aload_n 0, 1) := by decide +kernel
theorem dX5_copy_80 : decode cX5_copy 80 = .ok (.getfield 32, 3) := by decide +kernel
theorem dX5_copy_83 : decode cX5_copy 83 = .ok (.iload_n 3, 1) := by decide +kernel
theorem dX5_copy_84 : decode cX5_copy 84 = .ok (.iload 4, 2) := by decide +kernel
theorem dX5_copy_86 : decode cX5_copy 86 = .ok (.iload 5, 2) := by decide +kernel
theorem dX5_copy_88 : decode cX5_copy 88 = .ok (.invokevirtual 277, 3) := by decide +kernel
theorem dX5_copy_91 : decode cX5_copy 91 = .ok (.ifCond .ne 6, 3) := by decide +kernel
theorem dX5_copy_94 : decode cX5_copy 94 = .ok (.bipush (-13), 2) := by decide +kernel
theorem dX5_copy_96 : decode cX5_copy 96 = .ok (.ireturn, 1) := by decide +kernel
theorem dX5_copy_97 : decode cX5_copy 97 = .ok (.aload_n 0, 1) := by decide +kernel
theorem dX5_copy_98 : decode cX5_copy 98 = .ok (.getfield 32, 3) := by decide +kernel
theorem dX5_copy_101 : decode cX5_copy 101 = .ok (.iload_n 1, 1) := by decide +kernel
theorem dX5_copy_102 : decode cX5_copy 102 = .ok (.iload_n 2, 1) := by decide +kernel
theorem dX5_copy_103 : decode cX5_copy 103 = .ok (.iload_n 3, 1) := by decide +kernel
theorem dX5_copy_104 : decode cX5_copy 104 = .ok (.iload 4, 2) := by decide +kernel
theorem dX5_copy_106 : decode cX5_copy 106 = .ok (.iload 5, 2) := by decide +kernel
theorem dX5_copy_108 : decode cX5_copy 108 = .ok (.invokevirtual 280, 3) := by decide +kernel
theorem dX5_copy_111 : decode cX5_copy 111 = .ok (.iload 5, 2) := by decide +kernel
theorem dX5_copy_113 : decode cX5_copy 113 = .ok (.ireturn, 1) := by decide +kernel
theorem dX5_refusedBeats_0 : decode cX5_refusedBeats 0 = .ok (.iload_n 1, 1) := by decide +kernel
theorem dX5_refusedBeats_1 : decode cX5_refusedBeats 1 = .ok (.iconst 1, 1) := by decide +kernel
theorem dX5_refusedBeats_2 : decode cX5_refusedBeats 2 = .ok (.bipush 40, 2) := by decide +kernel
theorem dX5_refusedBeats_4 : decode cX5_refusedBeats 4 = .ok (.invokestatic 83, 3) := by decide +kernel
theorem dX5_refusedBeats_7 : decode cX5_refusedBeats 7 = .ok (.ifCond .ne 5, 3) := by decide +kernel
theorem dX5_refusedBeats_10 : decode cX5_refusedBeats 10 = .ok (.iconst (-1), 1) := by decide +kernel
theorem dX5_refusedBeats_11 : decode cX5_refusedBeats 11 = .ok (.ireturn, 1) := by decide +kernel
theorem dX5_refusedBeats_12 : decode cX5_refusedBeats 12 = .ok (.aload_n 0, 1) := by decide +kernel
theorem dX5_refusedBeats_13 : decode cX5_refusedBeats 13 = .ok (.getfield 10, 3) := by decide +kernel
theorem dX5_refusedBeats_16 : decode cX5_refusedBeats 16 = .ok (.getfield 154, 3) := by decide +kernel
theorem dX5_refusedBeats_19 : decode cX5_refusedBeats 19 = .ok (.iload_n 1, 1) := by decide +kernel
theorem dX5_refusedBeats_20 : decode cX5_refusedBeats 20 = .ok (.iadd, 1) := by decide +kernel
theorem dX5_refusedBeats_21 : decode cX5_refusedBeats 21 = .ok (.sipush 9999, 3) := by decide +kernel
theorem dX5_refusedBeats_24 : decode cX5_refusedBeats 24 = .ok (.if_icmp .le 8, 3) := by decide +kernel
theorem dX5_refusedBeats_27 : decode cX5_refusedBeats 27 = .ok (.bipush (-3), 2) := by decide +kernel
theorem dX5_refusedBeats_29 : decode cX5_refusedBeats 29 = .ok (.goto 4, 3) := by decide +kernel
theorem dX5_refusedBeats_32 : decode cX5_refusedBeats 32 = .ok (.iconst 0, 1) := by decide +kernel
theorem dX5_refusedBeats_33 : decode cX5_refusedBeats 33 = .ok (.ireturn, 1) := by decide +kernel
theorem dX5_roundsTillAllBack_0 : decode cX5_roundsTillAllBack 0 = .ok (.iconst 1, 1) := by decide +kernel
theorem dX5_roundsTillAllBack_1 : decode cX5_roundsTillAllBack 1 = .ok (.istore_n 1, 1) := by decide +kernel
theorem dX5_roundsTillAllBack_2 : decode cX5_roundsTillAllBack 2 = .ok (.iconst 0, 1) := by decide +kernel
theorem dX5_roundsTillAllBack_3 : decode cX5_roundsTillAllBack 3 = .ok (.istore_n 2, 1) := by decide +kernel
theorem dX5_roundsTillAllBack_4 : decode cX5_roundsTillAllBack 4 = .ok (.iload_n 2, 1) := by decide +kernel
theorem dX5_roundsTillAllBack_5 : decode cX5_roundsTillAllBack 5 = .ok (.aload_n 0, 1) := by decide +kernel
theorem dX5_roundsTillAllBack_6 : decode cX5_roundsTillAllBack 6 = .ok (.getfield 10, 3) := by decide +kernel
theorem dX5_roundsTillAllBack_9 : decode cX5_roundsTillAllBack 9 = .ok (.getfield 58, 3) := by decide +kernel
theorem dX5_roundsTillAllBack_12 : decode cX5_roundsTillAllBack 12 = .ok (.if_icmp .ge 45, 3) := by decide +kernel
theorem dX5_roundsTillAllBack_15 : decode cX5_roundsTillAllBack 15 = .ok (.aload_n 0, 1) := by decide +kernel
theorem dX5_roundsTillAllBack_16 : decode cX5_roundsTillAllBack 16 = .ok (.getfield 10, 3) := by decide +kernel
theorem dX5_roundsTillAllBack_19 : decode cX5_roundsTillAllBack 19 = .ok (.aload_n 0, 1) := by decide +kernel
theorem dX5_roundsTillAllBack_20 : decode cX5_roundsTillAllBack 20 = .ok (.getfield 10, 3) := by decide +kernel
theorem dX5_roundsTillAllBack_23 : decode cX5_roundsTillAllBack 23 = .ok (.getfield 124, 3) := by decide +kernel
theorem dX5_roundsTillAllBack_26 : decode cX5_roundsTillAllBack 26 = .ok (.iload_n 2, 1) := by decide +kernel
theorem dX5_roundsTillAllBack_27 : decode cX5_roundsTillAllBack 27 = .ok (.iaload, 1) := by decide +kernel
theorem dX5_roundsTillAllBack_28 : decode cX5_roundsTillAllBack 28 = .ok (.invokevirtual 200, 3) := by decide +kernel
theorem dX5_roundsTillAllBack_31 : decode cX5_roundsTillAllBack 31 = .ok (.istore_n 3, 1) := by decide +kernel
theorem dX5_roundsTillAllBack_32 : decode cX5_roundsTillAllBack 32 = .ok (.iload_n 1, 1) := by decide +kernel
theorem dX5_roundsTillAllBack_33 : decode cX5_roundsTillAllBack 33 = .ok (.iload_n 3, 1) := by decide +kernel
theorem dX5_roundsTillAllBack_34 : decode cX5_roundsTillAllBack 34 = .ok (.invokestatic 229, 3) := by decide +kernel
theorem dX5_roundsTillAllBack_37 : decode cX5_roundsTillAllBack 37 = .ok (.istore 4, 2) := by decide +kernel
theorem dX5_roundsTillAllBack_39 : decode cX5_roundsTillAllBack 39 = .ok (.iload 4, 2) := by decide +kernel
theorem dX5_roundsTillAllBack_41 : decode cX5_roundsTillAllBack 41 = .ok (.ifCond .le 10, 3) := by decide +kernel
theorem dX5_roundsTillAllBack_44 : decode cX5_roundsTillAllBack 44 = .ok (.iload_n 1, 1) := by decide +kernel
theorem dX5_roundsTillAllBack_45 : decode cX5_roundsTillAllBack 45 = .ok (.iload 4, 2) := by decide +kernel
theorem dX5_roundsTillAllBack_47 : decode cX5_roundsTillAllBack 47 = .ok (.idiv, 1) := by decide +kernel
theorem dX5_roundsTillAllBack_48 : decode cX5_roundsTillAllBack 48 = .ok (.iload_n 3, 1) := by decide +kernel
theorem dX5_roundsTillAllBack_49 : decode cX5_roundsTillAllBack 49 = .ok (.imul, 1) := by decide +kernel
theorem dX5_roundsTillAllBack_50 : decode cX5_roundsTillAllBack 50 = .ok (.istore_n 1, 1) := by decide +kernel
theorem dX5_roundsTillAllBack_51 : decode cX5_roundsTillAllBack 51 = .ok (.iinc 2 1, 3) := by decide +kernel
theorem dX5_roundsTillAllBack_54 : decode cX5_roundsTillAllBack 54 = .ok (.goto (-50), 3) := by decide +kernel
theorem dX5_roundsTillAllBack_57 : decode cX5_roundsTillAllBack 57 = .ok (.iload_n 1, 1) := by decide +kernel
theorem dX5_roundsTillAllBack_58 : decode cX5_roundsTillAllBack 58 = .ok (.ireturn, 1) := by decide +kernel
theorem dX5_countWays_0 : decode cX5_countWays 0 = .ok (.iconst 0, 1) := by decide +kernel
theorem dX5_countWays_1 : decode cX5_countWays 1 = .ok (.istore_n 3, 1) := by decide +kernel
theorem dX5_countWays_2 : decode cX5_countWays 2 = .ok (.iload_n 3, 1) := by decide +kernel
theorem dX5_countWays_3 : decode cX5_countWays 3 = .ok (.bipush 8, 2) := by decide +kernel
theorem dX5_countWays_5 : decode cX5_countWays 5 = .ok (.if_icmp .ge 25, 3) := by decide +kernel
theorem dX5_countWays_8 : decode cX5_countWays 8 = .ok (.aload_n 0, 1) := by decide +kernel
theorem dX5_countWays_9 : decode cX5_countWays 9 = .ok (.getfield 43, 3) := by decide +kernel
theorem dX5_countWays_12 : decode cX5_countWays 12 = .ok (.iload_n 3, 1) := by decide +kernel
theorem dX5_countWays_13 : decode cX5_countWays 13 = .ok (.iload_n 3, 1) := by decide +kernel
theorem dX5_countWays_14 : decode cX5_countWays 14 = .ok (.iload_n 1, 1) := by decide +kernel
theorem dX5_countWays_15 : decode cX5_countWays 15 = .ok (.if_icmp .ne 7, 3) := by decide +kernel
theorem dX5_countWays_18 : decode cX5_countWays 18 = .ok (.iconst 1, 1) := by decide +kernel
theorem dX5_countWays_19 : decode cX5_countWays 19 = .ok (.goto 4, 3) := by decide +kernel
theorem dX5_countWays_22 : decode cX5_countWays 22 = .ok (.iconst 0, 1) := by decide +kernel
theorem dX5_countWays_23 : decode cX5_countWays 23 = .ok (.iastore, 1) := by decide +kernel
theorem dX5_countWays_24 : decode cX5_countWays 24 = .ok (.iinc 3 1, 3) := by decide +kernel
theorem dX5_countWays_27 : decode cX5_countWays 27 = .ok (.goto (-25), 3) := by decide +kernel
theorem dX5_countWays_30 : decode cX5_countWays 30 = .ok (.iconst 0, 1) := by decide +kernel
theorem dX5_countWays_31 : decode cX5_countWays 31 = .ok (.istore_n 3, 1) := by decide +kernel
theorem dX5_countWays_32 : decode cX5_countWays 32 = .ok (.iload_n 3, 1) := by decide +kernel
theorem dX5_countWays_33 : decode cX5_countWays 33 = .ok (.iload_n 2, 1) := by decide +kernel
theorem dX5_countWays_34 : decode cX5_countWays 34 = .ok (.if_icmp .ge 13, 3) := by decide +kernel
theorem dX5_countWays_37 : decode cX5_countWays 37 = .ok (.aload_n 0, 1) := by decide +kernel
theorem dX5_countWays_38 : decode cX5_countWays 38 = .ok (.invokevirtual 284, 3) := by decide +kernel
theorem dX5_countWays_41 : decode cX5_countWays 41 = .ok (.iinc 3 1, 3) := by decide +kernel
theorem dX5_countWays_44 : decode cX5_countWays 44 = .ok (.goto (-12), 3) := by decide +kernel
theorem dX5_countWays_47 : decode cX5_countWays 47 = .ok (.return_, 1) := by decide +kernel
theorem dX5_countWaysOn_0 : decode cX5_countWaysOn 0 = .ok (.iconst 0, 1) := by decide +kernel
theorem dX5_countWaysOn_1 : decode cX5_countWaysOn 1 = .ok (.istore_n 1, 1) := by decide +kernel
theorem dX5_countWaysOn_2 : decode cX5_countWaysOn 2 = .ok (.iload_n 1, 1) := by decide +kernel
theorem dX5_countWaysOn_3 : decode cX5_countWaysOn 3 = .ok (.bipush 8, 2) := by decide +kernel
theorem dX5_countWaysOn_5 : decode cX5_countWaysOn 5 = .ok (.if_icmp .ge 16, 3) := by decide +kernel
theorem dX5_countWaysOn_8 : decode cX5_countWaysOn 8 = .ok (.aload_n 0, 1) := by decide +kernel
theorem dX5_countWaysOn_9 : decode cX5_countWaysOn 9 = .ok (.getfield 47, 3) := by decide +kernel
theorem dX5_countWaysOn_12 : decode cX5_countWaysOn 12 = .ok (.iload_n 1, 1) := by decide +kernel
theorem dX5_countWaysOn_13 : decode cX5_countWaysOn 13 = .ok (.iconst 0, 1) := by decide +kernel
theorem dX5_countWaysOn_14 : decode cX5_countWaysOn 14 = .ok (.iastore, 1) := by decide +kernel
theorem dX5_countWaysOn_15 : decode cX5_countWaysOn 15 = .ok (.iinc 1 1, 3) := by decide +kernel
theorem dX5_countWaysOn_18 : decode cX5_countWaysOn 18 = .ok (.goto (-16), 3) := by decide +kernel
theorem dX5_countWaysOn_21 : decode cX5_countWaysOn 21 = .ok (.iconst 0, 1) := by decide +kernel
theorem dX5_countWaysOn_22 : decode cX5_countWaysOn 22 = .ok (.istore_n 1, 1) := by decide +kernel
theorem dX5_countWaysOn_23 : decode cX5_countWaysOn 23 = .ok (.iload_n 1, 1) := by decide +kernel
theorem dX5_countWaysOn_24 : decode cX5_countWaysOn 24 = .ok (.aload_n 0, 1) := by decide +kernel
theorem dX5_countWaysOn_25 : decode cX5_countWaysOn 25 = .ok (.getfield 10, 3) := by decide +kernel
theorem dX5_countWaysOn_28 : decode cX5_countWaysOn 28 = .ok (.getfield 87, 3) := by decide +kernel
theorem dX5_countWaysOn_31 : decode cX5_countWaysOn 31 = .ok (.if_icmp .ge 46, 3) := by decide +kernel
theorem dX5_countWaysOn_34 : decode cX5_countWaysOn 34 = .ok (.iconst 0, 1) := by decide +kernel
theorem dX5_countWaysOn_35 : decode cX5_countWaysOn 35 = .ok (.istore_n 2, 1) := by decide +kernel
theorem dX5_countWaysOn_36 : decode cX5_countWaysOn 36 = .ok (.iload_n 2, 1) := by decide +kernel
theorem dX5_countWaysOn_37 : decode cX5_countWaysOn 37 = .ok (.bipush 8, 2) := by decide +kernel
theorem dX5_countWaysOn_39 : decode cX5_countWaysOn 39 = .ok (.if_icmp .ge 32, 3) := by decide +kernel
theorem dX5_countWaysOn_42 : decode cX5_countWaysOn 42 = .ok (.aload_n 0, 1) := by decide +kernel
theorem dX5_countWaysOn_43 : decode cX5_countWaysOn 43 = .ok (.getfield 47, 3) := by decide +kernel
theorem dX5_countWaysOn_46 : decode cX5_countWaysOn 46 = .ok (.aload_n 0, 1) := by decide +kernel
theorem dX5_countWaysOn_47 : decode cX5_countWaysOn 47 = .ok (.getfield 10, 3) := by decide +kernel
theorem dX5_countWaysOn_50 : decode cX5_countWaysOn 50 = .ok (.iload_n 1, 1) := by decide +kernel
theorem dX5_countWaysOn_51 : decode cX5_countWaysOn 51 = .ok (.iload_n 2, 1) := by decide +kernel
theorem dX5_countWaysOn_52 : decode cX5_countWaysOn 52 = .ok (.invokevirtual 118, 3) := by decide +kernel
theorem dX5_countWaysOn_55 : decode cX5_countWaysOn 55 = .ok (.dup2, 1) := by decide +kernel
theorem dX5_countWaysOn_56 : decode cX5_countWaysOn 56 = .ok (.iaload, 1) := by decide +kernel
theorem dX5_countWaysOn_57 : decode cX5_countWaysOn 57 = .ok (.aload_n 0, 1) := by decide +kernel
theorem dX5_countWaysOn_58 : decode cX5_countWaysOn 58 = .ok (.getfield 43, 3) := by decide +kernel
theorem dX5_countWaysOn_61 : decode cX5_countWaysOn 61 = .ok (.iload_n 2, 1) := by decide +kernel
theorem dX5_countWaysOn_62 : decode cX5_countWaysOn 62 = .ok (.iaload, 1) := by decide +kernel
theorem dX5_countWaysOn_63 : decode cX5_countWaysOn 63 = .ok (.iadd, 1) := by decide +kernel
theorem dX5_countWaysOn_64 : decode cX5_countWaysOn 64 = .ok (.iastore, 1) := by decide +kernel
theorem dX5_countWaysOn_65 : decode cX5_countWaysOn 65 = .ok (.iinc 2 1, 3) := by decide +kernel
theorem dX5_countWaysOn_68 : decode cX5_countWaysOn 68 = .ok (.goto (-32), 3) := by decide +kernel
theorem dX5_countWaysOn_71 : decode cX5_countWaysOn 71 = .ok (.iinc 1 1, 3) := by decide +kernel
theorem dX5_countWaysOn_74 : decode cX5_countWaysOn 74 = .ok (.goto (-51), 3) := by decide +kernel
theorem dX5_countWaysOn_77 : decode cX5_countWaysOn 77 = .ok (.iconst 0, 1) := by decide +kernel
theorem dX5_countWaysOn_78 : decode cX5_countWaysOn 78 = .ok (.istore_n 1, 1) := by decide +kernel
theorem dX5_countWaysOn_79 : decode cX5_countWaysOn 79 = .ok (.iload_n 1, 1) := by decide +kernel
theorem dX5_countWaysOn_80 : decode cX5_countWaysOn 80 = .ok (.bipush 8, 2) := by decide +kernel
theorem dX5_countWaysOn_82 : decode cX5_countWaysOn 82 = .ok (.if_icmp .ge 21, 3) := by decide +kernel
theorem dX5_countWaysOn_85 : decode cX5_countWaysOn 85 = .ok (.aload_n 0, 1) := by decide +kernel
theorem dX5_countWaysOn_86 : decode cX5_countWaysOn 86 = .ok (.getfield 43, 3) := by decide +kernel
theorem dX5_countWaysOn_89 : decode cX5_countWaysOn 89 = .ok (.iload_n 1, 1) := by decide +kernel
theorem dX5_countWaysOn_90 : decode cX5_countWaysOn 90 = .ok (.aload_n 0, 1) := by decide +kernel
theorem dX5_countWaysOn_91 : decode cX5_countWaysOn 91 = .ok (.getfield 47, 3) := by decide +kernel
theorem dX5_countWaysOn_94 : decode cX5_countWaysOn 94 = .ok (.iload_n 1, 1) := by decide +kernel
theorem dX5_countWaysOn_95 : decode cX5_countWaysOn 95 = .ok (.iaload, 1) := by decide +kernel
theorem dX5_countWaysOn_96 : decode cX5_countWaysOn 96 = .ok (.iastore, 1) := by decide +kernel
theorem dX5_countWaysOn_97 : decode cX5_countWaysOn 97 = .ok (.iinc 1 1, 3) := by decide +kernel
theorem dX5_countWaysOn_100 : decode cX5_countWaysOn 100 = .ok (.goto (-21), 3) := by decide +kernel
theorem dX5_countWaysOn_103 : decode cX5_countWaysOn 103 = .ok (.return_, 1) := by decide +kernel
theorem dX5_isSeenAsTold_0 : decode cX5_isSeenAsTold 0 = .ok (.iconst 0, 1) := by decide +kernel
theorem dX5_isSeenAsTold_1 : decode cX5_isSeenAsTold 1 = .ok (.istore 6, 2) := by decide +kernel
theorem dX5_isSeenAsTold_3 : decode cX5_isSeenAsTold 3 = .ok (.iload 6, 2) := by decide +kernel
theorem dX5_isSeenAsTold_5 : decode cX5_isSeenAsTold 5 = .ok (.iload 5, 2) := by decide +kernel
theorem dX5_isSeenAsTold_7 : decode cX5_isSeenAsTold 7 = .ok (.if_icmp .ge 37, 3) := by decide +kernel
theorem dX5_isSeenAsTold_10 : decode cX5_isSeenAsTold 10 = .ok (.aload_n 0, 1) := by decide +kernel
theorem dX5_isSeenAsTold_11 : decode cX5_isSeenAsTold 11 = .ok (.getfield 32, 3) := by decide +kernel
theorem dX5_isSeenAsTold_14 : decode cX5_isSeenAsTold 14 = .ok (.iload_n 3, 1) := by decide +kernel
theorem dX5_isSeenAsTold_15 : decode cX5_isSeenAsTold 15 = .ok (.iload 4, 2) := by decide +kernel
theorem dX5_isSeenAsTold_17 : decode cX5_isSeenAsTold 17 = .ok (.iload 6, 2) := by decide +kernel
theorem dX5_isSeenAsTold_19 : decode cX5_isSeenAsTold 19 = .ok (.iadd, 1) := by decide +kernel
theorem dX5_isSeenAsTold_20 : decode cX5_isSeenAsTold 20 = .ok (.invokevirtual 287, 3) := by decide +kernel
theorem dX5_isSeenAsTold_23 : decode cX5_isSeenAsTold 23 = .ok (.iload_n 1, 1) := by decide +kernel
theorem dX5_isSeenAsTold_24 : decode cX5_isSeenAsTold 24 = .ok (.iload_n 2, 1) := by decide +kernel
theorem dX5_isSeenAsTold_25 : decode cX5_isSeenAsTold 25 = .ok (.iload 6, 2) := by decide +kernel
theorem dX5_isSeenAsTold_27 : decode cX5_isSeenAsTold 27 = .ok (.iadd, 1) := by decide +kernel
theorem dX5_isSeenAsTold_28 : decode cX5_isSeenAsTold 28 = .ok (.invokestatic 127, 3) := by decide +kernel
theorem dX5_isSeenAsTold_31 : decode cX5_isSeenAsTold 31 = .ok (.i2l, 1) := by decide +kernel
theorem dX5_isSeenAsTold_32 : decode cX5_isSeenAsTold 32 = .ok (.lcmp, 1) := by decide +kernel
theorem dX5_isSeenAsTold_33 : decode cX5_isSeenAsTold 33 = .ok (.ifCond .eq 5, 3) := by decide +kernel
theorem dX5_isSeenAsTold_36 : decode cX5_isSeenAsTold 36 = .ok (.iconst 0, 1) := by decide +kernel
theorem dX5_isSeenAsTold_37 : decode cX5_isSeenAsTold 37 = .ok (.ireturn, 1) := by decide +kernel
theorem dX5_isSeenAsTold_38 : decode cX5_isSeenAsTold 38 = .ok (.iinc 6 1, 3) := by decide +kernel
theorem dX5_isSeenAsTold_41 : decode cX5_isSeenAsTold 41 = .ok (.goto (-38), 3) := by decide +kernel
theorem dX5_isSeenAsTold_44 : decode cX5_isSeenAsTold 44 = .ok (.iconst 1, 1) := by decide +kernel
theorem dX5_isSeenAsTold_45 : decode cX5_isSeenAsTold 45 = .ok (.ireturn, 1) := by decide +kernel
theorem dX5_goesAsTold_0 : decode cX5_goesAsTold 0 = .ok (.aload_n 1, 1) := by decide +kernel
theorem dX5_goesAsTold_1 : decode cX5_goesAsTold 1 = .ok (.getfield 124, 3) := by decide +kernel
theorem dX5_goesAsTold_4 : decode cX5_goesAsTold 4 = .ok (.iload_n 2, 1) := by decide +kernel
theorem dX5_goesAsTold_5 : decode cX5_goesAsTold 5 = .ok (.iaload, 1) := by decide +kernel
theorem dX5_goesAsTold_6 : decode cX5_goesAsTold 6 = .ok (.istore 6, 2) := by decide +kernel
theorem dX5_goesAsTold_8 : decode cX5_goesAsTold 8 = .ok (.iconst 0, 1) := by decide +kernel
theorem dX5_goesAsTold_9 : decode cX5_goesAsTold 9 = .ok (.istore 7, 2) := by decide +kernel
theorem dX5_goesAsTold_11 : decode cX5_goesAsTold 11 = .ok (.iload 7, 2) := by decide +kernel
theorem dX5_goesAsTold_13 : decode cX5_goesAsTold 13 = .ok (.iload 5, 2) := by decide +kernel
theorem dX5_goesAsTold_15 : decode cX5_goesAsTold 15 = .ok (.if_icmp .ge 46, 3) := by decide +kernel
theorem dX5_goesAsTold_18 : decode cX5_goesAsTold 18 = .ok (.aload_n 1, 1) := by decide +kernel
theorem dX5_goesAsTold_19 : decode cX5_goesAsTold 19 = .ok (.iload 6, 2) := by decide +kernel
theorem dX5_goesAsTold_21 : decode cX5_goesAsTold 21 = .ok (.aload_n 1, 1) := by decide +kernel
theorem dX5_goesAsTold_22 : decode cX5_goesAsTold 22 = .ok (.getfield 154, 3) := by decide +kernel
theorem dX5_goesAsTold_25 : decode cX5_goesAsTold 25 = .ok (.iload 7, 2) := by decide +kernel
theorem dX5_goesAsTold_27 : decode cX5_goesAsTold 27 = .ok (.iadd, 1) := by decide +kernel
theorem dX5_goesAsTold_28 : decode cX5_goesAsTold 28 = .ok (.invokevirtual 203, 3) := by decide +kernel
theorem dX5_goesAsTold_31 : decode cX5_goesAsTold 31 = .ok (.istore 6, 2) := by decide +kernel
theorem dX5_goesAsTold_33 : decode cX5_goesAsTold 33 = .ok (.aload_n 0, 1) := by decide +kernel
theorem dX5_goesAsTold_34 : decode cX5_goesAsTold 34 = .ok (.getfield 32, 3) := by decide +kernel
theorem dX5_goesAsTold_37 : decode cX5_goesAsTold 37 = .ok (.iload_n 3, 1) := by decide +kernel
theorem dX5_goesAsTold_38 : decode cX5_goesAsTold 38 = .ok (.iload 4, 2) := by decide +kernel
theorem dX5_goesAsTold_40 : decode cX5_goesAsTold 40 = .ok (.iload 7, 2) := by decide +kernel
theorem dX5_goesAsTold_42 : decode cX5_goesAsTold 42 = .ok (.iadd, 1) := by decide +kernel
theorem dX5_goesAsTold_43 : decode cX5_goesAsTold 43 = .ok (.invokevirtual 287, 3) := by decide +kernel
theorem dX5_goesAsTold_46 : decode cX5_goesAsTold 46 = .ok (.iload 6, 2) := by decide +kernel
theorem dX5_goesAsTold_48 : decode cX5_goesAsTold 48 = .ok (.i2l, 1) := by decide +kernel
theorem dX5_goesAsTold_49 : decode cX5_goesAsTold 49 = .ok (.lcmp, 1) := by decide +kernel
theorem dX5_goesAsTold_50 : decode cX5_goesAsTold 50 = .ok (.ifCond .eq 5, 3) := by decide +kernel
theorem dX5_goesAsTold_53 : decode cX5_goesAsTold 53 = .ok (.iconst 0, 1) := by decide +kernel
theorem dX5_goesAsTold_54 : decode cX5_goesAsTold 54 = .ok (.ireturn, 1) := by decide +kernel
theorem dX5_goesAsTold_55 : decode cX5_goesAsTold 55 = .ok (.iinc 7 1, 3) := by decide +kernel
theorem dX5_goesAsTold_58 : decode cX5_goesAsTold 58 = .ok (.goto (-47), 3) := by decide +kernel
theorem dX5_goesAsTold_61 : decode cX5_goesAsTold 61 = .ok (.iconst 1, 1) := by decide +kernel
theorem dX5_goesAsTold_62 : decode cX5_goesAsTold 62 = .ok (.ireturn, 1) := by decide +kernel
theorem dX5_within_0 : decode cX5_within 0 = .ok (.iload_n 0, 1) := by decide +kernel
theorem dX5_within_1 : decode cX5_within 1 = .ok (.iload_n 1, 1) := by decide +kernel
theorem dX5_within_2 : decode cX5_within 2 = .ok (.if_icmp .lt 12, 3) := by decide +kernel
theorem dX5_within_5 : decode cX5_within 5 = .ok (.iload_n 0, 1) := by decide +kernel
theorem dX5_within_6 : decode cX5_within 6 = .ok (.iload_n 2, 1) := by decide +kernel
theorem dX5_within_7 : decode cX5_within 7 = .ok (.if_icmp .gt 7, 3) := by decide +kernel
theorem dX5_within_10 : decode cX5_within 10 = .ok (.iconst 1, 1) := by decide +kernel
theorem dX5_within_11 : decode cX5_within 11 = .ok (.goto 4, 3) := by decide +kernel
theorem dX5_within_14 : decode cX5_within 14 = .ok (.iconst 0, 1) := by decide +kernel
theorem dX5_within_15 : decode cX5_within 15 = .ok (.ireturn, 1) := by decide +kernel
theorem dX5_isPlace_0 : decode cX5_isPlace 0 = .ok (.iload_n 0, 1) := by decide +kernel
theorem dX5_isPlace_1 : decode cX5_isPlace 1 = .ok (.iconst 0, 1) := by decide +kernel
theorem dX5_isPlace_2 : decode cX5_isPlace 2 = .ok (.bipush 7, 2) := by decide +kernel
theorem dX5_isPlace_4 : decode cX5_isPlace 4 = .ok (.invokestatic 83, 3) := by decide +kernel
theorem dX5_isPlace_7 : decode cX5_isPlace 7 = .ok (.ireturn, 1) := by decide +kernel
theorem dX5_isSheet_0 : decode cX5_isSheet 0 = .ok (.iload_n 0, 1) := by decide +kernel
theorem dX5_isSheet_1 : decode cX5_isSheet 1 = .ok (.iconst 0, 1) := by decide +kernel
theorem dX5_isSheet_2 : decode cX5_isSheet 2 = .ok (.iconst 3, 1) := by decide +kernel
theorem dX5_isSheet_3 : decode cX5_isSheet 3 = .ok (.invokestatic 83, 3) := by decide +kernel
theorem dX5_isSheet_6 : decode cX5_isSheet 6 = .ok (.ireturn, 1) := by decide +kernel
theorem dX5_isLane_0 : decode cX5_isLane 0 = .ok (.iload_n 0, 1) := by decide +kernel
theorem dX5_isLane_1 : decode cX5_isLane 1 = .ok (.iconst 0, 1) := by decide +kernel
theorem dX5_isLane_2 : decode cX5_isLane 2 = .ok (.iconst 3, 1) := by decide +kernel
theorem dX5_isLane_3 : decode cX5_isLane 3 = .ok (.invokestatic 83, 3) := by decide +kernel
theorem dX5_isLane_6 : decode cX5_isLane 6 = .ok (.ireturn, 1) := by decide +kernel
theorem dX5_bitOf_0 : decode cX5_bitOf 0 = .ok (.iload_n 0, 1) := by decide +kernel
theorem dX5_bitOf_1 : decode cX5_bitOf 1 = .ok (.invokestatic 54, 3) := by decide +kernel
theorem dX5_bitOf_4 : decode cX5_bitOf 4 = .ok (.ifCond .eq 9, 3) := by decide +kernel
theorem dX5_bitOf_7 : decode cX5_bitOf 7 = .ok (.iconst 1, 1) := by decide +kernel
theorem dX5_bitOf_8 : decode cX5_bitOf 8 = .ok (.iload_n 0, 1) := by decide +kernel
theorem dX5_bitOf_9 : decode cX5_bitOf 9 = .ok (.ishl, 1) := by decide +kernel
theorem dX5_bitOf_10 : decode cX5_bitOf 10 = .ok (.goto 4, 3) := by decide +kernel
theorem dX5_bitOf_13 : decode cX5_bitOf 13 = .ok (.iconst 0, 1) := by decide +kernel
theorem dX5_bitOf_14 : decode cX5_bitOf 14 = .ok (.ireturn, 1) := by decide +kernel
theorem dX5_leftBy8_0 : decode cX5_leftBy8 0 = .ok (.iload_n 0, 1) := by decide +kernel
theorem dX5_leftBy8_1 : decode cX5_leftBy8 1 = .ok (.bipush 7, 2) := by decide +kernel
theorem dX5_leftBy8_3 : decode cX5_leftBy8 3 = .ok (.iand, 1) := by decide +kernel
theorem dX5_leftBy8_4 : decode cX5_leftBy8 4 = .ok (.ireturn, 1) := by decide +kernel
theorem dX5_holds_0 : decode cX5_holds 0 = .ok (.iload_n 0, 1) := by decide +kernel
theorem dX5_holds_1 : decode cX5_holds 1 = .ok (.iload_n 1, 1) := by decide +kernel
theorem dX5_holds_2 : decode cX5_holds 2 = .ok (.invokestatic 291, 3) := by decide +kernel
theorem dX5_holds_5 : decode cX5_holds 5 = .ok (.ishr, 1) := by decide +kernel
theorem dX5_holds_6 : decode cX5_holds 6 = .ok (.iconst 1, 1) := by decide +kernel
theorem dX5_holds_7 : decode cX5_holds 7 = .ok (.iand, 1) := by decide +kernel
theorem dX5_holds_8 : decode cX5_holds 8 = .ok (.ifCond .eq 7, 3) := by decide +kernel
theorem dX5_holds_11 : decode cX5_holds 11 = .ok (.iconst 1, 1) := by decide +kernel
theorem dX5_holds_12 : decode cX5_holds 12 = .ok (.goto 4, 3) := by decide +kernel
theorem dX5_holds_15 : decode cX5_holds 15 = .ok (.iconst 0, 1) := by decide +kernel
theorem dX5_holds_16 : decode cX5_holds 16 = .ok (.ireturn, 1) := by decide +kernel
theorem dX5_greatestCommon_0 : decode cX5_greatestCommon 0 = .ok (.iload_n 0, 1) := by decide +kernel
theorem dX5_greatestCommon_1 : decode cX5_greatestCommon 1 = .ok (.istore_n 2, 1) := by decide +kernel
theorem dX5_greatestCommon_2 : decode cX5_greatestCommon 2 = .ok (.iload_n 1, 1) := by decide +kernel
theorem dX5_greatestCommon_3 : decode cX5_greatestCommon 3 = .ok (.istore_n 3, 1) := by decide +kernel
theorem dX5_greatestCommon_4 : decode cX5_greatestCommon 4 = .ok (.iconst 0, 1) := by decide +kernel
theorem dX5_greatestCommon_5 : decode cX5_greatestCommon 5 = .ok (.istore 4, 2) := by decide +kernel
theorem dX5_greatestCommon_7 : decode cX5_greatestCommon 7 = .ok (.iload 4, 2) := by decide +kernel
theorem dX5_greatestCommon_9 : decode cX5_greatestCommon 9 = .ok (.bipush 64, 2) := by decide +kernel
theorem dX5_greatestCommon_11 : decode cX5_greatestCommon 11 = .ok (.if_icmp .ge 23, 3) := by decide +kernel
theorem dX5_greatestCommon_14 : decode cX5_greatestCommon 14 = .ok (.iload_n 3, 1) := by decide +kernel
theorem dX5_greatestCommon_15 : decode cX5_greatestCommon 15 = .ok (.ifCond .eq 19, 3) := by decide +kernel
theorem dX5_greatestCommon_18 : decode cX5_greatestCommon 18 = .ok (.iload_n 2, 1) := by decide +kernel
theorem dX5_greatestCommon_19 : decode cX5_greatestCommon 19 = .ok (.iload_n 3, 1) := by decide +kernel
theorem dX5_greatestCommon_20 : decode cX5_greatestCommon 20 = .ok (.irem, 1) := by decide +kernel
theorem dX5_greatestCommon_21 : decode cX5_greatestCommon 21 = .ok (.istore 5, 2) := by decide +kernel
theorem dX5_greatestCommon_23 : decode cX5_greatestCommon 23 = .ok (.iload_n 3, 1) := by decide +kernel
theorem dX5_greatestCommon_24 : decode cX5_greatestCommon 24 = .ok (.istore_n 2, 1) := by decide +kernel
theorem dX5_greatestCommon_25 : decode cX5_greatestCommon 25 = .ok (.iload 5, 2) := by decide +kernel
theorem dX5_greatestCommon_27 : decode cX5_greatestCommon 27 = .ok (.istore_n 3, 1) := by decide +kernel
theorem dX5_greatestCommon_28 : decode cX5_greatestCommon 28 = .ok (.iinc 4 1, 3) := by decide +kernel
theorem dX5_greatestCommon_31 : decode cX5_greatestCommon 31 = .ok (.goto (-24), 3) := by decide +kernel
theorem dX5_greatestCommon_34 : decode cX5_greatestCommon 34 = .ok (.iload_n 2, 1) := by decide +kernel
theorem dX5_greatestCommon_35 : decode cX5_greatestCommon 35 = .ok (.ireturn, 1) := by decide +kernel
theorem dX5_seenFrom_0 : decode cX5_seenFrom 0 = .ok (.iload_n 1, 1) := by decide +kernel
theorem dX5_seenFrom_1 : decode cX5_seenFrom 1 = .ok (.invokestatic 291, 3) := by decide +kernel
theorem dX5_seenFrom_4 : decode cX5_seenFrom 4 = .ok (.istore_n 2, 1) := by decide +kernel
theorem dX5_seenFrom_5 : decode cX5_seenFrom 5 = .ok (.iload_n 0, 1) := by decide +kernel
theorem dX5_seenFrom_6 : decode cX5_seenFrom 6 = .ok (.iload_n 2, 1) := by decide +kernel
theorem dX5_seenFrom_7 : decode cX5_seenFrom 7 = .ok (.ishr, 1) := by decide +kernel
theorem dX5_seenFrom_8 : decode cX5_seenFrom 8 = .ok (.iload_n 0, 1) := by decide +kernel
theorem dX5_seenFrom_9 : decode cX5_seenFrom 9 = .ok (.bipush 8, 2) := by decide +kernel
theorem dX5_seenFrom_11 : decode cX5_seenFrom 11 = .ok (.iload_n 2, 1) := by decide +kernel
theorem dX5_seenFrom_12 : decode cX5_seenFrom 12 = .ok (.isub, 1) := by decide +kernel
theorem dX5_seenFrom_13 : decode cX5_seenFrom 13 = .ok (.ishl, 1) := by decide +kernel
theorem dX5_seenFrom_14 : decode cX5_seenFrom 14 = .ok (.ior, 1) := by decide +kernel
theorem dX5_seenFrom_15 : decode cX5_seenFrom 15 = .ok (.istore_n 3, 1) := by decide +kernel
theorem dX5_seenFrom_16 : decode cX5_seenFrom 16 = .ok (.iload_n 3, 1) := by decide +kernel
theorem dX5_seenFrom_17 : decode cX5_seenFrom 17 = .ok (.bipush 14, 2) := by decide +kernel
theorem dX5_seenFrom_19 : decode cX5_seenFrom 19 = .ok (.iand, 1) := by decide +kernel
theorem dX5_seenFrom_20 : decode cX5_seenFrom 20 = .ok (.istore 4, 2) := by decide +kernel
theorem dX5_seenFrom_22 : decode cX5_seenFrom 22 = .ok (.iload_n 3, 1) := by decide +kernel
theorem dX5_seenFrom_23 : decode cX5_seenFrom 23 = .ok (.sipush 224, 3) := by decide +kernel
theorem dX5_seenFrom_26 : decode cX5_seenFrom 26 = .ok (.iand, 1) := by decide +kernel
theorem dX5_seenFrom_27 : decode cX5_seenFrom 27 = .ok (.istore 5, 2) := by decide +kernel
theorem dX5_seenFrom_29 : decode cX5_seenFrom 29 = .ok (.iload 4, 2) := by decide +kernel
theorem dX5_seenFrom_31 : decode cX5_seenFrom 31 = .ok (.iconst 1, 1) := by decide +kernel
theorem dX5_seenFrom_32 : decode cX5_seenFrom 32 = .ok (.ishl, 1) := by decide +kernel
theorem dX5_seenFrom_33 : decode cX5_seenFrom 33 = .ok (.iload 5, 2) := by decide +kernel
theorem dX5_seenFrom_35 : decode cX5_seenFrom 35 = .ok (.iconst 1, 1) := by decide +kernel
theorem dX5_seenFrom_36 : decode cX5_seenFrom 36 = .ok (.ishr, 1) := by decide +kernel
theorem dX5_seenFrom_37 : decode cX5_seenFrom 37 = .ok (.ior, 1) := by decide +kernel
theorem dX5_seenFrom_38 : decode cX5_seenFrom 38 = .ok (.istore 6, 2) := by decide +kernel
theorem dX5_seenFrom_40 : decode cX5_seenFrom 40 = .ok (.iload_n 3, 1) := by decide +kernel
theorem dX5_seenFrom_41 : decode cX5_seenFrom 41 = .ok (.iconst 1, 1) := by decide +kernel
theorem dX5_seenFrom_42 : decode cX5_seenFrom 42 = .ok (.iand, 1) := by decide +kernel
theorem dX5_seenFrom_43 : decode cX5_seenFrom 43 = .ok (.iload 4, 2) := by decide +kernel
theorem dX5_seenFrom_45 : decode cX5_seenFrom 45 = .ok (.ior, 1) := by decide +kernel
theorem dX5_seenFrom_46 : decode cX5_seenFrom 46 = .ok (.iload 5, 2) := by decide +kernel
theorem dX5_seenFrom_48 : decode cX5_seenFrom 48 = .ok (.ior, 1) := by decide +kernel
theorem dX5_seenFrom_49 : decode cX5_seenFrom 49 = .ok (.iload 6, 2) := by decide +kernel
theorem dX5_seenFrom_51 : decode cX5_seenFrom 51 = .ok (.iconst (-1), 1) := by decide +kernel
theorem dX5_seenFrom_52 : decode cX5_seenFrom 52 = .ok (.ixor, 1) := by decide +kernel
theorem dX5_seenFrom_53 : decode cX5_seenFrom 53 = .ok (.iand, 1) := by decide +kernel
theorem dX5_seenFrom_54 : decode cX5_seenFrom 54 = .ok (.invokestatic 179, 3) := by decide +kernel
theorem dX5_seenFrom_57 : decode cX5_seenFrom 57 = .ok (.ireturn, 1) := by decide +kernel
theorem dX5_span_0 : decode cX5_span 0 = .ok (.iconst 1, 1) := by decide +kernel
theorem dX5_span_1 : decode cX5_span 1 = .ok (.istore_n 1, 1) := by decide +kernel
theorem dX5_span_2 : decode cX5_span 2 = .ok (.iload_n 1, 1) := by decide +kernel
theorem dX5_span_3 : decode cX5_span 3 = .ok (.iconst 4, 1) := by decide +kernel
theorem dX5_span_4 : decode cX5_span 4 = .ok (.if_icmp .gt 43, 3) := by decide +kernel
theorem dX5_span_7 : decode cX5_span 7 = .ok (.iconst 0, 1) := by decide +kernel
theorem dX5_span_8 : decode cX5_span 8 = .ok (.istore_n 2, 1) := by decide +kernel
theorem dX5_span_9 : decode cX5_span 9 = .ok (.iload_n 2, 1) := by decide +kernel
theorem dX5_span_10 : decode cX5_span 10 = .ok (.bipush 8, 2) := by decide +kernel
theorem dX5_span_12 : decode cX5_span 12 = .ok (.if_icmp .ge 29, 3) := by decide +kernel
theorem dX5_span_15 : decode cX5_span 15 = .ok (.iload_n 0, 1) := by decide +kernel
theorem dX5_span_16 : decode cX5_span 16 = .ok (.iload_n 2, 1) := by decide +kernel
theorem dX5_span_17 : decode cX5_span 17 = .ok (.invokestatic 66, 3) := by decide +kernel
theorem dX5_span_20 : decode cX5_span 20 = .ok (.ifCond .eq 15, 3) := by decide +kernel
theorem dX5_span_23 : decode cX5_span 23 = .ok (.iload_n 0, 1) := by decide +kernel
theorem dX5_span_24 : decode cX5_span 24 = .ok (.iload_n 2, 1) := by decide +kernel
theorem dX5_span_25 : decode cX5_span 25 = .ok (.iload_n 1, 1) := by decide +kernel
theorem dX5_span_26 : decode cX5_span 26 = .ok (.iadd, 1) := by decide +kernel
theorem dX5_span_27 : decode cX5_span 27 = .ok (.invokestatic 66, 3) := by decide +kernel
theorem dX5_span_30 : decode cX5_span 30 = .ok (.ifCond .eq 5, 3) := by decide +kernel
theorem dX5_span_33 : decode cX5_span 33 = .ok (.iload_n 1, 1) := by decide +kernel
theorem dX5_span_34 : decode cX5_span 34 = .ok (.ireturn, 1) := by decide +kernel
theorem dX5_span_35 : decode cX5_span 35 = .ok (.iinc 2 1, 3) := by decide +kernel
theorem dX5_span_38 : decode cX5_span 38 = .ok (.goto (-29), 3) := by decide +kernel
theorem dX5_span_41 : decode cX5_span 41 = .ok (.iinc 1 1, 3) := by decide +kernel
theorem dX5_span_44 : decode cX5_span 44 = .ok (.goto (-42), 3) := by decide +kernel
theorem dX5_span_47 : decode cX5_span 47 = .ok (.iconst 0, 1) := by decide +kernel
theorem dX5_span_48 : decode cX5_span 48 = .ok (.ireturn, 1) := by decide +kernel
theorem dX5_lead_0 : decode cX5_lead 0 = .ok (.iload_n 2, 1) := by decide +kernel
theorem dX5_lead_1 : decode cX5_lead 1 = .ok (.iload_n 1, 1) := by decide +kernel
theorem dX5_lead_2 : decode cX5_lead 2 = .ok (.iadd, 1) := by decide +kernel
theorem dX5_lead_3 : decode cX5_lead 3 = .ok (.invokestatic 291, 3) := by decide +kernel
theorem dX5_lead_6 : decode cX5_lead 6 = .ok (.istore_n 3, 1) := by decide +kernel
theorem dX5_lead_7 : decode cX5_lead 7 = .ok (.iload_n 3, 1) := by decide +kernel
theorem dX5_lead_8 : decode cX5_lead 8 = .ok (.iload_n 1, 1) := by decide +kernel
theorem dX5_lead_9 : decode cX5_lead 9 = .ok (.iadd, 1) := by decide +kernel
theorem dX5_lead_10 : decode cX5_lead 10 = .ok (.invokestatic 291, 3) := by decide +kernel
theorem dX5_lead_13 : decode cX5_lead 13 = .ok (.istore 4, 2) := by decide +kernel
theorem dX5_lead_15 : decode cX5_lead 15 = .ok (.bipush 8, 2) := by decide +kernel
theorem dX5_lead_17 : decode cX5_lead 17 = .ok (.iload_n 2, 1) := by decide +kernel
theorem dX5_lead_18 : decode cX5_lead 18 = .ok (.isub, 1) := by decide +kernel
theorem dX5_lead_19 : decode cX5_lead 19 = .ok (.iload_n 1, 1) := by decide +kernel
theorem dX5_lead_20 : decode cX5_lead 20 = .ok (.iadd, 1) := by decide +kernel
theorem dX5_lead_21 : decode cX5_lead 21 = .ok (.invokestatic 291, 3) := by decide +kernel
theorem dX5_lead_24 : decode cX5_lead 24 = .ok (.istore 5, 2) := by decide +kernel
theorem dX5_lead_26 : decode cX5_lead 26 = .ok (.iload_n 0, 1) := by decide +kernel
theorem dX5_lead_27 : decode cX5_lead 27 = .ok (.tableswitch 50 0 3 #[29, 31, 34, 37], 29) := by decide +kernel
theorem dX5_lead_56 : decode cX5_lead 56 = .ok (.iload_n 3, 1) := by decide +kernel
theorem dX5_lead_57 : decode cX5_lead 57 = .ok (.ireturn, 1) := by decide +kernel
theorem dX5_lead_58 : decode cX5_lead 58 = .ok (.iload 4, 2) := by decide +kernel
theorem dX5_lead_60 : decode cX5_lead 60 = .ok (.ireturn, 1) := by decide +kernel
theorem dX5_lead_61 : decode cX5_lead 61 = .ok (.iload 5, 2) := by decide +kernel
theorem dX5_lead_63 : decode cX5_lead 63 = .ok (.ireturn, 1) := by decide +kernel
theorem dX5_lead_64 : decode cX5_lead 64 = .ok (.iload_n 2, 1) := by decide +kernel
theorem dX5_lead_65 : decode cX5_lead 65 = .ok (.iconst 2, 1) := by decide +kernel
theorem dX5_lead_66 : decode cX5_lead 66 = .ok (.irem, 1) := by decide +kernel
theorem dX5_lead_67 : decode cX5_lead 67 = .ok (.ifCond .ne 8, 3) := by decide +kernel
theorem dX5_lead_70 : decode cX5_lead 70 = .ok (.iload 4, 2) := by decide +kernel
theorem dX5_lead_72 : decode cX5_lead 72 = .ok (.goto 4, 3) := by decide +kernel
theorem dX5_lead_75 : decode cX5_lead 75 = .ok (.iload_n 2, 1) := by decide +kernel
theorem dX5_lead_76 : decode cX5_lead 76 = .ok (.ireturn, 1) := by decide +kernel
theorem dX5_lead_77 : decode cX5_lead 77 = .ok (.iload 5, 2) := by decide +kernel
theorem dX5_lead_79 : decode cX5_lead 79 = .ok (.iconst 4, 1) := by decide +kernel
theorem dX5_lead_80 : decode cX5_lead 80 = .ok (.irem, 1) := by decide +kernel
theorem dX5_lead_81 : decode cX5_lead 81 = .ok (.ifCond .ne 10, 3) := by decide +kernel
theorem dX5_lead_84 : decode cX5_lead 84 = .ok (.iconst 4, 1) := by decide +kernel
theorem dX5_lead_85 : decode cX5_lead 85 = .ok (.iload 5, 2) := by decide +kernel
theorem dX5_lead_87 : decode cX5_lead 87 = .ok (.isub, 1) := by decide +kernel
theorem dX5_lead_88 : decode cX5_lead 88 = .ok (.goto 5, 3) := by decide +kernel
theorem dX5_lead_91 : decode cX5_lead 91 = .ok (.iload 5, 2) := by decide +kernel
theorem dX5_lead_93 : decode cX5_lead 93 = .ok (.ireturn, 1) := by decide +kernel
