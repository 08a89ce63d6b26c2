theorem dX6_init_0 : decode cX6_init 0 = .ok (.aload_n 0, 1) := by decide +kernel
theorem dX6_init_1 : decode cX6_init 1 = .ok (.invokespecial 3, 3) := by decide +kernel
theorem dX6_init_4 : decode cX6_init 4 = .ok (.aload_n 0, 1) := by decide +kernel
theorem dX6_init_5 : decode cX6_init 5 = .ok (.iconst 0, 1) := by decide +kernel
theorem dX6_init_6 : decode cX6_init 6 = .ok (.iload_n 1, 1) := by decide +kernel
theorem dX6_init_7 : decode cX6_init 7 = .ok (.invokestatic 9, 3) := by decide +kernel
theorem dX6_init_10 : decode cX6_init 10 = .ok (.putfield 15, 3) := by decide +kernel
theorem dX6_init_13 : decode cX6_init 13 = .ok (.aload_n 0, 1) := by decide +kernel
theorem dX6_init_14 : decode cX6_init 14 = .ok (.aload_n 0, 1) := by decide +kernel
theorem dX6_init_15 : decode cX6_init 15 = .ok (.getfield 15, 3) := by decide +kernel
theorem dX6_init_18 : decode cX6_init 18 = .ok (.iconst 3, 1) := by decide +kernel
theorem dX6_init_19 : decode cX6_init 19 = .ok (.imul, 1) := by decide +kernel
theorem dX6_init_20 : decode cX6_init 20 = .ok (.newarray .int, 2) := by decide +kernel
theorem dX6_init_22 : decode cX6_init 22 = .ok (.putfield 21, 3) := by decide +kernel
theorem dX6_init_25 : decode cX6_init 25 = .ok (.return_, 1) := by decide +kernel
theorem dX6_has_0 : decode cX6_has 0 = .ok (.iload_n 1, 1) := by decide +kernel
theorem dX6_has_1 : decode cX6_has 1 = .ok (.ifCond .lt 15, 3) := by decide +kernel
theorem dX6_has_4 : decode cX6_has 4 = .ok (.iload_n 1, 1) := by decide +kernel
theorem dX6_has_5 : decode cX6_has 5 = .ok (.aload_n 0, 1) := by decide +kernel
theorem dX6_has_6 : decode cX6_has 6 = .ok (.getfield 25, 3) := by decide +kernel
theorem dX6_has_9 : decode cX6_has 9 = .ok (.if_icmp .ge 7, 3) := by decide +kernel
theorem dX6_has_12 : decode cX6_has 12 = .ok (.iconst 1, 1) := by decide +kernel
theorem dX6_has_13 : decode cX6_has 13 = .ok (.goto 4, 3) := by decide +kernel
theorem dX6_has_16 : decode cX6_has 16 = .ok (.iconst 0, 1) := by decide +kernel
theorem dX6_has_17 : decode cX6_has 17 = .ok (.ireturn, 1) := by decide +kernel
theorem dX6_number_0 : decode cX6_number 0 = .ok (.iload_n 1, 1) := by decide +kernel
theorem dX6_number_1 : decode cX6_number 1 = .ok (.ifCond .lt 33, 3) := by decide +kernel
theorem dX6_number_4 : decode cX6_number 4 = .ok (.iload_n 1, 1) := by decide +kernel
theorem dX6_number_5 : decode cX6_number 5 = .ok (.aload_n 0, 1) := by decide +kernel
theorem dX6_number_6 : decode cX6_number 6 = .ok (.getfield 25, 3) := by decide +kernel
theorem dX6_number_9 : decode cX6_number 9 = .ok (.if_icmp .ge 25, 3) := by decide +kernel
theorem dX6_number_12 : decode cX6_number 12 = .ok (.iload_n 2, 1) := by decide +kernel
theorem dX6_number_13 : decode cX6_number 13 = .ok (.ifCond .lt 21, 3) := by decide +kernel
theorem dX6_number_16 : decode cX6_number 16 = .ok (.iload_n 2, 1) := by decide +kernel
theorem dX6_number_17 : decode cX6_number 17 = .ok (.iconst 3, 1) := by decide +kernel
theorem dX6_number_18 : decode cX6_number 18 = .ok (.if_icmp .ge 16, 3) := by decide +kernel
theorem dX6_number_21 : decode cX6_number 21 = .ok (.aload_n 0, 1) := by decide +kernel
theorem dX6_number_22 : decode cX6_number 22 = .ok (.getfield 21, 3) := by decide +kernel
theorem dX6_number_25 : decode cX6_number 25 = .ok (.iload_n 1, 1) := by decide +kernel
theorem dX6_number_26 : decode cX6_number 26 = .ok (.iconst 3, 1) := by decide +kernel
theorem dX6_number_27 : decode cX6_number 27 = .ok (.imul, 1) := by decide +kernel
theorem dX6_number_28 : decode cX6_number 28 = .ok (.iload_n 2, 1) := by decide +kernel
theorem dX6_number_29 : decode cX6_number 29 = .ok (.iadd, 1) := by decide +kernel
theorem dX6_number_30 : decode cX6_number 30 = .ok (.iaload, 1) := by decide +kernel
theorem dX6_number_31 : decode cX6_number 31 = .ok (.goto 4, 3) := by decide +kernel
theorem dX6_number_34 : decode cX6_number 34 = .ok (.iconst (-1), 1) := by decide +kernel
theorem dX6_number_35 : decode cX6_number 35 = .ok (.ireturn, 1) := by decide +kernel
theorem dX6_add_0 : decode cX6_add 0 = .ok (.aload_n 0, 1) := by decide +kernel
theorem dX6_add_1 : decode cX6_add 1 = .ok (.getfield 25, 3) := by decide +kernel
theorem dX6_add_4 : decode cX6_add 4 = .ok (.aload_n 0, 1) := by decide +kernel
theorem dX6_add_5 : decode cX6_add 5 = .ok (.getfield 15, 3) := by decide +kernel
theorem dX6_add_8 : decode cX6_add 8 = .ok (.if_icmp .lt 5, 3) := by decide +kernel
theorem dX6_add_11 : decode cX6_add 11 = .ok (.iconst 0, 1) := by decide +kernel
theorem dX6_add_12 : decode cX6_add 12 = .ok (.ireturn, 1) := by decide +kernel
theorem dX6_add_13 : decode cX6_add 13 = .ok (.aload_n 0, 1) := by decide +kernel
theorem dX6_add_14 : decode cX6_add 14 = .ok (.getfield 21, 3) := by decide +kernel
theorem dX6_add_17 : decode cX6_add 17 = .ok (.aload_n 0, 1) := by decide +kernel
theorem dX6_add_18 : decode cX6_add 18 = .ok (.getfield 25, 3) := by decide +kernel
theorem dX6_add_21 : decode cX6_add 21 = .ok (.iconst 3, 1) := by decide +kernel
theorem dX6_add_22 : decode cX6_add 22 = .ok (.imul, 1) := by decide +kernel
theorem dX6_add_23 : decode cX6_add 23 = .ok (.iload_n 1, 1) := by decide +kernel
theorem dX6_add_24 : decode cX6_add 24 = .ok (.iastore, 1) := by decide +kernel
theorem dX6_add_25 : decode cX6_add 25 = .ok (.aload_n 0, 1) := by decide +kernel
theorem dX6_add_26 : decode cX6_add 26 = .ok (.getfield 21, 3) := by decide +kernel
theorem dX6_add_29 : decode cX6_add 29 = .ok (.aload_n 0, 1) := by decide +kernel
theorem dX6_add_30 : decode cX6_add 30 = .ok (.getfield 25, 3) := by decide +kernel
theorem dX6_add_33 : decode cX6_add 33 = .ok (.iconst 3, 1) := by decide +kernel
theorem dX6_add_34 : decode cX6_add 34 = .ok (.imul, 1) := by decide +kernel
theorem dX6_add_35 : decode cX6_add 35 = .ok (.iconst 1, 1) := by decide +kernel
theorem dX6_add_36 : decode cX6_add 36 = .ok (.iadd, 1) := by decide +kernel
theorem dX6_add_37 : decode cX6_add 37 = .ok (.iload_n 2, 1) := by decide +kernel
theorem dX6_add_38 : decode cX6_add 38 = .ok (.iastore, 1) := by decide +kernel
theorem dX6_add_39 : decode cX6_add 39 = .ok (.aload_n 0, 1) := by decide +kernel
theorem dX6_add_40 : decode cX6_add 40 = .ok (.getfield 21, 3) := by decide +kernel
theorem dX6_add_43 : decode cX6_add 43 = .ok (.aload_n 0, 1) := by decide +kernel
theorem dX6_add_44 : decode cX6_add 44 = .ok (.getfield 25, 3) := by decide +kernel
theorem dX6_add_47 : decode cX6_add 47 = .ok (.iconst 3, 1) := by decide +kernel
theorem dX6_add_48 : decode cX6_add 48 = .ok (.imul, 1) := by decide +kernel
theorem dX6_add_49 : decode cX6_add 49 = .ok (.iconst 2, 1) := by decide +kernel
theorem dX6_add_50 : decode cX6_add 50 = .ok (.iadd, 1) := by decide +kernel
theorem dX6_add_51 : decode cX6_add 51 = .ok (.iload_n 3, 1) := by decide +kernel
theorem dX6_add_52 : decode cX6_add 52 = .ok (.iastore, 1) := by decide +kernel
theorem dX6_add_53 : decode cX6_add 53 = .ok (.aload_n 0, 1) := by decide +kernel
theorem dX6_add_54 : decode cX6_add 54 = .ok (.dup, 1) := by decide +kernel
theorem dX6_add_55 : decode cX6_add 55 = .ok (.getfield 25, 3) := by decide +kernel
theorem dX6_add_58 : decode cX6_add 58 = .ok (.iconst 1, 1) := by decide +kernel
theorem dX6_add_59 : decode cX6_add 59 = .ok (.iadd, 1) := by decide +kernel
theorem dX6_add_60 : decode cX6_add 60 = .ok (.putfield 25, 3) := by decide +kernel
theorem dX6_add_63 : decode cX6_add 63 = .ok (.iconst 1, 1) := by decide +kernel
theorem dX6_add_64 : decode cX6_add 64 = .ok (.ireturn, 1) := by decide +kernel
theorem dX6_takeFrom_0 : decode cX6_takeFrom 0 = .ok (.aload_n 0, 1) := by decide +kernel
theorem dX6_takeFrom_1 : decode cX6_takeFrom 1 = .ok (.aload_n 0, 1) := by decide +kernel
theorem dX6_takeFrom_2 : decode cX6_takeFrom 2 = .ok (.getfield 15, 3) := by decide +kernel
theorem dX6_takeFrom_5 : decode cX6_takeFrom 5 = .ok (.aload_n 1, 1) := by decide +kernel
theorem dX6_takeFrom_6 : decode cX6_takeFrom 6 = .ok (.getfield 25, 3) := by decide +kernel
theorem dX6_takeFrom_9 : decode cX6_takeFrom 9 = .ok (.invokestatic 28, 3) := by decide +kernel
theorem dX6_takeFrom_12 : decode cX6_takeFrom 12 = .ok (.putfield 25, 3) := by decide +kernel
theorem dX6_takeFrom_15 : decode cX6_takeFrom 15 = .ok (.aload_n 1, 1) := by decide +kernel
theorem dX6_takeFrom_16 : decode cX6_takeFrom 16 = .ok (.getfield 21, 3) := by decide +kernel
theorem dX6_takeFrom_19 : decode cX6_takeFrom 19 = .ok (.iconst 0, 1) := by decide +kernel
theorem dX6_takeFrom_20 : decode cX6_takeFrom 20 = .ok (.aload_n 0, 1) := by decide +kernel
theorem dX6_takeFrom_21 : decode cX6_takeFrom 21 = .ok (.getfield 21, 3) := by decide +kernel
theorem dX6_takeFrom_24 : decode cX6_takeFrom 24 = .ok (.iconst 0, 1) := by decide +kernel
theorem dX6_takeFrom_25 : decode cX6_takeFrom 25 = .ok (.aload_n 0, 1) := by decide +kernel
theorem dX6_takeFrom_26 : decode cX6_takeFrom 26 = .ok (.getfield 25, 3) := by decide +kernel
theorem dX6_takeFrom_29 : decode cX6_takeFrom 29 = .ok (.iconst 3, 1) := by decide +kernel
theorem dX6_takeFrom_30 : decode cX6_takeFrom 30 = .ok (.imul, 1) := by decide +kernel
theorem dX6_takeFrom_31 : decode cX6_takeFrom 31 = .ok (.invokestatic 31, 3) := by decide +kernel
theorem dX6_takeFrom_34 : decode cX6_takeFrom 34 = .ok (.return_, 1) := by decide +kernel
theorem dX10_sort_0 : decode cX10_sort 0 = .ok (.aload_n 0, 1) := by decide +kernel
theorem dX10_sort_1 : decode cX10_sort 1 = .ok (.getfield 115, 3) := by decide +kernel
theorem dX10_sort_4 : decode cX10_sort 4 = .ok (.bipush 100, 2) := by decide +kernel
theorem dX10_sort_6 : decode cX10_sort 6 = .ok (.idiv, 1) := by decide +kernel
theorem dX10_sort_7 : decode cX10_sort 7 = .ok (.ireturn, 1) := by decide +kernel
theorem dX10_matter_0 : decode cX10_matter 0 = .ok (.aload_n 0, 1) := by decide +kernel
theorem dX10_matter_1 : decode cX10_matter 1 = .ok (.getfield 115, 3) := by decide +kernel
theorem dX10_matter_4 : decode cX10_matter 4 = .ok (.bipush 100, 2) := by decide +kernel
theorem dX10_matter_6 : decode cX10_matter 6 = .ok (.irem, 1) := by decide +kernel
theorem dX10_matter_7 : decode cX10_matter 7 = .ok (.ireturn, 1) := by decide +kernel
theorem dX10_bounds_0 : decode cX10_bounds 0 = .ok (.iload_n 1, 1) := by decide +kernel
theorem dX10_bounds_1 : decode cX10_bounds 1 = .ok (.ifCond .ne 8, 3) := by decide +kernel
theorem dX10_bounds_4 : decode cX10_bounds 4 = .ok (.aload_n 0, 1) := by decide +kernel
theorem dX10_bounds_5 : decode cX10_bounds 5 = .ok (.getfield 123, 3) := by decide +kernel
theorem dX10_bounds_8 : decode cX10_bounds 8 = .ok (.ireturn, 1) := by decide +kernel
theorem dX10_bounds_9 : decode cX10_bounds 9 = .ok (.iload_n 1, 1) := by decide +kernel
theorem dX10_bounds_10 : decode cX10_bounds 10 = .ok (.iconst 1, 1) := by decide +kernel
theorem dX10_bounds_11 : decode cX10_bounds 11 = .ok (.if_icmp .ne 10, 3) := by decide +kernel
theorem dX10_bounds_14 : decode cX10_bounds 14 = .ok (.aload_n 0, 1) := by decide +kernel
theorem dX10_bounds_15 : decode cX10_bounds 15 = .ok (.getfield 126, 3) := by decide +kernel
theorem dX10_bounds_18 : decode cX10_bounds 18 = .ok (.goto 16, 3) := by decide +kernel
theorem dX10_bounds_21 : decode cX10_bounds 21 = .ok (.iload_n 1, 1) := by decide +kernel
theorem dX10_bounds_22 : decode cX10_bounds 22 = .ok (.iconst 2, 1) := by decide +kernel
theorem dX10_bounds_23 : decode cX10_bounds 23 = .ok (.if_icmp .ne 10, 3) := by decide +kernel
theorem dX10_bounds_26 : decode cX10_bounds 26 = .ok (.aload_n 0, 1) := by decide +kernel
theorem dX10_bounds_27 : decode cX10_bounds 27 = .ok (.getfield 129, 3) := by decide +kernel
theorem dX10_bounds_30 : decode cX10_bounds 30 = .ok (.goto 4, 3) := by decide +kernel
theorem dX10_bounds_33 : decode cX10_bounds 33 = .ok (.iconst (-1), 1) := by decide +kernel
theorem dX10_bounds_34 : decode cX10_bounds 34 = .ok (.ireturn, 1) := by decide +kernel
theorem dX10_takesNumber_0 : decode cX10_takesNumber 0 = .ok (.aload_n 0, 1) := by decide +kernel
theorem dX10_takesNumber_1 : decode cX10_takesNumber 1 = .ok (.iload_n 1, 1) := by decide +kernel
theorem dX10_takesNumber_2 : decode cX10_takesNumber 2 = .ok (.invokevirtual 132, 3) := by decide +kernel
theorem dX10_takesNumber_5 : decode cX10_takesNumber 5 = .ok (.iconst (-1), 1) := by decide +kernel
theorem dX10_takesNumber_6 : decode cX10_takesNumber 6 = .ok (.if_icmp .eq 7, 3) := by decide +kernel
theorem dX10_takesNumber_9 : decode cX10_takesNumber 9 = .ok (.iconst 1, 1) := by decide +kernel
theorem dX10_takesNumber_10 : decode cX10_takesNumber 10 = .ok (.goto 4, 3) := by decide +kernel
theorem dX10_takesNumber_13 : decode cX10_takesNumber 13 = .ok (.iconst 0, 1) := by decide +kernel
theorem dX10_takesNumber_14 : decode cX10_takesNumber 14 = .ok (.ireturn, 1) := by decide +kernel
theorem dX10_allows_0 : decode cX10_allows 0 = .ok (.aload_n 0, 1) := by decide +kernel
theorem dX10_allows_1 : decode cX10_allows 1 = .ok (.iload_n 1, 1) := by decide +kernel
theorem dX10_allows_2 : decode cX10_allows 2 = .ok (.invokevirtual 132, 3) := by decide +kernel
theorem dX10_allows_5 : decode cX10_allows 5 = .ok (.istore_n 3, 1) := by decide +kernel
theorem dX10_allows_6 : decode cX10_allows 6 = .ok (.iload_n 2, 1) := by decide +kernel
theorem dX10_allows_7 : decode cX10_allows 7 = .ok (.iload_n 3, 1) := by decide +kernel
theorem dX10_allows_8 : decode cX10_allows 8 = .ok (.sipush 1000, 3) := by decide +kernel
theorem dX10_allows_11 : decode cX10_allows 11 = .ok (.idiv, 1) := by decide +kernel
theorem dX10_allows_12 : decode cX10_allows 12 = .ok (.if_icmp .lt 16, 3) := by decide +kernel
theorem dX10_allows_15 : decode cX10_allows 15 = .ok (.iload_n 2, 1) := by decide +kernel
theorem dX10_allows_16 : decode cX10_allows 16 = .ok (.iload_n 3, 1) := by decide +kernel
theorem dX10_allows_17 : decode cX10_allows 17 = .ok (.sipush 1000, 3) := by decide +kernel
theorem dX10_allows_20 : decode cX10_allows 20 = .ok (.irem, 1) := by decide +kernel
theorem dX10_allows_21 : decode cX10_allows 21 = .ok (.if_icmp .gt 7, 3) := by decide +kernel
theorem dX10_allows_24 : decode cX10_allows 24 = .ok (.iconst 1, 1) := by decide +kernel
theorem dX10_allows_25 : decode cX10_allows 25 = .ok (.goto 4, 3) := by decide +kernel
theorem dX10_allows_28 : decode cX10_allows 28 = .ok (.iconst 0, 1) := by decide +kernel
theorem dX10_allows_29 : decode cX10_allows 29 = .ok (.ireturn, 1) := by decide +kernel
theorem dX1_init_0 : decode cX1_init 0 = .ok (.aload_n 0, 1) := by decide +kernel
theorem dX1_init_1 : decode cX1_init 1 = .ok (.invokespecial 3, 3) := by decide +kernel
theorem dX1_init_4 : decode cX1_init 4 = .ok (.aload_n 0, 1) := by decide +kernel
theorem dX1_init_5 : decode cX1_init 5 = .ok (.bipush 11, 2) := by decide +kernel
theorem dX1_init_7 : decode cX1_init 7 = .ok (.newarray .int, 2) := by decide +kernel
theorem dX1_init_9 : decode cX1_init 9 = .ok (.putfield 11, 3) := by decide +kernel
theorem dX1_init_12 : decode cX1_init 12 = .ok (.aload_n 0, 1) := by decide +kernel
theorem dX1_init_13 : decode cX1_init 13 = .ok (.new 15, 3) := by decide +kernel
theorem dX1_init_16 : decode cX1_init 16 = .ok (.dup, 1) := by decide +kernel
theorem dX1_init_17 : decode cX1_init 17 = .ok (.bipush 20, 2) := by decide +kernel
theorem dX1_init_19 : decode cX1_init 19 = .ok (.invokespecial 17, 3) := by decide +kernel
theorem dX1_init_22 : decode cX1_init 22 = .ok (.putfield 20, 3) := by decide +kernel
theorem dX1_init_25 : decode cX1_init 25 = .ok (.aload_n 0, 1) := by decide +kernel
theorem dX1_init_26 : decode cX1_init 26 = .ok (.new 15, 3) := by decide +kernel
theorem dX1_init_29 : decode cX1_init 29 = .ok (.dup, 1) := by decide +kernel
theorem dX1_init_30 : decode cX1_init 30 = .ok (.bipush 12, 2) := by decide +kernel
theorem dX1_init_32 : decode cX1_init 32 = .ok (.invokespecial 17, 3) := by decide +kernel
theorem dX1_init_35 : decode cX1_init 35 = .ok (.putfield 24, 3) := by decide +kernel
theorem dX1_init_38 : decode cX1_init 38 = .ok (.aload_n 0, 1) := by decide +kernel
theorem dX1_init_39 : decode cX1_init 39 = .ok (.new 15, 3) := by decide +kernel
theorem dX1_init_42 : decode cX1_init 42 = .ok (.dup, 1) := by decide +kernel
theorem dX1_init_43 : decode cX1_init 43 = .ok (.bipush 6, 2) := by decide +kernel
theorem dX1_init_45 : decode cX1_init 45 = .ok (.invokespecial 17, 3) := by decide +kernel
theorem dX1_init_48 : decode cX1_init 48 = .ok (.putfield 27, 3) := by decide +kernel
theorem dX1_init_51 : decode cX1_init 51 = .ok (.aload_n 0, 1) := by decide +kernel
theorem dX1_init_52 : decode cX1_init 52 = .ok (.new 15, 3) := by decide +kernel
theorem dX1_init_55 : decode cX1_init 55 = .ok (.dup, 1) := by decide +kernel
theorem dX1_init_56 : decode cX1_init 56 = .ok (.iconst 5, 1) := by decide +kernel
theorem dX1_init_57 : decode cX1_init 57 = .ok (.invokespecial 17, 3) := by decide +kernel
theorem dX1_init_60 : decode cX1_init 60 = .ok (.putfield 30, 3) := by decide +kernel
theorem dX1_init_63 : decode cX1_init 63 = .ok (.aload_n 0, 1) := by decide +kernel
theorem dX1_init_64 : decode cX1_init 64 = .ok (.new 15, 3) := by decide +kernel
theorem dX1_init_67 : decode cX1_init 67 = .ok (.dup, 1) := by decide +kernel
theorem dX1_init_68 : decode cX1_init 68 = .ok (.iconst 4, 1) := by decide +kernel
theorem dX1_init_69 : decode cX1_init 69 = .ok (.invokespecial 17, 3) := by decide +kernel
theorem dX1_init_72 : decode cX1_init 72 = .ok (.putfield 33, 3) := by decide +kernel
theorem dX1_init_75 : decode cX1_init 75 = .ok (.aload_n 0, 1) := by decide +kernel
theorem dX1_init_76 : decode cX1_init 76 = .ok (.bipush 32, 2) := by decide +kernel
theorem dX1_init_78 : decode cX1_init 78 = .ok (.newarray .int, 2) := by decide +kernel
theorem dX1_init_80 : decode cX1_init 80 = .ok (.putfield 36, 3) := by decide +kernel
theorem dX1_init_83 : decode cX1_init 83 = .ok (.aload_n 0, 1) := by decide +kernel
theorem dX1_init_84 : decode cX1_init 84 = .ok (.iconst 2, 1) := by decide +kernel
theorem dX1_init_85 : decode cX1_init 85 = .ok (.newarray .int, 2) := by decide +kernel
theorem dX1_init_87 : decode cX1_init 87 = .ok (.putfield 39, 3) := by decide +kernel
theorem dX1_init_90 : decode cX1_init 90 = .ok (.aload_n 0, 1) := by decide +kernel
theorem dX1_init_91 : decode cX1_init 91 = .ok (.bipush 12, 2) := by decide +kernel
theorem dX1_init_93 : decode cX1_init 93 = .ok (.newarray .int, 2) := by decide +kernel
theorem dX1_init_95 : decode cX1_init 95 = .ok (.putfield 42, 3) := by decide +kernel
theorem dX1_init_98 : decode cX1_init 98 = .ok (.aload_n 0, 1) := by decide +kernel
theorem dX1_init_99 : decode cX1_init 99 = .ok (.invokevirtual 45, 3) := by decide +kernel
theorem dX1_init_102 : decode cX1_init 102 = .ok (.aload_n 0, 1) := by decide +kernel
theorem dX1_init_103 : decode cX1_init 103 = .ok (.invokevirtual 48, 3) := by decide +kernel
theorem dX1_init_106 : decode cX1_init 106 = .ok (.return_, 1) := by decide +kernel
theorem dX1_forget_0 : decode cX1_forget 0 = .ok (.getstatic 51, 3) := by decide +kernel
theorem dX1_forget_3 : decode cX1_forget 3 = .ok (.iconst 0, 1) := by decide +kernel
theorem dX1_forget_4 : decode cX1_forget 4 = .ok (.aload_n 0, 1) := by decide +kernel
theorem dX1_forget_5 : decode cX1_forget 5 = .ok (.getfield 11, 3) := by decide +kernel
theorem dX1_forget_8 : decode cX1_forget 8 = .ok (.iconst 0, 1) := by decide +kernel
theorem dX1_forget_9 : decode cX1_forget 9 = .ok (.bipush 11, 2) := by decide +kernel
theorem dX1_forget_11 : decode cX1_forget 11 = .ok (.invokestatic 54, 3) := by decide +kernel
theorem dX1_forget_14 : decode cX1_forget 14 = .ok (.aload_n 0, 1) := by decide +kernel
theorem dX1_forget_15 : decode cX1_forget 15 = .ok (.getfield 20, 3) := by decide +kernel
theorem dX1_forget_18 : decode cX1_forget 18 = .ok (.iconst 0, 1) := by decide +kernel
theorem dX1_forget_19 : decode cX1_forget 19 = .ok (.putfield 60, 3) := by decide +kernel
theorem dX1_forget_22 : decode cX1_forget 22 = .ok (.aload_n 0, 1) := by decide +kernel
theorem dX1_forget_23 : decode cX1_forget 23 = .ok (.getfield 24, 3) := by decide +kernel
theorem dX1_forget_26 : decode cX1_forget 26 = .ok (.iconst 0, 1) := by decide +kernel
theorem dX1_forget_27 : decode cX1_forget 27 = .ok (.putfield 60, 3) := by decide +kernel
theorem dX1_forget_30 : decode cX1_forget 30 = .ok (.aload_n 0, 1) := by decide +kernel
theorem dX1_forget_31 : decode cX1_forget 31 = .ok (.getfield 27, 3) := by decide +kernel
theorem dX1_forget_34 : decode cX1_forget 34 = .ok (.iconst 0, 1) := by decide +kernel
theorem dX1_forget_35 : decode cX1_forget 35 = .ok (.putfield 60, 3) := by decide +kernel
theorem dX1_forget_38 : decode cX1_forget 38 = .ok (.aload_n 0, 1) := by decide +kernel
theorem dX1_forget_39 : decode cX1_forget 39 = .ok (.getfield 30, 3) := by decide +kernel
theorem dX1_forget_42 : decode cX1_forget 42 = .ok (.iconst 0, 1) := by decide +kernel
theorem dX1_forget_43 : decode cX1_forget 43 = .ok (.putfield 60, 3) := by decide +kernel
theorem dX1_forget_46 : decode cX1_forget 46 = .ok (.aload_n 0, 1) := by decide +kernel
theorem dX1_forget_47 : decode cX1_forget 47 = .ok (.getfield 33, 3) := by decide +kernel
theorem dX1_forget_50 : decode cX1_forget 50 = .ok (.iconst 0, 1) := by decide +kernel
theorem dX1_forget_51 : decode cX1_forget 51 = .ok (.putfield 60, 3) := by decide +kernel
theorem dX1_forget_54 : decode cX1_forget 54 = .ok (.return_, 1) := by decide +kernel
theorem dX1_takeFrom_0 : decode cX1_takeFrom 0 = .ok (.aload_n 1, 1) := by decide +kernel
theorem dX1_takeFrom_1 : decode cX1_takeFrom 1 = .ok (.getfield 11, 3) := by decide +kernel
theorem dX1_takeFrom_4 : decode cX1_takeFrom 4 = .ok (.iconst 0, 1) := by decide +kernel
theorem dX1_takeFrom_5 : decode cX1_takeFrom 5 = .ok (.aload_n 0, 1) := by decide +kernel
theorem dX1_takeFrom_6 : decode cX1_takeFrom 6 = .ok (.getfield 11, 3) := by decide +kernel
theorem dX1_takeFrom_9 : decode cX1_takeFrom 9 = .ok (.iconst 0, 1) := by decide +kernel
theorem dX1_takeFrom_10 : decode cX1_takeFrom 10 = .ok (.bipush 11, 2) := by decide +kernel
theorem dX1_takeFrom_12 : decode cX1_takeFrom 12 = .ok (.invokestatic 54, 3) := by decide +kernel
theorem dX1_takeFrom_15 : decode cX1_takeFrom 15 = .ok (.aload_n 0, 1) := by decide +kernel
theorem dX1_takeFrom_16 : decode cX1_takeFrom 16 = .ok (.getfield 20, 3) := by decide +kernel
theorem dX1_takeFrom_19 : decode cX1_takeFrom 19 = .ok (.aload_n 1, 1) := by decide +kernel
theorem dX1_takeFrom_20 : decode cX1_takeFrom 20 = .ok (.getfield 20, 3) := by decide +kernel
theorem dX1_takeFrom_23 : decode cX1_takeFrom 23 = .ok (.invokevirtual 64, 3) := by decide +kernel
theorem dX1_takeFrom_26 : decode cX1_takeFrom 26 = .ok (.aload_n 0, 1) := by decide +kernel
theorem dX1_takeFrom_27 : decode cX1_takeFrom 27 = .ok (.getfield 24, 3) := by decide +kernel
theorem dX1_takeFrom_30 : decode cX1_takeFrom 30 = .ok (.aload_n 1, 1) := by decide +kernel
theorem dX1_takeFrom_31 : decode cX1_takeFrom 31 = .ok (.getfield 24, 3) := by decide +kernel
theorem dX1_takeFrom_34 : decode cX1_takeFrom 34 = .ok (.invokevirtual 64, 3) := by decide +kernel
theorem dX1_takeFrom_37 : decode cX1_takeFrom 37 = .ok (.aload_n 0, 1) := by decide +kernel
theorem dX1_takeFrom_38 : decode cX1_takeFrom 38 = .ok (.getfield 27, 3) := by decide +kernel
theorem dX1_takeFrom_41 : decode cX1_takeFrom 41 = .ok (.aload_n 1, 1) := by decide +kernel
theorem dX1_takeFrom_42 : decode cX1_takeFrom 42 = .ok (.getfield 27, 3) := by decide +kernel
theorem dX1_takeFrom_45 : decode cX1_takeFrom 45 = .ok (.invokevirtual 64, 3) := by decide +kernel
theorem dX1_takeFrom_48 : decode cX1_takeFrom 48 = .ok (.aload_n 0, 1) := by decide +kernel
theorem dX1_takeFrom_49 : decode cX1_takeFrom 49 = .ok (.getfield 30, 3) := by decide +kernel
theorem dX1_takeFrom_52 : decode cX1_takeFrom 52 = .ok (.aload_n 1, 1) := by decide +kernel
theorem dX1_takeFrom_53 : decode cX1_takeFrom 53 = .ok (.getfield 30, 3) := by decide +kernel
theorem dX1_takeFrom_56 : decode cX1_takeFrom 56 = .ok (.invokevirtual 64, 3) := by decide +kernel
theorem dX1_takeFrom_59 : decode cX1_takeFrom 59 = .ok (.aload_n 0, 1) := by decide +kernel
theorem dX1_takeFrom_60 : decode cX1_takeFrom 60 = .ok (.getfield 33, 3) := by decide +kernel
theorem dX1_takeFrom_63 : decode cX1_takeFrom 63 = .ok (.aload_n 1, 1) := by decide +kernel
theorem dX1_takeFrom_64 : decode cX1_takeFrom 64 = .ok (.getfield 33, 3) := by decide +kernel
theorem dX1_takeFrom_67 : decode cX1_takeFrom 67 = .ok (.invokevirtual 64, 3) := by decide +kernel
theorem dX1_takeFrom_70 : decode cX1_takeFrom 70 = .ok (.aload_n 0, 1) := by decide +kernel
theorem dX1_takeFrom_71 : decode cX1_takeFrom 71 = .ok (.invokevirtual 48, 3) := by decide +kernel
theorem dX1_takeFrom_74 : decode cX1_takeFrom 74 = .ok (.return_, 1) := by decide +kernel
theorem dX1_settle_0 : decode cX1_settle 0 = .ok (.aload_n 0, 1) := by decide +kernel
theorem dX1_settle_1 : decode cX1_settle 1 = .ok (.iconst 1, 1) := by decide +kernel
theorem dX1_settle_2 : decode cX1_settle 2 = .ok (.aload_n 0, 1) := by decide +kernel
theorem dX1_settle_3 : decode cX1_settle 3 = .ok (.getfield 11, 3) := by decide +kernel
theorem dX1_settle_6 : decode cX1_settle 6 = .ok (.iconst 2, 1) := by decide +kernel
theorem dX1_settle_7 : decode cX1_settle 7 = .ok (.iaload, 1) := by decide +kernel
theorem dX1_settle_8 : decode cX1_settle 8 = .ok (.invokestatic 68, 3) := by decide +kernel
theorem dX1_settle_11 : decode cX1_settle 11 = .ok (.putfield 74, 3) := by decide +kernel
theorem dX1_settle_14 : decode cX1_settle 14 = .ok (.aload_n 0, 1) := by decide +kernel
theorem dX1_settle_15 : decode cX1_settle 15 = .ok (.iconst 1, 1) := by decide +kernel
theorem dX1_settle_16 : decode cX1_settle 16 = .ok (.aload_n 0, 1) := by decide +kernel
theorem dX1_settle_17 : decode cX1_settle 17 = .ok (.getfield 11, 3) := by decide +kernel
theorem dX1_settle_20 : decode cX1_settle 20 = .ok (.iconst 3, 1) := by decide +kernel
theorem dX1_settle_21 : decode cX1_settle 21 = .ok (.iaload, 1) := by decide +kernel
theorem dX1_settle_22 : decode cX1_settle 22 = .ok (.invokestatic 68, 3) := by decide +kernel
theorem dX1_settle_25 : decode cX1_settle 25 = .ok (.putfield 77, 3) := by decide +kernel
theorem dX1_settle_28 : decode cX1_settle 28 = .ok (.iconst 0, 1) := by decide +kernel
theorem dX1_settle_29 : decode cX1_settle 29 = .ok (.istore_n 1, 1) := by decide +kernel
theorem dX1_settle_30 : decode cX1_settle 30 = .ok (.iload_n 1, 1) := by decide +kernel
theorem dX1_settle_31 : decode cX1_settle 31 = .ok (.bipush 16, 2) := by decide +kernel
theorem dX1_settle_33 : decode cX1_settle 33 = .ok (.if_icmp .ge 54, 3) := by decide +kernel
theorem dX1_settle_36 : decode cX1_settle 36 = .ok (.aload_n 0, 1) := by decide +kernel
theorem dX1_settle_37 : decode cX1_settle 37 = .ok (.getfield 36, 3) := by decide +kernel
theorem dX1_settle_40 : decode cX1_settle 40 = .ok (.iload_n 1, 1) := by decide +kernel
theorem dX1_settle_41 : decode cX1_settle 41 = .ok (.iconst 2, 1) := by decide +kernel
theorem dX1_settle_42 : decode cX1_settle 42 = .ok (.iload_n 1, 1) := by decide +kernel
theorem dX1_settle_43 : decode cX1_settle 43 = .ok (.aload_n 0, 1) := by decide +kernel
theorem dX1_settle_44 : decode cX1_settle 44 = .ok (.getfield 74, 3) := by decide +kernel
theorem dX1_settle_47 : decode cX1_settle 47 = .ok (.irem, 1) := by decide +kernel
theorem dX1_settle_48 : decode cX1_settle 48 = .ok (.imul, 1) := by decide +kernel
theorem dX1_settle_49 : decode cX1_settle 49 = .ok (.iconst 1, 1) := by decide +kernel
theorem dX1_settle_50 : decode cX1_settle 50 = .ok (.iadd, 1) := by decide +kernel
theorem dX1_settle_51 : decode cX1_settle 51 = .ok (.aload_n 0, 1) := by decide +kernel
theorem dX1_settle_52 : decode cX1_settle 52 = .ok (.getfield 74, 3) := by decide +kernel
theorem dX1_settle_55 : decode cX1_settle 55 = .ok (.isub, 1) := by decide +kernel
theorem dX1_settle_56 : decode cX1_settle 56 = .ok (.iastore, 1) := by decide +kernel
theorem dX1_settle_57 : decode cX1_settle 57 = .ok (.aload_n 0, 1) := by decide +kernel
theorem dX1_settle_58 : decode cX1_settle 58 = .ok (.getfield 36, 3) := by decide +kernel
theorem dX1_settle_61 : decode cX1_settle 61 = .ok (.bipush 16, 2) := by decide +kernel
theorem dX1_settle_63 : decode cX1_settle 63 = .ok (.iload_n 1, 1) := by decide +kernel
theorem dX1_settle_64 : decode cX1_settle 64 = .ok (.iadd, 1) := by decide +kernel
theorem dX1_settle_65 : decode cX1_settle 65 = .ok (.iconst 2, 1) := by decide +kernel
theorem dX1_settle_66 : decode cX1_settle 66 = .ok (.iload_n 1, 1) := by decide +kernel
theorem dX1_settle_67 : decode cX1_settle 67 = .ok (.aload_n 0, 1) := by decide +kernel
theorem dX1_settle_68 : decode cX1_settle 68 = .ok (.getfield 74, 3) := by decide +kernel
theorem dX1_settle_71 : decode cX1_settle 71 = .ok (.idiv, 1) := by decide +kernel
theorem dX1_settle_72 : decode cX1_settle 72 = .ok (.imul, 1) := by decide +kernel
theorem dX1_settle_73 : decode cX1_settle 73 = .ok (.iconst 1, 1) := by decide +kernel
theorem dX1_settle_74 : decode cX1_settle 74 = .ok (.iadd, 1) := by decide +kernel
theorem dX1_settle_75 : decode cX1_settle 75 = .ok (.aload_n 0, 1) := by decide +kernel
theorem dX1_settle_76 : decode cX1_settle 76 = .ok (.getfield 77, 3) := by decide +kernel
theorem dX1_settle_79 : decode cX1_settle 79 = .ok (.isub, 1) := by decide +kernel
theorem dX1_settle_80 : decode cX1_settle 80 = .ok (.iastore, 1) := by decide +kernel
theorem dX1_settle_81 : decode cX1_settle 81 = .ok (.iinc 1 1, 3) := by decide +kernel
theorem dX1_settle_84 : decode cX1_settle 84 = .ok (.goto (-54), 3) := by decide +kernel
theorem dX1_settle_87 : decode cX1_settle 87 = .ok (.aload_n 0, 1) := by decide +kernel
theorem dX1_settle_88 : decode cX1_settle 88 = .ok (.getfield 39, 3) := by decide +kernel
theorem dX1_settle_91 : decode cX1_settle 91 = .ok (.iconst 0, 1) := by decide +kernel
theorem dX1_settle_92 : decode cX1_settle 92 = .ok (.iconst 0, 1) := by decide +kernel
theorem dX1_settle_93 : decode cX1_settle 93 = .ok (.iastore, 1) := by decide +kernel
theorem dX1_settle_94 : decode cX1_settle 94 = .ok (.aload_n 0, 1) := by decide +kernel
theorem dX1_settle_95 : decode cX1_settle 95 = .ok (.getfield 39, 3) := by decide +kernel
theorem dX1_settle_98 : decode cX1_settle 98 = .ok (.iconst 1, 1) := by decide +kernel
theorem dX1_settle_99 : decode cX1_settle 99 = .ok (.iconst 0, 1) := by decide +kernel
theorem dX1_settle_100 : decode cX1_settle 100 = .ok (.iastore, 1) := by decide +kernel
theorem dX1_settle_101 : decode cX1_settle 101 = .ok (.iconst 0, 1) := by decide +kernel
theorem dX1_settle_102 : decode cX1_settle 102 = .ok (.istore_n 1, 1) := by decide +kernel
theorem dX1_settle_103 : decode cX1_settle 103 = .ok (.iload_n 1, 1) := by decide +kernel
theorem dX1_settle_104 : decode cX1_settle 104 = .ok (.aload_n 0, 1) := by decide +kernel
theorem dX1_settle_105 : decode cX1_settle 105 = .ok (.getfield 24, 3) := by decide +kernel
theorem dX1_settle_108 : decode cX1_settle 108 = .ok (.getfield 60, 3) := by decide +kernel
theorem dX1_settle_111 : decode cX1_settle 111 = .ok (.if_icmp .ge 75, 3) := by decide +kernel
theorem dX1_settle_114 : decode cX1_settle 114 = .ok (.aload_n 0, 1) := by decide +kernel
theorem dX1_settle_115 : decode cX1_settle 115 = .ok (.getfield 39, 3) := by decide +kernel
theorem dX1_settle_118 : decode cX1_settle 118 = .ok (.iconst 0, 1) := by decide +kernel
theorem dX1_settle_119 : decode cX1_settle 119 = .ok (.dup2, 1) := by decide +kernel
theorem dX1_settle_120 : decode cX1_settle 120 = .ok (.iaload, 1) := by decide +kernel
theorem dX1_settle_121 : decode cX1_settle 121 = .ok (.aload_n 0, 1) := by decide +kernel
theorem dX1_settle_122 : decode cX1_settle 122 = .ok (.getfield 24, 3) := by decide +kernel
theorem dX1_settle_125 : decode cX1_settle 125 = .ok (.iload_n 1, 1) := by decide +kernel
theorem dX1_settle_126 : decode cX1_settle 126 = .ok (.iconst 1, 1) := by decide +kernel
theorem dX1_settle_127 : decode cX1_settle 127 = .ok (.invokevirtual 80, 3) := by decide +kernel
theorem dX1_settle_130 : decode cX1_settle 130 = .ok (.aload_n 0, 1) := by decide +kernel
theorem dX1_settle_131 : decode cX1_settle 131 = .ok (.aload_n 0, 1) := by decide +kernel
theorem dX1_settle_132 : decode cX1_settle 132 = .ok (.getfield 24, 3) := by decide +kernel
theorem dX1_settle_135 : decode cX1_settle 135 = .ok (.iload_n 1, 1) := by decide +kernel
theorem dX1_settle_136 : decode cX1_settle 136 = .ok (.iconst 0, 1) := by decide +kernel
theorem dX1_settle_137 : decode cX1_settle 137 = .ok (.invokevirtual 80, 3) := by decide +kernel
theorem dX1_settle_140 : decode cX1_settle 140 = .ok (.iconst 0, 1) := by decide +kernel
theorem dX1_settle_141 : decode cX1_settle 141 = .ok (.invokevirtual 83, 3) := by decide +kernel
theorem dX1_settle_144 : decode cX1_settle 144 = .ok (.imul, 1) := by decide +kernel
theorem dX1_settle_145 : decode cX1_settle 145 = .ok (.iadd, 1) := by decide +kernel
theorem dX1_settle_146 : decode cX1_settle 146 = .ok (.iastore, 1) := by decide +kernel
theorem dX1_settle_147 : decode cX1_settle 147 = .ok (.aload_n 0, 1) := by decide +kernel
theorem dX1_settle_148 : decode cX1_settle 148 = .ok (.getfield 39, 3) := by decide +kernel
theorem dX1_settle_151 : decode cX1_settle 151 = .ok (.iconst 1, 1) := by decide +kernel
theorem dX1_settle_152 : decode cX1_settle 152 = .ok (.dup2, 1) := by decide +kernel
theorem dX1_settle_153 : decode cX1_settle 153 = .ok (.iaload, 1) := by decide +kernel
theorem dX1_settle_154 : decode cX1_settle 154 = .ok (.aload_n 0, 1) := by decide +kernel
theorem dX1_settle_155 : decode cX1_settle 155 = .ok (.getfield 24, 3) := by decide +kernel
theorem dX1_settle_158 : decode cX1_settle 158 = .ok (.iload_n 1, 1) := by decide +kernel
theorem dX1_settle_159 : decode cX1_settle 159 = .ok (.iconst 1, 1) := by decide +kernel
theorem dX1_settle_160 : decode cX1_settle 160 = .ok (.invokevirtual 80, 3) := by decide +kernel
theorem dX1_settle_163 : decode cX1_settle 163 = .ok (.aload_n 0, 1) := by decide +kernel
theorem dX1_settle_164 : decode cX1_settle 164 = .ok (.aload_n 0, 1) := by decide +kernel
theorem dX1_settle_165 : decode cX1_settle 165 = .ok (.getfield 24, 3) := by decide +kernel
theorem dX1_settle_168 : decode cX1_settle 168 = .ok (.iload_n 1, 1) := by decide +kernel
theorem dX1_settle_169 : decode cX1_settle 169 = .ok (.iconst 0, 1) := by decide +kernel
theorem dX1_settle_170 : decode cX1_settle 170 = .ok (.invokevirtual 80, 3) := by decide +kernel
theorem dX1_settle_173 : decode cX1_settle 173 = .ok (.iconst 1, 1) := by decide +kernel
theorem dX1_settle_174 : decode cX1_settle 174 = .ok (.invokevirtual 83, 3) := by decide +kernel
theorem dX1_settle_177 : decode cX1_settle 177 = .ok (.imul, 1) := by decide +kernel
theorem dX1_settle_178 : decode cX1_settle 178 = .ok (.iadd, 1) := by decide +kernel
theorem dX1_settle_179 : decode cX1_settle 179 = .ok (.iastore, 1) := by decide +kernel
theorem dX1_settle_180 : decode cX1_settle 180 = .ok (.iinc 1 1, 3) := by decide +kernel
theorem dX1_settle_183 : decode cX1_settle 183 = .ok (.goto (-80), 3) := by decide +kernel
theorem dX1_settle_186 : decode cX1_settle 186 = .ok (.aload_n 0, 1) := by decide +kernel
theorem dX1_settle_187 : decode cX1_settle 187 = .ok (.iconst 0, 1) := by decide +kernel
theorem dX1_settle_188 : decode cX1_settle 188 = .ok (.putfield 86, 3) := by decide +kernel
theorem dX1_settle_191 : decode cX1_settle 191 = .ok (.iconst 0, 1) := by decide +kernel
theorem dX1_settle_192 : decode cX1_settle 192 = .ok (.istore_n 1, 1) := by decide +kernel
theorem dX1_settle_193 : decode cX1_settle 193 = .ok (.iload_n 1, 1) := by decide +kernel
theorem dX1_settle_194 : decode cX1_settle 194 = .ok (.aload_n 0, 1) := by decide +kernel
theorem dX1_settle_195 : decode cX1_settle 195 = .ok (.getfield 27, 3) := by decide +kernel
theorem dX1_settle_198 : decode cX1_settle 198 = .ok (.getfield 60, 3) := by decide +kernel
theorem dX1_settle_201 : decode cX1_settle 201 = .ok (.if_icmp .ge 27, 3) := by decide +kernel
theorem dX1_settle_204 : decode cX1_settle 204 = .ok (.aload_n 0, 1) := by decide +kernel
theorem dX1_settle_205 : decode cX1_settle 205 = .ok (.dup, 1) := by decide +kernel
theorem dX1_settle_206 : decode cX1_settle 206 = .ok (.getfield 86, 3) := by decide +kernel
theorem dX1_settle_209 : decode cX1_settle 209 = .ok (.aload_n 0, 1) := by decide +kernel
theorem dX1_settle_210 : decode cX1_settle 210 = .ok (.getfield 27, 3) := by decide +kernel
theorem dX1_settle_213 : decode cX1_settle 213 = .ok (.iload_n 1, 1) := by decide +kernel
theorem dX1_settle_214 : decode cX1_settle 214 = .ok (.iconst 0, 1) := by decide +kernel
theorem dX1_settle_215 : decode cX1_settle 215 = .ok (.invokevirtual 80, 3) := by decide +kernel
theorem dX1_settle_218 : decode cX1_settle 218 = .ok (.iadd, 1) := by decide +kernel
theorem dX1_settle_219 : decode cX1_settle 219 = .ok (.putfield 86, 3) := by decide +kernel
theorem dX1_settle_222 : decode cX1_settle 222 = .ok (.iinc 1 1, 3) := by decide +kernel
theorem dX1_settle_225 : decode cX1_settle 225 = .ok (.goto (-32), 3) := by decide +kernel
theorem dX1_settle_228 : decode cX1_settle 228 = .ok (.iconst 0, 1) := by decide +kernel
theorem dX1_settle_229 : decode cX1_settle 229 = .ok (.istore_n 1, 1) := by decide +kernel
theorem dX1_settle_230 : decode cX1_settle 230 = .ok (.iload_n 1, 1) := by decide +kernel
theorem dX1_settle_231 : decode cX1_settle 231 = .ok (.bipush 12, 2) := by decide +kernel
theorem dX1_settle_233 : decode cX1_settle 233 = .ok (.if_icmp .ge 16, 3) := by decide +kernel
theorem dX1_settle_236 : decode cX1_settle 236 = .ok (.aload_n 0, 1) := by decide +kernel
theorem dX1_settle_237 : decode cX1_settle 237 = .ok (.getfield 42, 3) := by decide +kernel
theorem dX1_settle_240 : decode cX1_settle 240 = .ok (.iload_n 1, 1) := by decide +kernel
theorem dX1_settle_241 : decode cX1_settle 241 = .ok (.iconst 0, 1) := by decide +kernel
theorem dX1_settle_242 : decode cX1_settle 242 = .ok (.iastore, 1) := by decide +kernel
theorem dX1_settle_243 : decode cX1_settle 243 = .ok (.iinc 1 1, 3) := by decide +kernel
theorem dX1_settle_246 : decode cX1_settle 246 = .ok (.goto (-16), 3) := by decide +kernel
theorem dX1_settle_249 : decode cX1_settle 249 = .ok (.iconst 0, 1) := by decide +kernel
theorem dX1_settle_250 : decode cX1_settle 250 = .ok (.istore_n 1, 1) := by decide +kernel
theorem dX1_settle_251 : decode cX1_settle 251 = .ok (.iload_n 1, 1) := by decide +kernel
theorem dX1_settle_252 : decode cX1_settle 252 = .ok (.aload_n 0, 1) := by decide +kernel
theorem dX1_settle_253 : decode cX1_settle 253 = .ok (.getfield 20, 3) := by decide +kernel
theorem dX1_settle_256 : decode cX1_settle 256 = .ok (.getfield 60, 3) := by decide +kernel
theorem dX1_settle_259 : decode cX1_settle 259 = .ok (.if_icmp .ge 49, 3) := by decide +kernel
theorem dX1_settle_262 : decode cX1_settle 262 = .ok (.aload_n 0, 1) := by decide +kernel
theorem dX1_settle_263 : decode cX1_settle 263 = .ok (.getfield 20, 3) := by decide +kernel
theorem dX1_settle_266 : decode cX1_settle 266 = .ok (.iload_n 1, 1) := by decide +kernel
theorem dX1_settle_267 : decode cX1_settle 267 = .ok (.iconst 1, 1) := by decide +kernel
theorem dX1_settle_268 : decode cX1_settle 268 = .ok (.invokevirtual 80, 3) := by decide +kernel
theorem dX1_settle_271 : decode cX1_settle 271 = .ok (.istore_n 2, 1) := by decide +kernel
theorem dX1_settle_272 : decode cX1_settle 272 = .ok (.iload_n 2, 1) := by decide +kernel
theorem dX1_settle_273 : decode cX1_settle 273 = .ok (.ifCond .lt 29, 3) := by decide +kernel
theorem dX1_settle_276 : decode cX1_settle 276 = .ok (.iload_n 2, 1) := by decide +kernel
theorem dX1_settle_277 : decode cX1_settle 277 = .ok (.bipush 12, 2) := by decide +kernel
theorem dX1_settle_279 : decode cX1_settle 279 = .ok (.if_icmp .ge 23, 3) := by decide +kernel
theorem dX1_settle_282 : decode cX1_settle 282 = .ok (.aload_n 0, 1) := by decide +kernel
theorem dX1_settle_283 : decode cX1_settle 283 = .ok (.getfield 42, 3) := by decide +kernel
theorem dX1_settle_286 : decode cX1_settle 286 = .ok (.iload_n 2, 1) := by decide +kernel
theorem dX1_settle_287 : decode cX1_settle 287 = .ok (.dup2, 1) := by decide +kernel
theorem dX1_settle_288 : decode cX1_settle 288 = .ok (.iaload, 1) := by decide +kernel
theorem dX1_settle_289 : decode cX1_settle 289 = .ok (.iconst 1, 1) := by decide +kernel
theorem dX1_settle_290 : decode cX1_settle 290 = .ok (.aload_n 0, 1) := by decide +kernel
theorem dX1_settle_291 : decode cX1_settle 291 = .ok (.getfield 20, 3) := by decide +kernel
theorem dX1_settle_294 : decode cX1_settle 294 = .ok (.iload_n 1, 1) := by decide +kernel
theorem dX1_settle_295 : decode cX1_settle 295 = .ok (.iconst 0, 1) := by decide +kernel
theorem dX1_settle_296 : decode cX1_settle 296 = .ok (.invokevirtual 80, 3) := by decide +kernel
theorem dX1_settle_299 : decode cX1_settle 299 = .ok (.ishl, 1) := by decide +kernel
theorem dX1_settle_300 : decode cX1_settle 300 = .ok (.ior, 1) := by decide +kernel
theorem dX1_settle_301 : decode cX1_settle 301 = .ok (.iastore, 1) := by decide +kernel
theorem dX1_settle_302 : decode cX1_settle 302 = .ok (.iinc 1 1, 3) := by decide +kernel
theorem dX1_settle_305 : decode cX1_settle 305 = .ok (.goto (-54), 3) := by decide +kernel
theorem dX1_settle_308 : decode cX1_settle 308 = .ok (.return_, 1) := by decide +kernel
theorem dX1_rowsOf_0 : decode cX1_rowsOf 0 = .ok (.iload_n 1, 1) := by decide +kernel
theorem dX1_rowsOf_1 : decode cX1_rowsOf 1 = .ok (.tableswitch 60 11 15 #[35, 40, 45, 50, 55], 35) := by decide +kernel
theorem dX1_rowsOf_36 : decode cX1_rowsOf 36 = .ok (.aload_n 0, 1) := by decide +kernel
theorem dX1_rowsOf_37 : decode cX1_rowsOf 37 = .ok (.getfield 20, 3) := by decide +kernel
theorem dX1_rowsOf_40 : decode cX1_rowsOf 40 = .ok (.areturn, 1) := by decide +kernel
theorem dX1_rowsOf_41 : decode cX1_rowsOf 41 = .ok (.aload_n 0, 1) := by decide +kernel
theorem dX1_rowsOf_42 : decode cX1_rowsOf 42 = .ok (.getfield 24, 3) := by decide +kernel
theorem dX1_rowsOf_45 : decode cX1_rowsOf 45 = .ok (.areturn, 1) := by decide +kernel
theorem dX1_rowsOf_46 : decode cX1_rowsOf 46 = .ok (.aload_n 0, 1) := by decide +kernel
theorem dX1_rowsOf_47 : decode cX1_rowsOf 47 = .ok (.getfield 27, 3) := by decide +kernel
theorem dX1_rowsOf_50 : decode cX1_rowsOf 50 = .ok (.areturn, 1) := by decide +kernel
theorem dX1_rowsOf_51 : decode cX1_rowsOf 51 = .ok (.aload_n 0, 1) := by decide +kernel
theorem dX1_rowsOf_52 : decode cX1_rowsOf 52 = .ok (.getfield 30, 3) := by decide +kernel
theorem dX1_rowsOf_55 : decode cX1_rowsOf 55 = .ok (.areturn, 1) := by decide +kernel
theorem dX1_rowsOf_56 : decode cX1_rowsOf 56 = .ok (.aload_n 0, 1) := by decide +kernel
theorem dX1_rowsOf_57 : decode cX1_rowsOf 57 = .ok (.getfield 33, 3) := by decide +kernel
theorem dX1_rowsOf_60 : decode cX1_rowsOf 60 = .ok (.areturn, 1) := by decide +kernel
theorem dX1_rowsOf_61 : decode cX1_rowsOf 61 = .ok (.aconst_null, 1) := by decide +kernel
theorem dX1_rowsOf_62 : decode cX1_rowsOf 62 = .ok (.areturn, 1) := by decide +kernel
theorem dX1_answer_0 : decode cX1_answer 0 = .ok (.iload_n 1, 1) := by decide +kernel
theorem dX1_answer_1 : decode cX1_answer 1 = .ok (.ifCond .ge 5, 3) := by decide +kernel
theorem dX1_answer_4 : decode cX1_answer 4 = .ok (.iconst (-1), 1) := by decide +kernel
theorem dX1_answer_5 : decode cX1_answer 5 = .ok (.ireturn, 1) := by decide +kernel
theorem dX1_answer_6 : decode cX1_answer 6 = .ok (.iload_n 1, 1) := by decide +kernel
theorem dX1_answer_7 : decode cX1_answer 7 = .ok (.bipush 11, 2) := by decide +kernel
theorem dX1_answer_9 : decode cX1_answer 9 = .ok (.if_icmp .ge 10, 3) := by decide +kernel
theorem dX1_answer_12 : decode cX1_answer 12 = .ok (.aload_n 0, 1) := by decide +kernel
theorem dX1_answer_13 : decode cX1_answer 13 = .ok (.getfield 11, 3) := by decide +kernel
theorem dX1_answer_16 : decode cX1_answer 16 = .ok (.iload_n 1, 1) := by decide +kernel
theorem dX1_answer_17 : decode cX1_answer 17 = .ok (.iaload, 1) := by decide +kernel
theorem dX1_answer_18 : decode cX1_answer 18 = .ok (.ireturn, 1) := by decide +kernel
theorem dX1_answer_19 : decode cX1_answer 19 = .ok (.iload_n 1, 1) := by decide +kernel
theorem dX1_answer_20 : decode cX1_answer 20 = .ok (.bipush 20, 2) := by decide +kernel
theorem dX1_answer_22 : decode cX1_answer 22 = .ok (.if_icmp .ge 22, 3) := by decide +kernel
theorem dX1_answer_25 : decode cX1_answer 25 = .ok (.aload_n 0, 1) := by decide +kernel
theorem dX1_answer_26 : decode cX1_answer 26 = .ok (.iload_n 1, 1) := by decide +kernel
theorem dX1_answer_27 : decode cX1_answer 27 = .ok (.invokevirtual 89, 3) := by decide +kernel
theorem dX1_answer_30 : decode cX1_answer 30 = .ok (.astore_n 2, 1) := by decide +kernel
theorem dX1_answer_31 : decode cX1_answer 31 = .ok (.aload_n 2, 1) := by decide +kernel
theorem dX1_answer_32 : decode cX1_answer 32 = .ok (.ifnonnull 7, 3) := by decide +kernel
theorem dX1_answer_35 : decode cX1_answer 35 = .ok (.iconst (-1), 1) := by decide +kernel
theorem dX1_answer_36 : decode cX1_answer 36 = .ok (.goto 7, 3) := by decide +kernel
theorem dX1_answer_39 : decode cX1_answer 39 = .ok (.aload_n 2, 1) := by decide +kernel
theorem dX1_answer_40 : decode cX1_answer 40 = .ok (.getfield 60, 3) := by decide +kernel
theorem dX1_answer_43 : decode cX1_answer 43 = .ok (.ireturn, 1) := by decide +kernel
theorem dX1_answer_44 : decode cX1_answer 44 = .ok (.iload_n 1, 1) := by decide +kernel
theorem dX1_answer_45 : decode cX1_answer 45 = .ok (.bipush 60, 2) := by decide +kernel
theorem dX1_answer_47 : decode cX1_answer 47 = .ok (.if_icmp .ge 37, 3) := by decide +kernel
theorem dX1_answer_50 : decode cX1_answer 50 = .ok (.iload_n 1, 1) := by decide +kernel
theorem dX1_answer_51 : decode cX1_answer 51 = .ok (.bipush 40, 2) := by decide +kernel
theorem dX1_answer_53 : decode cX1_answer 53 = .ok (.if_icmp .ge 18, 3) := by decide +kernel
theorem dX1_answer_56 : decode cX1_answer 56 = .ok (.aload_n 0, 1) := by decide +kernel
theorem dX1_answer_57 : decode cX1_answer 57 = .ok (.getfield 20, 3) := by decide +kernel
theorem dX1_answer_60 : decode cX1_answer 60 = .ok (.iload_n 1, 1) := by decide +kernel
theorem dX1_answer_61 : decode cX1_answer 61 = .ok (.bipush 20, 2) := by decide +kernel
theorem dX1_answer_63 : decode cX1_answer 63 = .ok (.isub, 1) := by decide +kernel
theorem dX1_answer_64 : decode cX1_answer 64 = .ok (.iconst 0, 1) := by decide +kernel
theorem dX1_answer_65 : decode cX1_answer 65 = .ok (.invokevirtual 80, 3) := by decide +kernel
theorem dX1_answer_68 : decode cX1_answer 68 = .ok (.goto 15, 3) := by decide +kernel
theorem dX1_answer_71 : decode cX1_answer 71 = .ok (.aload_n 0, 1) := by decide +kernel
theorem dX1_answer_72 : decode cX1_answer 72 = .ok (.getfield 20, 3) := by decide +kernel
theorem dX1_answer_75 : decode cX1_answer 75 = .ok (.iload_n 1, 1) := by decide +kernel
theorem dX1_answer_76 : decode cX1_answer 76 = .ok (.bipush 40, 2) := by decide +kernel
theorem dX1_answer_78 : decode cX1_answer 78 = .ok (.isub, 1) := by decide +kernel
theorem dX1_answer_79 : decode cX1_answer 79 = .ok (.iconst 1, 1) := by decide +kernel
theorem dX1_answer_80 : decode cX1_answer 80 = .ok (.invokevirtual 80, 3) := by decide +kernel
theorem dX1_answer_83 : decode cX1_answer 83 = .ok (.ireturn, 1) := by decide +kernel
theorem dX1_answer_84 : decode cX1_answer 84 = .ok (.iload_n 1, 1) := by decide +kernel
theorem dX1_answer_85 : decode cX1_answer 85 = .ok (.bipush 100, 2) := by decide +kernel
theorem dX1_answer_87 : decode cX1_answer 87 = .ok (.if_icmp .ge 37, 3) := by decide +kernel
theorem dX1_answer_90 : decode cX1_answer 90 = .ok (.iload_n 1, 1) := by decide +kernel
theorem dX1_answer_91 : decode cX1_answer 91 = .ok (.bipush 80, 2) := by decide +kernel
theorem dX1_answer_93 : decode cX1_answer 93 = .ok (.if_icmp .ge 18, 3) := by decide +kernel
theorem dX1_answer_96 : decode cX1_answer 96 = .ok (.aload_n 0, 1) := by decide +kernel
theorem dX1_answer_97 : decode cX1_answer 97 = .ok (.getfield 24, 3) := by decide +kernel
theorem dX1_answer_100 : decode cX1_answer 100 = .ok (.iload_n 1, 1) := by decide +kernel
theorem dX1_answer_101 : decode cX1_answer 101 = .ok (.bipush 60, 2) := by decide +kernel
theorem dX1_answer_103 : decode cX1_answer 103 = .ok (.isub, 1) := by decide +kernel
theorem dX1_answer_104 : decode cX1_answer 104 = .ok (.iconst 0, 1) := by decide +kernel
theorem dX1_answer_105 : decode cX1_answer 105 = .ok (.invokevirtual 80, 3) := by decide +kernel
theorem dX1_answer_108 : decode cX1_answer 108 = .ok (.goto 15, 3) := by decide +kernel
theorem dX1_answer_111 : decode cX1_answer 111 = .ok (.aload_n 0, 1) := by decide +kernel
theorem dX1_answer_112 : decode cX1_answer 112 = .ok (.getfield 24, 3) := by decide +kernel
theorem dX1_answer_115 : decode cX1_answer 115 = .ok (.iload_n 1, 1) := by decide +kernel
theorem dX1_answer_116 : decode cX1_answer 116 = .ok (.bipush 80, 2) := by decide +kernel
theorem dX1_answer_118 : decode cX1_answer 118 = .ok (.isub, 1) := by decide +kernel
theorem dX1_answer_119 : decode cX1_answer 119 = .ok (.iconst 1, 1) := by decide +kernel
theorem dX1_answer_120 : decode cX1_answer 120 = .ok (.invokevirtual 80, 3) := by decide +kernel
theorem dX1_answer_123 : decode cX1_answer 123 = .ok (.ireturn, 1) := by decide +kernel
theorem dX1_answer_124 : decode cX1_answer 124 = .ok (.iload_n 1, 1) := by decide +kernel
theorem dX1_answer_125 : decode cX1_answer 125 = .ok (.bipush 110, 2) := by decide +kernel
theorem dX1_answer_127 : decode cX1_answer 127 = .ok (.if_icmp .ge 16, 3) := by decide +kernel
theorem dX1_answer_130 : decode cX1_answer 130 = .ok (.aload_n 0, 1) := by decide +kernel
theorem dX1_answer_131 : decode cX1_answer 131 = .ok (.getfield 27, 3) := by decide +kernel
theorem dX1_answer_134 : decode cX1_answer 134 = .ok (.iload_n 1, 1) := by decide +kernel
theorem dX1_answer_135 : decode cX1_answer 135 = .ok (.bipush 100, 2) := by decide +kernel
theorem dX1_answer_137 : decode cX1_answer 137 = .ok (.isub, 1) := by decide +kernel
theorem dX1_answer_138 : decode cX1_answer 138 = .ok (.iconst 0, 1) := by decide +kernel
theorem dX1_answer_139 : decode cX1_answer 139 = .ok (.invokevirtual 80, 3) := by decide +kernel
theorem dX1_answer_142 : decode cX1_answer 142 = .ok (.ireturn, 1) := by decide +kernel
theorem dX1_answer_143 : decode cX1_answer 143 = .ok (.iload_n 1, 1) := by decide +kernel
theorem dX1_answer_144 : decode cX1_answer 144 = .ok (.sipush 140, 3) := by decide +kernel
theorem dX1_answer_147 : decode cX1_answer 147 = .ok (.if_icmp .ge 22, 3) := by decide +kernel
theorem dX1_answer_150 : decode cX1_answer 150 = .ok (.aload_n 0, 1) := by decide +kernel
theorem dX1_answer_151 : decode cX1_answer 151 = .ok (.getfield 30, 3) := by decide +kernel
theorem dX1_answer_154 : decode cX1_answer 154 = .ok (.iload_n 1, 1) := by decide +kernel
theorem dX1_answer_155 : decode cX1_answer 155 = .ok (.bipush 10, 2) := by decide +kernel
theorem dX1_answer_157 : decode cX1_answer 157 = .ok (.irem, 1) := by decide +kernel
theorem dX1_answer_158 : decode cX1_answer 158 = .ok (.iload_n 1, 1) := by decide +kernel
theorem dX1_answer_159 : decode cX1_answer 159 = .ok (.bipush 110, 2) := by decide +kernel
theorem dX1_answer_161 : decode cX1_answer 161 = .ok (.isub, 1) := by decide +kernel
theorem dX1_answer_162 : decode cX1_answer 162 = .ok (.bipush 10, 2) := by decide +kernel
theorem dX1_answer_164 : decode cX1_answer 164 = .ok (.idiv, 1) := by decide +kernel
theorem dX1_answer_165 : decode cX1_answer 165 = .ok (.invokevirtual 80, 3) := by decide +kernel
theorem dX1_answer_168 : decode cX1_answer 168 = .ok (.ireturn, 1) := by decide +kernel
theorem dX1_answer_169 : decode cX1_answer 169 = .ok (.iload_n 1, 1) := by decide +kernel
theorem dX1_answer_170 : decode cX1_answer 170 = .ok (.sipush 160, 3) := by decide +kernel
theorem dX1_answer_173 : decode cX1_answer 173 = .ok (.if_icmp .ge 25, 3) := by decide +kernel
theorem dX1_answer_176 : decode cX1_answer 176 = .ok (.aload_n 0, 1) := by decide +kernel
theorem dX1_answer_177 : decode cX1_answer 177 = .ok (.getfield 33, 3) := by decide +kernel
theorem dX1_answer_180 : decode cX1_answer 180 = .ok (.iload_n 1, 1) := by decide +kernel
theorem dX1_answer_181 : decode cX1_answer 181 = .ok (.bipush 10, 2) := by decide +kernel
theorem dX1_answer_183 : decode cX1_answer 183 = .ok (.irem, 1) := by decide +kernel
theorem dX1_answer_184 : decode cX1_answer 184 = .ok (.iload_n 1, 1) := by decide +kernel
theorem dX1_answer_185 : decode cX1_answer 185 = .ok (.sipush 140, 3) := by decide +kernel
theorem dX1_answer_188 : decode cX1_answer 188 = .ok (.isub, 1) := by decide +kernel
theorem dX1_answer_189 : decode cX1_answer 189 = .ok (.bipush 10, 2) := by decide +kernel
theorem dX1_answer_191 : decode cX1_answer 191 = .ok (.idiv, 1) := by decide +kernel
theorem dX1_answer_192 : decode cX1_answer 192 = .ok (.invokevirtual 80, 3) := by decide +kernel
theorem dX1_answer_195 : decode cX1_answer 195 = .ok (.goto 4, 3) := by decide +kernel
theorem dX1_answer_198 : decode cX1_answer 198 = .ok (.iconst (-1), 1) := by decide +kernel
theorem dX1_answer_199 : decode cX1_answer 199 = .ok (.ireturn, 1) := by decide +kernel
theorem dX1_lines_0 : decode cX1_lines 0 = .ok (.iload_n 1, 1) := by decide +kernel
theorem dX1_lines_1 : decode cX1_lines 1 = .ok (.ifCond .ne 10, 3) := by decide +kernel
theorem dX1_lines_4 : decode cX1_lines 4 = .ok (.aload_n 0, 1) := by decide +kernel
theorem dX1_lines_5 : decode cX1_lines 5 = .ok (.getfield 74, 3) := by decide +kernel
theorem dX1_lines_8 : decode cX1_lines 8 = .ok (.goto 7, 3) := by decide +kernel
theorem dX1_lines_11 : decode cX1_lines 11 = .ok (.aload_n 0, 1) := by decide +kernel
theorem dX1_lines_12 : decode cX1_lines 12 = .ok (.getfield 77, 3) := by decide +kernel
theorem dX1_lines_15 : decode cX1_lines 15 = .ok (.ireturn, 1) := by decide +kernel
theorem dX1_places_0 : decode cX1_places 0 = .ok (.aload_n 0, 1) := by decide +kernel
theorem dX1_places_1 : decode cX1_places 1 = .ok (.getfield 74, 3) := by decide +kernel
theorem dX1_places_4 : decode cX1_places 4 = .ok (.aload_n 0, 1) := by decide +kernel
theorem dX1_places_5 : decode cX1_places 5 = .ok (.getfield 77, 3) := by decide +kernel
theorem dX1_places_8 : decode cX1_places 8 = .ok (.imul, 1) := by decide +kernel
theorem dX1_places_9 : decode cX1_places 9 = .ok (.ireturn, 1) := by decide +kernel
theorem dX1_lineOf_0 : decode cX1_lineOf 0 = .ok (.aload_n 0, 1) := by decide +kernel
theorem dX1_lineOf_1 : decode cX1_lineOf 1 = .ok (.iload_n 1, 1) := by decide +kernel
theorem dX1_lineOf_2 : decode cX1_lineOf 2 = .ok (.iload_n 2, 1) := by decide +kernel
theorem dX1_lineOf_3 : decode cX1_lineOf 3 = .ok (.invokevirtual 83, 3) := by decide +kernel
theorem dX1_lineOf_6 : decode cX1_lineOf 6 = .ok (.aload_n 0, 1) := by decide +kernel
theorem dX1_lineOf_7 : decode cX1_lineOf 7 = .ok (.iload_n 2, 1) := by decide +kernel
theorem dX1_lineOf_8 : decode cX1_lineOf 8 = .ok (.invokevirtual 93, 3) := by decide +kernel
theorem dX1_lineOf_11 : decode cX1_lineOf 11 = .ok (.iadd, 1) := by decide +kernel
theorem dX1_lineOf_12 : decode cX1_lineOf 12 = .ok (.iconst 1, 1) := by decide +kernel
theorem dX1_lineOf_13 : decode cX1_lineOf 13 = .ok (.isub, 1) := by decide +kernel
theorem dX1_lineOf_14 : decode cX1_lineOf 14 = .ok (.iconst 2, 1) := by decide +kernel
theorem dX1_lineOf_15 : decode cX1_lineOf 15 = .ok (.idiv, 1) := by decide +kernel
theorem dX1_lineOf_16 : decode cX1_lineOf 16 = .ok (.ireturn, 1) := by decide +kernel
theorem dX1_arm_0 : decode cX1_arm 0 = .ok (.iload_n 1, 1) := by decide +kernel
theorem dX1_arm_1 : decode cX1_arm 1 = .ok (.ifCond .lt 29, 3) := by decide +kernel
theorem dX1_arm_4 : decode cX1_arm 4 = .ok (.iload_n 1, 1) := by decide +kernel
theorem dX1_arm_5 : decode cX1_arm 5 = .ok (.bipush 16, 2) := by decide +kernel
theorem dX1_arm_7 : decode cX1_arm 7 = .ok (.if_icmp .ge 23, 3) := by decide +kernel
theorem dX1_arm_10 : decode cX1_arm 10 = .ok (.aload_n 0, 1) := by decide +kernel
theorem dX1_arm_11 : decode cX1_arm 11 = .ok (.getfield 36, 3) := by decide +kernel
theorem dX1_arm_14 : decode cX1_arm 14 = .ok (.iload_n 2, 1) := by decide +kernel
theorem dX1_arm_15 : decode cX1_arm 15 = .ok (.ifCond .ne 7, 3) := by decide +kernel
theorem dX1_arm_18 : decode cX1_arm 18 = .ok (.iload_n 1, 1) := by decide +kernel
theorem dX1_arm_19 : decode cX1_arm 19 = .ok (.goto 7, 3) := by decide +kernel
theorem dX1_arm_22 : decode cX1_arm 22 = .ok (.bipush 16, 2) := by decide +kernel
theorem dX1_arm_24 : decode cX1_arm 24 = .ok (.iload_n 1, 1) := by decide +kernel
theorem dX1_arm_25 : decode cX1_arm 25 = .ok (.iadd, 1) := by decide +kernel
theorem dX1_arm_26 : decode cX1_arm 26 = .ok (.iaload, 1) := by decide +kernel
theorem dX1_arm_27 : decode cX1_arm 27 = .ok (.goto 4, 3) := by decide +kernel
theorem dX1_arm_30 : decode cX1_arm 30 = .ok (.iconst 0, 1) := by decide +kernel
theorem dX1_arm_31 : decode cX1_arm 31 = .ok (.ireturn, 1) := by decide +kernel
theorem dX1_graveList_0 : decode cX1_graveList 0 = .ok (.iload_n 1, 1) := by decide +kernel
theorem dX1_graveList_1 : decode cX1_graveList 1 = .ok (.ifCond .ne 12, 3) := by decide +kernel
theorem dX1_graveList_4 : decode cX1_graveList 4 = .ok (.aload_n 0, 1) := by decide +kernel
theorem dX1_graveList_5 : decode cX1_graveList 5 = .ok (.getfield 39, 3) := by decide +kernel
theorem dX1_graveList_8 : decode cX1_graveList 8 = .ok (.iconst 0, 1) := by decide +kernel
theorem dX1_graveList_9 : decode cX1_graveList 9 = .ok (.iaload, 1) := by decide +kernel
theorem dX1_graveList_10 : decode cX1_graveList 10 = .ok (.goto 9, 3) := by decide +kernel
theorem dX1_graveList_13 : decode cX1_graveList 13 = .ok (.aload_n 0, 1) := by decide +kernel
theorem dX1_graveList_14 : decode cX1_graveList 14 = .ok (.getfield 39, 3) := by decide +kernel
theorem dX1_graveList_17 : decode cX1_graveList 17 = .ok (.iconst 1, 1) := by decide +kernel
theorem dX1_graveList_18 : decode cX1_graveList 18 = .ok (.iaload, 1) := by decide +kernel
theorem dX1_graveList_19 : decode cX1_graveList 19 = .ok (.ireturn, 1) := by decide +kernel
theorem dX1_graveWeight_0 : decode cX1_graveWeight 0 = .ok (.iconst 0, 1) := by decide +kernel
theorem dX1_graveWeight_1 : decode cX1_graveWeight 1 = .ok (.istore_n 1, 1) := by decide +kernel
theorem dX1_graveWeight_2 : decode cX1_graveWeight 2 = .ok (.iconst 0, 1) := by decide +kernel
theorem dX1_graveWeight_3 : decode cX1_graveWeight 3 = .ok (.istore_n 2, 1) := by decide +kernel
theorem dX1_graveWeight_4 : decode cX1_graveWeight 4 = .ok (.iload_n 2, 1) := by decide +kernel
theorem dX1_graveWeight_5 : decode cX1_graveWeight 5 = .ok (.aload_n 0, 1) := by decide +kernel
theorem dX1_graveWeight_6 : decode cX1_graveWeight 6 = .ok (.getfield 24, 3) := by decide +kernel
theorem dX1_graveWeight_9 : decode cX1_graveWeight 9 = .ok (.getfield 60, 3) := by decide +kernel
theorem dX1_graveWeight_12 : decode cX1_graveWeight 12 = .ok (.if_icmp .ge 21, 3) := by decide +kernel
theorem dX1_graveWeight_15 : decode cX1_graveWeight 15 = .ok (.iload_n 1, 1) := by decide +kernel
theorem dX1_graveWeight_16 : decode cX1_graveWeight 16 = .ok (.aload_n 0, 1) := by decide +kernel
theorem dX1_graveWeight_17 : decode cX1_graveWeight 17 = .ok (.getfield 24, 3) := by decide +kernel
theorem dX1_graveWeight_20 : decode cX1_graveWeight 20 = .ok (.iload_n 2, 1) := by decide +kernel
theorem dX1_graveWeight_21 : decode cX1_graveWeight 21 = .ok (.iconst 1, 1) := by decide +kernel
theorem dX1_graveWeight_22 : decode cX1_graveWeight 22 = .ok (.invokevirtual 80, 3) := by decide +kernel
theorem dX1_graveWeight_25 : decode cX1_graveWeight 25 = .ok (.iadd, 1) := by decide +kernel
theorem dX1_graveWeight_26 : decode cX1_graveWeight 26 = .ok (.istore_n 1, 1) := by decide +kernel
theorem dX1_graveWeight_27 : decode cX1_graveWeight 27 = .ok (.iinc 2 1, 3) := by decide +kernel
theorem dX1_graveWeight_30 : decode cX1_graveWeight 30 = .ok (.goto (-26), 3) := by decide +kernel
theorem dX1_graveWeight_33 : decode cX1_graveWeight 33 = .ok (.iload_n 1, 1) := by decide +kernel
theorem dX1_graveWeight_34 : decode cX1_graveWeight 34 = .ok (.ireturn, 1) := by decide +kernel
theorem dX1_wreathSizes_0 : decode cX1_wreathSizes 0 = .ok (.aload_n 0, 1) := by decide +kernel
theorem dX1_wreathSizes_1 : decode cX1_wreathSizes 1 = .ok (.getfield 86, 3) := by decide +kernel
theorem dX1_wreathSizes_4 : decode cX1_wreathSizes 4 = .ok (.ireturn, 1) := by decide +kernel
theorem dX1_lean_0 : decode cX1_lean 0 = .ok (.iload_n 1, 1) := by decide +kernel
theorem dX1_lean_1 : decode cX1_lean 1 = .ok (.invokestatic 97, 3) := by decide +kernel
theorem dX1_lean_4 : decode cX1_lean 4 = .ok (.aload_n 0, 1) := by decide +kernel
theorem dX1_lean_5 : decode cX1_lean 5 = .ok (.getfield 11, 3) := by decide +kernel
theorem dX1_lean_8 : decode cX1_lean 8 = .ok (.bipush 6, 2) := by decide +kernel
theorem dX1_lean_10 : decode cX1_lean 10 = .ok (.iaload, 1) := by decide +kernel
theorem dX1_lean_11 : decode cX1_lean 11 = .ok (.if_icmp .gt 7, 3) := by decide +kernel
theorem dX1_lean_14 : decode cX1_lean 14 = .ok (.iconst 0, 1) := by decide +kernel
theorem dX1_lean_15 : decode cX1_lean 15 = .ok (.goto 7, 3) := by decide +kernel
theorem dX1_lean_18 : decode cX1_lean 18 = .ok (.iload_n 1, 1) := by decide +kernel
theorem dX1_lean_19 : decode cX1_lean 19 = .ok (.invokestatic 100, 3) := by decide +kernel
theorem dX1_lean_22 : decode cX1_lean 22 = .ok (.ireturn, 1) := by decide +kernel
theorem dX1_hasCell_0 : decode cX1_hasCell 0 = .ok (.iload_n 1, 1) := by decide +kernel
theorem dX1_hasCell_1 : decode cX1_hasCell 1 = .ok (.ifCond .lt 31, 3) := by decide +kernel
theorem dX1_hasCell_4 : decode cX1_hasCell 4 = .ok (.iload_n 1, 1) := by decide +kernel
theorem dX1_hasCell_5 : decode cX1_hasCell 5 = .ok (.aload_n 0, 1) := by decide +kernel
theorem dX1_hasCell_6 : decode cX1_hasCell 6 = .ok (.getfield 11, 3) := by decide +kernel
theorem dX1_hasCell_9 : decode cX1_hasCell 9 = .ok (.iconst 0, 1) := by decide +kernel
theorem dX1_hasCell_10 : decode cX1_hasCell 10 = .ok (.iaload, 1) := by decide +kernel
theorem dX1_hasCell_11 : decode cX1_hasCell 11 = .ok (.if_icmp .ge 21, 3) := by decide +kernel
theorem dX1_hasCell_14 : decode cX1_hasCell 14 = .ok (.iload_n 2, 1) := by decide +kernel
theorem dX1_hasCell_15 : decode cX1_hasCell 15 = .ok (.ifCond .lt 17, 3) := by decide +kernel
theorem dX1_hasCell_18 : decode cX1_hasCell 18 = .ok (.iload_n 2, 1) := by decide +kernel
theorem dX1_hasCell_19 : decode cX1_hasCell 19 = .ok (.aload_n 0, 1) := by decide +kernel
theorem dX1_hasCell_20 : decode cX1_hasCell 20 = .ok (.getfield 11, 3) := by decide +kernel
theorem dX1_hasCell_23 : decode cX1_hasCell 23 = .ok (.iconst 1, 1) := by decide +kernel
theorem dX1_hasCell_24 : decode cX1_hasCell 24 = .ok (.iaload, 1) := by decide +kernel
theorem dX1_hasCell_25 : decode cX1_hasCell 25 = .ok (.if_icmp .ge 7, 3) := by decide +kernel
theorem dX1_hasCell_28 : decode cX1_hasCell 28 = .ok (.iconst 1, 1) := by decide +kernel
theorem dX1_hasCell_29 : decode cX1_hasCell 29 = .ok (.goto 4, 3) := by decide +kernel
theorem dX1_hasCell_32 : decode cX1_hasCell 32 = .ok (.iconst 0, 1) := by decide +kernel
theorem dX1_hasCell_33 : decode cX1_hasCell 33 = .ok (.ireturn, 1) := by decide +kernel
theorem dX1_surrounds_0 : decode cX1_surrounds 0 = .ok (.iload_n 2, 1) := by decide +kernel
theorem dX1_surrounds_1 : decode cX1_surrounds 1 = .ok (.ifCond .lt 41, 3) := by decide +kernel
theorem dX1_surrounds_4 : decode cX1_surrounds 4 = .ok (.iload_n 3, 1) := by decide +kernel
theorem dX1_surrounds_5 : decode cX1_surrounds 5 = .ok (.ifCond .lt 37, 3) := by decide +kernel
theorem dX1_surrounds_8 : decode cX1_surrounds 8 = .ok (.iload_n 2, 1) := by decide +kernel
theorem dX1_surrounds_9 : decode cX1_surrounds 9 = .ok (.aload_n 1, 1) := by decide +kernel
theorem dX1_surrounds_10 : decode cX1_surrounds 10 = .ok (.getfield 74, 3) := by decide +kernel
theorem dX1_surrounds_13 : decode cX1_surrounds 13 = .ok (.iadd, 1) := by decide +kernel
theorem dX1_surrounds_14 : decode cX1_surrounds 14 = .ok (.aload_n 0, 1) := by decide +kernel
theorem dX1_surrounds_15 : decode cX1_surrounds 15 = .ok (.getfield 11, 3) := by decide +kernel
theorem dX1_surrounds_18 : decode cX1_surrounds 18 = .ok (.iconst 0, 1) := by decide +kernel
theorem dX1_surrounds_19 : decode cX1_surrounds 19 = .ok (.iaload, 1) := by decide +kernel
theorem dX1_surrounds_20 : decode cX1_surrounds 20 = .ok (.if_icmp .gt 22, 3) := by decide +kernel
theorem dX1_surrounds_23 : decode cX1_surrounds 23 = .ok (.iload_n 3, 1) := by decide +kernel
theorem dX1_surrounds_24 : decode cX1_surrounds 24 = .ok (.aload_n 1, 1) := by decide +kernel
theorem dX1_surrounds_25 : decode cX1_surrounds 25 = .ok (.getfield 77, 3) := by decide +kernel
theorem dX1_surrounds_28 : decode cX1_surrounds 28 = .ok (.iadd, 1) := by decide +kernel
theorem dX1_surrounds_29 : decode cX1_surrounds 29 = .ok (.aload_n 0, 1) := by decide +kernel
theorem dX1_surrounds_30 : decode cX1_surrounds 30 = .ok (.getfield 11, 3) := by decide +kernel
theorem dX1_surrounds_33 : decode cX1_surrounds 33 = .ok (.iconst 1, 1) := by decide +kernel
theorem dX1_surrounds_34 : decode cX1_surrounds 34 = .ok (.iaload, 1) := by decide +kernel
theorem dX1_surrounds_35 : decode cX1_surrounds 35 = .ok (.if_icmp .gt 7, 3) := by decide +kernel
theorem dX1_surrounds_38 : decode cX1_surrounds 38 = .ok (.iconst 1, 1) := by decide +kernel
theorem dX1_surrounds_39 : decode cX1_surrounds 39 = .ok (.goto 4, 3) := by decide +kernel
theorem dX1_surrounds_42 : decode cX1_surrounds 42 = .ok (.iconst 0, 1) := by decide +kernel
theorem dX1_surrounds_43 : decode cX1_surrounds 43 = .ok (.ireturn, 1) := by decide +kernel
theorem dX1_hasRockUnder_0 : decode cX1_hasRockUnder 0 = .ok (.iconst 1, 1) := by decide +kernel
theorem dX1_hasRockUnder_1 : decode cX1_hasRockUnder 1 = .ok (.aload_n 1, 1) := by decide +kernel
theorem dX1_hasRockUnder_2 : decode cX1_hasRockUnder 2 = .ok (.getfield 74, 3) := by decide +kernel
theorem dX1_hasRockUnder_5 : decode cX1_hasRockUnder 5 = .ok (.ishl, 1) := by decide +kernel
theorem dX1_hasRockUnder_6 : decode cX1_hasRockUnder 6 = .ok (.iconst 1, 1) := by decide +kernel
theorem dX1_hasRockUnder_7 : decode cX1_hasRockUnder 7 = .ok (.isub, 1) := by decide +kernel
theorem dX1_hasRockUnder_8 : decode cX1_hasRockUnder 8 = .ok (.iload_n 2, 1) := by decide +kernel
theorem dX1_hasRockUnder_9 : decode cX1_hasRockUnder 9 = .ok (.ishl, 1) := by decide +kernel
theorem dX1_hasRockUnder_10 : decode cX1_hasRockUnder 10 = .ok (.istore 4, 2) := by decide +kernel
theorem dX1_hasRockUnder_12 : decode cX1_hasRockUnder 12 = .ok (.iload_n 3, 1) := by decide +kernel
theorem dX1_hasRockUnder_13 : decode cX1_hasRockUnder 13 = .ok (.istore 5, 2) := by decide +kernel
theorem dX1_hasRockUnder_15 : decode cX1_hasRockUnder 15 = .ok (.iload 5, 2) := by decide +kernel
theorem dX1_hasRockUnder_17 : decode cX1_hasRockUnder 17 = .ok (.iload_n 3, 1) := by decide +kernel
theorem dX1_hasRockUnder_18 : decode cX1_hasRockUnder 18 = .ok (.aload_n 1, 1) := by decide +kernel
theorem dX1_hasRockUnder_19 : decode cX1_hasRockUnder 19 = .ok (.getfield 77, 3) := by decide +kernel
theorem dX1_hasRockUnder_22 : decode cX1_hasRockUnder 22 = .ok (.iadd, 1) := by decide +kernel
theorem dX1_hasRockUnder_23 : decode cX1_hasRockUnder 23 = .ok (.if_icmp .ge 36, 3) := by decide +kernel
theorem dX1_hasRockUnder_26 : decode cX1_hasRockUnder 26 = .ok (.iload 5, 2) := by decide +kernel
theorem dX1_hasRockUnder_28 : decode cX1_hasRockUnder 28 = .ok (.ifCond .lt 25, 3) := by decide +kernel
theorem dX1_hasRockUnder_31 : decode cX1_hasRockUnder 31 = .ok (.iload 5, 2) := by decide +kernel
theorem dX1_hasRockUnder_33 : decode cX1_hasRockUnder 33 = .ok (.bipush 12, 2) := by decide +kernel
theorem dX1_hasRockUnder_35 : decode cX1_hasRockUnder 35 = .ok (.if_icmp .ge 18, 3) := by decide +kernel
theorem dX1_hasRockUnder_38 : decode cX1_hasRockUnder 38 = .ok (.aload_n 0, 1) := by decide +kernel
theorem dX1_hasRockUnder_39 : decode cX1_hasRockUnder 39 = .ok (.getfield 42, 3) := by decide +kernel
theorem dX1_hasRockUnder_42 : decode cX1_hasRockUnder 42 = .ok (.iload 5, 2) := by decide +kernel
theorem dX1_hasRockUnder_44 : decode cX1_hasRockUnder 44 = .ok (.iaload, 1) := by decide +kernel
theorem dX1_hasRockUnder_45 : decode cX1_hasRockUnder 45 = .ok (.iload 4, 2) := by decide +kernel
theorem dX1_hasRockUnder_47 : decode cX1_hasRockUnder 47 = .ok (.iand, 1) := by decide +kernel
theorem dX1_hasRockUnder_48 : decode cX1_hasRockUnder 48 = .ok (.ifCond .eq 5, 3) := by decide +kernel
theorem dX1_hasRockUnder_51 : decode cX1_hasRockUnder 51 = .ok (.iconst 1, 1) := by decide +kernel
theorem dX1_hasRockUnder_52 : decode cX1_hasRockUnder 52 = .ok (.ireturn, 1) := by decide +kernel
theorem dX1_hasRockUnder_53 : decode cX1_hasRockUnder 53 = .ok (.iinc 5 1, 3) := by decide +kernel
theorem dX1_hasRockUnder_56 : decode cX1_hasRockUnder 56 = .ok (.goto (-41), 3) := by decide +kernel
theorem dX1_hasRockUnder_59 : decode cX1_hasRockUnder 59 = .ok (.iconst 0, 1) := by decide +kernel
theorem dX1_hasRockUnder_60 : decode cX1_hasRockUnder 60 = .ok (.ireturn, 1) := by decide +kernel
theorem dX1_floats_0 : decode cX1_floats 0 = .ok (.aload_n 0, 1) := by decide +kernel
theorem dX1_floats_1 : decode cX1_floats 1 = .ok (.aload_n 1, 1) := by decide +kernel
theorem dX1_floats_2 : decode cX1_floats 2 = .ok (.iload_n 2, 1) := by decide +kernel
theorem dX1_floats_3 : decode cX1_floats 3 = .ok (.iload_n 3, 1) := by decide +kernel
theorem dX1_floats_4 : decode cX1_floats 4 = .ok (.invokevirtual 105, 3) := by decide +kernel
theorem dX1_floats_7 : decode cX1_floats 7 = .ok (.ifCond .eq 17, 3) := by decide +kernel
theorem dX1_floats_10 : decode cX1_floats 10 = .ok (.aload_n 0, 1) := by decide +kernel
theorem dX1_floats_11 : decode cX1_floats 11 = .ok (.aload_n 1, 1) := by decide +kernel
theorem dX1_floats_12 : decode cX1_floats 12 = .ok (.iload_n 2, 1) := by decide +kernel
theorem dX1_floats_13 : decode cX1_floats 13 = .ok (.iload_n 3, 1) := by decide +kernel
theorem dX1_floats_14 : decode cX1_floats 14 = .ok (.invokevirtual 109, 3) := by decide +kernel
theorem dX1_floats_17 : decode cX1_floats 17 = .ok (.ifCond .ne 7, 3) := by decide +kernel
theorem dX1_floats_20 : decode cX1_floats 20 = .ok (.iconst 1, 1) := by decide +kernel
theorem dX1_floats_21 : decode cX1_floats 21 = .ok (.goto 4, 3) := by decide +kernel
theorem dX1_floats_24 : decode cX1_floats 24 = .ok (.iconst 0, 1) := by decide +kernel
theorem dX1_floats_25 : decode cX1_floats 25 = .ok (.ireturn, 1) := by decide +kernel
theorem dX1_wholeFault_0 : decode cX1_wholeFault 0 = .ok (.aload_n 0, 1) := by decide +kernel
theorem dX1_wholeFault_1 : decode cX1_wholeFault 1 = .ok (.aload_n 0, 1) := by decide +kernel
theorem dX1_wholeFault_2 : decode cX1_wholeFault 2 = .ok (.aload_n 0, 1) := by decide +kernel
theorem dX1_wholeFault_3 : decode cX1_wholeFault 3 = .ok (.getfield 11, 3) := by decide +kernel
theorem dX1_wholeFault_6 : decode cX1_wholeFault 6 = .ok (.iconst 4, 1) := by decide +kernel
theorem dX1_wholeFault_7 : decode cX1_wholeFault 7 = .ok (.iaload, 1) := by decide +kernel
theorem dX1_wholeFault_8 : decode cX1_wholeFault 8 = .ok (.aload_n 0, 1) := by decide +kernel
theorem dX1_wholeFault_9 : decode cX1_wholeFault 9 = .ok (.getfield 11, 3) := by decide +kernel
theorem dX1_wholeFault_12 : decode cX1_wholeFault 12 = .ok (.iconst 5, 1) := by decide +kernel
theorem dX1_wholeFault_13 : decode cX1_wholeFault 13 = .ok (.iaload, 1) := by decide +kernel
theorem dX1_wholeFault_14 : decode cX1_wholeFault 14 = .ok (.invokevirtual 105, 3) := by decide +kernel
theorem dX1_wholeFault_17 : decode cX1_wholeFault 17 = .ok (.ifCond .ne 5, 3) := by decide +kernel
theorem dX1_wholeFault_20 : decode cX1_wholeFault 20 = .ok (.iconst 4, 1) := by decide +kernel
theorem dX1_wholeFault_21 : decode cX1_wholeFault 21 = .ok (.ireturn, 1) := by decide +kernel
theorem dX1_wholeFault_22 : decode cX1_wholeFault 22 = .ok (.aload_n 0, 1) := by decide +kernel
theorem dX1_wholeFault_23 : decode cX1_wholeFault 23 = .ok (.aload_n 0, 1) := by decide +kernel
theorem dX1_wholeFault_24 : decode cX1_wholeFault 24 = .ok (.getfield 24, 3) := by decide +kernel
theorem dX1_wholeFault_27 : decode cX1_wholeFault 27 = .ok (.invokevirtual 112, 3) := by decide +kernel
theorem dX1_wholeFault_30 : decode cX1_wholeFault 30 = .ok (.ifCond .ne 14, 3) := by decide +kernel
theorem dX1_wholeFault_33 : decode cX1_wholeFault 33 = .ok (.aload_n 0, 1) := by decide +kernel
theorem dX1_wholeFault_34 : decode cX1_wholeFault 34 = .ok (.aload_n 0, 1) := by decide +kernel
theorem dX1_wholeFault_35 : decode cX1_wholeFault 35 = .ok (.getfield 33, 3) := by decide +kernel
theorem dX1_wholeFault_38 : decode cX1_wholeFault 38 = .ok (.invokevirtual 112, 3) := by decide +kernel
theorem dX1_wholeFault_41 : decode cX1_wholeFault 41 = .ok (.ifCond .eq 5, 3) := by decide +kernel
theorem dX1_wholeFault_44 : decode cX1_wholeFault 44 = .ok (.iconst 5, 1) := by decide +kernel
theorem dX1_wholeFault_45 : decode cX1_wholeFault 45 = .ok (.ireturn, 1) := by decide +kernel
theorem dX1_wholeFault_46 : decode cX1_wholeFault 46 = .ok (.iconst 0, 1) := by decide +kernel
theorem dX1_wholeFault_47 : decode cX1_wholeFault 47 = .ok (.istore_n 1, 1) := by decide +kernel
theorem dX1_wholeFault_48 : decode cX1_wholeFault 48 = .ok (.iload_n 1, 1) := by decide +kernel
theorem dX1_wholeFault_49 : decode cX1_wholeFault 49 = .ok (.aload_n 0, 1) := by decide +kernel
theorem dX1_wholeFault_50 : decode cX1_wholeFault 50 = .ok (.getfield 20, 3) := by decide +kernel
theorem dX1_wholeFault_53 : decode cX1_wholeFault 53 = .ok (.getfield 60, 3) := by decide +kernel
theorem dX1_wholeFault_56 : decode cX1_wholeFault 56 = .ok (.if_icmp .ge 37, 3) := by decide +kernel
theorem dX1_wholeFault_59 : decode cX1_wholeFault 59 = .ok (.aload_n 0, 1) := by decide +kernel
theorem dX1_wholeFault_60 : decode cX1_wholeFault 60 = .ok (.aload_n 0, 1) := by decide +kernel
theorem dX1_wholeFault_61 : decode cX1_wholeFault 61 = .ok (.getfield 20, 3) := by decide +kernel
theorem dX1_wholeFault_64 : decode cX1_wholeFault 64 = .ok (.iload_n 1, 1) := by decide +kernel
theorem dX1_wholeFault_65 : decode cX1_wholeFault 65 = .ok (.iconst 0, 1) := by decide +kernel
theorem dX1_wholeFault_66 : decode cX1_wholeFault 66 = .ok (.invokevirtual 80, 3) := by decide +kernel
theorem dX1_wholeFault_69 : decode cX1_wholeFault 69 = .ok (.aload_n 0, 1) := by decide +kernel
theorem dX1_wholeFault_70 : decode cX1_wholeFault 70 = .ok (.getfield 20, 3) := by decide +kernel
theorem dX1_wholeFault_73 : decode cX1_wholeFault 73 = .ok (.iload_n 1, 1) := by decide +kernel
theorem dX1_wholeFault_74 : decode cX1_wholeFault 74 = .ok (.iconst 1, 1) := by decide +kernel
theorem dX1_wholeFault_75 : decode cX1_wholeFault 75 = .ok (.invokevirtual 80, 3) := by decide +kernel
theorem dX1_wholeFault_78 : decode cX1_wholeFault 78 = .ok (.invokevirtual 116, 3) := by decide +kernel
theorem dX1_wholeFault_81 : decode cX1_wholeFault 81 = .ok (.ifCond .ne 6, 3) := by decide +kernel
theorem dX1_wholeFault_84 : decode cX1_wholeFault 84 = .ok (.bipush 6, 2) := by decide +kernel
theorem dX1_wholeFault_86 : decode cX1_wholeFault 86 = .ok (.ireturn, 1) := by decide +kernel
theorem dX1_wholeFault_87 : decode cX1_wholeFault 87 = .ok (.iinc 1 1, 3) := by decide +kernel
theorem dX1_wholeFault_90 : decode cX1_wholeFault 90 = .ok (.goto (-42), 3) := by decide +kernel
theorem dX1_wholeFault_93 : decode cX1_wholeFault 93 = .ok (.aload_n 0, 1) := by decide +kernel
theorem dX1_wholeFault_94 : decode cX1_wholeFault 94 = .ok (.aload_n 0, 1) := by decide +kernel
theorem dX1_wholeFault_95 : decode cX1_wholeFault 95 = .ok (.aload_n 0, 1) := by decide +kernel
theorem dX1_wholeFault_96 : decode cX1_wholeFault 96 = .ok (.getfield 11, 3) := by decide +kernel
theorem dX1_wholeFault_99 : decode cX1_wholeFault 99 = .ok (.iconst 4, 1) := by decide +kernel
theorem dX1_wholeFault_100 : decode cX1_wholeFault 100 = .ok (.iaload, 1) := by decide +kernel
theorem dX1_wholeFault_101 : decode cX1_wholeFault 101 = .ok (.aload_n 0, 1) := by decide +kernel
theorem dX1_wholeFault_102 : decode cX1_wholeFault 102 = .ok (.getfield 11, 3) := by decide +kernel
theorem dX1_wholeFault_105 : decode cX1_wholeFault 105 = .ok (.iconst 5, 1) := by decide +kernel
theorem dX1_wholeFault_106 : decode cX1_wholeFault 106 = .ok (.iaload, 1) := by decide +kernel
theorem dX1_wholeFault_107 : decode cX1_wholeFault 107 = .ok (.invokevirtual 109, 3) := by decide +kernel
theorem dX1_wholeFault_110 : decode cX1_wholeFault 110 = .ok (.ifCond .eq 8, 3) := by decide +kernel
theorem dX1_wholeFault_113 : decode cX1_wholeFault 113 = .ok (.bipush 6, 2) := by decide +kernel
theorem dX1_wholeFault_115 : decode cX1_wholeFault 115 = .ok (.goto 4, 3) := by decide +kernel
theorem dX1_wholeFault_118 : decode cX1_wholeFault 118 = .ok (.iconst 0, 1) := by decide +kernel
theorem dX1_wholeFault_119 : decode cX1_wholeFault 119 = .ok (.ireturn, 1) := by decide +kernel
theorem dX1_hasNoPlaceFor_0 : decode cX1_hasNoPlaceFor 0 = .ok (.iconst 0, 1) := by decide +kernel
theorem dX1_hasNoPlaceFor_1 : decode cX1_hasNoPlaceFor 1 = .ok (.istore_n 2, 1) := by decide +kernel
theorem dX1_hasNoPlaceFor_2 : decode cX1_hasNoPlaceFor 2 = .ok (.iload_n 2, 1) := by decide +kernel
theorem dX1_hasNoPlaceFor_3 : decode cX1_hasNoPlaceFor 3 = .ok (.aload_n 1, 1) := by decide +kernel
theorem dX1_hasNoPlaceFor_4 : decode cX1_hasNoPlaceFor 4 = .ok (.getfield 60, 3) := by decide +kernel
theorem dX1_hasNoPlaceFor_7 : decode cX1_hasNoPlaceFor 7 = .ok (.if_icmp .ge 24, 3) := by decide +kernel
theorem dX1_hasNoPlaceFor_10 : decode cX1_hasNoPlaceFor 10 = .ok (.aload_n 1, 1) := by decide +kernel
theorem dX1_hasNoPlaceFor_11 : decode cX1_hasNoPlaceFor 11 = .ok (.iload_n 2, 1) := by decide +kernel
theorem dX1_hasNoPlaceFor_12 : decode cX1_hasNoPlaceFor 12 = .ok (.iconst 0, 1) := by decide +kernel
theorem dX1_hasNoPlaceFor_13 : decode cX1_hasNoPlaceFor 13 = .ok (.invokevirtual 80, 3) := by decide +kernel
theorem dX1_hasNoPlaceFor_16 : decode cX1_hasNoPlaceFor 16 = .ok (.aload_n 0, 1) := by decide +kernel
theorem dX1_hasNoPlaceFor_17 : decode cX1_hasNoPlaceFor 17 = .ok (.invokevirtual 120, 3) := by decide +kernel
theorem dX1_hasNoPlaceFor_20 : decode cX1_hasNoPlaceFor 20 = .ok (.if_icmp .lt 5, 3) := by decide +kernel
theorem dX1_hasNoPlaceFor_23 : decode cX1_hasNoPlaceFor 23 = .ok (.iconst 1, 1) := by decide +kernel
theorem dX1_hasNoPlaceFor_24 : decode cX1_hasNoPlaceFor 24 = .ok (.ireturn, 1) := by decide +kernel
theorem dX1_hasNoPlaceFor_25 : decode cX1_hasNoPlaceFor 25 = .ok (.iinc 2 1, 3) := by decide +kernel
theorem dX1_hasNoPlaceFor_28 : decode cX1_hasNoPlaceFor 28 = .ok (.goto (-26), 3) := by decide +kernel
theorem dX1_hasNoPlaceFor_31 : decode cX1_hasNoPlaceFor 31 = .ok (.iconst 0, 1) := by decide +kernel
theorem dX1_hasNoPlaceFor_32 : decode cX1_hasNoPlaceFor 32 = .ok (.ireturn, 1) := by decide +kernel
theorem dX1_heaviestLine_0 : decode cX1_heaviestLine 0 = .ok (.iconst 0, 1) := by decide +kernel
theorem dX1_heaviestLine_1 : decode cX1_heaviestLine 1 = .ok (.istore_n 2, 1) := by decide +kernel
theorem dX1_heaviestLine_2 : decode cX1_heaviestLine 2 = .ok (.iconst (-1), 1) := by decide +kernel
theorem dX1_heaviestLine_3 : decode cX1_heaviestLine 3 = .ok (.istore_n 3, 1) := by decide +kernel
theorem dX1_heaviestLine_4 : decode cX1_heaviestLine 4 = .ok (.iconst 0, 1) := by decide +kernel
theorem dX1_heaviestLine_5 : decode cX1_heaviestLine 5 = .ok (.istore 4, 2) := by decide +kernel
theorem dX1_heaviestLine_7 : decode cX1_heaviestLine 7 = .ok (.iload 4, 2) := by decide +kernel
theorem dX1_heaviestLine_9 : decode cX1_heaviestLine 9 = .ok (.aload_n 0, 1) := by decide +kernel
theorem dX1_heaviestLine_10 : decode cX1_heaviestLine 10 = .ok (.iload_n 1, 1) := by decide +kernel
theorem dX1_heaviestLine_11 : decode cX1_heaviestLine 11 = .ok (.invokevirtual 93, 3) := by decide +kernel
theorem dX1_heaviestLine_14 : decode cX1_heaviestLine 14 = .ok (.if_icmp .ge 80, 3) := by decide +kernel
theorem dX1_heaviestLine_17 : decode cX1_heaviestLine 17 = .ok (.iconst 0, 1) := by decide +kernel
theorem dX1_heaviestLine_18 : decode cX1_heaviestLine 18 = .ok (.istore 5, 2) := by decide +kernel
theorem dX1_heaviestLine_20 : decode cX1_heaviestLine 20 = .ok (.iconst 0, 1) := by decide +kernel
theorem dX1_heaviestLine_21 : decode cX1_heaviestLine 21 = .ok (.istore 6, 2) := by decide +kernel
theorem dX1_heaviestLine_23 : decode cX1_heaviestLine 23 = .ok (.iload 6, 2) := by decide +kernel
theorem dX1_heaviestLine_25 : decode cX1_heaviestLine 25 = .ok (.aload_n 0, 1) := by decide +kernel
theorem dX1_heaviestLine_26 : decode cX1_heaviestLine 26 = .ok (.getfield 24, 3) := by decide +kernel
theorem dX1_heaviestLine_29 : decode cX1_heaviestLine 29 = .ok (.getfield 60, 3) := by decide +kernel
theorem dX1_heaviestLine_32 : decode cX1_heaviestLine 32 = .ok (.if_icmp .ge 44, 3) := by decide +kernel
theorem dX1_heaviestLine_35 : decode cX1_heaviestLine 35 = .ok (.aload_n 0, 1) := by decide +kernel
theorem dX1_heaviestLine_36 : decode cX1_heaviestLine 36 = .ok (.aload_n 0, 1) := by decide +kernel
theorem dX1_heaviestLine_37 : decode cX1_heaviestLine 37 = .ok (.getfield 24, 3) := by decide +kernel
theorem dX1_heaviestLine_40 : decode cX1_heaviestLine 40 = .ok (.iload 6, 2) := by decide +kernel
theorem dX1_heaviestLine_42 : decode cX1_heaviestLine 42 = .ok (.iconst 0, 1) := by decide +kernel
theorem dX1_heaviestLine_43 : decode cX1_heaviestLine 43 = .ok (.invokevirtual 80, 3) := by decide +kernel
theorem dX1_heaviestLine_46 : decode cX1_heaviestLine 46 = .ok (.iload_n 1, 1) := by decide +kernel
theorem dX1_heaviestLine_47 : decode cX1_heaviestLine 47 = .ok (.invokevirtual 124, 3) := by decide +kernel
theorem dX1_heaviestLine_50 : decode cX1_heaviestLine 50 = .ok (.iload 4, 2) := by decide +kernel
theorem dX1_heaviestLine_52 : decode cX1_heaviestLine 52 = .ok (.if_icmp .ne 18, 3) := by decide +kernel
theorem dX1_heaviestLine_55 : decode cX1_heaviestLine 55 = .ok (.iload 5, 2) := by decide +kernel
theorem dX1_heaviestLine_57 : decode cX1_heaviestLine 57 = .ok (.aload_n 0, 1) := by decide +kernel
theorem dX1_heaviestLine_58 : decode cX1_heaviestLine 58 = .ok (.getfield 24, 3) := by decide +kernel
theorem dX1_heaviestLine_61 : decode cX1_heaviestLine 61 = .ok (.iload 6, 2) := by decide +kernel
theorem dX1_heaviestLine_63 : decode cX1_heaviestLine 63 = .ok (.iconst 1, 1) := by decide +kernel
theorem dX1_heaviestLine_64 : decode cX1_heaviestLine 64 = .ok (.invokevirtual 80, 3) := by decide +kernel
theorem dX1_heaviestLine_67 : decode cX1_heaviestLine 67 = .ok (.iadd, 1) := by decide +kernel
theorem dX1_heaviestLine_68 : decode cX1_heaviestLine 68 = .ok (.istore 5, 2) := by decide +kernel
theorem dX1_heaviestLine_70 : decode cX1_heaviestLine 70 = .ok (.iinc 6 1, 3) := by decide +kernel
theorem dX1_heaviestLine_73 : decode cX1_heaviestLine 73 = .ok (.goto (-50), 3) := by decide +kernel
theorem dX1_heaviestLine_76 : decode cX1_heaviestLine 76 = .ok (.iload 5, 2) := by decide +kernel
theorem dX1_heaviestLine_78 : decode cX1_heaviestLine 78 = .ok (.iload_n 3, 1) := by decide +kernel
theorem dX1_heaviestLine_79 : decode cX1_heaviestLine 79 = .ok (.if_icmp .le 9, 3) := by decide +kernel
theorem dX1_heaviestLine_82 : decode cX1_heaviestLine 82 = .ok (.iload 5, 2) := by decide +kernel
theorem dX1_heaviestLine_84 : decode cX1_heaviestLine 84 = .ok (.istore_n 3, 1) := by decide +kernel
theorem dX1_heaviestLine_85 : decode cX1_heaviestLine 85 = .ok (.iload 4, 2) := by decide +kernel
theorem dX1_heaviestLine_87 : decode cX1_heaviestLine 87 = .ok (.istore_n 2, 1) := by decide +kernel
theorem dX1_heaviestLine_88 : decode cX1_heaviestLine 88 = .ok (.iinc 4 1, 3) := by decide +kernel
theorem dX1_heaviestLine_91 : decode cX1_heaviestLine 91 = .ok (.goto (-84), 3) := by decide +kernel
theorem dX1_heaviestLine_94 : decode cX1_heaviestLine 94 = .ok (.iload_n 2, 1) := by decide +kernel
theorem dX1_heaviestLine_95 : decode cX1_heaviestLine 95 = .ok (.ireturn, 1) := by decide +kernel
theorem dX1_tiltWith_0 : decode cX1_tiltWith 0 = .ok (.aload_n 0, 1) := by decide +kernel
theorem dX1_tiltWith_1 : decode cX1_tiltWith 1 = .ok (.getfield 39, 3) := by decide +kernel
theorem dX1_tiltWith_4 : decode cX1_tiltWith 4 = .ok (.iconst 0, 1) := by decide +kernel
theorem dX1_tiltWith_5 : decode cX1_tiltWith 5 = .ok (.iaload, 1) := by decide +kernel
theorem dX1_tiltWith_6 : decode cX1_tiltWith 6 = .ok (.iload_n 1, 1) := by decide +kernel
theorem dX1_tiltWith_7 : decode cX1_tiltWith 7 = .ok (.aload_n 0, 1) := by decide +kernel
theorem dX1_tiltWith_8 : decode cX1_tiltWith 8 = .ok (.iload_n 2, 1) := by decide +kernel
theorem dX1_tiltWith_9 : decode cX1_tiltWith 9 = .ok (.iconst 0, 1) := by decide +kernel
theorem dX1_tiltWith_10 : decode cX1_tiltWith 10 = .ok (.invokevirtual 83, 3) := by decide +kernel
theorem dX1_tiltWith_13 : decode cX1_tiltWith 13 = .ok (.imul, 1) := by decide +kernel
theorem dX1_tiltWith_14 : decode cX1_tiltWith 14 = .ok (.iadd, 1) := by decide +kernel
theorem dX1_tiltWith_15 : decode cX1_tiltWith 15 = .ok (.invokestatic 97, 3) := by decide +kernel
theorem dX1_tiltWith_18 : decode cX1_tiltWith 18 = .ok (.aload_n 0, 1) := by decide +kernel
theorem dX1_tiltWith_19 : decode cX1_tiltWith 19 = .ok (.getfield 39, 3) := by decide +kernel
theorem dX1_tiltWith_22 : decode cX1_tiltWith 22 = .ok (.iconst 1, 1) := by decide +kernel
theorem dX1_tiltWith_23 : decode cX1_tiltWith 23 = .ok (.iaload, 1) := by decide +kernel
theorem dX1_tiltWith_24 : decode cX1_tiltWith 24 = .ok (.iload_n 1, 1) := by decide +kernel
theorem dX1_tiltWith_25 : decode cX1_tiltWith 25 = .ok (.aload_n 0, 1) := by decide +kernel
theorem dX1_tiltWith_26 : decode cX1_tiltWith 26 = .ok (.iload_n 2, 1) := by decide +kernel
theorem dX1_tiltWith_27 : decode cX1_tiltWith 27 = .ok (.iconst 1, 1) := by decide +kernel
theorem dX1_tiltWith_28 : decode cX1_tiltWith 28 = .ok (.invokevirtual 83, 3) := by decide +kernel
theorem dX1_tiltWith_31 : decode cX1_tiltWith 31 = .ok (.imul, 1) := by decide +kernel
theorem dX1_tiltWith_32 : decode cX1_tiltWith 32 = .ok (.iadd, 1) := by decide +kernel
theorem dX1_tiltWith_33 : decode cX1_tiltWith 33 = .ok (.invokestatic 97, 3) := by decide +kernel
theorem dX1_tiltWith_36 : decode cX1_tiltWith 36 = .ok (.iadd, 1) := by decide +kernel
theorem dX1_tiltWith_37 : decode cX1_tiltWith 37 = .ok (.ireturn, 1) := by decide +kernel
theorem dX1_keel_0 : decode cX1_keel 0 = .ok (.iconst (-1), 1) := by decide +kernel
theorem dX1_keel_1 : decode cX1_keel 1 = .ok (.istore_n 1, 1) := by decide +kernel
theorem dX1_keel_2 : decode cX1_keel 2 = .ok (.ldc 127, 2) := by decide +kernel
theorem dX1_keel_4 : decode cX1_keel 4 = .ok (.istore_n 2, 1) := by decide +kernel
theorem dX1_keel_5 : decode cX1_keel 5 = .ok (.iconst 0, 1) := by decide +kernel
theorem dX1_keel_6 : decode cX1_keel 6 = .ok (.istore_n 3, 1) := by decide +kernel
theorem dX1_keel_7 : decode cX1_keel 7 = .ok (.iload_n 3, 1) := by decide +kernel
theorem dX1_keel_8 : decode cX1_keel 8 = .ok (.aload_n 0, 1) := by decide +kernel
theorem dX1_keel_9 : decode cX1_keel 9 = .ok (.getfield 24, 3) := by decide +kernel
theorem dX1_keel_12 : decode cX1_keel 12 = .ok (.getfield 60, 3) := by decide +kernel
theorem dX1_keel_15 : decode cX1_keel 15 = .ok (.if_icmp .ge 45, 3) := by decide +kernel
theorem dX1_keel_18 : decode cX1_keel 18 = .ok (.aload_n 0, 1) := by decide +kernel
theorem dX1_keel_19 : decode cX1_keel 19 = .ok (.aload_n 0, 1) := by decide +kernel
theorem dX1_keel_20 : decode cX1_keel 20 = .ok (.getfield 24, 3) := by decide +kernel
theorem dX1_keel_23 : decode cX1_keel 23 = .ok (.iload_n 3, 1) := by decide +kernel
theorem dX1_keel_24 : decode cX1_keel 24 = .ok (.iconst 1, 1) := by decide +kernel
theorem dX1_keel_25 : decode cX1_keel 25 = .ok (.invokevirtual 80, 3) := by decide +kernel
theorem dX1_keel_28 : decode cX1_keel 28 = .ok (.ineg, 1) := by decide +kernel
theorem dX1_keel_29 : decode cX1_keel 29 = .ok (.aload_n 0, 1) := by decide +kernel
theorem dX1_keel_30 : decode cX1_keel 30 = .ok (.getfield 24, 3) := by decide +kernel
theorem dX1_keel_33 : decode cX1_keel 33 = .ok (.iload_n 3, 1) := by decide +kernel
theorem dX1_keel_34 : decode cX1_keel 34 = .ok (.iconst 0, 1) := by decide +kernel
theorem dX1_keel_35 : decode cX1_keel 35 = .ok (.invokevirtual 80, 3) := by decide +kernel
theorem dX1_keel_38 : decode cX1_keel 38 = .ok (.invokevirtual 128, 3) := by decide +kernel
theorem dX1_keel_41 : decode cX1_keel 41 = .ok (.istore 4, 2) := by decide +kernel
theorem dX1_keel_43 : decode cX1_keel 43 = .ok (.iload 4, 2) := by decide +kernel
theorem dX1_keel_45 : decode cX1_keel 45 = .ok (.iload_n 2, 1) := by decide +kernel
theorem dX1_keel_46 : decode cX1_keel 46 = .ok (.if_icmp .ge 8, 3) := by decide +kernel
theorem dX1_keel_49 : decode cX1_keel 49 = .ok (.iload 4, 2) := by decide +kernel
theorem dX1_keel_51 : decode cX1_keel 51 = .ok (.istore_n 2, 1) := by decide +kernel
theorem dX1_keel_52 : decode cX1_keel 52 = .ok (.iload_n 3, 1) := by decide +kernel
theorem dX1_keel_53 : decode cX1_keel 53 = .ok (.istore_n 1, 1) := by decide +kernel
theorem dX1_keel_54 : decode cX1_keel 54 = .ok (.iinc 3 1, 3) := by decide +kernel
theorem dX1_keel_57 : decode cX1_keel 57 = .ok (.goto (-50), 3) := by decide +kernel
theorem dX1_keel_60 : decode cX1_keel 60 = .ok (.iload_n 1, 1) := by decide +kernel
theorem dX1_keel_61 : decode cX1_keel 61 = .ok (.ireturn, 1) := by decide +kernel
theorem dX1_trimOf_0 : decode cX1_trimOf 0 = .ok (.aload_n 0, 1) := by decide +kernel
theorem dX1_trimOf_1 : decode cX1_trimOf 1 = .ok (.getfield 30, 3) := by decide +kernel
theorem dX1_trimOf_4 : decode cX1_trimOf 4 = .ok (.iload_n 1, 1) := by decide +kernel
theorem dX1_trimOf_5 : decode cX1_trimOf 5 = .ok (.iconst 0, 1) := by decide +kernel
theorem dX1_trimOf_6 : decode cX1_trimOf 6 = .ok (.invokevirtual 80, 3) := by decide +kernel
theorem dX1_trimOf_9 : decode cX1_trimOf 9 = .ok (.istore_n 2, 1) := by decide +kernel
theorem dX1_trimOf_10 : decode cX1_trimOf 10 = .ok (.iconst 0, 1) := by decide +kernel
theorem dX1_trimOf_11 : decode cX1_trimOf 11 = .ok (.istore_n 3, 1) := by decide +kernel
theorem dX1_trimOf_12 : decode cX1_trimOf 12 = .ok (.ldc 127, 2) := by decide +kernel
theorem dX1_trimOf_14 : decode cX1_trimOf 14 = .ok (.istore 4, 2) := by decide +kernel
theorem dX1_trimOf_16 : decode cX1_trimOf 16 = .ok (.iconst 0, 1) := by decide +kernel
theorem dX1_trimOf_17 : decode cX1_trimOf 17 = .ok (.istore 5, 2) := by decide +kernel
theorem dX1_trimOf_19 : decode cX1_trimOf 19 = .ok (.iload 5, 2) := by decide +kernel
theorem dX1_trimOf_21 : decode cX1_trimOf 21 = .ok (.aload_n 0, 1) := by decide +kernel
theorem dX1_trimOf_22 : decode cX1_trimOf 22 = .ok (.invokevirtual 120, 3) := by decide +kernel
theorem dX1_trimOf_25 : decode cX1_trimOf 25 = .ok (.if_icmp .ge 32, 3) := by decide +kernel
theorem dX1_trimOf_28 : decode cX1_trimOf 28 = .ok (.aload_n 0, 1) := by decide +kernel
theorem dX1_trimOf_29 : decode cX1_trimOf 29 = .ok (.iload_n 2, 1) := by decide +kernel
theorem dX1_trimOf_30 : decode cX1_trimOf 30 = .ok (.iload 5, 2) := by decide +kernel
theorem dX1_trimOf_32 : decode cX1_trimOf 32 = .ok (.invokevirtual 128, 3) := by decide +kernel
theorem dX1_trimOf_35 : decode cX1_trimOf 35 = .ok (.istore 6, 2) := by decide +kernel
theorem dX1_trimOf_37 : decode cX1_trimOf 37 = .ok (.iload 6, 2) := by decide +kernel
theorem dX1_trimOf_39 : decode cX1_trimOf 39 = .ok (.iload 4, 2) := by decide +kernel
theorem dX1_trimOf_41 : decode cX1_trimOf 41 = .ok (.if_icmp .ge 10, 3) := by decide +kernel
theorem dX1_trimOf_44 : decode cX1_trimOf 44 = .ok (.iload 6, 2) := by decide +kernel
theorem dX1_trimOf_46 : decode cX1_trimOf 46 = .ok (.istore 4, 2) := by decide +kernel
theorem dX1_trimOf_48 : decode cX1_trimOf 48 = .ok (.iload 5, 2) := by decide +kernel
theorem dX1_trimOf_50 : decode cX1_trimOf 50 = .ok (.istore_n 3, 1) := by decide +kernel
theorem dX1_trimOf_51 : decode cX1_trimOf 51 = .ok (.iinc 5 1, 3) := by decide +kernel
theorem dX1_trimOf_54 : decode cX1_trimOf 54 = .ok (.goto (-35), 3) := by decide +kernel
theorem dX1_trimOf_57 : decode cX1_trimOf 57 = .ok (.iload_n 3, 1) := by decide +kernel
theorem dX1_trimOf_58 : decode cX1_trimOf 58 = .ok (.ireturn, 1) := by decide +kernel
theorem dX2_init_0 : decode cX2_init 0 = .ok (.aload_n 0, 1) := by decide +kernel
theorem dX2_init_1 : decode cX2_init 1 = .ok (.invokespecial 3, 3) := by decide +kernel
theorem dX2_init_4 : decode cX2_init 4 = .ok (.aload_n 0, 1) := by decide +kernel
theorem dX2_init_5 : decode cX2_init 5 = .ok (.bipush 8, 2) := by decide +kernel
theorem dX2_init_7 : decode cX2_init 7 = .ok (.newarray .int, 2) := by decide +kernel
theorem dX2_init_9 : decode cX2_init 9 = .ok (.putfield 11, 3) := by decide +kernel
theorem dX2_init_12 : decode cX2_init 12 = .ok (.aload_n 0, 1) := by decide +kernel
theorem dX2_init_13 : decode cX2_init 13 = .ok (.bipush 8, 2) := by decide +kernel
theorem dX2_init_15 : decode cX2_init 15 = .ok (.newarray .int, 2) := by decide +kernel
theorem dX2_init_17 : decode cX2_init 17 = .ok (.putfield 15, 3) := by decide +kernel
theorem dX2_init_20 : decode cX2_init 20 = .ok (.aload_n 0, 1) := by decide +kernel
theorem dX2_init_21 : decode cX2_init 21 = .ok (.bipush 9, 2) := by decide +kernel
theorem dX2_init_23 : decode cX2_init 23 = .ok (.iconst 4, 1) := by decide +kernel
theorem dX2_init_24 : decode cX2_init 24 = .ok (.multianewarray 18 2, 4) := by decide +kernel
theorem dX2_init_28 : decode cX2_init 28 = .ok (.putfield 20, 3) := by decide +kernel
theorem dX2_init_31 : decode cX2_init 31 = .ok (.return_, 1) := by decide +kernel
theorem dX2_plan_0 : decode cX2_plan 0 = .ok (.aload_n 0, 1) := by decide +kernel
theorem dX2_plan_1 : decode cX2_plan 1 = .ok (.iload_n 2, 1) := by decide +kernel
theorem dX2_plan_2 : decode cX2_plan 2 = .ok (.bipush 8, 2) := by decide +kernel
theorem dX2_plan_4 : decode cX2_plan 4 = .ok (.invokestatic 23, 3) := by decide +kernel
theorem dX2_plan_7 : decode cX2_plan 7 = .ok (.putfield 29, 3) := by decide +kernel
theorem dX2_plan_10 : decode cX2_plan 10 = .ok (.aload_n 0, 1) := by decide +kernel
theorem dX2_plan_11 : decode cX2_plan 11 = .ok (.ldc 33, 2) := by decide +kernel
theorem dX2_plan_13 : decode cX2_plan 13 = .ok (.putfield 34, 3) := by decide +kernel
theorem dX2_plan_16 : decode cX2_plan 16 = .ok (.iconst 0, 1) := by decide +kernel
theorem dX2_plan_17 : decode cX2_plan 17 = .ok (.istore_n 3, 1) := by decide +kernel
theorem dX2_plan_18 : decode cX2_plan 18 = .ok (.iload_n 3, 1) := by decide +kernel
theorem dX2_plan_19 : decode cX2_plan 19 = .ok (.iconst 4, 1) := by decide +kernel
theorem dX2_plan_20 : decode cX2_plan 20 = .ok (.if_icmp .ge 18, 3) := by decide +kernel
theorem dX2_plan_23 : decode cX2_plan 23 = .ok (.aload_n 0, 1) := by decide +kernel
theorem dX2_plan_24 : decode cX2_plan 24 = .ok (.getfield 20, 3) := by decide +kernel
theorem dX2_plan_27 : decode cX2_plan 27 = .ok (.iconst 0, 1) := by decide +kernel
theorem dX2_plan_28 : decode cX2_plan 28 = .ok (.aaload, 1) := by decide +kernel
theorem dX2_plan_29 : decode cX2_plan 29 = .ok (.iload_n 3, 1) := by decide +kernel
theorem dX2_plan_30 : decode cX2_plan 30 = .ok (.iconst 0, 1) := by decide +kernel
theorem dX2_plan_31 : decode cX2_plan 31 = .ok (.iastore, 1) := by decide +kernel
theorem dX2_plan_32 : decode cX2_plan 32 = .ok (.iinc 3 1, 3) := by decide +kernel
theorem dX2_plan_35 : decode cX2_plan 35 = .ok (.goto (-17), 3) := by decide +kernel
theorem dX2_plan_38 : decode cX2_plan 38 = .ok (.aload_n 0, 1) := by decide +kernel
theorem dX2_plan_39 : decode cX2_plan 39 = .ok (.aload_n 1, 1) := by decide +kernel
theorem dX2_plan_40 : decode cX2_plan 40 = .ok (.iconst 0, 1) := by decide +kernel
theorem dX2_plan_41 : decode cX2_plan 41 = .ok (.iconst 0, 1) := by decide +kernel
theorem dX2_plan_42 : decode cX2_plan 42 = .ok (.invokestatic 37, 3) := by decide +kernel
theorem dX2_plan_45 : decode cX2_plan 45 = .ok (.return_, 1) := by decide +kernel
theorem dX2_leakBailed_0 : decode cX2_leakBailed 0 = .ok (.iload_n 1, 1) := by decide +kernel
theorem dX2_leakBailed_1 : decode cX2_leakBailed 1 = .ok (.ifCond .lt 18, 3) := by decide +kernel
theorem dX2_leakBailed_4 : decode cX2_leakBailed 4 = .ok (.iload_n 1, 1) := by decide +kernel
theorem dX2_leakBailed_5 : decode cX2_leakBailed 5 = .ok (.bipush 8, 2) := by decide +kernel
theorem dX2_leakBailed_7 : decode cX2_leakBailed 7 = .ok (.if_icmp .ge 12, 3) := by decide +kernel
theorem dX2_leakBailed_10 : decode cX2_leakBailed 10 = .ok (.aload_n 0, 1) := by decide +kernel
theorem dX2_leakBailed_11 : decode cX2_leakBailed 11 = .ok (.getfield 15, 3) := by decide +kernel
theorem dX2_leakBailed_14 : decode cX2_leakBailed 14 = .ok (.iload_n 1, 1) := by decide +kernel
theorem dX2_leakBailed_15 : decode cX2_leakBailed 15 = .ok (.iaload, 1) := by decide +kernel
theorem dX2_leakBailed_16 : decode cX2_leakBailed 16 = .ok (.goto 4, 3) := by decide +kernel
theorem dX2_leakBailed_19 : decode cX2_leakBailed 19 = .ok (.iconst (-1), 1) := by decide +kernel
theorem dX2_leakBailed_20 : decode cX2_leakBailed 20 = .ok (.ireturn, 1) := by decide +kernel
theorem dX2_tryHour_0 : decode cX2_tryHour 0 = .ok (.iload_n 2, 1) := by decide +kernel
theorem dX2_tryHour_1 : decode cX2_tryHour 1 = .ok (.aload_n 0, 1) := by decide +kernel
theorem dX2_tryHour_2 : decode cX2_tryHour 2 = .ok (.getfield 29, 3) := by decide +kernel
theorem dX2_tryHour_5 : decode cX2_tryHour 5 = .ok (.if_icmp .lt 24, 3) := by decide +kernel
theorem dX2_tryHour_8 : decode cX2_tryHour 8 = .ok (.aload_n 0, 1) := by decide +kernel
theorem dX2_tryHour_9 : decode cX2_tryHour 9 = .ok (.iload_n 3, 1) := by decide +kernel
theorem dX2_tryHour_10 : decode cX2_tryHour 10 = .ok (.putfield 34, 3) := by decide +kernel
theorem dX2_tryHour_13 : decode cX2_tryHour 13 = .ok (.aload_n 0, 1) := by decide +kernel
theorem dX2_tryHour_14 : decode cX2_tryHour 14 = .ok (.getfield 11, 3) := by decide +kernel
theorem dX2_tryHour_17 : decode cX2_tryHour 17 = .ok (.iconst 0, 1) := by decide +kernel
theorem dX2_tryHour_18 : decode cX2_tryHour 18 = .ok (.aload_n 0, 1) := by decide +kernel
theorem dX2_tryHour_19 : decode cX2_tryHour 19 = .ok (.getfield 15, 3) := by decide +kernel
theorem dX2_tryHour_22 : decode cX2_tryHour 22 = .ok (.iconst 0, 1) := by decide +kernel
theorem dX2_tryHour_23 : decode cX2_tryHour 23 = .ok (.bipush 8, 2) := by decide +kernel
theorem dX2_tryHour_25 : decode cX2_tryHour 25 = .ok (.invokestatic 41, 3) := by decide +kernel
theorem dX2_tryHour_28 : decode cX2_tryHour 28 = .ok (.return_, 1) := by decide +kernel
theorem dX2_tryHour_29 : decode cX2_tryHour 29 = .ok (.iload_n 3, 1) := by decide +kernel
theorem dX2_tryHour_30 : decode cX2_tryHour 30 = .ok (.aload_n 0, 1) := by decide +kernel
theorem dX2_tryHour_31 : decode cX2_tryHour 31 = .ok (.aload_n 1, 1) := by decide +kernel
theorem dX2_tryHour_32 : decode cX2_tryHour 32 = .ok (.iload_n 2, 1) := by decide +kernel
theorem dX2_tryHour_33 : decode cX2_tryHour 33 = .ok (.invokevirtual 47, 3) := by decide +kernel
theorem dX2_tryHour_36 : decode cX2_tryHour 36 = .ok (.invokestatic 51, 3) := by decide +kernel
theorem dX2_tryHour_39 : decode cX2_tryHour 39 = .ok (.istore 4, 2) := by decide +kernel
theorem dX2_tryHour_41 : decode cX2_tryHour 41 = .ok (.iconst 0, 1) := by decide +kernel
theorem dX2_tryHour_42 : decode cX2_tryHour 42 = .ok (.istore 5, 2) := by decide +kernel
theorem dX2_tryHour_44 : decode cX2_tryHour 44 = .ok (.iload 5, 2) := by decide +kernel
theorem dX2_tryHour_46 : decode cX2_tryHour 46 = .ok (.aload_n 1, 1) := by decide +kernel
theorem dX2_tryHour_47 : decode cX2_tryHour 47 = .ok (.getfield 54, 3) := by decide +kernel
theorem dX2_tryHour_50 : decode cX2_tryHour 50 = .ok (.if_icmp .ge 36, 3) := by decide +kernel
theorem dX2_tryHour_53 : decode cX2_tryHour 53 = .ok (.iload 4, 2) := by decide +kernel
theorem dX2_tryHour_55 : decode cX2_tryHour 55 = .ok (.aload_n 0, 1) := by decide +kernel
theorem dX2_tryHour_56 : decode cX2_tryHour 56 = .ok (.getfield 34, 3) := by decide +kernel
theorem dX2_tryHour_59 : decode cX2_tryHour 59 = .ok (.if_icmp .ge 27, 3) := by decide +kernel
theorem dX2_tryHour_62 : decode cX2_tryHour 62 = .ok (.aload_n 0, 1) := by decide +kernel
theorem dX2_tryHour_63 : decode cX2_tryHour 63 = .ok (.aload_n 1, 1) := by decide +kernel
theorem dX2_tryHour_64 : decode cX2_tryHour 64 = .ok (.iload_n 2, 1) := by decide +kernel
theorem dX2_tryHour_65 : decode cX2_tryHour 65 = .ok (.iload 5, 2) := by decide +kernel
theorem dX2_tryHour_67 : decode cX2_tryHour 67 = .ok (.invokevirtual 59, 3) := by decide +kernel
theorem dX2_tryHour_70 : decode cX2_tryHour 70 = .ok (.aload_n 0, 1) := by decide +kernel
theorem dX2_tryHour_71 : decode cX2_tryHour 71 = .ok (.aload_n 1, 1) := by decide +kernel
theorem dX2_tryHour_72 : decode cX2_tryHour 72 = .ok (.iload_n 2, 1) := by decide +kernel
theorem dX2_tryHour_73 : decode cX2_tryHour 73 = .ok (.iconst 1, 1) := by decide +kernel
theorem dX2_tryHour_74 : decode cX2_tryHour 74 = .ok (.iadd, 1) := by decide +kernel
theorem dX2_tryHour_75 : decode cX2_tryHour 75 = .ok (.iload 4, 2) := by decide +kernel
theorem dX2_tryHour_77 : decode cX2_tryHour 77 = .ok (.invokestatic 37, 3) := by decide +kernel
theorem dX2_tryHour_80 : decode cX2_tryHour 80 = .ok (.iinc 5 1, 3) := by decide +kernel
theorem dX2_tryHour_83 : decode cX2_tryHour 83 = .ok (.goto (-39), 3) := by decide +kernel
theorem dX2_tryHour_86 : decode cX2_tryHour 86 = .ok (.return_, 1) := by decide +kernel
theorem dX2_letIn_0 : decode cX2_letIn 0 = .ok (.iconst 0, 1) := by decide +kernel
theorem dX2_letIn_1 : decode cX2_letIn 1 = .ok (.istore_n 3, 1) := by decide +kernel
theorem dX2_letIn_2 : decode cX2_letIn 2 = .ok (.iconst 0, 1) := by decide +kernel
theorem dX2_letIn_3 : decode cX2_letIn 3 = .ok (.istore 4, 2) := by decide +kernel
theorem dX2_letIn_5 : decode cX2_letIn 5 = .ok (.iload 4, 2) := by decide +kernel
theorem dX2_letIn_7 : decode cX2_letIn 7 = .ok (.aload_n 1, 1) := by decide +kernel
theorem dX2_letIn_8 : decode cX2_letIn 8 = .ok (.getfield 54, 3) := by decide +kernel
theorem dX2_letIn_11 : decode cX2_letIn 11 = .ok (.if_icmp .ge 35, 3) := by decide +kernel
theorem dX2_letIn_14 : decode cX2_letIn 14 = .ok (.iload 4, 2) := by decide +kernel
theorem dX2_letIn_16 : decode cX2_letIn 16 = .ok (.iconst 4, 1) := by decide +kernel
theorem dX2_letIn_17 : decode cX2_letIn 17 = .ok (.if_icmp .ge 29, 3) := by decide +kernel
theorem dX2_letIn_20 : decode cX2_letIn 20 = .ok (.iload_n 3, 1) := by decide +kernel
theorem dX2_letIn_21 : decode cX2_letIn 21 = .ok (.aload_n 0, 1) := by decide +kernel
theorem dX2_letIn_22 : decode cX2_letIn 22 = .ok (.getfield 20, 3) := by decide +kernel
theorem dX2_letIn_25 : decode cX2_letIn 25 = .ok (.iload_n 2, 1) := by decide +kernel
theorem dX2_letIn_26 : decode cX2_letIn 26 = .ok (.aaload, 1) := by decide +kernel
theorem dX2_letIn_27 : decode cX2_letIn 27 = .ok (.iload 4, 2) := by decide +kernel
theorem dX2_letIn_29 : decode cX2_letIn 29 = .ok (.iaload, 1) := by decide +kernel
theorem dX2_letIn_30 : decode cX2_letIn 30 = .ok (.aload_n 1, 1) := by decide +kernel
theorem dX2_letIn_31 : decode cX2_letIn 31 = .ok (.iload 4, 2) := by decide +kernel
theorem dX2_letIn_33 : decode cX2_letIn 33 = .ok (.iconst 1, 1) := by decide +kernel
theorem dX2_letIn_34 : decode cX2_letIn 34 = .ok (.invokevirtual 63, 3) := by decide +kernel
theorem dX2_letIn_37 : decode cX2_letIn 37 = .ok (.iadd, 1) := by decide +kernel
theorem dX2_letIn_38 : decode cX2_letIn 38 = .ok (.iadd, 1) := by decide +kernel
theorem dX2_letIn_39 : decode cX2_letIn 39 = .ok (.istore_n 3, 1) := by decide +kernel
theorem dX2_letIn_40 : decode cX2_letIn 40 = .ok (.iinc 4 1, 3) := by decide +kernel
theorem dX2_letIn_43 : decode cX2_letIn 43 = .ok (.goto (-38), 3) := by decide +kernel
theorem dX2_letIn_46 : decode cX2_letIn 46 = .ok (.iload_n 3, 1) := by decide +kernel
theorem dX2_letIn_47 : decode cX2_letIn 47 = .ok (.ireturn, 1) := by decide +kernel
theorem dX2_bailOne_0 : decode cX2_bailOne 0 = .ok (.aload_n 0, 1) := by decide +kernel
theorem dX2_bailOne_1 : decode cX2_bailOne 1 = .ok (.getfield 11, 3) := by decide +kernel
theorem dX2_bailOne_4 : decode cX2_bailOne 4 = .ok (.iload_n 2, 1) := by decide +kernel
theorem dX2_bailOne_5 : decode cX2_bailOne 5 = .ok (.iload_n 3, 1) := by decide +kernel
theorem dX2_bailOne_6 : decode cX2_bailOne 6 = .ok (.iastore, 1) := by decide +kernel
theorem dX2_bailOne_7 : decode cX2_bailOne 7 = .ok (.iconst 0, 1) := by decide +kernel
theorem dX2_bailOne_8 : decode cX2_bailOne 8 = .ok (.istore 4, 2) := by decide +kernel
theorem dX2_bailOne_10 : decode cX2_bailOne 10 = .ok (.iload 4, 2) := by decide +kernel
theorem dX2_bailOne_12 : decode cX2_bailOne 12 = .ok (.aload_n 1, 1) := by decide +kernel
theorem dX2_bailOne_13 : decode cX2_bailOne 13 = .ok (.getfield 54, 3) := by decide +kernel
theorem dX2_bailOne_16 : decode cX2_bailOne 16 = .ok (.if_icmp .ge 53, 3) := by decide +kernel
theorem dX2_bailOne_19 : decode cX2_bailOne 19 = .ok (.iload 4, 2) := by decide +kernel
theorem dX2_bailOne_21 : decode cX2_bailOne 21 = .ok (.iconst 4, 1) := by decide +kernel
theorem dX2_bailOne_22 : decode cX2_bailOne 22 = .ok (.if_icmp .ge 47, 3) := by decide +kernel
theorem dX2_bailOne_25 : decode cX2_bailOne 25 = .ok (.aload_n 0, 1) := by decide +kernel
theorem dX2_bailOne_26 : decode cX2_bailOne 26 = .ok (.getfield 20, 3) := by decide +kernel
theorem dX2_bailOne_29 : decode cX2_bailOne 29 = .ok (.iload_n 2, 1) := by decide +kernel
theorem dX2_bailOne_30 : decode cX2_bailOne 30 = .ok (.iconst 1, 1) := by decide +kernel
theorem dX2_bailOne_31 : decode cX2_bailOne 31 = .ok (.iadd, 1) := by decide +kernel
theorem dX2_bailOne_32 : decode cX2_bailOne 32 = .ok (.aaload, 1) := by decide +kernel
theorem dX2_bailOne_33 : decode cX2_bailOne 33 = .ok (.iload 4, 2) := by decide +kernel
theorem dX2_bailOne_35 : decode cX2_bailOne 35 = .ok (.iload 4, 2) := by decide +kernel
theorem dX2_bailOne_37 : decode cX2_bailOne 37 = .ok (.iload_n 3, 1) := by decide +kernel
theorem dX2_bailOne_38 : decode cX2_bailOne 38 = .ok (.if_icmp .ne 7, 3) := by decide +kernel
theorem dX2_bailOne_41 : decode cX2_bailOne 41 = .ok (.iconst 0, 1) := by decide +kernel
theorem dX2_bailOne_42 : decode cX2_bailOne 42 = .ok (.goto 20, 3) := by decide +kernel
theorem dX2_bailOne_45 : decode cX2_bailOne 45 = .ok (.aload_n 0, 1) := by decide +kernel
theorem dX2_bailOne_46 : decode cX2_bailOne 46 = .ok (.getfield 20, 3) := by decide +kernel
theorem dX2_bailOne_49 : decode cX2_bailOne 49 = .ok (.iload_n 2, 1) := by decide +kernel
theorem dX2_bailOne_50 : decode cX2_bailOne 50 = .ok (.aaload, 1) := by decide +kernel
theorem dX2_bailOne_51 : decode cX2_bailOne 51 = .ok (.iload 4, 2) := by decide +kernel
theorem dX2_bailOne_53 : decode cX2_bailOne 53 = .ok (.iaload, 1) := by decide +kernel
theorem dX2_bailOne_54 : decode cX2_bailOne 54 = .ok (.aload_n 1, 1) := by decide +kernel
theorem dX2_bailOne_55 : decode cX2_bailOne 55 = .ok (.iload 4, 2) := by decide +kernel
theorem dX2_bailOne_57 : decode cX2_bailOne 57 = .ok (.iconst 1, 1) := by decide +kernel
theorem dX2_bailOne_58 : decode cX2_bailOne 58 = .ok (.invokevirtual 63, 3) := by decide +kernel
theorem dX2_bailOne_61 : decode cX2_bailOne 61 = .ok (.iadd, 1) := by decide +kernel
theorem dX2_bailOne_62 : decode cX2_bailOne 62 = .ok (.iastore, 1) := by decide +kernel
theorem dX2_bailOne_63 : decode cX2_bailOne 63 = .ok (.iinc 4 1, 3) := by decide +kernel
theorem dX2_bailOne_66 : decode cX2_bailOne 66 = .ok (.goto (-56), 3) := by decide +kernel
theorem dX2_bailOne_69 : decode cX2_bailOne 69 = .ok (.return_, 1) := by decide +kernel
theorem dX7_init_0 : decode cX7_init 0 = .ok (.aload_n 0, 1) := by decide +kernel
theorem dX7_init_1 : decode cX7_init 1 = .ok (.invokespecial 3, 3) := by decide +kernel
theorem dX7_init_4 : decode cX7_init 4 = .ok (.aload_n 0, 1) := by decide +kernel
theorem dX7_init_5 : decode cX7_init 5 = .ok (.bipush 9, 2) := by decide +kernel
theorem dX7_init_7 : decode cX7_init 7 = .ok (.sipush 256, 3) := by decide +kernel
theorem dX7_init_10 : decode cX7_init 10 = .ok (.multianewarray 11 2, 4) := by decide +kernel
theorem dX7_init_14 : decode cX7_init 14 = .ok (.putfield 13, 3) := by decide +kernel
theorem dX7_init_17 : decode cX7_init 17 = .ok (.aload_n 0, 1) := by decide +kernel
theorem dX7_init_18 : decode cX7_init 18 = .ok (.bipush 9, 2) := by decide +kernel
theorem dX7_init_20 : decode cX7_init 20 = .ok (.sipush 256, 3) := by decide +kernel
theorem dX7_init_23 : decode cX7_init 23 = .ok (.multianewarray 11 2, 4) := by decide +kernel
theorem dX7_init_27 : decode cX7_init 27 = .ok (.putfield 16, 3) := by decide +kernel
theorem dX7_init_30 : decode cX7_init 30 = .ok (.return_, 1) := by decide +kernel
theorem dX7_setsOf_0 : decode cX7_setsOf 0 = .ok (.iconst 1, 1) := by decide +kernel
theorem dX7_setsOf_1 : decode cX7_setsOf 1 = .ok (.aload_n 0, 1) := by decide +kernel
theorem dX7_setsOf_2 : decode cX7_setsOf 2 = .ok (.getfield 19, 3) := by decide +kernel
theorem dX7_setsOf_5 : decode cX7_setsOf 5 = .ok (.bipush 8, 2) := by decide +kernel
theorem dX7_setsOf_7 : decode cX7_setsOf 7 = .ok (.invokestatic 25, 3) := by decide +kernel
theorem dX7_setsOf_10 : decode cX7_setsOf 10 = .ok (.ishl, 1) := by decide +kernel
theorem dX7_setsOf_11 : decode cX7_setsOf 11 = .ok (.ireturn, 1) := by decide +kernel
theorem dX7_begin_0 : decode cX7_begin 0 = .ok (.iconst 0, 1) := by decide +kernel
theorem dX7_begin_1 : decode cX7_begin 1 = .ok (.istore_n 1, 1) := by decide +kernel
theorem dX7_begin_2 : decode cX7_begin 2 = .ok (.iload_n 1, 1) := by decide +kernel
theorem dX7_begin_3 : decode cX7_begin 3 = .ok (.sipush 256, 3) := by decide +kernel
theorem dX7_begin_6 : decode cX7_begin 6 = .ok (.if_icmp .ge 21, 3) := by decide +kernel
theorem dX7_begin_9 : decode cX7_begin 9 = .ok (.aload_n 0, 1) := by decide +kernel
theorem dX7_begin_10 : decode cX7_begin 10 = .ok (.iload_n 1, 1) := by decide +kernel
theorem dX7_begin_11 : decode cX7_begin 11 = .ok (.iload_n 1, 1) := by decide +kernel
theorem dX7_begin_12 : decode cX7_begin 12 = .ok (.ifCond .ne 7, 3) := by decide +kernel
theorem dX7_begin_15 : decode cX7_begin 15 = .ok (.iconst 1, 1) := by decide +kernel
theorem dX7_begin_16 : decode cX7_begin 16 = .ok (.goto 4, 3) := by decide +kernel
theorem dX7_begin_19 : decode cX7_begin 19 = .ok (.iconst 0, 1) := by decide +kernel
theorem dX7_begin_20 : decode cX7_begin 20 = .ok (.iastore, 1) := by decide +kernel
theorem dX7_begin_21 : decode cX7_begin 21 = .ok (.iinc 1 1, 3) := by decide +kernel
theorem dX7_begin_24 : decode cX7_begin 24 = .ok (.goto (-22), 3) := by decide +kernel
theorem dX7_begin_27 : decode cX7_begin 27 = .ok (.return_, 1) := by decide +kernel
theorem dX7_extend_0 : decode cX7_extend 0 = .ok (.aload_n 0, 1) := by decide +kernel
theorem dX7_extend_1 : decode cX7_extend 1 = .ok (.iconst 0, 1) := by decide +kernel
theorem dX7_extend_2 : decode cX7_extend 2 = .ok (.aload_n 1, 1) := by decide +kernel
theorem dX7_extend_3 : decode cX7_extend 3 = .ok (.iconst 0, 1) := by decide +kernel
theorem dX7_extend_4 : decode cX7_extend 4 = .ok (.sipush 256, 3) := by decide +kernel
theorem dX7_extend_7 : decode cX7_extend 7 = .ok (.invokestatic 31, 3) := by decide +kernel
theorem dX7_extend_10 : decode cX7_extend 10 = .ok (.iconst 0, 1) := by decide +kernel
theorem dX7_extend_11 : decode cX7_extend 11 = .ok (.istore 4, 2) := by decide +kernel
theorem dX7_extend_13 : decode cX7_extend 13 = .ok (.iload 4, 2) := by decide +kernel
theorem dX7_extend_15 : decode cX7_extend 15 = .ok (.aload_n 2, 1) := by decide +kernel
theorem dX7_extend_16 : decode cX7_extend 16 = .ok (.getfield 19, 3) := by decide +kernel
theorem dX7_extend_19 : decode cX7_extend 19 = .ok (.if_icmp .ge 42, 3) := by decide +kernel
theorem dX7_extend_22 : decode cX7_extend 22 = .ok (.iload 4, 2) := by decide +kernel
theorem dX7_extend_24 : decode cX7_extend 24 = .ok (.bipush 8, 2) := by decide +kernel
theorem dX7_extend_26 : decode cX7_extend 26 = .ok (.if_icmp .ge 35, 3) := by decide +kernel
theorem dX7_extend_29 : decode cX7_extend 29 = .ok (.iload_n 3, 1) := by decide +kernel
theorem dX7_extend_30 : decode cX7_extend 30 = .ok (.iconst (-1), 1) := by decide +kernel
theorem dX7_extend_31 : decode cX7_extend 31 = .ok (.if_icmp .eq 30, 3) := by decide +kernel
theorem dX7_extend_34 : decode cX7_extend 34 = .ok (.aload_n 2, 1) := by decide +kernel
theorem dX7_extend_35 : decode cX7_extend 35 = .ok (.iload 4, 2) := by decide +kernel
theorem dX7_extend_37 : decode cX7_extend 37 = .ok (.iconst 0, 1) := by decide +kernel
theorem dX7_extend_38 : decode cX7_extend 38 = .ok (.invokevirtual 37, 3) := by decide +kernel
theorem dX7_extend_41 : decode cX7_extend 41 = .ok (.iload_n 3, 1) := by decide +kernel
theorem dX7_extend_42 : decode cX7_extend 42 = .ok (.invokestatic 40, 3) := by decide +kernel
theorem dX7_extend_45 : decode cX7_extend 45 = .ok (.ifCond .eq 10, 3) := by decide +kernel
theorem dX7_extend_48 : decode cX7_extend 48 = .ok (.aload_n 0, 1) := by decide +kernel
theorem dX7_extend_49 : decode cX7_extend 49 = .ok (.aload_n 1, 1) := by decide +kernel
theorem dX7_extend_50 : decode cX7_extend 50 = .ok (.iload 4, 2) := by decide +kernel
theorem dX7_extend_52 : decode cX7_extend 52 = .ok (.invokestatic 44, 3) := by decide +kernel
theorem dX7_extend_55 : decode cX7_extend 55 = .ok (.iinc 4 1, 3) := by decide +kernel
theorem dX7_extend_58 : decode cX7_extend 58 = .ok (.goto (-45), 3) := by decide +kernel
theorem dX7_extend_61 : decode cX7_extend 61 = .ok (.return_, 1) := by decide +kernel
theorem dX7_lay_0 : decode cX7_lay 0 = .ok (.iconst 1, 1) := by decide +kernel
theorem dX7_lay_1 : decode cX7_lay 1 = .ok (.iload_n 2, 1) := by decide +kernel
theorem dX7_lay_2 : decode cX7_lay 2 = .ok (.ishl, 1) := by decide +kernel
theorem dX7_lay_3 : decode cX7_lay 3 = .ok (.istore_n 3, 1) := by decide +kernel
theorem dX7_lay_4 : decode cX7_lay 4 = .ok (.iload_n 3, 1) := by decide +kernel
theorem dX7_lay_5 : decode cX7_lay 5 = .ok (.istore 4, 2) := by decide +kernel
theorem dX7_lay_7 : decode cX7_lay 7 = .ok (.iload 4, 2) := by decide +kernel
theorem dX7_lay_9 : decode cX7_lay 9 = .ok (.sipush 256, 3) := by decide +kernel
theorem dX7_lay_12 : decode cX7_lay 12 = .ok (.if_icmp .ge 29, 3) := by decide +kernel
theorem dX7_lay_15 : decode cX7_lay 15 = .ok (.iload 4, 2) := by decide +kernel
theorem dX7_lay_17 : decode cX7_lay 17 = .ok (.iload_n 3, 1) := by decide +kernel
theorem dX7_lay_18 : decode cX7_lay 18 = .ok (.iand, 1) := by decide +kernel
theorem dX7_lay_19 : decode cX7_lay 19 = .ok (.ifCond .eq 16, 3) := by decide +kernel
theorem dX7_lay_22 : decode cX7_lay 22 = .ok (.aload_n 1, 1) := by decide +kernel
theorem dX7_lay_23 : decode cX7_lay 23 = .ok (.iload 4, 2) := by decide +kernel
theorem dX7_lay_25 : decode cX7_lay 25 = .ok (.dup2, 1) := by decide +kernel
theorem dX7_lay_26 : decode cX7_lay 26 = .ok (.iaload, 1) := by decide +kernel
theorem dX7_lay_27 : decode cX7_lay 27 = .ok (.aload_n 0, 1) := by decide +kernel
theorem dX7_lay_28 : decode cX7_lay 28 = .ok (.iload 4, 2) := by decide +kernel
theorem dX7_lay_30 : decode cX7_lay 30 = .ok (.iload_n 3, 1) := by decide +kernel
theorem dX7_lay_31 : decode cX7_lay 31 = .ok (.ixor, 1) := by decide +kernel
theorem dX7_lay_32 : decode cX7_lay 32 = .ok (.iaload, 1) := by decide +kernel
theorem dX7_lay_33 : decode cX7_lay 33 = .ok (.iadd, 1) := by decide +kernel
theorem dX7_lay_34 : decode cX7_lay 34 = .ok (.iastore, 1) := by decide +kernel
theorem dX7_lay_35 : decode cX7_lay 35 = .ok (.iinc 4 1, 3) := by decide +kernel
theorem dX7_lay_38 : decode cX7_lay 38 = .ok (.goto (-31), 3) := by decide +kernel
theorem dX7_lay_41 : decode cX7_lay 41 = .ok (.return_, 1) := by decide +kernel
theorem dX7_waysWithout_0 : decode cX7_waysWithout 0 = .ok (.aload_n 0, 1) := by decide +kernel
theorem dX7_waysWithout_1 : decode cX7_waysWithout 1 = .ok (.getfield 16, 3) := by decide +kernel
theorem dX7_waysWithout_4 : decode cX7_waysWithout 4 = .ok (.iconst 0, 1) := by decide +kernel
theorem dX7_waysWithout_5 : decode cX7_waysWithout 5 = .ok (.aaload, 1) := by decide +kernel
theorem dX7_waysWithout_6 : decode cX7_waysWithout 6 = .ok (.invokestatic 48, 3) := by decide +kernel
theorem dX7_waysWithout_9 : decode cX7_waysWithout 9 = .ok (.iconst 0, 1) := by decide +kernel
theorem dX7_waysWithout_10 : decode cX7_waysWithout 10 = .ok (.istore 4, 2) := by decide +kernel
theorem dX7_waysWithout_12 : decode cX7_waysWithout 12 = .ok (.iload 4, 2) := by decide +kernel
theorem dX7_waysWithout_14 : decode cX7_waysWithout 14 = .ok (.bipush 8, 2) := by decide +kernel
theorem dX7_waysWithout_16 : decode cX7_waysWithout 16 = .ok (.if_icmp .ge 41, 3) := by decide +kernel
theorem dX7_waysWithout_19 : decode cX7_waysWithout 19 = .ok (.aload_n 0, 1) := by decide +kernel
theorem dX7_waysWithout_20 : decode cX7_waysWithout 20 = .ok (.getfield 16, 3) := by decide +kernel
theorem dX7_waysWithout_23 : decode cX7_waysWithout 23 = .ok (.iload 4, 2) := by decide +kernel
theorem dX7_waysWithout_25 : decode cX7_waysWithout 25 = .ok (.aaload, 1) := by decide +kernel
theorem dX7_waysWithout_26 : decode cX7_waysWithout 26 = .ok (.aload_n 0, 1) := by decide +kernel
theorem dX7_waysWithout_27 : decode cX7_waysWithout 27 = .ok (.getfield 16, 3) := by decide +kernel
theorem dX7_waysWithout_30 : decode cX7_waysWithout 30 = .ok (.iload 4, 2) := by decide +kernel
theorem dX7_waysWithout_32 : decode cX7_waysWithout 32 = .ok (.iconst 1, 1) := by decide +kernel
theorem dX7_waysWithout_33 : decode cX7_waysWithout 33 = .ok (.iadd, 1) := by decide +kernel
theorem dX7_waysWithout_34 : decode cX7_waysWithout 34 = .ok (.aaload, 1) := by decide +kernel
theorem dX7_waysWithout_35 : decode cX7_waysWithout 35 = .ok (.aload_n 1, 1) := by decide +kernel
theorem dX7_waysWithout_36 : decode cX7_waysWithout 36 = .ok (.iload 4, 2) := by decide +kernel
theorem dX7_waysWithout_38 : decode cX7_waysWithout 38 = .ok (.iload_n 3, 1) := by decide +kernel
theorem dX7_waysWithout_39 : decode cX7_waysWithout 39 = .ok (.if_icmp .ne 7, 3) := by decide +kernel
theorem dX7_waysWithout_42 : decode cX7_waysWithout 42 = .ok (.iconst (-1), 1) := by decide +kernel
theorem dX7_waysWithout_43 : decode cX7_waysWithout 43 = .ok (.goto 5, 3) := by decide +kernel
theorem dX7_waysWithout_46 : decode cX7_waysWithout 46 = .ok (.iload 4, 2) := by decide +kernel
theorem dX7_waysWithout_48 : decode cX7_waysWithout 48 = .ok (.invokestatic 52, 3) := by decide +kernel
theorem dX7_waysWithout_51 : decode cX7_waysWithout 51 = .ok (.iinc 4 1, 3) := by decide +kernel
theorem dX7_waysWithout_54 : decode cX7_waysWithout 54 = .ok (.goto (-42), 3) := by decide +kernel
theorem dX7_waysWithout_57 : decode cX7_waysWithout 57 = .ok (.aload_n 0, 1) := by decide +kernel
theorem dX7_waysWithout_58 : decode cX7_waysWithout 58 = .ok (.getfield 16, 3) := by decide +kernel
theorem dX7_waysWithout_61 : decode cX7_waysWithout 61 = .ok (.bipush 8, 2) := by decide +kernel
theorem dX7_waysWithout_63 : decode cX7_waysWithout 63 = .ok (.aaload, 1) := by decide +kernel
theorem dX7_waysWithout_64 : decode cX7_waysWithout 64 = .ok (.iload_n 2, 1) := by decide +kernel
theorem dX7_waysWithout_65 : decode cX7_waysWithout 65 = .ok (.iaload, 1) := by decide +kernel
theorem dX7_waysWithout_66 : decode cX7_waysWithout 66 = .ok (.ireturn, 1) := by decide +kernel
theorem dX7_ways_0 : decode cX7_ways 0 = .ok (.aload_n 0, 1) := by decide +kernel
theorem dX7_ways_1 : decode cX7_ways 1 = .ok (.aload_n 1, 1) := by decide +kernel
theorem dX7_ways_2 : decode cX7_ways 2 = .ok (.aload_n 1, 1) := by decide +kernel
theorem dX7_ways_3 : decode cX7_ways 3 = .ok (.invokestatic 56, 3) := by decide +kernel
theorem dX7_ways_6 : decode cX7_ways 6 = .ok (.iconst 1, 1) := by decide +kernel
theorem dX7_ways_7 : decode cX7_ways 7 = .ok (.isub, 1) := by decide +kernel
theorem dX7_ways_8 : decode cX7_ways 8 = .ok (.iconst (-1), 1) := by decide +kernel
theorem dX7_ways_9 : decode cX7_ways 9 = .ok (.invokevirtual 60, 3) := by decide +kernel
theorem dX7_ways_12 : decode cX7_ways 12 = .ok (.ireturn, 1) := by decide +kernel
theorem dX7_graves_0 : decode cX7_graves 0 = .ok (.aload_n 1, 1) := by decide +kernel
theorem dX7_graves_1 : decode cX7_graves 1 = .ok (.invokestatic 56, 3) := by decide +kernel
theorem dX7_graves_4 : decode cX7_graves 4 = .ok (.iconst 1, 1) := by decide +kernel
theorem dX7_graves_5 : decode cX7_graves 5 = .ok (.isub, 1) := by decide +kernel
theorem dX7_graves_6 : decode cX7_graves 6 = .ok (.iconst 1, 1) := by decide +kernel
theorem dX7_graves_7 : decode cX7_graves 7 = .ok (.iload_n 2, 1) := by decide +kernel
theorem dX7_graves_8 : decode cX7_graves 8 = .ok (.ishl, 1) := by decide +kernel
theorem dX7_graves_9 : decode cX7_graves 9 = .ok (.ixor, 1) := by decide +kernel
theorem dX7_graves_10 : decode cX7_graves 10 = .ok (.istore_n 3, 1) := by decide +kernel
theorem dX7_graves_11 : decode cX7_graves 11 = .ok (.iconst 0, 1) := by decide +kernel
theorem dX7_graves_12 : decode cX7_graves 12 = .ok (.istore 4, 2) := by decide +kernel
theorem dX7_graves_14 : decode cX7_graves 14 = .ok (.iconst 0, 1) := by decide +kernel
theorem dX7_graves_15 : decode cX7_graves 15 = .ok (.istore 5, 2) := by decide +kernel
theorem dX7_graves_17 : decode cX7_graves 17 = .ok (.iload 5, 2) := by decide +kernel
theorem dX7_graves_19 : decode cX7_graves 19 = .ok (.bipush 8, 2) := by decide +kernel
theorem dX7_graves_21 : decode cX7_graves 21 = .ok (.if_icmp .ge 43, 3) := by decide +kernel
theorem dX7_graves_24 : decode cX7_graves 24 = .ok (.aload_n 1, 1) := by decide +kernel
theorem dX7_graves_25 : decode cX7_graves 25 = .ok (.iload_n 2, 1) := by decide +kernel
theorem dX7_graves_26 : decode cX7_graves 26 = .ok (.iconst 0, 1) := by decide +kernel
theorem dX7_graves_27 : decode cX7_graves 27 = .ok (.invokevirtual 37, 3) := by decide +kernel
theorem dX7_graves_30 : decode cX7_graves 30 = .ok (.iload 5, 2) := by decide +kernel
theorem dX7_graves_32 : decode cX7_graves 32 = .ok (.invokestatic 40, 3) := by decide +kernel
theorem dX7_graves_35 : decode cX7_graves 35 = .ok (.ifCond .eq 23, 3) := by decide +kernel
theorem dX7_graves_38 : decode cX7_graves 38 = .ok (.aload_n 0, 1) := by decide +kernel
theorem dX7_graves_39 : decode cX7_graves 39 = .ok (.aload_n 1, 1) := by decide +kernel
theorem dX7_graves_40 : decode cX7_graves 40 = .ok (.iload_n 3, 1) := by decide +kernel
theorem dX7_graves_41 : decode cX7_graves 41 = .ok (.iload 5, 2) := by decide +kernel
theorem dX7_graves_43 : decode cX7_graves 43 = .ok (.invokevirtual 60, 3) := by decide +kernel
theorem dX7_graves_46 : decode cX7_graves 46 = .ok (.ifCond .le 12, 3) := by decide +kernel
theorem dX7_graves_49 : decode cX7_graves 49 = .ok (.iload 4, 2) := by decide +kernel
theorem dX7_graves_51 : decode cX7_graves 51 = .ok (.iconst 1, 1) := by decide +kernel
theorem dX7_graves_52 : decode cX7_graves 52 = .ok (.iload 5, 2) := by decide +kernel
theorem dX7_graves_54 : decode cX7_graves 54 = .ok (.ishl, 1) := by decide +kernel
theorem dX7_graves_55 : decode cX7_graves 55 = .ok (.ior, 1) := by decide +kernel
theorem dX7_graves_56 : decode cX7_graves 56 = .ok (.istore 4, 2) := by decide +kernel
theorem dX7_graves_58 : decode cX7_graves 58 = .ok (.iinc 5 1, 3) := by decide +kernel
theorem dX7_graves_61 : decode cX7_graves 61 = .ok (.goto (-44), 3) := by decide +kernel
theorem dX7_graves_64 : decode cX7_graves 64 = .ok (.iload 4, 2) := by decide +kernel
theorem dX7_graves_66 : decode cX7_graves 66 = .ok (.ireturn, 1) := by decide +kernel
theorem dX7_sureGrave_0 : decode cX7_sureGrave 0 = .ok (.aload_n 0, 1) := by decide +kernel
theorem dX7_sureGrave_1 : decode cX7_sureGrave 1 = .ok (.aload_n 1, 1) := by decide +kernel
theorem dX7_sureGrave_2 : decode cX7_sureGrave 2 = .ok (.iload_n 2, 1) := by decide +kernel
theorem dX7_sureGrave_3 : decode cX7_sureGrave 3 = .ok (.invokevirtual 64, 3) := by decide +kernel
theorem dX7_sureGrave_6 : decode cX7_sureGrave 6 = .ok (.istore_n 3, 1) := by decide +kernel
theorem dX7_sureGrave_7 : decode cX7_sureGrave 7 = .ok (.iload_n 3, 1) := by decide +kernel
theorem dX7_sureGrave_8 : decode cX7_sureGrave 8 = .ok (.invokestatic 68, 3) := by decide +kernel
theorem dX7_sureGrave_11 : decode cX7_sureGrave 11 = .ok (.iconst 1, 1) := by decide +kernel
theorem dX7_sureGrave_12 : decode cX7_sureGrave 12 = .ok (.if_icmp .ne 10, 3) := by decide +kernel
theorem dX7_sureGrave_15 : decode cX7_sureGrave 15 = .ok (.iload_n 3, 1) := by decide +kernel
theorem dX7_sureGrave_16 : decode cX7_sureGrave 16 = .ok (.invokestatic 74, 3) := by decide +kernel
theorem dX7_sureGrave_19 : decode cX7_sureGrave 19 = .ok (.goto 4, 3) := by decide +kernel
theorem dX7_sureGrave_22 : decode cX7_sureGrave 22 = .ok (.iconst (-1), 1) := by decide +kernel
theorem dX7_sureGrave_23 : decode cX7_sureGrave 23 = .ok (.ireturn, 1) := by decide +kernel
theorem dX7_dig_0 : decode cX7_dig 0 = .ok (.aload_n 0, 1) := by decide +kernel
theorem dX7_dig_1 : decode cX7_dig 1 = .ok (.aload_n 1, 1) := by decide +kernel
theorem dX7_dig_2 : decode cX7_dig 2 = .ok (.invokevirtual 77, 3) := by decide +kernel
theorem dX7_dig_5 : decode cX7_dig 5 = .ok (.ifCond .ne 5, 3) := by decide +kernel
theorem dX7_dig_8 : decode cX7_dig 8 = .ok (.iconst (-1), 1) := by decide +kernel
theorem dX7_dig_9 : decode cX7_dig 9 = .ok (.ireturn, 1) := by decide +kernel
theorem dX7_dig_10 : decode cX7_dig 10 = .ok (.aload_n 0, 1) := by decide +kernel
theorem dX7_dig_11 : decode cX7_dig 11 = .ok (.getfield 13, 3) := by decide +kernel
theorem dX7_dig_14 : decode cX7_dig 14 = .ok (.iconst 0, 1) := by decide +kernel
theorem dX7_dig_15 : decode cX7_dig 15 = .ok (.aaload, 1) := by decide +kernel
theorem dX7_dig_16 : decode cX7_dig 16 = .ok (.invokestatic 48, 3) := by decide +kernel
theorem dX7_dig_19 : decode cX7_dig 19 = .ok (.aload_n 0, 1) := by decide +kernel
theorem dX7_dig_20 : decode cX7_dig 20 = .ok (.getfield 16, 3) := by decide +kernel
theorem dX7_dig_23 : decode cX7_dig 23 = .ok (.iconst 0, 1) := by decide +kernel
theorem dX7_dig_24 : decode cX7_dig 24 = .ok (.aaload, 1) := by decide +kernel
theorem dX7_dig_25 : decode cX7_dig 25 = .ok (.invokestatic 48, 3) := by decide +kernel
theorem dX7_dig_28 : decode cX7_dig 28 = .ok (.sipush 255, 3) := by decide +kernel
theorem dX7_dig_31 : decode cX7_dig 31 = .ok (.istore_n 2, 1) := by decide +kernel
theorem dX7_dig_32 : decode cX7_dig 32 = .ok (.iconst 0, 1) := by decide +kernel
theorem dX7_dig_33 : decode cX7_dig 33 = .ok (.istore_n 3, 1) := by decide +kernel
theorem dX7_dig_34 : decode cX7_dig 34 = .ok (.iload_n 3, 1) := by decide +kernel
theorem dX7_dig_35 : decode cX7_dig 35 = .ok (.sipush 256, 3) := by decide +kernel
theorem dX7_dig_38 : decode cX7_dig 38 = .ok (.if_icmp .ge 36, 3) := by decide +kernel
theorem dX7_dig_41 : decode cX7_dig 41 = .ok (.aload_n 0, 1) := by decide +kernel
theorem dX7_dig_42 : decode cX7_dig 42 = .ok (.aload_n 1, 1) := by decide +kernel
theorem dX7_dig_43 : decode cX7_dig 43 = .ok (.iload_n 3, 1) := by decide +kernel
theorem dX7_dig_44 : decode cX7_dig 44 = .ok (.invokevirtual 80, 3) := by decide +kernel
theorem dX7_dig_47 : decode cX7_dig 47 = .ok (.iload_n 3, 1) := by decide +kernel
theorem dX7_dig_48 : decode cX7_dig 48 = .ok (.invokestatic 68, 3) := by decide +kernel
theorem dX7_dig_51 : decode cX7_dig 51 = .ok (.iload_n 2, 1) := by decide +kernel
theorem dX7_dig_52 : decode cX7_dig 52 = .ok (.invokestatic 68, 3) := by decide +kernel
theorem dX7_dig_55 : decode cX7_dig 55 = .ok (.if_icmp .ge 13, 3) := by decide +kernel
theorem dX7_dig_58 : decode cX7_dig 58 = .ok (.aload_n 0, 1) := by decide +kernel
theorem dX7_dig_59 : decode cX7_dig 59 = .ok (.aload_n 1, 1) := by decide +kernel
theorem dX7_dig_60 : decode cX7_dig 60 = .ok (.invokevirtual 84, 3) := by decide +kernel
theorem dX7_dig_63 : decode cX7_dig 63 = .ok (.ifCond .eq 5, 3) := by decide +kernel
theorem dX7_dig_66 : decode cX7_dig 66 = .ok (.iload_n 3, 1) := by decide +kernel
theorem dX7_dig_67 : decode cX7_dig 67 = .ok (.istore_n 2, 1) := by decide +kernel
theorem dX7_dig_68 : decode cX7_dig 68 = .ok (.iinc 3 1, 3) := by decide +kernel
theorem dX7_dig_71 : decode cX7_dig 71 = .ok (.goto (-37), 3) := by decide +kernel
theorem dX7_dig_74 : decode cX7_dig 74 = .ok (.iload_n 2, 1) := by decide +kernel
theorem dX7_dig_75 : decode cX7_dig 75 = .ok (.ireturn, 1) := by decide +kernel
theorem dX7_openThese_0 : decode cX7_openThese 0 = .ok (.iload_n 2, 1) := by decide +kernel
theorem dX7_openThese_1 : decode cX7_openThese 1 = .ok (.invokestatic 74, 3) := by decide +kernel
theorem dX7_openThese_4 : decode cX7_openThese 4 = .ok (.bipush 7, 2) := by decide +kernel
theorem dX7_openThese_6 : decode cX7_openThese 6 = .ok (.invokestatic 25, 3) := by decide +kernel
theorem dX7_openThese_9 : decode cX7_openThese 9 = .ok (.istore_n 3, 1) := by decide +kernel
theorem dX7_openThese_10 : decode cX7_openThese 10 = .ok (.iload_n 3, 1) := by decide +kernel
theorem dX7_openThese_11 : decode cX7_openThese 11 = .ok (.istore 4, 2) := by decide +kernel
theorem dX7_openThese_13 : decode cX7_openThese 13 = .ok (.iload 4, 2) := by decide +kernel
theorem dX7_openThese_15 : decode cX7_openThese 15 = .ok (.ifCond .lt 86, 3) := by decide +kernel
theorem dX7_openThese_18 : decode cX7_openThese 18 = .ok (.bipush 7, 2) := by decide +kernel
theorem dX7_openThese_20 : decode cX7_openThese 20 = .ok (.iload 4, 2) := by decide +kernel
theorem dX7_openThese_22 : decode cX7_openThese 22 = .ok (.isub, 1) := by decide +kernel
theorem dX7_openThese_23 : decode cX7_openThese 23 = .ok (.istore 5, 2) := by decide +kernel
theorem dX7_openThese_25 : decode cX7_openThese 25 = .ok (.iload_n 2, 1) := by decide +kernel
theorem dX7_openThese_26 : decode cX7_openThese 26 = .ok (.iload 4, 2) := by decide +kernel
theorem dX7_openThese_28 : decode cX7_openThese 28 = .ok (.invokestatic 40, 3) := by decide +kernel
theorem dX7_openThese_31 : decode cX7_openThese 31 = .ok (.istore 6, 2) := by decide +kernel
theorem dX7_openThese_33 : decode cX7_openThese 33 = .ok (.aload_n 0, 1) := by decide +kernel
theorem dX7_openThese_34 : decode cX7_openThese 34 = .ok (.getfield 13, 3) := by decide +kernel
theorem dX7_openThese_37 : decode cX7_openThese 37 = .ok (.iload 5, 2) := by decide +kernel
theorem dX7_openThese_39 : decode cX7_openThese 39 = .ok (.aaload, 1) := by decide +kernel
theorem dX7_openThese_40 : decode cX7_openThese 40 = .ok (.aload_n 0, 1) := by decide +kernel
theorem dX7_openThese_41 : decode cX7_openThese 41 = .ok (.getfield 13, 3) := by decide +kernel
theorem dX7_openThese_44 : decode cX7_openThese 44 = .ok (.iload 5, 2) := by decide +kernel
theorem dX7_openThese_46 : decode cX7_openThese 46 = .ok (.iconst 1, 1) := by decide +kernel
theorem dX7_openThese_47 : decode cX7_openThese 47 = .ok (.iadd, 1) := by decide +kernel
theorem dX7_openThese_48 : decode cX7_openThese 48 = .ok (.aaload, 1) := by decide +kernel
theorem dX7_openThese_49 : decode cX7_openThese 49 = .ok (.aload_n 1, 1) := by decide +kernel
theorem dX7_openThese_50 : decode cX7_openThese 50 = .ok (.iload 6, 2) := by decide +kernel
theorem dX7_openThese_52 : decode cX7_openThese 52 = .ok (.ifCond .eq 8, 3) := by decide +kernel
theorem dX7_openThese_55 : decode cX7_openThese 55 = .ok (.iload 4, 2) := by decide +kernel
theorem dX7_openThese_57 : decode cX7_openThese 57 = .ok (.goto 4, 3) := by decide +kernel
theorem dX7_openThese_60 : decode cX7_openThese 60 = .ok (.iconst (-1), 1) := by decide +kernel
theorem dX7_openThese_61 : decode cX7_openThese 61 = .ok (.invokestatic 52, 3) := by decide +kernel
theorem dX7_openThese_64 : decode cX7_openThese 64 = .ok (.aload_n 0, 1) := by decide +kernel
theorem dX7_openThese_65 : decode cX7_openThese 65 = .ok (.getfield 16, 3) := by decide +kernel
theorem dX7_openThese_68 : decode cX7_openThese 68 = .ok (.iload 5, 2) := by decide +kernel
theorem dX7_openThese_70 : decode cX7_openThese 70 = .ok (.aaload, 1) := by decide +kernel
theorem dX7_openThese_71 : decode cX7_openThese 71 = .ok (.aload_n 0, 1) := by decide +kernel
theorem dX7_openThese_72 : decode cX7_openThese 72 = .ok (.getfield 16, 3) := by decide +kernel
theorem dX7_openThese_75 : decode cX7_openThese 75 = .ok (.iload 5, 2) := by decide +kernel
theorem dX7_openThese_77 : decode cX7_openThese 77 = .ok (.iconst 1, 1) := by decide +kernel
theorem dX7_openThese_78 : decode cX7_openThese 78 = .ok (.iadd, 1) := by decide +kernel
theorem dX7_openThese_79 : decode cX7_openThese 79 = .ok (.aaload, 1) := by decide +kernel
theorem dX7_openThese_80 : decode cX7_openThese 80 = .ok (.aload_n 1, 1) := by decide +kernel
theorem dX7_openThese_81 : decode cX7_openThese 81 = .ok (.iload 6, 2) := by decide +kernel
theorem dX7_openThese_83 : decode cX7_openThese 83 = .ok (.ifCond .eq 7, 3) := by decide +kernel
theorem dX7_openThese_86 : decode cX7_openThese 86 = .ok (.iconst (-1), 1) := by decide +kernel
theorem dX7_openThese_87 : decode cX7_openThese 87 = .ok (.goto 5, 3) := by decide +kernel
theorem dX7_openThese_90 : decode cX7_openThese 90 = .ok (.iload 4, 2) := by decide +kernel
theorem dX7_openThese_92 : decode cX7_openThese 92 = .ok (.invokestatic 52, 3) := by decide +kernel
theorem dX7_openThese_95 : decode cX7_openThese 95 = .ok (.iinc 4 (-1), 3) := by decide +kernel
theorem dX7_openThese_98 : decode cX7_openThese 98 = .ok (.goto (-85), 3) := by decide +kernel
theorem dX7_openThese_101 : decode cX7_openThese 101 = .ok (.return_, 1) := by decide +kernel
theorem dX7_tellsAll_0 : decode cX7_tellsAll 0 = .ok (.aload_n 1, 1) := by decide +kernel
theorem dX7_tellsAll_1 : decode cX7_tellsAll 1 = .ok (.invokestatic 56, 3) := by decide +kernel
theorem dX7_tellsAll_4 : decode cX7_tellsAll 4 = .ok (.iconst 1, 1) := by decide +kernel
theorem dX7_tellsAll_5 : decode cX7_tellsAll 5 = .ok (.isub, 1) := by decide +kernel
theorem dX7_tellsAll_6 : decode cX7_tellsAll 6 = .ok (.istore_n 2, 1) := by decide +kernel
theorem dX7_tellsAll_7 : decode cX7_tellsAll 7 = .ok (.iconst 0, 1) := by decide +kernel
theorem dX7_tellsAll_8 : decode cX7_tellsAll 8 = .ok (.istore_n 3, 1) := by decide +kernel
theorem dX7_tellsAll_9 : decode cX7_tellsAll 9 = .ok (.iload_n 3, 1) := by decide +kernel
theorem dX7_tellsAll_10 : decode cX7_tellsAll 10 = .ok (.iload_n 2, 1) := by decide +kernel
theorem dX7_tellsAll_11 : decode cX7_tellsAll 11 = .ok (.if_icmp .gt 38, 3) := by decide +kernel
theorem dX7_tellsAll_14 : decode cX7_tellsAll 14 = .ok (.aload_n 0, 1) := by decide +kernel
theorem dX7_tellsAll_15 : decode cX7_tellsAll 15 = .ok (.getfield 13, 3) := by decide +kernel
theorem dX7_tellsAll_18 : decode cX7_tellsAll 18 = .ok (.bipush 8, 2) := by decide +kernel
theorem dX7_tellsAll_20 : decode cX7_tellsAll 20 = .ok (.aaload, 1) := by decide +kernel
theorem dX7_tellsAll_21 : decode cX7_tellsAll 21 = .ok (.iload_n 3, 1) := by decide +kernel
theorem dX7_tellsAll_22 : decode cX7_tellsAll 22 = .ok (.iaload, 1) := by decide +kernel
theorem dX7_tellsAll_23 : decode cX7_tellsAll 23 = .ok (.ifCond .le 20, 3) := by decide +kernel
theorem dX7_tellsAll_26 : decode cX7_tellsAll 26 = .ok (.aload_n 0, 1) := by decide +kernel
theorem dX7_tellsAll_27 : decode cX7_tellsAll 27 = .ok (.getfield 16, 3) := by decide +kernel
theorem dX7_tellsAll_30 : decode cX7_tellsAll 30 = .ok (.bipush 8, 2) := by decide +kernel
theorem dX7_tellsAll_32 : decode cX7_tellsAll 32 = .ok (.aaload, 1) := by decide +kernel
theorem dX7_tellsAll_33 : decode cX7_tellsAll 33 = .ok (.iload_n 2, 1) := by decide +kernel
theorem dX7_tellsAll_34 : decode cX7_tellsAll 34 = .ok (.iload_n 3, 1) := by decide +kernel
theorem dX7_tellsAll_35 : decode cX7_tellsAll 35 = .ok (.ixor, 1) := by decide +kernel
theorem dX7_tellsAll_36 : decode cX7_tellsAll 36 = .ok (.iaload, 1) := by decide +kernel
theorem dX7_tellsAll_37 : decode cX7_tellsAll 37 = .ok (.iconst 1, 1) := by decide +kernel
theorem dX7_tellsAll_38 : decode cX7_tellsAll 38 = .ok (.if_icmp .le 5, 3) := by decide +kernel
theorem dX7_tellsAll_41 : decode cX7_tellsAll 41 = .ok (.iconst 0, 1) := by decide +kernel
theorem dX7_tellsAll_42 : decode cX7_tellsAll 42 = .ok (.ireturn, 1) := by decide +kernel
theorem dX7_tellsAll_43 : decode cX7_tellsAll 43 = .ok (.iinc 3 1, 3) := by decide +kernel
theorem dX7_tellsAll_46 : decode cX7_tellsAll 46 = .ok (.goto (-37), 3) := by decide +kernel
theorem dX7_tellsAll_49 : decode cX7_tellsAll 49 = .ok (.iconst 1, 1) := by decide +kernel
theorem dX7_tellsAll_50 : decode cX7_tellsAll 50 = .ok (.ireturn, 1) := by decide +kernel
theorem dX4_init_0 : decode cX4_init 0 = .ok (.aload_n 0, 1) := by decide +kernel
theorem dX4_init_1 : decode cX4_init 1 = .ok (.invokespecial 3, 3) := by decide +kernel
theorem dX4_init_4 : decode cX4_init 4 = .ok (.aload_n 0, 1) := by decide +kernel
theorem dX4_init_5 : decode cX4_init 5 = .ok (.iconst 5, 1) := by decide +kernel
theorem dX4_init_6 : decode cX4_init 6 = .ok (.newarray .int, 2) := by decide +kernel
theorem dX4_init_8 : decode cX4_init 8 = .ok (.putfield 9, 3) := by decide +kernel
theorem dX4_init_11 : decode cX4_init 11 = .ok (.aload_n 0, 1) := by decide +kernel
theorem dX4_init_12 : decode cX4_init 12 = .ok (.bipush 16, 2) := by decide +kernel
theorem dX4_init_14 : decode cX4_init 14 = .ok (.newarray .int, 2) := by decide +kernel
theorem dX4_init_16 : decode cX4_init 16 = .ok (.putfield 15, 3) := by decide +kernel
theorem dX4_init_19 : decode cX4_init 19 = .ok (.aload_n 0, 1) := by decide +kernel
theorem dX4_init_20 : decode cX4_init 20 = .ok (.aload_n 1, 1) := by decide +kernel
theorem dX4_init_21 : decode cX4_init 21 = .ok (.putfield 18, 3) := by decide +kernel
theorem dX4_init_24 : decode cX4_init 24 = .ok (.aload_n 0, 1) := by decide +kernel
theorem dX4_init_25 : decode cX4_init 25 = .ok (.aload_n 1, 1) := by decide +kernel
theorem dX4_init_26 : decode cX4_init 26 = .ok (.putfield 22, 3) := by decide +kernel
theorem dX4_init_29 : decode cX4_init 29 = .ok (.return_, 1) := by decide +kernel
theorem dX4_launch_0 : decode cX4_launch 0 = .ok (.aload_n 0, 1) := by decide +kernel
theorem dX4_launch_1 : decode cX4_launch 1 = .ok (.aload_n 1, 1) := by decide +kernel
theorem dX4_launch_2 : decode cX4_launch 2 = .ok (.putfield 18, 3) := by decide +kernel
theorem dX4_launch_5 : decode cX4_launch 5 = .ok (.aload_n 0, 1) := by decide +kernel
theorem dX4_launch_6 : decode cX4_launch 6 = .ok (.aload_n 2, 1) := by decide +kernel
theorem dX4_launch_7 : decode cX4_launch 7 = .ok (.putfield 22, 3) := by decide +kernel
theorem dX4_launch_10 : decode cX4_launch 10 = .ok (.aload_n 0, 1) := by decide +kernel
theorem dX4_launch_11 : decode cX4_launch 11 = .ok (.iconst 0, 1) := by decide +kernel
theorem dX4_launch_12 : decode cX4_launch 12 = .ok (.putfield 25, 3) := by decide +kernel
theorem dX4_launch_15 : decode cX4_launch 15 = .ok (.aload_n 0, 1) := by decide +kernel
theorem dX4_launch_16 : decode cX4_launch 16 = .ok (.iconst 0, 1) := by decide +kernel
theorem dX4_launch_17 : decode cX4_launch 17 = .ok (.putfield 29, 3) := by decide +kernel
theorem dX4_launch_20 : decode cX4_launch 20 = .ok (.aload_n 0, 1) := by decide +kernel
theorem dX4_launch_21 : decode cX4_launch 21 = .ok (.iconst 0, 1) := by decide +kernel
theorem dX4_launch_22 : decode cX4_launch 22 = .ok (.putfield 32, 3) := by decide +kernel
theorem dX4_launch_25 : decode cX4_launch 25 = .ok (.aload_n 0, 1) := by decide +kernel
theorem dX4_launch_26 : decode cX4_launch 26 = .ok (.iconst 0, 1) := by decide +kernel
theorem dX4_launch_27 : decode cX4_launch 27 = .ok (.putfield 36, 3) := by decide +kernel
theorem dX4_launch_30 : decode cX4_launch 30 = .ok (.aload_n 0, 1) := by decide +kernel
theorem dX4_launch_31 : decode cX4_launch 31 = .ok (.iconst 0, 1) := by decide +kernel
theorem dX4_launch_32 : decode cX4_launch 32 = .ok (.putfield 39, 3) := by decide +kernel
theorem dX4_launch_35 : decode cX4_launch 35 = .ok (.aload_n 0, 1) := by decide +kernel
theorem dX4_launch_36 : decode cX4_launch 36 = .ok (.iconst (-1), 1) := by decide +kernel
theorem dX4_launch_37 : decode cX4_launch 37 = .ok (.putfield 42, 3) := by decide +kernel
theorem dX4_launch_40 : decode cX4_launch 40 = .ok (.aload_n 0, 1) := by decide +kernel
theorem dX4_launch_41 : decode cX4_launch 41 = .ok (.iconst 0, 1) := by decide +kernel
theorem dX4_launch_42 : decode cX4_launch 42 = .ok (.putfield 45, 3) := by decide +kernel
theorem dX4_launch_45 : decode cX4_launch 45 = .ok (.iconst 0, 1) := by decide +kernel
theorem dX4_launch_46 : decode cX4_launch 46 = .ok (.istore_n 3, 1) := by decide +kernel
theorem dX4_launch_47 : decode cX4_launch 47 = .ok (.iload_n 3, 1) := by decide +kernel
theorem dX4_launch_48 : decode cX4_launch 48 = .ok (.iconst 5, 1) := by decide +kernel
theorem dX4_launch_49 : decode cX4_launch 49 = .ok (.if_icmp .ge 16, 3) := by decide +kernel
theorem dX4_launch_52 : decode cX4_launch 52 = .ok (.aload_n 0, 1) := by decide +kernel
theorem dX4_launch_53 : decode cX4_launch 53 = .ok (.getfield 9, 3) := by decide +kernel
theorem dX4_launch_56 : decode cX4_launch 56 = .ok (.iload_n 3, 1) := by decide +kernel
theorem dX4_launch_57 : decode cX4_launch 57 = .ok (.iconst (-1), 1) := by decide +kernel
theorem dX4_launch_58 : decode cX4_launch 58 = .ok (.iastore, 1) := by decide +kernel
theorem dX4_launch_59 : decode cX4_launch 59 = .ok (.iinc 3 1, 3) := by decide +kernel
theorem dX4_launch_62 : decode cX4_launch 62 = .ok (.goto (-15), 3) := by decide +kernel
theorem dX4_launch_65 : decode cX4_launch 65 = .ok (.iconst 0, 1) := by decide +kernel
theorem dX4_launch_66 : decode cX4_launch 66 = .ok (.istore_n 3, 1) := by decide +kernel
theorem dX4_launch_67 : decode cX4_launch 67 = .ok (.iload_n 3, 1) := by decide +kernel
theorem dX4_launch_68 : decode cX4_launch 68 = .ok (.bipush 16, 2) := by decide +kernel
theorem dX4_launch_70 : decode cX4_launch 70 = .ok (.if_icmp .ge 16, 3) := by decide +kernel
theorem dX4_launch_73 : decode cX4_launch 73 = .ok (.aload_n 0, 1) := by decide +kernel
theorem dX4_launch_74 : decode cX4_launch 74 = .ok (.getfield 15, 3) := by decide +kernel
theorem dX4_launch_77 : decode cX4_launch 77 = .ok (.iload_n 3, 1) := by decide +kernel
theorem dX4_launch_78 : decode cX4_launch 78 = .ok (.iconst 0, 1) := by decide +kernel
theorem dX4_launch_79 : decode cX4_launch 79 = .ok (.iastore, 1) := by decide +kernel
theorem dX4_launch_80 : decode cX4_launch 80 = .ok (.iinc 3 1, 3) := by decide +kernel
theorem dX4_launch_83 : decode cX4_launch 83 = .ok (.goto (-16), 3) := by decide +kernel
theorem dX4_launch_86 : decode cX4_launch 86 = .ok (.aload_n 0, 1) := by decide +kernel
theorem dX4_launch_87 : decode cX4_launch 87 = .ok (.aload_n 1, 1) := by decide +kernel
theorem dX4_launch_88 : decode cX4_launch 88 = .ok (.getfield 48, 3) := by decide +kernel
theorem dX4_launch_91 : decode cX4_launch 91 = .ok (.iconst 4, 1) := by decide +kernel
theorem dX4_launch_92 : decode cX4_launch 92 = .ok (.iaload, 1) := by decide +kernel
theorem dX4_launch_93 : decode cX4_launch 93 = .ok (.aload_n 1, 1) := by decide +kernel
theorem dX4_launch_94 : decode cX4_launch 94 = .ok (.getfield 48, 3) := by decide +kernel
theorem dX4_launch_97 : decode cX4_launch 97 = .ok (.iconst 5, 1) := by decide +kernel
theorem dX4_launch_98 : decode cX4_launch 98 = .ok (.iaload, 1) := by decide +kernel
theorem dX4_launch_99 : decode cX4_launch 99 = .ok (.invokevirtual 53, 3) := by decide +kernel
theorem dX4_launch_102 : decode cX4_launch 102 = .ok (.aload_n 0, 1) := by decide +kernel
theorem dX4_launch_103 : decode cX4_launch 103 = .ok (.aload_n 0, 1) := by decide +kernel
theorem dX4_launch_104 : decode cX4_launch 104 = .ok (.invokevirtual 57, 3) := by decide +kernel
theorem dX4_launch_107 : decode cX4_launch 107 = .ok (.putfield 61, 3) := by decide +kernel
theorem dX4_launch_110 : decode cX4_launch 110 = .ok (.return_, 1) := by decide +kernel
theorem dX4_putAt_0 : decode cX4_putAt 0 = .ok (.aload_n 0, 1) := by decide +kernel
theorem dX4_putAt_1 : decode cX4_putAt 1 = .ok (.iload_n 1, 1) := by decide +kernel
theorem dX4_putAt_2 : decode cX4_putAt 2 = .ok (.putfield 64, 3) := by decide +kernel
theorem dX4_putAt_5 : decode cX4_putAt 5 = .ok (.aload_n 0, 1) := by decide +kernel
theorem dX4_putAt_6 : decode cX4_putAt 6 = .ok (.iload_n 2, 1) := by decide +kernel
theorem dX4_putAt_7 : decode cX4_putAt 7 = .ok (.putfield 67, 3) := by decide +kernel
theorem dX4_putAt_10 : decode cX4_putAt 10 = .ok (.return_, 1) := by decide +kernel
theorem dX4_answer_0 : decode cX4_answer 0 = .ok (.iload_n 1, 1) := by decide +kernel
theorem dX4_answer_1 : decode cX4_answer 1 = .ok (.tableswitch 138 0 10 #[59, 64, 69, 74, 79, 84, 89, 102, 115, 128, 133], 59) := by decide +kernel
theorem dX4_answer_60 : decode cX4_answer 60 = .ok (.aload_n 0, 1) := by decide +kernel
theorem dX4_answer_61 : decode cX4_answer 61 = .ok (.getfield 64, 3) := by decide +kernel
theorem dX4_answer_64 : decode cX4_answer 64 = .ok (.ireturn, 1) := by decide +kernel
theorem dX4_answer_65 : decode cX4_answer 65 = .ok (.aload_n 0, 1) := by decide +kernel
theorem dX4_answer_66 : decode cX4_answer 66 = .ok (.getfield 67, 3) := by decide +kernel
theorem dX4_answer_69 : decode cX4_answer 69 = .ok (.ireturn, 1) := by decide +kernel
theorem dX4_answer_70 : decode cX4_answer 70 = .ok (.aload_n 0, 1) := by decide +kernel
theorem dX4_answer_71 : decode cX4_answer 71 = .ok (.getfield 25, 3) := by decide +kernel
theorem dX4_answer_74 : decode cX4_answer 74 = .ok (.ireturn, 1) := by decide +kernel
theorem dX4_answer_75 : decode cX4_answer 75 = .ok (.aload_n 0, 1) := by decide +kernel
theorem dX4_answer_76 : decode cX4_answer 76 = .ok (.getfield 29, 3) := by decide +kernel
theorem dX4_answer_79 : decode cX4_answer 79 = .ok (.ireturn, 1) := by decide +kernel
theorem dX4_answer_80 : decode cX4_answer 80 = .ok (.aload_n 0, 1) := by decide +kernel
theorem dX4_answer_81 : decode cX4_answer 81 = .ok (.getfield 61, 3) := by decide +kernel
theorem dX4_answer_84 : decode cX4_answer 84 = .ok (.ireturn, 1) := by decide +kernel
theorem dX4_answer_85 : decode cX4_answer 85 = .ok (.aload_n 0, 1) := by decide +kernel
theorem dX4_answer_86 : decode cX4_answer 86 = .ok (.invokevirtual 70, 3) := by decide +kernel
theorem dX4_answer_89 : decode cX4_answer 89 = .ok (.ireturn, 1) := by decide +kernel
theorem dX4_answer_90 : decode cX4_answer 90 = .ok (.aload_n 0, 1) := by decide +kernel
theorem dX4_answer_91 : decode cX4_answer 91 = .ok (.getfield 32, 3) := by decide +kernel
theorem dX4_answer_94 : decode cX4_answer 94 = .ok (.ifCond .eq 7, 3) := by decide +kernel
theorem dX4_answer_97 : decode cX4_answer 97 = .ok (.iconst 1, 1) := by decide +kernel
theorem dX4_answer_98 : decode cX4_answer 98 = .ok (.goto 4, 3) := by decide +kernel
theorem dX4_answer_101 : decode cX4_answer 101 = .ok (.iconst 0, 1) := by decide +kernel
theorem dX4_answer_102 : decode cX4_answer 102 = .ok (.ireturn, 1) := by decide +kernel
theorem dX4_answer_103 : decode cX4_answer 103 = .ok (.aload_n 0, 1) := by decide +kernel
theorem dX4_answer_104 : decode cX4_answer 104 = .ok (.getfield 36, 3) := by decide +kernel
theorem dX4_answer_107 : decode cX4_answer 107 = .ok (.ifCond .eq 7, 3) := by decide +kernel
theorem dX4_answer_110 : decode cX4_answer 110 = .ok (.iconst 1, 1) := by decide +kernel
theorem dX4_answer_111 : decode cX4_answer 111 = .ok (.goto 4, 3) := by decide +kernel
theorem dX4_answer_114 : decode cX4_answer 114 = .ok (.iconst 0, 1) := by decide +kernel
theorem dX4_answer_115 : decode cX4_answer 115 = .ok (.ireturn, 1) := by decide +kernel
theorem dX4_answer_116 : decode cX4_answer 116 = .ok (.aload_n 0, 1) := by decide +kernel
theorem dX4_answer_117 : decode cX4_answer 117 = .ok (.getfield 39, 3) := by decide +kernel
theorem dX4_answer_120 : decode cX4_answer 120 = .ok (.ifCond .eq 7, 3) := by decide +kernel
theorem dX4_answer_123 : decode cX4_answer 123 = .ok (.iconst 1, 1) := by decide +kernel
theorem dX4_answer_124 : decode cX4_answer 124 = .ok (.goto 4, 3) := by decide +kernel
theorem dX4_answer_127 : decode cX4_answer 127 = .ok (.iconst 0, 1) := by decide +kernel
theorem dX4_answer_128 : decode cX4_answer 128 = .ok (.ireturn, 1) := by decide +kernel
theorem dX4_answer_129 : decode cX4_answer 129 = .ok (.aload_n 0, 1) := by decide +kernel
theorem dX4_answer_130 : decode cX4_answer 130 = .ok (.getfield 42, 3) := by decide +kernel
theorem dX4_answer_133 : decode cX4_answer 133 = .ok (.ireturn, 1) := by decide +kernel
theorem dX4_answer_134 : decode cX4_answer 134 = .ok (.aload_n 0, 1) := by decide +kernel
theorem dX4_answer_135 : decode cX4_answer 135 = .ok (.getfield 45, 3) := by decide +kernel
theorem dX4_answer_138 : decode cX4_answer 138 = .ok (.ireturn, 1) := by decide +kernel
theorem dX4_answer_139 : decode cX4_answer 139 = .ok (.aload_n 0, 1) := by decide +kernel
theorem dX4_answer_140 : decode cX4_answer 140 = .ok (.iload_n 1, 1) := by decide +kernel
theorem dX4_answer_141 : decode cX4_answer 141 = .ok (.invokevirtual 73, 3) := by decide +kernel
theorem dX4_answer_144 : decode cX4_answer 144 = .ok (.ireturn, 1) := by decide +kernel
theorem dX4_answerOfOne_0 : decode cX4_answerOfOne 0 = .ok (.iload_n 1, 1) := by decide +kernel
theorem dX4_answerOfOne_1 : decode cX4_answerOfOne 1 = .ok (.bipush 20, 2) := by decide +kernel
theorem dX4_answerOfOne_3 : decode cX4_answerOfOne 3 = .ok (.if_icmp .lt 41, 3) := by decide +kernel
theorem dX4_answerOfOne_6 : decode cX4_answerOfOne 6 = .ok (.iload_n 1, 1) := by decide +kernel
theorem dX4_answerOfOne_7 : decode cX4_answerOfOne 7 = .ok (.bipush 25, 2) := by decide +kernel
theorem dX4_answerOfOne_9 : decode cX4_answerOfOne 9 = .ok (.if_icmp .ge 35, 3) := by decide +kernel
theorem dX4_answerOfOne_12 : decode cX4_answerOfOne 12 = .ok (.aload_n 0, 1) := by decide +kernel
theorem dX4_answerOfOne_13 : decode cX4_answerOfOne 13 = .ok (.getfield 18, 3) := by decide +kernel
theorem dX4_answerOfOne_16 : decode cX4_answerOfOne 16 = .ok (.getfield 77, 3) := by decide +kernel
theorem dX4_answerOfOne_19 : decode cX4_answerOfOne 19 = .ok (.iload_n 1, 1) := by decide +kernel
theorem dX4_answerOfOne_20 : decode cX4_answerOfOne 20 = .ok (.bipush 20, 2) := by decide +kernel
theorem dX4_answerOfOne_22 : decode cX4_answerOfOne 22 = .ok (.isub, 1) := by decide +kernel
theorem dX4_answerOfOne_23 : decode cX4_answerOfOne 23 = .ok (.invokevirtual 81, 3) := by decide +kernel
theorem dX4_answerOfOne_26 : decode cX4_answerOfOne 26 = .ok (.ifCond .eq 15, 3) := by decide +kernel
theorem dX4_answerOfOne_29 : decode cX4_answerOfOne 29 = .ok (.aload_n 0, 1) := by decide +kernel
theorem dX4_answerOfOne_30 : decode cX4_answerOfOne 30 = .ok (.getfield 9, 3) := by decide +kernel
theorem dX4_answerOfOne_33 : decode cX4_answerOfOne 33 = .ok (.iload_n 1, 1) := by decide +kernel
theorem dX4_answerOfOne_34 : decode cX4_answerOfOne 34 = .ok (.bipush 20, 2) := by decide +kernel
theorem dX4_answerOfOne_36 : decode cX4_answerOfOne 36 = .ok (.isub, 1) := by decide +kernel
theorem dX4_answerOfOne_37 : decode cX4_answerOfOne 37 = .ok (.iaload, 1) := by decide +kernel
theorem dX4_answerOfOne_38 : decode cX4_answerOfOne 38 = .ok (.goto 5, 3) := by decide +kernel
theorem dX4_answerOfOne_41 : decode cX4_answerOfOne 41 = .ok (.bipush (-2), 2) := by decide +kernel
theorem dX4_answerOfOne_43 : decode cX4_answerOfOne 43 = .ok (.ireturn, 1) := by decide +kernel
theorem dX4_answerOfOne_44 : decode cX4_answerOfOne 44 = .ok (.iload_n 1, 1) := by decide +kernel
theorem dX4_answerOfOne_45 : decode cX4_answerOfOne 45 = .ok (.bipush 30, 2) := by decide +kernel
theorem dX4_answerOfOne_47 : decode cX4_answerOfOne 47 = .ok (.if_icmp .lt 26, 3) := by decide +kernel
theorem dX4_answerOfOne_50 : decode cX4_answerOfOne 50 = .ok (.aload_n 0, 1) := by decide +kernel
theorem dX4_answerOfOne_51 : decode cX4_answerOfOne 51 = .ok (.iload_n 1, 1) := by decide +kernel
theorem dX4_answerOfOne_52 : decode cX4_answerOfOne 52 = .ok (.bipush 30, 2) := by decide +kernel
theorem dX4_answerOfOne_54 : decode cX4_answerOfOne 54 = .ok (.isub, 1) := by decide +kernel
theorem dX4_answerOfOne_55 : decode cX4_answerOfOne 55 = .ok (.invokevirtual 87, 3) := by decide +kernel
theorem dX4_answerOfOne_58 : decode cX4_answerOfOne 58 = .ok (.ifCond .eq 15, 3) := by decide +kernel
theorem dX4_answerOfOne_61 : decode cX4_answerOfOne 61 = .ok (.aload_n 0, 1) := by decide +kernel
theorem dX4_answerOfOne_62 : decode cX4_answerOfOne 62 = .ok (.getfield 15, 3) := by decide +kernel
theorem dX4_answerOfOne_65 : decode cX4_answerOfOne 65 = .ok (.iload_n 1, 1) := by decide +kernel
theorem dX4_answerOfOne_66 : decode cX4_answerOfOne 66 = .ok (.bipush 30, 2) := by decide +kernel
theorem dX4_answerOfOne_68 : decode cX4_answerOfOne 68 = .ok (.isub, 1) := by decide +kernel
theorem dX4_answerOfOne_69 : decode cX4_answerOfOne 69 = .ok (.iaload, 1) := by decide +kernel
theorem dX4_answerOfOne_70 : decode cX4_answerOfOne 70 = .ok (.goto 5, 3) := by decide +kernel
theorem dX4_answerOfOne_73 : decode cX4_answerOfOne 73 = .ok (.bipush (-2), 2) := by decide +kernel
theorem dX4_answerOfOne_75 : decode cX4_answerOfOne 75 = .ok (.ireturn, 1) := by decide +kernel
theorem dX4_hasPlace_0 : decode cX4_hasPlace 0 = .ok (.iload_n 1, 1) := by decide +kernel
theorem dX4_hasPlace_1 : decode cX4_hasPlace 1 = .ok (.ifCond .lt 24, 3) := by decide +kernel
theorem dX4_hasPlace_4 : decode cX4_hasPlace 4 = .ok (.iload_n 1, 1) := by decide +kernel
theorem dX4_hasPlace_5 : decode cX4_hasPlace 5 = .ok (.bipush 16, 2) := by decide +kernel
theorem dX4_hasPlace_7 : decode cX4_hasPlace 7 = .ok (.if_icmp .ge 18, 3) := by decide +kernel
theorem dX4_hasPlace_10 : decode cX4_hasPlace 10 = .ok (.iload_n 1, 1) := by decide +kernel
theorem dX4_hasPlace_11 : decode cX4_hasPlace 11 = .ok (.aload_n 0, 1) := by decide +kernel
theorem dX4_hasPlace_12 : decode cX4_hasPlace 12 = .ok (.getfield 18, 3) := by decide +kernel
theorem dX4_hasPlace_15 : decode cX4_hasPlace 15 = .ok (.invokevirtual 90, 3) := by decide +kernel
theorem dX4_hasPlace_18 : decode cX4_hasPlace 18 = .ok (.if_icmp .ge 7, 3) := by decide +kernel
theorem dX4_hasPlace_21 : decode cX4_hasPlace 21 = .ok (.iconst 1, 1) := by decide +kernel
theorem dX4_hasPlace_22 : decode cX4_hasPlace 22 = .ok (.goto 4, 3) := by decide +kernel
theorem dX4_hasPlace_25 : decode cX4_hasPlace 25 = .ok (.iconst 0, 1) := by decide +kernel
theorem dX4_hasPlace_26 : decode cX4_hasPlace 26 = .ok (.ireturn, 1) := by decide +kernel
theorem dX4_hasMourner_0 : decode cX4_hasMourner 0 = .ok (.iload_n 1, 1) := by decide +kernel
theorem dX4_hasMourner_1 : decode cX4_hasMourner 1 = .ok (.iconst 5, 1) := by decide +kernel
theorem dX4_hasMourner_2 : decode cX4_hasMourner 2 = .ok (.if_icmp .ge 21, 3) := by decide +kernel
theorem dX4_hasMourner_5 : decode cX4_hasMourner 5 = .ok (.aload_n 0, 1) := by decide +kernel
theorem dX4_hasMourner_6 : decode cX4_hasMourner 6 = .ok (.getfield 18, 3) := by decide +kernel
theorem dX4_hasMourner_9 : decode cX4_hasMourner 9 = .ok (.getfield 77, 3) := by decide +kernel
theorem dX4_hasMourner_12 : decode cX4_hasMourner 12 = .ok (.iload_n 1, 1) := by decide +kernel
theorem dX4_hasMourner_13 : decode cX4_hasMourner 13 = .ok (.invokevirtual 81, 3) := by decide +kernel
theorem dX4_hasMourner_16 : decode cX4_hasMourner 16 = .ok (.ifCond .eq 7, 3) := by decide +kernel
theorem dX4_hasMourner_19 : decode cX4_hasMourner 19 = .ok (.iconst 1, 1) := by decide +kernel
theorem dX4_hasMourner_20 : decode cX4_hasMourner 20 = .ok (.goto 4, 3) := by decide +kernel
theorem dX4_hasMourner_23 : decode cX4_hasMourner 23 = .ok (.iconst 0, 1) := by decide +kernel
theorem dX4_hasMourner_24 : decode cX4_hasMourner 24 = .ok (.ireturn, 1) := by decide +kernel
theorem dX4_allWater_0 : decode cX4_allWater 0 = .ok (.iconst 0, 1) := by decide +kernel
theorem dX4_allWater_1 : decode cX4_allWater 1 = .ok (.istore_n 1, 1) := by decide +kernel
theorem dX4_allWater_2 : decode cX4_allWater 2 = .ok (.iconst 0, 1) := by decide +kernel
theorem dX4_allWater_3 : decode cX4_allWater 3 = .ok (.istore_n 2, 1) := by decide +kernel
theorem dX4_allWater_4 : decode cX4_allWater 4 = .ok (.iload_n 2, 1) := by decide +kernel
theorem dX4_allWater_5 : decode cX4_allWater 5 = .ok (.bipush 16, 2) := by decide +kernel
theorem dX4_allWater_7 : decode cX4_allWater 7 = .ok (.if_icmp .ge 18, 3) := by decide +kernel
theorem dX4_allWater_10 : decode cX4_allWater 10 = .ok (.iload_n 1, 1) := by decide +kernel
theorem dX4_allWater_11 : decode cX4_allWater 11 = .ok (.aload_n 0, 1) := by decide +kernel
theorem dX4_allWater_12 : decode cX4_allWater 12 = .ok (.getfield 15, 3) := by decide +kernel
theorem dX4_allWater_15 : decode cX4_allWater 15 = .ok (.iload_n 2, 1) := by decide +kernel
theorem dX4_allWater_16 : decode cX4_allWater 16 = .ok (.iaload, 1) := by decide +kernel
theorem dX4_allWater_17 : decode cX4_allWater 17 = .ok (.iadd, 1) := by decide +kernel
theorem dX4_allWater_18 : decode cX4_allWater 18 = .ok (.istore_n 1, 1) := by decide +kernel
theorem dX4_allWater_19 : decode cX4_allWater 19 = .ok (.iinc 2 1, 3) := by decide +kernel
theorem dX4_allWater_22 : decode cX4_allWater 22 = .ok (.goto (-18), 3) := by decide +kernel
theorem dX4_allWater_25 : decode cX4_allWater 25 = .ok (.iload_n 1, 1) := by decide +kernel
theorem dX4_allWater_26 : decode cX4_allWater 26 = .ok (.ireturn, 1) := by decide +kernel
theorem dX4_sides_0 : decode cX4_sides 0 = .ok (.aload_n 0, 1) := by decide +kernel
theorem dX4_sides_1 : decode cX4_sides 1 = .ok (.getfield 67, 3) := by decide +kernel
theorem dX4_sides_4 : decode cX4_sides 4 = .ok (.ifCond .ne 7, 3) := by decide +kernel
theorem dX4_sides_7 : decode cX4_sides 7 = .ok (.iconst 1, 1) := by decide +kernel
theorem dX4_sides_8 : decode cX4_sides 8 = .ok (.goto 4, 3) := by decide +kernel
theorem dX4_sides_11 : decode cX4_sides 11 = .ok (.iconst 0, 1) := by decide +kernel
theorem dX4_sides_12 : decode cX4_sides 12 = .ok (.istore_n 1, 1) := by decide +kernel
theorem dX4_sides_13 : decode cX4_sides 13 = .ok (.iload_n 1, 1) := by decide +kernel
theorem dX4_sides_14 : decode cX4_sides 14 = .ok (.aload_n 0, 1) := by decide +kernel
theorem dX4_sides_15 : decode cX4_sides 15 = .ok (.getfield 64, 3) := by decide +kernel
theorem dX4_sides_18 : decode cX4_sides 18 = .ok (.aload_n 0, 1) := by decide +kernel
theorem dX4_sides_19 : decode cX4_sides 19 = .ok (.getfield 18, 3) := by decide +kernel
theorem dX4_sides_22 : decode cX4_sides 22 = .ok (.iconst 0, 1) := by decide +kernel
theorem dX4_sides_23 : decode cX4_sides 23 = .ok (.invokevirtual 93, 3) := by decide +kernel
theorem dX4_sides_26 : decode cX4_sides 26 = .ok (.iadd, 1) := by decide +kernel
theorem dX4_sides_27 : decode cX4_sides 27 = .ok (.aload_n 0, 1) := by decide +kernel
theorem dX4_sides_28 : decode cX4_sides 28 = .ok (.getfield 22, 3) := by decide +kernel
theorem dX4_sides_31 : decode cX4_sides 31 = .ok (.getfield 48, 3) := by decide +kernel
theorem dX4_sides_34 : decode cX4_sides 34 = .ok (.iconst 0, 1) := by decide +kernel
theorem dX4_sides_35 : decode cX4_sides 35 = .ok (.iaload, 1) := by decide +kernel
theorem dX4_sides_36 : decode cX4_sides 36 = .ok (.if_icmp .ne 7, 3) := by decide +kernel
theorem dX4_sides_39 : decode cX4_sides 39 = .ok (.iconst 2, 1) := by decide +kernel
theorem dX4_sides_40 : decode cX4_sides 40 = .ok (.goto 4, 3) := by decide +kernel
theorem dX4_sides_43 : decode cX4_sides 43 = .ok (.iconst 0, 1) := by decide +kernel
theorem dX4_sides_44 : decode cX4_sides 44 = .ok (.ior, 1) := by decide +kernel
theorem dX4_sides_45 : decode cX4_sides 45 = .ok (.istore_n 1, 1) := by decide +kernel
theorem dX4_sides_46 : decode cX4_sides 46 = .ok (.iload_n 1, 1) := by decide +kernel
theorem dX4_sides_47 : decode cX4_sides 47 = .ok (.aload_n 0, 1) := by decide +kernel
theorem dX4_sides_48 : decode cX4_sides 48 = .ok (.getfield 67, 3) := by decide +kernel
theorem dX4_sides_51 : decode cX4_sides 51 = .ok (.aload_n 0, 1) := by decide +kernel
theorem dX4_sides_52 : decode cX4_sides 52 = .ok (.getfield 18, 3) := by decide +kernel
theorem dX4_sides_55 : decode cX4_sides 55 = .ok (.iconst 1, 1) := by decide +kernel
theorem dX4_sides_56 : decode cX4_sides 56 = .ok (.invokevirtual 93, 3) := by decide +kernel
theorem dX4_sides_59 : decode cX4_sides 59 = .ok (.iadd, 1) := by decide +kernel
theorem dX4_sides_60 : decode cX4_sides 60 = .ok (.aload_n 0, 1) := by decide +kernel
theorem dX4_sides_61 : decode cX4_sides 61 = .ok (.getfield 22, 3) := by decide +kernel
theorem dX4_sides_64 : decode cX4_sides 64 = .ok (.getfield 48, 3) := by decide +kernel
theorem dX4_sides_67 : decode cX4_sides 67 = .ok (.iconst 1, 1) := by decide +kernel
theorem dX4_sides_68 : decode cX4_sides 68 = .ok (.iaload, 1) := by decide +kernel
theorem dX4_sides_69 : decode cX4_sides 69 = .ok (.if_icmp .ne 7, 3) := by decide +kernel
theorem dX4_sides_72 : decode cX4_sides 72 = .ok (.iconst 4, 1) := by decide +kernel
theorem dX4_sides_73 : decode cX4_sides 73 = .ok (.goto 4, 3) := by decide +kernel
theorem dX4_sides_76 : decode cX4_sides 76 = .ok (.iconst 0, 1) := by decide +kernel
theorem dX4_sides_77 : decode cX4_sides 77 = .ok (.ior, 1) := by decide +kernel
theorem dX4_sides_78 : decode cX4_sides 78 = .ok (.istore_n 1, 1) := by decide +kernel
theorem dX4_sides_79 : decode cX4_sides 79 = .ok (.iload_n 1, 1) := by decide +kernel
theorem dX4_sides_80 : decode cX4_sides 80 = .ok (.aload_n 0, 1) := by decide +kernel
theorem dX4_sides_81 : decode cX4_sides 81 = .ok (.getfield 64, 3) := by decide +kernel
theorem dX4_sides_84 : decode cX4_sides 84 = .ok (.ifCond .ne 8, 3) := by decide +kernel
theorem dX4_sides_87 : decode cX4_sides 87 = .ok (.bipush 8, 2) := by decide +kernel
theorem dX4_sides_89 : decode cX4_sides 89 = .ok (.goto 4, 3) := by decide +kernel
theorem dX4_sides_92 : decode cX4_sides 92 = .ok (.iconst 0, 1) := by decide +kernel
theorem dX4_sides_93 : decode cX4_sides 93 = .ok (.ior, 1) := by decide +kernel
theorem dX4_sides_94 : decode cX4_sides 94 = .ok (.ireturn, 1) := by decide +kernel
theorem dX4_listAlong_0 : decode cX4_listAlong 0 = .ok (.aload_n 0, 1) := by decide +kernel
theorem dX4_listAlong_1 : decode cX4_listAlong 1 = .ok (.getfield 18, 3) := by decide +kernel
theorem dX4_listAlong_4 : decode cX4_listAlong 4 = .ok (.iload_n 1, 1) := by decide +kernel
theorem dX4_listAlong_5 : decode cX4_listAlong 5 = .ok (.invokevirtual 96, 3) := by decide +kernel
theorem dX4_listAlong_8 : decode cX4_listAlong 8 = .ok (.istore_n 2, 1) := by decide +kernel
theorem dX4_listAlong_9 : decode cX4_listAlong 9 = .ok (.iconst 0, 1) := by decide +kernel
theorem dX4_listAlong_10 : decode cX4_listAlong 10 = .ok (.istore_n 3, 1) := by decide +kernel
theorem dX4_listAlong_11 : decode cX4_listAlong 11 = .ok (.iload_n 3, 1) := by decide +kernel
theorem dX4_listAlong_12 : decode cX4_listAlong 12 = .ok (.iconst 5, 1) := by decide +kernel
theorem dX4_listAlong_13 : decode cX4_listAlong 13 = .ok (.if_icmp .ge 49, 3) := by decide +kernel
theorem dX4_listAlong_16 : decode cX4_listAlong 16 = .ok (.aload_n 0, 1) := by decide +kernel
theorem dX4_listAlong_17 : decode cX4_listAlong 17 = .ok (.getfield 9, 3) := by decide +kernel
theorem dX4_listAlong_20 : decode cX4_listAlong 20 = .ok (.iload_n 3, 1) := by decide +kernel
theorem dX4_listAlong_21 : decode cX4_listAlong 21 = .ok (.iaload, 1) := by decide +kernel
theorem dX4_listAlong_22 : decode cX4_listAlong 22 = .ok (.iconst (-1), 1) := by decide +kernel
theorem dX4_listAlong_23 : decode cX4_listAlong 23 = .ok (.if_icmp .eq 33, 3) := by decide +kernel
theorem dX4_listAlong_26 : decode cX4_listAlong 26 = .ok (.iload_n 2, 1) := by decide +kernel
theorem dX4_listAlong_27 : decode cX4_listAlong 27 = .ok (.aload_n 0, 1) := by decide +kernel
theorem dX4_listAlong_28 : decode cX4_listAlong 28 = .ok (.getfield 18, 3) := by decide +kernel
theorem dX4_listAlong_31 : decode cX4_listAlong 31 = .ok (.getfield 77, 3) := by decide +kernel
theorem dX4_listAlong_34 : decode cX4_listAlong 34 = .ok (.iload_n 3, 1) := by decide +kernel
theorem dX4_listAlong_35 : decode cX4_listAlong 35 = .ok (.iconst 0, 1) := by decide +kernel
theorem dX4_listAlong_36 : decode cX4_listAlong 36 = .ok (.invokevirtual 99, 3) := by decide +kernel
theorem dX4_listAlong_39 : decode cX4_listAlong 39 = .ok (.aload_n 0, 1) := by decide +kernel
theorem dX4_listAlong_40 : decode cX4_listAlong 40 = .ok (.getfield 18, 3) := by decide +kernel
theorem dX4_listAlong_43 : decode cX4_listAlong 43 = .ok (.aload_n 0, 1) := by decide +kernel
theorem dX4_listAlong_44 : decode cX4_listAlong 44 = .ok (.getfield 9, 3) := by decide +kernel
theorem dX4_listAlong_47 : decode cX4_listAlong 47 = .ok (.iload_n 3, 1) := by decide +kernel
theorem dX4_listAlong_48 : decode cX4_listAlong 48 = .ok (.iaload, 1) := by decide +kernel
theorem dX4_listAlong_49 : decode cX4_listAlong 49 = .ok (.iload_n 1, 1) := by decide +kernel
theorem dX4_listAlong_50 : decode cX4_listAlong 50 = .ok (.invokevirtual 103, 3) := by decide +kernel
theorem dX4_listAlong_53 : decode cX4_listAlong 53 = .ok (.imul, 1) := by decide +kernel
theorem dX4_listAlong_54 : decode cX4_listAlong 54 = .ok (.iadd, 1) := by decide +kernel
theorem dX4_listAlong_55 : decode cX4_listAlong 55 = .ok (.istore_n 2, 1) := by decide +kernel
theorem dX4_listAlong_56 : decode cX4_listAlong 56 = .ok (.iinc 3 1, 3) := by decide +kernel
theorem dX4_listAlong_59 : decode cX4_listAlong 59 = .ok (.goto (-48), 3) := by decide +kernel
theorem dX4_listAlong_62 : decode cX4_listAlong 62 = .ok (.iconst 0, 1) := by decide +kernel
theorem dX4_listAlong_63 : decode cX4_listAlong 63 = .ok (.istore_n 3, 1) := by decide +kernel
theorem dX4_listAlong_64 : decode cX4_listAlong 64 = .ok (.iload_n 3, 1) := by decide +kernel
theorem dX4_listAlong_65 : decode cX4_listAlong 65 = .ok (.bipush 16, 2) := by decide +kernel
theorem dX4_listAlong_67 : decode cX4_listAlong 67 = .ok (.if_icmp .ge 37, 3) := by decide +kernel
theorem dX4_listAlong_70 : decode cX4_listAlong 70 = .ok (.aload_n 0, 1) := by decide +kernel
theorem dX4_listAlong_71 : decode cX4_listAlong 71 = .ok (.getfield 15, 3) := by decide +kernel
theorem dX4_listAlong_74 : decode cX4_listAlong 74 = .ok (.iload_n 3, 1) := by decide +kernel
theorem dX4_listAlong_75 : decode cX4_listAlong 75 = .ok (.iaload, 1) := by decide +kernel
theorem dX4_listAlong_76 : decode cX4_listAlong 76 = .ok (.ifCond .eq 22, 3) := by decide +kernel
theorem dX4_listAlong_79 : decode cX4_listAlong 79 = .ok (.iload_n 2, 1) := by decide +kernel
theorem dX4_listAlong_80 : decode cX4_listAlong 80 = .ok (.aload_n 0, 1) := by decide +kernel
theorem dX4_listAlong_81 : decode cX4_listAlong 81 = .ok (.getfield 15, 3) := by decide +kernel
theorem dX4_listAlong_84 : decode cX4_listAlong 84 = .ok (.iload_n 3, 1) := by decide +kernel
theorem dX4_listAlong_85 : decode cX4_listAlong 85 = .ok (.iaload, 1) := by decide +kernel
theorem dX4_listAlong_86 : decode cX4_listAlong 86 = .ok (.aload_n 0, 1) := by decide +kernel
theorem dX4_listAlong_87 : decode cX4_listAlong 87 = .ok (.getfield 18, 3) := by decide +kernel
theorem dX4_listAlong_90 : decode cX4_listAlong 90 = .ok (.iload_n 3, 1) := by decide +kernel
theorem dX4_listAlong_91 : decode cX4_listAlong 91 = .ok (.iload_n 1, 1) := by decide +kernel
theorem dX4_listAlong_92 : decode cX4_listAlong 92 = .ok (.invokevirtual 103, 3) := by decide +kernel
theorem dX4_listAlong_95 : decode cX4_listAlong 95 = .ok (.imul, 1) := by decide +kernel
theorem dX4_listAlong_96 : decode cX4_listAlong 96 = .ok (.iadd, 1) := by decide +kernel
theorem dX4_listAlong_97 : decode cX4_listAlong 97 = .ok (.istore_n 2, 1) := by decide +kernel
theorem dX4_listAlong_98 : decode cX4_listAlong 98 = .ok (.iinc 3 1, 3) := by decide +kernel
theorem dX4_listAlong_101 : decode cX4_listAlong 101 = .ok (.goto (-37), 3) := by decide +kernel
theorem dX4_listAlong_104 : decode cX4_listAlong 104 = .ok (.iload_n 2, 1) := by decide +kernel
theorem dX4_listAlong_105 : decode cX4_listAlong 105 = .ok (.ireturn, 1) := by decide +kernel
theorem dX4_blown_0 : decode cX4_blown 0 = .ok (.iload_n 1, 1) := by decide +kernel
theorem dX4_blown_1 : decode cX4_blown 1 = .ok (.iconst (-1), 1) := by decide +kernel
theorem dX4_blown_2 : decode cX4_blown 2 = .ok (.if_icmp .eq 11, 3) := by decide +kernel
theorem dX4_blown_5 : decode cX4_blown 5 = .ok (.iload_n 1, 1) := by decide +kernel
theorem dX4_blown_6 : decode cX4_blown 6 = .ok (.invokestatic 106, 3) := by decide +kernel
theorem dX4_blown_9 : decode cX4_blown 9 = .ok (.iload_n 3, 1) := by decide +kernel
theorem dX4_blown_10 : decode cX4_blown 10 = .ok (.if_icmp .eq 5, 3) := by decide +kernel
theorem dX4_blown_13 : decode cX4_blown 13 = .ok (.iconst 0, 1) := by decide +kernel
theorem dX4_blown_14 : decode cX4_blown 14 = .ok (.ireturn, 1) := by decide +kernel
theorem dX4_blown_15 : decode cX4_blown 15 = .ok (.aload_n 0, 1) := by decide +kernel
theorem dX4_blown_16 : decode cX4_blown 16 = .ok (.getfield 18, 3) := by decide +kernel
theorem dX4_blown_19 : decode cX4_blown 19 = .ok (.invokevirtual 109, 3) := by decide +kernel
theorem dX4_blown_22 : decode cX4_blown 22 = .ok (.iload_n 2, 1) := by decide +kernel
theorem dX4_blown_23 : decode cX4_blown 23 = .ok (.imul, 1) := by decide +kernel
theorem dX4_blown_24 : decode cX4_blown 24 = .ok (.aload_n 0, 1) := by decide +kernel
theorem dX4_blown_25 : decode cX4_blown 25 = .ok (.getfield 18, 3) := by decide +kernel
theorem dX4_blown_28 : decode cX4_blown 28 = .ok (.getfield 48, 3) := by decide +kernel
theorem dX4_blown_31 : decode cX4_blown 31 = .ok (.bipush 7, 2) := by decide +kernel
theorem dX4_blown_33 : decode cX4_blown 33 = .ok (.iaload, 1) := by decide +kernel
theorem dX4_blown_34 : decode cX4_blown 34 = .ok (.if_icmp .lt 10, 3) := by decide +kernel
theorem dX4_blown_37 : decode cX4_blown 37 = .ok (.iload_n 1, 1) := by decide +kernel
theorem dX4_blown_38 : decode cX4_blown 38 = .ok (.invokestatic 112, 3) := by decide +kernel
theorem dX4_blown_41 : decode cX4_blown 41 = .ok (.goto 4, 3) := by decide +kernel
theorem dX4_blown_44 : decode cX4_blown 44 = .ok (.iconst 0, 1) := by decide +kernel
theorem dX4_blown_45 : decode cX4_blown 45 = .ok (.ireturn, 1) := by decide +kernel
theorem dX4_axisOf_0 : decode cX4_axisOf 0 = .ok (.iload_n 0, 1) := by decide +kernel
theorem dX4_axisOf_1 : decode cX4_axisOf 1 = .ok (.iconst 1, 1) := by decide +kernel
theorem dX4_axisOf_2 : decode cX4_axisOf 2 = .ok (.if_icmp .eq 8, 3) := by decide +kernel
theorem dX4_axisOf_5 : decode cX4_axisOf 5 = .ok (.iload_n 0, 1) := by decide +kernel
theorem dX4_axisOf_6 : decode cX4_axisOf 6 = .ok (.iconst 3, 1) := by decide +kernel
theorem dX4_axisOf_7 : decode cX4_axisOf 7 = .ok (.if_icmp .ne 7, 3) := by decide +kernel
theorem dX4_axisOf_10 : decode cX4_axisOf 10 = .ok (.iconst 0, 1) := by decide +kernel
theorem dX4_axisOf_11 : decode cX4_axisOf 11 = .ok (.goto 4, 3) := by decide +kernel
theorem dX4_axisOf_14 : decode cX4_axisOf 14 = .ok (.iconst 1, 1) := by decide +kernel
theorem dX4_axisOf_15 : decode cX4_axisOf 15 = .ok (.ireturn, 1) := by decide +kernel
theorem dX4_signOf_0 : decode cX4_signOf 0 = .ok (.iload_n 0, 1) := by decide +kernel
theorem dX4_signOf_1 : decode cX4_signOf 1 = .ok (.iconst 1, 1) := by decide +kernel
theorem dX4_signOf_2 : decode cX4_signOf 2 = .ok (.if_icmp .eq 8, 3) := by decide +kernel
theorem dX4_signOf_5 : decode cX4_signOf 5 = .ok (.iload_n 0, 1) := by decide +kernel
theorem dX4_signOf_6 : decode cX4_signOf 6 = .ok (.iconst 2, 1) := by decide +kernel
theorem dX4_signOf_7 : decode cX4_signOf 7 = .ok (.if_icmp .ne 7, 3) := by decide +kernel
theorem dX4_signOf_10 : decode cX4_signOf 10 = .ok (.iconst 1, 1) := by decide +kernel
theorem dX4_signOf_11 : decode cX4_signOf 11 = .ok (.goto 4, 3) := by decide +kernel
theorem dX4_signOf_14 : decode cX4_signOf 14 = .ok (.iconst (-1), 1) := by decide +kernel
theorem dX4_signOf_15 : decode cX4_signOf 15 = .ok (.ireturn, 1) := by decide +kernel
theorem dX4_driftAlong_0 : decode cX4_driftAlong 0 = .ok (.aload_n 0, 1) := by decide +kernel
theorem dX4_driftAlong_1 : decode cX4_driftAlong 1 = .ok (.getfield 18, 3) := by decide +kernel
theorem dX4_driftAlong_4 : decode cX4_driftAlong 4 = .ok (.aload_n 0, 1) := by decide +kernel
theorem dX4_driftAlong_5 : decode cX4_driftAlong 5 = .ok (.iload_n 1, 1) := by decide +kernel
theorem dX4_driftAlong_6 : decode cX4_driftAlong 6 = .ok (.invokevirtual 115, 3) := by decide +kernel
theorem dX4_driftAlong_9 : decode cX4_driftAlong 9 = .ok (.invokevirtual 118, 3) := by decide +kernel
theorem dX4_driftAlong_12 : decode cX4_driftAlong 12 = .ok (.aload_n 0, 1) := by decide +kernel
theorem dX4_driftAlong_13 : decode cX4_driftAlong 13 = .ok (.aload_n 0, 1) := by decide +kernel
theorem dX4_driftAlong_14 : decode cX4_driftAlong 14 = .ok (.getfield 42, 3) := by decide +kernel
theorem dX4_driftAlong_17 : decode cX4_driftAlong 17 = .ok (.aload_n 0, 1) := by decide +kernel
theorem dX4_driftAlong_18 : decode cX4_driftAlong 18 = .ok (.getfield 45, 3) := by decide +kernel
theorem dX4_driftAlong_21 : decode cX4_driftAlong 21 = .ok (.iload_n 1, 1) := by decide +kernel
theorem dX4_driftAlong_22 : decode cX4_driftAlong 22 = .ok (.invokevirtual 121, 3) := by decide +kernel
theorem dX4_driftAlong_25 : decode cX4_driftAlong 25 = .ok (.iadd, 1) := by decide +kernel
theorem dX4_driftAlong_26 : decode cX4_driftAlong 26 = .ok (.invokestatic 125, 3) := by decide +kernel
theorem dX4_driftAlong_29 : decode cX4_driftAlong 29 = .ok (.ireturn, 1) := by decide +kernel
theorem dX4_forceToTurn_0 : decode cX4_forceToTurn 0 = .ok (.iload_n 1, 1) := by decide +kernel
theorem dX4_forceToTurn_1 : decode cX4_forceToTurn 1 = .ok (.invokestatic 106, 3) := by decide +kernel
theorem dX4_forceToTurn_4 : decode cX4_forceToTurn 4 = .ok (.istore_n 2, 1) := by decide +kernel
theorem dX4_forceToTurn_5 : decode cX4_forceToTurn 5 = .ok (.aload_n 0, 1) := by decide +kernel
theorem dX4_forceToTurn_6 : decode cX4_forceToTurn 6 = .ok (.getfield 18, 3) := by decide +kernel
theorem dX4_forceToTurn_9 : decode cX4_forceToTurn 9 = .ok (.aload_n 0, 1) := by decide +kernel
theorem dX4_forceToTurn_10 : decode cX4_forceToTurn 10 = .ok (.iload_n 2, 1) := by decide +kernel
theorem dX4_forceToTurn_11 : decode cX4_forceToTurn 11 = .ok (.invokevirtual 115, 3) := by decide +kernel
theorem dX4_forceToTurn_14 : decode cX4_forceToTurn 14 = .ok (.invokevirtual 118, 3) := by decide +kernel
theorem dX4_forceToTurn_17 : decode cX4_forceToTurn 17 = .ok (.istore_n 3, 1) := by decide +kernel
theorem dX4_forceToTurn_18 : decode cX4_forceToTurn 18 = .ok (.iconst 1, 1) := by decide +kernel
theorem dX4_forceToTurn_19 : decode cX4_forceToTurn 19 = .ok (.istore 4, 2) := by decide +kernel
theorem dX4_forceToTurn_21 : decode cX4_forceToTurn 21 = .ok (.iload 4, 2) := by decide +kernel
theorem dX4_forceToTurn_23 : decode cX4_forceToTurn 23 = .ok (.bipush 9, 2) := by decide +kernel
theorem dX4_forceToTurn_25 : decode cX4_forceToTurn 25 = .ok (.if_icmp .gt 32, 3) := by decide +kernel
theorem dX4_forceToTurn_28 : decode cX4_forceToTurn 28 = .ok (.iload_n 3, 1) := by decide +kernel
theorem dX4_forceToTurn_29 : decode cX4_forceToTurn 29 = .ok (.aload_n 0, 1) := by decide +kernel
theorem dX4_forceToTurn_30 : decode cX4_forceToTurn 30 = .ok (.iload_n 1, 1) := by decide +kernel
theorem dX4_forceToTurn_31 : decode cX4_forceToTurn 31 = .ok (.iload 4, 2) := by decide +kernel
theorem dX4_forceToTurn_33 : decode cX4_forceToTurn 33 = .ok (.iload_n 2, 1) := by decide +kernel
theorem dX4_forceToTurn_34 : decode cX4_forceToTurn 34 = .ok (.invokevirtual 121, 3) := by decide +kernel
theorem dX4_forceToTurn_37 : decode cX4_forceToTurn 37 = .ok (.iadd, 1) := by decide +kernel
theorem dX4_forceToTurn_38 : decode cX4_forceToTurn 38 = .ok (.invokestatic 125, 3) := by decide +kernel
theorem dX4_forceToTurn_41 : decode cX4_forceToTurn 41 = .ok (.iload_n 1, 1) := by decide +kernel
theorem dX4_forceToTurn_42 : decode cX4_forceToTurn 42 = .ok (.invokestatic 112, 3) := by decide +kernel
theorem dX4_forceToTurn_45 : decode cX4_forceToTurn 45 = .ok (.if_icmp .ne 6, 3) := by decide +kernel
theorem dX4_forceToTurn_48 : decode cX4_forceToTurn 48 = .ok (.iload 4, 2) := by decide +kernel
theorem dX4_forceToTurn_50 : decode cX4_forceToTurn 50 = .ok (.ireturn, 1) := by decide +kernel
theorem dX4_forceToTurn_51 : decode cX4_forceToTurn 51 = .ok (.iinc 4 1, 3) := by decide +kernel
theorem dX4_forceToTurn_54 : decode cX4_forceToTurn 54 = .ok (.goto (-33), 3) := by decide +kernel
theorem dX4_forceToTurn_57 : decode cX4_forceToTurn 57 = .ok (.iconst (-1), 1) := by decide +kernel
theorem dX4_forceToTurn_58 : decode cX4_forceToTurn 58 = .ok (.ireturn, 1) := by decide +kernel
theorem dX4_move_0 : decode cX4_move 0 = .ok (.iload_n 1, 1) := by decide +kernel
theorem dX4_move_1 : decode cX4_move 1 = .ok (.ifCond .eq 50, 3) := by decide +kernel
theorem dX4_move_4 : decode cX4_move 4 = .ok (.aload_n 0, 1) := by decide +kernel
theorem dX4_move_5 : decode cX4_move 5 = .ok (.getfield 22, 3) := by decide +kernel
theorem dX4_move_8 : decode cX4_move 8 = .ok (.aload_n 0, 1) := by decide +kernel
theorem dX4_move_9 : decode cX4_move 9 = .ok (.getfield 18, 3) := by decide +kernel
theorem dX4_move_12 : decode cX4_move 12 = .ok (.aload_n 0, 1) := by decide +kernel
theorem dX4_move_13 : decode cX4_move 13 = .ok (.getfield 64, 3) := by decide +kernel
theorem dX4_move_16 : decode cX4_move 16 = .ok (.iload_n 1, 1) := by decide +kernel
theorem dX4_move_17 : decode cX4_move 17 = .ok (.iadd, 1) := by decide +kernel
theorem dX4_move_18 : decode cX4_move 18 = .ok (.aload_n 0, 1) := by decide +kernel
theorem dX4_move_19 : decode cX4_move 19 = .ok (.getfield 67, 3) := by decide +kernel
theorem dX4_move_22 : decode cX4_move 22 = .ok (.invokevirtual 130, 3) := by decide +kernel
theorem dX4_move_25 : decode cX4_move 25 = .ok (.ifCond .eq 16, 3) := by decide +kernel
theorem dX4_move_28 : decode cX4_move 28 = .ok (.aload_n 0, 1) := by decide +kernel
theorem dX4_move_29 : decode cX4_move 29 = .ok (.dup, 1) := by decide +kernel
theorem dX4_move_30 : decode cX4_move 30 = .ok (.getfield 64, 3) := by decide +kernel
theorem dX4_move_33 : decode cX4_move 33 = .ok (.iload_n 1, 1) := by decide +kernel
theorem dX4_move_34 : decode cX4_move 34 = .ok (.iadd, 1) := by decide +kernel
theorem dX4_move_35 : decode cX4_move 35 = .ok (.putfield 64, 3) := by decide +kernel
theorem dX4_move_38 : decode cX4_move 38 = .ok (.goto 13, 3) := by decide +kernel
theorem dX4_move_41 : decode cX4_move 41 = .ok (.aload_n 0, 1) := by decide +kernel
theorem dX4_move_42 : decode cX4_move 42 = .ok (.dup, 1) := by decide +kernel
theorem dX4_move_43 : decode cX4_move 43 = .ok (.getfield 29, 3) := by decide +kernel
theorem dX4_move_46 : decode cX4_move 46 = .ok (.iconst 1, 1) := by decide +kernel
theorem dX4_move_47 : decode cX4_move 47 = .ok (.iadd, 1) := by decide +kernel
theorem dX4_move_48 : decode cX4_move 48 = .ok (.putfield 29, 3) := by decide +kernel
theorem dX4_move_51 : decode cX4_move 51 = .ok (.iload_n 2, 1) := by decide +kernel
theorem dX4_move_52 : decode cX4_move 52 = .ok (.ifCond .eq 50, 3) := by decide +kernel
theorem dX4_move_55 : decode cX4_move 55 = .ok (.aload_n 0, 1) := by decide +kernel
theorem dX4_move_56 : decode cX4_move 56 = .ok (.getfield 22, 3) := by decide +kernel
theorem dX4_move_59 : decode cX4_move 59 = .ok (.aload_n 0, 1) := by decide +kernel
theorem dX4_move_60 : decode cX4_move 60 = .ok (.getfield 18, 3) := by decide +kernel
theorem dX4_move_63 : decode cX4_move 63 = .ok (.aload_n 0, 1) := by decide +kernel
theorem dX4_move_64 : decode cX4_move 64 = .ok (.getfield 64, 3) := by decide +kernel
theorem dX4_move_67 : decode cX4_move 67 = .ok (.aload_n 0, 1) := by decide +kernel
theorem dX4_move_68 : decode cX4_move 68 = .ok (.getfield 67, 3) := by decide +kernel
theorem dX4_move_71 : decode cX4_move 71 = .ok (.iload_n 2, 1) := by decide +kernel
theorem dX4_move_72 : decode cX4_move 72 = .ok (.iadd, 1) := by decide +kernel
theorem dX4_move_73 : decode cX4_move 73 = .ok (.invokevirtual 130, 3) := by decide +kernel
theorem dX4_move_76 : decode cX4_move 76 = .ok (.ifCond .eq 16, 3) := by decide +kernel
theorem dX4_move_79 : decode cX4_move 79 = .ok (.aload_n 0, 1) := by decide +kernel
theorem dX4_move_80 : decode cX4_move 80 = .ok (.dup, 1) := by decide +kernel
theorem dX4_move_81 : decode cX4_move 81 = .ok (.getfield 67, 3) := by decide +kernel
theorem dX4_move_84 : decode cX4_move 84 = .ok (.iload_n 2, 1) := by decide +kernel
theorem dX4_move_85 : decode cX4_move 85 = .ok (.iadd, 1) := by decide +kernel
theorem dX4_move_86 : decode cX4_move 86 = .ok (.putfield 67, 3) := by decide +kernel
theorem dX4_move_89 : decode cX4_move 89 = .ok (.goto 13, 3) := by decide +kernel
theorem dX4_move_92 : decode cX4_move 92 = .ok (.aload_n 0, 1) := by decide +kernel
theorem dX4_move_93 : decode cX4_move 93 = .ok (.dup, 1) := by decide +kernel
theorem dX4_move_94 : decode cX4_move 94 = .ok (.getfield 29, 3) := by decide +kernel
theorem dX4_move_97 : decode cX4_move 97 = .ok (.iconst 1, 1) := by decide +kernel
theorem dX4_move_98 : decode cX4_move 98 = .ok (.iadd, 1) := by decide +kernel
theorem dX4_move_99 : decode cX4_move 99 = .ok (.putfield 29, 3) := by decide +kernel
theorem dX4_move_102 : decode cX4_move 102 = .ok (.return_, 1) := by decide +kernel
theorem dX4_floatOn_0 : decode cX4_floatOn 0 = .ok (.aload_n 0, 1) := by decide +kernel
theorem dX4_floatOn_1 : decode cX4_floatOn 1 = .ok (.aload_n 0, 1) := by decide +kernel
theorem dX4_floatOn_2 : decode cX4_floatOn 2 = .ok (.iconst 0, 1) := by decide +kernel
theorem dX4_floatOn_3 : decode cX4_floatOn 3 = .ok (.invokevirtual 134, 3) := by decide +kernel
theorem dX4_floatOn_6 : decode cX4_floatOn 6 = .ok (.aload_n 0, 1) := by decide +kernel
theorem dX4_floatOn_7 : decode cX4_floatOn 7 = .ok (.iconst 1, 1) := by decide +kernel
theorem dX4_floatOn_8 : decode cX4_floatOn 8 = .ok (.invokevirtual 134, 3) := by decide +kernel
theorem dX4_floatOn_11 : decode cX4_floatOn 11 = .ok (.invokevirtual 137, 3) := by decide +kernel
theorem dX4_floatOn_14 : decode cX4_floatOn 14 = .ok (.return_, 1) := by decide +kernel
theorem dX4_passHour_0 : decode cX4_passHour 0 = .ok (.aload_n 0, 1) := by decide +kernel
theorem dX4_passHour_1 : decode cX4_passHour 1 = .ok (.getfield 32, 3) := by decide +kernel
theorem dX4_passHour_4 : decode cX4_passHour 4 = .ok (.ifCond .eq 4, 3) := by decide +kernel
theorem dX4_passHour_7 : decode cX4_passHour 7 = .ok (.return_, 1) := by decide +kernel
theorem dX4_passHour_8 : decode cX4_passHour 8 = .ok (.aload_n 0, 1) := by decide +kernel
theorem dX4_passHour_9 : decode cX4_passHour 9 = .ok (.getfield 36, 3) := by decide +kernel
theorem dX4_passHour_12 : decode cX4_passHour 12 = .ok (.ifCond .ne 24, 3) := by decide +kernel
theorem dX4_passHour_15 : decode cX4_passHour 15 = .ok (.aload_n 0, 1) := by decide +kernel
theorem dX4_passHour_16 : decode cX4_passHour 16 = .ok (.getfield 39, 3) := by decide +kernel
theorem dX4_passHour_19 : decode cX4_passHour 19 = .ok (.ifCond .ne 17, 3) := by decide +kernel
theorem dX4_passHour_22 : decode cX4_passHour 22 = .ok (.aload_n 0, 1) := by decide +kernel
theorem dX4_passHour_23 : decode cX4_passHour 23 = .ok (.aload_n 0, 1) := by decide +kernel
theorem dX4_passHour_24 : decode cX4_passHour 24 = .ok (.iconst 0, 1) := by decide +kernel
theorem dX4_passHour_25 : decode cX4_passHour 25 = .ok (.invokevirtual 134, 3) := by decide +kernel
theorem dX4_passHour_28 : decode cX4_passHour 28 = .ok (.aload_n 0, 1) := by decide +kernel
theorem dX4_passHour_29 : decode cX4_passHour 29 = .ok (.iconst 1, 1) := by decide +kernel
theorem dX4_passHour_30 : decode cX4_passHour 30 = .ok (.invokevirtual 134, 3) := by decide +kernel
theorem dX4_passHour_33 : decode cX4_passHour 33 = .ok (.invokevirtual 137, 3) := by decide +kernel
theorem dX4_passHour_36 : decode cX4_passHour 36 = .ok (.aload_n 0, 1) := by decide +kernel
theorem dX4_passHour_37 : decode cX4_passHour 37 = .ok (.dup, 1) := by decide +kernel
theorem dX4_passHour_38 : decode cX4_passHour 38 = .ok (.getfield 25, 3) := by decide +kernel
theorem dX4_passHour_41 : decode cX4_passHour 41 = .ok (.iconst 1, 1) := by decide +kernel
theorem dX4_passHour_42 : decode cX4_passHour 42 = .ok (.iadd, 1) := by decide +kernel
theorem dX4_passHour_43 : decode cX4_passHour 43 = .ok (.putfield 25, 3) := by decide +kernel
theorem dX4_passHour_46 : decode cX4_passHour 46 = .ok (.aload_n 0, 1) := by decide +kernel
theorem dX4_passHour_47 : decode cX4_passHour 47 = .ok (.dup, 1) := by decide +kernel
theorem dX4_passHour_48 : decode cX4_passHour 48 = .ok (.getfield 61, 3) := by decide +kernel
theorem dX4_passHour_51 : decode cX4_passHour 51 = .ok (.aload_n 0, 1) := by decide +kernel
theorem dX4_passHour_52 : decode cX4_passHour 52 = .ok (.invokevirtual 57, 3) := by decide +kernel
theorem dX4_passHour_55 : decode cX4_passHour 55 = .ok (.ior, 1) := by decide +kernel
theorem dX4_passHour_56 : decode cX4_passHour 56 = .ok (.putfield 61, 3) := by decide +kernel
theorem dX4_passHour_59 : decode cX4_passHour 59 = .ok (.iconst 0, 1) := by decide +kernel
theorem dX4_passHour_60 : decode cX4_passHour 60 = .ok (.istore_n 1, 1) := by decide +kernel
theorem dX4_passHour_61 : decode cX4_passHour 61 = .ok (.iload_n 1, 1) := by decide +kernel
theorem dX4_passHour_62 : decode cX4_passHour 62 = .ok (.aload_n 0, 1) := by decide +kernel
theorem dX4_passHour_63 : decode cX4_passHour 63 = .ok (.getfield 18, 3) := by decide +kernel
theorem dX4_passHour_66 : decode cX4_passHour 66 = .ok (.getfield 140, 3) := by decide +kernel
theorem dX4_passHour_69 : decode cX4_passHour 69 = .ok (.getfield 143, 3) := by decide +kernel
theorem dX4_passHour_72 : decode cX4_passHour 72 = .ok (.if_icmp .ge 51, 3) := by decide +kernel
theorem dX4_passHour_75 : decode cX4_passHour 75 = .ok (.aload_n 0, 1) := by decide +kernel
theorem dX4_passHour_76 : decode cX4_passHour 76 = .ok (.getfield 18, 3) := by decide +kernel
theorem dX4_passHour_79 : decode cX4_passHour 79 = .ok (.getfield 140, 3) := by decide +kernel
theorem dX4_passHour_82 : decode cX4_passHour 82 = .ok (.iload_n 1, 1) := by decide +kernel
theorem dX4_passHour_83 : decode cX4_passHour 83 = .ok (.iconst 0, 1) := by decide +kernel
theorem dX4_passHour_84 : decode cX4_passHour 84 = .ok (.invokevirtual 99, 3) := by decide +kernel
theorem dX4_passHour_87 : decode cX4_passHour 87 = .ok (.istore_n 2, 1) := by decide +kernel
theorem dX4_passHour_88 : decode cX4_passHour 88 = .ok (.aload_n 0, 1) := by decide +kernel
theorem dX4_passHour_89 : decode cX4_passHour 89 = .ok (.iload_n 2, 1) := by decide +kernel
theorem dX4_passHour_90 : decode cX4_passHour 90 = .ok (.invokevirtual 87, 3) := by decide +kernel
theorem dX4_passHour_93 : decode cX4_passHour 93 = .ok (.ifCond .eq 24, 3) := by decide +kernel
theorem dX4_passHour_96 : decode cX4_passHour 96 = .ok (.aload_n 0, 1) := by decide +kernel
theorem dX4_passHour_97 : decode cX4_passHour 97 = .ok (.getfield 15, 3) := by decide +kernel
theorem dX4_passHour_100 : decode cX4_passHour 100 = .ok (.iload_n 2, 1) := by decide +kernel
theorem dX4_passHour_101 : decode cX4_passHour 101 = .ok (.dup2, 1) := by decide +kernel
theorem dX4_passHour_102 : decode cX4_passHour 102 = .ok (.iaload, 1) := by decide +kernel
theorem dX4_passHour_103 : decode cX4_passHour 103 = .ok (.aload_n 0, 1) := by decide +kernel
theorem dX4_passHour_104 : decode cX4_passHour 104 = .ok (.getfield 18, 3) := by decide +kernel
theorem dX4_passHour_107 : decode cX4_passHour 107 = .ok (.getfield 140, 3) := by decide +kernel
theorem dX4_passHour_110 : decode cX4_passHour 110 = .ok (.iload_n 1, 1) := by decide +kernel
theorem dX4_passHour_111 : decode cX4_passHour 111 = .ok (.iconst 1, 1) := by decide +kernel
theorem dX4_passHour_112 : decode cX4_passHour 112 = .ok (.invokevirtual 99, 3) := by decide +kernel
theorem dX4_passHour_115 : decode cX4_passHour 115 = .ok (.iadd, 1) := by decide +kernel
theorem dX4_passHour_116 : decode cX4_passHour 116 = .ok (.iastore, 1) := by decide +kernel
theorem dX4_passHour_117 : decode cX4_passHour 117 = .ok (.iinc 1 1, 3) := by decide +kernel
theorem dX4_passHour_120 : decode cX4_passHour 120 = .ok (.goto (-59), 3) := by decide +kernel
theorem dX4_passHour_123 : decode cX4_passHour 123 = .ok (.aload_n 0, 1) := by decide +kernel
theorem dX4_passHour_124 : decode cX4_passHour 124 = .ok (.aload_n 0, 1) := by decide +kernel
theorem dX4_passHour_125 : decode cX4_passHour 125 = .ok (.invokevirtual 70, 3) := by decide +kernel
theorem dX4_passHour_128 : decode cX4_passHour 128 = .ok (.aload_n 0, 1) := by decide +kernel
theorem dX4_passHour_129 : decode cX4_passHour 129 = .ok (.getfield 18, 3) := by decide +kernel
theorem dX4_passHour_132 : decode cX4_passHour 132 = .ok (.getfield 48, 3) := by decide +kernel
theorem dX4_passHour_135 : decode cX4_passHour 135 = .ok (.bipush 8, 2) := by decide +kernel
theorem dX4_passHour_137 : decode cX4_passHour 137 = .ok (.iaload, 1) := by decide +kernel
theorem dX4_passHour_138 : decode cX4_passHour 138 = .ok (.if_icmp .le 7, 3) := by decide +kernel
theorem dX4_passHour_141 : decode cX4_passHour 141 = .ok (.iconst 1, 1) := by decide +kernel
theorem dX4_passHour_142 : decode cX4_passHour 142 = .ok (.goto 4, 3) := by decide +kernel
theorem dX4_passHour_145 : decode cX4_passHour 145 = .ok (.iconst 0, 1) := by decide +kernel
theorem dX4_passHour_146 : decode cX4_passHour 146 = .ok (.putfield 32, 3) := by decide +kernel
theorem dX4_passHour_149 : decode cX4_passHour 149 = .ok (.return_, 1) := by decide +kernel
theorem dX4_obeys_0 : decode cX4_obeys 0 = .ok (.aload_n 0, 1) := by decide +kernel
theorem dX4_obeys_1 : decode cX4_obeys 1 = .ok (.getfield 32, 3) := by decide +kernel
theorem dX4_obeys_4 : decode cX4_obeys 4 = .ok (.ifCond .eq 5, 3) := by decide +kernel
theorem dX4_obeys_7 : decode cX4_obeys 7 = .ok (.iconst 0, 1) := by decide +kernel
theorem dX4_obeys_8 : decode cX4_obeys 8 = .ok (.ireturn, 1) := by decide +kernel
theorem dX4_obeys_9 : decode cX4_obeys 9 = .ok (.iload_n 1, 1) := by decide +kernel
theorem dX4_obeys_10 : decode cX4_obeys 10 = .ok (.tableswitch 125 0 8 #[50, 57, 63, 75, 80, 86, 92, 113, 119], 50) := by decide +kernel
theorem dX4_obeys_60 : decode cX4_obeys 60 = .ok (.aload_n 0, 1) := by decide +kernel
theorem dX4_obeys_61 : decode cX4_obeys 61 = .ok (.iload_n 2, 1) := by decide +kernel
theorem dX4_obeys_62 : decode cX4_obeys 62 = .ok (.iload_n 3, 1) := by decide +kernel
theorem dX4_obeys_63 : decode cX4_obeys 63 = .ok (.invokevirtual 146, 3) := by decide +kernel
theorem dX4_obeys_66 : decode cX4_obeys 66 = .ok (.ireturn, 1) := by decide +kernel
theorem dX4_obeys_67 : decode cX4_obeys 67 = .ok (.aload_n 0, 1) := by decide +kernel
theorem dX4_obeys_68 : decode cX4_obeys 68 = .ok (.iload_n 2, 1) := by decide +kernel
theorem dX4_obeys_69 : decode cX4_obeys 69 = .ok (.invokevirtual 150, 3) := by decide +kernel
theorem dX4_obeys_72 : decode cX4_obeys 72 = .ok (.ireturn, 1) := by decide +kernel
theorem dX4_obeys_73 : decode cX4_obeys 73 = .ok (.aload_n 0, 1) := by decide +kernel
theorem dX4_obeys_74 : decode cX4_obeys 74 = .ok (.iload_n 2, 1) := by decide +kernel
theorem dX4_obeys_75 : decode cX4_obeys 75 = .ok (.putfield 42, 3) := by decide +kernel
theorem dX4_obeys_78 : decode cX4_obeys 78 = .ok (.aload_n 0, 1) := by decide +kernel
theorem dX4_obeys_79 : decode cX4_obeys 79 = .ok (.iload_n 3, 1) := by decide +kernel
theorem dX4_obeys_80 : decode cX4_obeys 80 = .ok (.putfield 45, 3) := by decide +kernel
theorem dX4_obeys_83 : decode cX4_obeys 83 = .ok (.iconst 1, 1) := by decide +kernel
theorem dX4_obeys_84 : decode cX4_obeys 84 = .ok (.ireturn, 1) := by decide +kernel
theorem dX4_obeys_85 : decode cX4_obeys 85 = .ok (.aload_n 0, 1) := by decide +kernel
theorem dX4_obeys_86 : decode cX4_obeys 86 = .ok (.invokevirtual 153, 3) := by decide +kernel
theorem dX4_obeys_89 : decode cX4_obeys 89 = .ok (.ireturn, 1) := by decide +kernel
theorem dX4_obeys_90 : decode cX4_obeys 90 = .ok (.aload_n 0, 1) := by decide +kernel
theorem dX4_obeys_91 : decode cX4_obeys 91 = .ok (.iconst 1, 1) := by decide +kernel
theorem dX4_obeys_92 : decode cX4_obeys 92 = .ok (.invokevirtual 157, 3) := by decide +kernel
theorem dX4_obeys_95 : decode cX4_obeys 95 = .ok (.ireturn, 1) := by decide +kernel
theorem dX4_obeys_96 : decode cX4_obeys 96 = .ok (.aload_n 0, 1) := by decide +kernel
theorem dX4_obeys_97 : decode cX4_obeys 97 = .ok (.iconst 0, 1) := by decide +kernel
theorem dX4_obeys_98 : decode cX4_obeys 98 = .ok (.invokevirtual 157, 3) := by decide +kernel
theorem dX4_obeys_101 : decode cX4_obeys 101 = .ok (.ireturn, 1) := by decide +kernel
theorem dX4_obeys_102 : decode cX4_obeys 102 = .ok (.aload_n 0, 1) := by decide +kernel
theorem dX4_obeys_103 : decode cX4_obeys 103 = .ok (.invokevirtual 57, 3) := by decide +kernel
theorem dX4_obeys_106 : decode cX4_obeys 106 = .ok (.ifCond .eq 15, 3) := by decide +kernel
theorem dX4_obeys_109 : decode cX4_obeys 109 = .ok (.aload_n 0, 1) := by decide +kernel
theorem dX4_obeys_110 : decode cX4_obeys 110 = .ok (.iconst 1, 1) := by decide +kernel
theorem dX4_obeys_111 : decode cX4_obeys 111 = .ok (.invokevirtual 161, 3) := by decide +kernel
theorem dX4_obeys_114 : decode cX4_obeys 114 = .ok (.ifCond .eq 7, 3) := by decide +kernel
theorem dX4_obeys_117 : decode cX4_obeys 117 = .ok (.iconst 1, 1) := by decide +kernel
theorem dX4_obeys_118 : decode cX4_obeys 118 = .ok (.goto 4, 3) := by decide +kernel
theorem dX4_obeys_121 : decode cX4_obeys 121 = .ok (.iconst 0, 1) := by decide +kernel
theorem dX4_obeys_122 : decode cX4_obeys 122 = .ok (.ireturn, 1) := by decide +kernel
theorem dX4_obeys_123 : decode cX4_obeys 123 = .ok (.aload_n 0, 1) := by decide +kernel
theorem dX4_obeys_124 : decode cX4_obeys 124 = .ok (.iconst 0, 1) := by decide +kernel
theorem dX4_obeys_125 : decode cX4_obeys 125 = .ok (.invokevirtual 161, 3) := by decide +kernel
theorem dX4_obeys_128 : decode cX4_obeys 128 = .ok (.ireturn, 1) := by decide +kernel
theorem dX4_obeys_129 : decode cX4_obeys 129 = .ok (.aload_n 0, 1) := by decide +kernel
theorem dX4_obeys_130 : decode cX4_obeys 130 = .ok (.iload_n 2, 1) := by decide +kernel
theorem dX4_obeys_131 : decode cX4_obeys 131 = .ok (.invokevirtual 164, 3) := by decide +kernel
theorem dX4_obeys_134 : decode cX4_obeys 134 = .ok (.ireturn, 1) := by decide +kernel
theorem dX4_obeys_135 : decode cX4_obeys 135 = .ok (.iconst 0, 1) := by decide +kernel
theorem dX4_obeys_136 : decode cX4_obeys 136 = .ok (.istore 4, 2) := by decide +kernel
theorem dX4_obeys_138 : decode cX4_obeys 138 = .ok (.iload 4, 2) := by decide +kernel
theorem dX4_obeys_140 : decode cX4_obeys 140 = .ok (.iload_n 2, 1) := by decide +kernel
theorem dX4_obeys_141 : decode cX4_obeys 141 = .ok (.if_icmp .ge 20, 3) := by decide +kernel
theorem dX4_obeys_144 : decode cX4_obeys 144 = .ok (.aload_n 0, 1) := by decide +kernel
theorem dX4_obeys_145 : decode cX4_obeys 145 = .ok (.getfield 32, 3) := by decide +kernel
theorem dX4_obeys_148 : decode cX4_obeys 148 = .ok (.ifCond .ne 13, 3) := by decide +kernel
theorem dX4_obeys_151 : decode cX4_obeys 151 = .ok (.aload_n 0, 1) := by decide +kernel
theorem dX4_obeys_152 : decode cX4_obeys 152 = .ok (.invokevirtual 167, 3) := by decide +kernel
theorem dX4_obeys_155 : decode cX4_obeys 155 = .ok (.iinc 4 1, 3) := by decide +kernel
theorem dX4_obeys_158 : decode cX4_obeys 158 = .ok (.goto (-20), 3) := by decide +kernel
theorem dX4_obeys_161 : decode cX4_obeys 161 = .ok (.iconst 1, 1) := by decide +kernel
theorem dX4_obeys_162 : decode cX4_obeys 162 = .ok (.ireturn, 1) := by decide +kernel
theorem dX4_takesAboard_0 : decode cX4_takesAboard 0 = .ok (.aload_n 0, 1) := by decide +kernel
theorem dX4_takesAboard_1 : decode cX4_takesAboard 1 = .ok (.iload_n 1, 1) := by decide +kernel
theorem dX4_takesAboard_2 : decode cX4_takesAboard 2 = .ok (.invokevirtual 170, 3) := by decide +kernel
theorem dX4_takesAboard_5 : decode cX4_takesAboard 5 = .ok (.ifCond .eq 21, 3) := by decide +kernel
theorem dX4_takesAboard_8 : decode cX4_takesAboard 8 = .ok (.aload_n 0, 1) := by decide +kernel
theorem dX4_takesAboard_9 : decode cX4_takesAboard 9 = .ok (.iload_n 2, 1) := by decide +kernel
theorem dX4_takesAboard_10 : decode cX4_takesAboard 10 = .ok (.invokevirtual 87, 3) := by decide +kernel
theorem dX4_takesAboard_13 : decode cX4_takesAboard 13 = .ok (.ifCond .eq 13, 3) := by decide +kernel
theorem dX4_takesAboard_16 : decode cX4_takesAboard 16 = .ok (.aload_n 0, 1) := by decide +kernel
theorem dX4_takesAboard_17 : decode cX4_takesAboard 17 = .ok (.getfield 9, 3) := by decide +kernel
theorem dX4_takesAboard_20 : decode cX4_takesAboard 20 = .ok (.iload_n 1, 1) := by decide +kernel
theorem dX4_takesAboard_21 : decode cX4_takesAboard 21 = .ok (.iaload, 1) := by decide +kernel
theorem dX4_takesAboard_22 : decode cX4_takesAboard 22 = .ok (.iload_n 2, 1) := by decide +kernel
theorem dX4_takesAboard_23 : decode cX4_takesAboard 23 = .ok (.if_icmp .ne 5, 3) := by decide +kernel
theorem dX4_takesAboard_26 : decode cX4_takesAboard 26 = .ok (.iconst 0, 1) := by decide +kernel
theorem dX4_takesAboard_27 : decode cX4_takesAboard 27 = .ok (.ireturn, 1) := by decide +kernel
theorem dX4_takesAboard_28 : decode cX4_takesAboard 28 = .ok (.aload_n 0, 1) := by decide +kernel
theorem dX4_takesAboard_29 : decode cX4_takesAboard 29 = .ok (.getfield 9, 3) := by decide +kernel
theorem dX4_takesAboard_32 : decode cX4_takesAboard 32 = .ok (.iload_n 1, 1) := by decide +kernel
theorem dX4_takesAboard_33 : decode cX4_takesAboard 33 = .ok (.iload_n 2, 1) := by decide +kernel
theorem dX4_takesAboard_34 : decode cX4_takesAboard 34 = .ok (.iastore, 1) := by decide +kernel
theorem dX4_takesAboard_35 : decode cX4_takesAboard 35 = .ok (.iconst 1, 1) := by decide +kernel
theorem dX4_takesAboard_36 : decode cX4_takesAboard 36 = .ok (.ireturn, 1) := by decide +kernel
theorem dX4_setsAshore_0 : decode cX4_setsAshore 0 = .ok (.aload_n 0, 1) := by decide +kernel
theorem dX4_setsAshore_1 : decode cX4_setsAshore 1 = .ok (.iload_n 1, 1) := by decide +kernel
theorem dX4_setsAshore_2 : decode cX4_setsAshore 2 = .ok (.invokevirtual 170, 3) := by decide +kernel
theorem dX4_setsAshore_5 : decode cX4_setsAshore 5 = .ok (.ifCond .eq 13, 3) := by decide +kernel
theorem dX4_setsAshore_8 : decode cX4_setsAshore 8 = .ok (.aload_n 0, 1) := by decide +kernel
theorem dX4_setsAshore_9 : decode cX4_setsAshore 9 = .ok (.getfield 9, 3) := by decide +kernel
theorem dX4_setsAshore_12 : decode cX4_setsAshore 12 = .ok (.iload_n 1, 1) := by decide +kernel
theorem dX4_setsAshore_13 : decode cX4_setsAshore 13 = .ok (.iaload, 1) := by decide +kernel
theorem dX4_setsAshore_14 : decode cX4_setsAshore 14 = .ok (.iconst (-1), 1) := by decide +kernel
theorem dX4_setsAshore_15 : decode cX4_setsAshore 15 = .ok (.if_icmp .ne 5, 3) := by decide +kernel
theorem dX4_setsAshore_18 : decode cX4_setsAshore 18 = .ok (.iconst 0, 1) := by decide +kernel
theorem dX4_setsAshore_19 : decode cX4_setsAshore 19 = .ok (.ireturn, 1) := by decide +kernel
theorem dX4_setsAshore_20 : decode cX4_setsAshore 20 = .ok (.aload_n 0, 1) := by decide +kernel
theorem dX4_setsAshore_21 : decode cX4_setsAshore 21 = .ok (.getfield 9, 3) := by decide +kernel
theorem dX4_setsAshore_24 : decode cX4_setsAshore 24 = .ok (.iload_n 1, 1) := by decide +kernel
theorem dX4_setsAshore_25 : decode cX4_setsAshore 25 = .ok (.iconst (-1), 1) := by decide +kernel
theorem dX4_setsAshore_26 : decode cX4_setsAshore 26 = .ok (.iastore, 1) := by decide +kernel
theorem dX4_setsAshore_27 : decode cX4_setsAshore 27 = .ok (.iconst 1, 1) := by decide +kernel
theorem dX4_setsAshore_28 : decode cX4_setsAshore 28 = .ok (.ireturn, 1) := by decide +kernel
theorem dX4_calms_0 : decode cX4_calms 0 = .ok (.aload_n 0, 1) := by decide +kernel
theorem dX4_calms_1 : decode cX4_calms 1 = .ok (.getfield 42, 3) := by decide +kernel
theorem dX4_calms_4 : decode cX4_calms 4 = .ok (.iconst (-1), 1) := by decide +kernel
theorem dX4_calms_5 : decode cX4_calms 5 = .ok (.if_icmp .ne 5, 3) := by decide +kernel
theorem dX4_calms_8 : decode cX4_calms 8 = .ok (.iconst 0, 1) := by decide +kernel
theorem dX4_calms_9 : decode cX4_calms 9 = .ok (.ireturn, 1) := by decide +kernel
theorem dX4_calms_10 : decode cX4_calms 10 = .ok (.aload_n 0, 1) := by decide +kernel
theorem dX4_calms_11 : decode cX4_calms 11 = .ok (.iconst (-1), 1) := by decide +kernel
theorem dX4_calms_12 : decode cX4_calms 12 = .ok (.putfield 42, 3) := by decide +kernel
theorem dX4_calms_15 : decode cX4_calms 15 = .ok (.aload_n 0, 1) := by decide +kernel
theorem dX4_calms_16 : decode cX4_calms 16 = .ok (.iconst 0, 1) := by decide +kernel
theorem dX4_calms_17 : decode cX4_calms 17 = .ok (.putfield 45, 3) := by decide +kernel
theorem dX4_calms_20 : decode cX4_calms 20 = .ok (.iconst 1, 1) := by decide +kernel
theorem dX4_calms_21 : decode cX4_calms 21 = .ok (.ireturn, 1) := by decide +kernel
theorem dX4_freezes_0 : decode cX4_freezes 0 = .ok (.aload_n 0, 1) := by decide +kernel
theorem dX4_freezes_1 : decode cX4_freezes 1 = .ok (.getfield 36, 3) := by decide +kernel
theorem dX4_freezes_4 : decode cX4_freezes 4 = .ok (.iload_n 1, 1) := by decide +kernel
theorem dX4_freezes_5 : decode cX4_freezes 5 = .ok (.if_icmp .eq 7, 3) := by decide +kernel
theorem dX4_freezes_8 : decode cX4_freezes 8 = .ok (.iconst 1, 1) := by decide +kernel
theorem dX4_freezes_9 : decode cX4_freezes 9 = .ok (.goto 4, 3) := by decide +kernel
theorem dX4_freezes_12 : decode cX4_freezes 12 = .ok (.iconst 0, 1) := by decide +kernel
theorem dX4_freezes_13 : decode cX4_freezes 13 = .ok (.istore_n 2, 1) := by decide +kernel
theorem dX4_freezes_14 : decode cX4_freezes 14 = .ok (.aload_n 0, 1) := by decide +kernel
theorem dX4_freezes_15 : decode cX4_freezes 15 = .ok (.iload_n 1, 1) := by decide +kernel
theorem dX4_freezes_16 : decode cX4_freezes 16 = .ok (.putfield 36, 3) := by decide +kernel
theorem dX4_freezes_19 : decode cX4_freezes 19 = .ok (.iload_n 2, 1) := by decide +kernel
theorem dX4_freezes_20 : decode cX4_freezes 20 = .ok (.ireturn, 1) := by decide +kernel
theorem dX4_moors_0 : decode cX4_moors 0 = .ok (.aload_n 0, 1) := by decide +kernel
theorem dX4_moors_1 : decode cX4_moors 1 = .ok (.getfield 39, 3) := by decide +kernel
theorem dX4_moors_4 : decode cX4_moors 4 = .ok (.iload_n 1, 1) := by decide +kernel
theorem dX4_moors_5 : decode cX4_moors 5 = .ok (.if_icmp .eq 7, 3) := by decide +kernel
theorem dX4_moors_8 : decode cX4_moors 8 = .ok (.iconst 1, 1) := by decide +kernel
theorem dX4_moors_9 : decode cX4_moors 9 = .ok (.goto 4, 3) := by decide +kernel
theorem dX4_moors_12 : decode cX4_moors 12 = .ok (.iconst 0, 1) := by decide +kernel
theorem dX4_moors_13 : decode cX4_moors 13 = .ok (.istore_n 2, 1) := by decide +kernel
theorem dX4_moors_14 : decode cX4_moors 14 = .ok (.aload_n 0, 1) := by decide +kernel
theorem dX4_moors_15 : decode cX4_moors 15 = .ok (.iload_n 1, 1) := by decide +kernel
theorem dX4_moors_16 : decode cX4_moors 16 = .ok (.putfield 39, 3) := by decide +kernel
theorem dX4_moors_19 : decode cX4_moors 19 = .ok (.iload_n 2, 1) := by decide +kernel
theorem dX4_moors_20 : decode cX4_moors 20 = .ok (.ireturn, 1) := by decide +kernel
theorem dX4_isBailed_0 : decode cX4_isBailed 0 = .ok (.aload_n 0, 1) := by decide +kernel
theorem dX4_isBailed_1 : decode cX4_isBailed 1 = .ok (.iload_n 1, 1) := by decide +kernel
theorem dX4_isBailed_2 : decode cX4_isBailed 2 = .ok (.invokevirtual 87, 3) := by decide +kernel
theorem dX4_isBailed_5 : decode cX4_isBailed 5 = .ok (.ifCond .eq 12, 3) := by decide +kernel
theorem dX4_isBailed_8 : decode cX4_isBailed 8 = .ok (.aload_n 0, 1) := by decide +kernel
theorem dX4_isBailed_9 : decode cX4_isBailed 9 = .ok (.getfield 15, 3) := by decide +kernel
theorem dX4_isBailed_12 : decode cX4_isBailed 12 = .ok (.iload_n 1, 1) := by decide +kernel
theorem dX4_isBailed_13 : decode cX4_isBailed 13 = .ok (.iaload, 1) := by decide +kernel
theorem dX4_isBailed_14 : decode cX4_isBailed 14 = .ok (.ifCond .ne 5, 3) := by decide +kernel
theorem dX4_isBailed_17 : decode cX4_isBailed 17 = .ok (.iconst 0, 1) := by decide +kernel
theorem dX4_isBailed_18 : decode cX4_isBailed 18 = .ok (.ireturn, 1) := by decide +kernel
theorem dX4_isBailed_19 : decode cX4_isBailed 19 = .ok (.aload_n 0, 1) := by decide +kernel
theorem dX4_isBailed_20 : decode cX4_isBailed 20 = .ok (.getfield 15, 3) := by decide +kernel
theorem dX4_isBailed_23 : decode cX4_isBailed 23 = .ok (.iload_n 1, 1) := by decide +kernel
theorem dX4_isBailed_24 : decode cX4_isBailed 24 = .ok (.iconst 0, 1) := by decide +kernel
theorem dX4_isBailed_25 : decode cX4_isBailed 25 = .ok (.iastore, 1) := by decide +kernel
theorem dX4_isBailed_26 : decode cX4_isBailed 26 = .ok (.iconst 1, 1) := by decide +kernel
theorem dX4_isBailed_27 : decode cX4_isBailed 27 = .ok (.ireturn, 1) := by decide +kernel
theorem dX4_hoursTillAground_0 : decode cX4_hoursTillAground 0 = .ok (.aload_n 0, 1) := by decide +kernel
theorem dX4_hoursTillAground_1 : decode cX4_hoursTillAground 1 = .ok (.getfield 29, 3) := by decide +kernel
theorem dX4_hoursTillAground_4 : decode cX4_hoursTillAground 4 = .ok (.istore_n 2, 1) := by decide +kernel
theorem dX4_hoursTillAground_5 : decode cX4_hoursTillAground 5 = .ok (.iconst 1, 1) := by decide +kernel
theorem dX4_hoursTillAground_6 : decode cX4_hoursTillAground 6 = .ok (.istore_n 3, 1) := by decide +kernel
theorem dX4_hoursTillAground_7 : decode cX4_hoursTillAground 7 = .ok (.iload_n 3, 1) := by decide +kernel
theorem dX4_hoursTillAground_8 : decode cX4_hoursTillAground 8 = .ok (.iload_n 1, 1) := by decide +kernel
theorem dX4_hoursTillAground_9 : decode cX4_hoursTillAground 9 = .ok (.if_icmp .gt 23, 3) := by decide +kernel
theorem dX4_hoursTillAground_12 : decode cX4_hoursTillAground 12 = .ok (.aload_n 0, 1) := by decide +kernel
theorem dX4_hoursTillAground_13 : decode cX4_hoursTillAground 13 = .ok (.invokevirtual 167, 3) := by decide +kernel
theorem dX4_hoursTillAground_16 : decode cX4_hoursTillAground 16 = .ok (.aload_n 0, 1) := by decide +kernel
theorem dX4_hoursTillAground_17 : decode cX4_hoursTillAground 17 = .ok (.getfield 29, 3) := by decide +kernel
theorem dX4_hoursTillAground_20 : decode cX4_hoursTillAground 20 = .ok (.iload_n 2, 1) := by decide +kernel
theorem dX4_hoursTillAground_21 : decode cX4_hoursTillAground 21 = .ok (.if_icmp .le 5, 3) := by decide +kernel
theorem dX4_hoursTillAground_24 : decode cX4_hoursTillAground 24 = .ok (.iload_n 3, 1) := by decide +kernel
theorem dX4_hoursTillAground_25 : decode cX4_hoursTillAground 25 = .ok (.ireturn, 1) := by decide +kernel
theorem dX4_hoursTillAground_26 : decode cX4_hoursTillAground 26 = .ok (.iinc 3 1, 3) := by decide +kernel
theorem dX4_hoursTillAground_29 : decode cX4_hoursTillAground 29 = .ok (.goto (-22), 3) := by decide +kernel
theorem dX4_hoursTillAground_32 : decode cX4_hoursTillAground 32 = .ok (.iconst (-1), 1) := by decide +kernel
theorem dX4_hoursTillAground_33 : decode cX4_hoursTillAground 33 = .ok (.ireturn, 1) := by decide +kernel
theorem dX4_hoursTillSunk_0 : decode cX4_hoursTillSunk 0 = .ok (.iconst 0, 1) := by decide +kernel
theorem dX4_hoursTillSunk_1 : decode cX4_hoursTillSunk 1 = .ok (.istore_n 2, 1) := by decide +kernel
theorem dX4_hoursTillSunk_2 : decode cX4_hoursTillSunk 2 = .ok (.iload_n 2, 1) := by decide +kernel
theorem dX4_hoursTillSunk_3 : decode cX4_hoursTillSunk 3 = .ok (.iload_n 1, 1) := by decide +kernel
theorem dX4_hoursTillSunk_4 : decode cX4_hoursTillSunk 4 = .ok (.if_icmp .gt 22, 3) := by decide +kernel
theorem dX4_hoursTillSunk_7 : decode cX4_hoursTillSunk 7 = .ok (.aload_n 0, 1) := by decide +kernel
theorem dX4_hoursTillSunk_8 : decode cX4_hoursTillSunk 8 = .ok (.getfield 32, 3) := by decide +kernel
theorem dX4_hoursTillSunk_11 : decode cX4_hoursTillSunk 11 = .ok (.ifCond .eq 5, 3) := by decide +kernel
theorem dX4_hoursTillSunk_14 : decode cX4_hoursTillSunk 14 = .ok (.iload_n 2, 1) := by decide +kernel
theorem dX4_hoursTillSunk_15 : decode cX4_hoursTillSunk 15 = .ok (.ireturn, 1) := by decide +kernel
theorem dX4_hoursTillSunk_16 : decode cX4_hoursTillSunk 16 = .ok (.aload_n 0, 1) := by decide +kernel
theorem dX4_hoursTillSunk_17 : decode cX4_hoursTillSunk 17 = .ok (.invokevirtual 167, 3) := by decide +kernel
theorem dX4_hoursTillSunk_20 : decode cX4_hoursTillSunk 20 = .ok (.iinc 2 1, 3) := by decide +kernel
theorem dX4_hoursTillSunk_23 : decode cX4_hoursTillSunk 23 = .ok (.goto (-21), 3) := by decide +kernel
theorem dX4_hoursTillSunk_26 : decode cX4_hoursTillSunk 26 = .ok (.iconst (-1), 1) := by decide +kernel
theorem dX4_hoursTillSunk_27 : decode cX4_hoursTillSunk 27 = .ok (.ireturn, 1) := by decide +kernel
theorem dX4_debtBy_0 : decode cX4_debtBy 0 = .ok (.iconst 0, 1) := by decide +kernel
theorem dX4_debtBy_1 : decode cX4_debtBy 1 = .ok (.istore_n 2, 1) := by decide +kernel
theorem dX4_debtBy_2 : decode cX4_debtBy 2 = .ok (.iconst 0, 1) := by decide +kernel
theorem dX4_debtBy_3 : decode cX4_debtBy 3 = .ok (.istore_n 3, 1) := by decide +kernel
theorem dX4_debtBy_4 : decode cX4_debtBy 4 = .ok (.iload_n 3, 1) := by decide +kernel
theorem dX4_debtBy_5 : decode cX4_debtBy 5 = .ok (.aload_n 1, 1) := by decide +kernel
theorem dX4_debtBy_6 : decode cX4_debtBy 6 = .ok (.getfield 143, 3) := by decide +kernel
theorem dX4_debtBy_9 : decode cX4_debtBy 9 = .ok (.if_icmp .ge 186, 3) := by decide +kernel
theorem dX4_debtBy_12 : decode cX4_debtBy 12 = .ok (.aload_n 1, 1) := by decide +kernel
theorem dX4_debtBy_13 : decode cX4_debtBy 13 = .ok (.iload_n 3, 1) := by decide +kernel
theorem dX4_debtBy_14 : decode cX4_debtBy 14 = .ok (.iconst 1, 1) := by decide +kernel
theorem dX4_debtBy_15 : decode cX4_debtBy 15 = .ok (.invokevirtual 99, 3) := by decide +kernel
theorem dX4_debtBy_18 : decode cX4_debtBy 18 = .ok (.istore 4, 2) := by decide +kernel
theorem dX4_debtBy_20 : decode cX4_debtBy 20 = .ok (.aload_n 1, 1) := by decide +kernel
theorem dX4_debtBy_21 : decode cX4_debtBy 21 = .ok (.iload_n 3, 1) := by decide +kernel
theorem dX4_debtBy_22 : decode cX4_debtBy 22 = .ok (.iconst 2, 1) := by decide +kernel
theorem dX4_debtBy_23 : decode cX4_debtBy 23 = .ok (.invokevirtual 99, 3) := by decide +kernel
theorem dX4_debtBy_26 : decode cX4_debtBy 26 = .ok (.istore 5, 2) := by decide +kernel
theorem dX4_debtBy_28 : decode cX4_debtBy 28 = .ok (.aload_n 1, 1) := by decide +kernel
theorem dX4_debtBy_29 : decode cX4_debtBy 29 = .ok (.iload_n 3, 1) := by decide +kernel
theorem dX4_debtBy_30 : decode cX4_debtBy 30 = .ok (.iconst 0, 1) := by decide +kernel
theorem dX4_debtBy_31 : decode cX4_debtBy 31 = .ok (.invokevirtual 99, 3) := by decide +kernel
theorem dX4_debtBy_34 : decode cX4_debtBy 34 = .ok (.tableswitch 148 0 4 #[34, 50, 84, 108, 121], 34) := by decide +kernel
theorem dX4_debtBy_68 : decode cX4_debtBy 68 = .ok (.iload_n 2, 1) := by decide +kernel
theorem dX4_debtBy_69 : decode cX4_debtBy 69 = .ok (.iload 4, 2) := by decide +kernel
theorem dX4_debtBy_71 : decode cX4_debtBy 71 = .ok (.aload_n 0, 1) := by decide +kernel
theorem dX4_debtBy_72 : decode cX4_debtBy 72 = .ok (.getfield 18, 3) := by decide +kernel
theorem dX4_debtBy_75 : decode cX4_debtBy 75 = .ok (.invokevirtual 173, 3) := by decide +kernel
theorem dX4_debtBy_78 : decode cX4_debtBy 78 = .ok (.imul, 1) := by decide +kernel
theorem dX4_debtBy_79 : decode cX4_debtBy 79 = .ok (.iadd, 1) := by decide +kernel
theorem dX4_debtBy_80 : decode cX4_debtBy 80 = .ok (.istore_n 2, 1) := by decide +kernel
theorem dX4_debtBy_81 : decode cX4_debtBy 81 = .ok (.goto 108, 3) := by decide +kernel
theorem dX4_debtBy_84 : decode cX4_debtBy 84 = .ok (.iload_n 2, 1) := by decide +kernel
theorem dX4_debtBy_85 : decode cX4_debtBy 85 = .ok (.aload_n 0, 1) := by decide +kernel
theorem dX4_debtBy_86 : decode cX4_debtBy 86 = .ok (.iconst 0, 1) := by decide +kernel
theorem dX4_debtBy_87 : decode cX4_debtBy 87 = .ok (.invokevirtual 115, 3) := by decide +kernel
theorem dX4_debtBy_90 : decode cX4_debtBy 90 = .ok (.invokestatic 176, 3) := by decide +kernel
theorem dX4_debtBy_93 : decode cX4_debtBy 93 = .ok (.aload_n 0, 1) := by decide +kernel
theorem dX4_debtBy_94 : decode cX4_debtBy 94 = .ok (.iconst 1, 1) := by decide +kernel
theorem dX4_debtBy_95 : decode cX4_debtBy 95 = .ok (.invokevirtual 115, 3) := by decide +kernel
theorem dX4_debtBy_98 : decode cX4_debtBy 98 = .ok (.invokestatic 176, 3) := by decide +kernel
theorem dX4_debtBy_101 : decode cX4_debtBy 101 = .ok (.iadd, 1) := by decide +kernel
theorem dX4_debtBy_102 : decode cX4_debtBy 102 = .ok (.iload 4, 2) := by decide +kernel
theorem dX4_debtBy_104 : decode cX4_debtBy 104 = .ok (.if_icmp .le 8, 3) := by decide +kernel
theorem dX4_debtBy_107 : decode cX4_debtBy 107 = .ok (.iload 5, 2) := by decide +kernel
theorem dX4_debtBy_109 : decode cX4_debtBy 109 = .ok (.goto 4, 3) := by decide +kernel
theorem dX4_debtBy_112 : decode cX4_debtBy 112 = .ok (.iconst 0, 1) := by decide +kernel
theorem dX4_debtBy_113 : decode cX4_debtBy 113 = .ok (.iadd, 1) := by decide +kernel
theorem dX4_debtBy_114 : decode cX4_debtBy 114 = .ok (.istore_n 2, 1) := by decide +kernel
theorem dX4_debtBy_115 : decode cX4_debtBy 115 = .ok (.goto 74, 3) := by decide +kernel
theorem dX4_debtBy_118 : decode cX4_debtBy 118 = .ok (.iload_n 2, 1) := by decide +kernel
theorem dX4_debtBy_119 : decode cX4_debtBy 119 = .ok (.aload_n 0, 1) := by decide +kernel
theorem dX4_debtBy_120 : decode cX4_debtBy 120 = .ok (.getfield 61, 3) := by decide +kernel
theorem dX4_debtBy_123 : decode cX4_debtBy 123 = .ok (.iload 4, 2) := by decide +kernel
theorem dX4_debtBy_125 : decode cX4_debtBy 125 = .ok (.invokestatic 181, 3) := by decide +kernel
theorem dX4_debtBy_128 : decode cX4_debtBy 128 = .ok (.ifCond .eq 8, 3) := by decide +kernel
theorem dX4_debtBy_131 : decode cX4_debtBy 131 = .ok (.iload 5, 2) := by decide +kernel
theorem dX4_debtBy_133 : decode cX4_debtBy 133 = .ok (.goto 4, 3) := by decide +kernel
theorem dX4_debtBy_136 : decode cX4_debtBy 136 = .ok (.iconst 0, 1) := by decide +kernel
theorem dX4_debtBy_137 : decode cX4_debtBy 137 = .ok (.iadd, 1) := by decide +kernel
theorem dX4_debtBy_138 : decode cX4_debtBy 138 = .ok (.istore_n 2, 1) := by decide +kernel
theorem dX4_debtBy_139 : decode cX4_debtBy 139 = .ok (.goto 50, 3) := by decide +kernel
theorem dX4_debtBy_142 : decode cX4_debtBy 142 = .ok (.iload_n 2, 1) := by decide +kernel
theorem dX4_debtBy_143 : decode cX4_debtBy 143 = .ok (.iload 4, 2) := by decide +kernel
theorem dX4_debtBy_145 : decode cX4_debtBy 145 = .ok (.aload_n 0, 1) := by decide +kernel
theorem dX4_debtBy_146 : decode cX4_debtBy 146 = .ok (.invokevirtual 70, 3) := by decide +kernel
theorem dX4_debtBy_149 : decode cX4_debtBy 149 = .ok (.imul, 1) := by decide +kernel
theorem dX4_debtBy_150 : decode cX4_debtBy 150 = .ok (.iadd, 1) := by decide +kernel
theorem dX4_debtBy_151 : decode cX4_debtBy 151 = .ok (.istore_n 2, 1) := by decide +kernel
theorem dX4_debtBy_152 : decode cX4_debtBy 152 = .ok (.goto 37, 3) := by decide +kernel
theorem dX4_debtBy_155 : decode cX4_debtBy 155 = .ok (.iload_n 2, 1) := by decide +kernel
theorem dX4_debtBy_156 : decode cX4_debtBy 156 = .ok (.aload_n 0, 1) := by decide +kernel
theorem dX4_debtBy_157 : decode cX4_debtBy 157 = .ok (.getfield 64, 3) := by decide +kernel
theorem dX4_debtBy_160 : decode cX4_debtBy 160 = .ok (.aload_n 0, 1) := by decide +kernel
theorem dX4_debtBy_161 : decode cX4_debtBy 161 = .ok (.getfield 67, 3) := by decide +kernel
theorem dX4_debtBy_164 : decode cX4_debtBy 164 = .ok (.iadd, 1) := by decide +kernel
theorem dX4_debtBy_165 : decode cX4_debtBy 165 = .ok (.iconst 2, 1) := by decide +kernel
theorem dX4_debtBy_166 : decode cX4_debtBy 166 = .ok (.irem, 1) := by decide +kernel
theorem dX4_debtBy_167 : decode cX4_debtBy 167 = .ok (.iconst 1, 1) := by decide +kernel
theorem dX4_debtBy_168 : decode cX4_debtBy 168 = .ok (.if_icmp .ne 8, 3) := by decide +kernel
theorem dX4_debtBy_171 : decode cX4_debtBy 171 = .ok (.iload 4, 2) := by decide +kernel
theorem dX4_debtBy_173 : decode cX4_debtBy 173 = .ok (.goto 4, 3) := by decide +kernel
theorem dX4_debtBy_176 : decode cX4_debtBy 176 = .ok (.iconst 0, 1) := by decide +kernel
theorem dX4_debtBy_177 : decode cX4_debtBy 177 = .ok (.iadd, 1) := by decide +kernel
theorem dX4_debtBy_178 : decode cX4_debtBy 178 = .ok (.istore_n 2, 1) := by decide +kernel
theorem dX4_debtBy_179 : decode cX4_debtBy 179 = .ok (.goto 10, 3) := by decide +kernel
theorem dX4_debtBy_182 : decode cX4_debtBy 182 = .ok (.iload_n 2, 1) := by decide +kernel
theorem dX4_debtBy_183 : decode cX4_debtBy 183 = .ok (.iload 4, 2) := by decide +kernel
theorem dX4_debtBy_185 : decode cX4_debtBy 185 = .ok (.invokestatic 184, 3) := by decide +kernel
theorem dX4_debtBy_188 : decode cX4_debtBy 188 = .ok (.istore_n 2, 1) := by decide +kernel
theorem dX4_debtBy_189 : decode cX4_debtBy 189 = .ok (.iinc 3 1, 3) := by decide +kernel
theorem dX4_debtBy_192 : decode cX4_debtBy 192 = .ok (.goto (-188), 3) := by decide +kernel
theorem dX4_debtBy_195 : decode cX4_debtBy 195 = .ok (.iload_n 2, 1) := by decide +kernel
theorem dX4_debtBy_196 : decode cX4_debtBy 196 = .ok (.ireturn, 1) := by decide +kernel
theorem dX4_isBy_0 : decode cX4_isBy 0 = .ok (.aload_n 1, 1) := by decide +kernel
theorem dX4_isBy_1 : decode cX4_isBy 1 = .ok (.getfield 64, 3) := by decide +kernel
theorem dX4_isBy_4 : decode cX4_isBy 4 = .ok (.aload_n 0, 1) := by decide +kernel
theorem dX4_isBy_5 : decode cX4_isBy 5 = .ok (.getfield 64, 3) := by decide +kernel
theorem dX4_isBy_8 : decode cX4_isBy 8 = .ok (.isub, 1) := by decide +kernel
theorem dX4_isBy_9 : decode cX4_isBy 9 = .ok (.aload_n 0, 1) := by decide +kernel
theorem dX4_isBy_10 : decode cX4_isBy 10 = .ok (.getfield 18, 3) := by decide +kernel
theorem dX4_isBy_13 : decode cX4_isBy 13 = .ok (.iconst 0, 1) := by decide +kernel
theorem dX4_isBy_14 : decode cX4_isBy 14 = .ok (.invokevirtual 93, 3) := by decide +kernel
theorem dX4_isBy_17 : decode cX4_isBy 17 = .ok (.isub, 1) := by decide +kernel
theorem dX4_isBy_18 : decode cX4_isBy 18 = .ok (.aload_n 0, 1) := by decide +kernel
theorem dX4_isBy_19 : decode cX4_isBy 19 = .ok (.getfield 64, 3) := by decide +kernel
theorem dX4_isBy_22 : decode cX4_isBy 22 = .ok (.aload_n 1, 1) := by decide +kernel
theorem dX4_isBy_23 : decode cX4_isBy 23 = .ok (.getfield 64, 3) := by decide +kernel
theorem dX4_isBy_26 : decode cX4_isBy 26 = .ok (.isub, 1) := by decide +kernel
theorem dX4_isBy_27 : decode cX4_isBy 27 = .ok (.aload_n 1, 1) := by decide +kernel
theorem dX4_isBy_28 : decode cX4_isBy 28 = .ok (.getfield 18, 3) := by decide +kernel
theorem dX4_isBy_31 : decode cX4_isBy 31 = .ok (.iconst 0, 1) := by decide +kernel
theorem dX4_isBy_32 : decode cX4_isBy 32 = .ok (.invokevirtual 93, 3) := by decide +kernel
theorem dX4_isBy_35 : decode cX4_isBy 35 = .ok (.isub, 1) := by decide +kernel
theorem dX4_isBy_36 : decode cX4_isBy 36 = .ok (.invokestatic 187, 3) := by decide +kernel
theorem dX4_isBy_39 : decode cX4_isBy 39 = .ok (.istore_n 3, 1) := by decide +kernel
theorem dX4_isBy_40 : decode cX4_isBy 40 = .ok (.aload_n 1, 1) := by decide +kernel
theorem dX4_isBy_41 : decode cX4_isBy 41 = .ok (.getfield 67, 3) := by decide +kernel
theorem dX4_isBy_44 : decode cX4_isBy 44 = .ok (.aload_n 0, 1) := by decide +kernel
theorem dX4_isBy_45 : decode cX4_isBy 45 = .ok (.getfield 67, 3) := by decide +kernel
theorem dX4_isBy_48 : decode cX4_isBy 48 = .ok (.isub, 1) := by decide +kernel
theorem dX4_isBy_49 : decode cX4_isBy 49 = .ok (.aload_n 0, 1) := by decide +kernel
theorem dX4_isBy_50 : decode cX4_isBy 50 = .ok (.getfield 18, 3) := by decide +kernel
theorem dX4_isBy_53 : decode cX4_isBy 53 = .ok (.iconst 1, 1) := by decide +kernel
theorem dX4_isBy_54 : decode cX4_isBy 54 = .ok (.invokevirtual 93, 3) := by decide +kernel
theorem dX4_isBy_57 : decode cX4_isBy 57 = .ok (.isub, 1) := by decide +kernel
theorem dX4_isBy_58 : decode cX4_isBy 58 = .ok (.aload_n 0, 1) := by decide +kernel
theorem dX4_isBy_59 : decode cX4_isBy 59 = .ok (.getfield 67, 3) := by decide +kernel
theorem dX4_isBy_62 : decode cX4_isBy 62 = .ok (.aload_n 1, 1) := by decide +kernel
theorem dX4_isBy_63 : decode cX4_isBy 63 = .ok (.getfield 67, 3) := by decide +kernel
theorem dX4_isBy_66 : decode cX4_isBy 66 = .ok (.isub, 1) := by decide +kernel
theorem dX4_isBy_67 : decode cX4_isBy 67 = .ok (.aload_n 1, 1) := by decide +kernel
theorem dX4_isBy_68 : decode cX4_isBy 68 = .ok (.getfield 18, 3) := by decide +kernel
theorem dX4_isBy_71 : decode cX4_isBy 71 = .ok (.iconst 1, 1) := by decide +kernel
theorem dX4_isBy_72 : decode cX4_isBy 72 = .ok (.invokevirtual 93, 3) := by decide +kernel
theorem dX4_isBy_75 : decode cX4_isBy 75 = .ok (.isub, 1) := by decide +kernel
theorem dX4_isBy_76 : decode cX4_isBy 76 = .ok (.invokestatic 187, 3) := by decide +kernel
theorem dX4_isBy_79 : decode cX4_isBy 79 = .ok (.istore 4, 2) := by decide +kernel
theorem dX4_isBy_81 : decode cX4_isBy 81 = .ok (.iload_n 3, 1) := by decide +kernel
theorem dX4_isBy_82 : decode cX4_isBy 82 = .ok (.ifCond .ge 8, 3) := by decide +kernel
theorem dX4_isBy_85 : decode cX4_isBy 85 = .ok (.iload 4, 2) := by decide +kernel
theorem dX4_isBy_87 : decode cX4_isBy 87 = .ok (.ifCond .lt 23, 3) := by decide +kernel
theorem dX4_isBy_90 : decode cX4_isBy 90 = .ok (.iload_n 2, 1) := by decide +kernel
theorem dX4_isBy_91 : decode cX4_isBy 91 = .ok (.ifCond .eq 23, 3) := by decide +kernel
theorem dX4_isBy_94 : decode cX4_isBy 94 = .ok (.iload_n 3, 1) := by decide +kernel
theorem dX4_isBy_95 : decode cX4_isBy 95 = .ok (.ifCond .gt 19, 3) := by decide +kernel
theorem dX4_isBy_98 : decode cX4_isBy 98 = .ok (.iload 4, 2) := by decide +kernel
theorem dX4_isBy_100 : decode cX4_isBy 100 = .ok (.ifCond .gt 14, 3) := by decide +kernel
theorem dX4_isBy_103 : decode cX4_isBy 103 = .ok (.iload_n 3, 1) := by decide +kernel
theorem dX4_isBy_104 : decode cX4_isBy 104 = .ok (.iload 4, 2) := by decide +kernel
theorem dX4_isBy_106 : decode cX4_isBy 106 = .ok (.iadd, 1) := by decide +kernel
theorem dX4_isBy_107 : decode cX4_isBy 107 = .ok (.ifCond .ge 7, 3) := by decide +kernel
theorem dX4_isBy_110 : decode cX4_isBy 110 = .ok (.iconst 1, 1) := by decide +kernel
theorem dX4_isBy_111 : decode cX4_isBy 111 = .ok (.goto 4, 3) := by decide +kernel
theorem dX4_isBy_114 : decode cX4_isBy 114 = .ok (.iconst 0, 1) := by decide +kernel
theorem dX4_isBy_115 : decode cX4_isBy 115 = .ok (.ireturn, 1) := by decide +kernel
theorem dX4_sailBySeed_0 : decode cX4_sailBySeed 0 = .ok (.iload_n 1, 1) := by decide +kernel
theorem dX4_sailBySeed_1 : decode cX4_sailBySeed 1 = .ok (.istore_n 3, 1) := by decide +kernel
theorem dX4_sailBySeed_2 : decode cX4_sailBySeed 2 = .ok (.iconst 0, 1) := by decide +kernel
theorem dX4_sailBySeed_3 : decode cX4_sailBySeed 3 = .ok (.istore 4, 2) := by decide +kernel
theorem dX4_sailBySeed_5 : decode cX4_sailBySeed 5 = .ok (.iload 4, 2) := by decide +kernel
theorem dX4_sailBySeed_7 : decode cX4_sailBySeed 7 = .ok (.iload_n 2, 1) := by decide +kernel
theorem dX4_sailBySeed_8 : decode cX4_sailBySeed 8 = .ok (.if_icmp .ge 61, 3) := by decide +kernel
theorem dX4_sailBySeed_11 : decode cX4_sailBySeed 11 = .ok (.iload_n 3, 1) := by decide +kernel
theorem dX4_sailBySeed_12 : decode cX4_sailBySeed 12 = .ok (.invokestatic 190, 3) := by decide +kernel
theorem dX4_sailBySeed_15 : decode cX4_sailBySeed 15 = .ok (.istore_n 3, 1) := by decide +kernel
theorem dX4_sailBySeed_16 : decode cX4_sailBySeed 16 = .ok (.iload_n 3, 1) := by decide +kernel
theorem dX4_sailBySeed_17 : decode cX4_sailBySeed 17 = .ok (.bipush 16, 2) := by decide +kernel
theorem dX4_sailBySeed_19 : decode cX4_sailBySeed 19 = .ok (.iushr, 1) := by decide +kernel
theorem dX4_sailBySeed_20 : decode cX4_sailBySeed 20 = .ok (.iconst 5, 1) := by decide +kernel
theorem dX4_sailBySeed_21 : decode cX4_sailBySeed 21 = .ok (.irem, 1) := by decide +kernel
theorem dX4_sailBySeed_22 : decode cX4_sailBySeed 22 = .ok (.istore 5, 2) := by decide +kernel
theorem dX4_sailBySeed_24 : decode cX4_sailBySeed 24 = .ok (.aload_n 0, 1) := by decide +kernel
theorem dX4_sailBySeed_25 : decode cX4_sailBySeed 25 = .ok (.invokevirtual 153, 3) := by decide +kernel
theorem dX4_sailBySeed_28 : decode cX4_sailBySeed 28 = .ok (.pop, 1) := by decide +kernel
theorem dX4_sailBySeed_29 : decode cX4_sailBySeed 29 = .ok (.iload 5, 2) := by decide +kernel
theorem dX4_sailBySeed_31 : decode cX4_sailBySeed 31 = .ok (.iconst 4, 1) := by decide +kernel
theorem dX4_sailBySeed_32 : decode cX4_sailBySeed 32 = .ok (.if_icmp .ge 27, 3) := by decide +kernel
theorem dX4_sailBySeed_35 : decode cX4_sailBySeed 35 = .ok (.iload_n 3, 1) := by decide +kernel
theorem dX4_sailBySeed_36 : decode cX4_sailBySeed 36 = .ok (.invokestatic 190, 3) := by decide +kernel
theorem dX4_sailBySeed_39 : decode cX4_sailBySeed 39 = .ok (.istore_n 3, 1) := by decide +kernel
theorem dX4_sailBySeed_40 : decode cX4_sailBySeed 40 = .ok (.aload_n 0, 1) := by decide +kernel
theorem dX4_sailBySeed_41 : decode cX4_sailBySeed 41 = .ok (.iload 5, 2) := by decide +kernel
theorem dX4_sailBySeed_43 : decode cX4_sailBySeed 43 = .ok (.putfield 42, 3) := by decide +kernel
theorem dX4_sailBySeed_46 : decode cX4_sailBySeed 46 = .ok (.aload_n 0, 1) := by decide +kernel
theorem dX4_sailBySeed_47 : decode cX4_sailBySeed 47 = .ok (.iload_n 3, 1) := by decide +kernel
theorem dX4_sailBySeed_48 : decode cX4_sailBySeed 48 = .ok (.bipush 16, 2) := by decide +kernel
theorem dX4_sailBySeed_50 : decode cX4_sailBySeed 50 = .ok (.iushr, 1) := by decide +kernel
theorem dX4_sailBySeed_51 : decode cX4_sailBySeed 51 = .ok (.bipush 9, 2) := by decide +kernel
theorem dX4_sailBySeed_53 : decode cX4_sailBySeed 53 = .ok (.irem, 1) := by decide +kernel
theorem dX4_sailBySeed_54 : decode cX4_sailBySeed 54 = .ok (.iconst 1, 1) := by decide +kernel
theorem dX4_sailBySeed_55 : decode cX4_sailBySeed 55 = .ok (.iadd, 1) := by decide +kernel
theorem dX4_sailBySeed_56 : decode cX4_sailBySeed 56 = .ok (.putfield 45, 3) := by decide +kernel
theorem dX4_sailBySeed_59 : decode cX4_sailBySeed 59 = .ok (.aload_n 0, 1) := by decide +kernel
theorem dX4_sailBySeed_60 : decode cX4_sailBySeed 60 = .ok (.invokevirtual 167, 3) := by decide +kernel
theorem dX4_sailBySeed_63 : decode cX4_sailBySeed 63 = .ok (.iinc 4 1, 3) := by decide +kernel
theorem dX4_sailBySeed_66 : decode cX4_sailBySeed 66 = .ok (.goto (-61), 3) := by decide +kernel
theorem dX4_sailBySeed_69 : decode cX4_sailBySeed 69 = .ok (.return_, 1) := by decide +kernel
theorem dX4_afterSeed_0 : decode cX4_afterSeed 0 = .ok (.iload_n 0, 1) := by decide +kernel
theorem dX4_afterSeed_1 : decode cX4_afterSeed 1 = .ok (.ldc 193, 2) := by decide +kernel
theorem dX4_afterSeed_3 : decode cX4_afterSeed 3 = .ok (.imul, 1) := by decide +kernel
theorem dX4_afterSeed_4 : decode cX4_afterSeed 4 = .ok (.sipush 12345, 3) := by decide +kernel
theorem dX4_afterSeed_7 : decode cX4_afterSeed 7 = .ok (.iadd, 1) := by decide +kernel
theorem dX4_afterSeed_8 : decode cX4_afterSeed 8 = .ok (.ireturn, 1) := by decide +kernel
theorem dX5_init_0 : decode cX5_init 0 = .ok (.aload_n 0, 1) := by decide +kernel
theorem dX5_init_1 : decode cX5_init 1 = .ok (.invokespecial 3, 3) := by decide +kernel
theorem dX5_init_4 : decode cX5_init 4 = .ok (.aload_n 0, 1) := by decide +kernel
theorem dX5_init_5 : decode cX5_init 5 = .ok (.new 9, 3) := by decide +kernel
theorem dX5_init_8 : decode cX5_init 8 = .ok (.dup, 1) := by decide +kernel
theorem dX5_init_9 : decode cX5_init 9 = .ok (.invokespecial 11, 3) := by decide +kernel
theorem dX5_init_12 : decode cX5_init 12 = .ok (.putfield 12, 3) := by decide +kernel
theorem dX5_init_15 : decode cX5_init 15 = .ok (.aload_n 0, 1) := by decide +kernel
theorem dX5_init_16 : decode cX5_init 16 = .ok (.iconst 5, 1) := by decide +kernel
theorem dX5_init_17 : decode cX5_init 17 = .ok (.anewarray 18, 3) := by decide +kernel
theorem dX5_init_20 : decode cX5_init 20 = .ok (.putfield 20, 3) := by decide +kernel
theorem dX5_init_23 : decode cX5_init 23 = .ok (.aload_n 0, 1) := by decide +kernel
theorem dX5_init_24 : decode cX5_init 24 = .ok (.iconst (-1), 1) := by decide +kernel
theorem dX5_init_25 : decode cX5_init 25 = .ok (.putfield 24, 3) := by decide +kernel
theorem dX5_init_28 : decode cX5_init 28 = .ok (.aload_n 0, 1) := by decide +kernel
theorem dX5_init_29 : decode cX5_init 29 = .ok (.iconst 0, 1) := by decide +kernel
theorem dX5_init_30 : decode cX5_init 30 = .ok (.newarray .int, 2) := by decide +kernel
theorem dX5_init_32 : decode cX5_init 32 = .ok (.putfield 28, 3) := by decide +kernel
theorem dX5_init_35 : decode cX5_init 35 = .ok (.aload_n 0, 1) := by decide +kernel
theorem dX5_init_36 : decode cX5_init 36 = .ok (.iconst 3, 1) := by decide +kernel
theorem dX5_init_37 : decode cX5_init 37 = .ok (.newarray .int, 2) := by decide +kernel
theorem dX5_init_39 : decode cX5_init 39 = .ok (.putfield 32, 3) := by decide +kernel
theorem dX5_init_42 : decode cX5_init 42 = .ok (.iconst 0, 1) := by decide +kernel
theorem dX5_init_43 : decode cX5_init 43 = .ok (.istore_n 1, 1) := by decide +kernel
theorem dX5_init_44 : decode cX5_init 44 = .ok (.iload_n 1, 1) := by decide +kernel
theorem dX5_init_45 : decode cX5_init 45 = .ok (.iconst 5, 1) := by decide +kernel
theorem dX5_init_46 : decode cX5_init 46 = .ok (.if_icmp .ge 26, 3) := by decide +kernel
theorem dX5_init_49 : decode cX5_init 49 = .ok (.aload_n 0, 1) := by decide +kernel
theorem dX5_init_50 : decode cX5_init 50 = .ok (.getfield 20, 3) := by decide +kernel
theorem dX5_init_53 : decode cX5_init 53 = .ok (.iload_n 1, 1) := by decide +kernel
theorem dX5_init_54 : decode cX5_init 54 = .ok (.new 18, 3) := by decide +kernel
theorem dX5_init_57 : decode cX5_init 57 = .ok (.dup, 1) := by decide +kernel
theorem dX5_init_58 : decode cX5_init 58 = .ok (.iload_n 1, 1) := by decide +kernel
theorem dX5_init_59 : decode cX5_init 59 = .ok (.invokestatic 35, 3) := by decide +kernel
theorem dX5_init_62 : decode cX5_init 62 = .ok (.invokespecial 39, 3) := by decide +kernel
theorem dX5_init_65 : decode cX5_init 65 = .ok (.aastore, 1) := by decide +kernel
theorem dX5_init_66 : decode cX5_init 66 = .ok (.iinc 1 1, 3) := by decide +kernel
theorem dX5_init_69 : decode cX5_init 69 = .ok (.goto (-25), 3) := by decide +kernel
theorem dX5_init_72 : decode cX5_init 72 = .ok (.return_, 1) := by decide +kernel
theorem dX5_mostRows_0 : decode cX5_mostRows 0 = .ok (.iload_n 0, 1) := by decide +kernel
theorem dX5_mostRows_1 : decode cX5_mostRows 1 = .ok (.ifCond .ne 5, 3) := by decide +kernel
theorem dX5_mostRows_4 : decode cX5_mostRows 4 = .ok (.iconst 0, 1) := by decide +kernel
theorem dX5_mostRows_5 : decode cX5_mostRows 5 = .ok (.ireturn, 1) := by decide +kernel
theorem dX5_mostRows_6 : decode cX5_mostRows 6 = .ok (.iload_n 0, 1) := by decide +kernel
theorem dX5_mostRows_7 : decode cX5_mostRows 7 = .ok (.iconst 1, 1) := by decide +kernel
theorem dX5_mostRows_8 : decode cX5_mostRows 8 = .ok (.if_icmp .ne 8, 3) := by decide +kernel
theorem dX5_mostRows_11 : decode cX5_mostRows 11 = .ok (.bipush 40, 2) := by decide +kernel
theorem dX5_mostRows_13 : decode cX5_mostRows 13 = .ok (.goto 5, 3) := by decide +kernel
theorem dX5_mostRows_16 : decode cX5_mostRows 16 = .ok (.bipush 8, 2) := by decide +kernel
theorem dX5_mostRows_18 : decode cX5_mostRows 18 = .ok (.ireturn, 1) := by decide +kernel
theorem dX5_read_0 : decode cX5_read 0 = .ok (.aload_n 0, 1) := by decide +kernel
theorem dX5_read_1 : decode cX5_read 1 = .ok (.aload_n 1, 1) := by decide +kernel
theorem dX5_read_2 : decode cX5_read 2 = .ok (.putfield 28, 3) := by decide +kernel
theorem dX5_read_5 : decode cX5_read 5 = .ok (.aload_n 0, 1) := by decide +kernel
theorem dX5_read_6 : decode cX5_read 6 = .ok (.iload_n 2, 1) := by decide +kernel
theorem dX5_read_7 : decode cX5_read 7 = .ok (.aload_n 1, 1) := by decide +kernel
theorem dX5_read_8 : decode cX5_read 8 = .ok (.arraylength, 1) := by decide +kernel
theorem dX5_read_9 : decode cX5_read 9 = .ok (.invokestatic 42, 3) := by decide +kernel
theorem dX5_read_12 : decode cX5_read 12 = .ok (.putfield 48, 3) := by decide +kernel
theorem dX5_read_15 : decode cX5_read 15 = .ok (.aload_n 0, 1) := by decide +kernel
theorem dX5_read_16 : decode cX5_read 16 = .ok (.iconst 0, 1) := by decide +kernel
theorem dX5_read_17 : decode cX5_read 17 = .ok (.putfield 51, 3) := by decide +kernel
theorem dX5_read_20 : decode cX5_read 20 = .ok (.aload_n 0, 1) := by decide +kernel
theorem dX5_read_21 : decode cX5_read 21 = .ok (.iconst (-1), 1) := by decide +kernel
theorem dX5_read_22 : decode cX5_read 22 = .ok (.putfield 24, 3) := by decide +kernel
theorem dX5_read_25 : decode cX5_read 25 = .ok (.aload_n 0, 1) := by decide +kernel
theorem dX5_read_26 : decode cX5_read 26 = .ok (.iconst 0, 1) := by decide +kernel
theorem dX5_read_27 : decode cX5_read 27 = .ok (.putfield 54, 3) := by decide +kernel
theorem dX5_read_30 : decode cX5_read 30 = .ok (.aload_n 0, 1) := by decide +kernel
theorem dX5_read_31 : decode cX5_read 31 = .ok (.getfield 12, 3) := by decide +kernel
theorem dX5_read_34 : decode cX5_read 34 = .ok (.invokevirtual 57, 3) := by decide +kernel
theorem dX5_read_37 : decode cX5_read 37 = .ok (.iconst 0, 1) := by decide +kernel
theorem dX5_read_38 : decode cX5_read 38 = .ok (.istore 4, 2) := by decide +kernel
theorem dX5_read_40 : decode cX5_read 40 = .ok (.iload 4, 2) := by decide +kernel
theorem dX5_read_42 : decode cX5_read 42 = .ok (.iconst 5, 1) := by decide +kernel
theorem dX5_read_43 : decode cX5_read 43 = .ok (.if_icmp .ge 20, 3) := by decide +kernel
theorem dX5_read_46 : decode cX5_read 46 = .ok (.aload_n 0, 1) := by decide +kernel
theorem dX5_read_47 : decode cX5_read 47 = .ok (.getfield 20, 3) := by decide +kernel
theorem dX5_read_50 : decode cX5_read 50 = .ok (.iload 4, 2) := by decide +kernel
theorem dX5_read_52 : decode cX5_read 52 = .ok (.aaload, 1) := by decide +kernel
theorem dX5_read_53 : decode cX5_read 53 = .ok (.iconst 0, 1) := by decide +kernel
theorem dX5_read_54 : decode cX5_read 54 = .ok (.putfield 60, 3) := by decide +kernel
theorem dX5_read_57 : decode cX5_read 57 = .ok (.iinc 4 1, 3) := by decide +kernel
theorem dX5_read_60 : decode cX5_read 60 = .ok (.goto (-20), 3) := by decide +kernel
theorem dX5_read_63 : decode cX5_read 63 = .ok (.aload_n 0, 1) := by decide +kernel
theorem dX5_read_64 : decode cX5_read 64 = .ok (.invokevirtual 63, 3) := by decide +kernel
theorem dX5_read_67 : decode cX5_read 67 = .ok (.iconst 0, 1) := by decide +kernel
theorem dX5_read_68 : decode cX5_read 68 = .ok (.istore 4, 2) := by decide +kernel
theorem dX5_read_70 : decode cX5_read 70 = .ok (.iload 4, 2) := by decide +kernel
theorem dX5_read_72 : decode cX5_read 72 = .ok (.aload_n 0, 1) := by decide +kernel
theorem dX5_read_73 : decode cX5_read 73 = .ok (.getfield 48, 3) := by decide +kernel
theorem dX5_read_76 : decode cX5_read 76 = .ok (.if_icmp .gt 29, 3) := by decide +kernel
theorem dX5_read_79 : decode cX5_read 79 = .ok (.aload_n 0, 1) := by decide +kernel
theorem dX5_read_80 : decode cX5_read 80 = .ok (.getfield 66, 3) := by decide +kernel
theorem dX5_read_83 : decode cX5_read 83 = .ok (.ifCond .eq 22, 3) := by decide +kernel
theorem dX5_read_86 : decode cX5_read 86 = .ok (.aload_n 0, 1) := by decide +kernel
theorem dX5_read_87 : decode cX5_read 87 = .ok (.getfield 51, 3) := by decide +kernel
theorem dX5_read_90 : decode cX5_read 90 = .ok (.iconst 1, 1) := by decide +kernel
theorem dX5_read_91 : decode cX5_read 91 = .ok (.if_icmp .eq 14, 3) := by decide +kernel
theorem dX5_read_94 : decode cX5_read 94 = .ok (.aload_n 0, 1) := by decide +kernel
theorem dX5_read_95 : decode cX5_read 95 = .ok (.iload_n 3, 1) := by decide +kernel
theorem dX5_read_96 : decode cX5_read 96 = .ok (.invokevirtual 69, 3) := by decide +kernel
theorem dX5_read_99 : decode cX5_read 99 = .ok (.iinc 4 1, 3) := by decide +kernel
theorem dX5_read_102 : decode cX5_read 102 = .ok (.goto (-32), 3) := by decide +kernel
theorem dX5_read_105 : decode cX5_read 105 = .ok (.aload_n 0, 1) := by decide +kernel
theorem dX5_read_106 : decode cX5_read 106 = .ok (.getfield 51, 3) := by decide +kernel
theorem dX5_read_109 : decode cX5_read 109 = .ok (.ifCond .ne 44, 3) := by decide +kernel
theorem dX5_read_112 : decode cX5_read 112 = .ok (.iload_n 3, 1) := by decide +kernel
theorem dX5_read_113 : decode cX5_read 113 = .ok (.ifCond .ne 40, 3) := by decide +kernel
theorem dX5_read_116 : decode cX5_read 116 = .ok (.aload_n 0, 1) := by decide +kernel
theorem dX5_read_117 : decode cX5_read 117 = .ok (.getfield 12, 3) := by decide +kernel
theorem dX5_read_120 : decode cX5_read 120 = .ok (.invokevirtual 72, 3) := by decide +kernel
theorem dX5_read_123 : decode cX5_read 123 = .ok (.aload_n 0, 1) := by decide +kernel
theorem dX5_read_124 : decode cX5_read 124 = .ok (.aload_n 0, 1) := by decide +kernel
theorem dX5_read_125 : decode cX5_read 125 = .ok (.getfield 12, 3) := by decide +kernel
theorem dX5_read_128 : decode cX5_read 128 = .ok (.invokevirtual 75, 3) := by decide +kernel
theorem dX5_read_131 : decode cX5_read 131 = .ok (.putfield 51, 3) := by decide +kernel
theorem dX5_read_134 : decode cX5_read 134 = .ok (.aload_n 0, 1) := by decide +kernel
theorem dX5_read_135 : decode cX5_read 135 = .ok (.aload_n 0, 1) := by decide +kernel
theorem dX5_read_136 : decode cX5_read 136 = .ok (.getfield 51, 3) := by decide +kernel
theorem dX5_read_139 : decode cX5_read 139 = .ok (.ifCond .ne 7, 3) := by decide +kernel
theorem dX5_read_142 : decode cX5_read 142 = .ok (.iconst (-1), 1) := by decide +kernel
theorem dX5_read_143 : decode cX5_read 143 = .ok (.goto 7, 3) := by decide +kernel
theorem dX5_read_146 : decode cX5_read 146 = .ok (.aload_n 0, 1) := by decide +kernel
theorem dX5_read_147 : decode cX5_read 147 = .ok (.getfield 48, 3) := by decide +kernel
theorem dX5_read_150 : decode cX5_read 150 = .ok (.putfield 24, 3) := by decide +kernel
theorem dX5_read_153 : decode cX5_read 153 = .ok (.return_, 1) := by decide +kernel
theorem dX5_byteAt_0 : decode cX5_byteAt 0 = .ok (.iload_n 1, 1) := by decide +kernel
theorem dX5_byteAt_1 : decode cX5_byteAt 1 = .ok (.ifCond .lt 29, 3) := by decide +kernel
theorem dX5_byteAt_4 : decode cX5_byteAt 4 = .ok (.iload_n 1, 1) := by decide +kernel
theorem dX5_byteAt_5 : decode cX5_byteAt 5 = .ok (.aload_n 0, 1) := by decide +kernel
theorem dX5_byteAt_6 : decode cX5_byteAt 6 = .ok (.getfield 48, 3) := by decide +kernel
theorem dX5_byteAt_9 : decode cX5_byteAt 9 = .ok (.if_icmp .ge 21, 3) := by decide +kernel
theorem dX5_byteAt_12 : decode cX5_byteAt 12 = .ok (.iload_n 1, 1) := by decide +kernel
theorem dX5_byteAt_13 : decode cX5_byteAt 13 = .ok (.aload_n 0, 1) := by decide +kernel
theorem dX5_byteAt_14 : decode cX5_byteAt 14 = .ok (.getfield 28, 3) := by decide +kernel
theorem dX5_byteAt_17 : decode cX5_byteAt 17 = .ok (.arraylength, 1) := by decide +kernel
theorem dX5_byteAt_18 : decode cX5_byteAt 18 = .ok (.if_icmp .ge 12, 3) := by decide +kernel
theorem dX5_byteAt_21 : decode cX5_byteAt 21 = .ok (.aload_n 0, 1) := by decide +kernel
theorem dX5_byteAt_22 : decode cX5_byteAt 22 = .ok (.getfield 28, 3) := by decide +kernel
theorem dX5_byteAt_25 : decode cX5_byteAt 25 = .ok (.iload_n 1, 1) := by decide +kernel
theorem dX5_byteAt_26 : decode cX5_byteAt 26 = .ok (.iaload, 1) := by decide +kernel
theorem dX5_byteAt_27 : decode cX5_byteAt 27 = .ok (.goto 4, 3) := by decide +kernel
theorem dX5_byteAt_30 : decode cX5_byteAt 30 = .ok (.iconst (-1), 1) := by decide +kernel
theorem dX5_byteAt_31 : decode cX5_byteAt 31 = .ok (.ireturn, 1) := by decide +kernel
theorem dX5_isLetter_0 : decode cX5_isLetter 0 = .ok (.iload_n 0, 1) := by decide +kernel
theorem dX5_isLetter_1 : decode cX5_isLetter 1 = .ok (.bipush 97, 2) := by decide +kernel
theorem dX5_isLetter_3 : decode cX5_isLetter 3 = .ok (.if_icmp .lt 13, 3) := by decide +kernel
theorem dX5_isLetter_6 : decode cX5_isLetter 6 = .ok (.iload_n 0, 1) := by decide +kernel
theorem dX5_isLetter_7 : decode cX5_isLetter 7 = .ok (.bipush 122, 2) := by decide +kernel
theorem dX5_isLetter_9 : decode cX5_isLetter 9 = .ok (.if_icmp .gt 7, 3) := by decide +kernel
theorem dX5_isLetter_12 : decode cX5_isLetter 12 = .ok (.iconst 1, 1) := by decide +kernel
theorem dX5_isLetter_13 : decode cX5_isLetter 13 = .ok (.goto 4, 3) := by decide +kernel
theorem dX5_isLetter_16 : decode cX5_isLetter 16 = .ok (.iconst 0, 1) := by decide +kernel
theorem dX5_isLetter_17 : decode cX5_isLetter 17 = .ok (.ireturn, 1) := by decide +kernel
theorem dX5_isDigit_0 : decode cX5_isDigit 0 = .ok (.iload_n 0, 1) := by decide +kernel
theorem dX5_isDigit_1 : decode cX5_isDigit 1 = .ok (.bipush 48, 2) := by decide +kernel
theorem dX5_isDigit_3 : decode cX5_isDigit 3 = .ok (.if_icmp .lt 13, 3) := by decide +kernel
theorem dX5_isDigit_6 : decode cX5_isDigit 6 = .ok (.iload_n 0, 1) := by decide +kernel
theorem dX5_isDigit_7 : decode cX5_isDigit 7 = .ok (.bipush 57, 2) := by decide +kernel
theorem dX5_isDigit_9 : decode cX5_isDigit 9 = .ok (.if_icmp .gt 7, 3) := by decide +kernel
theorem dX5_isDigit_12 : decode cX5_isDigit 12 = .ok (.iconst 1, 1) := by decide +kernel
theorem dX5_isDigit_13 : decode cX5_isDigit 13 = .ok (.goto 4, 3) := by decide +kernel
theorem dX5_isDigit_16 : decode cX5_isDigit 16 = .ok (.iconst 0, 1) := by decide +kernel
theorem dX5_isDigit_17 : decode cX5_isDigit 17 = .ok (.ireturn, 1) := by decide +kernel
theorem dX5_look_0 : decode cX5_look 0 = .ok (.aload_n 0, 1) := by decide +kernel
theorem dX5_look_1 : decode cX5_look 1 = .ok (.aload_n 0, 1) := by decide +kernel
theorem dX5_look_2 : decode cX5_look 2 = .ok (.getfield 54, 3) := by decide +kernel
theorem dX5_look_5 : decode cX5_look 5 = .ok (.putfield 79, 3) := by decide +kernel
theorem dX5_look_8 : decode cX5_look 8 = .ok (.aload_n 0, 1) := by decide +kernel
theorem dX5_look_9 : decode cX5_look 9 = .ok (.getfield 79, 3) := by decide +kernel
theorem dX5_look_12 : decode cX5_look 12 = .ok (.aload_n 0, 1) := by decide +kernel
theorem dX5_look_13 : decode cX5_look 13 = .ok (.getfield 48, 3) := by decide +kernel
theorem dX5_look_16 : decode cX5_look 16 = .ok (.if_icmp .ge 42, 3) := by decide +kernel
theorem dX5_look_19 : decode cX5_look 19 = .ok (.aload_n 0, 1) := by decide +kernel
theorem dX5_look_20 : decode cX5_look 20 = .ok (.aload_n 0, 1) := by decide +kernel
theorem dX5_look_21 : decode cX5_look 21 = .ok (.getfield 79, 3) := by decide +kernel
theorem dX5_look_24 : decode cX5_look 24 = .ok (.invokevirtual 82, 3) := by decide +kernel
theorem dX5_look_27 : decode cX5_look 27 = .ok (.bipush 10, 2) := by decide +kernel
theorem dX5_look_29 : decode cX5_look 29 = .ok (.if_icmp .eq 16, 3) := by decide +kernel
theorem dX5_look_32 : decode cX5_look 32 = .ok (.aload_n 0, 1) := by decide +kernel
theorem dX5_look_33 : decode cX5_look 33 = .ok (.aload_n 0, 1) := by decide +kernel
theorem dX5_look_34 : decode cX5_look 34 = .ok (.getfield 79, 3) := by decide +kernel
theorem dX5_look_37 : decode cX5_look 37 = .ok (.invokevirtual 82, 3) := by decide +kernel
theorem dX5_look_40 : decode cX5_look 40 = .ok (.bipush 32, 2) := by decide +kernel
theorem dX5_look_42 : decode cX5_look 42 = .ok (.if_icmp .ne 16, 3) := by decide +kernel
theorem dX5_look_45 : decode cX5_look 45 = .ok (.aload_n 0, 1) := by decide +kernel
theorem dX5_look_46 : decode cX5_look 46 = .ok (.dup, 1) := by decide +kernel
theorem dX5_look_47 : decode cX5_look 47 = .ok (.getfield 79, 3) := by decide +kernel
theorem dX5_look_50 : decode cX5_look 50 = .ok (.iconst 1, 1) := by decide +kernel
theorem dX5_look_51 : decode cX5_look 51 = .ok (.iadd, 1) := by decide +kernel
theorem dX5_look_52 : decode cX5_look 52 = .ok (.putfield 79, 3) := by decide +kernel
theorem dX5_look_55 : decode cX5_look 55 = .ok (.goto (-47), 3) := by decide +kernel
theorem dX5_look_58 : decode cX5_look 58 = .ok (.aload_n 0, 1) := by decide +kernel
theorem dX5_look_59 : decode cX5_look 59 = .ok (.aload_n 0, 1) := by decide +kernel
theorem dX5_look_60 : decode cX5_look 60 = .ok (.getfield 79, 3) := by decide +kernel
theorem dX5_look_63 : decode cX5_look 63 = .ok (.putfield 54, 3) := by decide +kernel
theorem dX5_look_66 : decode cX5_look 66 = .ok (.aload_n 0, 1) := by decide +kernel
theorem dX5_look_67 : decode cX5_look 67 = .ok (.aload_n 0, 1) := by decide +kernel
theorem dX5_look_68 : decode cX5_look 68 = .ok (.getfield 79, 3) := by decide +kernel
theorem dX5_look_71 : decode cX5_look 71 = .ok (.invokevirtual 82, 3) := by decide +kernel
theorem dX5_look_74 : decode cX5_look 74 = .ok (.istore_n 1, 1) := by decide +kernel
theorem dX5_look_75 : decode cX5_look 75 = .ok (.iload_n 1, 1) := by decide +kernel
theorem dX5_look_76 : decode cX5_look 76 = .ok (.iconst (-1), 1) := by decide +kernel
theorem dX5_look_77 : decode cX5_look 77 = .ok (.if_icmp .ne 11, 3) := by decide +kernel
theorem dX5_look_80 : decode cX5_look 80 = .ok (.aload_n 0, 1) := by decide +kernel
theorem dX5_look_81 : decode cX5_look 81 = .ok (.iconst 0, 1) := by decide +kernel
theorem dX5_look_82 : decode cX5_look 82 = .ok (.putfield 66, 3) := by decide +kernel
theorem dX5_look_85 : decode cX5_look 85 = .ok (.goto 92, 3) := by decide +kernel
theorem dX5_look_88 : decode cX5_look 88 = .ok (.iload_n 1, 1) := by decide +kernel
theorem dX5_look_89 : decode cX5_look 89 = .ok (.invokestatic 85, 3) := by decide +kernel
theorem dX5_look_92 : decode cX5_look 92 = .ok (.ifCond .eq 46, 3) := by decide +kernel
theorem dX5_look_95 : decode cX5_look 95 = .ok (.aload_n 0, 1) := by decide +kernel
theorem dX5_look_96 : decode cX5_look 96 = .ok (.iconst 1, 1) := by decide +kernel
theorem dX5_look_97 : decode cX5_look 97 = .ok (.putfield 66, 3) := by decide +kernel
theorem dX5_look_100 : decode cX5_look 100 = .ok (.aload_n 0, 1) := by decide +kernel
theorem dX5_look_101 : decode cX5_look 101 = .ok (.getfield 54, 3) := by decide +kernel
theorem dX5_look_104 : decode cX5_look 104 = .ok (.aload_n 0, 1) := by decide +kernel
theorem dX5_look_105 : decode cX5_look 105 = .ok (.getfield 48, 3) := by decide +kernel
theorem dX5_look_108 : decode cX5_look 108 = .ok (.if_icmp .ge 69, 3) := by decide +kernel
theorem dX5_look_111 : decode cX5_look 111 = .ok (.aload_n 0, 1) := by decide +kernel
theorem dX5_look_112 : decode cX5_look 112 = .ok (.aload_n 0, 1) := by decide +kernel
theorem dX5_look_113 : decode cX5_look 113 = .ok (.getfield 54, 3) := by decide +kernel
theorem dX5_look_116 : decode cX5_look 116 = .ok (.invokevirtual 82, 3) := by decide +kernel
theorem dX5_look_119 : decode cX5_look 119 = .ok (.invokestatic 85, 3) := by decide +kernel
theorem dX5_look_122 : decode cX5_look 122 = .ok (.ifCond .eq 55, 3) := by decide +kernel
theorem dX5_look_125 : decode cX5_look 125 = .ok (.aload_n 0, 1) := by decide +kernel
theorem dX5_look_126 : decode cX5_look 126 = .ok (.dup, 1) := by decide +kernel
theorem dX5_look_127 : decode cX5_look 127 = .ok (.getfield 54, 3) := by decide +kernel
theorem dX5_look_130 : decode cX5_look 130 = .ok (.iconst 1, 1) := by decide +kernel
theorem dX5_look_131 : decode cX5_look 131 = .ok (.iadd, 1) := by decide +kernel
theorem dX5_look_132 : decode cX5_look 132 = .ok (.putfield 54, 3) := by decide +kernel
theorem dX5_look_135 : decode cX5_look 135 = .ok (.goto (-35), 3) := by decide +kernel
theorem dX5_look_138 : decode cX5_look 138 = .ok (.iload_n 1, 1) := by decide +kernel
theorem dX5_look_139 : decode cX5_look 139 = .ok (.invokestatic 89, 3) := by decide +kernel
theorem dX5_look_142 : decode cX5_look 142 = .ok (.ifCond .eq 10, 3) := by decide +kernel
theorem dX5_look_145 : decode cX5_look 145 = .ok (.aload_n 0, 1) := by decide +kernel
theorem dX5_look_146 : decode cX5_look 146 = .ok (.invokevirtual 92, 3) := by decide +kernel
theorem dX5_look_149 : decode cX5_look 149 = .ok (.goto 28, 3) := by decide +kernel
theorem dX5_look_152 : decode cX5_look 152 = .ok (.aload_n 0, 1) := by decide +kernel
theorem dX5_look_153 : decode cX5_look 153 = .ok (.iload_n 1, 1) := by decide +kernel
theorem dX5_look_154 : decode cX5_look 154 = .ok (.bipush 59, 2) := by decide +kernel
theorem dX5_look_156 : decode cX5_look 156 = .ok (.if_icmp .ne 7, 3) := by decide +kernel
theorem dX5_look_159 : decode cX5_look 159 = .ok (.iconst 3, 1) := by decide +kernel
theorem dX5_look_160 : decode cX5_look 160 = .ok (.goto 4, 3) := by decide +kernel
theorem dX5_look_163 : decode cX5_look 163 = .ok (.iconst 4, 1) := by decide +kernel
theorem dX5_look_164 : decode cX5_look 164 = .ok (.putfield 66, 3) := by decide +kernel
theorem dX5_look_167 : decode cX5_look 167 = .ok (.aload_n 0, 1) := by decide +kernel
theorem dX5_look_168 : decode cX5_look 168 = .ok (.dup, 1) := by decide +kernel
theorem dX5_look_169 : decode cX5_look 169 = .ok (.getfield 54, 3) := by decide +kernel
theorem dX5_look_172 : decode cX5_look 172 = .ok (.iconst 1, 1) := by decide +kernel
theorem dX5_look_173 : decode cX5_look 173 = .ok (.iadd, 1) := by decide +kernel
theorem dX5_look_174 : decode cX5_look 174 = .ok (.putfield 54, 3) := by decide +kernel
theorem dX5_look_177 : decode cX5_look 177 = .ok (.return_, 1) := by decide +kernel
theorem dX5_lookAtDigits_0 : decode cX5_lookAtDigits 0 = .ok (.aload_n 0, 1) := by decide +kernel
theorem dX5_lookAtDigits_1 : decode cX5_lookAtDigits 1 = .ok (.iconst 0, 1) := by decide +kernel
theorem dX5_lookAtDigits_2 : decode cX5_lookAtDigits 2 = .ok (.putfield 95, 3) := by decide +kernel
theorem dX5_lookAtDigits_5 : decode cX5_lookAtDigits 5 = .ok (.aload_n 0, 1) := by decide +kernel
theorem dX5_lookAtDigits_6 : decode cX5_lookAtDigits 6 = .ok (.getfield 54, 3) := by decide +kernel
theorem dX5_lookAtDigits_9 : decode cX5_lookAtDigits 9 = .ok (.aload_n 0, 1) := by decide +kernel
theorem dX5_lookAtDigits_10 : decode cX5_lookAtDigits 10 = .ok (.getfield 48, 3) := by decide +kernel
theorem dX5_lookAtDigits_13 : decode cX5_lookAtDigits 13 = .ok (.if_icmp .ge 73, 3) := by decide +kernel
theorem dX5_lookAtDigits_16 : decode cX5_lookAtDigits 16 = .ok (.aload_n 0, 1) := by decide +kernel
theorem dX5_lookAtDigits_17 : decode cX5_lookAtDigits 17 = .ok (.aload_n 0, 1) := by decide +kernel
theorem dX5_lookAtDigits_18 : decode cX5_lookAtDigits 18 = .ok (.getfield 54, 3) := by decide +kernel
theorem dX5_lookAtDigits_21 : decode cX5_lookAtDigits 21 = .ok (.invokevirtual 82, 3) := by decide +kernel
theorem dX5_lookAtDigits_24 : decode cX5_lookAtDigits 24 = .ok (.invokestatic 89, 3) := by decide +kernel
theorem dX5_lookAtDigits_27 : decode cX5_lookAtDigits 27 = .ok (.ifCond .eq 59, 3) := by decide +kernel
theorem dX5_lookAtDigits_30 : decode cX5_lookAtDigits 30 = .ok (.aload_n 0, 1) := by decide +kernel
theorem dX5_lookAtDigits_31 : decode cX5_lookAtDigits 31 = .ok (.aload_n 0, 1) := by decide +kernel
theorem dX5_lookAtDigits_32 : decode cX5_lookAtDigits 32 = .ok (.getfield 54, 3) := by decide +kernel
theorem dX5_lookAtDigits_35 : decode cX5_lookAtDigits 35 = .ok (.aload_n 0, 1) := by decide +kernel
theorem dX5_lookAtDigits_36 : decode cX5_lookAtDigits 36 = .ok (.getfield 79, 3) := by decide +kernel
theorem dX5_lookAtDigits_39 : decode cX5_lookAtDigits 39 = .ok (.isub, 1) := by decide +kernel
theorem dX5_lookAtDigits_40 : decode cX5_lookAtDigits 40 = .ok (.iconst 3, 1) := by decide +kernel
theorem dX5_lookAtDigits_41 : decode cX5_lookAtDigits 41 = .ok (.if_icmp .ge 25, 3) := by decide +kernel
theorem dX5_lookAtDigits_44 : decode cX5_lookAtDigits 44 = .ok (.aload_n 0, 1) := by decide +kernel
theorem dX5_lookAtDigits_45 : decode cX5_lookAtDigits 45 = .ok (.getfield 95, 3) := by decide +kernel
theorem dX5_lookAtDigits_48 : decode cX5_lookAtDigits 48 = .ok (.bipush 10, 2) := by decide +kernel
theorem dX5_lookAtDigits_50 : decode cX5_lookAtDigits 50 = .ok (.imul, 1) := by decide +kernel
theorem dX5_lookAtDigits_51 : decode cX5_lookAtDigits 51 = .ok (.aload_n 0, 1) := by decide +kernel
theorem dX5_lookAtDigits_52 : decode cX5_lookAtDigits 52 = .ok (.aload_n 0, 1) := by decide +kernel
theorem dX5_lookAtDigits_53 : decode cX5_lookAtDigits 53 = .ok (.getfield 54, 3) := by decide +kernel
theorem dX5_lookAtDigits_56 : decode cX5_lookAtDigits 56 = .ok (.invokevirtual 82, 3) := by decide +kernel
theorem dX5_lookAtDigits_59 : decode cX5_lookAtDigits 59 = .ok (.iadd, 1) := by decide +kernel
theorem dX5_lookAtDigits_60 : decode cX5_lookAtDigits 60 = .ok (.bipush 48, 2) := by decide +kernel
theorem dX5_lookAtDigits_62 : decode cX5_lookAtDigits 62 = .ok (.isub, 1) := by decide +kernel
theorem dX5_lookAtDigits_63 : decode cX5_lookAtDigits 63 = .ok (.goto 7, 3) := by decide +kernel
theorem dX5_lookAtDigits_66 : decode cX5_lookAtDigits 66 = .ok (.aload_n 0, 1) := by decide +kernel
theorem dX5_lookAtDigits_67 : decode cX5_lookAtDigits 67 = .ok (.getfield 95, 3) := by decide +kernel
theorem dX5_lookAtDigits_70 : decode cX5_lookAtDigits 70 = .ok (.putfield 95, 3) := by decide +kernel
theorem dX5_lookAtDigits_73 : decode cX5_lookAtDigits 73 = .ok (.aload_n 0, 1) := by decide +kernel
theorem dX5_lookAtDigits_74 : decode cX5_lookAtDigits 74 = .ok (.dup, 1) := by decide +kernel
theorem dX5_lookAtDigits_75 : decode cX5_lookAtDigits 75 = .ok (.getfield 54, 3) := by decide +kernel
theorem dX5_lookAtDigits_78 : decode cX5_lookAtDigits 78 = .ok (.iconst 1, 1) := by decide +kernel
theorem dX5_lookAtDigits_79 : decode cX5_lookAtDigits 79 = .ok (.iadd, 1) := by decide +kernel
theorem dX5_lookAtDigits_80 : decode cX5_lookAtDigits 80 = .ok (.putfield 54, 3) := by decide +kernel
theorem dX5_lookAtDigits_83 : decode cX5_lookAtDigits 83 = .ok (.goto (-78), 3) := by decide +kernel
theorem dX5_lookAtDigits_86 : decode cX5_lookAtDigits 86 = .ok (.aload_n 0, 1) := by decide +kernel
theorem dX5_lookAtDigits_87 : decode cX5_lookAtDigits 87 = .ok (.aload_n 0, 1) := by decide +kernel
theorem dX5_lookAtDigits_88 : decode cX5_lookAtDigits 88 = .ok (.getfield 54, 3) := by decide +kernel
theorem dX5_lookAtDigits_91 : decode cX5_lookAtDigits 91 = .ok (.aload_n 0, 1) := by decide +kernel
theorem dX5_lookAtDigits_92 : decode cX5_lookAtDigits 92 = .ok (.getfield 79, 3) := by decide +kernel
theorem dX5_lookAtDigits_95 : decode cX5_lookAtDigits 95 = .ok (.isub, 1) := by decide +kernel
theorem dX5_lookAtDigits_96 : decode cX5_lookAtDigits 96 = .ok (.iconst 3, 1) := by decide +kernel
theorem dX5_lookAtDigits_97 : decode cX5_lookAtDigits 97 = .ok (.if_icmp .gt 7, 3) := by decide +kernel
theorem dX5_lookAtDigits_100 : decode cX5_lookAtDigits 100 = .ok (.iconst 2, 1) := by decide +kernel
theorem dX5_lookAtDigits_101 : decode cX5_lookAtDigits 101 = .ok (.goto 4, 3) := by decide +kernel
theorem dX5_lookAtDigits_104 : decode cX5_lookAtDigits 104 = .ok (.iconst 4, 1) := by decide +kernel
theorem dX5_lookAtDigits_105 : decode cX5_lookAtDigits 105 = .ok (.putfield 66, 3) := by decide +kernel
theorem dX5_lookAtDigits_108 : decode cX5_lookAtDigits 108 = .ok (.return_, 1) := by decide +kernel
theorem dX5_breakOff_0 : decode cX5_breakOff 0 = .ok (.aload_n 0, 1) := by decide +kernel
theorem dX5_breakOff_1 : decode cX5_breakOff 1 = .ok (.iconst 1, 1) := by decide +kernel
theorem dX5_breakOff_2 : decode cX5_breakOff 2 = .ok (.putfield 51, 3) := by decide +kernel
theorem dX5_breakOff_5 : decode cX5_breakOff 5 = .ok (.aload_n 0, 1) := by decide +kernel
theorem dX5_breakOff_6 : decode cX5_breakOff 6 = .ok (.aload_n 0, 1) := by decide +kernel
theorem dX5_breakOff_7 : decode cX5_breakOff 7 = .ok (.getfield 79, 3) := by decide +kernel
theorem dX5_breakOff_10 : decode cX5_breakOff 10 = .ok (.putfield 24, 3) := by decide +kernel
theorem dX5_breakOff_13 : decode cX5_breakOff 13 = .ok (.return_, 1) := by decide +kernel
theorem dX5_note_0 : decode cX5_note 0 = .ok (.aload_n 0, 1) := by decide +kernel
theorem dX5_note_1 : decode cX5_note 1 = .ok (.getfield 51, 3) := by decide +kernel
theorem dX5_note_4 : decode cX5_note 4 = .ok (.ifCond .eq 35, 3) := by decide +kernel
theorem dX5_note_7 : decode cX5_note 7 = .ok (.aload_n 0, 1) := by decide +kernel
theorem dX5_note_8 : decode cX5_note 8 = .ok (.getfield 51, 3) := by decide +kernel
theorem dX5_note_11 : decode cX5_note 11 = .ok (.iconst 1, 1) := by decide +kernel
theorem dX5_note_12 : decode cX5_note 12 = .ok (.if_icmp .eq 37, 3) := by decide +kernel
theorem dX5_note_15 : decode cX5_note 15 = .ok (.iload_n 2, 1) := by decide +kernel
theorem dX5_note_16 : decode cX5_note 16 = .ok (.aload_n 0, 1) := by decide +kernel
theorem dX5_note_17 : decode cX5_note 17 = .ok (.getfield 24, 3) := by decide +kernel
theorem dX5_note_20 : decode cX5_note 20 = .ok (.if_icmp .lt 19, 3) := by decide +kernel
theorem dX5_note_23 : decode cX5_note 23 = .ok (.iload_n 2, 1) := by decide +kernel
theorem dX5_note_24 : decode cX5_note 24 = .ok (.aload_n 0, 1) := by decide +kernel
theorem dX5_note_25 : decode cX5_note 25 = .ok (.getfield 24, 3) := by decide +kernel
theorem dX5_note_28 : decode cX5_note 28 = .ok (.if_icmp .ne 21, 3) := by decide +kernel
theorem dX5_note_31 : decode cX5_note 31 = .ok (.iload_n 1, 1) := by decide +kernel
theorem dX5_note_32 : decode cX5_note 32 = .ok (.aload_n 0, 1) := by decide +kernel
theorem dX5_note_33 : decode cX5_note 33 = .ok (.getfield 51, 3) := by decide +kernel
theorem dX5_note_36 : decode cX5_note 36 = .ok (.if_icmp .ge 13, 3) := by decide +kernel
theorem dX5_note_39 : decode cX5_note 39 = .ok (.aload_n 0, 1) := by decide +kernel
theorem dX5_note_40 : decode cX5_note 40 = .ok (.iload_n 1, 1) := by decide +kernel
theorem dX5_note_41 : decode cX5_note 41 = .ok (.putfield 51, 3) := by decide +kernel
theorem dX5_note_44 : decode cX5_note 44 = .ok (.aload_n 0, 1) := by decide +kernel
theorem dX5_note_45 : decode cX5_note 45 = .ok (.iload_n 2, 1) := by decide +kernel
theorem dX5_note_46 : decode cX5_note 46 = .ok (.putfield 24, 3) := by decide +kernel
theorem dX5_note_49 : decode cX5_note 49 = .ok (.return_, 1) := by decide +kernel
theorem dX5_wordOf_0 : decode cX5_wordOf 0 = .ok (.aload_n 0, 1) := by decide +kernel
theorem dX5_wordOf_1 : decode cX5_wordOf 1 = .ok (.getfield 66, 3) := by decide +kernel
theorem dX5_wordOf_4 : decode cX5_wordOf 4 = .ok (.iconst 1, 1) := by decide +kernel
theorem dX5_wordOf_5 : decode cX5_wordOf 5 = .ok (.if_icmp .eq 5, 3) := by decide +kernel
theorem dX5_wordOf_8 : decode cX5_wordOf 8 = .ok (.aconst_null, 1) := by decide +kernel
theorem dX5_wordOf_9 : decode cX5_wordOf 9 = .ok (.areturn, 1) := by decide +kernel
theorem dX5_wordOf_10 : decode cX5_wordOf 10 = .ok (.iconst 0, 1) := by decide +kernel
theorem dX5_wordOf_11 : decode cX5_wordOf 11 = .ok (.istore_n 2, 1) := by decide +kernel
theorem dX5_wordOf_12 : decode cX5_wordOf 12 = .ok (.iload_n 2, 1) := by decide +kernel
theorem dX5_wordOf_13 : decode cX5_wordOf 13 = .ok (.getstatic 98, 3) := by decide +kernel
theorem dX5_wordOf_16 : decode cX5_wordOf 16 = .ok (.arraylength, 1) := by decide +kernel
theorem dX5_wordOf_17 : decode cX5_wordOf 17 = .ok (.if_icmp .ge 42, 3) := by decide +kernel
theorem dX5_wordOf_20 : decode cX5_wordOf 20 = .ok (.getstatic 98, 3) := by decide +kernel
theorem dX5_wordOf_23 : decode cX5_wordOf 23 = .ok (.iload_n 2, 1) := by decide +kernel
theorem dX5_wordOf_24 : decode cX5_wordOf 24 = .ok (.aaload, 1) := by decide +kernel
theorem dX5_wordOf_25 : decode cX5_wordOf 25 = .ok (.invokevirtual 102, 3) := by decide +kernel
theorem dX5_wordOf_28 : decode cX5_wordOf 28 = .ok (.iload_n 1, 1) := by decide +kernel
theorem dX5_wordOf_29 : decode cX5_wordOf 29 = .ok (.if_icmp .ne 24, 3) := by decide +kernel
theorem dX5_wordOf_32 : decode cX5_wordOf 32 = .ok (.aload_n 0, 1) := by decide +kernel
theorem dX5_wordOf_33 : decode cX5_wordOf 33 = .ok (.getstatic 98, 3) := by decide +kernel
theorem dX5_wordOf_36 : decode cX5_wordOf 36 = .ok (.iload_n 2, 1) := by decide +kernel
theorem dX5_wordOf_37 : decode cX5_wordOf 37 = .ok (.aaload, 1) := by decide +kernel
theorem dX5_wordOf_38 : decode cX5_wordOf 38 = .ok (.getfield 107, 3) := by decide +kernel
theorem dX5_wordOf_41 : decode cX5_wordOf 41 = .ok (.invokevirtual 111, 3) := by decide +kernel
theorem dX5_wordOf_44 : decode cX5_wordOf 44 = .ok (.ifCond .eq 9, 3) := by decide +kernel
theorem dX5_wordOf_47 : decode cX5_wordOf 47 = .ok (.getstatic 98, 3) := by decide +kernel
theorem dX5_wordOf_50 : decode cX5_wordOf 50 = .ok (.iload_n 2, 1) := by decide +kernel
theorem dX5_wordOf_51 : decode cX5_wordOf 51 = .ok (.aaload, 1) := by decide +kernel
theorem dX5_wordOf_52 : decode cX5_wordOf 52 = .ok (.areturn, 1) := by decide +kernel
theorem dX5_wordOf_53 : decode cX5_wordOf 53 = .ok (.iinc 2 1, 3) := by decide +kernel
theorem dX5_wordOf_56 : decode cX5_wordOf 56 = .ok (.goto (-44), 3) := by decide +kernel
theorem dX5_wordOf_59 : decode cX5_wordOf 59 = .ok (.aconst_null, 1) := by decide +kernel
theorem dX5_wordOf_60 : decode cX5_wordOf 60 = .ok (.areturn, 1) := by decide +kernel
theorem dX5_isSpelled_0 : decode cX5_isSpelled 0 = .ok (.aload_n 1, 1) := by decide +kernel
theorem dX5_isSpelled_1 : decode cX5_isSpelled 1 = .ok (.invokevirtual 115, 3) := by decide +kernel
theorem dX5_isSpelled_4 : decode cX5_isSpelled 4 = .ok (.aload_n 0, 1) := by decide +kernel
theorem dX5_isSpelled_5 : decode cX5_isSpelled 5 = .ok (.getfield 54, 3) := by decide +kernel
theorem dX5_isSpelled_8 : decode cX5_isSpelled 8 = .ok (.aload_n 0, 1) := by decide +kernel
theorem dX5_isSpelled_9 : decode cX5_isSpelled 9 = .ok (.getfield 79, 3) := by decide +kernel
theorem dX5_isSpelled_12 : decode cX5_isSpelled 12 = .ok (.isub, 1) := by decide +kernel
theorem dX5_isSpelled_13 : decode cX5_isSpelled 13 = .ok (.if_icmp .eq 5, 3) := by decide +kernel
theorem dX5_isSpelled_16 : decode cX5_isSpelled 16 = .ok (.iconst 0, 1) := by decide +kernel
theorem dX5_isSpelled_17 : decode cX5_isSpelled 17 = .ok (.ireturn, 1) := by decide +kernel
theorem dX5_isSpelled_18 : decode cX5_isSpelled 18 = .ok (.iconst 0, 1) := by decide +kernel
theorem dX5_isSpelled_19 : decode cX5_isSpelled 19 = .ok (.istore_n 2, 1) := by decide +kernel
theorem dX5_isSpelled_20 : decode cX5_isSpelled 20 = .ok (.iload_n 2, 1) := by decide +kernel
theorem dX5_isSpelled_21 : decode cX5_isSpelled 21 = .ok (.aload_n 1, 1) := by decide +kernel
theorem dX5_isSpelled_22 : decode cX5_isSpelled 22 = .ok (.invokevirtual 115, 3) := by decide +kernel
theorem dX5_isSpelled_25 : decode cX5_isSpelled 25 = .ok (.if_icmp .ge 29, 3) := by decide +kernel
theorem dX5_isSpelled_28 : decode cX5_isSpelled 28 = .ok (.aload_n 1, 1) := by decide +kernel
theorem dX5_isSpelled_29 : decode cX5_isSpelled 29 = .ok (.iload_n 2, 1) := by decide +kernel
theorem dX5_isSpelled_30 : decode cX5_isSpelled 30 = .ok (.invokevirtual 119, 3) := by decide +kernel
theorem dX5_isSpelled_33 : decode cX5_isSpelled 33 = .ok (.aload_n 0, 1) := by decide +kernel
theorem dX5_isSpelled_34 : decode cX5_isSpelled 34 = .ok (.aload_n 0, 1) := by decide +kernel
theorem dX5_isSpelled_35 : decode cX5_isSpelled 35 = .ok (.getfield 79, 3) := by decide +kernel
theorem dX5_isSpelled_38 : decode cX5_isSpelled 38 = .ok (.iload_n 2, 1) := by decide +kernel
theorem dX5_isSpelled_39 : decode cX5_isSpelled 39 = .ok (.iadd, 1) := by decide +kernel
theorem dX5_isSpelled_40 : decode cX5_isSpelled 40 = .ok (.invokevirtual 82, 3) := by decide +kernel
theorem dX5_isSpelled_43 : decode cX5_isSpelled 43 = .ok (.if_icmp .eq 5, 3) := by decide +kernel
theorem dX5_isSpelled_46 : decode cX5_isSpelled 46 = .ok (.iconst 0, 1) := by decide +kernel
theorem dX5_isSpelled_47 : decode cX5_isSpelled 47 = .ok (.ireturn, 1) := by decide +kernel
theorem dX5_isSpelled_48 : decode cX5_isSpelled 48 = .ok (.iinc 2 1, 3) := by decide +kernel
theorem dX5_isSpelled_51 : decode cX5_isSpelled 51 = .ok (.goto (-31), 3) := by decide +kernel
theorem dX5_isSpelled_54 : decode cX5_isSpelled 54 = .ok (.iconst 1, 1) := by decide +kernel
theorem dX5_isSpelled_55 : decode cX5_isSpelled 55 = .ok (.ireturn, 1) := by decide +kernel
theorem dX5_readLine_0 : decode cX5_readLine 0 = .ok (.aload_n 0, 1) := by decide +kernel
theorem dX5_readLine_1 : decode cX5_readLine 1 = .ok (.getfield 79, 3) := by decide +kernel
theorem dX5_readLine_4 : decode cX5_readLine 4 = .ok (.istore_n 2, 1) := by decide +kernel
theorem dX5_readLine_5 : decode cX5_readLine 5 = .ok (.aload_n 0, 1) := by decide +kernel
theorem dX5_readLine_6 : decode cX5_readLine 6 = .ok (.iload_n 1, 1) := by decide +kernel
theorem dX5_readLine_7 : decode cX5_readLine 7 = .ok (.invokevirtual 123, 3) := by decide +kernel
theorem dX5_readLine_10 : decode cX5_readLine 10 = .ok (.astore_n 3, 1) := by decide +kernel
theorem dX5_readLine_11 : decode cX5_readLine 11 = .ok (.aload_n 3, 1) := by decide +kernel
theorem dX5_readLine_12 : decode cX5_readLine 12 = .ok (.ifnonnull 8, 3) := by decide +kernel
theorem dX5_readLine_15 : decode cX5_readLine 15 = .ok (.aload_n 0, 1) := by decide +kernel
theorem dX5_readLine_16 : decode cX5_readLine 16 = .ok (.invokevirtual 127, 3) := by decide +kernel
theorem dX5_readLine_19 : decode cX5_readLine 19 = .ok (.return_, 1) := by decide +kernel
theorem dX5_readLine_20 : decode cX5_readLine 20 = .ok (.aload_n 0, 1) := by decide +kernel
theorem dX5_readLine_21 : decode cX5_readLine 21 = .ok (.invokevirtual 63, 3) := by decide +kernel
theorem dX5_readLine_24 : decode cX5_readLine 24 = .ok (.aload_n 0, 1) := by decide +kernel
theorem dX5_readLine_25 : decode cX5_readLine 25 = .ok (.aload_n 3, 1) := by decide +kernel
theorem dX5_readLine_26 : decode cX5_readLine 26 = .ok (.invokevirtual 130, 3) := by decide +kernel
theorem dX5_readLine_29 : decode cX5_readLine 29 = .ok (.aload_n 3, 1) := by decide +kernel
theorem dX5_readLine_30 : decode cX5_readLine 30 = .ok (.getstatic 134, 3) := by decide +kernel
theorem dX5_readLine_33 : decode cX5_readLine 33 = .ok (.if_acmp .ne 15, 3) := by decide +kernel
theorem dX5_readLine_36 : decode cX5_readLine 36 = .ok (.aload_n 0, 1) := by decide +kernel
theorem dX5_readLine_37 : decode cX5_readLine 37 = .ok (.getfield 51, 3) := by decide +kernel
theorem dX5_readLine_40 : decode cX5_readLine 40 = .ok (.iconst 1, 1) := by decide +kernel
theorem dX5_readLine_41 : decode cX5_readLine 41 = .ok (.if_icmp .eq 7, 3) := by decide +kernel
theorem dX5_readLine_44 : decode cX5_readLine 44 = .ok (.aload_n 0, 1) := by decide +kernel
theorem dX5_readLine_45 : decode cX5_readLine 45 = .ok (.invokevirtual 138, 3) := by decide +kernel
theorem dX5_readLine_48 : decode cX5_readLine 48 = .ok (.aload_n 0, 1) := by decide +kernel
theorem dX5_readLine_49 : decode cX5_readLine 49 = .ok (.getfield 51, 3) := by decide +kernel
theorem dX5_readLine_52 : decode cX5_readLine 52 = .ok (.iconst 1, 1) := by decide +kernel
theorem dX5_readLine_53 : decode cX5_readLine 53 = .ok (.if_icmp .ne 4, 3) := by decide +kernel
theorem dX5_readLine_56 : decode cX5_readLine 56 = .ok (.return_, 1) := by decide +kernel
theorem dX5_readLine_57 : decode cX5_readLine 57 = .ok (.aload_n 0, 1) := by decide +kernel
theorem dX5_readLine_58 : decode cX5_readLine 58 = .ok (.getfield 66, 3) := by decide +kernel
theorem dX5_readLine_61 : decode cX5_readLine 61 = .ok (.iconst 3, 1) := by decide +kernel
theorem dX5_readLine_62 : decode cX5_readLine 62 = .ok (.if_icmp .eq 8, 3) := by decide +kernel
theorem dX5_readLine_65 : decode cX5_readLine 65 = .ok (.aload_n 0, 1) := by decide +kernel
theorem dX5_readLine_66 : decode cX5_readLine 66 = .ok (.invokevirtual 127, 3) := by decide +kernel
theorem dX5_readLine_69 : decode cX5_readLine 69 = .ok (.return_, 1) := by decide +kernel
theorem dX5_readLine_70 : decode cX5_readLine 70 = .ok (.aload_n 0, 1) := by decide +kernel
theorem dX5_readLine_71 : decode cX5_readLine 71 = .ok (.invokevirtual 63, 3) := by decide +kernel
theorem dX5_readLine_74 : decode cX5_readLine 74 = .ok (.aload_n 0, 1) := by decide +kernel
theorem dX5_readLine_75 : decode cX5_readLine 75 = .ok (.aload_n 3, 1) := by decide +kernel
theorem dX5_readLine_76 : decode cX5_readLine 76 = .ok (.invokevirtual 141, 3) := by decide +kernel
theorem dX5_readLine_79 : decode cX5_readLine 79 = .ok (.ifCond .ne 9, 3) := by decide +kernel
theorem dX5_readLine_82 : decode cX5_readLine 82 = .ok (.aload_n 0, 1) := by decide +kernel
theorem dX5_readLine_83 : decode cX5_readLine 83 = .ok (.iconst 3, 1) := by decide +kernel
theorem dX5_readLine_84 : decode cX5_readLine 84 = .ok (.iload_n 2, 1) := by decide +kernel
theorem dX5_readLine_85 : decode cX5_readLine 85 = .ok (.invokevirtual 145, 3) := by decide +kernel
theorem dX5_readLine_88 : decode cX5_readLine 88 = .ok (.return_, 1) := by decide +kernel
theorem dX5_readNumbers_0 : decode cX5_readNumbers 0 = .ok (.iconst 0, 1) := by decide +kernel
theorem dX5_readNumbers_1 : decode cX5_readNumbers 1 = .ok (.istore_n 2, 1) := by decide +kernel
theorem dX5_readNumbers_2 : decode cX5_readNumbers 2 = .ok (.iload_n 2, 1) := by decide +kernel
theorem dX5_readNumbers_3 : decode cX5_readNumbers 3 = .ok (.iconst 3, 1) := by decide +kernel
theorem dX5_readNumbers_4 : decode cX5_readNumbers 4 = .ok (.if_icmp .ge 16, 3) := by decide +kernel
theorem dX5_readNumbers_7 : decode cX5_readNumbers 7 = .ok (.aload_n 0, 1) := by decide +kernel
theorem dX5_readNumbers_8 : decode cX5_readNumbers 8 = .ok (.getfield 32, 3) := by decide +kernel
theorem dX5_readNumbers_11 : decode cX5_readNumbers 11 = .ok (.iload_n 2, 1) := by decide +kernel
theorem dX5_readNumbers_12 : decode cX5_readNumbers 12 = .ok (.iconst (-1), 1) := by decide +kernel
theorem dX5_readNumbers_13 : decode cX5_readNumbers 13 = .ok (.iastore, 1) := by decide +kernel
theorem dX5_readNumbers_14 : decode cX5_readNumbers 14 = .ok (.iinc 2 1, 3) := by decide +kernel
theorem dX5_readNumbers_17 : decode cX5_readNumbers 17 = .ok (.goto (-15), 3) := by decide +kernel
theorem dX5_readNumbers_20 : decode cX5_readNumbers 20 = .ok (.iconst 0, 1) := by decide +kernel
theorem dX5_readNumbers_21 : decode cX5_readNumbers 21 = .ok (.istore_n 2, 1) := by decide +kernel
theorem dX5_readNumbers_22 : decode cX5_readNumbers 22 = .ok (.iload_n 2, 1) := by decide +kernel
theorem dX5_readNumbers_23 : decode cX5_readNumbers 23 = .ok (.iconst 3, 1) := by decide +kernel
theorem dX5_readNumbers_24 : decode cX5_readNumbers 24 = .ok (.if_icmp .ge 100, 3) := by decide +kernel
theorem dX5_readNumbers_27 : decode cX5_readNumbers 27 = .ok (.aload_n 1, 1) := by decide +kernel
theorem dX5_readNumbers_28 : decode cX5_readNumbers 28 = .ok (.iload_n 2, 1) := by decide +kernel
theorem dX5_readNumbers_29 : decode cX5_readNumbers 29 = .ok (.invokevirtual 149, 3) := by decide +kernel
theorem dX5_readNumbers_32 : decode cX5_readNumbers 32 = .ok (.ifCond .eq 92, 3) := by decide +kernel
theorem dX5_readNumbers_35 : decode cX5_readNumbers 35 = .ok (.aload_n 0, 1) := by decide +kernel
theorem dX5_readNumbers_36 : decode cX5_readNumbers 36 = .ok (.getfield 66, 3) := by decide +kernel
theorem dX5_readNumbers_39 : decode cX5_readNumbers 39 = .ok (.iconst 2, 1) := by decide +kernel
theorem dX5_readNumbers_40 : decode cX5_readNumbers 40 = .ok (.if_icmp .eq 8, 3) := by decide +kernel
theorem dX5_readNumbers_43 : decode cX5_readNumbers 43 = .ok (.aload_n 0, 1) := by decide +kernel
theorem dX5_readNumbers_44 : decode cX5_readNumbers 44 = .ok (.invokevirtual 127, 3) := by decide +kernel
theorem dX5_readNumbers_47 : decode cX5_readNumbers 47 = .ok (.return_, 1) := by decide +kernel
theorem dX5_readNumbers_48 : decode cX5_readNumbers 48 = .ok (.aload_n 1, 1) := by decide +kernel
theorem dX5_readNumbers_49 : decode cX5_readNumbers 49 = .ok (.getstatic 152, 3) := by decide +kernel
theorem dX5_readNumbers_52 : decode cX5_readNumbers 52 = .ok (.if_acmp .ne 25, 3) := by decide +kernel
theorem dX5_readNumbers_55 : decode cX5_readNumbers 55 = .ok (.iload_n 2, 1) := by decide +kernel
theorem dX5_readNumbers_56 : decode cX5_readNumbers 56 = .ok (.iconst 1, 1) := by decide +kernel
theorem dX5_readNumbers_57 : decode cX5_readNumbers 57 = .ok (.if_icmp .ne 20, 3) := by decide +kernel
theorem dX5_readNumbers_60 : decode cX5_readNumbers 60 = .ok (.aload_n 0, 1) := by decide +kernel
theorem dX5_readNumbers_61 : decode cX5_readNumbers 61 = .ok (.getfield 95, 3) := by decide +kernel
theorem dX5_readNumbers_64 : decode cX5_readNumbers 64 = .ok (.aload_n 0, 1) := by decide +kernel
theorem dX5_readNumbers_65 : decode cX5_readNumbers 65 = .ok (.getfield 32, 3) := by decide +kernel
theorem dX5_readNumbers_68 : decode cX5_readNumbers 68 = .ok (.iconst 0, 1) := by decide +kernel
theorem dX5_readNumbers_69 : decode cX5_readNumbers 69 = .ok (.iaload, 1) := by decide +kernel
theorem dX5_readNumbers_70 : decode cX5_readNumbers 70 = .ok (.if_icmp .ne 7, 3) := by decide +kernel
theorem dX5_readNumbers_73 : decode cX5_readNumbers 73 = .ok (.iconst 1, 1) := by decide +kernel
theorem dX5_readNumbers_74 : decode cX5_readNumbers 74 = .ok (.goto 4, 3) := by decide +kernel
theorem dX5_readNumbers_77 : decode cX5_readNumbers 77 = .ok (.iconst 0, 1) := by decide +kernel
theorem dX5_readNumbers_78 : decode cX5_readNumbers 78 = .ok (.istore_n 3, 1) := by decide +kernel
theorem dX5_readNumbers_79 : decode cX5_readNumbers 79 = .ok (.aload_n 1, 1) := by decide +kernel
theorem dX5_readNumbers_80 : decode cX5_readNumbers 80 = .ok (.iload_n 2, 1) := by decide +kernel
theorem dX5_readNumbers_81 : decode cX5_readNumbers 81 = .ok (.aload_n 0, 1) := by decide +kernel
theorem dX5_readNumbers_82 : decode cX5_readNumbers 82 = .ok (.getfield 95, 3) := by decide +kernel
theorem dX5_readNumbers_85 : decode cX5_readNumbers 85 = .ok (.invokevirtual 155, 3) := by decide +kernel
theorem dX5_readNumbers_88 : decode cX5_readNumbers 88 = .ok (.ifCond .eq 7, 3) := by decide +kernel
theorem dX5_readNumbers_91 : decode cX5_readNumbers 91 = .ok (.iload_n 3, 1) := by decide +kernel
theorem dX5_readNumbers_92 : decode cX5_readNumbers 92 = .ok (.ifCond .eq 12, 3) := by decide +kernel
theorem dX5_readNumbers_95 : decode cX5_readNumbers 95 = .ok (.aload_n 0, 1) := by decide +kernel
theorem dX5_readNumbers_96 : decode cX5_readNumbers 96 = .ok (.iconst 2, 1) := by decide +kernel
theorem dX5_readNumbers_97 : decode cX5_readNumbers 97 = .ok (.aload_n 0, 1) := by decide +kernel
theorem dX5_readNumbers_98 : decode cX5_readNumbers 98 = .ok (.getfield 79, 3) := by decide +kernel
theorem dX5_readNumbers_101 : decode cX5_readNumbers 101 = .ok (.invokevirtual 145, 3) := by decide +kernel
theorem dX5_readNumbers_104 : decode cX5_readNumbers 104 = .ok (.aload_n 0, 1) := by decide +kernel
theorem dX5_readNumbers_105 : decode cX5_readNumbers 105 = .ok (.getfield 32, 3) := by decide +kernel
theorem dX5_readNumbers_108 : decode cX5_readNumbers 108 = .ok (.iload_n 2, 1) := by decide +kernel
theorem dX5_readNumbers_109 : decode cX5_readNumbers 109 = .ok (.aload_n 0, 1) := by decide +kernel
theorem dX5_readNumbers_110 : decode cX5_readNumbers 110 = .ok (.getfield 95, 3) := by decide +kernel
theorem dX5_readNumbers_113 : decode cX5_readNumbers 113 = .ok (.iastore, 1) := by decide +kernel
theorem dX5_readNumbers_114 : decode cX5_readNumbers 114 = .ok (.aload_n 0, 1) := by decide +kernel
theorem dX5_readNumbers_115 : decode cX5_readNumbers 115 = .ok (.invokevirtual 63, 3) := by decide +kernel
theorem dX5_readNumbers_118 : decode cX5_readNumbers 118 = .ok (.iinc 2 1, 3) := by decide +kernel
theorem dX5_readNumbers_121 : decode cX5_readNumbers 121 = .ok (.goto (-99), 3) := by decide +kernel
theorem dX5_readNumbers_124 : decode cX5_readNumbers 124 = .ok (.return_, 1) := by decide +kernel
theorem dX5_readFurtherGraves_0 : decode cX5_readFurtherGraves 0 = .ok (.getstatic 134, 3) := by decide +kernel
theorem dX5_readFurtherGraves_3 : decode cX5_readFurtherGraves 3 = .ok (.iconst 0, 1) := by decide +kernel
theorem dX5_readFurtherGraves_4 : decode cX5_readFurtherGraves 4 = .ok (.aload_n 0, 1) := by decide +kernel
theorem dX5_readFurtherGraves_5 : decode cX5_readFurtherGraves 5 = .ok (.getfield 32, 3) := by decide +kernel
theorem dX5_readFurtherGraves_8 : decode cX5_readFurtherGraves 8 = .ok (.iconst 0, 1) := by decide +kernel
theorem dX5_readFurtherGraves_9 : decode cX5_readFurtherGraves 9 = .ok (.iaload, 1) := by decide +kernel
theorem dX5_readFurtherGraves_10 : decode cX5_readFurtherGraves 10 = .ok (.invokevirtual 155, 3) := by decide +kernel
theorem dX5_readFurtherGraves_13 : decode cX5_readFurtherGraves 13 = .ok (.ifCond .eq 14, 3) := by decide +kernel
theorem dX5_readFurtherGraves_16 : decode cX5_readFurtherGraves 16 = .ok (.iconst 1, 1) := by decide +kernel
theorem dX5_readFurtherGraves_17 : decode cX5_readFurtherGraves 17 = .ok (.aload_n 0, 1) := by decide +kernel
theorem dX5_readFurtherGraves_18 : decode cX5_readFurtherGraves 18 = .ok (.getfield 32, 3) := by decide +kernel
theorem dX5_readFurtherGraves_21 : decode cX5_readFurtherGraves 21 = .ok (.iconst 0, 1) := by decide +kernel
theorem dX5_readFurtherGraves_22 : decode cX5_readFurtherGraves 22 = .ok (.iaload, 1) := by decide +kernel
theorem dX5_readFurtherGraves_23 : decode cX5_readFurtherGraves 23 = .ok (.ishl, 1) := by decide +kernel
theorem dX5_readFurtherGraves_24 : decode cX5_readFurtherGraves 24 = .ok (.goto 4, 3) := by decide +kernel
theorem dX5_readFurtherGraves_27 : decode cX5_readFurtherGraves 27 = .ok (.iconst 0, 1) := by decide +kernel
theorem dX5_readFurtherGraves_28 : decode cX5_readFurtherGraves 28 = .ok (.istore_n 1, 1) := by decide +kernel
theorem dX5_readFurtherGraves_29 : decode cX5_readFurtherGraves 29 = .ok (.iconst 0, 1) := by decide +kernel
theorem dX5_readFurtherGraves_30 : decode cX5_readFurtherGraves 30 = .ok (.istore_n 2, 1) := by decide +kernel
theorem dX5_readFurtherGraves_31 : decode cX5_readFurtherGraves 31 = .ok (.iload_n 2, 1) := by decide +kernel
theorem dX5_readFurtherGraves_32 : decode cX5_readFurtherGraves 32 = .ok (.aload_n 0, 1) := by decide +kernel
theorem dX5_readFurtherGraves_33 : decode cX5_readFurtherGraves 33 = .ok (.getfield 48, 3) := by decide +kernel
theorem dX5_readFurtherGraves_36 : decode cX5_readFurtherGraves 36 = .ok (.if_icmp .gt 67, 3) := by decide +kernel
theorem dX5_readFurtherGraves_39 : decode cX5_readFurtherGraves 39 = .ok (.aload_n 0, 1) := by decide +kernel
theorem dX5_readFurtherGraves_40 : decode cX5_readFurtherGraves 40 = .ok (.getfield 66, 3) := by decide +kernel
theorem dX5_readFurtherGraves_43 : decode cX5_readFurtherGraves 43 = .ok (.iconst 2, 1) := by decide +kernel
theorem dX5_readFurtherGraves_44 : decode cX5_readFurtherGraves 44 = .ok (.if_icmp .ne 59, 3) := by decide +kernel
theorem dX5_readFurtherGraves_47 : decode cX5_readFurtherGraves 47 = .ok (.getstatic 134, 3) := by decide +kernel
theorem dX5_readFurtherGraves_50 : decode cX5_readFurtherGraves 50 = .ok (.iconst 0, 1) := by decide +kernel
theorem dX5_readFurtherGraves_51 : decode cX5_readFurtherGraves 51 = .ok (.aload_n 0, 1) := by decide +kernel
theorem dX5_readFurtherGraves_52 : decode cX5_readFurtherGraves 52 = .ok (.getfield 95, 3) := by decide +kernel
theorem dX5_readFurtherGraves_55 : decode cX5_readFurtherGraves 55 = .ok (.invokevirtual 155, 3) := by decide +kernel
theorem dX5_readFurtherGraves_58 : decode cX5_readFurtherGraves 58 = .ok (.ifCond .eq 14, 3) := by decide +kernel
theorem dX5_readFurtherGraves_61 : decode cX5_readFurtherGraves 61 = .ok (.iload_n 1, 1) := by decide +kernel
theorem dX5_readFurtherGraves_62 : decode cX5_readFurtherGraves 62 = .ok (.aload_n 0, 1) := by decide +kernel
theorem dX5_readFurtherGraves_63 : decode cX5_readFurtherGraves 63 = .ok (.getfield 95, 3) := by decide +kernel
theorem dX5_readFurtherGraves_66 : decode cX5_readFurtherGraves 66 = .ok (.invokestatic 159, 3) := by decide +kernel
theorem dX5_readFurtherGraves_69 : decode cX5_readFurtherGraves 69 = .ok (.ifCond .eq 15, 3) := by decide +kernel
theorem dX5_readFurtherGraves_72 : decode cX5_readFurtherGraves 72 = .ok (.aload_n 0, 1) := by decide +kernel
theorem dX5_readFurtherGraves_73 : decode cX5_readFurtherGraves 73 = .ok (.iconst 2, 1) := by decide +kernel
theorem dX5_readFurtherGraves_74 : decode cX5_readFurtherGraves 74 = .ok (.aload_n 0, 1) := by decide +kernel
theorem dX5_readFurtherGraves_75 : decode cX5_readFurtherGraves 75 = .ok (.getfield 79, 3) := by decide +kernel
theorem dX5_readFurtherGraves_78 : decode cX5_readFurtherGraves 78 = .ok (.invokevirtual 145, 3) := by decide +kernel
theorem dX5_readFurtherGraves_81 : decode cX5_readFurtherGraves 81 = .ok (.goto 12, 3) := by decide +kernel
theorem dX5_readFurtherGraves_84 : decode cX5_readFurtherGraves 84 = .ok (.iload_n 1, 1) := by decide +kernel
theorem dX5_readFurtherGraves_85 : decode cX5_readFurtherGraves 85 = .ok (.iconst 1, 1) := by decide +kernel
theorem dX5_readFurtherGraves_86 : decode cX5_readFurtherGraves 86 = .ok (.aload_n 0, 1) := by decide +kernel
theorem dX5_readFurtherGraves_87 : decode cX5_readFurtherGraves 87 = .ok (.getfield 95, 3) := by decide +kernel
theorem dX5_readFurtherGraves_90 : decode cX5_readFurtherGraves 90 = .ok (.ishl, 1) := by decide +kernel
theorem dX5_readFurtherGraves_91 : decode cX5_readFurtherGraves 91 = .ok (.ior, 1) := by decide +kernel
theorem dX5_readFurtherGraves_92 : decode cX5_readFurtherGraves 92 = .ok (.istore_n 1, 1) := by decide +kernel
theorem dX5_readFurtherGraves_93 : decode cX5_readFurtherGraves 93 = .ok (.aload_n 0, 1) := by decide +kernel
theorem dX5_readFurtherGraves_94 : decode cX5_readFurtherGraves 94 = .ok (.invokevirtual 63, 3) := by decide +kernel
theorem dX5_readFurtherGraves_97 : decode cX5_readFurtherGraves 97 = .ok (.iinc 2 1, 3) := by decide +kernel
theorem dX5_readFurtherGraves_100 : decode cX5_readFurtherGraves 100 = .ok (.goto (-69), 3) := by decide +kernel
theorem dX5_readFurtherGraves_103 : decode cX5_readFurtherGraves 103 = .ok (.aload_n 0, 1) := by decide +kernel
theorem dX5_readFurtherGraves_104 : decode cX5_readFurtherGraves 104 = .ok (.getfield 32, 3) := by decide +kernel
theorem dX5_readFurtherGraves_107 : decode cX5_readFurtherGraves 107 = .ok (.iconst 0, 1) := by decide +kernel
theorem dX5_readFurtherGraves_108 : decode cX5_readFurtherGraves 108 = .ok (.iload_n 1, 1) := by decide +kernel
theorem dX5_readFurtherGraves_109 : decode cX5_readFurtherGraves 109 = .ok (.iastore, 1) := by decide +kernel
theorem dX5_readFurtherGraves_110 : decode cX5_readFurtherGraves 110 = .ok (.return_, 1) := by decide +kernel
theorem dX5_tell_0 : decode cX5_tell 0 = .ok (.aload_n 1, 1) := by decide +kernel
theorem dX5_tell_1 : decode cX5_tell 1 = .ok (.invokevirtual 102, 3) := by decide +kernel
theorem dX5_tell_4 : decode cX5_tell 4 = .ok (.istore_n 2, 1) := by decide +kernel
theorem dX5_tell_5 : decode cX5_tell 5 = .ok (.iload_n 2, 1) := by decide +kernel
theorem dX5_tell_6 : decode cX5_tell 6 = .ok (.ifCond .ne 9, 3) := by decide +kernel
theorem dX5_tell_9 : decode cX5_tell 9 = .ok (.aload_n 0, 1) := by decide +kernel
theorem dX5_tell_10 : decode cX5_tell 10 = .ok (.aload_n 1, 1) := by decide +kernel
theorem dX5_tell_11 : decode cX5_tell 11 = .ok (.invokevirtual 162, 3) := by decide +kernel
theorem dX5_tell_14 : decode cX5_tell 14 = .ok (.ireturn, 1) := by decide +kernel
theorem dX5_tell_15 : decode cX5_tell 15 = .ok (.iload_n 2, 1) := by decide +kernel
theorem dX5_tell_16 : decode cX5_tell 16 = .ok (.ifCond .lt 8, 3) := by decide +kernel
theorem dX5_tell_19 : decode cX5_tell 19 = .ok (.iload_n 2, 1) := by decide +kernel
theorem dX5_tell_20 : decode cX5_tell 20 = .ok (.iconst 5, 1) := by decide +kernel
theorem dX5_tell_21 : decode cX5_tell 21 = .ok (.if_icmp .lt 5, 3) := by decide +kernel
theorem dX5_tell_24 : decode cX5_tell 24 = .ok (.iconst 0, 1) := by decide +kernel
theorem dX5_tell_25 : decode cX5_tell 25 = .ok (.ireturn, 1) := by decide +kernel
theorem dX5_tell_26 : decode cX5_tell 26 = .ok (.iload_n 2, 1) := by decide +kernel
theorem dX5_tell_27 : decode cX5_tell 27 = .ok (.iconst 1, 1) := by decide +kernel
theorem dX5_tell_28 : decode cX5_tell 28 = .ok (.if_icmp .eq 8, 3) := by decide +kernel
theorem dX5_tell_31 : decode cX5_tell 31 = .ok (.iload_n 2, 1) := by decide +kernel
theorem dX5_tell_32 : decode cX5_tell 32 = .ok (.iconst 4, 1) := by decide +kernel
theorem dX5_tell_33 : decode cX5_tell 33 = .ok (.if_icmp .ne 29, 3) := by decide +kernel
theorem dX5_tell_36 : decode cX5_tell 36 = .ok (.aload_n 0, 1) := by decide +kernel
theorem dX5_tell_37 : decode cX5_tell 37 = .ok (.getfield 20, 3) := by decide +kernel
theorem dX5_tell_40 : decode cX5_tell 40 = .ok (.iload_n 2, 1) := by decide +kernel
theorem dX5_tell_41 : decode cX5_tell 41 = .ok (.aaload, 1) := by decide +kernel
theorem dX5_tell_42 : decode cX5_tell 42 = .ok (.aload_n 1, 1) := by decide +kernel
theorem dX5_tell_43 : decode cX5_tell 43 = .ok (.invokevirtual 165, 3) := by decide +kernel
theorem dX5_tell_46 : decode cX5_tell 46 = .ok (.aload_n 0, 1) := by decide +kernel
theorem dX5_tell_47 : decode cX5_tell 47 = .ok (.getfield 32, 3) := by decide +kernel
theorem dX5_tell_50 : decode cX5_tell 50 = .ok (.iconst 0, 1) := by decide +kernel
theorem dX5_tell_51 : decode cX5_tell 51 = .ok (.iaload, 1) := by decide +kernel
theorem dX5_tell_52 : decode cX5_tell 52 = .ok (.aload_n 0, 1) := by decide +kernel
theorem dX5_tell_53 : decode cX5_tell 53 = .ok (.getfield 32, 3) := by decide +kernel
theorem dX5_tell_56 : decode cX5_tell 56 = .ok (.iconst 1, 1) := by decide +kernel
theorem dX5_tell_57 : decode cX5_tell 57 = .ok (.iaload, 1) := by decide +kernel
theorem dX5_tell_58 : decode cX5_tell 58 = .ok (.invokevirtual 168, 3) := by decide +kernel
theorem dX5_tell_61 : decode cX5_tell 61 = .ok (.ireturn, 1) := by decide +kernel
theorem dX5_tell_62 : decode cX5_tell 62 = .ok (.aload_n 0, 1) := by decide +kernel
theorem dX5_tell_63 : decode cX5_tell 63 = .ok (.getfield 20, 3) := by decide +kernel
theorem dX5_tell_66 : decode cX5_tell 66 = .ok (.iload_n 2, 1) := by decide +kernel
theorem dX5_tell_67 : decode cX5_tell 67 = .ok (.aaload, 1) := by decide +kernel
theorem dX5_tell_68 : decode cX5_tell 68 = .ok (.aload_n 0, 1) := by decide +kernel
theorem dX5_tell_69 : decode cX5_tell 69 = .ok (.getfield 32, 3) := by decide +kernel
theorem dX5_tell_72 : decode cX5_tell 72 = .ok (.iconst 0, 1) := by decide +kernel
theorem dX5_tell_73 : decode cX5_tell 73 = .ok (.iaload, 1) := by decide +kernel
theorem dX5_tell_74 : decode cX5_tell 74 = .ok (.aload_n 0, 1) := by decide +kernel
theorem dX5_tell_75 : decode cX5_tell 75 = .ok (.getfield 32, 3) := by decide +kernel
theorem dX5_tell_78 : decode cX5_tell 78 = .ok (.iconst 1, 1) := by decide +kernel
theorem dX5_tell_79 : decode cX5_tell 79 = .ok (.iaload, 1) := by decide +kernel
theorem dX5_tell_80 : decode cX5_tell 80 = .ok (.aload_n 0, 1) := by decide +kernel
theorem dX5_tell_81 : decode cX5_tell 81 = .ok (.getfield 32, 3) := by decide +kernel
theorem dX5_tell_84 : decode cX5_tell 84 = .ok (.iconst 2, 1) := by decide +kernel
theorem dX5_tell_85 : decode cX5_tell 85 = .ok (.iaload, 1) := by decide +kernel
theorem dX5_tell_86 : decode cX5_tell 86 = .ok (.invokevirtual 168, 3) := by decide +kernel
theorem dX5_tell_89 : decode cX5_tell 89 = .ok (.ireturn, 1) := by decide +kernel
theorem dX5_tellOfLake_0 : decode cX5_tellOfLake 0 = .ok (.aload_n 0, 1) := by decide +kernel
theorem dX5_tellOfLake_1 : decode cX5_tellOfLake 1 = .ok (.getfield 12, 3) := by decide +kernel
theorem dX5_tellOfLake_4 : decode cX5_tellOfLake 4 = .ok (.aload_n 1, 1) := by decide +kernel
theorem dX5_tellOfLake_5 : decode cX5_tellOfLake 5 = .ok (.invokevirtual 165, 3) := by decide +kernel
theorem dX5_tellOfLake_8 : decode cX5_tellOfLake 8 = .ok (.invokevirtual 172, 3) := by decide +kernel
theorem dX5_tellOfLake_11 : decode cX5_tellOfLake 11 = .ok (.astore_n 2, 1) := by decide +kernel
theorem dX5_tellOfLake_12 : decode cX5_tellOfLake 12 = .ok (.aload_n 2, 1) := by decide +kernel
theorem dX5_tellOfLake_13 : decode cX5_tellOfLake 13 = .ok (.ifnull 26, 3) := by decide +kernel
theorem dX5_tellOfLake_16 : decode cX5_tellOfLake 16 = .ok (.aload_n 2, 1) := by decide +kernel
theorem dX5_tellOfLake_17 : decode cX5_tellOfLake 17 = .ok (.aload_n 0, 1) := by decide +kernel
theorem dX5_tellOfLake_18 : decode cX5_tellOfLake 18 = .ok (.getfield 32, 3) := by decide +kernel
theorem dX5_tellOfLake_21 : decode cX5_tellOfLake 21 = .ok (.iconst 0, 1) := by decide +kernel
theorem dX5_tellOfLake_22 : decode cX5_tellOfLake 22 = .ok (.iaload, 1) := by decide +kernel
theorem dX5_tellOfLake_23 : decode cX5_tellOfLake 23 = .ok (.aload_n 0, 1) := by decide +kernel
theorem dX5_tellOfLake_24 : decode cX5_tellOfLake 24 = .ok (.getfield 32, 3) := by decide +kernel
theorem dX5_tellOfLake_27 : decode cX5_tellOfLake 27 = .ok (.iconst 1, 1) := by decide +kernel
theorem dX5_tellOfLake_28 : decode cX5_tellOfLake 28 = .ok (.iaload, 1) := by decide +kernel
theorem dX5_tellOfLake_29 : decode cX5_tellOfLake 29 = .ok (.aload_n 0, 1) := by decide +kernel
theorem dX5_tellOfLake_30 : decode cX5_tellOfLake 30 = .ok (.getfield 32, 3) := by decide +kernel
theorem dX5_tellOfLake_33 : decode cX5_tellOfLake 33 = .ok (.iconst 2, 1) := by decide +kernel
theorem dX5_tellOfLake_34 : decode cX5_tellOfLake 34 = .ok (.iaload, 1) := by decide +kernel
theorem dX5_tellOfLake_35 : decode cX5_tellOfLake 35 = .ok (.invokevirtual 168, 3) := by decide +kernel
theorem dX5_tellOfLake_38 : decode cX5_tellOfLake 38 = .ok (.ireturn, 1) := by decide +kernel
theorem dX5_tellOfLake_39 : decode cX5_tellOfLake 39 = .ok (.iconst 0, 1) := by decide +kernel
theorem dX5_tellOfLake_40 : decode cX5_tellOfLake 40 = .ok (.istore_n 3, 1) := by decide +kernel
theorem dX5_tellOfLake_41 : decode cX5_tellOfLake 41 = .ok (.iload_n 3, 1) := by decide +kernel
theorem dX5_tellOfLake_42 : decode cX5_tellOfLake 42 = .ok (.iconst 3, 1) := by decide +kernel
theorem dX5_tellOfLake_43 : decode cX5_tellOfLake 43 = .ok (.if_icmp .ge 48, 3) := by decide +kernel
theorem dX5_tellOfLake_46 : decode cX5_tellOfLake 46 = .ok (.aload_n 1, 1) := by decide +kernel
theorem dX5_tellOfLake_47 : decode cX5_tellOfLake 47 = .ok (.iload_n 3, 1) := by decide +kernel
theorem dX5_tellOfLake_48 : decode cX5_tellOfLake 48 = .ok (.invokevirtual 149, 3) := by decide +kernel
theorem dX5_tellOfLake_51 : decode cX5_tellOfLake 51 = .ok (.ifCond .eq 40, 3) := by decide +kernel
theorem dX5_tellOfLake_54 : decode cX5_tellOfLake 54 = .ok (.aload_n 1, 1) := by decide +kernel
theorem dX5_tellOfLake_55 : decode cX5_tellOfLake 55 = .ok (.invokevirtual 165, 3) := by decide +kernel
theorem dX5_tellOfLake_58 : decode cX5_tellOfLake 58 = .ok (.iload_n 3, 1) := by decide +kernel
theorem dX5_tellOfLake_59 : decode cX5_tellOfLake 59 = .ok (.iadd, 1) := by decide +kernel
theorem dX5_tellOfLake_60 : decode cX5_tellOfLake 60 = .ok (.bipush 11, 2) := by decide +kernel
theorem dX5_tellOfLake_62 : decode cX5_tellOfLake 62 = .ok (.if_icmp .ge 29, 3) := by decide +kernel
theorem dX5_tellOfLake_65 : decode cX5_tellOfLake 65 = .ok (.aload_n 0, 1) := by decide +kernel
theorem dX5_tellOfLake_66 : decode cX5_tellOfLake 66 = .ok (.getfield 12, 3) := by decide +kernel
theorem dX5_tellOfLake_69 : decode cX5_tellOfLake 69 = .ok (.getfield 176, 3) := by decide +kernel
theorem dX5_tellOfLake_72 : decode cX5_tellOfLake 72 = .ok (.aload_n 1, 1) := by decide +kernel
theorem dX5_tellOfLake_73 : decode cX5_tellOfLake 73 = .ok (.invokevirtual 165, 3) := by decide +kernel
theorem dX5_tellOfLake_76 : decode cX5_tellOfLake 76 = .ok (.iload_n 3, 1) := by decide +kernel
theorem dX5_tellOfLake_77 : decode cX5_tellOfLake 77 = .ok (.iadd, 1) := by decide +kernel
theorem dX5_tellOfLake_78 : decode cX5_tellOfLake 78 = .ok (.aload_n 0, 1) := by decide +kernel
theorem dX5_tellOfLake_79 : decode cX5_tellOfLake 79 = .ok (.getfield 32, 3) := by decide +kernel
theorem dX5_tellOfLake_82 : decode cX5_tellOfLake 82 = .ok (.iload_n 3, 1) := by decide +kernel
theorem dX5_tellOfLake_83 : decode cX5_tellOfLake 83 = .ok (.iaload, 1) := by decide +kernel
theorem dX5_tellOfLake_84 : decode cX5_tellOfLake 84 = .ok (.iastore, 1) := by decide +kernel
theorem dX5_tellOfLake_85 : decode cX5_tellOfLake 85 = .ok (.iinc 3 1, 3) := by decide +kernel
theorem dX5_tellOfLake_88 : decode cX5_tellOfLake 88 = .ok (.goto (-47), 3) := by decide +kernel
theorem dX5_tellOfLake_91 : decode cX5_tellOfLake 91 = .ok (.iconst 1, 1) := by decide +kernel
theorem dX5_tellOfLake_92 : decode cX5_tellOfLake 92 = .ok (.ireturn, 1) := by decide +kernel
theorem dX0_init_0 : decode cX0_init 0 = .ok (.aload_n 0, 1) := by decide +kernel
theorem dX0_init_1 : decode cX0_init 1 = .ok (.invokespecial 3, 3) := by decide +kernel
theorem dX0_init_4 : decode cX0_init 4 = .ok (.aload_n 0, 1) := by decide +kernel
theorem dX0_init_5 : decode cX0_init 5 = .ok (.bipush 64, 2) := by decide +kernel
theorem dX0_init_7 : decode cX0_init 7 = .ok (.newarray .int, 2) := by decide +kernel
theorem dX0_init_9 : decode cX0_init 9 = .ok (.putfield 11, 3) := by decide +kernel
theorem dX0_init_12 : decode cX0_init 12 = .ok (.aload_n 0, 1) := by decide +kernel
theorem dX0_init_13 : decode cX0_init 13 = .ok (.bipush 9, 2) := by decide +kernel
theorem dX0_init_15 : decode cX0_init 15 = .ok (.newarray .int, 2) := by decide +kernel
theorem dX0_init_17 : decode cX0_init 17 = .ok (.putfield 15, 3) := by decide +kernel
theorem dX0_init_20 : decode cX0_init 20 = .ok (.aload_n 0, 1) := by decide +kernel
theorem dX0_init_21 : decode cX0_init 21 = .ok (.sipush 1296, 3) := by decide +kernel
theorem dX0_init_24 : decode cX0_init 24 = .ok (.newarray .int, 2) := by decide +kernel
theorem dX0_init_26 : decode cX0_init 26 = .ok (.putfield 18, 3) := by decide +kernel
theorem dX0_init_29 : decode cX0_init 29 = .ok (.aload_n 0, 1) := by decide +kernel
theorem dX0_init_30 : decode cX0_init 30 = .ok (.sipush 144, 3) := by decide +kernel
theorem dX0_init_33 : decode cX0_init 33 = .ok (.newarray .int, 2) := by decide +kernel
theorem dX0_init_35 : decode cX0_init 35 = .ok (.putfield 21, 3) := by decide +kernel
theorem dX0_init_38 : decode cX0_init 38 = .ok (.aload_n 0, 1) := by decide +kernel
theorem dX0_init_39 : decode cX0_init 39 = .ok (.sipush 576, 3) := by decide +kernel
theorem dX0_init_42 : decode cX0_init 42 = .ok (.newarray .int, 2) := by decide +kernel
theorem dX0_init_44 : decode cX0_init 44 = .ok (.putfield 24, 3) := by decide +kernel
theorem dX0_init_47 : decode cX0_init 47 = .ok (.aload_n 0, 1) := by decide +kernel
theorem dX0_init_48 : decode cX0_init 48 = .ok (.sipush 144, 3) := by decide +kernel
theorem dX0_init_51 : decode cX0_init 51 = .ok (.newarray .boolean, 2) := by decide +kernel
theorem dX0_init_53 : decode cX0_init 53 = .ok (.putfield 27, 3) := by decide +kernel
theorem dX0_init_56 : decode cX0_init 56 = .ok (.aload_n 0, 1) := by decide +kernel
theorem dX0_init_57 : decode cX0_init 57 = .ok (.sipush 144, 3) := by decide +kernel
theorem dX0_init_60 : decode cX0_init 60 = .ok (.newarray .boolean, 2) := by decide +kernel
theorem dX0_init_62 : decode cX0_init 62 = .ok (.putfield 31, 3) := by decide +kernel
theorem dX0_init_65 : decode cX0_init 65 = .ok (.aload_n 0, 1) := by decide +kernel
theorem dX0_init_66 : decode cX0_init 66 = .ok (.new 34, 3) := by decide +kernel
theorem dX0_init_69 : decode cX0_init 69 = .ok (.dup, 1) := by decide +kernel
theorem dX0_init_70 : decode cX0_init 70 = .ok (.aload_n 1, 1) := by decide +kernel
theorem dX0_init_71 : decode cX0_init 71 = .ok (.invokespecial 36, 3) := by decide +kernel
theorem dX0_init_74 : decode cX0_init 74 = .ok (.putfield 39, 3) := by decide +kernel
theorem dX0_init_77 : decode cX0_init 77 = .ok (.return_, 1) := by decide +kernel
theorem dX0_driftOf_0 : decode cX0_driftOf 0 = .ok (.iload_n 1, 1) := by decide +kernel
theorem dX0_driftOf_1 : decode cX0_driftOf 1 = .ok (.iconst 1, 1) := by decide +kernel
theorem dX0_driftOf_2 : decode cX0_driftOf 2 = .ok (.iadd, 1) := by decide +kernel
theorem dX0_driftOf_3 : decode cX0_driftOf 3 = .ok (.iconst 3, 1) := by decide +kernel
theorem dX0_driftOf_4 : decode cX0_driftOf 4 = .ok (.imul, 1) := by decide +kernel
theorem dX0_driftOf_5 : decode cX0_driftOf 5 = .ok (.iload_n 0, 1) := by decide +kernel
theorem dX0_driftOf_6 : decode cX0_driftOf 6 = .ok (.iadd, 1) := by decide +kernel
theorem dX0_driftOf_7 : decode cX0_driftOf 7 = .ok (.iconst 1, 1) := by decide +kernel
theorem dX0_driftOf_8 : decode cX0_driftOf 8 = .ok (.iadd, 1) := by decide +kernel
theorem dX0_driftOf_9 : decode cX0_driftOf 9 = .ok (.ireturn, 1) := by decide +kernel
theorem dX0_cellOf_0 : decode cX0_cellOf 0 = .ok (.iload_n 1, 1) := by decide +kernel
theorem dX0_cellOf_1 : decode cX0_cellOf 1 = .ok (.bipush 12, 2) := by decide +kernel
theorem dX0_cellOf_3 : decode cX0_cellOf 3 = .ok (.imul, 1) := by decide +kernel
theorem dX0_cellOf_4 : decode cX0_cellOf 4 = .ok (.iload_n 0, 1) := by decide +kernel
theorem dX0_cellOf_5 : decode cX0_cellOf 5 = .ok (.iadd, 1) := by decide +kernel
theorem dX0_cellOf_6 : decode cX0_cellOf 6 = .ok (.ireturn, 1) := by decide +kernel
theorem dX0_weigh_0 : decode cX0_weigh 0 = .ok (.aload_n 0, 1) := by decide +kernel
theorem dX0_weigh_1 : decode cX0_weigh 1 = .ok (.aload_n 1, 1) := by decide +kernel
theorem dX0_weigh_2 : decode cX0_weigh 2 = .ok (.iconst 0, 1) := by decide +kernel
theorem dX0_weigh_3 : decode cX0_weigh 3 = .ok (.invokevirtual 43, 3) := by decide +kernel
theorem dX0_weigh_6 : decode cX0_weigh 6 = .ok (.aload_n 0, 1) := by decide +kernel
theorem dX0_weigh_7 : decode cX0_weigh 7 = .ok (.aload_n 1, 1) := by decide +kernel
theorem dX0_weigh_8 : decode cX0_weigh 8 = .ok (.iconst 1, 1) := by decide +kernel
theorem dX0_weigh_9 : decode cX0_weigh 9 = .ok (.invokevirtual 43, 3) := by decide +kernel
theorem dX0_weigh_12 : decode cX0_weigh 12 = .ok (.aload_n 0, 1) := by decide +kernel
theorem dX0_weigh_13 : decode cX0_weigh 13 = .ok (.aload_n 1, 1) := by decide +kernel
theorem dX0_weigh_14 : decode cX0_weigh 14 = .ok (.iconst 0, 1) := by decide +kernel
theorem dX0_weigh_15 : decode cX0_weigh 15 = .ok (.invokevirtual 47, 3) := by decide +kernel
theorem dX0_weigh_18 : decode cX0_weigh 18 = .ok (.return_, 1) := by decide +kernel
theorem dX0_findLeans_0 : decode cX0_findLeans 0 = .ok (.aload_n 1, 1) := by decide +kernel
theorem dX0_findLeans_1 : decode cX0_findLeans 1 = .ok (.getfield 50, 3) := by decide +kernel
theorem dX0_findLeans_4 : decode cX0_findLeans 4 = .ok (.getfield 56, 3) := by decide +kernel
theorem dX0_findLeans_7 : decode cX0_findLeans 7 = .ok (.istore_n 3, 1) := by decide +kernel
theorem dX0_findLeans_8 : decode cX0_findLeans 8 = .ok (.aload_n 1, 1) := by decide +kernel
theorem dX0_findLeans_9 : decode cX0_findLeans 9 = .ok (.iload_n 2, 1) := by decide +kernel
theorem dX0_findLeans_10 : decode cX0_findLeans 10 = .ok (.invokevirtual 62, 3) := by decide +kernel
theorem dX0_findLeans_13 : decode cX0_findLeans 13 = .ok (.iconst 1, 1) := by decide +kernel
theorem dX0_findLeans_14 : decode cX0_findLeans 14 = .ok (.iadd, 1) := by decide +kernel
theorem dX0_findLeans_15 : decode cX0_findLeans 15 = .ok (.istore 4, 2) := by decide +kernel
theorem dX0_findLeans_17 : decode cX0_findLeans 17 = .ok (.iconst 1, 1) := by decide +kernel
theorem dX0_findLeans_18 : decode cX0_findLeans 18 = .ok (.istore 5, 2) := by decide +kernel
theorem dX0_findLeans_20 : decode cX0_findLeans 20 = .ok (.iconst 0, 1) := by decide +kernel
theorem dX0_findLeans_21 : decode cX0_findLeans 21 = .ok (.istore 6, 2) := by decide +kernel
theorem dX0_findLeans_23 : decode cX0_findLeans 23 = .ok (.iload 6, 2) := by decide +kernel
theorem dX0_findLeans_25 : decode cX0_findLeans 25 = .ok (.iload_n 3, 1) := by decide +kernel
theorem dX0_findLeans_26 : decode cX0_findLeans 26 = .ok (.if_icmp .ge 16, 3) := by decide +kernel
theorem dX0_findLeans_29 : decode cX0_findLeans 29 = .ok (.iload 5, 2) := by decide +kernel
theorem dX0_findLeans_31 : decode cX0_findLeans 31 = .ok (.iload 4, 2) := by decide +kernel
theorem dX0_findLeans_33 : decode cX0_findLeans 33 = .ok (.imul, 1) := by decide +kernel
theorem dX0_findLeans_34 : decode cX0_findLeans 34 = .ok (.istore 5, 2) := by decide +kernel
theorem dX0_findLeans_36 : decode cX0_findLeans 36 = .ok (.iinc 6 1, 3) := by decide +kernel
theorem dX0_findLeans_39 : decode cX0_findLeans 39 = .ok (.goto (-16), 3) := by decide +kernel
theorem dX0_findLeans_42 : decode cX0_findLeans 42 = .ok (.iconst 0, 1) := by decide +kernel
theorem dX0_findLeans_43 : decode cX0_findLeans 43 = .ok (.istore 6, 2) := by decide +kernel
theorem dX0_findLeans_45 : decode cX0_findLeans 45 = .ok (.iload 6, 2) := by decide +kernel
theorem dX0_findLeans_47 : decode cX0_findLeans 47 = .ok (.bipush 32, 2) := by decide +kernel
theorem dX0_findLeans_49 : decode cX0_findLeans 49 = .ok (.if_icmp .ge 22, 3) := by decide +kernel
theorem dX0_findLeans_52 : decode cX0_findLeans 52 = .ok (.aload_n 0, 1) := by decide +kernel
theorem dX0_findLeans_53 : decode cX0_findLeans 53 = .ok (.getfield 11, 3) := by decide +kernel
theorem dX0_findLeans_56 : decode cX0_findLeans 56 = .ok (.iload_n 2, 1) := by decide +kernel
theorem dX0_findLeans_57 : decode cX0_findLeans 57 = .ok (.bipush 32, 2) := by decide +kernel
theorem dX0_findLeans_59 : decode cX0_findLeans 59 = .ok (.imul, 1) := by decide +kernel
theorem dX0_findLeans_60 : decode cX0_findLeans 60 = .ok (.iload 6, 2) := by decide +kernel
theorem dX0_findLeans_62 : decode cX0_findLeans 62 = .ok (.iadd, 1) := by decide +kernel
theorem dX0_findLeans_63 : decode cX0_findLeans 63 = .ok (.iconst 0, 1) := by decide +kernel
theorem dX0_findLeans_64 : decode cX0_findLeans 64 = .ok (.iastore, 1) := by decide +kernel
theorem dX0_findLeans_65 : decode cX0_findLeans 65 = .ok (.iinc 6 1, 3) := by decide +kernel
theorem dX0_findLeans_68 : decode cX0_findLeans 68 = .ok (.goto (-23), 3) := by decide +kernel
theorem dX0_findLeans_71 : decode cX0_findLeans 71 = .ok (.aload_n 1, 1) := by decide +kernel
theorem dX0_findLeans_72 : decode cX0_findLeans 72 = .ok (.iload_n 2, 1) := by decide +kernel
theorem dX0_findLeans_73 : decode cX0_findLeans 73 = .ok (.invokevirtual 66, 3) := by decide +kernel
theorem dX0_findLeans_76 : decode cX0_findLeans 76 = .ok (.istore 6, 2) := by decide +kernel
theorem dX0_findLeans_78 : decode cX0_findLeans 78 = .ok (.iconst 0, 1) := by decide +kernel
theorem dX0_findLeans_79 : decode cX0_findLeans 79 = .ok (.istore 7, 2) := by decide +kernel
theorem dX0_findLeans_81 : decode cX0_findLeans 81 = .ok (.iload 7, 2) := by decide +kernel
theorem dX0_findLeans_83 : decode cX0_findLeans 83 = .ok (.iload 5, 2) := by decide +kernel
theorem dX0_findLeans_85 : decode cX0_findLeans 85 = .ok (.if_icmp .ge 114, 3) := by decide +kernel
theorem dX0_findLeans_88 : decode cX0_findLeans 88 = .ok (.iload 7, 2) := by decide +kernel
theorem dX0_findLeans_90 : decode cX0_findLeans 90 = .ok (.istore 8, 2) := by decide +kernel
theorem dX0_findLeans_92 : decode cX0_findLeans 92 = .ok (.iconst 0, 1) := by decide +kernel
theorem dX0_findLeans_93 : decode cX0_findLeans 93 = .ok (.istore 9, 2) := by decide +kernel
theorem dX0_findLeans_95 : decode cX0_findLeans 95 = .ok (.iload 6, 2) := by decide +kernel
theorem dX0_findLeans_97 : decode cX0_findLeans 97 = .ok (.istore 10, 2) := by decide +kernel
theorem dX0_findLeans_99 : decode cX0_findLeans 99 = .ok (.iconst 0, 1) := by decide +kernel
theorem dX0_findLeans_100 : decode cX0_findLeans 100 = .ok (.istore 11, 2) := by decide +kernel
theorem dX0_findLeans_102 : decode cX0_findLeans 102 = .ok (.iload 11, 2) := by decide +kernel
theorem dX0_findLeans_104 : decode cX0_findLeans 104 = .ok (.iload_n 3, 1) := by decide +kernel
theorem dX0_findLeans_105 : decode cX0_findLeans 105 = .ok (.if_icmp .ge 60, 3) := by decide +kernel
theorem dX0_findLeans_108 : decode cX0_findLeans 108 = .ok (.iload 8, 2) := by decide +kernel
theorem dX0_findLeans_110 : decode cX0_findLeans 110 = .ok (.iload 4, 2) := by decide +kernel
theorem dX0_findLeans_112 : decode cX0_findLeans 112 = .ok (.irem, 1) := by decide +kernel
theorem dX0_findLeans_113 : decode cX0_findLeans 113 = .ok (.istore 12, 2) := by decide +kernel
theorem dX0_findLeans_115 : decode cX0_findLeans 115 = .ok (.iload 8, 2) := by decide +kernel
theorem dX0_findLeans_117 : decode cX0_findLeans 117 = .ok (.iload 4, 2) := by decide +kernel
theorem dX0_findLeans_119 : decode cX0_findLeans 119 = .ok (.idiv, 1) := by decide +kernel
theorem dX0_findLeans_120 : decode cX0_findLeans 120 = .ok (.istore 8, 2) := by decide +kernel
theorem dX0_findLeans_122 : decode cX0_findLeans 122 = .ok (.iload 12, 2) := by decide +kernel
theorem dX0_findLeans_124 : decode cX0_findLeans 124 = .ok (.ifCond .le 35, 3) := by decide +kernel
theorem dX0_findLeans_127 : decode cX0_findLeans 127 = .ok (.iload 9, 2) := by decide +kernel
theorem dX0_findLeans_129 : decode cX0_findLeans 129 = .ok (.iconst 1, 1) := by decide +kernel
theorem dX0_findLeans_130 : decode cX0_findLeans 130 = .ok (.iload 11, 2) := by decide +kernel
theorem dX0_findLeans_132 : decode cX0_findLeans 132 = .ok (.ishl, 1) := by decide +kernel
theorem dX0_findLeans_133 : decode cX0_findLeans 133 = .ok (.ior, 1) := by decide +kernel
theorem dX0_findLeans_134 : decode cX0_findLeans 134 = .ok (.istore 9, 2) := by decide +kernel
theorem dX0_findLeans_136 : decode cX0_findLeans 136 = .ok (.iload 10, 2) := by decide +kernel
theorem dX0_findLeans_138 : decode cX0_findLeans 138 = .ok (.aload_n 1, 1) := by decide +kernel
theorem dX0_findLeans_139 : decode cX0_findLeans 139 = .ok (.getfield 50, 3) := by decide +kernel
theorem dX0_findLeans_142 : decode cX0_findLeans 142 = .ok (.iload 11, 2) := by decide +kernel
theorem dX0_findLeans_144 : decode cX0_findLeans 144 = .ok (.iconst 0, 1) := by decide +kernel
theorem dX0_findLeans_145 : decode cX0_findLeans 145 = .ok (.invokevirtual 69, 3) := by decide +kernel
theorem dX0_findLeans_148 : decode cX0_findLeans 148 = .ok (.iconst 2, 1) := by decide +kernel
theorem dX0_findLeans_149 : decode cX0_findLeans 149 = .ok (.iload 12, 2) := by decide +kernel
theorem dX0_findLeans_151 : decode cX0_findLeans 151 = .ok (.imul, 1) := by decide +kernel
theorem dX0_findLeans_152 : decode cX0_findLeans 152 = .ok (.iload 4, 2) := by decide +kernel
theorem dX0_findLeans_154 : decode cX0_findLeans 154 = .ok (.isub, 1) := by decide +kernel
theorem dX0_findLeans_155 : decode cX0_findLeans 155 = .ok (.imul, 1) := by decide +kernel
theorem dX0_findLeans_156 : decode cX0_findLeans 156 = .ok (.iadd, 1) := by decide +kernel
theorem dX0_findLeans_157 : decode cX0_findLeans 157 = .ok (.istore 10, 2) := by decide +kernel
theorem dX0_findLeans_159 : decode cX0_findLeans 159 = .ok (.iinc 11 1, 3) := by decide +kernel
theorem dX0_findLeans_162 : decode cX0_findLeans 162 = .ok (.goto (-60), 3) := by decide +kernel
theorem dX0_findLeans_165 : decode cX0_findLeans 165 = .ok (.aload_n 0, 1) := by decide +kernel
theorem dX0_findLeans_166 : decode cX0_findLeans 166 = .ok (.getfield 11, 3) := by decide +kernel
theorem dX0_findLeans_169 : decode cX0_findLeans 169 = .ok (.iload_n 2, 1) := by decide +kernel
theorem dX0_findLeans_170 : decode cX0_findLeans 170 = .ok (.bipush 32, 2) := by decide +kernel
theorem dX0_findLeans_172 : decode cX0_findLeans 172 = .ok (.imul, 1) := by decide +kernel
theorem dX0_findLeans_173 : decode cX0_findLeans 173 = .ok (.iload 9, 2) := by decide +kernel
theorem dX0_findLeans_175 : decode cX0_findLeans 175 = .ok (.bipush 32, 2) := by decide +kernel
theorem dX0_findLeans_177 : decode cX0_findLeans 177 = .ok (.irem, 1) := by decide +kernel
theorem dX0_findLeans_178 : decode cX0_findLeans 178 = .ok (.iadd, 1) := by decide +kernel
theorem dX0_findLeans_179 : decode cX0_findLeans 179 = .ok (.dup2, 1) := by decide +kernel
theorem dX0_findLeans_180 : decode cX0_findLeans 180 = .ok (.iaload, 1) := by decide +kernel
theorem dX0_findLeans_181 : decode cX0_findLeans 181 = .ok (.iconst 1, 1) := by decide +kernel
theorem dX0_findLeans_182 : decode cX0_findLeans 182 = .ok (.aload_n 1, 1) := by decide +kernel
theorem dX0_findLeans_183 : decode cX0_findLeans 183 = .ok (.iload 10, 2) := by decide +kernel
theorem dX0_findLeans_185 : decode cX0_findLeans 185 = .ok (.invokevirtual 73, 3) := by decide +kernel
theorem dX0_findLeans_188 : decode cX0_findLeans 188 = .ok (.iconst 1, 1) := by decide +kernel
theorem dX0_findLeans_189 : decode cX0_findLeans 189 = .ok (.iadd, 1) := by decide +kernel
theorem dX0_findLeans_190 : decode cX0_findLeans 190 = .ok (.ishl, 1) := by decide +kernel
theorem dX0_findLeans_191 : decode cX0_findLeans 191 = .ok (.ior, 1) := by decide +kernel
theorem dX0_findLeans_192 : decode cX0_findLeans 192 = .ok (.iastore, 1) := by decide +kernel
theorem dX0_findLeans_193 : decode cX0_findLeans 193 = .ok (.iinc 7 1, 3) := by decide +kernel
theorem dX0_findLeans_196 : decode cX0_findLeans 196 = .ok (.goto (-115), 3) := by decide +kernel
theorem dX0_findLeans_199 : decode cX0_findLeans 199 = .ok (.return_, 1) := by decide +kernel
theorem dX0_priceWithout_0 : decode cX0_priceWithout 0 = .ok (.iconst 0, 1) := by decide +kernel
theorem dX0_priceWithout_1 : decode cX0_priceWithout 1 = .ok (.istore_n 3, 1) := by decide +kernel
theorem dX0_priceWithout_2 : decode cX0_priceWithout 2 = .ok (.iload_n 3, 1) := by decide +kernel
theorem dX0_priceWithout_3 : decode cX0_priceWithout 3 = .ok (.bipush 9, 2) := by decide +kernel
theorem dX0_priceWithout_5 : decode cX0_priceWithout 5 = .ok (.if_icmp .ge 16, 3) := by decide +kernel
theorem dX0_priceWithout_8 : decode cX0_priceWithout 8 = .ok (.aload_n 0, 1) := by decide +kernel
theorem dX0_priceWithout_9 : decode cX0_priceWithout 9 = .ok (.getfield 15, 3) := by decide +kernel
theorem dX0_priceWithout_12 : decode cX0_priceWithout 12 = .ok (.iload_n 3, 1) := by decide +kernel
theorem dX0_priceWithout_13 : decode cX0_priceWithout 13 = .ok (.iconst (-1), 1) := by decide +kernel
theorem dX0_priceWithout_14 : decode cX0_priceWithout 14 = .ok (.iastore, 1) := by decide +kernel
theorem dX0_priceWithout_15 : decode cX0_priceWithout 15 = .ok (.iinc 3 1, 3) := by decide +kernel
theorem dX0_priceWithout_18 : decode cX0_priceWithout 18 = .ok (.goto (-16), 3) := by decide +kernel
theorem dX0_priceWithout_21 : decode cX0_priceWithout 21 = .ok (.iconst 1, 1) := by decide +kernel
theorem dX0_priceWithout_22 : decode cX0_priceWithout 22 = .ok (.aload_n 1, 1) := by decide +kernel
theorem dX0_priceWithout_23 : decode cX0_priceWithout 23 = .ok (.getfield 50, 3) := by decide +kernel
theorem dX0_priceWithout_26 : decode cX0_priceWithout 26 = .ok (.getfield 56, 3) := by decide +kernel
theorem dX0_priceWithout_29 : decode cX0_priceWithout 29 = .ok (.ishl, 1) := by decide +kernel
theorem dX0_priceWithout_30 : decode cX0_priceWithout 30 = .ok (.istore_n 3, 1) := by decide +kernel
theorem dX0_priceWithout_31 : decode cX0_priceWithout 31 = .ok (.iconst 0, 1) := by decide +kernel
theorem dX0_priceWithout_32 : decode cX0_priceWithout 32 = .ok (.istore 4, 2) := by decide +kernel
theorem dX0_priceWithout_34 : decode cX0_priceWithout 34 = .ok (.iload 4, 2) := by decide +kernel
theorem dX0_priceWithout_36 : decode cX0_priceWithout 36 = .ok (.iload_n 3, 1) := by decide +kernel
theorem dX0_priceWithout_37 : decode cX0_priceWithout 37 = .ok (.if_icmp .ge 35, 3) := by decide +kernel
theorem dX0_priceWithout_40 : decode cX0_priceWithout 40 = .ok (.iload 4, 2) := by decide +kernel
theorem dX0_priceWithout_42 : decode cX0_priceWithout 42 = .ok (.bipush 32, 2) := by decide +kernel
theorem dX0_priceWithout_44 : decode cX0_priceWithout 44 = .ok (.if_icmp .ge 28, 3) := by decide +kernel
theorem dX0_priceWithout_47 : decode cX0_priceWithout 47 = .ok (.iload 4, 2) := by decide +kernel
theorem dX0_priceWithout_49 : decode cX0_priceWithout 49 = .ok (.iload_n 2, 1) := by decide +kernel
theorem dX0_priceWithout_50 : decode cX0_priceWithout 50 = .ok (.iand, 1) := by decide +kernel
theorem dX0_priceWithout_51 : decode cX0_priceWithout 51 = .ok (.ifCond .ne 15, 3) := by decide +kernel
theorem dX0_priceWithout_54 : decode cX0_priceWithout 54 = .ok (.aload_n 0, 1) := by decide +kernel
theorem dX0_priceWithout_55 : decode cX0_priceWithout 55 = .ok (.iload 4, 2) := by decide +kernel
theorem dX0_priceWithout_57 : decode cX0_priceWithout 57 = .ok (.aload_n 1, 1) := by decide +kernel
theorem dX0_priceWithout_58 : decode cX0_priceWithout 58 = .ok (.iload 4, 2) := by decide +kernel
theorem dX0_priceWithout_60 : decode cX0_priceWithout 60 = .ok (.invokestatic 76, 3) := by decide +kernel
theorem dX0_priceWithout_63 : decode cX0_priceWithout 63 = .ok (.invokevirtual 80, 3) := by decide +kernel
theorem dX0_priceWithout_66 : decode cX0_priceWithout 66 = .ok (.iinc 4 1, 3) := by decide +kernel
theorem dX0_priceWithout_69 : decode cX0_priceWithout 69 = .ok (.goto (-35), 3) := by decide +kernel
theorem dX0_priceWithout_72 : decode cX0_priceWithout 72 = .ok (.return_, 1) := by decide +kernel
theorem dX0_tearsOf_0 : decode cX0_tearsOf 0 = .ok (.iconst 0, 1) := by decide +kernel
theorem dX0_tearsOf_1 : decode cX0_tearsOf 1 = .ok (.istore_n 2, 1) := by decide +kernel
theorem dX0_tearsOf_2 : decode cX0_tearsOf 2 = .ok (.iconst 0, 1) := by decide +kernel
theorem dX0_tearsOf_3 : decode cX0_tearsOf 3 = .ok (.istore_n 3, 1) := by decide +kernel
theorem dX0_tearsOf_4 : decode cX0_tearsOf 4 = .ok (.iload_n 3, 1) := by decide +kernel
theorem dX0_tearsOf_5 : decode cX0_tearsOf 5 = .ok (.aload_n 0, 1) := by decide +kernel
theorem dX0_tearsOf_6 : decode cX0_tearsOf 6 = .ok (.getfield 50, 3) := by decide +kernel
theorem dX0_tearsOf_9 : decode cX0_tearsOf 9 = .ok (.getfield 56, 3) := by decide +kernel
theorem dX0_tearsOf_12 : decode cX0_tearsOf 12 = .ok (.if_icmp .ge 33, 3) := by decide +kernel
theorem dX0_tearsOf_15 : decode cX0_tearsOf 15 = .ok (.iload_n 2, 1) := by decide +kernel
theorem dX0_tearsOf_16 : decode cX0_tearsOf 16 = .ok (.iload_n 1, 1) := by decide +kernel
theorem dX0_tearsOf_17 : decode cX0_tearsOf 17 = .ok (.iload_n 3, 1) := by decide +kernel
theorem dX0_tearsOf_18 : decode cX0_tearsOf 18 = .ok (.invokestatic 84, 3) := by decide +kernel
theorem dX0_tearsOf_21 : decode cX0_tearsOf 21 = .ok (.ifCond .eq 15, 3) := by decide +kernel
theorem dX0_tearsOf_24 : decode cX0_tearsOf 24 = .ok (.aload_n 0, 1) := by decide +kernel
theorem dX0_tearsOf_25 : decode cX0_tearsOf 25 = .ok (.getfield 50, 3) := by decide +kernel
theorem dX0_tearsOf_28 : decode cX0_tearsOf 28 = .ok (.iload_n 3, 1) := by decide +kernel
theorem dX0_tearsOf_29 : decode cX0_tearsOf 29 = .ok (.iconst 1, 1) := by decide +kernel
theorem dX0_tearsOf_30 : decode cX0_tearsOf 30 = .ok (.invokevirtual 69, 3) := by decide +kernel
theorem dX0_tearsOf_33 : decode cX0_tearsOf 33 = .ok (.goto 4, 3) := by decide +kernel
theorem dX0_tearsOf_36 : decode cX0_tearsOf 36 = .ok (.iconst 0, 1) := by decide +kernel
theorem dX0_tearsOf_37 : decode cX0_tearsOf 37 = .ok (.iadd, 1) := by decide +kernel
theorem dX0_tearsOf_38 : decode cX0_tearsOf 38 = .ok (.istore_n 2, 1) := by decide +kernel
theorem dX0_tearsOf_39 : decode cX0_tearsOf 39 = .ok (.iinc 3 1, 3) := by decide +kernel
theorem dX0_tearsOf_42 : decode cX0_tearsOf 42 = .ok (.goto (-38), 3) := by decide +kernel
theorem dX0_tearsOf_45 : decode cX0_tearsOf 45 = .ok (.iload_n 2, 1) := by decide +kernel
theorem dX0_tearsOf_46 : decode cX0_tearsOf 46 = .ok (.ireturn, 1) := by decide +kernel
theorem dX0_lowerPrices_0 : decode cX0_lowerPrices 0 = .ok (.iconst 0, 1) := by decide +kernel
theorem dX0_lowerPrices_1 : decode cX0_lowerPrices 1 = .ok (.istore_n 3, 1) := by decide +kernel
theorem dX0_lowerPrices_2 : decode cX0_lowerPrices 2 = .ok (.iload_n 3, 1) := by decide +kernel
theorem dX0_lowerPrices_3 : decode cX0_lowerPrices 3 = .ok (.bipush 9, 2) := by decide +kernel
theorem dX0_lowerPrices_5 : decode cX0_lowerPrices 5 = .ok (.if_icmp .ge 81, 3) := by decide +kernel
theorem dX0_lowerPrices_8 : decode cX0_lowerPrices 8 = .ok (.aload_n 0, 1) := by decide +kernel
theorem dX0_lowerPrices_9 : decode cX0_lowerPrices 9 = .ok (.getfield 11, 3) := by decide +kernel
theorem dX0_lowerPrices_12 : decode cX0_lowerPrices 12 = .ok (.iload_n 1, 1) := by decide +kernel
theorem dX0_lowerPrices_13 : decode cX0_lowerPrices 13 = .ok (.iaload, 1) := by decide +kernel
theorem dX0_lowerPrices_14 : decode cX0_lowerPrices 14 = .ok (.iload_n 3, 1) := by decide +kernel
theorem dX0_lowerPrices_15 : decode cX0_lowerPrices 15 = .ok (.iconst 3, 1) := by decide +kernel
theorem dX0_lowerPrices_16 : decode cX0_lowerPrices 16 = .ok (.irem, 1) := by decide +kernel
theorem dX0_lowerPrices_17 : decode cX0_lowerPrices 17 = .ok (.invokestatic 84, 3) := by decide +kernel
theorem dX0_lowerPrices_20 : decode cX0_lowerPrices 20 = .ok (.ifCond .eq 25, 3) := by decide +kernel
theorem dX0_lowerPrices_23 : decode cX0_lowerPrices 23 = .ok (.aload_n 0, 1) := by decide +kernel
theorem dX0_lowerPrices_24 : decode cX0_lowerPrices 24 = .ok (.getfield 11, 3) := by decide +kernel
theorem dX0_lowerPrices_27 : decode cX0_lowerPrices 27 = .ok (.bipush 32, 2) := by decide +kernel
theorem dX0_lowerPrices_29 : decode cX0_lowerPrices 29 = .ok (.iload_n 1, 1) := by decide +kernel
theorem dX0_lowerPrices_30 : decode cX0_lowerPrices 30 = .ok (.iadd, 1) := by decide +kernel
theorem dX0_lowerPrices_31 : decode cX0_lowerPrices 31 = .ok (.iaload, 1) := by decide +kernel
theorem dX0_lowerPrices_32 : decode cX0_lowerPrices 32 = .ok (.iload_n 3, 1) := by decide +kernel
theorem dX0_lowerPrices_33 : decode cX0_lowerPrices 33 = .ok (.iconst 3, 1) := by decide +kernel
theorem dX0_lowerPrices_34 : decode cX0_lowerPrices 34 = .ok (.idiv, 1) := by decide +kernel
theorem dX0_lowerPrices_35 : decode cX0_lowerPrices 35 = .ok (.invokestatic 84, 3) := by decide +kernel
theorem dX0_lowerPrices_38 : decode cX0_lowerPrices 38 = .ok (.ifCond .eq 7, 3) := by decide +kernel
theorem dX0_lowerPrices_41 : decode cX0_lowerPrices 41 = .ok (.iconst 1, 1) := by decide +kernel
theorem dX0_lowerPrices_42 : decode cX0_lowerPrices 42 = .ok (.goto 4, 3) := by decide +kernel
theorem dX0_lowerPrices_45 : decode cX0_lowerPrices 45 = .ok (.iconst 0, 1) := by decide +kernel
theorem dX0_lowerPrices_46 : decode cX0_lowerPrices 46 = .ok (.istore 4, 2) := by decide +kernel
theorem dX0_lowerPrices_48 : decode cX0_lowerPrices 48 = .ok (.iload 4, 2) := by decide +kernel
theorem dX0_lowerPrices_50 : decode cX0_lowerPrices 50 = .ok (.ifCond .eq 30, 3) := by decide +kernel
theorem dX0_lowerPrices_53 : decode cX0_lowerPrices 53 = .ok (.aload_n 0, 1) := by decide +kernel
theorem dX0_lowerPrices_54 : decode cX0_lowerPrices 54 = .ok (.getfield 15, 3) := by decide +kernel
theorem dX0_lowerPrices_57 : decode cX0_lowerPrices 57 = .ok (.iload_n 3, 1) := by decide +kernel
theorem dX0_lowerPrices_58 : decode cX0_lowerPrices 58 = .ok (.iaload, 1) := by decide +kernel
theorem dX0_lowerPrices_59 : decode cX0_lowerPrices 59 = .ok (.iconst (-1), 1) := by decide +kernel
theorem dX0_lowerPrices_60 : decode cX0_lowerPrices 60 = .ok (.if_icmp .eq 13, 3) := by decide +kernel
theorem dX0_lowerPrices_63 : decode cX0_lowerPrices 63 = .ok (.iload_n 2, 1) := by decide +kernel
theorem dX0_lowerPrices_64 : decode cX0_lowerPrices 64 = .ok (.aload_n 0, 1) := by decide +kernel
theorem dX0_lowerPrices_65 : decode cX0_lowerPrices 65 = .ok (.getfield 15, 3) := by decide +kernel
theorem dX0_lowerPrices_68 : decode cX0_lowerPrices 68 = .ok (.iload_n 3, 1) := by decide +kernel
theorem dX0_lowerPrices_69 : decode cX0_lowerPrices 69 = .ok (.iaload, 1) := by decide +kernel
theorem dX0_lowerPrices_70 : decode cX0_lowerPrices 70 = .ok (.if_icmp .ge 10, 3) := by decide +kernel
theorem dX0_lowerPrices_73 : decode cX0_lowerPrices 73 = .ok (.aload_n 0, 1) := by decide +kernel
theorem dX0_lowerPrices_74 : decode cX0_lowerPrices 74 = .ok (.getfield 15, 3) := by decide +kernel
theorem dX0_lowerPrices_77 : decode cX0_lowerPrices 77 = .ok (.iload_n 3, 1) := by decide +kernel
theorem dX0_lowerPrices_78 : decode cX0_lowerPrices 78 = .ok (.iload_n 2, 1) := by decide +kernel
theorem dX0_lowerPrices_79 : decode cX0_lowerPrices 79 = .ok (.iastore, 1) := by decide +kernel
theorem dX0_lowerPrices_80 : decode cX0_lowerPrices 80 = .ok (.iinc 3 1, 3) := by decide +kernel
theorem dX0_lowerPrices_83 : decode cX0_lowerPrices 83 = .ok (.goto (-81), 3) := by decide +kernel
theorem dX0_lowerPrices_86 : decode cX0_lowerPrices 86 = .ok (.return_, 1) := by decide +kernel
theorem dX0_priceOf_0 : decode cX0_priceOf 0 = .ok (.aload_n 0, 1) := by decide +kernel
theorem dX0_priceOf_1 : decode cX0_priceOf 1 = .ok (.getfield 15, 3) := by decide +kernel
theorem dX0_priceOf_4 : decode cX0_priceOf 4 = .ok (.iload_n 1, 1) := by decide +kernel
theorem dX0_priceOf_5 : decode cX0_priceOf 5 = .ok (.iload_n 2, 1) := by decide +kernel
theorem dX0_priceOf_6 : decode cX0_priceOf 6 = .ok (.invokestatic 88, 3) := by decide +kernel
theorem dX0_priceOf_9 : decode cX0_priceOf 9 = .ok (.iaload, 1) := by decide +kernel
theorem dX0_priceOf_10 : decode cX0_priceOf 10 = .ok (.ireturn, 1) := by decide +kernel
theorem dX0_chart_0 : decode cX0_chart 0 = .ok (.aload_n 0, 1) := by decide +kernel
theorem dX0_chart_1 : decode cX0_chart 1 = .ok (.getfield 39, 3) := by decide +kernel
theorem dX0_chart_4 : decode cX0_chart 4 = .ok (.aload_n 1, 1) := by decide +kernel
theorem dX0_chart_5 : decode cX0_chart 5 = .ok (.aload_n 1, 1) := by decide +kernel
theorem dX0_chart_6 : decode cX0_chart 6 = .ok (.invokevirtual 91, 3) := by decide +kernel
theorem dX0_chart_9 : decode cX0_chart 9 = .ok (.iconst 0, 1) := by decide +kernel
theorem dX0_chart_10 : decode cX0_chart 10 = .ok (.istore_n 2, 1) := by decide +kernel
theorem dX0_chart_11 : decode cX0_chart 11 = .ok (.iload_n 2, 1) := by decide +kernel
theorem dX0_chart_12 : decode cX0_chart 12 = .ok (.sipush 144, 3) := by decide +kernel
theorem dX0_chart_15 : decode cX0_chart 15 = .ok (.if_icmp .ge 183, 3) := by decide +kernel
theorem dX0_chart_18 : decode cX0_chart 18 = .ok (.iload_n 2, 1) := by decide +kernel
theorem dX0_chart_19 : decode cX0_chart 19 = .ok (.bipush 12, 2) := by decide +kernel
theorem dX0_chart_21 : decode cX0_chart 21 = .ok (.irem, 1) := by decide +kernel
theorem dX0_chart_22 : decode cX0_chart 22 = .ok (.istore_n 3, 1) := by decide +kernel
theorem dX0_chart_23 : decode cX0_chart 23 = .ok (.iload_n 2, 1) := by decide +kernel
theorem dX0_chart_24 : decode cX0_chart 24 = .ok (.bipush 12, 2) := by decide +kernel
theorem dX0_chart_26 : decode cX0_chart 26 = .ok (.idiv, 1) := by decide +kernel
theorem dX0_chart_27 : decode cX0_chart 27 = .ok (.istore 4, 2) := by decide +kernel
theorem dX0_chart_29 : decode cX0_chart 29 = .ok (.aload_n 0, 1) := by decide +kernel
theorem dX0_chart_30 : decode cX0_chart 30 = .ok (.getfield 39, 3) := by decide +kernel
theorem dX0_chart_33 : decode cX0_chart 33 = .ok (.iload_n 3, 1) := by decide +kernel
theorem dX0_chart_34 : decode cX0_chart 34 = .ok (.iload 4, 2) := by decide +kernel
theorem dX0_chart_36 : decode cX0_chart 36 = .ok (.invokevirtual 95, 3) := by decide +kernel
theorem dX0_chart_39 : decode cX0_chart 39 = .ok (.aload_n 0, 1) := by decide +kernel
theorem dX0_chart_40 : decode cX0_chart 40 = .ok (.getfield 39, 3) := by decide +kernel
theorem dX0_chart_43 : decode cX0_chart 43 = .ok (.invokevirtual 98, 3) := by decide +kernel
theorem dX0_chart_46 : decode cX0_chart 46 = .ok (.istore 5, 2) := by decide +kernel
theorem dX0_chart_48 : decode cX0_chart 48 = .ok (.aload_n 0, 1) := by decide +kernel
theorem dX0_chart_49 : decode cX0_chart 49 = .ok (.getfield 21, 3) := by decide +kernel
theorem dX0_chart_52 : decode cX0_chart 52 = .ok (.iload_n 2, 1) := by decide +kernel
theorem dX0_chart_53 : decode cX0_chart 53 = .ok (.iload 5, 2) := by decide +kernel
theorem dX0_chart_55 : decode cX0_chart 55 = .ok (.aload_n 1, 1) := by decide +kernel
theorem dX0_chart_56 : decode cX0_chart 56 = .ok (.getfield 102, 3) := by decide +kernel
theorem dX0_chart_59 : decode cX0_chart 59 = .ok (.bipush 9, 2) := by decide +kernel
theorem dX0_chart_61 : decode cX0_chart 61 = .ok (.iaload, 1) := by decide +kernel
theorem dX0_chart_62 : decode cX0_chart 62 = .ok (.invokestatic 84, 3) := by decide +kernel
theorem dX0_chart_65 : decode cX0_chart 65 = .ok (.ifCond .eq 7, 3) := by decide +kernel
theorem dX0_chart_68 : decode cX0_chart 68 = .ok (.iconst 1, 1) := by decide +kernel
theorem dX0_chart_69 : decode cX0_chart 69 = .ok (.goto 4, 3) := by decide +kernel
theorem dX0_chart_72 : decode cX0_chart 72 = .ok (.iconst 0, 1) := by decide +kernel
theorem dX0_chart_73 : decode cX0_chart 73 = .ok (.iastore, 1) := by decide +kernel
theorem dX0_chart_74 : decode cX0_chart 74 = .ok (.aload_n 0, 1) := by decide +kernel
theorem dX0_chart_75 : decode cX0_chart 75 = .ok (.getfield 21, 3) := by decide +kernel
theorem dX0_chart_78 : decode cX0_chart 78 = .ok (.iload_n 2, 1) := by decide +kernel
theorem dX0_chart_79 : decode cX0_chart 79 = .ok (.dup2, 1) := by decide +kernel
theorem dX0_chart_80 : decode cX0_chart 80 = .ok (.iaload, 1) := by decide +kernel
theorem dX0_chart_81 : decode cX0_chart 81 = .ok (.iload 5, 2) := by decide +kernel
theorem dX0_chart_83 : decode cX0_chart 83 = .ok (.aload_n 1, 1) := by decide +kernel
theorem dX0_chart_84 : decode cX0_chart 84 = .ok (.getfield 102, 3) := by decide +kernel
theorem dX0_chart_87 : decode cX0_chart 87 = .ok (.bipush 10, 2) := by decide +kernel
theorem dX0_chart_89 : decode cX0_chart 89 = .ok (.iaload, 1) := by decide +kernel
theorem dX0_chart_90 : decode cX0_chart 90 = .ok (.invokestatic 84, 3) := by decide +kernel
theorem dX0_chart_93 : decode cX0_chart 93 = .ok (.ifCond .eq 7, 3) := by decide +kernel
theorem dX0_chart_96 : decode cX0_chart 96 = .ok (.iconst 2, 1) := by decide +kernel
theorem dX0_chart_97 : decode cX0_chart 97 = .ok (.goto 4, 3) := by decide +kernel
theorem dX0_chart_100 : decode cX0_chart 100 = .ok (.iconst 0, 1) := by decide +kernel
theorem dX0_chart_101 : decode cX0_chart 101 = .ok (.ior, 1) := by decide +kernel
theorem dX0_chart_102 : decode cX0_chart 102 = .ok (.iastore, 1) := by decide +kernel
theorem dX0_chart_103 : decode cX0_chart 103 = .ok (.aload_n 1, 1) := by decide +kernel
theorem dX0_chart_104 : decode cX0_chart 104 = .ok (.aload_n 1, 1) := by decide +kernel
theorem dX0_chart_105 : decode cX0_chart 105 = .ok (.iload_n 3, 1) := by decide +kernel
theorem dX0_chart_106 : decode cX0_chart 106 = .ok (.iload 4, 2) := by decide +kernel
theorem dX0_chart_108 : decode cX0_chart 108 = .ok (.invokevirtual 105, 3) := by decide +kernel
theorem dX0_chart_111 : decode cX0_chart 111 = .ok (.istore 6, 2) := by decide +kernel
theorem dX0_chart_113 : decode cX0_chart 113 = .ok (.iconst 0, 1) := by decide +kernel
theorem dX0_chart_114 : decode cX0_chart 114 = .ok (.istore 7, 2) := by decide +kernel
theorem dX0_chart_116 : decode cX0_chart 116 = .ok (.iload 7, 2) := by decide +kernel
theorem dX0_chart_118 : decode cX0_chart 118 = .ok (.bipush 9, 2) := by decide +kernel
theorem dX0_chart_120 : decode cX0_chart 120 = .ok (.if_icmp .ge 72, 3) := by decide +kernel
theorem dX0_chart_123 : decode cX0_chart 123 = .ok (.aload_n 0, 1) := by decide +kernel
theorem dX0_chart_124 : decode cX0_chart 124 = .ok (.getfield 39, 3) := by decide +kernel
theorem dX0_chart_127 : decode cX0_chart 127 = .ok (.iload_n 3, 1) := by decide +kernel
theorem dX0_chart_128 : decode cX0_chart 128 = .ok (.iload 4, 2) := by decide +kernel
theorem dX0_chart_130 : decode cX0_chart 130 = .ok (.invokevirtual 95, 3) := by decide +kernel
theorem dX0_chart_133 : decode cX0_chart 133 = .ok (.iload 6, 2) := by decide +kernel
theorem dX0_chart_135 : decode cX0_chart 135 = .ok (.ifCond .eq 22, 3) := by decide +kernel
theorem dX0_chart_138 : decode cX0_chart 138 = .ok (.aload_n 0, 1) := by decide +kernel
theorem dX0_chart_139 : decode cX0_chart 139 = .ok (.getfield 39, 3) := by decide +kernel
theorem dX0_chart_142 : decode cX0_chart 142 = .ok (.iload 7, 2) := by decide +kernel
theorem dX0_chart_144 : decode cX0_chart 144 = .ok (.iconst 3, 1) := by decide +kernel
theorem dX0_chart_145 : decode cX0_chart 145 = .ok (.irem, 1) := by decide +kernel
theorem dX0_chart_146 : decode cX0_chart 146 = .ok (.iconst 1, 1) := by decide +kernel
theorem dX0_chart_147 : decode cX0_chart 147 = .ok (.isub, 1) := by decide +kernel
theorem dX0_chart_148 : decode cX0_chart 148 = .ok (.iload 7, 2) := by decide +kernel
theorem dX0_chart_150 : decode cX0_chart 150 = .ok (.iconst 3, 1) := by decide +kernel
theorem dX0_chart_151 : decode cX0_chart 151 = .ok (.idiv, 1) := by decide +kernel
theorem dX0_chart_152 : decode cX0_chart 152 = .ok (.iconst 1, 1) := by decide +kernel
theorem dX0_chart_153 : decode cX0_chart 153 = .ok (.isub, 1) := by decide +kernel
theorem dX0_chart_154 : decode cX0_chart 154 = .ok (.invokevirtual 109, 3) := by decide +kernel
theorem dX0_chart_157 : decode cX0_chart 157 = .ok (.aload_n 0, 1) := by decide +kernel
theorem dX0_chart_158 : decode cX0_chart 158 = .ok (.getfield 18, 3) := by decide +kernel
theorem dX0_chart_161 : decode cX0_chart 161 = .ok (.iload_n 2, 1) := by decide +kernel
theorem dX0_chart_162 : decode cX0_chart 162 = .ok (.bipush 9, 2) := by decide +kernel
theorem dX0_chart_164 : decode cX0_chart 164 = .ok (.imul, 1) := by decide +kernel
theorem dX0_chart_165 : decode cX0_chart 165 = .ok (.iload 7, 2) := by decide +kernel
theorem dX0_chart_167 : decode cX0_chart 167 = .ok (.iadd, 1) := by decide +kernel
theorem dX0_chart_168 : decode cX0_chart 168 = .ok (.aload_n 0, 1) := by decide +kernel
theorem dX0_chart_169 : decode cX0_chart 169 = .ok (.getfield 39, 3) := by decide +kernel
theorem dX0_chart_172 : decode cX0_chart 172 = .ok (.getfield 112, 3) := by decide +kernel
theorem dX0_chart_175 : decode cX0_chart 175 = .ok (.aload_n 0, 1) := by decide +kernel
theorem dX0_chart_176 : decode cX0_chart 176 = .ok (.getfield 39, 3) := by decide +kernel
theorem dX0_chart_179 : decode cX0_chart 179 = .ok (.getfield 115, 3) := by decide +kernel
theorem dX0_chart_182 : decode cX0_chart 182 = .ok (.invokestatic 118, 3) := by decide +kernel
theorem dX0_chart_185 : decode cX0_chart 185 = .ok (.iastore, 1) := by decide +kernel
theorem dX0_chart_186 : decode cX0_chart 186 = .ok (.iinc 7 1, 3) := by decide +kernel
theorem dX0_chart_189 : decode cX0_chart 189 = .ok (.goto (-73), 3) := by decide +kernel
theorem dX0_chart_192 : decode cX0_chart 192 = .ok (.iinc 2 1, 3) := by decide +kernel
theorem dX0_chart_195 : decode cX0_chart 195 = .ok (.goto (-184), 3) := by decide +kernel
theorem dX0_chart_198 : decode cX0_chart 198 = .ok (.return_, 1) := by decide +kernel
theorem dX0_startOf_0 : decode cX0_startOf 0 = .ok (.aload_n 0, 1) := by decide +kernel
theorem dX0_startOf_1 : decode cX0_startOf 1 = .ok (.getfield 102, 3) := by decide +kernel
theorem dX0_startOf_4 : decode cX0_startOf 4 = .ok (.iconst 4, 1) := by decide +kernel
theorem dX0_startOf_5 : decode cX0_startOf 5 = .ok (.iaload, 1) := by decide +kernel
theorem dX0_startOf_6 : decode cX0_startOf 6 = .ok (.aload_n 0, 1) := by decide +kernel
theorem dX0_startOf_7 : decode cX0_startOf 7 = .ok (.getfield 102, 3) := by decide +kernel
theorem dX0_startOf_10 : decode cX0_startOf 10 = .ok (.iconst 5, 1) := by decide +kernel
theorem dX0_startOf_11 : decode cX0_startOf 11 = .ok (.iaload, 1) := by decide +kernel
theorem dX0_startOf_12 : decode cX0_startOf 12 = .ok (.invokestatic 118, 3) := by decide +kernel
theorem dX0_startOf_15 : decode cX0_startOf 15 = .ok (.ireturn, 1) := by decide +kernel
theorem dX0_spread_0 : decode cX0_spread 0 = .ok (.iconst 0, 1) := by decide +kernel
theorem dX0_spread_1 : decode cX0_spread 1 = .ok (.istore_n 3, 1) := by decide +kernel
theorem dX0_spread_2 : decode cX0_spread 2 = .ok (.iload_n 3, 1) := by decide +kernel
theorem dX0_spread_3 : decode cX0_spread 3 = .ok (.sipush 144, 3) := by decide +kernel
theorem dX0_spread_6 : decode cX0_spread 6 = .ok (.if_icmp .ge 28, 3) := by decide +kernel
theorem dX0_spread_9 : decode cX0_spread 9 = .ok (.aload_n 0, 1) := by decide +kernel
theorem dX0_spread_10 : decode cX0_spread 10 = .ok (.getfield 27, 3) := by decide +kernel
theorem dX0_spread_13 : decode cX0_spread 13 = .ok (.iload_n 3, 1) := by decide +kernel
theorem dX0_spread_14 : decode cX0_spread 14 = .ok (.iload_n 3, 1) := by decide +kernel
theorem dX0_spread_15 : decode cX0_spread 15 = .ok (.aload_n 1, 1) := by decide +kernel
theorem dX0_spread_16 : decode cX0_spread 16 = .ok (.invokestatic 121, 3) := by decide +kernel
theorem dX0_spread_19 : decode cX0_spread 19 = .ok (.if_icmp .ne 7, 3) := by decide +kernel
theorem dX0_spread_22 : decode cX0_spread 22 = .ok (.iconst 1, 1) := by decide +kernel
theorem dX0_spread_23 : decode cX0_spread 23 = .ok (.goto 4, 3) := by decide +kernel
theorem dX0_spread_26 : decode cX0_spread 26 = .ok (.iconst 0, 1) := by decide +kernel
theorem dX0_spread_27 : decode cX0_spread 27 = .ok (.bastore, 1) := by decide +kernel
theorem dX0_spread_28 : decode cX0_spread 28 = .ok (.iinc 3 1, 3) := by decide +kernel
theorem dX0_spread_31 : decode cX0_spread 31 = .ok (.goto (-29), 3) := by decide +kernel
theorem dX0_spread_34 : decode cX0_spread 34 = .ok (.iconst 0, 1) := by decide +kernel
theorem dX0_spread_35 : decode cX0_spread 35 = .ok (.istore_n 3, 1) := by decide +kernel
theorem dX0_spread_36 : decode cX0_spread 36 = .ok (.iload_n 3, 1) := by decide +kernel
theorem dX0_spread_37 : decode cX0_spread 37 = .ok (.iload_n 2, 1) := by decide +kernel
theorem dX0_spread_38 : decode cX0_spread 38 = .ok (.if_icmp .ge 107, 3) := by decide +kernel
theorem dX0_spread_41 : decode cX0_spread 41 = .ok (.iconst 0, 1) := by decide +kernel
theorem dX0_spread_42 : decode cX0_spread 42 = .ok (.istore 4, 2) := by decide +kernel
theorem dX0_spread_44 : decode cX0_spread 44 = .ok (.iload 4, 2) := by decide +kernel
theorem dX0_spread_46 : decode cX0_spread 46 = .ok (.sipush 144, 3) := by decide +kernel
theorem dX0_spread_49 : decode cX0_spread 49 = .ok (.if_icmp .ge 17, 3) := by decide +kernel
theorem dX0_spread_52 : decode cX0_spread 52 = .ok (.aload_n 0, 1) := by decide +kernel
theorem dX0_spread_53 : decode cX0_spread 53 = .ok (.getfield 31, 3) := by decide +kernel
theorem dX0_spread_56 : decode cX0_spread 56 = .ok (.iload 4, 2) := by decide +kernel
theorem dX0_spread_58 : decode cX0_spread 58 = .ok (.iconst 0, 1) := by decide +kernel
theorem dX0_spread_59 : decode cX0_spread 59 = .ok (.bastore, 1) := by decide +kernel
theorem dX0_spread_60 : decode cX0_spread 60 = .ok (.iinc 4 1, 3) := by decide +kernel
theorem dX0_spread_63 : decode cX0_spread 63 = .ok (.goto (-19), 3) := by decide +kernel
theorem dX0_spread_66 : decode cX0_spread 66 = .ok (.iconst 0, 1) := by decide +kernel
theorem dX0_spread_67 : decode cX0_spread 67 = .ok (.istore 4, 2) := by decide +kernel
theorem dX0_spread_69 : decode cX0_spread 69 = .ok (.iload 4, 2) := by decide +kernel
theorem dX0_spread_71 : decode cX0_spread 71 = .ok (.sipush 1296, 3) := by decide +kernel
theorem dX0_spread_74 : decode cX0_spread 74 = .ok (.if_icmp .ge 49, 3) := by decide +kernel
theorem dX0_spread_77 : decode cX0_spread 77 = .ok (.aload_n 0, 1) := by decide +kernel
theorem dX0_spread_78 : decode cX0_spread 78 = .ok (.getfield 27, 3) := by decide +kernel
theorem dX0_spread_81 : decode cX0_spread 81 = .ok (.iload 4, 2) := by decide +kernel
theorem dX0_spread_83 : decode cX0_spread 83 = .ok (.bipush 9, 2) := by decide +kernel
theorem dX0_spread_85 : decode cX0_spread 85 = .ok (.idiv, 1) := by decide +kernel
theorem dX0_spread_86 : decode cX0_spread 86 = .ok (.baload, 1) := by decide +kernel
theorem dX0_spread_87 : decode cX0_spread 87 = .ok (.ifCond .eq 30, 3) := by decide +kernel
theorem dX0_spread_90 : decode cX0_spread 90 = .ok (.aload_n 0, 1) := by decide +kernel
theorem dX0_spread_91 : decode cX0_spread 91 = .ok (.getfield 15, 3) := by decide +kernel
theorem dX0_spread_94 : decode cX0_spread 94 = .ok (.iload 4, 2) := by decide +kernel
theorem dX0_spread_96 : decode cX0_spread 96 = .ok (.bipush 9, 2) := by decide +kernel
theorem dX0_spread_98 : decode cX0_spread 98 = .ok (.irem, 1) := by decide +kernel
theorem dX0_spread_99 : decode cX0_spread 99 = .ok (.iaload, 1) := by decide +kernel
theorem dX0_spread_100 : decode cX0_spread 100 = .ok (.iconst (-1), 1) := by decide +kernel
theorem dX0_spread_101 : decode cX0_spread 101 = .ok (.if_icmp .eq 16, 3) := by decide +kernel
theorem dX0_spread_104 : decode cX0_spread 104 = .ok (.aload_n 0, 1) := by decide +kernel
theorem dX0_spread_105 : decode cX0_spread 105 = .ok (.getfield 31, 3) := by decide +kernel
theorem dX0_spread_108 : decode cX0_spread 108 = .ok (.aload_n 0, 1) := by decide +kernel
theorem dX0_spread_109 : decode cX0_spread 109 = .ok (.getfield 18, 3) := by decide +kernel
theorem dX0_spread_112 : decode cX0_spread 112 = .ok (.iload 4, 2) := by decide +kernel
theorem dX0_spread_114 : decode cX0_spread 114 = .ok (.iaload, 1) := by decide +kernel
theorem dX0_spread_115 : decode cX0_spread 115 = .ok (.iconst 1, 1) := by decide +kernel
theorem dX0_spread_116 : decode cX0_spread 116 = .ok (.bastore, 1) := by decide +kernel
theorem dX0_spread_117 : decode cX0_spread 117 = .ok (.iinc 4 1, 3) := by decide +kernel
theorem dX0_spread_120 : decode cX0_spread 120 = .ok (.goto (-51), 3) := by decide +kernel
theorem dX0_spread_123 : decode cX0_spread 123 = .ok (.aload_n 0, 1) := by decide +kernel
theorem dX0_spread_124 : decode cX0_spread 124 = .ok (.getfield 31, 3) := by decide +kernel
theorem dX0_spread_127 : decode cX0_spread 127 = .ok (.iconst 0, 1) := by decide +kernel
theorem dX0_spread_128 : decode cX0_spread 128 = .ok (.aload_n 0, 1) := by decide +kernel
theorem dX0_spread_129 : decode cX0_spread 129 = .ok (.getfield 27, 3) := by decide +kernel
theorem dX0_spread_132 : decode cX0_spread 132 = .ok (.iconst 0, 1) := by decide +kernel
theorem dX0_spread_133 : decode cX0_spread 133 = .ok (.sipush 144, 3) := by decide +kernel
theorem dX0_spread_136 : decode cX0_spread 136 = .ok (.invokestatic 125, 3) := by decide +kernel
theorem dX0_spread_139 : decode cX0_spread 139 = .ok (.iinc 3 1, 3) := by decide +kernel
theorem dX0_spread_142 : decode cX0_spread 142 = .ok (.goto (-106), 3) := by decide +kernel
theorem dX0_spread_145 : decode cX0_spread 145 = .ok (.return_, 1) := by decide +kernel
theorem dX0_cellsReached_0 : decode cX0_cellsReached 0 = .ok (.iconst 0, 1) := by decide +kernel
theorem dX0_cellsReached_1 : decode cX0_cellsReached 1 = .ok (.istore_n 1, 1) := by decide +kernel
theorem dX0_cellsReached_2 : decode cX0_cellsReached 2 = .ok (.iconst 0, 1) := by decide +kernel
theorem dX0_cellsReached_3 : decode cX0_cellsReached 3 = .ok (.istore_n 2, 1) := by decide +kernel
theorem dX0_cellsReached_4 : decode cX0_cellsReached 4 = .ok (.iload_n 2, 1) := by decide +kernel
theorem dX0_cellsReached_5 : decode cX0_cellsReached 5 = .ok (.sipush 144, 3) := by decide +kernel
theorem dX0_cellsReached_8 : decode cX0_cellsReached 8 = .ok (.if_icmp .ge 26, 3) := by decide +kernel
theorem dX0_cellsReached_11 : decode cX0_cellsReached 11 = .ok (.iload_n 1, 1) := by decide +kernel
theorem dX0_cellsReached_12 : decode cX0_cellsReached 12 = .ok (.aload_n 0, 1) := by decide +kernel
theorem dX0_cellsReached_13 : decode cX0_cellsReached 13 = .ok (.getfield 27, 3) := by decide +kernel
theorem dX0_cellsReached_16 : decode cX0_cellsReached 16 = .ok (.iload_n 2, 1) := by decide +kernel
theorem dX0_cellsReached_17 : decode cX0_cellsReached 17 = .ok (.baload, 1) := by decide +kernel
theorem dX0_cellsReached_18 : decode cX0_cellsReached 18 = .ok (.ifCond .eq 7, 3) := by decide +kernel
theorem dX0_cellsReached_21 : decode cX0_cellsReached 21 = .ok (.iconst 1, 1) := by decide +kernel
theorem dX0_cellsReached_22 : decode cX0_cellsReached 22 = .ok (.goto 4, 3) := by decide +kernel
theorem dX0_cellsReached_25 : decode cX0_cellsReached 25 = .ok (.iconst 0, 1) := by decide +kernel
theorem dX0_cellsReached_26 : decode cX0_cellsReached 26 = .ok (.iadd, 1) := by decide +kernel
theorem dX0_cellsReached_27 : decode cX0_cellsReached 27 = .ok (.istore_n 1, 1) := by decide +kernel
theorem dX0_cellsReached_28 : decode cX0_cellsReached 28 = .ok (.iinc 2 1, 3) := by decide +kernel
theorem dX0_cellsReached_31 : decode cX0_cellsReached 31 = .ok (.goto (-27), 3) := by decide +kernel
theorem dX0_cellsReached_34 : decode cX0_cellsReached 34 = .ok (.iload_n 1, 1) := by decide +kernel
theorem dX0_cellsReached_35 : decode cX0_cellsReached 35 = .ok (.ireturn, 1) := by decide +kernel
theorem dX0_isReached_0 : decode cX0_isReached 0 = .ok (.aload_n 0, 1) := by decide +kernel
theorem dX0_isReached_1 : decode cX0_isReached 1 = .ok (.getfield 27, 3) := by decide +kernel
theorem dX0_isReached_4 : decode cX0_isReached 4 = .ok (.iload_n 1, 1) := by decide +kernel
theorem dX0_isReached_5 : decode cX0_isReached 5 = .ok (.iload_n 2, 1) := by decide +kernel
theorem dX0_isReached_6 : decode cX0_isReached 6 = .ok (.invokestatic 118, 3) := by decide +kernel
theorem dX0_isReached_9 : decode cX0_isReached 9 = .ok (.baload, 1) := by decide +kernel
theorem dX0_isReached_10 : decode cX0_isReached 10 = .ok (.ireturn, 1) := by decide +kernel
theorem dX0_findLeast_0 : decode cX0_findLeast 0 = .ok (.iconst 0, 1) := by decide +kernel
theorem dX0_findLeast_1 : decode cX0_findLeast 1 = .ok (.istore_n 3, 1) := by decide +kernel
theorem dX0_findLeast_2 : decode cX0_findLeast 2 = .ok (.iload_n 3, 1) := by decide +kernel
theorem dX0_findLeast_3 : decode cX0_findLeast 3 = .ok (.sipush 576, 3) := by decide +kernel
theorem dX0_findLeast_6 : decode cX0_findLeast 6 = .ok (.if_icmp .ge 17, 3) := by decide +kernel
theorem dX0_findLeast_9 : decode cX0_findLeast 9 = .ok (.aload_n 0, 1) := by decide +kernel
theorem dX0_findLeast_10 : decode cX0_findLeast 10 = .ok (.getfield 24, 3) := by decide +kernel
theorem dX0_findLeast_13 : decode cX0_findLeast 13 = .ok (.iload_n 3, 1) := by decide +kernel
theorem dX0_findLeast_14 : decode cX0_findLeast 14 = .ok (.ldc 131, 2) := by decide +kernel
theorem dX0_findLeast_16 : decode cX0_findLeast 16 = .ok (.iastore, 1) := by decide +kernel
theorem dX0_findLeast_17 : decode cX0_findLeast 17 = .ok (.iinc 3 1, 3) := by decide +kernel
theorem dX0_findLeast_20 : decode cX0_findLeast 20 = .ok (.goto (-18), 3) := by decide +kernel
theorem dX0_findLeast_23 : decode cX0_findLeast 23 = .ok (.aload_n 1, 1) := by decide +kernel
theorem dX0_findLeast_24 : decode cX0_findLeast 24 = .ok (.invokestatic 121, 3) := by decide +kernel
theorem dX0_findLeast_27 : decode cX0_findLeast 27 = .ok (.istore_n 3, 1) := by decide +kernel
theorem dX0_findLeast_28 : decode cX0_findLeast 28 = .ok (.aload_n 0, 1) := by decide +kernel
theorem dX0_findLeast_29 : decode cX0_findLeast 29 = .ok (.getfield 24, 3) := by decide +kernel
theorem dX0_findLeast_32 : decode cX0_findLeast 32 = .ok (.iload_n 3, 1) := by decide +kernel
theorem dX0_findLeast_33 : decode cX0_findLeast 33 = .ok (.iconst 4, 1) := by decide +kernel
theorem dX0_findLeast_34 : decode cX0_findLeast 34 = .ok (.imul, 1) := by decide +kernel
theorem dX0_findLeast_35 : decode cX0_findLeast 35 = .ok (.aload_n 0, 1) := by decide +kernel
theorem dX0_findLeast_36 : decode cX0_findLeast 36 = .ok (.getfield 21, 3) := by decide +kernel
theorem dX0_findLeast_39 : decode cX0_findLeast 39 = .ok (.iload_n 3, 1) := by decide +kernel
theorem dX0_findLeast_40 : decode cX0_findLeast 40 = .ok (.iaload, 1) := by decide +kernel
theorem dX0_findLeast_41 : decode cX0_findLeast 41 = .ok (.iadd, 1) := by decide +kernel
theorem dX0_findLeast_42 : decode cX0_findLeast 42 = .ok (.iconst 0, 1) := by decide +kernel
theorem dX0_findLeast_43 : decode cX0_findLeast 43 = .ok (.iastore, 1) := by decide +kernel
theorem dX0_findLeast_44 : decode cX0_findLeast 44 = .ok (.iconst 1, 1) := by decide +kernel
theorem dX0_findLeast_45 : decode cX0_findLeast 45 = .ok (.istore 4, 2) := by decide +kernel
theorem dX0_findLeast_47 : decode cX0_findLeast 47 = .ok (.iconst 0, 1) := by decide +kernel
theorem dX0_findLeast_48 : decode cX0_findLeast 48 = .ok (.istore 5, 2) := by decide +kernel
theorem dX0_findLeast_50 : decode cX0_findLeast 50 = .ok (.iload 5, 2) := by decide +kernel
theorem dX0_findLeast_52 : decode cX0_findLeast 52 = .ok (.sipush 576, 3) := by decide +kernel
theorem dX0_findLeast_55 : decode cX0_findLeast 55 = .ok (.if_icmp .gt 58, 3) := by decide +kernel
theorem dX0_findLeast_58 : decode cX0_findLeast 58 = .ok (.iload 4, 2) := by decide +kernel
theorem dX0_findLeast_60 : decode cX0_findLeast 60 = .ok (.ifCond .eq 53, 3) := by decide +kernel
theorem dX0_findLeast_63 : decode cX0_findLeast 63 = .ok (.iconst 0, 1) := by decide +kernel
theorem dX0_findLeast_64 : decode cX0_findLeast 64 = .ok (.istore 4, 2) := by decide +kernel
theorem dX0_findLeast_66 : decode cX0_findLeast 66 = .ok (.iconst 0, 1) := by decide +kernel
theorem dX0_findLeast_67 : decode cX0_findLeast 67 = .ok (.istore 6, 2) := by decide +kernel
theorem dX0_findLeast_69 : decode cX0_findLeast 69 = .ok (.iload 6, 2) := by decide +kernel
theorem dX0_findLeast_71 : decode cX0_findLeast 71 = .ok (.sipush 576, 3) := by decide +kernel
theorem dX0_findLeast_74 : decode cX0_findLeast 74 = .ok (.if_icmp .ge 33, 3) := by decide +kernel
theorem dX0_findLeast_77 : decode cX0_findLeast 77 = .ok (.aload_n 0, 1) := by decide +kernel
theorem dX0_findLeast_78 : decode cX0_findLeast 78 = .ok (.getfield 24, 3) := by decide +kernel
theorem dX0_findLeast_81 : decode cX0_findLeast 81 = .ok (.iload 6, 2) := by decide +kernel
theorem dX0_findLeast_83 : decode cX0_findLeast 83 = .ok (.iaload, 1) := by decide +kernel
theorem dX0_findLeast_84 : decode cX0_findLeast 84 = .ok (.ldc 131, 2) := by decide +kernel
theorem dX0_findLeast_86 : decode cX0_findLeast 86 = .ok (.if_icmp .eq 15, 3) := by decide +kernel
theorem dX0_findLeast_89 : decode cX0_findLeast 89 = .ok (.iload 4, 2) := by decide +kernel
theorem dX0_findLeast_91 : decode cX0_findLeast 91 = .ok (.aload_n 0, 1) := by decide +kernel
theorem dX0_findLeast_92 : decode cX0_findLeast 92 = .ok (.iload 6, 2) := by decide +kernel
theorem dX0_findLeast_94 : decode cX0_findLeast 94 = .ok (.iload_n 2, 1) := by decide +kernel
theorem dX0_findLeast_95 : decode cX0_findLeast 95 = .ok (.invokevirtual 132, 3) := by decide +kernel
theorem dX0_findLeast_98 : decode cX0_findLeast 98 = .ok (.ior, 1) := by decide +kernel
theorem dX0_findLeast_99 : decode cX0_findLeast 99 = .ok (.istore 4, 2) := by decide +kernel
theorem dX0_findLeast_101 : decode cX0_findLeast 101 = .ok (.iinc 6 1, 3) := by decide +kernel
theorem dX0_findLeast_104 : decode cX0_findLeast 104 = .ok (.goto (-35), 3) := by decide +kernel
theorem dX0_findLeast_107 : decode cX0_findLeast 107 = .ok (.iinc 5 1, 3) := by decide +kernel
theorem dX0_findLeast_110 : decode cX0_findLeast 110 = .ok (.goto (-60), 3) := by decide +kernel
theorem dX0_findLeast_113 : decode cX0_findLeast 113 = .ok (.return_, 1) := by decide +kernel
theorem dX0_goOn_0 : decode cX0_goOn 0 = .ok (.iload_n 1, 1) := by decide +kernel
theorem dX0_goOn_1 : decode cX0_goOn 1 = .ok (.iconst 4, 1) := by decide +kernel
theorem dX0_goOn_2 : decode cX0_goOn 2 = .ok (.idiv, 1) := by decide +kernel
theorem dX0_goOn_3 : decode cX0_goOn 3 = .ok (.istore_n 3, 1) := by decide +kernel
theorem dX0_goOn_4 : decode cX0_goOn 4 = .ok (.iconst 0, 1) := by decide +kernel
theorem dX0_goOn_5 : decode cX0_goOn 5 = .ok (.istore 4, 2) := by decide +kernel
theorem dX0_goOn_7 : decode cX0_goOn 7 = .ok (.iconst 0, 1) := by decide +kernel
theorem dX0_goOn_8 : decode cX0_goOn 8 = .ok (.istore 5, 2) := by decide +kernel
theorem dX0_goOn_10 : decode cX0_goOn 10 = .ok (.iload 5, 2) := by decide +kernel
theorem dX0_goOn_12 : decode cX0_goOn 12 = .ok (.bipush 9, 2) := by decide +kernel
theorem dX0_goOn_14 : decode cX0_goOn 14 = .ok (.if_icmp .ge 100, 3) := by decide +kernel
theorem dX0_goOn_17 : decode cX0_goOn 17 = .ok (.aload_n 0, 1) := by decide +kernel
theorem dX0_goOn_18 : decode cX0_goOn 18 = .ok (.getfield 15, 3) := by decide +kernel
theorem dX0_goOn_21 : decode cX0_goOn 21 = .ok (.iload 5, 2) := by decide +kernel
theorem dX0_goOn_23 : decode cX0_goOn 23 = .ok (.iaload, 1) := by decide +kernel
theorem dX0_goOn_24 : decode cX0_goOn 24 = .ok (.iconst (-1), 1) := by decide +kernel
theorem dX0_goOn_25 : decode cX0_goOn 25 = .ok (.if_icmp .eq 83, 3) := by decide +kernel
theorem dX0_goOn_28 : decode cX0_goOn 28 = .ok (.aload_n 0, 1) := by decide +kernel
theorem dX0_goOn_29 : decode cX0_goOn 29 = .ok (.getfield 18, 3) := by decide +kernel
theorem dX0_goOn_32 : decode cX0_goOn 32 = .ok (.iload_n 3, 1) := by decide +kernel
theorem dX0_goOn_33 : decode cX0_goOn 33 = .ok (.bipush 9, 2) := by decide +kernel
theorem dX0_goOn_35 : decode cX0_goOn 35 = .ok (.imul, 1) := by decide +kernel
theorem dX0_goOn_36 : decode cX0_goOn 36 = .ok (.iload 5, 2) := by decide +kernel
theorem dX0_goOn_38 : decode cX0_goOn 38 = .ok (.iadd, 1) := by decide +kernel
theorem dX0_goOn_39 : decode cX0_goOn 39 = .ok (.iaload, 1) := by decide +kernel
theorem dX0_goOn_40 : decode cX0_goOn 40 = .ok (.istore 6, 2) := by decide +kernel
theorem dX0_goOn_42 : decode cX0_goOn 42 = .ok (.iload 6, 2) := by decide +kernel
theorem dX0_goOn_44 : decode cX0_goOn 44 = .ok (.iconst 4, 1) := by decide +kernel
theorem dX0_goOn_45 : decode cX0_goOn 45 = .ok (.imul, 1) := by decide +kernel
theorem dX0_goOn_46 : decode cX0_goOn 46 = .ok (.iload_n 1, 1) := by decide +kernel
theorem dX0_goOn_47 : decode cX0_goOn 47 = .ok (.iconst 4, 1) := by decide +kernel
theorem dX0_goOn_48 : decode cX0_goOn 48 = .ok (.irem, 1) := by decide +kernel
theorem dX0_goOn_49 : decode cX0_goOn 49 = .ok (.aload_n 0, 1) := by decide +kernel
theorem dX0_goOn_50 : decode cX0_goOn 50 = .ok (.getfield 21, 3) := by decide +kernel
theorem dX0_goOn_53 : decode cX0_goOn 53 = .ok (.iload 6, 2) := by decide +kernel
theorem dX0_goOn_55 : decode cX0_goOn 55 = .ok (.iaload, 1) := by decide +kernel
theorem dX0_goOn_56 : decode cX0_goOn 56 = .ok (.ior, 1) := by decide +kernel
theorem dX0_goOn_57 : decode cX0_goOn 57 = .ok (.iadd, 1) := by decide +kernel
theorem dX0_goOn_58 : decode cX0_goOn 58 = .ok (.istore 7, 2) := by decide +kernel
theorem dX0_goOn_60 : decode cX0_goOn 60 = .ok (.aload_n 0, 1) := by decide +kernel
theorem dX0_goOn_61 : decode cX0_goOn 61 = .ok (.getfield 24, 3) := by decide +kernel
theorem dX0_goOn_64 : decode cX0_goOn 64 = .ok (.iload_n 1, 1) := by decide +kernel
theorem dX0_goOn_65 : decode cX0_goOn 65 = .ok (.iaload, 1) := by decide +kernel
theorem dX0_goOn_66 : decode cX0_goOn 66 = .ok (.iload_n 2, 1) := by decide +kernel
theorem dX0_goOn_67 : decode cX0_goOn 67 = .ok (.ifCond .eq 7, 3) := by decide +kernel
theorem dX0_goOn_70 : decode cX0_goOn 70 = .ok (.iconst 1, 1) := by decide +kernel
theorem dX0_goOn_71 : decode cX0_goOn 71 = .ok (.goto 10, 3) := by decide +kernel
theorem dX0_goOn_74 : decode cX0_goOn 74 = .ok (.aload_n 0, 1) := by decide +kernel
theorem dX0_goOn_75 : decode cX0_goOn 75 = .ok (.getfield 15, 3) := by decide +kernel
theorem dX0_goOn_78 : decode cX0_goOn 78 = .ok (.iload 5, 2) := by decide +kernel
theorem dX0_goOn_80 : decode cX0_goOn 80 = .ok (.iaload, 1) := by decide +kernel
theorem dX0_goOn_81 : decode cX0_goOn 81 = .ok (.iadd, 1) := by decide +kernel
theorem dX0_goOn_82 : decode cX0_goOn 82 = .ok (.istore 8, 2) := by decide +kernel
theorem dX0_goOn_84 : decode cX0_goOn 84 = .ok (.iload 8, 2) := by decide +kernel
theorem dX0_goOn_86 : decode cX0_goOn 86 = .ok (.aload_n 0, 1) := by decide +kernel
theorem dX0_goOn_87 : decode cX0_goOn 87 = .ok (.getfield 24, 3) := by decide +kernel
theorem dX0_goOn_90 : decode cX0_goOn 90 = .ok (.iload 7, 2) := by decide +kernel
theorem dX0_goOn_92 : decode cX0_goOn 92 = .ok (.iaload, 1) := by decide +kernel
theorem dX0_goOn_93 : decode cX0_goOn 93 = .ok (.if_icmp .ge 15, 3) := by decide +kernel
theorem dX0_goOn_96 : decode cX0_goOn 96 = .ok (.aload_n 0, 1) := by decide +kernel
theorem dX0_goOn_97 : decode cX0_goOn 97 = .ok (.getfield 24, 3) := by decide +kernel
theorem dX0_goOn_100 : decode cX0_goOn 100 = .ok (.iload 7, 2) := by decide +kernel
theorem dX0_goOn_102 : decode cX0_goOn 102 = .ok (.iload 8, 2) := by decide +kernel
theorem dX0_goOn_104 : decode cX0_goOn 104 = .ok (.iastore, 1) := by decide +kernel
theorem dX0_goOn_105 : decode cX0_goOn 105 = .ok (.iconst 1, 1) := by decide +kernel
theorem dX0_goOn_106 : decode cX0_goOn 106 = .ok (.istore 4, 2) := by decide +kernel
theorem dX0_goOn_108 : decode cX0_goOn 108 = .ok (.iinc 5 1, 3) := by decide +kernel
theorem dX0_goOn_111 : decode cX0_goOn 111 = .ok (.goto (-101), 3) := by decide +kernel
theorem dX0_goOn_114 : decode cX0_goOn 114 = .ok (.iload 4, 2) := by decide +kernel
theorem dX0_goOn_116 : decode cX0_goOn 116 = .ok (.ireturn, 1) := by decide +kernel
theorem dX0_leastToTouch_0 : decode cX0_leastToTouch 0 = .ok (.aload_n 0, 1) := by decide +kernel
theorem dX0_leastToTouch_1 : decode cX0_leastToTouch 1 = .ok (.aload_n 1, 1) := by decide +kernel
theorem dX0_leastToTouch_2 : decode cX0_leastToTouch 2 = .ok (.iload_n 2, 1) := by decide +kernel
theorem dX0_leastToTouch_3 : decode cX0_leastToTouch 3 = .ok (.invokevirtual 136, 3) := by decide +kernel
theorem dX0_leastToTouch_6 : decode cX0_leastToTouch 6 = .ok (.ldc 131, 2) := by decide +kernel
theorem dX0_leastToTouch_8 : decode cX0_leastToTouch 8 = .ok (.istore_n 3, 1) := by decide +kernel
theorem dX0_leastToTouch_9 : decode cX0_leastToTouch 9 = .ok (.iconst 0, 1) := by decide +kernel
theorem dX0_leastToTouch_10 : decode cX0_leastToTouch 10 = .ok (.istore 4, 2) := by decide +kernel
theorem dX0_leastToTouch_12 : decode cX0_leastToTouch 12 = .ok (.iload 4, 2) := by decide +kernel
theorem dX0_leastToTouch_14 : decode cX0_leastToTouch 14 = .ok (.sipush 144, 3) := by decide +kernel
theorem dX0_leastToTouch_17 : decode cX0_leastToTouch 17 = .ok (.if_icmp .ge 25, 3) := by decide +kernel
theorem dX0_leastToTouch_20 : decode cX0_leastToTouch 20 = .ok (.iload_n 3, 1) := by decide +kernel
theorem dX0_leastToTouch_21 : decode cX0_leastToTouch 21 = .ok (.aload_n 0, 1) := by decide +kernel
theorem dX0_leastToTouch_22 : decode cX0_leastToTouch 22 = .ok (.getfield 24, 3) := by decide +kernel
theorem dX0_leastToTouch_25 : decode cX0_leastToTouch 25 = .ok (.iload 4, 2) := by decide +kernel
theorem dX0_leastToTouch_27 : decode cX0_leastToTouch 27 = .ok (.iconst 4, 1) := by decide +kernel
theorem dX0_leastToTouch_28 : decode cX0_leastToTouch 28 = .ok (.imul, 1) := by decide +kernel
theorem dX0_leastToTouch_29 : decode cX0_leastToTouch 29 = .ok (.iconst 3, 1) := by decide +kernel
theorem dX0_leastToTouch_30 : decode cX0_leastToTouch 30 = .ok (.iadd, 1) := by decide +kernel
theorem dX0_leastToTouch_31 : decode cX0_leastToTouch 31 = .ok (.iaload, 1) := by decide +kernel
theorem dX0_leastToTouch_32 : decode cX0_leastToTouch 32 = .ok (.invokestatic 140, 3) := by decide +kernel
theorem dX0_leastToTouch_35 : decode cX0_leastToTouch 35 = .ok (.istore_n 3, 1) := by decide +kernel
theorem dX0_leastToTouch_36 : decode cX0_leastToTouch 36 = .ok (.iinc 4 1, 3) := by decide +kernel
theorem dX0_leastToTouch_39 : decode cX0_leastToTouch 39 = .ok (.goto (-27), 3) := by decide +kernel
theorem dX0_leastToTouch_42 : decode cX0_leastToTouch 42 = .ok (.iload_n 3, 1) := by decide +kernel
theorem dX0_leastToTouch_43 : decode cX0_leastToTouch 43 = .ok (.ldc 131, 2) := by decide +kernel
theorem dX0_leastToTouch_45 : decode cX0_leastToTouch 45 = .ok (.if_icmp .ne 7, 3) := by decide +kernel
theorem dX0_leastToTouch_48 : decode cX0_leastToTouch 48 = .ok (.iconst (-1), 1) := by decide +kernel
theorem dX0_leastToTouch_49 : decode cX0_leastToTouch 49 = .ok (.goto 4, 3) := by decide +kernel
theorem dX0_leastToTouch_52 : decode cX0_leastToTouch 52 = .ok (.iload_n 3, 1) := by decide +kernel
theorem dX0_leastToTouch_53 : decode cX0_leastToTouch 53 = .ok (.ireturn, 1) := by decide +kernel
theorem dX0_leastToLie_0 : decode cX0_leastToLie 0 = .ok (.aload_n 0, 1) := by decide +kernel
theorem dX0_leastToLie_1 : decode cX0_leastToLie 1 = .ok (.aload_n 1, 1) := by decide +kernel
theorem dX0_leastToLie_2 : decode cX0_leastToLie 2 = .ok (.iconst 0, 1) := by decide +kernel
theorem dX0_leastToLie_3 : decode cX0_leastToLie 3 = .ok (.invokevirtual 136, 3) := by decide +kernel
theorem dX0_leastToLie_6 : decode cX0_leastToLie 6 = .ok (.ldc 131, 2) := by decide +kernel
theorem dX0_leastToLie_8 : decode cX0_leastToLie 8 = .ok (.istore 4, 2) := by decide +kernel
theorem dX0_leastToLie_10 : decode cX0_leastToLie 10 = .ok (.iconst 0, 1) := by decide +kernel
theorem dX0_leastToLie_11 : decode cX0_leastToLie 11 = .ok (.istore 5, 2) := by decide +kernel
theorem dX0_leastToLie_13 : decode cX0_leastToLie 13 = .ok (.iload 5, 2) := by decide +kernel
theorem dX0_leastToLie_15 : decode cX0_leastToLie 15 = .ok (.iconst 4, 1) := by decide +kernel
theorem dX0_leastToLie_16 : decode cX0_leastToLie 16 = .ok (.if_icmp .ge 31, 3) := by decide +kernel
theorem dX0_leastToLie_19 : decode cX0_leastToLie 19 = .ok (.iload 4, 2) := by decide +kernel
theorem dX0_leastToLie_21 : decode cX0_leastToLie 21 = .ok (.aload_n 0, 1) := by decide +kernel
theorem dX0_leastToLie_22 : decode cX0_leastToLie 22 = .ok (.getfield 24, 3) := by decide +kernel
theorem dX0_leastToLie_25 : decode cX0_leastToLie 25 = .ok (.iload_n 2, 1) := by decide +kernel
theorem dX0_leastToLie_26 : decode cX0_leastToLie 26 = .ok (.iload_n 3, 1) := by decide +kernel
theorem dX0_leastToLie_27 : decode cX0_leastToLie 27 = .ok (.invokestatic 118, 3) := by decide +kernel
theorem dX0_leastToLie_30 : decode cX0_leastToLie 30 = .ok (.iconst 4, 1) := by decide +kernel
theorem dX0_leastToLie_31 : decode cX0_leastToLie 31 = .ok (.imul, 1) := by decide +kernel
theorem dX0_leastToLie_32 : decode cX0_leastToLie 32 = .ok (.iload 5, 2) := by decide +kernel
theorem dX0_leastToLie_34 : decode cX0_leastToLie 34 = .ok (.iadd, 1) := by decide +kernel
theorem dX0_leastToLie_35 : decode cX0_leastToLie 35 = .ok (.iaload, 1) := by decide +kernel
theorem dX0_leastToLie_36 : decode cX0_leastToLie 36 = .ok (.invokestatic 140, 3) := by decide +kernel
theorem dX0_leastToLie_39 : decode cX0_leastToLie 39 = .ok (.istore 4, 2) := by decide +kernel
theorem dX0_leastToLie_41 : decode cX0_leastToLie 41 = .ok (.iinc 5 1, 3) := by decide +kernel
theorem dX0_leastToLie_44 : decode cX0_leastToLie 44 = .ok (.goto (-31), 3) := by decide +kernel
theorem dX0_leastToLie_47 : decode cX0_leastToLie 47 = .ok (.iload 4, 2) := by decide +kernel
theorem dX0_leastToLie_49 : decode cX0_leastToLie 49 = .ok (.ldc 131, 2) := by decide +kernel
theorem dX0_leastToLie_51 : decode cX0_leastToLie 51 = .ok (.if_icmp .ne 7, 3) := by decide +kernel
theorem dX0_leastToLie_54 : decode cX0_leastToLie 54 = .ok (.iconst (-1), 1) := by decide +kernel
theorem dX0_leastToLie_55 : decode cX0_leastToLie 55 = .ok (.goto 5, 3) := by decide +kernel
theorem dX0_leastToLie_58 : decode cX0_leastToLie 58 = .ok (.iload 4, 2) := by decide +kernel
theorem dX0_leastToLie_60 : decode cX0_leastToLie 60 = .ok (.ireturn, 1) := by decide +kernel
theorem dX0_idleMourners_0 : decode cX0_idleMourners 0 = .ok (.aload_n 0, 1) := by decide +kernel
theorem dX0_idleMourners_1 : decode cX0_idleMourners 1 = .ok (.aload_n 1, 1) := by decide +kernel
theorem dX0_idleMourners_2 : decode cX0_idleMourners 2 = .ok (.iconst 1, 1) := by decide +kernel
theorem dX0_idleMourners_3 : decode cX0_idleMourners 3 = .ok (.invokevirtual 145, 3) := by decide +kernel
theorem dX0_idleMourners_6 : decode cX0_idleMourners 6 = .ok (.istore_n 2, 1) := by decide +kernel
theorem dX0_idleMourners_7 : decode cX0_idleMourners 7 = .ok (.iconst 0, 1) := by decide +kernel
theorem dX0_idleMourners_8 : decode cX0_idleMourners 8 = .ok (.istore_n 3, 1) := by decide +kernel
theorem dX0_idleMourners_9 : decode cX0_idleMourners 9 = .ok (.iconst 0, 1) := by decide +kernel
theorem dX0_idleMourners_10 : decode cX0_idleMourners 10 = .ok (.istore 4, 2) := by decide +kernel
theorem dX0_idleMourners_12 : decode cX0_idleMourners 12 = .ok (.iload 4, 2) := by decide +kernel
theorem dX0_idleMourners_14 : decode cX0_idleMourners 14 = .ok (.aload_n 1, 1) := by decide +kernel
theorem dX0_idleMourners_15 : decode cX0_idleMourners 15 = .ok (.getfield 50, 3) := by decide +kernel
theorem dX0_idleMourners_18 : decode cX0_idleMourners 18 = .ok (.getfield 56, 3) := by decide +kernel
theorem dX0_idleMourners_21 : decode cX0_idleMourners 21 = .ok (.if_icmp .ge 40, 3) := by decide +kernel
theorem dX0_idleMourners_24 : decode cX0_idleMourners 24 = .ok (.iload_n 2, 1) := by decide +kernel
theorem dX0_idleMourners_25 : decode cX0_idleMourners 25 = .ok (.iconst (-1), 1) := by decide +kernel
theorem dX0_idleMourners_26 : decode cX0_idleMourners 26 = .ok (.if_icmp .eq 35, 3) := by decide +kernel
theorem dX0_idleMourners_29 : decode cX0_idleMourners 29 = .ok (.aload_n 0, 1) := by decide +kernel
theorem dX0_idleMourners_30 : decode cX0_idleMourners 30 = .ok (.aload_n 1, 1) := by decide +kernel
theorem dX0_idleMourners_31 : decode cX0_idleMourners 31 = .ok (.iconst 1, 1) := by decide +kernel
theorem dX0_idleMourners_32 : decode cX0_idleMourners 32 = .ok (.iload 4, 2) := by decide +kernel
theorem dX0_idleMourners_34 : decode cX0_idleMourners 34 = .ok (.ishl, 1) := by decide +kernel
theorem dX0_idleMourners_35 : decode cX0_idleMourners 35 = .ok (.invokevirtual 47, 3) := by decide +kernel
theorem dX0_idleMourners_38 : decode cX0_idleMourners 38 = .ok (.aload_n 0, 1) := by decide +kernel
theorem dX0_idleMourners_39 : decode cX0_idleMourners 39 = .ok (.aload_n 1, 1) := by decide +kernel
theorem dX0_idleMourners_40 : decode cX0_idleMourners 40 = .ok (.iconst 1, 1) := by decide +kernel
theorem dX0_idleMourners_41 : decode cX0_idleMourners 41 = .ok (.invokevirtual 145, 3) := by decide +kernel
theorem dX0_idleMourners_44 : decode cX0_idleMourners 44 = .ok (.iload_n 2, 1) := by decide +kernel
theorem dX0_idleMourners_45 : decode cX0_idleMourners 45 = .ok (.if_icmp .ne 10, 3) := by decide +kernel
theorem dX0_idleMourners_48 : decode cX0_idleMourners 48 = .ok (.iload_n 3, 1) := by decide +kernel
theorem dX0_idleMourners_49 : decode cX0_idleMourners 49 = .ok (.iconst 1, 1) := by decide +kernel
theorem dX0_idleMourners_50 : decode cX0_idleMourners 50 = .ok (.iload 4, 2) := by decide +kernel
theorem dX0_idleMourners_52 : decode cX0_idleMourners 52 = .ok (.ishl, 1) := by decide +kernel
theorem dX0_idleMourners_53 : decode cX0_idleMourners 53 = .ok (.ior, 1) := by decide +kernel
theorem dX0_idleMourners_54 : decode cX0_idleMourners 54 = .ok (.istore_n 3, 1) := by decide +kernel
theorem dX0_idleMourners_55 : decode cX0_idleMourners 55 = .ok (.iinc 4 1, 3) := by decide +kernel
theorem dX0_idleMourners_58 : decode cX0_idleMourners 58 = .ok (.goto (-46), 3) := by decide +kernel
theorem dX0_idleMourners_61 : decode cX0_idleMourners 61 = .ok (.iload_n 3, 1) := by decide +kernel
theorem dX0_idleMourners_62 : decode cX0_idleMourners 62 = .ok (.ireturn, 1) := by decide +kernel
theorem dX3_init_0 : decode cX3_init 0 = .ok (.aload_n 0, 1) := by decide +kernel
theorem dX3_init_1 : decode cX3_init 1 = .ok (.invokespecial 3, 3) := by decide +kernel
theorem dX3_init_4 : decode cX3_init 4 = .ok (.aload_n 0, 1) := by decide +kernel
theorem dX3_init_5 : decode cX3_init 5 = .ok (.bipush 18, 2) := by decide +kernel
theorem dX3_init_7 : decode cX3_init 7 = .ok (.newarray .int, 2) := by decide +kernel
theorem dX3_init_9 : decode cX3_init 9 = .ok (.putfield 11, 3) := by decide +kernel
theorem dX3_init_12 : decode cX3_init 12 = .ok (.return_, 1) := by decide +kernel
theorem dX3_hear_0 : decode cX3_hear 0 = .ok (.iconst 0, 1) := by decide +kernel
theorem dX3_hear_1 : decode cX3_hear 1 = .ok (.istore 4, 2) := by decide +kernel
theorem dX3_hear_3 : decode cX3_hear 3 = .ok (.iload 4, 2) := by decide +kernel
theorem dX3_hear_5 : decode cX3_hear 5 = .ok (.bipush 9, 2) := by decide +kernel
theorem dX3_hear_7 : decode cX3_hear 7 = .ok (.if_icmp .ge 114, 3) := by decide +kernel
theorem dX3_hear_10 : decode cX3_hear 10 = .ok (.aload_n 3, 1) := by decide +kernel
theorem dX3_hear_11 : decode cX3_hear 11 = .ok (.aload_n 1, 1) := by decide +kernel
theorem dX3_hear_12 : decode cX3_hear 12 = .ok (.aload_n 1, 1) := by decide +kernel
theorem dX3_hear_13 : decode cX3_hear 13 = .ok (.invokevirtual 15, 3) := by decide +kernel
theorem dX3_hear_16 : decode cX3_hear 16 = .ok (.aload_n 3, 1) := by decide +kernel
theorem dX3_hear_17 : decode cX3_hear 17 = .ok (.getfield 21, 3) := by decide +kernel
theorem dX3_hear_20 : decode cX3_hear 20 = .ok (.istore 5, 2) := by decide +kernel
theorem dX3_hear_22 : decode cX3_hear 22 = .ok (.aload_n 1, 1) := by decide +kernel
theorem dX3_hear_23 : decode cX3_hear 23 = .ok (.aload_n 3, 1) := by decide +kernel
theorem dX3_hear_24 : decode cX3_hear 24 = .ok (.iconst 0, 1) := by decide +kernel
theorem dX3_hear_25 : decode cX3_hear 25 = .ok (.iload 4, 2) := by decide +kernel
theorem dX3_hear_27 : decode cX3_hear 27 = .ok (.iconst 3, 1) := by decide +kernel
theorem dX3_hear_28 : decode cX3_hear 28 = .ok (.idiv, 1) := by decide +kernel
theorem dX3_hear_29 : decode cX3_hear 29 = .ok (.invokestatic 25, 3) := by decide +kernel
theorem dX3_hear_32 : decode cX3_hear 32 = .ok (.istore 6, 2) := by decide +kernel
theorem dX3_hear_34 : decode cX3_hear 34 = .ok (.aload_n 1, 1) := by decide +kernel
theorem dX3_hear_35 : decode cX3_hear 35 = .ok (.aload_n 3, 1) := by decide +kernel
theorem dX3_hear_36 : decode cX3_hear 36 = .ok (.iconst 1, 1) := by decide +kernel
theorem dX3_hear_37 : decode cX3_hear 37 = .ok (.iload 4, 2) := by decide +kernel
theorem dX3_hear_39 : decode cX3_hear 39 = .ok (.iconst 3, 1) := by decide +kernel
theorem dX3_hear_40 : decode cX3_hear 40 = .ok (.irem, 1) := by decide +kernel
theorem dX3_hear_41 : decode cX3_hear 41 = .ok (.invokestatic 25, 3) := by decide +kernel
theorem dX3_hear_44 : decode cX3_hear 44 = .ok (.istore 7, 2) := by decide +kernel
theorem dX3_hear_46 : decode cX3_hear 46 = .ok (.iconst 0, 1) := by decide +kernel
theorem dX3_hear_47 : decode cX3_hear 47 = .ok (.istore 8, 2) := by decide +kernel
theorem dX3_hear_49 : decode cX3_hear 49 = .ok (.iload 8, 2) := by decide +kernel
theorem dX3_hear_51 : decode cX3_hear 51 = .ok (.iload_n 2, 1) := by decide +kernel
theorem dX3_hear_52 : decode cX3_hear 52 = .ok (.if_icmp .ge 13, 3) := by decide +kernel
theorem dX3_hear_55 : decode cX3_hear 55 = .ok (.aload_n 3, 1) := by decide +kernel
theorem dX3_hear_56 : decode cX3_hear 56 = .ok (.invokevirtual 29, 3) := by decide +kernel
theorem dX3_hear_59 : decode cX3_hear 59 = .ok (.iinc 8 1, 3) := by decide +kernel
theorem dX3_hear_62 : decode cX3_hear 62 = .ok (.goto (-13), 3) := by decide +kernel
theorem dX3_hear_65 : decode cX3_hear 65 = .ok (.aload_n 0, 1) := by decide +kernel
theorem dX3_hear_66 : decode cX3_hear 66 = .ok (.getfield 11, 3) := by decide +kernel
theorem dX3_hear_69 : decode cX3_hear 69 = .ok (.iload 4, 2) := by decide +kernel
theorem dX3_hear_71 : decode cX3_hear 71 = .ok (.iconst 2, 1) := by decide +kernel
theorem dX3_hear_72 : decode cX3_hear 72 = .ok (.imul, 1) := by decide +kernel
theorem dX3_hear_73 : decode cX3_hear 73 = .ok (.bipush 10, 2) := by decide +kernel
theorem dX3_hear_75 : decode cX3_hear 75 = .ok (.iload 5, 2) := by decide +kernel
theorem dX3_hear_77 : decode cX3_hear 77 = .ok (.aload_n 3, 1) := by decide +kernel
theorem dX3_hear_78 : decode cX3_hear 78 = .ok (.getfield 21, 3) := by decide +kernel
theorem dX3_hear_81 : decode cX3_hear 81 = .ok (.isub, 1) := by decide +kernel
theorem dX3_hear_82 : decode cX3_hear 82 = .ok (.imul, 1) := by decide +kernel
theorem dX3_hear_83 : decode cX3_hear 83 = .ok (.iload_n 2, 1) := by decide +kernel
theorem dX3_hear_84 : decode cX3_hear 84 = .ok (.iload 6, 2) := by decide +kernel
theorem dX3_hear_86 : decode cX3_hear 86 = .ok (.imul, 1) := by decide +kernel
theorem dX3_hear_87 : decode cX3_hear 87 = .ok (.isub, 1) := by decide +kernel
theorem dX3_hear_88 : decode cX3_hear 88 = .ok (.iastore, 1) := by decide +kernel
theorem dX3_hear_89 : decode cX3_hear 89 = .ok (.aload_n 0, 1) := by decide +kernel
theorem dX3_hear_90 : decode cX3_hear 90 = .ok (.getfield 11, 3) := by decide +kernel
theorem dX3_hear_93 : decode cX3_hear 93 = .ok (.iload 4, 2) := by decide +kernel
theorem dX3_hear_95 : decode cX3_hear 95 = .ok (.iconst 2, 1) := by decide +kernel
theorem dX3_hear_96 : decode cX3_hear 96 = .ok (.imul, 1) := by decide +kernel
theorem dX3_hear_97 : decode cX3_hear 97 = .ok (.iconst 1, 1) := by decide +kernel
theorem dX3_hear_98 : decode cX3_hear 98 = .ok (.iadd, 1) := by decide +kernel
theorem dX3_hear_99 : decode cX3_hear 99 = .ok (.bipush 10, 2) := by decide +kernel
theorem dX3_hear_101 : decode cX3_hear 101 = .ok (.aload_n 3, 1) := by decide +kernel
theorem dX3_hear_102 : decode cX3_hear 102 = .ok (.getfield 21, 3) := by decide +kernel
theorem dX3_hear_105 : decode cX3_hear 105 = .ok (.iload 5, 2) := by decide +kernel
theorem dX3_hear_107 : decode cX3_hear 107 = .ok (.isub, 1) := by decide +kernel
theorem dX3_hear_108 : decode cX3_hear 108 = .ok (.imul, 1) := by decide +kernel
theorem dX3_hear_109 : decode cX3_hear 109 = .ok (.iload_n 2, 1) := by decide +kernel
theorem dX3_hear_110 : decode cX3_hear 110 = .ok (.iload 7, 2) := by decide +kernel
theorem dX3_hear_112 : decode cX3_hear 112 = .ok (.imul, 1) := by decide +kernel
theorem dX3_hear_113 : decode cX3_hear 113 = .ok (.isub, 1) := by decide +kernel
theorem dX3_hear_114 : decode cX3_hear 114 = .ok (.iastore, 1) := by decide +kernel
theorem dX3_hear_115 : decode cX3_hear 115 = .ok (.iinc 4 1, 3) := by decide +kernel
theorem dX3_hear_118 : decode cX3_hear 118 = .ok (.goto (-115), 3) := by decide +kernel
theorem dX3_hear_121 : decode cX3_hear 121 = .ok (.return_, 1) := by decide +kernel
theorem dX3_board_0 : decode cX3_board 0 = .ok (.iconst 0, 1) := by decide +kernel
theorem dX3_board_1 : decode cX3_board 1 = .ok (.istore 4, 2) := by decide +kernel
theorem dX3_board_3 : decode cX3_board 3 = .ok (.iconst 0, 1) := by decide +kernel
theorem dX3_board_4 : decode cX3_board 4 = .ok (.istore 5, 2) := by decide +kernel
theorem dX3_board_6 : decode cX3_board 6 = .ok (.iload 5, 2) := by decide +kernel
theorem dX3_board_8 : decode cX3_board 8 = .ok (.aload_n 0, 1) := by decide +kernel
theorem dX3_board_9 : decode cX3_board 9 = .ok (.getfield 32, 3) := by decide +kernel
theorem dX3_board_12 : decode cX3_board 12 = .ok (.getfield 38, 3) := by decide +kernel
theorem dX3_board_15 : decode cX3_board 15 = .ok (.if_icmp .ge 75, 3) := by decide +kernel
theorem dX3_board_18 : decode cX3_board 18 = .ok (.iload 5, 2) := by decide +kernel
theorem dX3_board_20 : decode cX3_board 20 = .ok (.aload_n 1, 1) := by decide +kernel
theorem dX3_board_21 : decode cX3_board 21 = .ok (.getfield 43, 3) := by decide +kernel
theorem dX3_board_24 : decode cX3_board 24 = .ok (.arraylength, 1) := by decide +kernel
theorem dX3_board_25 : decode cX3_board 25 = .ok (.if_icmp .ge 65, 3) := by decide +kernel
theorem dX3_board_28 : decode cX3_board 28 = .ok (.iload_n 3, 1) := by decide +kernel
theorem dX3_board_29 : decode cX3_board 29 = .ok (.ifCond .eq 55, 3) := by decide +kernel
theorem dX3_board_32 : decode cX3_board 32 = .ok (.aload_n 0, 1) := by decide +kernel
theorem dX3_board_33 : decode cX3_board 33 = .ok (.getfield 32, 3) := by decide +kernel
theorem dX3_board_36 : decode cX3_board 36 = .ok (.iload 5, 2) := by decide +kernel
theorem dX3_board_38 : decode cX3_board 38 = .ok (.iconst 2, 1) := by decide +kernel
theorem dX3_board_39 : decode cX3_board 39 = .ok (.invokevirtual 46, 3) := by decide +kernel
theorem dX3_board_42 : decode cX3_board 42 = .ok (.iload_n 2, 1) := by decide +kernel
theorem dX3_board_43 : decode cX3_board 43 = .ok (.if_icmp .ne 41, 3) := by decide +kernel
theorem dX3_board_46 : decode cX3_board 46 = .ok (.aload_n 1, 1) := by decide +kernel
theorem dX3_board_47 : decode cX3_board 47 = .ok (.getfield 43, 3) := by decide +kernel
theorem dX3_board_50 : decode cX3_board 50 = .ok (.iload 5, 2) := by decide +kernel
theorem dX3_board_52 : decode cX3_board 52 = .ok (.iload_n 3, 1) := by decide +kernel
theorem dX3_board_53 : decode cX3_board 53 = .ok (.iconst 1, 1) := by decide +kernel
theorem dX3_board_54 : decode cX3_board 54 = .ok (.if_icmp .ne 7, 3) := by decide +kernel
theorem dX3_board_57 : decode cX3_board 57 = .ok (.iconst 0, 1) := by decide +kernel
theorem dX3_board_58 : decode cX3_board 58 = .ok (.goto 10, 3) := by decide +kernel
theorem dX3_board_61 : decode cX3_board 61 = .ok (.aload_n 0, 1) := by decide +kernel
theorem dX3_board_62 : decode cX3_board 62 = .ok (.iconst 0, 1) := by decide +kernel
theorem dX3_board_63 : decode cX3_board 63 = .ok (.invokevirtual 50, 3) := by decide +kernel
theorem dX3_board_66 : decode cX3_board 66 = .ok (.iconst 1, 1) := by decide +kernel
theorem dX3_board_67 : decode cX3_board 67 = .ok (.isub, 1) := by decide +kernel
theorem dX3_board_68 : decode cX3_board 68 = .ok (.iastore, 1) := by decide +kernel
theorem dX3_board_69 : decode cX3_board 69 = .ok (.iload 4, 2) := by decide +kernel
theorem dX3_board_71 : decode cX3_board 71 = .ok (.aload_n 0, 1) := by decide +kernel
theorem dX3_board_72 : decode cX3_board 72 = .ok (.getfield 32, 3) := by decide +kernel
theorem dX3_board_75 : decode cX3_board 75 = .ok (.iload 5, 2) := by decide +kernel
theorem dX3_board_77 : decode cX3_board 77 = .ok (.iconst 1, 1) := by decide +kernel
theorem dX3_board_78 : decode cX3_board 78 = .ok (.invokevirtual 46, 3) := by decide +kernel
theorem dX3_board_81 : decode cX3_board 81 = .ok (.iadd, 1) := by decide +kernel
theorem dX3_board_82 : decode cX3_board 82 = .ok (.istore 4, 2) := by decide +kernel
theorem dX3_board_84 : decode cX3_board 84 = .ok (.iinc 5 1, 3) := by decide +kernel
theorem dX3_board_87 : decode cX3_board 87 = .ok (.goto (-81), 3) := by decide +kernel
theorem dX3_board_90 : decode cX3_board 90 = .ok (.iload 4, 2) := by decide +kernel
theorem dX3_board_92 : decode cX3_board 92 = .ok (.ireturn, 1) := by decide +kernel
theorem dX3_gainOf_0 : decode cX3_gainOf 0 = .ok (.aload_n 0, 1) := by decide +kernel
theorem dX3_gainOf_1 : decode cX3_gainOf 1 = .ok (.getfield 11, 3) := by decide +kernel
theorem dX3_gainOf_4 : decode cX3_gainOf 4 = .ok (.iload_n 1, 1) := by decide +kernel
theorem dX3_gainOf_5 : decode cX3_gainOf 5 = .ok (.iconst 2, 1) := by decide +kernel
theorem dX3_gainOf_6 : decode cX3_gainOf 6 = .ok (.imul, 1) := by decide +kernel
theorem dX3_gainOf_7 : decode cX3_gainOf 7 = .ok (.iload_n 2, 1) := by decide +kernel
theorem dX3_gainOf_8 : decode cX3_gainOf 8 = .ok (.iadd, 1) := by decide +kernel
theorem dX3_gainOf_9 : decode cX3_gainOf 9 = .ok (.iaload, 1) := by decide +kernel
theorem dX3_gainOf_10 : decode cX3_gainOf 10 = .ok (.ireturn, 1) := by decide +kernel
theorem dX3_rests_0 : decode cX3_rests 0 = .ok (.iload_n 1, 1) := by decide +kernel
theorem dX3_rests_1 : decode cX3_rests 1 = .ok (.iconst 3, 1) := by decide +kernel
theorem dX3_rests_2 : decode cX3_rests 2 = .ok (.idiv, 1) := by decide +kernel
theorem dX3_rests_3 : decode cX3_rests 3 = .ok (.istore_n 2, 1) := by decide +kernel
theorem dX3_rests_4 : decode cX3_rests 4 = .ok (.iload_n 1, 1) := by decide +kernel
theorem dX3_rests_5 : decode cX3_rests 5 = .ok (.iconst 3, 1) := by decide +kernel
theorem dX3_rests_6 : decode cX3_rests 6 = .ok (.irem, 1) := by decide +kernel
theorem dX3_rests_7 : decode cX3_rests 7 = .ok (.istore_n 3, 1) := by decide +kernel
theorem dX3_rests_8 : decode cX3_rests 8 = .ok (.iconst 0, 1) := by decide +kernel
theorem dX3_rests_9 : decode cX3_rests 9 = .ok (.istore 4, 2) := by decide +kernel
theorem dX3_rests_11 : decode cX3_rests 11 = .ok (.iload 4, 2) := by decide +kernel
theorem dX3_rests_13 : decode cX3_rests 13 = .ok (.iconst 3, 1) := by decide +kernel
theorem dX3_rests_14 : decode cX3_rests 14 = .ok (.if_icmp .ge 51, 3) := by decide +kernel
theorem dX3_rests_17 : decode cX3_rests 17 = .ok (.aload_n 0, 1) := by decide +kernel
theorem dX3_rests_18 : decode cX3_rests 18 = .ok (.iload 4, 2) := by decide +kernel
theorem dX3_rests_20 : decode cX3_rests 20 = .ok (.iconst 3, 1) := by decide +kernel
theorem dX3_rests_21 : decode cX3_rests 21 = .ok (.imul, 1) := by decide +kernel
theorem dX3_rests_22 : decode cX3_rests 22 = .ok (.iload_n 3, 1) := by decide +kernel
theorem dX3_rests_23 : decode cX3_rests 23 = .ok (.iadd, 1) := by decide +kernel
theorem dX3_rests_24 : decode cX3_rests 24 = .ok (.iconst 0, 1) := by decide +kernel
theorem dX3_rests_25 : decode cX3_rests 25 = .ok (.invokevirtual 54, 3) := by decide +kernel
theorem dX3_rests_28 : decode cX3_rests 28 = .ok (.aload_n 0, 1) := by decide +kernel
theorem dX3_rests_29 : decode cX3_rests 29 = .ok (.iload_n 1, 1) := by decide +kernel
theorem dX3_rests_30 : decode cX3_rests 30 = .ok (.iconst 0, 1) := by decide +kernel
theorem dX3_rests_31 : decode cX3_rests 31 = .ok (.invokevirtual 54, 3) := by decide +kernel
theorem dX3_rests_34 : decode cX3_rests 34 = .ok (.if_icmp .gt 23, 3) := by decide +kernel
theorem dX3_rests_37 : decode cX3_rests 37 = .ok (.aload_n 0, 1) := by decide +kernel
theorem dX3_rests_38 : decode cX3_rests 38 = .ok (.iload_n 2, 1) := by decide +kernel
theorem dX3_rests_39 : decode cX3_rests 39 = .ok (.iconst 3, 1) := by decide +kernel
theorem dX3_rests_40 : decode cX3_rests 40 = .ok (.imul, 1) := by decide +kernel
theorem dX3_rests_41 : decode cX3_rests 41 = .ok (.iload 4, 2) := by decide +kernel
theorem dX3_rests_43 : decode cX3_rests 43 = .ok (.iadd, 1) := by decide +kernel
theorem dX3_rests_44 : decode cX3_rests 44 = .ok (.iconst 1, 1) := by decide +kernel
theorem dX3_rests_45 : decode cX3_rests 45 = .ok (.invokevirtual 54, 3) := by decide +kernel
theorem dX3_rests_48 : decode cX3_rests 48 = .ok (.aload_n 0, 1) := by decide +kernel
theorem dX3_rests_49 : decode cX3_rests 49 = .ok (.iload_n 1, 1) := by decide +kernel
theorem dX3_rests_50 : decode cX3_rests 50 = .ok (.iconst 1, 1) := by decide +kernel
theorem dX3_rests_51 : decode cX3_rests 51 = .ok (.invokevirtual 54, 3) := by decide +kernel
theorem dX3_rests_54 : decode cX3_rests 54 = .ok (.if_icmp .le 5, 3) := by decide +kernel
theorem dX3_rests_57 : decode cX3_rests 57 = .ok (.iconst 0, 1) := by decide +kernel
theorem dX3_rests_58 : decode cX3_rests 58 = .ok (.ireturn, 1) := by decide +kernel
theorem dX3_rests_59 : decode cX3_rests 59 = .ok (.iinc 4 1, 3) := by decide +kernel
theorem dX3_rests_62 : decode cX3_rests 62 = .ok (.goto (-51), 3) := by decide +kernel
theorem dX3_rests_65 : decode cX3_rests 65 = .ok (.iconst 1, 1) := by decide +kernel
theorem dX3_rests_66 : decode cX3_rests 66 = .ok (.ireturn, 1) := by decide +kernel
theorem dX3_atRest_0 : decode cX3_atRest 0 = .ok (.iconst 0, 1) := by decide +kernel
theorem dX3_atRest_1 : decode cX3_atRest 1 = .ok (.istore_n 1, 1) := by decide +kernel
theorem dX3_atRest_2 : decode cX3_atRest 2 = .ok (.iconst 0, 1) := by decide +kernel
theorem dX3_atRest_3 : decode cX3_atRest 3 = .ok (.istore_n 2, 1) := by decide +kernel
theorem dX3_atRest_4 : decode cX3_atRest 4 = .ok (.iload_n 2, 1) := by decide +kernel
theorem dX3_atRest_5 : decode cX3_atRest 5 = .ok (.bipush 9, 2) := by decide +kernel
theorem dX3_atRest_7 : decode cX3_atRest 7 = .ok (.if_icmp .ge 25, 3) := by decide +kernel
theorem dX3_atRest_10 : decode cX3_atRest 10 = .ok (.iload_n 1, 1) := by decide +kernel
theorem dX3_atRest_11 : decode cX3_atRest 11 = .ok (.aload_n 0, 1) := by decide +kernel
theorem dX3_atRest_12 : decode cX3_atRest 12 = .ok (.iload_n 2, 1) := by decide +kernel
theorem dX3_atRest_13 : decode cX3_atRest 13 = .ok (.invokevirtual 57, 3) := by decide +kernel
theorem dX3_atRest_16 : decode cX3_atRest 16 = .ok (.ifCond .eq 7, 3) := by decide +kernel
theorem dX3_atRest_19 : decode cX3_atRest 19 = .ok (.iconst 1, 1) := by decide +kernel
theorem dX3_atRest_20 : decode cX3_atRest 20 = .ok (.goto 4, 3) := by decide +kernel
theorem dX3_atRest_23 : decode cX3_atRest 23 = .ok (.iconst 0, 1) := by decide +kernel
theorem dX3_atRest_24 : decode cX3_atRest 24 = .ok (.iadd, 1) := by decide +kernel
theorem dX3_atRest_25 : decode cX3_atRest 25 = .ok (.istore_n 1, 1) := by decide +kernel
theorem dX3_atRest_26 : decode cX3_atRest 26 = .ok (.iinc 2 1, 3) := by decide +kernel
theorem dX3_atRest_29 : decode cX3_atRest 29 = .ok (.goto (-25), 3) := by decide +kernel
theorem dX3_atRest_32 : decode cX3_atRest 32 = .ok (.iload_n 1, 1) := by decide +kernel
theorem dX3_atRest_33 : decode cX3_atRest 33 = .ok (.ireturn, 1) := by decide +kernel
theorem dX3_restAt_0 : decode cX3_restAt 0 = .ok (.iconst 0, 1) := by decide +kernel
theorem dX3_restAt_1 : decode cX3_restAt 1 = .ok (.istore_n 2, 1) := by decide +kernel
theorem dX3_restAt_2 : decode cX3_restAt 2 = .ok (.iconst 0, 1) := by decide +kernel
theorem dX3_restAt_3 : decode cX3_restAt 3 = .ok (.istore_n 3, 1) := by decide +kernel
theorem dX3_restAt_4 : decode cX3_restAt 4 = .ok (.iload_n 3, 1) := by decide +kernel
theorem dX3_restAt_5 : decode cX3_restAt 5 = .ok (.bipush 9, 2) := by decide +kernel
theorem dX3_restAt_7 : decode cX3_restAt 7 = .ok (.if_icmp .ge 27, 3) := by decide +kernel
theorem dX3_restAt_10 : decode cX3_restAt 10 = .ok (.aload_n 0, 1) := by decide +kernel
theorem dX3_restAt_11 : decode cX3_restAt 11 = .ok (.iload_n 3, 1) := by decide +kernel
theorem dX3_restAt_12 : decode cX3_restAt 12 = .ok (.invokevirtual 57, 3) := by decide +kernel
theorem dX3_restAt_15 : decode cX3_restAt 15 = .ok (.ifCond .eq 13, 3) := by decide +kernel
theorem dX3_restAt_18 : decode cX3_restAt 18 = .ok (.iload_n 2, 1) := by decide +kernel
theorem dX3_restAt_19 : decode cX3_restAt 19 = .ok (.iload_n 1, 1) := by decide +kernel
theorem dX3_restAt_20 : decode cX3_restAt 20 = .ok (.if_icmp .ne 5, 3) := by decide +kernel
theorem dX3_restAt_23 : decode cX3_restAt 23 = .ok (.iload_n 3, 1) := by decide +kernel
theorem dX3_restAt_24 : decode cX3_restAt 24 = .ok (.ireturn, 1) := by decide +kernel
theorem dX3_restAt_25 : decode cX3_restAt 25 = .ok (.iinc 2 1, 3) := by decide +kernel
theorem dX3_restAt_28 : decode cX3_restAt 28 = .ok (.iinc 3 1, 3) := by decide +kernel
theorem dX3_restAt_31 : decode cX3_restAt 31 = .ok (.goto (-27), 3) := by decide +kernel
theorem dX3_restAt_34 : decode cX3_restAt 34 = .ok (.bipush (-2), 2) := by decide +kernel
theorem dX3_restAt_36 : decode cX3_restAt 36 = .ok (.ireturn, 1) := by decide +kernel
theorem dX8_init_0 : decode cX8_init 0 = .ok (.aload_n 0, 1) := by decide +kernel
theorem dX8_init_1 : decode cX8_init 1 = .ok (.invokespecial 3, 3) := by decide +kernel
theorem dX8_init_4 : decode cX8_init 4 = .ok (.aload_n 0, 1) := by decide +kernel
theorem dX8_init_5 : decode cX8_init 5 = .ok (.sipush 600, 3) := by decide +kernel
theorem dX8_init_8 : decode cX8_init 8 = .ok (.newarray .int, 2) := by decide +kernel
theorem dX8_init_10 : decode cX8_init 10 = .ok (.putfield 11, 3) := by decide +kernel
theorem dX8_init_13 : decode cX8_init 13 = .ok (.aload_n 0, 1) := by decide +kernel
theorem dX8_init_14 : decode cX8_init 14 = .ok (.iconst (-1), 1) := by decide +kernel
theorem dX8_init_15 : decode cX8_init 15 = .ok (.putfield 15, 3) := by decide +kernel
theorem dX8_init_18 : decode cX8_init 18 = .ok (.aload_n 0, 1) := by decide +kernel
theorem dX8_init_19 : decode cX8_init 19 = .ok (.iconst 5, 1) := by decide +kernel
theorem dX8_init_20 : decode cX8_init 20 = .ok (.newarray .int, 2) := by decide +kernel
theorem dX8_init_22 : decode cX8_init 22 = .ok (.putfield 19, 3) := by decide +kernel
theorem dX8_init_25 : decode cX8_init 25 = .ok (.aload_n 0, 1) := by decide +kernel
theorem dX8_init_26 : decode cX8_init 26 = .ok (.iconst 2, 1) := by decide +kernel
theorem dX8_init_27 : decode cX8_init 27 = .ok (.anewarray 22, 3) := by decide +kernel
theorem dX8_init_30 : decode cX8_init 30 = .ok (.putfield 24, 3) := by decide +kernel
theorem dX8_init_33 : decode cX8_init 33 = .ok (.aload_n 0, 1) := by decide +kernel
theorem dX8_init_34 : decode cX8_init 34 = .ok (.bipush 10, 2) := by decide +kernel
theorem dX8_init_36 : decode cX8_init 36 = .ok (.anewarray 28, 3) := by decide +kernel
theorem dX8_init_39 : decode cX8_init 39 = .ok (.putfield 30, 3) := by decide +kernel
theorem dX8_init_42 : decode cX8_init 42 = .ok (.iconst 0, 1) := by decide +kernel
theorem dX8_init_43 : decode cX8_init 43 = .ok (.istore_n 1, 1) := by decide +kernel
theorem dX8_init_44 : decode cX8_init 44 = .ok (.iload_n 1, 1) := by decide +kernel
theorem dX8_init_45 : decode cX8_init 45 = .ok (.iconst 2, 1) := by decide +kernel
theorem dX8_init_46 : decode cX8_init 46 = .ok (.if_icmp .ge 22, 3) := by decide +kernel
theorem dX8_init_49 : decode cX8_init 49 = .ok (.aload_n 0, 1) := by decide +kernel
theorem dX8_init_50 : decode cX8_init 50 = .ok (.getfield 24, 3) := by decide +kernel
theorem dX8_init_53 : decode cX8_init 53 = .ok (.iload_n 1, 1) := by decide +kernel
theorem dX8_init_54 : decode cX8_init 54 = .ok (.new 22, 3) := by decide +kernel
theorem dX8_init_57 : decode cX8_init 57 = .ok (.dup, 1) := by decide +kernel
theorem dX8_init_58 : decode cX8_init 58 = .ok (.invokespecial 34, 3) := by decide +kernel
theorem dX8_init_61 : decode cX8_init 61 = .ok (.aastore, 1) := by decide +kernel
theorem dX8_init_62 : decode cX8_init 62 = .ok (.iinc 1 1, 3) := by decide +kernel
theorem dX8_init_65 : decode cX8_init 65 = .ok (.goto (-21), 3) := by decide +kernel
theorem dX8_init_68 : decode cX8_init 68 = .ok (.iconst 0, 1) := by decide +kernel
theorem dX8_init_69 : decode cX8_init 69 = .ok (.istore_n 1, 1) := by decide +kernel
theorem dX8_init_70 : decode cX8_init 70 = .ok (.iload_n 1, 1) := by decide +kernel
theorem dX8_init_71 : decode cX8_init 71 = .ok (.bipush 10, 2) := by decide +kernel
theorem dX8_init_73 : decode cX8_init 73 = .ok (.if_icmp .ge 28, 3) := by decide +kernel
theorem dX8_init_76 : decode cX8_init 76 = .ok (.aload_n 0, 1) := by decide +kernel
theorem dX8_init_77 : decode cX8_init 77 = .ok (.getfield 30, 3) := by decide +kernel
theorem dX8_init_80 : decode cX8_init 80 = .ok (.iload_n 1, 1) := by decide +kernel
theorem dX8_init_81 : decode cX8_init 81 = .ok (.new 28, 3) := by decide +kernel
theorem dX8_init_84 : decode cX8_init 84 = .ok (.dup, 1) := by decide +kernel
theorem dX8_init_85 : decode cX8_init 85 = .ok (.iload_n 1, 1) := by decide +kernel
theorem dX8_init_86 : decode cX8_init 86 = .ok (.iconst 2, 1) := by decide +kernel
theorem dX8_init_87 : decode cX8_init 87 = .ok (.idiv, 1) := by decide +kernel
theorem dX8_init_88 : decode cX8_init 88 = .ok (.invokestatic 35, 3) := by decide +kernel
theorem dX8_init_91 : decode cX8_init 91 = .ok (.invokespecial 41, 3) := by decide +kernel
theorem dX8_init_94 : decode cX8_init 94 = .ok (.aastore, 1) := by decide +kernel
theorem dX8_init_95 : decode cX8_init 95 = .ok (.iinc 1 1, 3) := by decide +kernel
theorem dX8_init_98 : decode cX8_init 98 = .ok (.goto (-28), 3) := by decide +kernel
theorem dX8_init_101 : decode cX8_init 101 = .ok (.return_, 1) := by decide +kernel
theorem dX8_append_0 : decode cX8_append 0 = .ok (.bipush 24, 2) := by decide +kernel
theorem dX8_append_2 : decode cX8_append 2 = .ok (.istore_n 2, 1) := by decide +kernel
theorem dX8_append_3 : decode cX8_append 3 = .ok (.iload_n 2, 1) := by decide +kernel
theorem dX8_append_4 : decode cX8_append 4 = .ok (.ifCond .lt 45, 3) := by decide +kernel
theorem dX8_append_7 : decode cX8_append 7 = .ok (.aload_n 0, 1) := by decide +kernel
theorem dX8_append_8 : decode cX8_append 8 = .ok (.getfield 44, 3) := by decide +kernel
theorem dX8_append_11 : decode cX8_append 11 = .ok (.sipush 600, 3) := by decide +kernel
theorem dX8_append_14 : decode cX8_append 14 = .ok (.if_icmp .ge 35, 3) := by decide +kernel
theorem dX8_append_17 : decode cX8_append 17 = .ok (.aload_n 0, 1) := by decide +kernel
theorem dX8_append_18 : decode cX8_append 18 = .ok (.getfield 11, 3) := by decide +kernel
theorem dX8_append_21 : decode cX8_append 21 = .ok (.aload_n 0, 1) := by decide +kernel
theorem dX8_append_22 : decode cX8_append 22 = .ok (.getfield 44, 3) := by decide +kernel
theorem dX8_append_25 : decode cX8_append 25 = .ok (.iload_n 1, 1) := by decide +kernel
theorem dX8_append_26 : decode cX8_append 26 = .ok (.iload_n 2, 1) := by decide +kernel
theorem dX8_append_27 : decode cX8_append 27 = .ok (.iushr, 1) := by decide +kernel
theorem dX8_append_28 : decode cX8_append 28 = .ok (.sipush 255, 3) := by decide +kernel
theorem dX8_append_31 : decode cX8_append 31 = .ok (.iand, 1) := by decide +kernel
theorem dX8_append_32 : decode cX8_append 32 = .ok (.iastore, 1) := by decide +kernel
theorem dX8_append_33 : decode cX8_append 33 = .ok (.aload_n 0, 1) := by decide +kernel
theorem dX8_append_34 : decode cX8_append 34 = .ok (.dup, 1) := by decide +kernel
theorem dX8_append_35 : decode cX8_append 35 = .ok (.getfield 44, 3) := by decide +kernel
theorem dX8_append_38 : decode cX8_append 38 = .ok (.iconst 1, 1) := by decide +kernel
theorem dX8_append_39 : decode cX8_append 39 = .ok (.iadd, 1) := by decide +kernel
theorem dX8_append_40 : decode cX8_append 40 = .ok (.putfield 44, 3) := by decide +kernel
theorem dX8_append_43 : decode cX8_append 43 = .ok (.iinc 2 (-8), 3) := by decide +kernel
theorem dX8_append_46 : decode cX8_append 46 = .ok (.goto (-43), 3) := by decide +kernel
theorem dX8_append_49 : decode cX8_append 49 = .ok (.return_, 1) := by decide +kernel
theorem dX8_has_0 : decode cX8_has 0 = .ok (.iload_n 1, 1) := by decide +kernel
theorem dX8_has_1 : decode cX8_has 1 = .ok (.ifCond .lt 31, 3) := by decide +kernel
theorem dX8_has_4 : decode cX8_has 4 = .ok (.iload_n 1, 1) := by decide +kernel
theorem dX8_has_5 : decode cX8_has 5 = .ok (.iconst 5, 1) := by decide +kernel
theorem dX8_has_6 : decode cX8_has 6 = .ok (.if_icmp .ge 26, 3) := by decide +kernel
theorem dX8_has_9 : decode cX8_has 9 = .ok (.iload_n 2, 1) := by decide +kernel
theorem dX8_has_10 : decode cX8_has 10 = .ok (.ifCond .lt 22, 3) := by decide +kernel
theorem dX8_has_13 : decode cX8_has 13 = .ok (.iload_n 2, 1) := by decide +kernel
theorem dX8_has_14 : decode cX8_has 14 = .ok (.iconst 2, 1) := by decide +kernel
theorem dX8_has_15 : decode cX8_has 15 = .ok (.if_icmp .ge 17, 3) := by decide +kernel
theorem dX8_has_18 : decode cX8_has 18 = .ok (.iload_n 2, 1) := by decide +kernel
theorem dX8_has_19 : decode cX8_has 19 = .ok (.aload_n 0, 1) := by decide +kernel
theorem dX8_has_20 : decode cX8_has 20 = .ok (.getfield 19, 3) := by decide +kernel
theorem dX8_has_23 : decode cX8_has 23 = .ok (.iload_n 1, 1) := by decide +kernel
theorem dX8_has_24 : decode cX8_has 24 = .ok (.iaload, 1) := by decide +kernel
theorem dX8_has_25 : decode cX8_has 25 = .ok (.if_icmp .ge 7, 3) := by decide +kernel
theorem dX8_has_28 : decode cX8_has 28 = .ok (.iconst 1, 1) := by decide +kernel
theorem dX8_has_29 : decode cX8_has 29 = .ok (.goto 4, 3) := by decide +kernel
theorem dX8_has_32 : decode cX8_has 32 = .ok (.iconst 0, 1) := by decide +kernel
theorem dX8_has_33 : decode cX8_has 33 = .ok (.ireturn, 1) := by decide +kernel
theorem dX8_slotFor_0 : decode cX8_slotFor 0 = .ok (.iload_n 1, 1) := by decide +kernel
theorem dX8_slotFor_1 : decode cX8_slotFor 1 = .ok (.ifCond .lt 8, 3) := by decide +kernel
theorem dX8_slotFor_4 : decode cX8_slotFor 4 = .ok (.iload_n 1, 1) := by decide +kernel
theorem dX8_slotFor_5 : decode cX8_slotFor 5 = .ok (.iconst 5, 1) := by decide +kernel
theorem dX8_slotFor_6 : decode cX8_slotFor 6 = .ok (.if_icmp .lt 5, 3) := by decide +kernel
theorem dX8_slotFor_9 : decode cX8_slotFor 9 = .ok (.iconst (-1), 1) := by decide +kernel
theorem dX8_slotFor_10 : decode cX8_slotFor 10 = .ok (.ireturn, 1) := by decide +kernel
theorem dX8_slotFor_11 : decode cX8_slotFor 11 = .ok (.iload_n 2, 1) := by decide +kernel
theorem dX8_slotFor_12 : decode cX8_slotFor 12 = .ok (.iconst (-1), 1) := by decide +kernel
theorem dX8_slotFor_13 : decode cX8_slotFor 13 = .ok (.if_icmp .ne 24, 3) := by decide +kernel
theorem dX8_slotFor_16 : decode cX8_slotFor 16 = .ok (.aload_n 0, 1) := by decide +kernel
theorem dX8_slotFor_17 : decode cX8_slotFor 17 = .ok (.getfield 19, 3) := by decide +kernel
theorem dX8_slotFor_20 : decode cX8_slotFor 20 = .ok (.iload_n 1, 1) := by decide +kernel
theorem dX8_slotFor_21 : decode cX8_slotFor 21 = .ok (.iaload, 1) := by decide +kernel
theorem dX8_slotFor_22 : decode cX8_slotFor 22 = .ok (.iconst 2, 1) := by decide +kernel
theorem dX8_slotFor_23 : decode cX8_slotFor 23 = .ok (.if_icmp .ge 12, 3) := by decide +kernel
theorem dX8_slotFor_26 : decode cX8_slotFor 26 = .ok (.aload_n 0, 1) := by decide +kernel
theorem dX8_slotFor_27 : decode cX8_slotFor 27 = .ok (.getfield 19, 3) := by decide +kernel
theorem dX8_slotFor_30 : decode cX8_slotFor 30 = .ok (.iload_n 1, 1) := by decide +kernel
theorem dX8_slotFor_31 : decode cX8_slotFor 31 = .ok (.iaload, 1) := by decide +kernel
theorem dX8_slotFor_32 : decode cX8_slotFor 32 = .ok (.goto 4, 3) := by decide +kernel
theorem dX8_slotFor_35 : decode cX8_slotFor 35 = .ok (.iconst (-1), 1) := by decide +kernel
theorem dX8_slotFor_36 : decode cX8_slotFor 36 = .ok (.ireturn, 1) := by decide +kernel
theorem dX8_slotFor_37 : decode cX8_slotFor 37 = .ok (.aload_n 0, 1) := by decide +kernel
theorem dX8_slotFor_38 : decode cX8_slotFor 38 = .ok (.iload_n 1, 1) := by decide +kernel
theorem dX8_slotFor_39 : decode cX8_slotFor 39 = .ok (.iload_n 2, 1) := by decide +kernel
theorem dX8_slotFor_40 : decode cX8_slotFor 40 = .ok (.invokevirtual 47, 3) := by decide +kernel
theorem dX8_slotFor_43 : decode cX8_slotFor 43 = .ok (.ifCond .eq 7, 3) := by decide +kernel
theorem dX8_slotFor_46 : decode cX8_slotFor 46 = .ok (.iload_n 2, 1) := by decide +kernel
theorem dX8_slotFor_47 : decode cX8_slotFor 47 = .ok (.goto 4, 3) := by decide +kernel
theorem dX8_slotFor_50 : decode cX8_slotFor 50 = .ok (.iconst (-1), 1) := by decide +kernel
theorem dX8_slotFor_51 : decode cX8_slotFor 51 = .ok (.ireturn, 1) := by decide +kernel
theorem dX8_lakeAt_0 : decode cX8_lakeAt 0 = .ok (.aload_n 0, 1) := by decide +kernel
theorem dX8_lakeAt_1 : decode cX8_lakeAt 1 = .ok (.iconst 0, 1) := by decide +kernel
theorem dX8_lakeAt_2 : decode cX8_lakeAt 2 = .ok (.iload_n 1, 1) := by decide +kernel
theorem dX8_lakeAt_3 : decode cX8_lakeAt 3 = .ok (.invokevirtual 47, 3) := by decide +kernel
theorem dX8_lakeAt_6 : decode cX8_lakeAt 6 = .ok (.ifCond .eq 12, 3) := by decide +kernel
theorem dX8_lakeAt_9 : decode cX8_lakeAt 9 = .ok (.aload_n 0, 1) := by decide +kernel
theorem dX8_lakeAt_10 : decode cX8_lakeAt 10 = .ok (.getfield 24, 3) := by decide +kernel
theorem dX8_lakeAt_13 : decode cX8_lakeAt 13 = .ok (.iload_n 1, 1) := by decide +kernel
theorem dX8_lakeAt_14 : decode cX8_lakeAt 14 = .ok (.aaload, 1) := by decide +kernel
theorem dX8_lakeAt_15 : decode cX8_lakeAt 15 = .ok (.goto 4, 3) := by decide +kernel
theorem dX8_lakeAt_18 : decode cX8_lakeAt 18 = .ok (.aconst_null, 1) := by decide +kernel
theorem dX8_lakeAt_19 : decode cX8_lakeAt 19 = .ok (.areturn, 1) := by decide +kernel
theorem dX8_pageAt_0 : decode cX8_pageAt 0 = .ok (.aload_n 0, 1) := by decide +kernel
theorem dX8_pageAt_1 : decode cX8_pageAt 1 = .ok (.iload_n 1, 1) := by decide +kernel
theorem dX8_pageAt_2 : decode cX8_pageAt 2 = .ok (.iload_n 2, 1) := by decide +kernel
theorem dX8_pageAt_3 : decode cX8_pageAt 3 = .ok (.invokevirtual 47, 3) := by decide +kernel
theorem dX8_pageAt_6 : decode cX8_pageAt 6 = .ok (.ifCond .eq 16, 3) := by decide +kernel
theorem dX8_pageAt_9 : decode cX8_pageAt 9 = .ok (.aload_n 0, 1) := by decide +kernel
theorem dX8_pageAt_10 : decode cX8_pageAt 10 = .ok (.getfield 30, 3) := by decide +kernel
theorem dX8_pageAt_13 : decode cX8_pageAt 13 = .ok (.iload_n 1, 1) := by decide +kernel
theorem dX8_pageAt_14 : decode cX8_pageAt 14 = .ok (.iconst 2, 1) := by decide +kernel
theorem dX8_pageAt_15 : decode cX8_pageAt 15 = .ok (.imul, 1) := by decide +kernel
theorem dX8_pageAt_16 : decode cX8_pageAt 16 = .ok (.iload_n 2, 1) := by decide +kernel
theorem dX8_pageAt_17 : decode cX8_pageAt 17 = .ok (.iadd, 1) := by decide +kernel
theorem dX8_pageAt_18 : decode cX8_pageAt 18 = .ok (.aaload, 1) := by decide +kernel
theorem dX8_pageAt_19 : decode cX8_pageAt 19 = .ok (.goto 4, 3) := by decide +kernel
theorem dX8_pageAt_22 : decode cX8_pageAt 22 = .ok (.aconst_null, 1) := by decide +kernel
theorem dX8_pageAt_23 : decode cX8_pageAt 23 = .ok (.areturn, 1) := by decide +kernel
theorem dX8_take_0 : decode cX8_take 0 = .ok (.iload_n 1, 1) := by decide +kernel
theorem dX8_take_1 : decode cX8_take 1 = .ok (.ifCond .lt 17, 3) := by decide +kernel
theorem dX8_take_4 : decode cX8_take 4 = .ok (.iload_n 1, 1) := by decide +kernel
theorem dX8_take_5 : decode cX8_take 5 = .ok (.iconst 5, 1) := by decide +kernel
theorem dX8_take_6 : decode cX8_take 6 = .ok (.if_icmp .ge 12, 3) := by decide +kernel
theorem dX8_take_9 : decode cX8_take 9 = .ok (.iload_n 2, 1) := by decide +kernel
theorem dX8_take_10 : decode cX8_take 10 = .ok (.ifCond .lt 8, 3) := by decide +kernel
theorem dX8_take_13 : decode cX8_take 13 = .ok (.iload_n 2, 1) := by decide +kernel
theorem dX8_take_14 : decode cX8_take 14 = .ok (.iconst 2, 1) := by decide +kernel
theorem dX8_take_15 : decode cX8_take 15 = .ok (.if_icmp .lt 4, 3) := by decide +kernel
theorem dX8_take_18 : decode cX8_take 18 = .ok (.return_, 1) := by decide +kernel
theorem dX8_take_19 : decode cX8_take 19 = .ok (.iload_n 1, 1) := by decide +kernel
theorem dX8_take_20 : decode cX8_take 20 = .ok (.ifCond .ne 19, 3) := by decide +kernel
theorem dX8_take_23 : decode cX8_take 23 = .ok (.aload_n 0, 1) := by decide +kernel
theorem dX8_take_24 : decode cX8_take 24 = .ok (.getfield 24, 3) := by decide +kernel
theorem dX8_take_27 : decode cX8_take 27 = .ok (.iload_n 2, 1) := by decide +kernel
theorem dX8_take_28 : decode cX8_take 28 = .ok (.aaload, 1) := by decide +kernel
theorem dX8_take_29 : decode cX8_take 29 = .ok (.aload_n 3, 1) := by decide +kernel
theorem dX8_take_30 : decode cX8_take 30 = .ok (.getfield 51, 3) := by decide +kernel
theorem dX8_take_33 : decode cX8_take 33 = .ok (.invokevirtual 55, 3) := by decide +kernel
theorem dX8_take_36 : decode cX8_take 36 = .ok (.goto 22, 3) := by decide +kernel
theorem dX8_take_39 : decode cX8_take 39 = .ok (.aload_n 0, 1) := by decide +kernel
theorem dX8_take_40 : decode cX8_take 40 = .ok (.getfield 30, 3) := by decide +kernel
theorem dX8_take_43 : decode cX8_take 43 = .ok (.iload_n 1, 1) := by decide +kernel
theorem dX8_take_44 : decode cX8_take 44 = .ok (.iconst 2, 1) := by decide +kernel
theorem dX8_take_45 : decode cX8_take 45 = .ok (.imul, 1) := by decide +kernel
theorem dX8_take_46 : decode cX8_take 46 = .ok (.iload_n 2, 1) := by decide +kernel
theorem dX8_take_47 : decode cX8_take 47 = .ok (.iadd, 1) := by decide +kernel
theorem dX8_take_48 : decode cX8_take 48 = .ok (.aaload, 1) := by decide +kernel
theorem dX8_take_49 : decode cX8_take 49 = .ok (.aload_n 3, 1) := by decide +kernel
theorem dX8_take_50 : decode cX8_take 50 = .ok (.getfield 59, 3) := by decide +kernel
theorem dX8_take_53 : decode cX8_take 53 = .ok (.iload_n 1, 1) := by decide +kernel
theorem dX8_take_54 : decode cX8_take 54 = .ok (.aaload, 1) := by decide +kernel
theorem dX8_take_55 : decode cX8_take 55 = .ok (.invokevirtual 60, 3) := by decide +kernel
theorem dX8_take_58 : decode cX8_take 58 = .ok (.aload_n 0, 1) := by decide +kernel
theorem dX8_take_59 : decode cX8_take 59 = .ok (.getfield 19, 3) := by decide +kernel
theorem dX8_take_62 : decode cX8_take 62 = .ok (.iload_n 1, 1) := by decide +kernel
theorem dX8_take_63 : decode cX8_take 63 = .ok (.aload_n 0, 1) := by decide +kernel
theorem dX8_take_64 : decode cX8_take 64 = .ok (.getfield 19, 3) := by decide +kernel
theorem dX8_take_67 : decode cX8_take 67 = .ok (.iload_n 1, 1) := by decide +kernel
theorem dX8_take_68 : decode cX8_take 68 = .ok (.iaload, 1) := by decide +kernel
theorem dX8_take_69 : decode cX8_take 69 = .ok (.iload_n 2, 1) := by decide +kernel
theorem dX8_take_70 : decode cX8_take 70 = .ok (.iconst 1, 1) := by decide +kernel
theorem dX8_take_71 : decode cX8_take 71 = .ok (.iadd, 1) := by decide +kernel
theorem dX8_take_72 : decode cX8_take 72 = .ok (.invokestatic 63, 3) := by decide +kernel
theorem dX8_take_75 : decode cX8_take 75 = .ok (.iastore, 1) := by decide +kernel
theorem dX8_take_76 : decode cX8_take 76 = .ok (.return_, 1) := by decide +kernel
theorem dX8_takeFrom_0 : decode cX8_takeFrom 0 = .ok (.aload_n 1, 1) := by decide +kernel
theorem dX8_takeFrom_1 : decode cX8_takeFrom 1 = .ok (.getfield 11, 3) := by decide +kernel
theorem dX8_takeFrom_4 : decode cX8_takeFrom 4 = .ok (.iconst 0, 1) := by decide +kernel
theorem dX8_takeFrom_5 : decode cX8_takeFrom 5 = .ok (.aload_n 0, 1) := by decide +kernel
theorem dX8_takeFrom_6 : decode cX8_takeFrom 6 = .ok (.getfield 11, 3) := by decide +kernel
theorem dX8_takeFrom_9 : decode cX8_takeFrom 9 = .ok (.iconst 0, 1) := by decide +kernel
theorem dX8_takeFrom_10 : decode cX8_takeFrom 10 = .ok (.sipush 600, 3) := by decide +kernel
theorem dX8_takeFrom_13 : decode cX8_takeFrom 13 = .ok (.invokestatic 69, 3) := by decide +kernel
theorem dX8_takeFrom_16 : decode cX8_takeFrom 16 = .ok (.aload_n 0, 1) := by decide +kernel
theorem dX8_takeFrom_17 : decode cX8_takeFrom 17 = .ok (.aload_n 1, 1) := by decide +kernel
theorem dX8_takeFrom_18 : decode cX8_takeFrom 18 = .ok (.getfield 44, 3) := by decide +kernel
theorem dX8_takeFrom_21 : decode cX8_takeFrom 21 = .ok (.putfield 44, 3) := by decide +kernel
theorem dX8_takeFrom_24 : decode cX8_takeFrom 24 = .ok (.aload_n 0, 1) := by decide +kernel
theorem dX8_takeFrom_25 : decode cX8_takeFrom 25 = .ok (.aload_n 1, 1) := by decide +kernel
theorem dX8_takeFrom_26 : decode cX8_takeFrom 26 = .ok (.getfield 75, 3) := by decide +kernel
theorem dX8_takeFrom_29 : decode cX8_takeFrom 29 = .ok (.putfield 75, 3) := by decide +kernel
theorem dX8_takeFrom_32 : decode cX8_takeFrom 32 = .ok (.aload_n 0, 1) := by decide +kernel
theorem dX8_takeFrom_33 : decode cX8_takeFrom 33 = .ok (.aload_n 1, 1) := by decide +kernel
theorem dX8_takeFrom_34 : decode cX8_takeFrom 34 = .ok (.getfield 15, 3) := by decide +kernel
theorem dX8_takeFrom_37 : decode cX8_takeFrom 37 = .ok (.putfield 15, 3) := by decide +kernel
theorem dX8_takeFrom_40 : decode cX8_takeFrom 40 = .ok (.aload_n 1, 1) := by decide +kernel
theorem dX8_takeFrom_41 : decode cX8_takeFrom 41 = .ok (.getfield 19, 3) := by decide +kernel
theorem dX8_takeFrom_44 : decode cX8_takeFrom 44 = .ok (.iconst 0, 1) := by decide +kernel
theorem dX8_takeFrom_45 : decode cX8_takeFrom 45 = .ok (.aload_n 0, 1) := by decide +kernel
theorem dX8_takeFrom_46 : decode cX8_takeFrom 46 = .ok (.getfield 19, 3) := by decide +kernel
theorem dX8_takeFrom_49 : decode cX8_takeFrom 49 = .ok (.iconst 0, 1) := by decide +kernel
theorem dX8_takeFrom_50 : decode cX8_takeFrom 50 = .ok (.iconst 5, 1) := by decide +kernel
theorem dX8_takeFrom_51 : decode cX8_takeFrom 51 = .ok (.invokestatic 69, 3) := by decide +kernel
theorem dX8_takeFrom_54 : decode cX8_takeFrom 54 = .ok (.iconst 0, 1) := by decide +kernel
theorem dX8_takeFrom_55 : decode cX8_takeFrom 55 = .ok (.istore_n 2, 1) := by decide +kernel
theorem dX8_takeFrom_56 : decode cX8_takeFrom 56 = .ok (.iload_n 2, 1) := by decide +kernel
theorem dX8_takeFrom_57 : decode cX8_takeFrom 57 = .ok (.iconst 2, 1) := by decide +kernel
theorem dX8_takeFrom_58 : decode cX8_takeFrom 58 = .ok (.if_icmp .ge 24, 3) := by decide +kernel
theorem dX8_takeFrom_61 : decode cX8_takeFrom 61 = .ok (.aload_n 0, 1) := by decide +kernel
theorem dX8_takeFrom_62 : decode cX8_takeFrom 62 = .ok (.getfield 24, 3) := by decide +kernel
theorem dX8_takeFrom_65 : decode cX8_takeFrom 65 = .ok (.iload_n 2, 1) := by decide +kernel
theorem dX8_takeFrom_66 : decode cX8_takeFrom 66 = .ok (.aaload, 1) := by decide +kernel
theorem dX8_takeFrom_67 : decode cX8_takeFrom 67 = .ok (.aload_n 1, 1) := by decide +kernel
theorem dX8_takeFrom_68 : decode cX8_takeFrom 68 = .ok (.getfield 24, 3) := by decide +kernel
theorem dX8_takeFrom_71 : decode cX8_takeFrom 71 = .ok (.iload_n 2, 1) := by decide +kernel
theorem dX8_takeFrom_72 : decode cX8_takeFrom 72 = .ok (.aaload, 1) := by decide +kernel
theorem dX8_takeFrom_73 : decode cX8_takeFrom 73 = .ok (.invokevirtual 55, 3) := by decide +kernel
theorem dX8_takeFrom_76 : decode cX8_takeFrom 76 = .ok (.iinc 2 1, 3) := by decide +kernel
theorem dX8_takeFrom_79 : decode cX8_takeFrom 79 = .ok (.goto (-23), 3) := by decide +kernel
theorem dX8_takeFrom_82 : decode cX8_takeFrom 82 = .ok (.iconst 0, 1) := by decide +kernel
theorem dX8_takeFrom_83 : decode cX8_takeFrom 83 = .ok (.istore_n 2, 1) := by decide +kernel
theorem dX8_takeFrom_84 : decode cX8_takeFrom 84 = .ok (.iload_n 2, 1) := by decide +kernel
theorem dX8_takeFrom_85 : decode cX8_takeFrom 85 = .ok (.bipush 10, 2) := by decide +kernel
theorem dX8_takeFrom_87 : decode cX8_takeFrom 87 = .ok (.if_icmp .ge 24, 3) := by decide +kernel
theorem dX8_takeFrom_90 : decode cX8_takeFrom 90 = .ok (.aload_n 0, 1) := by decide +kernel
theorem dX8_takeFrom_91 : decode cX8_takeFrom 91 = .ok (.getfield 30, 3) := by decide +kernel
theorem dX8_takeFrom_94 : decode cX8_takeFrom 94 = .ok (.iload_n 2, 1) := by decide +kernel
theorem dX8_takeFrom_95 : decode cX8_takeFrom 95 = .ok (.aaload, 1) := by decide +kernel
theorem dX8_takeFrom_96 : decode cX8_takeFrom 96 = .ok (.aload_n 1, 1) := by decide +kernel
theorem dX8_takeFrom_97 : decode cX8_takeFrom 97 = .ok (.getfield 30, 3) := by decide +kernel
theorem dX8_takeFrom_100 : decode cX8_takeFrom 100 = .ok (.iload_n 2, 1) := by decide +kernel
theorem dX8_takeFrom_101 : decode cX8_takeFrom 101 = .ok (.aaload, 1) := by decide +kernel
theorem dX8_takeFrom_102 : decode cX8_takeFrom 102 = .ok (.invokevirtual 60, 3) := by decide +kernel
theorem dX8_takeFrom_105 : decode cX8_takeFrom 105 = .ok (.iinc 2 1, 3) := by decide +kernel
theorem dX8_takeFrom_108 : decode cX8_takeFrom 108 = .ok (.goto (-24), 3) := by decide +kernel
theorem dX8_takeFrom_111 : decode cX8_takeFrom 111 = .ok (.return_, 1) := by decide +kernel
theorem dX9_init_0 : decode cX9_init 0 = .ok (.aload_n 0, 1) := by decide +kernel
theorem dX9_init_1 : decode cX9_init 1 = .ok (.invokespecial 3, 3) := by decide +kernel
theorem dX9_init_4 : decode cX9_init 4 = .ok (.aload_n 0, 1) := by decide +kernel
theorem dX9_init_5 : decode cX9_init 5 = .ok (.iconst 4, 1) := by decide +kernel
theorem dX9_init_6 : decode cX9_init 6 = .ok (.newarray .int, 2) := by decide +kernel
theorem dX9_init_8 : decode cX9_init 8 = .ok (.putfield 11, 3) := by decide +kernel
theorem dX9_init_11 : decode cX9_init 11 = .ok (.aload_n 0, 1) := by decide +kernel
theorem dX9_init_12 : decode cX9_init 12 = .ok (.bipush 9, 2) := by decide +kernel
theorem dX9_init_14 : decode cX9_init 14 = .ok (.newarray .int, 2) := by decide +kernel
theorem dX9_init_16 : decode cX9_init 16 = .ok (.putfield 15, 3) := by decide +kernel
theorem dX9_init_19 : decode cX9_init 19 = .ok (.aload_n 0, 1) := by decide +kernel
theorem dX9_init_20 : decode cX9_init 20 = .ok (.bipush 25, 2) := by decide +kernel
theorem dX9_init_22 : decode cX9_init 22 = .ok (.newarray .int, 2) := by decide +kernel
theorem dX9_init_24 : decode cX9_init 24 = .ok (.putfield 18, 3) := by decide +kernel
theorem dX9_init_27 : decode cX9_init 27 = .ok (.aload_n 0, 1) := by decide +kernel
theorem dX9_init_28 : decode cX9_init 28 = .ok (.iconst 5, 1) := by decide +kernel
theorem dX9_init_29 : decode cX9_init 29 = .ok (.newarray .int, 2) := by decide +kernel
theorem dX9_init_31 : decode cX9_init 31 = .ok (.putfield 21, 3) := by decide +kernel
theorem dX9_init_34 : decode cX9_init 34 = .ok (.return_, 1) := by decide +kernel
theorem dX9_look_0 : decode cX9_look 0 = .ok (.aload_n 0, 1) := by decide +kernel
theorem dX9_look_1 : decode cX9_look 1 = .ok (.aload_n 1, 1) := by decide +kernel
theorem dX9_look_2 : decode cX9_look 2 = .ok (.invokevirtual 24, 3) := by decide +kernel
theorem dX9_look_5 : decode cX9_look 5 = .ok (.iconst 0, 1) := by decide +kernel
theorem dX9_look_6 : decode cX9_look 6 = .ok (.istore 4, 2) := by decide +kernel
theorem dX9_look_8 : decode cX9_look 8 = .ok (.iload 4, 2) := by decide +kernel
theorem dX9_look_10 : decode cX9_look 10 = .ok (.bipush 9, 2) := by decide +kernel
theorem dX9_look_12 : decode cX9_look 12 = .ok (.if_icmp .ge 24, 3) := by decide +kernel
theorem dX9_look_15 : decode cX9_look 15 = .ok (.aload_n 0, 1) := by decide +kernel
theorem dX9_look_16 : decode cX9_look 16 = .ok (.getfield 15, 3) := by decide +kernel
theorem dX9_look_19 : decode cX9_look 19 = .ok (.iload 4, 2) := by decide +kernel
theorem dX9_look_21 : decode cX9_look 21 = .ok (.aload_n 1, 1) := by decide +kernel
theorem dX9_look_22 : decode cX9_look 22 = .ok (.aload_n 2, 1) := by decide +kernel
theorem dX9_look_23 : decode cX9_look 23 = .ok (.aload_n 3, 1) := by decide +kernel
theorem dX9_look_24 : decode cX9_look 24 = .ok (.iload 4, 2) := by decide +kernel
theorem dX9_look_26 : decode cX9_look 26 = .ok (.invokestatic 28, 3) := by decide +kernel
theorem dX9_look_29 : decode cX9_look 29 = .ok (.iastore, 1) := by decide +kernel
theorem dX9_look_30 : decode cX9_look 30 = .ok (.iinc 4 1, 3) := by decide +kernel
theorem dX9_look_33 : decode cX9_look 33 = .ok (.goto (-25), 3) := by decide +kernel
theorem dX9_look_36 : decode cX9_look 36 = .ok (.aload_n 0, 1) := by decide +kernel
theorem dX9_look_37 : decode cX9_look 37 = .ok (.iconst 0, 1) := by decide +kernel
theorem dX9_look_38 : decode cX9_look 38 = .ok (.putfield 32, 3) := by decide +kernel
theorem dX9_look_41 : decode cX9_look 41 = .ok (.aload_n 0, 1) := by decide +kernel
theorem dX9_look_42 : decode cX9_look 42 = .ok (.iconst 1, 1) := by decide +kernel
theorem dX9_look_43 : decode cX9_look 43 = .ok (.aload_n 1, 1) := by decide +kernel
theorem dX9_look_44 : decode cX9_look 44 = .ok (.getfield 36, 3) := by decide +kernel
theorem dX9_look_47 : decode cX9_look 47 = .ok (.getfield 42, 3) := by decide +kernel
theorem dX9_look_50 : decode cX9_look 50 = .ok (.ishl, 1) := by decide +kernel
theorem dX9_look_51 : decode cX9_look 51 = .ok (.iconst 1, 1) := by decide +kernel
theorem dX9_look_52 : decode cX9_look 52 = .ok (.isub, 1) := by decide +kernel
theorem dX9_look_53 : decode cX9_look 53 = .ok (.putfield 47, 3) := by decide +kernel
theorem dX9_look_56 : decode cX9_look 56 = .ok (.aload_n 0, 1) := by decide +kernel
theorem dX9_look_57 : decode cX9_look 57 = .ok (.iconst (-1), 1) := by decide +kernel
theorem dX9_look_58 : decode cX9_look 58 = .ok (.putfield 50, 3) := by decide +kernel
theorem dX9_look_61 : decode cX9_look 61 = .ok (.aload_n 0, 1) := by decide +kernel
theorem dX9_look_62 : decode cX9_look 62 = .ok (.iconst 0, 1) := by decide +kernel
theorem dX9_look_63 : decode cX9_look 63 = .ok (.putfield 53, 3) := by decide +kernel
theorem dX9_look_66 : decode cX9_look 66 = .ok (.iconst 0, 1) := by decide +kernel
theorem dX9_look_67 : decode cX9_look 67 = .ok (.istore 4, 2) := by decide +kernel
theorem dX9_look_69 : decode cX9_look 69 = .ok (.iload 4, 2) := by decide +kernel
theorem dX9_look_71 : decode cX9_look 71 = .ok (.bipush 25, 2) := by decide +kernel
theorem dX9_look_73 : decode cX9_look 73 = .ok (.if_icmp .ge 17, 3) := by decide +kernel
theorem dX9_look_76 : decode cX9_look 76 = .ok (.aload_n 0, 1) := by decide +kernel
theorem dX9_look_77 : decode cX9_look 77 = .ok (.getfield 18, 3) := by decide +kernel
theorem dX9_look_80 : decode cX9_look 80 = .ok (.iload 4, 2) := by decide +kernel
theorem dX9_look_82 : decode cX9_look 82 = .ok (.iconst 0, 1) := by decide +kernel
theorem dX9_look_83 : decode cX9_look 83 = .ok (.iastore, 1) := by decide +kernel
theorem dX9_look_84 : decode cX9_look 84 = .ok (.iinc 4 1, 3) := by decide +kernel
theorem dX9_look_87 : decode cX9_look 87 = .ok (.goto (-18), 3) := by decide +kernel
theorem dX9_look_90 : decode cX9_look 90 = .ok (.iconst 1, 1) := by decide +kernel
theorem dX9_look_91 : decode cX9_look 91 = .ok (.istore 4, 2) := by decide +kernel
theorem dX9_look_93 : decode cX9_look 93 = .ok (.iconst 0, 1) := by decide +kernel
theorem dX9_look_94 : decode cX9_look 94 = .ok (.istore 5, 2) := by decide +kernel
theorem dX9_look_96 : decode cX9_look 96 = .ok (.iload 5, 2) := by decide +kernel
theorem dX9_look_98 : decode cX9_look 98 = .ok (.aload_n 1, 1) := by decide +kernel
theorem dX9_look_99 : decode cX9_look 99 = .ok (.getfield 36, 3) := by decide +kernel
theorem dX9_look_102 : decode cX9_look 102 = .ok (.getfield 42, 3) := by decide +kernel
theorem dX9_look_105 : decode cX9_look 105 = .ok (.if_icmp .ge 20, 3) := by decide +kernel
theorem dX9_look_108 : decode cX9_look 108 = .ok (.iload 4, 2) := by decide +kernel
theorem dX9_look_110 : decode cX9_look 110 = .ok (.aload_n 0, 1) := by decide +kernel
theorem dX9_look_111 : decode cX9_look 111 = .ok (.getfield 56, 3) := by decide +kernel
theorem dX9_look_114 : decode cX9_look 114 = .ok (.iconst 1, 1) := by decide +kernel
theorem dX9_look_115 : decode cX9_look 115 = .ok (.iadd, 1) := by decide +kernel
theorem dX9_look_116 : decode cX9_look 116 = .ok (.imul, 1) := by decide +kernel
theorem dX9_look_117 : decode cX9_look 117 = .ok (.istore 4, 2) := by decide +kernel
theorem dX9_look_119 : decode cX9_look 119 = .ok (.iinc 5 1, 3) := by decide +kernel
theorem dX9_look_122 : decode cX9_look 122 = .ok (.goto (-26), 3) := by decide +kernel
theorem dX9_look_125 : decode cX9_look 125 = .ok (.iconst 0, 1) := by decide +kernel
theorem dX9_look_126 : decode cX9_look 126 = .ok (.istore 5, 2) := by decide +kernel
theorem dX9_look_128 : decode cX9_look 128 = .ok (.iload 5, 2) := by decide +kernel
theorem dX9_look_130 : decode cX9_look 130 = .ok (.iload 4, 2) := by decide +kernel
theorem dX9_look_132 : decode cX9_look 132 = .ok (.if_icmp .ge 20, 3) := by decide +kernel
theorem dX9_look_135 : decode cX9_look 135 = .ok (.aload_n 0, 1) := by decide +kernel
theorem dX9_look_136 : decode cX9_look 136 = .ok (.aload_n 1, 1) := by decide +kernel
theorem dX9_look_137 : decode cX9_look 137 = .ok (.iload 5, 2) := by decide +kernel
theorem dX9_look_139 : decode cX9_look 139 = .ok (.aload_n 2, 1) := by decide +kernel
theorem dX9_look_140 : decode cX9_look 140 = .ok (.getfield 42, 3) := by decide +kernel
theorem dX9_look_143 : decode cX9_look 143 = .ok (.invokevirtual 59, 3) := by decide +kernel
theorem dX9_look_146 : decode cX9_look 146 = .ok (.iinc 5 1, 3) := by decide +kernel
theorem dX9_look_149 : decode cX9_look 149 = .ok (.goto (-21), 3) := by decide +kernel
theorem dX9_look_152 : decode cX9_look 152 = .ok (.aload_n 0, 1) := by decide +kernel
theorem dX9_look_153 : decode cX9_look 153 = .ok (.aload_n 0, 1) := by decide +kernel
theorem dX9_look_154 : decode cX9_look 154 = .ok (.getfield 32, 3) := by decide +kernel
theorem dX9_look_157 : decode cX9_look 157 = .ok (.ifCond .ne 7, 3) := by decide +kernel
theorem dX9_look_160 : decode cX9_look 160 = .ok (.iconst 0, 1) := by decide +kernel
theorem dX9_look_161 : decode cX9_look 161 = .ok (.goto 7, 3) := by decide +kernel
theorem dX9_look_164 : decode cX9_look 164 = .ok (.aload_n 0, 1) := by decide +kernel
theorem dX9_look_165 : decode cX9_look 165 = .ok (.getfield 47, 3) := by decide +kernel
theorem dX9_look_168 : decode cX9_look 168 = .ok (.putfield 47, 3) := by decide +kernel
theorem dX9_look_171 : decode cX9_look 171 = .ok (.return_, 1) := by decide +kernel
theorem dX9_findCorners_0 : decode cX9_findCorners 0 = .ok (.aload_n 0, 1) := by decide +kernel
theorem dX9_findCorners_1 : decode cX9_findCorners 1 = .ok (.iconst 0, 1) := by decide +kernel
theorem dX9_findCorners_2 : decode cX9_findCorners 2 = .ok (.putfield 56, 3) := by decide +kernel
theorem dX9_findCorners_5 : decode cX9_findCorners 5 = .ok (.iconst 0, 1) := by decide +kernel
theorem dX9_findCorners_6 : decode cX9_findCorners 6 = .ok (.istore_n 2, 1) := by decide +kernel
theorem dX9_findCorners_7 : decode cX9_findCorners 7 = .ok (.iload_n 2, 1) := by decide +kernel
theorem dX9_findCorners_8 : decode cX9_findCorners 8 = .ok (.aload_n 1, 1) := by decide +kernel
theorem dX9_findCorners_9 : decode cX9_findCorners 9 = .ok (.invokevirtual 63, 3) := by decide +kernel
theorem dX9_findCorners_12 : decode cX9_findCorners 12 = .ok (.if_icmp .ge 55, 3) := by decide +kernel
theorem dX9_findCorners_15 : decode cX9_findCorners 15 = .ok (.aload_n 0, 1) := by decide +kernel
theorem dX9_findCorners_16 : decode cX9_findCorners 16 = .ok (.getfield 56, 3) := by decide +kernel
theorem dX9_findCorners_19 : decode cX9_findCorners 19 = .ok (.iconst 4, 1) := by decide +kernel
theorem dX9_findCorners_20 : decode cX9_findCorners 20 = .ok (.if_icmp .ge 47, 3) := by decide +kernel
theorem dX9_findCorners_23 : decode cX9_findCorners 23 = .ok (.aload_n 1, 1) := by decide +kernel
theorem dX9_findCorners_24 : decode cX9_findCorners 24 = .ok (.iload_n 2, 1) := by decide +kernel
theorem dX9_findCorners_25 : decode cX9_findCorners 25 = .ok (.iconst 0, 1) := by decide +kernel
theorem dX9_findCorners_26 : decode cX9_findCorners 26 = .ok (.invokestatic 67, 3) := by decide +kernel
theorem dX9_findCorners_29 : decode cX9_findCorners 29 = .ok (.ifCond .eq 32, 3) := by decide +kernel
theorem dX9_findCorners_32 : decode cX9_findCorners 32 = .ok (.aload_n 1, 1) := by decide +kernel
theorem dX9_findCorners_33 : decode cX9_findCorners 33 = .ok (.iload_n 2, 1) := by decide +kernel
theorem dX9_findCorners_34 : decode cX9_findCorners 34 = .ok (.iconst 1, 1) := by decide +kernel
theorem dX9_findCorners_35 : decode cX9_findCorners 35 = .ok (.invokestatic 67, 3) := by decide +kernel
theorem dX9_findCorners_38 : decode cX9_findCorners 38 = .ok (.ifCond .eq 23, 3) := by decide +kernel
theorem dX9_findCorners_41 : decode cX9_findCorners 41 = .ok (.aload_n 0, 1) := by decide +kernel
theorem dX9_findCorners_42 : decode cX9_findCorners 42 = .ok (.getfield 11, 3) := by decide +kernel
theorem dX9_findCorners_45 : decode cX9_findCorners 45 = .ok (.aload_n 0, 1) := by decide +kernel
theorem dX9_findCorners_46 : decode cX9_findCorners 46 = .ok (.getfield 56, 3) := by decide +kernel
theorem dX9_findCorners_49 : decode cX9_findCorners 49 = .ok (.iload_n 2, 1) := by decide +kernel
theorem dX9_findCorners_50 : decode cX9_findCorners 50 = .ok (.iastore, 1) := by decide +kernel
theorem dX9_findCorners_51 : decode cX9_findCorners 51 = .ok (.aload_n 0, 1) := by decide +kernel
theorem dX9_findCorners_52 : decode cX9_findCorners 52 = .ok (.dup, 1) := by decide +kernel
theorem dX9_findCorners_53 : decode cX9_findCorners 53 = .ok (.getfield 56, 3) := by decide +kernel
theorem dX9_findCorners_56 : decode cX9_findCorners 56 = .ok (.iconst 1, 1) := by decide +kernel
theorem dX9_findCorners_57 : decode cX9_findCorners 57 = .ok (.iadd, 1) := by decide +kernel
theorem dX9_findCorners_58 : decode cX9_findCorners 58 = .ok (.putfield 56, 3) := by decide +kernel
theorem dX9_findCorners_61 : decode cX9_findCorners 61 = .ok (.iinc 2 1, 3) := by decide +kernel
theorem dX9_findCorners_64 : decode cX9_findCorners 64 = .ok (.goto (-57), 3) := by decide +kernel
theorem dX9_findCorners_67 : decode cX9_findCorners 67 = .ok (.return_, 1) := by decide +kernel
theorem dX9_isOuter_0 : decode cX9_isOuter 0 = .ok (.aload_n 0, 1) := by decide +kernel
theorem dX9_isOuter_1 : decode cX9_isOuter 1 = .ok (.iload_n 1, 1) := by decide +kernel
theorem dX9_isOuter_2 : decode cX9_isOuter 2 = .ok (.iload_n 2, 1) := by decide +kernel
theorem dX9_isOuter_3 : decode cX9_isOuter 3 = .ok (.invokevirtual 71, 3) := by decide +kernel
theorem dX9_isOuter_6 : decode cX9_isOuter 6 = .ok (.istore_n 3, 1) := by decide +kernel
theorem dX9_isOuter_7 : decode cX9_isOuter 7 = .ok (.iload_n 3, 1) := by decide +kernel
theorem dX9_isOuter_8 : decode cX9_isOuter 8 = .ok (.ifCond .eq 14, 3) := by decide +kernel
theorem dX9_isOuter_11 : decode cX9_isOuter 11 = .ok (.iload_n 3, 1) := by decide +kernel
theorem dX9_isOuter_12 : decode cX9_isOuter 12 = .ok (.aload_n 0, 1) := by decide +kernel
theorem dX9_isOuter_13 : decode cX9_isOuter 13 = .ok (.iload_n 2, 1) := by decide +kernel
theorem dX9_isOuter_14 : decode cX9_isOuter 14 = .ok (.invokevirtual 75, 3) := by decide +kernel
theorem dX9_isOuter_17 : decode cX9_isOuter 17 = .ok (.iconst 1, 1) := by decide +kernel
theorem dX9_isOuter_18 : decode cX9_isOuter 18 = .ok (.isub, 1) := by decide +kernel
theorem dX9_isOuter_19 : decode cX9_isOuter 19 = .ok (.if_icmp .ne 7, 3) := by decide +kernel
theorem dX9_isOuter_22 : decode cX9_isOuter 22 = .ok (.iconst 1, 1) := by decide +kernel
theorem dX9_isOuter_23 : decode cX9_isOuter 23 = .ok (.goto 4, 3) := by decide +kernel
theorem dX9_isOuter_26 : decode cX9_isOuter 26 = .ok (.iconst 0, 1) := by decide +kernel
theorem dX9_isOuter_27 : decode cX9_isOuter 27 = .ok (.ireturn, 1) := by decide +kernel
theorem dX9_follow_0 : decode cX9_follow 0 = .ok (.aload_n 2, 1) := by decide +kernel
theorem dX9_follow_1 : decode cX9_follow 1 = .ok (.aload_n 0, 1) := by decide +kernel
theorem dX9_follow_2 : decode cX9_follow 2 = .ok (.aload_n 0, 1) := by decide +kernel
theorem dX9_follow_3 : decode cX9_follow 3 = .ok (.invokevirtual 79, 3) := by decide +kernel
theorem dX9_follow_6 : decode cX9_follow 6 = .ok (.iconst 0, 1) := by decide +kernel
theorem dX9_follow_7 : decode cX9_follow 7 = .ok (.istore 4, 2) := by decide +kernel
theorem dX9_follow_9 : decode cX9_follow 9 = .ok (.iload 4, 2) := by decide +kernel
theorem dX9_follow_11 : decode cX9_follow 11 = .ok (.aload_n 1, 1) := by decide +kernel
theorem dX9_follow_12 : decode cX9_follow 12 = .ok (.getfield 42, 3) := by decide +kernel
theorem dX9_follow_15 : decode cX9_follow 15 = .ok (.if_icmp .ge 54, 3) := by decide +kernel
theorem dX9_follow_18 : decode cX9_follow 18 = .ok (.aload_n 2, 1) := by decide +kernel
theorem dX9_follow_19 : decode cX9_follow 19 = .ok (.iload_n 3, 1) := by decide +kernel
theorem dX9_follow_20 : decode cX9_follow 20 = .ok (.iconst 3, 1) := by decide +kernel
theorem dX9_follow_21 : decode cX9_follow 21 = .ok (.irem, 1) := by decide +kernel
theorem dX9_follow_22 : decode cX9_follow 22 = .ok (.iconst 1, 1) := by decide +kernel
theorem dX9_follow_23 : decode cX9_follow 23 = .ok (.isub, 1) := by decide +kernel
theorem dX9_follow_24 : decode cX9_follow 24 = .ok (.iload_n 3, 1) := by decide +kernel
theorem dX9_follow_25 : decode cX9_follow 25 = .ok (.iconst 3, 1) := by decide +kernel
theorem dX9_follow_26 : decode cX9_follow 26 = .ok (.idiv, 1) := by decide +kernel
theorem dX9_follow_27 : decode cX9_follow 27 = .ok (.iconst 1, 1) := by decide +kernel
theorem dX9_follow_28 : decode cX9_follow 28 = .ok (.isub, 1) := by decide +kernel
theorem dX9_follow_29 : decode cX9_follow 29 = .ok (.invokevirtual 85, 3) := by decide +kernel
theorem dX9_follow_32 : decode cX9_follow 32 = .ok (.aload_n 2, 1) := by decide +kernel
theorem dX9_follow_33 : decode cX9_follow 33 = .ok (.getfield 89, 3) := by decide +kernel
theorem dX9_follow_36 : decode cX9_follow 36 = .ok (.aload_n 1, 1) := by decide +kernel
theorem dX9_follow_37 : decode cX9_follow 37 = .ok (.iload 4, 2) := by decide +kernel
theorem dX9_follow_39 : decode cX9_follow 39 = .ok (.iconst 0, 1) := by decide +kernel
theorem dX9_follow_40 : decode cX9_follow 40 = .ok (.invokevirtual 92, 3) := by decide +kernel
theorem dX9_follow_43 : decode cX9_follow 43 = .ok (.if_icmp .ne 17, 3) := by decide +kernel
theorem dX9_follow_46 : decode cX9_follow 46 = .ok (.aload_n 2, 1) := by decide +kernel
theorem dX9_follow_47 : decode cX9_follow 47 = .ok (.getfield 95, 3) := by decide +kernel
theorem dX9_follow_50 : decode cX9_follow 50 = .ok (.aload_n 1, 1) := by decide +kernel
theorem dX9_follow_51 : decode cX9_follow 51 = .ok (.iload 4, 2) := by decide +kernel
theorem dX9_follow_53 : decode cX9_follow 53 = .ok (.iconst 1, 1) := by decide +kernel
theorem dX9_follow_54 : decode cX9_follow 54 = .ok (.invokevirtual 92, 3) := by decide +kernel
theorem dX9_follow_57 : decode cX9_follow 57 = .ok (.if_icmp .eq 6, 3) := by decide +kernel
theorem dX9_follow_60 : decode cX9_follow 60 = .ok (.iload 4, 2) := by decide +kernel
theorem dX9_follow_62 : decode cX9_follow 62 = .ok (.ireturn, 1) := by decide +kernel
theorem dX9_follow_63 : decode cX9_follow 63 = .ok (.iinc 4 1, 3) := by decide +kernel
theorem dX9_follow_66 : decode cX9_follow 66 = .ok (.goto (-57), 3) := by decide +kernel
theorem dX9_follow_69 : decode cX9_follow 69 = .ok (.aload_n 1, 1) := by decide +kernel
theorem dX9_follow_70 : decode cX9_follow 70 = .ok (.getfield 42, 3) := by decide +kernel
theorem dX9_follow_73 : decode cX9_follow 73 = .ok (.ireturn, 1) := by decide +kernel
theorem dX9_tryWay_0 : decode cX9_tryWay 0 = .ok (.iload_n 2, 1) := by decide +kernel
theorem dX9_tryWay_1 : decode cX9_tryWay 1 = .ok (.istore 4, 2) := by decide +kernel
theorem dX9_tryWay_3 : decode cX9_tryWay 3 = .ok (.iconst 0, 1) := by decide +kernel
theorem dX9_tryWay_4 : decode cX9_tryWay 4 = .ok (.istore 5, 2) := by decide +kernel
theorem dX9_tryWay_6 : decode cX9_tryWay 6 = .ok (.aload_n 1, 1) := by decide +kernel
theorem dX9_tryWay_7 : decode cX9_tryWay 7 = .ok (.iconst 0, 1) := by decide +kernel
theorem dX9_tryWay_8 : decode cX9_tryWay 8 = .ok (.invokevirtual 98, 3) := by decide +kernel
theorem dX9_tryWay_11 : decode cX9_tryWay 11 = .ok (.istore 6, 2) := by decide +kernel
theorem dX9_tryWay_13 : decode cX9_tryWay 13 = .ok (.aload_n 1, 1) := by decide +kernel
theorem dX9_tryWay_14 : decode cX9_tryWay 14 = .ok (.iconst 1, 1) := by decide +kernel
theorem dX9_tryWay_15 : decode cX9_tryWay 15 = .ok (.invokevirtual 98, 3) := by decide +kernel
theorem dX9_tryWay_18 : decode cX9_tryWay 18 = .ok (.istore 7, 2) := by decide +kernel
theorem dX9_tryWay_20 : decode cX9_tryWay 20 = .ok (.iconst 0, 1) := by decide +kernel
theorem dX9_tryWay_21 : decode cX9_tryWay 21 = .ok (.istore 8, 2) := by decide +kernel
theorem dX9_tryWay_23 : decode cX9_tryWay 23 = .ok (.iload 8, 2) := by decide +kernel
theorem dX9_tryWay_25 : decode cX9_tryWay 25 = .ok (.aload_n 1, 1) := by decide +kernel
theorem dX9_tryWay_26 : decode cX9_tryWay 26 = .ok (.getfield 36, 3) := by decide +kernel
theorem dX9_tryWay_29 : decode cX9_tryWay 29 = .ok (.getfield 42, 3) := by decide +kernel
theorem dX9_tryWay_32 : decode cX9_tryWay 32 = .ok (.if_icmp .ge 134, 3) := by decide +kernel
theorem dX9_tryWay_35 : decode cX9_tryWay 35 = .ok (.iload 8, 2) := by decide +kernel
theorem dX9_tryWay_37 : decode cX9_tryWay 37 = .ok (.iconst 5, 1) := by decide +kernel
theorem dX9_tryWay_38 : decode cX9_tryWay 38 = .ok (.if_icmp .ge 128, 3) := by decide +kernel
theorem dX9_tryWay_41 : decode cX9_tryWay 41 = .ok (.aload_n 0, 1) := by decide +kernel
theorem dX9_tryWay_42 : decode cX9_tryWay 42 = .ok (.getfield 21, 3) := by decide +kernel
theorem dX9_tryWay_45 : decode cX9_tryWay 45 = .ok (.iload 8, 2) := by decide +kernel
theorem dX9_tryWay_47 : decode cX9_tryWay 47 = .ok (.iload 4, 2) := by decide +kernel
theorem dX9_tryWay_49 : decode cX9_tryWay 49 = .ok (.aload_n 0, 1) := by decide +kernel
theorem dX9_tryWay_50 : decode cX9_tryWay 50 = .ok (.getfield 56, 3) := by decide +kernel
theorem dX9_tryWay_53 : decode cX9_tryWay 53 = .ok (.iconst 1, 1) := by decide +kernel
theorem dX9_tryWay_54 : decode cX9_tryWay 54 = .ok (.iadd, 1) := by decide +kernel
theorem dX9_tryWay_55 : decode cX9_tryWay 55 = .ok (.irem, 1) := by decide +kernel
theorem dX9_tryWay_56 : decode cX9_tryWay 56 = .ok (.iastore, 1) := by decide +kernel
theorem dX9_tryWay_57 : decode cX9_tryWay 57 = .ok (.iload 4, 2) := by decide +kernel
theorem dX9_tryWay_59 : decode cX9_tryWay 59 = .ok (.aload_n 0, 1) := by decide +kernel
theorem dX9_tryWay_60 : decode cX9_tryWay 60 = .ok (.getfield 56, 3) := by decide +kernel
theorem dX9_tryWay_63 : decode cX9_tryWay 63 = .ok (.iconst 1, 1) := by decide +kernel
theorem dX9_tryWay_64 : decode cX9_tryWay 64 = .ok (.iadd, 1) := by decide +kernel
theorem dX9_tryWay_65 : decode cX9_tryWay 65 = .ok (.idiv, 1) := by decide +kernel
theorem dX9_tryWay_66 : decode cX9_tryWay 66 = .ok (.istore 4, 2) := by decide +kernel
theorem dX9_tryWay_68 : decode cX9_tryWay 68 = .ok (.aload_n 0, 1) := by decide +kernel
theorem dX9_tryWay_69 : decode cX9_tryWay 69 = .ok (.getfield 21, 3) := by decide +kernel
theorem dX9_tryWay_72 : decode cX9_tryWay 72 = .ok (.iload 8, 2) := by decide +kernel
theorem dX9_tryWay_74 : decode cX9_tryWay 74 = .ok (.iaload, 1) := by decide +kernel
theorem dX9_tryWay_75 : decode cX9_tryWay 75 = .ok (.ifCond .le 85, 3) := by decide +kernel
theorem dX9_tryWay_78 : decode cX9_tryWay 78 = .ok (.aload_n 0, 1) := by decide +kernel
theorem dX9_tryWay_79 : decode cX9_tryWay 79 = .ok (.getfield 21, 3) := by decide +kernel
theorem dX9_tryWay_82 : decode cX9_tryWay 82 = .ok (.iload 8, 2) := by decide +kernel
theorem dX9_tryWay_84 : decode cX9_tryWay 84 = .ok (.iaload, 1) := by decide +kernel
theorem dX9_tryWay_85 : decode cX9_tryWay 85 = .ok (.iconst 4, 1) := by decide +kernel
theorem dX9_tryWay_86 : decode cX9_tryWay 86 = .ok (.if_icmp .gt 74, 3) := by decide +kernel
theorem dX9_tryWay_89 : decode cX9_tryWay 89 = .ok (.aload_n 0, 1) := by decide +kernel
theorem dX9_tryWay_90 : decode cX9_tryWay 90 = .ok (.getfield 11, 3) := by decide +kernel
theorem dX9_tryWay_93 : decode cX9_tryWay 93 = .ok (.aload_n 0, 1) := by decide +kernel
theorem dX9_tryWay_94 : decode cX9_tryWay 94 = .ok (.getfield 21, 3) := by decide +kernel
theorem dX9_tryWay_97 : decode cX9_tryWay 97 = .ok (.iload 8, 2) := by decide +kernel
theorem dX9_tryWay_99 : decode cX9_tryWay 99 = .ok (.iaload, 1) := by decide +kernel
theorem dX9_tryWay_100 : decode cX9_tryWay 100 = .ok (.iconst 1, 1) := by decide +kernel
theorem dX9_tryWay_101 : decode cX9_tryWay 101 = .ok (.isub, 1) := by decide +kernel
theorem dX9_tryWay_102 : decode cX9_tryWay 102 = .ok (.iaload, 1) := by decide +kernel
theorem dX9_tryWay_103 : decode cX9_tryWay 103 = .ok (.istore 9, 2) := by decide +kernel
theorem dX9_tryWay_105 : decode cX9_tryWay 105 = .ok (.iload 5, 2) := by decide +kernel
theorem dX9_tryWay_107 : decode cX9_tryWay 107 = .ok (.iconst 1, 1) := by decide +kernel
theorem dX9_tryWay_108 : decode cX9_tryWay 108 = .ok (.iload 8, 2) := by decide +kernel
theorem dX9_tryWay_110 : decode cX9_tryWay 110 = .ok (.ishl, 1) := by decide +kernel
theorem dX9_tryWay_111 : decode cX9_tryWay 111 = .ok (.ior, 1) := by decide +kernel
theorem dX9_tryWay_112 : decode cX9_tryWay 112 = .ok (.istore 5, 2) := by decide +kernel
theorem dX9_tryWay_114 : decode cX9_tryWay 114 = .ok (.iload 6, 2) := by decide +kernel
theorem dX9_tryWay_116 : decode cX9_tryWay 116 = .ok (.aload_n 1, 1) := by decide +kernel
theorem dX9_tryWay_117 : decode cX9_tryWay 117 = .ok (.getfield 36, 3) := by decide +kernel
theorem dX9_tryWay_120 : decode cX9_tryWay 120 = .ok (.iload 8, 2) := by decide +kernel
theorem dX9_tryWay_122 : decode cX9_tryWay 122 = .ok (.iconst 0, 1) := by decide +kernel
theorem dX9_tryWay_123 : decode cX9_tryWay 123 = .ok (.invokevirtual 92, 3) := by decide +kernel
theorem dX9_tryWay_126 : decode cX9_tryWay 126 = .ok (.aload_n 1, 1) := by decide +kernel
theorem dX9_tryWay_127 : decode cX9_tryWay 127 = .ok (.iload 9, 2) := by decide +kernel
theorem dX9_tryWay_129 : decode cX9_tryWay 129 = .ok (.iconst 0, 1) := by decide +kernel
theorem dX9_tryWay_130 : decode cX9_tryWay 130 = .ok (.invokevirtual 101, 3) := by decide +kernel
theorem dX9_tryWay_133 : decode cX9_tryWay 133 = .ok (.imul, 1) := by decide +kernel
theorem dX9_tryWay_134 : decode cX9_tryWay 134 = .ok (.iadd, 1) := by decide +kernel
theorem dX9_tryWay_135 : decode cX9_tryWay 135 = .ok (.istore 6, 2) := by decide +kernel
theorem dX9_tryWay_137 : decode cX9_tryWay 137 = .ok (.iload 7, 2) := by decide +kernel
theorem dX9_tryWay_139 : decode cX9_tryWay 139 = .ok (.aload_n 1, 1) := by decide +kernel
theorem dX9_tryWay_140 : decode cX9_tryWay 140 = .ok (.getfield 36, 3) := by decide +kernel
theorem dX9_tryWay_143 : decode cX9_tryWay 143 = .ok (.iload 8, 2) := by decide +kernel
theorem dX9_tryWay_145 : decode cX9_tryWay 145 = .ok (.iconst 0, 1) := by decide +kernel
theorem dX9_tryWay_146 : decode cX9_tryWay 146 = .ok (.invokevirtual 92, 3) := by decide +kernel
theorem dX9_tryWay_149 : decode cX9_tryWay 149 = .ok (.aload_n 1, 1) := by decide +kernel
theorem dX9_tryWay_150 : decode cX9_tryWay 150 = .ok (.iload 9, 2) := by decide +kernel
theorem dX9_tryWay_152 : decode cX9_tryWay 152 = .ok (.iconst 1, 1) := by decide +kernel
theorem dX9_tryWay_153 : decode cX9_tryWay 153 = .ok (.invokevirtual 101, 3) := by decide +kernel
theorem dX9_tryWay_156 : decode cX9_tryWay 156 = .ok (.imul, 1) := by decide +kernel
theorem dX9_tryWay_157 : decode cX9_tryWay 157 = .ok (.iadd, 1) := by decide +kernel
theorem dX9_tryWay_158 : decode cX9_tryWay 158 = .ok (.istore 7, 2) := by decide +kernel
theorem dX9_tryWay_160 : decode cX9_tryWay 160 = .ok (.iinc 8 1, 3) := by decide +kernel
theorem dX9_tryWay_163 : decode cX9_tryWay 163 = .ok (.goto (-140), 3) := by decide +kernel
theorem dX9_tryWay_166 : decode cX9_tryWay 166 = .ok (.aload_n 0, 1) := by decide +kernel
theorem dX9_tryWay_167 : decode cX9_tryWay 167 = .ok (.getfield 15, 3) := by decide +kernel
theorem dX9_tryWay_170 : decode cX9_tryWay 170 = .ok (.aload_n 1, 1) := by decide +kernel
theorem dX9_tryWay_171 : decode cX9_tryWay 171 = .ok (.iload 7, 2) := by decide +kernel
theorem dX9_tryWay_173 : decode cX9_tryWay 173 = .ok (.invokevirtual 104, 3) := by decide +kernel
theorem dX9_tryWay_176 : decode cX9_tryWay 176 = .ok (.iconst 1, 1) := by decide +kernel
theorem dX9_tryWay_177 : decode cX9_tryWay 177 = .ok (.iadd, 1) := by decide +kernel
theorem dX9_tryWay_178 : decode cX9_tryWay 178 = .ok (.iconst 3, 1) := by decide +kernel
theorem dX9_tryWay_179 : decode cX9_tryWay 179 = .ok (.imul, 1) := by decide +kernel
theorem dX9_tryWay_180 : decode cX9_tryWay 180 = .ok (.aload_n 1, 1) := by decide +kernel
theorem dX9_tryWay_181 : decode cX9_tryWay 181 = .ok (.iload 6, 2) := by decide +kernel
theorem dX9_tryWay_183 : decode cX9_tryWay 183 = .ok (.invokevirtual 104, 3) := by decide +kernel
theorem dX9_tryWay_186 : decode cX9_tryWay 186 = .ok (.iadd, 1) := by decide +kernel
theorem dX9_tryWay_187 : decode cX9_tryWay 187 = .ok (.iconst 1, 1) := by decide +kernel
theorem dX9_tryWay_188 : decode cX9_tryWay 188 = .ok (.iadd, 1) := by decide +kernel
theorem dX9_tryWay_189 : decode cX9_tryWay 189 = .ok (.iaload, 1) := by decide +kernel
theorem dX9_tryWay_190 : decode cX9_tryWay 190 = .ok (.istore 8, 2) := by decide +kernel
theorem dX9_tryWay_192 : decode cX9_tryWay 192 = .ok (.aload_n 0, 1) := by decide +kernel
theorem dX9_tryWay_193 : decode cX9_tryWay 193 = .ok (.aload_n 0, 1) := by decide +kernel
theorem dX9_tryWay_194 : decode cX9_tryWay 194 = .ok (.getfield 53, 3) := by decide +kernel
theorem dX9_tryWay_197 : decode cX9_tryWay 197 = .ok (.iload 8, 2) := by decide +kernel
theorem dX9_tryWay_199 : decode cX9_tryWay 199 = .ok (.invokestatic 107, 3) := by decide +kernel
theorem dX9_tryWay_202 : decode cX9_tryWay 202 = .ok (.putfield 53, 3) := by decide +kernel
theorem dX9_tryWay_205 : decode cX9_tryWay 205 = .ok (.iload 8, 2) := by decide +kernel
theorem dX9_tryWay_207 : decode cX9_tryWay 207 = .ok (.iload_n 3, 1) := by decide +kernel
theorem dX9_tryWay_208 : decode cX9_tryWay 208 = .ok (.if_icmp .ne 16, 3) := by decide +kernel
theorem dX9_tryWay_211 : decode cX9_tryWay 211 = .ok (.aload_n 0, 1) := by decide +kernel
theorem dX9_tryWay_212 : decode cX9_tryWay 212 = .ok (.iload 5, 2) := by decide +kernel
theorem dX9_tryWay_214 : decode cX9_tryWay 214 = .ok (.aload_n 1, 1) := by decide +kernel
theorem dX9_tryWay_215 : decode cX9_tryWay 215 = .ok (.getfield 36, 3) := by decide +kernel
theorem dX9_tryWay_218 : decode cX9_tryWay 218 = .ok (.getfield 42, 3) := by decide +kernel
theorem dX9_tryWay_221 : decode cX9_tryWay 221 = .ok (.invokevirtual 112, 3) := by decide +kernel
theorem dX9_tryWay_224 : decode cX9_tryWay 224 = .ok (.return_, 1) := by decide +kernel
theorem dX9_keepWay_0 : decode cX9_keepWay 0 = .ok (.iload_n 1, 1) := by decide +kernel
theorem dX9_keepWay_1 : decode cX9_keepWay 1 = .ok (.invokestatic 115, 3) := by decide +kernel
theorem dX9_keepWay_4 : decode cX9_keepWay 4 = .ok (.istore_n 3, 1) := by decide +kernel
theorem dX9_keepWay_5 : decode cX9_keepWay 5 = .ok (.aload_n 0, 1) := by decide +kernel
theorem dX9_keepWay_6 : decode cX9_keepWay 6 = .ok (.dup, 1) := by decide +kernel
theorem dX9_keepWay_7 : decode cX9_keepWay 7 = .ok (.getfield 32, 3) := by decide +kernel
theorem dX9_keepWay_10 : decode cX9_keepWay 10 = .ok (.iconst 1, 1) := by decide +kernel
theorem dX9_keepWay_11 : decode cX9_keepWay 11 = .ok (.iadd, 1) := by decide +kernel
theorem dX9_keepWay_12 : decode cX9_keepWay 12 = .ok (.putfield 32, 3) := by decide +kernel
theorem dX9_keepWay_15 : decode cX9_keepWay 15 = .ok (.aload_n 0, 1) := by decide +kernel
theorem dX9_keepWay_16 : decode cX9_keepWay 16 = .ok (.dup, 1) := by decide +kernel
theorem dX9_keepWay_17 : decode cX9_keepWay 17 = .ok (.getfield 47, 3) := by decide +kernel
theorem dX9_keepWay_20 : decode cX9_keepWay 20 = .ok (.iload_n 1, 1) := by decide +kernel
theorem dX9_keepWay_21 : decode cX9_keepWay 21 = .ok (.iand, 1) := by decide +kernel
theorem dX9_keepWay_22 : decode cX9_keepWay 22 = .ok (.putfield 47, 3) := by decide +kernel
theorem dX9_keepWay_25 : decode cX9_keepWay 25 = .ok (.aload_n 0, 1) := by decide +kernel
theorem dX9_keepWay_26 : decode cX9_keepWay 26 = .ok (.aload_n 0, 1) := by decide +kernel
theorem dX9_keepWay_27 : decode cX9_keepWay 27 = .ok (.getfield 50, 3) := by decide +kernel
theorem dX9_keepWay_30 : decode cX9_keepWay 30 = .ok (.iconst (-1), 1) := by decide +kernel
theorem dX9_keepWay_31 : decode cX9_keepWay 31 = .ok (.if_icmp .ne 7, 3) := by decide +kernel
theorem dX9_keepWay_34 : decode cX9_keepWay 34 = .ok (.iload_n 3, 1) := by decide +kernel
theorem dX9_keepWay_35 : decode cX9_keepWay 35 = .ok (.goto 11, 3) := by decide +kernel
theorem dX9_keepWay_38 : decode cX9_keepWay 38 = .ok (.aload_n 0, 1) := by decide +kernel
theorem dX9_keepWay_39 : decode cX9_keepWay 39 = .ok (.getfield 50, 3) := by decide +kernel
theorem dX9_keepWay_42 : decode cX9_keepWay 42 = .ok (.iload_n 3, 1) := by decide +kernel
theorem dX9_keepWay_43 : decode cX9_keepWay 43 = .ok (.invokestatic 120, 3) := by decide +kernel
theorem dX9_keepWay_46 : decode cX9_keepWay 46 = .ok (.putfield 50, 3) := by decide +kernel
theorem dX9_keepWay_49 : decode cX9_keepWay 49 = .ok (.iconst 0, 1) := by decide +kernel
theorem dX9_keepWay_50 : decode cX9_keepWay 50 = .ok (.istore 4, 2) := by decide +kernel
theorem dX9_keepWay_52 : decode cX9_keepWay 52 = .ok (.iload 4, 2) := by decide +kernel
theorem dX9_keepWay_54 : decode cX9_keepWay 54 = .ok (.iload_n 2, 1) := by decide +kernel
theorem dX9_keepWay_55 : decode cX9_keepWay 55 = .ok (.if_icmp .ge 36, 3) := by decide +kernel
theorem dX9_keepWay_58 : decode cX9_keepWay 58 = .ok (.iload 4, 2) := by decide +kernel
theorem dX9_keepWay_60 : decode cX9_keepWay 60 = .ok (.iconst 5, 1) := by decide +kernel
theorem dX9_keepWay_61 : decode cX9_keepWay 61 = .ok (.if_icmp .ge 30, 3) := by decide +kernel
theorem dX9_keepWay_64 : decode cX9_keepWay 64 = .ok (.aload_n 0, 1) := by decide +kernel
theorem dX9_keepWay_65 : decode cX9_keepWay 65 = .ok (.getfield 18, 3) := by decide +kernel
theorem dX9_keepWay_68 : decode cX9_keepWay 68 = .ok (.iload 4, 2) := by decide +kernel
theorem dX9_keepWay_70 : decode cX9_keepWay 70 = .ok (.iconst 5, 1) := by decide +kernel
theorem dX9_keepWay_71 : decode cX9_keepWay 71 = .ok (.imul, 1) := by decide +kernel
theorem dX9_keepWay_72 : decode cX9_keepWay 72 = .ok (.aload_n 0, 1) := by decide +kernel
theorem dX9_keepWay_73 : decode cX9_keepWay 73 = .ok (.getfield 21, 3) := by decide +kernel
theorem dX9_keepWay_76 : decode cX9_keepWay 76 = .ok (.iload 4, 2) := by decide +kernel
theorem dX9_keepWay_78 : decode cX9_keepWay 78 = .ok (.iaload, 1) := by decide +kernel
theorem dX9_keepWay_79 : decode cX9_keepWay 79 = .ok (.iadd, 1) := by decide +kernel
theorem dX9_keepWay_80 : decode cX9_keepWay 80 = .ok (.dup2, 1) := by decide +kernel
theorem dX9_keepWay_81 : decode cX9_keepWay 81 = .ok (.iaload, 1) := by decide +kernel
theorem dX9_keepWay_82 : decode cX9_keepWay 82 = .ok (.iconst 1, 1) := by decide +kernel
theorem dX9_keepWay_83 : decode cX9_keepWay 83 = .ok (.iadd, 1) := by decide +kernel
theorem dX9_keepWay_84 : decode cX9_keepWay 84 = .ok (.iastore, 1) := by decide +kernel
theorem dX9_keepWay_85 : decode cX9_keepWay 85 = .ok (.iinc 4 1, 3) := by decide +kernel
theorem dX9_keepWay_88 : decode cX9_keepWay 88 = .ok (.goto (-36), 3) := by decide +kernel
theorem dX9_keepWay_91 : decode cX9_keepWay 91 = .ok (.return_, 1) := by decide +kernel
theorem dX9_waysAt_0 : decode cX9_waysAt 0 = .ok (.iload_n 1, 1) := by decide +kernel
theorem dX9_waysAt_1 : decode cX9_waysAt 1 = .ok (.ifCond .lt 8, 3) := by decide +kernel
theorem dX9_waysAt_4 : decode cX9_waysAt 4 = .ok (.iload_n 1, 1) := by decide +kernel
theorem dX9_waysAt_5 : decode cX9_waysAt 5 = .ok (.iconst 5, 1) := by decide +kernel
theorem dX9_waysAt_6 : decode cX9_waysAt 6 = .ok (.if_icmp .lt 5, 3) := by decide +kernel
theorem dX9_waysAt_9 : decode cX9_waysAt 9 = .ok (.iconst (-1), 1) := by decide +kernel
theorem dX9_waysAt_10 : decode cX9_waysAt 10 = .ok (.ireturn, 1) := by decide +kernel
theorem dX9_waysAt_11 : decode cX9_waysAt 11 = .ok (.iload_n 2, 1) := by decide +kernel
theorem dX9_waysAt_12 : decode cX9_waysAt 12 = .ok (.iconst (-1), 1) := by decide +kernel
theorem dX9_waysAt_13 : decode cX9_waysAt 13 = .ok (.if_icmp .ne 12, 3) := by decide +kernel
theorem dX9_waysAt_16 : decode cX9_waysAt 16 = .ok (.aload_n 0, 1) := by decide +kernel
theorem dX9_waysAt_17 : decode cX9_waysAt 17 = .ok (.getfield 18, 3) := by decide +kernel
theorem dX9_waysAt_20 : decode cX9_waysAt 20 = .ok (.iload_n 1, 1) := by decide +kernel
theorem dX9_waysAt_21 : decode cX9_waysAt 21 = .ok (.iconst 5, 1) := by decide +kernel
theorem dX9_waysAt_22 : decode cX9_waysAt 22 = .ok (.imul, 1) := by decide +kernel
theorem dX9_waysAt_23 : decode cX9_waysAt 23 = .ok (.iaload, 1) := by decide +kernel
theorem dX9_waysAt_24 : decode cX9_waysAt 24 = .ok (.ireturn, 1) := by decide +kernel
theorem dX9_waysAt_25 : decode cX9_waysAt 25 = .ok (.iconst 0, 1) := by decide +kernel
theorem dX9_waysAt_26 : decode cX9_waysAt 26 = .ok (.istore_n 3, 1) := by decide +kernel
theorem dX9_waysAt_27 : decode cX9_waysAt 27 = .ok (.iload_n 3, 1) := by decide +kernel
theorem dX9_waysAt_28 : decode cX9_waysAt 28 = .ok (.aload_n 0, 1) := by decide +kernel
theorem dX9_waysAt_29 : decode cX9_waysAt 29 = .ok (.getfield 56, 3) := by decide +kernel
theorem dX9_waysAt_32 : decode cX9_waysAt 32 = .ok (.if_icmp .ge 32, 3) := by decide +kernel
theorem dX9_waysAt_35 : decode cX9_waysAt 35 = .ok (.aload_n 0, 1) := by decide +kernel
theorem dX9_waysAt_36 : decode cX9_waysAt 36 = .ok (.getfield 11, 3) := by decide +kernel
theorem dX9_waysAt_39 : decode cX9_waysAt 39 = .ok (.iload_n 3, 1) := by decide +kernel
theorem dX9_waysAt_40 : decode cX9_waysAt 40 = .ok (.iaload, 1) := by decide +kernel
theorem dX9_waysAt_41 : decode cX9_waysAt 41 = .ok (.iload_n 2, 1) := by decide +kernel
theorem dX9_waysAt_42 : decode cX9_waysAt 42 = .ok (.if_icmp .ne 16, 3) := by decide +kernel
theorem dX9_waysAt_45 : decode cX9_waysAt 45 = .ok (.aload_n 0, 1) := by decide +kernel
theorem dX9_waysAt_46 : decode cX9_waysAt 46 = .ok (.getfield 18, 3) := by decide +kernel
theorem dX9_waysAt_49 : decode cX9_waysAt 49 = .ok (.iload_n 1, 1) := by decide +kernel
theorem dX9_waysAt_50 : decode cX9_waysAt 50 = .ok (.iconst 5, 1) := by decide +kernel
theorem dX9_waysAt_51 : decode cX9_waysAt 51 = .ok (.imul, 1) := by decide +kernel
theorem dX9_waysAt_52 : decode cX9_waysAt 52 = .ok (.iload_n 3, 1) := by decide +kernel
theorem dX9_waysAt_53 : decode cX9_waysAt 53 = .ok (.iadd, 1) := by decide +kernel
theorem dX9_waysAt_54 : decode cX9_waysAt 54 = .ok (.iconst 1, 1) := by decide +kernel
theorem dX9_waysAt_55 : decode cX9_waysAt 55 = .ok (.iadd, 1) := by decide +kernel
theorem dX9_waysAt_56 : decode cX9_waysAt 56 = .ok (.iaload, 1) := by decide +kernel
theorem dX9_waysAt_57 : decode cX9_waysAt 57 = .ok (.ireturn, 1) := by decide +kernel
theorem dX9_waysAt_58 : decode cX9_waysAt 58 = .ok (.iinc 3 1, 3) := by decide +kernel
theorem dX9_waysAt_61 : decode cX9_waysAt 61 = .ok (.goto (-34), 3) := by decide +kernel
theorem dX9_waysAt_64 : decode cX9_waysAt 64 = .ok (.iconst (-1), 1) := by decide +kernel
theorem dX9_waysAt_65 : decode cX9_waysAt 65 = .ok (.ireturn, 1) := by decide +kernel
theorem dX11_init_0 : decode cX11_init 0 = .ok (.aload_n 0, 1) := by decide +kernel
theorem dX11_init_1 : decode cX11_init 1 = .ok (.invokespecial 1, 3) := by decide +kernel
theorem dX11_init_4 : decode cX11_init 4 = .ok (.aload_n 0, 1) := by decide +kernel
theorem dX11_init_5 : decode cX11_init 5 = .ok (.new 7, 3) := by decide +kernel
theorem dX11_init_8 : decode cX11_init 8 = .ok (.dup, 1) := by decide +kernel
theorem dX11_init_9 : decode cX11_init 9 = .ok (.invokespecial 9, 3) := by decide +kernel
theorem dX11_init_12 : decode cX11_init 12 = .ok (.putfield 10, 3) := by decide +kernel
theorem dX11_init_15 : decode cX11_init 15 = .ok (.aload_n 0, 1) := by decide +kernel
theorem dX11_init_16 : decode cX11_init 16 = .ok (.iconst 3, 1) := by decide +kernel
theorem dX11_init_17 : decode cX11_init 17 = .ok (.anewarray 7, 3) := by decide +kernel
theorem dX11_init_20 : decode cX11_init 20 = .ok (.putfield 16, 3) := by decide +kernel
theorem dX11_init_23 : decode cX11_init 23 = .ok (.aload_n 0, 1) := by decide +kernel
theorem dX11_init_24 : decode cX11_init 24 = .ok (.iconst 3, 1) := by decide +kernel
theorem dX11_init_25 : decode cX11_init 25 = .ok (.newarray .boolean, 2) := by decide +kernel
theorem dX11_init_27 : decode cX11_init 27 = .ok (.putfield 20, 3) := by decide +kernel
theorem dX11_init_30 : decode cX11_init 30 = .ok (.aload_n 0, 1) := by decide +kernel
theorem dX11_init_31 : decode cX11_init 31 = .ok (.new 24, 3) := by decide +kernel
theorem dX11_init_34 : decode cX11_init 34 = .ok (.dup, 1) := by decide +kernel
theorem dX11_init_35 : decode cX11_init 35 = .ok (.invokespecial 26, 3) := by decide +kernel
theorem dX11_init_38 : decode cX11_init 38 = .ok (.putfield 27, 3) := by decide +kernel
theorem dX11_init_41 : decode cX11_init 41 = .ok (.aload_n 0, 1) := by decide +kernel
theorem dX11_init_42 : decode cX11_init 42 = .ok (.new 31, 3) := by decide +kernel
theorem dX11_init_45 : decode cX11_init 45 = .ok (.dup, 1) := by decide +kernel
theorem dX11_init_46 : decode cX11_init 46 = .ok (.aload_n 0, 1) := by decide +kernel
theorem dX11_init_47 : decode cX11_init 47 = .ok (.getfield 10, 3) := by decide +kernel
theorem dX11_init_50 : decode cX11_init 50 = .ok (.getfield 33, 3) := by decide +kernel
theorem dX11_init_53 : decode cX11_init 53 = .ok (.iconst 0, 1) := by decide +kernel
theorem dX11_init_54 : decode cX11_init 54 = .ok (.aaload, 1) := by decide +kernel
theorem dX11_init_55 : decode cX11_init 55 = .ok (.invokespecial 37, 3) := by decide +kernel
theorem dX11_init_58 : decode cX11_init 58 = .ok (.putfield 40, 3) := by decide +kernel
theorem dX11_init_61 : decode cX11_init 61 = .ok (.aload_n 0, 1) := by decide +kernel
theorem dX11_init_62 : decode cX11_init 62 = .ok (.new 31, 3) := by decide +kernel
theorem dX11_init_65 : decode cX11_init 65 = .ok (.dup, 1) := by decide +kernel
theorem dX11_init_66 : decode cX11_init 66 = .ok (.aload_n 0, 1) := by decide +kernel
theorem dX11_init_67 : decode cX11_init 67 = .ok (.getfield 10, 3) := by decide +kernel
theorem dX11_init_70 : decode cX11_init 70 = .ok (.getfield 33, 3) := by decide +kernel
theorem dX11_init_73 : decode cX11_init 73 = .ok (.iconst 0, 1) := by decide +kernel
theorem dX11_init_74 : decode cX11_init 74 = .ok (.aaload, 1) := by decide +kernel
theorem dX11_init_75 : decode cX11_init 75 = .ok (.invokespecial 37, 3) := by decide +kernel
theorem dX11_init_78 : decode cX11_init 78 = .ok (.putfield 44, 3) := by decide +kernel
theorem dX11_init_81 : decode cX11_init 81 = .ok (.aload_n 0, 1) := by decide +kernel
theorem dX11_init_82 : decode cX11_init 82 = .ok (.new 47, 3) := by decide +kernel
theorem dX11_init_85 : decode cX11_init 85 = .ok (.dup, 1) := by decide +kernel
theorem dX11_init_86 : decode cX11_init 86 = .ok (.aload_n 0, 1) := by decide +kernel
theorem dX11_init_87 : decode cX11_init 87 = .ok (.getfield 10, 3) := by decide +kernel
theorem dX11_init_90 : decode cX11_init 90 = .ok (.getfield 33, 3) := by decide +kernel
theorem dX11_init_93 : decode cX11_init 93 = .ok (.iconst 0, 1) := by decide +kernel
theorem dX11_init_94 : decode cX11_init 94 = .ok (.aaload, 1) := by decide +kernel
theorem dX11_init_95 : decode cX11_init 95 = .ok (.invokespecial 49, 3) := by decide +kernel
theorem dX11_init_98 : decode cX11_init 98 = .ok (.putfield 50, 3) := by decide +kernel
theorem dX11_init_101 : decode cX11_init 101 = .ok (.aload_n 0, 1) := by decide +kernel
theorem dX11_init_102 : decode cX11_init 102 = .ok (.new 54, 3) := by decide +kernel
theorem dX11_init_105 : decode cX11_init 105 = .ok (.dup, 1) := by decide +kernel
theorem dX11_init_106 : decode cX11_init 106 = .ok (.invokespecial 56, 3) := by decide +kernel
theorem dX11_init_109 : decode cX11_init 109 = .ok (.putfield 57, 3) := by decide +kernel
theorem dX11_init_112 : decode cX11_init 112 = .ok (.aload_n 0, 1) := by decide +kernel
theorem dX11_init_113 : decode cX11_init 113 = .ok (.new 61, 3) := by decide +kernel
theorem dX11_init_116 : decode cX11_init 116 = .ok (.dup, 1) := by decide +kernel
theorem dX11_init_117 : decode cX11_init 117 = .ok (.invokespecial 63, 3) := by decide +kernel
theorem dX11_init_120 : decode cX11_init 120 = .ok (.putfield 64, 3) := by decide +kernel
theorem dX11_init_123 : decode cX11_init 123 = .ok (.aload_n 0, 1) := by decide +kernel
theorem dX11_init_124 : decode cX11_init 124 = .ok (.new 68, 3) := by decide +kernel
theorem dX11_init_127 : decode cX11_init 127 = .ok (.dup, 1) := by decide +kernel
theorem dX11_init_128 : decode cX11_init 128 = .ok (.invokespecial 70, 3) := by decide +kernel
theorem dX11_init_131 : decode cX11_init 131 = .ok (.putfield 71, 3) := by decide +kernel
theorem dX11_init_134 : decode cX11_init 134 = .ok (.aload_n 0, 1) := by decide +kernel
theorem dX11_init_135 : decode cX11_init 135 = .ok (.new 75, 3) := by decide +kernel
theorem dX11_init_138 : decode cX11_init 138 = .ok (.dup, 1) := by decide +kernel
theorem dX11_init_139 : decode cX11_init 139 = .ok (.invokespecial 77, 3) := by decide +kernel
theorem dX11_init_142 : decode cX11_init 142 = .ok (.putfield 78, 3) := by decide +kernel
theorem dX11_init_145 : decode cX11_init 145 = .ok (.iconst 0, 1) := by decide +kernel
theorem dX11_init_146 : decode cX11_init 146 = .ok (.istore_n 1, 1) := by decide +kernel
theorem dX11_init_147 : decode cX11_init 147 = .ok (.iload_n 1, 1) := by decide +kernel
theorem dX11_init_148 : decode cX11_init 148 = .ok (.iconst 3, 1) := by decide +kernel
theorem dX11_init_149 : decode cX11_init 149 = .ok (.if_icmp .ge 22, 3) := by decide +kernel
theorem dX11_init_152 : decode cX11_init 152 = .ok (.aload_n 0, 1) := by decide +kernel
theorem dX11_init_153 : decode cX11_init 153 = .ok (.getfield 16, 3) := by decide +kernel
theorem dX11_init_156 : decode cX11_init 156 = .ok (.iload_n 1, 1) := by decide +kernel
theorem dX11_init_157 : decode cX11_init 157 = .ok (.new 7, 3) := by decide +kernel
theorem dX11_init_160 : decode cX11_init 160 = .ok (.dup, 1) := by decide +kernel
theorem dX11_init_161 : decode cX11_init 161 = .ok (.invokespecial 9, 3) := by decide +kernel
theorem dX11_init_164 : decode cX11_init 164 = .ok (.aastore, 1) := by decide +kernel
theorem dX11_init_165 : decode cX11_init 165 = .ok (.iinc 1 1, 3) := by decide +kernel
theorem dX11_init_168 : decode cX11_init 168 = .ok (.goto (-21), 3) := by decide +kernel
theorem dX11_init_171 : decode cX11_init 171 = .ok (.return_, 1) := by decide +kernel
theorem dX11_feed_0 : decode cX11_feed 0 = .ok (.aload_n 0, 1) := by decide +kernel
theorem dX11_feed_1 : decode cX11_feed 1 = .ok (.getfield 10, 3) := by decide +kernel
theorem dX11_feed_4 : decode cX11_feed 4 = .ok (.getfield 82, 3) := by decide +kernel
theorem dX11_feed_7 : decode cX11_feed 7 = .ok (.bipush 20, 2) := by decide +kernel
theorem dX11_feed_9 : decode cX11_feed 9 = .ok (.iadd, 1) := by decide +kernel
theorem dX11_feed_10 : decode cX11_feed 10 = .ok (.sipush 600, 3) := by decide +kernel
theorem dX11_feed_13 : decode cX11_feed 13 = .ok (.if_icmp .le 5, 3) := by decide +kernel
theorem dX11_feed_16 : decode cX11_feed 16 = .ok (.iconst (-1), 1) := by decide +kernel
theorem dX11_feed_17 : decode cX11_feed 17 = .ok (.ireturn, 1) := by decide +kernel
theorem dX11_feed_18 : decode cX11_feed 18 = .ok (.aload_n 0, 1) := by decide +kernel
theorem dX11_feed_19 : decode cX11_feed 19 = .ok (.getfield 10, 3) := by decide +kernel
theorem dX11_feed_22 : decode cX11_feed 22 = .ok (.iload_n 1, 1) := by decide +kernel
theorem dX11_feed_23 : decode cX11_feed 23 = .ok (.invokevirtual 86, 3) := by decide +kernel
theorem dX11_feed_26 : decode cX11_feed 26 = .ok (.aload_n 0, 1) := by decide +kernel
theorem dX11_feed_27 : decode cX11_feed 27 = .ok (.getfield 10, 3) := by decide +kernel
theorem dX11_feed_30 : decode cX11_feed 30 = .ok (.iload_n 2, 1) := by decide +kernel
theorem dX11_feed_31 : decode cX11_feed 31 = .ok (.invokevirtual 86, 3) := by decide +kernel
theorem dX11_feed_34 : decode cX11_feed 34 = .ok (.aload_n 0, 1) := by decide +kernel
theorem dX11_feed_35 : decode cX11_feed 35 = .ok (.getfield 10, 3) := by decide +kernel
theorem dX11_feed_38 : decode cX11_feed 38 = .ok (.iload_n 3, 1) := by decide +kernel
theorem dX11_feed_39 : decode cX11_feed 39 = .ok (.invokevirtual 86, 3) := by decide +kernel
theorem dX11_feed_42 : decode cX11_feed 42 = .ok (.aload_n 0, 1) := by decide +kernel
theorem dX11_feed_43 : decode cX11_feed 43 = .ok (.getfield 10, 3) := by decide +kernel
theorem dX11_feed_46 : decode cX11_feed 46 = .ok (.iload 4, 2) := by decide +kernel
theorem dX11_feed_48 : decode cX11_feed 48 = .ok (.invokevirtual 86, 3) := by decide +kernel
theorem dX11_feed_51 : decode cX11_feed 51 = .ok (.aload_n 0, 1) := by decide +kernel
theorem dX11_feed_52 : decode cX11_feed 52 = .ok (.getfield 10, 3) := by decide +kernel
theorem dX11_feed_55 : decode cX11_feed 55 = .ok (.iload 5, 2) := by decide +kernel
theorem dX11_feed_57 : decode cX11_feed 57 = .ok (.invokevirtual 86, 3) := by decide +kernel
theorem dX11_feed_60 : decode cX11_feed 60 = .ok (.aload_n 0, 1) := by decide +kernel
theorem dX11_feed_61 : decode cX11_feed 61 = .ok (.getfield 10, 3) := by decide +kernel
theorem dX11_feed_64 : decode cX11_feed 64 = .ok (.getfield 82, 3) := by decide +kernel
theorem dX11_feed_67 : decode cX11_feed 67 = .ok (.ireturn, 1) := by decide +kernel
theorem dX11_end_0 : decode cX11_end 0 = .ok (.iload_n 1, 1) := by decide +kernel
theorem dX11_end_1 : decode cX11_end 1 = .ok (.ifCond .lt 14, 3) := by decide +kernel
theorem dX11_end_4 : decode cX11_end 4 = .ok (.iload_n 1, 1) := by decide +kernel
theorem dX11_end_5 : decode cX11_end 5 = .ok (.aload_n 0, 1) := by decide +kernel
theorem dX11_end_6 : decode cX11_end 6 = .ok (.getfield 10, 3) := by decide +kernel
theorem dX11_end_9 : decode cX11_end 9 = .ok (.getfield 82, 3) := by decide +kernel
theorem dX11_end_12 : decode cX11_end 12 = .ok (.if_icmp .le 5, 3) := by decide +kernel
theorem dX11_end_15 : decode cX11_end 15 = .ok (.iconst (-1), 1) := by decide +kernel
theorem dX11_end_16 : decode cX11_end 16 = .ok (.ireturn, 1) := by decide +kernel
theorem dX11_end_17 : decode cX11_end 17 = .ok (.aload_n 0, 1) := by decide +kernel
theorem dX11_end_18 : decode cX11_end 18 = .ok (.getfield 10, 3) := by decide +kernel
theorem dX11_end_21 : decode cX11_end 21 = .ok (.iload_n 1, 1) := by decide +kernel
theorem dX11_end_22 : decode cX11_end 22 = .ok (.putfield 82, 3) := by decide +kernel
theorem dX11_end_25 : decode cX11_end 25 = .ok (.iload_n 1, 1) := by decide +kernel
theorem dX11_end_26 : decode cX11_end 26 = .ok (.ireturn, 1) := by decide +kernel
theorem dX11_text_0 : decode cX11_text 0 = .ok (.aload_n 0, 1) := by decide +kernel
theorem dX11_text_1 : decode cX11_text 1 = .ok (.getfield 10, 3) := by decide +kernel
theorem dX11_text_4 : decode cX11_text 4 = .ok (.iload_n 1, 1) := by decide +kernel
theorem dX11_text_5 : decode cX11_text 5 = .ok (.iload_n 2, 1) := by decide +kernel
theorem dX11_text_6 : decode cX11_text 6 = .ok (.invokevirtual 90, 3) := by decide +kernel
theorem dX11_text_9 : decode cX11_text 9 = .ok (.istore_n 3, 1) := by decide +kernel
theorem dX11_text_10 : decode cX11_text 10 = .ok (.iload_n 3, 1) := by decide +kernel
theorem dX11_text_11 : decode cX11_text 11 = .ok (.iconst (-1), 1) := by decide +kernel
theorem dX11_text_12 : decode cX11_text 12 = .ok (.if_icmp .ne 30, 3) := by decide +kernel
theorem dX11_text_15 : decode cX11_text 15 = .ok (.aload_n 0, 1) := by decide +kernel
theorem dX11_text_16 : decode cX11_text 16 = .ok (.getfield 10, 3) := by decide +kernel
theorem dX11_text_19 : decode cX11_text 19 = .ok (.iconst 0, 1) := by decide +kernel
theorem dX11_text_20 : decode cX11_text 20 = .ok (.putfield 82, 3) := by decide +kernel
theorem dX11_text_23 : decode cX11_text 23 = .ok (.aload_n 0, 1) := by decide +kernel
theorem dX11_text_24 : decode cX11_text 24 = .ok (.getfield 10, 3) := by decide +kernel
theorem dX11_text_27 : decode cX11_text 27 = .ok (.iconst 0, 1) := by decide +kernel
theorem dX11_text_28 : decode cX11_text 28 = .ok (.putfield 94, 3) := by decide +kernel
theorem dX11_text_31 : decode cX11_text 31 = .ok (.aload_n 0, 1) := by decide +kernel
theorem dX11_text_32 : decode cX11_text 32 = .ok (.getfield 10, 3) := by decide +kernel
theorem dX11_text_35 : decode cX11_text 35 = .ok (.iconst (-1), 1) := by decide +kernel
theorem dX11_text_36 : decode cX11_text 36 = .ok (.putfield 97, 3) := by decide +kernel
theorem dX11_text_39 : decode cX11_text 39 = .ok (.bipush (-2), 2) := by decide +kernel
theorem dX11_text_41 : decode cX11_text 41 = .ok (.ireturn, 1) := by decide +kernel
theorem dX11_text_42 : decode cX11_text 42 = .ok (.aload_n 0, 1) := by decide +kernel
theorem dX11_text_43 : decode cX11_text 43 = .ok (.getfield 27, 3) := by decide +kernel
theorem dX11_text_46 : decode cX11_text 46 = .ok (.aload_n 0, 1) := by decide +kernel
theorem dX11_text_47 : decode cX11_text 47 = .ok (.getfield 10, 3) := by decide +kernel
theorem dX11_text_50 : decode cX11_text 50 = .ok (.getfield 100, 3) := by decide +kernel
theorem dX11_text_53 : decode cX11_text 53 = .ok (.aload_n 0, 1) := by decide +kernel
theorem dX11_text_54 : decode cX11_text 54 = .ok (.getfield 10, 3) := by decide +kernel
theorem dX11_text_57 : decode cX11_text 57 = .ok (.getfield 82, 3) := by decide +kernel
theorem dX11_text_60 : decode cX11_text 60 = .ok (.iload_n 1, 1) := by decide +kernel
theorem dX11_text_61 : decode cX11_text 61 = .ok (.invokevirtual 104, 3) := by decide +kernel
theorem dX11_text_64 : decode cX11_text 64 = .ok (.aload_n 0, 1) := by decide +kernel
theorem dX11_text_65 : decode cX11_text 65 = .ok (.getfield 10, 3) := by decide +kernel
theorem dX11_text_68 : decode cX11_text 68 = .ok (.iconst 0, 1) := by decide +kernel
theorem dX11_text_69 : decode cX11_text 69 = .ok (.putfield 82, 3) := by decide +kernel
theorem dX11_text_72 : decode cX11_text 72 = .ok (.aload_n 0, 1) := by decide +kernel
theorem dX11_text_73 : decode cX11_text 73 = .ok (.getfield 10, 3) := by decide +kernel
theorem dX11_text_76 : decode cX11_text 76 = .ok (.aload_n 0, 1) := by decide +kernel
theorem dX11_text_77 : decode cX11_text 77 = .ok (.getfield 27, 3) := by decide +kernel
theorem dX11_text_80 : decode cX11_text 80 = .ok (.getfield 108, 3) := by decide +kernel
theorem dX11_text_83 : decode cX11_text 83 = .ok (.putfield 94, 3) := by decide +kernel
theorem dX11_text_86 : decode cX11_text 86 = .ok (.aload_n 0, 1) := by decide +kernel
theorem dX11_text_87 : decode cX11_text 87 = .ok (.getfield 10, 3) := by decide +kernel
theorem dX11_text_90 : decode cX11_text 90 = .ok (.aload_n 0, 1) := by decide +kernel
theorem dX11_text_91 : decode cX11_text 91 = .ok (.getfield 27, 3) := by decide +kernel
theorem dX11_text_94 : decode cX11_text 94 = .ok (.getfield 109, 3) := by decide +kernel
theorem dX11_text_97 : decode cX11_text 97 = .ok (.putfield 97, 3) := by decide +kernel
theorem dX11_text_100 : decode cX11_text 100 = .ok (.aload_n 0, 1) := by decide +kernel
theorem dX11_text_101 : decode cX11_text 101 = .ok (.getfield 27, 3) := by decide +kernel
theorem dX11_text_104 : decode cX11_text 104 = .ok (.getfield 108, 3) := by decide +kernel
theorem dX11_text_107 : decode cX11_text 107 = .ok (.ifCond .eq 5, 3) := by decide +kernel
theorem dX11_text_110 : decode cX11_text 110 = .ok (.iconst (-1), 1) := by decide +kernel
theorem dX11_text_111 : decode cX11_text 111 = .ok (.ireturn, 1) := by decide +kernel
theorem dX11_text_112 : decode cX11_text 112 = .ok (.aload_n 0, 1) := by decide +kernel
theorem dX11_text_113 : decode cX11_text 113 = .ok (.getfield 10, 3) := by decide +kernel
theorem dX11_text_116 : decode cX11_text 116 = .ok (.iload_n 1, 1) := by decide +kernel
theorem dX11_text_117 : decode cX11_text 117 = .ok (.iload_n 3, 1) := by decide +kernel
theorem dX11_text_118 : decode cX11_text 118 = .ok (.aload_n 0, 1) := by decide +kernel
theorem dX11_text_119 : decode cX11_text 119 = .ok (.getfield 27, 3) := by decide +kernel
theorem dX11_text_122 : decode cX11_text 122 = .ok (.invokevirtual 110, 3) := by decide +kernel
theorem dX11_text_125 : decode cX11_text 125 = .ok (.iload_n 3, 1) := by decide +kernel
theorem dX11_text_126 : decode cX11_text 126 = .ok (.ireturn, 1) := by decide +kernel
theorem dX11_fault_0 : decode cX11_fault 0 = .ok (.iload_n 1, 1) := by decide +kernel
theorem dX11_fault_1 : decode cX11_fault 1 = .ok (.ifCond .ne 11, 3) := by decide +kernel
theorem dX11_fault_4 : decode cX11_fault 4 = .ok (.aload_n 0, 1) := by decide +kernel
theorem dX11_fault_5 : decode cX11_fault 5 = .ok (.getfield 10, 3) := by decide +kernel
theorem dX11_fault_8 : decode cX11_fault 8 = .ok (.getfield 94, 3) := by decide +kernel
theorem dX11_fault_11 : decode cX11_fault 11 = .ok (.ireturn, 1) := by decide +kernel
theorem dX11_fault_12 : decode cX11_fault 12 = .ok (.iload_n 1, 1) := by decide +kernel
theorem dX11_fault_13 : decode cX11_fault 13 = .ok (.iconst 1, 1) := by decide +kernel
theorem dX11_fault_14 : decode cX11_fault 14 = .ok (.if_icmp .ne 13, 3) := by decide +kernel
theorem dX11_fault_17 : decode cX11_fault 17 = .ok (.aload_n 0, 1) := by decide +kernel
theorem dX11_fault_18 : decode cX11_fault 18 = .ok (.getfield 10, 3) := by decide +kernel
theorem dX11_fault_21 : decode cX11_fault 21 = .ok (.getfield 97, 3) := by decide +kernel
theorem dX11_fault_24 : decode cX11_fault 24 = .ok (.goto 4, 3) := by decide +kernel
theorem dX11_fault_27 : decode cX11_fault 27 = .ok (.iconst (-1), 1) := by decide +kernel
theorem dX11_fault_28 : decode cX11_fault 28 = .ok (.ireturn, 1) := by decide +kernel
theorem dX11_lake_0 : decode cX11_lake 0 = .ok (.aload_n 0, 1) := by decide +kernel
theorem dX11_lake_1 : decode cX11_lake 1 = .ok (.getfield 10, 3) := by decide +kernel
theorem dX11_lake_4 : decode cX11_lake 4 = .ok (.iload_n 1, 1) := by decide +kernel
theorem dX11_lake_5 : decode cX11_lake 5 = .ok (.invokevirtual 114, 3) := by decide +kernel
theorem dX11_lake_8 : decode cX11_lake 8 = .ok (.astore_n 3, 1) := by decide +kernel
theorem dX11_lake_9 : decode cX11_lake 9 = .ok (.aload_n 3, 1) := by decide +kernel
theorem dX11_lake_10 : decode cX11_lake 10 = .ok (.ifnonnull 7, 3) := by decide +kernel
theorem dX11_lake_13 : decode cX11_lake 13 = .ok (.iconst (-1), 1) := by decide +kernel
theorem dX11_lake_14 : decode cX11_lake 14 = .ok (.goto 8, 3) := by decide +kernel
theorem dX11_lake_17 : decode cX11_lake 17 = .ok (.aload_n 3, 1) := by decide +kernel
theorem dX11_lake_18 : decode cX11_lake 18 = .ok (.iload_n 2, 1) := by decide +kernel
theorem dX11_lake_19 : decode cX11_lake 19 = .ok (.invokevirtual 118, 3) := by decide +kernel
theorem dX11_lake_22 : decode cX11_lake 22 = .ok (.ireturn, 1) := by decide +kernel
theorem dX11_deed_0 : decode cX11_deed 0 = .ok (.aload_n 0, 1) := by decide +kernel
theorem dX11_deed_1 : decode cX11_deed 1 = .ok (.getfield 10, 3) := by decide +kernel
theorem dX11_deed_4 : decode cX11_deed 4 = .ok (.iconst 1, 1) := by decide +kernel
theorem dX11_deed_5 : decode cX11_deed 5 = .ok (.iload_n 1, 1) := by decide +kernel
theorem dX11_deed_6 : decode cX11_deed 6 = .ok (.invokevirtual 124, 3) := by decide +kernel
theorem dX11_deed_9 : decode cX11_deed 9 = .ok (.iload_n 2, 1) := by decide +kernel
theorem dX11_deed_10 : decode cX11_deed 10 = .ok (.iload_n 3, 1) := by decide +kernel
theorem dX11_deed_11 : decode cX11_deed 11 = .ok (.iconst 2, 1) := by decide +kernel
theorem dX11_deed_12 : decode cX11_deed 12 = .ok (.invokestatic 128, 3) := by decide +kernel
theorem dX11_deed_15 : decode cX11_deed 15 = .ok (.ireturn, 1) := by decide +kernel
theorem dX11_sight_0 : decode cX11_sight 0 = .ok (.aload_n 0, 1) := by decide +kernel
theorem dX11_sight_1 : decode cX11_sight 1 = .ok (.getfield 10, 3) := by decide +kernel
theorem dX11_sight_4 : decode cX11_sight 4 = .ok (.iconst 2, 1) := by decide +kernel
theorem dX11_sight_5 : decode cX11_sight 5 = .ok (.iload_n 1, 1) := by decide +kernel
theorem dX11_sight_6 : decode cX11_sight 6 = .ok (.invokevirtual 124, 3) := by decide +kernel
theorem dX11_sight_9 : decode cX11_sight 9 = .ok (.iload_n 2, 1) := by decide +kernel
theorem dX11_sight_10 : decode cX11_sight 10 = .ok (.iload_n 3, 1) := by decide +kernel
theorem dX11_sight_11 : decode cX11_sight 11 = .ok (.iconst 1, 1) := by decide +kernel
theorem dX11_sight_12 : decode cX11_sight 12 = .ok (.invokestatic 128, 3) := by decide +kernel
theorem dX11_sight_15 : decode cX11_sight 15 = .ok (.ireturn, 1) := by decide +kernel
theorem dX11_dead_0 : decode cX11_dead 0 = .ok (.aload_n 0, 1) := by decide +kernel
theorem dX11_dead_1 : decode cX11_dead 1 = .ok (.getfield 10, 3) := by decide +kernel
theorem dX11_dead_4 : decode cX11_dead 4 = .ok (.iconst 3, 1) := by decide +kernel
theorem dX11_dead_5 : decode cX11_dead 5 = .ok (.iload_n 1, 1) := by decide +kernel
theorem dX11_dead_6 : decode cX11_dead 6 = .ok (.invokevirtual 124, 3) := by decide +kernel
theorem dX11_dead_9 : decode cX11_dead 9 = .ok (.iload_n 2, 1) := by decide +kernel
theorem dX11_dead_10 : decode cX11_dead 10 = .ok (.iconst 0, 1) := by decide +kernel
theorem dX11_dead_11 : decode cX11_dead 11 = .ok (.iconst 0, 1) := by decide +kernel
theorem dX11_dead_12 : decode cX11_dead 12 = .ok (.invokestatic 128, 3) := by decide +kernel
theorem dX11_dead_15 : decode cX11_dead 15 = .ok (.ireturn, 1) := by decide +kernel
theorem dX11_term_0 : decode cX11_term 0 = .ok (.aload_n 0, 1) := by decide +kernel
theorem dX11_term_1 : decode cX11_term 1 = .ok (.getfield 10, 3) := by decide +kernel
theorem dX11_term_4 : decode cX11_term 4 = .ok (.iconst 4, 1) := by decide +kernel
theorem dX11_term_5 : decode cX11_term 5 = .ok (.iload_n 1, 1) := by decide +kernel
theorem dX11_term_6 : decode cX11_term 6 = .ok (.invokevirtual 124, 3) := by decide +kernel
theorem dX11_term_9 : decode cX11_term 9 = .ok (.iload_n 2, 1) := by decide +kernel
theorem dX11_term_10 : decode cX11_term 10 = .ok (.iload_n 3, 1) := by decide +kernel
theorem dX11_term_11 : decode cX11_term 11 = .ok (.iconst 2, 1) := by decide +kernel
theorem dX11_term_12 : decode cX11_term 12 = .ok (.invokestatic 128, 3) := by decide +kernel
theorem dX11_term_15 : decode cX11_term 15 = .ok (.ireturn, 1) := by decide +kernel
theorem dX11_rowOf_0 : decode cX11_rowOf 0 = .ok (.aload_n 0, 1) := by decide +kernel
theorem dX11_rowOf_1 : decode cX11_rowOf 1 = .ok (.ifnull 12, 3) := by decide +kernel
theorem dX11_rowOf_4 : decode cX11_rowOf 4 = .ok (.iload_n 2, 1) := by decide +kernel
theorem dX11_rowOf_5 : decode cX11_rowOf 5 = .ok (.ifCond .lt 8, 3) := by decide +kernel
theorem dX11_rowOf_8 : decode cX11_rowOf 8 = .ok (.iload_n 2, 1) := by decide +kernel
theorem dX11_rowOf_9 : decode cX11_rowOf 9 = .ok (.iload_n 3, 1) := by decide +kernel
theorem dX11_rowOf_10 : decode cX11_rowOf 10 = .ok (.if_icmp .le 6, 3) := by decide +kernel
theorem dX11_rowOf_13 : decode cX11_rowOf 13 = .ok (.bipush (-2), 2) := by decide +kernel
theorem dX11_rowOf_15 : decode cX11_rowOf 15 = .ok (.ireturn, 1) := by decide +kernel
theorem dX11_rowOf_16 : decode cX11_rowOf 16 = .ok (.iload_n 1, 1) := by decide +kernel
theorem dX11_rowOf_17 : decode cX11_rowOf 17 = .ok (.iconst (-1), 1) := by decide +kernel
theorem dX11_rowOf_18 : decode cX11_rowOf 18 = .ok (.if_icmp .ne 17, 3) := by decide +kernel
theorem dX11_rowOf_21 : decode cX11_rowOf 21 = .ok (.iload_n 2, 1) := by decide +kernel
theorem dX11_rowOf_22 : decode cX11_rowOf 22 = .ok (.ifCond .ne 10, 3) := by decide +kernel
theorem dX11_rowOf_25 : decode cX11_rowOf 25 = .ok (.aload_n 0, 1) := by decide +kernel
theorem dX11_rowOf_26 : decode cX11_rowOf 26 = .ok (.getfield 132, 3) := by decide +kernel
theorem dX11_rowOf_29 : decode cX11_rowOf 29 = .ok (.goto 5, 3) := by decide +kernel
theorem dX11_rowOf_32 : decode cX11_rowOf 32 = .ok (.bipush (-2), 2) := by decide +kernel
theorem dX11_rowOf_34 : decode cX11_rowOf 34 = .ok (.ireturn, 1) := by decide +kernel
theorem dX11_rowOf_35 : decode cX11_rowOf 35 = .ok (.aload_n 0, 1) := by decide +kernel
theorem dX11_rowOf_36 : decode cX11_rowOf 36 = .ok (.iload_n 1, 1) := by decide +kernel
theorem dX11_rowOf_37 : decode cX11_rowOf 37 = .ok (.invokevirtual 137, 3) := by decide +kernel
theorem dX11_rowOf_40 : decode cX11_rowOf 40 = .ok (.ifCond .eq 12, 3) := by decide +kernel
theorem dX11_rowOf_43 : decode cX11_rowOf 43 = .ok (.aload_n 0, 1) := by decide +kernel
theorem dX11_rowOf_44 : decode cX11_rowOf 44 = .ok (.iload_n 1, 1) := by decide +kernel
theorem dX11_rowOf_45 : decode cX11_rowOf 45 = .ok (.iload_n 2, 1) := by decide +kernel
theorem dX11_rowOf_46 : decode cX11_rowOf 46 = .ok (.invokevirtual 141, 3) := by decide +kernel
theorem dX11_rowOf_49 : decode cX11_rowOf 49 = .ok (.goto 5, 3) := by decide +kernel
theorem dX11_rowOf_52 : decode cX11_rowOf 52 = .ok (.bipush (-2), 2) := by decide +kernel
theorem dX11_rowOf_54 : decode cX11_rowOf 54 = .ok (.ireturn, 1) := by decide +kernel
theorem dX11_count_0 : decode cX11_count 0 = .ok (.iload_n 1, 1) := by decide +kernel
theorem dX11_count_1 : decode cX11_count 1 = .ok (.ifCond .lt 20, 3) := by decide +kernel
theorem dX11_count_4 : decode cX11_count 4 = .ok (.iload_n 1, 1) := by decide +kernel
theorem dX11_count_5 : decode cX11_count 5 = .ok (.iconst 5, 1) := by decide +kernel
theorem dX11_count_6 : decode cX11_count 6 = .ok (.if_icmp .ge 15, 3) := by decide +kernel
theorem dX11_count_9 : decode cX11_count 9 = .ok (.aload_n 0, 1) := by decide +kernel
theorem dX11_count_10 : decode cX11_count 10 = .ok (.getfield 10, 3) := by decide +kernel
theorem dX11_count_13 : decode cX11_count 13 = .ok (.getfield 144, 3) := by decide +kernel
theorem dX11_count_16 : decode cX11_count 16 = .ok (.iload_n 1, 1) := by decide +kernel
theorem dX11_count_17 : decode cX11_count 17 = .ok (.iaload, 1) := by decide +kernel
theorem dX11_count_18 : decode cX11_count 18 = .ok (.goto 5, 3) := by decide +kernel
theorem dX11_count_21 : decode cX11_count 21 = .ok (.bipush (-2), 2) := by decide +kernel
theorem dX11_count_23 : decode cX11_count 23 = .ok (.ireturn, 1) := by decide +kernel
theorem dX11_image_0 : decode cX11_image 0 = .ok (.iload_n 1, 1) := by decide +kernel
theorem dX11_image_1 : decode cX11_image 1 = .ok (.ifCond .lt 8, 3) := by decide +kernel
theorem dX11_image_4 : decode cX11_image 4 = .ok (.iload_n 1, 1) := by decide +kernel
theorem dX11_image_5 : decode cX11_image 5 = .ok (.iconst 3, 1) := by decide +kernel
theorem dX11_image_6 : decode cX11_image 6 = .ok (.if_icmp .lt 5, 3) := by decide +kernel
theorem dX11_image_9 : decode cX11_image 9 = .ok (.iconst 0, 1) := by decide +kernel
theorem dX11_image_10 : decode cX11_image 10 = .ok (.ireturn, 1) := by decide +kernel
theorem dX11_image_11 : decode cX11_image 11 = .ok (.aload_n 0, 1) := by decide +kernel
theorem dX11_image_12 : decode cX11_image 12 = .ok (.getfield 16, 3) := by decide +kernel
theorem dX11_image_15 : decode cX11_image 15 = .ok (.iload_n 1, 1) := by decide +kernel
theorem dX11_image_16 : decode cX11_image 16 = .ok (.aaload, 1) := by decide +kernel
theorem dX11_image_17 : decode cX11_image 17 = .ok (.aload_n 0, 1) := by decide +kernel
theorem dX11_image_18 : decode cX11_image 18 = .ok (.getfield 10, 3) := by decide +kernel
theorem dX11_image_21 : decode cX11_image 21 = .ok (.invokevirtual 147, 3) := by decide +kernel
theorem dX11_image_24 : decode cX11_image 24 = .ok (.aload_n 0, 1) := by decide +kernel
theorem dX11_image_25 : decode cX11_image 25 = .ok (.getfield 20, 3) := by decide +kernel
theorem dX11_image_28 : decode cX11_image 28 = .ok (.iload_n 1, 1) := by decide +kernel
theorem dX11_image_29 : decode cX11_image 29 = .ok (.iconst 1, 1) := by decide +kernel
theorem dX11_image_30 : decode cX11_image 30 = .ok (.bastore, 1) := by decide +kernel
theorem dX11_image_31 : decode cX11_image 31 = .ok (.iconst 1, 1) := by decide +kernel
theorem dX11_image_32 : decode cX11_image 32 = .ok (.ireturn, 1) := by decide +kernel
theorem dX11_again_0 : decode cX11_again 0 = .ok (.iload_n 1, 1) := by decide +kernel
theorem dX11_again_1 : decode cX11_again 1 = .ok (.ifCond .lt 17, 3) := by decide +kernel
theorem dX11_again_4 : decode cX11_again 4 = .ok (.iload_n 1, 1) := by decide +kernel
theorem dX11_again_5 : decode cX11_again 5 = .ok (.iconst 3, 1) := by decide +kernel
theorem dX11_again_6 : decode cX11_again 6 = .ok (.if_icmp .ge 12, 3) := by decide +kernel
theorem dX11_again_9 : decode cX11_again 9 = .ok (.aload_n 0, 1) := by decide +kernel
theorem dX11_again_10 : decode cX11_again 10 = .ok (.getfield 20, 3) := by decide +kernel
theorem dX11_again_13 : decode cX11_again 13 = .ok (.iload_n 1, 1) := by decide +kernel
theorem dX11_again_14 : decode cX11_again 14 = .ok (.baload, 1) := by decide +kernel
theorem dX11_again_15 : decode cX11_again 15 = .ok (.ifCond .ne 5, 3) := by decide +kernel
theorem dX11_again_18 : decode cX11_again 18 = .ok (.iconst 0, 1) := by decide +kernel
theorem dX11_again_19 : decode cX11_again 19 = .ok (.ireturn, 1) := by decide +kernel
theorem dX11_again_20 : decode cX11_again 20 = .ok (.aload_n 0, 1) := by decide +kernel
theorem dX11_again_21 : decode cX11_again 21 = .ok (.getfield 10, 3) := by decide +kernel
theorem dX11_again_24 : decode cX11_again 24 = .ok (.aload_n 0, 1) := by decide +kernel
theorem dX11_again_25 : decode cX11_again 25 = .ok (.getfield 16, 3) := by decide +kernel
theorem dX11_again_28 : decode cX11_again 28 = .ok (.iload_n 1, 1) := by decide +kernel
theorem dX11_again_29 : decode cX11_again 29 = .ok (.aaload, 1) := by decide +kernel
theorem dX11_again_30 : decode cX11_again 30 = .ok (.invokevirtual 147, 3) := by decide +kernel
theorem dX11_again_33 : decode cX11_again 33 = .ok (.iconst 1, 1) := by decide +kernel
theorem dX11_again_34 : decode cX11_again 34 = .ok (.ireturn, 1) := by decide +kernel
theorem dX11_sailTo_0 : decode cX11_sailTo 0 = .ok (.aload_n 0, 1) := by decide +kernel
theorem dX11_sailTo_1 : decode cX11_sailTo 1 = .ok (.getfield 10, 3) := by decide +kernel
theorem dX11_sailTo_4 : decode cX11_sailTo 4 = .ok (.iload_n 1, 1) := by decide +kernel
theorem dX11_sailTo_5 : decode cX11_sailTo 5 = .ok (.invokevirtual 114, 3) := by decide +kernel
theorem dX11_sailTo_8 : decode cX11_sailTo 8 = .ok (.astore 4, 2) := by decide +kernel
theorem dX11_sailTo_10 : decode cX11_sailTo 10 = .ok (.aload_n 0, 1) := by decide +kernel
theorem dX11_sailTo_11 : decode cX11_sailTo 11 = .ok (.getfield 10, 3) := by decide +kernel
theorem dX11_sailTo_14 : decode cX11_sailTo 14 = .ok (.iconst 1, 1) := by decide +kernel
theorem dX11_sailTo_15 : decode cX11_sailTo 15 = .ok (.iload_n 2, 1) := by decide +kernel
theorem dX11_sailTo_16 : decode cX11_sailTo 16 = .ok (.invokevirtual 124, 3) := by decide +kernel
theorem dX11_sailTo_19 : decode cX11_sailTo 19 = .ok (.astore 5, 2) := by decide +kernel
theorem dX11_sailTo_21 : decode cX11_sailTo 21 = .ok (.aload 4, 2) := by decide +kernel
theorem dX11_sailTo_23 : decode cX11_sailTo 23 = .ok (.ifnull 21, 3) := by decide +kernel
theorem dX11_sailTo_26 : decode cX11_sailTo 26 = .ok (.aload 5, 2) := by decide +kernel
theorem dX11_sailTo_28 : decode cX11_sailTo 28 = .ok (.ifnull 16, 3) := by decide +kernel
theorem dX11_sailTo_31 : decode cX11_sailTo 31 = .ok (.iload_n 3, 1) := by decide +kernel
theorem dX11_sailTo_32 : decode cX11_sailTo 32 = .ok (.ifCond .lt 12, 3) := by decide +kernel
theorem dX11_sailTo_35 : decode cX11_sailTo 35 = .ok (.iload_n 3, 1) := by decide +kernel
theorem dX11_sailTo_36 : decode cX11_sailTo 36 = .ok (.aload 5, 2) := by decide +kernel
theorem dX11_sailTo_38 : decode cX11_sailTo 38 = .ok (.getfield 132, 3) := by decide +kernel
theorem dX11_sailTo_41 : decode cX11_sailTo 41 = .ok (.if_icmp .le 5, 3) := by decide +kernel
theorem dX11_sailTo_44 : decode cX11_sailTo 44 = .ok (.iconst 0, 1) := by decide +kernel
theorem dX11_sailTo_45 : decode cX11_sailTo 45 = .ok (.ireturn, 1) := by decide +kernel
theorem dX11_sailTo_46 : decode cX11_sailTo 46 = .ok (.aload_n 0, 1) := by decide +kernel
theorem dX11_sailTo_47 : decode cX11_sailTo 47 = .ok (.getfield 40, 3) := by decide +kernel
theorem dX11_sailTo_50 : decode cX11_sailTo 50 = .ok (.aload 4, 2) := by decide +kernel
theorem dX11_sailTo_52 : decode cX11_sailTo 52 = .ok (.aload 4, 2) := by decide +kernel
theorem dX11_sailTo_54 : decode cX11_sailTo 54 = .ok (.invokevirtual 151, 3) := by decide +kernel
theorem dX11_sailTo_57 : decode cX11_sailTo 57 = .ok (.iconst 0, 1) := by decide +kernel
theorem dX11_sailTo_58 : decode cX11_sailTo 58 = .ok (.istore 6, 2) := by decide +kernel
theorem dX11_sailTo_60 : decode cX11_sailTo 60 = .ok (.iload 6, 2) := by decide +kernel
theorem dX11_sailTo_62 : decode cX11_sailTo 62 = .ok (.iload_n 3, 1) := by decide +kernel
theorem dX11_sailTo_63 : decode cX11_sailTo 63 = .ok (.if_icmp .ge 45, 3) := by decide +kernel
theorem dX11_sailTo_66 : decode cX11_sailTo 66 = .ok (.aload_n 0, 1) := by decide +kernel
theorem dX11_sailTo_67 : decode cX11_sailTo 67 = .ok (.getfield 40, 3) := by decide +kernel
theorem dX11_sailTo_70 : decode cX11_sailTo 70 = .ok (.aload 5, 2) := by decide +kernel
theorem dX11_sailTo_72 : decode cX11_sailTo 72 = .ok (.iload 6, 2) := by decide +kernel
theorem dX11_sailTo_74 : decode cX11_sailTo 74 = .ok (.iconst 0, 1) := by decide +kernel
theorem dX11_sailTo_75 : decode cX11_sailTo 75 = .ok (.invokevirtual 141, 3) := by decide +kernel
theorem dX11_sailTo_78 : decode cX11_sailTo 78 = .ok (.aload 5, 2) := by decide +kernel
theorem dX11_sailTo_80 : decode cX11_sailTo 80 = .ok (.iload 6, 2) := by decide +kernel
theorem dX11_sailTo_82 : decode cX11_sailTo 82 = .ok (.iconst 1, 1) := by decide +kernel
theorem dX11_sailTo_83 : decode cX11_sailTo 83 = .ok (.invokevirtual 141, 3) := by decide +kernel
theorem dX11_sailTo_86 : decode cX11_sailTo 86 = .ok (.aload 5, 2) := by decide +kernel
theorem dX11_sailTo_88 : decode cX11_sailTo 88 = .ok (.iload 6, 2) := by decide +kernel
theorem dX11_sailTo_90 : decode cX11_sailTo 90 = .ok (.iconst 2, 1) := by decide +kernel
theorem dX11_sailTo_91 : decode cX11_sailTo 91 = .ok (.invokevirtual 141, 3) := by decide +kernel
theorem dX11_sailTo_94 : decode cX11_sailTo 94 = .ok (.invokevirtual 155, 3) := by decide +kernel
theorem dX11_sailTo_97 : decode cX11_sailTo 97 = .ok (.ifCond .ne 5, 3) := by decide +kernel
theorem dX11_sailTo_100 : decode cX11_sailTo 100 = .ok (.iconst 0, 1) := by decide +kernel
theorem dX11_sailTo_101 : decode cX11_sailTo 101 = .ok (.ireturn, 1) := by decide +kernel
theorem dX11_sailTo_102 : decode cX11_sailTo 102 = .ok (.iinc 6 1, 3) := by decide +kernel
theorem dX11_sailTo_105 : decode cX11_sailTo 105 = .ok (.goto (-45), 3) := by decide +kernel
theorem dX11_sailTo_108 : decode cX11_sailTo 108 = .ok (.iconst 1, 1) := by decide +kernel
theorem dX11_sailTo_109 : decode cX11_sailTo 109 = .ok (.ireturn, 1) := by decide +kernel
theorem dX11_stop_0 : decode cX11_stop 0 = .ok (.aload_n 0, 1) := by decide +kernel
theorem dX11_stop_1 : decode cX11_stop 1 = .ok (.getfield 10, 3) := by decide +kernel
theorem dX11_stop_4 : decode cX11_stop 4 = .ok (.iload_n 1, 1) := by decide +kernel
theorem dX11_stop_5 : decode cX11_stop 5 = .ok (.invokevirtual 114, 3) := by decide +kernel
theorem dX11_stop_8 : decode cX11_stop 8 = .ok (.astore_n 3, 1) := by decide +kernel
theorem dX11_stop_9 : decode cX11_stop 9 = .ok (.aload_n 0, 1) := by decide +kernel
theorem dX11_stop_10 : decode cX11_stop 10 = .ok (.getfield 10, 3) := by decide +kernel
theorem dX11_stop_13 : decode cX11_stop 13 = .ok (.iconst 1, 1) := by decide +kernel
theorem dX11_stop_14 : decode cX11_stop 14 = .ok (.iload_n 2, 1) := by decide +kernel
theorem dX11_stop_15 : decode cX11_stop 15 = .ok (.invokevirtual 124, 3) := by decide +kernel
theorem dX11_stop_18 : decode cX11_stop 18 = .ok (.astore 4, 2) := by decide +kernel
theorem dX11_stop_20 : decode cX11_stop 20 = .ok (.aload_n 3, 1) := by decide +kernel
theorem dX11_stop_21 : decode cX11_stop 21 = .ok (.ifnull 8, 3) := by decide +kernel
theorem dX11_stop_24 : decode cX11_stop 24 = .ok (.aload 4, 2) := by decide +kernel
theorem dX11_stop_26 : decode cX11_stop 26 = .ok (.ifnonnull 5, 3) := by decide +kernel
theorem dX11_stop_29 : decode cX11_stop 29 = .ok (.iconst (-1), 1) := by decide +kernel
theorem dX11_stop_30 : decode cX11_stop 30 = .ok (.ireturn, 1) := by decide +kernel
theorem dX11_stop_31 : decode cX11_stop 31 = .ok (.aload_n 0, 1) := by decide +kernel
theorem dX11_stop_32 : decode cX11_stop 32 = .ok (.getfield 40, 3) := by decide +kernel
theorem dX11_stop_35 : decode cX11_stop 35 = .ok (.aload_n 3, 1) := by decide +kernel
theorem dX11_stop_36 : decode cX11_stop 36 = .ok (.aload_n 3, 1) := by decide +kernel
theorem dX11_stop_37 : decode cX11_stop 37 = .ok (.invokevirtual 151, 3) := by decide +kernel
theorem dX11_stop_40 : decode cX11_stop 40 = .ok (.iconst 0, 1) := by decide +kernel
theorem dX11_stop_41 : decode cX11_stop 41 = .ok (.istore 5, 2) := by decide +kernel
theorem dX11_stop_43 : decode cX11_stop 43 = .ok (.iload 5, 2) := by decide +kernel
theorem dX11_stop_45 : decode cX11_stop 45 = .ok (.aload 4, 2) := by decide +kernel
theorem dX11_stop_47 : decode cX11_stop 47 = .ok (.getfield 132, 3) := by decide +kernel
theorem dX11_stop_50 : decode cX11_stop 50 = .ok (.if_icmp .ge 43, 3) := by decide +kernel
theorem dX11_stop_53 : decode cX11_stop 53 = .ok (.aload_n 0, 1) := by decide +kernel
theorem dX11_stop_54 : decode cX11_stop 54 = .ok (.getfield 40, 3) := by decide +kernel
theorem dX11_stop_57 : decode cX11_stop 57 = .ok (.aload 4, 2) := by decide +kernel
theorem dX11_stop_59 : decode cX11_stop 59 = .ok (.iload 5, 2) := by decide +kernel
theorem dX11_stop_61 : decode cX11_stop 61 = .ok (.iconst 0, 1) := by decide +kernel
theorem dX11_stop_62 : decode cX11_stop 62 = .ok (.invokevirtual 141, 3) := by decide +kernel
theorem dX11_stop_65 : decode cX11_stop 65 = .ok (.aload 4, 2) := by decide +kernel
theorem dX11_stop_67 : decode cX11_stop 67 = .ok (.iload 5, 2) := by decide +kernel
theorem dX11_stop_69 : decode cX11_stop 69 = .ok (.iconst 1, 1) := by decide +kernel
theorem dX11_stop_70 : decode cX11_stop 70 = .ok (.invokevirtual 141, 3) := by decide +kernel
theorem dX11_stop_73 : decode cX11_stop 73 = .ok (.aload 4, 2) := by decide +kernel
theorem dX11_stop_75 : decode cX11_stop 75 = .ok (.iload 5, 2) := by decide +kernel
theorem dX11_stop_77 : decode cX11_stop 77 = .ok (.iconst 2, 1) := by decide +kernel
theorem dX11_stop_78 : decode cX11_stop 78 = .ok (.invokevirtual 141, 3) := by decide +kernel
theorem dX11_stop_81 : decode cX11_stop 81 = .ok (.invokevirtual 155, 3) := by decide +kernel
theorem dX11_stop_84 : decode cX11_stop 84 = .ok (.ifCond .eq 9, 3) := by decide +kernel
theorem dX11_stop_87 : decode cX11_stop 87 = .ok (.iinc 5 1, 3) := by decide +kernel
theorem dX11_stop_90 : decode cX11_stop 90 = .ok (.goto (-47), 3) := by decide +kernel
theorem dX11_stop_93 : decode cX11_stop 93 = .ok (.iload 5, 2) := by decide +kernel
theorem dX11_stop_95 : decode cX11_stop 95 = .ok (.ireturn, 1) := by decide +kernel
theorem dX11_state_0 : decode cX11_state 0 = .ok (.aload_n 0, 1) := by decide +kernel
theorem dX11_state_1 : decode cX11_state 1 = .ok (.iload_n 1, 1) := by decide +kernel
theorem dX11_state_2 : decode cX11_state 2 = .ok (.iload_n 2, 1) := by decide +kernel
theorem dX11_state_3 : decode cX11_state 3 = .ok (.iload_n 3, 1) := by decide +kernel
theorem dX11_state_4 : decode cX11_state 4 = .ok (.invokevirtual 159, 3) := by decide +kernel
theorem dX11_state_7 : decode cX11_state 7 = .ok (.ifCond .eq 15, 3) := by decide +kernel
theorem dX11_state_10 : decode cX11_state 10 = .ok (.aload_n 0, 1) := by decide +kernel
theorem dX11_state_11 : decode cX11_state 11 = .ok (.getfield 40, 3) := by decide +kernel
theorem dX11_state_14 : decode cX11_state 14 = .ok (.iload 4, 2) := by decide +kernel
theorem dX11_state_16 : decode cX11_state 16 = .ok (.invokevirtual 162, 3) := by decide +kernel
theorem dX11_state_19 : decode cX11_state 19 = .ok (.goto 5, 3) := by decide +kernel
theorem dX11_state_22 : decode cX11_state 22 = .ok (.bipush (-2), 2) := by decide +kernel
theorem dX11_state_24 : decode cX11_state 24 = .ok (.ireturn, 1) := by decide +kernel
theorem dX11_list_0 : decode cX11_list 0 = .ok (.iload 4, 2) := by decide +kernel
theorem dX11_list_2 : decode cX11_list 2 = .ok (.ifCond .lt 19, 3) := by decide +kernel
theorem dX11_list_5 : decode cX11_list 5 = .ok (.iload 4, 2) := by decide +kernel
theorem dX11_list_7 : decode cX11_list 7 = .ok (.iconst 1, 1) := by decide +kernel
theorem dX11_list_8 : decode cX11_list 8 = .ok (.if_icmp .gt 13, 3) := by decide +kernel
theorem dX11_list_11 : decode cX11_list 11 = .ok (.aload_n 0, 1) := by decide +kernel
theorem dX11_list_12 : decode cX11_list 12 = .ok (.iload_n 1, 1) := by decide +kernel
theorem dX11_list_13 : decode cX11_list 13 = .ok (.iload_n 2, 1) := by decide +kernel
theorem dX11_list_14 : decode cX11_list 14 = .ok (.iload_n 3, 1) := by decide +kernel
theorem dX11_list_15 : decode cX11_list 15 = .ok (.invokevirtual 159, 3) := by decide +kernel
theorem dX11_list_18 : decode cX11_list 18 = .ok (.ifCond .ne 6, 3) := by decide +kernel
theorem dX11_list_21 : decode cX11_list 21 = .ok (.ldc 163, 2) := by decide +kernel
theorem dX11_list_23 : decode cX11_list 23 = .ok (.ireturn, 1) := by decide +kernel
theorem dX11_list_24 : decode cX11_list 24 = .ok (.aload_n 0, 1) := by decide +kernel
theorem dX11_list_25 : decode cX11_list 25 = .ok (.getfield 40, 3) := by decide +kernel
theorem dX11_list_28 : decode cX11_list 28 = .ok (.iload 4, 2) := by decide +kernel
theorem dX11_list_30 : decode cX11_list 30 = .ok (.invokevirtual 164, 3) := by decide +kernel
theorem dX11_list_33 : decode cX11_list 33 = .ok (.ireturn, 1) := by decide +kernel
theorem dX11_drift_0 : decode cX11_drift 0 = .ok (.iload 4, 2) := by decide +kernel
theorem dX11_drift_2 : decode cX11_drift 2 = .ok (.ifCond .lt 19, 3) := by decide +kernel
theorem dX11_drift_5 : decode cX11_drift 5 = .ok (.iload 4, 2) := by decide +kernel
theorem dX11_drift_7 : decode cX11_drift 7 = .ok (.iconst 1, 1) := by decide +kernel
theorem dX11_drift_8 : decode cX11_drift 8 = .ok (.if_icmp .gt 13, 3) := by decide +kernel
theorem dX11_drift_11 : decode cX11_drift 11 = .ok (.aload_n 0, 1) := by decide +kernel
theorem dX11_drift_12 : decode cX11_drift 12 = .ok (.iload_n 1, 1) := by decide +kernel
theorem dX11_drift_13 : decode cX11_drift 13 = .ok (.iload_n 2, 1) := by decide +kernel
theorem dX11_drift_14 : decode cX11_drift 14 = .ok (.iload_n 3, 1) := by decide +kernel
theorem dX11_drift_15 : decode cX11_drift 15 = .ok (.invokevirtual 159, 3) := by decide +kernel
theorem dX11_drift_18 : decode cX11_drift 18 = .ok (.ifCond .ne 6, 3) := by decide +kernel
theorem dX11_drift_21 : decode cX11_drift 21 = .ok (.bipush (-2), 2) := by decide +kernel
theorem dX11_drift_23 : decode cX11_drift 23 = .ok (.ireturn, 1) := by decide +kernel
theorem dX11_drift_24 : decode cX11_drift 24 = .ok (.aload_n 0, 1) := by decide +kernel
theorem dX11_drift_25 : decode cX11_drift 25 = .ok (.getfield 40, 3) := by decide +kernel
theorem dX11_drift_28 : decode cX11_drift 28 = .ok (.iload 4, 2) := by decide +kernel
theorem dX11_drift_30 : decode cX11_drift 30 = .ok (.invokevirtual 167, 3) := by decide +kernel
theorem dX11_drift_33 : decode cX11_drift 33 = .ok (.ireturn, 1) := by decide +kernel
theorem dX11_goes_0 : decode cX11_goes 0 = .ok (.iload 4, 2) := by decide +kernel
theorem dX11_goes_2 : decode cX11_goes 2 = .ok (.ifCond .lt 33, 3) := by decide +kernel
theorem dX11_goes_5 : decode cX11_goes 5 = .ok (.iload 4, 2) := by decide +kernel
theorem dX11_goes_7 : decode cX11_goes 7 = .ok (.bipush 13, 2) := by decide +kernel
theorem dX11_goes_9 : decode cX11_goes 9 = .ok (.if_icmp .gt 26, 3) := by decide +kernel
theorem dX11_goes_12 : decode cX11_goes 12 = .ok (.iload 4, 2) := by decide +kernel
theorem dX11_goes_14 : decode cX11_goes 14 = .ok (.iconst 1, 1) := by decide +kernel
theorem dX11_goes_15 : decode cX11_goes 15 = .ok (.if_icmp .le 10, 3) := by decide +kernel
theorem dX11_goes_18 : decode cX11_goes 18 = .ok (.iload 4, 2) := by decide +kernel
theorem dX11_goes_20 : decode cX11_goes 20 = .ok (.bipush 10, 2) := by decide +kernel
theorem dX11_goes_22 : decode cX11_goes 22 = .ok (.if_icmp .lt 13, 3) := by decide +kernel
theorem dX11_goes_25 : decode cX11_goes 25 = .ok (.aload_n 0, 1) := by decide +kernel
theorem dX11_goes_26 : decode cX11_goes 26 = .ok (.iload_n 1, 1) := by decide +kernel
theorem dX11_goes_27 : decode cX11_goes 27 = .ok (.iload_n 2, 1) := by decide +kernel
theorem dX11_goes_28 : decode cX11_goes 28 = .ok (.iload_n 3, 1) := by decide +kernel
theorem dX11_goes_29 : decode cX11_goes 29 = .ok (.invokevirtual 159, 3) := by decide +kernel
theorem dX11_goes_32 : decode cX11_goes 32 = .ok (.ifCond .ne 6, 3) := by decide +kernel
theorem dX11_goes_35 : decode cX11_goes 35 = .ok (.bipush (-2), 2) := by decide +kernel
theorem dX11_goes_37 : decode cX11_goes 37 = .ok (.ireturn, 1) := by decide +kernel
theorem dX11_goes_38 : decode cX11_goes 38 = .ok (.iload 4, 2) := by decide +kernel
theorem dX11_goes_40 : decode cX11_goes 40 = .ok (.ifCond .ne 13, 3) := by decide +kernel
theorem dX11_goes_43 : decode cX11_goes 43 = .ok (.aload_n 0, 1) := by decide +kernel
theorem dX11_goes_44 : decode cX11_goes 44 = .ok (.getfield 40, 3) := by decide +kernel
theorem dX11_goes_47 : decode cX11_goes 47 = .ok (.bipush 60, 2) := by decide +kernel
theorem dX11_goes_49 : decode cX11_goes 49 = .ok (.invokevirtual 170, 3) := by decide +kernel
theorem dX11_goes_52 : decode cX11_goes 52 = .ok (.ireturn, 1) := by decide +kernel
theorem dX11_goes_53 : decode cX11_goes 53 = .ok (.iload 4, 2) := by decide +kernel
theorem dX11_goes_55 : decode cX11_goes 55 = .ok (.iconst 1, 1) := by decide +kernel
theorem dX11_goes_56 : decode cX11_goes 56 = .ok (.if_icmp .ne 15, 3) := by decide +kernel
theorem dX11_goes_59 : decode cX11_goes 59 = .ok (.aload_n 0, 1) := by decide +kernel
theorem dX11_goes_60 : decode cX11_goes 60 = .ok (.getfield 40, 3) := by decide +kernel
theorem dX11_goes_63 : decode cX11_goes 63 = .ok (.bipush 60, 2) := by decide +kernel
theorem dX11_goes_65 : decode cX11_goes 65 = .ok (.invokevirtual 173, 3) := by decide +kernel
theorem dX11_goes_68 : decode cX11_goes 68 = .ok (.goto 15, 3) := by decide +kernel
theorem dX11_goes_71 : decode cX11_goes 71 = .ok (.aload_n 0, 1) := by decide +kernel
theorem dX11_goes_72 : decode cX11_goes 72 = .ok (.getfield 40, 3) := by decide +kernel
theorem dX11_goes_75 : decode cX11_goes 75 = .ok (.iload 4, 2) := by decide +kernel
theorem dX11_goes_77 : decode cX11_goes 77 = .ok (.bipush 10, 2) := by decide +kernel
theorem dX11_goes_79 : decode cX11_goes 79 = .ok (.isub, 1) := by decide +kernel
theorem dX11_goes_80 : decode cX11_goes 80 = .ok (.invokevirtual 176, 3) := by decide +kernel
theorem dX11_goes_83 : decode cX11_goes 83 = .ok (.ireturn, 1) := by decide +kernel
theorem dX11_owed_0 : decode cX11_owed 0 = .ok (.aload_n 0, 1) := by decide +kernel
theorem dX11_owed_1 : decode cX11_owed 1 = .ok (.getfield 10, 3) := by decide +kernel
theorem dX11_owed_4 : decode cX11_owed 4 = .ok (.iconst 4, 1) := by decide +kernel
theorem dX11_owed_5 : decode cX11_owed 5 = .ok (.iload 4, 2) := by decide +kernel
theorem dX11_owed_7 : decode cX11_owed 7 = .ok (.invokevirtual 124, 3) := by decide +kernel
theorem dX11_owed_10 : decode cX11_owed 10 = .ok (.astore 5, 2) := by decide +kernel
theorem dX11_owed_12 : decode cX11_owed 12 = .ok (.aload 5, 2) := by decide +kernel
theorem dX11_owed_14 : decode cX11_owed 14 = .ok (.ifnull 13, 3) := by decide +kernel
theorem dX11_owed_17 : decode cX11_owed 17 = .ok (.aload_n 0, 1) := by decide +kernel
theorem dX11_owed_18 : decode cX11_owed 18 = .ok (.iload_n 1, 1) := by decide +kernel
theorem dX11_owed_19 : decode cX11_owed 19 = .ok (.iload_n 2, 1) := by decide +kernel
theorem dX11_owed_20 : decode cX11_owed 20 = .ok (.iload_n 3, 1) := by decide +kernel
theorem dX11_owed_21 : decode cX11_owed 21 = .ok (.invokevirtual 159, 3) := by decide +kernel
theorem dX11_owed_24 : decode cX11_owed 24 = .ok (.ifCond .ne 5, 3) := by decide +kernel
theorem dX11_owed_27 : decode cX11_owed 27 = .ok (.iconst (-1), 1) := by decide +kernel
theorem dX11_owed_28 : decode cX11_owed 28 = .ok (.ireturn, 1) := by decide +kernel
theorem dX11_owed_29 : decode cX11_owed 29 = .ok (.aload_n 0, 1) := by decide +kernel
theorem dX11_owed_30 : decode cX11_owed 30 = .ok (.getfield 40, 3) := by decide +kernel
theorem dX11_owed_33 : decode cX11_owed 33 = .ok (.aload 5, 2) := by decide +kernel
theorem dX11_owed_35 : decode cX11_owed 35 = .ok (.invokevirtual 179, 3) := by decide +kernel
theorem dX11_owed_38 : decode cX11_owed 38 = .ok (.ireturn, 1) := by decide +kernel
theorem dX11_cost_0 : decode cX11_cost 0 = .ok (.aload_n 0, 1) := by decide +kernel
theorem dX11_cost_1 : decode cX11_cost 1 = .ok (.getfield 10, 3) := by decide +kernel
theorem dX11_cost_4 : decode cX11_cost 4 = .ok (.iload_n 1, 1) := by decide +kernel
theorem dX11_cost_5 : decode cX11_cost 5 = .ok (.invokevirtual 114, 3) := by decide +kernel
theorem dX11_cost_8 : decode cX11_cost 8 = .ok (.astore 4, 2) := by decide +kernel
theorem dX11_cost_10 : decode cX11_cost 10 = .ok (.aload 4, 2) := by decide +kernel
theorem dX11_cost_12 : decode cX11_cost 12 = .ok (.ifnull 23, 3) := by decide +kernel
theorem dX11_cost_15 : decode cX11_cost 15 = .ok (.iload_n 2, 1) := by decide +kernel
theorem dX11_cost_16 : decode cX11_cost 16 = .ok (.iconst (-1), 1) := by decide +kernel
theorem dX11_cost_17 : decode cX11_cost 17 = .ok (.if_icmp .lt 18, 3) := by decide +kernel
theorem dX11_cost_20 : decode cX11_cost 20 = .ok (.iload_n 2, 1) := by decide +kernel
theorem dX11_cost_21 : decode cX11_cost 21 = .ok (.iconst 1, 1) := by decide +kernel
theorem dX11_cost_22 : decode cX11_cost 22 = .ok (.if_icmp .gt 13, 3) := by decide +kernel
theorem dX11_cost_25 : decode cX11_cost 25 = .ok (.iload_n 3, 1) := by decide +kernel
theorem dX11_cost_26 : decode cX11_cost 26 = .ok (.iconst (-1), 1) := by decide +kernel
theorem dX11_cost_27 : decode cX11_cost 27 = .ok (.if_icmp .lt 8, 3) := by decide +kernel
theorem dX11_cost_30 : decode cX11_cost 30 = .ok (.iload_n 3, 1) := by decide +kernel
theorem dX11_cost_31 : decode cX11_cost 31 = .ok (.iconst 1, 1) := by decide +kernel
theorem dX11_cost_32 : decode cX11_cost 32 = .ok (.if_icmp .le 5, 3) := by decide +kernel
theorem dX11_cost_35 : decode cX11_cost 35 = .ok (.iconst (-1), 1) := by decide +kernel
theorem dX11_cost_36 : decode cX11_cost 36 = .ok (.ireturn, 1) := by decide +kernel
theorem dX11_cost_37 : decode cX11_cost 37 = .ok (.aload_n 0, 1) := by decide +kernel
theorem dX11_cost_38 : decode cX11_cost 38 = .ok (.getfield 50, 3) := by decide +kernel
theorem dX11_cost_41 : decode cX11_cost 41 = .ok (.aload 4, 2) := by decide +kernel
theorem dX11_cost_43 : decode cX11_cost 43 = .ok (.invokevirtual 183, 3) := by decide +kernel
theorem dX11_cost_46 : decode cX11_cost 46 = .ok (.aload_n 0, 1) := by decide +kernel
theorem dX11_cost_47 : decode cX11_cost 47 = .ok (.getfield 50, 3) := by decide +kernel
theorem dX11_cost_50 : decode cX11_cost 50 = .ok (.iload_n 2, 1) := by decide +kernel
theorem dX11_cost_51 : decode cX11_cost 51 = .ok (.iload_n 3, 1) := by decide +kernel
theorem dX11_cost_52 : decode cX11_cost 52 = .ok (.invokevirtual 186, 3) := by decide +kernel
theorem dX11_cost_55 : decode cX11_cost 55 = .ok (.ireturn, 1) := by decide +kernel
theorem dX11_reach_0 : decode cX11_reach 0 = .ok (.aload_n 0, 1) := by decide +kernel
theorem dX11_reach_1 : decode cX11_reach 1 = .ok (.getfield 10, 3) := by decide +kernel
theorem dX11_reach_4 : decode cX11_reach 4 = .ok (.iload_n 1, 1) := by decide +kernel
theorem dX11_reach_5 : decode cX11_reach 5 = .ok (.invokevirtual 114, 3) := by decide +kernel
theorem dX11_reach_8 : decode cX11_reach 8 = .ok (.astore 5, 2) := by decide +kernel
theorem dX11_reach_10 : decode cX11_reach 10 = .ok (.aload 5, 2) := by decide +kernel
theorem dX11_reach_12 : decode cX11_reach 12 = .ok (.ifnull 13, 3) := by decide +kernel
theorem dX11_reach_15 : decode cX11_reach 15 = .ok (.iload_n 2, 1) := by decide +kernel
theorem dX11_reach_16 : decode cX11_reach 16 = .ok (.ifCond .lt 9, 3) := by decide +kernel
theorem dX11_reach_19 : decode cX11_reach 19 = .ok (.iload_n 2, 1) := by decide +kernel
theorem dX11_reach_20 : decode cX11_reach 20 = .ok (.bipush 12, 2) := by decide +kernel
theorem dX11_reach_22 : decode cX11_reach 22 = .ok (.if_icmp .le 5, 3) := by decide +kernel
theorem dX11_reach_25 : decode cX11_reach 25 = .ok (.iconst (-1), 1) := by decide +kernel
theorem dX11_reach_26 : decode cX11_reach 26 = .ok (.ireturn, 1) := by decide +kernel
theorem dX11_reach_27 : decode cX11_reach 27 = .ok (.iload_n 3, 1) := by decide +kernel
theorem dX11_reach_28 : decode cX11_reach 28 = .ok (.iconst (-1), 1) := by decide +kernel
theorem dX11_reach_29 : decode cX11_reach 29 = .ok (.if_icmp .ne 13, 3) := by decide +kernel
theorem dX11_reach_32 : decode cX11_reach 32 = .ok (.iload 4, 2) := by decide +kernel
theorem dX11_reach_34 : decode cX11_reach 34 = .ok (.iconst (-1), 1) := by decide +kernel
theorem dX11_reach_35 : decode cX11_reach 35 = .ok (.if_icmp .ne 7, 3) := by decide +kernel
theorem dX11_reach_38 : decode cX11_reach 38 = .ok (.iconst 1, 1) := by decide +kernel
theorem dX11_reach_39 : decode cX11_reach 39 = .ok (.goto 4, 3) := by decide +kernel
theorem dX11_reach_42 : decode cX11_reach 42 = .ok (.iconst 0, 1) := by decide +kernel
theorem dX11_reach_43 : decode cX11_reach 43 = .ok (.istore 6, 2) := by decide +kernel
theorem dX11_reach_45 : decode cX11_reach 45 = .ok (.iload 6, 2) := by decide +kernel
theorem dX11_reach_47 : decode cX11_reach 47 = .ok (.ifCond .ne 16, 3) := by decide +kernel
theorem dX11_reach_50 : decode cX11_reach 50 = .ok (.aload 5, 2) := by decide +kernel
theorem dX11_reach_52 : decode cX11_reach 52 = .ok (.iload_n 3, 1) := by decide +kernel
theorem dX11_reach_53 : decode cX11_reach 53 = .ok (.iload 4, 2) := by decide +kernel
theorem dX11_reach_55 : decode cX11_reach 55 = .ok (.invokevirtual 189, 3) := by decide +kernel
theorem dX11_reach_58 : decode cX11_reach 58 = .ok (.ifCond .ne 5, 3) := by decide +kernel
theorem dX11_reach_61 : decode cX11_reach 61 = .ok (.iconst (-1), 1) := by decide +kernel
theorem dX11_reach_62 : decode cX11_reach 62 = .ok (.ireturn, 1) := by decide +kernel
theorem dX11_reach_63 : decode cX11_reach 63 = .ok (.aload_n 0, 1) := by decide +kernel
theorem dX11_reach_64 : decode cX11_reach 64 = .ok (.getfield 50, 3) := by decide +kernel
theorem dX11_reach_67 : decode cX11_reach 67 = .ok (.aload 5, 2) := by decide +kernel
theorem dX11_reach_69 : decode cX11_reach 69 = .ok (.invokevirtual 183, 3) := by decide +kernel
theorem dX11_reach_72 : decode cX11_reach 72 = .ok (.aload_n 0, 1) := by decide +kernel
theorem dX11_reach_73 : decode cX11_reach 73 = .ok (.getfield 50, 3) := by decide +kernel
theorem dX11_reach_76 : decode cX11_reach 76 = .ok (.aload 5, 2) := by decide +kernel
theorem dX11_reach_78 : decode cX11_reach 78 = .ok (.invokevirtual 193, 3) := by decide +kernel
theorem dX11_reach_81 : decode cX11_reach 81 = .ok (.aload_n 0, 1) := by decide +kernel
theorem dX11_reach_82 : decode cX11_reach 82 = .ok (.getfield 50, 3) := by decide +kernel
theorem dX11_reach_85 : decode cX11_reach 85 = .ok (.aload 5, 2) := by decide +kernel
theorem dX11_reach_87 : decode cX11_reach 87 = .ok (.iload_n 2, 1) := by decide +kernel
theorem dX11_reach_88 : decode cX11_reach 88 = .ok (.invokevirtual 196, 3) := by decide +kernel
theorem dX11_reach_91 : decode cX11_reach 91 = .ok (.iload 6, 2) := by decide +kernel
theorem dX11_reach_93 : decode cX11_reach 93 = .ok (.ifCond .eq 13, 3) := by decide +kernel
theorem dX11_reach_96 : decode cX11_reach 96 = .ok (.aload_n 0, 1) := by decide +kernel
theorem dX11_reach_97 : decode cX11_reach 97 = .ok (.getfield 50, 3) := by decide +kernel
theorem dX11_reach_100 : decode cX11_reach 100 = .ok (.invokevirtual 200, 3) := by decide +kernel
theorem dX11_reach_103 : decode cX11_reach 103 = .ok (.goto 21, 3) := by decide +kernel
theorem dX11_reach_106 : decode cX11_reach 106 = .ok (.aload_n 0, 1) := by decide +kernel
theorem dX11_reach_107 : decode cX11_reach 107 = .ok (.getfield 50, 3) := by decide +kernel
theorem dX11_reach_110 : decode cX11_reach 110 = .ok (.iload_n 3, 1) := by decide +kernel
theorem dX11_reach_111 : decode cX11_reach 111 = .ok (.iload 4, 2) := by decide +kernel
theorem dX11_reach_113 : decode cX11_reach 113 = .ok (.invokevirtual 204, 3) := by decide +kernel
theorem dX11_reach_116 : decode cX11_reach 116 = .ok (.ifCond .eq 7, 3) := by decide +kernel
theorem dX11_reach_119 : decode cX11_reach 119 = .ok (.iconst 1, 1) := by decide +kernel
theorem dX11_reach_120 : decode cX11_reach 120 = .ok (.goto 4, 3) := by decide +kernel
theorem dX11_reach_123 : decode cX11_reach 123 = .ok (.iconst 0, 1) := by decide +kernel
theorem dX11_reach_124 : decode cX11_reach 124 = .ok (.ireturn, 1) := by decide +kernel
theorem dX11_sends_0 : decode cX11_sends 0 = .ok (.aload_n 0, 1) := by decide +kernel
theorem dX11_sends_1 : decode cX11_sends 1 = .ok (.getfield 10, 3) := by decide +kernel
theorem dX11_sends_4 : decode cX11_sends 4 = .ok (.iload_n 1, 1) := by decide +kernel
theorem dX11_sends_5 : decode cX11_sends 5 = .ok (.invokevirtual 114, 3) := by decide +kernel
theorem dX11_sends_8 : decode cX11_sends 8 = .ok (.astore_n 3, 1) := by decide +kernel
theorem dX11_sends_9 : decode cX11_sends 9 = .ok (.aload_n 3, 1) := by decide +kernel
theorem dX11_sends_10 : decode cX11_sends 10 = .ok (.ifnull 12, 3) := by decide +kernel
theorem dX11_sends_13 : decode cX11_sends 13 = .ok (.iload_n 2, 1) := by decide +kernel
theorem dX11_sends_14 : decode cX11_sends 14 = .ok (.ifCond .lt 8, 3) := by decide +kernel
theorem dX11_sends_17 : decode cX11_sends 17 = .ok (.iload_n 2, 1) := by decide +kernel
theorem dX11_sends_18 : decode cX11_sends 18 = .ok (.iconst 2, 1) := by decide +kernel
theorem dX11_sends_19 : decode cX11_sends 19 = .ok (.if_icmp .le 5, 3) := by decide +kernel
theorem dX11_sends_22 : decode cX11_sends 22 = .ok (.iconst (-1), 1) := by decide +kernel
theorem dX11_sends_23 : decode cX11_sends 23 = .ok (.ireturn, 1) := by decide +kernel
theorem dX11_sends_24 : decode cX11_sends 24 = .ok (.aload_n 0, 1) := by decide +kernel
theorem dX11_sends_25 : decode cX11_sends 25 = .ok (.getfield 50, 3) := by decide +kernel
theorem dX11_sends_28 : decode cX11_sends 28 = .ok (.aload_n 3, 1) := by decide +kernel
theorem dX11_sends_29 : decode cX11_sends 29 = .ok (.invokevirtual 183, 3) := by decide +kernel
theorem dX11_sends_32 : decode cX11_sends 32 = .ok (.aload_n 0, 1) := by decide +kernel
theorem dX11_sends_33 : decode cX11_sends 33 = .ok (.getfield 50, 3) := by decide +kernel
theorem dX11_sends_36 : decode cX11_sends 36 = .ok (.aload_n 3, 1) := by decide +kernel
theorem dX11_sends_37 : decode cX11_sends 37 = .ok (.invokevirtual 193, 3) := by decide +kernel
theorem dX11_sends_40 : decode cX11_sends 40 = .ok (.iload_n 2, 1) := by decide +kernel
theorem dX11_sends_41 : decode cX11_sends 41 = .ok (.iconst 2, 1) := by decide +kernel
theorem dX11_sends_42 : decode cX11_sends 42 = .ok (.if_icmp .ne 12, 3) := by decide +kernel
theorem dX11_sends_45 : decode cX11_sends 45 = .ok (.aload_n 0, 1) := by decide +kernel
theorem dX11_sends_46 : decode cX11_sends 46 = .ok (.getfield 50, 3) := by decide +kernel
theorem dX11_sends_49 : decode cX11_sends 49 = .ok (.aload_n 3, 1) := by decide +kernel
theorem dX11_sends_50 : decode cX11_sends 50 = .ok (.invokevirtual 207, 3) := by decide +kernel
theorem dX11_sends_53 : decode cX11_sends 53 = .ok (.ireturn, 1) := by decide +kernel
theorem dX11_sends_54 : decode cX11_sends 54 = .ok (.aload_n 0, 1) := by decide +kernel
theorem dX11_sends_55 : decode cX11_sends 55 = .ok (.getfield 50, 3) := by decide +kernel
theorem dX11_sends_58 : decode cX11_sends 58 = .ok (.aload_n 3, 1) := by decide +kernel
theorem dX11_sends_59 : decode cX11_sends 59 = .ok (.iload_n 2, 1) := by decide +kernel
theorem dX11_sends_60 : decode cX11_sends 60 = .ok (.ifCond .ne 7, 3) := by decide +kernel
theorem dX11_sends_63 : decode cX11_sends 63 = .ok (.iconst 1, 1) := by decide +kernel
theorem dX11_sends_64 : decode cX11_sends 64 = .ok (.goto 4, 3) := by decide +kernel
theorem dX11_sends_67 : decode cX11_sends 67 = .ok (.iconst 0, 1) := by decide +kernel
theorem dX11_sends_68 : decode cX11_sends 68 = .ok (.invokevirtual 211, 3) := by decide +kernel
theorem dX11_sends_71 : decode cX11_sends 71 = .ok (.ireturn, 1) := by decide +kernel
theorem dX11_thrift_0 : decode cX11_thrift 0 = .ok (.aload_n 0, 1) := by decide +kernel
theorem dX11_thrift_1 : decode cX11_thrift 1 = .ok (.getfield 10, 3) := by decide +kernel
theorem dX11_thrift_4 : decode cX11_thrift 4 = .ok (.iload_n 1, 1) := by decide +kernel
theorem dX11_thrift_5 : decode cX11_thrift 5 = .ok (.invokevirtual 114, 3) := by decide +kernel
theorem dX11_thrift_8 : decode cX11_thrift 8 = .ok (.astore 4, 2) := by decide +kernel
theorem dX11_thrift_10 : decode cX11_thrift 10 = .ok (.aload 4, 2) := by decide +kernel
theorem dX11_thrift_12 : decode cX11_thrift 12 = .ok (.ifnull 13, 3) := by decide +kernel
theorem dX11_thrift_15 : decode cX11_thrift 15 = .ok (.aload 4, 2) := by decide +kernel
theorem dX11_thrift_17 : decode cX11_thrift 17 = .ok (.iload_n 2, 1) := by decide +kernel
theorem dX11_thrift_18 : decode cX11_thrift 18 = .ok (.iload_n 3, 1) := by decide +kernel
theorem dX11_thrift_19 : decode cX11_thrift 19 = .ok (.invokevirtual 189, 3) := by decide +kernel
theorem dX11_thrift_22 : decode cX11_thrift 22 = .ok (.ifCond .ne 5, 3) := by decide +kernel
theorem dX11_thrift_25 : decode cX11_thrift 25 = .ok (.iconst (-1), 1) := by decide +kernel
theorem dX11_thrift_26 : decode cX11_thrift 26 = .ok (.ireturn, 1) := by decide +kernel
theorem dX11_thrift_27 : decode cX11_thrift 27 = .ok (.aload_n 0, 1) := by decide +kernel
theorem dX11_thrift_28 : decode cX11_thrift 28 = .ok (.getfield 50, 3) := by decide +kernel
theorem dX11_thrift_31 : decode cX11_thrift 31 = .ok (.aload 4, 2) := by decide +kernel
theorem dX11_thrift_33 : decode cX11_thrift 33 = .ok (.invokevirtual 183, 3) := by decide +kernel
theorem dX11_thrift_36 : decode cX11_thrift 36 = .ok (.aload_n 0, 1) := by decide +kernel
theorem dX11_thrift_37 : decode cX11_thrift 37 = .ok (.getfield 50, 3) := by decide +kernel
theorem dX11_thrift_40 : decode cX11_thrift 40 = .ok (.aload 4, 2) := by decide +kernel
theorem dX11_thrift_42 : decode cX11_thrift 42 = .ok (.invokevirtual 193, 3) := by decide +kernel
theorem dX11_thrift_45 : decode cX11_thrift 45 = .ok (.aload_n 0, 1) := by decide +kernel
theorem dX11_thrift_46 : decode cX11_thrift 46 = .ok (.getfield 50, 3) := by decide +kernel
theorem dX11_thrift_49 : decode cX11_thrift 49 = .ok (.aload 4, 2) := by decide +kernel
theorem dX11_thrift_51 : decode cX11_thrift 51 = .ok (.iload_n 2, 1) := by decide +kernel
theorem dX11_thrift_52 : decode cX11_thrift 52 = .ok (.iload_n 3, 1) := by decide +kernel
theorem dX11_thrift_53 : decode cX11_thrift 53 = .ok (.invokevirtual 215, 3) := by decide +kernel
theorem dX11_thrift_56 : decode cX11_thrift 56 = .ok (.ireturn, 1) := by decide +kernel
theorem dX11_pull_0 : decode cX11_pull 0 = .ok (.aload_n 0, 1) := by decide +kernel
theorem dX11_pull_1 : decode cX11_pull 1 = .ok (.getfield 10, 3) := by decide +kernel
theorem dX11_pull_4 : decode cX11_pull 4 = .ok (.iload_n 1, 1) := by decide +kernel
theorem dX11_pull_5 : decode cX11_pull 5 = .ok (.invokevirtual 114, 3) := by decide +kernel
theorem dX11_pull_8 : decode cX11_pull 8 = .ok (.astore 4, 2) := by decide +kernel
theorem dX11_pull_10 : decode cX11_pull 10 = .ok (.aload 4, 2) := by decide +kernel
theorem dX11_pull_12 : decode cX11_pull 12 = .ok (.ifnull 19, 3) := by decide +kernel
theorem dX11_pull_15 : decode cX11_pull 15 = .ok (.iload_n 2, 1) := by decide +kernel
theorem dX11_pull_16 : decode cX11_pull 16 = .ok (.iconst 1, 1) := by decide +kernel
theorem dX11_pull_17 : decode cX11_pull 17 = .ok (.if_icmp .lt 14, 3) := by decide +kernel
theorem dX11_pull_20 : decode cX11_pull 20 = .ok (.iload_n 2, 1) := by decide +kernel
theorem dX11_pull_21 : decode cX11_pull 21 = .ok (.bipush 12, 2) := by decide +kernel
theorem dX11_pull_23 : decode cX11_pull 23 = .ok (.if_icmp .gt 8, 3) := by decide +kernel
theorem dX11_pull_26 : decode cX11_pull 26 = .ok (.iload_n 3, 1) := by decide +kernel
theorem dX11_pull_27 : decode cX11_pull 27 = .ok (.iconst (-1), 1) := by decide +kernel
theorem dX11_pull_28 : decode cX11_pull 28 = .ok (.if_icmp .ge 6, 3) := by decide +kernel
theorem dX11_pull_31 : decode cX11_pull 31 = .ok (.bipush (-2), 2) := by decide +kernel
theorem dX11_pull_33 : decode cX11_pull 33 = .ok (.ireturn, 1) := by decide +kernel
theorem dX11_pull_34 : decode cX11_pull 34 = .ok (.aload_n 0, 1) := by decide +kernel
theorem dX11_pull_35 : decode cX11_pull 35 = .ok (.getfield 57, 3) := by decide +kernel
theorem dX11_pull_38 : decode cX11_pull 38 = .ok (.aload 4, 2) := by decide +kernel
theorem dX11_pull_40 : decode cX11_pull 40 = .ok (.iload_n 2, 1) := by decide +kernel
theorem dX11_pull_41 : decode cX11_pull 41 = .ok (.aload_n 0, 1) := by decide +kernel
theorem dX11_pull_42 : decode cX11_pull 42 = .ok (.getfield 40, 3) := by decide +kernel
theorem dX11_pull_45 : decode cX11_pull 45 = .ok (.invokevirtual 219, 3) := by decide +kernel
theorem dX11_pull_48 : decode cX11_pull 48 = .ok (.iload_n 3, 1) := by decide +kernel
theorem dX11_pull_49 : decode cX11_pull 49 = .ok (.iconst (-1), 1) := by decide +kernel
theorem dX11_pull_50 : decode cX11_pull 50 = .ok (.if_icmp .ne 13, 3) := by decide +kernel
theorem dX11_pull_53 : decode cX11_pull 53 = .ok (.aload_n 0, 1) := by decide +kernel
theorem dX11_pull_54 : decode cX11_pull 54 = .ok (.getfield 57, 3) := by decide +kernel
theorem dX11_pull_57 : decode cX11_pull 57 = .ok (.invokevirtual 223, 3) := by decide +kernel
theorem dX11_pull_60 : decode cX11_pull 60 = .ok (.goto 11, 3) := by decide +kernel
theorem dX11_pull_63 : decode cX11_pull 63 = .ok (.aload_n 0, 1) := by decide +kernel
theorem dX11_pull_64 : decode cX11_pull 64 = .ok (.getfield 57, 3) := by decide +kernel
theorem dX11_pull_67 : decode cX11_pull 67 = .ok (.iload_n 3, 1) := by decide +kernel
theorem dX11_pull_68 : decode cX11_pull 68 = .ok (.invokevirtual 226, 3) := by decide +kernel
theorem dX11_pull_71 : decode cX11_pull 71 = .ok (.ireturn, 1) := by decide +kernel
theorem dX11_gain_0 : decode cX11_gain 0 = .ok (.aload_n 0, 1) := by decide +kernel
theorem dX11_gain_1 : decode cX11_gain 1 = .ok (.getfield 10, 3) := by decide +kernel
theorem dX11_gain_4 : decode cX11_gain 4 = .ok (.iload_n 1, 1) := by decide +kernel
theorem dX11_gain_5 : decode cX11_gain 5 = .ok (.invokevirtual 114, 3) := by decide +kernel
theorem dX11_gain_8 : decode cX11_gain 8 = .ok (.astore 5, 2) := by decide +kernel
theorem dX11_gain_10 : decode cX11_gain 10 = .ok (.aload 5, 2) := by decide +kernel
theorem dX11_gain_12 : decode cX11_gain 12 = .ok (.ifnull 35, 3) := by decide +kernel
theorem dX11_gain_15 : decode cX11_gain 15 = .ok (.iload_n 2, 1) := by decide +kernel
theorem dX11_gain_16 : decode cX11_gain 16 = .ok (.iconst 1, 1) := by decide +kernel
theorem dX11_gain_17 : decode cX11_gain 17 = .ok (.if_icmp .lt 30, 3) := by decide +kernel
theorem dX11_gain_20 : decode cX11_gain 20 = .ok (.iload_n 2, 1) := by decide +kernel
theorem dX11_gain_21 : decode cX11_gain 21 = .ok (.bipush 12, 2) := by decide +kernel
theorem dX11_gain_23 : decode cX11_gain 23 = .ok (.if_icmp .gt 24, 3) := by decide +kernel
theorem dX11_gain_26 : decode cX11_gain 26 = .ok (.iload_n 3, 1) := by decide +kernel
theorem dX11_gain_27 : decode cX11_gain 27 = .ok (.ifCond .lt 20, 3) := by decide +kernel
theorem dX11_gain_30 : decode cX11_gain 30 = .ok (.iload_n 3, 1) := by decide +kernel
theorem dX11_gain_31 : decode cX11_gain 31 = .ok (.bipush 8, 2) := by decide +kernel
theorem dX11_gain_33 : decode cX11_gain 33 = .ok (.if_icmp .gt 14, 3) := by decide +kernel
theorem dX11_gain_36 : decode cX11_gain 36 = .ok (.iload 4, 2) := by decide +kernel
theorem dX11_gain_38 : decode cX11_gain 38 = .ok (.ifCond .lt 9, 3) := by decide +kernel
theorem dX11_gain_41 : decode cX11_gain 41 = .ok (.iload 4, 2) := by decide +kernel
theorem dX11_gain_43 : decode cX11_gain 43 = .ok (.iconst 1, 1) := by decide +kernel
theorem dX11_gain_44 : decode cX11_gain 44 = .ok (.if_icmp .le 6, 3) := by decide +kernel
theorem dX11_gain_47 : decode cX11_gain 47 = .ok (.ldc 163, 2) := by decide +kernel
theorem dX11_gain_49 : decode cX11_gain 49 = .ok (.ireturn, 1) := by decide +kernel
theorem dX11_gain_50 : decode cX11_gain 50 = .ok (.aload_n 0, 1) := by decide +kernel
theorem dX11_gain_51 : decode cX11_gain 51 = .ok (.getfield 57, 3) := by decide +kernel
theorem dX11_gain_54 : decode cX11_gain 54 = .ok (.aload 5, 2) := by decide +kernel
theorem dX11_gain_56 : decode cX11_gain 56 = .ok (.iload_n 2, 1) := by decide +kernel
theorem dX11_gain_57 : decode cX11_gain 57 = .ok (.aload_n 0, 1) := by decide +kernel
theorem dX11_gain_58 : decode cX11_gain 58 = .ok (.getfield 40, 3) := by decide +kernel
theorem dX11_gain_61 : decode cX11_gain 61 = .ok (.invokevirtual 219, 3) := by decide +kernel
theorem dX11_gain_64 : decode cX11_gain 64 = .ok (.aload_n 0, 1) := by decide +kernel
theorem dX11_gain_65 : decode cX11_gain 65 = .ok (.getfield 57, 3) := by decide +kernel
theorem dX11_gain_68 : decode cX11_gain 68 = .ok (.iload_n 3, 1) := by decide +kernel
theorem dX11_gain_69 : decode cX11_gain 69 = .ok (.iload 4, 2) := by decide +kernel
theorem dX11_gain_71 : decode cX11_gain 71 = .ok (.invokevirtual 229, 3) := by decide +kernel
theorem dX11_gain_74 : decode cX11_gain 74 = .ok (.ireturn, 1) := by decide +kernel
theorem dX11_stood_0 : decode cX11_stood 0 = .ok (.aload_n 0, 1) := by decide +kernel
theorem dX11_stood_1 : decode cX11_stood 1 = .ok (.getfield 10, 3) := by decide +kernel
theorem dX11_stood_4 : decode cX11_stood 4 = .ok (.iload_n 1, 1) := by decide +kernel
theorem dX11_stood_5 : decode cX11_stood 5 = .ok (.invokevirtual 114, 3) := by decide +kernel
theorem dX11_stood_8 : decode cX11_stood 8 = .ok (.astore 4, 2) := by decide +kernel
theorem dX11_stood_10 : decode cX11_stood 10 = .ok (.aload_n 0, 1) := by decide +kernel
theorem dX11_stood_11 : decode cX11_stood 11 = .ok (.getfield 10, 3) := by decide +kernel
theorem dX11_stood_14 : decode cX11_stood 14 = .ok (.iconst 2, 1) := by decide +kernel
theorem dX11_stood_15 : decode cX11_stood 15 = .ok (.iload_n 2, 1) := by decide +kernel
theorem dX11_stood_16 : decode cX11_stood 16 = .ok (.invokevirtual 124, 3) := by decide +kernel
theorem dX11_stood_19 : decode cX11_stood 19 = .ok (.astore 5, 2) := by decide +kernel
theorem dX11_stood_21 : decode cX11_stood 21 = .ok (.aload 4, 2) := by decide +kernel
theorem dX11_stood_23 : decode cX11_stood 23 = .ok (.ifnull 17, 3) := by decide +kernel
theorem dX11_stood_26 : decode cX11_stood 26 = .ok (.aload 5, 2) := by decide +kernel
theorem dX11_stood_28 : decode cX11_stood 28 = .ok (.ifnull 12, 3) := by decide +kernel
theorem dX11_stood_31 : decode cX11_stood 31 = .ok (.iload_n 3, 1) := by decide +kernel
theorem dX11_stood_32 : decode cX11_stood 32 = .ok (.ifCond .lt 8, 3) := by decide +kernel
theorem dX11_stood_35 : decode cX11_stood 35 = .ok (.iload_n 3, 1) := by decide +kernel
theorem dX11_stood_36 : decode cX11_stood 36 = .ok (.iconst 3, 1) := by decide +kernel
theorem dX11_stood_37 : decode cX11_stood 37 = .ok (.if_icmp .le 6, 3) := by decide +kernel
theorem dX11_stood_40 : decode cX11_stood 40 = .ok (.bipush (-2), 2) := by decide +kernel
theorem dX11_stood_42 : decode cX11_stood 42 = .ok (.ireturn, 1) := by decide +kernel
theorem dX11_stood_43 : decode cX11_stood 43 = .ok (.aload_n 0, 1) := by decide +kernel
theorem dX11_stood_44 : decode cX11_stood 44 = .ok (.getfield 64, 3) := by decide +kernel
theorem dX11_stood_47 : decode cX11_stood 47 = .ok (.aload 4, 2) := by decide +kernel
theorem dX11_stood_49 : decode cX11_stood 49 = .ok (.aload 5, 2) := by decide +kernel
theorem dX11_stood_51 : decode cX11_stood 51 = .ok (.aload_n 0, 1) := by decide +kernel
theorem dX11_stood_52 : decode cX11_stood 52 = .ok (.getfield 40, 3) := by decide +kernel
theorem dX11_stood_55 : decode cX11_stood 55 = .ok (.invokevirtual 232, 3) := by decide +kernel
theorem dX11_stood_58 : decode cX11_stood 58 = .ok (.iload_n 3, 1) := by decide +kernel
theorem dX11_stood_59 : decode cX11_stood 59 = .ok (.tableswitch 49 0 2 #[25, 33, 41], 25) := by decide +kernel
theorem dX11_stood_84 : decode cX11_stood 84 = .ok (.aload_n 0, 1) := by decide +kernel
theorem dX11_stood_85 : decode cX11_stood 85 = .ok (.getfield 64, 3) := by decide +kernel
theorem dX11_stood_88 : decode cX11_stood 88 = .ok (.getfield 236, 3) := by decide +kernel
theorem dX11_stood_91 : decode cX11_stood 91 = .ok (.ireturn, 1) := by decide +kernel
theorem dX11_stood_92 : decode cX11_stood 92 = .ok (.aload_n 0, 1) := by decide +kernel
theorem dX11_stood_93 : decode cX11_stood 93 = .ok (.getfield 64, 3) := by decide +kernel
theorem dX11_stood_96 : decode cX11_stood 96 = .ok (.getfield 239, 3) := by decide +kernel
theorem dX11_stood_99 : decode cX11_stood 99 = .ok (.ireturn, 1) := by decide +kernel
theorem dX11_stood_100 : decode cX11_stood 100 = .ok (.aload_n 0, 1) := by decide +kernel
theorem dX11_stood_101 : decode cX11_stood 101 = .ok (.getfield 64, 3) := by decide +kernel
theorem dX11_stood_104 : decode cX11_stood 104 = .ok (.getfield 242, 3) := by decide +kernel
theorem dX11_stood_107 : decode cX11_stood 107 = .ok (.ireturn, 1) := by decide +kernel
theorem dX11_stood_108 : decode cX11_stood 108 = .ok (.aload_n 0, 1) := by decide +kernel
theorem dX11_stood_109 : decode cX11_stood 109 = .ok (.getfield 64, 3) := by decide +kernel
theorem dX11_stood_112 : decode cX11_stood 112 = .ok (.getfield 245, 3) := by decide +kernel
theorem dX11_stood_115 : decode cX11_stood 115 = .ok (.ireturn, 1) := by decide +kernel
theorem dX11_corner_0 : decode cX11_corner 0 = .ok (.aload_n 0, 1) := by decide +kernel
theorem dX11_corner_1 : decode cX11_corner 1 = .ok (.getfield 10, 3) := by decide +kernel
theorem dX11_corner_4 : decode cX11_corner 4 = .ok (.iload_n 1, 1) := by decide +kernel
theorem dX11_corner_5 : decode cX11_corner 5 = .ok (.invokevirtual 114, 3) := by decide +kernel
theorem dX11_corner_8 : decode cX11_corner 8 = .ok (.astore 5, 2) := by decide +kernel
theorem dX11_corner_10 : decode cX11_corner 10 = .ok (.aload_n 0, 1) := by decide +kernel
theorem dX11_corner_11 : decode cX11_corner 11 = .ok (.getfield 10, 3) := by decide +kernel
theorem dX11_corner_14 : decode cX11_corner 14 = .ok (.iconst 2, 1) := by decide +kernel
theorem dX11_corner_15 : decode cX11_corner 15 = .ok (.iload_n 2, 1) := by decide +kernel
theorem dX11_corner_16 : decode cX11_corner 16 = .ok (.invokevirtual 124, 3) := by decide +kernel
theorem dX11_corner_19 : decode cX11_corner 19 = .ok (.astore 6, 2) := by decide +kernel
theorem dX11_corner_21 : decode cX11_corner 21 = .ok (.aload 5, 2) := by decide +kernel
theorem dX11_corner_23 : decode cX11_corner 23 = .ok (.ifnull 20, 3) := by decide +kernel
theorem dX11_corner_26 : decode cX11_corner 26 = .ok (.aload 6, 2) := by decide +kernel
theorem dX11_corner_28 : decode cX11_corner 28 = .ok (.ifnull 15, 3) := by decide +kernel
theorem dX11_corner_31 : decode cX11_corner 31 = .ok (.aload 5, 2) := by decide +kernel
theorem dX11_corner_33 : decode cX11_corner 33 = .ok (.getfield 248, 3) := by decide +kernel
theorem dX11_corner_36 : decode cX11_corner 36 = .ok (.iload_n 3, 1) := by decide +kernel
theorem dX11_corner_37 : decode cX11_corner 37 = .ok (.invokevirtual 137, 3) := by decide +kernel
theorem dX11_corner_40 : decode cX11_corner 40 = .ok (.ifCond .ne 5, 3) := by decide +kernel
theorem dX11_corner_43 : decode cX11_corner 43 = .ok (.iconst (-1), 1) := by decide +kernel
theorem dX11_corner_44 : decode cX11_corner 44 = .ok (.ireturn, 1) := by decide +kernel
theorem dX11_corner_45 : decode cX11_corner 45 = .ok (.aload_n 0, 1) := by decide +kernel
theorem dX11_corner_46 : decode cX11_corner 46 = .ok (.getfield 64, 3) := by decide +kernel
theorem dX11_corner_49 : decode cX11_corner 49 = .ok (.aload 5, 2) := by decide +kernel
theorem dX11_corner_51 : decode cX11_corner 51 = .ok (.aload 6, 2) := by decide +kernel
theorem dX11_corner_53 : decode cX11_corner 53 = .ok (.aload_n 0, 1) := by decide +kernel
theorem dX11_corner_54 : decode cX11_corner 54 = .ok (.getfield 40, 3) := by decide +kernel
theorem dX11_corner_57 : decode cX11_corner 57 = .ok (.invokevirtual 232, 3) := by decide +kernel
theorem dX11_corner_60 : decode cX11_corner 60 = .ok (.aload_n 0, 1) := by decide +kernel
theorem dX11_corner_61 : decode cX11_corner 61 = .ok (.getfield 64, 3) := by decide +kernel
theorem dX11_corner_64 : decode cX11_corner 64 = .ok (.iload_n 3, 1) := by decide +kernel
theorem dX11_corner_65 : decode cX11_corner 65 = .ok (.iload 4, 2) := by decide +kernel
theorem dX11_corner_67 : decode cX11_corner 67 = .ok (.invokevirtual 252, 3) := by decide +kernel
theorem dX11_corner_70 : decode cX11_corner 70 = .ok (.ireturn, 1) := by decide +kernel
theorem dX11_lies_0 : decode cX11_lies 0 = .ok (.aload_n 0, 1) := by decide +kernel
theorem dX11_lies_1 : decode cX11_lies 1 = .ok (.getfield 10, 3) := by decide +kernel
theorem dX11_lies_4 : decode cX11_lies 4 = .ok (.iconst 3, 1) := by decide +kernel
theorem dX11_lies_5 : decode cX11_lies 5 = .ok (.iload_n 1, 1) := by decide +kernel
theorem dX11_lies_6 : decode cX11_lies 6 = .ok (.invokevirtual 124, 3) := by decide +kernel
theorem dX11_lies_9 : decode cX11_lies 9 = .ok (.astore_n 3, 1) := by decide +kernel
theorem dX11_lies_10 : decode cX11_lies 10 = .ok (.aload_n 3, 1) := by decide +kernel
theorem dX11_lies_11 : decode cX11_lies 11 = .ok (.ifnull 7, 3) := by decide +kernel
theorem dX11_lies_14 : decode cX11_lies 14 = .ok (.iload_n 2, 1) := by decide +kernel
theorem dX11_lies_15 : decode cX11_lies 15 = .ok (.ifCond .ge 6, 3) := by decide +kernel
theorem dX11_lies_18 : decode cX11_lies 18 = .ok (.bipush (-2), 2) := by decide +kernel
theorem dX11_lies_20 : decode cX11_lies 20 = .ok (.ireturn, 1) := by decide +kernel
theorem dX11_lies_21 : decode cX11_lies 21 = .ok (.iload_n 2, 1) := by decide +kernel
theorem dX11_lies_22 : decode cX11_lies 22 = .ok (.ifCond .ne 12, 3) := by decide +kernel
theorem dX11_lies_25 : decode cX11_lies 25 = .ok (.aload_n 0, 1) := by decide +kernel
theorem dX11_lies_26 : decode cX11_lies 26 = .ok (.getfield 71, 3) := by decide +kernel
theorem dX11_lies_29 : decode cX11_lies 29 = .ok (.aload_n 3, 1) := by decide +kernel
theorem dX11_lies_30 : decode cX11_lies 30 = .ok (.invokevirtual 255, 3) := by decide +kernel
theorem dX11_lies_33 : decode cX11_lies 33 = .ok (.ireturn, 1) := by decide +kernel
theorem dX11_lies_34 : decode cX11_lies 34 = .ok (.iload_n 2, 1) := by decide +kernel
theorem dX11_lies_35 : decode cX11_lies 35 = .ok (.iconst 1, 1) := by decide +kernel
theorem dX11_lies_36 : decode cX11_lies 36 = .ok (.if_icmp .ne 12, 3) := by decide +kernel
theorem dX11_lies_39 : decode cX11_lies 39 = .ok (.aload_n 0, 1) := by decide +kernel
theorem dX11_lies_40 : decode cX11_lies 40 = .ok (.getfield 71, 3) := by decide +kernel
theorem dX11_lies_43 : decode cX11_lies 43 = .ok (.aload_n 3, 1) := by decide +kernel
theorem dX11_lies_44 : decode cX11_lies 44 = .ok (.invokevirtual 258, 3) := by decide +kernel
theorem dX11_lies_47 : decode cX11_lies 47 = .ok (.ireturn, 1) := by decide +kernel
theorem dX11_lies_48 : decode cX11_lies 48 = .ok (.iload_n 2, 1) := by decide +kernel
theorem dX11_lies_49 : decode cX11_lies 49 = .ok (.bipush 10, 2) := by decide +kernel
theorem dX11_lies_51 : decode cX11_lies 51 = .ok (.if_icmp .lt 27, 3) := by decide +kernel
theorem dX11_lies_54 : decode cX11_lies 54 = .ok (.aload_n 3, 1) := by decide +kernel
theorem dX11_lies_55 : decode cX11_lies 55 = .ok (.iload_n 2, 1) := by decide +kernel
theorem dX11_lies_56 : decode cX11_lies 56 = .ok (.bipush 10, 2) := by decide +kernel
theorem dX11_lies_58 : decode cX11_lies 58 = .ok (.isub, 1) := by decide +kernel
theorem dX11_lies_59 : decode cX11_lies 59 = .ok (.invokevirtual 137, 3) := by decide +kernel
theorem dX11_lies_62 : decode cX11_lies 62 = .ok (.ifCond .eq 16, 3) := by decide +kernel
theorem dX11_lies_65 : decode cX11_lies 65 = .ok (.aload_n 0, 1) := by decide +kernel
theorem dX11_lies_66 : decode cX11_lies 66 = .ok (.getfield 71, 3) := by decide +kernel
theorem dX11_lies_69 : decode cX11_lies 69 = .ok (.aload_n 3, 1) := by decide +kernel
theorem dX11_lies_70 : decode cX11_lies 70 = .ok (.iload_n 2, 1) := by decide +kernel
theorem dX11_lies_71 : decode cX11_lies 71 = .ok (.bipush 10, 2) := by decide +kernel
theorem dX11_lies_73 : decode cX11_lies 73 = .ok (.isub, 1) := by decide +kernel
theorem dX11_lies_74 : decode cX11_lies 74 = .ok (.invokevirtual 261, 3) := by decide +kernel
theorem dX11_lies_77 : decode cX11_lies 77 = .ok (.ireturn, 1) := by decide +kernel
theorem dX11_lies_78 : decode cX11_lies 78 = .ok (.iload_n 2, 1) := by decide +kernel
theorem dX11_lies_79 : decode cX11_lies 79 = .ok (.bipush 20, 2) := by decide +kernel
theorem dX11_lies_81 : decode cX11_lies 81 = .ok (.if_icmp .lt 29, 3) := by decide +kernel
theorem dX11_lies_84 : decode cX11_lies 84 = .ok (.aload_n 3, 1) := by decide +kernel
theorem dX11_lies_85 : decode cX11_lies 85 = .ok (.iload_n 2, 1) := by decide +kernel
theorem dX11_lies_86 : decode cX11_lies 86 = .ok (.bipush 20, 2) := by decide +kernel
theorem dX11_lies_88 : decode cX11_lies 88 = .ok (.isub, 1) := by decide +kernel
theorem dX11_lies_89 : decode cX11_lies 89 = .ok (.invokevirtual 137, 3) := by decide +kernel
theorem dX11_lies_92 : decode cX11_lies 92 = .ok (.ifCond .eq 18, 3) := by decide +kernel
theorem dX11_lies_95 : decode cX11_lies 95 = .ok (.aload_n 0, 1) := by decide +kernel
theorem dX11_lies_96 : decode cX11_lies 96 = .ok (.getfield 71, 3) := by decide +kernel
theorem dX11_lies_99 : decode cX11_lies 99 = .ok (.aload_n 3, 1) := by decide +kernel
theorem dX11_lies_100 : decode cX11_lies 100 = .ok (.iload_n 2, 1) := by decide +kernel
theorem dX11_lies_101 : decode cX11_lies 101 = .ok (.bipush 20, 2) := by decide +kernel
theorem dX11_lies_103 : decode cX11_lies 103 = .ok (.isub, 1) := by decide +kernel
theorem dX11_lies_104 : decode cX11_lies 104 = .ok (.invokevirtual 265, 3) := by decide +kernel
theorem dX11_lies_107 : decode cX11_lies 107 = .ok (.goto 5, 3) := by decide +kernel
theorem dX11_lies_110 : decode cX11_lies 110 = .ok (.bipush (-2), 2) := by decide +kernel
theorem dX11_lies_112 : decode cX11_lies 112 = .ok (.ireturn, 1) := by decide +kernel
theorem dX11_bail_0 : decode cX11_bail 0 = .ok (.aload_n 0, 1) := by decide +kernel
theorem dX11_bail_1 : decode cX11_bail 1 = .ok (.getfield 10, 3) := by decide +kernel
theorem dX11_bail_4 : decode cX11_bail 4 = .ok (.iload_n 1, 1) := by decide +kernel
theorem dX11_bail_5 : decode cX11_bail 5 = .ok (.invokevirtual 114, 3) := by decide +kernel
theorem dX11_bail_8 : decode cX11_bail 8 = .ok (.astore 4, 2) := by decide +kernel
theorem dX11_bail_10 : decode cX11_bail 10 = .ok (.aload 4, 2) := by decide +kernel
theorem dX11_bail_12 : decode cX11_bail 12 = .ok (.ifnull 35, 3) := by decide +kernel
theorem dX11_bail_15 : decode cX11_bail 15 = .ok (.aload 4, 2) := by decide +kernel
theorem dX11_bail_17 : decode cX11_bail 17 = .ok (.getfield 268, 3) := by decide +kernel
theorem dX11_bail_20 : decode cX11_bail 20 = .ok (.getfield 132, 3) := by decide +kernel
theorem dX11_bail_23 : decode cX11_bail 23 = .ok (.ifCond .eq 24, 3) := by decide +kernel
theorem dX11_bail_26 : decode cX11_bail 26 = .ok (.iload_n 2, 1) := by decide +kernel
theorem dX11_bail_27 : decode cX11_bail 27 = .ok (.iconst 1, 1) := by decide +kernel
theorem dX11_bail_28 : decode cX11_bail 28 = .ok (.if_icmp .lt 19, 3) := by decide +kernel
theorem dX11_bail_31 : decode cX11_bail 31 = .ok (.iload_n 2, 1) := by decide +kernel
theorem dX11_bail_32 : decode cX11_bail 32 = .ok (.bipush 8, 2) := by decide +kernel
theorem dX11_bail_34 : decode cX11_bail 34 = .ok (.if_icmp .gt 13, 3) := by decide +kernel
theorem dX11_bail_37 : decode cX11_bail 37 = .ok (.iload_n 3, 1) := by decide +kernel
theorem dX11_bail_38 : decode cX11_bail 38 = .ok (.iconst (-1), 1) := by decide +kernel
theorem dX11_bail_39 : decode cX11_bail 39 = .ok (.if_icmp .lt 8, 3) := by decide +kernel
theorem dX11_bail_42 : decode cX11_bail 42 = .ok (.iload_n 3, 1) := by decide +kernel
theorem dX11_bail_43 : decode cX11_bail 43 = .ok (.iload_n 2, 1) := by decide +kernel
theorem dX11_bail_44 : decode cX11_bail 44 = .ok (.if_icmp .lt 5, 3) := by decide +kernel
theorem dX11_bail_47 : decode cX11_bail 47 = .ok (.iconst (-1), 1) := by decide +kernel
theorem dX11_bail_48 : decode cX11_bail 48 = .ok (.ireturn, 1) := by decide +kernel
theorem dX11_bail_49 : decode cX11_bail 49 = .ok (.aload_n 0, 1) := by decide +kernel
theorem dX11_bail_50 : decode cX11_bail 50 = .ok (.getfield 78, 3) := by decide +kernel
theorem dX11_bail_53 : decode cX11_bail 53 = .ok (.aload 4, 2) := by decide +kernel
theorem dX11_bail_55 : decode cX11_bail 55 = .ok (.getfield 268, 3) := by decide +kernel
theorem dX11_bail_58 : decode cX11_bail 58 = .ok (.iload_n 2, 1) := by decide +kernel
theorem dX11_bail_59 : decode cX11_bail 59 = .ok (.invokevirtual 271, 3) := by decide +kernel
theorem dX11_bail_62 : decode cX11_bail 62 = .ok (.iload_n 3, 1) := by decide +kernel
theorem dX11_bail_63 : decode cX11_bail 63 = .ok (.iconst (-1), 1) := by decide +kernel
theorem dX11_bail_64 : decode cX11_bail 64 = .ok (.if_icmp .ne 13, 3) := by decide +kernel
theorem dX11_bail_67 : decode cX11_bail 67 = .ok (.aload_n 0, 1) := by decide +kernel
theorem dX11_bail_68 : decode cX11_bail 68 = .ok (.getfield 78, 3) := by decide +kernel
theorem dX11_bail_71 : decode cX11_bail 71 = .ok (.getfield 275, 3) := by decide +kernel
theorem dX11_bail_74 : decode cX11_bail 74 = .ok (.goto 11, 3) := by decide +kernel
theorem dX11_bail_77 : decode cX11_bail 77 = .ok (.aload_n 0, 1) := by decide +kernel
theorem dX11_bail_78 : decode cX11_bail 78 = .ok (.getfield 78, 3) := by decide +kernel
theorem dX11_bail_81 : decode cX11_bail 81 = .ok (.iload_n 3, 1) := by decide +kernel
theorem dX11_bail_82 : decode cX11_bail 82 = .ok (.invokevirtual 278, 3) := by decide +kernel
theorem dX11_bail_85 : decode cX11_bail 85 = .ok (.ireturn, 1) := by decide +kernel
theorem dX11_meet_0 : decode cX11_meet 0 = .ok (.aload_n 0, 1) := by decide +kernel
theorem dX11_meet_1 : decode cX11_meet 1 = .ok (.getfield 10, 3) := by decide +kernel
theorem dX11_meet_4 : decode cX11_meet 4 = .ok (.iload_n 1, 1) := by decide +kernel
theorem dX11_meet_5 : decode cX11_meet 5 = .ok (.invokevirtual 114, 3) := by decide +kernel
theorem dX11_meet_8 : decode cX11_meet 8 = .ok (.astore 4, 2) := by decide +kernel
theorem dX11_meet_10 : decode cX11_meet 10 = .ok (.aload_n 0, 1) := by decide +kernel
theorem dX11_meet_11 : decode cX11_meet 11 = .ok (.getfield 10, 3) := by decide +kernel
theorem dX11_meet_14 : decode cX11_meet 14 = .ok (.iload_n 2, 1) := by decide +kernel
theorem dX11_meet_15 : decode cX11_meet 15 = .ok (.invokevirtual 114, 3) := by decide +kernel
theorem dX11_meet_18 : decode cX11_meet 18 = .ok (.astore 5, 2) := by decide +kernel
theorem dX11_meet_20 : decode cX11_meet 20 = .ok (.aload 4, 2) := by decide +kernel
theorem dX11_meet_22 : decode cX11_meet 22 = .ok (.ifnull 8, 3) := by decide +kernel
theorem dX11_meet_25 : decode cX11_meet 25 = .ok (.aload 5, 2) := by decide +kernel
theorem dX11_meet_27 : decode cX11_meet 27 = .ok (.ifnonnull 5, 3) := by decide +kernel
theorem dX11_meet_30 : decode cX11_meet 30 = .ok (.iconst (-1), 1) := by decide +kernel
theorem dX11_meet_31 : decode cX11_meet 31 = .ok (.ireturn, 1) := by decide +kernel
theorem dX11_meet_32 : decode cX11_meet 32 = .ok (.aload_n 0, 1) := by decide +kernel
theorem dX11_meet_33 : decode cX11_meet 33 = .ok (.getfield 40, 3) := by decide +kernel
theorem dX11_meet_36 : decode cX11_meet 36 = .ok (.aload 4, 2) := by decide +kernel
theorem dX11_meet_38 : decode cX11_meet 38 = .ok (.aload 4, 2) := by decide +kernel
theorem dX11_meet_40 : decode cX11_meet 40 = .ok (.invokevirtual 151, 3) := by decide +kernel
theorem dX11_meet_43 : decode cX11_meet 43 = .ok (.aload_n 0, 1) := by decide +kernel
theorem dX11_meet_44 : decode cX11_meet 44 = .ok (.getfield 44, 3) := by decide +kernel
theorem dX11_meet_47 : decode cX11_meet 47 = .ok (.aload 5, 2) := by decide +kernel
theorem dX11_meet_49 : decode cX11_meet 49 = .ok (.aload 4, 2) := by decide +kernel
theorem dX11_meet_51 : decode cX11_meet 51 = .ok (.invokevirtual 151, 3) := by decide +kernel
theorem dX11_meet_54 : decode cX11_meet 54 = .ok (.aload 4, 2) := by decide +kernel
theorem dX11_meet_56 : decode cX11_meet 56 = .ok (.aload 5, 2) := by decide +kernel
theorem dX11_meet_58 : decode cX11_meet 58 = .ok (.aload_n 0, 1) := by decide +kernel
theorem dX11_meet_59 : decode cX11_meet 59 = .ok (.getfield 44, 3) := by decide +kernel
theorem dX11_meet_62 : decode cX11_meet 62 = .ok (.getfield 281, 3) := by decide +kernel
theorem dX11_meet_65 : decode cX11_meet 65 = .ok (.aload_n 0, 1) := by decide +kernel
theorem dX11_meet_66 : decode cX11_meet 66 = .ok (.getfield 44, 3) := by decide +kernel
theorem dX11_meet_69 : decode cX11_meet 69 = .ok (.getfield 284, 3) := by decide +kernel
theorem dX11_meet_72 : decode cX11_meet 72 = .ok (.invokevirtual 287, 3) := by decide +kernel
theorem dX11_meet_75 : decode cX11_meet 75 = .ok (.ifCond .ne 5, 3) := by decide +kernel
theorem dX11_meet_78 : decode cX11_meet 78 = .ok (.iconst (-1), 1) := by decide +kernel
theorem dX11_meet_79 : decode cX11_meet 79 = .ok (.ireturn, 1) := by decide +kernel
theorem dX11_meet_80 : decode cX11_meet 80 = .ok (.iconst 0, 1) := by decide +kernel
theorem dX11_meet_81 : decode cX11_meet 81 = .ok (.istore 6, 2) := by decide +kernel
theorem dX11_meet_83 : decode cX11_meet 83 = .ok (.iload 6, 2) := by decide +kernel
theorem dX11_meet_85 : decode cX11_meet 85 = .ok (.bipush 40, 2) := by decide +kernel
theorem dX11_meet_87 : decode cX11_meet 87 = .ok (.if_icmp .gt 41, 3) := by decide +kernel
theorem dX11_meet_90 : decode cX11_meet 90 = .ok (.aload_n 0, 1) := by decide +kernel
theorem dX11_meet_91 : decode cX11_meet 91 = .ok (.getfield 40, 3) := by decide +kernel
theorem dX11_meet_94 : decode cX11_meet 94 = .ok (.aload_n 0, 1) := by decide +kernel
theorem dX11_meet_95 : decode cX11_meet 95 = .ok (.getfield 44, 3) := by decide +kernel
theorem dX11_meet_98 : decode cX11_meet 98 = .ok (.iload_n 3, 1) := by decide +kernel
theorem dX11_meet_99 : decode cX11_meet 99 = .ok (.invokevirtual 291, 3) := by decide +kernel
theorem dX11_meet_102 : decode cX11_meet 102 = .ok (.ifCond .eq 6, 3) := by decide +kernel
theorem dX11_meet_105 : decode cX11_meet 105 = .ok (.iload 6, 2) := by decide +kernel
theorem dX11_meet_107 : decode cX11_meet 107 = .ok (.ireturn, 1) := by decide +kernel
theorem dX11_meet_108 : decode cX11_meet 108 = .ok (.aload_n 0, 1) := by decide +kernel
theorem dX11_meet_109 : decode cX11_meet 109 = .ok (.getfield 40, 3) := by decide +kernel
theorem dX11_meet_112 : decode cX11_meet 112 = .ok (.invokevirtual 295, 3) := by decide +kernel
theorem dX11_meet_115 : decode cX11_meet 115 = .ok (.aload_n 0, 1) := by decide +kernel
theorem dX11_meet_116 : decode cX11_meet 116 = .ok (.getfield 44, 3) := by decide +kernel
theorem dX11_meet_119 : decode cX11_meet 119 = .ok (.invokevirtual 295, 3) := by decide +kernel
theorem dX11_meet_122 : decode cX11_meet 122 = .ok (.iinc 6 1, 3) := by decide +kernel
theorem dX11_meet_125 : decode cX11_meet 125 = .ok (.goto (-42), 3) := by decide +kernel
theorem dX11_meet_128 : decode cX11_meet 128 = .ok (.iconst (-1), 1) := by decide +kernel
theorem dX11_meet_129 : decode cX11_meet 129 = .ok (.ireturn, 1) := by decide +kernel
theorem dX11_drawn_0 : decode cX11_drawn 0 = .ok (.aload_n 0, 1) := by decide +kernel
theorem dX11_drawn_1 : decode cX11_drawn 1 = .ok (.getfield 10, 3) := by decide +kernel
theorem dX11_drawn_4 : decode cX11_drawn 4 = .ok (.iload_n 1, 1) := by decide +kernel
theorem dX11_drawn_5 : decode cX11_drawn 5 = .ok (.invokevirtual 114, 3) := by decide +kernel
theorem dX11_drawn_8 : decode cX11_drawn 8 = .ok (.astore 5, 2) := by decide +kernel
theorem dX11_drawn_10 : decode cX11_drawn 10 = .ok (.aload 5, 2) := by decide +kernel
theorem dX11_drawn_12 : decode cX11_drawn 12 = .ok (.ifnull 25, 3) := by decide +kernel
theorem dX11_drawn_15 : decode cX11_drawn 15 = .ok (.iload_n 3, 1) := by decide +kernel
theorem dX11_drawn_16 : decode cX11_drawn 16 = .ok (.iconst 1, 1) := by decide +kernel
theorem dX11_drawn_17 : decode cX11_drawn 17 = .ok (.if_icmp .lt 20, 3) := by decide +kernel
theorem dX11_drawn_20 : decode cX11_drawn 20 = .ok (.iload_n 3, 1) := by decide +kernel
theorem dX11_drawn_21 : decode cX11_drawn 21 = .ok (.bipush 40, 2) := by decide +kernel
theorem dX11_drawn_23 : decode cX11_drawn 23 = .ok (.if_icmp .gt 14, 3) := by decide +kernel
theorem dX11_drawn_26 : decode cX11_drawn 26 = .ok (.iload 4, 2) := by decide +kernel
theorem dX11_drawn_28 : decode cX11_drawn 28 = .ok (.ifCond .lt 9, 3) := by decide +kernel
theorem dX11_drawn_31 : decode cX11_drawn 31 = .ok (.iload 4, 2) := by decide +kernel
theorem dX11_drawn_33 : decode cX11_drawn 33 = .ok (.iconst 4, 1) := by decide +kernel
theorem dX11_drawn_34 : decode cX11_drawn 34 = .ok (.if_icmp .le 6, 3) := by decide +kernel
theorem dX11_drawn_37 : decode cX11_drawn 37 = .ok (.bipush (-2), 2) := by decide +kernel
theorem dX11_drawn_39 : decode cX11_drawn 39 = .ok (.ireturn, 1) := by decide +kernel
theorem dX11_drawn_40 : decode cX11_drawn 40 = .ok (.aload_n 0, 1) := by decide +kernel
theorem dX11_drawn_41 : decode cX11_drawn 41 = .ok (.getfield 40, 3) := by decide +kernel
theorem dX11_drawn_44 : decode cX11_drawn 44 = .ok (.aload 5, 2) := by decide +kernel
theorem dX11_drawn_46 : decode cX11_drawn 46 = .ok (.aload 5, 2) := by decide +kernel
theorem dX11_drawn_48 : decode cX11_drawn 48 = .ok (.invokevirtual 151, 3) := by decide +kernel
theorem dX11_drawn_51 : decode cX11_drawn 51 = .ok (.aload_n 0, 1) := by decide +kernel
theorem dX11_drawn_52 : decode cX11_drawn 52 = .ok (.getfield 40, 3) := by decide +kernel
theorem dX11_drawn_55 : decode cX11_drawn 55 = .ok (.iload_n 2, 1) := by decide +kernel
theorem dX11_drawn_56 : decode cX11_drawn 56 = .ok (.iload_n 3, 1) := by decide +kernel
theorem dX11_drawn_57 : decode cX11_drawn 57 = .ok (.invokevirtual 298, 3) := by decide +kernel
theorem dX11_drawn_60 : decode cX11_drawn 60 = .ok (.iload 4, 2) := by decide +kernel
theorem dX11_drawn_62 : decode cX11_drawn 62 = .ok (.tableswitch 62 0 3 #[30, 38, 46, 54], 30) := by decide +kernel
theorem dX11_drawn_92 : decode cX11_drawn 92 = .ok (.aload_n 0, 1) := by decide +kernel
theorem dX11_drawn_93 : decode cX11_drawn 93 = .ok (.getfield 40, 3) := by decide +kernel
theorem dX11_drawn_96 : decode cX11_drawn 96 = .ok (.getfield 281, 3) := by decide +kernel
theorem dX11_drawn_99 : decode cX11_drawn 99 = .ok (.ireturn, 1) := by decide +kernel
theorem dX11_drawn_100 : decode cX11_drawn 100 = .ok (.aload_n 0, 1) := by decide +kernel
theorem dX11_drawn_101 : decode cX11_drawn 101 = .ok (.getfield 40, 3) := by decide +kernel
theorem dX11_drawn_104 : decode cX11_drawn 104 = .ok (.getfield 284, 3) := by decide +kernel
theorem dX11_drawn_107 : decode cX11_drawn 107 = .ok (.ireturn, 1) := by decide +kernel
theorem dX11_drawn_108 : decode cX11_drawn 108 = .ok (.aload_n 0, 1) := by decide +kernel
theorem dX11_drawn_109 : decode cX11_drawn 109 = .ok (.getfield 40, 3) := by decide +kernel
theorem dX11_drawn_112 : decode cX11_drawn 112 = .ok (.getfield 302, 3) := by decide +kernel
theorem dX11_drawn_115 : decode cX11_drawn 115 = .ok (.ireturn, 1) := by decide +kernel
theorem dX11_drawn_116 : decode cX11_drawn 116 = .ok (.aload_n 0, 1) := by decide +kernel
theorem dX11_drawn_117 : decode cX11_drawn 117 = .ok (.getfield 40, 3) := by decide +kernel
theorem dX11_drawn_120 : decode cX11_drawn 120 = .ok (.getfield 305, 3) := by decide +kernel
theorem dX11_drawn_123 : decode cX11_drawn 123 = .ok (.ireturn, 1) := by decide +kernel
theorem dX11_drawn_124 : decode cX11_drawn 124 = .ok (.aload_n 0, 1) := by decide +kernel
theorem dX11_drawn_125 : decode cX11_drawn 125 = .ok (.getfield 40, 3) := by decide +kernel
theorem dX11_drawn_128 : decode cX11_drawn 128 = .ok (.getfield 308, 3) := by decide +kernel
theorem dX11_drawn_131 : decode cX11_drawn 131 = .ok (.ifCond .eq 7, 3) := by decide +kernel
theorem dX11_drawn_134 : decode cX11_drawn 134 = .ok (.iconst 1, 1) := by decide +kernel
theorem dX11_drawn_135 : decode cX11_drawn 135 = .ok (.goto 4, 3) := by decide +kernel
theorem dX11_drawn_138 : decode cX11_drawn 138 = .ok (.iconst 0, 1) := by decide +kernel
theorem dX11_drawn_139 : decode cX11_drawn 139 = .ok (.ireturn, 1) := by decide +kernel
theorem dX11_trim_0 : decode cX11_trim 0 = .ok (.aload_n 0, 1) := by decide +kernel
theorem dX11_trim_1 : decode cX11_trim 1 = .ok (.getfield 10, 3) := by decide +kernel
theorem dX11_trim_4 : decode cX11_trim 4 = .ok (.iload_n 1, 1) := by decide +kernel
theorem dX11_trim_5 : decode cX11_trim 5 = .ok (.invokevirtual 114, 3) := by decide +kernel
theorem dX11_trim_8 : decode cX11_trim 8 = .ok (.astore_n 3, 1) := by decide +kernel
theorem dX11_trim_9 : decode cX11_trim 9 = .ok (.aload_n 3, 1) := by decide +kernel
theorem dX11_trim_10 : decode cX11_trim 10 = .ok (.ifnonnull 5, 3) := by decide +kernel
theorem dX11_trim_13 : decode cX11_trim 13 = .ok (.iconst (-1), 1) := by decide +kernel
theorem dX11_trim_14 : decode cX11_trim 14 = .ok (.ireturn, 1) := by decide +kernel
theorem dX11_trim_15 : decode cX11_trim 15 = .ok (.iload_n 2, 1) := by decide +kernel
theorem dX11_trim_16 : decode cX11_trim 16 = .ok (.ifCond .eq 8, 3) := by decide +kernel
theorem dX11_trim_19 : decode cX11_trim 19 = .ok (.iload_n 2, 1) := by decide +kernel
theorem dX11_trim_20 : decode cX11_trim 20 = .ok (.iconst 1, 1) := by decide +kernel
theorem dX11_trim_21 : decode cX11_trim 21 = .ok (.if_icmp .ne 11, 3) := by decide +kernel
theorem dX11_trim_24 : decode cX11_trim 24 = .ok (.aload_n 3, 1) := by decide +kernel
theorem dX11_trim_25 : decode cX11_trim 25 = .ok (.iconst 1, 1) := by decide +kernel
theorem dX11_trim_26 : decode cX11_trim 26 = .ok (.iload_n 2, 1) := by decide +kernel
theorem dX11_trim_27 : decode cX11_trim 27 = .ok (.isub, 1) := by decide +kernel
theorem dX11_trim_28 : decode cX11_trim 28 = .ok (.invokevirtual 312, 3) := by decide +kernel
theorem dX11_trim_31 : decode cX11_trim 31 = .ok (.ireturn, 1) := by decide +kernel
theorem dX11_trim_32 : decode cX11_trim 32 = .ok (.iload_n 2, 1) := by decide +kernel
theorem dX11_trim_33 : decode cX11_trim 33 = .ok (.iconst 2, 1) := by decide +kernel
theorem dX11_trim_34 : decode cX11_trim 34 = .ok (.if_icmp .ne 8, 3) := by decide +kernel
theorem dX11_trim_37 : decode cX11_trim 37 = .ok (.aload_n 3, 1) := by decide +kernel
theorem dX11_trim_38 : decode cX11_trim 38 = .ok (.invokevirtual 315, 3) := by decide +kernel
theorem dX11_trim_41 : decode cX11_trim 41 = .ok (.ireturn, 1) := by decide +kernel
theorem dX11_trim_42 : decode cX11_trim 42 = .ok (.iload_n 2, 1) := by decide +kernel
theorem dX11_trim_43 : decode cX11_trim 43 = .ok (.bipush 10, 2) := by decide +kernel
theorem dX11_trim_45 : decode cX11_trim 45 = .ok (.if_icmp .lt 28, 3) := by decide +kernel
theorem dX11_trim_48 : decode cX11_trim 48 = .ok (.aload_n 3, 1) := by decide +kernel
theorem dX11_trim_49 : decode cX11_trim 49 = .ok (.getfield 248, 3) := by decide +kernel
theorem dX11_trim_52 : decode cX11_trim 52 = .ok (.iload_n 2, 1) := by decide +kernel
theorem dX11_trim_53 : decode cX11_trim 53 = .ok (.bipush 10, 2) := by decide +kernel
theorem dX11_trim_55 : decode cX11_trim 55 = .ok (.isub, 1) := by decide +kernel
theorem dX11_trim_56 : decode cX11_trim 56 = .ok (.invokevirtual 137, 3) := by decide +kernel
theorem dX11_trim_59 : decode cX11_trim 59 = .ok (.ifCond .eq 14, 3) := by decide +kernel
theorem dX11_trim_62 : decode cX11_trim 62 = .ok (.aload_n 3, 1) := by decide +kernel
theorem dX11_trim_63 : decode cX11_trim 63 = .ok (.iload_n 2, 1) := by decide +kernel
theorem dX11_trim_64 : decode cX11_trim 64 = .ok (.bipush 10, 2) := by decide +kernel
theorem dX11_trim_66 : decode cX11_trim 66 = .ok (.isub, 1) := by decide +kernel
theorem dX11_trim_67 : decode cX11_trim 67 = .ok (.invokevirtual 318, 3) := by decide +kernel
theorem dX11_trim_70 : decode cX11_trim 70 = .ok (.goto 4, 3) := by decide +kernel
theorem dX11_trim_73 : decode cX11_trim 73 = .ok (.iconst (-1), 1) := by decide +kernel
theorem dX11_trim_74 : decode cX11_trim 74 = .ok (.ireturn, 1) := by decide +kernel
theorem dX11_isIn_0 : decode cX11_isIn 0 = .ok (.iload_n 0, 1) := by decide +kernel
theorem dX11_isIn_1 : decode cX11_isIn 1 = .ok (.iload_n 1, 1) := by decide +kernel
theorem dX11_isIn_2 : decode cX11_isIn 2 = .ok (.ishr, 1) := by decide +kernel
theorem dX11_isIn_3 : decode cX11_isIn 3 = .ok (.iconst 1, 1) := by decide +kernel
theorem dX11_isIn_4 : decode cX11_isIn 4 = .ok (.iand, 1) := by decide +kernel
theorem dX11_isIn_5 : decode cX11_isIn 5 = .ok (.iconst 1, 1) := by decide +kernel
theorem dX11_isIn_6 : decode cX11_isIn 6 = .ok (.if_icmp .ne 7, 3) := by decide +kernel
theorem dX11_isIn_9 : decode cX11_isIn 9 = .ok (.iconst 1, 1) := by decide +kernel
theorem dX11_isIn_10 : decode cX11_isIn 10 = .ok (.goto 4, 3) := by decide +kernel
theorem dX11_isIn_13 : decode cX11_isIn 13 = .ok (.iconst 0, 1) := by decide +kernel
theorem dX11_isIn_14 : decode cX11_isIn 14 = .ok (.ireturn, 1) := by decide +kernel
