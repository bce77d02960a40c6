theorem dX6_init_0 : decode cX6_init 0 = .ok (.aload_n 0, 1) := by decide +kernel
theorem dX6_init_1 : decode cX6_init 1 = .ok (.invokespecial 3, 3) := by decide +kernel
theorem dX6_init_4 : decode cX6_init 4 = .ok (.aload_n 0, 1) := by decide +kernel
theorem dX6_init_5 : decode cX6_init 5 = .ok (.bipush 40, 2) := by decide +kernel
theorem dX6_init_7 : decode cX6_init 7 = .ok (.newarray .int, 2) := by decide +kernel
theorem dX6_init_9 : decode cX6_init 9 = .ok (.putfield 9, 3) := by decide +kernel
theorem dX6_init_12 : decode cX6_init 12 = .ok (.aload_n 0, 1) := by decide +kernel
theorem dX6_init_13 : decode cX6_init 13 = .ok (.bipush 40, 2) := by decide +kernel
theorem dX6_init_15 : decode cX6_init 15 = .ok (.newarray .int, 2) := by decide +kernel
theorem dX6_init_17 : decode cX6_init 17 = .ok (.putfield 15, 3) := by decide +kernel
theorem dX6_init_20 : decode cX6_init 20 = .ok (.aload_n 0, 1) := by decide +kernel
theorem dX6_init_21 : decode cX6_init 21 = .ok (.invokevirtual 18, 3) := by decide +kernel
theorem dX6_init_24 : decode cX6_init 24 = .ok (.return_, 1) := by decide +kernel
theorem dX6_usePlain_0 : decode cX6_usePlain 0 = .ok (.getstatic 21, 3) := by decide +kernel
theorem dX6_usePlain_3 : decode cX6_usePlain 3 = .ok (.iconst 0, 1) := by decide +kernel
theorem dX6_usePlain_4 : decode cX6_usePlain 4 = .ok (.aload_n 0, 1) := by decide +kernel
theorem dX6_usePlain_5 : decode cX6_usePlain 5 = .ok (.getfield 9, 3) := by decide +kernel
theorem dX6_usePlain_8 : decode cX6_usePlain 8 = .ok (.iconst 0, 1) := by decide +kernel
theorem dX6_usePlain_9 : decode cX6_usePlain 9 = .ok (.getstatic 21, 3) := by decide +kernel
theorem dX6_usePlain_12 : decode cX6_usePlain 12 = .ok (.arraylength, 1) := by decide +kernel
theorem dX6_usePlain_13 : decode cX6_usePlain 13 = .ok (.invokestatic 24, 3) := by decide +kernel
theorem dX6_usePlain_16 : decode cX6_usePlain 16 = .ok (.aload_n 0, 1) := by decide +kernel
theorem dX6_usePlain_17 : decode cX6_usePlain 17 = .ok (.getstatic 21, 3) := by decide +kernel
theorem dX6_usePlain_20 : decode cX6_usePlain 20 = .ok (.arraylength, 1) := by decide +kernel
theorem dX6_usePlain_21 : decode cX6_usePlain 21 = .ok (.putfield 30, 3) := by decide +kernel
theorem dX6_usePlain_24 : decode cX6_usePlain 24 = .ok (.return_, 1) := by decide +kernel
theorem dX6_read_0 : decode cX6_read 0 = .ok (.aload_n 1, 1) := by decide +kernel
theorem dX6_read_1 : decode cX6_read 1 = .ok (.getfield 34, 3) := by decide +kernel
theorem dX6_read_4 : decode cX6_read 4 = .ok (.ifCond .ne 9, 3) := by decide +kernel
theorem dX6_read_7 : decode cX6_read 7 = .ok (.aload_n 0, 1) := by decide +kernel
theorem dX6_read_8 : decode cX6_read 8 = .ok (.invokevirtual 18, 3) := by decide +kernel
theorem dX6_read_11 : decode cX6_read 11 = .ok (.iconst (-1), 1) := by decide +kernel
theorem dX6_read_12 : decode cX6_read 12 = .ok (.ireturn, 1) := by decide +kernel
theorem dX6_read_13 : decode cX6_read 13 = .ok (.aload_n 0, 1) := by decide +kernel
theorem dX6_read_14 : decode cX6_read 14 = .ok (.iconst 0, 1) := by decide +kernel
theorem dX6_read_15 : decode cX6_read 15 = .ok (.putfield 30, 3) := by decide +kernel
theorem dX6_read_18 : decode cX6_read 18 = .ok (.aload_n 0, 1) := by decide +kernel
theorem dX6_read_19 : decode cX6_read 19 = .ok (.iconst (-1), 1) := by decide +kernel
theorem dX6_read_20 : decode cX6_read 20 = .ok (.putfield 37, 3) := by decide +kernel
theorem dX6_read_23 : decode cX6_read 23 = .ok (.aload_n 0, 1) := by decide +kernel
theorem dX6_read_24 : decode cX6_read 24 = .ok (.iconst (-1), 1) := by decide +kernel
theorem dX6_read_25 : decode cX6_read 25 = .ok (.putfield 40, 3) := by decide +kernel
theorem dX6_read_28 : decode cX6_read 28 = .ok (.aload_n 0, 1) := by decide +kernel
theorem dX6_read_29 : decode cX6_read 29 = .ok (.aload_n 1, 1) := by decide +kernel
theorem dX6_read_30 : decode cX6_read 30 = .ok (.invokevirtual 43, 3) := by decide +kernel
theorem dX6_read_33 : decode cX6_read 33 = .ok (.aload_n 0, 1) := by decide +kernel
theorem dX6_read_34 : decode cX6_read 34 = .ok (.aload_n 1, 1) := by decide +kernel
theorem dX6_read_35 : decode cX6_read 35 = .ok (.iconst 0, 1) := by decide +kernel
theorem dX6_read_36 : decode cX6_read 36 = .ok (.invokevirtual 47, 3) := by decide +kernel
theorem dX6_read_39 : decode cX6_read 39 = .ok (.aload_n 0, 1) := by decide +kernel
theorem dX6_read_40 : decode cX6_read 40 = .ok (.getfield 37, 3) := by decide +kernel
theorem dX6_read_43 : decode cX6_read 43 = .ok (.iconst (-1), 1) := by decide +kernel
theorem dX6_read_44 : decode cX6_read 44 = .ok (.if_icmp .ne 22, 3) := by decide +kernel
theorem dX6_read_47 : decode cX6_read 47 = .ok (.aload_n 0, 1) := by decide +kernel
theorem dX6_read_48 : decode cX6_read 48 = .ok (.getfield 40, 3) := by decide +kernel
theorem dX6_read_51 : decode cX6_read 51 = .ok (.aload_n 1, 1) := by decide +kernel
theorem dX6_read_52 : decode cX6_read 52 = .ok (.getfield 34, 3) := by decide +kernel
theorem dX6_read_55 : decode cX6_read 55 = .ok (.if_icmp .ge 11, 3) := by decide +kernel
theorem dX6_read_58 : decode cX6_read 58 = .ok (.aload_n 0, 1) := by decide +kernel
theorem dX6_read_59 : decode cX6_read 59 = .ok (.aload_n 0, 1) := by decide +kernel
theorem dX6_read_60 : decode cX6_read 60 = .ok (.getfield 40, 3) := by decide +kernel
theorem dX6_read_63 : decode cX6_read 63 = .ok (.putfield 37, 3) := by decide +kernel
theorem dX6_read_66 : decode cX6_read 66 = .ok (.aload_n 0, 1) := by decide +kernel
theorem dX6_read_67 : decode cX6_read 67 = .ok (.getfield 37, 3) := by decide +kernel
theorem dX6_read_70 : decode cX6_read 70 = .ok (.ireturn, 1) := by decide +kernel
theorem dX6_readComparison_0 : decode cX6_readComparison 0 = .ok (.aload_n 0, 1) := by decide +kernel
theorem dX6_readComparison_1 : decode cX6_readComparison 1 = .ok (.aload_n 1, 1) := by decide +kernel
theorem dX6_readComparison_2 : decode cX6_readComparison 2 = .ok (.iload_n 2, 1) := by decide +kernel
theorem dX6_readComparison_3 : decode cX6_readComparison 3 = .ok (.invokevirtual 51, 3) := by decide +kernel
theorem dX6_readComparison_6 : decode cX6_readComparison 6 = .ok (.aload_n 0, 1) := by decide +kernel
theorem dX6_readComparison_7 : decode cX6_readComparison 7 = .ok (.getfield 54, 3) := by decide +kernel
theorem dX6_readComparison_10 : decode cX6_readComparison 10 = .ok (.istore_n 3, 1) := by decide +kernel
theorem dX6_readComparison_11 : decode cX6_readComparison 11 = .ok (.iload_n 3, 1) := by decide +kernel
theorem dX6_readComparison_12 : decode cX6_readComparison 12 = .ok (.bipush 60, 2) := by decide +kernel
theorem dX6_readComparison_14 : decode cX6_readComparison 14 = .ok (.if_icmp .eq 15, 3) := by decide +kernel
theorem dX6_readComparison_17 : decode cX6_readComparison 17 = .ok (.iload_n 3, 1) := by decide +kernel
theorem dX6_readComparison_18 : decode cX6_readComparison 18 = .ok (.bipush 62, 2) := by decide +kernel
theorem dX6_readComparison_20 : decode cX6_readComparison 20 = .ok (.if_icmp .eq 9, 3) := by decide +kernel
theorem dX6_readComparison_23 : decode cX6_readComparison 23 = .ok (.iload_n 3, 1) := by decide +kernel
theorem dX6_readComparison_24 : decode cX6_readComparison 24 = .ok (.bipush 61, 2) := by decide +kernel
theorem dX6_readComparison_26 : decode cX6_readComparison 26 = .ok (.if_icmp .ne 42, 3) := by decide +kernel
theorem dX6_readComparison_29 : decode cX6_readComparison 29 = .ok (.aload_n 0, 1) := by decide +kernel
theorem dX6_readComparison_30 : decode cX6_readComparison 30 = .ok (.aload_n 1, 1) := by decide +kernel
theorem dX6_readComparison_31 : decode cX6_readComparison 31 = .ok (.invokevirtual 43, 3) := by decide +kernel
theorem dX6_readComparison_34 : decode cX6_readComparison 34 = .ok (.aload_n 0, 1) := by decide +kernel
theorem dX6_readComparison_35 : decode cX6_readComparison 35 = .ok (.aload_n 1, 1) := by decide +kernel
theorem dX6_readComparison_36 : decode cX6_readComparison 36 = .ok (.iload_n 2, 1) := by decide +kernel
theorem dX6_readComparison_37 : decode cX6_readComparison 37 = .ok (.invokevirtual 51, 3) := by decide +kernel
theorem dX6_readComparison_40 : decode cX6_readComparison 40 = .ok (.aload_n 0, 1) := by decide +kernel
theorem dX6_readComparison_41 : decode cX6_readComparison 41 = .ok (.iload_n 3, 1) := by decide +kernel
theorem dX6_readComparison_42 : decode cX6_readComparison 42 = .ok (.bipush 60, 2) := by decide +kernel
theorem dX6_readComparison_44 : decode cX6_readComparison 44 = .ok (.if_icmp .ne 8, 3) := by decide +kernel
theorem dX6_readComparison_47 : decode cX6_readComparison 47 = .ok (.bipush (-5), 2) := by decide +kernel
theorem dX6_readComparison_49 : decode cX6_readComparison 49 = .ok (.goto 16, 3) := by decide +kernel
theorem dX6_readComparison_52 : decode cX6_readComparison 52 = .ok (.iload_n 3, 1) := by decide +kernel
theorem dX6_readComparison_53 : decode cX6_readComparison 53 = .ok (.bipush 62, 2) := by decide +kernel
theorem dX6_readComparison_55 : decode cX6_readComparison 55 = .ok (.if_icmp .ne 8, 3) := by decide +kernel
theorem dX6_readComparison_58 : decode cX6_readComparison 58 = .ok (.bipush (-6), 2) := by decide +kernel
theorem dX6_readComparison_60 : decode cX6_readComparison 60 = .ok (.goto 5, 3) := by decide +kernel
theorem dX6_readComparison_63 : decode cX6_readComparison 63 = .ok (.bipush (-7), 2) := by decide +kernel
theorem dX6_readComparison_65 : decode cX6_readComparison 65 = .ok (.invokevirtual 57, 3) := by decide +kernel
theorem dX6_readComparison_68 : decode cX6_readComparison 68 = .ok (.return_, 1) := by decide +kernel
theorem dX6_readSum_0 : decode cX6_readSum 0 = .ok (.aload_n 0, 1) := by decide +kernel
theorem dX6_readSum_1 : decode cX6_readSum 1 = .ok (.aload_n 1, 1) := by decide +kernel
theorem dX6_readSum_2 : decode cX6_readSum 2 = .ok (.iload_n 2, 1) := by decide +kernel
theorem dX6_readSum_3 : decode cX6_readSum 3 = .ok (.invokevirtual 61, 3) := by decide +kernel
theorem dX6_readSum_6 : decode cX6_readSum 6 = .ok (.iconst 0, 1) := by decide +kernel
theorem dX6_readSum_7 : decode cX6_readSum 7 = .ok (.istore_n 3, 1) := by decide +kernel
theorem dX6_readSum_8 : decode cX6_readSum 8 = .ok (.iload_n 3, 1) := by decide +kernel
theorem dX6_readSum_9 : decode cX6_readSum 9 = .ok (.bipush 40, 2) := by decide +kernel
theorem dX6_readSum_11 : decode cX6_readSum 11 = .ok (.if_icmp .ge 61, 3) := by decide +kernel
theorem dX6_readSum_14 : decode cX6_readSum 14 = .ok (.aload_n 0, 1) := by decide +kernel
theorem dX6_readSum_15 : decode cX6_readSum 15 = .ok (.getfield 54, 3) := by decide +kernel
theorem dX6_readSum_18 : decode cX6_readSum 18 = .ok (.bipush 43, 2) := by decide +kernel
theorem dX6_readSum_20 : decode cX6_readSum 20 = .ok (.if_icmp .eq 12, 3) := by decide +kernel
theorem dX6_readSum_23 : decode cX6_readSum 23 = .ok (.aload_n 0, 1) := by decide +kernel
theorem dX6_readSum_24 : decode cX6_readSum 24 = .ok (.getfield 54, 3) := by decide +kernel
theorem dX6_readSum_27 : decode cX6_readSum 27 = .ok (.bipush 45, 2) := by decide +kernel
theorem dX6_readSum_29 : decode cX6_readSum 29 = .ok (.if_icmp .ne 43, 3) := by decide +kernel
theorem dX6_readSum_32 : decode cX6_readSum 32 = .ok (.aload_n 0, 1) := by decide +kernel
theorem dX6_readSum_33 : decode cX6_readSum 33 = .ok (.getfield 54, 3) := by decide +kernel
theorem dX6_readSum_36 : decode cX6_readSum 36 = .ok (.istore 4, 2) := by decide +kernel
theorem dX6_readSum_38 : decode cX6_readSum 38 = .ok (.aload_n 0, 1) := by decide +kernel
theorem dX6_readSum_39 : decode cX6_readSum 39 = .ok (.aload_n 1, 1) := by decide +kernel
theorem dX6_readSum_40 : decode cX6_readSum 40 = .ok (.invokevirtual 43, 3) := by decide +kernel
theorem dX6_readSum_43 : decode cX6_readSum 43 = .ok (.aload_n 0, 1) := by decide +kernel
theorem dX6_readSum_44 : decode cX6_readSum 44 = .ok (.aload_n 1, 1) := by decide +kernel
theorem dX6_readSum_45 : decode cX6_readSum 45 = .ok (.iload_n 2, 1) := by decide +kernel
theorem dX6_readSum_46 : decode cX6_readSum 46 = .ok (.invokevirtual 61, 3) := by decide +kernel
theorem dX6_readSum_49 : decode cX6_readSum 49 = .ok (.aload_n 0, 1) := by decide +kernel
theorem dX6_readSum_50 : decode cX6_readSum 50 = .ok (.iload 4, 2) := by decide +kernel
theorem dX6_readSum_52 : decode cX6_readSum 52 = .ok (.bipush 43, 2) := by decide +kernel
theorem dX6_readSum_54 : decode cX6_readSum 54 = .ok (.if_icmp .ne 7, 3) := by decide +kernel
theorem dX6_readSum_57 : decode cX6_readSum 57 = .ok (.iconst (-1), 1) := by decide +kernel
theorem dX6_readSum_58 : decode cX6_readSum 58 = .ok (.goto 5, 3) := by decide +kernel
theorem dX6_readSum_61 : decode cX6_readSum 61 = .ok (.bipush (-2), 2) := by decide +kernel
theorem dX6_readSum_63 : decode cX6_readSum 63 = .ok (.invokevirtual 57, 3) := by decide +kernel
theorem dX6_readSum_66 : decode cX6_readSum 66 = .ok (.iinc 3 1, 3) := by decide +kernel
theorem dX6_readSum_69 : decode cX6_readSum 69 = .ok (.goto (-61), 3) := by decide +kernel
theorem dX6_readSum_72 : decode cX6_readSum 72 = .ok (.return_, 1) := by decide +kernel
theorem dX6_readProduct_0 : decode cX6_readProduct 0 = .ok (.aload_n 0, 1) := by decide +kernel
theorem dX6_readProduct_1 : decode cX6_readProduct 1 = .ok (.aload_n 1, 1) := by decide +kernel
theorem dX6_readProduct_2 : decode cX6_readProduct 2 = .ok (.iload_n 2, 1) := by decide +kernel
theorem dX6_readProduct_3 : decode cX6_readProduct 3 = .ok (.invokevirtual 64, 3) := by decide +kernel
theorem dX6_readProduct_6 : decode cX6_readProduct 6 = .ok (.iconst 0, 1) := by decide +kernel
theorem dX6_readProduct_7 : decode cX6_readProduct 7 = .ok (.istore_n 3, 1) := by decide +kernel
theorem dX6_readProduct_8 : decode cX6_readProduct 8 = .ok (.iload_n 3, 1) := by decide +kernel
theorem dX6_readProduct_9 : decode cX6_readProduct 9 = .ok (.bipush 40, 2) := by decide +kernel
theorem dX6_readProduct_11 : decode cX6_readProduct 11 = .ok (.if_icmp .ge 62, 3) := by decide +kernel
theorem dX6_readProduct_14 : decode cX6_readProduct 14 = .ok (.aload_n 0, 1) := by decide +kernel
theorem dX6_readProduct_15 : decode cX6_readProduct 15 = .ok (.getfield 54, 3) := by decide +kernel
theorem dX6_readProduct_18 : decode cX6_readProduct 18 = .ok (.bipush 42, 2) := by decide +kernel
theorem dX6_readProduct_20 : decode cX6_readProduct 20 = .ok (.if_icmp .eq 12, 3) := by decide +kernel
theorem dX6_readProduct_23 : decode cX6_readProduct 23 = .ok (.aload_n 0, 1) := by decide +kernel
theorem dX6_readProduct_24 : decode cX6_readProduct 24 = .ok (.getfield 54, 3) := by decide +kernel
theorem dX6_readProduct_27 : decode cX6_readProduct 27 = .ok (.bipush 47, 2) := by decide +kernel
theorem dX6_readProduct_29 : decode cX6_readProduct 29 = .ok (.if_icmp .ne 44, 3) := by decide +kernel
theorem dX6_readProduct_32 : decode cX6_readProduct 32 = .ok (.aload_n 0, 1) := by decide +kernel
theorem dX6_readProduct_33 : decode cX6_readProduct 33 = .ok (.getfield 54, 3) := by decide +kernel
theorem dX6_readProduct_36 : decode cX6_readProduct 36 = .ok (.istore 4, 2) := by decide +kernel
theorem dX6_readProduct_38 : decode cX6_readProduct 38 = .ok (.aload_n 0, 1) := by decide +kernel
theorem dX6_readProduct_39 : decode cX6_readProduct 39 = .ok (.aload_n 1, 1) := by decide +kernel
theorem dX6_readProduct_40 : decode cX6_readProduct 40 = .ok (.invokevirtual 43, 3) := by decide +kernel
theorem dX6_readProduct_43 : decode cX6_readProduct 43 = .ok (.aload_n 0, 1) := by decide +kernel
theorem dX6_readProduct_44 : decode cX6_readProduct 44 = .ok (.aload_n 1, 1) := by decide +kernel
theorem dX6_readProduct_45 : decode cX6_readProduct 45 = .ok (.iload_n 2, 1) := by decide +kernel
theorem dX6_readProduct_46 : decode cX6_readProduct 46 = .ok (.invokevirtual 64, 3) := by decide +kernel
theorem dX6_readProduct_49 : decode cX6_readProduct 49 = .ok (.aload_n 0, 1) := by decide +kernel
theorem dX6_readProduct_50 : decode cX6_readProduct 50 = .ok (.iload 4, 2) := by decide +kernel
theorem dX6_readProduct_52 : decode cX6_readProduct 52 = .ok (.bipush 42, 2) := by decide +kernel
theorem dX6_readProduct_54 : decode cX6_readProduct 54 = .ok (.if_icmp .ne 8, 3) := by decide +kernel
theorem dX6_readProduct_57 : decode cX6_readProduct 57 = .ok (.bipush (-3), 2) := by decide +kernel
theorem dX6_readProduct_59 : decode cX6_readProduct 59 = .ok (.goto 5, 3) := by decide +kernel
theorem dX6_readProduct_62 : decode cX6_readProduct 62 = .ok (.bipush (-4), 2) := by decide +kernel
theorem dX6_readProduct_64 : decode cX6_readProduct 64 = .ok (.invokevirtual 57, 3) := by decide +kernel
theorem dX6_readProduct_67 : decode cX6_readProduct 67 = .ok (.iinc 3 1, 3) := by decide +kernel
theorem dX6_readProduct_70 : decode cX6_readProduct 70 = .ok (.goto (-62), 3) := by decide +kernel
theorem dX6_readProduct_73 : decode cX6_readProduct 73 = .ok (.return_, 1) := by decide +kernel
theorem dX6_readThing_0 : decode cX6_readThing 0 = .ok (.iconst 0, 1) := by decide +kernel
theorem dX6_readThing_1 : decode cX6_readThing 1 = .ok (.istore_n 3, 1) := by decide +kernel
theorem dX6_readThing_2 : decode cX6_readThing 2 = .ok (.iconst 0, 1) := by decide +kernel
theorem dX6_readThing_3 : decode cX6_readThing 3 = .ok (.istore 4, 2) := by decide +kernel
theorem dX6_readThing_5 : decode cX6_readThing 5 = .ok (.iload 4, 2) := by decide +kernel
theorem dX6_readThing_7 : decode cX6_readThing 7 = .ok (.bipush 40, 2) := by decide +kernel
theorem dX6_readThing_9 : decode cX6_readThing 9 = .ok (.if_icmp .ge 33, 3) := by decide +kernel
theorem dX6_readThing_12 : decode cX6_readThing 12 = .ok (.aload_n 0, 1) := by decide +kernel
theorem dX6_readThing_13 : decode cX6_readThing 13 = .ok (.getfield 54, 3) := by decide +kernel
theorem dX6_readThing_16 : decode cX6_readThing 16 = .ok (.bipush 45, 2) := by decide +kernel
theorem dX6_readThing_18 : decode cX6_readThing 18 = .ok (.if_icmp .ne 24, 3) := by decide +kernel
theorem dX6_readThing_21 : decode cX6_readThing 21 = .ok (.aload_n 0, 1) := by decide +kernel
theorem dX6_readThing_22 : decode cX6_readThing 22 = .ok (.aload_n 1, 1) := by decide +kernel
theorem dX6_readThing_23 : decode cX6_readThing 23 = .ok (.invokevirtual 43, 3) := by decide +kernel
theorem dX6_readThing_26 : decode cX6_readThing 26 = .ok (.iload_n 3, 1) := by decide +kernel
theorem dX6_readThing_27 : decode cX6_readThing 27 = .ok (.ifCond .ne 7, 3) := by decide +kernel
theorem dX6_readThing_30 : decode cX6_readThing 30 = .ok (.iconst 1, 1) := by decide +kernel
theorem dX6_readThing_31 : decode cX6_readThing 31 = .ok (.goto 4, 3) := by decide +kernel
theorem dX6_readThing_34 : decode cX6_readThing 34 = .ok (.iconst 0, 1) := by decide +kernel
theorem dX6_readThing_35 : decode cX6_readThing 35 = .ok (.istore_n 3, 1) := by decide +kernel
theorem dX6_readThing_36 : decode cX6_readThing 36 = .ok (.iinc 4 1, 3) := by decide +kernel
theorem dX6_readThing_39 : decode cX6_readThing 39 = .ok (.goto (-34), 3) := by decide +kernel
theorem dX6_readThing_42 : decode cX6_readThing 42 = .ok (.aload_n 0, 1) := by decide +kernel
theorem dX6_readThing_43 : decode cX6_readThing 43 = .ok (.getfield 54, 3) := by decide +kernel
theorem dX6_readThing_46 : decode cX6_readThing 46 = .ok (.invokestatic 67, 3) := by decide +kernel
theorem dX6_readThing_49 : decode cX6_readThing 49 = .ok (.ifCond .eq 11, 3) := by decide +kernel
theorem dX6_readThing_52 : decode cX6_readThing 52 = .ok (.aload_n 0, 1) := by decide +kernel
theorem dX6_readThing_53 : decode cX6_readThing 53 = .ok (.aload_n 1, 1) := by decide +kernel
theorem dX6_readThing_54 : decode cX6_readThing 54 = .ok (.invokevirtual 71, 3) := by decide +kernel
theorem dX6_readThing_57 : decode cX6_readThing 57 = .ok (.goto 89, 3) := by decide +kernel
theorem dX6_readThing_60 : decode cX6_readThing 60 = .ok (.aload_n 0, 1) := by decide +kernel
theorem dX6_readThing_61 : decode cX6_readThing 61 = .ok (.getfield 54, 3) := by decide +kernel
theorem dX6_readThing_64 : decode cX6_readThing 64 = .ok (.invokestatic 74, 3) := by decide +kernel
theorem dX6_readThing_67 : decode cX6_readThing 67 = .ok (.bipush (-9), 2) := by decide +kernel
theorem dX6_readThing_69 : decode cX6_readThing 69 = .ok (.if_icmp .eq 22, 3) := by decide +kernel
theorem dX6_readThing_72 : decode cX6_readThing 72 = .ok (.aload_n 0, 1) := by decide +kernel
theorem dX6_readThing_73 : decode cX6_readThing 73 = .ok (.aload_n 0, 1) := by decide +kernel
theorem dX6_readThing_74 : decode cX6_readThing 74 = .ok (.getfield 54, 3) := by decide +kernel
theorem dX6_readThing_77 : decode cX6_readThing 77 = .ok (.invokestatic 74, 3) := by decide +kernel
theorem dX6_readThing_80 : decode cX6_readThing 80 = .ok (.invokevirtual 57, 3) := by decide +kernel
theorem dX6_readThing_83 : decode cX6_readThing 83 = .ok (.aload_n 0, 1) := by decide +kernel
theorem dX6_readThing_84 : decode cX6_readThing 84 = .ok (.aload_n 1, 1) := by decide +kernel
theorem dX6_readThing_85 : decode cX6_readThing 85 = .ok (.invokevirtual 43, 3) := by decide +kernel
theorem dX6_readThing_88 : decode cX6_readThing 88 = .ok (.goto 58, 3) := by decide +kernel
theorem dX6_readThing_91 : decode cX6_readThing 91 = .ok (.aload_n 0, 1) := by decide +kernel
theorem dX6_readThing_92 : decode cX6_readThing 92 = .ok (.getfield 54, 3) := by decide +kernel
theorem dX6_readThing_95 : decode cX6_readThing 95 = .ok (.bipush 40, 2) := by decide +kernel
theorem dX6_readThing_97 : decode cX6_readThing 97 = .ok (.if_icmp .ne 45, 3) := by decide +kernel
theorem dX6_readThing_100 : decode cX6_readThing 100 = .ok (.iload_n 2, 1) := by decide +kernel
theorem dX6_readThing_101 : decode cX6_readThing 101 = .ok (.iconst 4, 1) := by decide +kernel
theorem dX6_readThing_102 : decode cX6_readThing 102 = .ok (.if_icmp .ge 40, 3) := by decide +kernel
theorem dX6_readThing_105 : decode cX6_readThing 105 = .ok (.aload_n 0, 1) := by decide +kernel
theorem dX6_readThing_106 : decode cX6_readThing 106 = .ok (.aload_n 1, 1) := by decide +kernel
theorem dX6_readThing_107 : decode cX6_readThing 107 = .ok (.invokevirtual 43, 3) := by decide +kernel
theorem dX6_readThing_110 : decode cX6_readThing 110 = .ok (.aload_n 0, 1) := by decide +kernel
theorem dX6_readThing_111 : decode cX6_readThing 111 = .ok (.aload_n 1, 1) := by decide +kernel
theorem dX6_readThing_112 : decode cX6_readThing 112 = .ok (.iload_n 2, 1) := by decide +kernel
theorem dX6_readThing_113 : decode cX6_readThing 113 = .ok (.iconst 1, 1) := by decide +kernel
theorem dX6_readThing_114 : decode cX6_readThing 114 = .ok (.iadd, 1) := by decide +kernel
theorem dX6_readThing_115 : decode cX6_readThing 115 = .ok (.invokevirtual 47, 3) := by decide +kernel
theorem dX6_readThing_118 : decode cX6_readThing 118 = .ok (.aload_n 0, 1) := by decide +kernel
theorem dX6_readThing_119 : decode cX6_readThing 119 = .ok (.getfield 54, 3) := by decide +kernel
theorem dX6_readThing_122 : decode cX6_readThing 122 = .ok (.bipush 41, 2) := by decide +kernel
theorem dX6_readThing_124 : decode cX6_readThing 124 = .ok (.if_icmp .ne 11, 3) := by decide +kernel
theorem dX6_readThing_127 : decode cX6_readThing 127 = .ok (.aload_n 0, 1) := by decide +kernel
theorem dX6_readThing_128 : decode cX6_readThing 128 = .ok (.aload_n 1, 1) := by decide +kernel
theorem dX6_readThing_129 : decode cX6_readThing 129 = .ok (.invokevirtual 43, 3) := by decide +kernel
theorem dX6_readThing_132 : decode cX6_readThing 132 = .ok (.goto 14, 3) := by decide +kernel
theorem dX6_readThing_135 : decode cX6_readThing 135 = .ok (.aload_n 0, 1) := by decide +kernel
theorem dX6_readThing_136 : decode cX6_readThing 136 = .ok (.invokevirtual 78, 3) := by decide +kernel
theorem dX6_readThing_139 : decode cX6_readThing 139 = .ok (.goto 7, 3) := by decide +kernel
theorem dX6_readThing_142 : decode cX6_readThing 142 = .ok (.aload_n 0, 1) := by decide +kernel
theorem dX6_readThing_143 : decode cX6_readThing 143 = .ok (.invokevirtual 78, 3) := by decide +kernel
theorem dX6_readThing_146 : decode cX6_readThing 146 = .ok (.iload_n 3, 1) := by decide +kernel
theorem dX6_readThing_147 : decode cX6_readThing 147 = .ok (.ifCond .eq 9, 3) := by decide +kernel
theorem dX6_readThing_150 : decode cX6_readThing 150 = .ok (.aload_n 0, 1) := by decide +kernel
theorem dX6_readThing_151 : decode cX6_readThing 151 = .ok (.bipush (-8), 2) := by decide +kernel
theorem dX6_readThing_153 : decode cX6_readThing 153 = .ok (.invokevirtual 57, 3) := by decide +kernel
theorem dX6_readThing_156 : decode cX6_readThing 156 = .ok (.return_, 1) := by decide +kernel
theorem dX6_readNumber_0 : decode cX6_readNumber 0 = .ok (.iconst 0, 1) := by decide +kernel
theorem dX6_readNumber_1 : decode cX6_readNumber 1 = .ok (.istore_n 2, 1) := by decide +kernel
theorem dX6_readNumber_2 : decode cX6_readNumber 2 = .ok (.iconst 0, 1) := by decide +kernel
theorem dX6_readNumber_3 : decode cX6_readNumber 3 = .ok (.istore_n 3, 1) := by decide +kernel
theorem dX6_readNumber_4 : decode cX6_readNumber 4 = .ok (.iload_n 3, 1) := by decide +kernel
theorem dX6_readNumber_5 : decode cX6_readNumber 5 = .ok (.iconst 3, 1) := by decide +kernel
theorem dX6_readNumber_6 : decode cX6_readNumber 6 = .ok (.if_icmp .ge 37, 3) := by decide +kernel
theorem dX6_readNumber_9 : decode cX6_readNumber 9 = .ok (.aload_n 0, 1) := by decide +kernel
theorem dX6_readNumber_10 : decode cX6_readNumber 10 = .ok (.getfield 54, 3) := by decide +kernel
theorem dX6_readNumber_13 : decode cX6_readNumber 13 = .ok (.invokestatic 67, 3) := by decide +kernel
theorem dX6_readNumber_16 : decode cX6_readNumber 16 = .ok (.ifCond .eq 27, 3) := by decide +kernel
theorem dX6_readNumber_19 : decode cX6_readNumber 19 = .ok (.bipush 10, 2) := by decide +kernel
theorem dX6_readNumber_21 : decode cX6_readNumber 21 = .ok (.iload_n 2, 1) := by decide +kernel
theorem dX6_readNumber_22 : decode cX6_readNumber 22 = .ok (.imul, 1) := by decide +kernel
theorem dX6_readNumber_23 : decode cX6_readNumber 23 = .ok (.aload_n 0, 1) := by decide +kernel
theorem dX6_readNumber_24 : decode cX6_readNumber 24 = .ok (.getfield 54, 3) := by decide +kernel
theorem dX6_readNumber_27 : decode cX6_readNumber 27 = .ok (.iadd, 1) := by decide +kernel
theorem dX6_readNumber_28 : decode cX6_readNumber 28 = .ok (.bipush 48, 2) := by decide +kernel
theorem dX6_readNumber_30 : decode cX6_readNumber 30 = .ok (.isub, 1) := by decide +kernel
theorem dX6_readNumber_31 : decode cX6_readNumber 31 = .ok (.istore_n 2, 1) := by decide +kernel
theorem dX6_readNumber_32 : decode cX6_readNumber 32 = .ok (.aload_n 0, 1) := by decide +kernel
theorem dX6_readNumber_33 : decode cX6_readNumber 33 = .ok (.aload_n 1, 1) := by decide +kernel
theorem dX6_readNumber_34 : decode cX6_readNumber 34 = .ok (.invokevirtual 43, 3) := by decide +kernel
theorem dX6_readNumber_37 : decode cX6_readNumber 37 = .ok (.iinc 3 1, 3) := by decide +kernel
theorem dX6_readNumber_40 : decode cX6_readNumber 40 = .ok (.goto (-36), 3) := by decide +kernel
theorem dX6_readNumber_43 : decode cX6_readNumber 43 = .ok (.aload_n 0, 1) := by decide +kernel
theorem dX6_readNumber_44 : decode cX6_readNumber 44 = .ok (.iload_n 2, 1) := by decide +kernel
theorem dX6_readNumber_45 : decode cX6_readNumber 45 = .ok (.invokevirtual 57, 3) := by decide +kernel
theorem dX6_readNumber_48 : decode cX6_readNumber 48 = .ok (.return_, 1) := by decide +kernel
theorem dX6_variable_0 : decode cX6_variable 0 = .ok (.iload_n 0, 1) := by decide +kernel
theorem dX6_variable_1 : decode cX6_variable 1 = .ok (.lookupswitch 59 #[(99, 51), (109, 55), (110, 43), (119, 47)], 43) := by decide +kernel
theorem dX6_variable_44 : decode cX6_variable 44 = .ok (.sipush 1000, 3) := by decide +kernel
theorem dX6_variable_47 : decode cX6_variable 47 = .ok (.ireturn, 1) := by decide +kernel
theorem dX6_variable_48 : decode cX6_variable 48 = .ok (.sipush 1001, 3) := by decide +kernel
theorem dX6_variable_51 : decode cX6_variable 51 = .ok (.ireturn, 1) := by decide +kernel
theorem dX6_variable_52 : decode cX6_variable 52 = .ok (.sipush 1002, 3) := by decide +kernel
theorem dX6_variable_55 : decode cX6_variable 55 = .ok (.ireturn, 1) := by decide +kernel
theorem dX6_variable_56 : decode cX6_variable 56 = .ok (.sipush 1003, 3) := by decide +kernel
theorem dX6_variable_59 : decode cX6_variable 59 = .ok (.ireturn, 1) := by decide +kernel
theorem dX6_variable_60 : decode cX6_variable 60 = .ok (.bipush (-9), 2) := by decide +kernel
theorem dX6_variable_62 : decode cX6_variable 62 = .ok (.ireturn, 1) := by decide +kernel
theorem dX6_step_0 : decode cX6_step 0 = .ok (.aload_n 0, 1) := by decide +kernel
theorem dX6_step_1 : decode cX6_step 1 = .ok (.dup, 1) := by decide +kernel
theorem dX6_step_2 : decode cX6_step 2 = .ok (.getfield 40, 3) := by decide +kernel
theorem dX6_step_5 : decode cX6_step 5 = .ok (.iconst 1, 1) := by decide +kernel
theorem dX6_step_6 : decode cX6_step 6 = .ok (.iadd, 1) := by decide +kernel
theorem dX6_step_7 : decode cX6_step 7 = .ok (.putfield 40, 3) := by decide +kernel
theorem dX6_step_10 : decode cX6_step 10 = .ok (.aload_n 0, 1) := by decide +kernel
theorem dX6_step_11 : decode cX6_step 11 = .ok (.aload_n 1, 1) := by decide +kernel
theorem dX6_step_12 : decode cX6_step 12 = .ok (.aload_n 0, 1) := by decide +kernel
theorem dX6_step_13 : decode cX6_step 13 = .ok (.getfield 40, 3) := by decide +kernel
theorem dX6_step_16 : decode cX6_step 16 = .ok (.bipush 40, 2) := by decide +kernel
theorem dX6_step_18 : decode cX6_step 18 = .ok (.invokevirtual 81, 3) := by decide +kernel
theorem dX6_step_21 : decode cX6_step 21 = .ok (.putfield 54, 3) := by decide +kernel
theorem dX6_step_24 : decode cX6_step 24 = .ok (.return_, 1) := by decide +kernel
theorem dX6_fail_0 : decode cX6_fail 0 = .ok (.aload_n 0, 1) := by decide +kernel
theorem dX6_fail_1 : decode cX6_fail 1 = .ok (.getfield 37, 3) := by decide +kernel
theorem dX6_fail_4 : decode cX6_fail 4 = .ok (.iconst (-1), 1) := by decide +kernel
theorem dX6_fail_5 : decode cX6_fail 5 = .ok (.if_icmp .ne 11, 3) := by decide +kernel
theorem dX6_fail_8 : decode cX6_fail 8 = .ok (.aload_n 0, 1) := by decide +kernel
theorem dX6_fail_9 : decode cX6_fail 9 = .ok (.aload_n 0, 1) := by decide +kernel
theorem dX6_fail_10 : decode cX6_fail 10 = .ok (.getfield 40, 3) := by decide +kernel
theorem dX6_fail_13 : decode cX6_fail 13 = .ok (.putfield 37, 3) := by decide +kernel
theorem dX6_fail_16 : decode cX6_fail 16 = .ok (.aload_n 0, 1) := by decide +kernel
theorem dX6_fail_17 : decode cX6_fail 17 = .ok (.iconst (-1), 1) := by decide +kernel
theorem dX6_fail_18 : decode cX6_fail 18 = .ok (.putfield 54, 3) := by decide +kernel
theorem dX6_fail_21 : decode cX6_fail 21 = .ok (.return_, 1) := by decide +kernel
theorem dX6_put_0 : decode cX6_put 0 = .ok (.aload_n 0, 1) := by decide +kernel
theorem dX6_put_1 : decode cX6_put 1 = .ok (.getfield 30, 3) := by decide +kernel
theorem dX6_put_4 : decode cX6_put 4 = .ok (.bipush 40, 2) := by decide +kernel
theorem dX6_put_6 : decode cX6_put 6 = .ok (.if_icmp .ge 23, 3) := by decide +kernel
theorem dX6_put_9 : decode cX6_put 9 = .ok (.aload_n 0, 1) := by decide +kernel
theorem dX6_put_10 : decode cX6_put 10 = .ok (.getfield 9, 3) := by decide +kernel
theorem dX6_put_13 : decode cX6_put 13 = .ok (.aload_n 0, 1) := by decide +kernel
theorem dX6_put_14 : decode cX6_put 14 = .ok (.getfield 30, 3) := by decide +kernel
theorem dX6_put_17 : decode cX6_put 17 = .ok (.iload_n 1, 1) := by decide +kernel
theorem dX6_put_18 : decode cX6_put 18 = .ok (.iastore, 1) := by decide +kernel
theorem dX6_put_19 : decode cX6_put 19 = .ok (.aload_n 0, 1) := by decide +kernel
theorem dX6_put_20 : decode cX6_put 20 = .ok (.dup, 1) := by decide +kernel
theorem dX6_put_21 : decode cX6_put 21 = .ok (.getfield 30, 3) := by decide +kernel
theorem dX6_put_24 : decode cX6_put 24 = .ok (.iconst 1, 1) := by decide +kernel
theorem dX6_put_25 : decode cX6_put 25 = .ok (.iadd, 1) := by decide +kernel
theorem dX6_put_26 : decode cX6_put 26 = .ok (.putfield 30, 3) := by decide +kernel
theorem dX6_put_29 : decode cX6_put 29 = .ok (.return_, 1) := by decide +kernel
theorem dX6_value_0 : decode cX6_value 0 = .ok (.iconst 0, 1) := by decide +kernel
theorem dX6_value_1 : decode cX6_value 1 = .ok (.istore 5, 2) := by decide +kernel
theorem dX6_value_3 : decode cX6_value 3 = .ok (.iconst 0, 1) := by decide +kernel
theorem dX6_value_4 : decode cX6_value 4 = .ok (.istore 6, 2) := by decide +kernel
theorem dX6_value_6 : decode cX6_value 6 = .ok (.iload 6, 2) := by decide +kernel
theorem dX6_value_8 : decode cX6_value 8 = .ok (.aload_n 0, 1) := by decide +kernel
theorem dX6_value_9 : decode cX6_value 9 = .ok (.getfield 30, 3) := by decide +kernel
theorem dX6_value_12 : decode cX6_value 12 = .ok (.if_icmp .ge 126, 3) := by decide +kernel
theorem dX6_value_15 : decode cX6_value 15 = .ok (.aload_n 0, 1) := by decide +kernel
theorem dX6_value_16 : decode cX6_value 16 = .ok (.getfield 9, 3) := by decide +kernel
theorem dX6_value_19 : decode cX6_value 19 = .ok (.iload 6, 2) := by decide +kernel
theorem dX6_value_21 : decode cX6_value 21 = .ok (.iaload, 1) := by decide +kernel
theorem dX6_value_22 : decode cX6_value 22 = .ok (.istore 7, 2) := by decide +kernel
theorem dX6_value_24 : decode cX6_value 24 = .ok (.iload 7, 2) := by decide +kernel
theorem dX6_value_26 : decode cX6_value 26 = .ok (.ifCond .lt 33, 3) := by decide +kernel
theorem dX6_value_29 : decode cX6_value 29 = .ok (.iload 5, 2) := by decide +kernel
theorem dX6_value_31 : decode cX6_value 31 = .ok (.bipush 40, 2) := by decide +kernel
theorem dX6_value_33 : decode cX6_value 33 = .ok (.if_icmp .ge 26, 3) := by decide +kernel
theorem dX6_value_36 : decode cX6_value 36 = .ok (.aload_n 0, 1) := by decide +kernel
theorem dX6_value_37 : decode cX6_value 37 = .ok (.getfield 15, 3) := by decide +kernel
theorem dX6_value_40 : decode cX6_value 40 = .ok (.iload 5, 2) := by decide +kernel
theorem dX6_value_42 : decode cX6_value 42 = .ok (.iload 7, 2) := by decide +kernel
theorem dX6_value_44 : decode cX6_value 44 = .ok (.iload_n 1, 1) := by decide +kernel
theorem dX6_value_45 : decode cX6_value 45 = .ok (.iload_n 2, 1) := by decide +kernel
theorem dX6_value_46 : decode cX6_value 46 = .ok (.iload_n 3, 1) := by decide +kernel
theorem dX6_value_47 : decode cX6_value 47 = .ok (.iload 4, 2) := by decide +kernel
theorem dX6_value_49 : decode cX6_value 49 = .ok (.invokestatic 85, 3) := by decide +kernel
theorem dX6_value_52 : decode cX6_value 52 = .ok (.iastore, 1) := by decide +kernel
theorem dX6_value_53 : decode cX6_value 53 = .ok (.iinc 5 1, 3) := by decide +kernel
theorem dX6_value_56 : decode cX6_value 56 = .ok (.goto 76, 3) := by decide +kernel
theorem dX6_value_59 : decode cX6_value 59 = .ok (.iload 7, 2) := by decide +kernel
theorem dX6_value_61 : decode cX6_value 61 = .ok (.bipush (-8), 2) := by decide +kernel
theorem dX6_value_63 : decode cX6_value 63 = .ok (.if_icmp .ne 30, 3) := by decide +kernel
theorem dX6_value_66 : decode cX6_value 66 = .ok (.iload 5, 2) := by decide +kernel
theorem dX6_value_68 : decode cX6_value 68 = .ok (.ifCond .le 25, 3) := by decide +kernel
theorem dX6_value_71 : decode cX6_value 71 = .ok (.aload_n 0, 1) := by decide +kernel
theorem dX6_value_72 : decode cX6_value 72 = .ok (.getfield 15, 3) := by decide +kernel
theorem dX6_value_75 : decode cX6_value 75 = .ok (.iload 5, 2) := by decide +kernel
theorem dX6_value_77 : decode cX6_value 77 = .ok (.iconst 1, 1) := by decide +kernel
theorem dX6_value_78 : decode cX6_value 78 = .ok (.isub, 1) := by decide +kernel
theorem dX6_value_79 : decode cX6_value 79 = .ok (.aload_n 0, 1) := by decide +kernel
theorem dX6_value_80 : decode cX6_value 80 = .ok (.getfield 15, 3) := by decide +kernel
theorem dX6_value_83 : decode cX6_value 83 = .ok (.iload 5, 2) := by decide +kernel
theorem dX6_value_85 : decode cX6_value 85 = .ok (.iconst 1, 1) := by decide +kernel
theorem dX6_value_86 : decode cX6_value 86 = .ok (.isub, 1) := by decide +kernel
theorem dX6_value_87 : decode cX6_value 87 = .ok (.iaload, 1) := by decide +kernel
theorem dX6_value_88 : decode cX6_value 88 = .ok (.ineg, 1) := by decide +kernel
theorem dX6_value_89 : decode cX6_value 89 = .ok (.iastore, 1) := by decide +kernel
theorem dX6_value_90 : decode cX6_value 90 = .ok (.goto 42, 3) := by decide +kernel
theorem dX6_value_93 : decode cX6_value 93 = .ok (.iload 5, 2) := by decide +kernel
theorem dX6_value_95 : decode cX6_value 95 = .ok (.iconst 1, 1) := by decide +kernel
theorem dX6_value_96 : decode cX6_value 96 = .ok (.if_icmp .le 36, 3) := by decide +kernel
theorem dX6_value_99 : decode cX6_value 99 = .ok (.iinc 5 (-1), 3) := by decide +kernel
theorem dX6_value_102 : decode cX6_value 102 = .ok (.aload_n 0, 1) := by decide +kernel
theorem dX6_value_103 : decode cX6_value 103 = .ok (.getfield 15, 3) := by decide +kernel
theorem dX6_value_106 : decode cX6_value 106 = .ok (.iload 5, 2) := by decide +kernel
theorem dX6_value_108 : decode cX6_value 108 = .ok (.iconst 1, 1) := by decide +kernel
theorem dX6_value_109 : decode cX6_value 109 = .ok (.isub, 1) := by decide +kernel
theorem dX6_value_110 : decode cX6_value 110 = .ok (.iload 7, 2) := by decide +kernel
theorem dX6_value_112 : decode cX6_value 112 = .ok (.aload_n 0, 1) := by decide +kernel
theorem dX6_value_113 : decode cX6_value 113 = .ok (.getfield 15, 3) := by decide +kernel
theorem dX6_value_116 : decode cX6_value 116 = .ok (.iload 5, 2) := by decide +kernel
theorem dX6_value_118 : decode cX6_value 118 = .ok (.iconst 1, 1) := by decide +kernel
theorem dX6_value_119 : decode cX6_value 119 = .ok (.isub, 1) := by decide +kernel
theorem dX6_value_120 : decode cX6_value 120 = .ok (.iaload, 1) := by decide +kernel
theorem dX6_value_121 : decode cX6_value 121 = .ok (.aload_n 0, 1) := by decide +kernel
theorem dX6_value_122 : decode cX6_value 122 = .ok (.getfield 15, 3) := by decide +kernel
theorem dX6_value_125 : decode cX6_value 125 = .ok (.iload 5, 2) := by decide +kernel
theorem dX6_value_127 : decode cX6_value 127 = .ok (.iaload, 1) := by decide +kernel
theorem dX6_value_128 : decode cX6_value 128 = .ok (.invokestatic 89, 3) := by decide +kernel
theorem dX6_value_131 : decode cX6_value 131 = .ok (.iastore, 1) := by decide +kernel
theorem dX6_value_132 : decode cX6_value 132 = .ok (.iinc 6 1, 3) := by decide +kernel
theorem dX6_value_135 : decode cX6_value 135 = .ok (.goto (-129), 3) := by decide +kernel
theorem dX6_value_138 : decode cX6_value 138 = .ok (.aload_n 0, 1) := by decide +kernel
theorem dX6_value_139 : decode cX6_value 139 = .ok (.getfield 15, 3) := by decide +kernel
theorem dX6_value_142 : decode cX6_value 142 = .ok (.iconst 0, 1) := by decide +kernel
theorem dX6_value_143 : decode cX6_value 143 = .ok (.iaload, 1) := by decide +kernel
theorem dX6_value_144 : decode cX6_value 144 = .ok (.sipush 999, 3) := by decide +kernel
theorem dX6_value_147 : decode cX6_value 147 = .ok (.invokestatic 93, 3) := by decide +kernel
theorem dX6_value_150 : decode cX6_value 150 = .ok (.ireturn, 1) := by decide +kernel
theorem dX6_operand_0 : decode cX6_operand 0 = .ok (.iload_n 0, 1) := by decide +kernel
theorem dX6_operand_1 : decode cX6_operand 1 = .ok (.tableswitch 40 1000 1003 #[31, 33, 35, 37], 31) := by decide +kernel
theorem dX6_operand_32 : decode cX6_operand 32 = .ok (.iload_n 1, 1) := by decide +kernel
theorem dX6_operand_33 : decode cX6_operand 33 = .ok (.ireturn, 1) := by decide +kernel
theorem dX6_operand_34 : decode cX6_operand 34 = .ok (.iload_n 2, 1) := by decide +kernel
theorem dX6_operand_35 : decode cX6_operand 35 = .ok (.ireturn, 1) := by decide +kernel
theorem dX6_operand_36 : decode cX6_operand 36 = .ok (.iload_n 3, 1) := by decide +kernel
theorem dX6_operand_37 : decode cX6_operand 37 = .ok (.ireturn, 1) := by decide +kernel
theorem dX6_operand_38 : decode cX6_operand 38 = .ok (.iload 4, 2) := by decide +kernel
theorem dX6_operand_40 : decode cX6_operand 40 = .ok (.ireturn, 1) := by decide +kernel
theorem dX6_operand_41 : decode cX6_operand 41 = .ok (.iload_n 0, 1) := by decide +kernel
theorem dX6_operand_42 : decode cX6_operand 42 = .ok (.ireturn, 1) := by decide +kernel
theorem dX6_joined_0 : decode cX6_joined 0 = .ok (.iload_n 0, 1) := by decide +kernel
theorem dX6_joined_1 : decode cX6_joined 1 = .ok (.tableswitch 85 (-6) (-1) #[74, 63, 51, 47, 43, 39], 39) := by decide +kernel
theorem dX6_joined_40 : decode cX6_joined 40 = .ok (.iload_n 1, 1) := by decide +kernel
theorem dX6_joined_41 : decode cX6_joined 41 = .ok (.iload_n 2, 1) := by decide +kernel
theorem dX6_joined_42 : decode cX6_joined 42 = .ok (.iadd, 1) := by decide +kernel
theorem dX6_joined_43 : decode cX6_joined 43 = .ok (.ireturn, 1) := by decide +kernel
theorem dX6_joined_44 : decode cX6_joined 44 = .ok (.iload_n 1, 1) := by decide +kernel
theorem dX6_joined_45 : decode cX6_joined 45 = .ok (.iload_n 2, 1) := by decide +kernel
theorem dX6_joined_46 : decode cX6_joined 46 = .ok (.isub, 1) := by decide +kernel
theorem dX6_joined_47 : decode cX6_joined 47 = .ok (.ireturn, 1) := by decide +kernel
theorem dX6_joined_48 : decode cX6_joined 48 = .ok (.iload_n 1, 1) := by decide +kernel
theorem dX6_joined_49 : decode cX6_joined 49 = .ok (.iload_n 2, 1) := by decide +kernel
theorem dX6_joined_50 : decode cX6_joined 50 = .ok (.imul, 1) := by decide +kernel
theorem dX6_joined_51 : decode cX6_joined 51 = .ok (.ireturn, 1) := by decide +kernel
theorem dX6_joined_52 : decode cX6_joined 52 = .ok (.iload_n 2, 1) := by decide +kernel
theorem dX6_joined_53 : decode cX6_joined 53 = .ok (.ifCond .ne 7, 3) := by decide +kernel
theorem dX6_joined_56 : decode cX6_joined 56 = .ok (.iconst 0, 1) := by decide +kernel
theorem dX6_joined_57 : decode cX6_joined 57 = .ok (.goto 6, 3) := by decide +kernel
theorem dX6_joined_60 : decode cX6_joined 60 = .ok (.iload_n 1, 1) := by decide +kernel
theorem dX6_joined_61 : decode cX6_joined 61 = .ok (.iload_n 2, 1) := by decide +kernel
theorem dX6_joined_62 : decode cX6_joined 62 = .ok (.idiv, 1) := by decide +kernel
theorem dX6_joined_63 : decode cX6_joined 63 = .ok (.ireturn, 1) := by decide +kernel
theorem dX6_joined_64 : decode cX6_joined 64 = .ok (.iload_n 1, 1) := by decide +kernel
theorem dX6_joined_65 : decode cX6_joined 65 = .ok (.iload_n 2, 1) := by decide +kernel
theorem dX6_joined_66 : decode cX6_joined 66 = .ok (.if_icmp .ge 7, 3) := by decide +kernel
theorem dX6_joined_69 : decode cX6_joined 69 = .ok (.iconst 1, 1) := by decide +kernel
theorem dX6_joined_70 : decode cX6_joined 70 = .ok (.goto 4, 3) := by decide +kernel
theorem dX6_joined_73 : decode cX6_joined 73 = .ok (.iconst 0, 1) := by decide +kernel
theorem dX6_joined_74 : decode cX6_joined 74 = .ok (.ireturn, 1) := by decide +kernel
theorem dX6_joined_75 : decode cX6_joined 75 = .ok (.iload_n 1, 1) := by decide +kernel
theorem dX6_joined_76 : decode cX6_joined 76 = .ok (.iload_n 2, 1) := by decide +kernel
theorem dX6_joined_77 : decode cX6_joined 77 = .ok (.if_icmp .le 7, 3) := by decide +kernel
theorem dX6_joined_80 : decode cX6_joined 80 = .ok (.iconst 1, 1) := by decide +kernel
theorem dX6_joined_81 : decode cX6_joined 81 = .ok (.goto 4, 3) := by decide +kernel
theorem dX6_joined_84 : decode cX6_joined 84 = .ok (.iconst 0, 1) := by decide +kernel
theorem dX6_joined_85 : decode cX6_joined 85 = .ok (.ireturn, 1) := by decide +kernel
theorem dX6_joined_86 : decode cX6_joined 86 = .ok (.iload_n 1, 1) := by decide +kernel
theorem dX6_joined_87 : decode cX6_joined 87 = .ok (.iload_n 2, 1) := by decide +kernel
theorem dX6_joined_88 : decode cX6_joined 88 = .ok (.if_icmp .ne 7, 3) := by decide +kernel
theorem dX6_joined_91 : decode cX6_joined 91 = .ok (.iconst 1, 1) := by decide +kernel
theorem dX6_joined_92 : decode cX6_joined 92 = .ok (.goto 4, 3) := by decide +kernel
theorem dX6_joined_95 : decode cX6_joined 95 = .ok (.iconst 0, 1) := by decide +kernel
theorem dX6_joined_96 : decode cX6_joined 96 = .ok (.ireturn, 1) := by decide +kernel
theorem dX0_init_0 : decode cX0_init 0 = .ok (.aload_n 0, 1) := by decide +kernel
theorem dX0_init_1 : decode cX0_init 1 = .ok (.invokespecial 3, 3) := by decide +kernel
theorem dX0_init_4 : decode cX0_init 4 = .ok (.aload_n 0, 1) := by decide +kernel
theorem dX0_init_5 : decode cX0_init 5 = .ok (.bipush 12, 2) := by decide +kernel
theorem dX0_init_7 : decode cX0_init 7 = .ok (.newarray .long, 2) := by decide +kernel
theorem dX0_init_9 : decode cX0_init 9 = .ok (.putfield 9, 3) := by decide +kernel
theorem dX0_init_12 : decode cX0_init 12 = .ok (.aload_n 0, 1) := by decide +kernel
theorem dX0_init_13 : decode cX0_init 13 = .ok (.bipush 10, 2) := by decide +kernel
theorem dX0_init_15 : decode cX0_init 15 = .ok (.newarray .int, 2) := by decide +kernel
theorem dX0_init_17 : decode cX0_init 17 = .ok (.putfield 15, 3) := by decide +kernel
theorem dX0_init_20 : decode cX0_init 20 = .ok (.return_, 1) := by decide +kernel
theorem dX0_draw_0 : decode cX0_draw 0 = .ok (.aload_n 0, 1) := by decide +kernel
theorem dX0_draw_1 : decode cX0_draw 1 = .ok (.aload_n 0, 1) := by decide +kernel
theorem dX0_draw_2 : decode cX0_draw 2 = .ok (.getfield 19, 3) := by decide +kernel
theorem dX0_draw_5 : decode cX0_draw 5 = .ok (.ldc 23, 2) := by decide +kernel
theorem dX0_draw_7 : decode cX0_draw 7 = .ok (.imul, 1) := by decide +kernel
theorem dX0_draw_8 : decode cX0_draw 8 = .ok (.sipush 12345, 3) := by decide +kernel
theorem dX0_draw_11 : decode cX0_draw 11 = .ok (.iadd, 1) := by decide +kernel
theorem dX0_draw_12 : decode cX0_draw 12 = .ok (.putfield 19, 3) := by decide +kernel
theorem dX0_draw_15 : decode cX0_draw 15 = .ok (.iload_n 1, 1) := by decide +kernel
theorem dX0_draw_16 : decode cX0_draw 16 = .ok (.ifCond .le 15, 3) := by decide +kernel
theorem dX0_draw_19 : decode cX0_draw 19 = .ok (.aload_n 0, 1) := by decide +kernel
theorem dX0_draw_20 : decode cX0_draw 20 = .ok (.getfield 19, 3) := by decide +kernel
theorem dX0_draw_23 : decode cX0_draw 23 = .ok (.bipush 16, 2) := by decide +kernel
theorem dX0_draw_25 : decode cX0_draw 25 = .ok (.iushr, 1) := by decide +kernel
theorem dX0_draw_26 : decode cX0_draw 26 = .ok (.iload_n 1, 1) := by decide +kernel
theorem dX0_draw_27 : decode cX0_draw 27 = .ok (.irem, 1) := by decide +kernel
theorem dX0_draw_28 : decode cX0_draw 28 = .ok (.goto 4, 3) := by decide +kernel
theorem dX0_draw_31 : decode cX0_draw 31 = .ok (.iconst 0, 1) := by decide +kernel
theorem dX0_draw_32 : decode cX0_draw 32 = .ok (.ireturn, 1) := by decide +kernel
theorem dX0_longRains_0 : decode cX0_longRains 0 = .ok (.aload_n 0, 1) := by decide +kernel
theorem dX0_longRains_1 : decode cX0_longRains 1 = .ok (.getfield 9, 3) := by decide +kernel
theorem dX0_longRains_4 : decode cX0_longRains 4 = .ok (.lconst 0, 1) := by decide +kernel
theorem dX0_longRains_5 : decode cX0_longRains 5 = .ok (.invokestatic 24, 3) := by decide +kernel
theorem dX0_longRains_8 : decode cX0_longRains 8 = .ok (.aload_n 0, 1) := by decide +kernel
theorem dX0_longRains_9 : decode cX0_longRains 9 = .ok (.getfield 9, 3) := by decide +kernel
theorem dX0_longRains_12 : decode cX0_longRains 12 = .ok (.iconst 0, 1) := by decide +kernel
theorem dX0_longRains_13 : decode cX0_longRains 13 = .ok (.lconst 1, 1) := by decide +kernel
theorem dX0_longRains_14 : decode cX0_longRains 14 = .ok (.lastore, 1) := by decide +kernel
theorem dX0_longRains_15 : decode cX0_longRains 15 = .ok (.lconst 0, 1) := by decide +kernel
theorem dX0_longRains_16 : decode cX0_longRains 16 = .ok (.lstore 4, 2) := by decide +kernel
theorem dX0_longRains_18 : decode cX0_longRains 18 = .ok (.iconst 0, 1) := by decide +kernel
theorem dX0_longRains_19 : decode cX0_longRains 19 = .ok (.istore 6, 2) := by decide +kernel
theorem dX0_longRains_21 : decode cX0_longRains 21 = .ok (.iload 6, 2) := by decide +kernel
theorem dX0_longRains_23 : decode cX0_longRains 23 = .ok (.iload_n 1, 1) := by decide +kernel
theorem dX0_longRains_24 : decode cX0_longRains 24 = .ok (.if_icmp .ge 134, 3) := by decide +kernel
theorem dX0_longRains_27 : decode cX0_longRains 27 = .ok (.lconst 0, 1) := by decide +kernel
theorem dX0_longRains_28 : decode cX0_longRains 28 = .ok (.lstore 7, 2) := by decide +kernel
theorem dX0_longRains_30 : decode cX0_longRains 30 = .ok (.iconst 0, 1) := by decide +kernel
theorem dX0_longRains_31 : decode cX0_longRains 31 = .ok (.istore 9, 2) := by decide +kernel
theorem dX0_longRains_33 : decode cX0_longRains 33 = .ok (.iload 9, 2) := by decide +kernel
theorem dX0_longRains_35 : decode cX0_longRains 35 = .ok (.iload_n 2, 1) := by decide +kernel
theorem dX0_longRains_36 : decode cX0_longRains 36 = .ok (.if_icmp .ge 28, 3) := by decide +kernel
theorem dX0_longRains_39 : decode cX0_longRains 39 = .ok (.iload 9, 2) := by decide +kernel
theorem dX0_longRains_41 : decode cX0_longRains 41 = .ok (.bipush 12, 2) := by decide +kernel
theorem dX0_longRains_43 : decode cX0_longRains 43 = .ok (.if_icmp .ge 21, 3) := by decide +kernel
theorem dX0_longRains_46 : decode cX0_longRains 46 = .ok (.lload 7, 2) := by decide +kernel
theorem dX0_longRains_48 : decode cX0_longRains 48 = .ok (.aload_n 0, 1) := by decide +kernel
theorem dX0_longRains_49 : decode cX0_longRains 49 = .ok (.getfield 9, 3) := by decide +kernel
theorem dX0_longRains_52 : decode cX0_longRains 52 = .ok (.iload 9, 2) := by decide +kernel
theorem dX0_longRains_54 : decode cX0_longRains 54 = .ok (.laload, 1) := by decide +kernel
theorem dX0_longRains_55 : decode cX0_longRains 55 = .ok (.ladd, 1) := by decide +kernel
theorem dX0_longRains_56 : decode cX0_longRains 56 = .ok (.lstore 7, 2) := by decide +kernel
theorem dX0_longRains_58 : decode cX0_longRains 58 = .ok (.iinc 9 1, 3) := by decide +kernel
theorem dX0_longRains_61 : decode cX0_longRains 61 = .ok (.goto (-28), 3) := by decide +kernel
theorem dX0_longRains_64 : decode cX0_longRains 64 = .ok (.lload 4, 2) := by decide +kernel
theorem dX0_longRains_66 : decode cX0_longRains 66 = .ok (.ldc2_w 30, 3) := by decide +kernel
theorem dX0_longRains_69 : decode cX0_longRains 69 = .ok (.lmul, 1) := by decide +kernel
theorem dX0_longRains_70 : decode cX0_longRains 70 = .ok (.lstore 4, 2) := by decide +kernel
theorem dX0_longRains_72 : decode cX0_longRains 72 = .ok (.iload_n 2, 1) := by decide +kernel
theorem dX0_longRains_73 : decode cX0_longRains 73 = .ok (.bipush 12, 2) := by decide +kernel
theorem dX0_longRains_75 : decode cX0_longRains 75 = .ok (.invokestatic 32, 3) := by decide +kernel
theorem dX0_longRains_78 : decode cX0_longRains 78 = .ok (.iconst 1, 1) := by decide +kernel
theorem dX0_longRains_79 : decode cX0_longRains 79 = .ok (.isub, 1) := by decide +kernel
theorem dX0_longRains_80 : decode cX0_longRains 80 = .ok (.istore 9, 2) := by decide +kernel
theorem dX0_longRains_82 : decode cX0_longRains 82 = .ok (.iload 9, 2) := by decide +kernel
theorem dX0_longRains_84 : decode cX0_longRains 84 = .ok (.ifCond .lt 54, 3) := by decide +kernel
theorem dX0_longRains_87 : decode cX0_longRains 87 = .ok (.iload 9, 2) := by decide +kernel
theorem dX0_longRains_89 : decode cX0_longRains 89 = .ok (.iload_n 2, 1) := by decide +kernel
theorem dX0_longRains_90 : decode cX0_longRains 90 = .ok (.iconst 1, 1) := by decide +kernel
theorem dX0_longRains_91 : decode cX0_longRains 91 = .ok (.isub, 1) := by decide +kernel
theorem dX0_longRains_92 : decode cX0_longRains 92 = .ok (.if_icmp .ne 21, 3) := by decide +kernel
theorem dX0_longRains_95 : decode cX0_longRains 95 = .ok (.lload 4, 2) := by decide +kernel
theorem dX0_longRains_97 : decode cX0_longRains 97 = .ok (.aload_n 0, 1) := by decide +kernel
theorem dX0_longRains_98 : decode cX0_longRains 98 = .ok (.getfield 9, 3) := by decide +kernel
theorem dX0_longRains_101 : decode cX0_longRains 101 = .ok (.iload 9, 2) := by decide +kernel
theorem dX0_longRains_103 : decode cX0_longRains 103 = .ok (.laload, 1) := by decide +kernel
theorem dX0_longRains_104 : decode cX0_longRains 104 = .ok (.iload_n 3, 1) := by decide +kernel
theorem dX0_longRains_105 : decode cX0_longRains 105 = .ok (.i2l, 1) := by decide +kernel
theorem dX0_longRains_106 : decode cX0_longRains 106 = .ok (.lmul, 1) := by decide +kernel
theorem dX0_longRains_107 : decode cX0_longRains 107 = .ok (.ladd, 1) := by decide +kernel
theorem dX0_longRains_108 : decode cX0_longRains 108 = .ok (.lstore 4, 2) := by decide +kernel
theorem dX0_longRains_110 : decode cX0_longRains 110 = .ok (.goto 22, 3) := by decide +kernel
theorem dX0_longRains_113 : decode cX0_longRains 113 = .ok (.aload_n 0, 1) := by decide +kernel
theorem dX0_longRains_114 : decode cX0_longRains 114 = .ok (.getfield 9, 3) := by decide +kernel
theorem dX0_longRains_117 : decode cX0_longRains 117 = .ok (.iload 9, 2) := by decide +kernel
theorem dX0_longRains_119 : decode cX0_longRains 119 = .ok (.iconst 1, 1) := by decide +kernel
theorem dX0_longRains_120 : decode cX0_longRains 120 = .ok (.iadd, 1) := by decide +kernel
theorem dX0_longRains_121 : decode cX0_longRains 121 = .ok (.aload_n 0, 1) := by decide +kernel
theorem dX0_longRains_122 : decode cX0_longRains 122 = .ok (.getfield 9, 3) := by decide +kernel
theorem dX0_longRains_125 : decode cX0_longRains 125 = .ok (.iload 9, 2) := by decide +kernel
theorem dX0_longRains_127 : decode cX0_longRains 127 = .ok (.laload, 1) := by decide +kernel
theorem dX0_longRains_128 : decode cX0_longRains 128 = .ok (.iload_n 3, 1) := by decide +kernel
theorem dX0_longRains_129 : decode cX0_longRains 129 = .ok (.i2l, 1) := by decide +kernel
theorem dX0_longRains_130 : decode cX0_longRains 130 = .ok (.lmul, 1) := by decide +kernel
theorem dX0_longRains_131 : decode cX0_longRains 131 = .ok (.lastore, 1) := by decide +kernel
theorem dX0_longRains_132 : decode cX0_longRains 132 = .ok (.iinc 9 (-1), 3) := by decide +kernel
theorem dX0_longRains_135 : decode cX0_longRains 135 = .ok (.goto (-53), 3) := by decide +kernel
theorem dX0_longRains_138 : decode cX0_longRains 138 = .ok (.aload_n 0, 1) := by decide +kernel
theorem dX0_longRains_139 : decode cX0_longRains 139 = .ok (.getfield 9, 3) := by decide +kernel
theorem dX0_longRains_142 : decode cX0_longRains 142 = .ok (.iconst 0, 1) := by decide +kernel
theorem dX0_longRains_143 : decode cX0_longRains 143 = .ok (.lload 7, 2) := by decide +kernel
theorem dX0_longRains_145 : decode cX0_longRains 145 = .ok (.bipush 10, 2) := by decide +kernel
theorem dX0_longRains_147 : decode cX0_longRains 147 = .ok (.iload_n 3, 1) := by decide +kernel
theorem dX0_longRains_148 : decode cX0_longRains 148 = .ok (.isub, 1) := by decide +kernel
theorem dX0_longRains_149 : decode cX0_longRains 149 = .ok (.i2l, 1) := by decide +kernel
theorem dX0_longRains_150 : decode cX0_longRains 150 = .ok (.lmul, 1) := by decide +kernel
theorem dX0_longRains_151 : decode cX0_longRains 151 = .ok (.lastore, 1) := by decide +kernel
theorem dX0_longRains_152 : decode cX0_longRains 152 = .ok (.iinc 6 1, 3) := by decide +kernel
theorem dX0_longRains_155 : decode cX0_longRains 155 = .ok (.goto (-134), 3) := by decide +kernel
theorem dX0_longRains_158 : decode cX0_longRains 158 = .ok (.lload 4, 2) := by decide +kernel
theorem dX0_longRains_160 : decode cX0_longRains 160 = .ok (.lreturn, 1) := by decide +kernel
theorem dX0_weigh_0 : decode cX0_weigh 0 = .ok (.iconst 0, 1) := by decide +kernel
theorem dX0_weigh_1 : decode cX0_weigh 1 = .ok (.istore_n 3, 1) := by decide +kernel
theorem dX0_weigh_2 : decode cX0_weigh 2 = .ok (.iload_n 3, 1) := by decide +kernel
theorem dX0_weigh_3 : decode cX0_weigh 3 = .ok (.bipush 9, 2) := by decide +kernel
theorem dX0_weigh_5 : decode cX0_weigh 5 = .ok (.if_icmp .gt 61, 3) := by decide +kernel
theorem dX0_weigh_8 : decode cX0_weigh 8 = .ok (.aload_n 0, 1) := by decide +kernel
theorem dX0_weigh_9 : decode cX0_weigh 9 = .ok (.getfield 15, 3) := by decide +kernel
theorem dX0_weigh_12 : decode cX0_weigh 12 = .ok (.iload_n 3, 1) := by decide +kernel
theorem dX0_weigh_13 : decode cX0_weigh 13 = .ok (.iconst 0, 1) := by decide +kernel
theorem dX0_weigh_14 : decode cX0_weigh 14 = .ok (.iload_n 3, 1) := by decide +kernel
theorem dX0_weigh_15 : decode cX0_weigh 15 = .ok (.iload_n 1, 1) := by decide +kernel
theorem dX0_weigh_16 : decode cX0_weigh 16 = .ok (.iload_n 2, 1) := by decide +kernel
theorem dX0_weigh_17 : decode cX0_weigh 17 = .ok (.invokestatic 38, 3) := by decide +kernel
theorem dX0_weigh_20 : decode cX0_weigh 20 = .ok (.iastore, 1) := by decide +kernel
theorem dX0_weigh_21 : decode cX0_weigh 21 = .ok (.iconst 1, 1) := by decide +kernel
theorem dX0_weigh_22 : decode cX0_weigh 22 = .ok (.istore 4, 2) := by decide +kernel
theorem dX0_weigh_24 : decode cX0_weigh 24 = .ok (.iload 4, 2) := by decide +kernel
theorem dX0_weigh_26 : decode cX0_weigh 26 = .ok (.bipush 9, 2) := by decide +kernel
theorem dX0_weigh_28 : decode cX0_weigh 28 = .ok (.if_icmp .gt 32, 3) := by decide +kernel
theorem dX0_weigh_31 : decode cX0_weigh 31 = .ok (.aload_n 0, 1) := by decide +kernel
theorem dX0_weigh_32 : decode cX0_weigh 32 = .ok (.getfield 15, 3) := by decide +kernel
theorem dX0_weigh_35 : decode cX0_weigh 35 = .ok (.iload_n 3, 1) := by decide +kernel
theorem dX0_weigh_36 : decode cX0_weigh 36 = .ok (.aload_n 0, 1) := by decide +kernel
theorem dX0_weigh_37 : decode cX0_weigh 37 = .ok (.getfield 15, 3) := by decide +kernel
theorem dX0_weigh_40 : decode cX0_weigh 40 = .ok (.iload_n 3, 1) := by decide +kernel
theorem dX0_weigh_41 : decode cX0_weigh 41 = .ok (.iaload, 1) := by decide +kernel
theorem dX0_weigh_42 : decode cX0_weigh 42 = .ok (.iload 4, 2) := by decide +kernel
theorem dX0_weigh_44 : decode cX0_weigh 44 = .ok (.iload_n 3, 1) := by decide +kernel
theorem dX0_weigh_45 : decode cX0_weigh 45 = .ok (.iload_n 1, 1) := by decide +kernel
theorem dX0_weigh_46 : decode cX0_weigh 46 = .ok (.iload_n 2, 1) := by decide +kernel
theorem dX0_weigh_47 : decode cX0_weigh 47 = .ok (.invokestatic 38, 3) := by decide +kernel
theorem dX0_weigh_50 : decode cX0_weigh 50 = .ok (.invokestatic 42, 3) := by decide +kernel
theorem dX0_weigh_53 : decode cX0_weigh 53 = .ok (.iastore, 1) := by decide +kernel
theorem dX0_weigh_54 : decode cX0_weigh 54 = .ok (.iinc 4 1, 3) := by decide +kernel
theorem dX0_weigh_57 : decode cX0_weigh 57 = .ok (.goto (-33), 3) := by decide +kernel
theorem dX0_weigh_60 : decode cX0_weigh 60 = .ok (.iinc 3 1, 3) := by decide +kernel
theorem dX0_weigh_63 : decode cX0_weigh 63 = .ok (.goto (-61), 3) := by decide +kernel
theorem dX0_weigh_66 : decode cX0_weigh 66 = .ok (.return_, 1) := by decide +kernel
theorem dX0_atRest_0 : decode cX0_atRest 0 = .ok (.iload_n 1, 1) := by decide +kernel
theorem dX0_atRest_1 : decode cX0_atRest 1 = .ok (.iload_n 2, 1) := by decide +kernel
theorem dX0_atRest_2 : decode cX0_atRest 2 = .ok (.iload_n 3, 1) := by decide +kernel
theorem dX0_atRest_3 : decode cX0_atRest 3 = .ok (.iload 4, 2) := by decide +kernel
theorem dX0_atRest_5 : decode cX0_atRest 5 = .ok (.invokestatic 38, 3) := by decide +kernel
theorem dX0_atRest_8 : decode cX0_atRest 8 = .ok (.aload_n 0, 1) := by decide +kernel
theorem dX0_atRest_9 : decode cX0_atRest 9 = .ok (.getfield 15, 3) := by decide +kernel
theorem dX0_atRest_12 : decode cX0_atRest 12 = .ok (.iload_n 2, 1) := by decide +kernel
theorem dX0_atRest_13 : decode cX0_atRest 13 = .ok (.iaload, 1) := by decide +kernel
theorem dX0_atRest_14 : decode cX0_atRest 14 = .ok (.if_icmp .ne 24, 3) := by decide +kernel
theorem dX0_atRest_17 : decode cX0_atRest 17 = .ok (.iload_n 2, 1) := by decide +kernel
theorem dX0_atRest_18 : decode cX0_atRest 18 = .ok (.iload_n 1, 1) := by decide +kernel
theorem dX0_atRest_19 : decode cX0_atRest 19 = .ok (.iload_n 3, 1) := by decide +kernel
theorem dX0_atRest_20 : decode cX0_atRest 20 = .ok (.iload 4, 2) := by decide +kernel
theorem dX0_atRest_22 : decode cX0_atRest 22 = .ok (.invokestatic 38, 3) := by decide +kernel
theorem dX0_atRest_25 : decode cX0_atRest 25 = .ok (.aload_n 0, 1) := by decide +kernel
theorem dX0_atRest_26 : decode cX0_atRest 26 = .ok (.getfield 15, 3) := by decide +kernel
theorem dX0_atRest_29 : decode cX0_atRest 29 = .ok (.iload_n 1, 1) := by decide +kernel
theorem dX0_atRest_30 : decode cX0_atRest 30 = .ok (.iaload, 1) := by decide +kernel
theorem dX0_atRest_31 : decode cX0_atRest 31 = .ok (.if_icmp .ne 7, 3) := by decide +kernel
theorem dX0_atRest_34 : decode cX0_atRest 34 = .ok (.iconst 1, 1) := by decide +kernel
theorem dX0_atRest_35 : decode cX0_atRest 35 = .ok (.goto 4, 3) := by decide +kernel
theorem dX0_atRest_38 : decode cX0_atRest 38 = .ok (.iconst 0, 1) := by decide +kernel
theorem dX0_atRest_39 : decode cX0_atRest 39 = .ok (.ireturn, 1) := by decide +kernel
theorem dX0_share_0 : decode cX0_share 0 = .ok (.iload_n 0, 1) := by decide +kernel
theorem dX0_share_1 : decode cX0_share 1 = .ok (.iload_n 1, 1) := by decide +kernel
theorem dX0_share_2 : decode cX0_share 2 = .ok (.iadd, 1) := by decide +kernel
theorem dX0_share_3 : decode cX0_share 3 = .ok (.istore 4, 2) := by decide +kernel
theorem dX0_share_5 : decode cX0_share 5 = .ok (.iload 4, 2) := by decide +kernel
theorem dX0_share_7 : decode cX0_share 7 = .ok (.ifCond .le 16, 3) := by decide +kernel
theorem dX0_share_10 : decode cX0_share 10 = .ok (.iload_n 2, 1) := by decide +kernel
theorem dX0_share_11 : decode cX0_share 11 = .ok (.iload_n 0, 1) := by decide +kernel
theorem dX0_share_12 : decode cX0_share 12 = .ok (.imul, 1) := by decide +kernel
theorem dX0_share_13 : decode cX0_share 13 = .ok (.iload 4, 2) := by decide +kernel
theorem dX0_share_15 : decode cX0_share 15 = .ok (.idiv, 1) := by decide +kernel
theorem dX0_share_16 : decode cX0_share 16 = .ok (.iload_n 3, 1) := by decide +kernel
theorem dX0_share_17 : decode cX0_share 17 = .ok (.iload_n 0, 1) := by decide +kernel
theorem dX0_share_18 : decode cX0_share 18 = .ok (.imul, 1) := by decide +kernel
theorem dX0_share_19 : decode cX0_share 19 = .ok (.isub, 1) := by decide +kernel
theorem dX0_share_20 : decode cX0_share 20 = .ok (.goto 4, 3) := by decide +kernel
theorem dX0_share_23 : decode cX0_share 23 = .ok (.iconst 0, 1) := by decide +kernel
theorem dX0_share_24 : decode cX0_share 24 = .ok (.ireturn, 1) := by decide +kernel
theorem dX7_init_0 : decode cX7_init 0 = .ok (.aload_n 0, 1) := by decide +kernel
theorem dX7_init_1 : decode cX7_init 1 = .ok (.invokespecial 3, 3) := by decide +kernel
theorem dX7_init_4 : decode cX7_init 4 = .ok (.aload_n 0, 1) := by decide +kernel
theorem dX7_init_5 : decode cX7_init 5 = .ok (.bipush 8, 2) := by decide +kernel
theorem dX7_init_7 : decode cX7_init 7 = .ok (.newarray .int, 2) := by decide +kernel
theorem dX7_init_9 : decode cX7_init 9 = .ok (.putfield 9, 3) := by decide +kernel
theorem dX7_init_12 : decode cX7_init 12 = .ok (.aload_n 0, 1) := by decide +kernel
theorem dX7_init_13 : decode cX7_init 13 = .ok (.bipush 12, 2) := by decide +kernel
theorem dX7_init_15 : decode cX7_init 15 = .ok (.newarray .int, 2) := by decide +kernel
theorem dX7_init_17 : decode cX7_init 17 = .ok (.putfield 15, 3) := by decide +kernel
theorem dX7_init_20 : decode cX7_init 20 = .ok (.aload_n 0, 1) := by decide +kernel
theorem dX7_init_21 : decode cX7_init 21 = .ok (.bipush 12, 2) := by decide +kernel
theorem dX7_init_23 : decode cX7_init 23 = .ok (.newarray .int, 2) := by decide +kernel
theorem dX7_init_25 : decode cX7_init 25 = .ok (.putfield 18, 3) := by decide +kernel
theorem dX7_init_28 : decode cX7_init 28 = .ok (.aload_n 0, 1) := by decide +kernel
theorem dX7_init_29 : decode cX7_init 29 = .ok (.aload_n 1, 1) := by decide +kernel
theorem dX7_init_30 : decode cX7_init 30 = .ok (.putfield 21, 3) := by decide +kernel
theorem dX7_init_33 : decode cX7_init 33 = .ok (.return_, 1) := by decide +kernel
theorem dX7_find_0 : decode cX7_find 0 = .ok (.iconst 0, 1) := by decide +kernel
theorem dX7_find_1 : decode cX7_find 1 = .ok (.istore 5, 2) := by decide +kernel
theorem dX7_find_3 : decode cX7_find 3 = .ok (.iload 5, 2) := by decide +kernel
theorem dX7_find_5 : decode cX7_find 5 = .ok (.bipush 8, 2) := by decide +kernel
theorem dX7_find_7 : decode cX7_find 7 = .ok (.if_icmp .ge 32, 3) := by decide +kernel
theorem dX7_find_10 : decode cX7_find 10 = .ok (.aload_n 0, 1) := by decide +kernel
theorem dX7_find_11 : decode cX7_find 11 = .ok (.getfield 9, 3) := by decide +kernel
theorem dX7_find_14 : decode cX7_find 14 = .ok (.iload 5, 2) := by decide +kernel
theorem dX7_find_16 : decode cX7_find 16 = .ok (.aload_n 2, 1) := by decide +kernel
theorem dX7_find_17 : decode cX7_find 17 = .ok (.iload 5, 2) := by decide +kernel
theorem dX7_find_19 : decode cX7_find 19 = .ok (.iload_n 3, 1) := by decide +kernel
theorem dX7_find_20 : decode cX7_find 20 = .ok (.aload_n 0, 1) := by decide +kernel
theorem dX7_find_21 : decode cX7_find 21 = .ok (.getfield 21, 3) := by decide +kernel
theorem dX7_find_24 : decode cX7_find 24 = .ok (.getfield 25, 3) := by decide +kernel
theorem dX7_find_27 : decode cX7_find 27 = .ok (.iload 4, 2) := by decide +kernel
theorem dX7_find_29 : decode cX7_find 29 = .ok (.invokevirtual 31, 3) := by decide +kernel
theorem dX7_find_32 : decode cX7_find 32 = .ok (.iastore, 1) := by decide +kernel
theorem dX7_find_33 : decode cX7_find 33 = .ok (.iinc 5 1, 3) := by decide +kernel
theorem dX7_find_36 : decode cX7_find 36 = .ok (.goto (-33), 3) := by decide +kernel
theorem dX7_find_39 : decode cX7_find 39 = .ok (.iconst 0, 1) := by decide +kernel
theorem dX7_find_40 : decode cX7_find 40 = .ok (.istore 5, 2) := by decide +kernel
theorem dX7_find_42 : decode cX7_find 42 = .ok (.iload 5, 2) := by decide +kernel
theorem dX7_find_44 : decode cX7_find 44 = .ok (.aload_n 0, 1) := by decide +kernel
theorem dX7_find_45 : decode cX7_find 45 = .ok (.getfield 21, 3) := by decide +kernel
theorem dX7_find_48 : decode cX7_find 48 = .ok (.getfield 25, 3) := by decide +kernel
theorem dX7_find_51 : decode cX7_find 51 = .ok (.if_icmp .ge 39, 3) := by decide +kernel
theorem dX7_find_54 : decode cX7_find 54 = .ok (.aload_n 0, 1) := by decide +kernel
theorem dX7_find_55 : decode cX7_find 55 = .ok (.getfield 15, 3) := by decide +kernel
theorem dX7_find_58 : decode cX7_find 58 = .ok (.iload 5, 2) := by decide +kernel
theorem dX7_find_60 : decode cX7_find 60 = .ok (.aload_n 0, 1) := by decide +kernel
theorem dX7_find_61 : decode cX7_find 61 = .ok (.aload_n 1, 1) := by decide +kernel
theorem dX7_find_62 : decode cX7_find 62 = .ok (.iload 5, 2) := by decide +kernel
theorem dX7_find_64 : decode cX7_find 64 = .ok (.iconst 0, 1) := by decide +kernel
theorem dX7_find_65 : decode cX7_find 65 = .ok (.invokevirtual 37, 3) := by decide +kernel
theorem dX7_find_68 : decode cX7_find 68 = .ok (.iastore, 1) := by decide +kernel
theorem dX7_find_69 : decode cX7_find 69 = .ok (.aload_n 0, 1) := by decide +kernel
theorem dX7_find_70 : decode cX7_find 70 = .ok (.getfield 18, 3) := by decide +kernel
theorem dX7_find_73 : decode cX7_find 73 = .ok (.iload 5, 2) := by decide +kernel
theorem dX7_find_75 : decode cX7_find 75 = .ok (.aload_n 0, 1) := by decide +kernel
theorem dX7_find_76 : decode cX7_find 76 = .ok (.aload_n 1, 1) := by decide +kernel
theorem dX7_find_77 : decode cX7_find 77 = .ok (.iload 5, 2) := by decide +kernel
theorem dX7_find_79 : decode cX7_find 79 = .ok (.iconst 1, 1) := by decide +kernel
theorem dX7_find_80 : decode cX7_find 80 = .ok (.invokevirtual 37, 3) := by decide +kernel
theorem dX7_find_83 : decode cX7_find 83 = .ok (.iastore, 1) := by decide +kernel
theorem dX7_find_84 : decode cX7_find 84 = .ok (.iinc 5 1, 3) := by decide +kernel
theorem dX7_find_87 : decode cX7_find 87 = .ok (.goto (-45), 3) := by decide +kernel
theorem dX7_find_90 : decode cX7_find 90 = .ok (.iconst 0, 1) := by decide +kernel
theorem dX7_find_91 : decode cX7_find 91 = .ok (.istore 5, 2) := by decide +kernel
theorem dX7_find_93 : decode cX7_find 93 = .ok (.iconst 0, 1) := by decide +kernel
theorem dX7_find_94 : decode cX7_find 94 = .ok (.istore 6, 2) := by decide +kernel
theorem dX7_find_96 : decode cX7_find 96 = .ok (.iload 6, 2) := by decide +kernel
theorem dX7_find_98 : decode cX7_find 98 = .ok (.iconst 1, 1) := by decide +kernel
theorem dX7_find_99 : decode cX7_find 99 = .ok (.aload_n 0, 1) := by decide +kernel
theorem dX7_find_100 : decode cX7_find 100 = .ok (.getfield 21, 3) := by decide +kernel
theorem dX7_find_103 : decode cX7_find 103 = .ok (.getfield 25, 3) := by decide +kernel
theorem dX7_find_106 : decode cX7_find 106 = .ok (.ishl, 1) := by decide +kernel
theorem dX7_find_107 : decode cX7_find 107 = .ok (.if_icmp .ge 44, 3) := by decide +kernel
theorem dX7_find_110 : decode cX7_find 110 = .ok (.iload 6, 2) := by decide +kernel
theorem dX7_find_112 : decode cX7_find 112 = .ok (.invokestatic 41, 3) := by decide +kernel
theorem dX7_find_115 : decode cX7_find 115 = .ok (.iload 4, 2) := by decide +kernel
theorem dX7_find_117 : decode cX7_find 117 = .ok (.if_icmp .ne 28, 3) := by decide +kernel
theorem dX7_find_120 : decode cX7_find 120 = .ok (.aload_n 0, 1) := by decide +kernel
theorem dX7_find_121 : decode cX7_find 121 = .ok (.iload 6, 2) := by decide +kernel
theorem dX7_find_123 : decode cX7_find 123 = .ok (.invokevirtual 47, 3) := by decide +kernel
theorem dX7_find_126 : decode cX7_find 126 = .ok (.istore 7, 2) := by decide +kernel
theorem dX7_find_128 : decode cX7_find 128 = .ok (.iload 7, 2) := by decide +kernel
theorem dX7_find_130 : decode cX7_find 130 = .ok (.iload 5, 2) := by decide +kernel
theorem dX7_find_132 : decode cX7_find 132 = .ok (.if_icmp .le 13, 3) := by decide +kernel
theorem dX7_find_135 : decode cX7_find 135 = .ok (.iload 7, 2) := by decide +kernel
theorem dX7_find_137 : decode cX7_find 137 = .ok (.istore 5, 2) := by decide +kernel
theorem dX7_find_139 : decode cX7_find 139 = .ok (.aload_n 0, 1) := by decide +kernel
theorem dX7_find_140 : decode cX7_find 140 = .ok (.iload 6, 2) := by decide +kernel
theorem dX7_find_142 : decode cX7_find 142 = .ok (.putfield 50, 3) := by decide +kernel
theorem dX7_find_145 : decode cX7_find 145 = .ok (.iinc 6 1, 3) := by decide +kernel
theorem dX7_find_148 : decode cX7_find 148 = .ok (.goto (-52), 3) := by decide +kernel
theorem dX7_find_151 : decode cX7_find 151 = .ok (.iload 5, 2) := by decide +kernel
theorem dX7_find_153 : decode cX7_find 153 = .ok (.ireturn, 1) := by decide +kernel
theorem dX7_lasts_0 : decode cX7_lasts 0 = .ok (.aload_n 1, 1) := by decide +kernel
theorem dX7_lasts_1 : decode cX7_lasts 1 = .ok (.getfield 53, 3) := by decide +kernel
theorem dX7_lasts_4 : decode cX7_lasts 4 = .ok (.iload_n 2, 1) := by decide +kernel
theorem dX7_lasts_5 : decode cX7_lasts 5 = .ok (.iaload, 1) := by decide +kernel
theorem dX7_lasts_6 : decode cX7_lasts 6 = .ok (.istore 4, 2) := by decide +kernel
theorem dX7_lasts_8 : decode cX7_lasts 8 = .ok (.iconst 1, 1) := by decide +kernel
theorem dX7_lasts_9 : decode cX7_lasts 9 = .ok (.istore 5, 2) := by decide +kernel
theorem dX7_lasts_11 : decode cX7_lasts 11 = .ok (.iload 5, 2) := by decide +kernel
theorem dX7_lasts_13 : decode cX7_lasts 13 = .ok (.bipush 99, 2) := by decide +kernel
theorem dX7_lasts_15 : decode cX7_lasts 15 = .ok (.if_icmp .gt 75, 3) := by decide +kernel
theorem dX7_lasts_18 : decode cX7_lasts 18 = .ok (.aload_n 0, 1) := by decide +kernel
theorem dX7_lasts_19 : decode cX7_lasts 19 = .ok (.getfield 9, 3) := by decide +kernel
theorem dX7_lasts_22 : decode cX7_lasts 22 = .ok (.aload_n 1, 1) := by decide +kernel
theorem dX7_lasts_23 : decode cX7_lasts 23 = .ok (.getfield 58, 3) := by decide +kernel
theorem dX7_lasts_26 : decode cX7_lasts 26 = .ok (.iload 5, 2) := by decide +kernel
theorem dX7_lasts_28 : decode cX7_lasts 28 = .ok (.iadd, 1) := by decide +kernel
theorem dX7_lasts_29 : decode cX7_lasts 29 = .ok (.iconst 1, 1) := by decide +kernel
theorem dX7_lasts_30 : decode cX7_lasts 30 = .ok (.isub, 1) := by decide +kernel
theorem dX7_lasts_31 : decode cX7_lasts 31 = .ok (.bipush 8, 2) := by decide +kernel
theorem dX7_lasts_33 : decode cX7_lasts 33 = .ok (.irem, 1) := by decide +kernel
theorem dX7_lasts_34 : decode cX7_lasts 34 = .ok (.iaload, 1) := by decide +kernel
theorem dX7_lasts_35 : decode cX7_lasts 35 = .ok (.istore 6, 2) := by decide +kernel
theorem dX7_lasts_37 : decode cX7_lasts 37 = .ok (.iload 6, 2) := by decide +kernel
theorem dX7_lasts_39 : decode cX7_lasts 39 = .ok (.bipush 10, 2) := by decide +kernel
theorem dX7_lasts_41 : decode cX7_lasts 41 = .ok (.aload_n 0, 1) := by decide +kernel
theorem dX7_lasts_42 : decode cX7_lasts 42 = .ok (.getfield 21, 3) := by decide +kernel
theorem dX7_lasts_45 : decode cX7_lasts 45 = .ok (.getfield 61, 3) := by decide +kernel
theorem dX7_lasts_48 : decode cX7_lasts 48 = .ok (.iload_n 2, 1) := by decide +kernel
theorem dX7_lasts_49 : decode cX7_lasts 49 = .ok (.iaload, 1) := by decide +kernel
theorem dX7_lasts_50 : decode cX7_lasts 50 = .ok (.imul, 1) := by decide +kernel
theorem dX7_lasts_51 : decode cX7_lasts 51 = .ok (.iload 4, 2) := by decide +kernel
theorem dX7_lasts_53 : decode cX7_lasts 53 = .ok (.iadd, 1) := by decide +kernel
theorem dX7_lasts_54 : decode cX7_lasts 54 = .ok (.if_icmp .le 6, 3) := by decide +kernel
theorem dX7_lasts_57 : decode cX7_lasts 57 = .ok (.iload 5, 2) := by decide +kernel
theorem dX7_lasts_59 : decode cX7_lasts 59 = .ok (.ireturn, 1) := by decide +kernel
theorem dX7_lasts_60 : decode cX7_lasts 60 = .ok (.iconst 0, 1) := by decide +kernel
theorem dX7_lasts_61 : decode cX7_lasts 61 = .ok (.iload 4, 2) := by decide +kernel
theorem dX7_lasts_63 : decode cX7_lasts 63 = .ok (.iload 6, 2) := by decide +kernel
theorem dX7_lasts_65 : decode cX7_lasts 65 = .ok (.aload_n 0, 1) := by decide +kernel
theorem dX7_lasts_66 : decode cX7_lasts 66 = .ok (.getfield 21, 3) := by decide +kernel
theorem dX7_lasts_69 : decode cX7_lasts 69 = .ok (.getfield 61, 3) := by decide +kernel
theorem dX7_lasts_72 : decode cX7_lasts 72 = .ok (.iload_n 2, 1) := by decide +kernel
theorem dX7_lasts_73 : decode cX7_lasts 73 = .ok (.iaload, 1) := by decide +kernel
theorem dX7_lasts_74 : decode cX7_lasts 74 = .ok (.iload_n 3, 1) := by decide +kernel
theorem dX7_lasts_75 : decode cX7_lasts 75 = .ok (.invokestatic 64, 3) := by decide +kernel
theorem dX7_lasts_78 : decode cX7_lasts 78 = .ok (.isub, 1) := by decide +kernel
theorem dX7_lasts_79 : decode cX7_lasts 79 = .ok (.invokestatic 68, 3) := by decide +kernel
theorem dX7_lasts_82 : decode cX7_lasts 82 = .ok (.istore 4, 2) := by decide +kernel
theorem dX7_lasts_84 : decode cX7_lasts 84 = .ok (.iinc 5 1, 3) := by decide +kernel
theorem dX7_lasts_87 : decode cX7_lasts 87 = .ok (.goto (-76), 3) := by decide +kernel
theorem dX7_lasts_90 : decode cX7_lasts 90 = .ok (.bipush 100, 2) := by decide +kernel
theorem dX7_lasts_92 : decode cX7_lasts 92 = .ok (.ireturn, 1) := by decide +kernel
theorem dX7_firstBreak_0 : decode cX7_firstBreak 0 = .ok (.bipush 100, 2) := by decide +kernel
theorem dX7_firstBreak_2 : decode cX7_firstBreak 2 = .ok (.istore_n 2, 1) := by decide +kernel
theorem dX7_firstBreak_3 : decode cX7_firstBreak 3 = .ok (.iconst 0, 1) := by decide +kernel
theorem dX7_firstBreak_4 : decode cX7_firstBreak 4 = .ok (.istore_n 3, 1) := by decide +kernel
theorem dX7_firstBreak_5 : decode cX7_firstBreak 5 = .ok (.iload_n 3, 1) := by decide +kernel
theorem dX7_firstBreak_6 : decode cX7_firstBreak 6 = .ok (.aload_n 0, 1) := by decide +kernel
theorem dX7_firstBreak_7 : decode cX7_firstBreak 7 = .ok (.getfield 21, 3) := by decide +kernel
theorem dX7_firstBreak_10 : decode cX7_firstBreak 10 = .ok (.getfield 25, 3) := by decide +kernel
theorem dX7_firstBreak_13 : decode cX7_firstBreak 13 = .ok (.if_icmp .ge 37, 3) := by decide +kernel
theorem dX7_firstBreak_16 : decode cX7_firstBreak 16 = .ok (.iload_n 2, 1) := by decide +kernel
theorem dX7_firstBreak_17 : decode cX7_firstBreak 17 = .ok (.iload_n 1, 1) := by decide +kernel
theorem dX7_firstBreak_18 : decode cX7_firstBreak 18 = .ok (.iload_n 3, 1) := by decide +kernel
theorem dX7_firstBreak_19 : decode cX7_firstBreak 19 = .ok (.ishr, 1) := by decide +kernel
theorem dX7_firstBreak_20 : decode cX7_firstBreak 20 = .ok (.iconst 1, 1) := by decide +kernel
theorem dX7_firstBreak_21 : decode cX7_firstBreak 21 = .ok (.iand, 1) := by decide +kernel
theorem dX7_firstBreak_22 : decode cX7_firstBreak 22 = .ok (.ifCond .eq 12, 3) := by decide +kernel
theorem dX7_firstBreak_25 : decode cX7_firstBreak 25 = .ok (.aload_n 0, 1) := by decide +kernel
theorem dX7_firstBreak_26 : decode cX7_firstBreak 26 = .ok (.getfield 18, 3) := by decide +kernel
theorem dX7_firstBreak_29 : decode cX7_firstBreak 29 = .ok (.iload_n 3, 1) := by decide +kernel
theorem dX7_firstBreak_30 : decode cX7_firstBreak 30 = .ok (.iaload, 1) := by decide +kernel
theorem dX7_firstBreak_31 : decode cX7_firstBreak 31 = .ok (.goto 9, 3) := by decide +kernel
theorem dX7_firstBreak_34 : decode cX7_firstBreak 34 = .ok (.aload_n 0, 1) := by decide +kernel
theorem dX7_firstBreak_35 : decode cX7_firstBreak 35 = .ok (.getfield 15, 3) := by decide +kernel
theorem dX7_firstBreak_38 : decode cX7_firstBreak 38 = .ok (.iload_n 3, 1) := by decide +kernel
theorem dX7_firstBreak_39 : decode cX7_firstBreak 39 = .ok (.iaload, 1) := by decide +kernel
theorem dX7_firstBreak_40 : decode cX7_firstBreak 40 = .ok (.invokestatic 74, 3) := by decide +kernel
theorem dX7_firstBreak_43 : decode cX7_firstBreak 43 = .ok (.istore_n 2, 1) := by decide +kernel
theorem dX7_firstBreak_44 : decode cX7_firstBreak 44 = .ok (.iinc 3 1, 3) := by decide +kernel
theorem dX7_firstBreak_47 : decode cX7_firstBreak 47 = .ok (.goto (-42), 3) := by decide +kernel
theorem dX7_firstBreak_50 : decode cX7_firstBreak 50 = .ok (.iload_n 2, 1) := by decide +kernel
theorem dX7_firstBreak_51 : decode cX7_firstBreak 51 = .ok (.ireturn, 1) := by decide +kernel
theorem dX1_init_0 : decode cX1_init 0 = .ok (.aload_n 0, 1) := by decide +kernel
theorem dX1_init_1 : decode cX1_init 1 = .ok (.invokespecial 3, 3) := by decide +kernel
theorem dX1_init_4 : decode cX1_init 4 = .ok (.aload_n 0, 1) := by decide +kernel
theorem dX1_init_5 : decode cX1_init 5 = .ok (.bipush 8, 2) := by decide +kernel
theorem dX1_init_7 : decode cX1_init 7 = .ok (.newarray .int, 2) := by decide +kernel
theorem dX1_init_9 : decode cX1_init 9 = .ok (.putfield 9, 3) := by decide +kernel
theorem dX1_init_12 : decode cX1_init 12 = .ok (.aload_n 0, 1) := by decide +kernel
theorem dX1_init_13 : decode cX1_init 13 = .ok (.bipush 12, 2) := by decide +kernel
theorem dX1_init_15 : decode cX1_init 15 = .ok (.newarray .int, 2) := by decide +kernel
theorem dX1_init_17 : decode cX1_init 17 = .ok (.putfield 15, 3) := by decide +kernel
theorem dX1_init_20 : decode cX1_init 20 = .ok (.aload_n 0, 1) := by decide +kernel
theorem dX1_init_21 : decode cX1_init 21 = .ok (.bipush 8, 2) := by decide +kernel
theorem dX1_init_23 : decode cX1_init 23 = .ok (.newarray .int, 2) := by decide +kernel
theorem dX1_init_25 : decode cX1_init 25 = .ok (.putfield 18, 3) := by decide +kernel
theorem dX1_init_28 : decode cX1_init 28 = .ok (.aload_n 0, 1) := by decide +kernel
theorem dX1_init_29 : decode cX1_init 29 = .ok (.aload_n 1, 1) := by decide +kernel
theorem dX1_init_30 : decode cX1_init 30 = .ok (.putfield 21, 3) := by decide +kernel
theorem dX1_init_33 : decode cX1_init 33 = .ok (.aload_n 0, 1) := by decide +kernel
theorem dX1_init_34 : decode cX1_init 34 = .ok (.aload_n 2, 1) := by decide +kernel
theorem dX1_init_35 : decode cX1_init 35 = .ok (.putfield 25, 3) := by decide +kernel
theorem dX1_init_38 : decode cX1_init 38 = .ok (.return_, 1) := by decide +kernel
theorem dX1_find_0 : decode cX1_find 0 = .ok (.aload_n 0, 1) := by decide +kernel
theorem dX1_find_1 : decode cX1_find 1 = .ok (.iload 4, 2) := by decide +kernel
theorem dX1_find_3 : decode cX1_find 3 = .ok (.putfield 29, 3) := by decide +kernel
theorem dX1_find_6 : decode cX1_find 6 = .ok (.aload_n 0, 1) := by decide +kernel
theorem dX1_find_7 : decode cX1_find 7 = .ok (.iload 5, 2) := by decide +kernel
theorem dX1_find_9 : decode cX1_find 9 = .ok (.putfield 33, 3) := by decide +kernel
theorem dX1_find_12 : decode cX1_find 12 = .ok (.aload_n 0, 1) := by decide +kernel
theorem dX1_find_13 : decode cX1_find 13 = .ok (.aload_n 1, 1) := by decide +kernel
theorem dX1_find_14 : decode cX1_find 14 = .ok (.iload_n 3, 1) := by decide +kernel
theorem dX1_find_15 : decode cX1_find 15 = .ok (.invokevirtual 36, 3) := by decide +kernel
theorem dX1_find_18 : decode cX1_find 18 = .ok (.iconst 0, 1) := by decide +kernel
theorem dX1_find_19 : decode cX1_find 19 = .ok (.istore 6, 2) := by decide +kernel
theorem dX1_find_21 : decode cX1_find 21 = .ok (.iload 6, 2) := by decide +kernel
theorem dX1_find_23 : decode cX1_find 23 = .ok (.aload_n 0, 1) := by decide +kernel
theorem dX1_find_24 : decode cX1_find 24 = .ok (.getfield 40, 3) := by decide +kernel
theorem dX1_find_27 : decode cX1_find 27 = .ok (.invokestatic 43, 3) := by decide +kernel
theorem dX1_find_30 : decode cX1_find 30 = .ok (.if_icmp .gt 24, 3) := by decide +kernel
theorem dX1_find_33 : decode cX1_find 33 = .ok (.aload_n 0, 1) := by decide +kernel
theorem dX1_find_34 : decode cX1_find 34 = .ok (.aload_n 1, 1) := by decide +kernel
theorem dX1_find_35 : decode cX1_find 35 = .ok (.aload_n 2, 1) := by decide +kernel
theorem dX1_find_36 : decode cX1_find 36 = .ok (.iconst 0, 1) := by decide +kernel
theorem dX1_find_37 : decode cX1_find 37 = .ok (.iload 6, 2) := by decide +kernel
theorem dX1_find_39 : decode cX1_find 39 = .ok (.invokevirtual 49, 3) := by decide +kernel
theorem dX1_find_42 : decode cX1_find 42 = .ok (.ifCond .eq 6, 3) := by decide +kernel
theorem dX1_find_45 : decode cX1_find 45 = .ok (.iload 6, 2) := by decide +kernel
theorem dX1_find_47 : decode cX1_find 47 = .ok (.ireturn, 1) := by decide +kernel
theorem dX1_find_48 : decode cX1_find 48 = .ok (.iinc 6 1, 3) := by decide +kernel
theorem dX1_find_51 : decode cX1_find 51 = .ok (.goto (-30), 3) := by decide +kernel
theorem dX1_find_54 : decode cX1_find 54 = .ok (.iconst (-1), 1) := by decide +kernel
theorem dX1_find_55 : decode cX1_find 55 = .ok (.ireturn, 1) := by decide +kernel
theorem dX1_prepare_0 : decode cX1_prepare 0 = .ok (.aload_n 0, 1) := by decide +kernel
theorem dX1_prepare_1 : decode cX1_prepare 1 = .ok (.iconst 0, 1) := by decide +kernel
theorem dX1_prepare_2 : decode cX1_prepare 2 = .ok (.putfield 40, 3) := by decide +kernel
theorem dX1_prepare_5 : decode cX1_prepare 5 = .ok (.iconst 0, 1) := by decide +kernel
theorem dX1_prepare_6 : decode cX1_prepare 6 = .ok (.istore_n 3, 1) := by decide +kernel
theorem dX1_prepare_7 : decode cX1_prepare 7 = .ok (.iload_n 3, 1) := by decide +kernel
theorem dX1_prepare_8 : decode cX1_prepare 8 = .ok (.aload_n 0, 1) := by decide +kernel
theorem dX1_prepare_9 : decode cX1_prepare 9 = .ok (.getfield 21, 3) := by decide +kernel
theorem dX1_prepare_12 : decode cX1_prepare 12 = .ok (.getfield 53, 3) := by decide +kernel
theorem dX1_prepare_15 : decode cX1_prepare 15 = .ok (.if_icmp .ge 25, 3) := by decide +kernel
theorem dX1_prepare_18 : decode cX1_prepare 18 = .ok (.aload_n 0, 1) := by decide +kernel
theorem dX1_prepare_19 : decode cX1_prepare 19 = .ok (.getfield 15, 3) := by decide +kernel
theorem dX1_prepare_22 : decode cX1_prepare 22 = .ok (.iload_n 3, 1) := by decide +kernel
theorem dX1_prepare_23 : decode cX1_prepare 23 = .ok (.aload_n 0, 1) := by decide +kernel
theorem dX1_prepare_24 : decode cX1_prepare 24 = .ok (.getfield 33, 3) := by decide +kernel
theorem dX1_prepare_27 : decode cX1_prepare 27 = .ok (.aload_n 1, 1) := by decide +kernel
theorem dX1_prepare_28 : decode cX1_prepare 28 = .ok (.iload_n 3, 1) := by decide +kernel
theorem dX1_prepare_29 : decode cX1_prepare 29 = .ok (.invokevirtual 58, 3) := by decide +kernel
theorem dX1_prepare_32 : decode cX1_prepare 32 = .ok (.isub, 1) := by decide +kernel
theorem dX1_prepare_33 : decode cX1_prepare 33 = .ok (.iastore, 1) := by decide +kernel
theorem dX1_prepare_34 : decode cX1_prepare 34 = .ok (.iinc 3 1, 3) := by decide +kernel
theorem dX1_prepare_37 : decode cX1_prepare 37 = .ok (.goto (-30), 3) := by decide +kernel
theorem dX1_prepare_40 : decode cX1_prepare 40 = .ok (.iconst 0, 1) := by decide +kernel
theorem dX1_prepare_41 : decode cX1_prepare 41 = .ok (.istore_n 3, 1) := by decide +kernel
theorem dX1_prepare_42 : decode cX1_prepare 42 = .ok (.iload_n 3, 1) := by decide +kernel
theorem dX1_prepare_43 : decode cX1_prepare 43 = .ok (.aload_n 0, 1) := by decide +kernel
theorem dX1_prepare_44 : decode cX1_prepare 44 = .ok (.getfield 25, 3) := by decide +kernel
theorem dX1_prepare_47 : decode cX1_prepare 47 = .ok (.getfield 63, 3) := by decide +kernel
theorem dX1_prepare_50 : decode cX1_prepare 50 = .ok (.if_icmp .ge 83, 3) := by decide +kernel
theorem dX1_prepare_53 : decode cX1_prepare 53 = .ok (.aload_n 0, 1) := by decide +kernel
theorem dX1_prepare_54 : decode cX1_prepare 54 = .ok (.getfield 9, 3) := by decide +kernel
theorem dX1_prepare_57 : decode cX1_prepare 57 = .ok (.iload_n 3, 1) := by decide +kernel
theorem dX1_prepare_58 : decode cX1_prepare 58 = .ok (.iconst (-1), 1) := by decide +kernel
theorem dX1_prepare_59 : decode cX1_prepare 59 = .ok (.iastore, 1) := by decide +kernel
theorem dX1_prepare_60 : decode cX1_prepare 60 = .ok (.aload_n 0, 1) := by decide +kernel
theorem dX1_prepare_61 : decode cX1_prepare 61 = .ok (.getfield 18, 3) := by decide +kernel
theorem dX1_prepare_64 : decode cX1_prepare 64 = .ok (.iload_n 3, 1) := by decide +kernel
theorem dX1_prepare_65 : decode cX1_prepare 65 = .ok (.iconst 0, 1) := by decide +kernel
theorem dX1_prepare_66 : decode cX1_prepare 66 = .ok (.iastore, 1) := by decide +kernel
theorem dX1_prepare_67 : decode cX1_prepare 67 = .ok (.iload_n 2, 1) := by decide +kernel
theorem dX1_prepare_68 : decode cX1_prepare 68 = .ok (.iload_n 3, 1) := by decide +kernel
theorem dX1_prepare_69 : decode cX1_prepare 69 = .ok (.ishr, 1) := by decide +kernel
theorem dX1_prepare_70 : decode cX1_prepare 70 = .ok (.iconst 1, 1) := by decide +kernel
theorem dX1_prepare_71 : decode cX1_prepare 71 = .ok (.iand, 1) := by decide +kernel
theorem dX1_prepare_72 : decode cX1_prepare 72 = .ok (.ifCond .eq 55, 3) := by decide +kernel
theorem dX1_prepare_75 : decode cX1_prepare 75 = .ok (.aload_n 1, 1) := by decide +kernel
theorem dX1_prepare_76 : decode cX1_prepare 76 = .ok (.getfield 68, 3) := by decide +kernel
theorem dX1_prepare_79 : decode cX1_prepare 79 = .ok (.iload_n 3, 1) := by decide +kernel
theorem dX1_prepare_80 : decode cX1_prepare 80 = .ok (.iaload, 1) := by decide +kernel
theorem dX1_prepare_81 : decode cX1_prepare 81 = .ok (.ifCond .le 46, 3) := by decide +kernel
theorem dX1_prepare_84 : decode cX1_prepare 84 = .ok (.aload_n 0, 1) := by decide +kernel
theorem dX1_prepare_85 : decode cX1_prepare 85 = .ok (.dup, 1) := by decide +kernel
theorem dX1_prepare_86 : decode cX1_prepare 86 = .ok (.getfield 40, 3) := by decide +kernel
theorem dX1_prepare_89 : decode cX1_prepare 89 = .ok (.iconst 1, 1) := by decide +kernel
theorem dX1_prepare_90 : decode cX1_prepare 90 = .ok (.iload_n 3, 1) := by decide +kernel
theorem dX1_prepare_91 : decode cX1_prepare 91 = .ok (.ishl, 1) := by decide +kernel
theorem dX1_prepare_92 : decode cX1_prepare 92 = .ok (.ior, 1) := by decide +kernel
theorem dX1_prepare_93 : decode cX1_prepare 93 = .ok (.putfield 40, 3) := by decide +kernel
theorem dX1_prepare_96 : decode cX1_prepare 96 = .ok (.aload_n 0, 1) := by decide +kernel
theorem dX1_prepare_97 : decode cX1_prepare 97 = .ok (.getfield 18, 3) := by decide +kernel
theorem dX1_prepare_100 : decode cX1_prepare 100 = .ok (.iload_n 3, 1) := by decide +kernel
theorem dX1_prepare_101 : decode cX1_prepare 101 = .ok (.aload_n 0, 1) := by decide +kernel
theorem dX1_prepare_102 : decode cX1_prepare 102 = .ok (.aload_n 1, 1) := by decide +kernel
theorem dX1_prepare_103 : decode cX1_prepare 103 = .ok (.iload_n 3, 1) := by decide +kernel
theorem dX1_prepare_104 : decode cX1_prepare 104 = .ok (.aload_n 0, 1) := by decide +kernel
theorem dX1_prepare_105 : decode cX1_prepare 105 = .ok (.getfield 25, 3) := by decide +kernel
theorem dX1_prepare_108 : decode cX1_prepare 108 = .ok (.getfield 71, 3) := by decide +kernel
theorem dX1_prepare_111 : decode cX1_prepare 111 = .ok (.iload_n 3, 1) := by decide +kernel
theorem dX1_prepare_112 : decode cX1_prepare 112 = .ok (.iaload, 1) := by decide +kernel
theorem dX1_prepare_113 : decode cX1_prepare 113 = .ok (.iload_n 2, 1) := by decide +kernel
theorem dX1_prepare_114 : decode cX1_prepare 114 = .ok (.iand, 1) := by decide +kernel
theorem dX1_prepare_115 : decode cX1_prepare 115 = .ok (.ifCond .eq 7, 3) := by decide +kernel
theorem dX1_prepare_118 : decode cX1_prepare 118 = .ok (.iconst 1, 1) := by decide +kernel
theorem dX1_prepare_119 : decode cX1_prepare 119 = .ok (.goto 4, 3) := by decide +kernel
theorem dX1_prepare_122 : decode cX1_prepare 122 = .ok (.iconst 0, 1) := by decide +kernel
theorem dX1_prepare_123 : decode cX1_prepare 123 = .ok (.invokevirtual 74, 3) := by decide +kernel
theorem dX1_prepare_126 : decode cX1_prepare 126 = .ok (.iastore, 1) := by decide +kernel
theorem dX1_prepare_127 : decode cX1_prepare 127 = .ok (.iinc 3 1, 3) := by decide +kernel
theorem dX1_prepare_130 : decode cX1_prepare 130 = .ok (.goto (-88), 3) := by decide +kernel
theorem dX1_prepare_133 : decode cX1_prepare 133 = .ok (.return_, 1) := by decide +kernel
theorem dX1_mostOf_0 : decode cX1_mostOf 0 = .ok (.aload_n 0, 1) := by decide +kernel
theorem dX1_mostOf_1 : decode cX1_mostOf 1 = .ok (.getfield 25, 3) := by decide +kernel
theorem dX1_mostOf_4 : decode cX1_mostOf 4 = .ok (.getfield 78, 3) := by decide +kernel
theorem dX1_mostOf_7 : decode cX1_mostOf 7 = .ok (.iload_n 2, 1) := by decide +kernel
theorem dX1_mostOf_8 : decode cX1_mostOf 8 = .ok (.iaload, 1) := by decide +kernel
theorem dX1_mostOf_9 : decode cX1_mostOf 9 = .ok (.aload_n 1, 1) := by decide +kernel
theorem dX1_mostOf_10 : decode cX1_mostOf 10 = .ok (.getfield 81, 3) := by decide +kernel
theorem dX1_mostOf_13 : decode cX1_mostOf 13 = .ok (.iload_n 2, 1) := by decide +kernel
theorem dX1_mostOf_14 : decode cX1_mostOf 14 = .ok (.ishr, 1) := by decide +kernel
theorem dX1_mostOf_15 : decode cX1_mostOf 15 = .ok (.iconst 1, 1) := by decide +kernel
theorem dX1_mostOf_16 : decode cX1_mostOf 16 = .ok (.iand, 1) := by decide +kernel
theorem dX1_mostOf_17 : decode cX1_mostOf 17 = .ok (.ifCond .eq 7, 3) := by decide +kernel
theorem dX1_mostOf_20 : decode cX1_mostOf 20 = .ok (.iconst 2, 1) := by decide +kernel
theorem dX1_mostOf_21 : decode cX1_mostOf 21 = .ok (.goto 4, 3) := by decide +kernel
theorem dX1_mostOf_24 : decode cX1_mostOf 24 = .ok (.iconst 0, 1) := by decide +kernel
theorem dX1_mostOf_25 : decode cX1_mostOf 25 = .ok (.iadd, 1) := by decide +kernel
theorem dX1_mostOf_26 : decode cX1_mostOf 26 = .ok (.iload_n 3, 1) := by decide +kernel
theorem dX1_mostOf_27 : decode cX1_mostOf 27 = .ok (.ifCond .eq 7, 3) := by decide +kernel
theorem dX1_mostOf_30 : decode cX1_mostOf 30 = .ok (.iconst 1, 1) := by decide +kernel
theorem dX1_mostOf_31 : decode cX1_mostOf 31 = .ok (.goto 4, 3) := by decide +kernel
theorem dX1_mostOf_34 : decode cX1_mostOf 34 = .ok (.iconst 0, 1) := by decide +kernel
theorem dX1_mostOf_35 : decode cX1_mostOf 35 = .ok (.iadd, 1) := by decide +kernel
theorem dX1_mostOf_36 : decode cX1_mostOf 36 = .ok (.istore 4, 2) := by decide +kernel
theorem dX1_mostOf_38 : decode cX1_mostOf 38 = .ok (.iconst 0, 1) := by decide +kernel
theorem dX1_mostOf_39 : decode cX1_mostOf 39 = .ok (.istore 5, 2) := by decide +kernel
theorem dX1_mostOf_41 : decode cX1_mostOf 41 = .ok (.aload_n 1, 1) := by decide +kernel
theorem dX1_mostOf_42 : decode cX1_mostOf 42 = .ok (.getfield 68, 3) := by decide +kernel
theorem dX1_mostOf_45 : decode cX1_mostOf 45 = .ok (.iload_n 2, 1) := by decide +kernel
theorem dX1_mostOf_46 : decode cX1_mostOf 46 = .ok (.iaload, 1) := by decide +kernel
theorem dX1_mostOf_47 : decode cX1_mostOf 47 = .ok (.istore 6, 2) := by decide +kernel
theorem dX1_mostOf_49 : decode cX1_mostOf 49 = .ok (.iload 6, 2) := by decide +kernel
theorem dX1_mostOf_51 : decode cX1_mostOf 51 = .ok (.ifCond .le 46, 3) := by decide +kernel
theorem dX1_mostOf_54 : decode cX1_mostOf 54 = .ok (.iload 6, 2) := by decide +kernel
theorem dX1_mostOf_56 : decode cX1_mostOf 56 = .ok (.aload_n 1, 1) := by decide +kernel
theorem dX1_mostOf_57 : decode cX1_mostOf 57 = .ok (.getfield 68, 3) := by decide +kernel
theorem dX1_mostOf_60 : decode cX1_mostOf 60 = .ok (.iload_n 2, 1) := by decide +kernel
theorem dX1_mostOf_61 : decode cX1_mostOf 61 = .ok (.iaload, 1) := by decide +kernel
theorem dX1_mostOf_62 : decode cX1_mostOf 62 = .ok (.aload_n 0, 1) := by decide +kernel
theorem dX1_mostOf_63 : decode cX1_mostOf 63 = .ok (.getfield 29, 3) := by decide +kernel
theorem dX1_mostOf_66 : decode cX1_mostOf 66 = .ok (.isub, 1) := by decide +kernel
theorem dX1_mostOf_67 : decode cX1_mostOf 67 = .ok (.if_icmp .le 30, 3) := by decide +kernel
theorem dX1_mostOf_70 : decode cX1_mostOf 70 = .ok (.iload 5, 2) := by decide +kernel
theorem dX1_mostOf_72 : decode cX1_mostOf 72 = .ok (.iload 4, 2) := by decide +kernel
theorem dX1_mostOf_74 : decode cX1_mostOf 74 = .ok (.iload 6, 2) := by decide +kernel
theorem dX1_mostOf_76 : decode cX1_mostOf 76 = .ok (.aload_n 0, 1) := by decide +kernel
theorem dX1_mostOf_77 : decode cX1_mostOf 77 = .ok (.getfield 25, 3) := by decide +kernel
theorem dX1_mostOf_80 : decode cX1_mostOf 80 = .ok (.getfield 84, 3) := by decide +kernel
theorem dX1_mostOf_83 : decode cX1_mostOf 83 = .ok (.iload_n 2, 1) := by decide +kernel
theorem dX1_mostOf_84 : decode cX1_mostOf 84 = .ok (.iaload, 1) := by decide +kernel
theorem dX1_mostOf_85 : decode cX1_mostOf 85 = .ok (.invokestatic 87, 3) := by decide +kernel
theorem dX1_mostOf_88 : decode cX1_mostOf 88 = .ok (.iadd, 1) := by decide +kernel
theorem dX1_mostOf_89 : decode cX1_mostOf 89 = .ok (.istore 5, 2) := by decide +kernel
theorem dX1_mostOf_91 : decode cX1_mostOf 91 = .ok (.iinc 6 (-1), 3) := by decide +kernel
theorem dX1_mostOf_94 : decode cX1_mostOf 94 = .ok (.goto (-45), 3) := by decide +kernel
theorem dX1_mostOf_97 : decode cX1_mostOf 97 = .ok (.iload 5, 2) := by decide +kernel
theorem dX1_mostOf_99 : decode cX1_mostOf 99 = .ok (.ireturn, 1) := by decide +kernel
theorem dX1_settle_0 : decode cX1_settle 0 = .ok (.aload_n 0, 1) := by decide +kernel
theorem dX1_settle_1 : decode cX1_settle 1 = .ok (.iload_n 3, 1) := by decide +kernel
theorem dX1_settle_2 : decode cX1_settle 2 = .ok (.iload 4, 2) := by decide +kernel
theorem dX1_settle_4 : decode cX1_settle 4 = .ok (.invokevirtual 91, 3) := by decide +kernel
theorem dX1_settle_7 : decode cX1_settle 7 = .ok (.ifCond .eq 5, 3) := by decide +kernel
theorem dX1_settle_10 : decode cX1_settle 10 = .ok (.iconst 0, 1) := by decide +kernel
theorem dX1_settle_11 : decode cX1_settle 11 = .ok (.ireturn, 1) := by decide +kernel
theorem dX1_settle_12 : decode cX1_settle 12 = .ok (.iload_n 3, 1) := by decide +kernel
theorem dX1_settle_13 : decode cX1_settle 13 = .ok (.aload_n 0, 1) := by decide +kernel
theorem dX1_settle_14 : decode cX1_settle 14 = .ok (.getfield 25, 3) := by decide +kernel
theorem dX1_settle_17 : decode cX1_settle 17 = .ok (.getfield 63, 3) := by decide +kernel
theorem dX1_settle_20 : decode cX1_settle 20 = .ok (.if_icmp .lt 10, 3) := by decide +kernel
theorem dX1_settle_23 : decode cX1_settle 23 = .ok (.aload_n 0, 1) := by decide +kernel
theorem dX1_settle_24 : decode cX1_settle 24 = .ok (.aload_n 1, 1) := by decide +kernel
theorem dX1_settle_25 : decode cX1_settle 25 = .ok (.aload_n 2, 1) := by decide +kernel
theorem dX1_settle_26 : decode cX1_settle 26 = .ok (.invokevirtual 95, 3) := by decide +kernel
theorem dX1_settle_29 : decode cX1_settle 29 = .ok (.ireturn, 1) := by decide +kernel
theorem dX1_settle_30 : decode cX1_settle 30 = .ok (.aload_n 0, 1) := by decide +kernel
theorem dX1_settle_31 : decode cX1_settle 31 = .ok (.getfield 9, 3) := by decide +kernel
theorem dX1_settle_34 : decode cX1_settle 34 = .ok (.iload_n 3, 1) := by decide +kernel
theorem dX1_settle_35 : decode cX1_settle 35 = .ok (.iconst (-1), 1) := by decide +kernel
theorem dX1_settle_36 : decode cX1_settle 36 = .ok (.iastore, 1) := by decide +kernel
theorem dX1_settle_37 : decode cX1_settle 37 = .ok (.aload_n 0, 1) := by decide +kernel
theorem dX1_settle_38 : decode cX1_settle 38 = .ok (.aload_n 1, 1) := by decide +kernel
theorem dX1_settle_39 : decode cX1_settle 39 = .ok (.aload_n 2, 1) := by decide +kernel
theorem dX1_settle_40 : decode cX1_settle 40 = .ok (.iload_n 3, 1) := by decide +kernel
theorem dX1_settle_41 : decode cX1_settle 41 = .ok (.iconst 1, 1) := by decide +kernel
theorem dX1_settle_42 : decode cX1_settle 42 = .ok (.iadd, 1) := by decide +kernel
theorem dX1_settle_43 : decode cX1_settle 43 = .ok (.iload 4, 2) := by decide +kernel
theorem dX1_settle_45 : decode cX1_settle 45 = .ok (.invokevirtual 49, 3) := by decide +kernel
theorem dX1_settle_48 : decode cX1_settle 48 = .ok (.ifCond .eq 5, 3) := by decide +kernel
theorem dX1_settle_51 : decode cX1_settle 51 = .ok (.iconst 1, 1) := by decide +kernel
theorem dX1_settle_52 : decode cX1_settle 52 = .ok (.ireturn, 1) := by decide +kernel
theorem dX1_settle_53 : decode cX1_settle 53 = .ok (.iload 4, 2) := by decide +kernel
theorem dX1_settle_55 : decode cX1_settle 55 = .ok (.ifCond .eq 14, 3) := by decide +kernel
theorem dX1_settle_58 : decode cX1_settle 58 = .ok (.aload_n 0, 1) := by decide +kernel
theorem dX1_settle_59 : decode cX1_settle 59 = .ok (.getfield 40, 3) := by decide +kernel
theorem dX1_settle_62 : decode cX1_settle 62 = .ok (.iload_n 3, 1) := by decide +kernel
theorem dX1_settle_63 : decode cX1_settle 63 = .ok (.ishr, 1) := by decide +kernel
theorem dX1_settle_64 : decode cX1_settle 64 = .ok (.iconst 1, 1) := by decide +kernel
theorem dX1_settle_65 : decode cX1_settle 65 = .ok (.iand, 1) := by decide +kernel
theorem dX1_settle_66 : decode cX1_settle 66 = .ok (.ifCond .ne 5, 3) := by decide +kernel
theorem dX1_settle_69 : decode cX1_settle 69 = .ok (.iconst 0, 1) := by decide +kernel
theorem dX1_settle_70 : decode cX1_settle 70 = .ok (.ireturn, 1) := by decide +kernel
theorem dX1_settle_71 : decode cX1_settle 71 = .ok (.iconst 0, 1) := by decide +kernel
theorem dX1_settle_72 : decode cX1_settle 72 = .ok (.istore 5, 2) := by decide +kernel
theorem dX1_settle_74 : decode cX1_settle 74 = .ok (.iload 5, 2) := by decide +kernel
theorem dX1_settle_76 : decode cX1_settle 76 = .ok (.aload_n 0, 1) := by decide +kernel
theorem dX1_settle_77 : decode cX1_settle 77 = .ok (.getfield 21, 3) := by decide +kernel
theorem dX1_settle_80 : decode cX1_settle 80 = .ok (.getfield 53, 3) := by decide +kernel
theorem dX1_settle_83 : decode cX1_settle 83 = .ok (.if_icmp .ge 71, 3) := by decide +kernel
theorem dX1_settle_86 : decode cX1_settle 86 = .ok (.aload_n 0, 1) := by decide +kernel
theorem dX1_settle_87 : decode cX1_settle 87 = .ok (.getfield 9, 3) := by decide +kernel
theorem dX1_settle_90 : decode cX1_settle 90 = .ok (.iload_n 3, 1) := by decide +kernel
theorem dX1_settle_91 : decode cX1_settle 91 = .ok (.iload 5, 2) := by decide +kernel
theorem dX1_settle_93 : decode cX1_settle 93 = .ok (.iastore, 1) := by decide +kernel
theorem dX1_settle_94 : decode cX1_settle 94 = .ok (.aload_n 0, 1) := by decide +kernel
theorem dX1_settle_95 : decode cX1_settle 95 = .ok (.getfield 15, 3) := by decide +kernel
theorem dX1_settle_98 : decode cX1_settle 98 = .ok (.iload 5, 2) := by decide +kernel
theorem dX1_settle_100 : decode cX1_settle 100 = .ok (.dup2, 1) := by decide +kernel
theorem dX1_settle_101 : decode cX1_settle 101 = .ok (.iaload, 1) := by decide +kernel
theorem dX1_settle_102 : decode cX1_settle 102 = .ok (.aload_n 0, 1) := by decide +kernel
theorem dX1_settle_103 : decode cX1_settle 103 = .ok (.getfield 18, 3) := by decide +kernel
theorem dX1_settle_106 : decode cX1_settle 106 = .ok (.iload_n 3, 1) := by decide +kernel
theorem dX1_settle_107 : decode cX1_settle 107 = .ok (.iaload, 1) := by decide +kernel
theorem dX1_settle_108 : decode cX1_settle 108 = .ok (.isub, 1) := by decide +kernel
theorem dX1_settle_109 : decode cX1_settle 109 = .ok (.iastore, 1) := by decide +kernel
theorem dX1_settle_110 : decode cX1_settle 110 = .ok (.aload_n 0, 1) := by decide +kernel
theorem dX1_settle_111 : decode cX1_settle 111 = .ok (.aload_n 1, 1) := by decide +kernel
theorem dX1_settle_112 : decode cX1_settle 112 = .ok (.aload_n 2, 1) := by decide +kernel
theorem dX1_settle_113 : decode cX1_settle 113 = .ok (.iload_n 3, 1) := by decide +kernel
theorem dX1_settle_114 : decode cX1_settle 114 = .ok (.iconst 1, 1) := by decide +kernel
theorem dX1_settle_115 : decode cX1_settle 115 = .ok (.iadd, 1) := by decide +kernel
theorem dX1_settle_116 : decode cX1_settle 116 = .ok (.iload 4, 2) := by decide +kernel
theorem dX1_settle_118 : decode cX1_settle 118 = .ok (.iconst 1, 1) := by decide +kernel
theorem dX1_settle_119 : decode cX1_settle 119 = .ok (.isub, 1) := by decide +kernel
theorem dX1_settle_120 : decode cX1_settle 120 = .ok (.invokevirtual 49, 3) := by decide +kernel
theorem dX1_settle_123 : decode cX1_settle 123 = .ok (.istore 6, 2) := by decide +kernel
theorem dX1_settle_125 : decode cX1_settle 125 = .ok (.aload_n 0, 1) := by decide +kernel
theorem dX1_settle_126 : decode cX1_settle 126 = .ok (.getfield 15, 3) := by decide +kernel
theorem dX1_settle_129 : decode cX1_settle 129 = .ok (.iload 5, 2) := by decide +kernel
theorem dX1_settle_131 : decode cX1_settle 131 = .ok (.dup2, 1) := by decide +kernel
theorem dX1_settle_132 : decode cX1_settle 132 = .ok (.iaload, 1) := by decide +kernel
theorem dX1_settle_133 : decode cX1_settle 133 = .ok (.aload_n 0, 1) := by decide +kernel
theorem dX1_settle_134 : decode cX1_settle 134 = .ok (.getfield 18, 3) := by decide +kernel
theorem dX1_settle_137 : decode cX1_settle 137 = .ok (.iload_n 3, 1) := by decide +kernel
theorem dX1_settle_138 : decode cX1_settle 138 = .ok (.iaload, 1) := by decide +kernel
theorem dX1_settle_139 : decode cX1_settle 139 = .ok (.iadd, 1) := by decide +kernel
theorem dX1_settle_140 : decode cX1_settle 140 = .ok (.iastore, 1) := by decide +kernel
theorem dX1_settle_141 : decode cX1_settle 141 = .ok (.iload 6, 2) := by decide +kernel
theorem dX1_settle_143 : decode cX1_settle 143 = .ok (.ifCond .eq 5, 3) := by decide +kernel
theorem dX1_settle_146 : decode cX1_settle 146 = .ok (.iconst 1, 1) := by decide +kernel
theorem dX1_settle_147 : decode cX1_settle 147 = .ok (.ireturn, 1) := by decide +kernel
theorem dX1_settle_148 : decode cX1_settle 148 = .ok (.iinc 5 1, 3) := by decide +kernel
theorem dX1_settle_151 : decode cX1_settle 151 = .ok (.goto (-77), 3) := by decide +kernel
theorem dX1_settle_154 : decode cX1_settle 154 = .ok (.aload_n 0, 1) := by decide +kernel
theorem dX1_settle_155 : decode cX1_settle 155 = .ok (.getfield 9, 3) := by decide +kernel
theorem dX1_settle_158 : decode cX1_settle 158 = .ok (.iload_n 3, 1) := by decide +kernel
theorem dX1_settle_159 : decode cX1_settle 159 = .ok (.iconst (-1), 1) := by decide +kernel
theorem dX1_settle_160 : decode cX1_settle 160 = .ok (.iastore, 1) := by decide +kernel
theorem dX1_settle_161 : decode cX1_settle 161 = .ok (.iconst 0, 1) := by decide +kernel
theorem dX1_settle_162 : decode cX1_settle 162 = .ok (.ireturn, 1) := by decide +kernel
theorem dX1_hopeless_0 : decode cX1_hopeless 0 = .ok (.aload_n 0, 1) := by decide +kernel
theorem dX1_hopeless_1 : decode cX1_hopeless 1 = .ok (.getfield 40, 3) := by decide +kernel
theorem dX1_hopeless_4 : decode cX1_hopeless 4 = .ok (.iload_n 1, 1) := by decide +kernel
theorem dX1_hopeless_5 : decode cX1_hopeless 5 = .ok (.ishr, 1) := by decide +kernel
theorem dX1_hopeless_6 : decode cX1_hopeless 6 = .ok (.invokestatic 43, 3) := by decide +kernel
theorem dX1_hopeless_9 : decode cX1_hopeless 9 = .ok (.iload_n 2, 1) := by decide +kernel
theorem dX1_hopeless_10 : decode cX1_hopeless 10 = .ok (.if_icmp .ge 5, 3) := by decide +kernel
theorem dX1_hopeless_13 : decode cX1_hopeless 13 = .ok (.iconst 1, 1) := by decide +kernel
theorem dX1_hopeless_14 : decode cX1_hopeless 14 = .ok (.ireturn, 1) := by decide +kernel
theorem dX1_hopeless_15 : decode cX1_hopeless 15 = .ok (.iconst 0, 1) := by decide +kernel
theorem dX1_hopeless_16 : decode cX1_hopeless 16 = .ok (.istore_n 3, 1) := by decide +kernel
theorem dX1_hopeless_17 : decode cX1_hopeless 17 = .ok (.iconst 0, 1) := by decide +kernel
theorem dX1_hopeless_18 : decode cX1_hopeless 18 = .ok (.istore 4, 2) := by decide +kernel
theorem dX1_hopeless_20 : decode cX1_hopeless 20 = .ok (.iconst 0, 1) := by decide +kernel
theorem dX1_hopeless_21 : decode cX1_hopeless 21 = .ok (.istore 5, 2) := by decide +kernel
theorem dX1_hopeless_23 : decode cX1_hopeless 23 = .ok (.iload 5, 2) := by decide +kernel
theorem dX1_hopeless_25 : decode cX1_hopeless 25 = .ok (.aload_n 0, 1) := by decide +kernel
theorem dX1_hopeless_26 : decode cX1_hopeless 26 = .ok (.getfield 21, 3) := by decide +kernel
theorem dX1_hopeless_29 : decode cX1_hopeless 29 = .ok (.getfield 53, 3) := by decide +kernel
theorem dX1_hopeless_32 : decode cX1_hopeless 32 = .ok (.if_icmp .ge 34, 3) := by decide +kernel
theorem dX1_hopeless_35 : decode cX1_hopeless 35 = .ok (.aload_n 0, 1) := by decide +kernel
theorem dX1_hopeless_36 : decode cX1_hopeless 36 = .ok (.getfield 15, 3) := by decide +kernel
theorem dX1_hopeless_39 : decode cX1_hopeless 39 = .ok (.iload 5, 2) := by decide +kernel
theorem dX1_hopeless_41 : decode cX1_hopeless 41 = .ok (.iaload, 1) := by decide +kernel
theorem dX1_hopeless_42 : decode cX1_hopeless 42 = .ok (.ifCond .le 18, 3) := by decide +kernel
theorem dX1_hopeless_45 : decode cX1_hopeless 45 = .ok (.iinc 3 1, 3) := by decide +kernel
theorem dX1_hopeless_48 : decode cX1_hopeless 48 = .ok (.iload 4, 2) := by decide +kernel
theorem dX1_hopeless_50 : decode cX1_hopeless 50 = .ok (.aload_n 0, 1) := by decide +kernel
theorem dX1_hopeless_51 : decode cX1_hopeless 51 = .ok (.getfield 15, 3) := by decide +kernel
theorem dX1_hopeless_54 : decode cX1_hopeless 54 = .ok (.iload 5, 2) := by decide +kernel
theorem dX1_hopeless_56 : decode cX1_hopeless 56 = .ok (.iaload, 1) := by decide +kernel
theorem dX1_hopeless_57 : decode cX1_hopeless 57 = .ok (.iadd, 1) := by decide +kernel
theorem dX1_hopeless_58 : decode cX1_hopeless 58 = .ok (.istore 4, 2) := by decide +kernel
theorem dX1_hopeless_60 : decode cX1_hopeless 60 = .ok (.iinc 5 1, 3) := by decide +kernel
theorem dX1_hopeless_63 : decode cX1_hopeless 63 = .ok (.goto (-40), 3) := by decide +kernel
theorem dX1_hopeless_66 : decode cX1_hopeless 66 = .ok (.iload_n 1, 1) := by decide +kernel
theorem dX1_hopeless_67 : decode cX1_hopeless 67 = .ok (.istore 5, 2) := by decide +kernel
theorem dX1_hopeless_69 : decode cX1_hopeless 69 = .ok (.iload 5, 2) := by decide +kernel
theorem dX1_hopeless_71 : decode cX1_hopeless 71 = .ok (.aload_n 0, 1) := by decide +kernel
theorem dX1_hopeless_72 : decode cX1_hopeless 72 = .ok (.getfield 25, 3) := by decide +kernel
theorem dX1_hopeless_75 : decode cX1_hopeless 75 = .ok (.getfield 63, 3) := by decide +kernel
theorem dX1_hopeless_78 : decode cX1_hopeless 78 = .ok (.if_icmp .ge 25, 3) := by decide +kernel
theorem dX1_hopeless_81 : decode cX1_hopeless 81 = .ok (.iload_n 2, 1) := by decide +kernel
theorem dX1_hopeless_82 : decode cX1_hopeless 82 = .ok (.ifCond .le 21, 3) := by decide +kernel
theorem dX1_hopeless_85 : decode cX1_hopeless 85 = .ok (.iload 4, 2) := by decide +kernel
theorem dX1_hopeless_87 : decode cX1_hopeless 87 = .ok (.aload_n 0, 1) := by decide +kernel
theorem dX1_hopeless_88 : decode cX1_hopeless 88 = .ok (.getfield 18, 3) := by decide +kernel
theorem dX1_hopeless_91 : decode cX1_hopeless 91 = .ok (.iload 5, 2) := by decide +kernel
theorem dX1_hopeless_93 : decode cX1_hopeless 93 = .ok (.iaload, 1) := by decide +kernel
theorem dX1_hopeless_94 : decode cX1_hopeless 94 = .ok (.isub, 1) := by decide +kernel
theorem dX1_hopeless_95 : decode cX1_hopeless 95 = .ok (.istore 4, 2) := by decide +kernel
theorem dX1_hopeless_97 : decode cX1_hopeless 97 = .ok (.iinc 5 1, 3) := by decide +kernel
theorem dX1_hopeless_100 : decode cX1_hopeless 100 = .ok (.goto (-31), 3) := by decide +kernel
theorem dX1_hopeless_103 : decode cX1_hopeless 103 = .ok (.iload_n 3, 1) := by decide +kernel
theorem dX1_hopeless_104 : decode cX1_hopeless 104 = .ok (.iload_n 2, 1) := by decide +kernel
theorem dX1_hopeless_105 : decode cX1_hopeless 105 = .ok (.if_icmp .gt 8, 3) := by decide +kernel
theorem dX1_hopeless_108 : decode cX1_hopeless 108 = .ok (.iload 4, 2) := by decide +kernel
theorem dX1_hopeless_110 : decode cX1_hopeless 110 = .ok (.ifCond .le 7, 3) := by decide +kernel
theorem dX1_hopeless_113 : decode cX1_hopeless 113 = .ok (.iconst 1, 1) := by decide +kernel
theorem dX1_hopeless_114 : decode cX1_hopeless 114 = .ok (.goto 4, 3) := by decide +kernel
theorem dX1_hopeless_117 : decode cX1_hopeless 117 = .ok (.iconst 0, 1) := by decide +kernel
theorem dX1_hopeless_118 : decode cX1_hopeless 118 = .ok (.ireturn, 1) := by decide +kernel
theorem dX1_stands_0 : decode cX1_stands 0 = .ok (.aload_n 2, 1) := by decide +kernel
theorem dX1_stands_1 : decode cX1_stands 1 = .ok (.aload_n 1, 1) := by decide +kernel
theorem dX1_stands_2 : decode cX1_stands 2 = .ok (.invokevirtual 99, 3) := by decide +kernel
theorem dX1_stands_5 : decode cX1_stands 5 = .ok (.aload_n 0, 1) := by decide +kernel
theorem dX1_stands_6 : decode cX1_stands 6 = .ok (.getfield 9, 3) := by decide +kernel
theorem dX1_stands_9 : decode cX1_stands 9 = .ok (.iconst 0, 1) := by decide +kernel
theorem dX1_stands_10 : decode cX1_stands 10 = .ok (.aload_n 2, 1) := by decide +kernel
theorem dX1_stands_11 : decode cX1_stands 11 = .ok (.getfield 103, 3) := by decide +kernel
theorem dX1_stands_14 : decode cX1_stands 14 = .ok (.iconst 0, 1) := by decide +kernel
theorem dX1_stands_15 : decode cX1_stands 15 = .ok (.bipush 8, 2) := by decide +kernel
theorem dX1_stands_17 : decode cX1_stands 17 = .ok (.invokestatic 104, 3) := by decide +kernel
theorem dX1_stands_20 : decode cX1_stands 20 = .ok (.iconst 0, 1) := by decide +kernel
theorem dX1_stands_21 : decode cX1_stands 21 = .ok (.istore_n 3, 1) := by decide +kernel
theorem dX1_stands_22 : decode cX1_stands 22 = .ok (.iload_n 3, 1) := by decide +kernel
theorem dX1_stands_23 : decode cX1_stands 23 = .ok (.aload_n 0, 1) := by decide +kernel
theorem dX1_stands_24 : decode cX1_stands 24 = .ok (.getfield 29, 3) := by decide +kernel
theorem dX1_stands_27 : decode cX1_stands 27 = .ok (.if_icmp .ge 13, 3) := by decide +kernel
theorem dX1_stands_30 : decode cX1_stands 30 = .ok (.aload_n 2, 1) := by decide +kernel
theorem dX1_stands_31 : decode cX1_stands 31 = .ok (.invokevirtual 110, 3) := by decide +kernel
theorem dX1_stands_34 : decode cX1_stands 34 = .ok (.iinc 3 1, 3) := by decide +kernel
theorem dX1_stands_37 : decode cX1_stands 37 = .ok (.goto (-15), 3) := by decide +kernel
theorem dX1_stands_40 : decode cX1_stands 40 = .ok (.aload_n 2, 1) := by decide +kernel
theorem dX1_stands_41 : decode cX1_stands 41 = .ok (.aload_n 0, 1) := by decide +kernel
theorem dX1_stands_42 : decode cX1_stands 42 = .ok (.getfield 33, 3) := by decide +kernel
theorem dX1_stands_45 : decode cX1_stands 45 = .ok (.invokevirtual 113, 3) := by decide +kernel
theorem dX1_stands_48 : decode cX1_stands 48 = .ok (.ifCond .ne 7, 3) := by decide +kernel
theorem dX1_stands_51 : decode cX1_stands 51 = .ok (.iconst 1, 1) := by decide +kernel
theorem dX1_stands_52 : decode cX1_stands 52 = .ok (.goto 4, 3) := by decide +kernel
theorem dX1_stands_55 : decode cX1_stands 55 = .ok (.iconst 0, 1) := by decide +kernel
theorem dX1_stands_56 : decode cX1_stands 56 = .ok (.ireturn, 1) := by decide +kernel
theorem dX3_init_0 : decode cX3_init 0 = .ok (.aload_n 0, 1) := by decide +kernel
theorem dX3_init_1 : decode cX3_init 1 = .ok (.invokespecial 3, 3) := by decide +kernel
theorem dX3_init_4 : decode cX3_init 4 = .ok (.aload_n 0, 1) := by decide +kernel
theorem dX3_init_5 : decode cX3_init 5 = .ok (.bipush 12, 2) := by decide +kernel
theorem dX3_init_7 : decode cX3_init 7 = .ok (.newarray .int, 2) := by decide +kernel
theorem dX3_init_9 : decode cX3_init 9 = .ok (.putfield 9, 3) := by decide +kernel
theorem dX3_init_12 : decode cX3_init 12 = .ok (.aload_n 0, 1) := by decide +kernel
theorem dX3_init_13 : decode cX3_init 13 = .ok (.bipush 12, 2) := by decide +kernel
theorem dX3_init_15 : decode cX3_init 15 = .ok (.newarray .int, 2) := by decide +kernel
theorem dX3_init_17 : decode cX3_init 17 = .ok (.putfield 15, 3) := by decide +kernel
theorem dX3_init_20 : decode cX3_init 20 = .ok (.aload_n 0, 1) := by decide +kernel
theorem dX3_init_21 : decode cX3_init 21 = .ok (.sipush 256, 3) := by decide +kernel
theorem dX3_init_24 : decode cX3_init 24 = .ok (.newarray .int, 2) := by decide +kernel
theorem dX3_init_26 : decode cX3_init 26 = .ok (.putfield 18, 3) := by decide +kernel
theorem dX3_init_29 : decode cX3_init 29 = .ok (.aload_n 0, 1) := by decide +kernel
theorem dX3_init_30 : decode cX3_init 30 = .ok (.sipush 256, 3) := by decide +kernel
theorem dX3_init_33 : decode cX3_init 33 = .ok (.newarray .int, 2) := by decide +kernel
theorem dX3_init_35 : decode cX3_init 35 = .ok (.putfield 21, 3) := by decide +kernel
theorem dX3_init_38 : decode cX3_init 38 = .ok (.aload_n 0, 1) := by decide +kernel
theorem dX3_init_39 : decode cX3_init 39 = .ok (.sipush 256, 3) := by decide +kernel
theorem dX3_init_42 : decode cX3_init 42 = .ok (.newarray .int, 2) := by decide +kernel
theorem dX3_init_44 : decode cX3_init 44 = .ok (.putfield 24, 3) := by decide +kernel
theorem dX3_init_47 : decode cX3_init 47 = .ok (.aload_n 0, 1) := by decide +kernel
theorem dX3_init_48 : decode cX3_init 48 = .ok (.aload_n 1, 1) := by decide +kernel
theorem dX3_init_49 : decode cX3_init 49 = .ok (.putfield 27, 3) := by decide +kernel
theorem dX3_init_52 : decode cX3_init 52 = .ok (.return_, 1) := by decide +kernel
theorem dX3_clear_0 : decode cX3_clear 0 = .ok (.aload_n 0, 1) := by decide +kernel
theorem dX3_clear_1 : decode cX3_clear 1 = .ok (.iconst 0, 1) := by decide +kernel
theorem dX3_clear_2 : decode cX3_clear 2 = .ok (.putfield 31, 3) := by decide +kernel
theorem dX3_clear_5 : decode cX3_clear 5 = .ok (.return_, 1) := by decide +kernel
theorem dX3_note_0 : decode cX3_note 0 = .ok (.aload_n 0, 1) := by decide +kernel
theorem dX3_note_1 : decode cX3_note 1 = .ok (.getfield 31, 3) := by decide +kernel
theorem dX3_note_4 : decode cX3_note 4 = .ok (.iconst 1, 1) := by decide +kernel
theorem dX3_note_5 : decode cX3_note 5 = .ok (.iload_n 1, 1) := by decide +kernel
theorem dX3_note_6 : decode cX3_note 6 = .ok (.ishl, 1) := by decide +kernel
theorem dX3_note_7 : decode cX3_note 7 = .ok (.ior, 1) := by decide +kernel
theorem dX3_note_8 : decode cX3_note 8 = .ok (.istore_n 3, 1) := by decide +kernel
theorem dX3_note_9 : decode cX3_note 9 = .ok (.iload_n 3, 1) := by decide +kernel
theorem dX3_note_10 : decode cX3_note 10 = .ok (.invokestatic 35, 3) := by decide +kernel
theorem dX3_note_13 : decode cX3_note 13 = .ok (.iconst 4, 1) := by decide +kernel
theorem dX3_note_14 : decode cX3_note 14 = .ok (.if_icmp .le 5, 3) := by decide +kernel
theorem dX3_note_17 : decode cX3_note 17 = .ok (.iconst (-1), 1) := by decide +kernel
theorem dX3_note_18 : decode cX3_note 18 = .ok (.ireturn, 1) := by decide +kernel
theorem dX3_note_19 : decode cX3_note 19 = .ok (.aload_n 0, 1) := by decide +kernel
theorem dX3_note_20 : decode cX3_note 20 = .ok (.iload_n 3, 1) := by decide +kernel
theorem dX3_note_21 : decode cX3_note 21 = .ok (.putfield 31, 3) := by decide +kernel
theorem dX3_note_24 : decode cX3_note 24 = .ok (.aload_n 0, 1) := by decide +kernel
theorem dX3_note_25 : decode cX3_note 25 = .ok (.getfield 9, 3) := by decide +kernel
theorem dX3_note_28 : decode cX3_note 28 = .ok (.iload_n 1, 1) := by decide +kernel
theorem dX3_note_29 : decode cX3_note 29 = .ok (.iload_n 2, 1) := by decide +kernel
theorem dX3_note_30 : decode cX3_note 30 = .ok (.iastore, 1) := by decide +kernel
theorem dX3_note_31 : decode cX3_note 31 = .ok (.aload_n 0, 1) := by decide +kernel
theorem dX3_note_32 : decode cX3_note 32 = .ok (.getfield 31, 3) := by decide +kernel
theorem dX3_note_35 : decode cX3_note 35 = .ok (.invokestatic 35, 3) := by decide +kernel
theorem dX3_note_38 : decode cX3_note 38 = .ok (.ireturn, 1) := by decide +kernel
theorem dX3_begin_0 : decode cX3_begin 0 = .ok (.aload_n 0, 1) := by decide +kernel
theorem dX3_begin_1 : decode cX3_begin 1 = .ok (.getfield 9, 3) := by decide +kernel
theorem dX3_begin_4 : decode cX3_begin 4 = .ok (.iconst 0, 1) := by decide +kernel
theorem dX3_begin_5 : decode cX3_begin 5 = .ok (.aload_n 0, 1) := by decide +kernel
theorem dX3_begin_6 : decode cX3_begin 6 = .ok (.getfield 15, 3) := by decide +kernel
theorem dX3_begin_9 : decode cX3_begin 9 = .ok (.iconst 0, 1) := by decide +kernel
theorem dX3_begin_10 : decode cX3_begin 10 = .ok (.bipush 12, 2) := by decide +kernel
theorem dX3_begin_12 : decode cX3_begin 12 = .ok (.invokestatic 41, 3) := by decide +kernel
theorem dX3_begin_15 : decode cX3_begin 15 = .ok (.aload_n 0, 1) := by decide +kernel
theorem dX3_begin_16 : decode cX3_begin 16 = .ok (.getfield 18, 3) := by decide +kernel
theorem dX3_begin_19 : decode cX3_begin 19 = .ok (.iconst 0, 1) := by decide +kernel
theorem dX3_begin_20 : decode cX3_begin 20 = .ok (.iconst 0, 1) := by decide +kernel
theorem dX3_begin_21 : decode cX3_begin 21 = .ok (.iastore, 1) := by decide +kernel
theorem dX3_begin_22 : decode cX3_begin 22 = .ok (.iconst 0, 1) := by decide +kernel
theorem dX3_begin_23 : decode cX3_begin 23 = .ok (.istore_n 1, 1) := by decide +kernel
theorem dX3_begin_24 : decode cX3_begin 24 = .ok (.iload_n 1, 1) := by decide +kernel
theorem dX3_begin_25 : decode cX3_begin 25 = .ok (.aload_n 0, 1) := by decide +kernel
theorem dX3_begin_26 : decode cX3_begin 26 = .ok (.getfield 27, 3) := by decide +kernel
theorem dX3_begin_29 : decode cX3_begin 29 = .ok (.getfield 47, 3) := by decide +kernel
theorem dX3_begin_32 : decode cX3_begin 32 = .ok (.if_icmp .ge 50, 3) := by decide +kernel
theorem dX3_begin_35 : decode cX3_begin 35 = .ok (.iconst 1, 1) := by decide +kernel
theorem dX3_begin_36 : decode cX3_begin 36 = .ok (.iload_n 1, 1) := by decide +kernel
theorem dX3_begin_37 : decode cX3_begin 37 = .ok (.ishl, 1) := by decide +kernel
theorem dX3_begin_38 : decode cX3_begin 38 = .ok (.istore_n 2, 1) := by decide +kernel
theorem dX3_begin_39 : decode cX3_begin 39 = .ok (.iconst 0, 1) := by decide +kernel
theorem dX3_begin_40 : decode cX3_begin 40 = .ok (.istore_n 3, 1) := by decide +kernel
theorem dX3_begin_41 : decode cX3_begin 41 = .ok (.iload_n 3, 1) := by decide +kernel
theorem dX3_begin_42 : decode cX3_begin 42 = .ok (.iload_n 2, 1) := by decide +kernel
theorem dX3_begin_43 : decode cX3_begin 43 = .ok (.if_icmp .ge 33, 3) := by decide +kernel
theorem dX3_begin_46 : decode cX3_begin 46 = .ok (.aload_n 0, 1) := by decide +kernel
theorem dX3_begin_47 : decode cX3_begin 47 = .ok (.getfield 18, 3) := by decide +kernel
theorem dX3_begin_50 : decode cX3_begin 50 = .ok (.iload_n 2, 1) := by decide +kernel
theorem dX3_begin_51 : decode cX3_begin 51 = .ok (.iload_n 3, 1) := by decide +kernel
theorem dX3_begin_52 : decode cX3_begin 52 = .ok (.ior, 1) := by decide +kernel
theorem dX3_begin_53 : decode cX3_begin 53 = .ok (.aload_n 0, 1) := by decide +kernel
theorem dX3_begin_54 : decode cX3_begin 54 = .ok (.getfield 18, 3) := by decide +kernel
theorem dX3_begin_57 : decode cX3_begin 57 = .ok (.iload_n 3, 1) := by decide +kernel
theorem dX3_begin_58 : decode cX3_begin 58 = .ok (.iaload, 1) := by decide +kernel
theorem dX3_begin_59 : decode cX3_begin 59 = .ok (.aload_n 0, 1) := by decide +kernel
theorem dX3_begin_60 : decode cX3_begin 60 = .ok (.getfield 27, 3) := by decide +kernel
theorem dX3_begin_63 : decode cX3_begin 63 = .ok (.getfield 52, 3) := by decide +kernel
theorem dX3_begin_66 : decode cX3_begin 66 = .ok (.iload_n 1, 1) := by decide +kernel
theorem dX3_begin_67 : decode cX3_begin 67 = .ok (.iaload, 1) := by decide +kernel
theorem dX3_begin_68 : decode cX3_begin 68 = .ok (.iadd, 1) := by decide +kernel
theorem dX3_begin_69 : decode cX3_begin 69 = .ok (.iastore, 1) := by decide +kernel
theorem dX3_begin_70 : decode cX3_begin 70 = .ok (.iinc 3 1, 3) := by decide +kernel
theorem dX3_begin_73 : decode cX3_begin 73 = .ok (.goto (-32), 3) := by decide +kernel
theorem dX3_begin_76 : decode cX3_begin 76 = .ok (.iinc 1 1, 3) := by decide +kernel
theorem dX3_begin_79 : decode cX3_begin 79 = .ok (.goto (-55), 3) := by decide +kernel
theorem dX3_begin_82 : decode cX3_begin 82 = .ok (.return_, 1) := by decide +kernel
theorem dX3_fitting_0 : decode cX3_fitting 0 = .ok (.aload_n 0, 1) := by decide +kernel
theorem dX3_fitting_1 : decode cX3_fitting 1 = .ok (.getfield 21, 3) := by decide +kernel
theorem dX3_fitting_4 : decode cX3_fitting 4 = .ok (.iconst 0, 1) := by decide +kernel
theorem dX3_fitting_5 : decode cX3_fitting 5 = .ok (.invokestatic 55, 3) := by decide +kernel
theorem dX3_fitting_8 : decode cX3_fitting 8 = .ok (.aload_n 0, 1) := by decide +kernel
theorem dX3_fitting_9 : decode cX3_fitting 9 = .ok (.getfield 21, 3) := by decide +kernel
theorem dX3_fitting_12 : decode cX3_fitting 12 = .ok (.iconst 0, 1) := by decide +kernel
theorem dX3_fitting_13 : decode cX3_fitting 13 = .ok (.iconst 1, 1) := by decide +kernel
theorem dX3_fitting_14 : decode cX3_fitting 14 = .ok (.iastore, 1) := by decide +kernel
theorem dX3_fitting_15 : decode cX3_fitting 15 = .ok (.iconst 0, 1) := by decide +kernel
theorem dX3_fitting_16 : decode cX3_fitting 16 = .ok (.istore_n 2, 1) := by decide +kernel
theorem dX3_fitting_17 : decode cX3_fitting 17 = .ok (.iload_n 2, 1) := by decide +kernel
theorem dX3_fitting_18 : decode cX3_fitting 18 = .ok (.bipush 12, 2) := by decide +kernel
theorem dX3_fitting_20 : decode cX3_fitting 20 = .ok (.if_icmp .ge 31, 3) := by decide +kernel
theorem dX3_fitting_23 : decode cX3_fitting 23 = .ok (.aload_n 0, 1) := by decide +kernel
theorem dX3_fitting_24 : decode cX3_fitting 24 = .ok (.getfield 31, 3) := by decide +kernel
theorem dX3_fitting_27 : decode cX3_fitting 27 = .ok (.iload_n 2, 1) := by decide +kernel
theorem dX3_fitting_28 : decode cX3_fitting 28 = .ok (.ishr, 1) := by decide +kernel
theorem dX3_fitting_29 : decode cX3_fitting 29 = .ok (.iconst 1, 1) := by decide +kernel
theorem dX3_fitting_30 : decode cX3_fitting 30 = .ok (.iand, 1) := by decide +kernel
theorem dX3_fitting_31 : decode cX3_fitting 31 = .ok (.ifCond .eq 14, 3) := by decide +kernel
theorem dX3_fitting_34 : decode cX3_fitting 34 = .ok (.aload_n 0, 1) := by decide +kernel
theorem dX3_fitting_35 : decode cX3_fitting 35 = .ok (.iload_n 1, 1) := by decide +kernel
theorem dX3_fitting_36 : decode cX3_fitting 36 = .ok (.aload_n 0, 1) := by decide +kernel
theorem dX3_fitting_37 : decode cX3_fitting 37 = .ok (.getfield 15, 3) := by decide +kernel
theorem dX3_fitting_40 : decode cX3_fitting 40 = .ok (.iload_n 2, 1) := by decide +kernel
theorem dX3_fitting_41 : decode cX3_fitting 41 = .ok (.iaload, 1) := by decide +kernel
theorem dX3_fitting_42 : decode cX3_fitting 42 = .ok (.invokevirtual 61, 3) := by decide +kernel
theorem dX3_fitting_45 : decode cX3_fitting 45 = .ok (.iinc 2 1, 3) := by decide +kernel
theorem dX3_fitting_48 : decode cX3_fitting 48 = .ok (.goto (-31), 3) := by decide +kernel
theorem dX3_fitting_51 : decode cX3_fitting 51 = .ok (.iconst 0, 1) := by decide +kernel
theorem dX3_fitting_52 : decode cX3_fitting 52 = .ok (.istore_n 2, 1) := by decide +kernel
theorem dX3_fitting_53 : decode cX3_fitting 53 = .ok (.iconst 0, 1) := by decide +kernel
theorem dX3_fitting_54 : decode cX3_fitting 54 = .ok (.istore_n 3, 1) := by decide +kernel
theorem dX3_fitting_55 : decode cX3_fitting 55 = .ok (.iload_n 3, 1) := by decide +kernel
theorem dX3_fitting_56 : decode cX3_fitting 56 = .ok (.iload_n 1, 1) := by decide +kernel
theorem dX3_fitting_57 : decode cX3_fitting 57 = .ok (.if_icmp .gt 18, 3) := by decide +kernel
theorem dX3_fitting_60 : decode cX3_fitting 60 = .ok (.iload_n 2, 1) := by decide +kernel
theorem dX3_fitting_61 : decode cX3_fitting 61 = .ok (.aload_n 0, 1) := by decide +kernel
theorem dX3_fitting_62 : decode cX3_fitting 62 = .ok (.getfield 21, 3) := by decide +kernel
theorem dX3_fitting_65 : decode cX3_fitting 65 = .ok (.iload_n 3, 1) := by decide +kernel
theorem dX3_fitting_66 : decode cX3_fitting 66 = .ok (.iaload, 1) := by decide +kernel
theorem dX3_fitting_67 : decode cX3_fitting 67 = .ok (.iadd, 1) := by decide +kernel
theorem dX3_fitting_68 : decode cX3_fitting 68 = .ok (.istore_n 2, 1) := by decide +kernel
theorem dX3_fitting_69 : decode cX3_fitting 69 = .ok (.iinc 3 1, 3) := by decide +kernel
theorem dX3_fitting_72 : decode cX3_fitting 72 = .ok (.goto (-17), 3) := by decide +kernel
theorem dX3_fitting_75 : decode cX3_fitting 75 = .ok (.iload_n 2, 1) := by decide +kernel
theorem dX3_fitting_76 : decode cX3_fitting 76 = .ok (.ireturn, 1) := by decide +kernel
theorem dX3_fillCell_0 : decode cX3_fillCell 0 = .ok (.aload_n 0, 1) := by decide +kernel
theorem dX3_fillCell_1 : decode cX3_fillCell 1 = .ok (.getfield 24, 3) := by decide +kernel
theorem dX3_fillCell_4 : decode cX3_fillCell 4 = .ok (.iconst 0, 1) := by decide +kernel
theorem dX3_fillCell_5 : decode cX3_fillCell 5 = .ok (.invokestatic 55, 3) := by decide +kernel
theorem dX3_fillCell_8 : decode cX3_fillCell 8 = .ok (.iconst 0, 1) := by decide +kernel
theorem dX3_fillCell_9 : decode cX3_fillCell 9 = .ok (.istore_n 3, 1) := by decide +kernel
theorem dX3_fillCell_10 : decode cX3_fillCell 10 = .ok (.iload_n 3, 1) := by decide +kernel
theorem dX3_fillCell_11 : decode cX3_fillCell 11 = .ok (.iload_n 1, 1) := by decide +kernel
theorem dX3_fillCell_12 : decode cX3_fillCell 12 = .ok (.if_icmp .gt 29, 3) := by decide +kernel
theorem dX3_fillCell_15 : decode cX3_fillCell 15 = .ok (.aload_n 0, 1) := by decide +kernel
theorem dX3_fillCell_16 : decode cX3_fillCell 16 = .ok (.getfield 21, 3) := by decide +kernel
theorem dX3_fillCell_19 : decode cX3_fillCell 19 = .ok (.iload_n 3, 1) := by decide +kernel
theorem dX3_fillCell_20 : decode cX3_fillCell 20 = .ok (.iaload, 1) := by decide +kernel
theorem dX3_fillCell_21 : decode cX3_fillCell 21 = .ok (.ifCond .eq 14, 3) := by decide +kernel
theorem dX3_fillCell_24 : decode cX3_fillCell 24 = .ok (.aload_n 0, 1) := by decide +kernel
theorem dX3_fillCell_25 : decode cX3_fillCell 25 = .ok (.iload_n 3, 1) := by decide +kernel
theorem dX3_fillCell_26 : decode cX3_fillCell 26 = .ok (.iload_n 1, 1) := by decide +kernel
theorem dX3_fillCell_27 : decode cX3_fillCell 27 = .ok (.iload_n 3, 1) := by decide +kernel
theorem dX3_fillCell_28 : decode cX3_fillCell 28 = .ok (.iconst (-1), 1) := by decide +kernel
theorem dX3_fillCell_29 : decode cX3_fillCell 29 = .ok (.ixor, 1) := by decide +kernel
theorem dX3_fillCell_30 : decode cX3_fillCell 30 = .ok (.iand, 1) := by decide +kernel
theorem dX3_fillCell_31 : decode cX3_fillCell 31 = .ok (.iload_n 2, 1) := by decide +kernel
theorem dX3_fillCell_32 : decode cX3_fillCell 32 = .ok (.invokevirtual 65, 3) := by decide +kernel
theorem dX3_fillCell_35 : decode cX3_fillCell 35 = .ok (.iinc 3 1, 3) := by decide +kernel
theorem dX3_fillCell_38 : decode cX3_fillCell 38 = .ok (.goto (-28), 3) := by decide +kernel
theorem dX3_fillCell_41 : decode cX3_fillCell 41 = .ok (.aload_n 0, 1) := by decide +kernel
theorem dX3_fillCell_42 : decode cX3_fillCell 42 = .ok (.getfield 21, 3) := by decide +kernel
theorem dX3_fillCell_45 : decode cX3_fillCell 45 = .ok (.astore_n 3, 1) := by decide +kernel
theorem dX3_fillCell_46 : decode cX3_fillCell 46 = .ok (.aload_n 0, 1) := by decide +kernel
theorem dX3_fillCell_47 : decode cX3_fillCell 47 = .ok (.aload_n 0, 1) := by decide +kernel
theorem dX3_fillCell_48 : decode cX3_fillCell 48 = .ok (.getfield 24, 3) := by decide +kernel
theorem dX3_fillCell_51 : decode cX3_fillCell 51 = .ok (.putfield 21, 3) := by decide +kernel
theorem dX3_fillCell_54 : decode cX3_fillCell 54 = .ok (.aload_n 0, 1) := by decide +kernel
theorem dX3_fillCell_55 : decode cX3_fillCell 55 = .ok (.aload_n 3, 1) := by decide +kernel
theorem dX3_fillCell_56 : decode cX3_fillCell 56 = .ok (.putfield 24, 3) := by decide +kernel
theorem dX3_fillCell_59 : decode cX3_fillCell 59 = .ok (.return_, 1) := by decide +kernel
theorem dX3_addTeams_0 : decode cX3_addTeams 0 = .ok (.iload_n 2, 1) := by decide +kernel
theorem dX3_addTeams_1 : decode cX3_addTeams 1 = .ok (.istore 4, 2) := by decide +kernel
theorem dX3_addTeams_3 : decode cX3_addTeams 3 = .ok (.iconst 0, 1) := by decide +kernel
theorem dX3_addTeams_4 : decode cX3_addTeams 4 = .ok (.istore 5, 2) := by decide +kernel
theorem dX3_addTeams_6 : decode cX3_addTeams 6 = .ok (.iload 5, 2) := by decide +kernel
theorem dX3_addTeams_8 : decode cX3_addTeams 8 = .ok (.sipush 256, 3) := by decide +kernel
theorem dX3_addTeams_11 : decode cX3_addTeams 11 = .ok (.if_icmp .ge 52, 3) := by decide +kernel
theorem dX3_addTeams_14 : decode cX3_addTeams 14 = .ok (.aload_n 0, 1) := by decide +kernel
theorem dX3_addTeams_15 : decode cX3_addTeams 15 = .ok (.getfield 18, 3) := by decide +kernel
theorem dX3_addTeams_18 : decode cX3_addTeams 18 = .ok (.iload 4, 2) := by decide +kernel
theorem dX3_addTeams_20 : decode cX3_addTeams 20 = .ok (.iaload, 1) := by decide +kernel
theorem dX3_addTeams_21 : decode cX3_addTeams 21 = .ok (.iload_n 3, 1) := by decide +kernel
theorem dX3_addTeams_22 : decode cX3_addTeams 22 = .ok (.if_icmp .ne 21, 3) := by decide +kernel
theorem dX3_addTeams_25 : decode cX3_addTeams 25 = .ok (.aload_n 0, 1) := by decide +kernel
theorem dX3_addTeams_26 : decode cX3_addTeams 26 = .ok (.getfield 24, 3) := by decide +kernel
theorem dX3_addTeams_29 : decode cX3_addTeams 29 = .ok (.iload_n 1, 1) := by decide +kernel
theorem dX3_addTeams_30 : decode cX3_addTeams 30 = .ok (.iload 4, 2) := by decide +kernel
theorem dX3_addTeams_32 : decode cX3_addTeams 32 = .ok (.ior, 1) := by decide +kernel
theorem dX3_addTeams_33 : decode cX3_addTeams 33 = .ok (.dup2, 1) := by decide +kernel
theorem dX3_addTeams_34 : decode cX3_addTeams 34 = .ok (.iaload, 1) := by decide +kernel
theorem dX3_addTeams_35 : decode cX3_addTeams 35 = .ok (.aload_n 0, 1) := by decide +kernel
theorem dX3_addTeams_36 : decode cX3_addTeams 36 = .ok (.getfield 21, 3) := by decide +kernel
theorem dX3_addTeams_39 : decode cX3_addTeams 39 = .ok (.iload_n 1, 1) := by decide +kernel
theorem dX3_addTeams_40 : decode cX3_addTeams 40 = .ok (.iaload, 1) := by decide +kernel
theorem dX3_addTeams_41 : decode cX3_addTeams 41 = .ok (.iadd, 1) := by decide +kernel
theorem dX3_addTeams_42 : decode cX3_addTeams 42 = .ok (.iastore, 1) := by decide +kernel
theorem dX3_addTeams_43 : decode cX3_addTeams 43 = .ok (.iload 4, 2) := by decide +kernel
theorem dX3_addTeams_45 : decode cX3_addTeams 45 = .ok (.ifCond .ne 4, 3) := by decide +kernel
theorem dX3_addTeams_48 : decode cX3_addTeams 48 = .ok (.return_, 1) := by decide +kernel
theorem dX3_addTeams_49 : decode cX3_addTeams 49 = .ok (.iload 4, 2) := by decide +kernel
theorem dX3_addTeams_51 : decode cX3_addTeams 51 = .ok (.iconst 1, 1) := by decide +kernel
theorem dX3_addTeams_52 : decode cX3_addTeams 52 = .ok (.isub, 1) := by decide +kernel
theorem dX3_addTeams_53 : decode cX3_addTeams 53 = .ok (.iload_n 2, 1) := by decide +kernel
theorem dX3_addTeams_54 : decode cX3_addTeams 54 = .ok (.iand, 1) := by decide +kernel
theorem dX3_addTeams_55 : decode cX3_addTeams 55 = .ok (.istore 4, 2) := by decide +kernel
theorem dX3_addTeams_57 : decode cX3_addTeams 57 = .ok (.iinc 5 1, 3) := by decide +kernel
theorem dX3_addTeams_60 : decode cX3_addTeams 60 = .ok (.goto (-54), 3) := by decide +kernel
theorem dX3_addTeams_63 : decode cX3_addTeams 63 = .ok (.return_, 1) := by decide +kernel
theorem dX3_tellLeast_0 : decode cX3_tellLeast 0 = .ok (.aload_n 0, 1) := by decide +kernel
theorem dX3_tellLeast_1 : decode cX3_tellLeast 1 = .ok (.getfield 27, 3) := by decide +kernel
theorem dX3_tellLeast_4 : decode cX3_tellLeast 4 = .ok (.invokevirtual 69, 3) := by decide +kernel
theorem dX3_tellLeast_7 : decode cX3_tellLeast 7 = .ok (.istore_n 2, 1) := by decide +kernel
theorem dX3_tellLeast_8 : decode cX3_tellLeast 8 = .ok (.iconst 0, 1) := by decide +kernel
theorem dX3_tellLeast_9 : decode cX3_tellLeast 9 = .ok (.istore_n 3, 1) := by decide +kernel
theorem dX3_tellLeast_10 : decode cX3_tellLeast 10 = .ok (.iload_n 3, 1) := by decide +kernel
theorem dX3_tellLeast_11 : decode cX3_tellLeast 11 = .ok (.aload_n 0, 1) := by decide +kernel
theorem dX3_tellLeast_12 : decode cX3_tellLeast 12 = .ok (.getfield 27, 3) := by decide +kernel
theorem dX3_tellLeast_15 : decode cX3_tellLeast 15 = .ok (.getfield 47, 3) := by decide +kernel
theorem dX3_tellLeast_18 : decode cX3_tellLeast 18 = .ok (.if_icmp .ge 28, 3) := by decide +kernel
theorem dX3_tellLeast_21 : decode cX3_tellLeast 21 = .ok (.iload_n 2, 1) := by decide +kernel
theorem dX3_tellLeast_22 : decode cX3_tellLeast 22 = .ok (.iconst 1, 1) := by decide +kernel
theorem dX3_tellLeast_23 : decode cX3_tellLeast 23 = .ok (.iload_n 3, 1) := by decide +kernel
theorem dX3_tellLeast_24 : decode cX3_tellLeast 24 = .ok (.ishl, 1) := by decide +kernel
theorem dX3_tellLeast_25 : decode cX3_tellLeast 25 = .ok (.iconst (-1), 1) := by decide +kernel
theorem dX3_tellLeast_26 : decode cX3_tellLeast 26 = .ok (.ixor, 1) := by decide +kernel
theorem dX3_tellLeast_27 : decode cX3_tellLeast 27 = .ok (.iand, 1) := by decide +kernel
theorem dX3_tellLeast_28 : decode cX3_tellLeast 28 = .ok (.istore_n 2, 1) := by decide +kernel
theorem dX3_tellLeast_29 : decode cX3_tellLeast 29 = .ok (.aload_n 1, 1) := by decide +kernel
theorem dX3_tellLeast_30 : decode cX3_tellLeast 30 = .ok (.aload_n 0, 1) := by decide +kernel
theorem dX3_tellLeast_31 : decode cX3_tellLeast 31 = .ok (.iload_n 3, 1) := by decide +kernel
theorem dX3_tellLeast_32 : decode cX3_tellLeast 32 = .ok (.iload_n 2, 1) := by decide +kernel
theorem dX3_tellLeast_33 : decode cX3_tellLeast 33 = .ok (.invokevirtual 73, 3) := by decide +kernel
theorem dX3_tellLeast_36 : decode cX3_tellLeast 36 = .ok (.i2l, 1) := by decide +kernel
theorem dX3_tellLeast_37 : decode cX3_tellLeast 37 = .ok (.invokevirtual 77, 3) := by decide +kernel
theorem dX3_tellLeast_40 : decode cX3_tellLeast 40 = .ok (.iinc 3 1, 3) := by decide +kernel
theorem dX3_tellLeast_43 : decode cX3_tellLeast 43 = .ok (.goto (-33), 3) := by decide +kernel
theorem dX3_tellLeast_46 : decode cX3_tellLeast 46 = .ok (.return_, 1) := by decide +kernel
theorem dX3_leastOf_0 : decode cX3_leastOf 0 = .ok (.aload_n 0, 1) := by decide +kernel
theorem dX3_leastOf_1 : decode cX3_leastOf 1 = .ok (.iload_n 2, 1) := by decide +kernel
theorem dX3_leastOf_2 : decode cX3_leastOf 2 = .ok (.invokevirtual 83, 3) := by decide +kernel
theorem dX3_leastOf_5 : decode cX3_leastOf 5 = .ok (.ifCond .le 5, 3) := by decide +kernel
theorem dX3_leastOf_8 : decode cX3_leastOf 8 = .ok (.iconst (-1), 1) := by decide +kernel
theorem dX3_leastOf_9 : decode cX3_leastOf 9 = .ok (.ireturn, 1) := by decide +kernel
theorem dX3_leastOf_10 : decode cX3_leastOf 10 = .ok (.iconst 0, 1) := by decide +kernel
theorem dX3_leastOf_11 : decode cX3_leastOf 11 = .ok (.istore_n 3, 1) := by decide +kernel
theorem dX3_leastOf_12 : decode cX3_leastOf 12 = .ok (.iload_n 3, 1) := by decide +kernel
theorem dX3_leastOf_13 : decode cX3_leastOf 13 = .ok (.bipush 12, 2) := by decide +kernel
theorem dX3_leastOf_15 : decode cX3_leastOf 15 = .ok (.if_icmp .ge 39, 3) := by decide +kernel
theorem dX3_leastOf_18 : decode cX3_leastOf 18 = .ok (.aload_n 0, 1) := by decide +kernel
theorem dX3_leastOf_19 : decode cX3_leastOf 19 = .ok (.iload_n 1, 1) := by decide +kernel
theorem dX3_leastOf_20 : decode cX3_leastOf 20 = .ok (.iload_n 3, 1) := by decide +kernel
theorem dX3_leastOf_21 : decode cX3_leastOf 21 = .ok (.iload_n 2, 1) := by decide +kernel
theorem dX3_leastOf_22 : decode cX3_leastOf 22 = .ok (.invokevirtual 86, 3) := by decide +kernel
theorem dX3_leastOf_25 : decode cX3_leastOf 25 = .ok (.ifCond .eq 23, 3) := by decide +kernel
theorem dX3_leastOf_28 : decode cX3_leastOf 28 = .ok (.aload_n 0, 1) := by decide +kernel
theorem dX3_leastOf_29 : decode cX3_leastOf 29 = .ok (.getfield 15, 3) := by decide +kernel
theorem dX3_leastOf_32 : decode cX3_leastOf 32 = .ok (.iload_n 3, 1) := by decide +kernel
theorem dX3_leastOf_33 : decode cX3_leastOf 33 = .ok (.dup2, 1) := by decide +kernel
theorem dX3_leastOf_34 : decode cX3_leastOf 34 = .ok (.iaload, 1) := by decide +kernel
theorem dX3_leastOf_35 : decode cX3_leastOf 35 = .ok (.aload_n 0, 1) := by decide +kernel
theorem dX3_leastOf_36 : decode cX3_leastOf 36 = .ok (.getfield 27, 3) := by decide +kernel
theorem dX3_leastOf_39 : decode cX3_leastOf 39 = .ok (.getfield 52, 3) := by decide +kernel
theorem dX3_leastOf_42 : decode cX3_leastOf 42 = .ok (.iload_n 1, 1) := by decide +kernel
theorem dX3_leastOf_43 : decode cX3_leastOf 43 = .ok (.iaload, 1) := by decide +kernel
theorem dX3_leastOf_44 : decode cX3_leastOf 44 = .ok (.isub, 1) := by decide +kernel
theorem dX3_leastOf_45 : decode cX3_leastOf 45 = .ok (.iastore, 1) := by decide +kernel
theorem dX3_leastOf_46 : decode cX3_leastOf 46 = .ok (.iload_n 3, 1) := by decide +kernel
theorem dX3_leastOf_47 : decode cX3_leastOf 47 = .ok (.ireturn, 1) := by decide +kernel
theorem dX3_leastOf_48 : decode cX3_leastOf 48 = .ok (.iinc 3 1, 3) := by decide +kernel
theorem dX3_leastOf_51 : decode cX3_leastOf 51 = .ok (.goto (-39), 3) := by decide +kernel
theorem dX3_leastOf_54 : decode cX3_leastOf 54 = .ok (.iconst (-1), 1) := by decide +kernel
theorem dX3_leastOf_55 : decode cX3_leastOf 55 = .ok (.ireturn, 1) := by decide +kernel
theorem dX3_canBeAt_0 : decode cX3_canBeAt 0 = .ok (.aload_n 0, 1) := by decide +kernel
theorem dX3_canBeAt_1 : decode cX3_canBeAt 1 = .ok (.getfield 31, 3) := by decide +kernel
theorem dX3_canBeAt_4 : decode cX3_canBeAt 4 = .ok (.iload_n 2, 1) := by decide +kernel
theorem dX3_canBeAt_5 : decode cX3_canBeAt 5 = .ok (.ishr, 1) := by decide +kernel
theorem dX3_canBeAt_6 : decode cX3_canBeAt 6 = .ok (.iconst 1, 1) := by decide +kernel
theorem dX3_canBeAt_7 : decode cX3_canBeAt 7 = .ok (.iand, 1) := by decide +kernel
theorem dX3_canBeAt_8 : decode cX3_canBeAt 8 = .ok (.ifCond .ne 5, 3) := by decide +kernel
theorem dX3_canBeAt_11 : decode cX3_canBeAt 11 = .ok (.iconst 0, 1) := by decide +kernel
theorem dX3_canBeAt_12 : decode cX3_canBeAt 12 = .ok (.ireturn, 1) := by decide +kernel
theorem dX3_canBeAt_13 : decode cX3_canBeAt 13 = .ok (.aload_n 0, 1) := by decide +kernel
theorem dX3_canBeAt_14 : decode cX3_canBeAt 14 = .ok (.getfield 15, 3) := by decide +kernel
theorem dX3_canBeAt_17 : decode cX3_canBeAt 17 = .ok (.iload_n 2, 1) := by decide +kernel
theorem dX3_canBeAt_18 : decode cX3_canBeAt 18 = .ok (.dup2, 1) := by decide +kernel
theorem dX3_canBeAt_19 : decode cX3_canBeAt 19 = .ok (.iaload, 1) := by decide +kernel
theorem dX3_canBeAt_20 : decode cX3_canBeAt 20 = .ok (.aload_n 0, 1) := by decide +kernel
theorem dX3_canBeAt_21 : decode cX3_canBeAt 21 = .ok (.getfield 27, 3) := by decide +kernel
theorem dX3_canBeAt_24 : decode cX3_canBeAt 24 = .ok (.getfield 52, 3) := by decide +kernel
theorem dX3_canBeAt_27 : decode cX3_canBeAt 27 = .ok (.iload_n 1, 1) := by decide +kernel
theorem dX3_canBeAt_28 : decode cX3_canBeAt 28 = .ok (.iaload, 1) := by decide +kernel
theorem dX3_canBeAt_29 : decode cX3_canBeAt 29 = .ok (.isub, 1) := by decide +kernel
theorem dX3_canBeAt_30 : decode cX3_canBeAt 30 = .ok (.iastore, 1) := by decide +kernel
theorem dX3_canBeAt_31 : decode cX3_canBeAt 31 = .ok (.aload_n 0, 1) := by decide +kernel
theorem dX3_canBeAt_32 : decode cX3_canBeAt 32 = .ok (.iload_n 3, 1) := by decide +kernel
theorem dX3_canBeAt_33 : decode cX3_canBeAt 33 = .ok (.invokevirtual 83, 3) := by decide +kernel
theorem dX3_canBeAt_36 : decode cX3_canBeAt 36 = .ok (.ifCond .le 7, 3) := by decide +kernel
theorem dX3_canBeAt_39 : decode cX3_canBeAt 39 = .ok (.iconst 1, 1) := by decide +kernel
theorem dX3_canBeAt_40 : decode cX3_canBeAt 40 = .ok (.goto 4, 3) := by decide +kernel
theorem dX3_canBeAt_43 : decode cX3_canBeAt 43 = .ok (.iconst 0, 1) := by decide +kernel
theorem dX3_canBeAt_44 : decode cX3_canBeAt 44 = .ok (.istore 4, 2) := by decide +kernel
theorem dX3_canBeAt_46 : decode cX3_canBeAt 46 = .ok (.aload_n 0, 1) := by decide +kernel
theorem dX3_canBeAt_47 : decode cX3_canBeAt 47 = .ok (.getfield 15, 3) := by decide +kernel
theorem dX3_canBeAt_50 : decode cX3_canBeAt 50 = .ok (.iload_n 2, 1) := by decide +kernel
theorem dX3_canBeAt_51 : decode cX3_canBeAt 51 = .ok (.dup2, 1) := by decide +kernel
theorem dX3_canBeAt_52 : decode cX3_canBeAt 52 = .ok (.iaload, 1) := by decide +kernel
theorem dX3_canBeAt_53 : decode cX3_canBeAt 53 = .ok (.aload_n 0, 1) := by decide +kernel
theorem dX3_canBeAt_54 : decode cX3_canBeAt 54 = .ok (.getfield 27, 3) := by decide +kernel
theorem dX3_canBeAt_57 : decode cX3_canBeAt 57 = .ok (.getfield 52, 3) := by decide +kernel
theorem dX3_canBeAt_60 : decode cX3_canBeAt 60 = .ok (.iload_n 1, 1) := by decide +kernel
theorem dX3_canBeAt_61 : decode cX3_canBeAt 61 = .ok (.iaload, 1) := by decide +kernel
theorem dX3_canBeAt_62 : decode cX3_canBeAt 62 = .ok (.iadd, 1) := by decide +kernel
theorem dX3_canBeAt_63 : decode cX3_canBeAt 63 = .ok (.iastore, 1) := by decide +kernel
theorem dX3_canBeAt_64 : decode cX3_canBeAt 64 = .ok (.iload 4, 2) := by decide +kernel
theorem dX3_canBeAt_66 : decode cX3_canBeAt 66 = .ok (.ireturn, 1) := by decide +kernel
theorem dX3_cellsOf_0 : decode cX3_cellsOf 0 = .ok (.iconst 0, 1) := by decide +kernel
theorem dX3_cellsOf_1 : decode cX3_cellsOf 1 = .ok (.istore_n 3, 1) := by decide +kernel
theorem dX3_cellsOf_2 : decode cX3_cellsOf 2 = .ok (.iconst 0, 1) := by decide +kernel
theorem dX3_cellsOf_3 : decode cX3_cellsOf 3 = .ok (.istore 4, 2) := by decide +kernel
theorem dX3_cellsOf_5 : decode cX3_cellsOf 5 = .ok (.iload 4, 2) := by decide +kernel
theorem dX3_cellsOf_7 : decode cX3_cellsOf 7 = .ok (.bipush 12, 2) := by decide +kernel
theorem dX3_cellsOf_9 : decode cX3_cellsOf 9 = .ok (.if_icmp .ge 27, 3) := by decide +kernel
theorem dX3_cellsOf_12 : decode cX3_cellsOf 12 = .ok (.aload_n 0, 1) := by decide +kernel
theorem dX3_cellsOf_13 : decode cX3_cellsOf 13 = .ok (.iload_n 1, 1) := by decide +kernel
theorem dX3_cellsOf_14 : decode cX3_cellsOf 14 = .ok (.iload 4, 2) := by decide +kernel
theorem dX3_cellsOf_16 : decode cX3_cellsOf 16 = .ok (.iload_n 2, 1) := by decide +kernel
theorem dX3_cellsOf_17 : decode cX3_cellsOf 17 = .ok (.invokevirtual 86, 3) := by decide +kernel
theorem dX3_cellsOf_20 : decode cX3_cellsOf 20 = .ok (.ifCond .eq 10, 3) := by decide +kernel
theorem dX3_cellsOf_23 : decode cX3_cellsOf 23 = .ok (.iload_n 3, 1) := by decide +kernel
theorem dX3_cellsOf_24 : decode cX3_cellsOf 24 = .ok (.iconst 1, 1) := by decide +kernel
theorem dX3_cellsOf_25 : decode cX3_cellsOf 25 = .ok (.iload 4, 2) := by decide +kernel
theorem dX3_cellsOf_27 : decode cX3_cellsOf 27 = .ok (.ishl, 1) := by decide +kernel
theorem dX3_cellsOf_28 : decode cX3_cellsOf 28 = .ok (.ior, 1) := by decide +kernel
theorem dX3_cellsOf_29 : decode cX3_cellsOf 29 = .ok (.istore_n 3, 1) := by decide +kernel
theorem dX3_cellsOf_30 : decode cX3_cellsOf 30 = .ok (.iinc 4 1, 3) := by decide +kernel
theorem dX3_cellsOf_33 : decode cX3_cellsOf 33 = .ok (.goto (-28), 3) := by decide +kernel
theorem dX3_cellsOf_36 : decode cX3_cellsOf 36 = .ok (.iload_n 3, 1) := by decide +kernel
theorem dX3_cellsOf_37 : decode cX3_cellsOf 37 = .ok (.ireturn, 1) := by decide +kernel
theorem dX4_init_0 : decode cX4_init 0 = .ok (.aload_n 0, 1) := by decide +kernel
theorem dX4_init_1 : decode cX4_init 1 = .ok (.invokespecial 3, 3) := by decide +kernel
theorem dX4_init_4 : decode cX4_init 4 = .ok (.aload_n 0, 1) := by decide +kernel
theorem dX4_init_5 : decode cX4_init 5 = .ok (.bipush 16, 2) := by decide +kernel
theorem dX4_init_7 : decode cX4_init 7 = .ok (.anewarray 11, 3) := by decide +kernel
theorem dX4_init_10 : decode cX4_init 10 = .ok (.putfield 13, 3) := by decide +kernel
theorem dX4_init_13 : decode cX4_init 13 = .ok (.iconst 0, 1) := by decide +kernel
theorem dX4_init_14 : decode cX4_init 14 = .ok (.istore_n 3, 1) := by decide +kernel
theorem dX4_init_15 : decode cX4_init 15 = .ok (.iload_n 3, 1) := by decide +kernel
theorem dX4_init_16 : decode cX4_init 16 = .ok (.bipush 16, 2) := by decide +kernel
theorem dX4_init_18 : decode cX4_init 18 = .ok (.if_icmp .ge 24, 3) := by decide +kernel
theorem dX4_init_21 : decode cX4_init 21 = .ok (.aload_n 0, 1) := by decide +kernel
theorem dX4_init_22 : decode cX4_init 22 = .ok (.getfield 13, 3) := by decide +kernel
theorem dX4_init_25 : decode cX4_init 25 = .ok (.iload_n 3, 1) := by decide +kernel
theorem dX4_init_26 : decode cX4_init 26 = .ok (.new 11, 3) := by decide +kernel
theorem dX4_init_29 : decode cX4_init 29 = .ok (.dup, 1) := by decide +kernel
theorem dX4_init_30 : decode cX4_init 30 = .ok (.aload_n 1, 1) := by decide +kernel
theorem dX4_init_31 : decode cX4_init 31 = .ok (.aload_n 2, 1) := by decide +kernel
theorem dX4_init_32 : decode cX4_init 32 = .ok (.invokespecial 17, 3) := by decide +kernel
theorem dX4_init_35 : decode cX4_init 35 = .ok (.aastore, 1) := by decide +kernel
theorem dX4_init_36 : decode cX4_init 36 = .ok (.iinc 3 1, 3) := by decide +kernel
theorem dX4_init_39 : decode cX4_init 39 = .ok (.goto (-24), 3) := by decide +kernel
theorem dX4_init_42 : decode cX4_init 42 = .ok (.return_, 1) := by decide +kernel
theorem dX4_clear_0 : decode cX4_clear 0 = .ok (.aload_n 0, 1) := by decide +kernel
theorem dX4_clear_1 : decode cX4_clear 1 = .ok (.iconst 0, 1) := by decide +kernel
theorem dX4_clear_2 : decode cX4_clear 2 = .ok (.putfield 20, 3) := by decide +kernel
theorem dX4_clear_5 : decode cX4_clear 5 = .ok (.return_, 1) := by decide +kernel
theorem dX4_mark_0 : decode cX4_mark 0 = .ok (.aload_n 0, 1) := by decide +kernel
theorem dX4_mark_1 : decode cX4_mark 1 = .ok (.getfield 13, 3) := by decide +kernel
theorem dX4_mark_4 : decode cX4_mark 4 = .ok (.aload_n 0, 1) := by decide +kernel
theorem dX4_mark_5 : decode cX4_mark 5 = .ok (.getfield 24, 3) := by decide +kernel
theorem dX4_mark_8 : decode cX4_mark 8 = .ok (.aaload, 1) := by decide +kernel
theorem dX4_mark_9 : decode cX4_mark 9 = .ok (.aload_n 1, 1) := by decide +kernel
theorem dX4_mark_10 : decode cX4_mark 10 = .ok (.invokevirtual 27, 3) := by decide +kernel
theorem dX4_mark_13 : decode cX4_mark 13 = .ok (.return_, 1) := by decide +kernel
theorem dX4_keepMarked_0 : decode cX4_keepMarked 0 = .ok (.aload_n 0, 1) := by decide +kernel
theorem dX4_keepMarked_1 : decode cX4_keepMarked 1 = .ok (.aload_n 0, 1) := by decide +kernel
theorem dX4_keepMarked_2 : decode cX4_keepMarked 2 = .ok (.getfield 24, 3) := by decide +kernel
theorem dX4_keepMarked_5 : decode cX4_keepMarked 5 = .ok (.iconst 1, 1) := by decide +kernel
theorem dX4_keepMarked_6 : decode cX4_keepMarked 6 = .ok (.iadd, 1) := by decide +kernel
theorem dX4_keepMarked_7 : decode cX4_keepMarked 7 = .ok (.bipush 16, 2) := by decide +kernel
theorem dX4_keepMarked_9 : decode cX4_keepMarked 9 = .ok (.irem, 1) := by decide +kernel
theorem dX4_keepMarked_10 : decode cX4_keepMarked 10 = .ok (.putfield 24, 3) := by decide +kernel
theorem dX4_keepMarked_13 : decode cX4_keepMarked 13 = .ok (.aload_n 0, 1) := by decide +kernel
theorem dX4_keepMarked_14 : decode cX4_keepMarked 14 = .ok (.bipush 15, 2) := by decide +kernel
theorem dX4_keepMarked_16 : decode cX4_keepMarked 16 = .ok (.aload_n 0, 1) := by decide +kernel
theorem dX4_keepMarked_17 : decode cX4_keepMarked 17 = .ok (.getfield 20, 3) := by decide +kernel
theorem dX4_keepMarked_20 : decode cX4_keepMarked 20 = .ok (.iconst 1, 1) := by decide +kernel
theorem dX4_keepMarked_21 : decode cX4_keepMarked 21 = .ok (.iadd, 1) := by decide +kernel
theorem dX4_keepMarked_22 : decode cX4_keepMarked 22 = .ok (.invokestatic 31, 3) := by decide +kernel
theorem dX4_keepMarked_25 : decode cX4_keepMarked 25 = .ok (.putfield 20, 3) := by decide +kernel
theorem dX4_keepMarked_28 : decode cX4_keepMarked 28 = .ok (.return_, 1) := by decide +kernel
theorem dX4_takeBack_0 : decode cX4_takeBack 0 = .ok (.aload_n 0, 1) := by decide +kernel
theorem dX4_takeBack_1 : decode cX4_takeBack 1 = .ok (.getfield 20, 3) := by decide +kernel
theorem dX4_takeBack_4 : decode cX4_takeBack 4 = .ok (.ifCond .ne 5, 3) := by decide +kernel
theorem dX4_takeBack_7 : decode cX4_takeBack 7 = .ok (.iconst (-1), 1) := by decide +kernel
theorem dX4_takeBack_8 : decode cX4_takeBack 8 = .ok (.ireturn, 1) := by decide +kernel
theorem dX4_takeBack_9 : decode cX4_takeBack 9 = .ok (.aload_n 0, 1) := by decide +kernel
theorem dX4_takeBack_10 : decode cX4_takeBack 10 = .ok (.aload_n 0, 1) := by decide +kernel
theorem dX4_takeBack_11 : decode cX4_takeBack 11 = .ok (.getfield 24, 3) := by decide +kernel
theorem dX4_takeBack_14 : decode cX4_takeBack 14 = .ok (.bipush 16, 2) := by decide +kernel
theorem dX4_takeBack_16 : decode cX4_takeBack 16 = .ok (.iadd, 1) := by decide +kernel
theorem dX4_takeBack_17 : decode cX4_takeBack 17 = .ok (.iconst 1, 1) := by decide +kernel
theorem dX4_takeBack_18 : decode cX4_takeBack 18 = .ok (.isub, 1) := by decide +kernel
theorem dX4_takeBack_19 : decode cX4_takeBack 19 = .ok (.bipush 16, 2) := by decide +kernel
theorem dX4_takeBack_21 : decode cX4_takeBack 21 = .ok (.irem, 1) := by decide +kernel
theorem dX4_takeBack_22 : decode cX4_takeBack 22 = .ok (.putfield 24, 3) := by decide +kernel
theorem dX4_takeBack_25 : decode cX4_takeBack 25 = .ok (.aload_n 0, 1) := by decide +kernel
theorem dX4_takeBack_26 : decode cX4_takeBack 26 = .ok (.dup, 1) := by decide +kernel
theorem dX4_takeBack_27 : decode cX4_takeBack 27 = .ok (.getfield 20, 3) := by decide +kernel
theorem dX4_takeBack_30 : decode cX4_takeBack 30 = .ok (.iconst 1, 1) := by decide +kernel
theorem dX4_takeBack_31 : decode cX4_takeBack 31 = .ok (.isub, 1) := by decide +kernel
theorem dX4_takeBack_32 : decode cX4_takeBack 32 = .ok (.putfield 20, 3) := by decide +kernel
theorem dX4_takeBack_35 : decode cX4_takeBack 35 = .ok (.aload_n 1, 1) := by decide +kernel
theorem dX4_takeBack_36 : decode cX4_takeBack 36 = .ok (.aload_n 0, 1) := by decide +kernel
theorem dX4_takeBack_37 : decode cX4_takeBack 37 = .ok (.getfield 13, 3) := by decide +kernel
theorem dX4_takeBack_40 : decode cX4_takeBack 40 = .ok (.aload_n 0, 1) := by decide +kernel
theorem dX4_takeBack_41 : decode cX4_takeBack 41 = .ok (.getfield 24, 3) := by decide +kernel
theorem dX4_takeBack_44 : decode cX4_takeBack 44 = .ok (.aaload, 1) := by decide +kernel
theorem dX4_takeBack_45 : decode cX4_takeBack 45 = .ok (.invokevirtual 27, 3) := by decide +kernel
theorem dX4_takeBack_48 : decode cX4_takeBack 48 = .ok (.aload_n 0, 1) := by decide +kernel
theorem dX4_takeBack_49 : decode cX4_takeBack 49 = .ok (.getfield 20, 3) := by decide +kernel
theorem dX4_takeBack_52 : decode cX4_takeBack 52 = .ok (.ireturn, 1) := by decide +kernel
