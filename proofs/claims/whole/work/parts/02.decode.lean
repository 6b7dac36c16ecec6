theorem dX0_init_0 : decode cX0_init 0 = .ok (.aload_n 0, 1) := by decide +kernel
theorem dX0_init_1 : decode cX0_init 1 = .ok (.invokespecial 3, 3) := by decide +kernel
theorem dX0_init_4 : decode cX0_init 4 = .ok (.aload_n 0, 1) := by decide +kernel
theorem dX0_init_5 : decode cX0_init 5 = .ok (.bipush 64, 2) := by decide +kernel
theorem dX0_init_7 : decode cX0_init 7 = .ok (.newarray .int, 2) := by decide +kernel
theorem dX0_init_9 : decode cX0_init 9 = .ok (.putfield 9, 3) := by decide +kernel
theorem dX0_init_12 : decode cX0_init 12 = .ok (.aload_n 0, 1) := by decide +kernel
theorem dX0_init_13 : decode cX0_init 13 = .ok (.sipush 1920, 3) := by decide +kernel
theorem dX0_init_16 : decode cX0_init 16 = .ok (.newarray .int, 2) := by decide +kernel
theorem dX0_init_18 : decode cX0_init 18 = .ok (.putfield 15, 3) := by decide +kernel
theorem dX0_init_21 : decode cX0_init 21 = .ok (.aload_n 0, 1) := by decide +kernel
theorem dX0_init_22 : decode cX0_init 22 = .ok (.new 18, 3) := by decide +kernel
theorem dX0_init_25 : decode cX0_init 25 = .ok (.dup, 1) := by decide +kernel
theorem dX0_init_26 : decode cX0_init 26 = .ok (.invokespecial 20, 3) := by decide +kernel
theorem dX0_init_29 : decode cX0_init 29 = .ok (.putfield 21, 3) := by decide +kernel
theorem dX0_init_32 : decode cX0_init 32 = .ok (.aload_n 0, 1) := by decide +kernel
theorem dX0_init_33 : decode cX0_init 33 = .ok (.new 18, 3) := by decide +kernel
theorem dX0_init_36 : decode cX0_init 36 = .ok (.dup, 1) := by decide +kernel
theorem dX0_init_37 : decode cX0_init 37 = .ok (.invokespecial 20, 3) := by decide +kernel
theorem dX0_init_40 : decode cX0_init 40 = .ok (.putfield 25, 3) := by decide +kernel
theorem dX0_init_43 : decode cX0_init 43 = .ok (.aload_n 0, 1) := by decide +kernel
theorem dX0_init_44 : decode cX0_init 44 = .ok (.new 18, 3) := by decide +kernel
theorem dX0_init_47 : decode cX0_init 47 = .ok (.dup, 1) := by decide +kernel
theorem dX0_init_48 : decode cX0_init 48 = .ok (.invokespecial 20, 3) := by decide +kernel
theorem dX0_init_51 : decode cX0_init 51 = .ok (.putfield 28, 3) := by decide +kernel
theorem dX0_init_54 : decode cX0_init 54 = .ok (.aload_n 0, 1) := by decide +kernel
theorem dX0_init_55 : decode cX0_init 55 = .ok (.new 18, 3) := by decide +kernel
theorem dX0_init_58 : decode cX0_init 58 = .ok (.dup, 1) := by decide +kernel
theorem dX0_init_59 : decode cX0_init 59 = .ok (.invokespecial 20, 3) := by decide +kernel
theorem dX0_init_62 : decode cX0_init 62 = .ok (.putfield 31, 3) := by decide +kernel
theorem dX0_init_65 : decode cX0_init 65 = .ok (.aload_n 0, 1) := by decide +kernel
theorem dX0_init_66 : decode cX0_init 66 = .ok (.iconst (-1), 1) := by decide +kernel
theorem dX0_init_67 : decode cX0_init 67 = .ok (.putfield 34, 3) := by decide +kernel
theorem dX0_init_70 : decode cX0_init 70 = .ok (.aload_n 0, 1) := by decide +kernel
theorem dX0_init_71 : decode cX0_init 71 = .ok (.getfield 9, 3) := by decide +kernel
theorem dX0_init_74 : decode cX0_init 74 = .ok (.iconst 1, 1) := by decide +kernel
theorem dX0_init_75 : decode cX0_init 75 = .ok (.iconst 3, 1) := by decide +kernel
theorem dX0_init_76 : decode cX0_init 76 = .ok (.iastore, 1) := by decide +kernel
theorem dX0_init_77 : decode cX0_init 77 = .ok (.aload_n 0, 1) := by decide +kernel
theorem dX0_init_78 : decode cX0_init 78 = .ok (.getfield 9, 3) := by decide +kernel
theorem dX0_init_81 : decode cX0_init 81 = .ok (.iconst 4, 1) := by decide +kernel
theorem dX0_init_82 : decode cX0_init 82 = .ok (.bipush 107, 2) := by decide +kernel
theorem dX0_init_84 : decode cX0_init 84 = .ok (.iastore, 1) := by decide +kernel
theorem dX0_init_85 : decode cX0_init 85 = .ok (.aload_n 0, 1) := by decide +kernel
theorem dX0_init_86 : decode cX0_init 86 = .ok (.getfield 9, 3) := by decide +kernel
theorem dX0_init_89 : decode cX0_init 89 = .ok (.iconst 5, 1) := by decide +kernel
theorem dX0_init_90 : decode cX0_init 90 = .ok (.iconst (-1), 1) := by decide +kernel
theorem dX0_init_91 : decode cX0_init 91 = .ok (.iastore, 1) := by decide +kernel
theorem dX0_init_92 : decode cX0_init 92 = .ok (.return_, 1) := by decide +kernel
theorem dX0_copyFrom_0 : decode cX0_copyFrom 0 = .ok (.aload_n 1, 1) := by decide +kernel
theorem dX0_copyFrom_1 : decode cX0_copyFrom 1 = .ok (.getfield 9, 3) := by decide +kernel
theorem dX0_copyFrom_4 : decode cX0_copyFrom 4 = .ok (.iconst 0, 1) := by decide +kernel
theorem dX0_copyFrom_5 : decode cX0_copyFrom 5 = .ok (.aload_n 0, 1) := by decide +kernel
theorem dX0_copyFrom_6 : decode cX0_copyFrom 6 = .ok (.getfield 9, 3) := by decide +kernel
theorem dX0_copyFrom_9 : decode cX0_copyFrom 9 = .ok (.iconst 0, 1) := by decide +kernel
theorem dX0_copyFrom_10 : decode cX0_copyFrom 10 = .ok (.bipush 64, 2) := by decide +kernel
theorem dX0_copyFrom_12 : decode cX0_copyFrom 12 = .ok (.invokestatic 38, 3) := by decide +kernel
theorem dX0_copyFrom_15 : decode cX0_copyFrom 15 = .ok (.aload_n 1, 1) := by decide +kernel
theorem dX0_copyFrom_16 : decode cX0_copyFrom 16 = .ok (.getfield 15, 3) := by decide +kernel
theorem dX0_copyFrom_19 : decode cX0_copyFrom 19 = .ok (.iconst 0, 1) := by decide +kernel
theorem dX0_copyFrom_20 : decode cX0_copyFrom 20 = .ok (.aload_n 0, 1) := by decide +kernel
theorem dX0_copyFrom_21 : decode cX0_copyFrom 21 = .ok (.getfield 15, 3) := by decide +kernel
theorem dX0_copyFrom_24 : decode cX0_copyFrom 24 = .ok (.iconst 0, 1) := by decide +kernel
theorem dX0_copyFrom_25 : decode cX0_copyFrom 25 = .ok (.sipush 1920, 3) := by decide +kernel
theorem dX0_copyFrom_28 : decode cX0_copyFrom 28 = .ok (.invokestatic 38, 3) := by decide +kernel
theorem dX0_copyFrom_31 : decode cX0_copyFrom 31 = .ok (.aload_n 0, 1) := by decide +kernel
theorem dX0_copyFrom_32 : decode cX0_copyFrom 32 = .ok (.aload_n 1, 1) := by decide +kernel
theorem dX0_copyFrom_33 : decode cX0_copyFrom 33 = .ok (.getfield 44, 3) := by decide +kernel
theorem dX0_copyFrom_36 : decode cX0_copyFrom 36 = .ok (.putfield 44, 3) := by decide +kernel
theorem dX0_copyFrom_39 : decode cX0_copyFrom 39 = .ok (.aload_n 0, 1) := by decide +kernel
theorem dX0_copyFrom_40 : decode cX0_copyFrom 40 = .ok (.aload_n 1, 1) := by decide +kernel
theorem dX0_copyFrom_41 : decode cX0_copyFrom 41 = .ok (.getfield 47, 3) := by decide +kernel
theorem dX0_copyFrom_44 : decode cX0_copyFrom 44 = .ok (.putfield 47, 3) := by decide +kernel
theorem dX0_copyFrom_47 : decode cX0_copyFrom 47 = .ok (.aload_n 0, 1) := by decide +kernel
theorem dX0_copyFrom_48 : decode cX0_copyFrom 48 = .ok (.getfield 21, 3) := by decide +kernel
theorem dX0_copyFrom_51 : decode cX0_copyFrom 51 = .ok (.aload_n 1, 1) := by decide +kernel
theorem dX0_copyFrom_52 : decode cX0_copyFrom 52 = .ok (.getfield 21, 3) := by decide +kernel
theorem dX0_copyFrom_55 : decode cX0_copyFrom 55 = .ok (.invokevirtual 50, 3) := by decide +kernel
theorem dX0_copyFrom_58 : decode cX0_copyFrom 58 = .ok (.aload_n 0, 1) := by decide +kernel
theorem dX0_copyFrom_59 : decode cX0_copyFrom 59 = .ok (.getfield 25, 3) := by decide +kernel
theorem dX0_copyFrom_62 : decode cX0_copyFrom 62 = .ok (.aload_n 1, 1) := by decide +kernel
theorem dX0_copyFrom_63 : decode cX0_copyFrom 63 = .ok (.getfield 25, 3) := by decide +kernel
theorem dX0_copyFrom_66 : decode cX0_copyFrom 66 = .ok (.invokevirtual 50, 3) := by decide +kernel
theorem dX0_copyFrom_69 : decode cX0_copyFrom 69 = .ok (.aload_n 0, 1) := by decide +kernel
theorem dX0_copyFrom_70 : decode cX0_copyFrom 70 = .ok (.getfield 28, 3) := by decide +kernel
theorem dX0_copyFrom_73 : decode cX0_copyFrom 73 = .ok (.aload_n 1, 1) := by decide +kernel
theorem dX0_copyFrom_74 : decode cX0_copyFrom 74 = .ok (.getfield 28, 3) := by decide +kernel
theorem dX0_copyFrom_77 : decode cX0_copyFrom 77 = .ok (.invokevirtual 50, 3) := by decide +kernel
theorem dX0_copyFrom_80 : decode cX0_copyFrom 80 = .ok (.aload_n 0, 1) := by decide +kernel
theorem dX0_copyFrom_81 : decode cX0_copyFrom 81 = .ok (.getfield 31, 3) := by decide +kernel
theorem dX0_copyFrom_84 : decode cX0_copyFrom 84 = .ok (.aload_n 1, 1) := by decide +kernel
theorem dX0_copyFrom_85 : decode cX0_copyFrom 85 = .ok (.getfield 31, 3) := by decide +kernel
theorem dX0_copyFrom_88 : decode cX0_copyFrom 88 = .ok (.invokevirtual 50, 3) := by decide +kernel
theorem dX0_copyFrom_91 : decode cX0_copyFrom 91 = .ok (.aload_n 0, 1) := by decide +kernel
theorem dX0_copyFrom_92 : decode cX0_copyFrom 92 = .ok (.aload_n 1, 1) := by decide +kernel
theorem dX0_copyFrom_93 : decode cX0_copyFrom 93 = .ok (.getfield 54, 3) := by decide +kernel
theorem dX0_copyFrom_96 : decode cX0_copyFrom 96 = .ok (.putfield 54, 3) := by decide +kernel
theorem dX0_copyFrom_99 : decode cX0_copyFrom 99 = .ok (.aload_n 0, 1) := by decide +kernel
theorem dX0_copyFrom_100 : decode cX0_copyFrom 100 = .ok (.aload_n 1, 1) := by decide +kernel
theorem dX0_copyFrom_101 : decode cX0_copyFrom 101 = .ok (.getfield 34, 3) := by decide +kernel
theorem dX0_copyFrom_104 : decode cX0_copyFrom 104 = .ok (.putfield 34, 3) := by decide +kernel
theorem dX0_copyFrom_107 : decode cX0_copyFrom 107 = .ok (.return_, 1) := by decide +kernel
theorem dX0_keepStep_0 : decode cX0_keepStep 0 = .ok (.aload_n 0, 1) := by decide +kernel
theorem dX0_keepStep_1 : decode cX0_keepStep 1 = .ok (.getfield 9, 3) := by decide +kernel
theorem dX0_keepStep_4 : decode cX0_keepStep 4 = .ok (.iconst 0, 1) := by decide +kernel
theorem dX0_keepStep_5 : decode cX0_keepStep 5 = .ok (.aload_n 0, 1) := by decide +kernel
theorem dX0_keepStep_6 : decode cX0_keepStep 6 = .ok (.getfield 15, 3) := by decide +kernel
theorem dX0_keepStep_9 : decode cX0_keepStep 9 = .ok (.aload_n 0, 1) := by decide +kernel
theorem dX0_keepStep_10 : decode cX0_keepStep 10 = .ok (.getfield 47, 3) := by decide +kernel
theorem dX0_keepStep_13 : decode cX0_keepStep 13 = .ok (.bipush 64, 2) := by decide +kernel
theorem dX0_keepStep_15 : decode cX0_keepStep 15 = .ok (.imul, 1) := by decide +kernel
theorem dX0_keepStep_16 : decode cX0_keepStep 16 = .ok (.bipush 64, 2) := by decide +kernel
theorem dX0_keepStep_18 : decode cX0_keepStep 18 = .ok (.invokestatic 38, 3) := by decide +kernel
theorem dX0_keepStep_21 : decode cX0_keepStep 21 = .ok (.aload_n 0, 1) := by decide +kernel
theorem dX0_keepStep_22 : decode cX0_keepStep 22 = .ok (.aload_n 0, 1) := by decide +kernel
theorem dX0_keepStep_23 : decode cX0_keepStep 23 = .ok (.getfield 47, 3) := by decide +kernel
theorem dX0_keepStep_26 : decode cX0_keepStep 26 = .ok (.iconst 1, 1) := by decide +kernel
theorem dX0_keepStep_27 : decode cX0_keepStep 27 = .ok (.iadd, 1) := by decide +kernel
theorem dX0_keepStep_28 : decode cX0_keepStep 28 = .ok (.bipush 30, 2) := by decide +kernel
theorem dX0_keepStep_30 : decode cX0_keepStep 30 = .ok (.irem, 1) := by decide +kernel
theorem dX0_keepStep_31 : decode cX0_keepStep 31 = .ok (.putfield 47, 3) := by decide +kernel
theorem dX0_keepStep_34 : decode cX0_keepStep 34 = .ok (.aload_n 0, 1) := by decide +kernel
theorem dX0_keepStep_35 : decode cX0_keepStep 35 = .ok (.getfield 44, 3) := by decide +kernel
theorem dX0_keepStep_38 : decode cX0_keepStep 38 = .ok (.bipush 30, 2) := by decide +kernel
theorem dX0_keepStep_40 : decode cX0_keepStep 40 = .ok (.if_icmp .ge 13, 3) := by decide +kernel
theorem dX0_keepStep_43 : decode cX0_keepStep 43 = .ok (.aload_n 0, 1) := by decide +kernel
theorem dX0_keepStep_44 : decode cX0_keepStep 44 = .ok (.dup, 1) := by decide +kernel
theorem dX0_keepStep_45 : decode cX0_keepStep 45 = .ok (.getfield 44, 3) := by decide +kernel
theorem dX0_keepStep_48 : decode cX0_keepStep 48 = .ok (.iconst 1, 1) := by decide +kernel
theorem dX0_keepStep_49 : decode cX0_keepStep 49 = .ok (.iadd, 1) := by decide +kernel
theorem dX0_keepStep_50 : decode cX0_keepStep 50 = .ok (.putfield 44, 3) := by decide +kernel
theorem dX0_keepStep_53 : decode cX0_keepStep 53 = .ok (.return_, 1) := by decide +kernel
theorem dX0_takeBack_0 : decode cX0_takeBack 0 = .ok (.aload_n 0, 1) := by decide +kernel
theorem dX0_takeBack_1 : decode cX0_takeBack 1 = .ok (.getfield 44, 3) := by decide +kernel
theorem dX0_takeBack_4 : decode cX0_takeBack 4 = .ok (.ifCond .ne 5, 3) := by decide +kernel
theorem dX0_takeBack_7 : decode cX0_takeBack 7 = .ok (.iconst 0, 1) := by decide +kernel
theorem dX0_takeBack_8 : decode cX0_takeBack 8 = .ok (.ireturn, 1) := by decide +kernel
theorem dX0_takeBack_9 : decode cX0_takeBack 9 = .ok (.aload_n 0, 1) := by decide +kernel
theorem dX0_takeBack_10 : decode cX0_takeBack 10 = .ok (.dup, 1) := by decide +kernel
theorem dX0_takeBack_11 : decode cX0_takeBack 11 = .ok (.getfield 44, 3) := by decide +kernel
theorem dX0_takeBack_14 : decode cX0_takeBack 14 = .ok (.iconst 1, 1) := by decide +kernel
theorem dX0_takeBack_15 : decode cX0_takeBack 15 = .ok (.isub, 1) := by decide +kernel
theorem dX0_takeBack_16 : decode cX0_takeBack 16 = .ok (.putfield 44, 3) := by decide +kernel
theorem dX0_takeBack_19 : decode cX0_takeBack 19 = .ok (.aload_n 0, 1) := by decide +kernel
theorem dX0_takeBack_20 : decode cX0_takeBack 20 = .ok (.aload_n 0, 1) := by decide +kernel
theorem dX0_takeBack_21 : decode cX0_takeBack 21 = .ok (.getfield 47, 3) := by decide +kernel
theorem dX0_takeBack_24 : decode cX0_takeBack 24 = .ok (.bipush 30, 2) := by decide +kernel
theorem dX0_takeBack_26 : decode cX0_takeBack 26 = .ok (.iadd, 1) := by decide +kernel
theorem dX0_takeBack_27 : decode cX0_takeBack 27 = .ok (.iconst 1, 1) := by decide +kernel
theorem dX0_takeBack_28 : decode cX0_takeBack 28 = .ok (.isub, 1) := by decide +kernel
theorem dX0_takeBack_29 : decode cX0_takeBack 29 = .ok (.bipush 30, 2) := by decide +kernel
theorem dX0_takeBack_31 : decode cX0_takeBack 31 = .ok (.irem, 1) := by decide +kernel
theorem dX0_takeBack_32 : decode cX0_takeBack 32 = .ok (.putfield 47, 3) := by decide +kernel
theorem dX0_takeBack_35 : decode cX0_takeBack 35 = .ok (.aload_n 0, 1) := by decide +kernel
theorem dX0_takeBack_36 : decode cX0_takeBack 36 = .ok (.getfield 15, 3) := by decide +kernel
theorem dX0_takeBack_39 : decode cX0_takeBack 39 = .ok (.aload_n 0, 1) := by decide +kernel
theorem dX0_takeBack_40 : decode cX0_takeBack 40 = .ok (.getfield 47, 3) := by decide +kernel
theorem dX0_takeBack_43 : decode cX0_takeBack 43 = .ok (.bipush 64, 2) := by decide +kernel
theorem dX0_takeBack_45 : decode cX0_takeBack 45 = .ok (.imul, 1) := by decide +kernel
theorem dX0_takeBack_46 : decode cX0_takeBack 46 = .ok (.aload_n 0, 1) := by decide +kernel
theorem dX0_takeBack_47 : decode cX0_takeBack 47 = .ok (.getfield 9, 3) := by decide +kernel
theorem dX0_takeBack_50 : decode cX0_takeBack 50 = .ok (.iconst 0, 1) := by decide +kernel
theorem dX0_takeBack_51 : decode cX0_takeBack 51 = .ok (.bipush 64, 2) := by decide +kernel
theorem dX0_takeBack_53 : decode cX0_takeBack 53 = .ok (.invokestatic 38, 3) := by decide +kernel
theorem dX0_takeBack_56 : decode cX0_takeBack 56 = .ok (.iconst 1, 1) := by decide +kernel
theorem dX0_takeBack_57 : decode cX0_takeBack 57 = .ok (.ireturn, 1) := by decide +kernel
theorem dX0_hoursLeft_0 : decode cX0_hoursLeft 0 = .ok (.sipush 9999, 3) := by decide +kernel
theorem dX0_hoursLeft_3 : decode cX0_hoursLeft 3 = .ok (.aload_n 0, 1) := by decide +kernel
theorem dX0_hoursLeft_4 : decode cX0_hoursLeft 4 = .ok (.getfield 9, 3) := by decide +kernel
theorem dX0_hoursLeft_7 : decode cX0_hoursLeft 7 = .ok (.iconst 3, 1) := by decide +kernel
theorem dX0_hoursLeft_8 : decode cX0_hoursLeft 8 = .ok (.iaload, 1) := by decide +kernel
theorem dX0_hoursLeft_9 : decode cX0_hoursLeft 9 = .ok (.isub, 1) := by decide +kernel
theorem dX0_hoursLeft_10 : decode cX0_hoursLeft 10 = .ok (.ireturn, 1) := by decide +kernel
theorem dX0_isWaiting_0 : decode cX0_isWaiting 0 = .ok (.aload_n 0, 1) := by decide +kernel
theorem dX0_isWaiting_1 : decode cX0_isWaiting 1 = .ok (.getfield 21, 3) := by decide +kernel
theorem dX0_isWaiting_4 : decode cX0_isWaiting 4 = .ok (.iload_n 1, 1) := by decide +kernel
theorem dX0_isWaiting_5 : decode cX0_isWaiting 5 = .ok (.invokevirtual 57, 3) := by decide +kernel
theorem dX0_isWaiting_8 : decode cX0_isWaiting 8 = .ok (.ifCond .eq 19, 3) := by decide +kernel
theorem dX0_isWaiting_11 : decode cX0_isWaiting 11 = .ok (.aload_n 0, 1) := by decide +kernel
theorem dX0_isWaiting_12 : decode cX0_isWaiting 12 = .ok (.getfield 9, 3) := by decide +kernel
theorem dX0_isWaiting_15 : decode cX0_isWaiting 15 = .ok (.bipush 10, 2) := by decide +kernel
theorem dX0_isWaiting_17 : decode cX0_isWaiting 17 = .ok (.iload_n 1, 1) := by decide +kernel
theorem dX0_isWaiting_18 : decode cX0_isWaiting 18 = .ok (.iadd, 1) := by decide +kernel
theorem dX0_isWaiting_19 : decode cX0_isWaiting 19 = .ok (.iaload, 1) := by decide +kernel
theorem dX0_isWaiting_20 : decode cX0_isWaiting 20 = .ok (.ifCond .ne 7, 3) := by decide +kernel
theorem dX0_isWaiting_23 : decode cX0_isWaiting 23 = .ok (.iconst 1, 1) := by decide +kernel
theorem dX0_isWaiting_24 : decode cX0_isWaiting 24 = .ok (.goto 4, 3) := by decide +kernel
theorem dX0_isWaiting_27 : decode cX0_isWaiting 27 = .ok (.iconst 0, 1) := by decide +kernel
theorem dX0_isWaiting_28 : decode cX0_isWaiting 28 = .ok (.ireturn, 1) := by decide +kernel
theorem dX0_canBring_0 : decode cX0_canBring 0 = .ok (.aload_n 0, 1) := by decide +kernel
theorem dX0_canBring_1 : decode cX0_canBring 1 = .ok (.iload_n 1, 1) := by decide +kernel
theorem dX0_canBring_2 : decode cX0_canBring 2 = .ok (.invokevirtual 61, 3) := by decide +kernel
theorem dX0_canBring_5 : decode cX0_canBring 5 = .ok (.ifCond .eq 17, 3) := by decide +kernel
theorem dX0_canBring_8 : decode cX0_canBring 8 = .ok (.aload_n 0, 1) := by decide +kernel
theorem dX0_canBring_9 : decode cX0_canBring 9 = .ok (.getfield 9, 3) := by decide +kernel
theorem dX0_canBring_12 : decode cX0_canBring 12 = .ok (.iconst 5, 1) := by decide +kernel
theorem dX0_canBring_13 : decode cX0_canBring 13 = .ok (.iaload, 1) := by decide +kernel
theorem dX0_canBring_14 : decode cX0_canBring 14 = .ok (.iconst (-1), 1) := by decide +kernel
theorem dX0_canBring_15 : decode cX0_canBring 15 = .ok (.if_icmp .ne 7, 3) := by decide +kernel
theorem dX0_canBring_18 : decode cX0_canBring 18 = .ok (.iconst 1, 1) := by decide +kernel
theorem dX0_canBring_19 : decode cX0_canBring 19 = .ok (.goto 4, 3) := by decide +kernel
theorem dX0_canBring_22 : decode cX0_canBring 22 = .ok (.iconst 0, 1) := by decide +kernel
theorem dX0_canBring_23 : decode cX0_canBring 23 = .ok (.ireturn, 1) := by decide +kernel
theorem dX0_bring_0 : decode cX0_bring 0 = .ok (.aload_n 0, 1) := by decide +kernel
theorem dX0_bring_1 : decode cX0_bring 1 = .ok (.getfield 21, 3) := by decide +kernel
theorem dX0_bring_4 : decode cX0_bring 4 = .ok (.iload_n 1, 1) := by decide +kernel
theorem dX0_bring_5 : decode cX0_bring 5 = .ok (.invokevirtual 57, 3) := by decide +kernel
theorem dX0_bring_8 : decode cX0_bring 8 = .ok (.ifCond .eq 20, 3) := by decide +kernel
theorem dX0_bring_11 : decode cX0_bring 11 = .ok (.aload_n 0, 1) := by decide +kernel
theorem dX0_bring_12 : decode cX0_bring 12 = .ok (.getfield 9, 3) := by decide +kernel
theorem dX0_bring_15 : decode cX0_bring 15 = .ok (.iconst 5, 1) := by decide +kernel
theorem dX0_bring_16 : decode cX0_bring 16 = .ok (.iload_n 1, 1) := by decide +kernel
theorem dX0_bring_17 : decode cX0_bring 17 = .ok (.iastore, 1) := by decide +kernel
theorem dX0_bring_18 : decode cX0_bring 18 = .ok (.aload_n 0, 1) := by decide +kernel
theorem dX0_bring_19 : decode cX0_bring 19 = .ok (.getfield 9, 3) := by decide +kernel
theorem dX0_bring_22 : decode cX0_bring 22 = .ok (.bipush 10, 2) := by decide +kernel
theorem dX0_bring_24 : decode cX0_bring 24 = .ok (.iload_n 1, 1) := by decide +kernel
theorem dX0_bring_25 : decode cX0_bring 25 = .ok (.iadd, 1) := by decide +kernel
theorem dX0_bring_26 : decode cX0_bring 26 = .ok (.iconst 1, 1) := by decide +kernel
theorem dX0_bring_27 : decode cX0_bring 27 = .ok (.iastore, 1) := by decide +kernel
theorem dX0_bring_28 : decode cX0_bring 28 = .ok (.return_, 1) := by decide +kernel
theorem dX0_canPutOff_0 : decode cX0_canPutOff 0 = .ok (.aload_n 0, 1) := by decide +kernel
theorem dX0_canPutOff_1 : decode cX0_canPutOff 1 = .ok (.getfield 9, 3) := by decide +kernel
theorem dX0_canPutOff_4 : decode cX0_canPutOff 4 = .ok (.iconst 5, 1) := by decide +kernel
theorem dX0_canPutOff_5 : decode cX0_canPutOff 5 = .ok (.iaload, 1) := by decide +kernel
theorem dX0_canPutOff_6 : decode cX0_canPutOff 6 = .ok (.iconst (-1), 1) := by decide +kernel
theorem dX0_canPutOff_7 : decode cX0_canPutOff 7 = .ok (.if_icmp .eq 18, 3) := by decide +kernel
theorem dX0_canPutOff_10 : decode cX0_canPutOff 10 = .ok (.aload_n 0, 1) := by decide +kernel
theorem dX0_canPutOff_11 : decode cX0_canPutOff 11 = .ok (.getfield 9, 3) := by decide +kernel
theorem dX0_canPutOff_14 : decode cX0_canPutOff 14 = .ok (.bipush 8, 2) := by decide +kernel
theorem dX0_canPutOff_16 : decode cX0_canPutOff 16 = .ok (.iaload, 1) := by decide +kernel
theorem dX0_canPutOff_17 : decode cX0_canPutOff 17 = .ok (.iconst 3, 1) := by decide +kernel
theorem dX0_canPutOff_18 : decode cX0_canPutOff 18 = .ok (.if_icmp .ge 7, 3) := by decide +kernel
theorem dX0_canPutOff_21 : decode cX0_canPutOff 21 = .ok (.iconst 1, 1) := by decide +kernel
theorem dX0_canPutOff_22 : decode cX0_canPutOff 22 = .ok (.goto 4, 3) := by decide +kernel
theorem dX0_canPutOff_25 : decode cX0_canPutOff 25 = .ok (.iconst 0, 1) := by decide +kernel
theorem dX0_canPutOff_26 : decode cX0_canPutOff 26 = .ok (.ireturn, 1) := by decide +kernel
theorem dX0_putOff_0 : decode cX0_putOff 0 = .ok (.aload_n 0, 1) := by decide +kernel
theorem dX0_putOff_1 : decode cX0_putOff 1 = .ok (.getfield 9, 3) := by decide +kernel
theorem dX0_putOff_4 : decode cX0_putOff 4 = .ok (.bipush 8, 2) := by decide +kernel
theorem dX0_putOff_6 : decode cX0_putOff 6 = .ok (.dup2, 1) := by decide +kernel
theorem dX0_putOff_7 : decode cX0_putOff 7 = .ok (.iaload, 1) := by decide +kernel
theorem dX0_putOff_8 : decode cX0_putOff 8 = .ok (.iconst 1, 1) := by decide +kernel
theorem dX0_putOff_9 : decode cX0_putOff 9 = .ok (.iadd, 1) := by decide +kernel
theorem dX0_putOff_10 : decode cX0_putOff 10 = .ok (.iastore, 1) := by decide +kernel
theorem dX0_putOff_11 : decode cX0_putOff 11 = .ok (.return_, 1) := by decide +kernel
theorem dX0_canReopen_0 : decode cX0_canReopen 0 = .ok (.aload_n 0, 1) := by decide +kernel
theorem dX0_canReopen_1 : decode cX0_canReopen 1 = .ok (.getfield 21, 3) := by decide +kernel
theorem dX0_canReopen_4 : decode cX0_canReopen 4 = .ok (.iload_n 1, 1) := by decide +kernel
theorem dX0_canReopen_5 : decode cX0_canReopen 5 = .ok (.invokevirtual 57, 3) := by decide +kernel
theorem dX0_canReopen_8 : decode cX0_canReopen 8 = .ok (.ifCond .eq 32, 3) := by decide +kernel
theorem dX0_canReopen_11 : decode cX0_canReopen 11 = .ok (.aload_n 0, 1) := by decide +kernel
theorem dX0_canReopen_12 : decode cX0_canReopen 12 = .ok (.getfield 9, 3) := by decide +kernel
theorem dX0_canReopen_15 : decode cX0_canReopen 15 = .ok (.bipush 10, 2) := by decide +kernel
theorem dX0_canReopen_17 : decode cX0_canReopen 17 = .ok (.iload_n 1, 1) := by decide +kernel
theorem dX0_canReopen_18 : decode cX0_canReopen 18 = .ok (.iadd, 1) := by decide +kernel
theorem dX0_canReopen_19 : decode cX0_canReopen 19 = .ok (.iaload, 1) := by decide +kernel
theorem dX0_canReopen_20 : decode cX0_canReopen 20 = .ok (.iconst 3, 1) := by decide +kernel
theorem dX0_canReopen_21 : decode cX0_canReopen 21 = .ok (.if_icmp .ne 19, 3) := by decide +kernel
theorem dX0_canReopen_24 : decode cX0_canReopen 24 = .ok (.aload_n 0, 1) := by decide +kernel
theorem dX0_canReopen_25 : decode cX0_canReopen 25 = .ok (.getfield 9, 3) := by decide +kernel
theorem dX0_canReopen_28 : decode cX0_canReopen 28 = .ok (.bipush 26, 2) := by decide +kernel
theorem dX0_canReopen_30 : decode cX0_canReopen 30 = .ok (.iload_n 1, 1) := by decide +kernel
theorem dX0_canReopen_31 : decode cX0_canReopen 31 = .ok (.iadd, 1) := by decide +kernel
theorem dX0_canReopen_32 : decode cX0_canReopen 32 = .ok (.iaload, 1) := by decide +kernel
theorem dX0_canReopen_33 : decode cX0_canReopen 33 = .ok (.ifCond .ne 7, 3) := by decide +kernel
theorem dX0_canReopen_36 : decode cX0_canReopen 36 = .ok (.iconst 1, 1) := by decide +kernel
theorem dX0_canReopen_37 : decode cX0_canReopen 37 = .ok (.goto 4, 3) := by decide +kernel
theorem dX0_canReopen_40 : decode cX0_canReopen 40 = .ok (.iconst 0, 1) := by decide +kernel
theorem dX0_canReopen_41 : decode cX0_canReopen 41 = .ok (.ireturn, 1) := by decide +kernel
theorem dX0_reopen_0 : decode cX0_reopen 0 = .ok (.aload_n 0, 1) := by decide +kernel
theorem dX0_reopen_1 : decode cX0_reopen 1 = .ok (.getfield 21, 3) := by decide +kernel
theorem dX0_reopen_4 : decode cX0_reopen 4 = .ok (.iload_n 1, 1) := by decide +kernel
theorem dX0_reopen_5 : decode cX0_reopen 5 = .ok (.invokevirtual 57, 3) := by decide +kernel
theorem dX0_reopen_8 : decode cX0_reopen 8 = .ok (.ifCond .eq 33, 3) := by decide +kernel
theorem dX0_reopen_11 : decode cX0_reopen 11 = .ok (.aload_n 0, 1) := by decide +kernel
theorem dX0_reopen_12 : decode cX0_reopen 12 = .ok (.getfield 9, 3) := by decide +kernel
theorem dX0_reopen_15 : decode cX0_reopen 15 = .ok (.bipush 10, 2) := by decide +kernel
theorem dX0_reopen_17 : decode cX0_reopen 17 = .ok (.iload_n 1, 1) := by decide +kernel
theorem dX0_reopen_18 : decode cX0_reopen 18 = .ok (.iadd, 1) := by decide +kernel
theorem dX0_reopen_19 : decode cX0_reopen 19 = .ok (.iconst 0, 1) := by decide +kernel
theorem dX0_reopen_20 : decode cX0_reopen 20 = .ok (.iastore, 1) := by decide +kernel
theorem dX0_reopen_21 : decode cX0_reopen 21 = .ok (.aload_n 0, 1) := by decide +kernel
theorem dX0_reopen_22 : decode cX0_reopen 22 = .ok (.getfield 9, 3) := by decide +kernel
theorem dX0_reopen_25 : decode cX0_reopen 25 = .ok (.bipush 18, 2) := by decide +kernel
theorem dX0_reopen_27 : decode cX0_reopen 27 = .ok (.iload_n 1, 1) := by decide +kernel
theorem dX0_reopen_28 : decode cX0_reopen 28 = .ok (.iadd, 1) := by decide +kernel
theorem dX0_reopen_29 : decode cX0_reopen 29 = .ok (.iconst 0, 1) := by decide +kernel
theorem dX0_reopen_30 : decode cX0_reopen 30 = .ok (.iastore, 1) := by decide +kernel
theorem dX0_reopen_31 : decode cX0_reopen 31 = .ok (.aload_n 0, 1) := by decide +kernel
theorem dX0_reopen_32 : decode cX0_reopen 32 = .ok (.getfield 9, 3) := by decide +kernel
theorem dX0_reopen_35 : decode cX0_reopen 35 = .ok (.bipush 26, 2) := by decide +kernel
theorem dX0_reopen_37 : decode cX0_reopen 37 = .ok (.iload_n 1, 1) := by decide +kernel
theorem dX0_reopen_38 : decode cX0_reopen 38 = .ok (.iadd, 1) := by decide +kernel
theorem dX0_reopen_39 : decode cX0_reopen 39 = .ok (.iconst 1, 1) := by decide +kernel
theorem dX0_reopen_40 : decode cX0_reopen 40 = .ok (.iastore, 1) := by decide +kernel
theorem dX0_reopen_41 : decode cX0_reopen 41 = .ok (.return_, 1) := by decide +kernel
theorem dX0_release_0 : decode cX0_release 0 = .ok (.aload_n 0, 1) := by decide +kernel
theorem dX0_release_1 : decode cX0_release 1 = .ok (.getfield 21, 3) := by decide +kernel
theorem dX0_release_4 : decode cX0_release 4 = .ok (.iload_n 1, 1) := by decide +kernel
theorem dX0_release_5 : decode cX0_release 5 = .ok (.invokevirtual 57, 3) := by decide +kernel
theorem dX0_release_8 : decode cX0_release 8 = .ok (.ifCond .eq 44, 3) := by decide +kernel
theorem dX0_release_11 : decode cX0_release 11 = .ok (.aload_n 0, 1) := by decide +kernel
theorem dX0_release_12 : decode cX0_release 12 = .ok (.getfield 9, 3) := by decide +kernel
theorem dX0_release_15 : decode cX0_release 15 = .ok (.bipush 10, 2) := by decide +kernel
theorem dX0_release_17 : decode cX0_release 17 = .ok (.iload_n 1, 1) := by decide +kernel
theorem dX0_release_18 : decode cX0_release 18 = .ok (.iadd, 1) := by decide +kernel
theorem dX0_release_19 : decode cX0_release 19 = .ok (.iload_n 2, 1) := by decide +kernel
theorem dX0_release_20 : decode cX0_release 20 = .ok (.iastore, 1) := by decide +kernel
theorem dX0_release_21 : decode cX0_release 21 = .ok (.aload_n 0, 1) := by decide +kernel
theorem dX0_release_22 : decode cX0_release 22 = .ok (.getfield 9, 3) := by decide +kernel
theorem dX0_release_25 : decode cX0_release 25 = .ok (.iconst 5, 1) := by decide +kernel
theorem dX0_release_26 : decode cX0_release 26 = .ok (.iconst (-1), 1) := by decide +kernel
theorem dX0_release_27 : decode cX0_release 27 = .ok (.iastore, 1) := by decide +kernel
theorem dX0_release_28 : decode cX0_release 28 = .ok (.aload_n 0, 1) := by decide +kernel
theorem dX0_release_29 : decode cX0_release 29 = .ok (.getfield 9, 3) := by decide +kernel
theorem dX0_release_32 : decode cX0_release 32 = .ok (.bipush 6, 2) := by decide +kernel
theorem dX0_release_34 : decode cX0_release 34 = .ok (.iconst 0, 1) := by decide +kernel
theorem dX0_release_35 : decode cX0_release 35 = .ok (.iastore, 1) := by decide +kernel
theorem dX0_release_36 : decode cX0_release 36 = .ok (.aload_n 0, 1) := by decide +kernel
theorem dX0_release_37 : decode cX0_release 37 = .ok (.getfield 9, 3) := by decide +kernel
theorem dX0_release_40 : decode cX0_release 40 = .ok (.bipush 7, 2) := by decide +kernel
theorem dX0_release_42 : decode cX0_release 42 = .ok (.iconst 0, 1) := by decide +kernel
theorem dX0_release_43 : decode cX0_release 43 = .ok (.iastore, 1) := by decide +kernel
theorem dX0_release_44 : decode cX0_release 44 = .ok (.aload_n 0, 1) := by decide +kernel
theorem dX0_release_45 : decode cX0_release 45 = .ok (.getfield 9, 3) := by decide +kernel
theorem dX0_release_48 : decode cX0_release 48 = .ok (.bipush 8, 2) := by decide +kernel
theorem dX0_release_50 : decode cX0_release 50 = .ok (.iconst 0, 1) := by decide +kernel
theorem dX0_release_51 : decode cX0_release 51 = .ok (.iastore, 1) := by decide +kernel
theorem dX0_release_52 : decode cX0_release 52 = .ok (.return_, 1) := by decide +kernel
theorem dX0_drawX_0 : decode cX0_drawX 0 = .ok (.aload_n 0, 1) := by decide +kernel
theorem dX0_drawX_1 : decode cX0_drawX 1 = .ok (.getfield 9, 3) := by decide +kernel
theorem dX0_drawX_4 : decode cX0_drawX 4 = .ok (.iconst 4, 1) := by decide +kernel
theorem dX0_drawX_5 : decode cX0_drawX 5 = .ok (.iaload, 1) := by decide +kernel
theorem dX0_drawX_6 : decode cX0_drawX 6 = .ok (.istore_n 1, 1) := by decide +kernel
theorem dX0_drawX_7 : decode cX0_drawX 7 = .ok (.aload_n 0, 1) := by decide +kernel
theorem dX0_drawX_8 : decode cX0_drawX 8 = .ok (.getfield 9, 3) := by decide +kernel
theorem dX0_drawX_11 : decode cX0_drawX 11 = .ok (.iconst 4, 1) := by decide +kernel
theorem dX0_drawX_12 : decode cX0_drawX 12 = .ok (.iload_n 1, 1) := by decide +kernel
theorem dX0_drawX_13 : decode cX0_drawX 13 = .ok (.invokestatic 64, 3) := by decide +kernel
theorem dX0_drawX_16 : decode cX0_drawX 16 = .ok (.iastore, 1) := by decide +kernel
theorem dX0_drawX_17 : decode cX0_drawX 17 = .ok (.iload_n 1, 1) := by decide +kernel
theorem dX0_drawX_18 : decode cX0_drawX 18 = .ok (.ireturn, 1) := by decide +kernel
theorem dX0_passHour_0 : decode cX0_passHour 0 = .ok (.aload_n 0, 1) := by decide +kernel
theorem dX0_passHour_1 : decode cX0_passHour 1 = .ok (.getfield 9, 3) := by decide +kernel
theorem dX0_passHour_4 : decode cX0_passHour 4 = .ok (.iconst 5, 1) := by decide +kernel
theorem dX0_passHour_5 : decode cX0_passHour 5 = .ok (.iaload, 1) := by decide +kernel
theorem dX0_passHour_6 : decode cX0_passHour 6 = .ok (.istore_n 3, 1) := by decide +kernel
theorem dX0_passHour_7 : decode cX0_passHour 7 = .ok (.iconst 0, 1) := by decide +kernel
theorem dX0_passHour_8 : decode cX0_passHour 8 = .ok (.istore 4, 2) := by decide +kernel
theorem dX0_passHour_10 : decode cX0_passHour 10 = .ok (.aload_n 0, 1) := by decide +kernel
theorem dX0_passHour_11 : decode cX0_passHour 11 = .ok (.getfield 21, 3) := by decide +kernel
theorem dX0_passHour_14 : decode cX0_passHour 14 = .ok (.iload_n 3, 1) := by decide +kernel
theorem dX0_passHour_15 : decode cX0_passHour 15 = .ok (.invokevirtual 57, 3) := by decide +kernel
theorem dX0_passHour_18 : decode cX0_passHour 18 = .ok (.ifCond .eq 66, 3) := by decide +kernel
theorem dX0_passHour_21 : decode cX0_passHour 21 = .ok (.aload_n 0, 1) := by decide +kernel
theorem dX0_passHour_22 : decode cX0_passHour 22 = .ok (.getfield 9, 3) := by decide +kernel
theorem dX0_passHour_25 : decode cX0_passHour 25 = .ok (.bipush 6, 2) := by decide +kernel
theorem dX0_passHour_27 : decode cX0_passHour 27 = .ok (.dup2, 1) := by decide +kernel
theorem dX0_passHour_28 : decode cX0_passHour 28 = .ok (.iaload, 1) := by decide +kernel
theorem dX0_passHour_29 : decode cX0_passHour 29 = .ok (.iconst 1, 1) := by decide +kernel
theorem dX0_passHour_30 : decode cX0_passHour 30 = .ok (.iadd, 1) := by decide +kernel
theorem dX0_passHour_31 : decode cX0_passHour 31 = .ok (.iastore, 1) := by decide +kernel
theorem dX0_passHour_32 : decode cX0_passHour 32 = .ok (.aload_n 0, 1) := by decide +kernel
theorem dX0_passHour_33 : decode cX0_passHour 33 = .ok (.getfield 9, 3) := by decide +kernel
theorem dX0_passHour_36 : decode cX0_passHour 36 = .ok (.bipush 7, 2) := by decide +kernel
theorem dX0_passHour_38 : decode cX0_passHour 38 = .ok (.dup2, 1) := by decide +kernel
theorem dX0_passHour_39 : decode cX0_passHour 39 = .ok (.iaload, 1) := by decide +kernel
theorem dX0_passHour_40 : decode cX0_passHour 40 = .ok (.iconst 1, 1) := by decide +kernel
theorem dX0_passHour_41 : decode cX0_passHour 41 = .ok (.aload_n 0, 1) := by decide +kernel
theorem dX0_passHour_42 : decode cX0_passHour 42 = .ok (.getfield 9, 3) := by decide +kernel
theorem dX0_passHour_45 : decode cX0_passHour 45 = .ok (.iconst 0, 1) := by decide +kernel
theorem dX0_passHour_46 : decode cX0_passHour 46 = .ok (.iaload, 1) := by decide +kernel
theorem dX0_passHour_47 : decode cX0_passHour 47 = .ok (.ishl, 1) := by decide +kernel
theorem dX0_passHour_48 : decode cX0_passHour 48 = .ok (.ior, 1) := by decide +kernel
theorem dX0_passHour_49 : decode cX0_passHour 49 = .ok (.iastore, 1) := by decide +kernel
theorem dX0_passHour_50 : decode cX0_passHour 50 = .ok (.aload_n 0, 1) := by decide +kernel
theorem dX0_passHour_51 : decode cX0_passHour 51 = .ok (.getfield 9, 3) := by decide +kernel
theorem dX0_passHour_54 : decode cX0_passHour 54 = .ok (.bipush 6, 2) := by decide +kernel
theorem dX0_passHour_56 : decode cX0_passHour 56 = .ok (.iaload, 1) := by decide +kernel
theorem dX0_passHour_57 : decode cX0_passHour 57 = .ok (.aload_n 0, 1) := by decide +kernel
theorem dX0_passHour_58 : decode cX0_passHour 58 = .ok (.getfield 21, 3) := by decide +kernel
theorem dX0_passHour_61 : decode cX0_passHour 61 = .ok (.iload_n 3, 1) := by decide +kernel
theorem dX0_passHour_62 : decode cX0_passHour 62 = .ok (.iconst 2, 1) := by decide +kernel
theorem dX0_passHour_63 : decode cX0_passHour 63 = .ok (.invokevirtual 68, 3) := by decide +kernel
theorem dX0_passHour_66 : decode cX0_passHour 66 = .ok (.aload_n 0, 1) := by decide +kernel
theorem dX0_passHour_67 : decode cX0_passHour 67 = .ok (.getfield 9, 3) := by decide +kernel
theorem dX0_passHour_70 : decode cX0_passHour 70 = .ok (.bipush 8, 2) := by decide +kernel
theorem dX0_passHour_72 : decode cX0_passHour 72 = .ok (.iaload, 1) := by decide +kernel
theorem dX0_passHour_73 : decode cX0_passHour 73 = .ok (.iadd, 1) := by decide +kernel
theorem dX0_passHour_74 : decode cX0_passHour 74 = .ok (.if_icmp .lt 7, 3) := by decide +kernel
theorem dX0_passHour_77 : decode cX0_passHour 77 = .ok (.iconst 1, 1) := by decide +kernel
theorem dX0_passHour_78 : decode cX0_passHour 78 = .ok (.goto 4, 3) := by decide +kernel
theorem dX0_passHour_81 : decode cX0_passHour 81 = .ok (.iconst 0, 1) := by decide +kernel
theorem dX0_passHour_82 : decode cX0_passHour 82 = .ok (.istore 4, 2) := by decide +kernel
theorem dX0_passHour_84 : decode cX0_passHour 84 = .ok (.iload 4, 2) := by decide +kernel
theorem dX0_passHour_86 : decode cX0_passHour 86 = .ok (.ifCond .eq 86, 3) := by decide +kernel
theorem dX0_passHour_89 : decode cX0_passHour 89 = .ok (.aload_n 1, 1) := by decide +kernel
theorem dX0_passHour_90 : decode cX0_passHour 90 = .ok (.aload_n 0, 1) := by decide +kernel
theorem dX0_passHour_91 : decode cX0_passHour 91 = .ok (.getfield 9, 3) := by decide +kernel
theorem dX0_passHour_94 : decode cX0_passHour 94 = .ok (.iconst 3, 1) := by decide +kernel
theorem dX0_passHour_95 : decode cX0_passHour 95 = .ok (.iaload, 1) := by decide +kernel
theorem dX0_passHour_96 : decode cX0_passHour 96 = .ok (.aload_n 0, 1) := by decide +kernel
theorem dX0_passHour_97 : decode cX0_passHour 97 = .ok (.getfield 9, 3) := by decide +kernel
theorem dX0_passHour_100 : decode cX0_passHour 100 = .ok (.iconst 0, 1) := by decide +kernel
theorem dX0_passHour_101 : decode cX0_passHour 101 = .ok (.iaload, 1) := by decide +kernel
theorem dX0_passHour_102 : decode cX0_passHour 102 = .ok (.aload_n 0, 1) := by decide +kernel
theorem dX0_passHour_103 : decode cX0_passHour 103 = .ok (.getfield 9, 3) := by decide +kernel
theorem dX0_passHour_106 : decode cX0_passHour 106 = .ok (.iconst 1, 1) := by decide +kernel
theorem dX0_passHour_107 : decode cX0_passHour 107 = .ok (.iaload, 1) := by decide +kernel
theorem dX0_passHour_108 : decode cX0_passHour 108 = .ok (.invokevirtual 72, 3) := by decide +kernel
theorem dX0_passHour_111 : decode cX0_passHour 111 = .ok (.aload_n 1, 1) := by decide +kernel
theorem dX0_passHour_112 : decode cX0_passHour 112 = .ok (.aload_n 0, 1) := by decide +kernel
theorem dX0_passHour_113 : decode cX0_passHour 113 = .ok (.getfield 21, 3) := by decide +kernel
theorem dX0_passHour_116 : decode cX0_passHour 116 = .ok (.iload_n 3, 1) := by decide +kernel
theorem dX0_passHour_117 : decode cX0_passHour 117 = .ok (.aload_n 0, 1) := by decide +kernel
theorem dX0_passHour_118 : decode cX0_passHour 118 = .ok (.getfield 9, 3) := by decide +kernel
theorem dX0_passHour_121 : decode cX0_passHour 121 = .ok (.bipush 6, 2) := by decide +kernel
theorem dX0_passHour_123 : decode cX0_passHour 123 = .ok (.iaload, 1) := by decide +kernel
theorem dX0_passHour_124 : decode cX0_passHour 124 = .ok (.invokevirtual 78, 3) := by decide +kernel
theorem dX0_passHour_127 : decode cX0_passHour 127 = .ok (.aload_n 0, 1) := by decide +kernel
theorem dX0_passHour_128 : decode cX0_passHour 128 = .ok (.getfield 9, 3) := by decide +kernel
theorem dX0_passHour_131 : decode cX0_passHour 131 = .ok (.iconst 1, 1) := by decide +kernel
theorem dX0_passHour_132 : decode cX0_passHour 132 = .ok (.iaload, 1) := by decide +kernel
theorem dX0_passHour_133 : decode cX0_passHour 133 = .ok (.ifCond .eq 13, 3) := by decide +kernel
theorem dX0_passHour_136 : decode cX0_passHour 136 = .ok (.aload_n 0, 1) := by decide +kernel
theorem dX0_passHour_137 : decode cX0_passHour 137 = .ok (.getfield 9, 3) := by decide +kernel
theorem dX0_passHour_140 : decode cX0_passHour 140 = .ok (.iconst 2, 1) := by decide +kernel
theorem dX0_passHour_141 : decode cX0_passHour 141 = .ok (.iaload, 1) := by decide +kernel
theorem dX0_passHour_142 : decode cX0_passHour 142 = .ok (.iconst 1, 1) := by decide +kernel
theorem dX0_passHour_143 : decode cX0_passHour 143 = .ok (.if_icmp .ne 7, 3) := by decide +kernel
theorem dX0_passHour_146 : decode cX0_passHour 146 = .ok (.iconst 1, 1) := by decide +kernel
theorem dX0_passHour_147 : decode cX0_passHour 147 = .ok (.goto 4, 3) := by decide +kernel
theorem dX0_passHour_150 : decode cX0_passHour 150 = .ok (.iconst 0, 1) := by decide +kernel
theorem dX0_passHour_151 : decode cX0_passHour 151 = .ok (.istore 5, 2) := by decide +kernel
theorem dX0_passHour_153 : decode cX0_passHour 153 = .ok (.aload_n 0, 1) := by decide +kernel
theorem dX0_passHour_154 : decode cX0_passHour 154 = .ok (.iload_n 3, 1) := by decide +kernel
theorem dX0_passHour_155 : decode cX0_passHour 155 = .ok (.aload_n 1, 1) := by decide +kernel
theorem dX0_passHour_156 : decode cX0_passHour 156 = .ok (.aload_n 2, 1) := by decide +kernel
theorem dX0_passHour_157 : decode cX0_passHour 157 = .ok (.iload 5, 2) := by decide +kernel
theorem dX0_passHour_159 : decode cX0_passHour 159 = .ok (.aload_n 0, 1) := by decide +kernel
theorem dX0_passHour_160 : decode cX0_passHour 160 = .ok (.getfield 9, 3) := by decide +kernel
theorem dX0_passHour_163 : decode cX0_passHour 163 = .ok (.bipush 7, 2) := by decide +kernel
theorem dX0_passHour_165 : decode cX0_passHour 165 = .ok (.iaload, 1) := by decide +kernel
theorem dX0_passHour_166 : decode cX0_passHour 166 = .ok (.invokevirtual 82, 3) := by decide +kernel
theorem dX0_passHour_169 : decode cX0_passHour 169 = .ok (.invokevirtual 86, 3) := by decide +kernel
theorem dX0_passHour_172 : decode cX0_passHour 172 = .ok (.aload_n 1, 1) := by decide +kernel
theorem dX0_passHour_173 : decode cX0_passHour 173 = .ok (.aload_n 0, 1) := by decide +kernel
theorem dX0_passHour_174 : decode cX0_passHour 174 = .ok (.getfield 9, 3) := by decide +kernel
theorem dX0_passHour_177 : decode cX0_passHour 177 = .ok (.aload_n 2, 1) := by decide +kernel
theorem dX0_passHour_178 : decode cX0_passHour 178 = .ok (.aload_n 0, 1) := by decide +kernel
theorem dX0_passHour_179 : decode cX0_passHour 179 = .ok (.invokevirtual 90, 3) := by decide +kernel
theorem dX0_passHour_182 : decode cX0_passHour 182 = .ok (.bipush 10, 2) := by decide +kernel
theorem dX0_passHour_184 : decode cX0_passHour 184 = .ok (.irem, 1) := by decide +kernel
theorem dX0_passHour_185 : decode cX0_passHour 185 = .ok (.invokevirtual 94, 3) := by decide +kernel
theorem dX0_passHour_188 : decode cX0_passHour 188 = .ok (.iload 4, 2) := by decide +kernel
theorem dX0_passHour_190 : decode cX0_passHour 190 = .ok (.ireturn, 1) := by decide +kernel
theorem dX0_close_0 : decode cX0_close 0 = .ok (.iload_n 2, 1) := by decide +kernel
theorem dX0_close_1 : decode cX0_close 1 = .ok (.iconst (-1), 1) := by decide +kernel
theorem dX0_close_2 : decode cX0_close 2 = .ok (.if_icmp .eq 7, 3) := by decide +kernel
theorem dX0_close_5 : decode cX0_close 5 = .ok (.iconst 1, 1) := by decide +kernel
theorem dX0_close_6 : decode cX0_close 6 = .ok (.goto 4, 3) := by decide +kernel
theorem dX0_close_9 : decode cX0_close 9 = .ok (.iconst 0, 1) := by decide +kernel
theorem dX0_close_10 : decode cX0_close 10 = .ok (.istore_n 3, 1) := by decide +kernel
theorem dX0_close_11 : decode cX0_close 11 = .ok (.aload_n 0, 1) := by decide +kernel
theorem dX0_close_12 : decode cX0_close 12 = .ok (.iload_n 1, 1) := by decide +kernel
theorem dX0_close_13 : decode cX0_close 13 = .ok (.iload_n 3, 1) := by decide +kernel
theorem dX0_close_14 : decode cX0_close 14 = .ok (.ifCond .eq 7, 3) := by decide +kernel
theorem dX0_close_17 : decode cX0_close 17 = .ok (.iconst 3, 1) := by decide +kernel
theorem dX0_close_18 : decode cX0_close 18 = .ok (.goto 4, 3) := by decide +kernel
theorem dX0_close_21 : decode cX0_close 21 = .ok (.iconst 2, 1) := by decide +kernel
theorem dX0_close_22 : decode cX0_close 22 = .ok (.invokevirtual 98, 3) := by decide +kernel
theorem dX0_close_25 : decode cX0_close 25 = .ok (.aload_n 0, 1) := by decide +kernel
theorem dX0_close_26 : decode cX0_close 26 = .ok (.getfield 9, 3) := by decide +kernel
theorem dX0_close_29 : decode cX0_close 29 = .ok (.bipush 18, 2) := by decide +kernel
theorem dX0_close_31 : decode cX0_close 31 = .ok (.iload_n 1, 1) := by decide +kernel
theorem dX0_close_32 : decode cX0_close 32 = .ok (.iadd, 1) := by decide +kernel
theorem dX0_close_33 : decode cX0_close 33 = .ok (.iload_n 3, 1) := by decide +kernel
theorem dX0_close_34 : decode cX0_close 34 = .ok (.ifCond .eq 7, 3) := by decide +kernel
theorem dX0_close_37 : decode cX0_close 37 = .ok (.iload_n 2, 1) := by decide +kernel
theorem dX0_close_38 : decode cX0_close 38 = .ok (.goto 4, 3) := by decide +kernel
theorem dX0_close_41 : decode cX0_close 41 = .ok (.iconst 0, 1) := by decide +kernel
theorem dX0_close_42 : decode cX0_close 42 = .ok (.iastore, 1) := by decide +kernel
theorem dX0_close_43 : decode cX0_close 43 = .ok (.aload_n 0, 1) := by decide +kernel
theorem dX0_close_44 : decode cX0_close 44 = .ok (.getfield 9, 3) := by decide +kernel
theorem dX0_close_47 : decode cX0_close 47 = .ok (.bipush 9, 2) := by decide +kernel
theorem dX0_close_49 : decode cX0_close 49 = .ok (.iaload, 1) := by decide +kernel
theorem dX0_close_50 : decode cX0_close 50 = .ok (.bipush 30, 2) := by decide +kernel
theorem dX0_close_52 : decode cX0_close 52 = .ok (.if_icmp .lt 29, 3) := by decide +kernel
theorem dX0_close_55 : decode cX0_close 55 = .ok (.aload_n 0, 1) := by decide +kernel
theorem dX0_close_56 : decode cX0_close 56 = .ok (.getfield 9, 3) := by decide +kernel
theorem dX0_close_59 : decode cX0_close 59 = .ok (.bipush 35, 2) := by decide +kernel
theorem dX0_close_61 : decode cX0_close 61 = .ok (.aload_n 0, 1) := by decide +kernel
theorem dX0_close_62 : decode cX0_close 62 = .ok (.getfield 9, 3) := by decide +kernel
theorem dX0_close_65 : decode cX0_close 65 = .ok (.bipush 34, 2) := by decide +kernel
theorem dX0_close_67 : decode cX0_close 67 = .ok (.bipush 29, 2) := by decide +kernel
theorem dX0_close_69 : decode cX0_close 69 = .ok (.invokestatic 38, 3) := by decide +kernel
theorem dX0_close_72 : decode cX0_close 72 = .ok (.aload_n 0, 1) := by decide +kernel
theorem dX0_close_73 : decode cX0_close 73 = .ok (.getfield 9, 3) := by decide +kernel
theorem dX0_close_76 : decode cX0_close 76 = .ok (.bipush 9, 2) := by decide +kernel
theorem dX0_close_78 : decode cX0_close 78 = .ok (.bipush 29, 2) := by decide +kernel
theorem dX0_close_80 : decode cX0_close 80 = .ok (.iastore, 1) := by decide +kernel
theorem dX0_close_81 : decode cX0_close 81 = .ok (.aload_n 0, 1) := by decide +kernel
theorem dX0_close_82 : decode cX0_close 82 = .ok (.getfield 9, 3) := by decide +kernel
theorem dX0_close_85 : decode cX0_close 85 = .ok (.iconst 3, 1) := by decide +kernel
theorem dX0_close_86 : decode cX0_close 86 = .ok (.iaload, 1) := by decide +kernel
theorem dX0_close_87 : decode cX0_close 87 = .ok (.bipush 8, 2) := by decide +kernel
theorem dX0_close_89 : decode cX0_close 89 = .ok (.imul, 1) := by decide +kernel
theorem dX0_close_90 : decode cX0_close 90 = .ok (.iload_n 1, 1) := by decide +kernel
theorem dX0_close_91 : decode cX0_close 91 = .ok (.iadd, 1) := by decide +kernel
theorem dX0_close_92 : decode cX0_close 92 = .ok (.iconst 2, 1) := by decide +kernel
theorem dX0_close_93 : decode cX0_close 93 = .ok (.imul, 1) := by decide +kernel
theorem dX0_close_94 : decode cX0_close 94 = .ok (.iload_n 3, 1) := by decide +kernel
theorem dX0_close_95 : decode cX0_close 95 = .ok (.ifCond .eq 7, 3) := by decide +kernel
theorem dX0_close_98 : decode cX0_close 98 = .ok (.iconst 1, 1) := by decide +kernel
theorem dX0_close_99 : decode cX0_close 99 = .ok (.goto 4, 3) := by decide +kernel
theorem dX0_close_102 : decode cX0_close 102 = .ok (.iconst 0, 1) := by decide +kernel
theorem dX0_close_103 : decode cX0_close 103 = .ok (.iadd, 1) := by decide +kernel
theorem dX0_close_104 : decode cX0_close 104 = .ok (.istore 4, 2) := by decide +kernel
theorem dX0_close_106 : decode cX0_close 106 = .ok (.aload_n 0, 1) := by decide +kernel
theorem dX0_close_107 : decode cX0_close 107 = .ok (.getfield 9, 3) := by decide +kernel
theorem dX0_close_110 : decode cX0_close 110 = .ok (.bipush 34, 2) := by decide +kernel
theorem dX0_close_112 : decode cX0_close 112 = .ok (.aload_n 0, 1) := by decide +kernel
theorem dX0_close_113 : decode cX0_close 113 = .ok (.getfield 9, 3) := by decide +kernel
theorem dX0_close_116 : decode cX0_close 116 = .ok (.bipush 9, 2) := by decide +kernel
theorem dX0_close_118 : decode cX0_close 118 = .ok (.iaload, 1) := by decide +kernel
theorem dX0_close_119 : decode cX0_close 119 = .ok (.iadd, 1) := by decide +kernel
theorem dX0_close_120 : decode cX0_close 120 = .ok (.iload 4, 2) := by decide +kernel
theorem dX0_close_122 : decode cX0_close 122 = .ok (.sipush 1000, 3) := by decide +kernel
theorem dX0_close_125 : decode cX0_close 125 = .ok (.imul, 1) := by decide +kernel
theorem dX0_close_126 : decode cX0_close 126 = .ok (.aload_n 0, 1) := by decide +kernel
theorem dX0_close_127 : decode cX0_close 127 = .ok (.getfield 9, 3) := by decide +kernel
theorem dX0_close_130 : decode cX0_close 130 = .ok (.bipush 18, 2) := by decide +kernel
theorem dX0_close_132 : decode cX0_close 132 = .ok (.iload_n 1, 1) := by decide +kernel
theorem dX0_close_133 : decode cX0_close 133 = .ok (.iadd, 1) := by decide +kernel
theorem dX0_close_134 : decode cX0_close 134 = .ok (.iaload, 1) := by decide +kernel
theorem dX0_close_135 : decode cX0_close 135 = .ok (.iadd, 1) := by decide +kernel
theorem dX0_close_136 : decode cX0_close 136 = .ok (.iastore, 1) := by decide +kernel
theorem dX0_close_137 : decode cX0_close 137 = .ok (.aload_n 0, 1) := by decide +kernel
theorem dX0_close_138 : decode cX0_close 138 = .ok (.getfield 9, 3) := by decide +kernel
theorem dX0_close_141 : decode cX0_close 141 = .ok (.bipush 9, 2) := by decide +kernel
theorem dX0_close_143 : decode cX0_close 143 = .ok (.dup2, 1) := by decide +kernel
theorem dX0_close_144 : decode cX0_close 144 = .ok (.iaload, 1) := by decide +kernel
theorem dX0_close_145 : decode cX0_close 145 = .ok (.iconst 1, 1) := by decide +kernel
theorem dX0_close_146 : decode cX0_close 146 = .ok (.iadd, 1) := by decide +kernel
theorem dX0_close_147 : decode cX0_close 147 = .ok (.iastore, 1) := by decide +kernel
theorem dX0_close_148 : decode cX0_close 148 = .ok (.return_, 1) := by decide +kernel
theorem dX0_passDrawn_0 : decode cX0_passDrawn 0 = .ok (.aload_n 0, 1) := by decide +kernel
theorem dX0_passDrawn_1 : decode cX0_passDrawn 1 = .ok (.invokevirtual 90, 3) := by decide +kernel
theorem dX0_passDrawn_4 : decode cX0_passDrawn 4 = .ok (.istore_n 3, 1) := by decide +kernel
theorem dX0_passDrawn_5 : decode cX0_passDrawn 5 = .ok (.aload_n 0, 1) := by decide +kernel
theorem dX0_passDrawn_6 : decode cX0_passDrawn 6 = .ok (.getfield 21, 3) := by decide +kernel
theorem dX0_passDrawn_9 : decode cX0_passDrawn 9 = .ok (.getfield 101, 3) := by decide +kernel
theorem dX0_passDrawn_12 : decode cX0_passDrawn 12 = .ok (.ifCond .le 15, 3) := by decide +kernel
theorem dX0_passDrawn_15 : decode cX0_passDrawn 15 = .ok (.iload_n 3, 1) := by decide +kernel
theorem dX0_passDrawn_16 : decode cX0_passDrawn 16 = .ok (.aload_n 0, 1) := by decide +kernel
theorem dX0_passDrawn_17 : decode cX0_passDrawn 17 = .ok (.getfield 21, 3) := by decide +kernel
theorem dX0_passDrawn_20 : decode cX0_passDrawn 20 = .ok (.getfield 101, 3) := by decide +kernel
theorem dX0_passDrawn_23 : decode cX0_passDrawn 23 = .ok (.irem, 1) := by decide +kernel
theorem dX0_passDrawn_24 : decode cX0_passDrawn 24 = .ok (.goto 4, 3) := by decide +kernel
theorem dX0_passDrawn_27 : decode cX0_passDrawn 27 = .ok (.iconst (-1), 1) := by decide +kernel
theorem dX0_passDrawn_28 : decode cX0_passDrawn 28 = .ok (.istore 4, 2) := by decide +kernel
theorem dX0_passDrawn_30 : decode cX0_passDrawn 30 = .ok (.iload_n 3, 1) := by decide +kernel
theorem dX0_passDrawn_31 : decode cX0_passDrawn 31 = .ok (.bipush 7, 2) := by decide +kernel
theorem dX0_passDrawn_33 : decode cX0_passDrawn 33 = .ok (.irem, 1) := by decide +kernel
theorem dX0_passDrawn_34 : decode cX0_passDrawn 34 = .ok (.tableswitch 80 0 3 #[30, 30, 48, 62], 30) := by decide +kernel
theorem dX0_passDrawn_64 : decode cX0_passDrawn 64 = .ok (.aload_n 0, 1) := by decide +kernel
theorem dX0_passDrawn_65 : decode cX0_passDrawn 65 = .ok (.iload 4, 2) := by decide +kernel
theorem dX0_passDrawn_67 : decode cX0_passDrawn 67 = .ok (.invokevirtual 104, 3) := by decide +kernel
theorem dX0_passDrawn_70 : decode cX0_passDrawn 70 = .ok (.ifCond .eq 58, 3) := by decide +kernel
theorem dX0_passDrawn_73 : decode cX0_passDrawn 73 = .ok (.aload_n 0, 1) := by decide +kernel
theorem dX0_passDrawn_74 : decode cX0_passDrawn 74 = .ok (.iload 4, 2) := by decide +kernel
theorem dX0_passDrawn_76 : decode cX0_passDrawn 76 = .ok (.invokevirtual 107, 3) := by decide +kernel
theorem dX0_passDrawn_79 : decode cX0_passDrawn 79 = .ok (.goto 49, 3) := by decide +kernel
theorem dX0_passDrawn_82 : decode cX0_passDrawn 82 = .ok (.aload_n 0, 1) := by decide +kernel
theorem dX0_passDrawn_83 : decode cX0_passDrawn 83 = .ok (.invokevirtual 111, 3) := by decide +kernel
theorem dX0_passDrawn_86 : decode cX0_passDrawn 86 = .ok (.ifCond .eq 42, 3) := by decide +kernel
theorem dX0_passDrawn_89 : decode cX0_passDrawn 89 = .ok (.aload_n 0, 1) := by decide +kernel
theorem dX0_passDrawn_90 : decode cX0_passDrawn 90 = .ok (.invokevirtual 115, 3) := by decide +kernel
theorem dX0_passDrawn_93 : decode cX0_passDrawn 93 = .ok (.goto 35, 3) := by decide +kernel
theorem dX0_passDrawn_96 : decode cX0_passDrawn 96 = .ok (.aload_n 0, 1) := by decide +kernel
theorem dX0_passDrawn_97 : decode cX0_passDrawn 97 = .ok (.iload 4, 2) := by decide +kernel
theorem dX0_passDrawn_99 : decode cX0_passDrawn 99 = .ok (.invokevirtual 118, 3) := by decide +kernel
theorem dX0_passDrawn_102 : decode cX0_passDrawn 102 = .ok (.ifCond .eq 26, 3) := by decide +kernel
theorem dX0_passDrawn_105 : decode cX0_passDrawn 105 = .ok (.aload_n 0, 1) := by decide +kernel
theorem dX0_passDrawn_106 : decode cX0_passDrawn 106 = .ok (.iload 4, 2) := by decide +kernel
theorem dX0_passDrawn_108 : decode cX0_passDrawn 108 = .ok (.invokevirtual 121, 3) := by decide +kernel
theorem dX0_passDrawn_111 : decode cX0_passDrawn 111 = .ok (.goto 17, 3) := by decide +kernel
theorem dX0_passDrawn_114 : decode cX0_passDrawn 114 = .ok (.aload_n 0, 1) := by decide +kernel
theorem dX0_passDrawn_115 : decode cX0_passDrawn 115 = .ok (.invokevirtual 124, 3) := by decide +kernel
theorem dX0_passDrawn_118 : decode cX0_passDrawn 118 = .ok (.ifCond .le 10, 3) := by decide +kernel
theorem dX0_passDrawn_121 : decode cX0_passDrawn 121 = .ok (.aload_n 0, 1) := by decide +kernel
theorem dX0_passDrawn_122 : decode cX0_passDrawn 122 = .ok (.aload_n 1, 1) := by decide +kernel
theorem dX0_passDrawn_123 : decode cX0_passDrawn 123 = .ok (.aload_n 2, 1) := by decide +kernel
theorem dX0_passDrawn_124 : decode cX0_passDrawn 124 = .ok (.invokevirtual 127, 3) := by decide +kernel
theorem dX0_passDrawn_127 : decode cX0_passDrawn 127 = .ok (.pop, 1) := by decide +kernel
theorem dX0_passDrawn_128 : decode cX0_passDrawn 128 = .ok (.return_, 1) := by decide +kernel
theorem dX1_init_0 : decode cX1_init 0 = .ok (.aload_n 0, 1) := by decide +kernel
theorem dX1_init_1 : decode cX1_init 1 = .ok (.invokespecial 3, 3) := by decide +kernel
theorem dX1_init_4 : decode cX1_init 4 = .ok (.aload_n 0, 1) := by decide +kernel
theorem dX1_init_5 : decode cX1_init 5 = .ok (.bipush 61, 2) := by decide +kernel
theorem dX1_init_7 : decode cX1_init 7 = .ok (.newarray .int, 2) := by decide +kernel
theorem dX1_init_9 : decode cX1_init 9 = .ok (.putfield 9, 3) := by decide +kernel
theorem dX1_init_12 : decode cX1_init 12 = .ok (.aload_n 0, 1) := by decide +kernel
theorem dX1_init_13 : decode cX1_init 13 = .ok (.bipush 61, 2) := by decide +kernel
theorem dX1_init_15 : decode cX1_init 15 = .ok (.newarray .int, 2) := by decide +kernel
theorem dX1_init_17 : decode cX1_init 17 = .ok (.putfield 15, 3) := by decide +kernel
theorem dX1_init_20 : decode cX1_init 20 = .ok (.aload_n 0, 1) := by decide +kernel
theorem dX1_init_21 : decode cX1_init 21 = .ok (.bipush 61, 2) := by decide +kernel
theorem dX1_init_23 : decode cX1_init 23 = .ok (.newarray .int, 2) := by decide +kernel
theorem dX1_init_25 : decode cX1_init 25 = .ok (.putfield 18, 3) := by decide +kernel
theorem dX1_init_28 : decode cX1_init 28 = .ok (.aload_n 0, 1) := by decide +kernel
theorem dX1_init_29 : decode cX1_init 29 = .ok (.iconst 3, 1) := by decide +kernel
theorem dX1_init_30 : decode cX1_init 30 = .ok (.iconst 5, 1) := by decide +kernel
theorem dX1_init_31 : decode cX1_init 31 = .ok (.multianewarray 21 2, 4) := by decide +kernel
theorem dX1_init_35 : decode cX1_init 35 = .ok (.putfield 23, 3) := by decide +kernel
theorem dX1_init_38 : decode cX1_init 38 = .ok (.aload_n 0, 1) := by decide +kernel
theorem dX1_init_39 : decode cX1_init 39 = .ok (.iconst 4, 1) := by decide +kernel
theorem dX1_init_40 : decode cX1_init 40 = .ok (.newarray .int, 2) := by decide +kernel
theorem dX1_init_42 : decode cX1_init 42 = .ok (.putfield 26, 3) := by decide +kernel
theorem dX1_init_45 : decode cX1_init 45 = .ok (.aload_n 0, 1) := by decide +kernel
theorem dX1_init_46 : decode cX1_init 46 = .ok (.iconst 5, 1) := by decide +kernel
theorem dX1_init_47 : decode cX1_init 47 = .ok (.newarray .int, 2) := by decide +kernel
theorem dX1_init_49 : decode cX1_init 49 = .ok (.putfield 29, 3) := by decide +kernel
theorem dX1_init_52 : decode cX1_init 52 = .ok (.aload_n 0, 1) := by decide +kernel
theorem dX1_init_53 : decode cX1_init 53 = .ok (.iconst 5, 1) := by decide +kernel
theorem dX1_init_54 : decode cX1_init 54 = .ok (.newarray .int, 2) := by decide +kernel
theorem dX1_init_56 : decode cX1_init 56 = .ok (.putfield 32, 3) := by decide +kernel
theorem dX1_init_59 : decode cX1_init 59 = .ok (.aload_n 0, 1) := by decide +kernel
theorem dX1_init_60 : decode cX1_init 60 = .ok (.aload_n 1, 1) := by decide +kernel
theorem dX1_init_61 : decode cX1_init 61 = .ok (.putfield 35, 3) := by decide +kernel
theorem dX1_init_64 : decode cX1_init 64 = .ok (.aload_n 0, 1) := by decide +kernel
theorem dX1_init_65 : decode cX1_init 65 = .ok (.aload_n 2, 1) := by decide +kernel
theorem dX1_init_66 : decode cX1_init 66 = .ok (.putfield 39, 3) := by decide +kernel
theorem dX1_init_69 : decode cX1_init 69 = .ok (.return_, 1) := by decide +kernel
theorem dX1_look_0 : decode cX1_look 0 = .ok (.aload_n 0, 1) := by decide +kernel
theorem dX1_look_1 : decode cX1_look 1 = .ok (.aload_n 1, 1) := by decide +kernel
theorem dX1_look_2 : decode cX1_look 2 = .ok (.putfield 43, 3) := by decide +kernel
theorem dX1_look_5 : decode cX1_look 5 = .ok (.aload_n 0, 1) := by decide +kernel
theorem dX1_look_6 : decode cX1_look 6 = .ok (.iload_n 2, 1) := by decide +kernel
theorem dX1_look_7 : decode cX1_look 7 = .ok (.bipush 60, 2) := by decide +kernel
theorem dX1_look_9 : decode cX1_look 9 = .ok (.invokestatic 47, 3) := by decide +kernel
theorem dX1_look_12 : decode cX1_look 12 = .ok (.aload_n 0, 1) := by decide +kernel
theorem dX1_look_13 : decode cX1_look 13 = .ok (.getfield 35, 3) := by decide +kernel
theorem dX1_look_16 : decode cX1_look 16 = .ok (.invokevirtual 53, 3) := by decide +kernel
theorem dX1_look_19 : decode cX1_look 19 = .ok (.invokestatic 47, 3) := by decide +kernel
theorem dX1_look_22 : decode cX1_look 22 = .ok (.putfield 59, 3) := by decide +kernel
theorem dX1_look_25 : decode cX1_look 25 = .ok (.aload_n 0, 1) := by decide +kernel
theorem dX1_look_26 : decode cX1_look 26 = .ok (.getfield 23, 3) := by decide +kernel
theorem dX1_look_29 : decode cX1_look 29 = .ok (.iconst 0, 1) := by decide +kernel
theorem dX1_look_30 : decode cX1_look 30 = .ok (.aaload, 1) := by decide +kernel
theorem dX1_look_31 : decode cX1_look 31 = .ok (.astore_n 3, 1) := by decide +kernel
theorem dX1_look_32 : decode cX1_look 32 = .ok (.aload_n 0, 1) := by decide +kernel
theorem dX1_look_33 : decode cX1_look 33 = .ok (.getfield 35, 3) := by decide +kernel
theorem dX1_look_36 : decode cX1_look 36 = .ok (.getfield 63, 3) := by decide +kernel
theorem dX1_look_39 : decode cX1_look 39 = .ok (.iconst 0, 1) := by decide +kernel
theorem dX1_look_40 : decode cX1_look 40 = .ok (.aload_n 3, 1) := by decide +kernel
theorem dX1_look_41 : decode cX1_look 41 = .ok (.iconst 0, 1) := by decide +kernel
theorem dX1_look_42 : decode cX1_look 42 = .ok (.iconst 5, 1) := by decide +kernel
theorem dX1_look_43 : decode cX1_look 43 = .ok (.invokestatic 66, 3) := by decide +kernel
theorem dX1_look_46 : decode cX1_look 46 = .ok (.iconst 0, 1) := by decide +kernel
theorem dX1_look_47 : decode cX1_look 47 = .ok (.istore 4, 2) := by decide +kernel
theorem dX1_look_49 : decode cX1_look 49 = .ok (.iload 4, 2) := by decide +kernel
theorem dX1_look_51 : decode cX1_look 51 = .ok (.aload_n 0, 1) := by decide +kernel
theorem dX1_look_52 : decode cX1_look 52 = .ok (.getfield 59, 3) := by decide +kernel
theorem dX1_look_55 : decode cX1_look 55 = .ok (.if_icmp .gt 71, 3) := by decide +kernel
theorem dX1_look_58 : decode cX1_look 58 = .ok (.iload 4, 2) := by decide +kernel
theorem dX1_look_60 : decode cX1_look 60 = .ok (.ifCond .le 30, 3) := by decide +kernel
theorem dX1_look_63 : decode cX1_look 63 = .ok (.aload_n 0, 1) := by decide +kernel
theorem dX1_look_64 : decode cX1_look 64 = .ok (.getfield 39, 3) := by decide +kernel
theorem dX1_look_67 : decode cX1_look 67 = .ok (.aload_n 3, 1) := by decide +kernel
theorem dX1_look_68 : decode cX1_look 68 = .ok (.aload_n 0, 1) := by decide +kernel
theorem dX1_look_69 : decode cX1_look 69 = .ok (.getfield 43, 3) := by decide +kernel
theorem dX1_look_72 : decode cX1_look 72 = .ok (.aload_n 3, 1) := by decide +kernel
theorem dX1_look_73 : decode cX1_look 73 = .ok (.iconst 4, 1) := by decide +kernel
theorem dX1_look_74 : decode cX1_look 74 = .ok (.iaload, 1) := by decide +kernel
theorem dX1_look_75 : decode cX1_look 75 = .ok (.bipush 10, 2) := by decide +kernel
theorem dX1_look_77 : decode cX1_look 77 = .ok (.irem, 1) := by decide +kernel
theorem dX1_look_78 : decode cX1_look 78 = .ok (.invokevirtual 72, 3) := by decide +kernel
theorem dX1_look_81 : decode cX1_look 81 = .ok (.aload_n 3, 1) := by decide +kernel
theorem dX1_look_82 : decode cX1_look 82 = .ok (.iconst 4, 1) := by decide +kernel
theorem dX1_look_83 : decode cX1_look 83 = .ok (.aload_n 3, 1) := by decide +kernel
theorem dX1_look_84 : decode cX1_look 84 = .ok (.iconst 4, 1) := by decide +kernel
theorem dX1_look_85 : decode cX1_look 85 = .ok (.iaload, 1) := by decide +kernel
theorem dX1_look_86 : decode cX1_look 86 = .ok (.invokestatic 78, 3) := by decide +kernel
theorem dX1_look_89 : decode cX1_look 89 = .ok (.iastore, 1) := by decide +kernel
theorem dX1_look_90 : decode cX1_look 90 = .ok (.aload_n 0, 1) := by decide +kernel
theorem dX1_look_91 : decode cX1_look 91 = .ok (.getfield 9, 3) := by decide +kernel
theorem dX1_look_94 : decode cX1_look 94 = .ok (.iload 4, 2) := by decide +kernel
theorem dX1_look_96 : decode cX1_look 96 = .ok (.aload_n 3, 1) := by decide +kernel
theorem dX1_look_97 : decode cX1_look 97 = .ok (.iconst 0, 1) := by decide +kernel
theorem dX1_look_98 : decode cX1_look 98 = .ok (.iaload, 1) := by decide +kernel
theorem dX1_look_99 : decode cX1_look 99 = .ok (.iastore, 1) := by decide +kernel
theorem dX1_look_100 : decode cX1_look 100 = .ok (.aload_n 0, 1) := by decide +kernel
theorem dX1_look_101 : decode cX1_look 101 = .ok (.getfield 15, 3) := by decide +kernel
theorem dX1_look_104 : decode cX1_look 104 = .ok (.iload 4, 2) := by decide +kernel
theorem dX1_look_106 : decode cX1_look 106 = .ok (.aload_n 3, 1) := by decide +kernel
theorem dX1_look_107 : decode cX1_look 107 = .ok (.iconst 1, 1) := by decide +kernel
theorem dX1_look_108 : decode cX1_look 108 = .ok (.iaload, 1) := by decide +kernel
theorem dX1_look_109 : decode cX1_look 109 = .ok (.iastore, 1) := by decide +kernel
theorem dX1_look_110 : decode cX1_look 110 = .ok (.aload_n 0, 1) := by decide +kernel
theorem dX1_look_111 : decode cX1_look 111 = .ok (.getfield 18, 3) := by decide +kernel
theorem dX1_look_114 : decode cX1_look 114 = .ok (.iload 4, 2) := by decide +kernel
theorem dX1_look_116 : decode cX1_look 116 = .ok (.aload_n 3, 1) := by decide +kernel
theorem dX1_look_117 : decode cX1_look 117 = .ok (.iconst 2, 1) := by decide +kernel
theorem dX1_look_118 : decode cX1_look 118 = .ok (.iaload, 1) := by decide +kernel
theorem dX1_look_119 : decode cX1_look 119 = .ok (.iastore, 1) := by decide +kernel
theorem dX1_look_120 : decode cX1_look 120 = .ok (.iinc 4 1, 3) := by decide +kernel
theorem dX1_look_123 : decode cX1_look 123 = .ok (.goto (-74), 3) := by decide +kernel
theorem dX1_look_126 : decode cX1_look 126 = .ok (.return_, 1) := by decide +kernel
theorem dX1_isCalm_0 : decode cX1_isCalm 0 = .ok (.iload_n 1, 1) := by decide +kernel
theorem dX1_isCalm_1 : decode cX1_isCalm 1 = .ok (.ifCond .lt 32, 3) := by decide +kernel
theorem dX1_isCalm_4 : decode cX1_isCalm 4 = .ok (.iload_n 1, 1) := by decide +kernel
theorem dX1_isCalm_5 : decode cX1_isCalm 5 = .ok (.bipush 60, 2) := by decide +kernel
theorem dX1_isCalm_7 : decode cX1_isCalm 7 = .ok (.if_icmp .gt 26, 3) := by decide +kernel
theorem dX1_isCalm_10 : decode cX1_isCalm 10 = .ok (.aload_n 0, 1) := by decide +kernel
theorem dX1_isCalm_11 : decode cX1_isCalm 11 = .ok (.getfield 15, 3) := by decide +kernel
theorem dX1_isCalm_14 : decode cX1_isCalm 14 = .ok (.iload_n 1, 1) := by decide +kernel
theorem dX1_isCalm_15 : decode cX1_isCalm 15 = .ok (.iaload, 1) := by decide +kernel
theorem dX1_isCalm_16 : decode cX1_isCalm 16 = .ok (.ifCond .eq 13, 3) := by decide +kernel
theorem dX1_isCalm_19 : decode cX1_isCalm 19 = .ok (.aload_n 0, 1) := by decide +kernel
theorem dX1_isCalm_20 : decode cX1_isCalm 20 = .ok (.getfield 18, 3) := by decide +kernel
theorem dX1_isCalm_23 : decode cX1_isCalm 23 = .ok (.iload_n 1, 1) := by decide +kernel
theorem dX1_isCalm_24 : decode cX1_isCalm 24 = .ok (.iaload, 1) := by decide +kernel
theorem dX1_isCalm_25 : decode cX1_isCalm 25 = .ok (.iconst 1, 1) := by decide +kernel
theorem dX1_isCalm_26 : decode cX1_isCalm 26 = .ok (.if_icmp .ne 7, 3) := by decide +kernel
theorem dX1_isCalm_29 : decode cX1_isCalm 29 = .ok (.iconst 1, 1) := by decide +kernel
theorem dX1_isCalm_30 : decode cX1_isCalm 30 = .ok (.goto 4, 3) := by decide +kernel
theorem dX1_isCalm_33 : decode cX1_isCalm 33 = .ok (.iconst 0, 1) := by decide +kernel
theorem dX1_isCalm_34 : decode cX1_isCalm 34 = .ok (.ireturn, 1) := by decide +kernel
theorem dX1_longestCalm_0 : decode cX1_longestCalm 0 = .ok (.iconst 0, 1) := by decide +kernel
theorem dX1_longestCalm_1 : decode cX1_longestCalm 1 = .ok (.istore_n 1, 1) := by decide +kernel
theorem dX1_longestCalm_2 : decode cX1_longestCalm 2 = .ok (.iconst 0, 1) := by decide +kernel
theorem dX1_longestCalm_3 : decode cX1_longestCalm 3 = .ok (.istore_n 2, 1) := by decide +kernel
theorem dX1_longestCalm_4 : decode cX1_longestCalm 4 = .ok (.iconst 0, 1) := by decide +kernel
theorem dX1_longestCalm_5 : decode cX1_longestCalm 5 = .ok (.istore_n 3, 1) := by decide +kernel
theorem dX1_longestCalm_6 : decode cX1_longestCalm 6 = .ok (.iload_n 3, 1) := by decide +kernel
theorem dX1_longestCalm_7 : decode cX1_longestCalm 7 = .ok (.aload_n 0, 1) := by decide +kernel
theorem dX1_longestCalm_8 : decode cX1_longestCalm 8 = .ok (.getfield 59, 3) := by decide +kernel
theorem dX1_longestCalm_11 : decode cX1_longestCalm 11 = .ok (.if_icmp .ge 31, 3) := by decide +kernel
theorem dX1_longestCalm_14 : decode cX1_longestCalm 14 = .ok (.aload_n 0, 1) := by decide +kernel
theorem dX1_longestCalm_15 : decode cX1_longestCalm 15 = .ok (.iload_n 3, 1) := by decide +kernel
theorem dX1_longestCalm_16 : decode cX1_longestCalm 16 = .ok (.invokevirtual 82, 3) := by decide +kernel
theorem dX1_longestCalm_19 : decode cX1_longestCalm 19 = .ok (.ifCond .eq 9, 3) := by decide +kernel
theorem dX1_longestCalm_22 : decode cX1_longestCalm 22 = .ok (.iload_n 2, 1) := by decide +kernel
theorem dX1_longestCalm_23 : decode cX1_longestCalm 23 = .ok (.iconst 1, 1) := by decide +kernel
theorem dX1_longestCalm_24 : decode cX1_longestCalm 24 = .ok (.iadd, 1) := by decide +kernel
theorem dX1_longestCalm_25 : decode cX1_longestCalm 25 = .ok (.goto 4, 3) := by decide +kernel
theorem dX1_longestCalm_28 : decode cX1_longestCalm 28 = .ok (.iconst 0, 1) := by decide +kernel
theorem dX1_longestCalm_29 : decode cX1_longestCalm 29 = .ok (.istore_n 2, 1) := by decide +kernel
theorem dX1_longestCalm_30 : decode cX1_longestCalm 30 = .ok (.iload_n 1, 1) := by decide +kernel
theorem dX1_longestCalm_31 : decode cX1_longestCalm 31 = .ok (.iload_n 2, 1) := by decide +kernel
theorem dX1_longestCalm_32 : decode cX1_longestCalm 32 = .ok (.invokestatic 86, 3) := by decide +kernel
theorem dX1_longestCalm_35 : decode cX1_longestCalm 35 = .ok (.istore_n 1, 1) := by decide +kernel
theorem dX1_longestCalm_36 : decode cX1_longestCalm 36 = .ok (.iinc 3 1, 3) := by decide +kernel
theorem dX1_longestCalm_39 : decode cX1_longestCalm 39 = .ok (.goto (-33), 3) := by decide +kernel
theorem dX1_longestCalm_42 : decode cX1_longestCalm 42 = .ok (.iload_n 1, 1) := by decide +kernel
theorem dX1_longestCalm_43 : decode cX1_longestCalm 43 = .ok (.ireturn, 1) := by decide +kernel
theorem dX1_hoursOf_0 : decode cX1_hoursOf 0 = .ok (.iconst 0, 1) := by decide +kernel
theorem dX1_hoursOf_1 : decode cX1_hoursOf 1 = .ok (.istore_n 2, 1) := by decide +kernel
theorem dX1_hoursOf_2 : decode cX1_hoursOf 2 = .ok (.iconst 0, 1) := by decide +kernel
theorem dX1_hoursOf_3 : decode cX1_hoursOf 3 = .ok (.istore_n 3, 1) := by decide +kernel
theorem dX1_hoursOf_4 : decode cX1_hoursOf 4 = .ok (.iload_n 3, 1) := by decide +kernel
theorem dX1_hoursOf_5 : decode cX1_hoursOf 5 = .ok (.aload_n 0, 1) := by decide +kernel
theorem dX1_hoursOf_6 : decode cX1_hoursOf 6 = .ok (.getfield 59, 3) := by decide +kernel
theorem dX1_hoursOf_9 : decode cX1_hoursOf 9 = .ok (.if_icmp .ge 22, 3) := by decide +kernel
theorem dX1_hoursOf_12 : decode cX1_hoursOf 12 = .ok (.aload_n 0, 1) := by decide +kernel
theorem dX1_hoursOf_13 : decode cX1_hoursOf 13 = .ok (.getfield 9, 3) := by decide +kernel
theorem dX1_hoursOf_16 : decode cX1_hoursOf 16 = .ok (.iload_n 3, 1) := by decide +kernel
theorem dX1_hoursOf_17 : decode cX1_hoursOf 17 = .ok (.iaload, 1) := by decide +kernel
theorem dX1_hoursOf_18 : decode cX1_hoursOf 18 = .ok (.iload_n 1, 1) := by decide +kernel
theorem dX1_hoursOf_19 : decode cX1_hoursOf 19 = .ok (.if_icmp .ne 6, 3) := by decide +kernel
theorem dX1_hoursOf_22 : decode cX1_hoursOf 22 = .ok (.iinc 2 1, 3) := by decide +kernel
theorem dX1_hoursOf_25 : decode cX1_hoursOf 25 = .ok (.iinc 3 1, 3) := by decide +kernel
theorem dX1_hoursOf_28 : decode cX1_hoursOf 28 = .ok (.goto (-24), 3) := by decide +kernel
theorem dX1_hoursOf_31 : decode cX1_hoursOf 31 = .ok (.iload_n 2, 1) := by decide +kernel
theorem dX1_hoursOf_32 : decode cX1_hoursOf 32 = .ok (.ireturn, 1) := by decide +kernel
theorem dX1_endOf_0 : decode cX1_endOf 0 = .ok (.iload_n 2, 1) := by decide +kernel
theorem dX1_endOf_1 : decode cX1_endOf 1 = .ok (.ifCond .lt 18, 3) := by decide +kernel
theorem dX1_endOf_4 : decode cX1_endOf 4 = .ok (.iload_n 3, 1) := by decide +kernel
theorem dX1_endOf_5 : decode cX1_endOf 5 = .ok (.iconst 1, 1) := by decide +kernel
theorem dX1_endOf_6 : decode cX1_endOf 6 = .ok (.if_icmp .lt 13, 3) := by decide +kernel
theorem dX1_endOf_9 : decode cX1_endOf 9 = .ok (.iload_n 2, 1) := by decide +kernel
theorem dX1_endOf_10 : decode cX1_endOf 10 = .ok (.iload_n 3, 1) := by decide +kernel
theorem dX1_endOf_11 : decode cX1_endOf 11 = .ok (.iadd, 1) := by decide +kernel
theorem dX1_endOf_12 : decode cX1_endOf 12 = .ok (.aload_n 0, 1) := by decide +kernel
theorem dX1_endOf_13 : decode cX1_endOf 13 = .ok (.getfield 59, 3) := by decide +kernel
theorem dX1_endOf_16 : decode cX1_endOf 16 = .ok (.if_icmp .le 6, 3) := by decide +kernel
theorem dX1_endOf_19 : decode cX1_endOf 19 = .ok (.bipush (-2), 2) := by decide +kernel
theorem dX1_endOf_21 : decode cX1_endOf 21 = .ok (.ireturn, 1) := by decide +kernel
theorem dX1_endOf_22 : decode cX1_endOf 22 = .ok (.iload_n 2, 1) := by decide +kernel
theorem dX1_endOf_23 : decode cX1_endOf 23 = .ok (.iload_n 3, 1) := by decide +kernel
theorem dX1_endOf_24 : decode cX1_endOf 24 = .ok (.iadd, 1) := by decide +kernel
theorem dX1_endOf_25 : decode cX1_endOf 25 = .ok (.iconst 1, 1) := by decide +kernel
theorem dX1_endOf_26 : decode cX1_endOf 26 = .ok (.isub, 1) := by decide +kernel
theorem dX1_endOf_27 : decode cX1_endOf 27 = .ok (.istore 4, 2) := by decide +kernel
theorem dX1_endOf_29 : decode cX1_endOf 29 = .ok (.iconst 0, 1) := by decide +kernel
theorem dX1_endOf_30 : decode cX1_endOf 30 = .ok (.istore 5, 2) := by decide +kernel
theorem dX1_endOf_32 : decode cX1_endOf 32 = .ok (.iload_n 2, 1) := by decide +kernel
theorem dX1_endOf_33 : decode cX1_endOf 33 = .ok (.istore 6, 2) := by decide +kernel
theorem dX1_endOf_35 : decode cX1_endOf 35 = .ok (.iload 6, 2) := by decide +kernel
theorem dX1_endOf_37 : decode cX1_endOf 37 = .ok (.iload 4, 2) := by decide +kernel
theorem dX1_endOf_39 : decode cX1_endOf 39 = .ok (.if_icmp .gt 23, 3) := by decide +kernel
theorem dX1_endOf_42 : decode cX1_endOf 42 = .ok (.iload 5, 2) := by decide +kernel
theorem dX1_endOf_44 : decode cX1_endOf 44 = .ok (.iconst 1, 1) := by decide +kernel
theorem dX1_endOf_45 : decode cX1_endOf 45 = .ok (.aload_n 0, 1) := by decide +kernel
theorem dX1_endOf_46 : decode cX1_endOf 46 = .ok (.getfield 9, 3) := by decide +kernel
theorem dX1_endOf_49 : decode cX1_endOf 49 = .ok (.iload 6, 2) := by decide +kernel
theorem dX1_endOf_51 : decode cX1_endOf 51 = .ok (.iaload, 1) := by decide +kernel
theorem dX1_endOf_52 : decode cX1_endOf 52 = .ok (.ishl, 1) := by decide +kernel
theorem dX1_endOf_53 : decode cX1_endOf 53 = .ok (.ior, 1) := by decide +kernel
theorem dX1_endOf_54 : decode cX1_endOf 54 = .ok (.istore 5, 2) := by decide +kernel
theorem dX1_endOf_56 : decode cX1_endOf 56 = .ok (.iinc 6 1, 3) := by decide +kernel
theorem dX1_endOf_59 : decode cX1_endOf 59 = .ok (.goto (-24), 3) := by decide +kernel
theorem dX1_endOf_62 : decode cX1_endOf 62 = .ok (.aload_n 0, 1) := by decide +kernel
theorem dX1_endOf_63 : decode cX1_endOf 63 = .ok (.getfield 39, 3) := by decide +kernel
theorem dX1_endOf_66 : decode cX1_endOf 66 = .ok (.aload_n 0, 1) := by decide +kernel
theorem dX1_endOf_67 : decode cX1_endOf 67 = .ok (.getfield 35, 3) := by decide +kernel
theorem dX1_endOf_70 : decode cX1_endOf 70 = .ok (.getfield 63, 3) := by decide +kernel
theorem dX1_endOf_73 : decode cX1_endOf 73 = .ok (.iconst 3, 1) := by decide +kernel
theorem dX1_endOf_74 : decode cX1_endOf 74 = .ok (.iaload, 1) := by decide +kernel
theorem dX1_endOf_75 : decode cX1_endOf 75 = .ok (.iload 4, 2) := by decide +kernel
theorem dX1_endOf_77 : decode cX1_endOf 77 = .ok (.iadd, 1) := by decide +kernel
theorem dX1_endOf_78 : decode cX1_endOf 78 = .ok (.aload_n 0, 1) := by decide +kernel
theorem dX1_endOf_79 : decode cX1_endOf 79 = .ok (.getfield 9, 3) := by decide +kernel
theorem dX1_endOf_82 : decode cX1_endOf 82 = .ok (.iload 4, 2) := by decide +kernel
theorem dX1_endOf_84 : decode cX1_endOf 84 = .ok (.iaload, 1) := by decide +kernel
theorem dX1_endOf_85 : decode cX1_endOf 85 = .ok (.aload_n 0, 1) := by decide +kernel
theorem dX1_endOf_86 : decode cX1_endOf 86 = .ok (.getfield 15, 3) := by decide +kernel
theorem dX1_endOf_89 : decode cX1_endOf 89 = .ok (.iload 4, 2) := by decide +kernel
theorem dX1_endOf_91 : decode cX1_endOf 91 = .ok (.iaload, 1) := by decide +kernel
theorem dX1_endOf_92 : decode cX1_endOf 92 = .ok (.invokevirtual 89, 3) := by decide +kernel
theorem dX1_endOf_95 : decode cX1_endOf 95 = .ok (.aload_n 0, 1) := by decide +kernel
theorem dX1_endOf_96 : decode cX1_endOf 96 = .ok (.getfield 39, 3) := by decide +kernel
theorem dX1_endOf_99 : decode cX1_endOf 99 = .ok (.aload_n 0, 1) := by decide +kernel
theorem dX1_endOf_100 : decode cX1_endOf 100 = .ok (.getfield 35, 3) := by decide +kernel
theorem dX1_endOf_103 : decode cX1_endOf 103 = .ok (.getfield 93, 3) := by decide +kernel
theorem dX1_endOf_106 : decode cX1_endOf 106 = .ok (.iload_n 1, 1) := by decide +kernel
theorem dX1_endOf_107 : decode cX1_endOf 107 = .ok (.iload_n 3, 1) := by decide +kernel
theorem dX1_endOf_108 : decode cX1_endOf 108 = .ok (.invokevirtual 97, 3) := by decide +kernel
theorem dX1_endOf_111 : decode cX1_endOf 111 = .ok (.aload_n 0, 1) := by decide +kernel
theorem dX1_endOf_112 : decode cX1_endOf 112 = .ok (.getfield 39, 3) := by decide +kernel
theorem dX1_endOf_115 : decode cX1_endOf 115 = .ok (.aload_n 0, 1) := by decide +kernel
theorem dX1_endOf_116 : decode cX1_endOf 116 = .ok (.getfield 43, 3) := by decide +kernel
theorem dX1_endOf_119 : decode cX1_endOf 119 = .ok (.aload_n 0, 1) := by decide +kernel
theorem dX1_endOf_120 : decode cX1_endOf 120 = .ok (.iload 4, 2) := by decide +kernel
theorem dX1_endOf_122 : decode cX1_endOf 122 = .ok (.invokevirtual 82, 3) := by decide +kernel
theorem dX1_endOf_125 : decode cX1_endOf 125 = .ok (.iload 5, 2) := by decide +kernel
theorem dX1_endOf_127 : decode cX1_endOf 127 = .ok (.invokevirtual 101, 3) := by decide +kernel
theorem dX1_endOf_130 : decode cX1_endOf 130 = .ok (.ireturn, 1) := by decide +kernel
theorem dX1_soonest_0 : decode cX1_soonest 0 = .ok (.aload_n 0, 1) := by decide +kernel
theorem dX1_soonest_1 : decode cX1_soonest 1 = .ok (.getfield 35, 3) := by decide +kernel
theorem dX1_soonest_4 : decode cX1_soonest 4 = .ok (.getfield 93, 3) := by decide +kernel
theorem dX1_soonest_7 : decode cX1_soonest 7 = .ok (.iload_n 1, 1) := by decide +kernel
theorem dX1_soonest_8 : decode cX1_soonest 8 = .ok (.iconst 2, 1) := by decide +kernel
theorem dX1_soonest_9 : decode cX1_soonest 9 = .ok (.invokevirtual 105, 3) := by decide +kernel
theorem dX1_soonest_12 : decode cX1_soonest 12 = .ok (.istore_n 3, 1) := by decide +kernel
theorem dX1_soonest_13 : decode cX1_soonest 13 = .ok (.iconst 0, 1) := by decide +kernel
theorem dX1_soonest_14 : decode cX1_soonest 14 = .ok (.istore 4, 2) := by decide +kernel
theorem dX1_soonest_16 : decode cX1_soonest 16 = .ok (.iload 4, 2) := by decide +kernel
theorem dX1_soonest_18 : decode cX1_soonest 18 = .ok (.bipush 23, 2) := by decide +kernel
theorem dX1_soonest_20 : decode cX1_soonest 20 = .ok (.if_icmp .gt 86, 3) := by decide +kernel
theorem dX1_soonest_23 : decode cX1_soonest 23 = .ok (.iconst 0, 1) := by decide +kernel
theorem dX1_soonest_24 : decode cX1_soonest 24 = .ok (.iload 4, 2) := by decide +kernel
theorem dX1_soonest_26 : decode cX1_soonest 26 = .ok (.iconst 3, 1) := by decide +kernel
theorem dX1_soonest_27 : decode cX1_soonest 27 = .ok (.isub, 1) := by decide +kernel
theorem dX1_soonest_28 : decode cX1_soonest 28 = .ok (.invokestatic 86, 3) := by decide +kernel
theorem dX1_soonest_31 : decode cX1_soonest 31 = .ok (.istore 5, 2) := by decide +kernel
theorem dX1_soonest_33 : decode cX1_soonest 33 = .ok (.iload 5, 2) := by decide +kernel
theorem dX1_soonest_35 : decode cX1_soonest 35 = .ok (.iload 4, 2) := by decide +kernel
theorem dX1_soonest_37 : decode cX1_soonest 37 = .ok (.bipush 20, 2) := by decide +kernel
theorem dX1_soonest_39 : decode cX1_soonest 39 = .ok (.invokestatic 47, 3) := by decide +kernel
theorem dX1_soonest_42 : decode cX1_soonest 42 = .ok (.if_icmp .gt 58, 3) := by decide +kernel
theorem dX1_soonest_45 : decode cX1_soonest 45 = .ok (.aload_n 0, 1) := by decide +kernel
theorem dX1_soonest_46 : decode cX1_soonest 46 = .ok (.iload_n 1, 1) := by decide +kernel
theorem dX1_soonest_47 : decode cX1_soonest 47 = .ok (.iload 5, 2) := by decide +kernel
theorem dX1_soonest_49 : decode cX1_soonest 49 = .ok (.iload_n 3, 1) := by decide +kernel
theorem dX1_soonest_50 : decode cX1_soonest 50 = .ok (.iload 4, 2) := by decide +kernel
theorem dX1_soonest_52 : decode cX1_soonest 52 = .ok (.iadd, 1) := by decide +kernel
theorem dX1_soonest_53 : decode cX1_soonest 53 = .ok (.iload 5, 2) := by decide +kernel
theorem dX1_soonest_55 : decode cX1_soonest 55 = .ok (.isub, 1) := by decide +kernel
theorem dX1_soonest_56 : decode cX1_soonest 56 = .ok (.invokevirtual 110, 3) := by decide +kernel
theorem dX1_soonest_59 : decode cX1_soonest 59 = .ok (.istore 6, 2) := by decide +kernel
theorem dX1_soonest_61 : decode cX1_soonest 61 = .ok (.iload 6, 2) := by decide +kernel
theorem dX1_soonest_63 : decode cX1_soonest 63 = .ok (.bipush (-2), 2) := by decide +kernel
theorem dX1_soonest_65 : decode cX1_soonest 65 = .ok (.if_icmp .eq 29, 3) := by decide +kernel
theorem dX1_soonest_68 : decode cX1_soonest 68 = .ok (.iload 6, 2) := by decide +kernel
theorem dX1_soonest_70 : decode cX1_soonest 70 = .ok (.iconst (-1), 1) := by decide +kernel
theorem dX1_soonest_71 : decode cX1_soonest 71 = .ok (.if_icmp .eq 7, 3) := by decide +kernel
theorem dX1_soonest_74 : decode cX1_soonest 74 = .ok (.iconst 1, 1) := by decide +kernel
theorem dX1_soonest_75 : decode cX1_soonest 75 = .ok (.goto 4, 3) := by decide +kernel
theorem dX1_soonest_78 : decode cX1_soonest 78 = .ok (.iconst 0, 1) := by decide +kernel
theorem dX1_soonest_79 : decode cX1_soonest 79 = .ok (.iload_n 2, 1) := by decide +kernel
theorem dX1_soonest_80 : decode cX1_soonest 80 = .ok (.if_icmp .ne 14, 3) := by decide +kernel
theorem dX1_soonest_83 : decode cX1_soonest 83 = .ok (.iconst 4, 1) := by decide +kernel
theorem dX1_soonest_84 : decode cX1_soonest 84 = .ok (.iload 5, 2) := by decide +kernel
theorem dX1_soonest_86 : decode cX1_soonest 86 = .ok (.imul, 1) := by decide +kernel
theorem dX1_soonest_87 : decode cX1_soonest 87 = .ok (.iload 4, 2) := by decide +kernel
theorem dX1_soonest_89 : decode cX1_soonest 89 = .ok (.iadd, 1) := by decide +kernel
theorem dX1_soonest_90 : decode cX1_soonest 90 = .ok (.iload 5, 2) := by decide +kernel
theorem dX1_soonest_92 : decode cX1_soonest 92 = .ok (.isub, 1) := by decide +kernel
theorem dX1_soonest_93 : decode cX1_soonest 93 = .ok (.ireturn, 1) := by decide +kernel
theorem dX1_soonest_94 : decode cX1_soonest 94 = .ok (.iinc 5 1, 3) := by decide +kernel
theorem dX1_soonest_97 : decode cX1_soonest 97 = .ok (.goto (-64), 3) := by decide +kernel
theorem dX1_soonest_100 : decode cX1_soonest 100 = .ok (.iinc 4 1, 3) := by decide +kernel
theorem dX1_soonest_103 : decode cX1_soonest 103 = .ok (.goto (-87), 3) := by decide +kernel
theorem dX1_soonest_106 : decode cX1_soonest 106 = .ok (.iconst (-1), 1) := by decide +kernel
theorem dX1_soonest_107 : decode cX1_soonest 107 = .ok (.ireturn, 1) := by decide +kernel
theorem dX1_gravest_0 : decode cX1_gravest 0 = .ok (.aload_n 0, 1) := by decide +kernel
theorem dX1_gravest_1 : decode cX1_gravest 1 = .ok (.getfield 35, 3) := by decide +kernel
theorem dX1_gravest_4 : decode cX1_gravest 4 = .ok (.getfield 93, 3) := by decide +kernel
theorem dX1_gravest_7 : decode cX1_gravest 7 = .ok (.iload_n 1, 1) := by decide +kernel
theorem dX1_gravest_8 : decode cX1_gravest 8 = .ok (.iconst 2, 1) := by decide +kernel
theorem dX1_gravest_9 : decode cX1_gravest 9 = .ok (.invokevirtual 105, 3) := by decide +kernel
theorem dX1_gravest_12 : decode cX1_gravest 12 = .ok (.istore_n 2, 1) := by decide +kernel
theorem dX1_gravest_13 : decode cX1_gravest 13 = .ok (.iconst 0, 1) := by decide +kernel
theorem dX1_gravest_14 : decode cX1_gravest 14 = .ok (.istore_n 3, 1) := by decide +kernel
theorem dX1_gravest_15 : decode cX1_gravest 15 = .ok (.iconst 0, 1) := by decide +kernel
theorem dX1_gravest_16 : decode cX1_gravest 16 = .ok (.istore 4, 2) := by decide +kernel
theorem dX1_gravest_18 : decode cX1_gravest 18 = .ok (.iload 4, 2) := by decide +kernel
theorem dX1_gravest_20 : decode cX1_gravest 20 = .ok (.bipush 20, 2) := by decide +kernel
theorem dX1_gravest_22 : decode cX1_gravest 22 = .ok (.if_icmp .gt 40, 3) := by decide +kernel
theorem dX1_gravest_25 : decode cX1_gravest 25 = .ok (.iconst 0, 1) := by decide +kernel
theorem dX1_gravest_26 : decode cX1_gravest 26 = .ok (.istore 5, 2) := by decide +kernel
theorem dX1_gravest_28 : decode cX1_gravest 28 = .ok (.iload 5, 2) := by decide +kernel
theorem dX1_gravest_30 : decode cX1_gravest 30 = .ok (.iconst 3, 1) := by decide +kernel
theorem dX1_gravest_31 : decode cX1_gravest 31 = .ok (.if_icmp .gt 25, 3) := by decide +kernel
theorem dX1_gravest_34 : decode cX1_gravest 34 = .ok (.iload_n 3, 1) := by decide +kernel
theorem dX1_gravest_35 : decode cX1_gravest 35 = .ok (.aload_n 0, 1) := by decide +kernel
theorem dX1_gravest_36 : decode cX1_gravest 36 = .ok (.iload_n 1, 1) := by decide +kernel
theorem dX1_gravest_37 : decode cX1_gravest 37 = .ok (.iload 4, 2) := by decide +kernel
theorem dX1_gravest_39 : decode cX1_gravest 39 = .ok (.iload_n 2, 1) := by decide +kernel
theorem dX1_gravest_40 : decode cX1_gravest 40 = .ok (.iload 5, 2) := by decide +kernel
theorem dX1_gravest_42 : decode cX1_gravest 42 = .ok (.iadd, 1) := by decide +kernel
theorem dX1_gravest_43 : decode cX1_gravest 43 = .ok (.invokevirtual 110, 3) := by decide +kernel
theorem dX1_gravest_46 : decode cX1_gravest 46 = .ok (.invokestatic 86, 3) := by decide +kernel
theorem dX1_gravest_49 : decode cX1_gravest 49 = .ok (.istore_n 3, 1) := by decide +kernel
theorem dX1_gravest_50 : decode cX1_gravest 50 = .ok (.iinc 5 1, 3) := by decide +kernel
theorem dX1_gravest_53 : decode cX1_gravest 53 = .ok (.goto (-25), 3) := by decide +kernel
theorem dX1_gravest_56 : decode cX1_gravest 56 = .ok (.iinc 4 1, 3) := by decide +kernel
theorem dX1_gravest_59 : decode cX1_gravest 59 = .ok (.goto (-41), 3) := by decide +kernel
theorem dX1_gravest_62 : decode cX1_gravest 62 = .ok (.iload_n 3, 1) := by decide +kernel
theorem dX1_gravest_63 : decode cX1_gravest 63 = .ok (.ireturn, 1) := by decide +kernel
theorem dX1_guiltyWays_0 : decode cX1_guiltyWays 0 = .ok (.aload_n 0, 1) := by decide +kernel
theorem dX1_guiltyWays_1 : decode cX1_guiltyWays 1 = .ok (.aload_n 1, 1) := by decide +kernel
theorem dX1_guiltyWays_2 : decode cX1_guiltyWays 2 = .ok (.putfield 43, 3) := by decide +kernel
theorem dX1_guiltyWays_5 : decode cX1_guiltyWays 5 = .ok (.aload_n 0, 1) := by decide +kernel
theorem dX1_guiltyWays_6 : decode cX1_guiltyWays 6 = .ok (.getfield 35, 3) := by decide +kernel
theorem dX1_guiltyWays_9 : decode cX1_guiltyWays 9 = .ok (.getfield 63, 3) := by decide +kernel
theorem dX1_guiltyWays_12 : decode cX1_guiltyWays 12 = .ok (.iconst 0, 1) := by decide +kernel
theorem dX1_guiltyWays_13 : decode cX1_guiltyWays 13 = .ok (.aload_n 0, 1) := by decide +kernel
theorem dX1_guiltyWays_14 : decode cX1_guiltyWays 14 = .ok (.getfield 23, 3) := by decide +kernel
theorem dX1_guiltyWays_17 : decode cX1_guiltyWays 17 = .ok (.iconst 0, 1) := by decide +kernel
theorem dX1_guiltyWays_18 : decode cX1_guiltyWays 18 = .ok (.aaload, 1) := by decide +kernel
theorem dX1_guiltyWays_19 : decode cX1_guiltyWays 19 = .ok (.iconst 0, 1) := by decide +kernel
theorem dX1_guiltyWays_20 : decode cX1_guiltyWays 20 = .ok (.iconst 5, 1) := by decide +kernel
theorem dX1_guiltyWays_21 : decode cX1_guiltyWays 21 = .ok (.invokestatic 66, 3) := by decide +kernel
theorem dX1_guiltyWays_24 : decode cX1_guiltyWays 24 = .ok (.aload_n 0, 1) := by decide +kernel
theorem dX1_guiltyWays_25 : decode cX1_guiltyWays 25 = .ok (.iconst 0, 1) := by decide +kernel
theorem dX1_guiltyWays_26 : decode cX1_guiltyWays 26 = .ok (.iload_n 3, 1) := by decide +kernel
theorem dX1_guiltyWays_27 : decode cX1_guiltyWays 27 = .ok (.iload_n 2, 1) := by decide +kernel
theorem dX1_guiltyWays_28 : decode cX1_guiltyWays 28 = .ok (.aload_n 0, 1) := by decide +kernel
theorem dX1_guiltyWays_29 : decode cX1_guiltyWays 29 = .ok (.getfield 35, 3) := by decide +kernel
theorem dX1_guiltyWays_32 : decode cX1_guiltyWays 32 = .ok (.getfield 63, 3) := by decide +kernel
theorem dX1_guiltyWays_35 : decode cX1_guiltyWays 35 = .ok (.bipush 6, 2) := by decide +kernel
theorem dX1_guiltyWays_37 : decode cX1_guiltyWays 37 = .ok (.iaload, 1) := by decide +kernel
theorem dX1_guiltyWays_38 : decode cX1_guiltyWays 38 = .ok (.aload_n 0, 1) := by decide +kernel
theorem dX1_guiltyWays_39 : decode cX1_guiltyWays 39 = .ok (.getfield 35, 3) := by decide +kernel
theorem dX1_guiltyWays_42 : decode cX1_guiltyWays 42 = .ok (.getfield 63, 3) := by decide +kernel
theorem dX1_guiltyWays_45 : decode cX1_guiltyWays 45 = .ok (.bipush 7, 2) := by decide +kernel
theorem dX1_guiltyWays_47 : decode cX1_guiltyWays 47 = .ok (.iaload, 1) := by decide +kernel
theorem dX1_guiltyWays_48 : decode cX1_guiltyWays 48 = .ok (.invokevirtual 114, 3) := by decide +kernel
theorem dX1_guiltyWays_51 : decode cX1_guiltyWays 51 = .ok (.ireturn, 1) := by decide +kernel
theorem dX1_waysFrom_0 : decode cX1_waysFrom 0 = .ok (.iload_n 1, 1) := by decide +kernel
theorem dX1_waysFrom_1 : decode cX1_waysFrom 1 = .ok (.ifCond .lt 12, 3) := by decide +kernel
theorem dX1_waysFrom_4 : decode cX1_waysFrom 4 = .ok (.iload_n 1, 1) := by decide +kernel
theorem dX1_waysFrom_5 : decode cX1_waysFrom 5 = .ok (.aload_n 0, 1) := by decide +kernel
theorem dX1_waysFrom_6 : decode cX1_waysFrom 6 = .ok (.getfield 23, 3) := by decide +kernel
theorem dX1_waysFrom_9 : decode cX1_waysFrom 9 = .ok (.arraylength, 1) := by decide +kernel
theorem dX1_waysFrom_10 : decode cX1_waysFrom 10 = .ok (.if_icmp .lt 5, 3) := by decide +kernel
theorem dX1_waysFrom_13 : decode cX1_waysFrom 13 = .ok (.iconst 0, 1) := by decide +kernel
theorem dX1_waysFrom_14 : decode cX1_waysFrom 14 = .ok (.ireturn, 1) := by decide +kernel
theorem dX1_waysFrom_15 : decode cX1_waysFrom 15 = .ok (.aload_n 0, 1) := by decide +kernel
theorem dX1_waysFrom_16 : decode cX1_waysFrom 16 = .ok (.getfield 23, 3) := by decide +kernel
theorem dX1_waysFrom_19 : decode cX1_waysFrom 19 = .ok (.iload_n 1, 1) := by decide +kernel
theorem dX1_waysFrom_20 : decode cX1_waysFrom 20 = .ok (.aaload, 1) := by decide +kernel
theorem dX1_waysFrom_21 : decode cX1_waysFrom 21 = .ok (.astore 6, 2) := by decide +kernel
theorem dX1_waysFrom_23 : decode cX1_waysFrom 23 = .ok (.iload 4, 2) := by decide +kernel
theorem dX1_waysFrom_25 : decode cX1_waysFrom 25 = .ok (.iconst 1, 1) := by decide +kernel
theorem dX1_waysFrom_26 : decode cX1_waysFrom 26 = .ok (.iadd, 1) := by decide +kernel
theorem dX1_waysFrom_27 : decode cX1_waysFrom 27 = .ok (.istore 7, 2) := by decide +kernel
theorem dX1_waysFrom_29 : decode cX1_waysFrom 29 = .ok (.iload 5, 2) := by decide +kernel
theorem dX1_waysFrom_31 : decode cX1_waysFrom 31 = .ok (.iconst 1, 1) := by decide +kernel
theorem dX1_waysFrom_32 : decode cX1_waysFrom 32 = .ok (.aload 6, 2) := by decide +kernel
theorem dX1_waysFrom_34 : decode cX1_waysFrom 34 = .ok (.iconst 0, 1) := by decide +kernel
theorem dX1_waysFrom_35 : decode cX1_waysFrom 35 = .ok (.iaload, 1) := by decide +kernel
theorem dX1_waysFrom_36 : decode cX1_waysFrom 36 = .ok (.ishl, 1) := by decide +kernel
theorem dX1_waysFrom_37 : decode cX1_waysFrom 37 = .ok (.ior, 1) := by decide +kernel
theorem dX1_waysFrom_38 : decode cX1_waysFrom 38 = .ok (.istore 8, 2) := by decide +kernel
theorem dX1_waysFrom_40 : decode cX1_waysFrom 40 = .ok (.iload_n 2, 1) := by decide +kernel
theorem dX1_waysFrom_41 : decode cX1_waysFrom 41 = .ok (.iconst 1, 1) := by decide +kernel
theorem dX1_waysFrom_42 : decode cX1_waysFrom 42 = .ok (.if_icmp .gt 82, 3) := by decide +kernel
theorem dX1_waysFrom_45 : decode cX1_waysFrom 45 = .ok (.aload_n 0, 1) := by decide +kernel
theorem dX1_waysFrom_46 : decode cX1_waysFrom 46 = .ok (.getfield 39, 3) := by decide +kernel
theorem dX1_waysFrom_49 : decode cX1_waysFrom 49 = .ok (.aload 6, 2) := by decide +kernel
theorem dX1_waysFrom_51 : decode cX1_waysFrom 51 = .ok (.iconst 3, 1) := by decide +kernel
theorem dX1_waysFrom_52 : decode cX1_waysFrom 52 = .ok (.iaload, 1) := by decide +kernel
theorem dX1_waysFrom_53 : decode cX1_waysFrom 53 = .ok (.aload 6, 2) := by decide +kernel
theorem dX1_waysFrom_55 : decode cX1_waysFrom 55 = .ok (.iconst 0, 1) := by decide +kernel
theorem dX1_waysFrom_56 : decode cX1_waysFrom 56 = .ok (.iaload, 1) := by decide +kernel
theorem dX1_waysFrom_57 : decode cX1_waysFrom 57 = .ok (.aload 6, 2) := by decide +kernel
theorem dX1_waysFrom_59 : decode cX1_waysFrom 59 = .ok (.iconst 1, 1) := by decide +kernel
theorem dX1_waysFrom_60 : decode cX1_waysFrom 60 = .ok (.iaload, 1) := by decide +kernel
theorem dX1_waysFrom_61 : decode cX1_waysFrom 61 = .ok (.invokevirtual 89, 3) := by decide +kernel
theorem dX1_waysFrom_64 : decode cX1_waysFrom 64 = .ok (.aload_n 0, 1) := by decide +kernel
theorem dX1_waysFrom_65 : decode cX1_waysFrom 65 = .ok (.getfield 39, 3) := by decide +kernel
theorem dX1_waysFrom_68 : decode cX1_waysFrom 68 = .ok (.aload_n 0, 1) := by decide +kernel
theorem dX1_waysFrom_69 : decode cX1_waysFrom 69 = .ok (.getfield 35, 3) := by decide +kernel
theorem dX1_waysFrom_72 : decode cX1_waysFrom 72 = .ok (.getfield 93, 3) := by decide +kernel
theorem dX1_waysFrom_75 : decode cX1_waysFrom 75 = .ok (.iload_n 3, 1) := by decide +kernel
theorem dX1_waysFrom_76 : decode cX1_waysFrom 76 = .ok (.iload 7, 2) := by decide +kernel
theorem dX1_waysFrom_78 : decode cX1_waysFrom 78 = .ok (.invokevirtual 97, 3) := by decide +kernel
theorem dX1_waysFrom_81 : decode cX1_waysFrom 81 = .ok (.aload_n 0, 1) := by decide +kernel
theorem dX1_waysFrom_82 : decode cX1_waysFrom 82 = .ok (.getfield 39, 3) := by decide +kernel
theorem dX1_waysFrom_85 : decode cX1_waysFrom 85 = .ok (.aload_n 0, 1) := by decide +kernel
theorem dX1_waysFrom_86 : decode cX1_waysFrom 86 = .ok (.getfield 43, 3) := by decide +kernel
theorem dX1_waysFrom_89 : decode cX1_waysFrom 89 = .ok (.aload 6, 2) := by decide +kernel
theorem dX1_waysFrom_91 : decode cX1_waysFrom 91 = .ok (.iconst 1, 1) := by decide +kernel
theorem dX1_waysFrom_92 : decode cX1_waysFrom 92 = .ok (.iaload, 1) := by decide +kernel
theorem dX1_waysFrom_93 : decode cX1_waysFrom 93 = .ok (.ifCond .eq 11, 3) := by decide +kernel
theorem dX1_waysFrom_96 : decode cX1_waysFrom 96 = .ok (.aload 6, 2) := by decide +kernel
theorem dX1_waysFrom_98 : decode cX1_waysFrom 98 = .ok (.iconst 2, 1) := by decide +kernel
theorem dX1_waysFrom_99 : decode cX1_waysFrom 99 = .ok (.iaload, 1) := by decide +kernel
theorem dX1_waysFrom_100 : decode cX1_waysFrom 100 = .ok (.iconst 1, 1) := by decide +kernel
theorem dX1_waysFrom_101 : decode cX1_waysFrom 101 = .ok (.if_icmp .ne 7, 3) := by decide +kernel
theorem dX1_waysFrom_104 : decode cX1_waysFrom 104 = .ok (.iconst 1, 1) := by decide +kernel
theorem dX1_waysFrom_105 : decode cX1_waysFrom 105 = .ok (.goto 4, 3) := by decide +kernel
theorem dX1_waysFrom_108 : decode cX1_waysFrom 108 = .ok (.iconst 0, 1) := by decide +kernel
theorem dX1_waysFrom_109 : decode cX1_waysFrom 109 = .ok (.iload 8, 2) := by decide +kernel
theorem dX1_waysFrom_111 : decode cX1_waysFrom 111 = .ok (.invokevirtual 101, 3) := by decide +kernel
theorem dX1_waysFrom_114 : decode cX1_waysFrom 114 = .ok (.iconst (-1), 1) := by decide +kernel
theorem dX1_waysFrom_115 : decode cX1_waysFrom 115 = .ok (.if_icmp .ne 7, 3) := by decide +kernel
theorem dX1_waysFrom_118 : decode cX1_waysFrom 118 = .ok (.iconst 0, 1) := by decide +kernel
theorem dX1_waysFrom_119 : decode cX1_waysFrom 119 = .ok (.goto 4, 3) := by decide +kernel
theorem dX1_waysFrom_122 : decode cX1_waysFrom 122 = .ok (.iconst 1, 1) := by decide +kernel
theorem dX1_waysFrom_123 : decode cX1_waysFrom 123 = .ok (.ireturn, 1) := by decide +kernel
theorem dX1_waysFrom_124 : decode cX1_waysFrom 124 = .ok (.iconst 0, 1) := by decide +kernel
theorem dX1_waysFrom_125 : decode cX1_waysFrom 125 = .ok (.istore 9, 2) := by decide +kernel
theorem dX1_waysFrom_127 : decode cX1_waysFrom 127 = .ok (.iconst 0, 1) := by decide +kernel
theorem dX1_waysFrom_128 : decode cX1_waysFrom 128 = .ok (.istore 10, 2) := by decide +kernel
theorem dX1_waysFrom_130 : decode cX1_waysFrom 130 = .ok (.iload 10, 2) := by decide +kernel
theorem dX1_waysFrom_132 : decode cX1_waysFrom 132 = .ok (.bipush 10, 2) := by decide +kernel
theorem dX1_waysFrom_134 : decode cX1_waysFrom 134 = .ok (.if_icmp .ge 77, 3) := by decide +kernel
theorem dX1_waysFrom_137 : decode cX1_waysFrom 137 = .ok (.iload_n 1, 1) := by decide +kernel
theorem dX1_waysFrom_138 : decode cX1_waysFrom 138 = .ok (.iconst 1, 1) := by decide +kernel
theorem dX1_waysFrom_139 : decode cX1_waysFrom 139 = .ok (.iadd, 1) := by decide +kernel
theorem dX1_waysFrom_140 : decode cX1_waysFrom 140 = .ok (.aload_n 0, 1) := by decide +kernel
theorem dX1_waysFrom_141 : decode cX1_waysFrom 141 = .ok (.getfield 23, 3) := by decide +kernel
theorem dX1_waysFrom_144 : decode cX1_waysFrom 144 = .ok (.arraylength, 1) := by decide +kernel
theorem dX1_waysFrom_145 : decode cX1_waysFrom 145 = .ok (.if_icmp .ge 66, 3) := by decide +kernel
theorem dX1_waysFrom_148 : decode cX1_waysFrom 148 = .ok (.aload 6, 2) := by decide +kernel
theorem dX1_waysFrom_150 : decode cX1_waysFrom 150 = .ok (.iconst 0, 1) := by decide +kernel
theorem dX1_waysFrom_151 : decode cX1_waysFrom 151 = .ok (.aload_n 0, 1) := by decide +kernel
theorem dX1_waysFrom_152 : decode cX1_waysFrom 152 = .ok (.getfield 23, 3) := by decide +kernel
theorem dX1_waysFrom_155 : decode cX1_waysFrom 155 = .ok (.iload_n 1, 1) := by decide +kernel
theorem dX1_waysFrom_156 : decode cX1_waysFrom 156 = .ok (.iconst 1, 1) := by decide +kernel
theorem dX1_waysFrom_157 : decode cX1_waysFrom 157 = .ok (.iadd, 1) := by decide +kernel
theorem dX1_waysFrom_158 : decode cX1_waysFrom 158 = .ok (.aaload, 1) := by decide +kernel
theorem dX1_waysFrom_159 : decode cX1_waysFrom 159 = .ok (.iconst 0, 1) := by decide +kernel
theorem dX1_waysFrom_160 : decode cX1_waysFrom 160 = .ok (.iconst 5, 1) := by decide +kernel
theorem dX1_waysFrom_161 : decode cX1_waysFrom 161 = .ok (.invokestatic 66, 3) := by decide +kernel
theorem dX1_waysFrom_164 : decode cX1_waysFrom 164 = .ok (.aload_n 0, 1) := by decide +kernel
theorem dX1_waysFrom_165 : decode cX1_waysFrom 165 = .ok (.getfield 39, 3) := by decide +kernel
theorem dX1_waysFrom_168 : decode cX1_waysFrom 168 = .ok (.aload_n 0, 1) := by decide +kernel
theorem dX1_waysFrom_169 : decode cX1_waysFrom 169 = .ok (.getfield 23, 3) := by decide +kernel
theorem dX1_waysFrom_172 : decode cX1_waysFrom 172 = .ok (.iload_n 1, 1) := by decide +kernel
theorem dX1_waysFrom_173 : decode cX1_waysFrom 173 = .ok (.iconst 1, 1) := by decide +kernel
theorem dX1_waysFrom_174 : decode cX1_waysFrom 174 = .ok (.iadd, 1) := by decide +kernel
theorem dX1_waysFrom_175 : decode cX1_waysFrom 175 = .ok (.aaload, 1) := by decide +kernel
theorem dX1_waysFrom_176 : decode cX1_waysFrom 176 = .ok (.aload_n 0, 1) := by decide +kernel
theorem dX1_waysFrom_177 : decode cX1_waysFrom 177 = .ok (.getfield 43, 3) := by decide +kernel
theorem dX1_waysFrom_180 : decode cX1_waysFrom 180 = .ok (.iload 10, 2) := by decide +kernel
theorem dX1_waysFrom_182 : decode cX1_waysFrom 182 = .ok (.invokevirtual 72, 3) := by decide +kernel
theorem dX1_waysFrom_185 : decode cX1_waysFrom 185 = .ok (.iload 9, 2) := by decide +kernel
theorem dX1_waysFrom_187 : decode cX1_waysFrom 187 = .ok (.aload_n 0, 1) := by decide +kernel
theorem dX1_waysFrom_188 : decode cX1_waysFrom 188 = .ok (.iload_n 1, 1) := by decide +kernel
theorem dX1_waysFrom_189 : decode cX1_waysFrom 189 = .ok (.iconst 1, 1) := by decide +kernel
theorem dX1_waysFrom_190 : decode cX1_waysFrom 190 = .ok (.iadd, 1) := by decide +kernel
theorem dX1_waysFrom_191 : decode cX1_waysFrom 191 = .ok (.iload_n 2, 1) := by decide +kernel
theorem dX1_waysFrom_192 : decode cX1_waysFrom 192 = .ok (.iconst 1, 1) := by decide +kernel
theorem dX1_waysFrom_193 : decode cX1_waysFrom 193 = .ok (.isub, 1) := by decide +kernel
theorem dX1_waysFrom_194 : decode cX1_waysFrom 194 = .ok (.iload_n 3, 1) := by decide +kernel
theorem dX1_waysFrom_195 : decode cX1_waysFrom 195 = .ok (.iload 7, 2) := by decide +kernel
theorem dX1_waysFrom_197 : decode cX1_waysFrom 197 = .ok (.iload 8, 2) := by decide +kernel
theorem dX1_waysFrom_199 : decode cX1_waysFrom 199 = .ok (.invokevirtual 114, 3) := by decide +kernel
theorem dX1_waysFrom_202 : decode cX1_waysFrom 202 = .ok (.iadd, 1) := by decide +kernel
theorem dX1_waysFrom_203 : decode cX1_waysFrom 203 = .ok (.istore 9, 2) := by decide +kernel
theorem dX1_waysFrom_205 : decode cX1_waysFrom 205 = .ok (.iinc 10 1, 3) := by decide +kernel
theorem dX1_waysFrom_208 : decode cX1_waysFrom 208 = .ok (.goto (-78), 3) := by decide +kernel
theorem dX1_waysFrom_211 : decode cX1_waysFrom 211 = .ok (.iload 9, 2) := by decide +kernel
theorem dX1_waysFrom_213 : decode cX1_waysFrom 213 = .ok (.ireturn, 1) := by decide +kernel
theorem dX1_duel_0 : decode cX1_duel 0 = .ok (.iconst 0, 1) := by decide +kernel
theorem dX1_duel_1 : decode cX1_duel 1 = .ok (.istore_n 3, 1) := by decide +kernel
theorem dX1_duel_2 : decode cX1_duel 2 = .ok (.iload_n 3, 1) := by decide +kernel
theorem dX1_duel_3 : decode cX1_duel 3 = .ok (.iconst 3, 1) := by decide +kernel
theorem dX1_duel_4 : decode cX1_duel 4 = .ok (.if_icmp .gt 51, 3) := by decide +kernel
theorem dX1_duel_7 : decode cX1_duel 7 = .ok (.aload_n 0, 1) := by decide +kernel
theorem dX1_duel_8 : decode cX1_duel 8 = .ok (.iload_n 1, 1) := by decide +kernel
theorem dX1_duel_9 : decode cX1_duel 9 = .ok (.iconst 0, 1) := by decide +kernel
theorem dX1_duel_10 : decode cX1_duel 10 = .ok (.aload_n 0, 1) := by decide +kernel
theorem dX1_duel_11 : decode cX1_duel 11 = .ok (.getfield 35, 3) := by decide +kernel
theorem dX1_duel_14 : decode cX1_duel 14 = .ok (.getfield 93, 3) := by decide +kernel
theorem dX1_duel_17 : decode cX1_duel 17 = .ok (.iload_n 1, 1) := by decide +kernel
theorem dX1_duel_18 : decode cX1_duel 18 = .ok (.iconst 2, 1) := by decide +kernel
theorem dX1_duel_19 : decode cX1_duel 19 = .ok (.invokevirtual 105, 3) := by decide +kernel
theorem dX1_duel_22 : decode cX1_duel 22 = .ok (.iload_n 3, 1) := by decide +kernel
theorem dX1_duel_23 : decode cX1_duel 23 = .ok (.iadd, 1) := by decide +kernel
theorem dX1_duel_24 : decode cX1_duel 24 = .ok (.invokevirtual 110, 3) := by decide +kernel
theorem dX1_duel_27 : decode cX1_duel 27 = .ok (.istore 4, 2) := by decide +kernel
theorem dX1_duel_29 : decode cX1_duel 29 = .ok (.aload_n 0, 1) := by decide +kernel
theorem dX1_duel_30 : decode cX1_duel 30 = .ok (.getfield 26, 3) := by decide +kernel
theorem dX1_duel_33 : decode cX1_duel 33 = .ok (.iload_n 3, 1) := by decide +kernel
theorem dX1_duel_34 : decode cX1_duel 34 = .ok (.iload 4, 2) := by decide +kernel
theorem dX1_duel_36 : decode cX1_duel 36 = .ok (.ifCond .lt 11, 3) := by decide +kernel
theorem dX1_duel_39 : decode cX1_duel 39 = .ok (.ldc 118, 2) := by decide +kernel
theorem dX1_duel_41 : decode cX1_duel 41 = .ok (.iload 4, 2) := by decide +kernel
theorem dX1_duel_43 : decode cX1_duel 43 = .ok (.iadd, 1) := by decide +kernel
theorem dX1_duel_44 : decode cX1_duel 44 = .ok (.goto 4, 3) := by decide +kernel
theorem dX1_duel_47 : decode cX1_duel 47 = .ok (.iconst 0, 1) := by decide +kernel
theorem dX1_duel_48 : decode cX1_duel 48 = .ok (.iastore, 1) := by decide +kernel
theorem dX1_duel_49 : decode cX1_duel 49 = .ok (.iinc 3 1, 3) := by decide +kernel
theorem dX1_duel_52 : decode cX1_duel 52 = .ok (.goto (-50), 3) := by decide +kernel
theorem dX1_duel_55 : decode cX1_duel 55 = .ok (.iconst 0, 1) := by decide +kernel
theorem dX1_duel_56 : decode cX1_duel 56 = .ok (.istore_n 3, 1) := by decide +kernel
theorem dX1_duel_57 : decode cX1_duel 57 = .ok (.iconst 5, 1) := by decide +kernel
theorem dX1_duel_58 : decode cX1_duel 58 = .ok (.istore 4, 2) := by decide +kernel
theorem dX1_duel_60 : decode cX1_duel 60 = .ok (.iload 4, 2) := by decide +kernel
theorem dX1_duel_62 : decode cX1_duel 62 = .ok (.ifCond .lt 148, 3) := by decide +kernel
theorem dX1_duel_65 : decode cX1_duel 65 = .ok (.iload 4, 2) := by decide +kernel
theorem dX1_duel_67 : decode cX1_duel 67 = .ok (.iconst 2, 1) := by decide +kernel
theorem dX1_duel_68 : decode cX1_duel 68 = .ok (.irem, 1) := by decide +kernel
theorem dX1_duel_69 : decode cX1_duel 69 = .ok (.ifCond .ne 7, 3) := by decide +kernel
theorem dX1_duel_72 : decode cX1_duel 72 = .ok (.iconst 1, 1) := by decide +kernel
theorem dX1_duel_73 : decode cX1_duel 73 = .ok (.goto 4, 3) := by decide +kernel
theorem dX1_duel_76 : decode cX1_duel 76 = .ok (.iconst 0, 1) := by decide +kernel
theorem dX1_duel_77 : decode cX1_duel 77 = .ok (.iload_n 2, 1) := by decide +kernel
theorem dX1_duel_78 : decode cX1_duel 78 = .ok (.if_icmp .ne 7, 3) := by decide +kernel
theorem dX1_duel_81 : decode cX1_duel 81 = .ok (.iconst 1, 1) := by decide +kernel
theorem dX1_duel_82 : decode cX1_duel 82 = .ok (.goto 4, 3) := by decide +kernel
theorem dX1_duel_85 : decode cX1_duel 85 = .ok (.iconst 0, 1) := by decide +kernel
theorem dX1_duel_86 : decode cX1_duel 86 = .ok (.istore 5, 2) := by decide +kernel
theorem dX1_duel_88 : decode cX1_duel 88 = .ok (.iconst 0, 1) := by decide +kernel
theorem dX1_duel_89 : decode cX1_duel 89 = .ok (.istore 6, 2) := by decide +kernel
theorem dX1_duel_91 : decode cX1_duel 91 = .ok (.iload 6, 2) := by decide +kernel
theorem dX1_duel_93 : decode cX1_duel 93 = .ok (.iconst 3, 1) := by decide +kernel
theorem dX1_duel_94 : decode cX1_duel 94 = .ok (.if_icmp .ge 110, 3) := by decide +kernel
theorem dX1_duel_97 : decode cX1_duel 97 = .ok (.iload 5, 2) := by decide +kernel
theorem dX1_duel_99 : decode cX1_duel 99 = .ok (.ifCond .eq 30, 3) := by decide +kernel
theorem dX1_duel_102 : decode cX1_duel 102 = .ok (.aload_n 0, 1) := by decide +kernel
theorem dX1_duel_103 : decode cX1_duel 103 = .ok (.getfield 26, 3) := by decide +kernel
theorem dX1_duel_106 : decode cX1_duel 106 = .ok (.iload 6, 2) := by decide +kernel
theorem dX1_duel_108 : decode cX1_duel 108 = .ok (.iconst 1, 1) := by decide +kernel
theorem dX1_duel_109 : decode cX1_duel 109 = .ok (.iadd, 1) := by decide +kernel
theorem dX1_duel_110 : decode cX1_duel 110 = .ok (.iaload, 1) := by decide +kernel
theorem dX1_duel_111 : decode cX1_duel 111 = .ok (.aload_n 0, 1) := by decide +kernel
theorem dX1_duel_112 : decode cX1_duel 112 = .ok (.getfield 26, 3) := by decide +kernel
theorem dX1_duel_115 : decode cX1_duel 115 = .ok (.iload 6, 2) := by decide +kernel
theorem dX1_duel_117 : decode cX1_duel 117 = .ok (.iaload, 1) := by decide +kernel
theorem dX1_duel_118 : decode cX1_duel 118 = .ok (.if_icmp .le 7, 3) := by decide +kernel
theorem dX1_duel_121 : decode cX1_duel 121 = .ok (.iconst 1, 1) := by decide +kernel
theorem dX1_duel_122 : decode cX1_duel 122 = .ok (.goto 31, 3) := by decide +kernel
theorem dX1_duel_125 : decode cX1_duel 125 = .ok (.iconst 0, 1) := by decide +kernel
theorem dX1_duel_126 : decode cX1_duel 126 = .ok (.goto 27, 3) := by decide +kernel
theorem dX1_duel_129 : decode cX1_duel 129 = .ok (.aload_n 0, 1) := by decide +kernel
theorem dX1_duel_130 : decode cX1_duel 130 = .ok (.getfield 26, 3) := by decide +kernel
theorem dX1_duel_133 : decode cX1_duel 133 = .ok (.iload 6, 2) := by decide +kernel
theorem dX1_duel_135 : decode cX1_duel 135 = .ok (.iconst 1, 1) := by decide +kernel
theorem dX1_duel_136 : decode cX1_duel 136 = .ok (.iadd, 1) := by decide +kernel
theorem dX1_duel_137 : decode cX1_duel 137 = .ok (.iaload, 1) := by decide +kernel
theorem dX1_duel_138 : decode cX1_duel 138 = .ok (.aload_n 0, 1) := by decide +kernel
theorem dX1_duel_139 : decode cX1_duel 139 = .ok (.getfield 26, 3) := by decide +kernel
theorem dX1_duel_142 : decode cX1_duel 142 = .ok (.iload 6, 2) := by decide +kernel
theorem dX1_duel_144 : decode cX1_duel 144 = .ok (.iaload, 1) := by decide +kernel
theorem dX1_duel_145 : decode cX1_duel 145 = .ok (.if_icmp .ge 7, 3) := by decide +kernel
theorem dX1_duel_148 : decode cX1_duel 148 = .ok (.iconst 1, 1) := by decide +kernel
theorem dX1_duel_149 : decode cX1_duel 149 = .ok (.goto 4, 3) := by decide +kernel
theorem dX1_duel_152 : decode cX1_duel 152 = .ok (.iconst 0, 1) := by decide +kernel
theorem dX1_duel_153 : decode cX1_duel 153 = .ok (.istore 7, 2) := by decide +kernel
theorem dX1_duel_155 : decode cX1_duel 155 = .ok (.iload 6, 2) := by decide +kernel
theorem dX1_duel_157 : decode cX1_duel 157 = .ok (.ifCond .ne 8, 3) := by decide +kernel
theorem dX1_duel_160 : decode cX1_duel 160 = .ok (.iload 7, 2) := by decide +kernel
theorem dX1_duel_162 : decode cX1_duel 162 = .ok (.goto 4, 3) := by decide +kernel
theorem dX1_duel_165 : decode cX1_duel 165 = .ok (.iload_n 3, 1) := by decide +kernel
theorem dX1_duel_166 : decode cX1_duel 166 = .ok (.istore_n 3, 1) := by decide +kernel
theorem dX1_duel_167 : decode cX1_duel 167 = .ok (.aload_n 0, 1) := by decide +kernel
theorem dX1_duel_168 : decode cX1_duel 168 = .ok (.getfield 26, 3) := by decide +kernel
theorem dX1_duel_171 : decode cX1_duel 171 = .ok (.iload 6, 2) := by decide +kernel
theorem dX1_duel_173 : decode cX1_duel 173 = .ok (.iload 7, 2) := by decide +kernel
theorem dX1_duel_175 : decode cX1_duel 175 = .ok (.ifCond .eq 15, 3) := by decide +kernel
theorem dX1_duel_178 : decode cX1_duel 178 = .ok (.aload_n 0, 1) := by decide +kernel
theorem dX1_duel_179 : decode cX1_duel 179 = .ok (.getfield 26, 3) := by decide +kernel
theorem dX1_duel_182 : decode cX1_duel 182 = .ok (.iload 6, 2) := by decide +kernel
theorem dX1_duel_184 : decode cX1_duel 184 = .ok (.iconst 1, 1) := by decide +kernel
theorem dX1_duel_185 : decode cX1_duel 185 = .ok (.iadd, 1) := by decide +kernel
theorem dX1_duel_186 : decode cX1_duel 186 = .ok (.iaload, 1) := by decide +kernel
theorem dX1_duel_187 : decode cX1_duel 187 = .ok (.goto 10, 3) := by decide +kernel
theorem dX1_duel_190 : decode cX1_duel 190 = .ok (.aload_n 0, 1) := by decide +kernel
theorem dX1_duel_191 : decode cX1_duel 191 = .ok (.getfield 26, 3) := by decide +kernel
theorem dX1_duel_194 : decode cX1_duel 194 = .ok (.iload 6, 2) := by decide +kernel
theorem dX1_duel_196 : decode cX1_duel 196 = .ok (.iaload, 1) := by decide +kernel
theorem dX1_duel_197 : decode cX1_duel 197 = .ok (.iastore, 1) := by decide +kernel
theorem dX1_duel_198 : decode cX1_duel 198 = .ok (.iinc 6 1, 3) := by decide +kernel
theorem dX1_duel_201 : decode cX1_duel 201 = .ok (.goto (-110), 3) := by decide +kernel
theorem dX1_duel_204 : decode cX1_duel 204 = .ok (.iinc 4 (-1), 3) := by decide +kernel
theorem dX1_duel_207 : decode cX1_duel 207 = .ok (.goto (-147), 3) := by decide +kernel
theorem dX1_duel_210 : decode cX1_duel 210 = .ok (.iconst 2, 1) := by decide +kernel
theorem dX1_duel_211 : decode cX1_duel 211 = .ok (.aload_n 0, 1) := by decide +kernel
theorem dX1_duel_212 : decode cX1_duel 212 = .ok (.getfield 26, 3) := by decide +kernel
theorem dX1_duel_215 : decode cX1_duel 215 = .ok (.iconst 0, 1) := by decide +kernel
theorem dX1_duel_216 : decode cX1_duel 216 = .ok (.iaload, 1) := by decide +kernel
theorem dX1_duel_217 : decode cX1_duel 217 = .ok (.imul, 1) := by decide +kernel
theorem dX1_duel_218 : decode cX1_duel 218 = .ok (.iload_n 3, 1) := by decide +kernel
theorem dX1_duel_219 : decode cX1_duel 219 = .ok (.ifCond .eq 7, 3) := by decide +kernel
theorem dX1_duel_222 : decode cX1_duel 222 = .ok (.iconst 1, 1) := by decide +kernel
theorem dX1_duel_223 : decode cX1_duel 223 = .ok (.goto 4, 3) := by decide +kernel
theorem dX1_duel_226 : decode cX1_duel 226 = .ok (.iconst 0, 1) := by decide +kernel
theorem dX1_duel_227 : decode cX1_duel 227 = .ok (.iadd, 1) := by decide +kernel
theorem dX1_duel_228 : decode cX1_duel 228 = .ok (.ireturn, 1) := by decide +kernel
theorem dX1_arrangeAll_0 : decode cX1_arrangeAll 0 = .ok (.aload_n 0, 1) := by decide +kernel
theorem dX1_arrangeAll_1 : decode cX1_arrangeAll 1 = .ok (.iconst (-1), 1) := by decide +kernel
theorem dX1_arrangeAll_2 : decode cX1_arrangeAll 2 = .ok (.putfield 119, 3) := by decide +kernel
theorem dX1_arrangeAll_5 : decode cX1_arrangeAll 5 = .ok (.aload_n 0, 1) := by decide +kernel
theorem dX1_arrangeAll_6 : decode cX1_arrangeAll 6 = .ok (.iconst 0, 1) := by decide +kernel
theorem dX1_arrangeAll_7 : decode cX1_arrangeAll 7 = .ok (.iload_n 1, 1) := by decide +kernel
theorem dX1_arrangeAll_8 : decode cX1_arrangeAll 8 = .ok (.iconst 0, 1) := by decide +kernel
theorem dX1_arrangeAll_9 : decode cX1_arrangeAll 9 = .ok (.iconst 0, 1) := by decide +kernel
theorem dX1_arrangeAll_10 : decode cX1_arrangeAll 10 = .ok (.invokevirtual 122, 3) := by decide +kernel
theorem dX1_arrangeAll_13 : decode cX1_arrangeAll 13 = .ok (.return_, 1) := by decide +kernel
theorem dX1_arrange_0 : decode cX1_arrange 0 = .ok (.iload_n 2, 1) := by decide +kernel
theorem dX1_arrange_1 : decode cX1_arrange 1 = .ok (.ifCond .ne 33, 3) := by decide +kernel
theorem dX1_arrange_4 : decode cX1_arrange 4 = .ok (.iload 4, 2) := by decide +kernel
theorem dX1_arrange_6 : decode cX1_arrange 6 = .ok (.aload_n 0, 1) := by decide +kernel
theorem dX1_arrange_7 : decode cX1_arrange 7 = .ok (.getfield 119, 3) := by decide +kernel
theorem dX1_arrange_10 : decode cX1_arrange 10 = .ok (.if_icmp .le 23, 3) := by decide +kernel
theorem dX1_arrange_13 : decode cX1_arrange 13 = .ok (.aload_n 0, 1) := by decide +kernel
theorem dX1_arrange_14 : decode cX1_arrange 14 = .ok (.iload 4, 2) := by decide +kernel
theorem dX1_arrange_16 : decode cX1_arrange 16 = .ok (.putfield 119, 3) := by decide +kernel
theorem dX1_arrange_19 : decode cX1_arrange 19 = .ok (.aload_n 0, 1) := by decide +kernel
theorem dX1_arrange_20 : decode cX1_arrange 20 = .ok (.getfield 29, 3) := by decide +kernel
theorem dX1_arrange_23 : decode cX1_arrange 23 = .ok (.iconst 0, 1) := by decide +kernel
theorem dX1_arrange_24 : decode cX1_arrange 24 = .ok (.aload_n 0, 1) := by decide +kernel
theorem dX1_arrange_25 : decode cX1_arrange 25 = .ok (.getfield 32, 3) := by decide +kernel
theorem dX1_arrange_28 : decode cX1_arrange 28 = .ok (.iconst 0, 1) := by decide +kernel
theorem dX1_arrange_29 : decode cX1_arrange 29 = .ok (.iconst 5, 1) := by decide +kernel
theorem dX1_arrange_30 : decode cX1_arrange 30 = .ok (.invokestatic 66, 3) := by decide +kernel
theorem dX1_arrange_33 : decode cX1_arrange 33 = .ok (.return_, 1) := by decide +kernel
theorem dX1_arrange_34 : decode cX1_arrange 34 = .ok (.iload_n 1, 1) := by decide +kernel
theorem dX1_arrange_35 : decode cX1_arrange 35 = .ok (.ifCond .lt 8, 3) := by decide +kernel
theorem dX1_arrange_38 : decode cX1_arrange 38 = .ok (.iload_n 1, 1) := by decide +kernel
theorem dX1_arrange_39 : decode cX1_arrange 39 = .ok (.iconst 5, 1) := by decide +kernel
theorem dX1_arrange_40 : decode cX1_arrange 40 = .ok (.if_icmp .lt 4, 3) := by decide +kernel
theorem dX1_arrange_43 : decode cX1_arrange 43 = .ok (.return_, 1) := by decide +kernel
theorem dX1_arrange_44 : decode cX1_arrange 44 = .ok (.iconst 0, 1) := by decide +kernel
theorem dX1_arrange_45 : decode cX1_arrange 45 = .ok (.istore 5, 2) := by decide +kernel
theorem dX1_arrange_47 : decode cX1_arrange 47 = .ok (.iload 5, 2) := by decide +kernel
theorem dX1_arrange_49 : decode cX1_arrange 49 = .ok (.bipush 8, 2) := by decide +kernel
theorem dX1_arrange_51 : decode cX1_arrange 51 = .ok (.if_icmp .ge 97, 3) := by decide +kernel
theorem dX1_arrange_54 : decode cX1_arrange 54 = .ok (.iload_n 2, 1) := by decide +kernel
theorem dX1_arrange_55 : decode cX1_arrange 55 = .ok (.iload 5, 2) := by decide +kernel
theorem dX1_arrange_57 : decode cX1_arrange 57 = .ok (.ishr, 1) := by decide +kernel
theorem dX1_arrange_58 : decode cX1_arrange 58 = .ok (.iconst 1, 1) := by decide +kernel
theorem dX1_arrange_59 : decode cX1_arrange 59 = .ok (.iand, 1) := by decide +kernel
theorem dX1_arrange_60 : decode cX1_arrange 60 = .ok (.iconst 1, 1) := by decide +kernel
theorem dX1_arrange_61 : decode cX1_arrange 61 = .ok (.if_icmp .ne 81, 3) := by decide +kernel
theorem dX1_arrange_64 : decode cX1_arrange 64 = .ok (.aload_n 0, 1) := by decide +kernel
theorem dX1_arrange_65 : decode cX1_arrange 65 = .ok (.getfield 35, 3) := by decide +kernel
theorem dX1_arrange_68 : decode cX1_arrange 68 = .ok (.getfield 93, 3) := by decide +kernel
theorem dX1_arrange_71 : decode cX1_arrange 71 = .ok (.iload 5, 2) := by decide +kernel
theorem dX1_arrange_73 : decode cX1_arrange 73 = .ok (.iconst 2, 1) := by decide +kernel
theorem dX1_arrange_74 : decode cX1_arrange 74 = .ok (.invokevirtual 105, 3) := by decide +kernel
theorem dX1_arrange_77 : decode cX1_arrange 77 = .ok (.istore 6, 2) := by decide +kernel
theorem dX1_arrange_79 : decode cX1_arrange 79 = .ok (.aload_n 0, 1) := by decide +kernel
theorem dX1_arrange_80 : decode cX1_arrange 80 = .ok (.iload 5, 2) := by decide +kernel
theorem dX1_arrange_82 : decode cX1_arrange 82 = .ok (.iload_n 3, 1) := by decide +kernel
theorem dX1_arrange_83 : decode cX1_arrange 83 = .ok (.iload 6, 2) := by decide +kernel
theorem dX1_arrange_85 : decode cX1_arrange 85 = .ok (.invokevirtual 110, 3) := by decide +kernel
theorem dX1_arrange_88 : decode cX1_arrange 88 = .ok (.istore 7, 2) := by decide +kernel
theorem dX1_arrange_90 : decode cX1_arrange 90 = .ok (.iload 7, 2) := by decide +kernel
theorem dX1_arrange_92 : decode cX1_arrange 92 = .ok (.bipush (-2), 2) := by decide +kernel
theorem dX1_arrange_94 : decode cX1_arrange 94 = .ok (.if_icmp .ne 8, 3) := by decide +kernel
theorem dX1_arrange_97 : decode cX1_arrange 97 = .ok (.bipush 60, 2) := by decide +kernel
theorem dX1_arrange_99 : decode cX1_arrange 99 = .ok (.goto 7, 3) := by decide +kernel
theorem dX1_arrange_102 : decode cX1_arrange 102 = .ok (.iload_n 3, 1) := by decide +kernel
theorem dX1_arrange_103 : decode cX1_arrange 103 = .ok (.iload 6, 2) := by decide +kernel
theorem dX1_arrange_105 : decode cX1_arrange 105 = .ok (.iadd, 1) := by decide +kernel
theorem dX1_arrange_106 : decode cX1_arrange 106 = .ok (.istore 8, 2) := by decide +kernel
theorem dX1_arrange_108 : decode cX1_arrange 108 = .ok (.aload_n 0, 1) := by decide +kernel
theorem dX1_arrange_109 : decode cX1_arrange 109 = .ok (.getfield 29, 3) := by decide +kernel
theorem dX1_arrange_112 : decode cX1_arrange 112 = .ok (.iload_n 1, 1) := by decide +kernel
theorem dX1_arrange_113 : decode cX1_arrange 113 = .ok (.iload 5, 2) := by decide +kernel
theorem dX1_arrange_115 : decode cX1_arrange 115 = .ok (.iastore, 1) := by decide +kernel
theorem dX1_arrange_116 : decode cX1_arrange 116 = .ok (.aload_n 0, 1) := by decide +kernel
theorem dX1_arrange_117 : decode cX1_arrange 117 = .ok (.iload_n 1, 1) := by decide +kernel
theorem dX1_arrange_118 : decode cX1_arrange 118 = .ok (.iconst 1, 1) := by decide +kernel
theorem dX1_arrange_119 : decode cX1_arrange 119 = .ok (.iadd, 1) := by decide +kernel
theorem dX1_arrange_120 : decode cX1_arrange 120 = .ok (.iload_n 2, 1) := by decide +kernel
theorem dX1_arrange_121 : decode cX1_arrange 121 = .ok (.iconst 1, 1) := by decide +kernel
theorem dX1_arrange_122 : decode cX1_arrange 122 = .ok (.iload 5, 2) := by decide +kernel
theorem dX1_arrange_124 : decode cX1_arrange 124 = .ok (.ishl, 1) := by decide +kernel
theorem dX1_arrange_125 : decode cX1_arrange 125 = .ok (.iconst (-1), 1) := by decide +kernel
theorem dX1_arrange_126 : decode cX1_arrange 126 = .ok (.ixor, 1) := by decide +kernel
theorem dX1_arrange_127 : decode cX1_arrange 127 = .ok (.iand, 1) := by decide +kernel
theorem dX1_arrange_128 : decode cX1_arrange 128 = .ok (.iload 8, 2) := by decide +kernel
theorem dX1_arrange_130 : decode cX1_arrange 130 = .ok (.iload 4, 2) := by decide +kernel
theorem dX1_arrange_132 : decode cX1_arrange 132 = .ok (.iload 7, 2) := by decide +kernel
theorem dX1_arrange_134 : decode cX1_arrange 134 = .ok (.iconst 0, 1) := by decide +kernel
theorem dX1_arrange_135 : decode cX1_arrange 135 = .ok (.invokestatic 86, 3) := by decide +kernel
theorem dX1_arrange_138 : decode cX1_arrange 138 = .ok (.iadd, 1) := by decide +kernel
theorem dX1_arrange_139 : decode cX1_arrange 139 = .ok (.invokevirtual 122, 3) := by decide +kernel
theorem dX1_arrange_142 : decode cX1_arrange 142 = .ok (.iinc 5 1, 3) := by decide +kernel
theorem dX1_arrange_145 : decode cX1_arrange 145 = .ok (.goto (-98), 3) := by decide +kernel
theorem dX1_arrange_148 : decode cX1_arrange 148 = .ok (.return_, 1) := by decide +kernel
theorem dX2_init_0 : decode cX2_init 0 = .ok (.aload_n 0, 1) := by decide +kernel
theorem dX2_init_1 : decode cX2_init 1 = .ok (.invokespecial 3, 3) := by decide +kernel
theorem dX2_init_4 : decode cX2_init 4 = .ok (.aload_n 0, 1) := by decide +kernel
theorem dX2_init_5 : decode cX2_init 5 = .ok (.bipush 8, 2) := by decide +kernel
theorem dX2_init_7 : decode cX2_init 7 = .ok (.newarray .int, 2) := by decide +kernel
theorem dX2_init_9 : decode cX2_init 9 = .ok (.putfield 11, 3) := by decide +kernel
theorem dX2_init_12 : decode cX2_init 12 = .ok (.aload_n 0, 1) := by decide +kernel
theorem dX2_init_13 : decode cX2_init 13 = .ok (.sipush 300, 3) := by decide +kernel
theorem dX2_init_16 : decode cX2_init 16 = .ok (.newarray .int, 2) := by decide +kernel
theorem dX2_init_18 : decode cX2_init 18 = .ok (.putfield 19, 3) := by decide +kernel
theorem dX2_init_21 : decode cX2_init 21 = .ok (.return_, 1) := by decide +kernel
theorem dX2_seeWind_0 : decode cX2_seeWind 0 = .ok (.aload_n 0, 1) := by decide +kernel
theorem dX2_seeWind_1 : decode cX2_seeWind 1 = .ok (.getfield 11, 3) := by decide +kernel
theorem dX2_seeWind_4 : decode cX2_seeWind 4 = .ok (.iconst 0, 1) := by decide +kernel
theorem dX2_seeWind_5 : decode cX2_seeWind 5 = .ok (.iload_n 1, 1) := by decide +kernel
theorem dX2_seeWind_6 : decode cX2_seeWind 6 = .ok (.iastore, 1) := by decide +kernel
theorem dX2_seeWind_7 : decode cX2_seeWind 7 = .ok (.aload_n 0, 1) := by decide +kernel
theorem dX2_seeWind_8 : decode cX2_seeWind 8 = .ok (.getfield 11, 3) := by decide +kernel
theorem dX2_seeWind_11 : decode cX2_seeWind 11 = .ok (.iconst 1, 1) := by decide +kernel
theorem dX2_seeWind_12 : decode cX2_seeWind 12 = .ok (.iload_n 2, 1) := by decide +kernel
theorem dX2_seeWind_13 : decode cX2_seeWind 13 = .ok (.iastore, 1) := by decide +kernel
theorem dX2_seeWind_14 : decode cX2_seeWind 14 = .ok (.aload_n 0, 1) := by decide +kernel
theorem dX2_seeWind_15 : decode cX2_seeWind 15 = .ok (.getfield 11, 3) := by decide +kernel
theorem dX2_seeWind_18 : decode cX2_seeWind 18 = .ok (.iconst 2, 1) := by decide +kernel
theorem dX2_seeWind_19 : decode cX2_seeWind 19 = .ok (.iload_n 3, 1) := by decide +kernel
theorem dX2_seeWind_20 : decode cX2_seeWind 20 = .ok (.iastore, 1) := by decide +kernel
theorem dX2_seeWind_21 : decode cX2_seeWind 21 = .ok (.return_, 1) := by decide +kernel
theorem dX2_seeCase_0 : decode cX2_seeCase 0 = .ok (.aload_n 0, 1) := by decide +kernel
theorem dX2_seeCase_1 : decode cX2_seeCase 1 = .ok (.getfield 11, 3) := by decide +kernel
theorem dX2_seeCase_4 : decode cX2_seeCase 4 = .ok (.iconst 4, 1) := by decide +kernel
theorem dX2_seeCase_5 : decode cX2_seeCase 5 = .ok (.aload_n 1, 1) := by decide +kernel
theorem dX2_seeCase_6 : decode cX2_seeCase 6 = .ok (.iload_n 2, 1) := by decide +kernel
theorem dX2_seeCase_7 : decode cX2_seeCase 7 = .ok (.iconst 0, 1) := by decide +kernel
theorem dX2_seeCase_8 : decode cX2_seeCase 8 = .ok (.invokevirtual 22, 3) := by decide +kernel
theorem dX2_seeCase_11 : decode cX2_seeCase 11 = .ok (.iastore, 1) := by decide +kernel
theorem dX2_seeCase_12 : decode cX2_seeCase 12 = .ok (.aload_n 0, 1) := by decide +kernel
theorem dX2_seeCase_13 : decode cX2_seeCase 13 = .ok (.getfield 11, 3) := by decide +kernel
theorem dX2_seeCase_16 : decode cX2_seeCase 16 = .ok (.iconst 5, 1) := by decide +kernel
theorem dX2_seeCase_17 : decode cX2_seeCase 17 = .ok (.aload_n 1, 1) := by decide +kernel
theorem dX2_seeCase_18 : decode cX2_seeCase 18 = .ok (.iload_n 2, 1) := by decide +kernel
theorem dX2_seeCase_19 : decode cX2_seeCase 19 = .ok (.iconst 1, 1) := by decide +kernel
theorem dX2_seeCase_20 : decode cX2_seeCase 20 = .ok (.invokevirtual 22, 3) := by decide +kernel
theorem dX2_seeCase_23 : decode cX2_seeCase 23 = .ok (.iastore, 1) := by decide +kernel
theorem dX2_seeCase_24 : decode cX2_seeCase 24 = .ok (.aload_n 0, 1) := by decide +kernel
theorem dX2_seeCase_25 : decode cX2_seeCase 25 = .ok (.getfield 11, 3) := by decide +kernel
theorem dX2_seeCase_28 : decode cX2_seeCase 28 = .ok (.bipush 6, 2) := by decide +kernel
theorem dX2_seeCase_30 : decode cX2_seeCase 30 = .ok (.iload_n 3, 1) := by decide +kernel
theorem dX2_seeCase_31 : decode cX2_seeCase 31 = .ok (.iastore, 1) := by decide +kernel
theorem dX2_seeCase_32 : decode cX2_seeCase 32 = .ok (.aload_n 0, 1) := by decide +kernel
theorem dX2_seeCase_33 : decode cX2_seeCase 33 = .ok (.aload_n 1, 1) := by decide +kernel
theorem dX2_seeCase_34 : decode cX2_seeCase 34 = .ok (.iload_n 2, 1) := by decide +kernel
theorem dX2_seeCase_35 : decode cX2_seeCase 35 = .ok (.iconst 3, 1) := by decide +kernel
theorem dX2_seeCase_36 : decode cX2_seeCase 36 = .ok (.invokevirtual 22, 3) := by decide +kernel
theorem dX2_seeCase_39 : decode cX2_seeCase 39 = .ok (.putfield 28, 3) := by decide +kernel
theorem dX2_seeCase_42 : decode cX2_seeCase 42 = .ok (.return_, 1) := by decide +kernel
theorem dX2_isGuiltyBy_0 : decode cX2_isGuiltyBy 0 = .ok (.aload_n 0, 1) := by decide +kernel
theorem dX2_isGuiltyBy_1 : decode cX2_isGuiltyBy 1 = .ok (.getfield 11, 3) := by decide +kernel
theorem dX2_isGuiltyBy_4 : decode cX2_isGuiltyBy 4 = .ok (.iconst 1, 1) := by decide +kernel
theorem dX2_isGuiltyBy_5 : decode cX2_isGuiltyBy 5 = .ok (.iload_n 2, 1) := by decide +kernel
theorem dX2_isGuiltyBy_6 : decode cX2_isGuiltyBy 6 = .ok (.iastore, 1) := by decide +kernel
theorem dX2_isGuiltyBy_7 : decode cX2_isGuiltyBy 7 = .ok (.aload_n 1, 1) := by decide +kernel
theorem dX2_isGuiltyBy_8 : decode cX2_isGuiltyBy 8 = .ok (.ifnull 26, 3) := by decide +kernel
theorem dX2_isGuiltyBy_11 : decode cX2_isGuiltyBy 11 = .ok (.aload_n 1, 1) := by decide +kernel
theorem dX2_isGuiltyBy_12 : decode cX2_isGuiltyBy 12 = .ok (.iload_n 2, 1) := by decide +kernel
theorem dX2_isGuiltyBy_13 : decode cX2_isGuiltyBy 13 = .ok (.invokevirtual 32, 3) := by decide +kernel
theorem dX2_isGuiltyBy_16 : decode cX2_isGuiltyBy 16 = .ok (.ifCond .eq 18, 3) := by decide +kernel
theorem dX2_isGuiltyBy_19 : decode cX2_isGuiltyBy 19 = .ok (.aload_n 0, 1) := by decide +kernel
theorem dX2_isGuiltyBy_20 : decode cX2_isGuiltyBy 20 = .ok (.aload_n 1, 1) := by decide +kernel
theorem dX2_isGuiltyBy_21 : decode cX2_isGuiltyBy 21 = .ok (.iload_n 2, 1) := by decide +kernel
theorem dX2_isGuiltyBy_22 : decode cX2_isGuiltyBy 22 = .ok (.invokevirtual 38, 3) := by decide +kernel
theorem dX2_isGuiltyBy_25 : decode cX2_isGuiltyBy 25 = .ok (.ifCond .eq 7, 3) := by decide +kernel
theorem dX2_isGuiltyBy_28 : decode cX2_isGuiltyBy 28 = .ok (.iconst 1, 1) := by decide +kernel
theorem dX2_isGuiltyBy_29 : decode cX2_isGuiltyBy 29 = .ok (.goto 4, 3) := by decide +kernel
theorem dX2_isGuiltyBy_32 : decode cX2_isGuiltyBy 32 = .ok (.iconst 0, 1) := by decide +kernel
theorem dX2_isGuiltyBy_33 : decode cX2_isGuiltyBy 33 = .ok (.ireturn, 1) := by decide +kernel
theorem dX2_isGuiltyBy_34 : decode cX2_isGuiltyBy 34 = .ok (.aload_n 0, 1) := by decide +kernel
theorem dX2_isGuiltyBy_35 : decode cX2_isGuiltyBy 35 = .ok (.getfield 11, 3) := by decide +kernel
theorem dX2_isGuiltyBy_38 : decode cX2_isGuiltyBy 38 = .ok (.iconst 5, 1) := by decide +kernel
theorem dX2_isGuiltyBy_39 : decode cX2_isGuiltyBy 39 = .ok (.iaload, 1) := by decide +kernel
theorem dX2_isGuiltyBy_40 : decode cX2_isGuiltyBy 40 = .ok (.iload_n 2, 1) := by decide +kernel
theorem dX2_isGuiltyBy_41 : decode cX2_isGuiltyBy 41 = .ok (.if_icmp .le 17, 3) := by decide +kernel
theorem dX2_isGuiltyBy_44 : decode cX2_isGuiltyBy 44 = .ok (.aload_n 0, 1) := by decide +kernel
theorem dX2_isGuiltyBy_45 : decode cX2_isGuiltyBy 45 = .ok (.getfield 28, 3) := by decide +kernel
theorem dX2_isGuiltyBy_48 : decode cX2_isGuiltyBy 48 = .ok (.iconst 1, 1) := by decide +kernel
theorem dX2_isGuiltyBy_49 : decode cX2_isGuiltyBy 49 = .ok (.iand, 1) := by decide +kernel
theorem dX2_isGuiltyBy_50 : decode cX2_isGuiltyBy 50 = .ok (.iconst 1, 1) := by decide +kernel
theorem dX2_isGuiltyBy_51 : decode cX2_isGuiltyBy 51 = .ok (.if_icmp .ne 7, 3) := by decide +kernel
theorem dX2_isGuiltyBy_54 : decode cX2_isGuiltyBy 54 = .ok (.iconst 1, 1) := by decide +kernel
theorem dX2_isGuiltyBy_55 : decode cX2_isGuiltyBy 55 = .ok (.goto 4, 3) := by decide +kernel
theorem dX2_isGuiltyBy_58 : decode cX2_isGuiltyBy 58 = .ok (.iconst 0, 1) := by decide +kernel
theorem dX2_isGuiltyBy_59 : decode cX2_isGuiltyBy 59 = .ok (.ireturn, 1) := by decide +kernel
theorem dX2_judged_0 : decode cX2_judged 0 = .ok (.aload_n 0, 1) := by decide +kernel
theorem dX2_judged_1 : decode cX2_judged 1 = .ok (.getfield 11, 3) := by decide +kernel
theorem dX2_judged_4 : decode cX2_judged 4 = .ok (.iconst 1, 1) := by decide +kernel
theorem dX2_judged_5 : decode cX2_judged 5 = .ok (.iaload, 1) := by decide +kernel
theorem dX2_judged_6 : decode cX2_judged 6 = .ok (.istore 4, 2) := by decide +kernel
theorem dX2_judged_8 : decode cX2_judged 8 = .ok (.iconst 0, 1) := by decide +kernel
theorem dX2_judged_9 : decode cX2_judged 9 = .ok (.istore 5, 2) := by decide +kernel
theorem dX2_judged_11 : decode cX2_judged 11 = .ok (.iconst 0, 1) := by decide +kernel
theorem dX2_judged_12 : decode cX2_judged 12 = .ok (.istore 6, 2) := by decide +kernel
theorem dX2_judged_14 : decode cX2_judged 14 = .ok (.iload 6, 2) := by decide +kernel
theorem dX2_judged_16 : decode cX2_judged 16 = .ok (.iconst 4, 1) := by decide +kernel
theorem dX2_judged_17 : decode cX2_judged 17 = .ok (.if_icmp .ge 45, 3) := by decide +kernel
theorem dX2_judged_20 : decode cX2_judged 20 = .ok (.iload_n 2, 1) := by decide +kernel
theorem dX2_judged_21 : decode cX2_judged 21 = .ok (.ifCond .ne 41, 3) := by decide +kernel
theorem dX2_judged_24 : decode cX2_judged 24 = .ok (.iload 5, 2) := by decide +kernel
theorem dX2_judged_26 : decode cX2_judged 26 = .ok (.ifCond .ne 36, 3) := by decide +kernel
theorem dX2_judged_29 : decode cX2_judged 29 = .ok (.iload_n 3, 1) := by decide +kernel
theorem dX2_judged_30 : decode cX2_judged 30 = .ok (.iload 6, 2) := by decide +kernel
theorem dX2_judged_32 : decode cX2_judged 32 = .ok (.ishr, 1) := by decide +kernel
theorem dX2_judged_33 : decode cX2_judged 33 = .ok (.iconst 1, 1) := by decide +kernel
theorem dX2_judged_34 : decode cX2_judged 34 = .ok (.iand, 1) := by decide +kernel
theorem dX2_judged_35 : decode cX2_judged 35 = .ok (.iconst 1, 1) := by decide +kernel
theorem dX2_judged_36 : decode cX2_judged 36 = .ok (.if_icmp .ne 17, 3) := by decide +kernel
theorem dX2_judged_39 : decode cX2_judged 39 = .ok (.aload_n 0, 1) := by decide +kernel
theorem dX2_judged_40 : decode cX2_judged 40 = .ok (.aload_n 1, 1) := by decide +kernel
theorem dX2_judged_41 : decode cX2_judged 41 = .ok (.iload 6, 2) := by decide +kernel
theorem dX2_judged_43 : decode cX2_judged 43 = .ok (.invokevirtual 42, 3) := by decide +kernel
theorem dX2_judged_46 : decode cX2_judged 46 = .ok (.ifCond .eq 7, 3) := by decide +kernel
theorem dX2_judged_49 : decode cX2_judged 49 = .ok (.iconst 1, 1) := by decide +kernel
theorem dX2_judged_50 : decode cX2_judged 50 = .ok (.goto 4, 3) := by decide +kernel
theorem dX2_judged_53 : decode cX2_judged 53 = .ok (.iconst 0, 1) := by decide +kernel
theorem dX2_judged_54 : decode cX2_judged 54 = .ok (.istore 5, 2) := by decide +kernel
theorem dX2_judged_56 : decode cX2_judged 56 = .ok (.iinc 6 1, 3) := by decide +kernel
theorem dX2_judged_59 : decode cX2_judged 59 = .ok (.goto (-45), 3) := by decide +kernel
theorem dX2_judged_62 : decode cX2_judged 62 = .ok (.aload_n 0, 1) := by decide +kernel
theorem dX2_judged_63 : decode cX2_judged 63 = .ok (.getfield 11, 3) := by decide +kernel
theorem dX2_judged_66 : decode cX2_judged 66 = .ok (.iconst 1, 1) := by decide +kernel
theorem dX2_judged_67 : decode cX2_judged 67 = .ok (.iload 4, 2) := by decide +kernel
theorem dX2_judged_69 : decode cX2_judged 69 = .ok (.iastore, 1) := by decide +kernel
theorem dX2_judged_70 : decode cX2_judged 70 = .ok (.iload 5, 2) := by decide +kernel
theorem dX2_judged_72 : decode cX2_judged 72 = .ok (.ifCond .ne 5, 3) := by decide +kernel
theorem dX2_judged_75 : decode cX2_judged 75 = .ok (.iconst (-1), 1) := by decide +kernel
theorem dX2_judged_76 : decode cX2_judged 76 = .ok (.ireturn, 1) := by decide +kernel
theorem dX2_judged_77 : decode cX2_judged 77 = .ok (.aload_n 0, 1) := by decide +kernel
theorem dX2_judged_78 : decode cX2_judged 78 = .ok (.getfield 11, 3) := by decide +kernel
theorem dX2_judged_81 : decode cX2_judged 81 = .ok (.bipush 7, 2) := by decide +kernel
theorem dX2_judged_83 : decode cX2_judged 83 = .ok (.iload_n 3, 1) := by decide +kernel
theorem dX2_judged_84 : decode cX2_judged 84 = .ok (.invokestatic 46, 3) := by decide +kernel
theorem dX2_judged_87 : decode cX2_judged 87 = .ok (.iastore, 1) := by decide +kernel
theorem dX2_judged_88 : decode cX2_judged 88 = .ok (.aload_n 1, 1) := by decide +kernel
theorem dX2_judged_89 : decode cX2_judged 89 = .ok (.ifnull 30, 3) := by decide +kernel
theorem dX2_judged_92 : decode cX2_judged 92 = .ok (.aload_n 1, 1) := by decide +kernel
theorem dX2_judged_93 : decode cX2_judged 93 = .ok (.bipush 7, 2) := by decide +kernel
theorem dX2_judged_95 : decode cX2_judged 95 = .ok (.invokevirtual 32, 3) := by decide +kernel
theorem dX2_judged_98 : decode cX2_judged 98 = .ok (.ifCond .eq 21, 3) := by decide +kernel
theorem dX2_judged_101 : decode cX2_judged 101 = .ok (.iconst 0, 1) := by decide +kernel
theorem dX2_judged_102 : decode cX2_judged 102 = .ok (.sipush 999, 3) := by decide +kernel
theorem dX2_judged_105 : decode cX2_judged 105 = .ok (.aload_n 0, 1) := by decide +kernel
theorem dX2_judged_106 : decode cX2_judged 106 = .ok (.aload_n 1, 1) := by decide +kernel
theorem dX2_judged_107 : decode cX2_judged 107 = .ok (.bipush 7, 2) := by decide +kernel
theorem dX2_judged_109 : decode cX2_judged 109 = .ok (.invokevirtual 38, 3) := by decide +kernel
theorem dX2_judged_112 : decode cX2_judged 112 = .ok (.invokestatic 52, 3) := by decide +kernel
theorem dX2_judged_115 : decode cX2_judged 115 = .ok (.invokestatic 57, 3) := by decide +kernel
theorem dX2_judged_118 : decode cX2_judged 118 = .ok (.ireturn, 1) := by decide +kernel
theorem dX2_judged_119 : decode cX2_judged 119 = .ok (.aload_n 0, 1) := by decide +kernel
theorem dX2_judged_120 : decode cX2_judged 120 = .ok (.getfield 11, 3) := by decide +kernel
theorem dX2_judged_123 : decode cX2_judged 123 = .ok (.iconst 5, 1) := by decide +kernel
theorem dX2_judged_124 : decode cX2_judged 124 = .ok (.iaload, 1) := by decide +kernel
theorem dX2_judged_125 : decode cX2_judged 125 = .ok (.aload_n 0, 1) := by decide +kernel
theorem dX2_judged_126 : decode cX2_judged 126 = .ok (.getfield 11, 3) := by decide +kernel
theorem dX2_judged_129 : decode cX2_judged 129 = .ok (.bipush 6, 2) := by decide +kernel
theorem dX2_judged_131 : decode cX2_judged 131 = .ok (.iaload, 1) := by decide +kernel
theorem dX2_judged_132 : decode cX2_judged 132 = .ok (.imul, 1) := by decide +kernel
theorem dX2_judged_133 : decode cX2_judged 133 = .ok (.ireturn, 1) := by decide +kernel
theorem dX2_turn_0 : decode cX2_turn 0 = .ok (.aload_n 1, 1) := by decide +kernel
theorem dX2_turn_1 : decode cX2_turn 1 = .ok (.arraylength, 1) := by decide +kernel
theorem dX2_turn_2 : decode cX2_turn 2 = .ok (.iconst 5, 1) := by decide +kernel
theorem dX2_turn_3 : decode cX2_turn 3 = .ok (.if_icmp .ge 4, 3) := by decide +kernel
theorem dX2_turn_6 : decode cX2_turn 6 = .ok (.return_, 1) := by decide +kernel
theorem dX2_turn_7 : decode cX2_turn 7 = .ok (.aload_n 1, 1) := by decide +kernel
theorem dX2_turn_8 : decode cX2_turn 8 = .ok (.iconst 3, 1) := by decide +kernel
theorem dX2_turn_9 : decode cX2_turn 9 = .ok (.dup2, 1) := by decide +kernel
theorem dX2_turn_10 : decode cX2_turn 10 = .ok (.iaload, 1) := by decide +kernel
theorem dX2_turn_11 : decode cX2_turn 11 = .ok (.iconst 1, 1) := by decide +kernel
theorem dX2_turn_12 : decode cX2_turn 12 = .ok (.iadd, 1) := by decide +kernel
theorem dX2_turn_13 : decode cX2_turn 13 = .ok (.iastore, 1) := by decide +kernel
theorem dX2_turn_14 : decode cX2_turn 14 = .ok (.aload_n 0, 1) := by decide +kernel
theorem dX2_turn_15 : decode cX2_turn 15 = .ok (.aload_n 1, 1) := by decide +kernel
theorem dX2_turn_16 : decode cX2_turn 16 = .ok (.iconst 3, 1) := by decide +kernel
theorem dX2_turn_17 : decode cX2_turn 17 = .ok (.iaload, 1) := by decide +kernel
theorem dX2_turn_18 : decode cX2_turn 18 = .ok (.aload_n 1, 1) := by decide +kernel
theorem dX2_turn_19 : decode cX2_turn 19 = .ok (.iconst 0, 1) := by decide +kernel
theorem dX2_turn_20 : decode cX2_turn 20 = .ok (.iaload, 1) := by decide +kernel
theorem dX2_turn_21 : decode cX2_turn 21 = .ok (.aload_n 1, 1) := by decide +kernel
theorem dX2_turn_22 : decode cX2_turn 22 = .ok (.iconst 1, 1) := by decide +kernel
theorem dX2_turn_23 : decode cX2_turn 23 = .ok (.iaload, 1) := by decide +kernel
theorem dX2_turn_24 : decode cX2_turn 24 = .ok (.invokevirtual 60, 3) := by decide +kernel
theorem dX2_turn_27 : decode cX2_turn 27 = .ok (.aload_n 0, 1) := by decide +kernel
theorem dX2_turn_28 : decode cX2_turn 28 = .ok (.getfield 11, 3) := by decide +kernel
theorem dX2_turn_31 : decode cX2_turn 31 = .ok (.iconst 3, 1) := by decide +kernel
theorem dX2_turn_32 : decode cX2_turn 32 = .ok (.iload_n 3, 1) := by decide +kernel
theorem dX2_turn_33 : decode cX2_turn 33 = .ok (.iastore, 1) := by decide +kernel
theorem dX2_turn_34 : decode cX2_turn 34 = .ok (.aload_n 1, 1) := by decide +kernel
theorem dX2_turn_35 : decode cX2_turn 35 = .ok (.iconst 0, 1) := by decide +kernel
theorem dX2_turn_36 : decode cX2_turn 36 = .ok (.aload_n 1, 1) := by decide +kernel
theorem dX2_turn_37 : decode cX2_turn 37 = .ok (.iconst 0, 1) := by decide +kernel
theorem dX2_turn_38 : decode cX2_turn 38 = .ok (.iaload, 1) := by decide +kernel
theorem dX2_turn_39 : decode cX2_turn 39 = .ok (.aload_n 0, 1) := by decide +kernel
theorem dX2_turn_40 : decode cX2_turn 40 = .ok (.aload_n 2, 1) := by decide +kernel
theorem dX2_turn_41 : decode cX2_turn 41 = .ok (.invokevirtual 64, 3) := by decide +kernel
theorem dX2_turn_44 : decode cX2_turn 44 = .ok (.iadd, 1) := by decide +kernel
theorem dX2_turn_45 : decode cX2_turn 45 = .ok (.iconst 4, 1) := by decide +kernel
theorem dX2_turn_46 : decode cX2_turn 46 = .ok (.invokestatic 68, 3) := by decide +kernel
theorem dX2_turn_49 : decode cX2_turn 49 = .ok (.iastore, 1) := by decide +kernel
theorem dX2_turn_50 : decode cX2_turn 50 = .ok (.aload_n 0, 1) := by decide +kernel
theorem dX2_turn_51 : decode cX2_turn 51 = .ok (.getfield 11, 3) := by decide +kernel
theorem dX2_turn_54 : decode cX2_turn 54 = .ok (.iconst 1, 1) := by decide +kernel
theorem dX2_turn_55 : decode cX2_turn 55 = .ok (.aload_n 1, 1) := by decide +kernel
theorem dX2_turn_56 : decode cX2_turn 56 = .ok (.iconst 0, 1) := by decide +kernel
theorem dX2_turn_57 : decode cX2_turn 57 = .ok (.iaload, 1) := by decide +kernel
theorem dX2_turn_58 : decode cX2_turn 58 = .ok (.iastore, 1) := by decide +kernel
theorem dX2_turn_59 : decode cX2_turn 59 = .ok (.aload_n 1, 1) := by decide +kernel
theorem dX2_turn_60 : decode cX2_turn 60 = .ok (.iconst 1, 1) := by decide +kernel
theorem dX2_turn_61 : decode cX2_turn 61 = .ok (.aload_n 0, 1) := by decide +kernel
theorem dX2_turn_62 : decode cX2_turn 62 = .ok (.aload_n 2, 1) := by decide +kernel
theorem dX2_turn_63 : decode cX2_turn 63 = .ok (.invokevirtual 71, 3) := by decide +kernel
theorem dX2_turn_66 : decode cX2_turn 66 = .ok (.iastore, 1) := by decide +kernel
theorem dX2_turn_67 : decode cX2_turn 67 = .ok (.aload_n 0, 1) := by decide +kernel
theorem dX2_turn_68 : decode cX2_turn 68 = .ok (.getfield 11, 3) := by decide +kernel
theorem dX2_turn_71 : decode cX2_turn 71 = .ok (.iconst 2, 1) := by decide +kernel
theorem dX2_turn_72 : decode cX2_turn 72 = .ok (.aload_n 1, 1) := by decide +kernel
theorem dX2_turn_73 : decode cX2_turn 73 = .ok (.iconst 1, 1) := by decide +kernel
theorem dX2_turn_74 : decode cX2_turn 74 = .ok (.iaload, 1) := by decide +kernel
theorem dX2_turn_75 : decode cX2_turn 75 = .ok (.iastore, 1) := by decide +kernel
theorem dX2_turn_76 : decode cX2_turn 76 = .ok (.aload_n 1, 1) := by decide +kernel
theorem dX2_turn_77 : decode cX2_turn 77 = .ok (.iconst 2, 1) := by decide +kernel
theorem dX2_turn_78 : decode cX2_turn 78 = .ok (.aload_n 0, 1) := by decide +kernel
theorem dX2_turn_79 : decode cX2_turn 79 = .ok (.aload_n 2, 1) := by decide +kernel
theorem dX2_turn_80 : decode cX2_turn 80 = .ok (.invokevirtual 74, 3) := by decide +kernel
theorem dX2_turn_83 : decode cX2_turn 83 = .ok (.ifCond .eq 7, 3) := by decide +kernel
theorem dX2_turn_86 : decode cX2_turn 86 = .ok (.iconst 1, 1) := by decide +kernel
theorem dX2_turn_87 : decode cX2_turn 87 = .ok (.goto 4, 3) := by decide +kernel
theorem dX2_turn_90 : decode cX2_turn 90 = .ok (.iconst 0, 1) := by decide +kernel
theorem dX2_turn_91 : decode cX2_turn 91 = .ok (.iastore, 1) := by decide +kernel
theorem dX2_turn_92 : decode cX2_turn 92 = .ok (.return_, 1) := by decide +kernel
theorem dX2_veered_0 : decode cX2_veered 0 = .ok (.aload_n 1, 1) := by decide +kernel
theorem dX2_veered_1 : decode cX2_veered 1 = .ok (.ifnull 27, 3) := by decide +kernel
theorem dX2_veered_4 : decode cX2_veered 4 = .ok (.aload_n 1, 1) := by decide +kernel
theorem dX2_veered_5 : decode cX2_veered 5 = .ok (.iconst 4, 1) := by decide +kernel
theorem dX2_veered_6 : decode cX2_veered 6 = .ok (.invokevirtual 32, 3) := by decide +kernel
theorem dX2_veered_9 : decode cX2_veered 9 = .ok (.ifCond .eq 19, 3) := by decide +kernel
theorem dX2_veered_12 : decode cX2_veered 12 = .ok (.bipush (-3), 2) := by decide +kernel
theorem dX2_veered_14 : decode cX2_veered 14 = .ok (.iconst 3, 1) := by decide +kernel
theorem dX2_veered_15 : decode cX2_veered 15 = .ok (.aload_n 0, 1) := by decide +kernel
theorem dX2_veered_16 : decode cX2_veered 16 = .ok (.aload_n 1, 1) := by decide +kernel
theorem dX2_veered_17 : decode cX2_veered 17 = .ok (.iconst 4, 1) := by decide +kernel
theorem dX2_veered_18 : decode cX2_veered 18 = .ok (.invokevirtual 38, 3) := by decide +kernel
theorem dX2_veered_21 : decode cX2_veered 21 = .ok (.invokestatic 52, 3) := by decide +kernel
theorem dX2_veered_24 : decode cX2_veered 24 = .ok (.invokestatic 57, 3) := by decide +kernel
theorem dX2_veered_27 : decode cX2_veered 27 = .ok (.ireturn, 1) := by decide +kernel
theorem dX2_veered_28 : decode cX2_veered 28 = .ok (.aload_n 0, 1) := by decide +kernel
theorem dX2_veered_29 : decode cX2_veered 29 = .ok (.getfield 11, 3) := by decide +kernel
theorem dX2_veered_32 : decode cX2_veered 32 = .ok (.iconst 3, 1) := by decide +kernel
theorem dX2_veered_33 : decode cX2_veered 33 = .ok (.iaload, 1) := by decide +kernel
theorem dX2_veered_34 : decode cX2_veered 34 = .ok (.istore_n 2, 1) := by decide +kernel
theorem dX2_veered_35 : decode cX2_veered 35 = .ok (.iload_n 2, 1) := by decide +kernel
theorem dX2_veered_36 : decode cX2_veered 36 = .ok (.ifCond .ne 5, 3) := by decide +kernel
theorem dX2_veered_39 : decode cX2_veered 39 = .ok (.iconst 1, 1) := by decide +kernel
theorem dX2_veered_40 : decode cX2_veered 40 = .ok (.ireturn, 1) := by decide +kernel
theorem dX2_veered_41 : decode cX2_veered 41 = .ok (.iload_n 2, 1) := by decide +kernel
theorem dX2_veered_42 : decode cX2_veered 42 = .ok (.iconst 1, 1) := by decide +kernel
theorem dX2_veered_43 : decode cX2_veered 43 = .ok (.if_icmp .ne 7, 3) := by decide +kernel
theorem dX2_veered_46 : decode cX2_veered 46 = .ok (.iconst (-1), 1) := by decide +kernel
theorem dX2_veered_47 : decode cX2_veered 47 = .ok (.goto 4, 3) := by decide +kernel
theorem dX2_veered_50 : decode cX2_veered 50 = .ok (.iconst 0, 1) := by decide +kernel
theorem dX2_veered_51 : decode cX2_veered 51 = .ok (.ireturn, 1) := by decide +kernel
theorem dX2_blown_0 : decode cX2_blown 0 = .ok (.aload_n 1, 1) := by decide +kernel
theorem dX2_blown_1 : decode cX2_blown 1 = .ok (.ifnull 27, 3) := by decide +kernel
theorem dX2_blown_4 : decode cX2_blown 4 = .ok (.aload_n 1, 1) := by decide +kernel
theorem dX2_blown_5 : decode cX2_blown 5 = .ok (.iconst 5, 1) := by decide +kernel
theorem dX2_blown_6 : decode cX2_blown 6 = .ok (.invokevirtual 32, 3) := by decide +kernel
theorem dX2_blown_9 : decode cX2_blown 9 = .ok (.ifCond .eq 19, 3) := by decide +kernel
theorem dX2_blown_12 : decode cX2_blown 12 = .ok (.iconst 0, 1) := by decide +kernel
theorem dX2_blown_13 : decode cX2_blown 13 = .ok (.bipush 9, 2) := by decide +kernel
theorem dX2_blown_15 : decode cX2_blown 15 = .ok (.aload_n 0, 1) := by decide +kernel
theorem dX2_blown_16 : decode cX2_blown 16 = .ok (.aload_n 1, 1) := by decide +kernel
theorem dX2_blown_17 : decode cX2_blown 17 = .ok (.iconst 5, 1) := by decide +kernel
theorem dX2_blown_18 : decode cX2_blown 18 = .ok (.invokevirtual 38, 3) := by decide +kernel
theorem dX2_blown_21 : decode cX2_blown 21 = .ok (.invokestatic 52, 3) := by decide +kernel
theorem dX2_blown_24 : decode cX2_blown 24 = .ok (.invokestatic 57, 3) := by decide +kernel
theorem dX2_blown_27 : decode cX2_blown 27 = .ok (.ireturn, 1) := by decide +kernel
theorem dX2_blown_28 : decode cX2_blown 28 = .ok (.aload_n 0, 1) := by decide +kernel
theorem dX2_blown_29 : decode cX2_blown 29 = .ok (.getfield 11, 3) := by decide +kernel
theorem dX2_blown_32 : decode cX2_blown 32 = .ok (.iconst 3, 1) := by decide +kernel
theorem dX2_blown_33 : decode cX2_blown 33 = .ok (.iaload, 1) := by decide +kernel
theorem dX2_blown_34 : decode cX2_blown 34 = .ok (.ireturn, 1) := by decide +kernel
theorem dX2_isFoggy_0 : decode cX2_isFoggy 0 = .ok (.aload_n 1, 1) := by decide +kernel
theorem dX2_isFoggy_1 : decode cX2_isFoggy 1 = .ok (.ifnull 28, 3) := by decide +kernel
theorem dX2_isFoggy_4 : decode cX2_isFoggy 4 = .ok (.aload_n 1, 1) := by decide +kernel
theorem dX2_isFoggy_5 : decode cX2_isFoggy 5 = .ok (.bipush 6, 2) := by decide +kernel
theorem dX2_isFoggy_7 : decode cX2_isFoggy 7 = .ok (.invokevirtual 32, 3) := by decide +kernel
theorem dX2_isFoggy_10 : decode cX2_isFoggy 10 = .ok (.ifCond .eq 19, 3) := by decide +kernel
theorem dX2_isFoggy_13 : decode cX2_isFoggy 13 = .ok (.aload_n 0, 1) := by decide +kernel
theorem dX2_isFoggy_14 : decode cX2_isFoggy 14 = .ok (.aload_n 1, 1) := by decide +kernel
theorem dX2_isFoggy_15 : decode cX2_isFoggy 15 = .ok (.bipush 6, 2) := by decide +kernel
theorem dX2_isFoggy_17 : decode cX2_isFoggy 17 = .ok (.invokevirtual 38, 3) := by decide +kernel
theorem dX2_isFoggy_20 : decode cX2_isFoggy 20 = .ok (.ifCond .eq 7, 3) := by decide +kernel
theorem dX2_isFoggy_23 : decode cX2_isFoggy 23 = .ok (.iconst 1, 1) := by decide +kernel
theorem dX2_isFoggy_24 : decode cX2_isFoggy 24 = .ok (.goto 4, 3) := by decide +kernel
theorem dX2_isFoggy_27 : decode cX2_isFoggy 27 = .ok (.iconst 0, 1) := by decide +kernel
theorem dX2_isFoggy_28 : decode cX2_isFoggy 28 = .ok (.ireturn, 1) := by decide +kernel
theorem dX2_isFoggy_29 : decode cX2_isFoggy 29 = .ok (.aload_n 0, 1) := by decide +kernel
theorem dX2_isFoggy_30 : decode cX2_isFoggy 30 = .ok (.getfield 11, 3) := by decide +kernel
theorem dX2_isFoggy_33 : decode cX2_isFoggy 33 = .ok (.iconst 2, 1) := by decide +kernel
theorem dX2_isFoggy_34 : decode cX2_isFoggy 34 = .ok (.iaload, 1) := by decide +kernel
theorem dX2_isFoggy_35 : decode cX2_isFoggy 35 = .ok (.iconst 2, 1) := by decide +kernel
theorem dX2_isFoggy_36 : decode cX2_isFoggy 36 = .ok (.if_icmp .ge 20, 3) := by decide +kernel
theorem dX2_isFoggy_39 : decode cX2_isFoggy 39 = .ok (.aload_n 0, 1) := by decide +kernel
theorem dX2_isFoggy_40 : decode cX2_isFoggy 40 = .ok (.getfield 11, 3) := by decide +kernel
theorem dX2_isFoggy_43 : decode cX2_isFoggy 43 = .ok (.iconst 0, 1) := by decide +kernel
theorem dX2_isFoggy_44 : decode cX2_isFoggy 44 = .ok (.iaload, 1) := by decide +kernel
theorem dX2_isFoggy_45 : decode cX2_isFoggy 45 = .ok (.bipush 10, 2) := by decide +kernel
theorem dX2_isFoggy_47 : decode cX2_isFoggy 47 = .ok (.irem, 1) := by decide +kernel
theorem dX2_isFoggy_48 : decode cX2_isFoggy 48 = .ok (.iconst 3, 1) := by decide +kernel
theorem dX2_isFoggy_49 : decode cX2_isFoggy 49 = .ok (.if_icmp .ge 7, 3) := by decide +kernel
theorem dX2_isFoggy_52 : decode cX2_isFoggy 52 = .ok (.iconst 1, 1) := by decide +kernel
theorem dX2_isFoggy_53 : decode cX2_isFoggy 53 = .ok (.goto 4, 3) := by decide +kernel
theorem dX2_isFoggy_56 : decode cX2_isFoggy 56 = .ok (.iconst 0, 1) := by decide +kernel
theorem dX2_isFoggy_57 : decode cX2_isFoggy 57 = .ok (.ireturn, 1) := by decide +kernel
theorem dX2_worth_0 : decode cX2_worth 0 = .ok (.aload_n 1, 1) := by decide +kernel
theorem dX2_worth_1 : decode cX2_worth 1 = .ok (.iload_n 2, 1) := by decide +kernel
theorem dX2_worth_2 : decode cX2_worth 2 = .ok (.invokevirtual 32, 3) := by decide +kernel
theorem dX2_worth_5 : decode cX2_worth 5 = .ok (.ifCond .ne 5, 3) := by decide +kernel
theorem dX2_worth_8 : decode cX2_worth 8 = .ok (.iconst 0, 1) := by decide +kernel
theorem dX2_worth_9 : decode cX2_worth 9 = .ok (.ireturn, 1) := by decide +kernel
theorem dX2_worth_10 : decode cX2_worth 10 = .ok (.iconst 0, 1) := by decide +kernel
theorem dX2_worth_11 : decode cX2_worth 11 = .ok (.istore_n 3, 1) := by decide +kernel
theorem dX2_worth_12 : decode cX2_worth 12 = .ok (.aload_n 1, 1) := by decide +kernel
theorem dX2_worth_13 : decode cX2_worth 13 = .ok (.getfield 78, 3) := by decide +kernel
theorem dX2_worth_16 : decode cX2_worth 16 = .ok (.iload_n 2, 1) := by decide +kernel
theorem dX2_worth_17 : decode cX2_worth 17 = .ok (.iaload, 1) := by decide +kernel
theorem dX2_worth_18 : decode cX2_worth 18 = .ok (.istore 4, 2) := by decide +kernel
theorem dX2_worth_20 : decode cX2_worth 20 = .ok (.iload 4, 2) := by decide +kernel
theorem dX2_worth_22 : decode cX2_worth 22 = .ok (.aload_n 1, 1) := by decide +kernel
theorem dX2_worth_23 : decode cX2_worth 23 = .ok (.getfield 81, 3) := by decide +kernel
theorem dX2_worth_26 : decode cX2_worth 26 = .ok (.iload_n 2, 1) := by decide +kernel
theorem dX2_worth_27 : decode cX2_worth 27 = .ok (.iaload, 1) := by decide +kernel
theorem dX2_worth_28 : decode cX2_worth 28 = .ok (.if_icmp .ge 237, 3) := by decide +kernel
theorem dX2_worth_31 : decode cX2_worth 31 = .ok (.iload 4, 2) := by decide +kernel
theorem dX2_worth_33 : decode cX2_worth 33 = .ok (.aload_n 1, 1) := by decide +kernel
theorem dX2_worth_34 : decode cX2_worth 34 = .ok (.getfield 84, 3) := by decide +kernel
theorem dX2_worth_37 : decode cX2_worth 37 = .ok (.arraylength, 1) := by decide +kernel
theorem dX2_worth_38 : decode cX2_worth 38 = .ok (.if_icmp .ge 227, 3) := by decide +kernel
theorem dX2_worth_41 : decode cX2_worth 41 = .ok (.aload_n 1, 1) := by decide +kernel
theorem dX2_worth_42 : decode cX2_worth 42 = .ok (.getfield 84, 3) := by decide +kernel
theorem dX2_worth_45 : decode cX2_worth 45 = .ok (.iload 4, 2) := by decide +kernel
theorem dX2_worth_47 : decode cX2_worth 47 = .ok (.iaload, 1) := by decide +kernel
theorem dX2_worth_48 : decode cX2_worth 48 = .ok (.bipush 14, 2) := by decide +kernel
theorem dX2_worth_50 : decode cX2_worth 50 = .ok (.ishr, 1) := by decide +kernel
theorem dX2_worth_51 : decode cX2_worth 51 = .ok (.istore 5, 2) := by decide +kernel
theorem dX2_worth_53 : decode cX2_worth 53 = .ok (.aload_n 1, 1) := by decide +kernel
theorem dX2_worth_54 : decode cX2_worth 54 = .ok (.getfield 84, 3) := by decide +kernel
theorem dX2_worth_57 : decode cX2_worth 57 = .ok (.iload 4, 2) := by decide +kernel
theorem dX2_worth_59 : decode cX2_worth 59 = .ok (.iaload, 1) := by decide +kernel
theorem dX2_worth_60 : decode cX2_worth 60 = .ok (.sipush 16383, 3) := by decide +kernel
theorem dX2_worth_63 : decode cX2_worth 63 = .ok (.iand, 1) := by decide +kernel
theorem dX2_worth_64 : decode cX2_worth 64 = .ok (.istore 6, 2) := by decide +kernel
theorem dX2_worth_66 : decode cX2_worth 66 = .ok (.iload_n 3, 1) := by decide +kernel
theorem dX2_worth_67 : decode cX2_worth 67 = .ok (.iload 5, 2) := by decide +kernel
theorem dX2_worth_69 : decode cX2_worth 69 = .ok (.bipush 25, 2) := by decide +kernel
theorem dX2_worth_71 : decode cX2_worth 71 = .ok (.if_icmp .ne 8, 3) := by decide +kernel
theorem dX2_worth_74 : decode cX2_worth 74 = .ok (.iload 6, 2) := by decide +kernel
theorem dX2_worth_76 : decode cX2_worth 76 = .ok (.goto 8, 3) := by decide +kernel
theorem dX2_worth_79 : decode cX2_worth 79 = .ok (.iload 5, 2) := by decide +kernel
theorem dX2_worth_81 : decode cX2_worth 81 = .ok (.invokestatic 89, 3) := by decide +kernel
theorem dX2_worth_84 : decode cX2_worth 84 = .ok (.isub, 1) := by decide +kernel
theorem dX2_worth_85 : decode cX2_worth 85 = .ok (.istore_n 3, 1) := by decide +kernel
theorem dX2_worth_86 : decode cX2_worth 86 = .ok (.iload_n 3, 1) := by decide +kernel
theorem dX2_worth_87 : decode cX2_worth 87 = .ok (.ifCond .lt 14, 3) := by decide +kernel
theorem dX2_worth_90 : decode cX2_worth 90 = .ok (.iload_n 3, 1) := by decide +kernel
theorem dX2_worth_91 : decode cX2_worth 91 = .ok (.iconst 1, 1) := by decide +kernel
theorem dX2_worth_92 : decode cX2_worth 92 = .ok (.iadd, 1) := by decide +kernel
theorem dX2_worth_93 : decode cX2_worth 93 = .ok (.aload_n 0, 1) := by decide +kernel
theorem dX2_worth_94 : decode cX2_worth 94 = .ok (.getfield 19, 3) := by decide +kernel
theorem dX2_worth_97 : decode cX2_worth 97 = .ok (.arraylength, 1) := by decide +kernel
theorem dX2_worth_98 : decode cX2_worth 98 = .ok (.if_icmp .lt 5, 3) := by decide +kernel
theorem dX2_worth_101 : decode cX2_worth 101 = .ok (.iconst 0, 1) := by decide +kernel
theorem dX2_worth_102 : decode cX2_worth 102 = .ok (.ireturn, 1) := by decide +kernel
theorem dX2_worth_103 : decode cX2_worth 103 = .ok (.iload 5, 2) := by decide +kernel
theorem dX2_worth_105 : decode cX2_worth 105 = .ok (.lookupswitch 126 #[(24, 84), (25, 102), (72, 43), (75, 54)], 43) := by decide +kernel
theorem dX2_worth_148 : decode cX2_worth 148 = .ok (.aload_n 0, 1) := by decide +kernel
theorem dX2_worth_149 : decode cX2_worth 149 = .ok (.getfield 19, 3) := by decide +kernel
theorem dX2_worth_152 : decode cX2_worth 152 = .ok (.iload_n 3, 1) := by decide +kernel
theorem dX2_worth_153 : decode cX2_worth 153 = .ok (.iload 6, 2) := by decide +kernel
theorem dX2_worth_155 : decode cX2_worth 155 = .ok (.iastore, 1) := by decide +kernel
theorem dX2_worth_156 : decode cX2_worth 156 = .ok (.goto 100, 3) := by decide +kernel
theorem dX2_worth_159 : decode cX2_worth 159 = .ok (.aload_n 0, 1) := by decide +kernel
theorem dX2_worth_160 : decode cX2_worth 160 = .ok (.getfield 19, 3) := by decide +kernel
theorem dX2_worth_163 : decode cX2_worth 163 = .ok (.iload_n 3, 1) := by decide +kernel
theorem dX2_worth_164 : decode cX2_worth 164 = .ok (.iload 6, 2) := by decide +kernel
theorem dX2_worth_166 : decode cX2_worth 166 = .ok (.aload_n 0, 1) := by decide +kernel
theorem dX2_worth_167 : decode cX2_worth 167 = .ok (.getfield 11, 3) := by decide +kernel
theorem dX2_worth_170 : decode cX2_worth 170 = .ok (.arraylength, 1) := by decide +kernel
theorem dX2_worth_171 : decode cX2_worth 171 = .ok (.if_icmp .ge 13, 3) := by decide +kernel
theorem dX2_worth_174 : decode cX2_worth 174 = .ok (.aload_n 0, 1) := by decide +kernel
theorem dX2_worth_175 : decode cX2_worth 175 = .ok (.getfield 11, 3) := by decide +kernel
theorem dX2_worth_178 : decode cX2_worth 178 = .ok (.iload 6, 2) := by decide +kernel
theorem dX2_worth_180 : decode cX2_worth 180 = .ok (.iaload, 1) := by decide +kernel
theorem dX2_worth_181 : decode cX2_worth 181 = .ok (.goto 4, 3) := by decide +kernel
theorem dX2_worth_184 : decode cX2_worth 184 = .ok (.iconst 0, 1) := by decide +kernel
theorem dX2_worth_185 : decode cX2_worth 185 = .ok (.iastore, 1) := by decide +kernel
theorem dX2_worth_186 : decode cX2_worth 186 = .ok (.goto 70, 3) := by decide +kernel
theorem dX2_worth_189 : decode cX2_worth 189 = .ok (.aload_n 0, 1) := by decide +kernel
theorem dX2_worth_190 : decode cX2_worth 190 = .ok (.getfield 19, 3) := by decide +kernel
theorem dX2_worth_193 : decode cX2_worth 193 = .ok (.iload_n 3, 1) := by decide +kernel
theorem dX2_worth_194 : decode cX2_worth 194 = .ok (.aload_n 0, 1) := by decide +kernel
theorem dX2_worth_195 : decode cX2_worth 195 = .ok (.getfield 28, 3) := by decide +kernel
theorem dX2_worth_198 : decode cX2_worth 198 = .ok (.iload 6, 2) := by decide +kernel
theorem dX2_worth_200 : decode cX2_worth 200 = .ok (.ishr, 1) := by decide +kernel
theorem dX2_worth_201 : decode cX2_worth 201 = .ok (.iconst 1, 1) := by decide +kernel
theorem dX2_worth_202 : decode cX2_worth 202 = .ok (.iand, 1) := by decide +kernel
theorem dX2_worth_203 : decode cX2_worth 203 = .ok (.iastore, 1) := by decide +kernel
theorem dX2_worth_204 : decode cX2_worth 204 = .ok (.goto 52, 3) := by decide +kernel
theorem dX2_worth_207 : decode cX2_worth 207 = .ok (.aload_n 0, 1) := by decide +kernel
theorem dX2_worth_208 : decode cX2_worth 208 = .ok (.getfield 19, 3) := by decide +kernel
theorem dX2_worth_211 : decode cX2_worth 211 = .ok (.iload_n 3, 1) := by decide +kernel
theorem dX2_worth_212 : decode cX2_worth 212 = .ok (.aload_n 0, 1) := by decide +kernel
theorem dX2_worth_213 : decode cX2_worth 213 = .ok (.iload_n 3, 1) := by decide +kernel
theorem dX2_worth_214 : decode cX2_worth 214 = .ok (.iload 6, 2) := by decide +kernel
theorem dX2_worth_216 : decode cX2_worth 216 = .ok (.invokevirtual 92, 3) := by decide +kernel
theorem dX2_worth_219 : decode cX2_worth 219 = .ok (.ifCond .eq 7, 3) := by decide +kernel
theorem dX2_worth_222 : decode cX2_worth 222 = .ok (.iconst 1, 1) := by decide +kernel
theorem dX2_worth_223 : decode cX2_worth 223 = .ok (.goto 4, 3) := by decide +kernel
theorem dX2_worth_226 : decode cX2_worth 226 = .ok (.iconst 0, 1) := by decide +kernel
theorem dX2_worth_227 : decode cX2_worth 227 = .ok (.iastore, 1) := by decide +kernel
theorem dX2_worth_228 : decode cX2_worth 228 = .ok (.goto 28, 3) := by decide +kernel
theorem dX2_worth_231 : decode cX2_worth 231 = .ok (.aload_n 0, 1) := by decide +kernel
theorem dX2_worth_232 : decode cX2_worth 232 = .ok (.getfield 19, 3) := by decide +kernel
theorem dX2_worth_235 : decode cX2_worth 235 = .ok (.iload_n 3, 1) := by decide +kernel
theorem dX2_worth_236 : decode cX2_worth 236 = .ok (.iload 5, 2) := by decide +kernel
theorem dX2_worth_238 : decode cX2_worth 238 = .ok (.aload_n 0, 1) := by decide +kernel
theorem dX2_worth_239 : decode cX2_worth 239 = .ok (.getfield 19, 3) := by decide +kernel
theorem dX2_worth_242 : decode cX2_worth 242 = .ok (.iload_n 3, 1) := by decide +kernel
theorem dX2_worth_243 : decode cX2_worth 243 = .ok (.iaload, 1) := by decide +kernel
theorem dX2_worth_244 : decode cX2_worth 244 = .ok (.aload_n 0, 1) := by decide +kernel
theorem dX2_worth_245 : decode cX2_worth 245 = .ok (.getfield 19, 3) := by decide +kernel
theorem dX2_worth_248 : decode cX2_worth 248 = .ok (.iload_n 3, 1) := by decide +kernel
theorem dX2_worth_249 : decode cX2_worth 249 = .ok (.iconst 1, 1) := by decide +kernel
theorem dX2_worth_250 : decode cX2_worth 250 = .ok (.iadd, 1) := by decide +kernel
theorem dX2_worth_251 : decode cX2_worth 251 = .ok (.iaload, 1) := by decide +kernel
theorem dX2_worth_252 : decode cX2_worth 252 = .ok (.invokestatic 96, 3) := by decide +kernel
theorem dX2_worth_255 : decode cX2_worth 255 = .ok (.iastore, 1) := by decide +kernel
theorem dX2_worth_256 : decode cX2_worth 256 = .ok (.iinc 3 1, 3) := by decide +kernel
theorem dX2_worth_259 : decode cX2_worth 259 = .ok (.iinc 4 1, 3) := by decide +kernel
theorem dX2_worth_262 : decode cX2_worth 262 = .ok (.goto (-242), 3) := by decide +kernel
theorem dX2_worth_265 : decode cX2_worth 265 = .ok (.aload_n 0, 1) := by decide +kernel
theorem dX2_worth_266 : decode cX2_worth 266 = .ok (.getfield 19, 3) := by decide +kernel
theorem dX2_worth_269 : decode cX2_worth 269 = .ok (.iconst 0, 1) := by decide +kernel
theorem dX2_worth_270 : decode cX2_worth 270 = .ok (.iaload, 1) := by decide +kernel
theorem dX2_worth_271 : decode cX2_worth 271 = .ok (.ireturn, 1) := by decide +kernel
theorem dX2_wants_0 : decode cX2_wants 0 = .ok (.iload_n 0, 1) := by decide +kernel
theorem dX2_wants_1 : decode cX2_wants 1 = .ok (.bipush 72, 2) := by decide +kernel
theorem dX2_wants_3 : decode cX2_wants 3 = .ok (.if_icmp .eq 15, 3) := by decide +kernel
theorem dX2_wants_6 : decode cX2_wants 6 = .ok (.iload_n 0, 1) := by decide +kernel
theorem dX2_wants_7 : decode cX2_wants 7 = .ok (.bipush 75, 2) := by decide +kernel
theorem dX2_wants_9 : decode cX2_wants 9 = .ok (.if_icmp .eq 9, 3) := by decide +kernel
theorem dX2_wants_12 : decode cX2_wants 12 = .ok (.iload_n 0, 1) := by decide +kernel
theorem dX2_wants_13 : decode cX2_wants 13 = .ok (.bipush 24, 2) := by decide +kernel
theorem dX2_wants_15 : decode cX2_wants 15 = .ok (.if_icmp .ne 5, 3) := by decide +kernel
theorem dX2_wants_18 : decode cX2_wants 18 = .ok (.iconst 0, 1) := by decide +kernel
theorem dX2_wants_19 : decode cX2_wants 19 = .ok (.ireturn, 1) := by decide +kernel
theorem dX2_wants_20 : decode cX2_wants 20 = .ok (.iload_n 0, 1) := by decide +kernel
theorem dX2_wants_21 : decode cX2_wants 21 = .ok (.bipush 23, 2) := by decide +kernel
theorem dX2_wants_23 : decode cX2_wants 23 = .ok (.if_icmp .eq 9, 3) := by decide +kernel
theorem dX2_wants_26 : decode cX2_wants 26 = .ok (.iload_n 0, 1) := by decide +kernel
theorem dX2_wants_27 : decode cX2_wants 27 = .ok (.bipush 76, 2) := by decide +kernel
theorem dX2_wants_29 : decode cX2_wants 29 = .ok (.if_icmp .ne 7, 3) := by decide +kernel
theorem dX2_wants_32 : decode cX2_wants 32 = .ok (.iconst 1, 1) := by decide +kernel
theorem dX2_wants_33 : decode cX2_wants 33 = .ok (.goto 4, 3) := by decide +kernel
theorem dX2_wants_36 : decode cX2_wants 36 = .ok (.iconst 2, 1) := by decide +kernel
theorem dX2_wants_37 : decode cX2_wants 37 = .ok (.ireturn, 1) := by decide +kernel
theorem dX2_mostAreSo_0 : decode cX2_mostAreSo 0 = .ok (.iconst 0, 1) := by decide +kernel
theorem dX2_mostAreSo_1 : decode cX2_mostAreSo 1 = .ok (.istore_n 3, 1) := by decide +kernel
theorem dX2_mostAreSo_2 : decode cX2_mostAreSo 2 = .ok (.iload_n 1, 1) := by decide +kernel
theorem dX2_mostAreSo_3 : decode cX2_mostAreSo 3 = .ok (.istore 4, 2) := by decide +kernel
theorem dX2_mostAreSo_5 : decode cX2_mostAreSo 5 = .ok (.iload 4, 2) := by decide +kernel
theorem dX2_mostAreSo_7 : decode cX2_mostAreSo 7 = .ok (.iload_n 1, 1) := by decide +kernel
theorem dX2_mostAreSo_8 : decode cX2_mostAreSo 8 = .ok (.iload_n 2, 1) := by decide +kernel
theorem dX2_mostAreSo_9 : decode cX2_mostAreSo 9 = .ok (.iadd, 1) := by decide +kernel
theorem dX2_mostAreSo_10 : decode cX2_mostAreSo 10 = .ok (.if_icmp .ge 29, 3) := by decide +kernel
theorem dX2_mostAreSo_13 : decode cX2_mostAreSo 13 = .ok (.iload 4, 2) := by decide +kernel
theorem dX2_mostAreSo_15 : decode cX2_mostAreSo 15 = .ok (.aload_n 0, 1) := by decide +kernel
theorem dX2_mostAreSo_16 : decode cX2_mostAreSo 16 = .ok (.getfield 19, 3) := by decide +kernel
theorem dX2_mostAreSo_19 : decode cX2_mostAreSo 19 = .ok (.arraylength, 1) := by decide +kernel
theorem dX2_mostAreSo_20 : decode cX2_mostAreSo 20 = .ok (.if_icmp .ge 19, 3) := by decide +kernel
theorem dX2_mostAreSo_23 : decode cX2_mostAreSo 23 = .ok (.iload_n 3, 1) := by decide +kernel
theorem dX2_mostAreSo_24 : decode cX2_mostAreSo 24 = .ok (.aload_n 0, 1) := by decide +kernel
theorem dX2_mostAreSo_25 : decode cX2_mostAreSo 25 = .ok (.getfield 19, 3) := by decide +kernel
theorem dX2_mostAreSo_28 : decode cX2_mostAreSo 28 = .ok (.iload 4, 2) := by decide +kernel
theorem dX2_mostAreSo_30 : decode cX2_mostAreSo 30 = .ok (.iaload, 1) := by decide +kernel
theorem dX2_mostAreSo_31 : decode cX2_mostAreSo 31 = .ok (.iadd, 1) := by decide +kernel
theorem dX2_mostAreSo_32 : decode cX2_mostAreSo 32 = .ok (.istore_n 3, 1) := by decide +kernel
theorem dX2_mostAreSo_33 : decode cX2_mostAreSo 33 = .ok (.iinc 4 1, 3) := by decide +kernel
theorem dX2_mostAreSo_36 : decode cX2_mostAreSo 36 = .ok (.goto (-31), 3) := by decide +kernel
theorem dX2_mostAreSo_39 : decode cX2_mostAreSo 39 = .ok (.iconst 2, 1) := by decide +kernel
theorem dX2_mostAreSo_40 : decode cX2_mostAreSo 40 = .ok (.iload_n 3, 1) := by decide +kernel
theorem dX2_mostAreSo_41 : decode cX2_mostAreSo 41 = .ok (.imul, 1) := by decide +kernel
theorem dX2_mostAreSo_42 : decode cX2_mostAreSo 42 = .ok (.iload_n 2, 1) := by decide +kernel
theorem dX2_mostAreSo_43 : decode cX2_mostAreSo 43 = .ok (.if_icmp .le 7, 3) := by decide +kernel
theorem dX2_mostAreSo_46 : decode cX2_mostAreSo 46 = .ok (.iconst 1, 1) := by decide +kernel
theorem dX2_mostAreSo_47 : decode cX2_mostAreSo 47 = .ok (.goto 4, 3) := by decide +kernel
theorem dX2_mostAreSo_50 : decode cX2_mostAreSo 50 = .ok (.iconst 0, 1) := by decide +kernel
theorem dX2_mostAreSo_51 : decode cX2_mostAreSo 51 = .ok (.ireturn, 1) := by decide +kernel
theorem dX2_joined_0 : decode cX2_joined 0 = .ok (.lconst 0, 1) := by decide +kernel
theorem dX2_joined_1 : decode cX2_joined 1 = .ok (.lstore_n 3, 1) := by decide +kernel
theorem dX2_joined_2 : decode cX2_joined 2 = .ok (.iload_n 0, 1) := by decide +kernel
theorem dX2_joined_3 : decode cX2_joined 3 = .ok (.tableswitch 355 20 76 #[256, 252, 248, 241, 355, 355, 355, 355, 355, 355, 355, 355, 355, 355, 355, 295, 355, 355, 355, 355, 355, 355, 346, 328, 355, 337, 355, 355, 355, 355, 355, 355, 355, 355, 355, 355, 355, 355, 355, 355, 262, 284, 273, 355, 355, 355, 355, 355, 355, 355, 306, 317, 355, 355, 355, 355, 245], 241) := by decide +kernel
theorem dX2_joined_244 : decode cX2_joined 244 = .ok (.iconst 1, 1) := by decide +kernel
theorem dX2_joined_245 : decode cX2_joined 245 = .ok (.iload_n 1, 1) := by decide +kernel
theorem dX2_joined_246 : decode cX2_joined 246 = .ok (.isub, 1) := by decide +kernel
theorem dX2_joined_247 : decode cX2_joined 247 = .ok (.ireturn, 1) := by decide +kernel
theorem dX2_joined_248 : decode cX2_joined 248 = .ok (.iload_n 1, 1) := by decide +kernel
theorem dX2_joined_249 : decode cX2_joined 249 = .ok (.ineg, 1) := by decide +kernel
theorem dX2_joined_250 : decode cX2_joined 250 = .ok (.ireturn, 1) := by decide +kernel
theorem dX2_joined_251 : decode cX2_joined 251 = .ok (.iload_n 1, 1) := by decide +kernel
theorem dX2_joined_252 : decode cX2_joined 252 = .ok (.iload_n 2, 1) := by decide +kernel
theorem dX2_joined_253 : decode cX2_joined 253 = .ok (.iand, 1) := by decide +kernel
theorem dX2_joined_254 : decode cX2_joined 254 = .ok (.ireturn, 1) := by decide +kernel
theorem dX2_joined_255 : decode cX2_joined 255 = .ok (.iload_n 1, 1) := by decide +kernel
theorem dX2_joined_256 : decode cX2_joined 256 = .ok (.iload_n 2, 1) := by decide +kernel
theorem dX2_joined_257 : decode cX2_joined 257 = .ok (.ior, 1) := by decide +kernel
theorem dX2_joined_258 : decode cX2_joined 258 = .ok (.ireturn, 1) := by decide +kernel
theorem dX2_joined_259 : decode cX2_joined 259 = .ok (.iload_n 1, 1) := by decide +kernel
theorem dX2_joined_260 : decode cX2_joined 260 = .ok (.iconst 1, 1) := by decide +kernel
theorem dX2_joined_261 : decode cX2_joined 261 = .ok (.iload_n 2, 1) := by decide +kernel
theorem dX2_joined_262 : decode cX2_joined 262 = .ok (.isub, 1) := by decide +kernel
theorem dX2_joined_263 : decode cX2_joined 263 = .ok (.iand, 1) := by decide +kernel
theorem dX2_joined_264 : decode cX2_joined 264 = .ok (.ireturn, 1) := by decide +kernel
theorem dX2_joined_265 : decode cX2_joined 265 = .ok (.iload_n 1, 1) := by decide +kernel
theorem dX2_joined_266 : decode cX2_joined 266 = .ok (.iload_n 2, 1) := by decide +kernel
theorem dX2_joined_267 : decode cX2_joined 267 = .ok (.if_icmp .ge 7, 3) := by decide +kernel
theorem dX2_joined_270 : decode cX2_joined 270 = .ok (.iconst 1, 1) := by decide +kernel
theorem dX2_joined_271 : decode cX2_joined 271 = .ok (.goto 4, 3) := by decide +kernel
theorem dX2_joined_274 : decode cX2_joined 274 = .ok (.iconst 0, 1) := by decide +kernel
theorem dX2_joined_275 : decode cX2_joined 275 = .ok (.ireturn, 1) := by decide +kernel
theorem dX2_joined_276 : decode cX2_joined 276 = .ok (.iload_n 1, 1) := by decide +kernel
theorem dX2_joined_277 : decode cX2_joined 277 = .ok (.iload_n 2, 1) := by decide +kernel
theorem dX2_joined_278 : decode cX2_joined 278 = .ok (.if_icmp .le 7, 3) := by decide +kernel
theorem dX2_joined_281 : decode cX2_joined 281 = .ok (.iconst 1, 1) := by decide +kernel
theorem dX2_joined_282 : decode cX2_joined 282 = .ok (.goto 4, 3) := by decide +kernel
theorem dX2_joined_285 : decode cX2_joined 285 = .ok (.iconst 0, 1) := by decide +kernel
theorem dX2_joined_286 : decode cX2_joined 286 = .ok (.ireturn, 1) := by decide +kernel
theorem dX2_joined_287 : decode cX2_joined 287 = .ok (.iload_n 1, 1) := by decide +kernel
theorem dX2_joined_288 : decode cX2_joined 288 = .ok (.iload_n 2, 1) := by decide +kernel
theorem dX2_joined_289 : decode cX2_joined 289 = .ok (.if_icmp .ne 7, 3) := by decide +kernel
theorem dX2_joined_292 : decode cX2_joined 292 = .ok (.iconst 1, 1) := by decide +kernel
theorem dX2_joined_293 : decode cX2_joined 293 = .ok (.goto 4, 3) := by decide +kernel
theorem dX2_joined_296 : decode cX2_joined 296 = .ok (.iconst 0, 1) := by decide +kernel
theorem dX2_joined_297 : decode cX2_joined 297 = .ok (.ireturn, 1) := by decide +kernel
theorem dX2_joined_298 : decode cX2_joined 298 = .ok (.iload_n 1, 1) := by decide +kernel
theorem dX2_joined_299 : decode cX2_joined 299 = .ok (.iload_n 2, 1) := by decide +kernel
theorem dX2_joined_300 : decode cX2_joined 300 = .ok (.if_icmp .eq 7, 3) := by decide +kernel
theorem dX2_joined_303 : decode cX2_joined 303 = .ok (.iconst 1, 1) := by decide +kernel
theorem dX2_joined_304 : decode cX2_joined 304 = .ok (.goto 4, 3) := by decide +kernel
theorem dX2_joined_307 : decode cX2_joined 307 = .ok (.iconst 0, 1) := by decide +kernel
theorem dX2_joined_308 : decode cX2_joined 308 = .ok (.ireturn, 1) := by decide +kernel
theorem dX2_joined_309 : decode cX2_joined 309 = .ok (.iload_n 1, 1) := by decide +kernel
theorem dX2_joined_310 : decode cX2_joined 310 = .ok (.iload_n 2, 1) := by decide +kernel
theorem dX2_joined_311 : decode cX2_joined 311 = .ok (.if_icmp .gt 7, 3) := by decide +kernel
theorem dX2_joined_314 : decode cX2_joined 314 = .ok (.iconst 1, 1) := by decide +kernel
theorem dX2_joined_315 : decode cX2_joined 315 = .ok (.goto 4, 3) := by decide +kernel
theorem dX2_joined_318 : decode cX2_joined 318 = .ok (.iconst 0, 1) := by decide +kernel
theorem dX2_joined_319 : decode cX2_joined 319 = .ok (.ireturn, 1) := by decide +kernel
theorem dX2_joined_320 : decode cX2_joined 320 = .ok (.iload_n 1, 1) := by decide +kernel
theorem dX2_joined_321 : decode cX2_joined 321 = .ok (.iload_n 2, 1) := by decide +kernel
theorem dX2_joined_322 : decode cX2_joined 322 = .ok (.if_icmp .lt 7, 3) := by decide +kernel
theorem dX2_joined_325 : decode cX2_joined 325 = .ok (.iconst 1, 1) := by decide +kernel
theorem dX2_joined_326 : decode cX2_joined 326 = .ok (.goto 4, 3) := by decide +kernel
theorem dX2_joined_329 : decode cX2_joined 329 = .ok (.iconst 0, 1) := by decide +kernel
theorem dX2_joined_330 : decode cX2_joined 330 = .ok (.ireturn, 1) := by decide +kernel
theorem dX2_joined_331 : decode cX2_joined 331 = .ok (.iload_n 1, 1) := by decide +kernel
theorem dX2_joined_332 : decode cX2_joined 332 = .ok (.i2l, 1) := by decide +kernel
theorem dX2_joined_333 : decode cX2_joined 333 = .ok (.iload_n 2, 1) := by decide +kernel
theorem dX2_joined_334 : decode cX2_joined 334 = .ok (.i2l, 1) := by decide +kernel
theorem dX2_joined_335 : decode cX2_joined 335 = .ok (.ladd, 1) := by decide +kernel
theorem dX2_joined_336 : decode cX2_joined 336 = .ok (.lstore_n 3, 1) := by decide +kernel
theorem dX2_joined_337 : decode cX2_joined 337 = .ok (.goto 34, 3) := by decide +kernel
theorem dX2_joined_340 : decode cX2_joined 340 = .ok (.iload_n 1, 1) := by decide +kernel
theorem dX2_joined_341 : decode cX2_joined 341 = .ok (.i2l, 1) := by decide +kernel
theorem dX2_joined_342 : decode cX2_joined 342 = .ok (.iload_n 2, 1) := by decide +kernel
theorem dX2_joined_343 : decode cX2_joined 343 = .ok (.i2l, 1) := by decide +kernel
theorem dX2_joined_344 : decode cX2_joined 344 = .ok (.lsub, 1) := by decide +kernel
theorem dX2_joined_345 : decode cX2_joined 345 = .ok (.lstore_n 3, 1) := by decide +kernel
theorem dX2_joined_346 : decode cX2_joined 346 = .ok (.goto 25, 3) := by decide +kernel
theorem dX2_joined_349 : decode cX2_joined 349 = .ok (.iload_n 1, 1) := by decide +kernel
theorem dX2_joined_350 : decode cX2_joined 350 = .ok (.i2l, 1) := by decide +kernel
theorem dX2_joined_351 : decode cX2_joined 351 = .ok (.iload_n 2, 1) := by decide +kernel
theorem dX2_joined_352 : decode cX2_joined 352 = .ok (.i2l, 1) := by decide +kernel
theorem dX2_joined_353 : decode cX2_joined 353 = .ok (.lmul, 1) := by decide +kernel
theorem dX2_joined_354 : decode cX2_joined 354 = .ok (.lstore_n 3, 1) := by decide +kernel
theorem dX2_joined_355 : decode cX2_joined 355 = .ok (.goto 16, 3) := by decide +kernel
theorem dX2_joined_358 : decode cX2_joined 358 = .ok (.iload_n 2, 1) := by decide +kernel
theorem dX2_joined_359 : decode cX2_joined 359 = .ok (.ifCond .ne 7, 3) := by decide +kernel
theorem dX2_joined_362 : decode cX2_joined 362 = .ok (.lconst 0, 1) := by decide +kernel
theorem dX2_joined_363 : decode cX2_joined 363 = .ok (.goto 7, 3) := by decide +kernel
theorem dX2_joined_366 : decode cX2_joined 366 = .ok (.iload_n 1, 1) := by decide +kernel
theorem dX2_joined_367 : decode cX2_joined 367 = .ok (.iload_n 2, 1) := by decide +kernel
theorem dX2_joined_368 : decode cX2_joined 368 = .ok (.idiv, 1) := by decide +kernel
theorem dX2_joined_369 : decode cX2_joined 369 = .ok (.i2l, 1) := by decide +kernel
theorem dX2_joined_370 : decode cX2_joined 370 = .ok (.lstore_n 3, 1) := by decide +kernel
theorem dX2_joined_371 : decode cX2_joined 371 = .ok (.lload_n 3, 1) := by decide +kernel
theorem dX2_joined_372 : decode cX2_joined 372 = .ok (.ldc2_w 100, 3) := by decide +kernel
theorem dX2_joined_375 : decode cX2_joined 375 = .ok (.lcmp, 1) := by decide +kernel
theorem dX2_joined_376 : decode cX2_joined 376 = .ok (.ifCond .le 6, 3) := by decide +kernel
theorem dX2_joined_379 : decode cX2_joined 379 = .ok (.ldc 102, 2) := by decide +kernel
theorem dX2_joined_381 : decode cX2_joined 381 = .ok (.ireturn, 1) := by decide +kernel
theorem dX2_joined_382 : decode cX2_joined 382 = .ok (.lload_n 3, 1) := by decide +kernel
theorem dX2_joined_383 : decode cX2_joined 383 = .ok (.ldc2_w 103, 3) := by decide +kernel
theorem dX2_joined_386 : decode cX2_joined 386 = .ok (.lcmp, 1) := by decide +kernel
theorem dX2_joined_387 : decode cX2_joined 387 = .ok (.ifCond .ge 8, 3) := by decide +kernel
theorem dX2_joined_390 : decode cX2_joined 390 = .ok (.ldc 105, 2) := by decide +kernel
theorem dX2_joined_392 : decode cX2_joined 392 = .ok (.goto 5, 3) := by decide +kernel
theorem dX2_joined_395 : decode cX2_joined 395 = .ok (.lload_n 3, 1) := by decide +kernel
theorem dX2_joined_396 : decode cX2_joined 396 = .ok (.l2i, 1) := by decide +kernel
theorem dX2_joined_397 : decode cX2_joined 397 = .ok (.ireturn, 1) := by decide +kernel
theorem dX4_init_0 : decode cX4_init 0 = .ok (.aload_n 0, 1) := by decide +kernel
theorem dX4_init_1 : decode cX4_init 1 = .ok (.invokespecial 3, 3) := by decide +kernel
theorem dX4_init_4 : decode cX4_init 4 = .ok (.aload_n 0, 1) := by decide +kernel
theorem dX4_init_5 : decode cX4_init 5 = .ok (.aload_n 1, 1) := by decide +kernel
theorem dX4_init_6 : decode cX4_init 6 = .ok (.putfield 9, 3) := by decide +kernel
theorem dX4_init_9 : decode cX4_init 9 = .ok (.aload_n 0, 1) := by decide +kernel
theorem dX4_init_10 : decode cX4_init 10 = .ok (.aload_n 2, 1) := by decide +kernel
theorem dX4_init_11 : decode cX4_init 11 = .ok (.putfield 15, 3) := by decide +kernel
theorem dX4_init_14 : decode cX4_init 14 = .ok (.aload_n 0, 1) := by decide +kernel
theorem dX4_init_15 : decode cX4_init 15 = .ok (.iconst (-1), 1) := by decide +kernel
theorem dX4_init_16 : decode cX4_init 16 = .ok (.putfield 19, 3) := by decide +kernel
theorem dX4_init_19 : decode cX4_init 19 = .ok (.aload_n 0, 1) := by decide +kernel
theorem dX4_init_20 : decode cX4_init 20 = .ok (.iconst (-1), 1) := by decide +kernel
theorem dX4_init_21 : decode cX4_init 21 = .ok (.putfield 23, 3) := by decide +kernel
theorem dX4_init_24 : decode cX4_init 24 = .ok (.return_, 1) := by decide +kernel
theorem dX4_readAll_0 : decode cX4_readAll 0 = .ok (.aload_n 0, 1) := by decide +kernel
theorem dX4_readAll_1 : decode cX4_readAll 1 = .ok (.getfield 15, 3) := by decide +kernel
theorem dX4_readAll_4 : decode cX4_readAll 4 = .ok (.invokevirtual 26, 3) := by decide +kernel
theorem dX4_readAll_7 : decode cX4_readAll 7 = .ok (.aload_n 0, 1) := by decide +kernel
theorem dX4_readAll_8 : decode cX4_readAll 8 = .ok (.invokevirtual 31, 3) := by decide +kernel
theorem dX4_readAll_11 : decode cX4_readAll 11 = .ok (.iconst 1, 1) := by decide +kernel
theorem dX4_readAll_12 : decode cX4_readAll 12 = .ok (.istore_n 1, 1) := by decide +kernel
theorem dX4_readAll_13 : decode cX4_readAll 13 = .ok (.iconst 0, 1) := by decide +kernel
theorem dX4_readAll_14 : decode cX4_readAll 14 = .ok (.istore_n 2, 1) := by decide +kernel
theorem dX4_readAll_15 : decode cX4_readAll 15 = .ok (.iload_n 2, 1) := by decide +kernel
theorem dX4_readAll_16 : decode cX4_readAll 16 = .ok (.sipush 300, 3) := by decide +kernel
theorem dX4_readAll_19 : decode cX4_readAll 19 = .ok (.if_icmp .gt 27, 3) := by decide +kernel
theorem dX4_readAll_22 : decode cX4_readAll 22 = .ok (.iload_n 1, 1) := by decide +kernel
theorem dX4_readAll_23 : decode cX4_readAll 23 = .ok (.ifCond .eq 23, 3) := by decide +kernel
theorem dX4_readAll_26 : decode cX4_readAll 26 = .ok (.aload_n 0, 1) := by decide +kernel
theorem dX4_readAll_27 : decode cX4_readAll 27 = .ok (.getfield 36, 3) := by decide +kernel
theorem dX4_readAll_30 : decode cX4_readAll 30 = .ok (.bipush 73, 2) := by decide +kernel
theorem dX4_readAll_32 : decode cX4_readAll 32 = .ok (.if_icmp .eq 14, 3) := by decide +kernel
theorem dX4_readAll_35 : decode cX4_readAll 35 = .ok (.aload_n 0, 1) := by decide +kernel
theorem dX4_readAll_36 : decode cX4_readAll 36 = .ok (.invokevirtual 41, 3) := by decide +kernel
theorem dX4_readAll_39 : decode cX4_readAll 39 = .ok (.istore_n 1, 1) := by decide +kernel
theorem dX4_readAll_40 : decode cX4_readAll 40 = .ok (.iinc 2 1, 3) := by decide +kernel
theorem dX4_readAll_43 : decode cX4_readAll 43 = .ok (.goto (-28), 3) := by decide +kernel
theorem dX4_readAll_46 : decode cX4_readAll 46 = .ok (.iload_n 1, 1) := by decide +kernel
theorem dX4_readAll_47 : decode cX4_readAll 47 = .ok (.ireturn, 1) := by decide +kernel
theorem dX4_advance_0 : decode cX4_advance 0 = .ok (.aload_n 0, 1) := by decide +kernel
theorem dX4_advance_1 : decode cX4_advance 1 = .ok (.getfield 19, 3) := by decide +kernel
theorem dX4_advance_4 : decode cX4_advance 4 = .ok (.iconst 1, 1) := by decide +kernel
theorem dX4_advance_5 : decode cX4_advance 5 = .ok (.iadd, 1) := by decide +kernel
theorem dX4_advance_6 : decode cX4_advance 6 = .ok (.aload_n 0, 1) := by decide +kernel
theorem dX4_advance_7 : decode cX4_advance 7 = .ok (.getfield 9, 3) := by decide +kernel
theorem dX4_advance_10 : decode cX4_advance 10 = .ok (.getfield 45, 3) := by decide +kernel
theorem dX4_advance_13 : decode cX4_advance 13 = .ok (.if_icmp .ge 29, 3) := by decide +kernel
theorem dX4_advance_16 : decode cX4_advance 16 = .ok (.aload_n 0, 1) := by decide +kernel
theorem dX4_advance_17 : decode cX4_advance 17 = .ok (.dup, 1) := by decide +kernel
theorem dX4_advance_18 : decode cX4_advance 18 = .ok (.getfield 19, 3) := by decide +kernel
theorem dX4_advance_21 : decode cX4_advance 21 = .ok (.iconst 1, 1) := by decide +kernel
theorem dX4_advance_22 : decode cX4_advance 22 = .ok (.iadd, 1) := by decide +kernel
theorem dX4_advance_23 : decode cX4_advance 23 = .ok (.putfield 19, 3) := by decide +kernel
theorem dX4_advance_26 : decode cX4_advance 26 = .ok (.aload_n 0, 1) := by decide +kernel
theorem dX4_advance_27 : decode cX4_advance 27 = .ok (.aload_n 0, 1) := by decide +kernel
theorem dX4_advance_28 : decode cX4_advance 28 = .ok (.getfield 9, 3) := by decide +kernel
theorem dX4_advance_31 : decode cX4_advance 31 = .ok (.getfield 48, 3) := by decide +kernel
theorem dX4_advance_34 : decode cX4_advance 34 = .ok (.aload_n 0, 1) := by decide +kernel
theorem dX4_advance_35 : decode cX4_advance 35 = .ok (.getfield 19, 3) := by decide +kernel
theorem dX4_advance_38 : decode cX4_advance 38 = .ok (.iaload, 1) := by decide +kernel
theorem dX4_advance_39 : decode cX4_advance 39 = .ok (.putfield 36, 3) := by decide +kernel
theorem dX4_advance_42 : decode cX4_advance 42 = .ok (.return_, 1) := by decide +kernel
theorem dX4_refuse_0 : decode cX4_refuse 0 = .ok (.aload_n 0, 1) := by decide +kernel
theorem dX4_refuse_1 : decode cX4_refuse 1 = .ok (.iload_n 1, 1) := by decide +kernel
theorem dX4_refuse_2 : decode cX4_refuse 2 = .ok (.putfield 52, 3) := by decide +kernel
theorem dX4_refuse_5 : decode cX4_refuse 5 = .ok (.aload_n 0, 1) := by decide +kernel
theorem dX4_refuse_6 : decode cX4_refuse 6 = .ok (.aload_n 0, 1) := by decide +kernel
theorem dX4_refuse_7 : decode cX4_refuse 7 = .ok (.getfield 19, 3) := by decide +kernel
theorem dX4_refuse_10 : decode cX4_refuse 10 = .ok (.ifCond .lt 32, 3) := by decide +kernel
theorem dX4_refuse_13 : decode cX4_refuse 13 = .ok (.aload_n 0, 1) := by decide +kernel
theorem dX4_refuse_14 : decode cX4_refuse 14 = .ok (.getfield 19, 3) := by decide +kernel
theorem dX4_refuse_17 : decode cX4_refuse 17 = .ok (.aload_n 0, 1) := by decide +kernel
theorem dX4_refuse_18 : decode cX4_refuse 18 = .ok (.getfield 9, 3) := by decide +kernel
theorem dX4_refuse_21 : decode cX4_refuse 21 = .ok (.getfield 45, 3) := by decide +kernel
theorem dX4_refuse_24 : decode cX4_refuse 24 = .ok (.if_icmp .ge 18, 3) := by decide +kernel
theorem dX4_refuse_27 : decode cX4_refuse 27 = .ok (.aload_n 0, 1) := by decide +kernel
theorem dX4_refuse_28 : decode cX4_refuse 28 = .ok (.getfield 9, 3) := by decide +kernel
theorem dX4_refuse_31 : decode cX4_refuse 31 = .ok (.getfield 55, 3) := by decide +kernel
theorem dX4_refuse_34 : decode cX4_refuse 34 = .ok (.aload_n 0, 1) := by decide +kernel
theorem dX4_refuse_35 : decode cX4_refuse 35 = .ok (.getfield 19, 3) := by decide +kernel
theorem dX4_refuse_38 : decode cX4_refuse 38 = .ok (.iaload, 1) := by decide +kernel
theorem dX4_refuse_39 : decode cX4_refuse 39 = .ok (.goto 10, 3) := by decide +kernel
theorem dX4_refuse_42 : decode cX4_refuse 42 = .ok (.aload_n 0, 1) := by decide +kernel
theorem dX4_refuse_43 : decode cX4_refuse 43 = .ok (.getfield 9, 3) := by decide +kernel
theorem dX4_refuse_46 : decode cX4_refuse 46 = .ok (.getfield 58, 3) := by decide +kernel
theorem dX4_refuse_49 : decode cX4_refuse 49 = .ok (.putfield 23, 3) := by decide +kernel
theorem dX4_refuse_52 : decode cX4_refuse 52 = .ok (.iconst 0, 1) := by decide +kernel
theorem dX4_refuse_53 : decode cX4_refuse 53 = .ok (.ireturn, 1) := by decide +kernel
theorem dX4_take_0 : decode cX4_take 0 = .ok (.aload_n 0, 1) := by decide +kernel
theorem dX4_take_1 : decode cX4_take 1 = .ok (.getfield 36, 3) := by decide +kernel
theorem dX4_take_4 : decode cX4_take 4 = .ok (.iload_n 1, 1) := by decide +kernel
theorem dX4_take_5 : decode cX4_take 5 = .ok (.if_icmp .eq 9, 3) := by decide +kernel
theorem dX4_take_8 : decode cX4_take 8 = .ok (.aload_n 0, 1) := by decide +kernel
theorem dX4_take_9 : decode cX4_take 9 = .ok (.iconst 1, 1) := by decide +kernel
theorem dX4_take_10 : decode cX4_take 10 = .ok (.invokevirtual 61, 3) := by decide +kernel
theorem dX4_take_13 : decode cX4_take 13 = .ok (.ireturn, 1) := by decide +kernel
theorem dX4_take_14 : decode cX4_take 14 = .ok (.aload_n 0, 1) := by decide +kernel
theorem dX4_take_15 : decode cX4_take 15 = .ok (.invokevirtual 31, 3) := by decide +kernel
theorem dX4_take_18 : decode cX4_take 18 = .ok (.iconst 1, 1) := by decide +kernel
theorem dX4_take_19 : decode cX4_take 19 = .ok (.ireturn, 1) := by decide +kernel
theorem dX4_valueHere_0 : decode cX4_valueHere 0 = .ok (.aload_n 0, 1) := by decide +kernel
theorem dX4_valueHere_1 : decode cX4_valueHere 1 = .ok (.getfield 19, 3) := by decide +kernel
theorem dX4_valueHere_4 : decode cX4_valueHere 4 = .ok (.ifCond .lt 32, 3) := by decide +kernel
theorem dX4_valueHere_7 : decode cX4_valueHere 7 = .ok (.aload_n 0, 1) := by decide +kernel
theorem dX4_valueHere_8 : decode cX4_valueHere 8 = .ok (.getfield 19, 3) := by decide +kernel
theorem dX4_valueHere_11 : decode cX4_valueHere 11 = .ok (.aload_n 0, 1) := by decide +kernel
theorem dX4_valueHere_12 : decode cX4_valueHere 12 = .ok (.getfield 9, 3) := by decide +kernel
theorem dX4_valueHere_15 : decode cX4_valueHere 15 = .ok (.getfield 45, 3) := by decide +kernel
theorem dX4_valueHere_18 : decode cX4_valueHere 18 = .ok (.if_icmp .ge 18, 3) := by decide +kernel
theorem dX4_valueHere_21 : decode cX4_valueHere 21 = .ok (.aload_n 0, 1) := by decide +kernel
theorem dX4_valueHere_22 : decode cX4_valueHere 22 = .ok (.getfield 9, 3) := by decide +kernel
theorem dX4_valueHere_25 : decode cX4_valueHere 25 = .ok (.getfield 65, 3) := by decide +kernel
theorem dX4_valueHere_28 : decode cX4_valueHere 28 = .ok (.aload_n 0, 1) := by decide +kernel
theorem dX4_valueHere_29 : decode cX4_valueHere 29 = .ok (.getfield 19, 3) := by decide +kernel
theorem dX4_valueHere_32 : decode cX4_valueHere 32 = .ok (.iaload, 1) := by decide +kernel
theorem dX4_valueHere_33 : decode cX4_valueHere 33 = .ok (.goto 4, 3) := by decide +kernel
theorem dX4_valueHere_36 : decode cX4_valueHere 36 = .ok (.iconst (-1), 1) := by decide +kernel
theorem dX4_valueHere_37 : decode cX4_valueHere 37 = .ok (.ireturn, 1) := by decide +kernel
theorem dX4_takeNumber_0 : decode cX4_takeNumber 0 = .ok (.aload_n 0, 1) := by decide +kernel
theorem dX4_takeNumber_1 : decode cX4_takeNumber 1 = .ok (.getfield 36, 3) := by decide +kernel
theorem dX4_takeNumber_4 : decode cX4_takeNumber 4 = .ok (.bipush 72, 2) := by decide +kernel
theorem dX4_takeNumber_6 : decode cX4_takeNumber 6 = .ok (.if_icmp .eq 9, 3) := by decide +kernel
theorem dX4_takeNumber_9 : decode cX4_takeNumber 9 = .ok (.aload_n 0, 1) := by decide +kernel
theorem dX4_takeNumber_10 : decode cX4_takeNumber 10 = .ok (.iconst 1, 1) := by decide +kernel
theorem dX4_takeNumber_11 : decode cX4_takeNumber 11 = .ok (.invokevirtual 61, 3) := by decide +kernel
theorem dX4_takeNumber_14 : decode cX4_takeNumber 14 = .ok (.ireturn, 1) := by decide +kernel
theorem dX4_takeNumber_15 : decode cX4_takeNumber 15 = .ok (.aload_n 0, 1) := by decide +kernel
theorem dX4_takeNumber_16 : decode cX4_takeNumber 16 = .ok (.aload_n 0, 1) := by decide +kernel
theorem dX4_takeNumber_17 : decode cX4_takeNumber 17 = .ok (.invokevirtual 68, 3) := by decide +kernel
theorem dX4_takeNumber_20 : decode cX4_takeNumber 20 = .ok (.putfield 72, 3) := by decide +kernel
theorem dX4_takeNumber_23 : decode cX4_takeNumber 23 = .ok (.aload_n 0, 1) := by decide +kernel
theorem dX4_takeNumber_24 : decode cX4_takeNumber 24 = .ok (.getfield 72, 3) := by decide +kernel
theorem dX4_takeNumber_27 : decode cX4_takeNumber 27 = .ok (.iload_n 1, 1) := by decide +kernel
theorem dX4_takeNumber_28 : decode cX4_takeNumber 28 = .ok (.if_icmp .lt 11, 3) := by decide +kernel
theorem dX4_takeNumber_31 : decode cX4_takeNumber 31 = .ok (.aload_n 0, 1) := by decide +kernel
theorem dX4_takeNumber_32 : decode cX4_takeNumber 32 = .ok (.getfield 72, 3) := by decide +kernel
theorem dX4_takeNumber_35 : decode cX4_takeNumber 35 = .ok (.iload_n 2, 1) := by decide +kernel
theorem dX4_takeNumber_36 : decode cX4_takeNumber 36 = .ok (.if_icmp .le 9, 3) := by decide +kernel
theorem dX4_takeNumber_39 : decode cX4_takeNumber 39 = .ok (.aload_n 0, 1) := by decide +kernel
theorem dX4_takeNumber_40 : decode cX4_takeNumber 40 = .ok (.iconst 2, 1) := by decide +kernel
theorem dX4_takeNumber_41 : decode cX4_takeNumber 41 = .ok (.invokevirtual 61, 3) := by decide +kernel
theorem dX4_takeNumber_44 : decode cX4_takeNumber 44 = .ok (.ireturn, 1) := by decide +kernel
theorem dX4_takeNumber_45 : decode cX4_takeNumber 45 = .ok (.aload_n 0, 1) := by decide +kernel
theorem dX4_takeNumber_46 : decode cX4_takeNumber 46 = .ok (.invokevirtual 31, 3) := by decide +kernel
theorem dX4_takeNumber_49 : decode cX4_takeNumber 49 = .ok (.iconst 1, 1) := by decide +kernel
theorem dX4_takeNumber_50 : decode cX4_takeNumber 50 = .ok (.ireturn, 1) := by decide +kernel
theorem dX4_takeTold_0 : decode cX4_takeTold 0 = .ok (.aload_n 0, 1) := by decide +kernel
theorem dX4_takeTold_1 : decode cX4_takeTold 1 = .ok (.iload_n 2, 1) := by decide +kernel
theorem dX4_takeTold_2 : decode cX4_takeTold 2 = .ok (.iload_n 3, 1) := by decide +kernel
theorem dX4_takeTold_3 : decode cX4_takeTold 3 = .ok (.invokevirtual 75, 3) := by decide +kernel
theorem dX4_takeTold_6 : decode cX4_takeTold 6 = .ok (.istore 4, 2) := by decide +kernel
theorem dX4_takeTold_8 : decode cX4_takeTold 8 = .ok (.aload_n 0, 1) := by decide +kernel
theorem dX4_takeTold_9 : decode cX4_takeTold 9 = .ok (.getfield 15, 3) := by decide +kernel
theorem dX4_takeTold_12 : decode cX4_takeTold 12 = .ok (.iload_n 1, 1) := by decide +kernel
theorem dX4_takeTold_13 : decode cX4_takeTold 13 = .ok (.aload_n 0, 1) := by decide +kernel
theorem dX4_takeTold_14 : decode cX4_takeTold 14 = .ok (.getfield 72, 3) := by decide +kernel
theorem dX4_takeTold_17 : decode cX4_takeTold 17 = .ok (.invokevirtual 79, 3) := by decide +kernel
theorem dX4_takeTold_20 : decode cX4_takeTold 20 = .ok (.iload 4, 2) := by decide +kernel
theorem dX4_takeTold_22 : decode cX4_takeTold 22 = .ok (.ireturn, 1) := by decide +kernel
theorem dX4_readClause_0 : decode cX4_readClause 0 = .ok (.aload_n 0, 1) := by decide +kernel
theorem dX4_readClause_1 : decode cX4_readClause 1 = .ok (.getfield 36, 3) := by decide +kernel
theorem dX4_readClause_4 : decode cX4_readClause 4 = .ok (.istore_n 1, 1) := by decide +kernel
theorem dX4_readClause_5 : decode cX4_readClause 5 = .ok (.iload_n 1, 1) := by decide +kernel
theorem dX4_readClause_6 : decode cX4_readClause 6 = .ok (.ifCond .lt 9, 3) := by decide +kernel
theorem dX4_readClause_9 : decode cX4_readClause 9 = .ok (.iload_n 1, 1) := by decide +kernel
theorem dX4_readClause_10 : decode cX4_readClause 10 = .ok (.bipush 11, 2) := by decide +kernel
theorem dX4_readClause_12 : decode cX4_readClause 12 = .ok (.if_icmp .le 9, 3) := by decide +kernel
theorem dX4_readClause_15 : decode cX4_readClause 15 = .ok (.aload_n 0, 1) := by decide +kernel
theorem dX4_readClause_16 : decode cX4_readClause 16 = .ok (.iconst 1, 1) := by decide +kernel
theorem dX4_readClause_17 : decode cX4_readClause 17 = .ok (.invokevirtual 61, 3) := by decide +kernel
theorem dX4_readClause_20 : decode cX4_readClause 20 = .ok (.ireturn, 1) := by decide +kernel
theorem dX4_readClause_21 : decode cX4_readClause 21 = .ok (.iload_n 1, 1) := by decide +kernel
theorem dX4_readClause_22 : decode cX4_readClause 22 = .ok (.iconst 4, 1) := by decide +kernel
theorem dX4_readClause_23 : decode cX4_readClause 23 = .ok (.if_icmp .gt 7, 3) := by decide +kernel
theorem dX4_readClause_26 : decode cX4_readClause 26 = .ok (.iconst 1, 1) := by decide +kernel
theorem dX4_readClause_27 : decode cX4_readClause 27 = .ok (.goto 4, 3) := by decide +kernel
theorem dX4_readClause_30 : decode cX4_readClause 30 = .ok (.iconst 0, 1) := by decide +kernel
theorem dX4_readClause_31 : decode cX4_readClause 31 = .ok (.istore_n 2, 1) := by decide +kernel
theorem dX4_readClause_32 : decode cX4_readClause 32 = .ok (.iload_n 2, 1) := by decide +kernel
theorem dX4_readClause_33 : decode cX4_readClause 33 = .ok (.ifCond .eq 27, 3) := by decide +kernel
theorem dX4_readClause_36 : decode cX4_readClause 36 = .ok (.iload_n 1, 1) := by decide +kernel
theorem dX4_readClause_37 : decode cX4_readClause 37 = .ok (.ifCond .eq 23, 3) := by decide +kernel
theorem dX4_readClause_40 : decode cX4_readClause 40 = .ok (.aload_n 0, 1) := by decide +kernel
theorem dX4_readClause_41 : decode cX4_readClause 41 = .ok (.getfield 15, 3) := by decide +kernel
theorem dX4_readClause_44 : decode cX4_readClause 44 = .ok (.iload_n 1, 1) := by decide +kernel
theorem dX4_readClause_45 : decode cX4_readClause 45 = .ok (.invokestatic 83, 3) := by decide +kernel
theorem dX4_readClause_48 : decode cX4_readClause 48 = .ok (.invokevirtual 87, 3) := by decide +kernel
theorem dX4_readClause_51 : decode cX4_readClause 51 = .ok (.ifCond .eq 9, 3) := by decide +kernel
theorem dX4_readClause_54 : decode cX4_readClause 54 = .ok (.aload_n 0, 1) := by decide +kernel
theorem dX4_readClause_55 : decode cX4_readClause 55 = .ok (.iconst 4, 1) := by decide +kernel
theorem dX4_readClause_56 : decode cX4_readClause 56 = .ok (.invokevirtual 61, 3) := by decide +kernel
theorem dX4_readClause_59 : decode cX4_readClause 59 = .ok (.ireturn, 1) := by decide +kernel
theorem dX4_readClause_60 : decode cX4_readClause 60 = .ok (.aload_n 0, 1) := by decide +kernel
theorem dX4_readClause_61 : decode cX4_readClause 61 = .ok (.getfield 15, 3) := by decide +kernel
theorem dX4_readClause_64 : decode cX4_readClause 64 = .ok (.getfield 90, 3) := by decide +kernel
theorem dX4_readClause_67 : decode cX4_readClause 67 = .ok (.bipush 24, 2) := by decide +kernel
theorem dX4_readClause_69 : decode cX4_readClause 69 = .ok (.if_icmp .lt 10, 3) := by decide +kernel
theorem dX4_readClause_72 : decode cX4_readClause 72 = .ok (.aload_n 0, 1) := by decide +kernel
theorem dX4_readClause_73 : decode cX4_readClause 73 = .ok (.bipush 6, 2) := by decide +kernel
theorem dX4_readClause_75 : decode cX4_readClause 75 = .ok (.invokevirtual 61, 3) := by decide +kernel
theorem dX4_readClause_78 : decode cX4_readClause 78 = .ok (.ireturn, 1) := by decide +kernel
theorem dX4_readClause_79 : decode cX4_readClause 79 = .ok (.aload_n 0, 1) := by decide +kernel
theorem dX4_readClause_80 : decode cX4_readClause 80 = .ok (.getfield 15, 3) := by decide +kernel
theorem dX4_readClause_83 : decode cX4_readClause 83 = .ok (.iload_n 1, 1) := by decide +kernel
theorem dX4_readClause_84 : decode cX4_readClause 84 = .ok (.invokevirtual 93, 3) := by decide +kernel
theorem dX4_readClause_87 : decode cX4_readClause 87 = .ok (.aload_n 0, 1) := by decide +kernel
theorem dX4_readClause_88 : decode cX4_readClause 88 = .ok (.invokevirtual 31, 3) := by decide +kernel
theorem dX4_readClause_91 : decode cX4_readClause 91 = .ok (.iload_n 2, 1) := by decide +kernel
theorem dX4_readClause_92 : decode cX4_readClause 92 = .ok (.ifCond .eq 11, 3) := by decide +kernel
theorem dX4_readClause_95 : decode cX4_readClause 95 = .ok (.aload_n 0, 1) := by decide +kernel
theorem dX4_readClause_96 : decode cX4_readClause 96 = .ok (.iload_n 1, 1) := by decide +kernel
theorem dX4_readClause_97 : decode cX4_readClause 97 = .ok (.invokevirtual 97, 3) := by decide +kernel
theorem dX4_readClause_100 : decode cX4_readClause 100 = .ok (.goto 8, 3) := by decide +kernel
theorem dX4_readClause_103 : decode cX4_readClause 103 = .ok (.aload_n 0, 1) := by decide +kernel
theorem dX4_readClause_104 : decode cX4_readClause 104 = .ok (.iload_n 1, 1) := by decide +kernel
theorem dX4_readClause_105 : decode cX4_readClause 105 = .ok (.invokevirtual 100, 3) := by decide +kernel
theorem dX4_readClause_108 : decode cX4_readClause 108 = .ok (.istore_n 3, 1) := by decide +kernel
theorem dX4_readClause_109 : decode cX4_readClause 109 = .ok (.iload_n 3, 1) := by decide +kernel
theorem dX4_readClause_110 : decode cX4_readClause 110 = .ok (.ifCond .eq 16, 3) := by decide +kernel
theorem dX4_readClause_113 : decode cX4_readClause 113 = .ok (.aload_n 0, 1) := by decide +kernel
theorem dX4_readClause_114 : decode cX4_readClause 114 = .ok (.bipush 59, 2) := by decide +kernel
theorem dX4_readClause_116 : decode cX4_readClause 116 = .ok (.invokevirtual 103, 3) := by decide +kernel
theorem dX4_readClause_119 : decode cX4_readClause 119 = .ok (.ifCond .eq 7, 3) := by decide +kernel
theorem dX4_readClause_122 : decode cX4_readClause 122 = .ok (.iconst 1, 1) := by decide +kernel
theorem dX4_readClause_123 : decode cX4_readClause 123 = .ok (.goto 4, 3) := by decide +kernel
theorem dX4_readClause_126 : decode cX4_readClause 126 = .ok (.iconst 0, 1) := by decide +kernel
theorem dX4_readClause_127 : decode cX4_readClause 127 = .ok (.ireturn, 1) := by decide +kernel
theorem dX4_lawOf_0 : decode cX4_lawOf 0 = .ok (.iload_n 0, 1) := by decide +kernel
theorem dX4_lawOf_1 : decode cX4_lawOf 1 = .ok (.iconst 1, 1) := by decide +kernel
theorem dX4_lawOf_2 : decode cX4_lawOf 2 = .ok (.isub, 1) := by decide +kernel
theorem dX4_lawOf_3 : decode cX4_lawOf 3 = .ok (.iconst 4, 1) := by decide +kernel
theorem dX4_lawOf_4 : decode cX4_lawOf 4 = .ok (.iadd, 1) := by decide +kernel
theorem dX4_lawOf_5 : decode cX4_lawOf 5 = .ok (.ireturn, 1) := by decide +kernel
theorem dX4_readDeed_0 : decode cX4_readDeed 0 = .ok (.iload_n 1, 1) := by decide +kernel
theorem dX4_readDeed_1 : decode cX4_readDeed 1 = .ok (.tableswitch 153 5 11 #[43, 99, 153, 99, 108, 153, 144], 43) := by decide +kernel
theorem dX4_readDeed_44 : decode cX4_readDeed 44 = .ok (.aload_n 0, 1) := by decide +kernel
theorem dX4_readDeed_45 : decode cX4_readDeed 45 = .ok (.iconst 1, 1) := by decide +kernel
theorem dX4_readDeed_46 : decode cX4_readDeed 46 = .ok (.iconst 0, 1) := by decide +kernel
theorem dX4_readDeed_47 : decode cX4_readDeed 47 = .ok (.iconst 5, 1) := by decide +kernel
theorem dX4_readDeed_48 : decode cX4_readDeed 48 = .ok (.invokevirtual 106, 3) := by decide +kernel
theorem dX4_readDeed_51 : decode cX4_readDeed 51 = .ok (.ifCond .eq 47, 3) := by decide +kernel
theorem dX4_readDeed_54 : decode cX4_readDeed 54 = .ok (.aload_n 0, 1) := by decide +kernel
theorem dX4_readDeed_55 : decode cX4_readDeed 55 = .ok (.bipush 16, 2) := by decide +kernel
theorem dX4_readDeed_57 : decode cX4_readDeed 57 = .ok (.invokevirtual 103, 3) := by decide +kernel
theorem dX4_readDeed_60 : decode cX4_readDeed 60 = .ok (.ifCond .eq 38, 3) := by decide +kernel
theorem dX4_readDeed_63 : decode cX4_readDeed 63 = .ok (.aload_n 0, 1) := by decide +kernel
theorem dX4_readDeed_64 : decode cX4_readDeed 64 = .ok (.iconst 2, 1) := by decide +kernel
theorem dX4_readDeed_65 : decode cX4_readDeed 65 = .ok (.iconst 1, 1) := by decide +kernel
theorem dX4_readDeed_66 : decode cX4_readDeed 66 = .ok (.bipush 9, 2) := by decide +kernel
theorem dX4_readDeed_68 : decode cX4_readDeed 68 = .ok (.invokevirtual 106, 3) := by decide +kernel
theorem dX4_readDeed_71 : decode cX4_readDeed 71 = .ok (.ifCond .eq 27, 3) := by decide +kernel
theorem dX4_readDeed_74 : decode cX4_readDeed 74 = .ok (.aload_n 0, 1) := by decide +kernel
theorem dX4_readDeed_75 : decode cX4_readDeed 75 = .ok (.bipush 19, 2) := by decide +kernel
theorem dX4_readDeed_77 : decode cX4_readDeed 77 = .ok (.invokevirtual 103, 3) := by decide +kernel
theorem dX4_readDeed_80 : decode cX4_readDeed 80 = .ok (.ifCond .eq 18, 3) := by decide +kernel
theorem dX4_readDeed_83 : decode cX4_readDeed 83 = .ok (.aload_n 0, 1) := by decide +kernel
theorem dX4_readDeed_84 : decode cX4_readDeed 84 = .ok (.iconst 3, 1) := by decide +kernel
theorem dX4_readDeed_85 : decode cX4_readDeed 85 = .ok (.iconst 1, 1) := by decide +kernel
theorem dX4_readDeed_86 : decode cX4_readDeed 86 = .ok (.bipush 9, 2) := by decide +kernel
theorem dX4_readDeed_88 : decode cX4_readDeed 88 = .ok (.invokevirtual 106, 3) := by decide +kernel
theorem dX4_readDeed_91 : decode cX4_readDeed 91 = .ok (.ifCond .eq 7, 3) := by decide +kernel
theorem dX4_readDeed_94 : decode cX4_readDeed 94 = .ok (.iconst 1, 1) := by decide +kernel
theorem dX4_readDeed_95 : decode cX4_readDeed 95 = .ok (.goto 4, 3) := by decide +kernel
theorem dX4_readDeed_98 : decode cX4_readDeed 98 = .ok (.iconst 0, 1) := by decide +kernel
theorem dX4_readDeed_99 : decode cX4_readDeed 99 = .ok (.ireturn, 1) := by decide +kernel
theorem dX4_readDeed_100 : decode cX4_readDeed 100 = .ok (.aload_n 0, 1) := by decide +kernel
theorem dX4_readDeed_101 : decode cX4_readDeed 101 = .ok (.iconst 1, 1) := by decide +kernel
theorem dX4_readDeed_102 : decode cX4_readDeed 102 = .ok (.iconst 0, 1) := by decide +kernel
theorem dX4_readDeed_103 : decode cX4_readDeed 103 = .ok (.bipush 7, 2) := by decide +kernel
theorem dX4_readDeed_105 : decode cX4_readDeed 105 = .ok (.invokevirtual 106, 3) := by decide +kernel
theorem dX4_readDeed_108 : decode cX4_readDeed 108 = .ok (.ireturn, 1) := by decide +kernel
theorem dX4_readDeed_109 : decode cX4_readDeed 109 = .ok (.aload_n 0, 1) := by decide +kernel
theorem dX4_readDeed_110 : decode cX4_readDeed 110 = .ok (.iconst 1, 1) := by decide +kernel
theorem dX4_readDeed_111 : decode cX4_readDeed 111 = .ok (.iconst 0, 1) := by decide +kernel
theorem dX4_readDeed_112 : decode cX4_readDeed 112 = .ok (.iconst 3, 1) := by decide +kernel
theorem dX4_readDeed_113 : decode cX4_readDeed 113 = .ok (.invokevirtual 106, 3) := by decide +kernel
theorem dX4_readDeed_116 : decode cX4_readDeed 116 = .ok (.ifCond .eq 27, 3) := by decide +kernel
theorem dX4_readDeed_119 : decode cX4_readDeed 119 = .ok (.aload_n 0, 1) := by decide +kernel
theorem dX4_readDeed_120 : decode cX4_readDeed 120 = .ok (.bipush 13, 2) := by decide +kernel
theorem dX4_readDeed_122 : decode cX4_readDeed 122 = .ok (.invokevirtual 103, 3) := by decide +kernel
theorem dX4_readDeed_125 : decode cX4_readDeed 125 = .ok (.ifCond .eq 18, 3) := by decide +kernel
theorem dX4_readDeed_128 : decode cX4_readDeed 128 = .ok (.aload_n 0, 1) := by decide +kernel
theorem dX4_readDeed_129 : decode cX4_readDeed 129 = .ok (.iconst 2, 1) := by decide +kernel
theorem dX4_readDeed_130 : decode cX4_readDeed 130 = .ok (.iconst 0, 1) := by decide +kernel
theorem dX4_readDeed_131 : decode cX4_readDeed 131 = .ok (.bipush 9, 2) := by decide +kernel
theorem dX4_readDeed_133 : decode cX4_readDeed 133 = .ok (.invokevirtual 106, 3) := by decide +kernel
theorem dX4_readDeed_136 : decode cX4_readDeed 136 = .ok (.ifCond .eq 7, 3) := by decide +kernel
theorem dX4_readDeed_139 : decode cX4_readDeed 139 = .ok (.iconst 1, 1) := by decide +kernel
theorem dX4_readDeed_140 : decode cX4_readDeed 140 = .ok (.goto 4, 3) := by decide +kernel
theorem dX4_readDeed_143 : decode cX4_readDeed 143 = .ok (.iconst 0, 1) := by decide +kernel
theorem dX4_readDeed_144 : decode cX4_readDeed 144 = .ok (.ireturn, 1) := by decide +kernel
theorem dX4_readDeed_145 : decode cX4_readDeed 145 = .ok (.aload_n 0, 1) := by decide +kernel
theorem dX4_readDeed_146 : decode cX4_readDeed 146 = .ok (.iconst 1, 1) := by decide +kernel
theorem dX4_readDeed_147 : decode cX4_readDeed 147 = .ok (.iconst 1, 1) := by decide +kernel
theorem dX4_readDeed_148 : decode cX4_readDeed 148 = .ok (.bipush 60, 2) := by decide +kernel
theorem dX4_readDeed_150 : decode cX4_readDeed 150 = .ok (.invokevirtual 106, 3) := by decide +kernel
theorem dX4_readDeed_153 : decode cX4_readDeed 153 = .ok (.ireturn, 1) := by decide +kernel
theorem dX4_readDeed_154 : decode cX4_readDeed 154 = .ok (.iconst 1, 1) := by decide +kernel
theorem dX4_readDeed_155 : decode cX4_readDeed 155 = .ok (.ireturn, 1) := by decide +kernel
theorem dX4_readLaw_0 : decode cX4_readLaw 0 = .ok (.aload_n 0, 1) := by decide +kernel
theorem dX4_readLaw_1 : decode cX4_readLaw 1 = .ok (.iload_n 1, 1) := by decide +kernel
theorem dX4_readLaw_2 : decode cX4_readLaw 2 = .ok (.invokestatic 83, 3) := by decide +kernel
theorem dX4_readLaw_5 : decode cX4_readLaw 5 = .ok (.putfield 110, 3) := by decide +kernel
theorem dX4_readLaw_8 : decode cX4_readLaw 8 = .ok (.iload_n 1, 1) := by decide +kernel
theorem dX4_readLaw_9 : decode cX4_readLaw 9 = .ok (.ifCond .ne 12, 3) := by decide +kernel
theorem dX4_readLaw_12 : decode cX4_readLaw 12 = .ok (.aload_n 0, 1) := by decide +kernel
theorem dX4_readLaw_13 : decode cX4_readLaw 13 = .ok (.invokevirtual 113, 3) := by decide +kernel
theorem dX4_readLaw_16 : decode cX4_readLaw 16 = .ok (.ifCond .ne 5, 3) := by decide +kernel
theorem dX4_readLaw_19 : decode cX4_readLaw 19 = .ok (.iconst 0, 1) := by decide +kernel
theorem dX4_readLaw_20 : decode cX4_readLaw 20 = .ok (.ireturn, 1) := by decide +kernel
theorem dX4_readLaw_21 : decode cX4_readLaw 21 = .ok (.aload_n 0, 1) := by decide +kernel
theorem dX4_readLaw_22 : decode cX4_readLaw 22 = .ok (.getfield 15, 3) := by decide +kernel
theorem dX4_readLaw_25 : decode cX4_readLaw 25 = .ok (.getfield 116, 3) := by decide +kernel
theorem dX4_readLaw_28 : decode cX4_readLaw 28 = .ok (.istore_n 2, 1) := by decide +kernel
theorem dX4_readLaw_29 : decode cX4_readLaw 29 = .ok (.iload_n 1, 1) := by decide +kernel
theorem dX4_readLaw_30 : decode cX4_readLaw 30 = .ok (.ifCond .eq 8, 3) := by decide +kernel
theorem dX4_readLaw_33 : decode cX4_readLaw 33 = .ok (.iload_n 1, 1) := by decide +kernel
theorem dX4_readLaw_34 : decode cX4_readLaw 34 = .ok (.iconst 3, 1) := by decide +kernel
theorem dX4_readLaw_35 : decode cX4_readLaw 35 = .ok (.if_icmp .ne 7, 3) := by decide +kernel
theorem dX4_readLaw_38 : decode cX4_readLaw 38 = .ok (.iconst 1, 1) := by decide +kernel
theorem dX4_readLaw_39 : decode cX4_readLaw 39 = .ok (.goto 4, 3) := by decide +kernel
theorem dX4_readLaw_42 : decode cX4_readLaw 42 = .ok (.iconst 0, 1) := by decide +kernel
theorem dX4_readLaw_43 : decode cX4_readLaw 43 = .ok (.istore_n 3, 1) := by decide +kernel
theorem dX4_readLaw_44 : decode cX4_readLaw 44 = .ok (.iload_n 3, 1) := by decide +kernel
theorem dX4_readLaw_45 : decode cX4_readLaw 45 = .ok (.ifCond .eq 11, 3) := by decide +kernel
theorem dX4_readLaw_48 : decode cX4_readLaw 48 = .ok (.aload_n 0, 1) := by decide +kernel
theorem dX4_readLaw_49 : decode cX4_readLaw 49 = .ok (.iconst 0, 1) := by decide +kernel
theorem dX4_readLaw_50 : decode cX4_readLaw 50 = .ok (.invokevirtual 119, 3) := by decide +kernel
theorem dX4_readLaw_53 : decode cX4_readLaw 53 = .ok (.goto 8, 3) := by decide +kernel
theorem dX4_readLaw_56 : decode cX4_readLaw 56 = .ok (.aload_n 0, 1) := by decide +kernel
theorem dX4_readLaw_57 : decode cX4_readLaw 57 = .ok (.iconst 0, 1) := by decide +kernel
theorem dX4_readLaw_58 : decode cX4_readLaw 58 = .ok (.invokevirtual 122, 3) := by decide +kernel
theorem dX4_readLaw_61 : decode cX4_readLaw 61 = .ok (.istore 4, 2) := by decide +kernel
theorem dX4_readLaw_63 : decode cX4_readLaw 63 = .ok (.iload 4, 2) := by decide +kernel
theorem dX4_readLaw_65 : decode cX4_readLaw 65 = .ok (.ifCond .eq 37, 3) := by decide +kernel
theorem dX4_readLaw_68 : decode cX4_readLaw 68 = .ok (.iload_n 3, 1) := by decide +kernel
theorem dX4_readLaw_69 : decode cX4_readLaw 69 = .ok (.ifCond .eq 33, 3) := by decide +kernel
theorem dX4_readLaw_72 : decode cX4_readLaw 72 = .ok (.aload_n 0, 1) := by decide +kernel
theorem dX4_readLaw_73 : decode cX4_readLaw 73 = .ok (.getfield 36, 3) := by decide +kernel
theorem dX4_readLaw_76 : decode cX4_readLaw 76 = .ok (.bipush 20, 2) := by decide +kernel
theorem dX4_readLaw_78 : decode cX4_readLaw 78 = .ok (.if_icmp .ne 24, 3) := by decide +kernel
theorem dX4_readLaw_81 : decode cX4_readLaw 81 = .ok (.aload_n 0, 1) := by decide +kernel
theorem dX4_readLaw_82 : decode cX4_readLaw 82 = .ok (.invokevirtual 31, 3) := by decide +kernel
theorem dX4_readLaw_85 : decode cX4_readLaw 85 = .ok (.aload_n 0, 1) := by decide +kernel
theorem dX4_readLaw_86 : decode cX4_readLaw 86 = .ok (.iconst 0, 1) := by decide +kernel
theorem dX4_readLaw_87 : decode cX4_readLaw 87 = .ok (.invokevirtual 119, 3) := by decide +kernel
theorem dX4_readLaw_90 : decode cX4_readLaw 90 = .ok (.istore 4, 2) := by decide +kernel
theorem dX4_readLaw_92 : decode cX4_readLaw 92 = .ok (.aload_n 0, 1) := by decide +kernel
theorem dX4_readLaw_93 : decode cX4_readLaw 93 = .ok (.getfield 15, 3) := by decide +kernel
theorem dX4_readLaw_96 : decode cX4_readLaw 96 = .ok (.bipush 20, 2) := by decide +kernel
theorem dX4_readLaw_98 : decode cX4_readLaw 98 = .ok (.iconst 0, 1) := by decide +kernel
theorem dX4_readLaw_99 : decode cX4_readLaw 99 = .ok (.invokevirtual 125, 3) := by decide +kernel
theorem dX4_readLaw_102 : decode cX4_readLaw 102 = .ok (.iload 4, 2) := by decide +kernel
theorem dX4_readLaw_104 : decode cX4_readLaw 104 = .ok (.ifCond .eq 15, 3) := by decide +kernel
theorem dX4_readLaw_107 : decode cX4_readLaw 107 = .ok (.aload_n 0, 1) := by decide +kernel
theorem dX4_readLaw_108 : decode cX4_readLaw 108 = .ok (.getfield 15, 3) := by decide +kernel
theorem dX4_readLaw_111 : decode cX4_readLaw 111 = .ok (.aload_n 0, 1) := by decide +kernel
theorem dX4_readLaw_112 : decode cX4_readLaw 112 = .ok (.getfield 110, 3) := by decide +kernel
theorem dX4_readLaw_115 : decode cX4_readLaw 115 = .ok (.iload_n 2, 1) := by decide +kernel
theorem dX4_readLaw_116 : decode cX4_readLaw 116 = .ok (.invokevirtual 128, 3) := by decide +kernel
theorem dX4_readLaw_119 : decode cX4_readLaw 119 = .ok (.iload 4, 2) := by decide +kernel
theorem dX4_readLaw_121 : decode cX4_readLaw 121 = .ok (.ireturn, 1) := by decide +kernel
theorem dX4_readCodeHead_0 : decode cX4_readCodeHead 0 = .ok (.aload_n 0, 1) := by decide +kernel
theorem dX4_readCodeHead_1 : decode cX4_readCodeHead 1 = .ok (.invokevirtual 68, 3) := by decide +kernel
theorem dX4_readCodeHead_4 : decode cX4_readCodeHead 4 = .ok (.istore_n 1, 1) := by decide +kernel
theorem dX4_readCodeHead_5 : decode cX4_readCodeHead 5 = .ok (.aload_n 0, 1) := by decide +kernel
theorem dX4_readCodeHead_6 : decode cX4_readCodeHead 6 = .ok (.getfield 36, 3) := by decide +kernel
theorem dX4_readCodeHead_9 : decode cX4_readCodeHead 9 = .ok (.bipush 72, 2) := by decide +kernel
theorem dX4_readCodeHead_11 : decode cX4_readCodeHead 11 = .ok (.if_icmp .ne 25, 3) := by decide +kernel
theorem dX4_readCodeHead_14 : decode cX4_readCodeHead 14 = .ok (.iload_n 1, 1) := by decide +kernel
theorem dX4_readCodeHead_15 : decode cX4_readCodeHead 15 = .ok (.iconst 4, 1) := by decide +kernel
theorem dX4_readCodeHead_16 : decode cX4_readCodeHead 16 = .ok (.if_icmp .ge 20, 3) := by decide +kernel
theorem dX4_readCodeHead_19 : decode cX4_readCodeHead 19 = .ok (.aload_n 0, 1) := by decide +kernel
theorem dX4_readCodeHead_20 : decode cX4_readCodeHead 20 = .ok (.getfield 15, 3) := by decide +kernel
theorem dX4_readCodeHead_23 : decode cX4_readCodeHead 23 = .ok (.iload_n 1, 1) := by decide +kernel
theorem dX4_readCodeHead_24 : decode cX4_readCodeHead 24 = .ok (.invokevirtual 87, 3) := by decide +kernel
theorem dX4_readCodeHead_27 : decode cX4_readCodeHead 27 = .ok (.ifCond .eq 9, 3) := by decide +kernel
theorem dX4_readCodeHead_30 : decode cX4_readCodeHead 30 = .ok (.aload_n 0, 1) := by decide +kernel
theorem dX4_readCodeHead_31 : decode cX4_readCodeHead 31 = .ok (.iconst 4, 1) := by decide +kernel
theorem dX4_readCodeHead_32 : decode cX4_readCodeHead 32 = .ok (.invokevirtual 61, 3) := by decide +kernel
theorem dX4_readCodeHead_35 : decode cX4_readCodeHead 35 = .ok (.ireturn, 1) := by decide +kernel
theorem dX4_readCodeHead_36 : decode cX4_readCodeHead 36 = .ok (.aload_n 0, 1) := by decide +kernel
theorem dX4_readCodeHead_37 : decode cX4_readCodeHead 37 = .ok (.iload_n 1, 1) := by decide +kernel
theorem dX4_readCodeHead_38 : decode cX4_readCodeHead 38 = .ok (.putfield 110, 3) := by decide +kernel
theorem dX4_readCodeHead_41 : decode cX4_readCodeHead 41 = .ok (.aload_n 0, 1) := by decide +kernel
theorem dX4_readCodeHead_42 : decode cX4_readCodeHead 42 = .ok (.iconst 0, 1) := by decide +kernel
theorem dX4_readCodeHead_43 : decode cX4_readCodeHead 43 = .ok (.iconst 3, 1) := by decide +kernel
theorem dX4_readCodeHead_44 : decode cX4_readCodeHead 44 = .ok (.invokevirtual 75, 3) := by decide +kernel
theorem dX4_readCodeHead_47 : decode cX4_readCodeHead 47 = .ok (.ifCond .eq 16, 3) := by decide +kernel
theorem dX4_readCodeHead_50 : decode cX4_readCodeHead 50 = .ok (.aload_n 0, 1) := by decide +kernel
theorem dX4_readCodeHead_51 : decode cX4_readCodeHead 51 = .ok (.bipush 58, 2) := by decide +kernel
theorem dX4_readCodeHead_53 : decode cX4_readCodeHead 53 = .ok (.invokevirtual 103, 3) := by decide +kernel
theorem dX4_readCodeHead_56 : decode cX4_readCodeHead 56 = .ok (.ifCond .eq 7, 3) := by decide +kernel
theorem dX4_readCodeHead_59 : decode cX4_readCodeHead 59 = .ok (.iconst 1, 1) := by decide +kernel
theorem dX4_readCodeHead_60 : decode cX4_readCodeHead 60 = .ok (.goto 4, 3) := by decide +kernel
theorem dX4_readCodeHead_63 : decode cX4_readCodeHead 63 = .ok (.iconst 0, 1) := by decide +kernel
theorem dX4_readCodeHead_64 : decode cX4_readCodeHead 64 = .ok (.ireturn, 1) := by decide +kernel
theorem dX4_readEither_0 : decode cX4_readEither 0 = .ok (.aload_n 0, 1) := by decide +kernel
theorem dX4_readEither_1 : decode cX4_readEither 1 = .ok (.iload_n 1, 1) := by decide +kernel
theorem dX4_readEither_2 : decode cX4_readEither 2 = .ok (.invokevirtual 131, 3) := by decide +kernel
theorem dX4_readEither_5 : decode cX4_readEither 5 = .ok (.istore_n 2, 1) := by decide +kernel
theorem dX4_readEither_6 : decode cX4_readEither 6 = .ok (.iconst 0, 1) := by decide +kernel
theorem dX4_readEither_7 : decode cX4_readEither 7 = .ok (.istore_n 3, 1) := by decide +kernel
theorem dX4_readEither_8 : decode cX4_readEither 8 = .ok (.iload_n 3, 1) := by decide +kernel
theorem dX4_readEither_9 : decode cX4_readEither 9 = .ok (.sipush 300, 3) := by decide +kernel
theorem dX4_readEither_12 : decode cX4_readEither 12 = .ok (.if_icmp .ge 42, 3) := by decide +kernel
theorem dX4_readEither_15 : decode cX4_readEither 15 = .ok (.iload_n 2, 1) := by decide +kernel
theorem dX4_readEither_16 : decode cX4_readEither 16 = .ok (.ifCond .eq 38, 3) := by decide +kernel
theorem dX4_readEither_19 : decode cX4_readEither 19 = .ok (.aload_n 0, 1) := by decide +kernel
theorem dX4_readEither_20 : decode cX4_readEither 20 = .ok (.getfield 36, 3) := by decide +kernel
theorem dX4_readEither_23 : decode cX4_readEither 23 = .ok (.bipush 21, 2) := by decide +kernel
theorem dX4_readEither_25 : decode cX4_readEither 25 = .ok (.if_icmp .ne 29, 3) := by decide +kernel
theorem dX4_readEither_28 : decode cX4_readEither 28 = .ok (.aload_n 0, 1) := by decide +kernel
theorem dX4_readEither_29 : decode cX4_readEither 29 = .ok (.invokevirtual 31, 3) := by decide +kernel
theorem dX4_readEither_32 : decode cX4_readEither 32 = .ok (.aload_n 0, 1) := by decide +kernel
theorem dX4_readEither_33 : decode cX4_readEither 33 = .ok (.iload_n 1, 1) := by decide +kernel
theorem dX4_readEither_34 : decode cX4_readEither 34 = .ok (.invokevirtual 131, 3) := by decide +kernel
theorem dX4_readEither_37 : decode cX4_readEither 37 = .ok (.istore_n 2, 1) := by decide +kernel
theorem dX4_readEither_38 : decode cX4_readEither 38 = .ok (.aload_n 0, 1) := by decide +kernel
theorem dX4_readEither_39 : decode cX4_readEither 39 = .ok (.getfield 15, 3) := by decide +kernel
theorem dX4_readEither_42 : decode cX4_readEither 42 = .ok (.bipush 21, 2) := by decide +kernel
theorem dX4_readEither_44 : decode cX4_readEither 44 = .ok (.iconst 0, 1) := by decide +kernel
theorem dX4_readEither_45 : decode cX4_readEither 45 = .ok (.invokevirtual 125, 3) := by decide +kernel
theorem dX4_readEither_48 : decode cX4_readEither 48 = .ok (.iinc 3 1, 3) := by decide +kernel
theorem dX4_readEither_51 : decode cX4_readEither 51 = .ok (.goto (-43), 3) := by decide +kernel
theorem dX4_readEither_54 : decode cX4_readEither 54 = .ok (.iload_n 2, 1) := by decide +kernel
theorem dX4_readEither_55 : decode cX4_readEither 55 = .ok (.ireturn, 1) := by decide +kernel
theorem dX4_readBoth_0 : decode cX4_readBoth 0 = .ok (.aload_n 0, 1) := by decide +kernel
theorem dX4_readBoth_1 : decode cX4_readBoth 1 = .ok (.iload_n 1, 1) := by decide +kernel
theorem dX4_readBoth_2 : decode cX4_readBoth 2 = .ok (.invokevirtual 134, 3) := by decide +kernel
theorem dX4_readBoth_5 : decode cX4_readBoth 5 = .ok (.istore_n 2, 1) := by decide +kernel
theorem dX4_readBoth_6 : decode cX4_readBoth 6 = .ok (.iconst 0, 1) := by decide +kernel
theorem dX4_readBoth_7 : decode cX4_readBoth 7 = .ok (.istore_n 3, 1) := by decide +kernel
theorem dX4_readBoth_8 : decode cX4_readBoth 8 = .ok (.iload_n 3, 1) := by decide +kernel
theorem dX4_readBoth_9 : decode cX4_readBoth 9 = .ok (.sipush 300, 3) := by decide +kernel
theorem dX4_readBoth_12 : decode cX4_readBoth 12 = .ok (.if_icmp .ge 42, 3) := by decide +kernel
theorem dX4_readBoth_15 : decode cX4_readBoth 15 = .ok (.iload_n 2, 1) := by decide +kernel
theorem dX4_readBoth_16 : decode cX4_readBoth 16 = .ok (.ifCond .eq 38, 3) := by decide +kernel
theorem dX4_readBoth_19 : decode cX4_readBoth 19 = .ok (.aload_n 0, 1) := by decide +kernel
theorem dX4_readBoth_20 : decode cX4_readBoth 20 = .ok (.getfield 36, 3) := by decide +kernel
theorem dX4_readBoth_23 : decode cX4_readBoth 23 = .ok (.bipush 22, 2) := by decide +kernel
theorem dX4_readBoth_25 : decode cX4_readBoth 25 = .ok (.if_icmp .ne 29, 3) := by decide +kernel
theorem dX4_readBoth_28 : decode cX4_readBoth 28 = .ok (.aload_n 0, 1) := by decide +kernel
theorem dX4_readBoth_29 : decode cX4_readBoth 29 = .ok (.invokevirtual 31, 3) := by decide +kernel
theorem dX4_readBoth_32 : decode cX4_readBoth 32 = .ok (.aload_n 0, 1) := by decide +kernel
theorem dX4_readBoth_33 : decode cX4_readBoth 33 = .ok (.iload_n 1, 1) := by decide +kernel
theorem dX4_readBoth_34 : decode cX4_readBoth 34 = .ok (.invokevirtual 134, 3) := by decide +kernel
theorem dX4_readBoth_37 : decode cX4_readBoth 37 = .ok (.istore_n 2, 1) := by decide +kernel
theorem dX4_readBoth_38 : decode cX4_readBoth 38 = .ok (.aload_n 0, 1) := by decide +kernel
theorem dX4_readBoth_39 : decode cX4_readBoth 39 = .ok (.getfield 15, 3) := by decide +kernel
theorem dX4_readBoth_42 : decode cX4_readBoth 42 = .ok (.bipush 22, 2) := by decide +kernel
theorem dX4_readBoth_44 : decode cX4_readBoth 44 = .ok (.iconst 0, 1) := by decide +kernel
theorem dX4_readBoth_45 : decode cX4_readBoth 45 = .ok (.invokevirtual 125, 3) := by decide +kernel
theorem dX4_readBoth_48 : decode cX4_readBoth 48 = .ok (.iinc 3 1, 3) := by decide +kernel
theorem dX4_readBoth_51 : decode cX4_readBoth 51 = .ok (.goto (-43), 3) := by decide +kernel
theorem dX4_readBoth_54 : decode cX4_readBoth 54 = .ok (.iload_n 2, 1) := by decide +kernel
theorem dX4_readBoth_55 : decode cX4_readBoth 55 = .ok (.ireturn, 1) := by decide +kernel
theorem dX4_readAsk_0 : decode cX4_readAsk 0 = .ok (.aload_n 0, 1) := by decide +kernel
theorem dX4_readAsk_1 : decode cX4_readAsk 1 = .ok (.getfield 36, 3) := by decide +kernel
theorem dX4_readAsk_4 : decode cX4_readAsk 4 = .ok (.bipush 23, 2) := by decide +kernel
theorem dX4_readAsk_6 : decode cX4_readAsk 6 = .ok (.if_icmp .ne 27, 3) := by decide +kernel
theorem dX4_readAsk_9 : decode cX4_readAsk 9 = .ok (.aload_n 0, 1) := by decide +kernel
theorem dX4_readAsk_10 : decode cX4_readAsk 10 = .ok (.iload_n 1, 1) := by decide +kernel
theorem dX4_readAsk_11 : decode cX4_readAsk 11 = .ok (.invokevirtual 137, 3) := by decide +kernel
theorem dX4_readAsk_14 : decode cX4_readAsk 14 = .ok (.ifCond .eq 17, 3) := by decide +kernel
theorem dX4_readAsk_17 : decode cX4_readAsk 17 = .ok (.aload_n 0, 1) := by decide +kernel
theorem dX4_readAsk_18 : decode cX4_readAsk 18 = .ok (.iload_n 1, 1) := by decide +kernel
theorem dX4_readAsk_19 : decode cX4_readAsk 19 = .ok (.iconst 1, 1) := by decide +kernel
theorem dX4_readAsk_20 : decode cX4_readAsk 20 = .ok (.iadd, 1) := by decide +kernel
theorem dX4_readAsk_21 : decode cX4_readAsk 21 = .ok (.invokevirtual 140, 3) := by decide +kernel
theorem dX4_readAsk_24 : decode cX4_readAsk 24 = .ok (.ifCond .eq 7, 3) := by decide +kernel
theorem dX4_readAsk_27 : decode cX4_readAsk 27 = .ok (.iconst 1, 1) := by decide +kernel
theorem dX4_readAsk_28 : decode cX4_readAsk 28 = .ok (.goto 4, 3) := by decide +kernel
theorem dX4_readAsk_31 : decode cX4_readAsk 31 = .ok (.iconst 0, 1) := by decide +kernel
theorem dX4_readAsk_32 : decode cX4_readAsk 32 = .ok (.ireturn, 1) := by decide +kernel
theorem dX4_readAsk_33 : decode cX4_readAsk 33 = .ok (.aload_n 0, 1) := by decide +kernel
theorem dX4_readAsk_34 : decode cX4_readAsk 34 = .ok (.getfield 36, 3) := by decide +kernel
theorem dX4_readAsk_37 : decode cX4_readAsk 37 = .ok (.bipush 25, 2) := by decide +kernel
theorem dX4_readAsk_39 : decode cX4_readAsk 39 = .ok (.if_icmp .ne 27, 3) := by decide +kernel
theorem dX4_readAsk_42 : decode cX4_readAsk 42 = .ok (.aload_n 0, 1) := by decide +kernel
theorem dX4_readAsk_43 : decode cX4_readAsk 43 = .ok (.iload_n 1, 1) := by decide +kernel
theorem dX4_readAsk_44 : decode cX4_readAsk 44 = .ok (.invokevirtual 137, 3) := by decide +kernel
theorem dX4_readAsk_47 : decode cX4_readAsk 47 = .ok (.ifCond .eq 17, 3) := by decide +kernel
theorem dX4_readAsk_50 : decode cX4_readAsk 50 = .ok (.aload_n 0, 1) := by decide +kernel
theorem dX4_readAsk_51 : decode cX4_readAsk 51 = .ok (.iload_n 1, 1) := by decide +kernel
theorem dX4_readAsk_52 : decode cX4_readAsk 52 = .ok (.iconst 1, 1) := by decide +kernel
theorem dX4_readAsk_53 : decode cX4_readAsk 53 = .ok (.iadd, 1) := by decide +kernel
theorem dX4_readAsk_54 : decode cX4_readAsk 54 = .ok (.invokevirtual 143, 3) := by decide +kernel
theorem dX4_readAsk_57 : decode cX4_readAsk 57 = .ok (.ifCond .eq 7, 3) := by decide +kernel
theorem dX4_readAsk_60 : decode cX4_readAsk 60 = .ok (.iconst 1, 1) := by decide +kernel
theorem dX4_readAsk_61 : decode cX4_readAsk 61 = .ok (.goto 4, 3) := by decide +kernel
theorem dX4_readAsk_64 : decode cX4_readAsk 64 = .ok (.iconst 0, 1) := by decide +kernel
theorem dX4_readAsk_65 : decode cX4_readAsk 65 = .ok (.ireturn, 1) := by decide +kernel
theorem dX4_readAsk_66 : decode cX4_readAsk 66 = .ok (.aload_n 0, 1) := by decide +kernel
theorem dX4_readAsk_67 : decode cX4_readAsk 67 = .ok (.getfield 36, 3) := by decide +kernel
theorem dX4_readAsk_70 : decode cX4_readAsk 70 = .ok (.bipush 24, 2) := by decide +kernel
theorem dX4_readAsk_72 : decode cX4_readAsk 72 = .ok (.if_icmp .ne 8, 3) := by decide +kernel
theorem dX4_readAsk_75 : decode cX4_readAsk 75 = .ok (.aload_n 0, 1) := by decide +kernel
theorem dX4_readAsk_76 : decode cX4_readAsk 76 = .ok (.invokevirtual 146, 3) := by decide +kernel
theorem dX4_readAsk_79 : decode cX4_readAsk 79 = .ok (.ireturn, 1) := by decide +kernel
theorem dX4_readAsk_80 : decode cX4_readAsk 80 = .ok (.aload_n 0, 1) := by decide +kernel
theorem dX4_readAsk_81 : decode cX4_readAsk 81 = .ok (.iload_n 1, 1) := by decide +kernel
theorem dX4_readAsk_82 : decode cX4_readAsk 82 = .ok (.invokevirtual 122, 3) := by decide +kernel
theorem dX4_readAsk_85 : decode cX4_readAsk 85 = .ok (.ifCond .ne 5, 3) := by decide +kernel
theorem dX4_readAsk_88 : decode cX4_readAsk 88 = .ok (.iconst 0, 1) := by decide +kernel
theorem dX4_readAsk_89 : decode cX4_readAsk 89 = .ok (.ireturn, 1) := by decide +kernel
theorem dX4_readAsk_90 : decode cX4_readAsk 90 = .ok (.aload_n 0, 1) := by decide +kernel
theorem dX4_readAsk_91 : decode cX4_readAsk 91 = .ok (.getfield 36, 3) := by decide +kernel
theorem dX4_readAsk_94 : decode cX4_readAsk 94 = .ok (.istore_n 2, 1) := by decide +kernel
theorem dX4_readAsk_95 : decode cX4_readAsk 95 = .ok (.iload_n 2, 1) := by decide +kernel
theorem dX4_readAsk_96 : decode cX4_readAsk 96 = .ok (.invokestatic 149, 3) := by decide +kernel
theorem dX4_readAsk_99 : decode cX4_readAsk 99 = .ok (.ifCond .ne 9, 3) := by decide +kernel
theorem dX4_readAsk_102 : decode cX4_readAsk 102 = .ok (.aload_n 0, 1) := by decide +kernel
theorem dX4_readAsk_103 : decode cX4_readAsk 103 = .ok (.iconst 1, 1) := by decide +kernel
theorem dX4_readAsk_104 : decode cX4_readAsk 104 = .ok (.invokevirtual 61, 3) := by decide +kernel
theorem dX4_readAsk_107 : decode cX4_readAsk 107 = .ok (.ireturn, 1) := by decide +kernel
theorem dX4_readAsk_108 : decode cX4_readAsk 108 = .ok (.aload_n 0, 1) := by decide +kernel
theorem dX4_readAsk_109 : decode cX4_readAsk 109 = .ok (.invokevirtual 31, 3) := by decide +kernel
theorem dX4_readAsk_112 : decode cX4_readAsk 112 = .ok (.aload_n 0, 1) := by decide +kernel
theorem dX4_readAsk_113 : decode cX4_readAsk 113 = .ok (.iload_n 1, 1) := by decide +kernel
theorem dX4_readAsk_114 : decode cX4_readAsk 114 = .ok (.invokevirtual 122, 3) := by decide +kernel
theorem dX4_readAsk_117 : decode cX4_readAsk 117 = .ok (.istore_n 3, 1) := by decide +kernel
theorem dX4_readAsk_118 : decode cX4_readAsk 118 = .ok (.aload_n 0, 1) := by decide +kernel
theorem dX4_readAsk_119 : decode cX4_readAsk 119 = .ok (.getfield 15, 3) := by decide +kernel
theorem dX4_readAsk_122 : decode cX4_readAsk 122 = .ok (.iload_n 2, 1) := by decide +kernel
theorem dX4_readAsk_123 : decode cX4_readAsk 123 = .ok (.iconst 0, 1) := by decide +kernel
theorem dX4_readAsk_124 : decode cX4_readAsk 124 = .ok (.invokevirtual 125, 3) := by decide +kernel
theorem dX4_readAsk_127 : decode cX4_readAsk 127 = .ok (.iload_n 3, 1) := by decide +kernel
theorem dX4_readAsk_128 : decode cX4_readAsk 128 = .ok (.ireturn, 1) := by decide +kernel
theorem dX4_compares_0 : decode cX4_compares 0 = .ok (.iload_n 0, 1) := by decide +kernel
theorem dX4_compares_1 : decode cX4_compares 1 = .ok (.bipush 60, 2) := by decide +kernel
theorem dX4_compares_3 : decode cX4_compares 3 = .ok (.if_icmp .eq 33, 3) := by decide +kernel
theorem dX4_compares_6 : decode cX4_compares 6 = .ok (.iload_n 0, 1) := by decide +kernel
theorem dX4_compares_7 : decode cX4_compares 7 = .ok (.bipush 62, 2) := by decide +kernel
theorem dX4_compares_9 : decode cX4_compares 9 = .ok (.if_icmp .eq 27, 3) := by decide +kernel
theorem dX4_compares_12 : decode cX4_compares 12 = .ok (.iload_n 0, 1) := by decide +kernel
theorem dX4_compares_13 : decode cX4_compares 13 = .ok (.bipush 61, 2) := by decide +kernel
theorem dX4_compares_15 : decode cX4_compares 15 = .ok (.if_icmp .eq 21, 3) := by decide +kernel
theorem dX4_compares_18 : decode cX4_compares 18 = .ok (.iload_n 0, 1) := by decide +kernel
theorem dX4_compares_19 : decode cX4_compares 19 = .ok (.bipush 35, 2) := by decide +kernel
theorem dX4_compares_21 : decode cX4_compares 21 = .ok (.if_icmp .eq 15, 3) := by decide +kernel
theorem dX4_compares_24 : decode cX4_compares 24 = .ok (.iload_n 0, 1) := by decide +kernel
theorem dX4_compares_25 : decode cX4_compares 25 = .ok (.bipush 70, 2) := by decide +kernel
theorem dX4_compares_27 : decode cX4_compares 27 = .ok (.if_icmp .eq 9, 3) := by decide +kernel
theorem dX4_compares_30 : decode cX4_compares 30 = .ok (.iload_n 0, 1) := by decide +kernel
theorem dX4_compares_31 : decode cX4_compares 31 = .ok (.bipush 71, 2) := by decide +kernel
theorem dX4_compares_33 : decode cX4_compares 33 = .ok (.if_icmp .ne 7, 3) := by decide +kernel
theorem dX4_compares_36 : decode cX4_compares 36 = .ok (.iconst 1, 1) := by decide +kernel
theorem dX4_compares_37 : decode cX4_compares 37 = .ok (.goto 4, 3) := by decide +kernel
theorem dX4_compares_40 : decode cX4_compares 40 = .ok (.iconst 0, 1) := by decide +kernel
theorem dX4_compares_41 : decode cX4_compares 41 = .ok (.ireturn, 1) := by decide +kernel
theorem dX4_readFact_0 : decode cX4_readFact 0 = .ok (.aload_n 0, 1) := by decide +kernel
theorem dX4_readFact_1 : decode cX4_readFact 1 = .ok (.getfield 110, 3) := by decide +kernel
theorem dX4_readFact_4 : decode cX4_readFact 4 = .ok (.iconst 4, 1) := by decide +kernel
theorem dX4_readFact_5 : decode cX4_readFact 5 = .ok (.if_icmp .lt 9, 3) := by decide +kernel
theorem dX4_readFact_8 : decode cX4_readFact 8 = .ok (.aload_n 0, 1) := by decide +kernel
theorem dX4_readFact_9 : decode cX4_readFact 9 = .ok (.iconst 5, 1) := by decide +kernel
theorem dX4_readFact_10 : decode cX4_readFact 10 = .ok (.invokevirtual 61, 3) := by decide +kernel
theorem dX4_readFact_13 : decode cX4_readFact 13 = .ok (.ireturn, 1) := by decide +kernel
theorem dX4_readFact_14 : decode cX4_readFact 14 = .ok (.aload_n 0, 1) := by decide +kernel
theorem dX4_readFact_15 : decode cX4_readFact 15 = .ok (.invokevirtual 31, 3) := by decide +kernel
theorem dX4_readFact_18 : decode cX4_readFact 18 = .ok (.aload_n 0, 1) := by decide +kernel
theorem dX4_readFact_19 : decode cX4_readFact 19 = .ok (.iconst 0, 1) := by decide +kernel
theorem dX4_readFact_20 : decode cX4_readFact 20 = .ok (.bipush 7, 2) := by decide +kernel
theorem dX4_readFact_22 : decode cX4_readFact 22 = .ok (.invokevirtual 75, 3) := by decide +kernel
theorem dX4_readFact_25 : decode cX4_readFact 25 = .ok (.istore_n 1, 1) := by decide +kernel
theorem dX4_readFact_26 : decode cX4_readFact 26 = .ok (.aload_n 0, 1) := by decide +kernel
theorem dX4_readFact_27 : decode cX4_readFact 27 = .ok (.getfield 15, 3) := by decide +kernel
theorem dX4_readFact_30 : decode cX4_readFact 30 = .ok (.aload_n 0, 1) := by decide +kernel
theorem dX4_readFact_31 : decode cX4_readFact 31 = .ok (.getfield 72, 3) := by decide +kernel
theorem dX4_readFact_34 : decode cX4_readFact 34 = .ok (.invokevirtual 152, 3) := by decide +kernel
theorem dX4_readFact_37 : decode cX4_readFact 37 = .ok (.iload_n 1, 1) := by decide +kernel
theorem dX4_readFact_38 : decode cX4_readFact 38 = .ok (.ireturn, 1) := by decide +kernel
theorem dX4_open_0 : decode cX4_open 0 = .ok (.iload_n 1, 1) := by decide +kernel
theorem dX4_open_1 : decode cX4_open 1 = .ok (.bipush 8, 2) := by decide +kernel
theorem dX4_open_3 : decode cX4_open 3 = .ok (.if_icmp .lt 9, 3) := by decide +kernel
theorem dX4_open_6 : decode cX4_open 6 = .ok (.aload_n 0, 1) := by decide +kernel
theorem dX4_open_7 : decode cX4_open 7 = .ok (.iconst 3, 1) := by decide +kernel
theorem dX4_open_8 : decode cX4_open 8 = .ok (.invokevirtual 61, 3) := by decide +kernel
theorem dX4_open_11 : decode cX4_open 11 = .ok (.ireturn, 1) := by decide +kernel
theorem dX4_open_12 : decode cX4_open 12 = .ok (.aload_n 0, 1) := by decide +kernel
theorem dX4_open_13 : decode cX4_open 13 = .ok (.invokevirtual 31, 3) := by decide +kernel
theorem dX4_open_16 : decode cX4_open 16 = .ok (.iconst 1, 1) := by decide +kernel
theorem dX4_open_17 : decode cX4_open 17 = .ok (.ireturn, 1) := by decide +kernel
theorem dX4_readNot_0 : decode cX4_readNot 0 = .ok (.aload_n 0, 1) := by decide +kernel
theorem dX4_readNot_1 : decode cX4_readNot 1 = .ok (.iload_n 1, 1) := by decide +kernel
theorem dX4_readNot_2 : decode cX4_readNot 2 = .ok (.invokevirtual 134, 3) := by decide +kernel
theorem dX4_readNot_5 : decode cX4_readNot 5 = .ok (.istore_n 2, 1) := by decide +kernel
theorem dX4_readNot_6 : decode cX4_readNot 6 = .ok (.aload_n 0, 1) := by decide +kernel
theorem dX4_readNot_7 : decode cX4_readNot 7 = .ok (.getfield 15, 3) := by decide +kernel
theorem dX4_readNot_10 : decode cX4_readNot 10 = .ok (.bipush 23, 2) := by decide +kernel
theorem dX4_readNot_12 : decode cX4_readNot 12 = .ok (.iconst 0, 1) := by decide +kernel
theorem dX4_readNot_13 : decode cX4_readNot 13 = .ok (.invokevirtual 125, 3) := by decide +kernel
theorem dX4_readNot_16 : decode cX4_readNot 16 = .ok (.iload_n 2, 1) := by decide +kernel
theorem dX4_readNot_17 : decode cX4_readNot 17 = .ok (.ireturn, 1) := by decide +kernel
theorem dX4_readMost_0 : decode cX4_readMost 0 = .ok (.aload_n 0, 1) := by decide +kernel
theorem dX4_readMost_1 : decode cX4_readMost 1 = .ok (.bipush 40, 2) := by decide +kernel
theorem dX4_readMost_3 : decode cX4_readMost 3 = .ok (.invokevirtual 103, 3) := by decide +kernel
theorem dX4_readMost_6 : decode cX4_readMost 6 = .ok (.ifCond .eq 15, 3) := by decide +kernel
theorem dX4_readMost_9 : decode cX4_readMost 9 = .ok (.aload_n 0, 1) := by decide +kernel
theorem dX4_readMost_10 : decode cX4_readMost 10 = .ok (.iload_n 1, 1) := by decide +kernel
theorem dX4_readMost_11 : decode cX4_readMost 11 = .ok (.invokevirtual 119, 3) := by decide +kernel
theorem dX4_readMost_14 : decode cX4_readMost 14 = .ok (.ifCond .eq 7, 3) := by decide +kernel
theorem dX4_readMost_17 : decode cX4_readMost 17 = .ok (.iconst 1, 1) := by decide +kernel
theorem dX4_readMost_18 : decode cX4_readMost 18 = .ok (.goto 4, 3) := by decide +kernel
theorem dX4_readMost_21 : decode cX4_readMost 21 = .ok (.iconst 0, 1) := by decide +kernel
theorem dX4_readMost_22 : decode cX4_readMost 22 = .ok (.istore_n 2, 1) := by decide +kernel
theorem dX4_readMost_23 : decode cX4_readMost 23 = .ok (.iconst 1, 1) := by decide +kernel
theorem dX4_readMost_24 : decode cX4_readMost 24 = .ok (.istore_n 3, 1) := by decide +kernel
theorem dX4_readMost_25 : decode cX4_readMost 25 = .ok (.iload_n 2, 1) := by decide +kernel
theorem dX4_readMost_26 : decode cX4_readMost 26 = .ok (.ifCond .eq 34, 3) := by decide +kernel
theorem dX4_readMost_29 : decode cX4_readMost 29 = .ok (.aload_n 0, 1) := by decide +kernel
theorem dX4_readMost_30 : decode cX4_readMost 30 = .ok (.getfield 36, 3) := by decide +kernel
theorem dX4_readMost_33 : decode cX4_readMost 33 = .ok (.bipush 44, 2) := by decide +kernel
theorem dX4_readMost_35 : decode cX4_readMost 35 = .ok (.if_icmp .ne 25, 3) := by decide +kernel
theorem dX4_readMost_38 : decode cX4_readMost 38 = .ok (.iload_n 3, 1) := by decide +kernel
theorem dX4_readMost_39 : decode cX4_readMost 39 = .ok (.bipush 6, 2) := by decide +kernel
theorem dX4_readMost_41 : decode cX4_readMost 41 = .ok (.if_icmp .ge 19, 3) := by decide +kernel
theorem dX4_readMost_44 : decode cX4_readMost 44 = .ok (.aload_n 0, 1) := by decide +kernel
theorem dX4_readMost_45 : decode cX4_readMost 45 = .ok (.invokevirtual 31, 3) := by decide +kernel
theorem dX4_readMost_48 : decode cX4_readMost 48 = .ok (.aload_n 0, 1) := by decide +kernel
theorem dX4_readMost_49 : decode cX4_readMost 49 = .ok (.iload_n 1, 1) := by decide +kernel
theorem dX4_readMost_50 : decode cX4_readMost 50 = .ok (.invokevirtual 119, 3) := by decide +kernel
theorem dX4_readMost_53 : decode cX4_readMost 53 = .ok (.istore_n 2, 1) := by decide +kernel
theorem dX4_readMost_54 : decode cX4_readMost 54 = .ok (.iinc 3 1, 3) := by decide +kernel
theorem dX4_readMost_57 : decode cX4_readMost 57 = .ok (.goto (-32), 3) := by decide +kernel
theorem dX4_readMost_60 : decode cX4_readMost 60 = .ok (.iload_n 2, 1) := by decide +kernel
theorem dX4_readMost_61 : decode cX4_readMost 61 = .ok (.ifCond .eq 19, 3) := by decide +kernel
theorem dX4_readMost_64 : decode cX4_readMost 64 = .ok (.aload_n 0, 1) := by decide +kernel
theorem dX4_readMost_65 : decode cX4_readMost 65 = .ok (.getfield 36, 3) := by decide +kernel
theorem dX4_readMost_68 : decode cX4_readMost 68 = .ok (.bipush 44, 2) := by decide +kernel
theorem dX4_readMost_70 : decode cX4_readMost 70 = .ok (.if_icmp .ne 10, 3) := by decide +kernel
theorem dX4_readMost_73 : decode cX4_readMost 73 = .ok (.aload_n 0, 1) := by decide +kernel
theorem dX4_readMost_74 : decode cX4_readMost 74 = .ok (.bipush 7, 2) := by decide +kernel
theorem dX4_readMost_76 : decode cX4_readMost 76 = .ok (.invokevirtual 61, 3) := by decide +kernel
theorem dX4_readMost_79 : decode cX4_readMost 79 = .ok (.ireturn, 1) := by decide +kernel
theorem dX4_readMost_80 : decode cX4_readMost 80 = .ok (.aload_n 0, 1) := by decide +kernel
theorem dX4_readMost_81 : decode cX4_readMost 81 = .ok (.getfield 15, 3) := by decide +kernel
theorem dX4_readMost_84 : decode cX4_readMost 84 = .ok (.bipush 25, 2) := by decide +kernel
theorem dX4_readMost_86 : decode cX4_readMost 86 = .ok (.iload_n 3, 1) := by decide +kernel
theorem dX4_readMost_87 : decode cX4_readMost 87 = .ok (.invokevirtual 125, 3) := by decide +kernel
theorem dX4_readMost_90 : decode cX4_readMost 90 = .ok (.iload_n 2, 1) := by decide +kernel
theorem dX4_readMost_91 : decode cX4_readMost 91 = .ok (.ifCond .eq 16, 3) := by decide +kernel
theorem dX4_readMost_94 : decode cX4_readMost 94 = .ok (.aload_n 0, 1) := by decide +kernel
theorem dX4_readMost_95 : decode cX4_readMost 95 = .ok (.bipush 41, 2) := by decide +kernel
theorem dX4_readMost_97 : decode cX4_readMost 97 = .ok (.invokevirtual 103, 3) := by decide +kernel
theorem dX4_readMost_100 : decode cX4_readMost 100 = .ok (.ifCond .eq 7, 3) := by decide +kernel
theorem dX4_readMost_103 : decode cX4_readMost 103 = .ok (.iconst 1, 1) := by decide +kernel
theorem dX4_readMost_104 : decode cX4_readMost 104 = .ok (.goto 4, 3) := by decide +kernel
theorem dX4_readMost_107 : decode cX4_readMost 107 = .ok (.iconst 0, 1) := by decide +kernel
theorem dX4_readMost_108 : decode cX4_readMost 108 = .ok (.ireturn, 1) := by decide +kernel
theorem dX4_readSum_0 : decode cX4_readSum 0 = .ok (.aload_n 0, 1) := by decide +kernel
theorem dX4_readSum_1 : decode cX4_readSum 1 = .ok (.iload_n 1, 1) := by decide +kernel
theorem dX4_readSum_2 : decode cX4_readSum 2 = .ok (.invokevirtual 155, 3) := by decide +kernel
theorem dX4_readSum_5 : decode cX4_readSum 5 = .ok (.istore_n 2, 1) := by decide +kernel
theorem dX4_readSum_6 : decode cX4_readSum 6 = .ok (.iconst 0, 1) := by decide +kernel
theorem dX4_readSum_7 : decode cX4_readSum 7 = .ok (.istore_n 3, 1) := by decide +kernel
theorem dX4_readSum_8 : decode cX4_readSum 8 = .ok (.iload_n 3, 1) := by decide +kernel
theorem dX4_readSum_9 : decode cX4_readSum 9 = .ok (.sipush 300, 3) := by decide +kernel
theorem dX4_readSum_12 : decode cX4_readSum 12 = .ok (.if_icmp .ge 57, 3) := by decide +kernel
theorem dX4_readSum_15 : decode cX4_readSum 15 = .ok (.iload_n 2, 1) := by decide +kernel
theorem dX4_readSum_16 : decode cX4_readSum 16 = .ok (.ifCond .eq 53, 3) := by decide +kernel
theorem dX4_readSum_19 : decode cX4_readSum 19 = .ok (.aload_n 0, 1) := by decide +kernel
theorem dX4_readSum_20 : decode cX4_readSum 20 = .ok (.getfield 36, 3) := by decide +kernel
theorem dX4_readSum_23 : decode cX4_readSum 23 = .ok (.bipush 43, 2) := by decide +kernel
theorem dX4_readSum_25 : decode cX4_readSum 25 = .ok (.if_icmp .eq 12, 3) := by decide +kernel
theorem dX4_readSum_28 : decode cX4_readSum 28 = .ok (.aload_n 0, 1) := by decide +kernel
theorem dX4_readSum_29 : decode cX4_readSum 29 = .ok (.getfield 36, 3) := by decide +kernel
theorem dX4_readSum_32 : decode cX4_readSum 32 = .ok (.bipush 45, 2) := by decide +kernel
theorem dX4_readSum_34 : decode cX4_readSum 34 = .ok (.if_icmp .ne 35, 3) := by decide +kernel
theorem dX4_readSum_37 : decode cX4_readSum 37 = .ok (.aload_n 0, 1) := by decide +kernel
theorem dX4_readSum_38 : decode cX4_readSum 38 = .ok (.getfield 36, 3) := by decide +kernel
theorem dX4_readSum_41 : decode cX4_readSum 41 = .ok (.istore 4, 2) := by decide +kernel
theorem dX4_readSum_43 : decode cX4_readSum 43 = .ok (.aload_n 0, 1) := by decide +kernel
theorem dX4_readSum_44 : decode cX4_readSum 44 = .ok (.invokevirtual 31, 3) := by decide +kernel
theorem dX4_readSum_47 : decode cX4_readSum 47 = .ok (.aload_n 0, 1) := by decide +kernel
theorem dX4_readSum_48 : decode cX4_readSum 48 = .ok (.iload_n 1, 1) := by decide +kernel
theorem dX4_readSum_49 : decode cX4_readSum 49 = .ok (.invokevirtual 155, 3) := by decide +kernel
theorem dX4_readSum_52 : decode cX4_readSum 52 = .ok (.istore_n 2, 1) := by decide +kernel
theorem dX4_readSum_53 : decode cX4_readSum 53 = .ok (.aload_n 0, 1) := by decide +kernel
theorem dX4_readSum_54 : decode cX4_readSum 54 = .ok (.getfield 15, 3) := by decide +kernel
theorem dX4_readSum_57 : decode cX4_readSum 57 = .ok (.iload 4, 2) := by decide +kernel
theorem dX4_readSum_59 : decode cX4_readSum 59 = .ok (.iconst 0, 1) := by decide +kernel
theorem dX4_readSum_60 : decode cX4_readSum 60 = .ok (.invokevirtual 125, 3) := by decide +kernel
theorem dX4_readSum_63 : decode cX4_readSum 63 = .ok (.iinc 3 1, 3) := by decide +kernel
theorem dX4_readSum_66 : decode cX4_readSum 66 = .ok (.goto (-58), 3) := by decide +kernel
theorem dX4_readSum_69 : decode cX4_readSum 69 = .ok (.iload_n 2, 1) := by decide +kernel
theorem dX4_readSum_70 : decode cX4_readSum 70 = .ok (.ireturn, 1) := by decide +kernel
theorem dX4_readProduct_0 : decode cX4_readProduct 0 = .ok (.aload_n 0, 1) := by decide +kernel
theorem dX4_readProduct_1 : decode cX4_readProduct 1 = .ok (.iload_n 1, 1) := by decide +kernel
theorem dX4_readProduct_2 : decode cX4_readProduct 2 = .ok (.invokevirtual 158, 3) := by decide +kernel
theorem dX4_readProduct_5 : decode cX4_readProduct 5 = .ok (.istore_n 2, 1) := by decide +kernel
theorem dX4_readProduct_6 : decode cX4_readProduct 6 = .ok (.iconst 0, 1) := by decide +kernel
theorem dX4_readProduct_7 : decode cX4_readProduct 7 = .ok (.istore_n 3, 1) := by decide +kernel
theorem dX4_readProduct_8 : decode cX4_readProduct 8 = .ok (.iload_n 3, 1) := by decide +kernel
theorem dX4_readProduct_9 : decode cX4_readProduct 9 = .ok (.sipush 300, 3) := by decide +kernel
theorem dX4_readProduct_12 : decode cX4_readProduct 12 = .ok (.if_icmp .ge 57, 3) := by decide +kernel
theorem dX4_readProduct_15 : decode cX4_readProduct 15 = .ok (.iload_n 2, 1) := by decide +kernel
theorem dX4_readProduct_16 : decode cX4_readProduct 16 = .ok (.ifCond .eq 53, 3) := by decide +kernel
theorem dX4_readProduct_19 : decode cX4_readProduct 19 = .ok (.aload_n 0, 1) := by decide +kernel
theorem dX4_readProduct_20 : decode cX4_readProduct 20 = .ok (.getfield 36, 3) := by decide +kernel
theorem dX4_readProduct_23 : decode cX4_readProduct 23 = .ok (.bipush 42, 2) := by decide +kernel
theorem dX4_readProduct_25 : decode cX4_readProduct 25 = .ok (.if_icmp .eq 12, 3) := by decide +kernel
theorem dX4_readProduct_28 : decode cX4_readProduct 28 = .ok (.aload_n 0, 1) := by decide +kernel
theorem dX4_readProduct_29 : decode cX4_readProduct 29 = .ok (.getfield 36, 3) := by decide +kernel
theorem dX4_readProduct_32 : decode cX4_readProduct 32 = .ok (.bipush 47, 2) := by decide +kernel
theorem dX4_readProduct_34 : decode cX4_readProduct 34 = .ok (.if_icmp .ne 35, 3) := by decide +kernel
theorem dX4_readProduct_37 : decode cX4_readProduct 37 = .ok (.aload_n 0, 1) := by decide +kernel
theorem dX4_readProduct_38 : decode cX4_readProduct 38 = .ok (.getfield 36, 3) := by decide +kernel
theorem dX4_readProduct_41 : decode cX4_readProduct 41 = .ok (.istore 4, 2) := by decide +kernel
theorem dX4_readProduct_43 : decode cX4_readProduct 43 = .ok (.aload_n 0, 1) := by decide +kernel
theorem dX4_readProduct_44 : decode cX4_readProduct 44 = .ok (.invokevirtual 31, 3) := by decide +kernel
theorem dX4_readProduct_47 : decode cX4_readProduct 47 = .ok (.aload_n 0, 1) := by decide +kernel
theorem dX4_readProduct_48 : decode cX4_readProduct 48 = .ok (.iload_n 1, 1) := by decide +kernel
theorem dX4_readProduct_49 : decode cX4_readProduct 49 = .ok (.invokevirtual 158, 3) := by decide +kernel
theorem dX4_readProduct_52 : decode cX4_readProduct 52 = .ok (.istore_n 2, 1) := by decide +kernel
theorem dX4_readProduct_53 : decode cX4_readProduct 53 = .ok (.aload_n 0, 1) := by decide +kernel
theorem dX4_readProduct_54 : decode cX4_readProduct 54 = .ok (.getfield 15, 3) := by decide +kernel
theorem dX4_readProduct_57 : decode cX4_readProduct 57 = .ok (.iload 4, 2) := by decide +kernel
theorem dX4_readProduct_59 : decode cX4_readProduct 59 = .ok (.iconst 0, 1) := by decide +kernel
theorem dX4_readProduct_60 : decode cX4_readProduct 60 = .ok (.invokevirtual 125, 3) := by decide +kernel
theorem dX4_readProduct_63 : decode cX4_readProduct 63 = .ok (.iinc 3 1, 3) := by decide +kernel
theorem dX4_readProduct_66 : decode cX4_readProduct 66 = .ok (.goto (-58), 3) := by decide +kernel
theorem dX4_readProduct_69 : decode cX4_readProduct 69 = .ok (.iload_n 2, 1) := by decide +kernel
theorem dX4_readProduct_70 : decode cX4_readProduct 70 = .ok (.ireturn, 1) := by decide +kernel
theorem dX4_readOne_0 : decode cX4_readOne 0 = .ok (.aload_n 0, 1) := by decide +kernel
theorem dX4_readOne_1 : decode cX4_readOne 1 = .ok (.getfield 36, 3) := by decide +kernel
theorem dX4_readOne_4 : decode cX4_readOne 4 = .ok (.bipush 40, 2) := by decide +kernel
theorem dX4_readOne_6 : decode cX4_readOne 6 = .ok (.if_icmp .ne 36, 3) := by decide +kernel
theorem dX4_readOne_9 : decode cX4_readOne 9 = .ok (.aload_n 0, 1) := by decide +kernel
theorem dX4_readOne_10 : decode cX4_readOne 10 = .ok (.iload_n 1, 1) := by decide +kernel
theorem dX4_readOne_11 : decode cX4_readOne 11 = .ok (.invokevirtual 137, 3) := by decide +kernel
theorem dX4_readOne_14 : decode cX4_readOne 14 = .ok (.ifCond .eq 26, 3) := by decide +kernel
theorem dX4_readOne_17 : decode cX4_readOne 17 = .ok (.aload_n 0, 1) := by decide +kernel
theorem dX4_readOne_18 : decode cX4_readOne 18 = .ok (.iload_n 1, 1) := by decide +kernel
theorem dX4_readOne_19 : decode cX4_readOne 19 = .ok (.iconst 1, 1) := by decide +kernel
theorem dX4_readOne_20 : decode cX4_readOne 20 = .ok (.iadd, 1) := by decide +kernel
theorem dX4_readOne_21 : decode cX4_readOne 21 = .ok (.invokevirtual 122, 3) := by decide +kernel
theorem dX4_readOne_24 : decode cX4_readOne 24 = .ok (.ifCond .eq 16, 3) := by decide +kernel
theorem dX4_readOne_27 : decode cX4_readOne 27 = .ok (.aload_n 0, 1) := by decide +kernel
theorem dX4_readOne_28 : decode cX4_readOne 28 = .ok (.bipush 41, 2) := by decide +kernel
theorem dX4_readOne_30 : decode cX4_readOne 30 = .ok (.invokevirtual 103, 3) := by decide +kernel
theorem dX4_readOne_33 : decode cX4_readOne 33 = .ok (.ifCond .eq 7, 3) := by decide +kernel
theorem dX4_readOne_36 : decode cX4_readOne 36 = .ok (.iconst 1, 1) := by decide +kernel
theorem dX4_readOne_37 : decode cX4_readOne 37 = .ok (.goto 4, 3) := by decide +kernel
theorem dX4_readOne_40 : decode cX4_readOne 40 = .ok (.iconst 0, 1) := by decide +kernel
theorem dX4_readOne_41 : decode cX4_readOne 41 = .ok (.ireturn, 1) := by decide +kernel
theorem dX4_readOne_42 : decode cX4_readOne 42 = .ok (.aload_n 0, 1) := by decide +kernel
theorem dX4_readOne_43 : decode cX4_readOne 43 = .ok (.getfield 36, 3) := by decide +kernel
theorem dX4_readOne_46 : decode cX4_readOne 46 = .ok (.bipush 45, 2) := by decide +kernel
theorem dX4_readOne_48 : decode cX4_readOne 48 = .ok (.if_icmp .ne 39, 3) := by decide +kernel
theorem dX4_readOne_51 : decode cX4_readOne 51 = .ok (.aload_n 0, 1) := by decide +kernel
theorem dX4_readOne_52 : decode cX4_readOne 52 = .ok (.iload_n 1, 1) := by decide +kernel
theorem dX4_readOne_53 : decode cX4_readOne 53 = .ok (.invokevirtual 137, 3) := by decide +kernel
theorem dX4_readOne_56 : decode cX4_readOne 56 = .ok (.ifCond .eq 17, 3) := by decide +kernel
theorem dX4_readOne_59 : decode cX4_readOne 59 = .ok (.aload_n 0, 1) := by decide +kernel
theorem dX4_readOne_60 : decode cX4_readOne 60 = .ok (.iload_n 1, 1) := by decide +kernel
theorem dX4_readOne_61 : decode cX4_readOne 61 = .ok (.iconst 1, 1) := by decide +kernel
theorem dX4_readOne_62 : decode cX4_readOne 62 = .ok (.iadd, 1) := by decide +kernel
theorem dX4_readOne_63 : decode cX4_readOne 63 = .ok (.invokevirtual 158, 3) := by decide +kernel
theorem dX4_readOne_66 : decode cX4_readOne 66 = .ok (.ifCond .eq 7, 3) := by decide +kernel
theorem dX4_readOne_69 : decode cX4_readOne 69 = .ok (.iconst 1, 1) := by decide +kernel
theorem dX4_readOne_70 : decode cX4_readOne 70 = .ok (.goto 4, 3) := by decide +kernel
theorem dX4_readOne_73 : decode cX4_readOne 73 = .ok (.iconst 0, 1) := by decide +kernel
theorem dX4_readOne_74 : decode cX4_readOne 74 = .ok (.istore_n 2, 1) := by decide +kernel
theorem dX4_readOne_75 : decode cX4_readOne 75 = .ok (.aload_n 0, 1) := by decide +kernel
theorem dX4_readOne_76 : decode cX4_readOne 76 = .ok (.getfield 15, 3) := by decide +kernel
theorem dX4_readOne_79 : decode cX4_readOne 79 = .ok (.bipush 76, 2) := by decide +kernel
theorem dX4_readOne_81 : decode cX4_readOne 81 = .ok (.iconst 0, 1) := by decide +kernel
theorem dX4_readOne_82 : decode cX4_readOne 82 = .ok (.invokevirtual 125, 3) := by decide +kernel
theorem dX4_readOne_85 : decode cX4_readOne 85 = .ok (.iload_n 2, 1) := by decide +kernel
theorem dX4_readOne_86 : decode cX4_readOne 86 = .ok (.ireturn, 1) := by decide +kernel
theorem dX4_readOne_87 : decode cX4_readOne 87 = .ok (.aload_n 0, 1) := by decide +kernel
theorem dX4_readOne_88 : decode cX4_readOne 88 = .ok (.getfield 36, 3) := by decide +kernel
theorem dX4_readOne_91 : decode cX4_readOne 91 = .ok (.bipush 11, 2) := by decide +kernel
theorem dX4_readOne_93 : decode cX4_readOne 93 = .ok (.if_icmp .lt 24, 3) := by decide +kernel
theorem dX4_readOne_96 : decode cX4_readOne 96 = .ok (.aload_n 0, 1) := by decide +kernel
theorem dX4_readOne_97 : decode cX4_readOne 97 = .ok (.getfield 36, 3) := by decide +kernel
theorem dX4_readOne_100 : decode cX4_readOne 100 = .ok (.bipush 18, 2) := by decide +kernel
theorem dX4_readOne_102 : decode cX4_readOne 102 = .ok (.if_icmp .gt 15, 3) := by decide +kernel
theorem dX4_readOne_105 : decode cX4_readOne 105 = .ok (.aload_n 0, 1) := by decide +kernel
theorem dX4_readOne_106 : decode cX4_readOne 106 = .ok (.aload_n 0, 1) := by decide +kernel
theorem dX4_readOne_107 : decode cX4_readOne 107 = .ok (.getfield 36, 3) := by decide +kernel
theorem dX4_readOne_110 : decode cX4_readOne 110 = .ok (.bipush 11, 2) := by decide +kernel
theorem dX4_readOne_112 : decode cX4_readOne 112 = .ok (.isub, 1) := by decide +kernel
theorem dX4_readOne_113 : decode cX4_readOne 113 = .ok (.invokevirtual 161, 3) := by decide +kernel
theorem dX4_readOne_116 : decode cX4_readOne 116 = .ok (.ireturn, 1) := by decide +kernel
theorem dX4_readOne_117 : decode cX4_readOne 117 = .ok (.aload_n 0, 1) := by decide +kernel
theorem dX4_readOne_118 : decode cX4_readOne 118 = .ok (.iconst 0, 1) := by decide +kernel
theorem dX4_readOne_119 : decode cX4_readOne 119 = .ok (.sipush 9999, 3) := by decide +kernel
theorem dX4_readOne_122 : decode cX4_readOne 122 = .ok (.invokevirtual 75, 3) := by decide +kernel
theorem dX4_readOne_125 : decode cX4_readOne 125 = .ok (.ifCond .ne 5, 3) := by decide +kernel
theorem dX4_readOne_128 : decode cX4_readOne 128 = .ok (.iconst 0, 1) := by decide +kernel
theorem dX4_readOne_129 : decode cX4_readOne 129 = .ok (.ireturn, 1) := by decide +kernel
theorem dX4_readOne_130 : decode cX4_readOne 130 = .ok (.aload_n 0, 1) := by decide +kernel
theorem dX4_readOne_131 : decode cX4_readOne 131 = .ok (.getfield 15, 3) := by decide +kernel
theorem dX4_readOne_134 : decode cX4_readOne 134 = .ok (.bipush 72, 2) := by decide +kernel
theorem dX4_readOne_136 : decode cX4_readOne 136 = .ok (.aload_n 0, 1) := by decide +kernel
theorem dX4_readOne_137 : decode cX4_readOne 137 = .ok (.getfield 72, 3) := by decide +kernel
theorem dX4_readOne_140 : decode cX4_readOne 140 = .ok (.invokevirtual 125, 3) := by decide +kernel
theorem dX4_readOne_143 : decode cX4_readOne 143 = .ok (.iconst 1, 1) := by decide +kernel
theorem dX4_readOne_144 : decode cX4_readOne 144 = .ok (.ireturn, 1) := by decide +kernel
theorem dX4_readName_0 : decode cX4_readName 0 = .ok (.aload_n 0, 1) := by decide +kernel
theorem dX4_readName_1 : decode cX4_readName 1 = .ok (.iload_n 1, 1) := by decide +kernel
theorem dX4_readName_2 : decode cX4_readName 2 = .ok (.invokevirtual 164, 3) := by decide +kernel
theorem dX4_readName_5 : decode cX4_readName 5 = .ok (.ifCond .ne 9, 3) := by decide +kernel
theorem dX4_readName_8 : decode cX4_readName 8 = .ok (.aload_n 0, 1) := by decide +kernel
theorem dX4_readName_9 : decode cX4_readName 9 = .ok (.iconst 5, 1) := by decide +kernel
theorem dX4_readName_10 : decode cX4_readName 10 = .ok (.invokevirtual 61, 3) := by decide +kernel
theorem dX4_readName_13 : decode cX4_readName 13 = .ok (.ireturn, 1) := by decide +kernel
theorem dX4_readName_14 : decode cX4_readName 14 = .ok (.aload_n 0, 1) := by decide +kernel
theorem dX4_readName_15 : decode cX4_readName 15 = .ok (.getfield 15, 3) := by decide +kernel
theorem dX4_readName_18 : decode cX4_readName 18 = .ok (.bipush 75, 2) := by decide +kernel
theorem dX4_readName_20 : decode cX4_readName 20 = .ok (.iload_n 1, 1) := by decide +kernel
theorem dX4_readName_21 : decode cX4_readName 21 = .ok (.invokevirtual 125, 3) := by decide +kernel
theorem dX4_readName_24 : decode cX4_readName 24 = .ok (.aload_n 0, 1) := by decide +kernel
theorem dX4_readName_25 : decode cX4_readName 25 = .ok (.invokevirtual 31, 3) := by decide +kernel
theorem dX4_readName_28 : decode cX4_readName 28 = .ok (.iconst 1, 1) := by decide +kernel
theorem dX4_readName_29 : decode cX4_readName 29 = .ok (.ireturn, 1) := by decide +kernel
theorem dX4_isOfLaw_0 : decode cX4_isOfLaw 0 = .ok (.aload_n 0, 1) := by decide +kernel
theorem dX4_isOfLaw_1 : decode cX4_isOfLaw 1 = .ok (.getfield 110, 3) := by decide +kernel
theorem dX4_isOfLaw_4 : decode cX4_isOfLaw 4 = .ok (.iconst 4, 1) := by decide +kernel
theorem dX4_isOfLaw_5 : decode cX4_isOfLaw 5 = .ok (.if_icmp .lt 12, 3) := by decide +kernel
theorem dX4_isOfLaw_8 : decode cX4_isOfLaw 8 = .ok (.aload_n 0, 1) := by decide +kernel
theorem dX4_isOfLaw_9 : decode cX4_isOfLaw 9 = .ok (.getfield 110, 3) := by decide +kernel
theorem dX4_isOfLaw_12 : decode cX4_isOfLaw 12 = .ok (.bipush 7, 2) := by decide +kernel
theorem dX4_isOfLaw_14 : decode cX4_isOfLaw 14 = .ok (.if_icmp .ne 7, 3) := by decide +kernel
theorem dX4_isOfLaw_17 : decode cX4_isOfLaw 17 = .ok (.iconst 1, 1) := by decide +kernel
theorem dX4_isOfLaw_18 : decode cX4_isOfLaw 18 = .ok (.goto 4, 3) := by decide +kernel
theorem dX4_isOfLaw_21 : decode cX4_isOfLaw 21 = .ok (.iconst 0, 1) := by decide +kernel
theorem dX4_isOfLaw_22 : decode cX4_isOfLaw 22 = .ok (.istore_n 2, 1) := by decide +kernel
theorem dX4_isOfLaw_23 : decode cX4_isOfLaw 23 = .ok (.iload_n 1, 1) := by decide +kernel
theorem dX4_isOfLaw_24 : decode cX4_isOfLaw 24 = .ok (.tableswitch 63 3 7 #[36, 46, 46, 46, 48], 36) := by decide +kernel
theorem dX4_isOfLaw_60 : decode cX4_isOfLaw 60 = .ok (.iload_n 2, 1) := by decide +kernel
theorem dX4_isOfLaw_61 : decode cX4_isOfLaw 61 = .ok (.ifCond .ne 7, 3) := by decide +kernel
theorem dX4_isOfLaw_64 : decode cX4_isOfLaw 64 = .ok (.iconst 1, 1) := by decide +kernel
theorem dX4_isOfLaw_65 : decode cX4_isOfLaw 65 = .ok (.goto 4, 3) := by decide +kernel
theorem dX4_isOfLaw_68 : decode cX4_isOfLaw 68 = .ok (.iconst 0, 1) := by decide +kernel
theorem dX4_isOfLaw_69 : decode cX4_isOfLaw 69 = .ok (.ireturn, 1) := by decide +kernel
theorem dX4_isOfLaw_70 : decode cX4_isOfLaw 70 = .ok (.iload_n 2, 1) := by decide +kernel
theorem dX4_isOfLaw_71 : decode cX4_isOfLaw 71 = .ok (.ireturn, 1) := by decide +kernel
theorem dX4_isOfLaw_72 : decode cX4_isOfLaw 72 = .ok (.aload_n 0, 1) := by decide +kernel
theorem dX4_isOfLaw_73 : decode cX4_isOfLaw 73 = .ok (.getfield 110, 3) := by decide +kernel
theorem dX4_isOfLaw_76 : decode cX4_isOfLaw 76 = .ok (.bipush 7, 2) := by decide +kernel
theorem dX4_isOfLaw_78 : decode cX4_isOfLaw 78 = .ok (.if_icmp .ne 7, 3) := by decide +kernel
theorem dX4_isOfLaw_81 : decode cX4_isOfLaw 81 = .ok (.iconst 1, 1) := by decide +kernel
theorem dX4_isOfLaw_82 : decode cX4_isOfLaw 82 = .ok (.goto 4, 3) := by decide +kernel
theorem dX4_isOfLaw_85 : decode cX4_isOfLaw 85 = .ok (.iconst 0, 1) := by decide +kernel
theorem dX4_isOfLaw_86 : decode cX4_isOfLaw 86 = .ok (.ireturn, 1) := by decide +kernel
theorem dX4_isOfLaw_87 : decode cX4_isOfLaw 87 = .ok (.iconst 1, 1) := by decide +kernel
theorem dX4_isOfLaw_88 : decode cX4_isOfLaw 88 = .ok (.ireturn, 1) := by decide +kernel
theorem dX5_init_0 : decode cX5_init 0 = .ok (.aload_n 0, 1) := by decide +kernel
theorem dX5_init_1 : decode cX5_init 1 = .ok (.invokespecial 3, 3) := by decide +kernel
theorem dX5_init_4 : decode cX5_init 4 = .ok (.aload_n 0, 1) := by decide +kernel
theorem dX5_init_5 : decode cX5_init 5 = .ok (.bipush 32, 2) := by decide +kernel
theorem dX5_init_7 : decode cX5_init 7 = .ok (.newarray .int, 2) := by decide +kernel
theorem dX5_init_9 : decode cX5_init 9 = .ok (.putfield 11, 3) := by decide +kernel
theorem dX5_init_12 : decode cX5_init 12 = .ok (.return_, 1) := by decide +kernel
theorem dX5_isFull_0 : decode cX5_isFull 0 = .ok (.aload_n 0, 1) := by decide +kernel
theorem dX5_isFull_1 : decode cX5_isFull 1 = .ok (.getfield 15, 3) := by decide +kernel
theorem dX5_isFull_4 : decode cX5_isFull 4 = .ok (.bipush 8, 2) := by decide +kernel
theorem dX5_isFull_6 : decode cX5_isFull 6 = .ok (.if_icmp .lt 7, 3) := by decide +kernel
theorem dX5_isFull_9 : decode cX5_isFull 9 = .ok (.iconst 1, 1) := by decide +kernel
theorem dX5_isFull_10 : decode cX5_isFull 10 = .ok (.goto 4, 3) := by decide +kernel
theorem dX5_isFull_13 : decode cX5_isFull 13 = .ok (.iconst 0, 1) := by decide +kernel
theorem dX5_isFull_14 : decode cX5_isFull 14 = .ok (.ireturn, 1) := by decide +kernel
theorem dX5_has_0 : decode cX5_has 0 = .ok (.iload_n 1, 1) := by decide +kernel
theorem dX5_has_1 : decode cX5_has 1 = .ok (.ifCond .lt 21, 3) := by decide +kernel
theorem dX5_has_4 : decode cX5_has 4 = .ok (.iload_n 1, 1) := by decide +kernel
theorem dX5_has_5 : decode cX5_has 5 = .ok (.aload_n 0, 1) := by decide +kernel
theorem dX5_has_6 : decode cX5_has 6 = .ok (.getfield 15, 3) := by decide +kernel
theorem dX5_has_9 : decode cX5_has 9 = .ok (.if_icmp .ge 13, 3) := by decide +kernel
theorem dX5_has_12 : decode cX5_has 12 = .ok (.iload_n 1, 1) := by decide +kernel
theorem dX5_has_13 : decode cX5_has 13 = .ok (.bipush 8, 2) := by decide +kernel
theorem dX5_has_15 : decode cX5_has 15 = .ok (.if_icmp .ge 7, 3) := by decide +kernel
theorem dX5_has_18 : decode cX5_has 18 = .ok (.iconst 1, 1) := by decide +kernel
theorem dX5_has_19 : decode cX5_has 19 = .ok (.goto 4, 3) := by decide +kernel
theorem dX5_has_22 : decode cX5_has 22 = .ok (.iconst 0, 1) := by decide +kernel
theorem dX5_has_23 : decode cX5_has 23 = .ok (.ireturn, 1) := by decide +kernel
theorem dX5_at_0 : decode cX5_at 0 = .ok (.aload_n 0, 1) := by decide +kernel
theorem dX5_at_1 : decode cX5_at 1 = .ok (.iload_n 1, 1) := by decide +kernel
theorem dX5_at_2 : decode cX5_at 2 = .ok (.invokevirtual 19, 3) := by decide +kernel
theorem dX5_at_5 : decode cX5_at 5 = .ok (.ifCond .eq 25, 3) := by decide +kernel
theorem dX5_at_8 : decode cX5_at 8 = .ok (.iload_n 2, 1) := by decide +kernel
theorem dX5_at_9 : decode cX5_at 9 = .ok (.ifCond .lt 21, 3) := by decide +kernel
theorem dX5_at_12 : decode cX5_at 12 = .ok (.iload_n 2, 1) := by decide +kernel
theorem dX5_at_13 : decode cX5_at 13 = .ok (.iconst 4, 1) := by decide +kernel
theorem dX5_at_14 : decode cX5_at 14 = .ok (.if_icmp .ge 16, 3) := by decide +kernel
theorem dX5_at_17 : decode cX5_at 17 = .ok (.aload_n 0, 1) := by decide +kernel
theorem dX5_at_18 : decode cX5_at 18 = .ok (.getfield 11, 3) := by decide +kernel
theorem dX5_at_21 : decode cX5_at 21 = .ok (.iload_n 1, 1) := by decide +kernel
theorem dX5_at_22 : decode cX5_at 22 = .ok (.iconst 4, 1) := by decide +kernel
theorem dX5_at_23 : decode cX5_at 23 = .ok (.imul, 1) := by decide +kernel
theorem dX5_at_24 : decode cX5_at 24 = .ok (.iload_n 2, 1) := by decide +kernel
theorem dX5_at_25 : decode cX5_at 25 = .ok (.iadd, 1) := by decide +kernel
theorem dX5_at_26 : decode cX5_at 26 = .ok (.iaload, 1) := by decide +kernel
theorem dX5_at_27 : decode cX5_at 27 = .ok (.goto 4, 3) := by decide +kernel
theorem dX5_at_30 : decode cX5_at 30 = .ok (.iconst (-1), 1) := by decide +kernel
theorem dX5_at_31 : decode cX5_at 31 = .ok (.ireturn, 1) := by decide +kernel
theorem dX5_add_0 : decode cX5_add 0 = .ok (.aload_n 0, 1) := by decide +kernel
theorem dX5_add_1 : decode cX5_add 1 = .ok (.getfield 15, 3) := by decide +kernel
theorem dX5_add_4 : decode cX5_add 4 = .ok (.ifCond .lt 77, 3) := by decide +kernel
theorem dX5_add_7 : decode cX5_add 7 = .ok (.aload_n 0, 1) := by decide +kernel
theorem dX5_add_8 : decode cX5_add 8 = .ok (.getfield 15, 3) := by decide +kernel
theorem dX5_add_11 : decode cX5_add 11 = .ok (.bipush 8, 2) := by decide +kernel
theorem dX5_add_13 : decode cX5_add 13 = .ok (.if_icmp .ge 68, 3) := by decide +kernel
theorem dX5_add_16 : decode cX5_add 16 = .ok (.aload_n 0, 1) := by decide +kernel
theorem dX5_add_17 : decode cX5_add 17 = .ok (.getfield 11, 3) := by decide +kernel
theorem dX5_add_20 : decode cX5_add 20 = .ok (.aload_n 0, 1) := by decide +kernel
theorem dX5_add_21 : decode cX5_add 21 = .ok (.getfield 15, 3) := by decide +kernel
theorem dX5_add_24 : decode cX5_add 24 = .ok (.iconst 4, 1) := by decide +kernel
theorem dX5_add_25 : decode cX5_add 25 = .ok (.imul, 1) := by decide +kernel
theorem dX5_add_26 : decode cX5_add 26 = .ok (.iload_n 1, 1) := by decide +kernel
theorem dX5_add_27 : decode cX5_add 27 = .ok (.iastore, 1) := by decide +kernel
theorem dX5_add_28 : decode cX5_add 28 = .ok (.aload_n 0, 1) := by decide +kernel
theorem dX5_add_29 : decode cX5_add 29 = .ok (.getfield 11, 3) := by decide +kernel
theorem dX5_add_32 : decode cX5_add 32 = .ok (.aload_n 0, 1) := by decide +kernel
theorem dX5_add_33 : decode cX5_add 33 = .ok (.getfield 15, 3) := by decide +kernel
theorem dX5_add_36 : decode cX5_add 36 = .ok (.iconst 4, 1) := by decide +kernel
theorem dX5_add_37 : decode cX5_add 37 = .ok (.imul, 1) := by decide +kernel
theorem dX5_add_38 : decode cX5_add 38 = .ok (.iconst 1, 1) := by decide +kernel
theorem dX5_add_39 : decode cX5_add 39 = .ok (.iadd, 1) := by decide +kernel
theorem dX5_add_40 : decode cX5_add 40 = .ok (.iload_n 2, 1) := by decide +kernel
theorem dX5_add_41 : decode cX5_add 41 = .ok (.iastore, 1) := by decide +kernel
theorem dX5_add_42 : decode cX5_add 42 = .ok (.aload_n 0, 1) := by decide +kernel
theorem dX5_add_43 : decode cX5_add 43 = .ok (.getfield 11, 3) := by decide +kernel
theorem dX5_add_46 : decode cX5_add 46 = .ok (.aload_n 0, 1) := by decide +kernel
theorem dX5_add_47 : decode cX5_add 47 = .ok (.getfield 15, 3) := by decide +kernel
theorem dX5_add_50 : decode cX5_add 50 = .ok (.iconst 4, 1) := by decide +kernel
theorem dX5_add_51 : decode cX5_add 51 = .ok (.imul, 1) := by decide +kernel
theorem dX5_add_52 : decode cX5_add 52 = .ok (.iconst 2, 1) := by decide +kernel
theorem dX5_add_53 : decode cX5_add 53 = .ok (.iadd, 1) := by decide +kernel
theorem dX5_add_54 : decode cX5_add 54 = .ok (.iload_n 3, 1) := by decide +kernel
theorem dX5_add_55 : decode cX5_add 55 = .ok (.iastore, 1) := by decide +kernel
theorem dX5_add_56 : decode cX5_add 56 = .ok (.aload_n 0, 1) := by decide +kernel
theorem dX5_add_57 : decode cX5_add 57 = .ok (.getfield 11, 3) := by decide +kernel
theorem dX5_add_60 : decode cX5_add 60 = .ok (.aload_n 0, 1) := by decide +kernel
theorem dX5_add_61 : decode cX5_add 61 = .ok (.getfield 15, 3) := by decide +kernel
theorem dX5_add_64 : decode cX5_add 64 = .ok (.iconst 4, 1) := by decide +kernel
theorem dX5_add_65 : decode cX5_add 65 = .ok (.imul, 1) := by decide +kernel
theorem dX5_add_66 : decode cX5_add 66 = .ok (.iconst 3, 1) := by decide +kernel
theorem dX5_add_67 : decode cX5_add 67 = .ok (.iadd, 1) := by decide +kernel
theorem dX5_add_68 : decode cX5_add 68 = .ok (.iload 4, 2) := by decide +kernel
theorem dX5_add_70 : decode cX5_add 70 = .ok (.iastore, 1) := by decide +kernel
theorem dX5_add_71 : decode cX5_add 71 = .ok (.aload_n 0, 1) := by decide +kernel
theorem dX5_add_72 : decode cX5_add 72 = .ok (.dup, 1) := by decide +kernel
theorem dX5_add_73 : decode cX5_add 73 = .ok (.getfield 15, 3) := by decide +kernel
theorem dX5_add_76 : decode cX5_add 76 = .ok (.iconst 1, 1) := by decide +kernel
theorem dX5_add_77 : decode cX5_add 77 = .ok (.iadd, 1) := by decide +kernel
theorem dX5_add_78 : decode cX5_add 78 = .ok (.putfield 15, 3) := by decide +kernel
theorem dX5_add_81 : decode cX5_add 81 = .ok (.aload_n 0, 1) := by decide +kernel
theorem dX5_add_82 : decode cX5_add 82 = .ok (.getfield 15, 3) := by decide +kernel
theorem dX5_add_85 : decode cX5_add 85 = .ok (.ireturn, 1) := by decide +kernel
theorem dX5_sum_0 : decode cX5_sum 0 = .ok (.iconst 0, 1) := by decide +kernel
theorem dX5_sum_1 : decode cX5_sum 1 = .ok (.istore_n 3, 1) := by decide +kernel
theorem dX5_sum_2 : decode cX5_sum 2 = .ok (.iconst 0, 1) := by decide +kernel
theorem dX5_sum_3 : decode cX5_sum 3 = .ok (.istore 4, 2) := by decide +kernel
theorem dX5_sum_5 : decode cX5_sum 5 = .ok (.iload 4, 2) := by decide +kernel
theorem dX5_sum_7 : decode cX5_sum 7 = .ok (.aload_n 0, 1) := by decide +kernel
theorem dX5_sum_8 : decode cX5_sum 8 = .ok (.getfield 15, 3) := by decide +kernel
theorem dX5_sum_11 : decode cX5_sum 11 = .ok (.if_icmp .ge 29, 3) := by decide +kernel
theorem dX5_sum_14 : decode cX5_sum 14 = .ok (.iload_n 1, 1) := by decide +kernel
theorem dX5_sum_15 : decode cX5_sum 15 = .ok (.iload 4, 2) := by decide +kernel
theorem dX5_sum_17 : decode cX5_sum 17 = .ok (.ishr, 1) := by decide +kernel
theorem dX5_sum_18 : decode cX5_sum 18 = .ok (.iconst 1, 1) := by decide +kernel
theorem dX5_sum_19 : decode cX5_sum 19 = .ok (.iand, 1) := by decide +kernel
theorem dX5_sum_20 : decode cX5_sum 20 = .ok (.iconst 1, 1) := by decide +kernel
theorem dX5_sum_21 : decode cX5_sum 21 = .ok (.if_icmp .ne 13, 3) := by decide +kernel
theorem dX5_sum_24 : decode cX5_sum 24 = .ok (.iload_n 3, 1) := by decide +kernel
theorem dX5_sum_25 : decode cX5_sum 25 = .ok (.aload_n 0, 1) := by decide +kernel
theorem dX5_sum_26 : decode cX5_sum 26 = .ok (.iload 4, 2) := by decide +kernel
theorem dX5_sum_28 : decode cX5_sum 28 = .ok (.iload_n 2, 1) := by decide +kernel
theorem dX5_sum_29 : decode cX5_sum 29 = .ok (.invokevirtual 23, 3) := by decide +kernel
theorem dX5_sum_32 : decode cX5_sum 32 = .ok (.iadd, 1) := by decide +kernel
theorem dX5_sum_33 : decode cX5_sum 33 = .ok (.istore_n 3, 1) := by decide +kernel
theorem dX5_sum_34 : decode cX5_sum 34 = .ok (.iinc 4 1, 3) := by decide +kernel
theorem dX5_sum_37 : decode cX5_sum 37 = .ok (.goto (-32), 3) := by decide +kernel
theorem dX5_sum_40 : decode cX5_sum 40 = .ok (.iload_n 3, 1) := by decide +kernel
theorem dX5_sum_41 : decode cX5_sum 41 = .ok (.ireturn, 1) := by decide +kernel
theorem dX5_empty_0 : decode cX5_empty 0 = .ok (.aload_n 0, 1) := by decide +kernel
theorem dX5_empty_1 : decode cX5_empty 1 = .ok (.iconst 0, 1) := by decide +kernel
theorem dX5_empty_2 : decode cX5_empty 2 = .ok (.putfield 15, 3) := by decide +kernel
theorem dX5_empty_5 : decode cX5_empty 5 = .ok (.aload_n 0, 1) := by decide +kernel
theorem dX5_empty_6 : decode cX5_empty 6 = .ok (.getfield 15, 3) := by decide +kernel
theorem dX5_empty_9 : decode cX5_empty 9 = .ok (.ireturn, 1) := by decide +kernel
theorem dX5_copyFrom_0 : decode cX5_copyFrom 0 = .ok (.aload_n 1, 1) := by decide +kernel
theorem dX5_copyFrom_1 : decode cX5_copyFrom 1 = .ok (.getfield 11, 3) := by decide +kernel
theorem dX5_copyFrom_4 : decode cX5_copyFrom 4 = .ok (.iconst 0, 1) := by decide +kernel
theorem dX5_copyFrom_5 : decode cX5_copyFrom 5 = .ok (.aload_n 0, 1) := by decide +kernel
theorem dX5_copyFrom_6 : decode cX5_copyFrom 6 = .ok (.getfield 11, 3) := by decide +kernel
theorem dX5_copyFrom_9 : decode cX5_copyFrom 9 = .ok (.iconst 0, 1) := by decide +kernel
theorem dX5_copyFrom_10 : decode cX5_copyFrom 10 = .ok (.aload_n 0, 1) := by decide +kernel
theorem dX5_copyFrom_11 : decode cX5_copyFrom 11 = .ok (.getfield 11, 3) := by decide +kernel
theorem dX5_copyFrom_14 : decode cX5_copyFrom 14 = .ok (.arraylength, 1) := by decide +kernel
theorem dX5_copyFrom_15 : decode cX5_copyFrom 15 = .ok (.invokestatic 27, 3) := by decide +kernel
theorem dX5_copyFrom_18 : decode cX5_copyFrom 18 = .ok (.aload_n 0, 1) := by decide +kernel
theorem dX5_copyFrom_19 : decode cX5_copyFrom 19 = .ok (.aload_n 1, 1) := by decide +kernel
theorem dX5_copyFrom_20 : decode cX5_copyFrom 20 = .ok (.getfield 15, 3) := by decide +kernel
theorem dX5_copyFrom_23 : decode cX5_copyFrom 23 = .ok (.putfield 15, 3) := by decide +kernel
theorem dX5_copyFrom_26 : decode cX5_copyFrom 26 = .ok (.return_, 1) := by decide +kernel
theorem dX6_init_0 : decode cX6_init 0 = .ok (.aload_n 0, 1) := by decide +kernel
theorem dX6_init_1 : decode cX6_init 1 = .ok (.invokespecial 1, 3) := by decide +kernel
theorem dX6_init_4 : decode cX6_init 4 = .ok (.aload_n 0, 1) := by decide +kernel
theorem dX6_init_5 : decode cX6_init 5 = .ok (.sipush 300, 3) := by decide +kernel
theorem dX6_init_8 : decode cX6_init 8 = .ok (.newarray .int, 2) := by decide +kernel
theorem dX6_init_10 : decode cX6_init 10 = .ok (.putfield 9, 3) := by decide +kernel
theorem dX6_init_13 : decode cX6_init 13 = .ok (.aload_n 0, 1) := by decide +kernel
theorem dX6_init_14 : decode cX6_init 14 = .ok (.sipush 301, 3) := by decide +kernel
theorem dX6_init_17 : decode cX6_init 17 = .ok (.newarray .int, 2) := by decide +kernel
theorem dX6_init_19 : decode cX6_init 19 = .ok (.putfield 13, 3) := by decide +kernel
theorem dX6_init_22 : decode cX6_init 22 = .ok (.aload_n 0, 1) := by decide +kernel
theorem dX6_init_23 : decode cX6_init 23 = .ok (.sipush 301, 3) := by decide +kernel
theorem dX6_init_26 : decode cX6_init 26 = .ok (.newarray .int, 2) := by decide +kernel
theorem dX6_init_28 : decode cX6_init 28 = .ok (.putfield 16, 3) := by decide +kernel
theorem dX6_init_31 : decode cX6_init 31 = .ok (.aload_n 0, 1) := by decide +kernel
theorem dX6_init_32 : decode cX6_init 32 = .ok (.sipush 301, 3) := by decide +kernel
theorem dX6_init_35 : decode cX6_init 35 = .ok (.newarray .int, 2) := by decide +kernel
theorem dX6_init_37 : decode cX6_init 37 = .ok (.putfield 19, 3) := by decide +kernel
theorem dX6_init_40 : decode cX6_init 40 = .ok (.return_, 1) := by decide +kernel
theorem dX6_hasRoom_0 : decode cX6_hasRoom 0 = .ok (.aload_n 0, 1) := by decide +kernel
theorem dX6_hasRoom_1 : decode cX6_hasRoom 1 = .ok (.getfield 22, 3) := by decide +kernel
theorem dX6_hasRoom_4 : decode cX6_hasRoom 4 = .ok (.bipush 20, 2) := by decide +kernel
theorem dX6_hasRoom_6 : decode cX6_hasRoom 6 = .ok (.iadd, 1) := by decide +kernel
theorem dX6_hasRoom_7 : decode cX6_hasRoom 7 = .ok (.sipush 300, 3) := by decide +kernel
theorem dX6_hasRoom_10 : decode cX6_hasRoom 10 = .ok (.if_icmp .gt 7, 3) := by decide +kernel
theorem dX6_hasRoom_13 : decode cX6_hasRoom 13 = .ok (.iconst 1, 1) := by decide +kernel
theorem dX6_hasRoom_14 : decode cX6_hasRoom 14 = .ok (.goto 4, 3) := by decide +kernel
theorem dX6_hasRoom_17 : decode cX6_hasRoom 17 = .ok (.iconst 0, 1) := by decide +kernel
theorem dX6_hasRoom_18 : decode cX6_hasRoom 18 = .ok (.ireturn, 1) := by decide +kernel
theorem dX6_put_0 : decode cX6_put 0 = .ok (.bipush 24, 2) := by decide +kernel
theorem dX6_put_2 : decode cX6_put 2 = .ok (.istore_n 2, 1) := by decide +kernel
theorem dX6_put_3 : decode cX6_put 3 = .ok (.iload_n 2, 1) := by decide +kernel
theorem dX6_put_4 : decode cX6_put 4 = .ok (.ifCond .lt 45, 3) := by decide +kernel
theorem dX6_put_7 : decode cX6_put 7 = .ok (.aload_n 0, 1) := by decide +kernel
theorem dX6_put_8 : decode cX6_put 8 = .ok (.getfield 22, 3) := by decide +kernel
theorem dX6_put_11 : decode cX6_put 11 = .ok (.sipush 300, 3) := by decide +kernel
theorem dX6_put_14 : decode cX6_put 14 = .ok (.if_icmp .ge 29, 3) := by decide +kernel
theorem dX6_put_17 : decode cX6_put 17 = .ok (.aload_n 0, 1) := by decide +kernel
theorem dX6_put_18 : decode cX6_put 18 = .ok (.getfield 9, 3) := by decide +kernel
theorem dX6_put_21 : decode cX6_put 21 = .ok (.aload_n 0, 1) := by decide +kernel
theorem dX6_put_22 : decode cX6_put 22 = .ok (.getfield 22, 3) := by decide +kernel
theorem dX6_put_25 : decode cX6_put 25 = .ok (.iload_n 1, 1) := by decide +kernel
theorem dX6_put_26 : decode cX6_put 26 = .ok (.iload_n 2, 1) := by decide +kernel
theorem dX6_put_27 : decode cX6_put 27 = .ok (.iushr, 1) := by decide +kernel
theorem dX6_put_28 : decode cX6_put 28 = .ok (.sipush 255, 3) := by decide +kernel
theorem dX6_put_31 : decode cX6_put 31 = .ok (.iand, 1) := by decide +kernel
theorem dX6_put_32 : decode cX6_put 32 = .ok (.iastore, 1) := by decide +kernel
theorem dX6_put_33 : decode cX6_put 33 = .ok (.aload_n 0, 1) := by decide +kernel
theorem dX6_put_34 : decode cX6_put 34 = .ok (.dup, 1) := by decide +kernel
theorem dX6_put_35 : decode cX6_put 35 = .ok (.getfield 22, 3) := by decide +kernel
theorem dX6_put_38 : decode cX6_put 38 = .ok (.iconst 1, 1) := by decide +kernel
theorem dX6_put_39 : decode cX6_put 39 = .ok (.iadd, 1) := by decide +kernel
theorem dX6_put_40 : decode cX6_put 40 = .ok (.putfield 22, 3) := by decide +kernel
theorem dX6_put_43 : decode cX6_put 43 = .ok (.iinc 2 (-8), 3) := by decide +kernel
theorem dX6_put_46 : decode cX6_put 46 = .ok (.goto (-43), 3) := by decide +kernel
theorem dX6_put_49 : decode cX6_put 49 = .ok (.return_, 1) := by decide +kernel
theorem dX6_scan_0 : decode cX6_scan 0 = .ok (.aload_n 0, 1) := by decide +kernel
theorem dX6_scan_1 : decode cX6_scan 1 = .ok (.iconst 0, 1) := by decide +kernel
theorem dX6_scan_2 : decode cX6_scan 2 = .ok (.putfield 26, 3) := by decide +kernel
theorem dX6_scan_5 : decode cX6_scan 5 = .ok (.iconst 0, 1) := by decide +kernel
theorem dX6_scan_6 : decode cX6_scan 6 = .ok (.istore_n 1, 1) := by decide +kernel
theorem dX6_scan_7 : decode cX6_scan 7 = .ok (.iconst 0, 1) := by decide +kernel
theorem dX6_scan_8 : decode cX6_scan 8 = .ok (.istore_n 2, 1) := by decide +kernel
theorem dX6_scan_9 : decode cX6_scan 9 = .ok (.iload_n 2, 1) := by decide +kernel
theorem dX6_scan_10 : decode cX6_scan 10 = .ok (.sipush 300, 3) := by decide +kernel
theorem dX6_scan_13 : decode cX6_scan 13 = .ok (.if_icmp .ge 80, 3) := by decide +kernel
theorem dX6_scan_16 : decode cX6_scan 16 = .ok (.iload_n 1, 1) := by decide +kernel
theorem dX6_scan_17 : decode cX6_scan 17 = .ok (.aload_n 0, 1) := by decide +kernel
theorem dX6_scan_18 : decode cX6_scan 18 = .ok (.getfield 22, 3) := by decide +kernel
theorem dX6_scan_21 : decode cX6_scan 21 = .ok (.if_icmp .ge 72, 3) := by decide +kernel
theorem dX6_scan_24 : decode cX6_scan 24 = .ok (.aload_n 0, 1) := by decide +kernel
theorem dX6_scan_25 : decode cX6_scan 25 = .ok (.getfield 9, 3) := by decide +kernel
theorem dX6_scan_28 : decode cX6_scan 28 = .ok (.iload_n 1, 1) := by decide +kernel
theorem dX6_scan_29 : decode cX6_scan 29 = .ok (.iaload, 1) := by decide +kernel
theorem dX6_scan_30 : decode cX6_scan 30 = .ok (.istore_n 3, 1) := by decide +kernel
theorem dX6_scan_31 : decode cX6_scan 31 = .ok (.iload_n 3, 1) := by decide +kernel
theorem dX6_scan_32 : decode cX6_scan 32 = .ok (.bipush 32, 2) := by decide +kernel
theorem dX6_scan_34 : decode cX6_scan 34 = .ok (.if_icmp .eq 9, 3) := by decide +kernel
theorem dX6_scan_37 : decode cX6_scan 37 = .ok (.iload_n 3, 1) := by decide +kernel
theorem dX6_scan_38 : decode cX6_scan 38 = .ok (.bipush 10, 2) := by decide +kernel
theorem dX6_scan_40 : decode cX6_scan 40 = .ok (.if_icmp .ne 9, 3) := by decide +kernel
theorem dX6_scan_43 : decode cX6_scan 43 = .ok (.iinc 1 1, 3) := by decide +kernel
theorem dX6_scan_46 : decode cX6_scan 46 = .ok (.goto 41, 3) := by decide +kernel
theorem dX6_scan_49 : decode cX6_scan 49 = .ok (.iload_n 3, 1) := by decide +kernel
theorem dX6_scan_50 : decode cX6_scan 50 = .ok (.invokestatic 29, 3) := by decide +kernel
theorem dX6_scan_53 : decode cX6_scan 53 = .ok (.ifCond .eq 12, 3) := by decide +kernel
theorem dX6_scan_56 : decode cX6_scan 56 = .ok (.aload_n 0, 1) := by decide +kernel
theorem dX6_scan_57 : decode cX6_scan 57 = .ok (.iload_n 1, 1) := by decide +kernel
theorem dX6_scan_58 : decode cX6_scan 58 = .ok (.invokevirtual 33, 3) := by decide +kernel
theorem dX6_scan_61 : decode cX6_scan 61 = .ok (.istore_n 1, 1) := by decide +kernel
theorem dX6_scan_62 : decode cX6_scan 62 = .ok (.goto 25, 3) := by decide +kernel
theorem dX6_scan_65 : decode cX6_scan 65 = .ok (.iload_n 3, 1) := by decide +kernel
theorem dX6_scan_66 : decode cX6_scan 66 = .ok (.invokestatic 37, 3) := by decide +kernel
theorem dX6_scan_69 : decode cX6_scan 69 = .ok (.ifCond .eq 12, 3) := by decide +kernel
theorem dX6_scan_72 : decode cX6_scan 72 = .ok (.aload_n 0, 1) := by decide +kernel
theorem dX6_scan_73 : decode cX6_scan 73 = .ok (.iload_n 1, 1) := by decide +kernel
theorem dX6_scan_74 : decode cX6_scan 74 = .ok (.invokevirtual 40, 3) := by decide +kernel
theorem dX6_scan_77 : decode cX6_scan 77 = .ok (.istore_n 1, 1) := by decide +kernel
theorem dX6_scan_78 : decode cX6_scan 78 = .ok (.goto 9, 3) := by decide +kernel
theorem dX6_scan_81 : decode cX6_scan 81 = .ok (.aload_n 0, 1) := by decide +kernel
theorem dX6_scan_82 : decode cX6_scan 82 = .ok (.iload_n 1, 1) := by decide +kernel
theorem dX6_scan_83 : decode cX6_scan 83 = .ok (.invokevirtual 43, 3) := by decide +kernel
theorem dX6_scan_86 : decode cX6_scan 86 = .ok (.istore_n 1, 1) := by decide +kernel
theorem dX6_scan_87 : decode cX6_scan 87 = .ok (.iinc 2 1, 3) := by decide +kernel
theorem dX6_scan_90 : decode cX6_scan 90 = .ok (.goto (-81), 3) := by decide +kernel
theorem dX6_scan_93 : decode cX6_scan 93 = .ok (.aload_n 0, 1) := by decide +kernel
theorem dX6_scan_94 : decode cX6_scan 94 = .ok (.bipush 73, 2) := by decide +kernel
theorem dX6_scan_96 : decode cX6_scan 96 = .ok (.aload_n 0, 1) := by decide +kernel
theorem dX6_scan_97 : decode cX6_scan 97 = .ok (.getfield 22, 3) := by decide +kernel
theorem dX6_scan_100 : decode cX6_scan 100 = .ok (.iconst 0, 1) := by decide +kernel
theorem dX6_scan_101 : decode cX6_scan 101 = .ok (.invokevirtual 48, 3) := by decide +kernel
theorem dX6_scan_104 : decode cX6_scan 104 = .ok (.return_, 1) := by decide +kernel
theorem dX6_addToken_0 : decode cX6_addToken 0 = .ok (.aload_n 0, 1) := by decide +kernel
theorem dX6_addToken_1 : decode cX6_addToken 1 = .ok (.getfield 26, 3) := by decide +kernel
theorem dX6_addToken_4 : decode cX6_addToken 4 = .ok (.sipush 300, 3) := by decide +kernel
theorem dX6_addToken_7 : decode cX6_addToken 7 = .ok (.if_icmp .gt 43, 3) := by decide +kernel
theorem dX6_addToken_10 : decode cX6_addToken 10 = .ok (.aload_n 0, 1) := by decide +kernel
theorem dX6_addToken_11 : decode cX6_addToken 11 = .ok (.getfield 13, 3) := by decide +kernel
theorem dX6_addToken_14 : decode cX6_addToken 14 = .ok (.aload_n 0, 1) := by decide +kernel
theorem dX6_addToken_15 : decode cX6_addToken 15 = .ok (.getfield 26, 3) := by decide +kernel
theorem dX6_addToken_18 : decode cX6_addToken 18 = .ok (.iload_n 1, 1) := by decide +kernel
theorem dX6_addToken_19 : decode cX6_addToken 19 = .ok (.iastore, 1) := by decide +kernel
theorem dX6_addToken_20 : decode cX6_addToken 20 = .ok (.aload_n 0, 1) := by decide +kernel
theorem dX6_addToken_21 : decode cX6_addToken 21 = .ok (.getfield 16, 3) := by decide +kernel
theorem dX6_addToken_24 : decode cX6_addToken 24 = .ok (.aload_n 0, 1) := by decide +kernel
theorem dX6_addToken_25 : decode cX6_addToken 25 = .ok (.getfield 26, 3) := by decide +kernel
theorem dX6_addToken_28 : decode cX6_addToken 28 = .ok (.iload_n 2, 1) := by decide +kernel
theorem dX6_addToken_29 : decode cX6_addToken 29 = .ok (.iastore, 1) := by decide +kernel
theorem dX6_addToken_30 : decode cX6_addToken 30 = .ok (.aload_n 0, 1) := by decide +kernel
theorem dX6_addToken_31 : decode cX6_addToken 31 = .ok (.getfield 19, 3) := by decide +kernel
theorem dX6_addToken_34 : decode cX6_addToken 34 = .ok (.aload_n 0, 1) := by decide +kernel
theorem dX6_addToken_35 : decode cX6_addToken 35 = .ok (.getfield 26, 3) := by decide +kernel
theorem dX6_addToken_38 : decode cX6_addToken 38 = .ok (.iload_n 3, 1) := by decide +kernel
theorem dX6_addToken_39 : decode cX6_addToken 39 = .ok (.iastore, 1) := by decide +kernel
theorem dX6_addToken_40 : decode cX6_addToken 40 = .ok (.aload_n 0, 1) := by decide +kernel
theorem dX6_addToken_41 : decode cX6_addToken 41 = .ok (.dup, 1) := by decide +kernel
theorem dX6_addToken_42 : decode cX6_addToken 42 = .ok (.getfield 26, 3) := by decide +kernel
theorem dX6_addToken_45 : decode cX6_addToken 45 = .ok (.iconst 1, 1) := by decide +kernel
theorem dX6_addToken_46 : decode cX6_addToken 46 = .ok (.iadd, 1) := by decide +kernel
theorem dX6_addToken_47 : decode cX6_addToken 47 = .ok (.putfield 26, 3) := by decide +kernel
theorem dX6_addToken_50 : decode cX6_addToken 50 = .ok (.return_, 1) := by decide +kernel
theorem dX6_isLetter_0 : decode cX6_isLetter 0 = .ok (.iload_n 0, 1) := by decide +kernel
theorem dX6_isLetter_1 : decode cX6_isLetter 1 = .ok (.bipush 97, 2) := by decide +kernel
theorem dX6_isLetter_3 : decode cX6_isLetter 3 = .ok (.if_icmp .lt 9, 3) := by decide +kernel
theorem dX6_isLetter_6 : decode cX6_isLetter 6 = .ok (.iload_n 0, 1) := by decide +kernel
theorem dX6_isLetter_7 : decode cX6_isLetter 7 = .ok (.bipush 122, 2) := by decide +kernel
theorem dX6_isLetter_9 : decode cX6_isLetter 9 = .ok (.if_icmp .le 15, 3) := by decide +kernel
theorem dX6_isLetter_12 : decode cX6_isLetter 12 = .ok (.iload_n 0, 1) := by decide +kernel
theorem dX6_isLetter_13 : decode cX6_isLetter 13 = .ok (.bipush 65, 2) := by decide +kernel
theorem dX6_isLetter_15 : decode cX6_isLetter 15 = .ok (.if_icmp .lt 13, 3) := by decide +kernel
theorem dX6_isLetter_18 : decode cX6_isLetter 18 = .ok (.iload_n 0, 1) := by decide +kernel
theorem dX6_isLetter_19 : decode cX6_isLetter 19 = .ok (.bipush 90, 2) := by decide +kernel
theorem dX6_isLetter_21 : decode cX6_isLetter 21 = .ok (.if_icmp .gt 7, 3) := by decide +kernel
theorem dX6_isLetter_24 : decode cX6_isLetter 24 = .ok (.iconst 1, 1) := by decide +kernel
theorem dX6_isLetter_25 : decode cX6_isLetter 25 = .ok (.goto 4, 3) := by decide +kernel
theorem dX6_isLetter_28 : decode cX6_isLetter 28 = .ok (.iconst 0, 1) := by decide +kernel
theorem dX6_isLetter_29 : decode cX6_isLetter 29 = .ok (.ireturn, 1) := by decide +kernel
theorem dX6_isDigit_0 : decode cX6_isDigit 0 = .ok (.iload_n 0, 1) := by decide +kernel
theorem dX6_isDigit_1 : decode cX6_isDigit 1 = .ok (.bipush 48, 2) := by decide +kernel
theorem dX6_isDigit_3 : decode cX6_isDigit 3 = .ok (.if_icmp .lt 13, 3) := by decide +kernel
theorem dX6_isDigit_6 : decode cX6_isDigit 6 = .ok (.iload_n 0, 1) := by decide +kernel
theorem dX6_isDigit_7 : decode cX6_isDigit 7 = .ok (.bipush 57, 2) := by decide +kernel
theorem dX6_isDigit_9 : decode cX6_isDigit 9 = .ok (.if_icmp .gt 7, 3) := by decide +kernel
theorem dX6_isDigit_12 : decode cX6_isDigit 12 = .ok (.iconst 1, 1) := by decide +kernel
theorem dX6_isDigit_13 : decode cX6_isDigit 13 = .ok (.goto 4, 3) := by decide +kernel
theorem dX6_isDigit_16 : decode cX6_isDigit 16 = .ok (.iconst 0, 1) := by decide +kernel
theorem dX6_isDigit_17 : decode cX6_isDigit 17 = .ok (.ireturn, 1) := by decide +kernel
theorem dX6_scanNumber_0 : decode cX6_scanNumber 0 = .ok (.iload_n 1, 1) := by decide +kernel
theorem dX6_scanNumber_1 : decode cX6_scanNumber 1 = .ok (.istore_n 2, 1) := by decide +kernel
theorem dX6_scanNumber_2 : decode cX6_scanNumber 2 = .ok (.iconst 0, 1) := by decide +kernel
theorem dX6_scanNumber_3 : decode cX6_scanNumber 3 = .ok (.istore_n 3, 1) := by decide +kernel
theorem dX6_scanNumber_4 : decode cX6_scanNumber 4 = .ok (.iload_n 2, 1) := by decide +kernel
theorem dX6_scanNumber_5 : decode cX6_scanNumber 5 = .ok (.aload_n 0, 1) := by decide +kernel
theorem dX6_scanNumber_6 : decode cX6_scanNumber 6 = .ok (.getfield 22, 3) := by decide +kernel
theorem dX6_scanNumber_9 : decode cX6_scanNumber 9 = .ok (.if_icmp .ge 42, 3) := by decide +kernel
theorem dX6_scanNumber_12 : decode cX6_scanNumber 12 = .ok (.aload_n 0, 1) := by decide +kernel
theorem dX6_scanNumber_13 : decode cX6_scanNumber 13 = .ok (.getfield 9, 3) := by decide +kernel
theorem dX6_scanNumber_16 : decode cX6_scanNumber 16 = .ok (.iload_n 2, 1) := by decide +kernel
theorem dX6_scanNumber_17 : decode cX6_scanNumber 17 = .ok (.iaload, 1) := by decide +kernel
theorem dX6_scanNumber_18 : decode cX6_scanNumber 18 = .ok (.invokestatic 37, 3) := by decide +kernel
theorem dX6_scanNumber_21 : decode cX6_scanNumber 21 = .ok (.ifCond .eq 30, 3) := by decide +kernel
theorem dX6_scanNumber_24 : decode cX6_scanNumber 24 = .ok (.iload_n 3, 1) := by decide +kernel
theorem dX6_scanNumber_25 : decode cX6_scanNumber 25 = .ok (.bipush 10, 2) := by decide +kernel
theorem dX6_scanNumber_27 : decode cX6_scanNumber 27 = .ok (.imul, 1) := by decide +kernel
theorem dX6_scanNumber_28 : decode cX6_scanNumber 28 = .ok (.aload_n 0, 1) := by decide +kernel
theorem dX6_scanNumber_29 : decode cX6_scanNumber 29 = .ok (.getfield 9, 3) := by decide +kernel
theorem dX6_scanNumber_32 : decode cX6_scanNumber 32 = .ok (.iload_n 2, 1) := by decide +kernel
theorem dX6_scanNumber_33 : decode cX6_scanNumber 33 = .ok (.iaload, 1) := by decide +kernel
theorem dX6_scanNumber_34 : decode cX6_scanNumber 34 = .ok (.iadd, 1) := by decide +kernel
theorem dX6_scanNumber_35 : decode cX6_scanNumber 35 = .ok (.bipush 48, 2) := by decide +kernel
theorem dX6_scanNumber_37 : decode cX6_scanNumber 37 = .ok (.isub, 1) := by decide +kernel
theorem dX6_scanNumber_38 : decode cX6_scanNumber 38 = .ok (.sipush 10000, 3) := by decide +kernel
theorem dX6_scanNumber_41 : decode cX6_scanNumber 41 = .ok (.invokestatic 52, 3) := by decide +kernel
theorem dX6_scanNumber_44 : decode cX6_scanNumber 44 = .ok (.istore_n 3, 1) := by decide +kernel
theorem dX6_scanNumber_45 : decode cX6_scanNumber 45 = .ok (.iinc 2 1, 3) := by decide +kernel
theorem dX6_scanNumber_48 : decode cX6_scanNumber 48 = .ok (.goto (-44), 3) := by decide +kernel
theorem dX6_scanNumber_51 : decode cX6_scanNumber 51 = .ok (.aload_n 0, 1) := by decide +kernel
theorem dX6_scanNumber_52 : decode cX6_scanNumber 52 = .ok (.bipush 72, 2) := by decide +kernel
theorem dX6_scanNumber_54 : decode cX6_scanNumber 54 = .ok (.iload_n 1, 1) := by decide +kernel
theorem dX6_scanNumber_55 : decode cX6_scanNumber 55 = .ok (.iload_n 3, 1) := by decide +kernel
theorem dX6_scanNumber_56 : decode cX6_scanNumber 56 = .ok (.invokevirtual 48, 3) := by decide +kernel
theorem dX6_scanNumber_59 : decode cX6_scanNumber 59 = .ok (.iload_n 2, 1) := by decide +kernel
theorem dX6_scanNumber_60 : decode cX6_scanNumber 60 = .ok (.ireturn, 1) := by decide +kernel
theorem dX6_scanWord_0 : decode cX6_scanWord 0 = .ok (.iload_n 1, 1) := by decide +kernel
theorem dX6_scanWord_1 : decode cX6_scanWord 1 = .ok (.istore_n 2, 1) := by decide +kernel
theorem dX6_scanWord_2 : decode cX6_scanWord 2 = .ok (.iload_n 2, 1) := by decide +kernel
theorem dX6_scanWord_3 : decode cX6_scanWord 3 = .ok (.aload_n 0, 1) := by decide +kernel
theorem dX6_scanWord_4 : decode cX6_scanWord 4 = .ok (.getfield 22, 3) := by decide +kernel
theorem dX6_scanWord_7 : decode cX6_scanWord 7 = .ok (.if_icmp .ge 21, 3) := by decide +kernel
theorem dX6_scanWord_10 : decode cX6_scanWord 10 = .ok (.aload_n 0, 1) := by decide +kernel
theorem dX6_scanWord_11 : decode cX6_scanWord 11 = .ok (.getfield 9, 3) := by decide +kernel
theorem dX6_scanWord_14 : decode cX6_scanWord 14 = .ok (.iload_n 2, 1) := by decide +kernel
theorem dX6_scanWord_15 : decode cX6_scanWord 15 = .ok (.iaload, 1) := by decide +kernel
theorem dX6_scanWord_16 : decode cX6_scanWord 16 = .ok (.invokestatic 29, 3) := by decide +kernel
theorem dX6_scanWord_19 : decode cX6_scanWord 19 = .ok (.ifCond .eq 9, 3) := by decide +kernel
theorem dX6_scanWord_22 : decode cX6_scanWord 22 = .ok (.iinc 2 1, 3) := by decide +kernel
theorem dX6_scanWord_25 : decode cX6_scanWord 25 = .ok (.goto (-23), 3) := by decide +kernel
theorem dX6_scanWord_28 : decode cX6_scanWord 28 = .ok (.aload_n 0, 1) := by decide +kernel
theorem dX6_scanWord_29 : decode cX6_scanWord 29 = .ok (.aload_n 0, 1) := by decide +kernel
theorem dX6_scanWord_30 : decode cX6_scanWord 30 = .ok (.iload_n 1, 1) := by decide +kernel
theorem dX6_scanWord_31 : decode cX6_scanWord 31 = .ok (.iload_n 2, 1) := by decide +kernel
theorem dX6_scanWord_32 : decode cX6_scanWord 32 = .ok (.invokevirtual 58, 3) := by decide +kernel
theorem dX6_scanWord_35 : decode cX6_scanWord 35 = .ok (.iload_n 1, 1) := by decide +kernel
theorem dX6_scanWord_36 : decode cX6_scanWord 36 = .ok (.iconst 0, 1) := by decide +kernel
theorem dX6_scanWord_37 : decode cX6_scanWord 37 = .ok (.invokevirtual 48, 3) := by decide +kernel
theorem dX6_scanWord_40 : decode cX6_scanWord 40 = .ok (.iload_n 2, 1) := by decide +kernel
theorem dX6_scanWord_41 : decode cX6_scanWord 41 = .ok (.ireturn, 1) := by decide +kernel
theorem dX6_wordAt_0 : decode cX6_wordAt 0 = .ok (.iconst 0, 1) := by decide +kernel
theorem dX6_wordAt_1 : decode cX6_wordAt 1 = .ok (.istore_n 3, 1) := by decide +kernel
theorem dX6_wordAt_2 : decode cX6_wordAt 2 = .ok (.iload_n 1, 1) := by decide +kernel
theorem dX6_wordAt_3 : decode cX6_wordAt 3 = .ok (.istore 4, 2) := by decide +kernel
theorem dX6_wordAt_5 : decode cX6_wordAt 5 = .ok (.iconst 0, 1) := by decide +kernel
theorem dX6_wordAt_6 : decode cX6_wordAt 6 = .ok (.istore 5, 2) := by decide +kernel
theorem dX6_wordAt_8 : decode cX6_wordAt 8 = .ok (.iload 5, 2) := by decide +kernel
theorem dX6_wordAt_10 : decode cX6_wordAt 10 = .ok (.ldc 61, 2) := by decide +kernel
theorem dX6_wordAt_12 : decode cX6_wordAt 12 = .ok (.invokevirtual 63, 3) := by decide +kernel
theorem dX6_wordAt_15 : decode cX6_wordAt 15 = .ok (.if_icmp .ge 72, 3) := by decide +kernel
theorem dX6_wordAt_18 : decode cX6_wordAt 18 = .ok (.ldc 61, 2) := by decide +kernel
theorem dX6_wordAt_20 : decode cX6_wordAt 20 = .ok (.iload 5, 2) := by decide +kernel
theorem dX6_wordAt_22 : decode cX6_wordAt 22 = .ok (.invokevirtual 68, 3) := by decide +kernel
theorem dX6_wordAt_25 : decode cX6_wordAt 25 = .ok (.istore 6, 2) := by decide +kernel
theorem dX6_wordAt_27 : decode cX6_wordAt 27 = .ok (.iload 6, 2) := by decide +kernel
theorem dX6_wordAt_29 : decode cX6_wordAt 29 = .ok (.bipush 32, 2) := by decide +kernel
theorem dX6_wordAt_31 : decode cX6_wordAt 31 = .ok (.if_icmp .eq 36, 3) := by decide +kernel
theorem dX6_wordAt_34 : decode cX6_wordAt 34 = .ok (.iload 4, 2) := by decide +kernel
theorem dX6_wordAt_36 : decode cX6_wordAt 36 = .ok (.iload_n 2, 1) := by decide +kernel
theorem dX6_wordAt_37 : decode cX6_wordAt 37 = .ok (.if_icmp .ge 22, 3) := by decide +kernel
theorem dX6_wordAt_40 : decode cX6_wordAt 40 = .ok (.aload_n 0, 1) := by decide +kernel
theorem dX6_wordAt_41 : decode cX6_wordAt 41 = .ok (.getfield 9, 3) := by decide +kernel
theorem dX6_wordAt_44 : decode cX6_wordAt 44 = .ok (.iload 4, 2) := by decide +kernel
theorem dX6_wordAt_46 : decode cX6_wordAt 46 = .ok (.iaload, 1) := by decide +kernel
theorem dX6_wordAt_47 : decode cX6_wordAt 47 = .ok (.iload 6, 2) := by decide +kernel
theorem dX6_wordAt_49 : decode cX6_wordAt 49 = .ok (.if_icmp .ne 10, 3) := by decide +kernel
theorem dX6_wordAt_52 : decode cX6_wordAt 52 = .ok (.iload 4, 2) := by decide +kernel
theorem dX6_wordAt_54 : decode cX6_wordAt 54 = .ok (.iconst 1, 1) := by decide +kernel
theorem dX6_wordAt_55 : decode cX6_wordAt 55 = .ok (.iadd, 1) := by decide +kernel
theorem dX6_wordAt_56 : decode cX6_wordAt 56 = .ok (.goto 6, 3) := by decide +kernel
theorem dX6_wordAt_59 : decode cX6_wordAt 59 = .ok (.sipush 301, 3) := by decide +kernel
theorem dX6_wordAt_62 : decode cX6_wordAt 62 = .ok (.istore 4, 2) := by decide +kernel
theorem dX6_wordAt_64 : decode cX6_wordAt 64 = .ok (.goto 17, 3) := by decide +kernel
theorem dX6_wordAt_67 : decode cX6_wordAt 67 = .ok (.iload 4, 2) := by decide +kernel
theorem dX6_wordAt_69 : decode cX6_wordAt 69 = .ok (.iload_n 2, 1) := by decide +kernel
theorem dX6_wordAt_70 : decode cX6_wordAt 70 = .ok (.if_icmp .ne 5, 3) := by decide +kernel
theorem dX6_wordAt_73 : decode cX6_wordAt 73 = .ok (.iload_n 3, 1) := by decide +kernel
theorem dX6_wordAt_74 : decode cX6_wordAt 74 = .ok (.ireturn, 1) := by decide +kernel
theorem dX6_wordAt_75 : decode cX6_wordAt 75 = .ok (.iinc 3 1, 3) := by decide +kernel
theorem dX6_wordAt_78 : decode cX6_wordAt 78 = .ok (.iload_n 1, 1) := by decide +kernel
theorem dX6_wordAt_79 : decode cX6_wordAt 79 = .ok (.istore 4, 2) := by decide +kernel
theorem dX6_wordAt_81 : decode cX6_wordAt 81 = .ok (.iinc 5 1, 3) := by decide +kernel
theorem dX6_wordAt_84 : decode cX6_wordAt 84 = .ok (.goto (-76), 3) := by decide +kernel
theorem dX6_wordAt_87 : decode cX6_wordAt 87 = .ok (.bipush 74, 2) := by decide +kernel
theorem dX6_wordAt_89 : decode cX6_wordAt 89 = .ok (.ireturn, 1) := by decide +kernel
theorem dX6_scanSign_0 : decode cX6_scanSign 0 = .ok (.aload_n 0, 1) := by decide +kernel
theorem dX6_scanSign_1 : decode cX6_scanSign 1 = .ok (.getfield 9, 3) := by decide +kernel
theorem dX6_scanSign_4 : decode cX6_scanSign 4 = .ok (.iload_n 1, 1) := by decide +kernel
theorem dX6_scanSign_5 : decode cX6_scanSign 5 = .ok (.iaload, 1) := by decide +kernel
theorem dX6_scanSign_6 : decode cX6_scanSign 6 = .ok (.istore_n 2, 1) := by decide +kernel
theorem dX6_scanSign_7 : decode cX6_scanSign 7 = .ok (.iload_n 1, 1) := by decide +kernel
theorem dX6_scanSign_8 : decode cX6_scanSign 8 = .ok (.iconst 1, 1) := by decide +kernel
theorem dX6_scanSign_9 : decode cX6_scanSign 9 = .ok (.iadd, 1) := by decide +kernel
theorem dX6_scanSign_10 : decode cX6_scanSign 10 = .ok (.aload_n 0, 1) := by decide +kernel
theorem dX6_scanSign_11 : decode cX6_scanSign 11 = .ok (.getfield 22, 3) := by decide +kernel
theorem dX6_scanSign_14 : decode cX6_scanSign 14 = .ok (.if_icmp .ge 20, 3) := by decide +kernel
theorem dX6_scanSign_17 : decode cX6_scanSign 17 = .ok (.aload_n 0, 1) := by decide +kernel
theorem dX6_scanSign_18 : decode cX6_scanSign 18 = .ok (.getfield 9, 3) := by decide +kernel
theorem dX6_scanSign_21 : decode cX6_scanSign 21 = .ok (.iload_n 1, 1) := by decide +kernel
theorem dX6_scanSign_22 : decode cX6_scanSign 22 = .ok (.iconst 1, 1) := by decide +kernel
theorem dX6_scanSign_23 : decode cX6_scanSign 23 = .ok (.iadd, 1) := by decide +kernel
theorem dX6_scanSign_24 : decode cX6_scanSign 24 = .ok (.iaload, 1) := by decide +kernel
theorem dX6_scanSign_25 : decode cX6_scanSign 25 = .ok (.bipush 61, 2) := by decide +kernel
theorem dX6_scanSign_27 : decode cX6_scanSign 27 = .ok (.if_icmp .ne 7, 3) := by decide +kernel
theorem dX6_scanSign_30 : decode cX6_scanSign 30 = .ok (.iconst 1, 1) := by decide +kernel
theorem dX6_scanSign_31 : decode cX6_scanSign 31 = .ok (.goto 4, 3) := by decide +kernel
theorem dX6_scanSign_34 : decode cX6_scanSign 34 = .ok (.iconst 0, 1) := by decide +kernel
theorem dX6_scanSign_35 : decode cX6_scanSign 35 = .ok (.istore_n 3, 1) := by decide +kernel
theorem dX6_scanSign_36 : decode cX6_scanSign 36 = .ok (.iload_n 3, 1) := by decide +kernel
theorem dX6_scanSign_37 : decode cX6_scanSign 37 = .ok (.ifCond .eq 21, 3) := by decide +kernel
theorem dX6_scanSign_40 : decode cX6_scanSign 40 = .ok (.iload_n 2, 1) := by decide +kernel
theorem dX6_scanSign_41 : decode cX6_scanSign 41 = .ok (.bipush 60, 2) := by decide +kernel
theorem dX6_scanSign_43 : decode cX6_scanSign 43 = .ok (.if_icmp .ne 15, 3) := by decide +kernel
theorem dX6_scanSign_46 : decode cX6_scanSign 46 = .ok (.aload_n 0, 1) := by decide +kernel
theorem dX6_scanSign_47 : decode cX6_scanSign 47 = .ok (.bipush 70, 2) := by decide +kernel
theorem dX6_scanSign_49 : decode cX6_scanSign 49 = .ok (.iload_n 1, 1) := by decide +kernel
theorem dX6_scanSign_50 : decode cX6_scanSign 50 = .ok (.iconst 0, 1) := by decide +kernel
theorem dX6_scanSign_51 : decode cX6_scanSign 51 = .ok (.invokevirtual 48, 3) := by decide +kernel
theorem dX6_scanSign_54 : decode cX6_scanSign 54 = .ok (.iload_n 1, 1) := by decide +kernel
theorem dX6_scanSign_55 : decode cX6_scanSign 55 = .ok (.iconst 2, 1) := by decide +kernel
theorem dX6_scanSign_56 : decode cX6_scanSign 56 = .ok (.iadd, 1) := by decide +kernel
theorem dX6_scanSign_57 : decode cX6_scanSign 57 = .ok (.ireturn, 1) := by decide +kernel
theorem dX6_scanSign_58 : decode cX6_scanSign 58 = .ok (.iload_n 3, 1) := by decide +kernel
theorem dX6_scanSign_59 : decode cX6_scanSign 59 = .ok (.ifCond .eq 21, 3) := by decide +kernel
theorem dX6_scanSign_62 : decode cX6_scanSign 62 = .ok (.iload_n 2, 1) := by decide +kernel
theorem dX6_scanSign_63 : decode cX6_scanSign 63 = .ok (.bipush 62, 2) := by decide +kernel
theorem dX6_scanSign_65 : decode cX6_scanSign 65 = .ok (.if_icmp .ne 15, 3) := by decide +kernel
theorem dX6_scanSign_68 : decode cX6_scanSign 68 = .ok (.aload_n 0, 1) := by decide +kernel
theorem dX6_scanSign_69 : decode cX6_scanSign 69 = .ok (.bipush 71, 2) := by decide +kernel
theorem dX6_scanSign_71 : decode cX6_scanSign 71 = .ok (.iload_n 1, 1) := by decide +kernel
theorem dX6_scanSign_72 : decode cX6_scanSign 72 = .ok (.iconst 0, 1) := by decide +kernel
theorem dX6_scanSign_73 : decode cX6_scanSign 73 = .ok (.invokevirtual 48, 3) := by decide +kernel
theorem dX6_scanSign_76 : decode cX6_scanSign 76 = .ok (.iload_n 1, 1) := by decide +kernel
theorem dX6_scanSign_77 : decode cX6_scanSign 77 = .ok (.iconst 2, 1) := by decide +kernel
theorem dX6_scanSign_78 : decode cX6_scanSign 78 = .ok (.iadd, 1) := by decide +kernel
theorem dX6_scanSign_79 : decode cX6_scanSign 79 = .ok (.ireturn, 1) := by decide +kernel
theorem dX6_scanSign_80 : decode cX6_scanSign 80 = .ok (.aload_n 0, 1) := by decide +kernel
theorem dX6_scanSign_81 : decode cX6_scanSign 81 = .ok (.iload_n 2, 1) := by decide +kernel
theorem dX6_scanSign_82 : decode cX6_scanSign 82 = .ok (.invokestatic 72, 3) := by decide +kernel
theorem dX6_scanSign_85 : decode cX6_scanSign 85 = .ok (.ifCond .eq 7, 3) := by decide +kernel
theorem dX6_scanSign_88 : decode cX6_scanSign 88 = .ok (.iload_n 2, 1) := by decide +kernel
theorem dX6_scanSign_89 : decode cX6_scanSign 89 = .ok (.goto 5, 3) := by decide +kernel
theorem dX6_scanSign_92 : decode cX6_scanSign 92 = .ok (.bipush 74, 2) := by decide +kernel
theorem dX6_scanSign_94 : decode cX6_scanSign 94 = .ok (.iload_n 1, 1) := by decide +kernel
theorem dX6_scanSign_95 : decode cX6_scanSign 95 = .ok (.iconst 0, 1) := by decide +kernel
theorem dX6_scanSign_96 : decode cX6_scanSign 96 = .ok (.invokevirtual 48, 3) := by decide +kernel
theorem dX6_scanSign_99 : decode cX6_scanSign 99 = .ok (.iload_n 1, 1) := by decide +kernel
theorem dX6_scanSign_100 : decode cX6_scanSign 100 = .ok (.iconst 1, 1) := by decide +kernel
theorem dX6_scanSign_101 : decode cX6_scanSign 101 = .ok (.iadd, 1) := by decide +kernel
theorem dX6_scanSign_102 : decode cX6_scanSign 102 = .ok (.ireturn, 1) := by decide +kernel
theorem dX6_isSign_0 : decode cX6_isSign 0 = .ok (.iload_n 0, 1) := by decide +kernel
theorem dX6_isSign_1 : decode cX6_isSign 1 = .ok (.tableswitch 129 35 62 #[127, 129, 129, 129, 129, 127, 127, 127, 127, 127, 127, 129, 127, 129, 129, 129, 129, 129, 129, 129, 129, 129, 129, 127, 127, 127, 127, 127], 127) := by decide +kernel
theorem dX6_isSign_128 : decode cX6_isSign 128 = .ok (.iconst 1, 1) := by decide +kernel
theorem dX6_isSign_129 : decode cX6_isSign 129 = .ok (.ireturn, 1) := by decide +kernel
theorem dX6_isSign_130 : decode cX6_isSign 130 = .ok (.iconst 0, 1) := by decide +kernel
theorem dX6_isSign_131 : decode cX6_isSign 131 = .ok (.ireturn, 1) := by decide +kernel
theorem dX7_init_0 : decode cX7_init 0 = .ok (.aload_n 0, 1) := by decide +kernel
theorem dX7_init_1 : decode cX7_init 1 = .ok (.invokespecial 3, 3) := by decide +kernel
theorem dX7_init_4 : decode cX7_init 4 = .ok (.aload_n 0, 1) := by decide +kernel
theorem dX7_init_5 : decode cX7_init 5 = .ok (.sipush 300, 3) := by decide +kernel
theorem dX7_init_8 : decode cX7_init 8 = .ok (.newarray .int, 2) := by decide +kernel
theorem dX7_init_10 : decode cX7_init 10 = .ok (.putfield 11, 3) := by decide +kernel
theorem dX7_init_13 : decode cX7_init 13 = .ok (.aload_n 0, 1) := by decide +kernel
theorem dX7_init_14 : decode cX7_init 14 = .ok (.bipush 8, 2) := by decide +kernel
theorem dX7_init_16 : decode cX7_init 16 = .ok (.newarray .int, 2) := by decide +kernel
theorem dX7_init_18 : decode cX7_init 18 = .ok (.putfield 17, 3) := by decide +kernel
theorem dX7_init_21 : decode cX7_init 21 = .ok (.aload_n 0, 1) := by decide +kernel
theorem dX7_init_22 : decode cX7_init 22 = .ok (.bipush 8, 2) := by decide +kernel
theorem dX7_init_24 : decode cX7_init 24 = .ok (.newarray .int, 2) := by decide +kernel
theorem dX7_init_26 : decode cX7_init 26 = .ok (.putfield 20, 3) := by decide +kernel
theorem dX7_init_29 : decode cX7_init 29 = .ok (.aload_n 0, 1) := by decide +kernel
theorem dX7_init_30 : decode cX7_init 30 = .ok (.bipush 96, 2) := by decide +kernel
theorem dX7_init_32 : decode cX7_init 32 = .ok (.newarray .int, 2) := by decide +kernel
theorem dX7_init_34 : decode cX7_init 34 = .ok (.putfield 23, 3) := by decide +kernel
