theorem dX0_init_0 : decode cX0_init 0 = .ok (.aload_n 0, 1) := by decide +kernel
theorem dX0_init_1 : decode cX0_init 1 = .ok (.invokespecial 3, 3) := by decide +kernel
theorem dX0_init_4 : decode cX0_init 4 = .ok (.return_, 1) := by decide +kernel
theorem dX0_start_0 : decode cX0_start 0 = .ok (.aload_n 0, 1) := by decide +kernel
theorem dX0_start_1 : decode cX0_start 1 = .ok (.iload_n 1, 1) := by decide +kernel
theorem dX0_start_2 : decode cX0_start 2 = .ok (.putfield 9, 3) := by decide +kernel
theorem dX0_start_5 : decode cX0_start 5 = .ok (.aload_n 0, 1) := by decide +kernel
theorem dX0_start_6 : decode cX0_start 6 = .ok (.iload_n 2, 1) := by decide +kernel
theorem dX0_start_7 : decode cX0_start 7 = .ok (.putfield 15, 3) := by decide +kernel
theorem dX0_start_10 : decode cX0_start 10 = .ok (.aload_n 0, 1) := by decide +kernel
theorem dX0_start_11 : decode cX0_start 11 = .ok (.iload_n 3, 1) := by decide +kernel
theorem dX0_start_12 : decode cX0_start 12 = .ok (.putfield 18, 3) := by decide +kernel
theorem dX0_start_15 : decode cX0_start 15 = .ok (.aload_n 0, 1) := by decide +kernel
theorem dX0_start_16 : decode cX0_start 16 = .ok (.iload 4, 2) := by decide +kernel
theorem dX0_start_18 : decode cX0_start 18 = .ok (.putfield 21, 3) := by decide +kernel
theorem dX0_start_21 : decode cX0_start 21 = .ok (.aload_n 0, 1) := by decide +kernel
theorem dX0_start_22 : decode cX0_start 22 = .ok (.iload 4, 2) := by decide +kernel
theorem dX0_start_24 : decode cX0_start 24 = .ok (.putfield 24, 3) := by decide +kernel
theorem dX0_start_27 : decode cX0_start 27 = .ok (.aload_n 0, 1) := by decide +kernel
theorem dX0_start_28 : decode cX0_start 28 = .ok (.iconst 0, 1) := by decide +kernel
theorem dX0_start_29 : decode cX0_start 29 = .ok (.putfield 27, 3) := by decide +kernel
theorem dX0_start_32 : decode cX0_start 32 = .ok (.aload_n 0, 1) := by decide +kernel
theorem dX0_start_33 : decode cX0_start 33 = .ok (.iconst 0, 1) := by decide +kernel
theorem dX0_start_34 : decode cX0_start 34 = .ok (.putfield 30, 3) := by decide +kernel
theorem dX0_start_37 : decode cX0_start 37 = .ok (.aload_n 0, 1) := by decide +kernel
theorem dX0_start_38 : decode cX0_start 38 = .ok (.iconst 0, 1) := by decide +kernel
theorem dX0_start_39 : decode cX0_start 39 = .ok (.putfield 33, 3) := by decide +kernel
theorem dX0_start_42 : decode cX0_start 42 = .ok (.aload_n 0, 1) := by decide +kernel
theorem dX0_start_43 : decode cX0_start 43 = .ok (.iconst 0, 1) := by decide +kernel
theorem dX0_start_44 : decode cX0_start 44 = .ok (.putfield 36, 3) := by decide +kernel
theorem dX0_start_47 : decode cX0_start 47 = .ok (.aload_n 0, 1) := by decide +kernel
theorem dX0_start_48 : decode cX0_start 48 = .ok (.iconst 0, 1) := by decide +kernel
theorem dX0_start_49 : decode cX0_start 49 = .ok (.putfield 39, 3) := by decide +kernel
theorem dX0_start_52 : decode cX0_start 52 = .ok (.aload_n 0, 1) := by decide +kernel
theorem dX0_start_53 : decode cX0_start 53 = .ok (.iconst 0, 1) := by decide +kernel
theorem dX0_start_54 : decode cX0_start 54 = .ok (.putfield 42, 3) := by decide +kernel
theorem dX0_start_57 : decode cX0_start 57 = .ok (.aload_n 0, 1) := by decide +kernel
theorem dX0_start_58 : decode cX0_start 58 = .ok (.iconst 0, 1) := by decide +kernel
theorem dX0_start_59 : decode cX0_start 59 = .ok (.putfield 45, 3) := by decide +kernel
theorem dX0_start_62 : decode cX0_start 62 = .ok (.return_, 1) := by decide +kernel
theorem dX0_become_0 : decode cX0_become 0 = .ok (.aload_n 0, 1) := by decide +kernel
theorem dX0_become_1 : decode cX0_become 1 = .ok (.aload_n 1, 1) := by decide +kernel
theorem dX0_become_2 : decode cX0_become 2 = .ok (.getfield 9, 3) := by decide +kernel
theorem dX0_become_5 : decode cX0_become 5 = .ok (.putfield 9, 3) := by decide +kernel
theorem dX0_become_8 : decode cX0_become 8 = .ok (.aload_n 0, 1) := by decide +kernel
theorem dX0_become_9 : decode cX0_become 9 = .ok (.aload_n 1, 1) := by decide +kernel
theorem dX0_become_10 : decode cX0_become 10 = .ok (.getfield 15, 3) := by decide +kernel
theorem dX0_become_13 : decode cX0_become 13 = .ok (.putfield 15, 3) := by decide +kernel
theorem dX0_become_16 : decode cX0_become 16 = .ok (.aload_n 0, 1) := by decide +kernel
theorem dX0_become_17 : decode cX0_become 17 = .ok (.aload_n 1, 1) := by decide +kernel
theorem dX0_become_18 : decode cX0_become 18 = .ok (.getfield 18, 3) := by decide +kernel
theorem dX0_become_21 : decode cX0_become 21 = .ok (.putfield 18, 3) := by decide +kernel
theorem dX0_become_24 : decode cX0_become 24 = .ok (.aload_n 0, 1) := by decide +kernel
theorem dX0_become_25 : decode cX0_become 25 = .ok (.aload_n 1, 1) := by decide +kernel
theorem dX0_become_26 : decode cX0_become 26 = .ok (.getfield 21, 3) := by decide +kernel
theorem dX0_become_29 : decode cX0_become 29 = .ok (.putfield 21, 3) := by decide +kernel
theorem dX0_become_32 : decode cX0_become 32 = .ok (.aload_n 0, 1) := by decide +kernel
theorem dX0_become_33 : decode cX0_become 33 = .ok (.aload_n 1, 1) := by decide +kernel
theorem dX0_become_34 : decode cX0_become 34 = .ok (.getfield 24, 3) := by decide +kernel
theorem dX0_become_37 : decode cX0_become 37 = .ok (.putfield 24, 3) := by decide +kernel
theorem dX0_become_40 : decode cX0_become 40 = .ok (.aload_n 0, 1) := by decide +kernel
theorem dX0_become_41 : decode cX0_become 41 = .ok (.aload_n 1, 1) := by decide +kernel
theorem dX0_become_42 : decode cX0_become 42 = .ok (.getfield 27, 3) := by decide +kernel
theorem dX0_become_45 : decode cX0_become 45 = .ok (.putfield 27, 3) := by decide +kernel
theorem dX0_become_48 : decode cX0_become 48 = .ok (.aload_n 0, 1) := by decide +kernel
theorem dX0_become_49 : decode cX0_become 49 = .ok (.aload_n 1, 1) := by decide +kernel
theorem dX0_become_50 : decode cX0_become 50 = .ok (.getfield 30, 3) := by decide +kernel
theorem dX0_become_53 : decode cX0_become 53 = .ok (.putfield 30, 3) := by decide +kernel
theorem dX0_become_56 : decode cX0_become 56 = .ok (.aload_n 0, 1) := by decide +kernel
theorem dX0_become_57 : decode cX0_become 57 = .ok (.aload_n 1, 1) := by decide +kernel
theorem dX0_become_58 : decode cX0_become 58 = .ok (.getfield 33, 3) := by decide +kernel
theorem dX0_become_61 : decode cX0_become 61 = .ok (.putfield 33, 3) := by decide +kernel
theorem dX0_become_64 : decode cX0_become 64 = .ok (.aload_n 0, 1) := by decide +kernel
theorem dX0_become_65 : decode cX0_become 65 = .ok (.aload_n 1, 1) := by decide +kernel
theorem dX0_become_66 : decode cX0_become 66 = .ok (.getfield 36, 3) := by decide +kernel
theorem dX0_become_69 : decode cX0_become 69 = .ok (.putfield 36, 3) := by decide +kernel
theorem dX0_become_72 : decode cX0_become 72 = .ok (.aload_n 0, 1) := by decide +kernel
theorem dX0_become_73 : decode cX0_become 73 = .ok (.aload_n 1, 1) := by decide +kernel
theorem dX0_become_74 : decode cX0_become 74 = .ok (.getfield 39, 3) := by decide +kernel
theorem dX0_become_77 : decode cX0_become 77 = .ok (.putfield 39, 3) := by decide +kernel
theorem dX0_become_80 : decode cX0_become 80 = .ok (.aload_n 0, 1) := by decide +kernel
theorem dX0_become_81 : decode cX0_become 81 = .ok (.aload_n 1, 1) := by decide +kernel
theorem dX0_become_82 : decode cX0_become 82 = .ok (.getfield 42, 3) := by decide +kernel
theorem dX0_become_85 : decode cX0_become 85 = .ok (.putfield 42, 3) := by decide +kernel
theorem dX0_become_88 : decode cX0_become 88 = .ok (.aload_n 0, 1) := by decide +kernel
theorem dX0_become_89 : decode cX0_become 89 = .ok (.aload_n 1, 1) := by decide +kernel
theorem dX0_become_90 : decode cX0_become 90 = .ok (.getfield 45, 3) := by decide +kernel
theorem dX0_become_93 : decode cX0_become 93 = .ok (.putfield 45, 3) := by decide +kernel
theorem dX0_become_96 : decode cX0_become 96 = .ok (.return_, 1) := by decide +kernel
theorem dX0_habit_0 : decode cX0_habit 0 = .ok (.iload_n 1, 1) := by decide +kernel
theorem dX0_habit_1 : decode cX0_habit 1 = .ok (.tableswitch 42 1 3 #[27, 32, 37], 27) := by decide +kernel
theorem dX0_habit_28 : decode cX0_habit 28 = .ok (.aload_n 0, 1) := by decide +kernel
theorem dX0_habit_29 : decode cX0_habit 29 = .ok (.getfield 15, 3) := by decide +kernel
theorem dX0_habit_32 : decode cX0_habit 32 = .ok (.ireturn, 1) := by decide +kernel
theorem dX0_habit_33 : decode cX0_habit 33 = .ok (.aload_n 0, 1) := by decide +kernel
theorem dX0_habit_34 : decode cX0_habit 34 = .ok (.getfield 18, 3) := by decide +kernel
theorem dX0_habit_37 : decode cX0_habit 37 = .ok (.ireturn, 1) := by decide +kernel
theorem dX0_habit_38 : decode cX0_habit 38 = .ok (.aload_n 0, 1) := by decide +kernel
theorem dX0_habit_39 : decode cX0_habit 39 = .ok (.getfield 21, 3) := by decide +kernel
theorem dX0_habit_42 : decode cX0_habit 42 = .ok (.ireturn, 1) := by decide +kernel
theorem dX0_habit_43 : decode cX0_habit 43 = .ok (.aload_n 0, 1) := by decide +kernel
theorem dX0_habit_44 : decode cX0_habit 44 = .ok (.getfield 24, 3) := by decide +kernel
theorem dX0_habit_47 : decode cX0_habit 47 = .ok (.ireturn, 1) := by decide +kernel
theorem dX0_changeHabit_0 : decode cX0_changeHabit 0 = .ok (.iload_n 1, 1) := by decide +kernel
theorem dX0_changeHabit_1 : decode cX0_changeHabit 1 = .ok (.tableswitch 51 1 3 #[27, 35, 43], 27) := by decide +kernel
theorem dX0_changeHabit_28 : decode cX0_changeHabit 28 = .ok (.aload_n 0, 1) := by decide +kernel
theorem dX0_changeHabit_29 : decode cX0_changeHabit 29 = .ok (.iload_n 2, 1) := by decide +kernel
theorem dX0_changeHabit_30 : decode cX0_changeHabit 30 = .ok (.putfield 15, 3) := by decide +kernel
theorem dX0_changeHabit_33 : decode cX0_changeHabit 33 = .ok (.goto 24, 3) := by decide +kernel
theorem dX0_changeHabit_36 : decode cX0_changeHabit 36 = .ok (.aload_n 0, 1) := by decide +kernel
theorem dX0_changeHabit_37 : decode cX0_changeHabit 37 = .ok (.iload_n 2, 1) := by decide +kernel
theorem dX0_changeHabit_38 : decode cX0_changeHabit 38 = .ok (.putfield 18, 3) := by decide +kernel
theorem dX0_changeHabit_41 : decode cX0_changeHabit 41 = .ok (.goto 16, 3) := by decide +kernel
theorem dX0_changeHabit_44 : decode cX0_changeHabit 44 = .ok (.aload_n 0, 1) := by decide +kernel
theorem dX0_changeHabit_45 : decode cX0_changeHabit 45 = .ok (.iload_n 2, 1) := by decide +kernel
theorem dX0_changeHabit_46 : decode cX0_changeHabit 46 = .ok (.putfield 21, 3) := by decide +kernel
theorem dX0_changeHabit_49 : decode cX0_changeHabit 49 = .ok (.goto 8, 3) := by decide +kernel
theorem dX0_changeHabit_52 : decode cX0_changeHabit 52 = .ok (.aload_n 0, 1) := by decide +kernel
theorem dX0_changeHabit_53 : decode cX0_changeHabit 53 = .ok (.iload_n 2, 1) := by decide +kernel
theorem dX0_changeHabit_54 : decode cX0_changeHabit 54 = .ok (.putfield 24, 3) := by decide +kernel
theorem dX0_changeHabit_57 : decode cX0_changeHabit 57 = .ok (.return_, 1) := by decide +kernel
theorem dX0_worth_0 : decode cX0_worth 0 = .ok (.aload_n 0, 1) := by decide +kernel
theorem dX0_worth_1 : decode cX0_worth 1 = .ok (.getfield 9, 3) := by decide +kernel
theorem dX0_worth_4 : decode cX0_worth 4 = .ok (.tableswitch 73 1 5 #[36, 52, 43, 60, 70], 36) := by decide +kernel
theorem dX0_worth_40 : decode cX0_worth 40 = .ok (.aload_n 0, 1) := by decide +kernel
theorem dX0_worth_41 : decode cX0_worth 41 = .ok (.getfield 15, 3) := by decide +kernel
theorem dX0_worth_44 : decode cX0_worth 44 = .ok (.iconst 3, 1) := by decide +kernel
theorem dX0_worth_45 : decode cX0_worth 45 = .ok (.iadd, 1) := by decide +kernel
theorem dX0_worth_46 : decode cX0_worth 46 = .ok (.ireturn, 1) := by decide +kernel
theorem dX0_worth_47 : decode cX0_worth 47 = .ok (.iconst 2, 1) := by decide +kernel
theorem dX0_worth_48 : decode cX0_worth 48 = .ok (.aload_n 0, 1) := by decide +kernel
theorem dX0_worth_49 : decode cX0_worth 49 = .ok (.getfield 15, 3) := by decide +kernel
theorem dX0_worth_52 : decode cX0_worth 52 = .ok (.iconst 3, 1) := by decide +kernel
theorem dX0_worth_53 : decode cX0_worth 53 = .ok (.iadd, 1) := by decide +kernel
theorem dX0_worth_54 : decode cX0_worth 54 = .ok (.imul, 1) := by decide +kernel
theorem dX0_worth_55 : decode cX0_worth 55 = .ok (.ireturn, 1) := by decide +kernel
theorem dX0_worth_56 : decode cX0_worth 56 = .ok (.bipush 60, 2) := by decide +kernel
theorem dX0_worth_58 : decode cX0_worth 58 = .ok (.aload_n 0, 1) := by decide +kernel
theorem dX0_worth_59 : decode cX0_worth 59 = .ok (.getfield 15, 3) := by decide +kernel
theorem dX0_worth_62 : decode cX0_worth 62 = .ok (.isub, 1) := by decide +kernel
theorem dX0_worth_63 : decode cX0_worth 63 = .ok (.ireturn, 1) := by decide +kernel
theorem dX0_worth_64 : decode cX0_worth 64 = .ok (.bipush 60, 2) := by decide +kernel
theorem dX0_worth_66 : decode cX0_worth 66 = .ok (.aload_n 0, 1) := by decide +kernel
theorem dX0_worth_67 : decode cX0_worth 67 = .ok (.getfield 15, 3) := by decide +kernel
theorem dX0_worth_70 : decode cX0_worth 70 = .ok (.isub, 1) := by decide +kernel
theorem dX0_worth_71 : decode cX0_worth 71 = .ok (.iconst 5, 1) := by decide +kernel
theorem dX0_worth_72 : decode cX0_worth 72 = .ok (.isub, 1) := by decide +kernel
theorem dX0_worth_73 : decode cX0_worth 73 = .ok (.ireturn, 1) := by decide +kernel
theorem dX0_worth_74 : decode cX0_worth 74 = .ok (.bipush 30, 2) := by decide +kernel
theorem dX0_worth_76 : decode cX0_worth 76 = .ok (.ireturn, 1) := by decide +kernel
theorem dX0_worth_77 : decode cX0_worth 77 = .ok (.aload_n 0, 1) := by decide +kernel
theorem dX0_worth_78 : decode cX0_worth 78 = .ok (.getfield 15, 3) := by decide +kernel
theorem dX0_worth_81 : decode cX0_worth 81 = .ok (.ireturn, 1) := by decide +kernel
theorem dX0_faredWorse_0 : decode cX0_faredWorse 0 = .ok (.aload_n 0, 1) := by decide +kernel
theorem dX0_faredWorse_1 : decode cX0_faredWorse 1 = .ok (.getfield 42, 3) := by decide +kernel
theorem dX0_faredWorse_4 : decode cX0_faredWorse 4 = .ok (.aload_n 1, 1) := by decide +kernel
theorem dX0_faredWorse_5 : decode cX0_faredWorse 5 = .ok (.getfield 42, 3) := by decide +kernel
theorem dX0_faredWorse_8 : decode cX0_faredWorse 8 = .ok (.if_icmp .eq 22, 3) := by decide +kernel
theorem dX0_faredWorse_11 : decode cX0_faredWorse 11 = .ok (.aload_n 0, 1) := by decide +kernel
theorem dX0_faredWorse_12 : decode cX0_faredWorse 12 = .ok (.getfield 42, 3) := by decide +kernel
theorem dX0_faredWorse_15 : decode cX0_faredWorse 15 = .ok (.aload_n 1, 1) := by decide +kernel
theorem dX0_faredWorse_16 : decode cX0_faredWorse 16 = .ok (.getfield 42, 3) := by decide +kernel
theorem dX0_faredWorse_19 : decode cX0_faredWorse 19 = .ok (.if_icmp .le 7, 3) := by decide +kernel
theorem dX0_faredWorse_22 : decode cX0_faredWorse 22 = .ok (.iconst 1, 1) := by decide +kernel
theorem dX0_faredWorse_23 : decode cX0_faredWorse 23 = .ok (.goto 23, 3) := by decide +kernel
theorem dX0_faredWorse_26 : decode cX0_faredWorse 26 = .ok (.iconst 0, 1) := by decide +kernel
theorem dX0_faredWorse_27 : decode cX0_faredWorse 27 = .ok (.goto 19, 3) := by decide +kernel
theorem dX0_faredWorse_30 : decode cX0_faredWorse 30 = .ok (.aload_n 0, 1) := by decide +kernel
theorem dX0_faredWorse_31 : decode cX0_faredWorse 31 = .ok (.getfield 39, 3) := by decide +kernel
theorem dX0_faredWorse_34 : decode cX0_faredWorse 34 = .ok (.aload_n 1, 1) := by decide +kernel
theorem dX0_faredWorse_35 : decode cX0_faredWorse 35 = .ok (.getfield 39, 3) := by decide +kernel
theorem dX0_faredWorse_38 : decode cX0_faredWorse 38 = .ok (.if_icmp .ge 7, 3) := by decide +kernel
theorem dX0_faredWorse_41 : decode cX0_faredWorse 41 = .ok (.iconst 1, 1) := by decide +kernel
theorem dX0_faredWorse_42 : decode cX0_faredWorse 42 = .ok (.goto 4, 3) := by decide +kernel
theorem dX0_faredWorse_45 : decode cX0_faredWorse 45 = .ok (.iconst 0, 1) := by decide +kernel
theorem dX0_faredWorse_46 : decode cX0_faredWorse 46 = .ok (.ireturn, 1) := by decide +kernel
theorem dX0_turnBack_0 : decode cX0_turnBack 0 = .ok (.aload_n 0, 1) := by decide +kernel
theorem dX0_turnBack_1 : decode cX0_turnBack 1 = .ok (.iconst 3, 1) := by decide +kernel
theorem dX0_turnBack_2 : decode cX0_turnBack 2 = .ok (.putfield 27, 3) := by decide +kernel
theorem dX0_turnBack_5 : decode cX0_turnBack 5 = .ok (.aload_n 0, 1) := by decide +kernel
theorem dX0_turnBack_6 : decode cX0_turnBack 6 = .ok (.aload_n 0, 1) := by decide +kernel
theorem dX0_turnBack_7 : decode cX0_turnBack 7 = .ok (.getfield 18, 3) := by decide +kernel
theorem dX0_turnBack_10 : decode cX0_turnBack 10 = .ok (.putfield 30, 3) := by decide +kernel
theorem dX0_turnBack_13 : decode cX0_turnBack 13 = .ok (.return_, 1) := by decide +kernel
theorem dX1_init_0 : decode cX1_init 0 = .ok (.aload_n 0, 1) := by decide +kernel
theorem dX1_init_1 : decode cX1_init 1 = .ok (.invokespecial 3, 3) := by decide +kernel
theorem dX1_init_4 : decode cX1_init 4 = .ok (.aload_n 0, 1) := by decide +kernel
theorem dX1_init_5 : decode cX1_init 5 = .ok (.new 9, 3) := by decide +kernel
theorem dX1_init_8 : decode cX1_init 8 = .ok (.dup, 1) := by decide +kernel
theorem dX1_init_9 : decode cX1_init 9 = .ok (.bipush 96, 2) := by decide +kernel
theorem dX1_init_11 : decode cX1_init 11 = .ok (.invokespecial 11, 3) := by decide +kernel
theorem dX1_init_14 : decode cX1_init 14 = .ok (.putfield 14, 3) := by decide +kernel
theorem dX1_init_17 : decode cX1_init 17 = .ok (.aload_n 0, 1) := by decide +kernel
theorem dX1_init_18 : decode cX1_init 18 = .ok (.new 9, 3) := by decide +kernel
theorem dX1_init_21 : decode cX1_init 21 = .ok (.dup, 1) := by decide +kernel
theorem dX1_init_22 : decode cX1_init 22 = .ok (.bipush 96, 2) := by decide +kernel
theorem dX1_init_24 : decode cX1_init 24 = .ok (.invokespecial 11, 3) := by decide +kernel
theorem dX1_init_27 : decode cX1_init 27 = .ok (.putfield 20, 3) := by decide +kernel
theorem dX1_init_30 : decode cX1_init 30 = .ok (.return_, 1) := by decide +kernel
theorem dX1_reads_0 : decode cX1_reads 0 = .ok (.aload_n 0, 1) := by decide +kernel
theorem dX1_reads_1 : decode cX1_reads 1 = .ok (.getfield 20, 3) := by decide +kernel
theorem dX1_reads_4 : decode cX1_reads 4 = .ok (.iconst 0, 1) := by decide +kernel
theorem dX1_reads_5 : decode cX1_reads 5 = .ok (.putfield 23, 3) := by decide +kernel
theorem dX1_reads_8 : decode cX1_reads 8 = .ok (.aload_n 0, 1) := by decide +kernel
theorem dX1_reads_9 : decode cX1_reads 9 = .ok (.iconst 0, 1) := by decide +kernel
theorem dX1_reads_10 : decode cX1_reads 10 = .ok (.putfield 27, 3) := by decide +kernel
theorem dX1_reads_13 : decode cX1_reads 13 = .ok (.aload_n 0, 1) := by decide +kernel
theorem dX1_reads_14 : decode cX1_reads 14 = .ok (.iconst 0, 1) := by decide +kernel
theorem dX1_reads_15 : decode cX1_reads 15 = .ok (.putfield 30, 3) := by decide +kernel
theorem dX1_reads_18 : decode cX1_reads 18 = .ok (.aload_n 0, 1) := by decide +kernel
theorem dX1_reads_19 : decode cX1_reads 19 = .ok (.iconst 0, 1) := by decide +kernel
theorem dX1_reads_20 : decode cX1_reads 20 = .ok (.putfield 33, 3) := by decide +kernel
theorem dX1_reads_23 : decode cX1_reads 23 = .ok (.aload_n 0, 1) := by decide +kernel
theorem dX1_reads_24 : decode cX1_reads 24 = .ok (.invokevirtual 36, 3) := by decide +kernel
theorem dX1_reads_27 : decode cX1_reads 27 = .ok (.aload_n 0, 1) := by decide +kernel
theorem dX1_reads_28 : decode cX1_reads 28 = .ok (.aload_n 0, 1) := by decide +kernel
theorem dX1_reads_29 : decode cX1_reads 29 = .ok (.invokevirtual 39, 3) := by decide +kernel
theorem dX1_reads_32 : decode cX1_reads 32 = .ok (.putfield 43, 3) := by decide +kernel
theorem dX1_reads_35 : decode cX1_reads 35 = .ok (.aload_n 0, 1) := by decide +kernel
theorem dX1_reads_36 : decode cX1_reads 36 = .ok (.getfield 43, 3) := by decide +kernel
theorem dX1_reads_39 : decode cX1_reads 39 = .ok (.ifCond .ge 5, 3) := by decide +kernel
theorem dX1_reads_42 : decode cX1_reads 42 = .ok (.iconst 0, 1) := by decide +kernel
theorem dX1_reads_43 : decode cX1_reads 43 = .ok (.ireturn, 1) := by decide +kernel
theorem dX1_reads_44 : decode cX1_reads 44 = .ok (.aload_n 0, 1) := by decide +kernel
theorem dX1_reads_45 : decode cX1_reads 45 = .ok (.invokevirtual 36, 3) := by decide +kernel
theorem dX1_reads_48 : decode cX1_reads 48 = .ok (.aload_n 0, 1) := by decide +kernel
theorem dX1_reads_49 : decode cX1_reads 49 = .ok (.iconst 0, 1) := by decide +kernel
theorem dX1_reads_50 : decode cX1_reads 50 = .ok (.iconst 0, 1) := by decide +kernel
theorem dX1_reads_51 : decode cX1_reads 51 = .ok (.iconst 0, 1) := by decide +kernel
theorem dX1_reads_52 : decode cX1_reads 52 = .ok (.invokevirtual 46, 3) := by decide +kernel
theorem dX1_reads_55 : decode cX1_reads 55 = .ok (.ifCond .eq 14, 3) := by decide +kernel
theorem dX1_reads_58 : decode cX1_reads 58 = .ok (.aload_n 0, 1) := by decide +kernel
theorem dX1_reads_59 : decode cX1_reads 59 = .ok (.getfield 33, 3) := by decide +kernel
theorem dX1_reads_62 : decode cX1_reads 62 = .ok (.ifCond .ne 7, 3) := by decide +kernel
theorem dX1_reads_65 : decode cX1_reads 65 = .ok (.iconst 1, 1) := by decide +kernel
theorem dX1_reads_66 : decode cX1_reads 66 = .ok (.goto 4, 3) := by decide +kernel
theorem dX1_reads_69 : decode cX1_reads 69 = .ok (.iconst 0, 1) := by decide +kernel
theorem dX1_reads_70 : decode cX1_reads 70 = .ok (.ireturn, 1) := by decide +kernel
theorem dX1_written_0 : decode cX1_written 0 = .ok (.new 50, 3) := by decide +kernel
theorem dX1_written_3 : decode cX1_written 3 = .ok (.dup, 1) := by decide +kernel
theorem dX1_written_4 : decode cX1_written 4 = .ok (.aload_n 0, 1) := by decide +kernel
theorem dX1_written_5 : decode cX1_written 5 = .ok (.getfield 43, 3) := by decide +kernel
theorem dX1_written_8 : decode cX1_written 8 = .ok (.aload_n 0, 1) := by decide +kernel
theorem dX1_written_9 : decode cX1_written 9 = .ok (.getfield 27, 3) := by decide +kernel
theorem dX1_written_12 : decode cX1_written 12 = .ok (.aload_n 0, 1) := by decide +kernel
theorem dX1_written_13 : decode cX1_written 13 = .ok (.getfield 20, 3) := by decide +kernel
theorem dX1_written_16 : decode cX1_written 16 = .ok (.getfield 52, 3) := by decide +kernel
theorem dX1_written_19 : decode cX1_written 19 = .ok (.aload_n 0, 1) := by decide +kernel
theorem dX1_written_20 : decode cX1_written 20 = .ok (.getfield 20, 3) := by decide +kernel
theorem dX1_written_23 : decode cX1_written 23 = .ok (.getfield 23, 3) := by decide +kernel
theorem dX1_written_26 : decode cX1_written 26 = .ok (.invokestatic 56, 3) := by decide +kernel
theorem dX1_written_29 : decode cX1_written 29 = .ok (.invokespecial 62, 3) := by decide +kernel
theorem dX1_written_32 : decode cX1_written 32 = .ok (.areturn, 1) := by decide +kernel
theorem dX1_next_0 : decode cX1_next 0 = .ok (.aload_n 0, 1) := by decide +kernel
theorem dX1_next_1 : decode cX1_next 1 = .ok (.getfield 33, 3) := by decide +kernel
theorem dX1_next_4 : decode cX1_next 4 = .ok (.iconst 1, 1) := by decide +kernel
theorem dX1_next_5 : decode cX1_next 5 = .ok (.if_icmp .eq 11, 3) := by decide +kernel
theorem dX1_next_8 : decode cX1_next 8 = .ok (.aload_n 0, 1) := by decide +kernel
theorem dX1_next_9 : decode cX1_next 9 = .ok (.getfield 33, 3) := by decide +kernel
theorem dX1_next_12 : decode cX1_next 12 = .ok (.iconst 2, 1) := by decide +kernel
theorem dX1_next_13 : decode cX1_next 13 = .ok (.if_icmp .ne 7, 3) := by decide +kernel
theorem dX1_next_16 : decode cX1_next 16 = .ok (.iconst 1, 1) := by decide +kernel
theorem dX1_next_17 : decode cX1_next 17 = .ok (.goto 4, 3) := by decide +kernel
theorem dX1_next_20 : decode cX1_next 20 = .ok (.iconst 0, 1) := by decide +kernel
theorem dX1_next_21 : decode cX1_next 21 = .ok (.istore_n 1, 1) := by decide +kernel
theorem dX1_next_22 : decode cX1_next 22 = .ok (.aload_n 0, 1) := by decide +kernel
theorem dX1_next_23 : decode cX1_next 23 = .ok (.getfield 30, 3) := by decide +kernel
theorem dX1_next_26 : decode cX1_next 26 = .ok (.istore_n 2, 1) := by decide +kernel
theorem dX1_next_27 : decode cX1_next 27 = .ok (.aload_n 0, 1) := by decide +kernel
theorem dX1_next_28 : decode cX1_next 28 = .ok (.iload_n 2, 1) := by decide +kernel
theorem dX1_next_29 : decode cX1_next 29 = .ok (.putfield 65, 3) := by decide +kernel
theorem dX1_next_32 : decode cX1_next 32 = .ok (.aload_n 0, 1) := by decide +kernel
theorem dX1_next_33 : decode cX1_next 33 = .ok (.getfield 65, 3) := by decide +kernel
theorem dX1_next_36 : decode cX1_next 36 = .ok (.aload_n 0, 1) := by decide +kernel
theorem dX1_next_37 : decode cX1_next 37 = .ok (.getfield 14, 3) := by decide +kernel
theorem dX1_next_40 : decode cX1_next 40 = .ok (.getfield 23, 3) := by decide +kernel
theorem dX1_next_43 : decode cX1_next 43 = .ok (.if_icmp .ge 32, 3) := by decide +kernel
theorem dX1_next_46 : decode cX1_next 46 = .ok (.aload_n 0, 1) := by decide +kernel
theorem dX1_next_47 : decode cX1_next 47 = .ok (.getfield 14, 3) := by decide +kernel
theorem dX1_next_50 : decode cX1_next 50 = .ok (.aload_n 0, 1) := by decide +kernel
theorem dX1_next_51 : decode cX1_next 51 = .ok (.getfield 65, 3) := by decide +kernel
theorem dX1_next_54 : decode cX1_next 54 = .ok (.invokevirtual 68, 3) := by decide +kernel
theorem dX1_next_57 : decode cX1_next 57 = .ok (.bipush 32, 2) := by decide +kernel
theorem dX1_next_59 : decode cX1_next 59 = .ok (.if_icmp .ne 16, 3) := by decide +kernel
theorem dX1_next_62 : decode cX1_next 62 = .ok (.aload_n 0, 1) := by decide +kernel
theorem dX1_next_63 : decode cX1_next 63 = .ok (.dup, 1) := by decide +kernel
theorem dX1_next_64 : decode cX1_next 64 = .ok (.getfield 65, 3) := by decide +kernel
theorem dX1_next_67 : decode cX1_next 67 = .ok (.iconst 1, 1) := by decide +kernel
theorem dX1_next_68 : decode cX1_next 68 = .ok (.iadd, 1) := by decide +kernel
theorem dX1_next_69 : decode cX1_next 69 = .ok (.putfield 65, 3) := by decide +kernel
theorem dX1_next_72 : decode cX1_next 72 = .ok (.goto (-40), 3) := by decide +kernel
theorem dX1_next_75 : decode cX1_next 75 = .ok (.aload_n 0, 1) := by decide +kernel
theorem dX1_next_76 : decode cX1_next 76 = .ok (.aload_n 0, 1) := by decide +kernel
theorem dX1_next_77 : decode cX1_next 77 = .ok (.getfield 14, 3) := by decide +kernel
theorem dX1_next_80 : decode cX1_next 80 = .ok (.aload_n 0, 1) := by decide +kernel
theorem dX1_next_81 : decode cX1_next 81 = .ok (.getfield 65, 3) := by decide +kernel
theorem dX1_next_84 : decode cX1_next 84 = .ok (.invokevirtual 68, 3) := by decide +kernel
theorem dX1_next_87 : decode cX1_next 87 = .ok (.invokestatic 72, 3) := by decide +kernel
theorem dX1_next_90 : decode cX1_next 90 = .ok (.putfield 33, 3) := by decide +kernel
theorem dX1_next_93 : decode cX1_next 93 = .ok (.aload_n 0, 1) := by decide +kernel
theorem dX1_next_94 : decode cX1_next 94 = .ok (.aload_n 0, 1) := by decide +kernel
theorem dX1_next_95 : decode cX1_next 95 = .ok (.getfield 65, 3) := by decide +kernel
theorem dX1_next_98 : decode cX1_next 98 = .ok (.putfield 30, 3) := by decide +kernel
theorem dX1_next_101 : decode cX1_next 101 = .ok (.aload_n 0, 1) := by decide +kernel
theorem dX1_next_102 : decode cX1_next 102 = .ok (.getfield 33, 3) := by decide +kernel
theorem dX1_next_105 : decode cX1_next 105 = .ok (.ifCond .ne 4, 3) := by decide +kernel
theorem dX1_next_108 : decode cX1_next 108 = .ok (.return_, 1) := by decide +kernel
theorem dX1_next_109 : decode cX1_next 109 = .ok (.aload_n 0, 1) := by decide +kernel
theorem dX1_next_110 : decode cX1_next 110 = .ok (.dup, 1) := by decide +kernel
theorem dX1_next_111 : decode cX1_next 111 = .ok (.getfield 30, 3) := by decide +kernel
theorem dX1_next_114 : decode cX1_next 114 = .ok (.iconst 1, 1) := by decide +kernel
theorem dX1_next_115 : decode cX1_next 115 = .ok (.iadd, 1) := by decide +kernel
theorem dX1_next_116 : decode cX1_next 116 = .ok (.putfield 30, 3) := by decide +kernel
theorem dX1_next_119 : decode cX1_next 119 = .ok (.aload_n 0, 1) := by decide +kernel
theorem dX1_next_120 : decode cX1_next 120 = .ok (.getfield 33, 3) := by decide +kernel
theorem dX1_next_123 : decode cX1_next 123 = .ok (.iconst 3, 1) := by decide +kernel
theorem dX1_next_124 : decode cX1_next 124 = .ok (.if_icmp .ne 4, 3) := by decide +kernel
theorem dX1_next_127 : decode cX1_next 127 = .ok (.return_, 1) := by decide +kernel
theorem dX1_next_128 : decode cX1_next 128 = .ok (.aload_n 0, 1) := by decide +kernel
theorem dX1_next_129 : decode cX1_next 129 = .ok (.getfield 30, 3) := by decide +kernel
theorem dX1_next_132 : decode cX1_next 132 = .ok (.aload_n 0, 1) := by decide +kernel
theorem dX1_next_133 : decode cX1_next 133 = .ok (.getfield 14, 3) := by decide +kernel
theorem dX1_next_136 : decode cX1_next 136 = .ok (.getfield 23, 3) := by decide +kernel
theorem dX1_next_139 : decode cX1_next 139 = .ok (.if_icmp .ge 37, 3) := by decide +kernel
theorem dX1_next_142 : decode cX1_next 142 = .ok (.aload_n 0, 1) := by decide +kernel
theorem dX1_next_143 : decode cX1_next 143 = .ok (.getfield 14, 3) := by decide +kernel
theorem dX1_next_146 : decode cX1_next 146 = .ok (.aload_n 0, 1) := by decide +kernel
theorem dX1_next_147 : decode cX1_next 147 = .ok (.getfield 30, 3) := by decide +kernel
theorem dX1_next_150 : decode cX1_next 150 = .ok (.invokevirtual 68, 3) := by decide +kernel
theorem dX1_next_153 : decode cX1_next 153 = .ok (.invokestatic 72, 3) := by decide +kernel
theorem dX1_next_156 : decode cX1_next 156 = .ok (.aload_n 0, 1) := by decide +kernel
theorem dX1_next_157 : decode cX1_next 157 = .ok (.getfield 33, 3) := by decide +kernel
theorem dX1_next_160 : decode cX1_next 160 = .ok (.if_icmp .ne 16, 3) := by decide +kernel
theorem dX1_next_163 : decode cX1_next 163 = .ok (.aload_n 0, 1) := by decide +kernel
theorem dX1_next_164 : decode cX1_next 164 = .ok (.dup, 1) := by decide +kernel
theorem dX1_next_165 : decode cX1_next 165 = .ok (.getfield 30, 3) := by decide +kernel
theorem dX1_next_168 : decode cX1_next 168 = .ok (.iconst 1, 1) := by decide +kernel
theorem dX1_next_169 : decode cX1_next 169 = .ok (.iadd, 1) := by decide +kernel
theorem dX1_next_170 : decode cX1_next 170 = .ok (.putfield 30, 3) := by decide +kernel
theorem dX1_next_173 : decode cX1_next 173 = .ok (.goto (-45), 3) := by decide +kernel
theorem dX1_next_176 : decode cX1_next 176 = .ok (.iload_n 1, 1) := by decide +kernel
theorem dX1_next_177 : decode cX1_next 177 = .ok (.ifCond .eq 15, 3) := by decide +kernel
theorem dX1_next_180 : decode cX1_next 180 = .ok (.aload_n 0, 1) := by decide +kernel
theorem dX1_next_181 : decode cX1_next 181 = .ok (.getfield 65, 3) := by decide +kernel
theorem dX1_next_184 : decode cX1_next 184 = .ok (.iload_n 2, 1) := by decide +kernel
theorem dX1_next_185 : decode cX1_next 185 = .ok (.if_icmp .ne 7, 3) := by decide +kernel
theorem dX1_next_188 : decode cX1_next 188 = .ok (.iconst 1, 1) := by decide +kernel
theorem dX1_next_189 : decode cX1_next 189 = .ok (.goto 4, 3) := by decide +kernel
theorem dX1_next_192 : decode cX1_next 192 = .ok (.iconst 0, 1) := by decide +kernel
theorem dX1_next_193 : decode cX1_next 193 = .ok (.istore_n 3, 1) := by decide +kernel
theorem dX1_next_194 : decode cX1_next 194 = .ok (.iload_n 3, 1) := by decide +kernel
theorem dX1_next_195 : decode cX1_next 195 = .ok (.ifCond .ne 24, 3) := by decide +kernel
theorem dX1_next_198 : decode cX1_next 198 = .ok (.aload_n 0, 1) := by decide +kernel
theorem dX1_next_199 : decode cX1_next 199 = .ok (.getfield 33, 3) := by decide +kernel
theorem dX1_next_202 : decode cX1_next 202 = .ok (.iconst 2, 1) := by decide +kernel
theorem dX1_next_203 : decode cX1_next 203 = .ok (.if_icmp .ne 21, 3) := by decide +kernel
theorem dX1_next_206 : decode cX1_next 206 = .ok (.aload_n 0, 1) := by decide +kernel
theorem dX1_next_207 : decode cX1_next 207 = .ok (.getfield 30, 3) := by decide +kernel
theorem dX1_next_210 : decode cX1_next 210 = .ok (.aload_n 0, 1) := by decide +kernel
theorem dX1_next_211 : decode cX1_next 211 = .ok (.getfield 65, 3) := by decide +kernel
theorem dX1_next_214 : decode cX1_next 214 = .ok (.isub, 1) := by decide +kernel
theorem dX1_next_215 : decode cX1_next 215 = .ok (.iconst 4, 1) := by decide +kernel
theorem dX1_next_216 : decode cX1_next 216 = .ok (.if_icmp .le 8, 3) := by decide +kernel
theorem dX1_next_219 : decode cX1_next 219 = .ok (.aload_n 0, 1) := by decide +kernel
theorem dX1_next_220 : decode cX1_next 220 = .ok (.iconst 4, 1) := by decide +kernel
theorem dX1_next_221 : decode cX1_next 221 = .ok (.putfield 33, 3) := by decide +kernel
theorem dX1_next_224 : decode cX1_next 224 = .ok (.return_, 1) := by decide +kernel
theorem dX1_sortOf_0 : decode cX1_sortOf 0 = .ok (.iload_n 0, 1) := by decide +kernel
theorem dX1_sortOf_1 : decode cX1_sortOf 1 = .ok (.ifCond .ge 5, 3) := by decide +kernel
theorem dX1_sortOf_4 : decode cX1_sortOf 4 = .ok (.iconst 0, 1) := by decide +kernel
theorem dX1_sortOf_5 : decode cX1_sortOf 5 = .ok (.ireturn, 1) := by decide +kernel
theorem dX1_sortOf_6 : decode cX1_sortOf 6 = .ok (.iload_n 0, 1) := by decide +kernel
theorem dX1_sortOf_7 : decode cX1_sortOf 7 = .ok (.bipush 97, 2) := by decide +kernel
theorem dX1_sortOf_9 : decode cX1_sortOf 9 = .ok (.if_icmp .lt 11, 3) := by decide +kernel
theorem dX1_sortOf_12 : decode cX1_sortOf 12 = .ok (.iload_n 0, 1) := by decide +kernel
theorem dX1_sortOf_13 : decode cX1_sortOf 13 = .ok (.bipush 122, 2) := by decide +kernel
theorem dX1_sortOf_15 : decode cX1_sortOf 15 = .ok (.if_icmp .gt 5, 3) := by decide +kernel
theorem dX1_sortOf_18 : decode cX1_sortOf 18 = .ok (.iconst 1, 1) := by decide +kernel
theorem dX1_sortOf_19 : decode cX1_sortOf 19 = .ok (.ireturn, 1) := by decide +kernel
theorem dX1_sortOf_20 : decode cX1_sortOf 20 = .ok (.iload_n 0, 1) := by decide +kernel
theorem dX1_sortOf_21 : decode cX1_sortOf 21 = .ok (.bipush 48, 2) := by decide +kernel
theorem dX1_sortOf_23 : decode cX1_sortOf 23 = .ok (.if_icmp .lt 13, 3) := by decide +kernel
theorem dX1_sortOf_26 : decode cX1_sortOf 26 = .ok (.iload_n 0, 1) := by decide +kernel
theorem dX1_sortOf_27 : decode cX1_sortOf 27 = .ok (.bipush 57, 2) := by decide +kernel
theorem dX1_sortOf_29 : decode cX1_sortOf 29 = .ok (.if_icmp .gt 7, 3) := by decide +kernel
theorem dX1_sortOf_32 : decode cX1_sortOf 32 = .ok (.iconst 2, 1) := by decide +kernel
theorem dX1_sortOf_33 : decode cX1_sortOf 33 = .ok (.goto 4, 3) := by decide +kernel
theorem dX1_sortOf_36 : decode cX1_sortOf 36 = .ok (.iconst 3, 1) := by decide +kernel
theorem dX1_sortOf_37 : decode cX1_sortOf 37 = .ok (.ireturn, 1) := by decide +kernel
theorem dX1_keyHere_0 : decode cX1_keyHere 0 = .ok (.aload_n 0, 1) := by decide +kernel
theorem dX1_keyHere_1 : decode cX1_keyHere 1 = .ok (.ldc 75, 2) := by decide +kernel
theorem dX1_keyHere_3 : decode cX1_keyHere 3 = .ok (.invokevirtual 77, 3) := by decide +kernel
theorem dX1_keyHere_6 : decode cX1_keyHere 6 = .ok (.ifCond .eq 5, 3) := by decide +kernel
theorem dX1_keyHere_9 : decode cX1_keyHere 9 = .ok (.iconst 0, 1) := by decide +kernel
theorem dX1_keyHere_10 : decode cX1_keyHere 10 = .ok (.ireturn, 1) := by decide +kernel
theorem dX1_keyHere_11 : decode cX1_keyHere 11 = .ok (.aload_n 0, 1) := by decide +kernel
theorem dX1_keyHere_12 : decode cX1_keyHere 12 = .ok (.ldc 81, 2) := by decide +kernel
theorem dX1_keyHere_14 : decode cX1_keyHere 14 = .ok (.invokevirtual 77, 3) := by decide +kernel
theorem dX1_keyHere_17 : decode cX1_keyHere 17 = .ok (.ifCond .eq 5, 3) := by decide +kernel
theorem dX1_keyHere_20 : decode cX1_keyHere 20 = .ok (.iconst 1, 1) := by decide +kernel
theorem dX1_keyHere_21 : decode cX1_keyHere 21 = .ok (.ireturn, 1) := by decide +kernel
theorem dX1_keyHere_22 : decode cX1_keyHere 22 = .ok (.aload_n 0, 1) := by decide +kernel
theorem dX1_keyHere_23 : decode cX1_keyHere 23 = .ok (.ldc 83, 2) := by decide +kernel
theorem dX1_keyHere_25 : decode cX1_keyHere 25 = .ok (.invokevirtual 77, 3) := by decide +kernel
theorem dX1_keyHere_28 : decode cX1_keyHere 28 = .ok (.ifCond .eq 7, 3) := by decide +kernel
theorem dX1_keyHere_31 : decode cX1_keyHere 31 = .ok (.iconst 2, 1) := by decide +kernel
theorem dX1_keyHere_32 : decode cX1_keyHere 32 = .ok (.goto 4, 3) := by decide +kernel
theorem dX1_keyHere_35 : decode cX1_keyHere 35 = .ok (.iconst (-1), 1) := by decide +kernel
theorem dX1_keyHere_36 : decode cX1_keyHere 36 = .ok (.ireturn, 1) := by decide +kernel
theorem dX1_isWord_0 : decode cX1_isWord 0 = .ok (.aload_n 0, 1) := by decide +kernel
theorem dX1_isWord_1 : decode cX1_isWord 1 = .ok (.getfield 33, 3) := by decide +kernel
theorem dX1_isWord_4 : decode cX1_isWord 4 = .ok (.iconst 1, 1) := by decide +kernel
theorem dX1_isWord_5 : decode cX1_isWord 5 = .ok (.if_icmp .ne 19, 3) := by decide +kernel
theorem dX1_isWord_8 : decode cX1_isWord 8 = .ok (.aload_n 0, 1) := by decide +kernel
theorem dX1_isWord_9 : decode cX1_isWord 9 = .ok (.getfield 30, 3) := by decide +kernel
theorem dX1_isWord_12 : decode cX1_isWord 12 = .ok (.aload_n 0, 1) := by decide +kernel
theorem dX1_isWord_13 : decode cX1_isWord 13 = .ok (.getfield 65, 3) := by decide +kernel
theorem dX1_isWord_16 : decode cX1_isWord 16 = .ok (.isub, 1) := by decide +kernel
theorem dX1_isWord_17 : decode cX1_isWord 17 = .ok (.aload_n 1, 1) := by decide +kernel
theorem dX1_isWord_18 : decode cX1_isWord 18 = .ok (.invokevirtual 85, 3) := by decide +kernel
theorem dX1_isWord_21 : decode cX1_isWord 21 = .ok (.if_icmp .eq 5, 3) := by decide +kernel
theorem dX1_isWord_24 : decode cX1_isWord 24 = .ok (.iconst 0, 1) := by decide +kernel
theorem dX1_isWord_25 : decode cX1_isWord 25 = .ok (.ireturn, 1) := by decide +kernel
theorem dX1_isWord_26 : decode cX1_isWord 26 = .ok (.iconst 0, 1) := by decide +kernel
theorem dX1_isWord_27 : decode cX1_isWord 27 = .ok (.istore_n 2, 1) := by decide +kernel
theorem dX1_isWord_28 : decode cX1_isWord 28 = .ok (.iload_n 2, 1) := by decide +kernel
theorem dX1_isWord_29 : decode cX1_isWord 29 = .ok (.aload_n 1, 1) := by decide +kernel
theorem dX1_isWord_30 : decode cX1_isWord 30 = .ok (.invokevirtual 85, 3) := by decide +kernel
theorem dX1_isWord_33 : decode cX1_isWord 33 = .ok (.if_icmp .ge 32, 3) := by decide +kernel
theorem dX1_isWord_36 : decode cX1_isWord 36 = .ok (.aload_n 0, 1) := by decide +kernel
theorem dX1_isWord_37 : decode cX1_isWord 37 = .ok (.getfield 14, 3) := by decide +kernel
theorem dX1_isWord_40 : decode cX1_isWord 40 = .ok (.aload_n 0, 1) := by decide +kernel
theorem dX1_isWord_41 : decode cX1_isWord 41 = .ok (.getfield 65, 3) := by decide +kernel
theorem dX1_isWord_44 : decode cX1_isWord 44 = .ok (.iload_n 2, 1) := by decide +kernel
theorem dX1_isWord_45 : decode cX1_isWord 45 = .ok (.iadd, 1) := by decide +kernel
theorem dX1_isWord_46 : decode cX1_isWord 46 = .ok (.invokevirtual 68, 3) := by decide +kernel
theorem dX1_isWord_49 : decode cX1_isWord 49 = .ok (.aload_n 1, 1) := by decide +kernel
theorem dX1_isWord_50 : decode cX1_isWord 50 = .ok (.iload_n 2, 1) := by decide +kernel
theorem dX1_isWord_51 : decode cX1_isWord 51 = .ok (.invokevirtual 90, 3) := by decide +kernel
theorem dX1_isWord_54 : decode cX1_isWord 54 = .ok (.if_icmp .eq 5, 3) := by decide +kernel
theorem dX1_isWord_57 : decode cX1_isWord 57 = .ok (.iconst 0, 1) := by decide +kernel
theorem dX1_isWord_58 : decode cX1_isWord 58 = .ok (.ireturn, 1) := by decide +kernel
theorem dX1_isWord_59 : decode cX1_isWord 59 = .ok (.iinc 2 1, 3) := by decide +kernel
theorem dX1_isWord_62 : decode cX1_isWord 62 = .ok (.goto (-34), 3) := by decide +kernel
theorem dX1_isWord_65 : decode cX1_isWord 65 = .ok (.iconst 1, 1) := by decide +kernel
theorem dX1_isWord_66 : decode cX1_isWord 66 = .ok (.ireturn, 1) := by decide +kernel
theorem dX1_isSign_0 : decode cX1_isSign 0 = .ok (.aload_n 0, 1) := by decide +kernel
theorem dX1_isSign_1 : decode cX1_isSign 1 = .ok (.getfield 33, 3) := by decide +kernel
theorem dX1_isSign_4 : decode cX1_isSign 4 = .ok (.iconst 3, 1) := by decide +kernel
theorem dX1_isSign_5 : decode cX1_isSign 5 = .ok (.if_icmp .ne 22, 3) := by decide +kernel
theorem dX1_isSign_8 : decode cX1_isSign 8 = .ok (.aload_n 0, 1) := by decide +kernel
theorem dX1_isSign_9 : decode cX1_isSign 9 = .ok (.getfield 14, 3) := by decide +kernel
theorem dX1_isSign_12 : decode cX1_isSign 12 = .ok (.aload_n 0, 1) := by decide +kernel
theorem dX1_isSign_13 : decode cX1_isSign 13 = .ok (.getfield 65, 3) := by decide +kernel
theorem dX1_isSign_16 : decode cX1_isSign 16 = .ok (.invokevirtual 68, 3) := by decide +kernel
theorem dX1_isSign_19 : decode cX1_isSign 19 = .ok (.iload_n 1, 1) := by decide +kernel
theorem dX1_isSign_20 : decode cX1_isSign 20 = .ok (.if_icmp .ne 7, 3) := by decide +kernel
theorem dX1_isSign_23 : decode cX1_isSign 23 = .ok (.iconst 1, 1) := by decide +kernel
theorem dX1_isSign_24 : decode cX1_isSign 24 = .ok (.goto 4, 3) := by decide +kernel
theorem dX1_isSign_27 : decode cX1_isSign 27 = .ok (.iconst 0, 1) := by decide +kernel
theorem dX1_isSign_28 : decode cX1_isSign 28 = .ok (.ireturn, 1) := by decide +kernel
theorem dX1_levelHere_0 : decode cX1_levelHere 0 = .ok (.aload_n 0, 1) := by decide +kernel
theorem dX1_levelHere_1 : decode cX1_levelHere 1 = .ok (.getfield 33, 3) := by decide +kernel
theorem dX1_levelHere_4 : decode cX1_levelHere 4 = .ok (.iconst 3, 1) := by decide +kernel
theorem dX1_levelHere_5 : decode cX1_levelHere 5 = .ok (.if_icmp .eq 5, 3) := by decide +kernel
theorem dX1_levelHere_8 : decode cX1_levelHere 8 = .ok (.iconst (-1), 1) := by decide +kernel
theorem dX1_levelHere_9 : decode cX1_levelHere 9 = .ok (.ireturn, 1) := by decide +kernel
theorem dX1_levelHere_10 : decode cX1_levelHere 10 = .ok (.aload_n 0, 1) := by decide +kernel
theorem dX1_levelHere_11 : decode cX1_levelHere 11 = .ok (.getfield 14, 3) := by decide +kernel
theorem dX1_levelHere_14 : decode cX1_levelHere 14 = .ok (.aload_n 0, 1) := by decide +kernel
theorem dX1_levelHere_15 : decode cX1_levelHere 15 = .ok (.getfield 65, 3) := by decide +kernel
theorem dX1_levelHere_18 : decode cX1_levelHere 18 = .ok (.invokevirtual 68, 3) := by decide +kernel
theorem dX1_levelHere_21 : decode cX1_levelHere 21 = .ok (.lookupswitch 93 #[(38, 85), (42, 91), (43, 89), (45, 89), (47, 91), (60, 87), (61, 87), (62, 87), (124, 83)], 83) := by decide +kernel
theorem dX1_levelHere_104 : decode cX1_levelHere 104 = .ok (.iconst 0, 1) := by decide +kernel
theorem dX1_levelHere_105 : decode cX1_levelHere 105 = .ok (.ireturn, 1) := by decide +kernel
theorem dX1_levelHere_106 : decode cX1_levelHere 106 = .ok (.iconst 1, 1) := by decide +kernel
theorem dX1_levelHere_107 : decode cX1_levelHere 107 = .ok (.ireturn, 1) := by decide +kernel
theorem dX1_levelHere_108 : decode cX1_levelHere 108 = .ok (.iconst 2, 1) := by decide +kernel
theorem dX1_levelHere_109 : decode cX1_levelHere 109 = .ok (.ireturn, 1) := by decide +kernel
theorem dX1_levelHere_110 : decode cX1_levelHere 110 = .ok (.iconst 3, 1) := by decide +kernel
theorem dX1_levelHere_111 : decode cX1_levelHere 111 = .ok (.ireturn, 1) := by decide +kernel
theorem dX1_levelHere_112 : decode cX1_levelHere 112 = .ok (.iconst 4, 1) := by decide +kernel
theorem dX1_levelHere_113 : decode cX1_levelHere 113 = .ok (.ireturn, 1) := by decide +kernel
theorem dX1_levelHere_114 : decode cX1_levelHere 114 = .ok (.iconst (-1), 1) := by decide +kernel
theorem dX1_levelHere_115 : decode cX1_levelHere 115 = .ok (.ireturn, 1) := by decide +kernel
theorem dX1_readsLevel_0 : decode cX1_readsLevel 0 = .ok (.iload_n 1, 1) := by decide +kernel
theorem dX1_readsLevel_1 : decode cX1_readsLevel 1 = .ok (.iconst 5, 1) := by decide +kernel
theorem dX1_readsLevel_2 : decode cX1_readsLevel 2 = .ok (.if_icmp .lt 10, 3) := by decide +kernel
theorem dX1_readsLevel_5 : decode cX1_readsLevel 5 = .ok (.aload_n 0, 1) := by decide +kernel
theorem dX1_readsLevel_6 : decode cX1_readsLevel 6 = .ok (.iload_n 2, 1) := by decide +kernel
theorem dX1_readsLevel_7 : decode cX1_readsLevel 7 = .ok (.iload_n 3, 1) := by decide +kernel
theorem dX1_readsLevel_8 : decode cX1_readsLevel 8 = .ok (.invokevirtual 94, 3) := by decide +kernel
theorem dX1_readsLevel_11 : decode cX1_readsLevel 11 = .ok (.ireturn, 1) := by decide +kernel
theorem dX1_readsLevel_12 : decode cX1_readsLevel 12 = .ok (.aload_n 0, 1) := by decide +kernel
theorem dX1_readsLevel_13 : decode cX1_readsLevel 13 = .ok (.iload_n 1, 1) := by decide +kernel
theorem dX1_readsLevel_14 : decode cX1_readsLevel 14 = .ok (.iconst 1, 1) := by decide +kernel
theorem dX1_readsLevel_15 : decode cX1_readsLevel 15 = .ok (.iadd, 1) := by decide +kernel
theorem dX1_readsLevel_16 : decode cX1_readsLevel 16 = .ok (.iload_n 2, 1) := by decide +kernel
theorem dX1_readsLevel_17 : decode cX1_readsLevel 17 = .ok (.iload_n 3, 1) := by decide +kernel
theorem dX1_readsLevel_18 : decode cX1_readsLevel 18 = .ok (.invokevirtual 46, 3) := by decide +kernel
theorem dX1_readsLevel_21 : decode cX1_readsLevel 21 = .ok (.ifCond .ne 5, 3) := by decide +kernel
theorem dX1_readsLevel_24 : decode cX1_readsLevel 24 = .ok (.iconst 0, 1) := by decide +kernel
theorem dX1_readsLevel_25 : decode cX1_readsLevel 25 = .ok (.ireturn, 1) := by decide +kernel
theorem dX1_readsLevel_26 : decode cX1_readsLevel 26 = .ok (.iconst 0, 1) := by decide +kernel
theorem dX1_readsLevel_27 : decode cX1_readsLevel 27 = .ok (.istore 4, 2) := by decide +kernel
theorem dX1_readsLevel_29 : decode cX1_readsLevel 29 = .ok (.iload 4, 2) := by decide +kernel
theorem dX1_readsLevel_31 : decode cX1_readsLevel 31 = .ok (.bipush 96, 2) := by decide +kernel
theorem dX1_readsLevel_33 : decode cX1_readsLevel 33 = .ok (.if_icmp .ge 66, 3) := by decide +kernel
theorem dX1_readsLevel_36 : decode cX1_readsLevel 36 = .ok (.aload_n 0, 1) := by decide +kernel
theorem dX1_readsLevel_37 : decode cX1_readsLevel 37 = .ok (.invokevirtual 98, 3) := by decide +kernel
theorem dX1_readsLevel_40 : decode cX1_readsLevel 40 = .ok (.iload_n 1, 1) := by decide +kernel
theorem dX1_readsLevel_41 : decode cX1_readsLevel 41 = .ok (.if_icmp .ne 58, 3) := by decide +kernel
theorem dX1_readsLevel_44 : decode cX1_readsLevel 44 = .ok (.aload_n 0, 1) := by decide +kernel
theorem dX1_readsLevel_45 : decode cX1_readsLevel 45 = .ok (.getfield 14, 3) := by decide +kernel
theorem dX1_readsLevel_48 : decode cX1_readsLevel 48 = .ok (.aload_n 0, 1) := by decide +kernel
theorem dX1_readsLevel_49 : decode cX1_readsLevel 49 = .ok (.getfield 65, 3) := by decide +kernel
theorem dX1_readsLevel_52 : decode cX1_readsLevel 52 = .ok (.invokevirtual 68, 3) := by decide +kernel
theorem dX1_readsLevel_55 : decode cX1_readsLevel 55 = .ok (.istore 5, 2) := by decide +kernel
theorem dX1_readsLevel_57 : decode cX1_readsLevel 57 = .ok (.aload_n 0, 1) := by decide +kernel
theorem dX1_readsLevel_58 : decode cX1_readsLevel 58 = .ok (.invokevirtual 36, 3) := by decide +kernel
theorem dX1_readsLevel_61 : decode cX1_readsLevel 61 = .ok (.aload_n 0, 1) := by decide +kernel
theorem dX1_readsLevel_62 : decode cX1_readsLevel 62 = .ok (.iload_n 1, 1) := by decide +kernel
theorem dX1_readsLevel_63 : decode cX1_readsLevel 63 = .ok (.iconst 1, 1) := by decide +kernel
theorem dX1_readsLevel_64 : decode cX1_readsLevel 64 = .ok (.iadd, 1) := by decide +kernel
theorem dX1_readsLevel_65 : decode cX1_readsLevel 65 = .ok (.iload_n 2, 1) := by decide +kernel
theorem dX1_readsLevel_66 : decode cX1_readsLevel 66 = .ok (.iload_n 3, 1) := by decide +kernel
theorem dX1_readsLevel_67 : decode cX1_readsLevel 67 = .ok (.invokevirtual 46, 3) := by decide +kernel
theorem dX1_readsLevel_70 : decode cX1_readsLevel 70 = .ok (.ifCond .ne 5, 3) := by decide +kernel
theorem dX1_readsLevel_73 : decode cX1_readsLevel 73 = .ok (.iconst 0, 1) := by decide +kernel
theorem dX1_readsLevel_74 : decode cX1_readsLevel 74 = .ok (.ireturn, 1) := by decide +kernel
theorem dX1_readsLevel_75 : decode cX1_readsLevel 75 = .ok (.aload_n 0, 1) := by decide +kernel
theorem dX1_readsLevel_76 : decode cX1_readsLevel 76 = .ok (.getfield 20, 3) := by decide +kernel
theorem dX1_readsLevel_79 : decode cX1_readsLevel 79 = .ok (.iload 5, 2) := by decide +kernel
theorem dX1_readsLevel_81 : decode cX1_readsLevel 81 = .ok (.ineg, 1) := by decide +kernel
theorem dX1_readsLevel_82 : decode cX1_readsLevel 82 = .ok (.invokevirtual 101, 3) := by decide +kernel
theorem dX1_readsLevel_85 : decode cX1_readsLevel 85 = .ok (.iload_n 1, 1) := by decide +kernel
theorem dX1_readsLevel_86 : decode cX1_readsLevel 86 = .ok (.iconst 2, 1) := by decide +kernel
theorem dX1_readsLevel_87 : decode cX1_readsLevel 87 = .ok (.if_icmp .ne 6, 3) := by decide +kernel
theorem dX1_readsLevel_90 : decode cX1_readsLevel 90 = .ok (.goto 9, 3) := by decide +kernel
theorem dX1_readsLevel_93 : decode cX1_readsLevel 93 = .ok (.iinc 4 1, 3) := by decide +kernel
theorem dX1_readsLevel_96 : decode cX1_readsLevel 96 = .ok (.goto (-67), 3) := by decide +kernel
theorem dX1_readsLevel_99 : decode cX1_readsLevel 99 = .ok (.iconst 1, 1) := by decide +kernel
theorem dX1_readsLevel_100 : decode cX1_readsLevel 100 = .ok (.ireturn, 1) := by decide +kernel
theorem dX1_readsPiece_0 : decode cX1_readsPiece 0 = .ok (.aload_n 0, 1) := by decide +kernel
theorem dX1_readsPiece_1 : decode cX1_readsPiece 1 = .ok (.getfield 33, 3) := by decide +kernel
theorem dX1_readsPiece_4 : decode cX1_readsPiece 4 = .ok (.iconst 2, 1) := by decide +kernel
theorem dX1_readsPiece_5 : decode cX1_readsPiece 5 = .ok (.if_icmp .ne 8, 3) := by decide +kernel
theorem dX1_readsPiece_8 : decode cX1_readsPiece 8 = .ok (.aload_n 0, 1) := by decide +kernel
theorem dX1_readsPiece_9 : decode cX1_readsPiece 9 = .ok (.invokevirtual 104, 3) := by decide +kernel
theorem dX1_readsPiece_12 : decode cX1_readsPiece 12 = .ok (.ireturn, 1) := by decide +kernel
theorem dX1_readsPiece_13 : decode cX1_readsPiece 13 = .ok (.aload_n 0, 1) := by decide +kernel
theorem dX1_readsPiece_14 : decode cX1_readsPiece 14 = .ok (.getfield 33, 3) := by decide +kernel
theorem dX1_readsPiece_17 : decode cX1_readsPiece 17 = .ok (.iconst 1, 1) := by decide +kernel
theorem dX1_readsPiece_18 : decode cX1_readsPiece 18 = .ok (.if_icmp .ne 8, 3) := by decide +kernel
theorem dX1_readsPiece_21 : decode cX1_readsPiece 21 = .ok (.aload_n 0, 1) := by decide +kernel
theorem dX1_readsPiece_22 : decode cX1_readsPiece 22 = .ok (.invokevirtual 108, 3) := by decide +kernel
theorem dX1_readsPiece_25 : decode cX1_readsPiece 25 = .ok (.ireturn, 1) := by decide +kernel
theorem dX1_readsPiece_26 : decode cX1_readsPiece 26 = .ok (.aload_n 0, 1) := by decide +kernel
theorem dX1_readsPiece_27 : decode cX1_readsPiece 27 = .ok (.bipush 33, 2) := by decide +kernel
theorem dX1_readsPiece_29 : decode cX1_readsPiece 29 = .ok (.invokevirtual 111, 3) := by decide +kernel
theorem dX1_readsPiece_32 : decode cX1_readsPiece 32 = .ok (.ifCond .eq 39, 3) := by decide +kernel
theorem dX1_readsPiece_35 : decode cX1_readsPiece 35 = .ok (.iload_n 2, 1) := by decide +kernel
theorem dX1_readsPiece_36 : decode cX1_readsPiece 36 = .ok (.bipush 8, 2) := by decide +kernel
theorem dX1_readsPiece_38 : decode cX1_readsPiece 38 = .ok (.if_icmp .lt 5, 3) := by decide +kernel
theorem dX1_readsPiece_41 : decode cX1_readsPiece 41 = .ok (.iconst 0, 1) := by decide +kernel
theorem dX1_readsPiece_42 : decode cX1_readsPiece 42 = .ok (.ireturn, 1) := by decide +kernel
theorem dX1_readsPiece_43 : decode cX1_readsPiece 43 = .ok (.aload_n 0, 1) := by decide +kernel
theorem dX1_readsPiece_44 : decode cX1_readsPiece 44 = .ok (.invokevirtual 36, 3) := by decide +kernel
theorem dX1_readsPiece_47 : decode cX1_readsPiece 47 = .ok (.aload_n 0, 1) := by decide +kernel
theorem dX1_readsPiece_48 : decode cX1_readsPiece 48 = .ok (.iload_n 1, 1) := by decide +kernel
theorem dX1_readsPiece_49 : decode cX1_readsPiece 49 = .ok (.iload_n 2, 1) := by decide +kernel
theorem dX1_readsPiece_50 : decode cX1_readsPiece 50 = .ok (.iconst 1, 1) := by decide +kernel
theorem dX1_readsPiece_51 : decode cX1_readsPiece 51 = .ok (.iadd, 1) := by decide +kernel
theorem dX1_readsPiece_52 : decode cX1_readsPiece 52 = .ok (.invokevirtual 94, 3) := by decide +kernel
theorem dX1_readsPiece_55 : decode cX1_readsPiece 55 = .ok (.ifCond .ne 5, 3) := by decide +kernel
theorem dX1_readsPiece_58 : decode cX1_readsPiece 58 = .ok (.iconst 0, 1) := by decide +kernel
theorem dX1_readsPiece_59 : decode cX1_readsPiece 59 = .ok (.ireturn, 1) := by decide +kernel
theorem dX1_readsPiece_60 : decode cX1_readsPiece 60 = .ok (.aload_n 0, 1) := by decide +kernel
theorem dX1_readsPiece_61 : decode cX1_readsPiece 61 = .ok (.getfield 20, 3) := by decide +kernel
theorem dX1_readsPiece_64 : decode cX1_readsPiece 64 = .ok (.bipush (-33), 2) := by decide +kernel
theorem dX1_readsPiece_66 : decode cX1_readsPiece 66 = .ok (.invokevirtual 101, 3) := by decide +kernel
theorem dX1_readsPiece_69 : decode cX1_readsPiece 69 = .ok (.iconst 1, 1) := by decide +kernel
theorem dX1_readsPiece_70 : decode cX1_readsPiece 70 = .ok (.ireturn, 1) := by decide +kernel
theorem dX1_readsPiece_71 : decode cX1_readsPiece 71 = .ok (.aload_n 0, 1) := by decide +kernel
theorem dX1_readsPiece_72 : decode cX1_readsPiece 72 = .ok (.bipush 40, 2) := by decide +kernel
theorem dX1_readsPiece_74 : decode cX1_readsPiece 74 = .ok (.invokevirtual 111, 3) := by decide +kernel
theorem dX1_readsPiece_77 : decode cX1_readsPiece 77 = .ok (.ifCond .eq 9, 3) := by decide +kernel
theorem dX1_readsPiece_80 : decode cX1_readsPiece 80 = .ok (.iload_n 1, 1) := by decide +kernel
theorem dX1_readsPiece_81 : decode cX1_readsPiece 81 = .ok (.bipush 8, 2) := by decide +kernel
theorem dX1_readsPiece_83 : decode cX1_readsPiece 83 = .ok (.if_icmp .lt 5, 3) := by decide +kernel
theorem dX1_readsPiece_86 : decode cX1_readsPiece 86 = .ok (.iconst 0, 1) := by decide +kernel
theorem dX1_readsPiece_87 : decode cX1_readsPiece 87 = .ok (.ireturn, 1) := by decide +kernel
theorem dX1_readsPiece_88 : decode cX1_readsPiece 88 = .ok (.aload_n 0, 1) := by decide +kernel
theorem dX1_readsPiece_89 : decode cX1_readsPiece 89 = .ok (.invokevirtual 36, 3) := by decide +kernel
theorem dX1_readsPiece_92 : decode cX1_readsPiece 92 = .ok (.aload_n 0, 1) := by decide +kernel
theorem dX1_readsPiece_93 : decode cX1_readsPiece 93 = .ok (.iconst 0, 1) := by decide +kernel
theorem dX1_readsPiece_94 : decode cX1_readsPiece 94 = .ok (.iload_n 1, 1) := by decide +kernel
theorem dX1_readsPiece_95 : decode cX1_readsPiece 95 = .ok (.iconst 1, 1) := by decide +kernel
theorem dX1_readsPiece_96 : decode cX1_readsPiece 96 = .ok (.iadd, 1) := by decide +kernel
theorem dX1_readsPiece_97 : decode cX1_readsPiece 97 = .ok (.iload_n 2, 1) := by decide +kernel
theorem dX1_readsPiece_98 : decode cX1_readsPiece 98 = .ok (.invokevirtual 46, 3) := by decide +kernel
theorem dX1_readsPiece_101 : decode cX1_readsPiece 101 = .ok (.ifCond .eq 12, 3) := by decide +kernel
theorem dX1_readsPiece_104 : decode cX1_readsPiece 104 = .ok (.aload_n 0, 1) := by decide +kernel
theorem dX1_readsPiece_105 : decode cX1_readsPiece 105 = .ok (.bipush 41, 2) := by decide +kernel
theorem dX1_readsPiece_107 : decode cX1_readsPiece 107 = .ok (.invokevirtual 111, 3) := by decide +kernel
theorem dX1_readsPiece_110 : decode cX1_readsPiece 110 = .ok (.ifCond .ne 5, 3) := by decide +kernel
theorem dX1_readsPiece_113 : decode cX1_readsPiece 113 = .ok (.iconst 0, 1) := by decide +kernel
theorem dX1_readsPiece_114 : decode cX1_readsPiece 114 = .ok (.ireturn, 1) := by decide +kernel
theorem dX1_readsPiece_115 : decode cX1_readsPiece 115 = .ok (.aload_n 0, 1) := by decide +kernel
theorem dX1_readsPiece_116 : decode cX1_readsPiece 116 = .ok (.invokevirtual 36, 3) := by decide +kernel
theorem dX1_readsPiece_119 : decode cX1_readsPiece 119 = .ok (.iconst 1, 1) := by decide +kernel
theorem dX1_readsPiece_120 : decode cX1_readsPiece 120 = .ok (.ireturn, 1) := by decide +kernel
theorem dX1_readsNumber_0 : decode cX1_readsNumber 0 = .ok (.iconst 0, 1) := by decide +kernel
theorem dX1_readsNumber_1 : decode cX1_readsNumber 1 = .ok (.istore_n 1, 1) := by decide +kernel
theorem dX1_readsNumber_2 : decode cX1_readsNumber 2 = .ok (.aload_n 0, 1) := by decide +kernel
theorem dX1_readsNumber_3 : decode cX1_readsNumber 3 = .ok (.getfield 65, 3) := by decide +kernel
theorem dX1_readsNumber_6 : decode cX1_readsNumber 6 = .ok (.istore_n 2, 1) := by decide +kernel
theorem dX1_readsNumber_7 : decode cX1_readsNumber 7 = .ok (.iload_n 2, 1) := by decide +kernel
theorem dX1_readsNumber_8 : decode cX1_readsNumber 8 = .ok (.aload_n 0, 1) := by decide +kernel
theorem dX1_readsNumber_9 : decode cX1_readsNumber 9 = .ok (.getfield 30, 3) := by decide +kernel
theorem dX1_readsNumber_12 : decode cX1_readsNumber 12 = .ok (.if_icmp .ge 26, 3) := by decide +kernel
theorem dX1_readsNumber_15 : decode cX1_readsNumber 15 = .ok (.iload_n 1, 1) := by decide +kernel
theorem dX1_readsNumber_16 : decode cX1_readsNumber 16 = .ok (.bipush 10, 2) := by decide +kernel
theorem dX1_readsNumber_18 : decode cX1_readsNumber 18 = .ok (.imul, 1) := by decide +kernel
theorem dX1_readsNumber_19 : decode cX1_readsNumber 19 = .ok (.aload_n 0, 1) := by decide +kernel
theorem dX1_readsNumber_20 : decode cX1_readsNumber 20 = .ok (.getfield 14, 3) := by decide +kernel
theorem dX1_readsNumber_23 : decode cX1_readsNumber 23 = .ok (.iload_n 2, 1) := by decide +kernel
theorem dX1_readsNumber_24 : decode cX1_readsNumber 24 = .ok (.invokevirtual 68, 3) := by decide +kernel
theorem dX1_readsNumber_27 : decode cX1_readsNumber 27 = .ok (.iadd, 1) := by decide +kernel
theorem dX1_readsNumber_28 : decode cX1_readsNumber 28 = .ok (.bipush 48, 2) := by decide +kernel
theorem dX1_readsNumber_30 : decode cX1_readsNumber 30 = .ok (.isub, 1) := by decide +kernel
theorem dX1_readsNumber_31 : decode cX1_readsNumber 31 = .ok (.istore_n 1, 1) := by decide +kernel
theorem dX1_readsNumber_32 : decode cX1_readsNumber 32 = .ok (.iinc 2 1, 3) := by decide +kernel
theorem dX1_readsNumber_35 : decode cX1_readsNumber 35 = .ok (.goto (-28), 3) := by decide +kernel
theorem dX1_readsNumber_38 : decode cX1_readsNumber 38 = .ok (.aload_n 0, 1) := by decide +kernel
theorem dX1_readsNumber_39 : decode cX1_readsNumber 39 = .ok (.iload_n 1, 1) := by decide +kernel
theorem dX1_readsNumber_40 : decode cX1_readsNumber 40 = .ok (.invokevirtual 115, 3) := by decide +kernel
theorem dX1_readsNumber_43 : decode cX1_readsNumber 43 = .ok (.iconst 1, 1) := by decide +kernel
theorem dX1_readsNumber_44 : decode cX1_readsNumber 44 = .ok (.ireturn, 1) := by decide +kernel
theorem dX1_readsName_0 : decode cX1_readsName 0 = .ok (.aload_n 0, 1) := by decide +kernel
theorem dX1_readsName_1 : decode cX1_readsName 1 = .ok (.getfield 30, 3) := by decide +kernel
theorem dX1_readsName_4 : decode cX1_readsName 4 = .ok (.aload_n 0, 1) := by decide +kernel
theorem dX1_readsName_5 : decode cX1_readsName 5 = .ok (.getfield 65, 3) := by decide +kernel
theorem dX1_readsName_8 : decode cX1_readsName 8 = .ok (.isub, 1) := by decide +kernel
theorem dX1_readsName_9 : decode cX1_readsName 9 = .ok (.iconst 1, 1) := by decide +kernel
theorem dX1_readsName_10 : decode cX1_readsName 10 = .ok (.if_icmp .ne 28, 3) := by decide +kernel
theorem dX1_readsName_13 : decode cX1_readsName 13 = .ok (.aload_n 0, 1) := by decide +kernel
theorem dX1_readsName_14 : decode cX1_readsName 14 = .ok (.getfield 43, 3) := by decide +kernel
theorem dX1_readsName_17 : decode cX1_readsName 17 = .ok (.invokestatic 118, 3) := by decide +kernel
theorem dX1_readsName_20 : decode cX1_readsName 20 = .ok (.aload_n 0, 1) := by decide +kernel
theorem dX1_readsName_21 : decode cX1_readsName 21 = .ok (.getfield 14, 3) := by decide +kernel
theorem dX1_readsName_24 : decode cX1_readsName 24 = .ok (.aload_n 0, 1) := by decide +kernel
theorem dX1_readsName_25 : decode cX1_readsName 25 = .ok (.getfield 65, 3) := by decide +kernel
theorem dX1_readsName_28 : decode cX1_readsName 28 = .ok (.invokevirtual 68, 3) := by decide +kernel
theorem dX1_readsName_31 : decode cX1_readsName 31 = .ok (.i2c, 1) := by decide +kernel
theorem dX1_readsName_32 : decode cX1_readsName 32 = .ok (.invokevirtual 122, 3) := by decide +kernel
theorem dX1_readsName_35 : decode cX1_readsName 35 = .ok (.goto 4, 3) := by decide +kernel
theorem dX1_readsName_38 : decode cX1_readsName 38 = .ok (.iconst (-1), 1) := by decide +kernel
theorem dX1_readsName_39 : decode cX1_readsName 39 = .ok (.istore_n 1, 1) := by decide +kernel
theorem dX1_readsName_40 : decode cX1_readsName 40 = .ok (.iload_n 1, 1) := by decide +kernel
theorem dX1_readsName_41 : decode cX1_readsName 41 = .ok (.ifCond .ge 5, 3) := by decide +kernel
theorem dX1_readsName_44 : decode cX1_readsName 44 = .ok (.iconst 0, 1) := by decide +kernel
theorem dX1_readsName_45 : decode cX1_readsName 45 = .ok (.ireturn, 1) := by decide +kernel
theorem dX1_readsName_46 : decode cX1_readsName 46 = .ok (.aload_n 0, 1) := by decide +kernel
theorem dX1_readsName_47 : decode cX1_readsName 47 = .ok (.iconst (-1), 1) := by decide +kernel
theorem dX1_readsName_48 : decode cX1_readsName 48 = .ok (.iload_n 1, 1) := by decide +kernel
theorem dX1_readsName_49 : decode cX1_readsName 49 = .ok (.isub, 1) := by decide +kernel
theorem dX1_readsName_50 : decode cX1_readsName 50 = .ok (.invokevirtual 115, 3) := by decide +kernel
theorem dX1_readsName_53 : decode cX1_readsName 53 = .ok (.iconst 1, 1) := by decide +kernel
theorem dX1_readsName_54 : decode cX1_readsName 54 = .ok (.ireturn, 1) := by decide +kernel
theorem dX1_addPiece_0 : decode cX1_addPiece 0 = .ok (.aload_n 0, 1) := by decide +kernel
theorem dX1_addPiece_1 : decode cX1_addPiece 1 = .ok (.getfield 20, 3) := by decide +kernel
theorem dX1_addPiece_4 : decode cX1_addPiece 4 = .ok (.iload_n 1, 1) := by decide +kernel
theorem dX1_addPiece_5 : decode cX1_addPiece 5 = .ok (.invokevirtual 101, 3) := by decide +kernel
theorem dX1_addPiece_8 : decode cX1_addPiece 8 = .ok (.aload_n 0, 1) := by decide +kernel
theorem dX1_addPiece_9 : decode cX1_addPiece 9 = .ok (.dup, 1) := by decide +kernel
theorem dX1_addPiece_10 : decode cX1_addPiece 10 = .ok (.getfield 27, 3) := by decide +kernel
theorem dX1_addPiece_13 : decode cX1_addPiece 13 = .ok (.iconst 1, 1) := by decide +kernel
theorem dX1_addPiece_14 : decode cX1_addPiece 14 = .ok (.iadd, 1) := by decide +kernel
theorem dX1_addPiece_15 : decode cX1_addPiece 15 = .ok (.putfield 27, 3) := by decide +kernel
theorem dX1_addPiece_18 : decode cX1_addPiece 18 = .ok (.aload_n 0, 1) := by decide +kernel
theorem dX1_addPiece_19 : decode cX1_addPiece 19 = .ok (.invokevirtual 36, 3) := by decide +kernel
theorem dX1_addPiece_22 : decode cX1_addPiece 22 = .ok (.return_, 1) := by decide +kernel
theorem dX1_namesOf_0 : decode cX1_namesOf 0 = .ok (.iload_n 0, 1) := by decide +kernel
theorem dX1_namesOf_1 : decode cX1_namesOf 1 = .ok (.lookupswitch 33 #[(0, 27), (1, 30)], 27) := by decide +kernel
theorem dX1_namesOf_28 : decode cX1_namesOf 28 = .ok (.ldc 125, 2) := by decide +kernel
theorem dX1_namesOf_30 : decode cX1_namesOf 30 = .ok (.areturn, 1) := by decide +kernel
theorem dX1_namesOf_31 : decode cX1_namesOf 31 = .ok (.ldc 127, 2) := by decide +kernel
theorem dX1_namesOf_33 : decode cX1_namesOf 33 = .ok (.areturn, 1) := by decide +kernel
theorem dX1_namesOf_34 : decode cX1_namesOf 34 = .ok (.ldc 129, 2) := by decide +kernel
theorem dX1_namesOf_36 : decode cX1_namesOf 36 = .ok (.areturn, 1) := by decide +kernel
theorem dX2_init_0 : decode cX2_init 0 = .ok (.aload_n 0, 1) := by decide +kernel
theorem dX2_init_1 : decode cX2_init 1 = .ok (.invokespecial 1, 3) := by decide +kernel
theorem dX2_init_4 : decode cX2_init 4 = .ok (.aload_n 0, 1) := by decide +kernel
theorem dX2_init_5 : decode cX2_init 5 = .ok (.iconst 0, 1) := by decide +kernel
theorem dX2_init_6 : decode cX2_init 6 = .ok (.putfield 7, 3) := by decide +kernel
theorem dX2_init_9 : decode cX2_init 9 = .ok (.aload_n 0, 1) := by decide +kernel
theorem dX2_init_10 : decode cX2_init 10 = .ok (.iconst 0, 1) := by decide +kernel
theorem dX2_init_11 : decode cX2_init 11 = .ok (.iload_n 1, 1) := by decide +kernel
theorem dX2_init_12 : decode cX2_init 12 = .ok (.invokestatic 13, 3) := by decide +kernel
theorem dX2_init_15 : decode cX2_init 15 = .ok (.newarray .int, 2) := by decide +kernel
theorem dX2_init_17 : decode cX2_init 17 = .ok (.putfield 19, 3) := by decide +kernel
theorem dX2_init_20 : decode cX2_init 20 = .ok (.return_, 1) := by decide +kernel
theorem dX2_add_0 : decode cX2_add 0 = .ok (.aload_n 0, 1) := by decide +kernel
theorem dX2_add_1 : decode cX2_add 1 = .ok (.getfield 7, 3) := by decide +kernel
theorem dX2_add_4 : decode cX2_add 4 = .ok (.aload_n 0, 1) := by decide +kernel
theorem dX2_add_5 : decode cX2_add 5 = .ok (.getfield 19, 3) := by decide +kernel
theorem dX2_add_8 : decode cX2_add 8 = .ok (.arraylength, 1) := by decide +kernel
theorem dX2_add_9 : decode cX2_add 9 = .ok (.if_icmp .ge 23, 3) := by decide +kernel
theorem dX2_add_12 : decode cX2_add 12 = .ok (.aload_n 0, 1) := by decide +kernel
theorem dX2_add_13 : decode cX2_add 13 = .ok (.getfield 19, 3) := by decide +kernel
theorem dX2_add_16 : decode cX2_add 16 = .ok (.aload_n 0, 1) := by decide +kernel
theorem dX2_add_17 : decode cX2_add 17 = .ok (.getfield 7, 3) := by decide +kernel
theorem dX2_add_20 : decode cX2_add 20 = .ok (.iload_n 1, 1) := by decide +kernel
theorem dX2_add_21 : decode cX2_add 21 = .ok (.iastore, 1) := by decide +kernel
theorem dX2_add_22 : decode cX2_add 22 = .ok (.aload_n 0, 1) := by decide +kernel
theorem dX2_add_23 : decode cX2_add 23 = .ok (.dup, 1) := by decide +kernel
theorem dX2_add_24 : decode cX2_add 24 = .ok (.getfield 7, 3) := by decide +kernel
theorem dX2_add_27 : decode cX2_add 27 = .ok (.iconst 1, 1) := by decide +kernel
theorem dX2_add_28 : decode cX2_add 28 = .ok (.iadd, 1) := by decide +kernel
theorem dX2_add_29 : decode cX2_add 29 = .ok (.putfield 7, 3) := by decide +kernel
theorem dX2_add_32 : decode cX2_add 32 = .ok (.return_, 1) := by decide +kernel
theorem dX2_at_0 : decode cX2_at 0 = .ok (.iload_n 1, 1) := by decide +kernel
theorem dX2_at_1 : decode cX2_at 1 = .ok (.ifCond .lt 29, 3) := by decide +kernel
theorem dX2_at_4 : decode cX2_at 4 = .ok (.iload_n 1, 1) := by decide +kernel
theorem dX2_at_5 : decode cX2_at 5 = .ok (.aload_n 0, 1) := by decide +kernel
theorem dX2_at_6 : decode cX2_at 6 = .ok (.getfield 7, 3) := by decide +kernel
theorem dX2_at_9 : decode cX2_at 9 = .ok (.if_icmp .ge 21, 3) := by decide +kernel
theorem dX2_at_12 : decode cX2_at 12 = .ok (.iload_n 1, 1) := by decide +kernel
theorem dX2_at_13 : decode cX2_at 13 = .ok (.aload_n 0, 1) := by decide +kernel
theorem dX2_at_14 : decode cX2_at 14 = .ok (.getfield 19, 3) := by decide +kernel
theorem dX2_at_17 : decode cX2_at 17 = .ok (.arraylength, 1) := by decide +kernel
theorem dX2_at_18 : decode cX2_at 18 = .ok (.if_icmp .ge 12, 3) := by decide +kernel
theorem dX2_at_21 : decode cX2_at 21 = .ok (.aload_n 0, 1) := by decide +kernel
theorem dX2_at_22 : decode cX2_at 22 = .ok (.getfield 19, 3) := by decide +kernel
theorem dX2_at_25 : decode cX2_at 25 = .ok (.iload_n 1, 1) := by decide +kernel
theorem dX2_at_26 : decode cX2_at 26 = .ok (.iaload, 1) := by decide +kernel
theorem dX2_at_27 : decode cX2_at 27 = .ok (.goto 4, 3) := by decide +kernel
theorem dX2_at_30 : decode cX2_at 30 = .ok (.iconst (-1), 1) := by decide +kernel
theorem dX2_at_31 : decode cX2_at 31 = .ok (.ireturn, 1) := by decide +kernel
theorem dX3_init_0 : decode cX3_init 0 = .ok (.aload_n 0, 1) := by decide +kernel
theorem dX3_init_1 : decode cX3_init 1 = .ok (.invokespecial 3, 3) := by decide +kernel
theorem dX3_init_4 : decode cX3_init 4 = .ok (.aload_n 0, 1) := by decide +kernel
theorem dX3_init_5 : decode cX3_init 5 = .ok (.bipush 14, 2) := by decide +kernel
theorem dX3_init_7 : decode cX3_init 7 = .ok (.anewarray 9, 3) := by decide +kernel
theorem dX3_init_10 : decode cX3_init 10 = .ok (.putfield 11, 3) := by decide +kernel
theorem dX3_init_13 : decode cX3_init 13 = .ok (.aload_n 0, 1) := by decide +kernel
theorem dX3_init_14 : decode cX3_init 14 = .ok (.iconst 3, 1) := by decide +kernel
theorem dX3_init_15 : decode cX3_init 15 = .ok (.newarray .int, 2) := by decide +kernel
theorem dX3_init_17 : decode cX3_init 17 = .ok (.dup, 1) := by decide +kernel
theorem dX3_init_18 : decode cX3_init 18 = .ok (.iconst 0, 1) := by decide +kernel
theorem dX3_init_19 : decode cX3_init 19 = .ok (.iconst (-1), 1) := by decide +kernel
theorem dX3_init_20 : decode cX3_init 20 = .ok (.iastore, 1) := by decide +kernel
theorem dX3_init_21 : decode cX3_init 21 = .ok (.dup, 1) := by decide +kernel
theorem dX3_init_22 : decode cX3_init 22 = .ok (.iconst 1, 1) := by decide +kernel
theorem dX3_init_23 : decode cX3_init 23 = .ok (.iconst (-1), 1) := by decide +kernel
theorem dX3_init_24 : decode cX3_init 24 = .ok (.iastore, 1) := by decide +kernel
theorem dX3_init_25 : decode cX3_init 25 = .ok (.dup, 1) := by decide +kernel
theorem dX3_init_26 : decode cX3_init 26 = .ok (.iconst 2, 1) := by decide +kernel
theorem dX3_init_27 : decode cX3_init 27 = .ok (.iconst (-1), 1) := by decide +kernel
theorem dX3_init_28 : decode cX3_init 28 = .ok (.iastore, 1) := by decide +kernel
theorem dX3_init_29 : decode cX3_init 29 = .ok (.putfield 17, 3) := by decide +kernel
theorem dX3_init_32 : decode cX3_init 32 = .ok (.aload_n 0, 1) := by decide +kernel
theorem dX3_init_33 : decode cX3_init 33 = .ok (.iconst 0, 1) := by decide +kernel
theorem dX3_init_34 : decode cX3_init 34 = .ok (.putfield 21, 3) := by decide +kernel
theorem dX3_init_37 : decode cX3_init 37 = .ok (.aload_n 0, 1) := by decide +kernel
theorem dX3_init_38 : decode cX3_init 38 = .ok (.bipush 8, 2) := by decide +kernel
theorem dX3_init_40 : decode cX3_init 40 = .ok (.anewarray 25, 3) := by decide +kernel
theorem dX3_init_43 : decode cX3_init 43 = .ok (.putfield 27, 3) := by decide +kernel
theorem dX3_init_46 : decode cX3_init 46 = .ok (.aload_n 0, 1) := by decide +kernel
theorem dX3_init_47 : decode cX3_init 47 = .ok (.iconst 0, 1) := by decide +kernel
theorem dX3_init_48 : decode cX3_init 48 = .ok (.putfield 31, 3) := by decide +kernel
theorem dX3_init_51 : decode cX3_init 51 = .ok (.aload_n 0, 1) := by decide +kernel
theorem dX3_init_52 : decode cX3_init 52 = .ok (.bipush 15, 2) := by decide +kernel
theorem dX3_init_54 : decode cX3_init 54 = .ok (.putfield 34, 3) := by decide +kernel
theorem dX3_init_57 : decode cX3_init 57 = .ok (.aload_n 0, 1) := by decide +kernel
theorem dX3_init_58 : decode cX3_init 58 = .ok (.bipush 9, 2) := by decide +kernel
theorem dX3_init_60 : decode cX3_init 60 = .ok (.putfield 37, 3) := by decide +kernel
theorem dX3_init_63 : decode cX3_init 63 = .ok (.aload_n 0, 1) := by decide +kernel
theorem dX3_init_64 : decode cX3_init 64 = .ok (.iconst 3, 1) := by decide +kernel
theorem dX3_init_65 : decode cX3_init 65 = .ok (.putfield 40, 3) := by decide +kernel
theorem dX3_init_68 : decode cX3_init 68 = .ok (.aload_n 0, 1) := by decide +kernel
theorem dX3_init_69 : decode cX3_init 69 = .ok (.iconst 1, 1) := by decide +kernel
theorem dX3_init_70 : decode cX3_init 70 = .ok (.putfield 43, 3) := by decide +kernel
theorem dX3_init_73 : decode cX3_init 73 = .ok (.aload_n 0, 1) := by decide +kernel
theorem dX3_init_74 : decode cX3_init 74 = .ok (.iconst 0, 1) := by decide +kernel
theorem dX3_init_75 : decode cX3_init 75 = .ok (.putfield 46, 3) := by decide +kernel
theorem dX3_init_78 : decode cX3_init 78 = .ok (.aload_n 0, 1) := by decide +kernel
theorem dX3_init_79 : decode cX3_init 79 = .ok (.iconst 0, 1) := by decide +kernel
theorem dX3_init_80 : decode cX3_init 80 = .ok (.putfield 49, 3) := by decide +kernel
theorem dX3_init_83 : decode cX3_init 83 = .ok (.aload_n 0, 1) := by decide +kernel
theorem dX3_init_84 : decode cX3_init 84 = .ok (.iconst 0, 1) := by decide +kernel
theorem dX3_init_85 : decode cX3_init 85 = .ok (.putfield 52, 3) := by decide +kernel
theorem dX3_init_88 : decode cX3_init 88 = .ok (.aload_n 0, 1) := by decide +kernel
theorem dX3_init_89 : decode cX3_init 89 = .ok (.iconst 0, 1) := by decide +kernel
theorem dX3_init_90 : decode cX3_init 90 = .ok (.putfield 55, 3) := by decide +kernel
theorem dX3_init_93 : decode cX3_init 93 = .ok (.aload_n 0, 1) := by decide +kernel
theorem dX3_init_94 : decode cX3_init 94 = .ok (.iconst 1, 1) := by decide +kernel
theorem dX3_init_95 : decode cX3_init 95 = .ok (.putfield 58, 3) := by decide +kernel
theorem dX3_init_98 : decode cX3_init 98 = .ok (.iconst 0, 1) := by decide +kernel
theorem dX3_init_99 : decode cX3_init 99 = .ok (.istore_n 1, 1) := by decide +kernel
theorem dX3_init_100 : decode cX3_init 100 = .ok (.iload_n 1, 1) := by decide +kernel
theorem dX3_init_101 : decode cX3_init 101 = .ok (.aload_n 0, 1) := by decide +kernel
theorem dX3_init_102 : decode cX3_init 102 = .ok (.getfield 27, 3) := by decide +kernel
theorem dX3_init_105 : decode cX3_init 105 = .ok (.arraylength, 1) := by decide +kernel
theorem dX3_init_106 : decode cX3_init 106 = .ok (.if_icmp .ge 22, 3) := by decide +kernel
theorem dX3_init_109 : decode cX3_init 109 = .ok (.aload_n 0, 1) := by decide +kernel
theorem dX3_init_110 : decode cX3_init 110 = .ok (.getfield 27, 3) := by decide +kernel
theorem dX3_init_113 : decode cX3_init 113 = .ok (.iload_n 1, 1) := by decide +kernel
theorem dX3_init_114 : decode cX3_init 114 = .ok (.new 25, 3) := by decide +kernel
theorem dX3_init_117 : decode cX3_init 117 = .ok (.dup, 1) := by decide +kernel
theorem dX3_init_118 : decode cX3_init 118 = .ok (.invokespecial 61, 3) := by decide +kernel
theorem dX3_init_121 : decode cX3_init 121 = .ok (.aastore, 1) := by decide +kernel
theorem dX3_init_122 : decode cX3_init 122 = .ok (.iinc 1 1, 3) := by decide +kernel
theorem dX3_init_125 : decode cX3_init 125 = .ok (.goto (-25), 3) := by decide +kernel
theorem dX3_init_128 : decode cX3_init 128 = .ok (.return_, 1) := by decide +kernel
theorem dX3_become_0 : decode cX3_become 0 = .ok (.aload_n 1, 1) := by decide +kernel
theorem dX3_become_1 : decode cX3_become 1 = .ok (.getfield 17, 3) := by decide +kernel
theorem dX3_become_4 : decode cX3_become 4 = .ok (.iconst 0, 1) := by decide +kernel
theorem dX3_become_5 : decode cX3_become 5 = .ok (.aload_n 0, 1) := by decide +kernel
theorem dX3_become_6 : decode cX3_become 6 = .ok (.getfield 17, 3) := by decide +kernel
theorem dX3_become_9 : decode cX3_become 9 = .ok (.iconst 0, 1) := by decide +kernel
theorem dX3_become_10 : decode cX3_become 10 = .ok (.iconst 3, 1) := by decide +kernel
theorem dX3_become_11 : decode cX3_become 11 = .ok (.invokestatic 62, 3) := by decide +kernel
theorem dX3_become_14 : decode cX3_become 14 = .ok (.aload_n 0, 1) := by decide +kernel
theorem dX3_become_15 : decode cX3_become 15 = .ok (.aload_n 1, 1) := by decide +kernel
theorem dX3_become_16 : decode cX3_become 16 = .ok (.getfield 21, 3) := by decide +kernel
theorem dX3_become_19 : decode cX3_become 19 = .ok (.putfield 21, 3) := by decide +kernel
theorem dX3_become_22 : decode cX3_become 22 = .ok (.iconst 0, 1) := by decide +kernel
theorem dX3_become_23 : decode cX3_become 23 = .ok (.istore_n 2, 1) := by decide +kernel
theorem dX3_become_24 : decode cX3_become 24 = .ok (.iload_n 2, 1) := by decide +kernel
theorem dX3_become_25 : decode cX3_become 25 = .ok (.aload_n 0, 1) := by decide +kernel
theorem dX3_become_26 : decode cX3_become 26 = .ok (.getfield 21, 3) := by decide +kernel
theorem dX3_become_29 : decode cX3_become 29 = .ok (.if_icmp .ge 21, 3) := by decide +kernel
theorem dX3_become_32 : decode cX3_become 32 = .ok (.aload_n 0, 1) := by decide +kernel
theorem dX3_become_33 : decode cX3_become 33 = .ok (.getfield 11, 3) := by decide +kernel
theorem dX3_become_36 : decode cX3_become 36 = .ok (.iload_n 2, 1) := by decide +kernel
theorem dX3_become_37 : decode cX3_become 37 = .ok (.aload_n 1, 1) := by decide +kernel
theorem dX3_become_38 : decode cX3_become 38 = .ok (.getfield 11, 3) := by decide +kernel
theorem dX3_become_41 : decode cX3_become 41 = .ok (.iload_n 2, 1) := by decide +kernel
theorem dX3_become_42 : decode cX3_become 42 = .ok (.aaload, 1) := by decide +kernel
theorem dX3_become_43 : decode cX3_become 43 = .ok (.aastore, 1) := by decide +kernel
theorem dX3_become_44 : decode cX3_become 44 = .ok (.iinc 2 1, 3) := by decide +kernel
theorem dX3_become_47 : decode cX3_become 47 = .ok (.goto (-23), 3) := by decide +kernel
theorem dX3_become_50 : decode cX3_become 50 = .ok (.aload_n 0, 1) := by decide +kernel
theorem dX3_become_51 : decode cX3_become 51 = .ok (.aload_n 1, 1) := by decide +kernel
theorem dX3_become_52 : decode cX3_become 52 = .ok (.getfield 31, 3) := by decide +kernel
theorem dX3_become_55 : decode cX3_become 55 = .ok (.putfield 31, 3) := by decide +kernel
theorem dX3_become_58 : decode cX3_become 58 = .ok (.iconst 0, 1) := by decide +kernel
theorem dX3_become_59 : decode cX3_become 59 = .ok (.istore_n 2, 1) := by decide +kernel
theorem dX3_become_60 : decode cX3_become 60 = .ok (.iload_n 2, 1) := by decide +kernel
theorem dX3_become_61 : decode cX3_become 61 = .ok (.aload_n 0, 1) := by decide +kernel
theorem dX3_become_62 : decode cX3_become 62 = .ok (.getfield 31, 3) := by decide +kernel
theorem dX3_become_65 : decode cX3_become 65 = .ok (.if_icmp .ge 24, 3) := by decide +kernel
theorem dX3_become_68 : decode cX3_become 68 = .ok (.aload_n 0, 1) := by decide +kernel
theorem dX3_become_69 : decode cX3_become 69 = .ok (.getfield 27, 3) := by decide +kernel
theorem dX3_become_72 : decode cX3_become 72 = .ok (.iload_n 2, 1) := by decide +kernel
theorem dX3_become_73 : decode cX3_become 73 = .ok (.aaload, 1) := by decide +kernel
theorem dX3_become_74 : decode cX3_become 74 = .ok (.aload_n 1, 1) := by decide +kernel
theorem dX3_become_75 : decode cX3_become 75 = .ok (.getfield 27, 3) := by decide +kernel
theorem dX3_become_78 : decode cX3_become 78 = .ok (.iload_n 2, 1) := by decide +kernel
theorem dX3_become_79 : decode cX3_become 79 = .ok (.aaload, 1) := by decide +kernel
theorem dX3_become_80 : decode cX3_become 80 = .ok (.invokevirtual 68, 3) := by decide +kernel
theorem dX3_become_83 : decode cX3_become 83 = .ok (.iinc 2 1, 3) := by decide +kernel
theorem dX3_become_86 : decode cX3_become 86 = .ok (.goto (-26), 3) := by decide +kernel
theorem dX3_become_89 : decode cX3_become 89 = .ok (.aload_n 0, 1) := by decide +kernel
theorem dX3_become_90 : decode cX3_become 90 = .ok (.aload_n 1, 1) := by decide +kernel
theorem dX3_become_91 : decode cX3_become 91 = .ok (.getfield 34, 3) := by decide +kernel
theorem dX3_become_94 : decode cX3_become 94 = .ok (.putfield 34, 3) := by decide +kernel
theorem dX3_become_97 : decode cX3_become 97 = .ok (.aload_n 0, 1) := by decide +kernel
theorem dX3_become_98 : decode cX3_become 98 = .ok (.aload_n 1, 1) := by decide +kernel
theorem dX3_become_99 : decode cX3_become 99 = .ok (.getfield 37, 3) := by decide +kernel
theorem dX3_become_102 : decode cX3_become 102 = .ok (.putfield 37, 3) := by decide +kernel
theorem dX3_become_105 : decode cX3_become 105 = .ok (.aload_n 0, 1) := by decide +kernel
theorem dX3_become_106 : decode cX3_become 106 = .ok (.aload_n 1, 1) := by decide +kernel
theorem dX3_become_107 : decode cX3_become 107 = .ok (.getfield 40, 3) := by decide +kernel
theorem dX3_become_110 : decode cX3_become 110 = .ok (.putfield 40, 3) := by decide +kernel
theorem dX3_become_113 : decode cX3_become 113 = .ok (.aload_n 0, 1) := by decide +kernel
theorem dX3_become_114 : decode cX3_become 114 = .ok (.aload_n 1, 1) := by decide +kernel
theorem dX3_become_115 : decode cX3_become 115 = .ok (.getfield 43, 3) := by decide +kernel
theorem dX3_become_118 : decode cX3_become 118 = .ok (.putfield 43, 3) := by decide +kernel
theorem dX3_become_121 : decode cX3_become 121 = .ok (.aload_n 0, 1) := by decide +kernel
theorem dX3_become_122 : decode cX3_become 122 = .ok (.aload_n 1, 1) := by decide +kernel
theorem dX3_become_123 : decode cX3_become 123 = .ok (.getfield 46, 3) := by decide +kernel
theorem dX3_become_126 : decode cX3_become 126 = .ok (.putfield 46, 3) := by decide +kernel
theorem dX3_become_129 : decode cX3_become 129 = .ok (.aload_n 0, 1) := by decide +kernel
theorem dX3_become_130 : decode cX3_become 130 = .ok (.aload_n 1, 1) := by decide +kernel
theorem dX3_become_131 : decode cX3_become 131 = .ok (.getfield 49, 3) := by decide +kernel
theorem dX3_become_134 : decode cX3_become 134 = .ok (.putfield 49, 3) := by decide +kernel
theorem dX3_become_137 : decode cX3_become 137 = .ok (.aload_n 0, 1) := by decide +kernel
theorem dX3_become_138 : decode cX3_become 138 = .ok (.aload_n 1, 1) := by decide +kernel
theorem dX3_become_139 : decode cX3_become 139 = .ok (.getfield 52, 3) := by decide +kernel
theorem dX3_become_142 : decode cX3_become 142 = .ok (.putfield 52, 3) := by decide +kernel
theorem dX3_become_145 : decode cX3_become 145 = .ok (.aload_n 0, 1) := by decide +kernel
theorem dX3_become_146 : decode cX3_become 146 = .ok (.aload_n 1, 1) := by decide +kernel
theorem dX3_become_147 : decode cX3_become 147 = .ok (.getfield 55, 3) := by decide +kernel
theorem dX3_become_150 : decode cX3_become 150 = .ok (.putfield 55, 3) := by decide +kernel
theorem dX3_become_153 : decode cX3_become 153 = .ok (.aload_n 0, 1) := by decide +kernel
theorem dX3_become_154 : decode cX3_become 154 = .ok (.aload_n 1, 1) := by decide +kernel
theorem dX3_become_155 : decode cX3_become 155 = .ok (.getfield 58, 3) := by decide +kernel
theorem dX3_become_158 : decode cX3_become 158 = .ok (.putfield 58, 3) := by decide +kernel
theorem dX3_become_161 : decode cX3_become 161 = .ok (.return_, 1) := by decide +kernel
theorem dX3_comerAt_0 : decode cX3_comerAt 0 = .ok (.iload_n 1, 1) := by decide +kernel
theorem dX3_comerAt_1 : decode cX3_comerAt 1 = .ok (.iconst 0, 1) := by decide +kernel
theorem dX3_comerAt_2 : decode cX3_comerAt 2 = .ok (.aload_n 0, 1) := by decide +kernel
theorem dX3_comerAt_3 : decode cX3_comerAt 3 = .ok (.getfield 31, 3) := by decide +kernel
theorem dX3_comerAt_6 : decode cX3_comerAt 6 = .ok (.iconst 1, 1) := by decide +kernel
theorem dX3_comerAt_7 : decode cX3_comerAt 7 = .ok (.isub, 1) := by decide +kernel
theorem dX3_comerAt_8 : decode cX3_comerAt 8 = .ok (.invokestatic 72, 3) := by decide +kernel
theorem dX3_comerAt_11 : decode cX3_comerAt 11 = .ok (.ifCond .eq 12, 3) := by decide +kernel
theorem dX3_comerAt_14 : decode cX3_comerAt 14 = .ok (.aload_n 0, 1) := by decide +kernel
theorem dX3_comerAt_15 : decode cX3_comerAt 15 = .ok (.getfield 27, 3) := by decide +kernel
theorem dX3_comerAt_18 : decode cX3_comerAt 18 = .ok (.iload_n 1, 1) := by decide +kernel
theorem dX3_comerAt_19 : decode cX3_comerAt 19 = .ok (.aaload, 1) := by decide +kernel
theorem dX3_comerAt_20 : decode cX3_comerAt 20 = .ok (.goto 4, 3) := by decide +kernel
theorem dX3_comerAt_23 : decode cX3_comerAt 23 = .ok (.aconst_null, 1) := by decide +kernel
theorem dX3_comerAt_24 : decode cX3_comerAt 24 = .ok (.areturn, 1) := by decide +kernel
theorem dX3_admit_0 : decode cX3_admit 0 = .ok (.aload_n 0, 1) := by decide +kernel
theorem dX3_admit_1 : decode cX3_admit 1 = .ok (.getfield 31, 3) := by decide +kernel
theorem dX3_admit_4 : decode cX3_admit 4 = .ok (.aload_n 0, 1) := by decide +kernel
theorem dX3_admit_5 : decode cX3_admit 5 = .ok (.getfield 27, 3) := by decide +kernel
theorem dX3_admit_8 : decode cX3_admit 8 = .ok (.arraylength, 1) := by decide +kernel
theorem dX3_admit_9 : decode cX3_admit 9 = .ok (.if_icmp .lt 4, 3) := by decide +kernel
theorem dX3_admit_12 : decode cX3_admit 12 = .ok (.return_, 1) := by decide +kernel
theorem dX3_admit_13 : decode cX3_admit 13 = .ok (.aload_n 0, 1) := by decide +kernel
theorem dX3_admit_14 : decode cX3_admit 14 = .ok (.getfield 27, 3) := by decide +kernel
theorem dX3_admit_17 : decode cX3_admit 17 = .ok (.aload_n 0, 1) := by decide +kernel
theorem dX3_admit_18 : decode cX3_admit 18 = .ok (.getfield 31, 3) := by decide +kernel
theorem dX3_admit_21 : decode cX3_admit 21 = .ok (.aaload, 1) := by decide +kernel
theorem dX3_admit_22 : decode cX3_admit 22 = .ok (.iload_n 1, 1) := by decide +kernel
theorem dX3_admit_23 : decode cX3_admit 23 = .ok (.iload_n 2, 1) := by decide +kernel
theorem dX3_admit_24 : decode cX3_admit 24 = .ok (.iload_n 3, 1) := by decide +kernel
theorem dX3_admit_25 : decode cX3_admit 25 = .ok (.iload 4, 2) := by decide +kernel
theorem dX3_admit_27 : decode cX3_admit 27 = .ok (.invokevirtual 76, 3) := by decide +kernel
theorem dX3_admit_30 : decode cX3_admit 30 = .ok (.aload_n 0, 1) := by decide +kernel
theorem dX3_admit_31 : decode cX3_admit 31 = .ok (.dup, 1) := by decide +kernel
theorem dX3_admit_32 : decode cX3_admit 32 = .ok (.getfield 31, 3) := by decide +kernel
theorem dX3_admit_35 : decode cX3_admit 35 = .ok (.iconst 1, 1) := by decide +kernel
theorem dX3_admit_36 : decode cX3_admit 36 = .ok (.iadd, 1) := by decide +kernel
theorem dX3_admit_37 : decode cX3_admit 37 = .ok (.putfield 31, 3) := by decide +kernel
theorem dX3_admit_40 : decode cX3_admit 40 = .ok (.return_, 1) := by decide +kernel
theorem dX3_change_0 : decode cX3_change 0 = .ok (.iload_n 1, 1) := by decide +kernel
theorem dX3_change_1 : decode cX3_change 1 = .ok (.tableswitch 83 0 3 #[31, 44, 57, 70], 31) := by decide +kernel
theorem dX3_change_32 : decode cX3_change 32 = .ok (.aload_n 0, 1) := by decide +kernel
theorem dX3_change_33 : decode cX3_change 33 = .ok (.getfield 34, 3) := by decide +kernel
theorem dX3_change_36 : decode cX3_change 36 = .ok (.istore_n 3, 1) := by decide +kernel
theorem dX3_change_37 : decode cX3_change 37 = .ok (.aload_n 0, 1) := by decide +kernel
theorem dX3_change_38 : decode cX3_change 38 = .ok (.iload_n 2, 1) := by decide +kernel
theorem dX3_change_39 : decode cX3_change 39 = .ok (.putfield 34, 3) := by decide +kernel
theorem dX3_change_42 : decode cX3_change 42 = .ok (.goto 52, 3) := by decide +kernel
theorem dX3_change_45 : decode cX3_change 45 = .ok (.aload_n 0, 1) := by decide +kernel
theorem dX3_change_46 : decode cX3_change 46 = .ok (.getfield 37, 3) := by decide +kernel
theorem dX3_change_49 : decode cX3_change 49 = .ok (.istore_n 3, 1) := by decide +kernel
theorem dX3_change_50 : decode cX3_change 50 = .ok (.aload_n 0, 1) := by decide +kernel
theorem dX3_change_51 : decode cX3_change 51 = .ok (.iload_n 2, 1) := by decide +kernel
theorem dX3_change_52 : decode cX3_change 52 = .ok (.putfield 37, 3) := by decide +kernel
theorem dX3_change_55 : decode cX3_change 55 = .ok (.goto 39, 3) := by decide +kernel
theorem dX3_change_58 : decode cX3_change 58 = .ok (.aload_n 0, 1) := by decide +kernel
theorem dX3_change_59 : decode cX3_change 59 = .ok (.getfield 40, 3) := by decide +kernel
theorem dX3_change_62 : decode cX3_change 62 = .ok (.istore_n 3, 1) := by decide +kernel
theorem dX3_change_63 : decode cX3_change 63 = .ok (.aload_n 0, 1) := by decide +kernel
theorem dX3_change_64 : decode cX3_change 64 = .ok (.iload_n 2, 1) := by decide +kernel
theorem dX3_change_65 : decode cX3_change 65 = .ok (.putfield 40, 3) := by decide +kernel
theorem dX3_change_68 : decode cX3_change 68 = .ok (.goto 26, 3) := by decide +kernel
theorem dX3_change_71 : decode cX3_change 71 = .ok (.aload_n 0, 1) := by decide +kernel
theorem dX3_change_72 : decode cX3_change 72 = .ok (.getfield 43, 3) := by decide +kernel
theorem dX3_change_75 : decode cX3_change 75 = .ok (.istore_n 3, 1) := by decide +kernel
theorem dX3_change_76 : decode cX3_change 76 = .ok (.aload_n 0, 1) := by decide +kernel
theorem dX3_change_77 : decode cX3_change 77 = .ok (.iload_n 2, 1) := by decide +kernel
theorem dX3_change_78 : decode cX3_change 78 = .ok (.putfield 43, 3) := by decide +kernel
theorem dX3_change_81 : decode cX3_change 81 = .ok (.goto 13, 3) := by decide +kernel
theorem dX3_change_84 : decode cX3_change 84 = .ok (.aload_n 0, 1) := by decide +kernel
theorem dX3_change_85 : decode cX3_change 85 = .ok (.getfield 46, 3) := by decide +kernel
theorem dX3_change_88 : decode cX3_change 88 = .ok (.istore_n 3, 1) := by decide +kernel
theorem dX3_change_89 : decode cX3_change 89 = .ok (.aload_n 0, 1) := by decide +kernel
theorem dX3_change_90 : decode cX3_change 90 = .ok (.iload_n 2, 1) := by decide +kernel
theorem dX3_change_91 : decode cX3_change 91 = .ok (.putfield 46, 3) := by decide +kernel
theorem dX3_change_94 : decode cX3_change 94 = .ok (.iload_n 3, 1) := by decide +kernel
theorem dX3_change_95 : decode cX3_change 95 = .ok (.ireturn, 1) := by decide +kernel
theorem dX3_draw_0 : decode cX3_draw 0 = .ok (.aload_n 0, 1) := by decide +kernel
theorem dX3_draw_1 : decode cX3_draw 1 = .ok (.aload_n 0, 1) := by decide +kernel
theorem dX3_draw_2 : decode cX3_draw 2 = .ok (.getfield 58, 3) := by decide +kernel
theorem dX3_draw_5 : decode cX3_draw 5 = .ok (.ldc 80, 2) := by decide +kernel
theorem dX3_draw_7 : decode cX3_draw 7 = .ok (.imul, 1) := by decide +kernel
theorem dX3_draw_8 : decode cX3_draw 8 = .ok (.sipush 12345, 3) := by decide +kernel
theorem dX3_draw_11 : decode cX3_draw 11 = .ok (.iadd, 1) := by decide +kernel
theorem dX3_draw_12 : decode cX3_draw 12 = .ok (.putfield 58, 3) := by decide +kernel
theorem dX3_draw_15 : decode cX3_draw 15 = .ok (.aload_n 0, 1) := by decide +kernel
theorem dX3_draw_16 : decode cX3_draw 16 = .ok (.getfield 58, 3) := by decide +kernel
theorem dX3_draw_19 : decode cX3_draw 19 = .ok (.bipush 8, 2) := by decide +kernel
theorem dX3_draw_21 : decode cX3_draw 21 = .ok (.iushr, 1) := by decide +kernel
theorem dX3_draw_22 : decode cX3_draw 22 = .ok (.ireturn, 1) := by decide +kernel
theorem dX3_addLaw_0 : decode cX3_addLaw 0 = .ok (.aload_n 0, 1) := by decide +kernel
theorem dX3_addLaw_1 : decode cX3_addLaw 1 = .ok (.getfield 21, 3) := by decide +kernel
theorem dX3_addLaw_4 : decode cX3_addLaw 4 = .ok (.aload_n 0, 1) := by decide +kernel
theorem dX3_addLaw_5 : decode cX3_addLaw 5 = .ok (.getfield 11, 3) := by decide +kernel
theorem dX3_addLaw_8 : decode cX3_addLaw 8 = .ok (.arraylength, 1) := by decide +kernel
theorem dX3_addLaw_9 : decode cX3_addLaw 9 = .ok (.if_icmp .ge 15, 3) := by decide +kernel
theorem dX3_addLaw_12 : decode cX3_addLaw 12 = .ok (.aload_n 1, 1) := by decide +kernel
theorem dX3_addLaw_13 : decode cX3_addLaw 13 = .ok (.getfield 81, 3) := by decide +kernel
theorem dX3_addLaw_16 : decode cX3_addLaw 16 = .ok (.iconst 0, 1) := by decide +kernel
theorem dX3_addLaw_17 : decode cX3_addLaw 17 = .ok (.iconst 2, 1) := by decide +kernel
theorem dX3_addLaw_18 : decode cX3_addLaw 18 = .ok (.invokestatic 72, 3) := by decide +kernel
theorem dX3_addLaw_21 : decode cX3_addLaw 21 = .ok (.ifCond .ne 4, 3) := by decide +kernel
theorem dX3_addLaw_24 : decode cX3_addLaw 24 = .ok (.return_, 1) := by decide +kernel
theorem dX3_addLaw_25 : decode cX3_addLaw 25 = .ok (.aload_n 0, 1) := by decide +kernel
theorem dX3_addLaw_26 : decode cX3_addLaw 26 = .ok (.getfield 11, 3) := by decide +kernel
theorem dX3_addLaw_29 : decode cX3_addLaw 29 = .ok (.aload_n 0, 1) := by decide +kernel
theorem dX3_addLaw_30 : decode cX3_addLaw 30 = .ok (.getfield 21, 3) := by decide +kernel
theorem dX3_addLaw_33 : decode cX3_addLaw 33 = .ok (.aload_n 1, 1) := by decide +kernel
theorem dX3_addLaw_34 : decode cX3_addLaw 34 = .ok (.aastore, 1) := by decide +kernel
theorem dX3_addLaw_35 : decode cX3_addLaw 35 = .ok (.aload_n 0, 1) := by decide +kernel
theorem dX3_addLaw_36 : decode cX3_addLaw 36 = .ok (.getfield 17, 3) := by decide +kernel
theorem dX3_addLaw_39 : decode cX3_addLaw 39 = .ok (.aload_n 1, 1) := by decide +kernel
theorem dX3_addLaw_40 : decode cX3_addLaw 40 = .ok (.getfield 81, 3) := by decide +kernel
theorem dX3_addLaw_43 : decode cX3_addLaw 43 = .ok (.aload_n 0, 1) := by decide +kernel
theorem dX3_addLaw_44 : decode cX3_addLaw 44 = .ok (.getfield 21, 3) := by decide +kernel
theorem dX3_addLaw_47 : decode cX3_addLaw 47 = .ok (.iastore, 1) := by decide +kernel
theorem dX3_addLaw_48 : decode cX3_addLaw 48 = .ok (.aload_n 0, 1) := by decide +kernel
theorem dX3_addLaw_49 : decode cX3_addLaw 49 = .ok (.dup, 1) := by decide +kernel
theorem dX3_addLaw_50 : decode cX3_addLaw 50 = .ok (.getfield 21, 3) := by decide +kernel
theorem dX3_addLaw_53 : decode cX3_addLaw 53 = .ok (.iconst 1, 1) := by decide +kernel
theorem dX3_addLaw_54 : decode cX3_addLaw 54 = .ok (.iadd, 1) := by decide +kernel
theorem dX3_addLaw_55 : decode cX3_addLaw 55 = .ok (.putfield 21, 3) := by decide +kernel
theorem dX3_addLaw_58 : decode cX3_addLaw 58 = .ok (.return_, 1) := by decide +kernel
theorem dX3_lawAt_0 : decode cX3_lawAt 0 = .ok (.iload_n 1, 1) := by decide +kernel
theorem dX3_lawAt_1 : decode cX3_lawAt 1 = .ok (.iconst 0, 1) := by decide +kernel
theorem dX3_lawAt_2 : decode cX3_lawAt 2 = .ok (.aload_n 0, 1) := by decide +kernel
theorem dX3_lawAt_3 : decode cX3_lawAt 3 = .ok (.getfield 21, 3) := by decide +kernel
theorem dX3_lawAt_6 : decode cX3_lawAt 6 = .ok (.iconst 1, 1) := by decide +kernel
theorem dX3_lawAt_7 : decode cX3_lawAt 7 = .ok (.isub, 1) := by decide +kernel
theorem dX3_lawAt_8 : decode cX3_lawAt 8 = .ok (.invokestatic 72, 3) := by decide +kernel
theorem dX3_lawAt_11 : decode cX3_lawAt 11 = .ok (.ifCond .eq 12, 3) := by decide +kernel
theorem dX3_lawAt_14 : decode cX3_lawAt 14 = .ok (.aload_n 0, 1) := by decide +kernel
theorem dX3_lawAt_15 : decode cX3_lawAt 15 = .ok (.getfield 11, 3) := by decide +kernel
theorem dX3_lawAt_18 : decode cX3_lawAt 18 = .ok (.iload_n 1, 1) := by decide +kernel
theorem dX3_lawAt_19 : decode cX3_lawAt 19 = .ok (.aaload, 1) := by decide +kernel
theorem dX3_lawAt_20 : decode cX3_lawAt 20 = .ok (.goto 4, 3) := by decide +kernel
theorem dX3_lawAt_23 : decode cX3_lawAt 23 = .ok (.aconst_null, 1) := by decide +kernel
theorem dX3_lawAt_24 : decode cX3_lawAt 24 = .ok (.areturn, 1) := by decide +kernel
theorem dX3_lawOf_0 : decode cX3_lawOf 0 = .ok (.iload_n 1, 1) := by decide +kernel
theorem dX3_lawOf_1 : decode cX3_lawOf 1 = .ok (.ifCond .lt 17, 3) := by decide +kernel
theorem dX3_lawOf_4 : decode cX3_lawOf 4 = .ok (.iload_n 1, 1) := by decide +kernel
theorem dX3_lawOf_5 : decode cX3_lawOf 5 = .ok (.iconst 3, 1) := by decide +kernel
theorem dX3_lawOf_6 : decode cX3_lawOf 6 = .ok (.if_icmp .ge 12, 3) := by decide +kernel
theorem dX3_lawOf_9 : decode cX3_lawOf 9 = .ok (.aload_n 0, 1) := by decide +kernel
theorem dX3_lawOf_10 : decode cX3_lawOf 10 = .ok (.getfield 17, 3) := by decide +kernel
theorem dX3_lawOf_13 : decode cX3_lawOf 13 = .ok (.iload_n 1, 1) := by decide +kernel
theorem dX3_lawOf_14 : decode cX3_lawOf 14 = .ok (.iaload, 1) := by decide +kernel
theorem dX3_lawOf_15 : decode cX3_lawOf 15 = .ok (.goto 4, 3) := by decide +kernel
theorem dX3_lawOf_18 : decode cX3_lawOf 18 = .ok (.iconst (-1), 1) := by decide +kernel
theorem dX3_lawOf_19 : decode cX3_lawOf 19 = .ok (.istore_n 2, 1) := by decide +kernel
theorem dX3_lawOf_20 : decode cX3_lawOf 20 = .ok (.iload_n 2, 1) := by decide +kernel
theorem dX3_lawOf_21 : decode cX3_lawOf 21 = .ok (.ifCond .lt 20, 3) := by decide +kernel
theorem dX3_lawOf_24 : decode cX3_lawOf 24 = .ok (.iload_n 2, 1) := by decide +kernel
theorem dX3_lawOf_25 : decode cX3_lawOf 25 = .ok (.aload_n 0, 1) := by decide +kernel
theorem dX3_lawOf_26 : decode cX3_lawOf 26 = .ok (.getfield 21, 3) := by decide +kernel
theorem dX3_lawOf_29 : decode cX3_lawOf 29 = .ok (.if_icmp .ge 12, 3) := by decide +kernel
theorem dX3_lawOf_32 : decode cX3_lawOf 32 = .ok (.aload_n 0, 1) := by decide +kernel
theorem dX3_lawOf_33 : decode cX3_lawOf 33 = .ok (.getfield 11, 3) := by decide +kernel
theorem dX3_lawOf_36 : decode cX3_lawOf 36 = .ok (.iload_n 2, 1) := by decide +kernel
theorem dX3_lawOf_37 : decode cX3_lawOf 37 = .ok (.aaload, 1) := by decide +kernel
theorem dX3_lawOf_38 : decode cX3_lawOf 38 = .ok (.goto 4, 3) := by decide +kernel
theorem dX3_lawOf_41 : decode cX3_lawOf 41 = .ok (.aconst_null, 1) := by decide +kernel
theorem dX3_lawOf_42 : decode cX3_lawOf 42 = .ok (.areturn, 1) := by decide +kernel
theorem dX3_standing_0 : decode cX3_standing 0 = .ok (.iconst 0, 1) := by decide +kernel
theorem dX3_standing_1 : decode cX3_standing 1 = .ok (.istore_n 1, 1) := by decide +kernel
theorem dX3_standing_2 : decode cX3_standing 2 = .ok (.iconst 0, 1) := by decide +kernel
theorem dX3_standing_3 : decode cX3_standing 3 = .ok (.istore_n 2, 1) := by decide +kernel
theorem dX3_standing_4 : decode cX3_standing 4 = .ok (.iload_n 2, 1) := by decide +kernel
theorem dX3_standing_5 : decode cX3_standing 5 = .ok (.aload_n 0, 1) := by decide +kernel
theorem dX3_standing_6 : decode cX3_standing 6 = .ok (.getfield 31, 3) := by decide +kernel
theorem dX3_standing_9 : decode cX3_standing 9 = .ok (.if_icmp .ge 25, 3) := by decide +kernel
theorem dX3_standing_12 : decode cX3_standing 12 = .ok (.aload_n 0, 1) := by decide +kernel
theorem dX3_standing_13 : decode cX3_standing 13 = .ok (.getfield 27, 3) := by decide +kernel
theorem dX3_standing_16 : decode cX3_standing 16 = .ok (.iload_n 2, 1) := by decide +kernel
theorem dX3_standing_17 : decode cX3_standing 17 = .ok (.aaload, 1) := by decide +kernel
theorem dX3_standing_18 : decode cX3_standing 18 = .ok (.getfield 84, 3) := by decide +kernel
theorem dX3_standing_21 : decode cX3_standing 21 = .ok (.iconst 2, 1) := by decide +kernel
theorem dX3_standing_22 : decode cX3_standing 22 = .ok (.if_icmp .ne 6, 3) := by decide +kernel
theorem dX3_standing_25 : decode cX3_standing 25 = .ok (.iinc 1 1, 3) := by decide +kernel
theorem dX3_standing_28 : decode cX3_standing 28 = .ok (.iinc 2 1, 3) := by decide +kernel
theorem dX3_standing_31 : decode cX3_standing 31 = .ok (.goto (-27), 3) := by decide +kernel
theorem dX3_standing_34 : decode cX3_standing 34 = .ok (.iload_n 1, 1) := by decide +kernel
theorem dX3_standing_35 : decode cX3_standing 35 = .ok (.ireturn, 1) := by decide +kernel
theorem dX3_gotOfAll_0 : decode cX3_gotOfAll 0 = .ok (.iconst 0, 1) := by decide +kernel
theorem dX3_gotOfAll_1 : decode cX3_gotOfAll 1 = .ok (.istore_n 1, 1) := by decide +kernel
theorem dX3_gotOfAll_2 : decode cX3_gotOfAll 2 = .ok (.iconst 0, 1) := by decide +kernel
theorem dX3_gotOfAll_3 : decode cX3_gotOfAll 3 = .ok (.istore_n 2, 1) := by decide +kernel
theorem dX3_gotOfAll_4 : decode cX3_gotOfAll 4 = .ok (.iload_n 2, 1) := by decide +kernel
theorem dX3_gotOfAll_5 : decode cX3_gotOfAll 5 = .ok (.aload_n 0, 1) := by decide +kernel
theorem dX3_gotOfAll_6 : decode cX3_gotOfAll 6 = .ok (.getfield 31, 3) := by decide +kernel
theorem dX3_gotOfAll_9 : decode cX3_gotOfAll 9 = .ok (.if_icmp .ge 21, 3) := by decide +kernel
theorem dX3_gotOfAll_12 : decode cX3_gotOfAll 12 = .ok (.iload_n 1, 1) := by decide +kernel
theorem dX3_gotOfAll_13 : decode cX3_gotOfAll 13 = .ok (.aload_n 0, 1) := by decide +kernel
theorem dX3_gotOfAll_14 : decode cX3_gotOfAll 14 = .ok (.getfield 27, 3) := by decide +kernel
theorem dX3_gotOfAll_17 : decode cX3_gotOfAll 17 = .ok (.iload_n 2, 1) := by decide +kernel
theorem dX3_gotOfAll_18 : decode cX3_gotOfAll 18 = .ok (.aaload, 1) := by decide +kernel
theorem dX3_gotOfAll_19 : decode cX3_gotOfAll 19 = .ok (.getfield 87, 3) := by decide +kernel
theorem dX3_gotOfAll_22 : decode cX3_gotOfAll 22 = .ok (.iadd, 1) := by decide +kernel
theorem dX3_gotOfAll_23 : decode cX3_gotOfAll 23 = .ok (.istore_n 1, 1) := by decide +kernel
theorem dX3_gotOfAll_24 : decode cX3_gotOfAll 24 = .ok (.iinc 2 1, 3) := by decide +kernel
theorem dX3_gotOfAll_27 : decode cX3_gotOfAll 27 = .ok (.goto (-23), 3) := by decide +kernel
theorem dX3_gotOfAll_30 : decode cX3_gotOfAll 30 = .ok (.iload_n 1, 1) := by decide +kernel
theorem dX3_gotOfAll_31 : decode cX3_gotOfAll 31 = .ok (.ireturn, 1) := by decide +kernel
theorem dX3_emptyOfAll_0 : decode cX3_emptyOfAll 0 = .ok (.iconst 0, 1) := by decide +kernel
theorem dX3_emptyOfAll_1 : decode cX3_emptyOfAll 1 = .ok (.istore_n 1, 1) := by decide +kernel
theorem dX3_emptyOfAll_2 : decode cX3_emptyOfAll 2 = .ok (.iconst 0, 1) := by decide +kernel
theorem dX3_emptyOfAll_3 : decode cX3_emptyOfAll 3 = .ok (.istore_n 2, 1) := by decide +kernel
theorem dX3_emptyOfAll_4 : decode cX3_emptyOfAll 4 = .ok (.iload_n 2, 1) := by decide +kernel
theorem dX3_emptyOfAll_5 : decode cX3_emptyOfAll 5 = .ok (.aload_n 0, 1) := by decide +kernel
theorem dX3_emptyOfAll_6 : decode cX3_emptyOfAll 6 = .ok (.getfield 31, 3) := by decide +kernel
theorem dX3_emptyOfAll_9 : decode cX3_emptyOfAll 9 = .ok (.if_icmp .ge 21, 3) := by decide +kernel
theorem dX3_emptyOfAll_12 : decode cX3_emptyOfAll 12 = .ok (.iload_n 1, 1) := by decide +kernel
theorem dX3_emptyOfAll_13 : decode cX3_emptyOfAll 13 = .ok (.aload_n 0, 1) := by decide +kernel
theorem dX3_emptyOfAll_14 : decode cX3_emptyOfAll 14 = .ok (.getfield 27, 3) := by decide +kernel
theorem dX3_emptyOfAll_17 : decode cX3_emptyOfAll 17 = .ok (.iload_n 2, 1) := by decide +kernel
theorem dX3_emptyOfAll_18 : decode cX3_emptyOfAll 18 = .ok (.aaload, 1) := by decide +kernel
theorem dX3_emptyOfAll_19 : decode cX3_emptyOfAll 19 = .ok (.getfield 90, 3) := by decide +kernel
theorem dX3_emptyOfAll_22 : decode cX3_emptyOfAll 22 = .ok (.iadd, 1) := by decide +kernel
theorem dX3_emptyOfAll_23 : decode cX3_emptyOfAll 23 = .ok (.istore_n 1, 1) := by decide +kernel
theorem dX3_emptyOfAll_24 : decode cX3_emptyOfAll 24 = .ok (.iinc 2 1, 3) := by decide +kernel
theorem dX3_emptyOfAll_27 : decode cX3_emptyOfAll 27 = .ok (.goto (-23), 3) := by decide +kernel
theorem dX3_emptyOfAll_30 : decode cX3_emptyOfAll 30 = .ok (.iload_n 1, 1) := by decide +kernel
theorem dX3_emptyOfAll_31 : decode cX3_emptyOfAll 31 = .ok (.ireturn, 1) := by decide +kernel
theorem dX3_visitsOfAll_0 : decode cX3_visitsOfAll 0 = .ok (.iconst 0, 1) := by decide +kernel
theorem dX3_visitsOfAll_1 : decode cX3_visitsOfAll 1 = .ok (.istore_n 1, 1) := by decide +kernel
theorem dX3_visitsOfAll_2 : decode cX3_visitsOfAll 2 = .ok (.iconst 0, 1) := by decide +kernel
theorem dX3_visitsOfAll_3 : decode cX3_visitsOfAll 3 = .ok (.istore_n 2, 1) := by decide +kernel
theorem dX3_visitsOfAll_4 : decode cX3_visitsOfAll 4 = .ok (.iload_n 2, 1) := by decide +kernel
theorem dX3_visitsOfAll_5 : decode cX3_visitsOfAll 5 = .ok (.aload_n 0, 1) := by decide +kernel
theorem dX3_visitsOfAll_6 : decode cX3_visitsOfAll 6 = .ok (.getfield 31, 3) := by decide +kernel
theorem dX3_visitsOfAll_9 : decode cX3_visitsOfAll 9 = .ok (.if_icmp .ge 21, 3) := by decide +kernel
theorem dX3_visitsOfAll_12 : decode cX3_visitsOfAll 12 = .ok (.iload_n 1, 1) := by decide +kernel
theorem dX3_visitsOfAll_13 : decode cX3_visitsOfAll 13 = .ok (.aload_n 0, 1) := by decide +kernel
theorem dX3_visitsOfAll_14 : decode cX3_visitsOfAll 14 = .ok (.getfield 27, 3) := by decide +kernel
theorem dX3_visitsOfAll_17 : decode cX3_visitsOfAll 17 = .ok (.iload_n 2, 1) := by decide +kernel
theorem dX3_visitsOfAll_18 : decode cX3_visitsOfAll 18 = .ok (.aaload, 1) := by decide +kernel
theorem dX3_visitsOfAll_19 : decode cX3_visitsOfAll 19 = .ok (.getfield 93, 3) := by decide +kernel
theorem dX3_visitsOfAll_22 : decode cX3_visitsOfAll 22 = .ok (.iadd, 1) := by decide +kernel
theorem dX3_visitsOfAll_23 : decode cX3_visitsOfAll 23 = .ok (.istore_n 1, 1) := by decide +kernel
theorem dX3_visitsOfAll_24 : decode cX3_visitsOfAll 24 = .ok (.iinc 2 1, 3) := by decide +kernel
theorem dX3_visitsOfAll_27 : decode cX3_visitsOfAll 27 = .ok (.goto (-23), 3) := by decide +kernel
theorem dX3_visitsOfAll_30 : decode cX3_visitsOfAll 30 = .ok (.iload_n 1, 1) := by decide +kernel
theorem dX3_visitsOfAll_31 : decode cX3_visitsOfAll 31 = .ok (.ireturn, 1) := by decide +kernel
theorem dX3_leaveHolds_0 : decode cX3_leaveHolds 0 = .ok (.aload_n 0, 1) := by decide +kernel
theorem dX3_leaveHolds_1 : decode cX3_leaveHolds 1 = .ok (.iconst 0, 1) := by decide +kernel
theorem dX3_leaveHolds_2 : decode cX3_leaveHolds 2 = .ok (.invokevirtual 96, 3) := by decide +kernel
theorem dX3_leaveHolds_5 : decode cX3_leaveHolds 5 = .ok (.astore_n 2, 1) := by decide +kernel
theorem dX3_leaveHolds_6 : decode cX3_leaveHolds 6 = .ok (.aload_n 2, 1) := by decide +kernel
theorem dX3_leaveHolds_7 : decode cX3_leaveHolds 7 = .ok (.ifnonnull 23, 3) := by decide +kernel
theorem dX3_leaveHolds_10 : decode cX3_leaveHolds 10 = .ok (.aload_n 0, 1) := by decide +kernel
theorem dX3_leaveHolds_11 : decode cX3_leaveHolds 11 = .ok (.getfield 52, 3) := by decide +kernel
theorem dX3_leaveHolds_14 : decode cX3_leaveHolds 14 = .ok (.bipush 60, 2) := by decide +kernel
theorem dX3_leaveHolds_16 : decode cX3_leaveHolds 16 = .ok (.irem, 1) := by decide +kernel
theorem dX3_leaveHolds_17 : decode cX3_leaveHolds 17 = .ok (.aload_n 1, 1) := by decide +kernel
theorem dX3_leaveHolds_18 : decode cX3_leaveHolds 18 = .ok (.getfield 100, 3) := by decide +kernel
theorem dX3_leaveHolds_21 : decode cX3_leaveHolds 21 = .ok (.if_icmp .ne 7, 3) := by decide +kernel
theorem dX3_leaveHolds_24 : decode cX3_leaveHolds 24 = .ok (.iconst 1, 1) := by decide +kernel
theorem dX3_leaveHolds_25 : decode cX3_leaveHolds 25 = .ok (.goto 4, 3) := by decide +kernel
theorem dX3_leaveHolds_28 : decode cX3_leaveHolds 28 = .ok (.iconst 0, 1) := by decide +kernel
theorem dX3_leaveHolds_29 : decode cX3_leaveHolds 29 = .ok (.ireturn, 1) := by decide +kernel
theorem dX3_leaveHolds_30 : decode cX3_leaveHolds 30 = .ok (.aload_n 2, 1) := by decide +kernel
theorem dX3_leaveHolds_31 : decode cX3_leaveHolds 31 = .ok (.aload_n 0, 1) := by decide +kernel
theorem dX3_leaveHolds_32 : decode cX3_leaveHolds 32 = .ok (.getfield 52, 3) := by decide +kernel
theorem dX3_leaveHolds_35 : decode cX3_leaveHolds 35 = .ok (.sipush 1440, 3) := by decide +kernel
theorem dX3_leaveHolds_38 : decode cX3_leaveHolds 38 = .ok (.irem, 1) := by decide +kernel
theorem dX3_leaveHolds_39 : decode cX3_leaveHolds 39 = .ok (.aload_n 1, 1) := by decide +kernel
theorem dX3_leaveHolds_40 : decode cX3_leaveHolds 40 = .ok (.getfield 103, 3) := by decide +kernel
theorem dX3_leaveHolds_43 : decode cX3_leaveHolds 43 = .ok (.aload_n 1, 1) := by decide +kernel
theorem dX3_leaveHolds_44 : decode cX3_leaveHolds 44 = .ok (.getfield 100, 3) := by decide +kernel
theorem dX3_leaveHolds_47 : decode cX3_leaveHolds 47 = .ok (.invokevirtual 106, 3) := by decide +kernel
theorem dX3_leaveHolds_50 : decode cX3_leaveHolds 50 = .ok (.ifCond .eq 7, 3) := by decide +kernel
theorem dX3_leaveHolds_53 : decode cX3_leaveHolds 53 = .ok (.iconst 1, 1) := by decide +kernel
theorem dX3_leaveHolds_54 : decode cX3_leaveHolds 54 = .ok (.goto 4, 3) := by decide +kernel
theorem dX3_leaveHolds_57 : decode cX3_leaveHolds 57 = .ok (.iconst 0, 1) := by decide +kernel
theorem dX3_leaveHolds_58 : decode cX3_leaveHolds 58 = .ok (.ireturn, 1) := by decide +kernel
theorem dX3_wouldLeave_0 : decode cX3_wouldLeave 0 = .ok (.aload_n 1, 1) := by decide +kernel
theorem dX3_wouldLeave_1 : decode cX3_wouldLeave 1 = .ok (.getfield 110, 3) := by decide +kernel
theorem dX3_wouldLeave_4 : decode cX3_wouldLeave 4 = .ok (.tableswitch 98 1 5 #[36, 98, 53, 98, 77], 36) := by decide +kernel
theorem dX3_wouldLeave_40 : decode cX3_wouldLeave 40 = .ok (.aload_n 1, 1) := by decide +kernel
theorem dX3_wouldLeave_41 : decode cX3_wouldLeave 41 = .ok (.getfield 103, 3) := by decide +kernel
theorem dX3_wouldLeave_44 : decode cX3_wouldLeave 44 = .ok (.aload_n 1, 1) := by decide +kernel
theorem dX3_wouldLeave_45 : decode cX3_wouldLeave 45 = .ok (.getfield 100, 3) := by decide +kernel
theorem dX3_wouldLeave_48 : decode cX3_wouldLeave 48 = .ok (.if_icmp .lt 7, 3) := by decide +kernel
theorem dX3_wouldLeave_51 : decode cX3_wouldLeave 51 = .ok (.iconst 1, 1) := by decide +kernel
theorem dX3_wouldLeave_52 : decode cX3_wouldLeave 52 = .ok (.goto 4, 3) := by decide +kernel
theorem dX3_wouldLeave_55 : decode cX3_wouldLeave 55 = .ok (.iconst 0, 1) := by decide +kernel
theorem dX3_wouldLeave_56 : decode cX3_wouldLeave 56 = .ok (.ireturn, 1) := by decide +kernel
theorem dX3_wouldLeave_57 : decode cX3_wouldLeave 57 = .ok (.aload_n 1, 1) := by decide +kernel
theorem dX3_wouldLeave_58 : decode cX3_wouldLeave 58 = .ok (.getfield 103, 3) := by decide +kernel
theorem dX3_wouldLeave_61 : decode cX3_wouldLeave 61 = .ok (.aload_n 1, 1) := by decide +kernel
theorem dX3_wouldLeave_62 : decode cX3_wouldLeave 62 = .ok (.getfield 100, 3) := by decide +kernel
theorem dX3_wouldLeave_65 : decode cX3_wouldLeave 65 = .ok (.if_icmp .lt 14, 3) := by decide +kernel
theorem dX3_wouldLeave_68 : decode cX3_wouldLeave 68 = .ok (.aload_n 0, 1) := by decide +kernel
theorem dX3_wouldLeave_69 : decode cX3_wouldLeave 69 = .ok (.getfield 40, 3) := by decide +kernel
theorem dX3_wouldLeave_72 : decode cX3_wouldLeave 72 = .ok (.ifCond .le 7, 3) := by decide +kernel
theorem dX3_wouldLeave_75 : decode cX3_wouldLeave 75 = .ok (.iconst 1, 1) := by decide +kernel
theorem dX3_wouldLeave_76 : decode cX3_wouldLeave 76 = .ok (.goto 4, 3) := by decide +kernel
theorem dX3_wouldLeave_79 : decode cX3_wouldLeave 79 = .ok (.iconst 0, 1) := by decide +kernel
theorem dX3_wouldLeave_80 : decode cX3_wouldLeave 80 = .ok (.ireturn, 1) := by decide +kernel
theorem dX3_wouldLeave_81 : decode cX3_wouldLeave 81 = .ok (.aload_n 0, 1) := by decide +kernel
theorem dX3_wouldLeave_82 : decode cX3_wouldLeave 82 = .ok (.invokevirtual 113, 3) := by decide +kernel
theorem dX3_wouldLeave_85 : decode cX3_wouldLeave 85 = .ok (.ifCond .ne 15, 3) := by decide +kernel
theorem dX3_wouldLeave_88 : decode cX3_wouldLeave 88 = .ok (.aload_n 0, 1) := by decide +kernel
theorem dX3_wouldLeave_89 : decode cX3_wouldLeave 89 = .ok (.aload_n 1, 1) := by decide +kernel
theorem dX3_wouldLeave_90 : decode cX3_wouldLeave 90 = .ok (.invokevirtual 117, 3) := by decide +kernel
theorem dX3_wouldLeave_93 : decode cX3_wouldLeave 93 = .ok (.ifCond .eq 7, 3) := by decide +kernel
theorem dX3_wouldLeave_96 : decode cX3_wouldLeave 96 = .ok (.iconst 1, 1) := by decide +kernel
theorem dX3_wouldLeave_97 : decode cX3_wouldLeave 97 = .ok (.goto 4, 3) := by decide +kernel
theorem dX3_wouldLeave_100 : decode cX3_wouldLeave 100 = .ok (.iconst 0, 1) := by decide +kernel
theorem dX3_wouldLeave_101 : decode cX3_wouldLeave 101 = .ok (.ireturn, 1) := by decide +kernel
theorem dX3_wouldLeave_102 : decode cX3_wouldLeave 102 = .ok (.aload_n 0, 1) := by decide +kernel
theorem dX3_wouldLeave_103 : decode cX3_wouldLeave 103 = .ok (.aload_n 1, 1) := by decide +kernel
theorem dX3_wouldLeave_104 : decode cX3_wouldLeave 104 = .ok (.invokevirtual 117, 3) := by decide +kernel
theorem dX3_wouldLeave_107 : decode cX3_wouldLeave 107 = .ok (.ireturn, 1) := by decide +kernel
theorem dX3_staysOf_0 : decode cX3_staysOf 0 = .ok (.aload_n 0, 1) := by decide +kernel
theorem dX3_staysOf_1 : decode cX3_staysOf 1 = .ok (.iconst 1, 1) := by decide +kernel
theorem dX3_staysOf_2 : decode cX3_staysOf 2 = .ok (.invokevirtual 96, 3) := by decide +kernel
theorem dX3_staysOf_5 : decode cX3_staysOf 5 = .ok (.astore_n 2, 1) := by decide +kernel
theorem dX3_staysOf_6 : decode cX3_staysOf 6 = .ok (.aload_n 2, 1) := by decide +kernel
theorem dX3_staysOf_7 : decode cX3_staysOf 7 = .ok (.ifnonnull 7, 3) := by decide +kernel
theorem dX3_staysOf_10 : decode cX3_staysOf 10 = .ok (.iconst 0, 1) := by decide +kernel
theorem dX3_staysOf_11 : decode cX3_staysOf 11 = .ok (.goto 25, 3) := by decide +kernel
theorem dX3_staysOf_14 : decode cX3_staysOf 14 = .ok (.aload_n 2, 1) := by decide +kernel
theorem dX3_staysOf_15 : decode cX3_staysOf 15 = .ok (.aload_n 1, 1) := by decide +kernel
theorem dX3_staysOf_16 : decode cX3_staysOf 16 = .ok (.getfield 100, 3) := by decide +kernel
theorem dX3_staysOf_19 : decode cX3_staysOf 19 = .ok (.aload_n 0, 1) := by decide +kernel
theorem dX3_staysOf_20 : decode cX3_staysOf 20 = .ok (.getfield 40, 3) := by decide +kernel
theorem dX3_staysOf_23 : decode cX3_staysOf 23 = .ok (.aload_n 0, 1) := by decide +kernel
theorem dX3_staysOf_24 : decode cX3_staysOf 24 = .ok (.invokevirtual 113, 3) := by decide +kernel
theorem dX3_staysOf_27 : decode cX3_staysOf 27 = .ok (.invokevirtual 106, 3) := by decide +kernel
theorem dX3_staysOf_30 : decode cX3_staysOf 30 = .ok (.iconst 0, 1) := by decide +kernel
theorem dX3_staysOf_31 : decode cX3_staysOf 31 = .ok (.bipush 99, 2) := by decide +kernel
theorem dX3_staysOf_33 : decode cX3_staysOf 33 = .ok (.invokestatic 121, 3) := by decide +kernel
theorem dX3_staysOf_36 : decode cX3_staysOf 36 = .ok (.istore_n 3, 1) := by decide +kernel
theorem dX3_staysOf_37 : decode cX3_staysOf 37 = .ok (.aload_n 1, 1) := by decide +kernel
theorem dX3_staysOf_38 : decode cX3_staysOf 38 = .ok (.getfield 110, 3) := by decide +kernel
theorem dX3_staysOf_41 : decode cX3_staysOf 41 = .ok (.lookupswitch 43 #[(2, 27), (4, 34)], 27) := by decide +kernel
theorem dX3_staysOf_68 : decode cX3_staysOf 68 = .ok (.iload_n 3, 1) := by decide +kernel
theorem dX3_staysOf_69 : decode cX3_staysOf 69 = .ok (.aload_n 1, 1) := by decide +kernel
theorem dX3_staysOf_70 : decode cX3_staysOf 70 = .ok (.getfield 100, 3) := by decide +kernel
theorem dX3_staysOf_73 : decode cX3_staysOf 73 = .ok (.iadd, 1) := by decide +kernel
theorem dX3_staysOf_74 : decode cX3_staysOf 74 = .ok (.ireturn, 1) := by decide +kernel
theorem dX3_staysOf_75 : decode cX3_staysOf 75 = .ok (.iconst 2, 1) := by decide +kernel
theorem dX3_staysOf_76 : decode cX3_staysOf 76 = .ok (.iload_n 3, 1) := by decide +kernel
theorem dX3_staysOf_77 : decode cX3_staysOf 77 = .ok (.aload_n 1, 1) := by decide +kernel
theorem dX3_staysOf_78 : decode cX3_staysOf 78 = .ok (.getfield 100, 3) := by decide +kernel
theorem dX3_staysOf_81 : decode cX3_staysOf 81 = .ok (.iadd, 1) := by decide +kernel
theorem dX3_staysOf_82 : decode cX3_staysOf 82 = .ok (.imul, 1) := by decide +kernel
theorem dX3_staysOf_83 : decode cX3_staysOf 83 = .ok (.ireturn, 1) := by decide +kernel
theorem dX3_staysOf_84 : decode cX3_staysOf 84 = .ok (.iload_n 3, 1) := by decide +kernel
theorem dX3_staysOf_85 : decode cX3_staysOf 85 = .ok (.ireturn, 1) := by decide +kernel
theorem dX3_advance_0 : decode cX3_advance 0 = .ok (.iconst 0, 1) := by decide +kernel
theorem dX3_advance_1 : decode cX3_advance 1 = .ok (.istore_n 2, 1) := by decide +kernel
theorem dX3_advance_2 : decode cX3_advance 2 = .ok (.iconst 0, 1) := by decide +kernel
theorem dX3_advance_3 : decode cX3_advance 3 = .ok (.istore_n 3, 1) := by decide +kernel
theorem dX3_advance_4 : decode cX3_advance 4 = .ok (.iload_n 3, 1) := by decide +kernel
theorem dX3_advance_5 : decode cX3_advance 5 = .ok (.iload_n 1, 1) := by decide +kernel
theorem dX3_advance_6 : decode cX3_advance 6 = .ok (.if_icmp .ge 119, 3) := by decide +kernel
theorem dX3_advance_9 : decode cX3_advance 9 = .ok (.aload_n 0, 1) := by decide +kernel
theorem dX3_advance_10 : decode cX3_advance 10 = .ok (.getfield 52, 3) := by decide +kernel
theorem dX3_advance_13 : decode cX3_advance 13 = .ok (.ldc 124, 2) := by decide +kernel
theorem dX3_advance_15 : decode cX3_advance 15 = .ok (.if_icmp .ge 110, 3) := by decide +kernel
theorem dX3_advance_18 : decode cX3_advance 18 = .ok (.iconst 0, 1) := by decide +kernel
theorem dX3_advance_19 : decode cX3_advance 19 = .ok (.istore 4, 2) := by decide +kernel
theorem dX3_advance_21 : decode cX3_advance 21 = .ok (.iload 4, 2) := by decide +kernel
theorem dX3_advance_23 : decode cX3_advance 23 = .ok (.aload_n 0, 1) := by decide +kernel
theorem dX3_advance_24 : decode cX3_advance 24 = .ok (.getfield 31, 3) := by decide +kernel
theorem dX3_advance_27 : decode cX3_advance 27 = .ok (.if_icmp .ge 29, 3) := by decide +kernel
theorem dX3_advance_30 : decode cX3_advance 30 = .ok (.aload_n 0, 1) := by decide +kernel
theorem dX3_advance_31 : decode cX3_advance 31 = .ok (.getfield 27, 3) := by decide +kernel
theorem dX3_advance_34 : decode cX3_advance 34 = .ok (.iload 4, 2) := by decide +kernel
theorem dX3_advance_36 : decode cX3_advance 36 = .ok (.aaload, 1) := by decide +kernel
theorem dX3_advance_37 : decode cX3_advance 37 = .ok (.aload_n 0, 1) := by decide +kernel
theorem dX3_advance_38 : decode cX3_advance 38 = .ok (.getfield 27, 3) := by decide +kernel
theorem dX3_advance_41 : decode cX3_advance 41 = .ok (.iload 4, 2) := by decide +kernel
theorem dX3_advance_43 : decode cX3_advance 43 = .ok (.aaload, 1) := by decide +kernel
theorem dX3_advance_44 : decode cX3_advance 44 = .ok (.getfield 84, 3) := by decide +kernel
theorem dX3_advance_47 : decode cX3_advance 47 = .ok (.putfield 125, 3) := by decide +kernel
theorem dX3_advance_50 : decode cX3_advance 50 = .ok (.iinc 4 1, 3) := by decide +kernel
theorem dX3_advance_53 : decode cX3_advance 53 = .ok (.goto (-32), 3) := by decide +kernel
theorem dX3_advance_56 : decode cX3_advance 56 = .ok (.aload_n 0, 1) := by decide +kernel
theorem dX3_advance_57 : decode cX3_advance 57 = .ok (.invokevirtual 128, 3) := by decide +kernel
theorem dX3_advance_60 : decode cX3_advance 60 = .ok (.aload_n 0, 1) := by decide +kernel
theorem dX3_advance_61 : decode cX3_advance 61 = .ok (.invokevirtual 131, 3) := by decide +kernel
theorem dX3_advance_64 : decode cX3_advance 64 = .ok (.istore 4, 2) := by decide +kernel
theorem dX3_advance_66 : decode cX3_advance 66 = .ok (.aload_n 0, 1) := by decide +kernel
theorem dX3_advance_67 : decode cX3_advance 67 = .ok (.invokevirtual 135, 3) := by decide +kernel
theorem dX3_advance_70 : decode cX3_advance 70 = .ok (.aload_n 0, 1) := by decide +kernel
theorem dX3_advance_71 : decode cX3_advance 71 = .ok (.invokevirtual 138, 3) := by decide +kernel
theorem dX3_advance_74 : decode cX3_advance 74 = .ok (.aload_n 0, 1) := by decide +kernel
theorem dX3_advance_75 : decode cX3_advance 75 = .ok (.invokevirtual 113, 3) := by decide +kernel
theorem dX3_advance_78 : decode cX3_advance 78 = .ok (.ifCond .le 7, 3) := by decide +kernel
theorem dX3_advance_81 : decode cX3_advance 81 = .ok (.iconst 1, 1) := by decide +kernel
theorem dX3_advance_82 : decode cX3_advance 82 = .ok (.goto 4, 3) := by decide +kernel
theorem dX3_advance_85 : decode cX3_advance 85 = .ok (.iconst 0, 1) := by decide +kernel
theorem dX3_advance_86 : decode cX3_advance 86 = .ok (.istore 5, 2) := by decide +kernel
theorem dX3_advance_88 : decode cX3_advance 88 = .ok (.iload 5, 2) := by decide +kernel
theorem dX3_advance_90 : decode cX3_advance 90 = .ok (.ifCond .eq 6, 3) := by decide +kernel
theorem dX3_advance_93 : decode cX3_advance 93 = .ok (.iinc 2 1, 3) := by decide +kernel
theorem dX3_advance_96 : decode cX3_advance 96 = .ok (.aload_n 0, 1) := by decide +kernel
theorem dX3_advance_97 : decode cX3_advance 97 = .ok (.iload 5, 2) := by decide +kernel
theorem dX3_advance_99 : decode cX3_advance 99 = .ok (.ifCond .ne 12, 3) := by decide +kernel
theorem dX3_advance_102 : decode cX3_advance 102 = .ok (.iload 4, 2) := by decide +kernel
theorem dX3_advance_104 : decode cX3_advance 104 = .ok (.ifCond .ne 7, 3) := by decide +kernel
theorem dX3_advance_107 : decode cX3_advance 107 = .ok (.iconst 1, 1) := by decide +kernel
theorem dX3_advance_108 : decode cX3_advance 108 = .ok (.goto 4, 3) := by decide +kernel
theorem dX3_advance_111 : decode cX3_advance 111 = .ok (.iconst 0, 1) := by decide +kernel
theorem dX3_advance_112 : decode cX3_advance 112 = .ok (.invokevirtual 141, 3) := by decide +kernel
theorem dX3_advance_115 : decode cX3_advance 115 = .ok (.aload_n 0, 1) := by decide +kernel
theorem dX3_advance_116 : decode cX3_advance 116 = .ok (.invokevirtual 145, 3) := by decide +kernel
theorem dX3_advance_119 : decode cX3_advance 119 = .ok (.iinc 3 1, 3) := by decide +kernel
theorem dX3_advance_122 : decode cX3_advance 122 = .ok (.goto (-118), 3) := by decide +kernel
theorem dX3_advance_125 : decode cX3_advance 125 = .ok (.iload_n 2, 1) := by decide +kernel
theorem dX3_advance_126 : decode cX3_advance 126 = .ok (.ireturn, 1) := by decide +kernel
theorem dX3_letLeave_0 : decode cX3_letLeave 0 = .ok (.iconst 0, 1) := by decide +kernel
theorem dX3_letLeave_1 : decode cX3_letLeave 1 = .ok (.istore_n 1, 1) := by decide +kernel
theorem dX3_letLeave_2 : decode cX3_letLeave 2 = .ok (.iload_n 1, 1) := by decide +kernel
theorem dX3_letLeave_3 : decode cX3_letLeave 3 = .ok (.aload_n 0, 1) := by decide +kernel
theorem dX3_letLeave_4 : decode cX3_letLeave 4 = .ok (.getfield 31, 3) := by decide +kernel
theorem dX3_letLeave_7 : decode cX3_letLeave 7 = .ok (.if_icmp .ge 81, 3) := by decide +kernel
theorem dX3_letLeave_10 : decode cX3_letLeave 10 = .ok (.aload_n 0, 1) := by decide +kernel
theorem dX3_letLeave_11 : decode cX3_letLeave 11 = .ok (.getfield 27, 3) := by decide +kernel
theorem dX3_letLeave_14 : decode cX3_letLeave 14 = .ok (.iload_n 1, 1) := by decide +kernel
theorem dX3_letLeave_15 : decode cX3_letLeave 15 = .ok (.aaload, 1) := by decide +kernel
theorem dX3_letLeave_16 : decode cX3_letLeave 16 = .ok (.astore_n 2, 1) := by decide +kernel
theorem dX3_letLeave_17 : decode cX3_letLeave 17 = .ok (.aload_n 2, 1) := by decide +kernel
theorem dX3_letLeave_18 : decode cX3_letLeave 18 = .ok (.getfield 84, 3) := by decide +kernel
theorem dX3_letLeave_21 : decode cX3_letLeave 21 = .ok (.ifCond .eq 6, 3) := by decide +kernel
theorem dX3_letLeave_24 : decode cX3_letLeave 24 = .ok (.goto 58, 3) := by decide +kernel
theorem dX3_letLeave_27 : decode cX3_letLeave 27 = .ok (.aload_n 2, 1) := by decide +kernel
theorem dX3_letLeave_28 : decode cX3_letLeave 28 = .ok (.getfield 148, 3) := by decide +kernel
theorem dX3_letLeave_31 : decode cX3_letLeave 31 = .ok (.ifCond .le 41, 3) := by decide +kernel
theorem dX3_letLeave_34 : decode cX3_letLeave 34 = .ok (.aload_n 0, 1) := by decide +kernel
theorem dX3_letLeave_35 : decode cX3_letLeave 35 = .ok (.aload_n 2, 1) := by decide +kernel
theorem dX3_letLeave_36 : decode cX3_letLeave 36 = .ok (.invokevirtual 151, 3) := by decide +kernel
theorem dX3_letLeave_39 : decode cX3_letLeave 39 = .ok (.ifCond .eq 33, 3) := by decide +kernel
theorem dX3_letLeave_42 : decode cX3_letLeave 42 = .ok (.aload_n 0, 1) := by decide +kernel
theorem dX3_letLeave_43 : decode cX3_letLeave 43 = .ok (.invokevirtual 154, 3) := by decide +kernel
theorem dX3_letLeave_46 : decode cX3_letLeave 46 = .ok (.bipush 100, 2) := by decide +kernel
theorem dX3_letLeave_48 : decode cX3_letLeave 48 = .ok (.irem, 1) := by decide +kernel
theorem dX3_letLeave_49 : decode cX3_letLeave 49 = .ok (.aload_n 0, 1) := by decide +kernel
theorem dX3_letLeave_50 : decode cX3_letLeave 50 = .ok (.getfield 46, 3) := by decide +kernel
theorem dX3_letLeave_53 : decode cX3_letLeave 53 = .ok (.if_icmp .lt 19, 3) := by decide +kernel
theorem dX3_letLeave_56 : decode cX3_letLeave 56 = .ok (.aload_n 2, 1) := by decide +kernel
theorem dX3_letLeave_57 : decode cX3_letLeave 57 = .ok (.iconst 1, 1) := by decide +kernel
theorem dX3_letLeave_58 : decode cX3_letLeave 58 = .ok (.putfield 84, 3) := by decide +kernel
theorem dX3_letLeave_61 : decode cX3_letLeave 61 = .ok (.aload_n 2, 1) := by decide +kernel
theorem dX3_letLeave_62 : decode cX3_letLeave 62 = .ok (.aload_n 2, 1) := by decide +kernel
theorem dX3_letLeave_63 : decode cX3_letLeave 63 = .ok (.getfield 157, 3) := by decide +kernel
theorem dX3_letLeave_66 : decode cX3_letLeave 66 = .ok (.putfield 160, 3) := by decide +kernel
theorem dX3_letLeave_69 : decode cX3_letLeave 69 = .ok (.goto 13, 3) := by decide +kernel
theorem dX3_letLeave_72 : decode cX3_letLeave 72 = .ok (.aload_n 2, 1) := by decide +kernel
theorem dX3_letLeave_73 : decode cX3_letLeave 73 = .ok (.dup, 1) := by decide +kernel
theorem dX3_letLeave_74 : decode cX3_letLeave 74 = .ok (.getfield 103, 3) := by decide +kernel
theorem dX3_letLeave_77 : decode cX3_letLeave 77 = .ok (.iconst 1, 1) := by decide +kernel
theorem dX3_letLeave_78 : decode cX3_letLeave 78 = .ok (.iadd, 1) := by decide +kernel
theorem dX3_letLeave_79 : decode cX3_letLeave 79 = .ok (.putfield 103, 3) := by decide +kernel
theorem dX3_letLeave_82 : decode cX3_letLeave 82 = .ok (.iinc 1 1, 3) := by decide +kernel
theorem dX3_letLeave_85 : decode cX3_letLeave 85 = .ok (.goto (-83), 3) := by decide +kernel
theorem dX3_letLeave_88 : decode cX3_letLeave 88 = .ok (.return_, 1) := by decide +kernel
theorem dX3_letCome_0 : decode cX3_letCome 0 = .ok (.iconst 0, 1) := by decide +kernel
theorem dX3_letCome_1 : decode cX3_letCome 1 = .ok (.istore_n 1, 1) := by decide +kernel
theorem dX3_letCome_2 : decode cX3_letCome 2 = .ok (.iconst 0, 1) := by decide +kernel
theorem dX3_letCome_3 : decode cX3_letCome 3 = .ok (.istore_n 2, 1) := by decide +kernel
theorem dX3_letCome_4 : decode cX3_letCome 4 = .ok (.iload_n 2, 1) := by decide +kernel
theorem dX3_letCome_5 : decode cX3_letCome 5 = .ok (.aload_n 0, 1) := by decide +kernel
theorem dX3_letCome_6 : decode cX3_letCome 6 = .ok (.getfield 31, 3) := by decide +kernel
theorem dX3_letCome_9 : decode cX3_letCome 9 = .ok (.if_icmp .ge 51, 3) := by decide +kernel
theorem dX3_letCome_12 : decode cX3_letCome 12 = .ok (.aload_n 0, 1) := by decide +kernel
theorem dX3_letCome_13 : decode cX3_letCome 13 = .ok (.getfield 27, 3) := by decide +kernel
theorem dX3_letCome_16 : decode cX3_letCome 16 = .ok (.iload_n 2, 1) := by decide +kernel
theorem dX3_letCome_17 : decode cX3_letCome 17 = .ok (.aaload, 1) := by decide +kernel
theorem dX3_letCome_18 : decode cX3_letCome 18 = .ok (.astore_n 3, 1) := by decide +kernel
theorem dX3_letCome_19 : decode cX3_letCome 19 = .ok (.aload_n 3, 1) := by decide +kernel
theorem dX3_letCome_20 : decode cX3_letCome 20 = .ok (.getfield 84, 3) := by decide +kernel
theorem dX3_letCome_23 : decode cX3_letCome 23 = .ok (.iconst 1, 1) := by decide +kernel
theorem dX3_letCome_24 : decode cX3_letCome 24 = .ok (.if_icmp .eq 6, 3) := by decide +kernel
theorem dX3_letCome_27 : decode cX3_letCome 27 = .ok (.goto 27, 3) := by decide +kernel
theorem dX3_letCome_30 : decode cX3_letCome 30 = .ok (.aload_n 3, 1) := by decide +kernel
theorem dX3_letCome_31 : decode cX3_letCome 31 = .ok (.dup, 1) := by decide +kernel
theorem dX3_letCome_32 : decode cX3_letCome 32 = .ok (.getfield 160, 3) := by decide +kernel
theorem dX3_letCome_35 : decode cX3_letCome 35 = .ok (.iconst 1, 1) := by decide +kernel
theorem dX3_letCome_36 : decode cX3_letCome 36 = .ok (.isub, 1) := by decide +kernel
theorem dX3_letCome_37 : decode cX3_letCome 37 = .ok (.putfield 160, 3) := by decide +kernel
theorem dX3_letCome_40 : decode cX3_letCome 40 = .ok (.aload_n 3, 1) := by decide +kernel
theorem dX3_letCome_41 : decode cX3_letCome 41 = .ok (.getfield 160, 3) := by decide +kernel
theorem dX3_letCome_44 : decode cX3_letCome 44 = .ok (.ifCond .ne 10, 3) := by decide +kernel
theorem dX3_letCome_47 : decode cX3_letCome 47 = .ok (.iconst 1, 1) := by decide +kernel
theorem dX3_letCome_48 : decode cX3_letCome 48 = .ok (.istore_n 1, 1) := by decide +kernel
theorem dX3_letCome_49 : decode cX3_letCome 49 = .ok (.aload_n 0, 1) := by decide +kernel
theorem dX3_letCome_50 : decode cX3_letCome 50 = .ok (.aload_n 3, 1) := by decide +kernel
theorem dX3_letCome_51 : decode cX3_letCome 51 = .ok (.invokevirtual 163, 3) := by decide +kernel
theorem dX3_letCome_54 : decode cX3_letCome 54 = .ok (.iinc 2 1, 3) := by decide +kernel
theorem dX3_letCome_57 : decode cX3_letCome 57 = .ok (.goto (-53), 3) := by decide +kernel
theorem dX3_letCome_60 : decode cX3_letCome 60 = .ok (.iload_n 1, 1) := by decide +kernel
theorem dX3_letCome_61 : decode cX3_letCome 61 = .ok (.ireturn, 1) := by decide +kernel
theorem dX3_arrive_0 : decode cX3_arrive 0 = .ok (.aload_n 1, 1) := by decide +kernel
theorem dX3_arrive_1 : decode cX3_arrive 1 = .ok (.dup, 1) := by decide +kernel
theorem dX3_arrive_2 : decode cX3_arrive 2 = .ok (.getfield 93, 3) := by decide +kernel
theorem dX3_arrive_5 : decode cX3_arrive 5 = .ok (.iconst 1, 1) := by decide +kernel
theorem dX3_arrive_6 : decode cX3_arrive 6 = .ok (.iadd, 1) := by decide +kernel
theorem dX3_arrive_7 : decode cX3_arrive 7 = .ok (.putfield 93, 3) := by decide +kernel
theorem dX3_arrive_10 : decode cX3_arrive 10 = .ok (.aload_n 0, 1) := by decide +kernel
theorem dX3_arrive_11 : decode cX3_arrive 11 = .ok (.getfield 40, 3) := by decide +kernel
theorem dX3_arrive_14 : decode cX3_arrive 14 = .ok (.ifCond .le 66, 3) := by decide +kernel
theorem dX3_arrive_17 : decode cX3_arrive 17 = .ok (.aload_n 0, 1) := by decide +kernel
theorem dX3_arrive_18 : decode cX3_arrive 18 = .ok (.invokevirtual 113, 3) := by decide +kernel
theorem dX3_arrive_21 : decode cX3_arrive 21 = .ok (.ifCond .ne 59, 3) := by decide +kernel
theorem dX3_arrive_24 : decode cX3_arrive 24 = .ok (.aload_n 0, 1) := by decide +kernel
theorem dX3_arrive_25 : decode cX3_arrive 25 = .ok (.getfield 43, 3) := by decide +kernel
theorem dX3_arrive_28 : decode cX3_arrive 28 = .ok (.aload_n 1, 1) := by decide +kernel
theorem dX3_arrive_29 : decode cX3_arrive 29 = .ok (.getfield 148, 3) := by decide +kernel
theorem dX3_arrive_32 : decode cX3_arrive 32 = .ok (.aload_n 0, 1) := by decide +kernel
theorem dX3_arrive_33 : decode cX3_arrive 33 = .ok (.getfield 40, 3) := by decide +kernel
theorem dX3_arrive_36 : decode cX3_arrive 36 = .ok (.invokestatic 166, 3) := by decide +kernel
theorem dX3_arrive_39 : decode cX3_arrive 39 = .ok (.invokestatic 166, 3) := by decide +kernel
theorem dX3_arrive_42 : decode cX3_arrive 42 = .ok (.istore_n 2, 1) := by decide +kernel
theorem dX3_arrive_43 : decode cX3_arrive 43 = .ok (.aload_n 0, 1) := by decide +kernel
theorem dX3_arrive_44 : decode cX3_arrive 44 = .ok (.dup, 1) := by decide +kernel
theorem dX3_arrive_45 : decode cX3_arrive 45 = .ok (.getfield 40, 3) := by decide +kernel
theorem dX3_arrive_48 : decode cX3_arrive 48 = .ok (.iload_n 2, 1) := by decide +kernel
theorem dX3_arrive_49 : decode cX3_arrive 49 = .ok (.isub, 1) := by decide +kernel
theorem dX3_arrive_50 : decode cX3_arrive 50 = .ok (.putfield 40, 3) := by decide +kernel
theorem dX3_arrive_53 : decode cX3_arrive 53 = .ok (.aload_n 1, 1) := by decide +kernel
theorem dX3_arrive_54 : decode cX3_arrive 54 = .ok (.dup, 1) := by decide +kernel
theorem dX3_arrive_55 : decode cX3_arrive 55 = .ok (.getfield 148, 3) := by decide +kernel
theorem dX3_arrive_58 : decode cX3_arrive 58 = .ok (.iload_n 2, 1) := by decide +kernel
theorem dX3_arrive_59 : decode cX3_arrive 59 = .ok (.isub, 1) := by decide +kernel
theorem dX3_arrive_60 : decode cX3_arrive 60 = .ok (.putfield 148, 3) := by decide +kernel
theorem dX3_arrive_63 : decode cX3_arrive 63 = .ok (.aload_n 1, 1) := by decide +kernel
theorem dX3_arrive_64 : decode cX3_arrive 64 = .ok (.dup, 1) := by decide +kernel
theorem dX3_arrive_65 : decode cX3_arrive 65 = .ok (.getfield 87, 3) := by decide +kernel
theorem dX3_arrive_68 : decode cX3_arrive 68 = .ok (.iload_n 2, 1) := by decide +kernel
theorem dX3_arrive_69 : decode cX3_arrive 69 = .ok (.iadd, 1) := by decide +kernel
theorem dX3_arrive_70 : decode cX3_arrive 70 = .ok (.putfield 87, 3) := by decide +kernel
theorem dX3_arrive_73 : decode cX3_arrive 73 = .ok (.aload_n 1, 1) := by decide +kernel
theorem dX3_arrive_74 : decode cX3_arrive 74 = .ok (.invokevirtual 172, 3) := by decide +kernel
theorem dX3_arrive_77 : decode cX3_arrive 77 = .ok (.goto 38, 3) := by decide +kernel
theorem dX3_arrive_80 : decode cX3_arrive 80 = .ok (.aload_n 0, 1) := by decide +kernel
theorem dX3_arrive_81 : decode cX3_arrive 81 = .ok (.aload_n 1, 1) := by decide +kernel
theorem dX3_arrive_82 : decode cX3_arrive 82 = .ok (.invokevirtual 175, 3) := by decide +kernel
theorem dX3_arrive_85 : decode cX3_arrive 85 = .ok (.ifCond .le 16, 3) := by decide +kernel
theorem dX3_arrive_88 : decode cX3_arrive 88 = .ok (.aload_n 1, 1) := by decide +kernel
theorem dX3_arrive_89 : decode cX3_arrive 89 = .ok (.iconst 2, 1) := by decide +kernel
theorem dX3_arrive_90 : decode cX3_arrive 90 = .ok (.putfield 84, 3) := by decide +kernel
theorem dX3_arrive_93 : decode cX3_arrive 93 = .ok (.aload_n 1, 1) := by decide +kernel
theorem dX3_arrive_94 : decode cX3_arrive 94 = .ok (.iconst 0, 1) := by decide +kernel
theorem dX3_arrive_95 : decode cX3_arrive 95 = .ok (.putfield 179, 3) := by decide +kernel
theorem dX3_arrive_98 : decode cX3_arrive 98 = .ok (.goto 17, 3) := by decide +kernel
theorem dX3_arrive_101 : decode cX3_arrive 101 = .ok (.aload_n 1, 1) := by decide +kernel
theorem dX3_arrive_102 : decode cX3_arrive 102 = .ok (.dup, 1) := by decide +kernel
theorem dX3_arrive_103 : decode cX3_arrive 103 = .ok (.getfield 90, 3) := by decide +kernel
theorem dX3_arrive_106 : decode cX3_arrive 106 = .ok (.iconst 1, 1) := by decide +kernel
theorem dX3_arrive_107 : decode cX3_arrive 107 = .ok (.iadd, 1) := by decide +kernel
theorem dX3_arrive_108 : decode cX3_arrive 108 = .ok (.putfield 90, 3) := by decide +kernel
theorem dX3_arrive_111 : decode cX3_arrive 111 = .ok (.aload_n 1, 1) := by decide +kernel
theorem dX3_arrive_112 : decode cX3_arrive 112 = .ok (.invokevirtual 172, 3) := by decide +kernel
theorem dX3_arrive_115 : decode cX3_arrive 115 = .ok (.return_, 1) := by decide +kernel
theorem dX3_letWait_0 : decode cX3_letWait 0 = .ok (.iconst 0, 1) := by decide +kernel
theorem dX3_letWait_1 : decode cX3_letWait 1 = .ok (.istore_n 1, 1) := by decide +kernel
theorem dX3_letWait_2 : decode cX3_letWait 2 = .ok (.iload_n 1, 1) := by decide +kernel
theorem dX3_letWait_3 : decode cX3_letWait 3 = .ok (.aload_n 0, 1) := by decide +kernel
theorem dX3_letWait_4 : decode cX3_letWait 4 = .ok (.getfield 31, 3) := by decide +kernel
theorem dX3_letWait_7 : decode cX3_letWait 7 = .ok (.if_icmp .ge 73, 3) := by decide +kernel
theorem dX3_letWait_10 : decode cX3_letWait 10 = .ok (.aload_n 0, 1) := by decide +kernel
theorem dX3_letWait_11 : decode cX3_letWait 11 = .ok (.getfield 27, 3) := by decide +kernel
theorem dX3_letWait_14 : decode cX3_letWait 14 = .ok (.iload_n 1, 1) := by decide +kernel
theorem dX3_letWait_15 : decode cX3_letWait 15 = .ok (.aaload, 1) := by decide +kernel
theorem dX3_letWait_16 : decode cX3_letWait 16 = .ok (.astore_n 2, 1) := by decide +kernel
theorem dX3_letWait_17 : decode cX3_letWait 17 = .ok (.aload_n 2, 1) := by decide +kernel
theorem dX3_letWait_18 : decode cX3_letWait 18 = .ok (.getfield 125, 3) := by decide +kernel
theorem dX3_letWait_21 : decode cX3_letWait 21 = .ok (.iconst 2, 1) := by decide +kernel
theorem dX3_letWait_22 : decode cX3_letWait 22 = .ok (.if_icmp .eq 6, 3) := by decide +kernel
theorem dX3_letWait_25 : decode cX3_letWait 25 = .ok (.goto 49, 3) := by decide +kernel
theorem dX3_letWait_28 : decode cX3_letWait 28 = .ok (.aload_n 2, 1) := by decide +kernel
theorem dX3_letWait_29 : decode cX3_letWait 29 = .ok (.dup, 1) := by decide +kernel
theorem dX3_letWait_30 : decode cX3_letWait 30 = .ok (.getfield 179, 3) := by decide +kernel
theorem dX3_letWait_33 : decode cX3_letWait 33 = .ok (.iconst 1, 1) := by decide +kernel
theorem dX3_letWait_34 : decode cX3_letWait 34 = .ok (.iadd, 1) := by decide +kernel
theorem dX3_letWait_35 : decode cX3_letWait 35 = .ok (.putfield 179, 3) := by decide +kernel
theorem dX3_letWait_38 : decode cX3_letWait 38 = .ok (.aload_n 0, 1) := by decide +kernel
theorem dX3_letWait_39 : decode cX3_letWait 39 = .ok (.dup, 1) := by decide +kernel
theorem dX3_letWait_40 : decode cX3_letWait 40 = .ok (.getfield 55, 3) := by decide +kernel
theorem dX3_letWait_43 : decode cX3_letWait 43 = .ok (.iconst 1, 1) := by decide +kernel
theorem dX3_letWait_44 : decode cX3_letWait 44 = .ok (.iadd, 1) := by decide +kernel
theorem dX3_letWait_45 : decode cX3_letWait 45 = .ok (.putfield 55, 3) := by decide +kernel
theorem dX3_letWait_48 : decode cX3_letWait 48 = .ok (.aload_n 2, 1) := by decide +kernel
theorem dX3_letWait_49 : decode cX3_letWait 49 = .ok (.getfield 179, 3) := by decide +kernel
theorem dX3_letWait_52 : decode cX3_letWait 52 = .ok (.aload_n 0, 1) := by decide +kernel
theorem dX3_letWait_53 : decode cX3_letWait 53 = .ok (.aload_n 2, 1) := by decide +kernel
theorem dX3_letWait_54 : decode cX3_letWait 54 = .ok (.invokevirtual 175, 3) := by decide +kernel
theorem dX3_letWait_57 : decode cX3_letWait 57 = .ok (.if_icmp .lt 17, 3) := by decide +kernel
theorem dX3_letWait_60 : decode cX3_letWait 60 = .ok (.aload_n 2, 1) := by decide +kernel
theorem dX3_letWait_61 : decode cX3_letWait 61 = .ok (.dup, 1) := by decide +kernel
theorem dX3_letWait_62 : decode cX3_letWait 62 = .ok (.getfield 90, 3) := by decide +kernel
theorem dX3_letWait_65 : decode cX3_letWait 65 = .ok (.iconst 1, 1) := by decide +kernel
theorem dX3_letWait_66 : decode cX3_letWait 66 = .ok (.iadd, 1) := by decide +kernel
theorem dX3_letWait_67 : decode cX3_letWait 67 = .ok (.putfield 90, 3) := by decide +kernel
theorem dX3_letWait_70 : decode cX3_letWait 70 = .ok (.aload_n 2, 1) := by decide +kernel
theorem dX3_letWait_71 : decode cX3_letWait 71 = .ok (.invokevirtual 172, 3) := by decide +kernel
theorem dX3_letWait_74 : decode cX3_letWait 74 = .ok (.iinc 1 1, 3) := by decide +kernel
theorem dX3_letWait_77 : decode cX3_letWait 77 = .ok (.goto (-75), 3) := by decide +kernel
theorem dX3_letWait_80 : decode cX3_letWait 80 = .ok (.return_, 1) := by decide +kernel
theorem dX3_letReachHome_0 : decode cX3_letReachHome 0 = .ok (.iconst 0, 1) := by decide +kernel
theorem dX3_letReachHome_1 : decode cX3_letReachHome 1 = .ok (.istore_n 1, 1) := by decide +kernel
theorem dX3_letReachHome_2 : decode cX3_letReachHome 2 = .ok (.iload_n 1, 1) := by decide +kernel
theorem dX3_letReachHome_3 : decode cX3_letReachHome 3 = .ok (.aload_n 0, 1) := by decide +kernel
theorem dX3_letReachHome_4 : decode cX3_letReachHome 4 = .ok (.getfield 31, 3) := by decide +kernel
theorem dX3_letReachHome_7 : decode cX3_letReachHome 7 = .ok (.if_icmp .ge 54, 3) := by decide +kernel
theorem dX3_letReachHome_10 : decode cX3_letReachHome 10 = .ok (.aload_n 0, 1) := by decide +kernel
theorem dX3_letReachHome_11 : decode cX3_letReachHome 11 = .ok (.getfield 27, 3) := by decide +kernel
theorem dX3_letReachHome_14 : decode cX3_letReachHome 14 = .ok (.iload_n 1, 1) := by decide +kernel
theorem dX3_letReachHome_15 : decode cX3_letReachHome 15 = .ok (.aaload, 1) := by decide +kernel
theorem dX3_letReachHome_16 : decode cX3_letReachHome 16 = .ok (.astore_n 2, 1) := by decide +kernel
theorem dX3_letReachHome_17 : decode cX3_letReachHome 17 = .ok (.aload_n 2, 1) := by decide +kernel
theorem dX3_letReachHome_18 : decode cX3_letReachHome 18 = .ok (.getfield 125, 3) := by decide +kernel
theorem dX3_letReachHome_21 : decode cX3_letReachHome 21 = .ok (.iconst 3, 1) := by decide +kernel
theorem dX3_letReachHome_22 : decode cX3_letReachHome 22 = .ok (.if_icmp .eq 6, 3) := by decide +kernel
theorem dX3_letReachHome_25 : decode cX3_letReachHome 25 = .ok (.goto 30, 3) := by decide +kernel
theorem dX3_letReachHome_28 : decode cX3_letReachHome 28 = .ok (.aload_n 2, 1) := by decide +kernel
theorem dX3_letReachHome_29 : decode cX3_letReachHome 29 = .ok (.dup, 1) := by decide +kernel
theorem dX3_letReachHome_30 : decode cX3_letReachHome 30 = .ok (.getfield 160, 3) := by decide +kernel
theorem dX3_letReachHome_33 : decode cX3_letReachHome 33 = .ok (.iconst 1, 1) := by decide +kernel
theorem dX3_letReachHome_34 : decode cX3_letReachHome 34 = .ok (.isub, 1) := by decide +kernel
theorem dX3_letReachHome_35 : decode cX3_letReachHome 35 = .ok (.putfield 160, 3) := by decide +kernel
theorem dX3_letReachHome_38 : decode cX3_letReachHome 38 = .ok (.aload_n 2, 1) := by decide +kernel
theorem dX3_letReachHome_39 : decode cX3_letReachHome 39 = .ok (.getfield 160, 3) := by decide +kernel
theorem dX3_letReachHome_42 : decode cX3_letReachHome 42 = .ok (.ifCond .ne 13, 3) := by decide +kernel
theorem dX3_letReachHome_45 : decode cX3_letReachHome 45 = .ok (.aload_n 2, 1) := by decide +kernel
theorem dX3_letReachHome_46 : decode cX3_letReachHome 46 = .ok (.iconst 0, 1) := by decide +kernel
theorem dX3_letReachHome_47 : decode cX3_letReachHome 47 = .ok (.putfield 84, 3) := by decide +kernel
theorem dX3_letReachHome_50 : decode cX3_letReachHome 50 = .ok (.aload_n 2, 1) := by decide +kernel
theorem dX3_letReachHome_51 : decode cX3_letReachHome 51 = .ok (.iconst 0, 1) := by decide +kernel
theorem dX3_letReachHome_52 : decode cX3_letReachHome 52 = .ok (.putfield 103, 3) := by decide +kernel
theorem dX3_letReachHome_55 : decode cX3_letReachHome 55 = .ok (.iinc 1 1, 3) := by decide +kernel
theorem dX3_letReachHome_58 : decode cX3_letReachHome 58 = .ok (.goto (-56), 3) := by decide +kernel
theorem dX3_letReachHome_61 : decode cX3_letReachHome 61 = .ok (.return_, 1) := by decide +kernel
theorem dX3_fill_0 : decode cX3_fill 0 = .ok (.iload_n 1, 1) := by decide +kernel
theorem dX3_fill_1 : decode cX3_fill 1 = .ok (.ifCond .ne 9, 3) := by decide +kernel
theorem dX3_fill_4 : decode cX3_fill 4 = .ok (.aload_n 0, 1) := by decide +kernel
theorem dX3_fill_5 : decode cX3_fill 5 = .ok (.iconst 0, 1) := by decide +kernel
theorem dX3_fill_6 : decode cX3_fill 6 = .ok (.putfield 49, 3) := by decide +kernel
theorem dX3_fill_9 : decode cX3_fill 9 = .ok (.return_, 1) := by decide +kernel
theorem dX3_fill_10 : decode cX3_fill 10 = .ok (.aload_n 0, 1) := by decide +kernel
theorem dX3_fill_11 : decode cX3_fill 11 = .ok (.dup, 1) := by decide +kernel
theorem dX3_fill_12 : decode cX3_fill 12 = .ok (.getfield 49, 3) := by decide +kernel
theorem dX3_fill_15 : decode cX3_fill 15 = .ok (.iconst 1, 1) := by decide +kernel
theorem dX3_fill_16 : decode cX3_fill 16 = .ok (.iadd, 1) := by decide +kernel
theorem dX3_fill_17 : decode cX3_fill 17 = .ok (.putfield 49, 3) := by decide +kernel
theorem dX3_fill_20 : decode cX3_fill 20 = .ok (.aload_n 0, 1) := by decide +kernel
theorem dX3_fill_21 : decode cX3_fill 21 = .ok (.getfield 49, 3) := by decide +kernel
theorem dX3_fill_24 : decode cX3_fill 24 = .ok (.aload_n 0, 1) := by decide +kernel
theorem dX3_fill_25 : decode cX3_fill 25 = .ok (.getfield 34, 3) := by decide +kernel
theorem dX3_fill_28 : decode cX3_fill 28 = .ok (.if_icmp .lt 29, 3) := by decide +kernel
theorem dX3_fill_31 : decode cX3_fill 31 = .ok (.aload_n 0, 1) := by decide +kernel
theorem dX3_fill_32 : decode cX3_fill 32 = .ok (.iconst 0, 1) := by decide +kernel
theorem dX3_fill_33 : decode cX3_fill 33 = .ok (.putfield 49, 3) := by decide +kernel
theorem dX3_fill_36 : decode cX3_fill 36 = .ok (.aload_n 0, 1) := by decide +kernel
theorem dX3_fill_37 : decode cX3_fill 37 = .ok (.getfield 40, 3) := by decide +kernel
theorem dX3_fill_40 : decode cX3_fill 40 = .ok (.aload_n 0, 1) := by decide +kernel
theorem dX3_fill_41 : decode cX3_fill 41 = .ok (.getfield 37, 3) := by decide +kernel
theorem dX3_fill_44 : decode cX3_fill 44 = .ok (.if_icmp .ge 13, 3) := by decide +kernel
theorem dX3_fill_47 : decode cX3_fill 47 = .ok (.aload_n 0, 1) := by decide +kernel
theorem dX3_fill_48 : decode cX3_fill 48 = .ok (.dup, 1) := by decide +kernel
theorem dX3_fill_49 : decode cX3_fill 49 = .ok (.getfield 40, 3) := by decide +kernel
theorem dX3_fill_52 : decode cX3_fill 52 = .ok (.iconst 1, 1) := by decide +kernel
theorem dX3_fill_53 : decode cX3_fill 53 = .ok (.iadd, 1) := by decide +kernel
theorem dX3_fill_54 : decode cX3_fill 54 = .ok (.putfield 40, 3) := by decide +kernel
theorem dX3_fill_57 : decode cX3_fill 57 = .ok (.return_, 1) := by decide +kernel
theorem dX3_endMinute_0 : decode cX3_endMinute 0 = .ok (.aload_n 0, 1) := by decide +kernel
theorem dX3_endMinute_1 : decode cX3_endMinute 1 = .ok (.dup, 1) := by decide +kernel
theorem dX3_endMinute_2 : decode cX3_endMinute 2 = .ok (.getfield 52, 3) := by decide +kernel
theorem dX3_endMinute_5 : decode cX3_endMinute 5 = .ok (.iconst 1, 1) := by decide +kernel
theorem dX3_endMinute_6 : decode cX3_endMinute 6 = .ok (.iadd, 1) := by decide +kernel
theorem dX3_endMinute_7 : decode cX3_endMinute 7 = .ok (.putfield 52, 3) := by decide +kernel
theorem dX3_endMinute_10 : decode cX3_endMinute 10 = .ok (.aload_n 0, 1) := by decide +kernel
theorem dX3_endMinute_11 : decode cX3_endMinute 11 = .ok (.getfield 52, 3) := by decide +kernel
theorem dX3_endMinute_14 : decode cX3_endMinute 14 = .ok (.sipush 1440, 3) := by decide +kernel
theorem dX3_endMinute_17 : decode cX3_endMinute 17 = .ok (.irem, 1) := by decide +kernel
theorem dX3_endMinute_18 : decode cX3_endMinute 18 = .ok (.ifCond .eq 4, 3) := by decide +kernel
theorem dX3_endMinute_21 : decode cX3_endMinute 21 = .ok (.return_, 1) := by decide +kernel
theorem dX3_endMinute_22 : decode cX3_endMinute 22 = .ok (.iconst 0, 1) := by decide +kernel
theorem dX3_endMinute_23 : decode cX3_endMinute 23 = .ok (.istore_n 1, 1) := by decide +kernel
theorem dX3_endMinute_24 : decode cX3_endMinute 24 = .ok (.iload_n 1, 1) := by decide +kernel
theorem dX3_endMinute_25 : decode cX3_endMinute 25 = .ok (.aload_n 0, 1) := by decide +kernel
theorem dX3_endMinute_26 : decode cX3_endMinute 26 = .ok (.getfield 31, 3) := by decide +kernel
theorem dX3_endMinute_29 : decode cX3_endMinute 29 = .ok (.if_icmp .ge 27, 3) := by decide +kernel
theorem dX3_endMinute_32 : decode cX3_endMinute 32 = .ok (.aload_n 0, 1) := by decide +kernel
theorem dX3_endMinute_33 : decode cX3_endMinute 33 = .ok (.getfield 27, 3) := by decide +kernel
theorem dX3_endMinute_36 : decode cX3_endMinute 36 = .ok (.iload_n 1, 1) := by decide +kernel
theorem dX3_endMinute_37 : decode cX3_endMinute 37 = .ok (.aaload, 1) := by decide +kernel
theorem dX3_endMinute_38 : decode cX3_endMinute 38 = .ok (.aload_n 0, 1) := by decide +kernel
theorem dX3_endMinute_39 : decode cX3_endMinute 39 = .ok (.getfield 27, 3) := by decide +kernel
theorem dX3_endMinute_42 : decode cX3_endMinute 42 = .ok (.iload_n 1, 1) := by decide +kernel
theorem dX3_endMinute_43 : decode cX3_endMinute 43 = .ok (.aaload, 1) := by decide +kernel
theorem dX3_endMinute_44 : decode cX3_endMinute 44 = .ok (.getfield 182, 3) := by decide +kernel
theorem dX3_endMinute_47 : decode cX3_endMinute 47 = .ok (.putfield 148, 3) := by decide +kernel
theorem dX3_endMinute_50 : decode cX3_endMinute 50 = .ok (.iinc 1 1, 3) := by decide +kernel
theorem dX3_endMinute_53 : decode cX3_endMinute 53 = .ok (.goto (-29), 3) := by decide +kernel
theorem dX3_endMinute_56 : decode cX3_endMinute 56 = .ok (.return_, 1) := by decide +kernel
theorem dX3_keepOthersHome_0 : decode cX3_keepOthersHome 0 = .ok (.iconst 0, 1) := by decide +kernel
theorem dX3_keepOthersHome_1 : decode cX3_keepOthersHome 1 = .ok (.istore_n 2, 1) := by decide +kernel
theorem dX3_keepOthersHome_2 : decode cX3_keepOthersHome 2 = .ok (.iload_n 2, 1) := by decide +kernel
theorem dX3_keepOthersHome_3 : decode cX3_keepOthersHome 3 = .ok (.aload_n 0, 1) := by decide +kernel
theorem dX3_keepOthersHome_4 : decode cX3_keepOthersHome 4 = .ok (.getfield 31, 3) := by decide +kernel
theorem dX3_keepOthersHome_7 : decode cX3_keepOthersHome 7 = .ok (.if_icmp .ge 47, 3) := by decide +kernel
theorem dX3_keepOthersHome_10 : decode cX3_keepOthersHome 10 = .ok (.iload_n 2, 1) := by decide +kernel
theorem dX3_keepOthersHome_11 : decode cX3_keepOthersHome 11 = .ok (.iload_n 1, 1) := by decide +kernel
theorem dX3_keepOthersHome_12 : decode cX3_keepOthersHome 12 = .ok (.if_icmp .ne 6, 3) := by decide +kernel
theorem dX3_keepOthersHome_15 : decode cX3_keepOthersHome 15 = .ok (.goto 33, 3) := by decide +kernel
theorem dX3_keepOthersHome_18 : decode cX3_keepOthersHome 18 = .ok (.aload_n 0, 1) := by decide +kernel
theorem dX3_keepOthersHome_19 : decode cX3_keepOthersHome 19 = .ok (.getfield 27, 3) := by decide +kernel
theorem dX3_keepOthersHome_22 : decode cX3_keepOthersHome 22 = .ok (.iload_n 2, 1) := by decide +kernel
theorem dX3_keepOthersHome_23 : decode cX3_keepOthersHome 23 = .ok (.aaload, 1) := by decide +kernel
theorem dX3_keepOthersHome_24 : decode cX3_keepOthersHome 24 = .ok (.iconst 0, 1) := by decide +kernel
theorem dX3_keepOthersHome_25 : decode cX3_keepOthersHome 25 = .ok (.putfield 84, 3) := by decide +kernel
theorem dX3_keepOthersHome_28 : decode cX3_keepOthersHome 28 = .ok (.aload_n 0, 1) := by decide +kernel
theorem dX3_keepOthersHome_29 : decode cX3_keepOthersHome 29 = .ok (.getfield 27, 3) := by decide +kernel
theorem dX3_keepOthersHome_32 : decode cX3_keepOthersHome 32 = .ok (.iload_n 2, 1) := by decide +kernel
theorem dX3_keepOthersHome_33 : decode cX3_keepOthersHome 33 = .ok (.aaload, 1) := by decide +kernel
theorem dX3_keepOthersHome_34 : decode cX3_keepOthersHome 34 = .ok (.iconst 0, 1) := by decide +kernel
theorem dX3_keepOthersHome_35 : decode cX3_keepOthersHome 35 = .ok (.putfield 148, 3) := by decide +kernel
theorem dX3_keepOthersHome_38 : decode cX3_keepOthersHome 38 = .ok (.aload_n 0, 1) := by decide +kernel
theorem dX3_keepOthersHome_39 : decode cX3_keepOthersHome 39 = .ok (.getfield 27, 3) := by decide +kernel
theorem dX3_keepOthersHome_42 : decode cX3_keepOthersHome 42 = .ok (.iload_n 2, 1) := by decide +kernel
theorem dX3_keepOthersHome_43 : decode cX3_keepOthersHome 43 = .ok (.aaload, 1) := by decide +kernel
theorem dX3_keepOthersHome_44 : decode cX3_keepOthersHome 44 = .ok (.iconst 0, 1) := by decide +kernel
theorem dX3_keepOthersHome_45 : decode cX3_keepOthersHome 45 = .ok (.putfield 182, 3) := by decide +kernel
theorem dX3_keepOthersHome_48 : decode cX3_keepOthersHome 48 = .ok (.iinc 2 1, 3) := by decide +kernel
theorem dX3_keepOthersHome_51 : decode cX3_keepOthersHome 51 = .ok (.goto (-49), 3) := by decide +kernel
theorem dX3_keepOthersHome_54 : decode cX3_keepOthersHome 54 = .ok (.return_, 1) := by decide +kernel
theorem dX3_differences_0 : decode cX3_differences 0 = .ok (.iload_n 2, 1) := by decide +kernel
theorem dX3_differences_1 : decode cX3_differences 1 = .ok (.ifCond .gt 5, 3) := by decide +kernel
theorem dX3_differences_4 : decode cX3_differences 4 = .ok (.iconst 0, 1) := by decide +kernel
theorem dX3_differences_5 : decode cX3_differences 5 = .ok (.ireturn, 1) := by decide +kernel
theorem dX3_differences_6 : decode cX3_differences 6 = .ok (.iconst 0, 1) := by decide +kernel
theorem dX3_differences_7 : decode cX3_differences 7 = .ok (.istore_n 3, 1) := by decide +kernel
theorem dX3_differences_8 : decode cX3_differences 8 = .ok (.iconst 0, 1) := by decide +kernel
theorem dX3_differences_9 : decode cX3_differences 9 = .ok (.istore 4, 2) := by decide +kernel
theorem dX3_differences_11 : decode cX3_differences 11 = .ok (.iload 4, 2) := by decide +kernel
theorem dX3_differences_13 : decode cX3_differences 13 = .ok (.aload_n 1, 1) := by decide +kernel
theorem dX3_differences_14 : decode cX3_differences 14 = .ok (.getfield 185, 3) := by decide +kernel
theorem dX3_differences_17 : decode cX3_differences 17 = .ok (.if_icmp .ge 83, 3) := by decide +kernel
theorem dX3_differences_20 : decode cX3_differences 20 = .ok (.iload 4, 2) := by decide +kernel
theorem dX3_differences_22 : decode cX3_differences 22 = .ok (.aload_n 1, 1) := by decide +kernel
theorem dX3_differences_23 : decode cX3_differences 23 = .ok (.getfield 188, 3) := by decide +kernel
theorem dX3_differences_26 : decode cX3_differences 26 = .ok (.arraylength, 1) := by decide +kernel
theorem dX3_differences_27 : decode cX3_differences 27 = .ok (.if_icmp .ge 73, 3) := by decide +kernel
theorem dX3_differences_30 : decode cX3_differences 30 = .ok (.aload_n 1, 1) := by decide +kernel
theorem dX3_differences_31 : decode cX3_differences 31 = .ok (.getfield 188, 3) := by decide +kernel
theorem dX3_differences_34 : decode cX3_differences 34 = .ok (.iload 4, 2) := by decide +kernel
theorem dX3_differences_36 : decode cX3_differences 36 = .ok (.iaload, 1) := by decide +kernel
theorem dX3_differences_37 : decode cX3_differences 37 = .ok (.ldc 191, 2) := by decide +kernel
theorem dX3_differences_39 : decode cX3_differences 39 = .ok (.if_icmp .ne 6, 3) := by decide +kernel
theorem dX3_differences_42 : decode cX3_differences 42 = .ok (.goto 52, 3) := by decide +kernel
theorem dX3_differences_45 : decode cX3_differences 45 = .ok (.aload_n 0, 1) := by decide +kernel
theorem dX3_differences_46 : decode cX3_differences 46 = .ok (.getfield 37, 3) := by decide +kernel
theorem dX3_differences_49 : decode cX3_differences 49 = .ok (.aload_n 0, 1) := by decide +kernel
theorem dX3_differences_50 : decode cX3_differences 50 = .ok (.getfield 40, 3) := by decide +kernel
theorem dX3_differences_53 : decode cX3_differences 53 = .ok (.aload_n 0, 1) := by decide +kernel
theorem dX3_differences_54 : decode cX3_differences 54 = .ok (.getfield 49, 3) := by decide +kernel
theorem dX3_differences_57 : decode cX3_differences 57 = .ok (.bipush 10, 2) := by decide +kernel
theorem dX3_differences_59 : decode cX3_differences 59 = .ok (.iload 4, 2) := by decide +kernel
theorem dX3_differences_61 : decode cX3_differences 61 = .ok (.imul, 1) := by decide +kernel
theorem dX3_differences_62 : decode cX3_differences 62 = .ok (.iadd, 1) := by decide +kernel
theorem dX3_differences_63 : decode cX3_differences 63 = .ok (.iload_n 2, 1) := by decide +kernel
theorem dX3_differences_64 : decode cX3_differences 64 = .ok (.idiv, 1) := by decide +kernel
theorem dX3_differences_65 : decode cX3_differences 65 = .ok (.iadd, 1) := by decide +kernel
theorem dX3_differences_66 : decode cX3_differences 66 = .ok (.invokestatic 166, 3) := by decide +kernel
theorem dX3_differences_69 : decode cX3_differences 69 = .ok (.istore 5, 2) := by decide +kernel
theorem dX3_differences_71 : decode cX3_differences 71 = .ok (.iload_n 3, 1) := by decide +kernel
theorem dX3_differences_72 : decode cX3_differences 72 = .ok (.aload_n 0, 1) := by decide +kernel
theorem dX3_differences_73 : decode cX3_differences 73 = .ok (.getfield 40, 3) := by decide +kernel
theorem dX3_differences_76 : decode cX3_differences 76 = .ok (.iload 5, 2) := by decide +kernel
theorem dX3_differences_78 : decode cX3_differences 78 = .ok (.invokestatic 192, 3) := by decide +kernel
theorem dX3_differences_81 : decode cX3_differences 81 = .ok (.aload_n 1, 1) := by decide +kernel
theorem dX3_differences_82 : decode cX3_differences 82 = .ok (.getfield 188, 3) := by decide +kernel
theorem dX3_differences_85 : decode cX3_differences 85 = .ok (.iload 4, 2) := by decide +kernel
theorem dX3_differences_87 : decode cX3_differences 87 = .ok (.iaload, 1) := by decide +kernel
theorem dX3_differences_88 : decode cX3_differences 88 = .ok (.isub, 1) := by decide +kernel
theorem dX3_differences_89 : decode cX3_differences 89 = .ok (.invokestatic 195, 3) := by decide +kernel
theorem dX3_differences_92 : decode cX3_differences 92 = .ok (.iadd, 1) := by decide +kernel
theorem dX3_differences_93 : decode cX3_differences 93 = .ok (.istore_n 3, 1) := by decide +kernel
theorem dX3_differences_94 : decode cX3_differences 94 = .ok (.iinc 4 1, 3) := by decide +kernel
theorem dX3_differences_97 : decode cX3_differences 97 = .ok (.goto (-86), 3) := by decide +kernel
theorem dX3_differences_100 : decode cX3_differences 100 = .ok (.iload_n 3, 1) := by decide +kernel
theorem dX3_differences_101 : decode cX3_differences 101 = .ok (.ireturn, 1) := by decide +kernel
theorem dX4_init_0 : decode cX4_init 0 = .ok (.aload_n 0, 1) := by decide +kernel
theorem dX4_init_1 : decode cX4_init 1 = .ok (.invokespecial 3, 3) := by decide +kernel
theorem dX4_init_4 : decode cX4_init 4 = .ok (.aload_n 0, 1) := by decide +kernel
theorem dX4_init_5 : decode cX4_init 5 = .ok (.bipush 24, 2) := by decide +kernel
theorem dX4_init_7 : decode cX4_init 7 = .ok (.newarray .int, 2) := by decide +kernel
theorem dX4_init_9 : decode cX4_init 9 = .ok (.putfield 9, 3) := by decide +kernel
theorem dX4_init_12 : decode cX4_init 12 = .ok (.aload_n 0, 1) := by decide +kernel
theorem dX4_init_13 : decode cX4_init 13 = .ok (.iconst (-1), 1) := by decide +kernel
theorem dX4_init_14 : decode cX4_init 14 = .ok (.putfield 15, 3) := by decide +kernel
theorem dX4_init_17 : decode cX4_init 17 = .ok (.aload_n 0, 1) := by decide +kernel
theorem dX4_init_18 : decode cX4_init 18 = .ok (.iconst 0, 1) := by decide +kernel
theorem dX4_init_19 : decode cX4_init 19 = .ok (.putfield 19, 3) := by decide +kernel
theorem dX4_init_22 : decode cX4_init 22 = .ok (.return_, 1) := by decide +kernel
theorem dX4_start_0 : decode cX4_start 0 = .ok (.aload_n 0, 1) := by decide +kernel
theorem dX4_start_1 : decode cX4_start 1 = .ok (.iload_n 1, 1) := by decide +kernel
theorem dX4_start_2 : decode cX4_start 2 = .ok (.putfield 15, 3) := by decide +kernel
theorem dX4_start_5 : decode cX4_start 5 = .ok (.aload_n 0, 1) := by decide +kernel
theorem dX4_start_6 : decode cX4_start 6 = .ok (.iload_n 2, 1) := by decide +kernel
theorem dX4_start_7 : decode cX4_start 7 = .ok (.iconst 0, 1) := by decide +kernel
theorem dX4_start_8 : decode cX4_start 8 = .ok (.aload_n 0, 1) := by decide +kernel
theorem dX4_start_9 : decode cX4_start 9 = .ok (.getfield 9, 3) := by decide +kernel
theorem dX4_start_12 : decode cX4_start 12 = .ok (.arraylength, 1) := by decide +kernel
theorem dX4_start_13 : decode cX4_start 13 = .ok (.invokestatic 22, 3) := by decide +kernel
theorem dX4_start_16 : decode cX4_start 16 = .ok (.putfield 19, 3) := by decide +kernel
theorem dX4_start_19 : decode cX4_start 19 = .ok (.aload_n 0, 1) := by decide +kernel
theorem dX4_start_20 : decode cX4_start 20 = .ok (.getfield 9, 3) := by decide +kernel
theorem dX4_start_23 : decode cX4_start 23 = .ok (.iconst 0, 1) := by decide +kernel
theorem dX4_start_24 : decode cX4_start 24 = .ok (.invokestatic 26, 3) := by decide +kernel
theorem dX4_start_27 : decode cX4_start 27 = .ok (.return_, 1) := by decide +kernel
theorem dX4_become_0 : decode cX4_become 0 = .ok (.aload_n 0, 1) := by decide +kernel
theorem dX4_become_1 : decode cX4_become 1 = .ok (.aload_n 1, 1) := by decide +kernel
theorem dX4_become_2 : decode cX4_become 2 = .ok (.getfield 15, 3) := by decide +kernel
theorem dX4_become_5 : decode cX4_become 5 = .ok (.putfield 15, 3) := by decide +kernel
theorem dX4_become_8 : decode cX4_become 8 = .ok (.aload_n 0, 1) := by decide +kernel
theorem dX4_become_9 : decode cX4_become 9 = .ok (.aload_n 1, 1) := by decide +kernel
theorem dX4_become_10 : decode cX4_become 10 = .ok (.getfield 19, 3) := by decide +kernel
theorem dX4_become_13 : decode cX4_become 13 = .ok (.putfield 19, 3) := by decide +kernel
theorem dX4_become_16 : decode cX4_become 16 = .ok (.aload_n 1, 1) := by decide +kernel
theorem dX4_become_17 : decode cX4_become 17 = .ok (.getfield 9, 3) := by decide +kernel
theorem dX4_become_20 : decode cX4_become 20 = .ok (.iconst 0, 1) := by decide +kernel
theorem dX4_become_21 : decode cX4_become 21 = .ok (.aload_n 0, 1) := by decide +kernel
theorem dX4_become_22 : decode cX4_become 22 = .ok (.getfield 9, 3) := by decide +kernel
theorem dX4_become_25 : decode cX4_become 25 = .ok (.iconst 0, 1) := by decide +kernel
theorem dX4_become_26 : decode cX4_become 26 = .ok (.bipush 24, 2) := by decide +kernel
theorem dX4_become_28 : decode cX4_become 28 = .ok (.invokestatic 32, 3) := by decide +kernel
theorem dX4_become_31 : decode cX4_become 31 = .ok (.return_, 1) := by decide +kernel
theorem dX4_hasPlaces_0 : decode cX4_hasPlaces 0 = .ok (.iload_n 1, 1) := by decide +kernel
theorem dX4_hasPlaces_1 : decode cX4_hasPlaces 1 = .ok (.ifCond .lt 29, 3) := by decide +kernel
theorem dX4_hasPlaces_4 : decode cX4_hasPlaces 4 = .ok (.iload_n 2, 1) := by decide +kernel
theorem dX4_hasPlaces_5 : decode cX4_hasPlaces 5 = .ok (.ifCond .lt 25, 3) := by decide +kernel
theorem dX4_hasPlaces_8 : decode cX4_hasPlaces 8 = .ok (.iload_n 2, 1) := by decide +kernel
theorem dX4_hasPlaces_9 : decode cX4_hasPlaces 9 = .ok (.aload_n 0, 1) := by decide +kernel
theorem dX4_hasPlaces_10 : decode cX4_hasPlaces 10 = .ok (.getfield 19, 3) := by decide +kernel
theorem dX4_hasPlaces_13 : decode cX4_hasPlaces 13 = .ok (.if_icmp .gt 17, 3) := by decide +kernel
theorem dX4_hasPlaces_16 : decode cX4_hasPlaces 16 = .ok (.iload_n 1, 1) := by decide +kernel
theorem dX4_hasPlaces_17 : decode cX4_hasPlaces 17 = .ok (.aload_n 0, 1) := by decide +kernel
theorem dX4_hasPlaces_18 : decode cX4_hasPlaces 18 = .ok (.getfield 19, 3) := by decide +kernel
theorem dX4_hasPlaces_21 : decode cX4_hasPlaces 21 = .ok (.iload_n 2, 1) := by decide +kernel
theorem dX4_hasPlaces_22 : decode cX4_hasPlaces 22 = .ok (.isub, 1) := by decide +kernel
theorem dX4_hasPlaces_23 : decode cX4_hasPlaces 23 = .ok (.if_icmp .gt 7, 3) := by decide +kernel
theorem dX4_hasPlaces_26 : decode cX4_hasPlaces 26 = .ok (.iconst 1, 1) := by decide +kernel
theorem dX4_hasPlaces_27 : decode cX4_hasPlaces 27 = .ok (.goto 4, 3) := by decide +kernel
theorem dX4_hasPlaces_30 : decode cX4_hasPlaces 30 = .ok (.iconst 0, 1) := by decide +kernel
theorem dX4_hasPlaces_31 : decode cX4_hasPlaces 31 = .ok (.ireturn, 1) := by decide +kernel
theorem dX5_init_0 : decode cX5_init 0 = .ok (.aload_n 0, 1) := by decide +kernel
theorem dX5_init_1 : decode cX5_init 1 = .ok (.invokespecial 3, 3) := by decide +kernel
theorem dX5_init_4 : decode cX5_init 4 = .ok (.aload_n 0, 1) := by decide +kernel
theorem dX5_init_5 : decode cX5_init 5 = .ok (.new 9, 3) := by decide +kernel
theorem dX5_init_8 : decode cX5_init 8 = .ok (.dup, 1) := by decide +kernel
theorem dX5_init_9 : decode cX5_init 9 = .ok (.invokespecial 11, 3) := by decide +kernel
theorem dX5_init_12 : decode cX5_init 12 = .ok (.putfield 12, 3) := by decide +kernel
theorem dX5_init_15 : decode cX5_init 15 = .ok (.aload_n 0, 1) := by decide +kernel
theorem dX5_init_16 : decode cX5_init 16 = .ok (.new 18, 3) := by decide +kernel
theorem dX5_init_19 : decode cX5_init 19 = .ok (.dup, 1) := by decide +kernel
theorem dX5_init_20 : decode cX5_init 20 = .ok (.invokespecial 20, 3) := by decide +kernel
theorem dX5_init_23 : decode cX5_init 23 = .ok (.putfield 21, 3) := by decide +kernel
theorem dX5_init_26 : decode cX5_init 26 = .ok (.aload_n 0, 1) := by decide +kernel
theorem dX5_init_27 : decode cX5_init 27 = .ok (.iconst 0, 1) := by decide +kernel
theorem dX5_init_28 : decode cX5_init 28 = .ok (.putfield 25, 3) := by decide +kernel
theorem dX5_init_31 : decode cX5_init 31 = .ok (.aload_n 0, 1) := by decide +kernel
theorem dX5_init_32 : decode cX5_init 32 = .ok (.iconst 0, 1) := by decide +kernel
theorem dX5_init_33 : decode cX5_init 33 = .ok (.putfield 29, 3) := by decide +kernel
theorem dX5_init_36 : decode cX5_init 36 = .ok (.return_, 1) := by decide +kernel
theorem dX6_init_0 : decode cX6_init 0 = .ok (.aload_n 0, 1) := by decide +kernel
theorem dX6_init_1 : decode cX6_init 1 = .ok (.invokespecial 1, 3) := by decide +kernel
theorem dX6_init_4 : decode cX6_init 4 = .ok (.aload_n 0, 1) := by decide +kernel
theorem dX6_init_5 : decode cX6_init 5 = .ok (.iload_n 1, 1) := by decide +kernel
theorem dX6_init_6 : decode cX6_init 6 = .ok (.putfield 7, 3) := by decide +kernel
theorem dX6_init_9 : decode cX6_init 9 = .ok (.aload_n 0, 1) := by decide +kernel
theorem dX6_init_10 : decode cX6_init 10 = .ok (.iload_n 2, 1) := by decide +kernel
theorem dX6_init_11 : decode cX6_init 11 = .ok (.putfield 13, 3) := by decide +kernel
theorem dX6_init_14 : decode cX6_init 14 = .ok (.aload_n 0, 1) := by decide +kernel
theorem dX6_init_15 : decode cX6_init 15 = .ok (.aload_n 3, 1) := by decide +kernel
theorem dX6_init_16 : decode cX6_init 16 = .ok (.putfield 16, 3) := by decide +kernel
theorem dX6_init_19 : decode cX6_init 19 = .ok (.aload_n 0, 1) := by decide +kernel
theorem dX6_init_20 : decode cX6_init 20 = .ok (.iconst 0, 1) := by decide +kernel
theorem dX6_init_21 : decode cX6_init 21 = .ok (.iload_n 2, 1) := by decide +kernel
theorem dX6_init_22 : decode cX6_init 22 = .ok (.invokestatic 20, 3) := by decide +kernel
theorem dX6_init_25 : decode cX6_init 25 = .ok (.newarray .int, 2) := by decide +kernel
theorem dX6_init_27 : decode cX6_init 27 = .ok (.putfield 26, 3) := by decide +kernel
theorem dX6_init_30 : decode cX6_init 30 = .ok (.return_, 1) := by decide +kernel
theorem dX6_value_0 : decode cX6_value 0 = .ok (.iconst 0, 1) := by decide +kernel
theorem dX6_value_1 : decode cX6_value 1 = .ok (.istore 4, 2) := by decide +kernel
theorem dX6_value_3 : decode cX6_value 3 = .ok (.aload_n 0, 1) := by decide +kernel
theorem dX6_value_4 : decode cX6_value 4 = .ok (.getfield 16, 3) := by decide +kernel
theorem dX6_value_7 : decode cX6_value 7 = .ok (.astore 5, 2) := by decide +kernel
theorem dX6_value_9 : decode cX6_value 9 = .ok (.aload 5, 2) := by decide +kernel
theorem dX6_value_11 : decode cX6_value 11 = .ok (.arraylength, 1) := by decide +kernel
theorem dX6_value_12 : decode cX6_value 12 = .ok (.istore 6, 2) := by decide +kernel
theorem dX6_value_14 : decode cX6_value 14 = .ok (.iconst 0, 1) := by decide +kernel
theorem dX6_value_15 : decode cX6_value 15 = .ok (.istore 7, 2) := by decide +kernel
theorem dX6_value_17 : decode cX6_value 17 = .ok (.iload 7, 2) := by decide +kernel
theorem dX6_value_19 : decode cX6_value 19 = .ok (.iload 6, 2) := by decide +kernel
theorem dX6_value_21 : decode cX6_value 21 = .ok (.if_icmp .ge 159, 3) := by decide +kernel
theorem dX6_value_24 : decode cX6_value 24 = .ok (.aload 5, 2) := by decide +kernel
theorem dX6_value_26 : decode cX6_value 26 = .ok (.iload 7, 2) := by decide +kernel
theorem dX6_value_28 : decode cX6_value 28 = .ok (.iaload, 1) := by decide +kernel
theorem dX6_value_29 : decode cX6_value 29 = .ok (.istore 8, 2) := by decide +kernel
theorem dX6_value_31 : decode cX6_value 31 = .ok (.iload 8, 2) := by decide +kernel
theorem dX6_value_33 : decode cX6_value 33 = .ok (.bipush (-33), 2) := by decide +kernel
theorem dX6_value_35 : decode cX6_value 35 = .ok (.if_icmp .ne 37, 3) := by decide +kernel
theorem dX6_value_38 : decode cX6_value 38 = .ok (.iload 4, 2) := by decide +kernel
theorem dX6_value_40 : decode cX6_value 40 = .ok (.ifCond .le 134, 3) := by decide +kernel
theorem dX6_value_43 : decode cX6_value 43 = .ok (.aload_n 0, 1) := by decide +kernel
theorem dX6_value_44 : decode cX6_value 44 = .ok (.getfield 26, 3) := by decide +kernel
theorem dX6_value_47 : decode cX6_value 47 = .ok (.iload 4, 2) := by decide +kernel
theorem dX6_value_49 : decode cX6_value 49 = .ok (.iconst 1, 1) := by decide +kernel
theorem dX6_value_50 : decode cX6_value 50 = .ok (.isub, 1) := by decide +kernel
theorem dX6_value_51 : decode cX6_value 51 = .ok (.aload_n 0, 1) := by decide +kernel
theorem dX6_value_52 : decode cX6_value 52 = .ok (.getfield 26, 3) := by decide +kernel
theorem dX6_value_55 : decode cX6_value 55 = .ok (.iload 4, 2) := by decide +kernel
theorem dX6_value_57 : decode cX6_value 57 = .ok (.iconst 1, 1) := by decide +kernel
theorem dX6_value_58 : decode cX6_value 58 = .ok (.isub, 1) := by decide +kernel
theorem dX6_value_59 : decode cX6_value 59 = .ok (.iaload, 1) := by decide +kernel
theorem dX6_value_60 : decode cX6_value 60 = .ok (.ifCond .ne 7, 3) := by decide +kernel
theorem dX6_value_63 : decode cX6_value 63 = .ok (.iconst 1, 1) := by decide +kernel
theorem dX6_value_64 : decode cX6_value 64 = .ok (.goto 4, 3) := by decide +kernel
theorem dX6_value_67 : decode cX6_value 67 = .ok (.iconst 0, 1) := by decide +kernel
theorem dX6_value_68 : decode cX6_value 68 = .ok (.iastore, 1) := by decide +kernel
theorem dX6_value_69 : decode cX6_value 69 = .ok (.goto 105, 3) := by decide +kernel
theorem dX6_value_72 : decode cX6_value 72 = .ok (.iload 8, 2) := by decide +kernel
theorem dX6_value_74 : decode cX6_value 74 = .ok (.bipush (-3), 2) := by decide +kernel
theorem dX6_value_76 : decode cX6_value 76 = .ok (.if_icmp .ge 46, 3) := by decide +kernel
theorem dX6_value_79 : decode cX6_value 79 = .ok (.iload 4, 2) := by decide +kernel
theorem dX6_value_81 : decode cX6_value 81 = .ok (.iconst 1, 1) := by decide +kernel
theorem dX6_value_82 : decode cX6_value 82 = .ok (.if_icmp .le 92, 3) := by decide +kernel
theorem dX6_value_85 : decode cX6_value 85 = .ok (.iinc 4 (-1), 3) := by decide +kernel
theorem dX6_value_88 : decode cX6_value 88 = .ok (.aload_n 0, 1) := by decide +kernel
theorem dX6_value_89 : decode cX6_value 89 = .ok (.getfield 26, 3) := by decide +kernel
theorem dX6_value_92 : decode cX6_value 92 = .ok (.iload 4, 2) := by decide +kernel
theorem dX6_value_94 : decode cX6_value 94 = .ok (.iconst 1, 1) := by decide +kernel
theorem dX6_value_95 : decode cX6_value 95 = .ok (.isub, 1) := by decide +kernel
theorem dX6_value_96 : decode cX6_value 96 = .ok (.iload 8, 2) := by decide +kernel
theorem dX6_value_98 : decode cX6_value 98 = .ok (.ineg, 1) := by decide +kernel
theorem dX6_value_99 : decode cX6_value 99 = .ok (.aload_n 0, 1) := by decide +kernel
theorem dX6_value_100 : decode cX6_value 100 = .ok (.getfield 26, 3) := by decide +kernel
theorem dX6_value_103 : decode cX6_value 103 = .ok (.iload 4, 2) := by decide +kernel
theorem dX6_value_105 : decode cX6_value 105 = .ok (.iconst 1, 1) := by decide +kernel
theorem dX6_value_106 : decode cX6_value 106 = .ok (.isub, 1) := by decide +kernel
theorem dX6_value_107 : decode cX6_value 107 = .ok (.iaload, 1) := by decide +kernel
theorem dX6_value_108 : decode cX6_value 108 = .ok (.aload_n 0, 1) := by decide +kernel
theorem dX6_value_109 : decode cX6_value 109 = .ok (.getfield 26, 3) := by decide +kernel
theorem dX6_value_112 : decode cX6_value 112 = .ok (.iload 4, 2) := by decide +kernel
theorem dX6_value_114 : decode cX6_value 114 = .ok (.iaload, 1) := by decide +kernel
theorem dX6_value_115 : decode cX6_value 115 = .ok (.invokestatic 29, 3) := by decide +kernel
theorem dX6_value_118 : decode cX6_value 118 = .ok (.iastore, 1) := by decide +kernel
theorem dX6_value_119 : decode cX6_value 119 = .ok (.goto 55, 3) := by decide +kernel
theorem dX6_value_122 : decode cX6_value 122 = .ok (.iload 4, 2) := by decide +kernel
theorem dX6_value_124 : decode cX6_value 124 = .ok (.aload_n 0, 1) := by decide +kernel
theorem dX6_value_125 : decode cX6_value 125 = .ok (.getfield 26, 3) := by decide +kernel
theorem dX6_value_128 : decode cX6_value 128 = .ok (.arraylength, 1) := by decide +kernel
theorem dX6_value_129 : decode cX6_value 129 = .ok (.if_icmp .ge 45, 3) := by decide +kernel
theorem dX6_value_132 : decode cX6_value 132 = .ok (.aload_n 0, 1) := by decide +kernel
theorem dX6_value_133 : decode cX6_value 133 = .ok (.getfield 26, 3) := by decide +kernel
theorem dX6_value_136 : decode cX6_value 136 = .ok (.iload 4, 2) := by decide +kernel
theorem dX6_value_138 : decode cX6_value 138 = .ok (.iload 8, 2) := by decide +kernel
theorem dX6_value_140 : decode cX6_value 140 = .ok (.ifCond .lt 8, 3) := by decide +kernel
theorem dX6_value_143 : decode cX6_value 143 = .ok (.iload 8, 2) := by decide +kernel
theorem dX6_value_145 : decode cX6_value 145 = .ok (.goto 25, 3) := by decide +kernel
theorem dX6_value_148 : decode cX6_value 148 = .ok (.iload 8, 2) := by decide +kernel
theorem dX6_value_150 : decode cX6_value 150 = .ok (.iconst (-1), 1) := by decide +kernel
theorem dX6_value_151 : decode cX6_value 151 = .ok (.if_icmp .ne 7, 3) := by decide +kernel
theorem dX6_value_154 : decode cX6_value 154 = .ok (.iload_n 1, 1) := by decide +kernel
theorem dX6_value_155 : decode cX6_value 155 = .ok (.goto 15, 3) := by decide +kernel
theorem dX6_value_158 : decode cX6_value 158 = .ok (.iload 8, 2) := by decide +kernel
theorem dX6_value_160 : decode cX6_value 160 = .ok (.bipush (-2), 2) := by decide +kernel
theorem dX6_value_162 : decode cX6_value 162 = .ok (.if_icmp .ne 7, 3) := by decide +kernel
theorem dX6_value_165 : decode cX6_value 165 = .ok (.iload_n 2, 1) := by decide +kernel
theorem dX6_value_166 : decode cX6_value 166 = .ok (.goto 4, 3) := by decide +kernel
theorem dX6_value_169 : decode cX6_value 169 = .ok (.iload_n 3, 1) := by decide +kernel
theorem dX6_value_170 : decode cX6_value 170 = .ok (.iastore, 1) := by decide +kernel
theorem dX6_value_171 : decode cX6_value 171 = .ok (.iinc 4 1, 3) := by decide +kernel
theorem dX6_value_174 : decode cX6_value 174 = .ok (.iinc 7 1, 3) := by decide +kernel
theorem dX6_value_177 : decode cX6_value 177 = .ok (.goto (-160), 3) := by decide +kernel
theorem dX6_value_180 : decode cX6_value 180 = .ok (.iload 4, 2) := by decide +kernel
theorem dX6_value_182 : decode cX6_value 182 = .ok (.ifCond .le 12, 3) := by decide +kernel
theorem dX6_value_185 : decode cX6_value 185 = .ok (.aload_n 0, 1) := by decide +kernel
theorem dX6_value_186 : decode cX6_value 186 = .ok (.getfield 26, 3) := by decide +kernel
theorem dX6_value_189 : decode cX6_value 189 = .ok (.iconst 0, 1) := by decide +kernel
theorem dX6_value_190 : decode cX6_value 190 = .ok (.iaload, 1) := by decide +kernel
theorem dX6_value_191 : decode cX6_value 191 = .ok (.goto 4, 3) := by decide +kernel
theorem dX6_value_194 : decode cX6_value 194 = .ok (.iconst 0, 1) := by decide +kernel
theorem dX6_value_195 : decode cX6_value 195 = .ok (.ireturn, 1) := by decide +kernel
theorem dX6_joined_0 : decode cX6_joined 0 = .ok (.iload_n 0, 1) := by decide +kernel
theorem dX6_joined_1 : decode cX6_joined 1 = .ok (.lookupswitch 148 #[(38, 89), (42, 144), (43, 136), (45, 140), (60, 103), (61, 114), (62, 125), (124, 75)], 75) := by decide +kernel
theorem dX6_joined_76 : decode cX6_joined 76 = .ok (.iload_n 1, 1) := by decide +kernel
theorem dX6_joined_77 : decode cX6_joined 77 = .ok (.ifCond .ne 7, 3) := by decide +kernel
theorem dX6_joined_80 : decode cX6_joined 80 = .ok (.iload_n 2, 1) := by decide +kernel
theorem dX6_joined_81 : decode cX6_joined 81 = .ok (.ifCond .eq 7, 3) := by decide +kernel
theorem dX6_joined_84 : decode cX6_joined 84 = .ok (.iconst 1, 1) := by decide +kernel
theorem dX6_joined_85 : decode cX6_joined 85 = .ok (.goto 4, 3) := by decide +kernel
theorem dX6_joined_88 : decode cX6_joined 88 = .ok (.iconst 0, 1) := by decide +kernel
theorem dX6_joined_89 : decode cX6_joined 89 = .ok (.ireturn, 1) := by decide +kernel
theorem dX6_joined_90 : decode cX6_joined 90 = .ok (.iload_n 1, 1) := by decide +kernel
theorem dX6_joined_91 : decode cX6_joined 91 = .ok (.ifCond .eq 11, 3) := by decide +kernel
theorem dX6_joined_94 : decode cX6_joined 94 = .ok (.iload_n 2, 1) := by decide +kernel
theorem dX6_joined_95 : decode cX6_joined 95 = .ok (.ifCond .eq 7, 3) := by decide +kernel
theorem dX6_joined_98 : decode cX6_joined 98 = .ok (.iconst 1, 1) := by decide +kernel
theorem dX6_joined_99 : decode cX6_joined 99 = .ok (.goto 4, 3) := by decide +kernel
theorem dX6_joined_102 : decode cX6_joined 102 = .ok (.iconst 0, 1) := by decide +kernel
theorem dX6_joined_103 : decode cX6_joined 103 = .ok (.ireturn, 1) := by decide +kernel
theorem dX6_joined_104 : decode cX6_joined 104 = .ok (.iload_n 1, 1) := by decide +kernel
theorem dX6_joined_105 : decode cX6_joined 105 = .ok (.iload_n 2, 1) := by decide +kernel
theorem dX6_joined_106 : decode cX6_joined 106 = .ok (.if_icmp .ge 7, 3) := by decide +kernel
theorem dX6_joined_109 : decode cX6_joined 109 = .ok (.iconst 1, 1) := by decide +kernel
theorem dX6_joined_110 : decode cX6_joined 110 = .ok (.goto 4, 3) := by decide +kernel
theorem dX6_joined_113 : decode cX6_joined 113 = .ok (.iconst 0, 1) := by decide +kernel
theorem dX6_joined_114 : decode cX6_joined 114 = .ok (.ireturn, 1) := by decide +kernel
theorem dX6_joined_115 : decode cX6_joined 115 = .ok (.iload_n 1, 1) := by decide +kernel
theorem dX6_joined_116 : decode cX6_joined 116 = .ok (.iload_n 2, 1) := by decide +kernel
theorem dX6_joined_117 : decode cX6_joined 117 = .ok (.if_icmp .ne 7, 3) := by decide +kernel
theorem dX6_joined_120 : decode cX6_joined 120 = .ok (.iconst 1, 1) := by decide +kernel
theorem dX6_joined_121 : decode cX6_joined 121 = .ok (.goto 4, 3) := by decide +kernel
theorem dX6_joined_124 : decode cX6_joined 124 = .ok (.iconst 0, 1) := by decide +kernel
theorem dX6_joined_125 : decode cX6_joined 125 = .ok (.ireturn, 1) := by decide +kernel
theorem dX6_joined_126 : decode cX6_joined 126 = .ok (.iload_n 1, 1) := by decide +kernel
theorem dX6_joined_127 : decode cX6_joined 127 = .ok (.iload_n 2, 1) := by decide +kernel
theorem dX6_joined_128 : decode cX6_joined 128 = .ok (.if_icmp .le 7, 3) := by decide +kernel
theorem dX6_joined_131 : decode cX6_joined 131 = .ok (.iconst 1, 1) := by decide +kernel
theorem dX6_joined_132 : decode cX6_joined 132 = .ok (.goto 4, 3) := by decide +kernel
theorem dX6_joined_135 : decode cX6_joined 135 = .ok (.iconst 0, 1) := by decide +kernel
theorem dX6_joined_136 : decode cX6_joined 136 = .ok (.ireturn, 1) := by decide +kernel
theorem dX6_joined_137 : decode cX6_joined 137 = .ok (.iload_n 1, 1) := by decide +kernel
theorem dX6_joined_138 : decode cX6_joined 138 = .ok (.iload_n 2, 1) := by decide +kernel
theorem dX6_joined_139 : decode cX6_joined 139 = .ok (.iadd, 1) := by decide +kernel
theorem dX6_joined_140 : decode cX6_joined 140 = .ok (.ireturn, 1) := by decide +kernel
theorem dX6_joined_141 : decode cX6_joined 141 = .ok (.iload_n 1, 1) := by decide +kernel
theorem dX6_joined_142 : decode cX6_joined 142 = .ok (.iload_n 2, 1) := by decide +kernel
theorem dX6_joined_143 : decode cX6_joined 143 = .ok (.isub, 1) := by decide +kernel
theorem dX6_joined_144 : decode cX6_joined 144 = .ok (.ireturn, 1) := by decide +kernel
theorem dX6_joined_145 : decode cX6_joined 145 = .ok (.iload_n 1, 1) := by decide +kernel
theorem dX6_joined_146 : decode cX6_joined 146 = .ok (.iload_n 2, 1) := by decide +kernel
theorem dX6_joined_147 : decode cX6_joined 147 = .ok (.imul, 1) := by decide +kernel
theorem dX6_joined_148 : decode cX6_joined 148 = .ok (.ireturn, 1) := by decide +kernel
theorem dX6_joined_149 : decode cX6_joined 149 = .ok (.iload_n 2, 1) := by decide +kernel
theorem dX6_joined_150 : decode cX6_joined 150 = .ok (.ifCond .ne 7, 3) := by decide +kernel
theorem dX6_joined_153 : decode cX6_joined 153 = .ok (.iconst 0, 1) := by decide +kernel
theorem dX6_joined_154 : decode cX6_joined 154 = .ok (.goto 6, 3) := by decide +kernel
theorem dX6_joined_157 : decode cX6_joined 157 = .ok (.iload_n 1, 1) := by decide +kernel
theorem dX6_joined_158 : decode cX6_joined 158 = .ok (.iload_n 2, 1) := by decide +kernel
theorem dX6_joined_159 : decode cX6_joined 159 = .ok (.idiv, 1) := by decide +kernel
theorem dX6_joined_160 : decode cX6_joined 160 = .ok (.ireturn, 1) := by decide +kernel
theorem dX7_init_0 : decode cX7_init 0 = .ok (.aload_n 0, 1) := by decide +kernel
theorem dX7_init_1 : decode cX7_init 1 = .ok (.invokespecial 1, 3) := by decide +kernel
theorem dX7_init_4 : decode cX7_init 4 = .ok (.aload_n 0, 1) := by decide +kernel
theorem dX7_init_5 : decode cX7_init 5 = .ok (.new 7, 3) := by decide +kernel
theorem dX7_init_8 : decode cX7_init 8 = .ok (.dup, 1) := by decide +kernel
theorem dX7_init_9 : decode cX7_init 9 = .ok (.invokespecial 9, 3) := by decide +kernel
theorem dX7_init_12 : decode cX7_init 12 = .ok (.putfield 10, 3) := by decide +kernel
theorem dX7_init_15 : decode cX7_init 15 = .ok (.aload_n 0, 1) := by decide +kernel
theorem dX7_init_16 : decode cX7_init 16 = .ok (.new 7, 3) := by decide +kernel
theorem dX7_init_19 : decode cX7_init 19 = .ok (.dup, 1) := by decide +kernel
theorem dX7_init_20 : decode cX7_init 20 = .ok (.invokespecial 9, 3) := by decide +kernel
theorem dX7_init_23 : decode cX7_init 23 = .ok (.putfield 16, 3) := by decide +kernel
theorem dX7_init_26 : decode cX7_init 26 = .ok (.aload_n 0, 1) := by decide +kernel
theorem dX7_init_27 : decode cX7_init 27 = .ok (.new 7, 3) := by decide +kernel
theorem dX7_init_30 : decode cX7_init 30 = .ok (.dup, 1) := by decide +kernel
theorem dX7_init_31 : decode cX7_init 31 = .ok (.invokespecial 9, 3) := by decide +kernel
theorem dX7_init_34 : decode cX7_init 34 = .ok (.putfield 19, 3) := by decide +kernel
theorem dX7_init_37 : decode cX7_init 37 = .ok (.aload_n 0, 1) := by decide +kernel
theorem dX7_init_38 : decode cX7_init 38 = .ok (.iconst 0, 1) := by decide +kernel
theorem dX7_init_39 : decode cX7_init 39 = .ok (.putfield 22, 3) := by decide +kernel
theorem dX7_init_42 : decode cX7_init 42 = .ok (.aload_n 0, 1) := by decide +kernel
theorem dX7_init_43 : decode cX7_init 43 = .ok (.new 26, 3) := by decide +kernel
theorem dX7_init_46 : decode cX7_init 46 = .ok (.dup, 1) := by decide +kernel
theorem dX7_init_47 : decode cX7_init 47 = .ok (.invokespecial 28, 3) := by decide +kernel
theorem dX7_init_50 : decode cX7_init 50 = .ok (.putfield 29, 3) := by decide +kernel
theorem dX7_init_53 : decode cX7_init 53 = .ok (.aload_n 0, 1) := by decide +kernel
theorem dX7_init_54 : decode cX7_init 54 = .ok (.aload_n 0, 1) := by decide +kernel
theorem dX7_init_55 : decode cX7_init 55 = .ok (.getfield 29, 3) := by decide +kernel
theorem dX7_init_58 : decode cX7_init 58 = .ok (.getfield 33, 3) := by decide +kernel
theorem dX7_init_61 : decode cX7_init 61 = .ok (.putfield 37, 3) := by decide +kernel
theorem dX7_init_64 : decode cX7_init 64 = .ok (.aload_n 0, 1) := by decide +kernel
theorem dX7_init_65 : decode cX7_init 65 = .ok (.new 38, 3) := by decide +kernel
theorem dX7_init_68 : decode cX7_init 68 = .ok (.dup, 1) := by decide +kernel
theorem dX7_init_69 : decode cX7_init 69 = .ok (.bipush 60, 2) := by decide +kernel
theorem dX7_init_71 : decode cX7_init 71 = .ok (.invokespecial 40, 3) := by decide +kernel
theorem dX7_init_74 : decode cX7_init 74 = .ok (.putfield 43, 3) := by decide +kernel
theorem dX7_init_77 : decode cX7_init 77 = .ok (.aload_n 0, 1) := by decide +kernel
theorem dX7_init_78 : decode cX7_init 78 = .ok (.iconst 4, 1) := by decide +kernel
theorem dX7_init_79 : decode cX7_init 79 = .ok (.anewarray 46, 3) := by decide +kernel
theorem dX7_init_82 : decode cX7_init 82 = .ok (.putfield 48, 3) := by decide +kernel
theorem dX7_init_85 : decode cX7_init 85 = .ok (.aload_n 0, 1) := by decide +kernel
theorem dX7_init_86 : decode cX7_init 86 = .ok (.iconst 5, 1) := by decide +kernel
theorem dX7_init_87 : decode cX7_init 87 = .ok (.anewarray 52, 3) := by decide +kernel
theorem dX7_init_90 : decode cX7_init 90 = .ok (.putfield 54, 3) := by decide +kernel
theorem dX7_init_93 : decode cX7_init 93 = .ok (.iconst 0, 1) := by decide +kernel
theorem dX7_init_94 : decode cX7_init 94 = .ok (.istore_n 1, 1) := by decide +kernel
theorem dX7_init_95 : decode cX7_init 95 = .ok (.iload_n 1, 1) := by decide +kernel
theorem dX7_init_96 : decode cX7_init 96 = .ok (.aload_n 0, 1) := by decide +kernel
theorem dX7_init_97 : decode cX7_init 97 = .ok (.getfield 48, 3) := by decide +kernel
theorem dX7_init_100 : decode cX7_init 100 = .ok (.arraylength, 1) := by decide +kernel
theorem dX7_init_101 : decode cX7_init 101 = .ok (.if_icmp .ge 22, 3) := by decide +kernel
theorem dX7_init_104 : decode cX7_init 104 = .ok (.aload_n 0, 1) := by decide +kernel
theorem dX7_init_105 : decode cX7_init 105 = .ok (.getfield 48, 3) := by decide +kernel
theorem dX7_init_108 : decode cX7_init 108 = .ok (.iload_n 1, 1) := by decide +kernel
theorem dX7_init_109 : decode cX7_init 109 = .ok (.new 46, 3) := by decide +kernel
theorem dX7_init_112 : decode cX7_init 112 = .ok (.dup, 1) := by decide +kernel
theorem dX7_init_113 : decode cX7_init 113 = .ok (.invokespecial 58, 3) := by decide +kernel
theorem dX7_init_116 : decode cX7_init 116 = .ok (.aastore, 1) := by decide +kernel
theorem dX7_init_117 : decode cX7_init 117 = .ok (.iinc 1 1, 3) := by decide +kernel
theorem dX7_init_120 : decode cX7_init 120 = .ok (.goto (-25), 3) := by decide +kernel
theorem dX7_init_123 : decode cX7_init 123 = .ok (.iconst 0, 1) := by decide +kernel
theorem dX7_init_124 : decode cX7_init 124 = .ok (.istore_n 1, 1) := by decide +kernel
theorem dX7_init_125 : decode cX7_init 125 = .ok (.iload_n 1, 1) := by decide +kernel
theorem dX7_init_126 : decode cX7_init 126 = .ok (.aload_n 0, 1) := by decide +kernel
theorem dX7_init_127 : decode cX7_init 127 = .ok (.getfield 54, 3) := by decide +kernel
theorem dX7_init_130 : decode cX7_init 130 = .ok (.arraylength, 1) := by decide +kernel
theorem dX7_init_131 : decode cX7_init 131 = .ok (.if_icmp .ge 22, 3) := by decide +kernel
theorem dX7_init_134 : decode cX7_init 134 = .ok (.aload_n 0, 1) := by decide +kernel
theorem dX7_init_135 : decode cX7_init 135 = .ok (.getfield 54, 3) := by decide +kernel
theorem dX7_init_138 : decode cX7_init 138 = .ok (.iload_n 1, 1) := by decide +kernel
theorem dX7_init_139 : decode cX7_init 139 = .ok (.new 52, 3) := by decide +kernel
theorem dX7_init_142 : decode cX7_init 142 = .ok (.dup, 1) := by decide +kernel
theorem dX7_init_143 : decode cX7_init 143 = .ok (.invokespecial 59, 3) := by decide +kernel
theorem dX7_init_146 : decode cX7_init 146 = .ok (.aastore, 1) := by decide +kernel
theorem dX7_init_147 : decode cX7_init 147 = .ok (.iinc 1 1, 3) := by decide +kernel
theorem dX7_init_150 : decode cX7_init 150 = .ok (.goto (-25), 3) := by decide +kernel
theorem dX7_init_153 : decode cX7_init 153 = .ok (.return_, 1) := by decide +kernel
theorem dX7_comer_0 : decode cX7_comer 0 = .ok (.iload_n 1, 1) := by decide +kernel
theorem dX7_comer_1 : decode cX7_comer 1 = .ok (.invokestatic 60, 3) := by decide +kernel
theorem dX7_comer_4 : decode cX7_comer 4 = .ok (.ifCond .eq 28, 3) := by decide +kernel
theorem dX7_comer_7 : decode cX7_comer 7 = .ok (.iconst 1, 1) := by decide +kernel
theorem dX7_comer_8 : decode cX7_comer 8 = .ok (.iload_n 2, 1) := by decide +kernel
theorem dX7_comer_9 : decode cX7_comer 9 = .ok (.invokestatic 64, 3) := by decide +kernel
theorem dX7_comer_12 : decode cX7_comer 12 = .ok (.ifCond .eq 20, 3) := by decide +kernel
theorem dX7_comer_15 : decode cX7_comer 15 = .ok (.iconst 2, 1) := by decide +kernel
theorem dX7_comer_16 : decode cX7_comer 16 = .ok (.iload_n 3, 1) := by decide +kernel
theorem dX7_comer_17 : decode cX7_comer 17 = .ok (.invokestatic 64, 3) := by decide +kernel
theorem dX7_comer_20 : decode cX7_comer 20 = .ok (.ifCond .eq 12, 3) := by decide +kernel
theorem dX7_comer_23 : decode cX7_comer 23 = .ok (.iconst 3, 1) := by decide +kernel
theorem dX7_comer_24 : decode cX7_comer 24 = .ok (.iload 4, 2) := by decide +kernel
theorem dX7_comer_26 : decode cX7_comer 26 = .ok (.invokestatic 64, 3) := by decide +kernel
theorem dX7_comer_29 : decode cX7_comer 29 = .ok (.ifCond .ne 6, 3) := by decide +kernel
theorem dX7_comer_32 : decode cX7_comer 32 = .ok (.ldc 68, 2) := by decide +kernel
theorem dX7_comer_34 : decode cX7_comer 34 = .ok (.ireturn, 1) := by decide +kernel
theorem dX7_comer_35 : decode cX7_comer 35 = .ok (.aload_n 0, 1) := by decide +kernel
theorem dX7_comer_36 : decode cX7_comer 36 = .ok (.getfield 10, 3) := by decide +kernel
theorem dX7_comer_39 : decode cX7_comer 39 = .ok (.getfield 69, 3) := by decide +kernel
theorem dX7_comer_42 : decode cX7_comer 42 = .ok (.bipush 8, 2) := by decide +kernel
theorem dX7_comer_44 : decode cX7_comer 44 = .ok (.if_icmp .lt 6, 3) := by decide +kernel
theorem dX7_comer_47 : decode cX7_comer 47 = .ok (.ldc 73, 2) := by decide +kernel
theorem dX7_comer_49 : decode cX7_comer 49 = .ok (.ireturn, 1) := by decide +kernel
theorem dX7_comer_50 : decode cX7_comer 50 = .ok (.aload_n 0, 1) := by decide +kernel
theorem dX7_comer_51 : decode cX7_comer 51 = .ok (.getfield 10, 3) := by decide +kernel
theorem dX7_comer_54 : decode cX7_comer 54 = .ok (.iload_n 1, 1) := by decide +kernel
theorem dX7_comer_55 : decode cX7_comer 55 = .ok (.iload_n 2, 1) := by decide +kernel
theorem dX7_comer_56 : decode cX7_comer 56 = .ok (.iload_n 3, 1) := by decide +kernel
theorem dX7_comer_57 : decode cX7_comer 57 = .ok (.iload 4, 2) := by decide +kernel
theorem dX7_comer_59 : decode cX7_comer 59 = .ok (.invokevirtual 74, 3) := by decide +kernel
theorem dX7_comer_62 : decode cX7_comer 62 = .ok (.aload_n 0, 1) := by decide +kernel
theorem dX7_comer_63 : decode cX7_comer 63 = .ok (.getfield 10, 3) := by decide +kernel
theorem dX7_comer_66 : decode cX7_comer 66 = .ok (.getfield 69, 3) := by decide +kernel
theorem dX7_comer_69 : decode cX7_comer 69 = .ok (.iconst 1, 1) := by decide +kernel
theorem dX7_comer_70 : decode cX7_comer 70 = .ok (.isub, 1) := by decide +kernel
theorem dX7_comer_71 : decode cX7_comer 71 = .ok (.ireturn, 1) := by decide +kernel
theorem dX7_told_0 : decode cX7_told 0 = .ok (.aload_n 0, 1) := by decide +kernel
theorem dX7_told_1 : decode cX7_told 1 = .ok (.getfield 10, 3) := by decide +kernel
theorem dX7_told_4 : decode cX7_told 4 = .ok (.iload_n 1, 1) := by decide +kernel
theorem dX7_told_5 : decode cX7_told 5 = .ok (.invokevirtual 78, 3) := by decide +kernel
theorem dX7_told_8 : decode cX7_told 8 = .ok (.astore_n 3, 1) := by decide +kernel
theorem dX7_told_9 : decode cX7_told 9 = .ok (.aload_n 3, 1) := by decide +kernel
theorem dX7_told_10 : decode cX7_told 10 = .ok (.ifnull 13, 3) := by decide +kernel
theorem dX7_told_13 : decode cX7_told 13 = .ok (.iload_n 2, 1) := by decide +kernel
theorem dX7_told_14 : decode cX7_told 14 = .ok (.iconst 0, 1) := by decide +kernel
theorem dX7_told_15 : decode cX7_told 15 = .ok (.bipush 14, 2) := by decide +kernel
theorem dX7_told_17 : decode cX7_told 17 = .ok (.invokestatic 82, 3) := by decide +kernel
theorem dX7_told_20 : decode cX7_told 20 = .ok (.ifCond .ne 6, 3) := by decide +kernel
theorem dX7_told_23 : decode cX7_told 23 = .ok (.ldc 68, 2) := by decide +kernel
theorem dX7_told_25 : decode cX7_told 25 = .ok (.ireturn, 1) := by decide +kernel
theorem dX7_told_26 : decode cX7_told 26 = .ok (.iload_n 2, 1) := by decide +kernel
theorem dX7_told_27 : decode cX7_told 27 = .ok (.tableswitch 144 0 14 #[73, 144, 144, 144, 144, 78, 83, 88, 93, 98, 103, 108, 113, 118, 135], 73) := by decide +kernel
theorem dX7_told_100 : decode cX7_told 100 = .ok (.aload_n 3, 1) := by decide +kernel
theorem dX7_told_101 : decode cX7_told 101 = .ok (.getfield 86, 3) := by decide +kernel
theorem dX7_told_104 : decode cX7_told 104 = .ok (.ireturn, 1) := by decide +kernel
theorem dX7_told_105 : decode cX7_told 105 = .ok (.aload_n 3, 1) := by decide +kernel
theorem dX7_told_106 : decode cX7_told 106 = .ok (.getfield 91, 3) := by decide +kernel
theorem dX7_told_109 : decode cX7_told 109 = .ok (.ireturn, 1) := by decide +kernel
theorem dX7_told_110 : decode cX7_told 110 = .ok (.aload_n 3, 1) := by decide +kernel
theorem dX7_told_111 : decode cX7_told 111 = .ok (.getfield 94, 3) := by decide +kernel
theorem dX7_told_114 : decode cX7_told 114 = .ok (.ireturn, 1) := by decide +kernel
theorem dX7_told_115 : decode cX7_told 115 = .ok (.aload_n 3, 1) := by decide +kernel
theorem dX7_told_116 : decode cX7_told 116 = .ok (.getfield 97, 3) := by decide +kernel
theorem dX7_told_119 : decode cX7_told 119 = .ok (.ireturn, 1) := by decide +kernel
theorem dX7_told_120 : decode cX7_told 120 = .ok (.aload_n 3, 1) := by decide +kernel
theorem dX7_told_121 : decode cX7_told 121 = .ok (.getfield 100, 3) := by decide +kernel
theorem dX7_told_124 : decode cX7_told 124 = .ok (.ireturn, 1) := by decide +kernel
theorem dX7_told_125 : decode cX7_told 125 = .ok (.aload_n 3, 1) := by decide +kernel
theorem dX7_told_126 : decode cX7_told 126 = .ok (.getfield 103, 3) := by decide +kernel
theorem dX7_told_129 : decode cX7_told 129 = .ok (.ireturn, 1) := by decide +kernel
theorem dX7_told_130 : decode cX7_told 130 = .ok (.aload_n 3, 1) := by decide +kernel
theorem dX7_told_131 : decode cX7_told 131 = .ok (.getfield 106, 3) := by decide +kernel
theorem dX7_told_134 : decode cX7_told 134 = .ok (.ireturn, 1) := by decide +kernel
theorem dX7_told_135 : decode cX7_told 135 = .ok (.aload_n 3, 1) := by decide +kernel
theorem dX7_told_136 : decode cX7_told 136 = .ok (.getfield 109, 3) := by decide +kernel
theorem dX7_told_139 : decode cX7_told 139 = .ok (.ireturn, 1) := by decide +kernel
theorem dX7_told_140 : decode cX7_told 140 = .ok (.aload_n 3, 1) := by decide +kernel
theorem dX7_told_141 : decode cX7_told 141 = .ok (.invokevirtual 112, 3) := by decide +kernel
theorem dX7_told_144 : decode cX7_told 144 = .ok (.ireturn, 1) := by decide +kernel
theorem dX7_told_145 : decode cX7_told 145 = .ok (.aload_n 0, 1) := by decide +kernel
theorem dX7_told_146 : decode cX7_told 146 = .ok (.getfield 10, 3) := by decide +kernel
theorem dX7_told_149 : decode cX7_told 149 = .ok (.aload_n 3, 1) := by decide +kernel
theorem dX7_told_150 : decode cX7_told 150 = .ok (.invokevirtual 116, 3) := by decide +kernel
theorem dX7_told_153 : decode cX7_told 153 = .ok (.ifCond .eq 7, 3) := by decide +kernel
theorem dX7_told_156 : decode cX7_told 156 = .ok (.iconst 1, 1) := by decide +kernel
theorem dX7_told_157 : decode cX7_told 157 = .ok (.goto 4, 3) := by decide +kernel
theorem dX7_told_160 : decode cX7_told 160 = .ok (.iconst 0, 1) := by decide +kernel
theorem dX7_told_161 : decode cX7_told 161 = .ok (.ireturn, 1) := by decide +kernel
theorem dX7_told_162 : decode cX7_told 162 = .ok (.aload_n 0, 1) := by decide +kernel
theorem dX7_told_163 : decode cX7_told 163 = .ok (.getfield 10, 3) := by decide +kernel
theorem dX7_told_166 : decode cX7_told 166 = .ok (.aload_n 3, 1) := by decide +kernel
theorem dX7_told_167 : decode cX7_told 167 = .ok (.invokevirtual 120, 3) := by decide +kernel
theorem dX7_told_170 : decode cX7_told 170 = .ok (.ireturn, 1) := by decide +kernel
theorem dX7_told_171 : decode cX7_told 171 = .ok (.aload_n 3, 1) := by decide +kernel
theorem dX7_told_172 : decode cX7_told 172 = .ok (.iload_n 2, 1) := by decide +kernel
theorem dX7_told_173 : decode cX7_told 173 = .ok (.invokevirtual 124, 3) := by decide +kernel
theorem dX7_told_176 : decode cX7_told 176 = .ok (.ireturn, 1) := by decide +kernel
theorem dX7_as_0 : decode cX7_as 0 = .ok (.aload_n 0, 1) := by decide +kernel
theorem dX7_as_1 : decode cX7_as 1 = .ok (.getfield 10, 3) := by decide +kernel
theorem dX7_as_4 : decode cX7_as 4 = .ok (.iload_n 1, 1) := by decide +kernel
theorem dX7_as_5 : decode cX7_as 5 = .ok (.invokevirtual 78, 3) := by decide +kernel
theorem dX7_as_8 : decode cX7_as 8 = .ok (.astore_n 3, 1) := by decide +kernel
theorem dX7_as_9 : decode cX7_as 9 = .ok (.aload_n 3, 1) := by decide +kernel
theorem dX7_as_10 : decode cX7_as 10 = .ok (.ifnull 10, 3) := by decide +kernel
theorem dX7_as_13 : decode cX7_as 13 = .ok (.iload_n 2, 1) := by decide +kernel
theorem dX7_as_14 : decode cX7_as 14 = .ok (.invokestatic 60, 3) := by decide +kernel
theorem dX7_as_17 : decode cX7_as 17 = .ok (.ifCond .ne 6, 3) := by decide +kernel
theorem dX7_as_20 : decode cX7_as 20 = .ok (.ldc 68, 2) := by decide +kernel
theorem dX7_as_22 : decode cX7_as 22 = .ok (.ireturn, 1) := by decide +kernel
theorem dX7_as_23 : decode cX7_as 23 = .ok (.aload_n 3, 1) := by decide +kernel
theorem dX7_as_24 : decode cX7_as 24 = .ok (.getfield 86, 3) := by decide +kernel
theorem dX7_as_27 : decode cX7_as 27 = .ok (.iload_n 2, 1) := by decide +kernel
theorem dX7_as_28 : decode cX7_as 28 = .ok (.invokestatic 128, 3) := by decide +kernel
theorem dX7_as_31 : decode cX7_as 31 = .ok (.ifCond .eq 10, 3) := by decide +kernel
theorem dX7_as_34 : decode cX7_as 34 = .ok (.aload_n 3, 1) := by decide +kernel
theorem dX7_as_35 : decode cX7_as 35 = .ok (.getfield 131, 3) := by decide +kernel
theorem dX7_as_38 : decode cX7_as 38 = .ok (.goto 5, 3) := by decide +kernel
theorem dX7_as_41 : decode cX7_as 41 = .ok (.ldc 134, 2) := by decide +kernel
theorem dX7_as_43 : decode cX7_as 43 = .ok (.ireturn, 1) := by decide +kernel
theorem dX7_turns_0 : decode cX7_turns 0 = .ok (.aload_n 0, 1) := by decide +kernel
theorem dX7_turns_1 : decode cX7_turns 1 = .ok (.getfield 10, 3) := by decide +kernel
theorem dX7_turns_4 : decode cX7_turns 4 = .ok (.iload_n 1, 1) := by decide +kernel
theorem dX7_turns_5 : decode cX7_turns 5 = .ok (.invokevirtual 78, 3) := by decide +kernel
theorem dX7_turns_8 : decode cX7_turns 8 = .ok (.astore_n 3, 1) := by decide +kernel
theorem dX7_turns_9 : decode cX7_turns 9 = .ok (.aload_n 3, 1) := by decide +kernel
theorem dX7_turns_10 : decode cX7_turns 10 = .ok (.ifnull 10, 3) := by decide +kernel
theorem dX7_turns_13 : decode cX7_turns 13 = .ok (.iload_n 2, 1) := by decide +kernel
theorem dX7_turns_14 : decode cX7_turns 14 = .ok (.invokestatic 60, 3) := by decide +kernel
theorem dX7_turns_17 : decode cX7_turns 17 = .ok (.ifCond .ne 6, 3) := by decide +kernel
theorem dX7_turns_20 : decode cX7_turns 20 = .ok (.ldc 68, 2) := by decide +kernel
theorem dX7_turns_22 : decode cX7_turns 22 = .ok (.ireturn, 1) := by decide +kernel
theorem dX7_turns_23 : decode cX7_turns 23 = .ok (.aload_n 3, 1) := by decide +kernel
theorem dX7_turns_24 : decode cX7_turns 24 = .ok (.getfield 86, 3) := by decide +kernel
theorem dX7_turns_27 : decode cX7_turns 27 = .ok (.istore 4, 2) := by decide +kernel
theorem dX7_turns_29 : decode cX7_turns 29 = .ok (.aload_n 3, 1) := by decide +kernel
theorem dX7_turns_30 : decode cX7_turns 30 = .ok (.iload_n 2, 1) := by decide +kernel
theorem dX7_turns_31 : decode cX7_turns 31 = .ok (.putfield 86, 3) := by decide +kernel
theorem dX7_turns_34 : decode cX7_turns 34 = .ok (.iload 4, 2) := by decide +kernel
theorem dX7_turns_36 : decode cX7_turns 36 = .ok (.ireturn, 1) := by decide +kernel
theorem dX7_set_0 : decode cX7_set 0 = .ok (.aload_n 0, 1) := by decide +kernel
theorem dX7_set_1 : decode cX7_set 1 = .ok (.getfield 10, 3) := by decide +kernel
theorem dX7_set_4 : decode cX7_set 4 = .ok (.iload_n 1, 1) := by decide +kernel
theorem dX7_set_5 : decode cX7_set 5 = .ok (.invokevirtual 78, 3) := by decide +kernel
theorem dX7_set_8 : decode cX7_set 8 = .ok (.astore 4, 2) := by decide +kernel
theorem dX7_set_10 : decode cX7_set 10 = .ok (.aload 4, 2) := by decide +kernel
theorem dX7_set_12 : decode cX7_set 12 = .ok (.ifnull 20, 3) := by decide +kernel
theorem dX7_set_15 : decode cX7_set 15 = .ok (.iload_n 2, 1) := by decide +kernel
theorem dX7_set_16 : decode cX7_set 16 = .ok (.iconst 1, 1) := by decide +kernel
theorem dX7_set_17 : decode cX7_set 17 = .ok (.iconst 4, 1) := by decide +kernel
theorem dX7_set_18 : decode cX7_set 18 = .ok (.invokestatic 82, 3) := by decide +kernel
theorem dX7_set_21 : decode cX7_set 21 = .ok (.ifCond .eq 11, 3) := by decide +kernel
theorem dX7_set_24 : decode cX7_set 24 = .ok (.iload_n 2, 1) := by decide +kernel
theorem dX7_set_25 : decode cX7_set 25 = .ok (.iload_n 3, 1) := by decide +kernel
theorem dX7_set_26 : decode cX7_set 26 = .ok (.invokestatic 64, 3) := by decide +kernel
theorem dX7_set_29 : decode cX7_set 29 = .ok (.ifCond .ne 6, 3) := by decide +kernel
theorem dX7_set_32 : decode cX7_set 32 = .ok (.ldc 68, 2) := by decide +kernel
theorem dX7_set_34 : decode cX7_set 34 = .ok (.ireturn, 1) := by decide +kernel
theorem dX7_set_35 : decode cX7_set 35 = .ok (.aload 4, 2) := by decide +kernel
theorem dX7_set_37 : decode cX7_set 37 = .ok (.iload_n 2, 1) := by decide +kernel
theorem dX7_set_38 : decode cX7_set 38 = .ok (.invokevirtual 124, 3) := by decide +kernel
theorem dX7_set_41 : decode cX7_set 41 = .ok (.istore 5, 2) := by decide +kernel
theorem dX7_set_43 : decode cX7_set 43 = .ok (.aload 4, 2) := by decide +kernel
theorem dX7_set_45 : decode cX7_set 45 = .ok (.iload_n 2, 1) := by decide +kernel
theorem dX7_set_46 : decode cX7_set 46 = .ok (.iload_n 3, 1) := by decide +kernel
theorem dX7_set_47 : decode cX7_set 47 = .ok (.invokevirtual 135, 3) := by decide +kernel
theorem dX7_set_50 : decode cX7_set 50 = .ok (.iload 5, 2) := by decide +kernel
theorem dX7_set_52 : decode cX7_set 52 = .ok (.ireturn, 1) := by decide +kernel
theorem dX7_well_0 : decode cX7_well 0 = .ok (.iload_n 1, 1) := by decide +kernel
theorem dX7_well_1 : decode cX7_well 1 = .ok (.iconst 0, 1) := by decide +kernel
theorem dX7_well_2 : decode cX7_well 2 = .ok (.getstatic 139, 3) := by decide +kernel
theorem dX7_well_5 : decode cX7_well 5 = .ok (.arraylength, 1) := by decide +kernel
theorem dX7_well_6 : decode cX7_well 6 = .ok (.iconst 1, 1) := by decide +kernel
theorem dX7_well_7 : decode cX7_well 7 = .ok (.isub, 1) := by decide +kernel
theorem dX7_well_8 : decode cX7_well 8 = .ok (.invokestatic 82, 3) := by decide +kernel
theorem dX7_well_11 : decode cX7_well 11 = .ok (.ifCond .eq 20, 3) := by decide +kernel
theorem dX7_well_14 : decode cX7_well 14 = .ok (.iload_n 2, 1) := by decide +kernel
theorem dX7_well_15 : decode cX7_well 15 = .ok (.getstatic 139, 3) := by decide +kernel
theorem dX7_well_18 : decode cX7_well 18 = .ok (.iload_n 1, 1) := by decide +kernel
theorem dX7_well_19 : decode cX7_well 19 = .ok (.iaload, 1) := by decide +kernel
theorem dX7_well_20 : decode cX7_well 20 = .ok (.getstatic 143, 3) := by decide +kernel
theorem dX7_well_23 : decode cX7_well 23 = .ok (.iload_n 1, 1) := by decide +kernel
theorem dX7_well_24 : decode cX7_well 24 = .ok (.iaload, 1) := by decide +kernel
theorem dX7_well_25 : decode cX7_well 25 = .ok (.invokestatic 82, 3) := by decide +kernel
theorem dX7_well_28 : decode cX7_well 28 = .ok (.ifCond .ne 6, 3) := by decide +kernel
theorem dX7_well_31 : decode cX7_well 31 = .ok (.ldc 68, 2) := by decide +kernel
theorem dX7_well_33 : decode cX7_well 33 = .ok (.ireturn, 1) := by decide +kernel
theorem dX7_well_34 : decode cX7_well 34 = .ok (.aload_n 0, 1) := by decide +kernel
theorem dX7_well_35 : decode cX7_well 35 = .ok (.getfield 10, 3) := by decide +kernel
theorem dX7_well_38 : decode cX7_well 38 = .ok (.iload_n 1, 1) := by decide +kernel
theorem dX7_well_39 : decode cX7_well 39 = .ok (.iload_n 2, 1) := by decide +kernel
theorem dX7_well_40 : decode cX7_well 40 = .ok (.invokevirtual 146, 3) := by decide +kernel
theorem dX7_well_43 : decode cX7_well 43 = .ok (.ireturn, 1) := by decide +kernel
theorem dX7_deal_0 : decode cX7_deal 0 = .ok (.iload_n 1, 1) := by decide +kernel
theorem dX7_deal_1 : decode cX7_deal 1 = .ok (.iconst 1, 1) := by decide +kernel
theorem dX7_deal_2 : decode cX7_deal 2 = .ok (.bipush 8, 2) := by decide +kernel
theorem dX7_deal_4 : decode cX7_deal 4 = .ok (.invokestatic 82, 3) := by decide +kernel
theorem dX7_deal_7 : decode cX7_deal 7 = .ok (.ifCond .ne 6, 3) := by decide +kernel
theorem dX7_deal_10 : decode cX7_deal 10 = .ok (.ldc 68, 2) := by decide +kernel
theorem dX7_deal_12 : decode cX7_deal 12 = .ok (.ireturn, 1) := by decide +kernel
theorem dX7_deal_13 : decode cX7_deal 13 = .ok (.iload_n 1, 1) := by decide +kernel
theorem dX7_deal_14 : decode cX7_deal 14 = .ok (.bipush 8, 2) := by decide +kernel
theorem dX7_deal_16 : decode cX7_deal 16 = .ok (.aload_n 0, 1) := by decide +kernel
theorem dX7_deal_17 : decode cX7_deal 17 = .ok (.getfield 10, 3) := by decide +kernel
theorem dX7_deal_20 : decode cX7_deal 20 = .ok (.getfield 69, 3) := by decide +kernel
theorem dX7_deal_23 : decode cX7_deal 23 = .ok (.isub, 1) := by decide +kernel
theorem dX7_deal_24 : decode cX7_deal 24 = .ok (.invokestatic 150, 3) := by decide +kernel
theorem dX7_deal_27 : decode cX7_deal 27 = .ok (.istore_n 2, 1) := by decide +kernel
theorem dX7_deal_28 : decode cX7_deal 28 = .ok (.iconst 0, 1) := by decide +kernel
theorem dX7_deal_29 : decode cX7_deal 29 = .ok (.istore_n 3, 1) := by decide +kernel
theorem dX7_deal_30 : decode cX7_deal 30 = .ok (.iload_n 3, 1) := by decide +kernel
theorem dX7_deal_31 : decode cX7_deal 31 = .ok (.iload_n 2, 1) := by decide +kernel
theorem dX7_deal_32 : decode cX7_deal 32 = .ok (.if_icmp .ge 76, 3) := by decide +kernel
theorem dX7_deal_35 : decode cX7_deal 35 = .ok (.aload_n 0, 1) := by decide +kernel
theorem dX7_deal_36 : decode cX7_deal 36 = .ok (.getfield 10, 3) := by decide +kernel
theorem dX7_deal_39 : decode cX7_deal 39 = .ok (.invokevirtual 155, 3) := by decide +kernel
theorem dX7_deal_42 : decode cX7_deal 42 = .ok (.getstatic 158, 3) := by decide +kernel
theorem dX7_deal_45 : decode cX7_deal 45 = .ok (.arraylength, 1) := by decide +kernel
theorem dX7_deal_46 : decode cX7_deal 46 = .ok (.irem, 1) := by decide +kernel
theorem dX7_deal_47 : decode cX7_deal 47 = .ok (.istore 4, 2) := by decide +kernel
theorem dX7_deal_49 : decode cX7_deal 49 = .ok (.aload_n 0, 1) := by decide +kernel
theorem dX7_deal_50 : decode cX7_deal 50 = .ok (.getfield 10, 3) := by decide +kernel
theorem dX7_deal_53 : decode cX7_deal 53 = .ok (.invokevirtual 155, 3) := by decide +kernel
theorem dX7_deal_56 : decode cX7_deal 56 = .ok (.bipush 60, 2) := by decide +kernel
theorem dX7_deal_58 : decode cX7_deal 58 = .ok (.irem, 1) := by decide +kernel
theorem dX7_deal_59 : decode cX7_deal 59 = .ok (.istore 5, 2) := by decide +kernel
theorem dX7_deal_61 : decode cX7_deal 61 = .ok (.iconst 1, 1) := by decide +kernel
theorem dX7_deal_62 : decode cX7_deal 62 = .ok (.aload_n 0, 1) := by decide +kernel
theorem dX7_deal_63 : decode cX7_deal 63 = .ok (.getfield 10, 3) := by decide +kernel
theorem dX7_deal_66 : decode cX7_deal 66 = .ok (.invokevirtual 155, 3) := by decide +kernel
theorem dX7_deal_69 : decode cX7_deal 69 = .ok (.bipush 30, 2) := by decide +kernel
theorem dX7_deal_71 : decode cX7_deal 71 = .ok (.irem, 1) := by decide +kernel
theorem dX7_deal_72 : decode cX7_deal 72 = .ok (.iadd, 1) := by decide +kernel
theorem dX7_deal_73 : decode cX7_deal 73 = .ok (.istore 6, 2) := by decide +kernel
theorem dX7_deal_75 : decode cX7_deal 75 = .ok (.aload_n 0, 1) := by decide +kernel
theorem dX7_deal_76 : decode cX7_deal 76 = .ok (.getfield 10, 3) := by decide +kernel
theorem dX7_deal_79 : decode cX7_deal 79 = .ok (.invokevirtual 155, 3) := by decide +kernel
theorem dX7_deal_82 : decode cX7_deal 82 = .ok (.bipush 10, 2) := by decide +kernel
theorem dX7_deal_84 : decode cX7_deal 84 = .ok (.irem, 1) := by decide +kernel
theorem dX7_deal_85 : decode cX7_deal 85 = .ok (.istore 7, 2) := by decide +kernel
theorem dX7_deal_87 : decode cX7_deal 87 = .ok (.aload_n 0, 1) := by decide +kernel
theorem dX7_deal_88 : decode cX7_deal 88 = .ok (.getfield 10, 3) := by decide +kernel
theorem dX7_deal_91 : decode cX7_deal 91 = .ok (.iload 4, 2) := by decide +kernel
theorem dX7_deal_93 : decode cX7_deal 93 = .ok (.iload 5, 2) := by decide +kernel
theorem dX7_deal_95 : decode cX7_deal 95 = .ok (.iload 6, 2) := by decide +kernel
theorem dX7_deal_97 : decode cX7_deal 97 = .ok (.iload 7, 2) := by decide +kernel
theorem dX7_deal_99 : decode cX7_deal 99 = .ok (.invokevirtual 74, 3) := by decide +kernel
theorem dX7_deal_102 : decode cX7_deal 102 = .ok (.iinc 3 1, 3) := by decide +kernel
theorem dX7_deal_105 : decode cX7_deal 105 = .ok (.goto (-75), 3) := by decide +kernel
theorem dX7_deal_108 : decode cX7_deal 108 = .ok (.iload_n 2, 1) := by decide +kernel
theorem dX7_deal_109 : decode cX7_deal 109 = .ok (.ireturn, 1) := by decide +kernel
theorem dX7_seed_0 : decode cX7_seed 0 = .ok (.aload_n 0, 1) := by decide +kernel
theorem dX7_seed_1 : decode cX7_seed 1 = .ok (.getfield 10, 3) := by decide +kernel
theorem dX7_seed_4 : decode cX7_seed 4 = .ok (.getfield 161, 3) := by decide +kernel
theorem dX7_seed_7 : decode cX7_seed 7 = .ok (.istore_n 2, 1) := by decide +kernel
theorem dX7_seed_8 : decode cX7_seed 8 = .ok (.aload_n 0, 1) := by decide +kernel
theorem dX7_seed_9 : decode cX7_seed 9 = .ok (.getfield 10, 3) := by decide +kernel
theorem dX7_seed_12 : decode cX7_seed 12 = .ok (.iload_n 1, 1) := by decide +kernel
theorem dX7_seed_13 : decode cX7_seed 13 = .ok (.putfield 161, 3) := by decide +kernel
theorem dX7_seed_16 : decode cX7_seed 16 = .ok (.iload_n 2, 1) := by decide +kernel
theorem dX7_seed_17 : decode cX7_seed 17 = .ok (.ireturn, 1) := by decide +kernel
theorem dX7_run_0 : decode cX7_run 0 = .ok (.iload_n 1, 1) := by decide +kernel
theorem dX7_run_1 : decode cX7_run 1 = .ok (.iconst 1, 1) := by decide +kernel
theorem dX7_run_2 : decode cX7_run 2 = .ok (.sipush 300, 3) := by decide +kernel
theorem dX7_run_5 : decode cX7_run 5 = .ok (.invokestatic 82, 3) := by decide +kernel
theorem dX7_run_8 : decode cX7_run 8 = .ok (.ifCond .ne 6, 3) := by decide +kernel
theorem dX7_run_11 : decode cX7_run 11 = .ok (.ldc 68, 2) := by decide +kernel
theorem dX7_run_13 : decode cX7_run 13 = .ok (.ireturn, 1) := by decide +kernel
theorem dX7_run_14 : decode cX7_run 14 = .ok (.aload_n 0, 1) := by decide +kernel
theorem dX7_run_15 : decode cX7_run 15 = .ok (.getfield 10, 3) := by decide +kernel
theorem dX7_run_18 : decode cX7_run 18 = .ok (.iload_n 1, 1) := by decide +kernel
theorem dX7_run_19 : decode cX7_run 19 = .ok (.invokevirtual 164, 3) := by decide +kernel
theorem dX7_run_22 : decode cX7_run 22 = .ok (.pop, 1) := by decide +kernel
theorem dX7_run_23 : decode cX7_run 23 = .ok (.aload_n 0, 1) := by decide +kernel
theorem dX7_run_24 : decode cX7_run 24 = .ok (.getfield 10, 3) := by decide +kernel
theorem dX7_run_27 : decode cX7_run 27 = .ok (.invokevirtual 167, 3) := by decide +kernel
theorem dX7_run_30 : decode cX7_run 30 = .ok (.ireturn, 1) := by decide +kernel
theorem dX7_behind_0 : decode cX7_behind 0 = .ok (.iload_n 1, 1) := by decide +kernel
theorem dX7_behind_1 : decode cX7_behind 1 = .ok (.iconst 0, 1) := by decide +kernel
theorem dX7_behind_2 : decode cX7_behind 2 = .ok (.sipush 300, 3) := by decide +kernel
theorem dX7_behind_5 : decode cX7_behind 5 = .ok (.invokestatic 82, 3) := by decide +kernel
theorem dX7_behind_8 : decode cX7_behind 8 = .ok (.ifCond .eq 12, 3) := by decide +kernel
theorem dX7_behind_11 : decode cX7_behind 11 = .ok (.iload_n 2, 1) := by decide +kernel
theorem dX7_behind_12 : decode cX7_behind 12 = .ok (.iconst 0, 1) := by decide +kernel
theorem dX7_behind_13 : decode cX7_behind 13 = .ok (.iconst 3, 1) := by decide +kernel
theorem dX7_behind_14 : decode cX7_behind 14 = .ok (.invokestatic 82, 3) := by decide +kernel
theorem dX7_behind_17 : decode cX7_behind 17 = .ok (.ifCond .ne 6, 3) := by decide +kernel
theorem dX7_behind_20 : decode cX7_behind 20 = .ok (.ldc 68, 2) := by decide +kernel
theorem dX7_behind_22 : decode cX7_behind 22 = .ok (.ireturn, 1) := by decide +kernel
theorem dX7_behind_23 : decode cX7_behind 23 = .ok (.aload_n 0, 1) := by decide +kernel
theorem dX7_behind_24 : decode cX7_behind 24 = .ok (.getfield 16, 3) := by decide +kernel
theorem dX7_behind_27 : decode cX7_behind 27 = .ok (.aload_n 0, 1) := by decide +kernel
theorem dX7_behind_28 : decode cX7_behind 28 = .ok (.getfield 10, 3) := by decide +kernel
theorem dX7_behind_31 : decode cX7_behind 31 = .ok (.invokevirtual 170, 3) := by decide +kernel
theorem dX7_behind_34 : decode cX7_behind 34 = .ok (.aload_n 0, 1) := by decide +kernel
theorem dX7_behind_35 : decode cX7_behind 35 = .ok (.getfield 16, 3) := by decide +kernel
theorem dX7_behind_38 : decode cX7_behind 38 = .ok (.iload_n 1, 1) := by decide +kernel
theorem dX7_behind_39 : decode cX7_behind 39 = .ok (.invokevirtual 164, 3) := by decide +kernel
theorem dX7_behind_42 : decode cX7_behind 42 = .ok (.istore_n 3, 1) := by decide +kernel
theorem dX7_behind_43 : decode cX7_behind 43 = .ok (.iload_n 2, 1) := by decide +kernel
theorem dX7_behind_44 : decode cX7_behind 44 = .ok (.tableswitch 52 0 2 #[28, 36, 44], 28) := by decide +kernel
theorem dX7_behind_72 : decode cX7_behind 72 = .ok (.aload_n 0, 1) := by decide +kernel
theorem dX7_behind_73 : decode cX7_behind 73 = .ok (.getfield 16, 3) := by decide +kernel
theorem dX7_behind_76 : decode cX7_behind 76 = .ok (.getfield 174, 3) := by decide +kernel
theorem dX7_behind_79 : decode cX7_behind 79 = .ok (.ireturn, 1) := by decide +kernel
theorem dX7_behind_80 : decode cX7_behind 80 = .ok (.aload_n 0, 1) := by decide +kernel
theorem dX7_behind_81 : decode cX7_behind 81 = .ok (.getfield 16, 3) := by decide +kernel
theorem dX7_behind_84 : decode cX7_behind 84 = .ok (.invokevirtual 167, 3) := by decide +kernel
theorem dX7_behind_87 : decode cX7_behind 87 = .ok (.ireturn, 1) := by decide +kernel
theorem dX7_behind_88 : decode cX7_behind 88 = .ok (.aload_n 0, 1) := by decide +kernel
theorem dX7_behind_89 : decode cX7_behind 89 = .ok (.getfield 16, 3) := by decide +kernel
theorem dX7_behind_92 : decode cX7_behind 92 = .ok (.invokevirtual 177, 3) := by decide +kernel
theorem dX7_behind_95 : decode cX7_behind 95 = .ok (.ireturn, 1) := by decide +kernel
theorem dX7_behind_96 : decode cX7_behind 96 = .ok (.iload_n 3, 1) := by decide +kernel
theorem dX7_behind_97 : decode cX7_behind 97 = .ok (.ireturn, 1) := by decide +kernel
theorem dX7_fullIn_0 : decode cX7_fullIn 0 = .ok (.iload_n 1, 1) := by decide +kernel
theorem dX7_fullIn_1 : decode cX7_fullIn 1 = .ok (.iconst 0, 1) := by decide +kernel
theorem dX7_fullIn_2 : decode cX7_fullIn 2 = .ok (.bipush 99, 2) := by decide +kernel
theorem dX7_fullIn_4 : decode cX7_fullIn 4 = .ok (.invokestatic 82, 3) := by decide +kernel
theorem dX7_fullIn_7 : decode cX7_fullIn 7 = .ok (.ifCond .ne 6, 3) := by decide +kernel
theorem dX7_fullIn_10 : decode cX7_fullIn 10 = .ok (.ldc 68, 2) := by decide +kernel
theorem dX7_fullIn_12 : decode cX7_fullIn 12 = .ok (.ireturn, 1) := by decide +kernel
theorem dX7_fullIn_13 : decode cX7_fullIn 13 = .ok (.aload_n 0, 1) := by decide +kernel
theorem dX7_fullIn_14 : decode cX7_fullIn 14 = .ok (.getfield 10, 3) := by decide +kernel
theorem dX7_fullIn_17 : decode cX7_fullIn 17 = .ok (.getfield 174, 3) := by decide +kernel
theorem dX7_fullIn_20 : decode cX7_fullIn 20 = .ok (.iload_n 1, 1) := by decide +kernel
theorem dX7_fullIn_21 : decode cX7_fullIn 21 = .ok (.if_icmp .lt 5, 3) := by decide +kernel
theorem dX7_fullIn_24 : decode cX7_fullIn 24 = .ok (.iconst 0, 1) := by decide +kernel
theorem dX7_fullIn_25 : decode cX7_fullIn 25 = .ok (.ireturn, 1) := by decide +kernel
theorem dX7_fullIn_26 : decode cX7_fullIn 26 = .ok (.iload_n 1, 1) := by decide +kernel
theorem dX7_fullIn_27 : decode cX7_fullIn 27 = .ok (.aload_n 0, 1) := by decide +kernel
theorem dX7_fullIn_28 : decode cX7_fullIn 28 = .ok (.getfield 10, 3) := by decide +kernel
theorem dX7_fullIn_31 : decode cX7_fullIn 31 = .ok (.getfield 180, 3) := by decide +kernel
theorem dX7_fullIn_34 : decode cX7_fullIn 34 = .ok (.if_icmp .le 6, 3) := by decide +kernel
theorem dX7_fullIn_37 : decode cX7_fullIn 37 = .ok (.ldc 183, 2) := by decide +kernel
theorem dX7_fullIn_39 : decode cX7_fullIn 39 = .ok (.ireturn, 1) := by decide +kernel
theorem dX7_fullIn_40 : decode cX7_fullIn 40 = .ok (.iconst 1, 1) := by decide +kernel
theorem dX7_fullIn_41 : decode cX7_fullIn 41 = .ok (.aload_n 0, 1) := by decide +kernel
theorem dX7_fullIn_42 : decode cX7_fullIn 42 = .ok (.getfield 10, 3) := by decide +kernel
theorem dX7_fullIn_45 : decode cX7_fullIn 45 = .ok (.getfield 184, 3) := by decide +kernel
theorem dX7_fullIn_48 : decode cX7_fullIn 48 = .ok (.aload_n 0, 1) := by decide +kernel
theorem dX7_fullIn_49 : decode cX7_fullIn 49 = .ok (.getfield 10, 3) := by decide +kernel
theorem dX7_fullIn_52 : decode cX7_fullIn 52 = .ok (.getfield 187, 3) := by decide +kernel
theorem dX7_fullIn_55 : decode cX7_fullIn 55 = .ok (.isub, 1) := by decide +kernel
theorem dX7_fullIn_56 : decode cX7_fullIn 56 = .ok (.invokestatic 190, 3) := by decide +kernel
theorem dX7_fullIn_59 : decode cX7_fullIn 59 = .ok (.istore_n 2, 1) := by decide +kernel
theorem dX7_fullIn_60 : decode cX7_fullIn 60 = .ok (.iload_n 2, 1) := by decide +kernel
theorem dX7_fullIn_61 : decode cX7_fullIn 61 = .ok (.iload_n 1, 1) := by decide +kernel
theorem dX7_fullIn_62 : decode cX7_fullIn 62 = .ok (.aload_n 0, 1) := by decide +kernel
theorem dX7_fullIn_63 : decode cX7_fullIn 63 = .ok (.getfield 10, 3) := by decide +kernel
theorem dX7_fullIn_66 : decode cX7_fullIn 66 = .ok (.getfield 174, 3) := by decide +kernel
theorem dX7_fullIn_69 : decode cX7_fullIn 69 = .ok (.isub, 1) := by decide +kernel
theorem dX7_fullIn_70 : decode cX7_fullIn 70 = .ok (.iconst 1, 1) := by decide +kernel
theorem dX7_fullIn_71 : decode cX7_fullIn 71 = .ok (.isub, 1) := by decide +kernel
theorem dX7_fullIn_72 : decode cX7_fullIn 72 = .ok (.aload_n 0, 1) := by decide +kernel
theorem dX7_fullIn_73 : decode cX7_fullIn 73 = .ok (.getfield 10, 3) := by decide +kernel
theorem dX7_fullIn_76 : decode cX7_fullIn 76 = .ok (.getfield 184, 3) := by decide +kernel
theorem dX7_fullIn_79 : decode cX7_fullIn 79 = .ok (.imul, 1) := by decide +kernel
theorem dX7_fullIn_80 : decode cX7_fullIn 80 = .ok (.iadd, 1) := by decide +kernel
theorem dX7_fullIn_81 : decode cX7_fullIn 81 = .ok (.ireturn, 1) := by decide +kernel
theorem dX7_best_0 : decode cX7_best 0 = .ok (.aload_n 0, 1) := by decide +kernel
theorem dX7_best_1 : decode cX7_best 1 = .ok (.getfield 10, 3) := by decide +kernel
theorem dX7_best_4 : decode cX7_best 4 = .ok (.iload_n 1, 1) := by decide +kernel
theorem dX7_best_5 : decode cX7_best 5 = .ok (.invokevirtual 78, 3) := by decide +kernel
theorem dX7_best_8 : decode cX7_best 8 = .ok (.ifnull 22, 3) := by decide +kernel
theorem dX7_best_11 : decode cX7_best 11 = .ok (.iload_n 2, 1) := by decide +kernel
theorem dX7_best_12 : decode cX7_best 12 = .ok (.iconst 1, 1) := by decide +kernel
theorem dX7_best_13 : decode cX7_best 13 = .ok (.bipush 120, 2) := by decide +kernel
theorem dX7_best_15 : decode cX7_best 15 = .ok (.invokestatic 82, 3) := by decide +kernel
theorem dX7_best_18 : decode cX7_best 18 = .ok (.ifCond .eq 12, 3) := by decide +kernel
theorem dX7_best_21 : decode cX7_best 21 = .ok (.iload_n 3, 1) := by decide +kernel
theorem dX7_best_22 : decode cX7_best 22 = .ok (.iconst 0, 1) := by decide +kernel
theorem dX7_best_23 : decode cX7_best 23 = .ok (.iconst 1, 1) := by decide +kernel
theorem dX7_best_24 : decode cX7_best 24 = .ok (.invokestatic 82, 3) := by decide +kernel
theorem dX7_best_27 : decode cX7_best 27 = .ok (.ifCond .ne 6, 3) := by decide +kernel
theorem dX7_best_30 : decode cX7_best 30 = .ok (.ldc 68, 2) := by decide +kernel
theorem dX7_best_32 : decode cX7_best 32 = .ok (.ireturn, 1) := by decide +kernel
theorem dX7_best_33 : decode cX7_best 33 = .ok (.iconst 0, 1) := by decide +kernel
theorem dX7_best_34 : decode cX7_best 34 = .ok (.istore 4, 2) := by decide +kernel
theorem dX7_best_36 : decode cX7_best 36 = .ok (.iconst (-1), 1) := by decide +kernel
theorem dX7_best_37 : decode cX7_best 37 = .ok (.istore 5, 2) := by decide +kernel
theorem dX7_best_39 : decode cX7_best 39 = .ok (.getstatic 193, 3) := by decide +kernel
theorem dX7_best_42 : decode cX7_best 42 = .ok (.iconst 1, 1) := by decide +kernel
theorem dX7_best_43 : decode cX7_best 43 = .ok (.iaload, 1) := by decide +kernel
theorem dX7_best_44 : decode cX7_best 44 = .ok (.istore 6, 2) := by decide +kernel
theorem dX7_best_46 : decode cX7_best 46 = .ok (.iload 6, 2) := by decide +kernel
theorem dX7_best_48 : decode cX7_best 48 = .ok (.getstatic 196, 3) := by decide +kernel
theorem dX7_best_51 : decode cX7_best 51 = .ok (.iconst 1, 1) := by decide +kernel
theorem dX7_best_52 : decode cX7_best 52 = .ok (.iaload, 1) := by decide +kernel
theorem dX7_best_53 : decode cX7_best 53 = .ok (.if_icmp .gt 75, 3) := by decide +kernel
theorem dX7_best_56 : decode cX7_best 56 = .ok (.aload_n 0, 1) := by decide +kernel
theorem dX7_best_57 : decode cX7_best 57 = .ok (.getfield 16, 3) := by decide +kernel
theorem dX7_best_60 : decode cX7_best 60 = .ok (.aload_n 0, 1) := by decide +kernel
theorem dX7_best_61 : decode cX7_best 61 = .ok (.getfield 10, 3) := by decide +kernel
theorem dX7_best_64 : decode cX7_best 64 = .ok (.invokevirtual 170, 3) := by decide +kernel
theorem dX7_best_67 : decode cX7_best 67 = .ok (.aload_n 0, 1) := by decide +kernel
theorem dX7_best_68 : decode cX7_best 68 = .ok (.getfield 16, 3) := by decide +kernel
theorem dX7_best_71 : decode cX7_best 71 = .ok (.iload_n 1, 1) := by decide +kernel
theorem dX7_best_72 : decode cX7_best 72 = .ok (.invokevirtual 78, 3) := by decide +kernel
theorem dX7_best_75 : decode cX7_best 75 = .ok (.astore 7, 2) := by decide +kernel
theorem dX7_best_77 : decode cX7_best 77 = .ok (.aload 7, 2) := by decide +kernel
theorem dX7_best_79 : decode cX7_best 79 = .ok (.ifnonnull 6, 3) := by decide +kernel
theorem dX7_best_82 : decode cX7_best 82 = .ok (.ldc 68, 2) := by decide +kernel
theorem dX7_best_84 : decode cX7_best 84 = .ok (.ireturn, 1) := by decide +kernel
theorem dX7_best_85 : decode cX7_best 85 = .ok (.aload 7, 2) := by decide +kernel
theorem dX7_best_87 : decode cX7_best 87 = .ok (.iload 6, 2) := by decide +kernel
theorem dX7_best_89 : decode cX7_best 89 = .ok (.putfield 131, 3) := by decide +kernel
theorem dX7_best_92 : decode cX7_best 92 = .ok (.aload_n 0, 1) := by decide +kernel
theorem dX7_best_93 : decode cX7_best 93 = .ok (.getfield 16, 3) := by decide +kernel
theorem dX7_best_96 : decode cX7_best 96 = .ok (.iload_n 2, 1) := by decide +kernel
theorem dX7_best_97 : decode cX7_best 97 = .ok (.invokevirtual 164, 3) := by decide +kernel
theorem dX7_best_100 : decode cX7_best 100 = .ok (.pop, 1) := by decide +kernel
theorem dX7_best_101 : decode cX7_best 101 = .ok (.aload 7, 2) := by decide +kernel
theorem dX7_best_103 : decode cX7_best 103 = .ok (.getfield 103, 3) := by decide +kernel
theorem dX7_best_106 : decode cX7_best 106 = .ok (.iload 5, 2) := by decide +kernel
theorem dX7_best_108 : decode cX7_best 108 = .ok (.if_icmp .le 14, 3) := by decide +kernel
theorem dX7_best_111 : decode cX7_best 111 = .ok (.aload 7, 2) := by decide +kernel
theorem dX7_best_113 : decode cX7_best 113 = .ok (.getfield 103, 3) := by decide +kernel
theorem dX7_best_116 : decode cX7_best 116 = .ok (.istore 5, 2) := by decide +kernel
theorem dX7_best_118 : decode cX7_best 118 = .ok (.iload 6, 2) := by decide +kernel
theorem dX7_best_120 : decode cX7_best 120 = .ok (.istore 4, 2) := by decide +kernel
theorem dX7_best_122 : decode cX7_best 122 = .ok (.iinc 6 1, 3) := by decide +kernel
theorem dX7_best_125 : decode cX7_best 125 = .ok (.goto (-79), 3) := by decide +kernel
theorem dX7_best_128 : decode cX7_best 128 = .ok (.iload_n 3, 1) := by decide +kernel
theorem dX7_best_129 : decode cX7_best 129 = .ok (.ifCond .ne 8, 3) := by decide +kernel
theorem dX7_best_132 : decode cX7_best 132 = .ok (.iload 4, 2) := by decide +kernel
theorem dX7_best_134 : decode cX7_best 134 = .ok (.goto 5, 3) := by decide +kernel
theorem dX7_best_137 : decode cX7_best 137 = .ok (.iload 5, 2) := by decide +kernel
theorem dX7_best_139 : decode cX7_best 139 = .ok (.ireturn, 1) := by decide +kernel
theorem dX7_alone_0 : decode cX7_alone 0 = .ok (.aload_n 0, 1) := by decide +kernel
theorem dX7_alone_1 : decode cX7_alone 1 = .ok (.getfield 10, 3) := by decide +kernel
theorem dX7_alone_4 : decode cX7_alone 4 = .ok (.iload_n 1, 1) := by decide +kernel
theorem dX7_alone_5 : decode cX7_alone 5 = .ok (.invokevirtual 78, 3) := by decide +kernel
theorem dX7_alone_8 : decode cX7_alone 8 = .ok (.ifnull 14, 3) := by decide +kernel
theorem dX7_alone_11 : decode cX7_alone 11 = .ok (.iload_n 2, 1) := by decide +kernel
theorem dX7_alone_12 : decode cX7_alone 12 = .ok (.iconst 1, 1) := by decide +kernel
theorem dX7_alone_13 : decode cX7_alone 13 = .ok (.sipush 300, 3) := by decide +kernel
theorem dX7_alone_16 : decode cX7_alone 16 = .ok (.invokestatic 82, 3) := by decide +kernel
theorem dX7_alone_19 : decode cX7_alone 19 = .ok (.ifCond .ne 6, 3) := by decide +kernel
theorem dX7_alone_22 : decode cX7_alone 22 = .ok (.ldc 68, 2) := by decide +kernel
theorem dX7_alone_24 : decode cX7_alone 24 = .ok (.ireturn, 1) := by decide +kernel
theorem dX7_alone_25 : decode cX7_alone 25 = .ok (.aload_n 0, 1) := by decide +kernel
theorem dX7_alone_26 : decode cX7_alone 26 = .ok (.getfield 16, 3) := by decide +kernel
theorem dX7_alone_29 : decode cX7_alone 29 = .ok (.aload_n 0, 1) := by decide +kernel
theorem dX7_alone_30 : decode cX7_alone 30 = .ok (.getfield 10, 3) := by decide +kernel
theorem dX7_alone_33 : decode cX7_alone 33 = .ok (.invokevirtual 170, 3) := by decide +kernel
theorem dX7_alone_36 : decode cX7_alone 36 = .ok (.aload_n 0, 1) := by decide +kernel
theorem dX7_alone_37 : decode cX7_alone 37 = .ok (.getfield 16, 3) := by decide +kernel
theorem dX7_alone_40 : decode cX7_alone 40 = .ok (.iload_n 1, 1) := by decide +kernel
theorem dX7_alone_41 : decode cX7_alone 41 = .ok (.invokevirtual 78, 3) := by decide +kernel
theorem dX7_alone_44 : decode cX7_alone 44 = .ok (.astore_n 3, 1) := by decide +kernel
theorem dX7_alone_45 : decode cX7_alone 45 = .ok (.aload_n 3, 1) := by decide +kernel
theorem dX7_alone_46 : decode cX7_alone 46 = .ok (.ifnonnull 6, 3) := by decide +kernel
theorem dX7_alone_49 : decode cX7_alone 49 = .ok (.ldc 68, 2) := by decide +kernel
theorem dX7_alone_51 : decode cX7_alone 51 = .ok (.ireturn, 1) := by decide +kernel
theorem dX7_alone_52 : decode cX7_alone 52 = .ok (.aload_n 0, 1) := by decide +kernel
theorem dX7_alone_53 : decode cX7_alone 53 = .ok (.getfield 16, 3) := by decide +kernel
theorem dX7_alone_56 : decode cX7_alone 56 = .ok (.iload_n 2, 1) := by decide +kernel
theorem dX7_alone_57 : decode cX7_alone 57 = .ok (.invokevirtual 164, 3) := by decide +kernel
theorem dX7_alone_60 : decode cX7_alone 60 = .ok (.pop, 1) := by decide +kernel
theorem dX7_alone_61 : decode cX7_alone 61 = .ok (.aload_n 3, 1) := by decide +kernel
theorem dX7_alone_62 : decode cX7_alone 62 = .ok (.getfield 103, 3) := by decide +kernel
theorem dX7_alone_65 : decode cX7_alone 65 = .ok (.istore 4, 2) := by decide +kernel
theorem dX7_alone_67 : decode cX7_alone 67 = .ok (.aload_n 0, 1) := by decide +kernel
theorem dX7_alone_68 : decode cX7_alone 68 = .ok (.getfield 16, 3) := by decide +kernel
theorem dX7_alone_71 : decode cX7_alone 71 = .ok (.aload_n 0, 1) := by decide +kernel
theorem dX7_alone_72 : decode cX7_alone 72 = .ok (.getfield 10, 3) := by decide +kernel
theorem dX7_alone_75 : decode cX7_alone 75 = .ok (.invokevirtual 170, 3) := by decide +kernel
theorem dX7_alone_78 : decode cX7_alone 78 = .ok (.aload_n 0, 1) := by decide +kernel
theorem dX7_alone_79 : decode cX7_alone 79 = .ok (.getfield 16, 3) := by decide +kernel
theorem dX7_alone_82 : decode cX7_alone 82 = .ok (.iload_n 1, 1) := by decide +kernel
theorem dX7_alone_83 : decode cX7_alone 83 = .ok (.invokevirtual 199, 3) := by decide +kernel
theorem dX7_alone_86 : decode cX7_alone 86 = .ok (.aload_n 0, 1) := by decide +kernel
theorem dX7_alone_87 : decode cX7_alone 87 = .ok (.getfield 16, 3) := by decide +kernel
theorem dX7_alone_90 : decode cX7_alone 90 = .ok (.iload_n 2, 1) := by decide +kernel
theorem dX7_alone_91 : decode cX7_alone 91 = .ok (.invokevirtual 164, 3) := by decide +kernel
theorem dX7_alone_94 : decode cX7_alone 94 = .ok (.pop, 1) := by decide +kernel
theorem dX7_alone_95 : decode cX7_alone 95 = .ok (.aload_n 3, 1) := by decide +kernel
theorem dX7_alone_96 : decode cX7_alone 96 = .ok (.getfield 103, 3) := by decide +kernel
theorem dX7_alone_99 : decode cX7_alone 99 = .ok (.iload 4, 2) := by decide +kernel
theorem dX7_alone_101 : decode cX7_alone 101 = .ok (.isub, 1) := by decide +kernel
theorem dX7_alone_102 : decode cX7_alone 102 = .ok (.ireturn, 1) := by decide +kernel
theorem dX7_mean_0 : decode cX7_mean 0 = .ok (.iload_n 1, 1) := by decide +kernel
theorem dX7_mean_1 : decode cX7_mean 1 = .ok (.iconst 0, 1) := by decide +kernel
theorem dX7_mean_2 : decode cX7_mean 2 = .ok (.iconst 1, 1) := by decide +kernel
theorem dX7_mean_3 : decode cX7_mean 3 = .ok (.invokestatic 82, 3) := by decide +kernel
theorem dX7_mean_6 : decode cX7_mean 6 = .ok (.ifCond .ne 7, 3) := by decide +kernel
theorem dX7_mean_9 : decode cX7_mean 9 = .ok (.ldc2_w 202, 3) := by decide +kernel
theorem dX7_mean_12 : decode cX7_mean 12 = .ok (.lreturn, 1) := by decide +kernel
theorem dX7_mean_13 : decode cX7_mean 13 = .ok (.aload_n 0, 1) := by decide +kernel
theorem dX7_mean_14 : decode cX7_mean 14 = .ok (.getfield 10, 3) := by decide +kernel
theorem dX7_mean_17 : decode cX7_mean 17 = .ok (.invokevirtual 204, 3) := by decide +kernel
theorem dX7_mean_20 : decode cX7_mean 20 = .ok (.i2l, 1) := by decide +kernel
theorem dX7_mean_21 : decode cX7_mean 21 = .ok (.lstore_n 2, 1) := by decide +kernel
theorem dX7_mean_22 : decode cX7_mean 22 = .ok (.lload_n 2, 1) := by decide +kernel
theorem dX7_mean_23 : decode cX7_mean 23 = .ok (.lconst 0, 1) := by decide +kernel
theorem dX7_mean_24 : decode cX7_mean 24 = .ok (.lcmp, 1) := by decide +kernel
theorem dX7_mean_25 : decode cX7_mean 25 = .ok (.ifCond .ne 6, 3) := by decide +kernel
theorem dX7_mean_28 : decode cX7_mean 28 = .ok (.iload_n 1, 1) := by decide +kernel
theorem dX7_mean_29 : decode cX7_mean 29 = .ok (.i2l, 1) := by decide +kernel
theorem dX7_mean_30 : decode cX7_mean 30 = .ok (.lreturn, 1) := by decide +kernel
theorem dX7_mean_31 : decode cX7_mean 31 = .ok (.aload_n 0, 1) := by decide +kernel
theorem dX7_mean_32 : decode cX7_mean 32 = .ok (.getfield 10, 3) := by decide +kernel
theorem dX7_mean_35 : decode cX7_mean 35 = .ok (.getfield 207, 3) := by decide +kernel
theorem dX7_mean_38 : decode cX7_mean 38 = .ok (.i2l, 1) := by decide +kernel
theorem dX7_mean_39 : decode cX7_mean 39 = .ok (.lload_n 2, 1) := by decide +kernel
theorem dX7_mean_40 : decode cX7_mean 40 = .ok (.invokestatic 210, 3) := by decide +kernel
theorem dX7_mean_43 : decode cX7_mean 43 = .ok (.lstore 4, 2) := by decide +kernel
theorem dX7_mean_45 : decode cX7_mean 45 = .ok (.lload 4, 2) := by decide +kernel
theorem dX7_mean_47 : decode cX7_mean 47 = .ok (.lconst 0, 1) := by decide +kernel
theorem dX7_mean_48 : decode cX7_mean 48 = .ok (.lcmp, 1) := by decide +kernel
theorem dX7_mean_49 : decode cX7_mean 49 = .ok (.ifCond .ne 6, 3) := by decide +kernel
theorem dX7_mean_52 : decode cX7_mean 52 = .ok (.iload_n 1, 1) := by decide +kernel
theorem dX7_mean_53 : decode cX7_mean 53 = .ok (.i2l, 1) := by decide +kernel
theorem dX7_mean_54 : decode cX7_mean 54 = .ok (.lreturn, 1) := by decide +kernel
theorem dX7_mean_55 : decode cX7_mean 55 = .ok (.iload_n 1, 1) := by decide +kernel
theorem dX7_mean_56 : decode cX7_mean 56 = .ok (.ifCond .ne 14, 3) := by decide +kernel
theorem dX7_mean_59 : decode cX7_mean 59 = .ok (.aload_n 0, 1) := by decide +kernel
theorem dX7_mean_60 : decode cX7_mean 60 = .ok (.getfield 10, 3) := by decide +kernel
theorem dX7_mean_63 : decode cX7_mean 63 = .ok (.getfield 207, 3) := by decide +kernel
theorem dX7_mean_66 : decode cX7_mean 66 = .ok (.i2l, 1) := by decide +kernel
theorem dX7_mean_67 : decode cX7_mean 67 = .ok (.goto 4, 3) := by decide +kernel
theorem dX7_mean_70 : decode cX7_mean 70 = .ok (.lload_n 2, 1) := by decide +kernel
theorem dX7_mean_71 : decode cX7_mean 71 = .ok (.lload 4, 2) := by decide +kernel
theorem dX7_mean_73 : decode cX7_mean 73 = .ok (.ldiv, 1) := by decide +kernel
theorem dX7_mean_74 : decode cX7_mean 74 = .ok (.lreturn, 1) := by decide +kernel
theorem dX7_least_0 : decode cX7_least 0 = .ok (.ldc 183, 2) := by decide +kernel
theorem dX7_least_2 : decode cX7_least 2 = .ok (.istore_n 1, 1) := by decide +kernel
theorem dX7_least_3 : decode cX7_least 3 = .ok (.aconst_null, 1) := by decide +kernel
theorem dX7_least_4 : decode cX7_least 4 = .ok (.astore_n 2, 1) := by decide +kernel
theorem dX7_least_5 : decode cX7_least 5 = .ok (.iconst 0, 1) := by decide +kernel
theorem dX7_least_6 : decode cX7_least 6 = .ok (.istore_n 3, 1) := by decide +kernel
theorem dX7_least_7 : decode cX7_least 7 = .ok (.iload_n 3, 1) := by decide +kernel
theorem dX7_least_8 : decode cX7_least 8 = .ok (.aload_n 0, 1) := by decide +kernel
theorem dX7_least_9 : decode cX7_least 9 = .ok (.getfield 10, 3) := by decide +kernel
theorem dX7_least_12 : decode cX7_least 12 = .ok (.getfield 69, 3) := by decide +kernel
theorem dX7_least_15 : decode cX7_least 15 = .ok (.if_icmp .ge 42, 3) := by decide +kernel
theorem dX7_least_18 : decode cX7_least 18 = .ok (.aload_n 0, 1) := by decide +kernel
theorem dX7_least_19 : decode cX7_least 19 = .ok (.getfield 10, 3) := by decide +kernel
theorem dX7_least_22 : decode cX7_least 22 = .ok (.iload_n 3, 1) := by decide +kernel
theorem dX7_least_23 : decode cX7_least 23 = .ok (.invokevirtual 78, 3) := by decide +kernel
theorem dX7_least_26 : decode cX7_least 26 = .ok (.astore 4, 2) := by decide +kernel
theorem dX7_least_28 : decode cX7_least 28 = .ok (.aload 4, 2) := by decide +kernel
theorem dX7_least_30 : decode cX7_least 30 = .ok (.ifnull 21, 3) := by decide +kernel
theorem dX7_least_33 : decode cX7_least 33 = .ok (.aload_n 2, 1) := by decide +kernel
theorem dX7_least_34 : decode cX7_least 34 = .ok (.ifnull 12, 3) := by decide +kernel
theorem dX7_least_37 : decode cX7_least 37 = .ok (.aload 4, 2) := by decide +kernel
theorem dX7_least_39 : decode cX7_least 39 = .ok (.aload_n 2, 1) := by decide +kernel
theorem dX7_least_40 : decode cX7_least 40 = .ok (.invokevirtual 214, 3) := by decide +kernel
theorem dX7_least_43 : decode cX7_least 43 = .ok (.ifCond .eq 8, 3) := by decide +kernel
theorem dX7_least_46 : decode cX7_least 46 = .ok (.aload 4, 2) := by decide +kernel
theorem dX7_least_48 : decode cX7_least 48 = .ok (.astore_n 2, 1) := by decide +kernel
theorem dX7_least_49 : decode cX7_least 49 = .ok (.iload_n 3, 1) := by decide +kernel
theorem dX7_least_50 : decode cX7_least 50 = .ok (.istore_n 1, 1) := by decide +kernel
theorem dX7_least_51 : decode cX7_least 51 = .ok (.iinc 3 1, 3) := by decide +kernel
theorem dX7_least_54 : decode cX7_least 54 = .ok (.goto (-47), 3) := by decide +kernel
theorem dX7_least_57 : decode cX7_least 57 = .ok (.iload_n 1, 1) := by decide +kernel
theorem dX7_least_58 : decode cX7_least 58 = .ok (.ireturn, 1) := by decide +kernel
theorem dX7_fine_0 : decode cX7_fine 0 = .ok (.aload_n 0, 1) := by decide +kernel
theorem dX7_fine_1 : decode cX7_fine 1 = .ok (.getfield 10, 3) := by decide +kernel
theorem dX7_fine_4 : decode cX7_fine 4 = .ok (.iload_n 1, 1) := by decide +kernel
theorem dX7_fine_5 : decode cX7_fine 5 = .ok (.invokevirtual 78, 3) := by decide +kernel
theorem dX7_fine_8 : decode cX7_fine 8 = .ok (.astore_n 2, 1) := by decide +kernel
theorem dX7_fine_9 : decode cX7_fine 9 = .ok (.aload_n 2, 1) := by decide +kernel
theorem dX7_fine_10 : decode cX7_fine 10 = .ok (.ifnonnull 6, 3) := by decide +kernel
theorem dX7_fine_13 : decode cX7_fine 13 = .ok (.ldc 68, 2) := by decide +kernel
theorem dX7_fine_15 : decode cX7_fine 15 = .ok (.ireturn, 1) := by decide +kernel
theorem dX7_fine_16 : decode cX7_fine 16 = .ok (.aload_n 0, 1) := by decide +kernel
theorem dX7_fine_17 : decode cX7_fine 17 = .ok (.getfield 10, 3) := by decide +kernel
theorem dX7_fine_20 : decode cX7_fine 20 = .ok (.iconst 2, 1) := by decide +kernel
theorem dX7_fine_21 : decode cX7_fine 21 = .ok (.invokevirtual 217, 3) := by decide +kernel
theorem dX7_fine_24 : decode cX7_fine 24 = .ok (.astore_n 3, 1) := by decide +kernel
theorem dX7_fine_25 : decode cX7_fine 25 = .ok (.aload_n 3, 1) := by decide +kernel
theorem dX7_fine_26 : decode cX7_fine 26 = .ok (.ifnonnull 10, 3) := by decide +kernel
theorem dX7_fine_29 : decode cX7_fine 29 = .ok (.aload_n 2, 1) := by decide +kernel
theorem dX7_fine_30 : decode cX7_fine 30 = .ok (.getfield 106, 3) := by decide +kernel
theorem dX7_fine_33 : decode cX7_fine 33 = .ok (.goto 16, 3) := by decide +kernel
theorem dX7_fine_36 : decode cX7_fine 36 = .ok (.aload_n 3, 1) := by decide +kernel
theorem dX7_fine_37 : decode cX7_fine 37 = .ok (.aload_n 2, 1) := by decide +kernel
theorem dX7_fine_38 : decode cX7_fine 38 = .ok (.getfield 103, 3) := by decide +kernel
theorem dX7_fine_41 : decode cX7_fine 41 = .ok (.aload_n 2, 1) := by decide +kernel
theorem dX7_fine_42 : decode cX7_fine 42 = .ok (.getfield 106, 3) := by decide +kernel
theorem dX7_fine_45 : decode cX7_fine 45 = .ok (.iconst 0, 1) := by decide +kernel
theorem dX7_fine_46 : decode cX7_fine 46 = .ok (.invokevirtual 221, 3) := by decide +kernel
theorem dX7_fine_49 : decode cX7_fine 49 = .ok (.ireturn, 1) := by decide +kernel
theorem dX7_feed_0 : decode cX7_feed 0 = .ok (.aload_n 0, 1) := by decide +kernel
theorem dX7_feed_1 : decode cX7_feed 1 = .ok (.getfield 37, 3) := by decide +kernel
theorem dX7_feed_4 : decode cX7_feed 4 = .ok (.getfield 227, 3) := by decide +kernel
theorem dX7_feed_7 : decode cX7_feed 7 = .ok (.bipush 12, 2) := by decide +kernel
theorem dX7_feed_9 : decode cX7_feed 9 = .ok (.iadd, 1) := by decide +kernel
theorem dX7_feed_10 : decode cX7_feed 10 = .ok (.bipush 96, 2) := by decide +kernel
theorem dX7_feed_12 : decode cX7_feed 12 = .ok (.if_icmp .le 6, 3) := by decide +kernel
theorem dX7_feed_15 : decode cX7_feed 15 = .ok (.ldc 73, 2) := by decide +kernel
theorem dX7_feed_17 : decode cX7_feed 17 = .ok (.ireturn, 1) := by decide +kernel
theorem dX7_feed_18 : decode cX7_feed 18 = .ok (.aload_n 0, 1) := by decide +kernel
theorem dX7_feed_19 : decode cX7_feed 19 = .ok (.iload_n 1, 1) := by decide +kernel
theorem dX7_feed_20 : decode cX7_feed 20 = .ok (.invokevirtual 228, 3) := by decide +kernel
theorem dX7_feed_23 : decode cX7_feed 23 = .ok (.aload_n 0, 1) := by decide +kernel
theorem dX7_feed_24 : decode cX7_feed 24 = .ok (.iload_n 2, 1) := by decide +kernel
theorem dX7_feed_25 : decode cX7_feed 25 = .ok (.invokevirtual 228, 3) := by decide +kernel
theorem dX7_feed_28 : decode cX7_feed 28 = .ok (.aload_n 0, 1) := by decide +kernel
theorem dX7_feed_29 : decode cX7_feed 29 = .ok (.iload_n 3, 1) := by decide +kernel
theorem dX7_feed_30 : decode cX7_feed 30 = .ok (.invokevirtual 228, 3) := by decide +kernel
theorem dX7_feed_33 : decode cX7_feed 33 = .ok (.aload_n 0, 1) := by decide +kernel
theorem dX7_feed_34 : decode cX7_feed 34 = .ok (.getfield 37, 3) := by decide +kernel
theorem dX7_feed_37 : decode cX7_feed 37 = .ok (.getfield 227, 3) := by decide +kernel
theorem dX7_feed_40 : decode cX7_feed 40 = .ok (.ireturn, 1) := by decide +kernel
theorem dX7_trim_0 : decode cX7_trim 0 = .ok (.iload_n 1, 1) := by decide +kernel
theorem dX7_trim_1 : decode cX7_trim 1 = .ok (.iconst 0, 1) := by decide +kernel
theorem dX7_trim_2 : decode cX7_trim 2 = .ok (.aload_n 0, 1) := by decide +kernel
theorem dX7_trim_3 : decode cX7_trim 3 = .ok (.getfield 37, 3) := by decide +kernel
theorem dX7_trim_6 : decode cX7_trim 6 = .ok (.getfield 227, 3) := by decide +kernel
theorem dX7_trim_9 : decode cX7_trim 9 = .ok (.invokestatic 82, 3) := by decide +kernel
theorem dX7_trim_12 : decode cX7_trim 12 = .ok (.ifCond .ne 6, 3) := by decide +kernel
theorem dX7_trim_15 : decode cX7_trim 15 = .ok (.ldc 68, 2) := by decide +kernel
theorem dX7_trim_17 : decode cX7_trim 17 = .ok (.ireturn, 1) := by decide +kernel
theorem dX7_trim_18 : decode cX7_trim 18 = .ok (.aload_n 0, 1) := by decide +kernel
theorem dX7_trim_19 : decode cX7_trim 19 = .ok (.getfield 37, 3) := by decide +kernel
theorem dX7_trim_22 : decode cX7_trim 22 = .ok (.iload_n 1, 1) := by decide +kernel
theorem dX7_trim_23 : decode cX7_trim 23 = .ok (.putfield 227, 3) := by decide +kernel
theorem dX7_trim_26 : decode cX7_trim 26 = .ok (.iload_n 1, 1) := by decide +kernel
theorem dX7_trim_27 : decode cX7_trim 27 = .ok (.ireturn, 1) := by decide +kernel
theorem dX7_text_0 : decode cX7_text 0 = .ok (.aload_n 0, 1) := by decide +kernel
theorem dX7_text_1 : decode cX7_text 1 = .ok (.getfield 29, 3) := by decide +kernel
theorem dX7_text_4 : decode cX7_text 4 = .ok (.invokevirtual 231, 3) := by decide +kernel
theorem dX7_text_7 : decode cX7_text 7 = .ok (.istore_n 1, 1) := by decide +kernel
theorem dX7_text_8 : decode cX7_text 8 = .ok (.aload_n 0, 1) := by decide +kernel
theorem dX7_text_9 : decode cX7_text 9 = .ok (.getfield 37, 3) := by decide +kernel
theorem dX7_text_12 : decode cX7_text 12 = .ok (.iconst 0, 1) := by decide +kernel
theorem dX7_text_13 : decode cX7_text 13 = .ok (.putfield 227, 3) := by decide +kernel
theorem dX7_text_16 : decode cX7_text 16 = .ok (.iload_n 1, 1) := by decide +kernel
theorem dX7_text_17 : decode cX7_text 17 = .ok (.ifCond .ne 14, 3) := by decide +kernel
theorem dX7_text_20 : decode cX7_text 20 = .ok (.bipush (-100), 2) := by decide +kernel
theorem dX7_text_22 : decode cX7_text 22 = .ok (.aload_n 0, 1) := by decide +kernel
theorem dX7_text_23 : decode cX7_text 23 = .ok (.getfield 29, 3) := by decide +kernel
theorem dX7_text_26 : decode cX7_text 26 = .ok (.getfield 235, 3) := by decide +kernel
theorem dX7_text_29 : decode cX7_text 29 = .ok (.isub, 1) := by decide +kernel
theorem dX7_text_30 : decode cX7_text 30 = .ok (.ireturn, 1) := by decide +kernel
theorem dX7_text_31 : decode cX7_text 31 = .ok (.aload_n 0, 1) := by decide +kernel
theorem dX7_text_32 : decode cX7_text 32 = .ok (.getfield 10, 3) := by decide +kernel
theorem dX7_text_35 : decode cX7_text 35 = .ok (.getfield 238, 3) := by decide +kernel
theorem dX7_text_38 : decode cX7_text 38 = .ok (.bipush 14, 2) := by decide +kernel
theorem dX7_text_40 : decode cX7_text 40 = .ok (.if_icmp .lt 6, 3) := by decide +kernel
theorem dX7_text_43 : decode cX7_text 43 = .ok (.ldc 73, 2) := by decide +kernel
theorem dX7_text_45 : decode cX7_text 45 = .ok (.ireturn, 1) := by decide +kernel
theorem dX7_text_46 : decode cX7_text 46 = .ok (.aload_n 0, 1) := by decide +kernel
theorem dX7_text_47 : decode cX7_text 47 = .ok (.getfield 10, 3) := by decide +kernel
theorem dX7_text_50 : decode cX7_text 50 = .ok (.aload_n 0, 1) := by decide +kernel
theorem dX7_text_51 : decode cX7_text 51 = .ok (.getfield 29, 3) := by decide +kernel
theorem dX7_text_54 : decode cX7_text 54 = .ok (.invokevirtual 241, 3) := by decide +kernel
theorem dX7_text_57 : decode cX7_text 57 = .ok (.invokevirtual 245, 3) := by decide +kernel
theorem dX7_text_60 : decode cX7_text 60 = .ok (.aload_n 0, 1) := by decide +kernel
theorem dX7_text_61 : decode cX7_text 61 = .ok (.getfield 10, 3) := by decide +kernel
theorem dX7_text_64 : decode cX7_text 64 = .ok (.getfield 238, 3) := by decide +kernel
theorem dX7_text_67 : decode cX7_text 67 = .ok (.iconst 1, 1) := by decide +kernel
theorem dX7_text_68 : decode cX7_text 68 = .ok (.isub, 1) := by decide +kernel
theorem dX7_text_69 : decode cX7_text 69 = .ok (.ireturn, 1) := by decide +kernel
theorem dX7_textTold_0 : decode cX7_textTold 0 = .ok (.aload_n 0, 1) := by decide +kernel
theorem dX7_textTold_1 : decode cX7_textTold 1 = .ok (.getfield 10, 3) := by decide +kernel
theorem dX7_textTold_4 : decode cX7_textTold 4 = .ok (.iload_n 1, 1) := by decide +kernel
theorem dX7_textTold_5 : decode cX7_textTold 5 = .ok (.invokevirtual 249, 3) := by decide +kernel
theorem dX7_textTold_8 : decode cX7_textTold 8 = .ok (.astore_n 3, 1) := by decide +kernel
theorem dX7_textTold_9 : decode cX7_textTold 9 = .ok (.aload_n 3, 1) := by decide +kernel
theorem dX7_textTold_10 : decode cX7_textTold 10 = .ok (.ifnull 12, 3) := by decide +kernel
theorem dX7_textTold_13 : decode cX7_textTold 13 = .ok (.iload_n 2, 1) := by decide +kernel
theorem dX7_textTold_14 : decode cX7_textTold 14 = .ok (.iconst 0, 1) := by decide +kernel
theorem dX7_textTold_15 : decode cX7_textTold 15 = .ok (.iconst 1, 1) := by decide +kernel
theorem dX7_textTold_16 : decode cX7_textTold 16 = .ok (.invokestatic 82, 3) := by decide +kernel
theorem dX7_textTold_19 : decode cX7_textTold 19 = .ok (.ifCond .ne 6, 3) := by decide +kernel
theorem dX7_textTold_22 : decode cX7_textTold 22 = .ok (.ldc 68, 2) := by decide +kernel
theorem dX7_textTold_24 : decode cX7_textTold 24 = .ok (.ireturn, 1) := by decide +kernel
theorem dX7_textTold_25 : decode cX7_textTold 25 = .ok (.iload_n 2, 1) := by decide +kernel
theorem dX7_textTold_26 : decode cX7_textTold 26 = .ok (.ifCond .ne 10, 3) := by decide +kernel
theorem dX7_textTold_29 : decode cX7_textTold 29 = .ok (.aload_n 3, 1) := by decide +kernel
theorem dX7_textTold_30 : decode cX7_textTold 30 = .ok (.getfield 252, 3) := by decide +kernel
theorem dX7_textTold_33 : decode cX7_textTold 33 = .ok (.goto 7, 3) := by decide +kernel
theorem dX7_textTold_36 : decode cX7_textTold 36 = .ok (.aload_n 3, 1) := by decide +kernel
theorem dX7_textTold_37 : decode cX7_textTold 37 = .ok (.getfield 255, 3) := by decide +kernel
theorem dX7_textTold_40 : decode cX7_textTold 40 = .ok (.ireturn, 1) := by decide +kernel
theorem dX7_why_0 : decode cX7_why 0 = .ok (.iload_n 1, 1) := by decide +kernel
theorem dX7_why_1 : decode cX7_why 1 = .ok (.iconst 0, 1) := by decide +kernel
theorem dX7_why_2 : decode cX7_why 2 = .ok (.iconst 2, 1) := by decide +kernel
theorem dX7_why_3 : decode cX7_why 3 = .ok (.invokestatic 82, 3) := by decide +kernel
theorem dX7_why_6 : decode cX7_why 6 = .ok (.ifCond .ne 6, 3) := by decide +kernel
theorem dX7_why_9 : decode cX7_why 9 = .ok (.ldc 68, 2) := by decide +kernel
theorem dX7_why_11 : decode cX7_why 11 = .ok (.ireturn, 1) := by decide +kernel
theorem dX7_why_12 : decode cX7_why 12 = .ok (.aload_n 0, 1) := by decide +kernel
theorem dX7_why_13 : decode cX7_why 13 = .ok (.getfield 10, 3) := by decide +kernel
theorem dX7_why_16 : decode cX7_why 16 = .ok (.getfield 258, 3) := by decide +kernel
theorem dX7_why_19 : decode cX7_why 19 = .ok (.iload_n 1, 1) := by decide +kernel
theorem dX7_why_20 : decode cX7_why 20 = .ok (.iaload, 1) := by decide +kernel
theorem dX7_why_21 : decode cX7_why 21 = .ok (.istore_n 2, 1) := by decide +kernel
theorem dX7_why_22 : decode cX7_why 22 = .ok (.iload_n 2, 1) := by decide +kernel
theorem dX7_why_23 : decode cX7_why 23 = .ok (.ifCond .ge 8, 3) := by decide +kernel
theorem dX7_why_26 : decode cX7_why 26 = .ok (.ldc 183, 2) := by decide +kernel
theorem dX7_why_28 : decode cX7_why 28 = .ok (.goto 4, 3) := by decide +kernel
theorem dX7_why_31 : decode cX7_why 31 = .ok (.iload_n 2, 1) := by decide +kernel
theorem dX7_why_32 : decode cX7_why 32 = .ok (.ireturn, 1) := by decide +kernel
theorem dX7_sheet_0 : decode cX7_sheet 0 = .ok (.aload_n 0, 1) := by decide +kernel
theorem dX7_sheet_1 : decode cX7_sheet 1 = .ok (.iload_n 1, 1) := by decide +kernel
theorem dX7_sheet_2 : decode cX7_sheet 2 = .ok (.invokevirtual 261, 3) := by decide +kernel
theorem dX7_sheet_5 : decode cX7_sheet 5 = .ok (.astore 4, 2) := by decide +kernel
theorem dX7_sheet_7 : decode cX7_sheet 7 = .ok (.aload 4, 2) := by decide +kernel
theorem dX7_sheet_9 : decode cX7_sheet 9 = .ok (.ifnull 12, 3) := by decide +kernel
theorem dX7_sheet_12 : decode cX7_sheet 12 = .ok (.iload_n 2, 1) := by decide +kernel
theorem dX7_sheet_13 : decode cX7_sheet 13 = .ok (.iconst (-1), 1) := by decide +kernel
theorem dX7_sheet_14 : decode cX7_sheet 14 = .ok (.iconst 1, 1) := by decide +kernel
theorem dX7_sheet_15 : decode cX7_sheet 15 = .ok (.invokestatic 82, 3) := by decide +kernel
theorem dX7_sheet_18 : decode cX7_sheet 18 = .ok (.ifCond .ne 6, 3) := by decide +kernel
theorem dX7_sheet_21 : decode cX7_sheet 21 = .ok (.ldc 68, 2) := by decide +kernel
theorem dX7_sheet_23 : decode cX7_sheet 23 = .ok (.ireturn, 1) := by decide +kernel
theorem dX7_sheet_24 : decode cX7_sheet 24 = .ok (.iload_n 2, 1) := by decide +kernel
theorem dX7_sheet_25 : decode cX7_sheet 25 = .ok (.iconst (-1), 1) := by decide +kernel
theorem dX7_sheet_26 : decode cX7_sheet 26 = .ok (.if_icmp .ne 12, 3) := by decide +kernel
theorem dX7_sheet_29 : decode cX7_sheet 29 = .ok (.aload 4, 2) := by decide +kernel
theorem dX7_sheet_31 : decode cX7_sheet 31 = .ok (.iconst (-1), 1) := by decide +kernel
theorem dX7_sheet_32 : decode cX7_sheet 32 = .ok (.iconst 0, 1) := by decide +kernel
theorem dX7_sheet_33 : decode cX7_sheet 33 = .ok (.invokevirtual 265, 3) := by decide +kernel
theorem dX7_sheet_36 : decode cX7_sheet 36 = .ok (.iconst 0, 1) := by decide +kernel
theorem dX7_sheet_37 : decode cX7_sheet 37 = .ok (.ireturn, 1) := by decide +kernel
theorem dX7_sheet_38 : decode cX7_sheet 38 = .ok (.iload_n 3, 1) := by decide +kernel
theorem dX7_sheet_39 : decode cX7_sheet 39 = .ok (.bipush 24, 2) := by decide +kernel
theorem dX7_sheet_41 : decode cX7_sheet 41 = .ok (.if_icmp .le 6, 3) := by decide +kernel
theorem dX7_sheet_44 : decode cX7_sheet 44 = .ok (.ldc 68, 2) := by decide +kernel
theorem dX7_sheet_46 : decode cX7_sheet 46 = .ok (.ireturn, 1) := by decide +kernel
theorem dX7_sheet_47 : decode cX7_sheet 47 = .ok (.iload_n 3, 1) := by decide +kernel
theorem dX7_sheet_48 : decode cX7_sheet 48 = .ok (.ifCond .ge 7, 3) := by decide +kernel
theorem dX7_sheet_51 : decode cX7_sheet 51 = .ok (.ldc_w 268, 3) := by decide +kernel
theorem dX7_sheet_54 : decode cX7_sheet 54 = .ok (.ireturn, 1) := by decide +kernel
theorem dX7_sheet_55 : decode cX7_sheet 55 = .ok (.aload 4, 2) := by decide +kernel
theorem dX7_sheet_57 : decode cX7_sheet 57 = .ok (.iload_n 2, 1) := by decide +kernel
theorem dX7_sheet_58 : decode cX7_sheet 58 = .ok (.iload_n 3, 1) := by decide +kernel
theorem dX7_sheet_59 : decode cX7_sheet 59 = .ok (.invokevirtual 265, 3) := by decide +kernel
theorem dX7_sheet_62 : decode cX7_sheet 62 = .ok (.iload_n 3, 1) := by decide +kernel
theorem dX7_sheet_63 : decode cX7_sheet 63 = .ok (.ireturn, 1) := by decide +kernel
theorem dX7_mark_0 : decode cX7_mark 0 = .ok (.aload_n 0, 1) := by decide +kernel
theorem dX7_mark_1 : decode cX7_mark 1 = .ok (.iload_n 1, 1) := by decide +kernel
theorem dX7_mark_2 : decode cX7_mark 2 = .ok (.invokevirtual 261, 3) := by decide +kernel
theorem dX7_mark_5 : decode cX7_mark 5 = .ok (.astore 4, 2) := by decide +kernel
theorem dX7_mark_7 : decode cX7_mark 7 = .ok (.aload 4, 2) := by decide +kernel
theorem dX7_mark_9 : decode cX7_mark 9 = .ok (.ifnonnull 6, 3) := by decide +kernel
theorem dX7_mark_12 : decode cX7_mark 12 = .ok (.ldc 68, 2) := by decide +kernel
theorem dX7_mark_14 : decode cX7_mark 14 = .ok (.ireturn, 1) := by decide +kernel
theorem dX7_mark_15 : decode cX7_mark 15 = .ok (.aload 4, 2) := by decide +kernel
theorem dX7_mark_17 : decode cX7_mark 17 = .ok (.getfield 269, 3) := by decide +kernel
theorem dX7_mark_20 : decode cX7_mark 20 = .ok (.iconst (-1), 1) := by decide +kernel
theorem dX7_mark_21 : decode cX7_mark 21 = .ok (.if_icmp .ne 7, 3) := by decide +kernel
theorem dX7_mark_24 : decode cX7_mark 24 = .ok (.ldc_w 272, 3) := by decide +kernel
theorem dX7_mark_27 : decode cX7_mark 27 = .ok (.ireturn, 1) := by decide +kernel
theorem dX7_mark_28 : decode cX7_mark 28 = .ok (.iload_n 2, 1) := by decide +kernel
theorem dX7_mark_29 : decode cX7_mark 29 = .ok (.iconst 0, 1) := by decide +kernel
theorem dX7_mark_30 : decode cX7_mark 30 = .ok (.aload 4, 2) := by decide +kernel
theorem dX7_mark_32 : decode cX7_mark 32 = .ok (.getfield 273, 3) := by decide +kernel
theorem dX7_mark_35 : decode cX7_mark 35 = .ok (.iconst 1, 1) := by decide +kernel
theorem dX7_mark_36 : decode cX7_mark 36 = .ok (.isub, 1) := by decide +kernel
theorem dX7_mark_37 : decode cX7_mark 37 = .ok (.invokestatic 82, 3) := by decide +kernel
theorem dX7_mark_40 : decode cX7_mark 40 = .ok (.ifCond .ne 7, 3) := by decide +kernel
theorem dX7_mark_43 : decode cX7_mark 43 = .ok (.ldc_w 274, 3) := by decide +kernel
theorem dX7_mark_46 : decode cX7_mark 46 = .ok (.ireturn, 1) := by decide +kernel
theorem dX7_mark_47 : decode cX7_mark 47 = .ok (.aload 4, 2) := by decide +kernel
theorem dX7_mark_49 : decode cX7_mark 49 = .ok (.getfield 269, 3) := by decide +kernel
theorem dX7_mark_52 : decode cX7_mark 52 = .ok (.ifCond .ne 23, 3) := by decide +kernel
theorem dX7_mark_55 : decode cX7_mark 55 = .ok (.iload_n 3, 1) := by decide +kernel
theorem dX7_mark_56 : decode cX7_mark 56 = .ok (.ldc 183, 2) := by decide +kernel
theorem dX7_mark_58 : decode cX7_mark 58 = .ok (.if_icmp .ne 6, 3) := by decide +kernel
theorem dX7_mark_61 : decode cX7_mark 61 = .ok (.ldc 134, 2) := by decide +kernel
theorem dX7_mark_63 : decode cX7_mark 63 = .ok (.ireturn, 1) := by decide +kernel
theorem dX7_mark_64 : decode cX7_mark 64 = .ok (.aload 4, 2) := by decide +kernel
theorem dX7_mark_66 : decode cX7_mark 66 = .ok (.getfield 275, 3) := by decide +kernel
theorem dX7_mark_69 : decode cX7_mark 69 = .ok (.iload_n 2, 1) := by decide +kernel
theorem dX7_mark_70 : decode cX7_mark 70 = .ok (.iload_n 3, 1) := by decide +kernel
theorem dX7_mark_71 : decode cX7_mark 71 = .ok (.i2s, 1) := by decide +kernel
theorem dX7_mark_72 : decode cX7_mark 72 = .ok (.iastore, 1) := by decide +kernel
theorem dX7_mark_73 : decode cX7_mark 73 = .ok (.iconst 1, 1) := by decide +kernel
theorem dX7_mark_74 : decode cX7_mark 74 = .ok (.ireturn, 1) := by decide +kernel
theorem dX7_mark_75 : decode cX7_mark 75 = .ok (.iload_n 3, 1) := by decide +kernel
theorem dX7_mark_76 : decode cX7_mark 76 = .ok (.ldc 183, 2) := by decide +kernel
theorem dX7_mark_78 : decode cX7_mark 78 = .ok (.if_icmp .eq 19, 3) := by decide +kernel
theorem dX7_mark_81 : decode cX7_mark 81 = .ok (.iload_n 3, 1) := by decide +kernel
theorem dX7_mark_82 : decode cX7_mark 82 = .ok (.ldc_w 278, 3) := by decide +kernel
theorem dX7_mark_85 : decode cX7_mark 85 = .ok (.ldc_w 279, 3) := by decide +kernel
theorem dX7_mark_88 : decode cX7_mark 88 = .ok (.invokestatic 82, 3) := by decide +kernel
theorem dX7_mark_91 : decode cX7_mark 91 = .ok (.ifCond .ne 6, 3) := by decide +kernel
theorem dX7_mark_94 : decode cX7_mark 94 = .ok (.ldc 68, 2) := by decide +kernel
theorem dX7_mark_96 : decode cX7_mark 96 = .ok (.ireturn, 1) := by decide +kernel
theorem dX7_mark_97 : decode cX7_mark 97 = .ok (.aload 4, 2) := by decide +kernel
theorem dX7_mark_99 : decode cX7_mark 99 = .ok (.getfield 275, 3) := by decide +kernel
theorem dX7_mark_102 : decode cX7_mark 102 = .ok (.iload_n 2, 1) := by decide +kernel
theorem dX7_mark_103 : decode cX7_mark 103 = .ok (.iload_n 3, 1) := by decide +kernel
theorem dX7_mark_104 : decode cX7_mark 104 = .ok (.iastore, 1) := by decide +kernel
theorem dX7_mark_105 : decode cX7_mark 105 = .ok (.iconst 1, 1) := by decide +kernel
theorem dX7_mark_106 : decode cX7_mark 106 = .ok (.ireturn, 1) := by decide +kernel
theorem dX7_pour_0 : decode cX7_pour 0 = .ok (.aload_n 0, 1) := by decide +kernel
theorem dX7_pour_1 : decode cX7_pour 1 = .ok (.iload_n 1, 1) := by decide +kernel
theorem dX7_pour_2 : decode cX7_pour 2 = .ok (.invokevirtual 261, 3) := by decide +kernel
theorem dX7_pour_5 : decode cX7_pour 5 = .ok (.astore_n 2, 1) := by decide +kernel
theorem dX7_pour_6 : decode cX7_pour 6 = .ok (.aload_n 2, 1) := by decide +kernel
theorem dX7_pour_7 : decode cX7_pour 7 = .ok (.ifnonnull 6, 3) := by decide +kernel
theorem dX7_pour_10 : decode cX7_pour 10 = .ok (.ldc 68, 2) := by decide +kernel
theorem dX7_pour_12 : decode cX7_pour 12 = .ok (.ireturn, 1) := by decide +kernel
theorem dX7_pour_13 : decode cX7_pour 13 = .ok (.aload_n 2, 1) := by decide +kernel
theorem dX7_pour_14 : decode cX7_pour 14 = .ok (.getfield 269, 3) := by decide +kernel
theorem dX7_pour_17 : decode cX7_pour 17 = .ok (.iconst (-1), 1) := by decide +kernel
theorem dX7_pour_18 : decode cX7_pour 18 = .ok (.if_icmp .ne 7, 3) := by decide +kernel
theorem dX7_pour_21 : decode cX7_pour 21 = .ok (.ldc_w 272, 3) := by decide +kernel
theorem dX7_pour_24 : decode cX7_pour 24 = .ok (.ireturn, 1) := by decide +kernel
theorem dX7_pour_25 : decode cX7_pour 25 = .ok (.iconst 0, 1) := by decide +kernel
theorem dX7_pour_26 : decode cX7_pour 26 = .ok (.istore_n 3, 1) := by decide +kernel
theorem dX7_pour_27 : decode cX7_pour 27 = .ok (.iconst 0, 1) := by decide +kernel
theorem dX7_pour_28 : decode cX7_pour 28 = .ok (.istore 4, 2) := by decide +kernel
theorem dX7_pour_30 : decode cX7_pour 30 = .ok (.iload 4, 2) := by decide +kernel
theorem dX7_pour_32 : decode cX7_pour 32 = .ok (.aload_n 0, 1) := by decide +kernel
theorem dX7_pour_33 : decode cX7_pour 33 = .ok (.getfield 10, 3) := by decide +kernel
theorem dX7_pour_36 : decode cX7_pour 36 = .ok (.getfield 69, 3) := by decide +kernel
theorem dX7_pour_39 : decode cX7_pour 39 = .ok (.if_icmp .ge 91, 3) := by decide +kernel
theorem dX7_pour_42 : decode cX7_pour 42 = .ok (.iload 4, 2) := by decide +kernel
theorem dX7_pour_44 : decode cX7_pour 44 = .ok (.aload_n 2, 1) := by decide +kernel
theorem dX7_pour_45 : decode cX7_pour 45 = .ok (.getfield 273, 3) := by decide +kernel
theorem dX7_pour_48 : decode cX7_pour 48 = .ok (.if_icmp .ge 82, 3) := by decide +kernel
theorem dX7_pour_51 : decode cX7_pour 51 = .ok (.aload_n 0, 1) := by decide +kernel
theorem dX7_pour_52 : decode cX7_pour 52 = .ok (.getfield 10, 3) := by decide +kernel
theorem dX7_pour_55 : decode cX7_pour 55 = .ok (.iload 4, 2) := by decide +kernel
theorem dX7_pour_57 : decode cX7_pour 57 = .ok (.invokevirtual 78, 3) := by decide +kernel
theorem dX7_pour_60 : decode cX7_pour 60 = .ok (.astore 5, 2) := by decide +kernel
theorem dX7_pour_62 : decode cX7_pour 62 = .ok (.aload 5, 2) := by decide +kernel
theorem dX7_pour_64 : decode cX7_pour 64 = .ok (.ifnull 60, 3) := by decide +kernel
theorem dX7_pour_67 : decode cX7_pour 67 = .ok (.aload_n 2, 1) := by decide +kernel
theorem dX7_pour_68 : decode cX7_pour 68 = .ok (.getfield 275, 3) := by decide +kernel
theorem dX7_pour_71 : decode cX7_pour 71 = .ok (.iload 4, 2) := by decide +kernel
theorem dX7_pour_73 : decode cX7_pour 73 = .ok (.iaload, 1) := by decide +kernel
theorem dX7_pour_74 : decode cX7_pour 74 = .ok (.ldc 183, 2) := by decide +kernel
theorem dX7_pour_76 : decode cX7_pour 76 = .ok (.if_icmp .ne 6, 3) := by decide +kernel
theorem dX7_pour_79 : decode cX7_pour 79 = .ok (.goto 45, 3) := by decide +kernel
theorem dX7_pour_82 : decode cX7_pour 82 = .ok (.aload_n 2, 1) := by decide +kernel
theorem dX7_pour_83 : decode cX7_pour 83 = .ok (.getfield 275, 3) := by decide +kernel
theorem dX7_pour_86 : decode cX7_pour 86 = .ok (.iload 4, 2) := by decide +kernel
theorem dX7_pour_88 : decode cX7_pour 88 = .ok (.iaload, 1) := by decide +kernel
theorem dX7_pour_89 : decode cX7_pour 89 = .ok (.getstatic 193, 3) := by decide +kernel
theorem dX7_pour_92 : decode cX7_pour 92 = .ok (.iconst 3, 1) := by decide +kernel
theorem dX7_pour_93 : decode cX7_pour 93 = .ok (.iaload, 1) := by decide +kernel
theorem dX7_pour_94 : decode cX7_pour 94 = .ok (.getstatic 196, 3) := by decide +kernel
theorem dX7_pour_97 : decode cX7_pour 97 = .ok (.iconst 3, 1) := by decide +kernel
theorem dX7_pour_98 : decode cX7_pour 98 = .ok (.iaload, 1) := by decide +kernel
theorem dX7_pour_99 : decode cX7_pour 99 = .ok (.invokestatic 280, 3) := by decide +kernel
theorem dX7_pour_102 : decode cX7_pour 102 = .ok (.istore 6, 2) := by decide +kernel
theorem dX7_pour_104 : decode cX7_pour 104 = .ok (.iload 6, 2) := by decide +kernel
theorem dX7_pour_106 : decode cX7_pour 106 = .ok (.aload 5, 2) := by decide +kernel
theorem dX7_pour_108 : decode cX7_pour 108 = .ok (.getfield 283, 3) := by decide +kernel
theorem dX7_pour_111 : decode cX7_pour 111 = .ok (.if_icmp .eq 6, 3) := by decide +kernel
theorem dX7_pour_114 : decode cX7_pour 114 = .ok (.iinc 3 1, 3) := by decide +kernel
theorem dX7_pour_117 : decode cX7_pour 117 = .ok (.aload 5, 2) := by decide +kernel
theorem dX7_pour_119 : decode cX7_pour 119 = .ok (.iload 6, 2) := by decide +kernel
theorem dX7_pour_121 : decode cX7_pour 121 = .ok (.putfield 283, 3) := by decide +kernel
theorem dX7_pour_124 : decode cX7_pour 124 = .ok (.iinc 4 1, 3) := by decide +kernel
theorem dX7_pour_127 : decode cX7_pour 127 = .ok (.goto (-97), 3) := by decide +kernel
theorem dX7_pour_130 : decode cX7_pour 130 = .ok (.iload_n 3, 1) := by decide +kernel
theorem dX7_pour_131 : decode cX7_pour 131 = .ok (.ireturn, 1) := by decide +kernel
theorem dX7_explained_0 : decode cX7_explained 0 = .ok (.aload_n 0, 1) := by decide +kernel
theorem dX7_explained_1 : decode cX7_explained 1 = .ok (.iload_n 1, 1) := by decide +kernel
theorem dX7_explained_2 : decode cX7_explained 2 = .ok (.invokevirtual 261, 3) := by decide +kernel
theorem dX7_explained_5 : decode cX7_explained 5 = .ok (.astore_n 3, 1) := by decide +kernel
theorem dX7_explained_6 : decode cX7_explained 6 = .ok (.aload_n 3, 1) := by decide +kernel
theorem dX7_explained_7 : decode cX7_explained 7 = .ok (.ifnull 12, 3) := by decide +kernel
theorem dX7_explained_10 : decode cX7_explained 10 = .ok (.iload_n 2, 1) := by decide +kernel
theorem dX7_explained_11 : decode cX7_explained 11 = .ok (.iconst 0, 1) := by decide +kernel
theorem dX7_explained_12 : decode cX7_explained 12 = .ok (.iconst 1, 1) := by decide +kernel
theorem dX7_explained_13 : decode cX7_explained 13 = .ok (.invokestatic 82, 3) := by decide +kernel
theorem dX7_explained_16 : decode cX7_explained 16 = .ok (.ifCond .ne 6, 3) := by decide +kernel
theorem dX7_explained_19 : decode cX7_explained 19 = .ok (.ldc 68, 2) := by decide +kernel
theorem dX7_explained_21 : decode cX7_explained 21 = .ok (.ireturn, 1) := by decide +kernel
theorem dX7_explained_22 : decode cX7_explained 22 = .ok (.aload_n 3, 1) := by decide +kernel
theorem dX7_explained_23 : decode cX7_explained 23 = .ok (.getfield 269, 3) := by decide +kernel
theorem dX7_explained_26 : decode cX7_explained 26 = .ok (.iconst (-1), 1) := by decide +kernel
theorem dX7_explained_27 : decode cX7_explained 27 = .ok (.if_icmp .ne 7, 3) := by decide +kernel
theorem dX7_explained_30 : decode cX7_explained 30 = .ok (.ldc_w 272, 3) := by decide +kernel
theorem dX7_explained_33 : decode cX7_explained 33 = .ok (.ireturn, 1) := by decide +kernel
theorem dX7_explained_34 : decode cX7_explained 34 = .ok (.getstatic 139, 3) := by decide +kernel
theorem dX7_explained_37 : decode cX7_explained 37 = .ok (.iconst 0, 1) := by decide +kernel
theorem dX7_explained_38 : decode cX7_explained 38 = .ok (.iaload, 1) := by decide +kernel
theorem dX7_explained_39 : decode cX7_explained 39 = .ok (.istore 4, 2) := by decide +kernel
theorem dX7_explained_41 : decode cX7_explained 41 = .ok (.aload_n 0, 1) := by decide +kernel
theorem dX7_explained_42 : decode cX7_explained 42 = .ok (.getfield 10, 3) := by decide +kernel
theorem dX7_explained_45 : decode cX7_explained 45 = .ok (.aload_n 3, 1) := by decide +kernel
theorem dX7_explained_46 : decode cX7_explained 46 = .ok (.iload 4, 2) := by decide +kernel
theorem dX7_explained_48 : decode cX7_explained 48 = .ok (.invokevirtual 286, 3) := by decide +kernel
theorem dX7_explained_51 : decode cX7_explained 51 = .ok (.istore 5, 2) := by decide +kernel
theorem dX7_explained_53 : decode cX7_explained 53 = .ok (.iload 4, 2) := by decide +kernel
theorem dX7_explained_55 : decode cX7_explained 55 = .ok (.iconst 1, 1) := by decide +kernel
theorem dX7_explained_56 : decode cX7_explained 56 = .ok (.iadd, 1) := by decide +kernel
theorem dX7_explained_57 : decode cX7_explained 57 = .ok (.istore 6, 2) := by decide +kernel
theorem dX7_explained_59 : decode cX7_explained 59 = .ok (.iload 6, 2) := by decide +kernel
theorem dX7_explained_61 : decode cX7_explained 61 = .ok (.getstatic 143, 3) := by decide +kernel
theorem dX7_explained_64 : decode cX7_explained 64 = .ok (.iconst 0, 1) := by decide +kernel
theorem dX7_explained_65 : decode cX7_explained 65 = .ok (.iaload, 1) := by decide +kernel
theorem dX7_explained_66 : decode cX7_explained 66 = .ok (.if_icmp .gt 36, 3) := by decide +kernel
theorem dX7_explained_69 : decode cX7_explained 69 = .ok (.aload_n 0, 1) := by decide +kernel
theorem dX7_explained_70 : decode cX7_explained 70 = .ok (.getfield 10, 3) := by decide +kernel
theorem dX7_explained_73 : decode cX7_explained 73 = .ok (.aload_n 3, 1) := by decide +kernel
theorem dX7_explained_74 : decode cX7_explained 74 = .ok (.iload 6, 2) := by decide +kernel
theorem dX7_explained_76 : decode cX7_explained 76 = .ok (.invokevirtual 286, 3) := by decide +kernel
theorem dX7_explained_79 : decode cX7_explained 79 = .ok (.istore 7, 2) := by decide +kernel
theorem dX7_explained_81 : decode cX7_explained 81 = .ok (.iload 7, 2) := by decide +kernel
theorem dX7_explained_83 : decode cX7_explained 83 = .ok (.iload 5, 2) := by decide +kernel
theorem dX7_explained_85 : decode cX7_explained 85 = .ok (.if_icmp .ge 11, 3) := by decide +kernel
theorem dX7_explained_88 : decode cX7_explained 88 = .ok (.iload 7, 2) := by decide +kernel
theorem dX7_explained_90 : decode cX7_explained 90 = .ok (.istore 5, 2) := by decide +kernel
theorem dX7_explained_92 : decode cX7_explained 92 = .ok (.iload 6, 2) := by decide +kernel
theorem dX7_explained_94 : decode cX7_explained 94 = .ok (.istore 4, 2) := by decide +kernel
theorem dX7_explained_96 : decode cX7_explained 96 = .ok (.iinc 6 1, 3) := by decide +kernel
theorem dX7_explained_99 : decode cX7_explained 99 = .ok (.goto (-40), 3) := by decide +kernel
theorem dX7_explained_102 : decode cX7_explained 102 = .ok (.iload_n 2, 1) := by decide +kernel
theorem dX7_explained_103 : decode cX7_explained 103 = .ok (.ifCond .ne 8, 3) := by decide +kernel
theorem dX7_explained_106 : decode cX7_explained 106 = .ok (.iload 4, 2) := by decide +kernel
theorem dX7_explained_108 : decode cX7_explained 108 = .ok (.goto 5, 3) := by decide +kernel
theorem dX7_explained_111 : decode cX7_explained 111 = .ok (.iload 5, 2) := by decide +kernel
theorem dX7_explained_113 : decode cX7_explained 113 = .ok (.ireturn, 1) := by decide +kernel
theorem dX7_copy_0 : decode cX7_copy 0 = .ok (.aload_n 0, 1) := by decide +kernel
theorem dX7_copy_1 : decode cX7_copy 1 = .ok (.iload_n 1, 1) := by decide +kernel
theorem dX7_copy_2 : decode cX7_copy 2 = .ok (.invokevirtual 261, 3) := by decide +kernel
theorem dX7_copy_5 : decode cX7_copy 5 = .ok (.astore 6, 2) := by decide +kernel
theorem dX7_copy_7 : decode cX7_copy 7 = .ok (.aload_n 0, 1) := by decide +kernel
theorem dX7_copy_8 : decode cX7_copy 8 = .ok (.iload_n 3, 1) := by decide +kernel
theorem dX7_copy_9 : decode cX7_copy 9 = .ok (.invokevirtual 261, 3) := by decide +kernel
theorem dX7_copy_12 : decode cX7_copy 12 = .ok (.astore 7, 2) := by decide +kernel
theorem dX7_copy_14 : decode cX7_copy 14 = .ok (.aload 6, 2) := by decide +kernel
theorem dX7_copy_16 : decode cX7_copy 16 = .ok (.ifnull 8, 3) := by decide +kernel
theorem dX7_copy_19 : decode cX7_copy 19 = .ok (.aload 7, 2) := by decide +kernel
theorem dX7_copy_21 : decode cX7_copy 21 = .ok (.ifnonnull 6, 3) := by decide +kernel
theorem dX7_copy_24 : decode cX7_copy 24 = .ok (.ldc 68, 2) := by decide +kernel
theorem dX7_copy_26 : decode cX7_copy 26 = .ok (.ireturn, 1) := by decide +kernel
theorem dX7_copy_27 : decode cX7_copy 27 = .ok (.aload 6, 2) := by decide +kernel
theorem dX7_copy_29 : decode cX7_copy 29 = .ok (.getfield 269, 3) := by decide +kernel
theorem dX7_copy_32 : decode cX7_copy 32 = .ok (.iconst (-1), 1) := by decide +kernel
theorem dX7_copy_33 : decode cX7_copy 33 = .ok (.if_icmp .eq 12, 3) := by decide +kernel
theorem dX7_copy_36 : decode cX7_copy 36 = .ok (.aload 7, 2) := by decide +kernel
theorem dX7_copy_38 : decode cX7_copy 38 = .ok (.getfield 269, 3) := by decide +kernel
theorem dX7_copy_41 : decode cX7_copy 41 = .ok (.iconst (-1), 1) := by decide +kernel
theorem dX7_copy_42 : decode cX7_copy 42 = .ok (.if_icmp .ne 7, 3) := by decide +kernel
theorem dX7_copy_45 : decode cX7_copy 45 = .ok (.ldc_w 272, 3) := by decide +kernel
theorem dX7_copy_48 : decode cX7_copy 48 = .ok (.ireturn, 1) := by decide +kernel
theorem dX7_copy_49 : decode cX7_copy 49 = .ok (.aload 6, 2) := by decide +kernel
theorem dX7_copy_51 : decode cX7_copy 51 = .ok (.getfield 269, 3) := by decide +kernel
theorem dX7_copy_54 : decode cX7_copy 54 = .ok (.aload 7, 2) := by decide +kernel
theorem dX7_copy_56 : decode cX7_copy 56 = .ok (.getfield 269, 3) := by decide +kernel
theorem dX7_copy_59 : decode cX7_copy 59 = .ok (.if_icmp .eq 6, 3) := by decide +kernel
theorem dX7_copy_62 : decode cX7_copy 62 = .ok (.ldc 134, 2) := by decide +kernel
theorem dX7_copy_64 : decode cX7_copy 64 = .ok (.ireturn, 1) := by decide +kernel
theorem dX7_copy_65 : decode cX7_copy 65 = .ok (.aload 6, 2) := by decide +kernel
theorem dX7_copy_67 : decode cX7_copy 67 = .ok (.iload_n 2, 1) := by decide +kernel
theorem dX7_copy_68 : decode cX7_copy 68 = .ok (.iload 5, 2) := by decide +kernel
theorem dX7_copy_70 : decode cX7_copy 70 = .ok (.invokevirtual 290, 3) := by decide +kernel
theorem dX7_copy_73 : decode cX7_copy 73 = .ok (.ifCond .eq 15, 3) := by decide +kernel
theorem dX7_copy_76 : decode cX7_copy 76 = .ok (.aload 7, 2) := by decide +kernel
theorem dX7_copy_78 : decode cX7_copy 78 = .ok (.iload 4, 2) := by decide +kernel
theorem dX7_copy_80 : decode cX7_copy 80 = .ok (.iload 5, 2) := by decide +kernel
theorem dX7_copy_82 : decode cX7_copy 82 = .ok (.invokevirtual 290, 3) := by decide +kernel
theorem dX7_copy_85 : decode cX7_copy 85 = .ok (.ifCond .ne 7, 3) := by decide +kernel
theorem dX7_copy_88 : decode cX7_copy 88 = .ok (.ldc_w 274, 3) := by decide +kernel
theorem dX7_copy_91 : decode cX7_copy 91 = .ok (.ireturn, 1) := by decide +kernel
theorem dX7_copy_92 : decode cX7_copy 92 = .ok (.aload 6, 2) := by decide +kernel
theorem dX7_copy_94 : decode cX7_copy 94 = .ok (.getfield 275, 3) := by decide +kernel
theorem dX7_copy_97 : decode cX7_copy 97 = .ok (.iload_n 2, 1) := by decide +kernel
theorem dX7_copy_98 : decode cX7_copy 98 = .ok (.aload 7, 2) := by decide +kernel
theorem dX7_copy_100 : decode cX7_copy 100 = .ok (.getfield 275, 3) := by decide +kernel
theorem dX7_copy_103 : decode cX7_copy 103 = .ok (.iload 4, 2) := by decide +kernel
theorem dX7_copy_105 : decode cX7_copy 105 = .ok (.iload 5, 2) := by decide +kernel
theorem dX7_copy_107 : decode cX7_copy 107 = .ok (.invokestatic 293, 3) := by decide +kernel
theorem dX7_copy_110 : decode cX7_copy 110 = .ok (.iload 5, 2) := by decide +kernel
theorem dX7_copy_112 : decode cX7_copy 112 = .ok (.ireturn, 1) := by decide +kernel
theorem dX7_lay_0 : decode cX7_lay 0 = .ok (.aload_n 0, 1) := by decide +kernel
theorem dX7_lay_1 : decode cX7_lay 1 = .ok (.iload_n 1, 1) := by decide +kernel
theorem dX7_lay_2 : decode cX7_lay 2 = .ok (.invokevirtual 299, 3) := by decide +kernel
theorem dX7_lay_5 : decode cX7_lay 5 = .ok (.astore 4, 2) := by decide +kernel
theorem dX7_lay_7 : decode cX7_lay 7 = .ok (.aload 4, 2) := by decide +kernel
theorem dX7_lay_9 : decode cX7_lay 9 = .ok (.ifnull 12, 3) := by decide +kernel
theorem dX7_lay_12 : decode cX7_lay 12 = .ok (.iload_n 2, 1) := by decide +kernel
theorem dX7_lay_13 : decode cX7_lay 13 = .ok (.iconst 0, 1) := by decide +kernel
theorem dX7_lay_14 : decode cX7_lay 14 = .ok (.iconst 3, 1) := by decide +kernel
theorem dX7_lay_15 : decode cX7_lay 15 = .ok (.invokestatic 82, 3) := by decide +kernel
theorem dX7_lay_18 : decode cX7_lay 18 = .ok (.ifCond .ne 6, 3) := by decide +kernel
theorem dX7_lay_21 : decode cX7_lay 21 = .ok (.ldc 68, 2) := by decide +kernel
theorem dX7_lay_23 : decode cX7_lay 23 = .ok (.ireturn, 1) := by decide +kernel
theorem dX7_lay_24 : decode cX7_lay 24 = .ok (.aload 4, 2) := by decide +kernel
theorem dX7_lay_26 : decode cX7_lay 26 = .ok (.getfield 303, 3) := by decide +kernel
theorem dX7_lay_29 : decode cX7_lay 29 = .ok (.istore 5, 2) := by decide +kernel
theorem dX7_lay_31 : decode cX7_lay 31 = .ok (.iload_n 2, 1) := by decide +kernel
theorem dX7_lay_32 : decode cX7_lay 32 = .ok (.iconst 1, 1) := by decide +kernel
theorem dX7_lay_33 : decode cX7_lay 33 = .ok (.if_icmp .ne 34, 3) := by decide +kernel
theorem dX7_lay_36 : decode cX7_lay 36 = .ok (.aload_n 0, 1) := by decide +kernel
theorem dX7_lay_37 : decode cX7_lay 37 = .ok (.getfield 10, 3) := by decide +kernel
theorem dX7_lay_40 : decode cX7_lay 40 = .ok (.iload_n 3, 1) := by decide +kernel
theorem dX7_lay_41 : decode cX7_lay 41 = .ok (.invokevirtual 78, 3) := by decide +kernel
theorem dX7_lay_44 : decode cX7_lay 44 = .ok (.astore 6, 2) := by decide +kernel
theorem dX7_lay_46 : decode cX7_lay 46 = .ok (.aload 6, 2) := by decide +kernel
theorem dX7_lay_48 : decode cX7_lay 48 = .ok (.ifnonnull 6, 3) := by decide +kernel
theorem dX7_lay_51 : decode cX7_lay 51 = .ok (.ldc 68, 2) := by decide +kernel
theorem dX7_lay_53 : decode cX7_lay 53 = .ok (.ireturn, 1) := by decide +kernel
theorem dX7_lay_54 : decode cX7_lay 54 = .ok (.aload 4, 2) := by decide +kernel
theorem dX7_lay_56 : decode cX7_lay 56 = .ok (.getfield 306, 3) := by decide +kernel
theorem dX7_lay_59 : decode cX7_lay 59 = .ok (.aload 6, 2) := by decide +kernel
theorem dX7_lay_61 : decode cX7_lay 61 = .ok (.invokevirtual 310, 3) := by decide +kernel
theorem dX7_lay_64 : decode cX7_lay 64 = .ok (.goto 60, 3) := by decide +kernel
theorem dX7_lay_67 : decode cX7_lay 67 = .ok (.iload_n 2, 1) := by decide +kernel
theorem dX7_lay_68 : decode cX7_lay 68 = .ok (.iconst 2, 1) := by decide +kernel
theorem dX7_lay_69 : decode cX7_lay 69 = .ok (.if_icmp .ne 44, 3) := by decide +kernel
theorem dX7_lay_72 : decode cX7_lay 72 = .ok (.aload_n 0, 1) := by decide +kernel
theorem dX7_lay_73 : decode cX7_lay 73 = .ok (.iload_n 3, 1) := by decide +kernel
theorem dX7_lay_74 : decode cX7_lay 74 = .ok (.invokevirtual 261, 3) := by decide +kernel
theorem dX7_lay_77 : decode cX7_lay 77 = .ok (.astore 6, 2) := by decide +kernel
theorem dX7_lay_79 : decode cX7_lay 79 = .ok (.aload 6, 2) := by decide +kernel
theorem dX7_lay_81 : decode cX7_lay 81 = .ok (.ifnonnull 6, 3) := by decide +kernel
theorem dX7_lay_84 : decode cX7_lay 84 = .ok (.ldc 68, 2) := by decide +kernel
theorem dX7_lay_86 : decode cX7_lay 86 = .ok (.ireturn, 1) := by decide +kernel
theorem dX7_lay_87 : decode cX7_lay 87 = .ok (.aload 6, 2) := by decide +kernel
theorem dX7_lay_89 : decode cX7_lay 89 = .ok (.getfield 269, 3) := by decide +kernel
theorem dX7_lay_92 : decode cX7_lay 92 = .ok (.iconst (-1), 1) := by decide +kernel
theorem dX7_lay_93 : decode cX7_lay 93 = .ok (.if_icmp .ne 7, 3) := by decide +kernel
theorem dX7_lay_96 : decode cX7_lay 96 = .ok (.ldc_w 272, 3) := by decide +kernel
theorem dX7_lay_99 : decode cX7_lay 99 = .ok (.ireturn, 1) := by decide +kernel
theorem dX7_lay_100 : decode cX7_lay 100 = .ok (.aload 4, 2) := by decide +kernel
theorem dX7_lay_102 : decode cX7_lay 102 = .ok (.getfield 313, 3) := by decide +kernel
theorem dX7_lay_105 : decode cX7_lay 105 = .ok (.aload 6, 2) := by decide +kernel
theorem dX7_lay_107 : decode cX7_lay 107 = .ok (.invokevirtual 317, 3) := by decide +kernel
theorem dX7_lay_110 : decode cX7_lay 110 = .ok (.goto 14, 3) := by decide +kernel
theorem dX7_lay_113 : decode cX7_lay 113 = .ok (.iload_n 2, 1) := by decide +kernel
theorem dX7_lay_114 : decode cX7_lay 114 = .ok (.iconst 3, 1) := by decide +kernel
theorem dX7_lay_115 : decode cX7_lay 115 = .ok (.if_icmp .ne 9, 3) := by decide +kernel
theorem dX7_lay_118 : decode cX7_lay 118 = .ok (.aload 4, 2) := by decide +kernel
theorem dX7_lay_120 : decode cX7_lay 120 = .ok (.iload_n 3, 1) := by decide +kernel
theorem dX7_lay_121 : decode cX7_lay 121 = .ok (.putfield 320, 3) := by decide +kernel
theorem dX7_lay_124 : decode cX7_lay 124 = .ok (.aload 4, 2) := by decide +kernel
theorem dX7_lay_126 : decode cX7_lay 126 = .ok (.iload_n 2, 1) := by decide +kernel
theorem dX7_lay_127 : decode cX7_lay 127 = .ok (.putfield 303, 3) := by decide +kernel
theorem dX7_lay_130 : decode cX7_lay 130 = .ok (.iload 5, 2) := by decide +kernel
theorem dX7_lay_132 : decode cX7_lay 132 = .ok (.ireturn, 1) := by decide +kernel
theorem dX7_ask_0 : decode cX7_ask 0 = .ok (.aload_n 0, 1) := by decide +kernel
theorem dX7_ask_1 : decode cX7_ask 1 = .ok (.iload_n 1, 1) := by decide +kernel
theorem dX7_ask_2 : decode cX7_ask 2 = .ok (.invokevirtual 299, 3) := by decide +kernel
theorem dX7_ask_5 : decode cX7_ask 5 = .ok (.astore_n 3, 1) := by decide +kernel
theorem dX7_ask_6 : decode cX7_ask 6 = .ok (.aload_n 3, 1) := by decide +kernel
theorem dX7_ask_7 : decode cX7_ask 7 = .ok (.ifnull 10, 3) := by decide +kernel
theorem dX7_ask_10 : decode cX7_ask 10 = .ok (.iload_n 2, 1) := by decide +kernel
theorem dX7_ask_11 : decode cX7_ask 11 = .ok (.invokestatic 60, 3) := by decide +kernel
theorem dX7_ask_14 : decode cX7_ask 14 = .ok (.ifCond .ne 6, 3) := by decide +kernel
theorem dX7_ask_17 : decode cX7_ask 17 = .ok (.ldc 68, 2) := by decide +kernel
theorem dX7_ask_19 : decode cX7_ask 19 = .ok (.ireturn, 1) := by decide +kernel
theorem dX7_ask_20 : decode cX7_ask 20 = .ok (.aload_n 3, 1) := by decide +kernel
theorem dX7_ask_21 : decode cX7_ask 21 = .ok (.getfield 303, 3) := by decide +kernel
theorem dX7_ask_24 : decode cX7_ask 24 = .ok (.ifCond .ne 7, 3) := by decide +kernel
theorem dX7_ask_27 : decode cX7_ask 27 = .ok (.ldc_w 272, 3) := by decide +kernel
theorem dX7_ask_30 : decode cX7_ask 30 = .ok (.ireturn, 1) := by decide +kernel
theorem dX7_ask_31 : decode cX7_ask 31 = .ok (.aload_n 3, 1) := by decide +kernel
theorem dX7_ask_32 : decode cX7_ask 32 = .ok (.getfield 303, 3) := by decide +kernel
theorem dX7_ask_35 : decode cX7_ask 35 = .ok (.iconst 1, 1) := by decide +kernel
theorem dX7_ask_36 : decode cX7_ask 36 = .ok (.if_icmp .ne 17, 3) := by decide +kernel
theorem dX7_ask_39 : decode cX7_ask 39 = .ok (.aload_n 3, 1) := by decide +kernel
theorem dX7_ask_40 : decode cX7_ask 40 = .ok (.getfield 306, 3) := by decide +kernel
theorem dX7_ask_43 : decode cX7_ask 43 = .ok (.getfield 86, 3) := by decide +kernel
theorem dX7_ask_46 : decode cX7_ask 46 = .ok (.iload_n 2, 1) := by decide +kernel
theorem dX7_ask_47 : decode cX7_ask 47 = .ok (.invokestatic 128, 3) := by decide +kernel
theorem dX7_ask_50 : decode cX7_ask 50 = .ok (.ifCond .ne 6, 3) := by decide +kernel
theorem dX7_ask_53 : decode cX7_ask 53 = .ok (.ldc 134, 2) := by decide +kernel
theorem dX7_ask_55 : decode cX7_ask 55 = .ok (.ireturn, 1) := by decide +kernel
theorem dX7_ask_56 : decode cX7_ask 56 = .ok (.aload_n 3, 1) := by decide +kernel
theorem dX7_ask_57 : decode cX7_ask 57 = .ok (.getfield 306, 3) := by decide +kernel
theorem dX7_ask_60 : decode cX7_ask 60 = .ok (.invokevirtual 112, 3) := by decide +kernel
theorem dX7_ask_63 : decode cX7_ask 63 = .ok (.ireturn, 1) := by decide +kernel
theorem dX7_item_0 : decode cX7_item 0 = .ok (.aload_n 0, 1) := by decide +kernel
theorem dX7_item_1 : decode cX7_item 1 = .ok (.iload_n 1, 1) := by decide +kernel
theorem dX7_item_2 : decode cX7_item 2 = .ok (.invokevirtual 299, 3) := by decide +kernel
theorem dX7_item_5 : decode cX7_item 5 = .ok (.astore_n 3, 1) := by decide +kernel
theorem dX7_item_6 : decode cX7_item 6 = .ok (.aload_n 3, 1) := by decide +kernel
theorem dX7_item_7 : decode cX7_item 7 = .ok (.ifnonnull 6, 3) := by decide +kernel
theorem dX7_item_10 : decode cX7_item 10 = .ok (.ldc 68, 2) := by decide +kernel
theorem dX7_item_12 : decode cX7_item 12 = .ok (.ireturn, 1) := by decide +kernel
theorem dX7_item_13 : decode cX7_item 13 = .ok (.aload_n 3, 1) := by decide +kernel
theorem dX7_item_14 : decode cX7_item 14 = .ok (.getfield 303, 3) := by decide +kernel
theorem dX7_item_17 : decode cX7_item 17 = .ok (.ifCond .ne 7, 3) := by decide +kernel
theorem dX7_item_20 : decode cX7_item 20 = .ok (.ldc_w 272, 3) := by decide +kernel
theorem dX7_item_23 : decode cX7_item 23 = .ok (.ireturn, 1) := by decide +kernel
theorem dX7_item_24 : decode cX7_item 24 = .ok (.aload_n 3, 1) := by decide +kernel
theorem dX7_item_25 : decode cX7_item 25 = .ok (.getfield 303, 3) := by decide +kernel
theorem dX7_item_28 : decode cX7_item 28 = .ok (.iconst 2, 1) := by decide +kernel
theorem dX7_item_29 : decode cX7_item 29 = .ok (.if_icmp .eq 6, 3) := by decide +kernel
theorem dX7_item_32 : decode cX7_item 32 = .ok (.ldc 134, 2) := by decide +kernel
theorem dX7_item_34 : decode cX7_item 34 = .ok (.ireturn, 1) := by decide +kernel
theorem dX7_item_35 : decode cX7_item 35 = .ok (.iload_n 2, 1) := by decide +kernel
theorem dX7_item_36 : decode cX7_item 36 = .ok (.iconst 0, 1) := by decide +kernel
theorem dX7_item_37 : decode cX7_item 37 = .ok (.aload_n 3, 1) := by decide +kernel
theorem dX7_item_38 : decode cX7_item 38 = .ok (.getfield 313, 3) := by decide +kernel
theorem dX7_item_41 : decode cX7_item 41 = .ok (.getfield 273, 3) := by decide +kernel
theorem dX7_item_44 : decode cX7_item 44 = .ok (.iconst 1, 1) := by decide +kernel
theorem dX7_item_45 : decode cX7_item 45 = .ok (.isub, 1) := by decide +kernel
theorem dX7_item_46 : decode cX7_item 46 = .ok (.invokestatic 82, 3) := by decide +kernel
theorem dX7_item_49 : decode cX7_item 49 = .ok (.ifCond .ne 7, 3) := by decide +kernel
theorem dX7_item_52 : decode cX7_item 52 = .ok (.ldc_w 274, 3) := by decide +kernel
theorem dX7_item_55 : decode cX7_item 55 = .ok (.ireturn, 1) := by decide +kernel
theorem dX7_item_56 : decode cX7_item 56 = .ok (.aload_n 3, 1) := by decide +kernel
theorem dX7_item_57 : decode cX7_item 57 = .ok (.getfield 313, 3) := by decide +kernel
theorem dX7_item_60 : decode cX7_item 60 = .ok (.getfield 275, 3) := by decide +kernel
theorem dX7_item_63 : decode cX7_item 63 = .ok (.iload_n 2, 1) := by decide +kernel
theorem dX7_item_64 : decode cX7_item 64 = .ok (.iaload, 1) := by decide +kernel
theorem dX7_item_65 : decode cX7_item 65 = .ok (.istore 4, 2) := by decide +kernel
theorem dX7_item_67 : decode cX7_item 67 = .ok (.iload 4, 2) := by decide +kernel
theorem dX7_item_69 : decode cX7_item 69 = .ok (.ldc 183, 2) := by decide +kernel
theorem dX7_item_71 : decode cX7_item 71 = .ok (.if_icmp .ne 8, 3) := by decide +kernel
theorem dX7_item_74 : decode cX7_item 74 = .ok (.ldc 134, 2) := by decide +kernel
theorem dX7_item_76 : decode cX7_item 76 = .ok (.goto 5, 3) := by decide +kernel
theorem dX7_item_79 : decode cX7_item 79 = .ok (.iload 4, 2) := by decide +kernel
theorem dX7_item_81 : decode cX7_item 81 = .ok (.ireturn, 1) := by decide +kernel
theorem dX7_rest_0 : decode cX7_rest 0 = .ok (.aload_n 0, 1) := by decide +kernel
theorem dX7_rest_1 : decode cX7_rest 1 = .ok (.iload_n 1, 1) := by decide +kernel
theorem dX7_rest_2 : decode cX7_rest 2 = .ok (.invokevirtual 299, 3) := by decide +kernel
theorem dX7_rest_5 : decode cX7_rest 5 = .ok (.astore_n 3, 1) := by decide +kernel
theorem dX7_rest_6 : decode cX7_rest 6 = .ok (.aload_n 3, 1) := by decide +kernel
theorem dX7_rest_7 : decode cX7_rest 7 = .ok (.ifnonnull 6, 3) := by decide +kernel
theorem dX7_rest_10 : decode cX7_rest 10 = .ok (.ldc 68, 2) := by decide +kernel
theorem dX7_rest_12 : decode cX7_rest 12 = .ok (.ireturn, 1) := by decide +kernel
theorem dX7_rest_13 : decode cX7_rest 13 = .ok (.aload_n 3, 1) := by decide +kernel
theorem dX7_rest_14 : decode cX7_rest 14 = .ok (.getfield 303, 3) := by decide +kernel
theorem dX7_rest_17 : decode cX7_rest 17 = .ok (.ifCond .ne 7, 3) := by decide +kernel
theorem dX7_rest_20 : decode cX7_rest 20 = .ok (.ldc_w 272, 3) := by decide +kernel
theorem dX7_rest_23 : decode cX7_rest 23 = .ok (.ireturn, 1) := by decide +kernel
theorem dX7_rest_24 : decode cX7_rest 24 = .ok (.aload_n 3, 1) := by decide +kernel
theorem dX7_rest_25 : decode cX7_rest 25 = .ok (.getfield 303, 3) := by decide +kernel
theorem dX7_rest_28 : decode cX7_rest 28 = .ok (.iconst 3, 1) := by decide +kernel
theorem dX7_rest_29 : decode cX7_rest 29 = .ok (.if_icmp .eq 6, 3) := by decide +kernel
theorem dX7_rest_32 : decode cX7_rest 32 = .ok (.ldc 134, 2) := by decide +kernel
theorem dX7_rest_34 : decode cX7_rest 34 = .ok (.ireturn, 1) := by decide +kernel
theorem dX7_rest_35 : decode cX7_rest 35 = .ok (.iload_n 2, 1) := by decide +kernel
theorem dX7_rest_36 : decode cX7_rest 36 = .ok (.ifCond .ne 9, 3) := by decide +kernel
theorem dX7_rest_39 : decode cX7_rest 39 = .ok (.ldc_w 323, 3) := by decide +kernel
theorem dX7_rest_42 : decode cX7_rest 42 = .ok (.goto 9, 3) := by decide +kernel
theorem dX7_rest_45 : decode cX7_rest 45 = .ok (.aload_n 3, 1) := by decide +kernel
theorem dX7_rest_46 : decode cX7_rest 46 = .ok (.getfield 320, 3) := by decide +kernel
theorem dX7_rest_49 : decode cX7_rest 49 = .ok (.iload_n 2, 1) := by decide +kernel
theorem dX7_rest_50 : decode cX7_rest 50 = .ok (.irem, 1) := by decide +kernel
theorem dX7_rest_51 : decode cX7_rest 51 = .ok (.ireturn, 1) := by decide +kernel
theorem dX7_tell_0 : decode cX7_tell 0 = .ok (.aload_n 0, 1) := by decide +kernel
theorem dX7_tell_1 : decode cX7_tell 1 = .ok (.getfield 43, 3) := by decide +kernel
theorem dX7_tell_4 : decode cX7_tell 4 = .ok (.getfield 227, 3) := by decide +kernel
theorem dX7_tell_7 : decode cX7_tell 7 = .ok (.bipush 60, 2) := by decide +kernel
theorem dX7_tell_9 : decode cX7_tell 9 = .ok (.if_icmp .lt 6, 3) := by decide +kernel
theorem dX7_tell_12 : decode cX7_tell 12 = .ok (.ldc 73, 2) := by decide +kernel
theorem dX7_tell_14 : decode cX7_tell 14 = .ok (.ireturn, 1) := by decide +kernel
theorem dX7_tell_15 : decode cX7_tell 15 = .ok (.aload_n 0, 1) := by decide +kernel
theorem dX7_tell_16 : decode cX7_tell 16 = .ok (.getfield 43, 3) := by decide +kernel
theorem dX7_tell_19 : decode cX7_tell 19 = .ok (.iload_n 1, 1) := by decide +kernel
theorem dX7_tell_20 : decode cX7_tell 20 = .ok (.invokevirtual 324, 3) := by decide +kernel
theorem dX7_tell_23 : decode cX7_tell 23 = .ok (.aload_n 0, 1) := by decide +kernel
theorem dX7_tell_24 : decode cX7_tell 24 = .ok (.getfield 43, 3) := by decide +kernel
theorem dX7_tell_27 : decode cX7_tell 27 = .ok (.getfield 227, 3) := by decide +kernel
theorem dX7_tell_30 : decode cX7_tell 30 = .ok (.ireturn, 1) := by decide +kernel
theorem dX7_check_0 : decode cX7_check 0 = .ok (.aload_n 0, 1) := by decide +kernel
theorem dX7_check_1 : decode cX7_check 1 = .ok (.getfield 43, 3) := by decide +kernel
theorem dX7_check_4 : decode cX7_check 4 = .ok (.getfield 227, 3) := by decide +kernel
theorem dX7_check_7 : decode cX7_check 7 = .ok (.istore_n 2, 1) := by decide +kernel
theorem dX7_check_8 : decode cX7_check 8 = .ok (.aload_n 0, 1) := by decide +kernel
theorem dX7_check_9 : decode cX7_check 9 = .ok (.getfield 43, 3) := by decide +kernel
theorem dX7_check_12 : decode cX7_check 12 = .ok (.iconst 0, 1) := by decide +kernel
theorem dX7_check_13 : decode cX7_check 13 = .ok (.putfield 227, 3) := by decide +kernel
theorem dX7_check_16 : decode cX7_check 16 = .ok (.iload_n 1, 1) := by decide +kernel
theorem dX7_check_17 : decode cX7_check 17 = .ok (.iconst 1, 1) := by decide +kernel
theorem dX7_check_18 : decode cX7_check 18 = .ok (.bipush 30, 2) := by decide +kernel
theorem dX7_check_20 : decode cX7_check 20 = .ok (.invokestatic 82, 3) := by decide +kernel
theorem dX7_check_23 : decode cX7_check 23 = .ok (.ifCond .ne 6, 3) := by decide +kernel
theorem dX7_check_26 : decode cX7_check 26 = .ok (.ldc 68, 2) := by decide +kernel
theorem dX7_check_28 : decode cX7_check 28 = .ok (.ireturn, 1) := by decide +kernel
theorem dX7_check_29 : decode cX7_check 29 = .ok (.aload_n 0, 1) := by decide +kernel
theorem dX7_check_30 : decode cX7_check 30 = .ok (.getfield 22, 3) := by decide +kernel
theorem dX7_check_33 : decode cX7_check 33 = .ok (.ifCond .ne 7, 3) := by decide +kernel
theorem dX7_check_36 : decode cX7_check 36 = .ok (.ldc_w 323, 3) := by decide +kernel
theorem dX7_check_39 : decode cX7_check 39 = .ok (.ireturn, 1) := by decide +kernel
theorem dX7_check_40 : decode cX7_check 40 = .ok (.aload_n 0, 1) := by decide +kernel
theorem dX7_check_41 : decode cX7_check 41 = .ok (.getfield 16, 3) := by decide +kernel
theorem dX7_check_44 : decode cX7_check 44 = .ok (.aload_n 0, 1) := by decide +kernel
theorem dX7_check_45 : decode cX7_check 45 = .ok (.getfield 19, 3) := by decide +kernel
theorem dX7_check_48 : decode cX7_check 48 = .ok (.invokevirtual 170, 3) := by decide +kernel
theorem dX7_check_51 : decode cX7_check 51 = .ok (.iload_n 1, 1) := by decide +kernel
theorem dX7_check_52 : decode cX7_check 52 = .ok (.ldc_w 279, 3) := by decide +kernel
theorem dX7_check_55 : decode cX7_check 55 = .ok (.aload_n 0, 1) := by decide +kernel
theorem dX7_check_56 : decode cX7_check 56 = .ok (.getfield 16, 3) := by decide +kernel
theorem dX7_check_59 : decode cX7_check 59 = .ok (.getfield 327, 3) := by decide +kernel
theorem dX7_check_62 : decode cX7_check 62 = .ok (.isub, 1) := by decide +kernel
theorem dX7_check_63 : decode cX7_check 63 = .ok (.invokestatic 150, 3) := by decide +kernel
theorem dX7_check_66 : decode cX7_check 66 = .ok (.istore_n 3, 1) := by decide +kernel
theorem dX7_check_67 : decode cX7_check 67 = .ok (.iconst 0, 1) := by decide +kernel
theorem dX7_check_68 : decode cX7_check 68 = .ok (.istore 4, 2) := by decide +kernel
theorem dX7_check_70 : decode cX7_check 70 = .ok (.iload 4, 2) := by decide +kernel
theorem dX7_check_72 : decode cX7_check 72 = .ok (.iload_n 3, 1) := by decide +kernel
theorem dX7_check_73 : decode cX7_check 73 = .ok (.if_icmp .ge 72, 3) := by decide +kernel
theorem dX7_check_76 : decode cX7_check 76 = .ok (.aload_n 0, 1) := by decide +kernel
theorem dX7_check_77 : decode cX7_check 77 = .ok (.getfield 16, 3) := by decide +kernel
theorem dX7_check_80 : decode cX7_check 80 = .ok (.iconst 1, 1) := by decide +kernel
theorem dX7_check_81 : decode cX7_check 81 = .ok (.invokevirtual 164, 3) := by decide +kernel
theorem dX7_check_84 : decode cX7_check 84 = .ok (.pop, 1) := by decide +kernel
theorem dX7_check_85 : decode cX7_check 85 = .ok (.aload_n 0, 1) := by decide +kernel
theorem dX7_check_86 : decode cX7_check 86 = .ok (.iconst 2, 1) := by decide +kernel
theorem dX7_check_87 : decode cX7_check 87 = .ok (.iload 4, 2) := by decide +kernel
theorem dX7_check_89 : decode cX7_check 89 = .ok (.imul, 1) := by decide +kernel
theorem dX7_check_90 : decode cX7_check 90 = .ok (.iload_n 2, 1) := by decide +kernel
theorem dX7_check_91 : decode cX7_check 91 = .ok (.aload_n 0, 1) := by decide +kernel
theorem dX7_check_92 : decode cX7_check 92 = .ok (.getfield 16, 3) := by decide +kernel
theorem dX7_check_95 : decode cX7_check 95 = .ok (.getfield 174, 3) := by decide +kernel
theorem dX7_check_98 : decode cX7_check 98 = .ok (.invokevirtual 330, 3) := by decide +kernel
theorem dX7_check_101 : decode cX7_check 101 = .ok (.ifCond .ne 10, 3) := by decide +kernel
theorem dX7_check_104 : decode cX7_check 104 = .ok (.iconst 2, 1) := by decide +kernel
theorem dX7_check_105 : decode cX7_check 105 = .ok (.iload 4, 2) := by decide +kernel
theorem dX7_check_107 : decode cX7_check 107 = .ok (.imul, 1) := by decide +kernel
theorem dX7_check_108 : decode cX7_check 108 = .ok (.iconst 1, 1) := by decide +kernel
theorem dX7_check_109 : decode cX7_check 109 = .ok (.iadd, 1) := by decide +kernel
theorem dX7_check_110 : decode cX7_check 110 = .ok (.ireturn, 1) := by decide +kernel
theorem dX7_check_111 : decode cX7_check 111 = .ok (.aload_n 0, 1) := by decide +kernel
theorem dX7_check_112 : decode cX7_check 112 = .ok (.iconst 2, 1) := by decide +kernel
theorem dX7_check_113 : decode cX7_check 113 = .ok (.iload 4, 2) := by decide +kernel
theorem dX7_check_115 : decode cX7_check 115 = .ok (.imul, 1) := by decide +kernel
theorem dX7_check_116 : decode cX7_check 116 = .ok (.iconst 1, 1) := by decide +kernel
theorem dX7_check_117 : decode cX7_check 117 = .ok (.iadd, 1) := by decide +kernel
theorem dX7_check_118 : decode cX7_check 118 = .ok (.iload_n 2, 1) := by decide +kernel
theorem dX7_check_119 : decode cX7_check 119 = .ok (.aload_n 0, 1) := by decide +kernel
theorem dX7_check_120 : decode cX7_check 120 = .ok (.getfield 16, 3) := by decide +kernel
theorem dX7_check_123 : decode cX7_check 123 = .ok (.invokevirtual 333, 3) := by decide +kernel
theorem dX7_check_126 : decode cX7_check 126 = .ok (.invokevirtual 330, 3) := by decide +kernel
theorem dX7_check_129 : decode cX7_check 129 = .ok (.ifCond .ne 10, 3) := by decide +kernel
theorem dX7_check_132 : decode cX7_check 132 = .ok (.iconst 2, 1) := by decide +kernel
theorem dX7_check_133 : decode cX7_check 133 = .ok (.iload 4, 2) := by decide +kernel
theorem dX7_check_135 : decode cX7_check 135 = .ok (.imul, 1) := by decide +kernel
theorem dX7_check_136 : decode cX7_check 136 = .ok (.iconst 2, 1) := by decide +kernel
theorem dX7_check_137 : decode cX7_check 137 = .ok (.iadd, 1) := by decide +kernel
theorem dX7_check_138 : decode cX7_check 138 = .ok (.ireturn, 1) := by decide +kernel
theorem dX7_check_139 : decode cX7_check 139 = .ok (.iinc 4 1, 3) := by decide +kernel
theorem dX7_check_142 : decode cX7_check 142 = .ok (.goto (-72), 3) := by decide +kernel
theorem dX7_check_145 : decode cX7_check 145 = .ok (.iload_n 2, 1) := by decide +kernel
theorem dX7_check_146 : decode cX7_check 146 = .ok (.iconst 2, 1) := by decide +kernel
theorem dX7_check_147 : decode cX7_check 147 = .ok (.iload_n 3, 1) := by decide +kernel
theorem dX7_check_148 : decode cX7_check 148 = .ok (.imul, 1) := by decide +kernel
theorem dX7_check_149 : decode cX7_check 149 = .ok (.if_icmp .le 11, 3) := by decide +kernel
theorem dX7_check_152 : decode cX7_check 152 = .ok (.iconst 2, 1) := by decide +kernel
theorem dX7_check_153 : decode cX7_check 153 = .ok (.iload_n 3, 1) := by decide +kernel
theorem dX7_check_154 : decode cX7_check 154 = .ok (.imul, 1) := by decide +kernel
theorem dX7_check_155 : decode cX7_check 155 = .ok (.iconst 1, 1) := by decide +kernel
theorem dX7_check_156 : decode cX7_check 156 = .ok (.iadd, 1) := by decide +kernel
theorem dX7_check_157 : decode cX7_check 157 = .ok (.goto 4, 3) := by decide +kernel
theorem dX7_check_160 : decode cX7_check 160 = .ok (.iconst 0, 1) := by decide +kernel
theorem dX7_check_161 : decode cX7_check 161 = .ok (.ireturn, 1) := by decide +kernel
theorem dX7_keep_0 : decode cX7_keep 0 = .ok (.aload_n 0, 1) := by decide +kernel
theorem dX7_keep_1 : decode cX7_keep 1 = .ok (.getfield 19, 3) := by decide +kernel
theorem dX7_keep_4 : decode cX7_keep 4 = .ok (.aload_n 0, 1) := by decide +kernel
theorem dX7_keep_5 : decode cX7_keep 5 = .ok (.getfield 10, 3) := by decide +kernel
theorem dX7_keep_8 : decode cX7_keep 8 = .ok (.invokevirtual 170, 3) := by decide +kernel
theorem dX7_keep_11 : decode cX7_keep 11 = .ok (.aload_n 0, 1) := by decide +kernel
theorem dX7_keep_12 : decode cX7_keep 12 = .ok (.iconst 1, 1) := by decide +kernel
theorem dX7_keep_13 : decode cX7_keep 13 = .ok (.putfield 22, 3) := by decide +kernel
theorem dX7_keep_16 : decode cX7_keep 16 = .ok (.aload_n 0, 1) := by decide +kernel
theorem dX7_keep_17 : decode cX7_keep 17 = .ok (.getfield 10, 3) := by decide +kernel
theorem dX7_keep_20 : decode cX7_keep 20 = .ok (.getfield 69, 3) := by decide +kernel
theorem dX7_keep_23 : decode cX7_keep 23 = .ok (.ireturn, 1) := by decide +kernel
theorem dX7_back_0 : decode cX7_back 0 = .ok (.aload_n 0, 1) := by decide +kernel
theorem dX7_back_1 : decode cX7_back 1 = .ok (.getfield 22, 3) := by decide +kernel
theorem dX7_back_4 : decode cX7_back 4 = .ok (.ifCond .ne 7, 3) := by decide +kernel
theorem dX7_back_7 : decode cX7_back 7 = .ok (.ldc_w 323, 3) := by decide +kernel
theorem dX7_back_10 : decode cX7_back 10 = .ok (.ireturn, 1) := by decide +kernel
theorem dX7_back_11 : decode cX7_back 11 = .ok (.aload_n 0, 1) := by decide +kernel
theorem dX7_back_12 : decode cX7_back 12 = .ok (.getfield 10, 3) := by decide +kernel
theorem dX7_back_15 : decode cX7_back 15 = .ok (.aload_n 0, 1) := by decide +kernel
theorem dX7_back_16 : decode cX7_back 16 = .ok (.getfield 19, 3) := by decide +kernel
theorem dX7_back_19 : decode cX7_back 19 = .ok (.invokevirtual 170, 3) := by decide +kernel
theorem dX7_back_22 : decode cX7_back 22 = .ok (.aload_n 0, 1) := by decide +kernel
theorem dX7_back_23 : decode cX7_back 23 = .ok (.getfield 10, 3) := by decide +kernel
theorem dX7_back_26 : decode cX7_back 26 = .ok (.getfield 69, 3) := by decide +kernel
theorem dX7_back_29 : decode cX7_back 29 = .ok (.ireturn, 1) := by decide +kernel
theorem dX7_count_0 : decode cX7_count 0 = .ok (.iload_n 1, 1) := by decide +kernel
theorem dX7_count_1 : decode cX7_count 1 = .ok (.tableswitch 159 0 11 #[63, 71, 79, 87, 95, 103, 111, 119, 127, 135, 143, 151], 63) := by decide +kernel
theorem dX7_count_64 : decode cX7_count 64 = .ok (.aload_n 0, 1) := by decide +kernel
theorem dX7_count_65 : decode cX7_count 65 = .ok (.getfield 10, 3) := by decide +kernel
theorem dX7_count_68 : decode cX7_count 68 = .ok (.getfield 69, 3) := by decide +kernel
theorem dX7_count_71 : decode cX7_count 71 = .ok (.ireturn, 1) := by decide +kernel
theorem dX7_count_72 : decode cX7_count 72 = .ok (.aload_n 0, 1) := by decide +kernel
theorem dX7_count_73 : decode cX7_count 73 = .ok (.getfield 10, 3) := by decide +kernel
theorem dX7_count_76 : decode cX7_count 76 = .ok (.invokevirtual 333, 3) := by decide +kernel
theorem dX7_count_79 : decode cX7_count 79 = .ok (.ireturn, 1) := by decide +kernel
theorem dX7_count_80 : decode cX7_count 80 = .ok (.aload_n 0, 1) := by decide +kernel
theorem dX7_count_81 : decode cX7_count 81 = .ok (.getfield 10, 3) := by decide +kernel
theorem dX7_count_84 : decode cX7_count 84 = .ok (.getfield 327, 3) := by decide +kernel
theorem dX7_count_87 : decode cX7_count 87 = .ok (.ireturn, 1) := by decide +kernel
theorem dX7_count_88 : decode cX7_count 88 = .ok (.aload_n 0, 1) := by decide +kernel
theorem dX7_count_89 : decode cX7_count 89 = .ok (.getfield 10, 3) := by decide +kernel
theorem dX7_count_92 : decode cX7_count 92 = .ok (.getfield 174, 3) := by decide +kernel
theorem dX7_count_95 : decode cX7_count 95 = .ok (.ireturn, 1) := by decide +kernel
theorem dX7_count_96 : decode cX7_count 96 = .ok (.aload_n 0, 1) := by decide +kernel
theorem dX7_count_97 : decode cX7_count 97 = .ok (.getfield 10, 3) := by decide +kernel
theorem dX7_count_100 : decode cX7_count 100 = .ok (.getfield 187, 3) := by decide +kernel
theorem dX7_count_103 : decode cX7_count 103 = .ok (.ireturn, 1) := by decide +kernel
theorem dX7_count_104 : decode cX7_count 104 = .ok (.aload_n 0, 1) := by decide +kernel
theorem dX7_count_105 : decode cX7_count 105 = .ok (.getfield 10, 3) := by decide +kernel
theorem dX7_count_108 : decode cX7_count 108 = .ok (.getfield 207, 3) := by decide +kernel
theorem dX7_count_111 : decode cX7_count 111 = .ok (.ireturn, 1) := by decide +kernel
theorem dX7_count_112 : decode cX7_count 112 = .ok (.aload_n 0, 1) := by decide +kernel
theorem dX7_count_113 : decode cX7_count 113 = .ok (.getfield 10, 3) := by decide +kernel
theorem dX7_count_116 : decode cX7_count 116 = .ok (.invokevirtual 167, 3) := by decide +kernel
theorem dX7_count_119 : decode cX7_count 119 = .ok (.ireturn, 1) := by decide +kernel
theorem dX7_count_120 : decode cX7_count 120 = .ok (.aload_n 0, 1) := by decide +kernel
theorem dX7_count_121 : decode cX7_count 121 = .ok (.getfield 10, 3) := by decide +kernel
theorem dX7_count_124 : decode cX7_count 124 = .ok (.invokevirtual 177, 3) := by decide +kernel
theorem dX7_count_127 : decode cX7_count 127 = .ok (.ireturn, 1) := by decide +kernel
theorem dX7_count_128 : decode cX7_count 128 = .ok (.aload_n 0, 1) := by decide +kernel
theorem dX7_count_129 : decode cX7_count 129 = .ok (.getfield 10, 3) := by decide +kernel
theorem dX7_count_132 : decode cX7_count 132 = .ok (.getfield 238, 3) := by decide +kernel
theorem dX7_count_135 : decode cX7_count 135 = .ok (.ireturn, 1) := by decide +kernel
theorem dX7_count_136 : decode cX7_count 136 = .ok (.aload_n 0, 1) := by decide +kernel
theorem dX7_count_137 : decode cX7_count 137 = .ok (.getfield 43, 3) := by decide +kernel
theorem dX7_count_140 : decode cX7_count 140 = .ok (.getfield 227, 3) := by decide +kernel
theorem dX7_count_143 : decode cX7_count 143 = .ok (.ireturn, 1) := by decide +kernel
theorem dX7_count_144 : decode cX7_count 144 = .ok (.aload_n 0, 1) := by decide +kernel
theorem dX7_count_145 : decode cX7_count 145 = .ok (.getfield 37, 3) := by decide +kernel
theorem dX7_count_148 : decode cX7_count 148 = .ok (.getfield 227, 3) := by decide +kernel
theorem dX7_count_151 : decode cX7_count 151 = .ok (.ireturn, 1) := by decide +kernel
theorem dX7_count_152 : decode cX7_count 152 = .ok (.aload_n 0, 1) := by decide +kernel
theorem dX7_count_153 : decode cX7_count 153 = .ok (.getfield 10, 3) := by decide +kernel
theorem dX7_count_156 : decode cX7_count 156 = .ok (.getfield 161, 3) := by decide +kernel
theorem dX7_count_159 : decode cX7_count 159 = .ok (.ireturn, 1) := by decide +kernel
theorem dX7_count_160 : decode cX7_count 160 = .ok (.ldc 68, 2) := by decide +kernel
theorem dX7_count_162 : decode cX7_count 162 = .ok (.ireturn, 1) := by decide +kernel
theorem dX7_within_0 : decode cX7_within 0 = .ok (.iload_n 0, 1) := by decide +kernel
theorem dX7_within_1 : decode cX7_within 1 = .ok (.iload_n 1, 1) := by decide +kernel
theorem dX7_within_2 : decode cX7_within 2 = .ok (.if_icmp .lt 12, 3) := by decide +kernel
theorem dX7_within_5 : decode cX7_within 5 = .ok (.iload_n 0, 1) := by decide +kernel
theorem dX7_within_6 : decode cX7_within 6 = .ok (.iload_n 2, 1) := by decide +kernel
theorem dX7_within_7 : decode cX7_within 7 = .ok (.if_icmp .gt 7, 3) := by decide +kernel
theorem dX7_within_10 : decode cX7_within 10 = .ok (.iconst 1, 1) := by decide +kernel
theorem dX7_within_11 : decode cX7_within 11 = .ok (.goto 4, 3) := by decide +kernel
theorem dX7_within_14 : decode cX7_within 14 = .ok (.iconst 0, 1) := by decide +kernel
theorem dX7_within_15 : decode cX7_within 15 = .ok (.ireturn, 1) := by decide +kernel
theorem dX7_held_0 : decode cX7_held 0 = .ok (.iload_n 1, 1) := by decide +kernel
theorem dX7_held_1 : decode cX7_held 1 = .ok (.iload_n 2, 1) := by decide +kernel
theorem dX7_held_2 : decode cX7_held 2 = .ok (.iload_n 0, 1) := by decide +kernel
theorem dX7_held_3 : decode cX7_held 3 = .ok (.invokestatic 150, 3) := by decide +kernel
theorem dX7_held_6 : decode cX7_held 6 = .ok (.invokestatic 190, 3) := by decide +kernel
theorem dX7_held_9 : decode cX7_held 9 = .ok (.ireturn, 1) := by decide +kernel
theorem dX7_isKind_0 : decode cX7_isKind 0 = .ok (.iload_n 0, 1) := by decide +kernel
theorem dX7_isKind_1 : decode cX7_isKind 1 = .ok (.iconst 0, 1) := by decide +kernel
theorem dX7_isKind_2 : decode cX7_isKind 2 = .ok (.getstatic 158, 3) := by decide +kernel
theorem dX7_isKind_5 : decode cX7_isKind 5 = .ok (.arraylength, 1) := by decide +kernel
theorem dX7_isKind_6 : decode cX7_isKind 6 = .ok (.iconst 1, 1) := by decide +kernel
theorem dX7_isKind_7 : decode cX7_isKind 7 = .ok (.isub, 1) := by decide +kernel
theorem dX7_isKind_8 : decode cX7_isKind 8 = .ok (.invokestatic 82, 3) := by decide +kernel
theorem dX7_isKind_11 : decode cX7_isKind 11 = .ok (.ireturn, 1) := by decide +kernel
theorem dX7_isUnder_0 : decode cX7_isUnder 0 = .ok (.iload_n 0, 1) := by decide +kernel
theorem dX7_isUnder_1 : decode cX7_isUnder 1 = .ok (.istore_n 2, 1) := by decide +kernel
theorem dX7_isUnder_2 : decode cX7_isUnder 2 = .ok (.iconst 0, 1) := by decide +kernel
theorem dX7_isUnder_3 : decode cX7_isUnder 3 = .ok (.istore_n 3, 1) := by decide +kernel
theorem dX7_isUnder_4 : decode cX7_isUnder 4 = .ok (.iload_n 3, 1) := by decide +kernel
theorem dX7_isUnder_5 : decode cX7_isUnder 5 = .ok (.getstatic 158, 3) := by decide +kernel
theorem dX7_isUnder_8 : decode cX7_isUnder 8 = .ok (.arraylength, 1) := by decide +kernel
theorem dX7_isUnder_9 : decode cX7_isUnder 9 = .ok (.if_icmp .ge 29, 3) := by decide +kernel
theorem dX7_isUnder_12 : decode cX7_isUnder 12 = .ok (.iload_n 2, 1) := by decide +kernel
theorem dX7_isUnder_13 : decode cX7_isUnder 13 = .ok (.invokestatic 60, 3) := by decide +kernel
theorem dX7_isUnder_16 : decode cX7_isUnder 16 = .ok (.ifCond .eq 22, 3) := by decide +kernel
theorem dX7_isUnder_19 : decode cX7_isUnder 19 = .ok (.iload_n 2, 1) := by decide +kernel
theorem dX7_isUnder_20 : decode cX7_isUnder 20 = .ok (.iload_n 1, 1) := by decide +kernel
theorem dX7_isUnder_21 : decode cX7_isUnder 21 = .ok (.if_icmp .ne 5, 3) := by decide +kernel
theorem dX7_isUnder_24 : decode cX7_isUnder 24 = .ok (.iconst 1, 1) := by decide +kernel
theorem dX7_isUnder_25 : decode cX7_isUnder 25 = .ok (.ireturn, 1) := by decide +kernel
theorem dX7_isUnder_26 : decode cX7_isUnder 26 = .ok (.getstatic 158, 3) := by decide +kernel
theorem dX7_isUnder_29 : decode cX7_isUnder 29 = .ok (.iload_n 2, 1) := by decide +kernel
theorem dX7_isUnder_30 : decode cX7_isUnder 30 = .ok (.iaload, 1) := by decide +kernel
theorem dX7_isUnder_31 : decode cX7_isUnder 31 = .ok (.istore_n 2, 1) := by decide +kernel
theorem dX7_isUnder_32 : decode cX7_isUnder 32 = .ok (.iinc 3 1, 3) := by decide +kernel
theorem dX7_isUnder_35 : decode cX7_isUnder 35 = .ok (.goto (-31), 3) := by decide +kernel
theorem dX7_isUnder_38 : decode cX7_isUnder 38 = .ok (.iconst 0, 1) := by decide +kernel
theorem dX7_isUnder_39 : decode cX7_isUnder 39 = .ok (.ireturn, 1) := by decide +kernel
theorem dX7_fitsHabit_0 : decode cX7_fitsHabit 0 = .ok (.iload_n 0, 1) := by decide +kernel
theorem dX7_fitsHabit_1 : decode cX7_fitsHabit 1 = .ok (.iconst 1, 1) := by decide +kernel
theorem dX7_fitsHabit_2 : decode cX7_fitsHabit 2 = .ok (.iconst 4, 1) := by decide +kernel
theorem dX7_fitsHabit_3 : decode cX7_fitsHabit 3 = .ok (.invokestatic 82, 3) := by decide +kernel
theorem dX7_fitsHabit_6 : decode cX7_fitsHabit 6 = .ok (.ifCond .eq 24, 3) := by decide +kernel
theorem dX7_fitsHabit_9 : decode cX7_fitsHabit 9 = .ok (.iload_n 1, 1) := by decide +kernel
theorem dX7_fitsHabit_10 : decode cX7_fitsHabit 10 = .ok (.getstatic 193, 3) := by decide +kernel
theorem dX7_fitsHabit_13 : decode cX7_fitsHabit 13 = .ok (.iload_n 0, 1) := by decide +kernel
theorem dX7_fitsHabit_14 : decode cX7_fitsHabit 14 = .ok (.iaload, 1) := by decide +kernel
theorem dX7_fitsHabit_15 : decode cX7_fitsHabit 15 = .ok (.getstatic 196, 3) := by decide +kernel
theorem dX7_fitsHabit_18 : decode cX7_fitsHabit 18 = .ok (.iload_n 0, 1) := by decide +kernel
theorem dX7_fitsHabit_19 : decode cX7_fitsHabit 19 = .ok (.iaload, 1) := by decide +kernel
theorem dX7_fitsHabit_20 : decode cX7_fitsHabit 20 = .ok (.invokestatic 82, 3) := by decide +kernel
theorem dX7_fitsHabit_23 : decode cX7_fitsHabit 23 = .ok (.ifCond .eq 7, 3) := by decide +kernel
theorem dX7_fitsHabit_26 : decode cX7_fitsHabit 26 = .ok (.iconst 1, 1) := by decide +kernel
theorem dX7_fitsHabit_27 : decode cX7_fitsHabit 27 = .ok (.goto 4, 3) := by decide +kernel
theorem dX7_fitsHabit_30 : decode cX7_fitsHabit 30 = .ok (.iconst 0, 1) := by decide +kernel
theorem dX7_fitsHabit_31 : decode cX7_fitsHabit 31 = .ok (.ireturn, 1) := by decide +kernel
theorem dX7_greatestShared_0 : decode cX7_greatestShared 0 = .ok (.lload_n 0, 1) := by decide +kernel
theorem dX7_greatestShared_1 : decode cX7_greatestShared 1 = .ok (.lstore 4, 2) := by decide +kernel
theorem dX7_greatestShared_3 : decode cX7_greatestShared 3 = .ok (.lload_n 2, 1) := by decide +kernel
theorem dX7_greatestShared_4 : decode cX7_greatestShared 4 = .ok (.lstore 6, 2) := by decide +kernel
theorem dX7_greatestShared_6 : decode cX7_greatestShared 6 = .ok (.iconst 0, 1) := by decide +kernel
theorem dX7_greatestShared_7 : decode cX7_greatestShared 7 = .ok (.istore 8, 2) := by decide +kernel
theorem dX7_greatestShared_9 : decode cX7_greatestShared 9 = .ok (.iload 8, 2) := by decide +kernel
theorem dX7_greatestShared_11 : decode cX7_greatestShared 11 = .ok (.sipush 128, 3) := by decide +kernel
theorem dX7_greatestShared_14 : decode cX7_greatestShared 14 = .ok (.if_icmp .ge 31, 3) := by decide +kernel
theorem dX7_greatestShared_17 : decode cX7_greatestShared 17 = .ok (.lload 6, 2) := by decide +kernel
theorem dX7_greatestShared_19 : decode cX7_greatestShared 19 = .ok (.lconst 0, 1) := by decide +kernel
theorem dX7_greatestShared_20 : decode cX7_greatestShared 20 = .ok (.lcmp, 1) := by decide +kernel
theorem dX7_greatestShared_21 : decode cX7_greatestShared 21 = .ok (.ifCond .eq 24, 3) := by decide +kernel
theorem dX7_greatestShared_24 : decode cX7_greatestShared 24 = .ok (.lload 4, 2) := by decide +kernel
theorem dX7_greatestShared_26 : decode cX7_greatestShared 26 = .ok (.lload 6, 2) := by decide +kernel
theorem dX7_greatestShared_28 : decode cX7_greatestShared 28 = .ok (.lrem, 1) := by decide +kernel
theorem dX7_greatestShared_29 : decode cX7_greatestShared 29 = .ok (.lstore 9, 2) := by decide +kernel
theorem dX7_greatestShared_31 : decode cX7_greatestShared 31 = .ok (.lload 6, 2) := by decide +kernel
theorem dX7_greatestShared_33 : decode cX7_greatestShared 33 = .ok (.lstore 4, 2) := by decide +kernel
theorem dX7_greatestShared_35 : decode cX7_greatestShared 35 = .ok (.lload 9, 2) := by decide +kernel
theorem dX7_greatestShared_37 : decode cX7_greatestShared 37 = .ok (.lstore 6, 2) := by decide +kernel
theorem dX7_greatestShared_39 : decode cX7_greatestShared 39 = .ok (.iinc 8 1, 3) := by decide +kernel
theorem dX7_greatestShared_42 : decode cX7_greatestShared 42 = .ok (.goto (-33), 3) := by decide +kernel
theorem dX7_greatestShared_45 : decode cX7_greatestShared 45 = .ok (.lload 4, 2) := by decide +kernel
theorem dX7_greatestShared_47 : decode cX7_greatestShared 47 = .ok (.lreturn, 1) := by decide +kernel
theorem dX7_feedBytesOf_0 : decode cX7_feedBytesOf 0 = .ok (.bipush 24, 2) := by decide +kernel
theorem dX7_feedBytesOf_2 : decode cX7_feedBytesOf 2 = .ok (.istore_n 2, 1) := by decide +kernel
theorem dX7_feedBytesOf_3 : decode cX7_feedBytesOf 3 = .ok (.iload_n 2, 1) := by decide +kernel
theorem dX7_feedBytesOf_4 : decode cX7_feedBytesOf 4 = .ok (.ifCond .lt 23, 3) := by decide +kernel
theorem dX7_feedBytesOf_7 : decode cX7_feedBytesOf 7 = .ok (.aload_n 0, 1) := by decide +kernel
theorem dX7_feedBytesOf_8 : decode cX7_feedBytesOf 8 = .ok (.getfield 37, 3) := by decide +kernel
theorem dX7_feedBytesOf_11 : decode cX7_feedBytesOf 11 = .ok (.iload_n 1, 1) := by decide +kernel
theorem dX7_feedBytesOf_12 : decode cX7_feedBytesOf 12 = .ok (.iload_n 2, 1) := by decide +kernel
theorem dX7_feedBytesOf_13 : decode cX7_feedBytesOf 13 = .ok (.iushr, 1) := by decide +kernel
theorem dX7_feedBytesOf_14 : decode cX7_feedBytesOf 14 = .ok (.sipush 255, 3) := by decide +kernel
theorem dX7_feedBytesOf_17 : decode cX7_feedBytesOf 17 = .ok (.iand, 1) := by decide +kernel
theorem dX7_feedBytesOf_18 : decode cX7_feedBytesOf 18 = .ok (.invokevirtual 324, 3) := by decide +kernel
theorem dX7_feedBytesOf_21 : decode cX7_feedBytesOf 21 = .ok (.iinc 2 (-8), 3) := by decide +kernel
theorem dX7_feedBytesOf_24 : decode cX7_feedBytesOf 24 = .ok (.goto (-21), 3) := by decide +kernel
theorem dX7_feedBytesOf_27 : decode cX7_feedBytesOf 27 = .ok (.return_, 1) := by decide +kernel
theorem dX7_sheetAt_0 : decode cX7_sheetAt 0 = .ok (.iload_n 1, 1) := by decide +kernel
theorem dX7_sheetAt_1 : decode cX7_sheetAt 1 = .ok (.iconst 0, 1) := by decide +kernel
theorem dX7_sheetAt_2 : decode cX7_sheetAt 2 = .ok (.aload_n 0, 1) := by decide +kernel
theorem dX7_sheetAt_3 : decode cX7_sheetAt 3 = .ok (.getfield 48, 3) := by decide +kernel
theorem dX7_sheetAt_6 : decode cX7_sheetAt 6 = .ok (.arraylength, 1) := by decide +kernel
theorem dX7_sheetAt_7 : decode cX7_sheetAt 7 = .ok (.iconst 1, 1) := by decide +kernel
theorem dX7_sheetAt_8 : decode cX7_sheetAt 8 = .ok (.isub, 1) := by decide +kernel
theorem dX7_sheetAt_9 : decode cX7_sheetAt 9 = .ok (.invokestatic 82, 3) := by decide +kernel
theorem dX7_sheetAt_12 : decode cX7_sheetAt 12 = .ok (.ifCond .eq 12, 3) := by decide +kernel
theorem dX7_sheetAt_15 : decode cX7_sheetAt 15 = .ok (.aload_n 0, 1) := by decide +kernel
theorem dX7_sheetAt_16 : decode cX7_sheetAt 16 = .ok (.getfield 48, 3) := by decide +kernel
theorem dX7_sheetAt_19 : decode cX7_sheetAt 19 = .ok (.iload_n 1, 1) := by decide +kernel
theorem dX7_sheetAt_20 : decode cX7_sheetAt 20 = .ok (.aaload, 1) := by decide +kernel
theorem dX7_sheetAt_21 : decode cX7_sheetAt 21 = .ok (.goto 4, 3) := by decide +kernel
theorem dX7_sheetAt_24 : decode cX7_sheetAt 24 = .ok (.aconst_null, 1) := by decide +kernel
theorem dX7_sheetAt_25 : decode cX7_sheetAt 25 = .ok (.areturn, 1) := by decide +kernel
theorem dX7_slotAt_0 : decode cX7_slotAt 0 = .ok (.iload_n 1, 1) := by decide +kernel
theorem dX7_slotAt_1 : decode cX7_slotAt 1 = .ok (.iconst 0, 1) := by decide +kernel
theorem dX7_slotAt_2 : decode cX7_slotAt 2 = .ok (.aload_n 0, 1) := by decide +kernel
theorem dX7_slotAt_3 : decode cX7_slotAt 3 = .ok (.getfield 54, 3) := by decide +kernel
theorem dX7_slotAt_6 : decode cX7_slotAt 6 = .ok (.arraylength, 1) := by decide +kernel
theorem dX7_slotAt_7 : decode cX7_slotAt 7 = .ok (.iconst 1, 1) := by decide +kernel
theorem dX7_slotAt_8 : decode cX7_slotAt 8 = .ok (.isub, 1) := by decide +kernel
theorem dX7_slotAt_9 : decode cX7_slotAt 9 = .ok (.invokestatic 82, 3) := by decide +kernel
theorem dX7_slotAt_12 : decode cX7_slotAt 12 = .ok (.ifCond .eq 12, 3) := by decide +kernel
theorem dX7_slotAt_15 : decode cX7_slotAt 15 = .ok (.aload_n 0, 1) := by decide +kernel
theorem dX7_slotAt_16 : decode cX7_slotAt 16 = .ok (.getfield 54, 3) := by decide +kernel
theorem dX7_slotAt_19 : decode cX7_slotAt 19 = .ok (.iload_n 1, 1) := by decide +kernel
theorem dX7_slotAt_20 : decode cX7_slotAt 20 = .ok (.aaload, 1) := by decide +kernel
theorem dX7_slotAt_21 : decode cX7_slotAt 21 = .ok (.goto 4, 3) := by decide +kernel
theorem dX7_slotAt_24 : decode cX7_slotAt 24 = .ok (.aconst_null, 1) := by decide +kernel
theorem dX7_slotAt_25 : decode cX7_slotAt 25 = .ok (.areturn, 1) := by decide +kernel
theorem dX7_wasTold_0 : decode cX7_wasTold 0 = .ok (.iload_n 1, 1) := by decide +kernel
theorem dX7_wasTold_1 : decode cX7_wasTold 1 = .ok (.ifCond .lt 37, 3) := by decide +kernel
theorem dX7_wasTold_4 : decode cX7_wasTold 4 = .ok (.iload_n 1, 1) := by decide +kernel
theorem dX7_wasTold_5 : decode cX7_wasTold 5 = .ok (.iload_n 2, 1) := by decide +kernel
theorem dX7_wasTold_6 : decode cX7_wasTold 6 = .ok (.if_icmp .ge 32, 3) := by decide +kernel
theorem dX7_wasTold_9 : decode cX7_wasTold 9 = .ok (.iload_n 1, 1) := by decide +kernel
theorem dX7_wasTold_10 : decode cX7_wasTold 10 = .ok (.aload_n 0, 1) := by decide +kernel
theorem dX7_wasTold_11 : decode cX7_wasTold 11 = .ok (.getfield 43, 3) := by decide +kernel
theorem dX7_wasTold_14 : decode cX7_wasTold 14 = .ok (.getfield 336, 3) := by decide +kernel
theorem dX7_wasTold_17 : decode cX7_wasTold 17 = .ok (.arraylength, 1) := by decide +kernel
theorem dX7_wasTold_18 : decode cX7_wasTold 18 = .ok (.if_icmp .ge 20, 3) := by decide +kernel
theorem dX7_wasTold_21 : decode cX7_wasTold 21 = .ok (.aload_n 0, 1) := by decide +kernel
theorem dX7_wasTold_22 : decode cX7_wasTold 22 = .ok (.getfield 43, 3) := by decide +kernel
theorem dX7_wasTold_25 : decode cX7_wasTold 25 = .ok (.getfield 336, 3) := by decide +kernel
theorem dX7_wasTold_28 : decode cX7_wasTold 28 = .ok (.iload_n 1, 1) := by decide +kernel
theorem dX7_wasTold_29 : decode cX7_wasTold 29 = .ok (.iaload, 1) := by decide +kernel
theorem dX7_wasTold_30 : decode cX7_wasTold 30 = .ok (.iload_n 3, 1) := by decide +kernel
theorem dX7_wasTold_31 : decode cX7_wasTold 31 = .ok (.if_icmp .ne 7, 3) := by decide +kernel
theorem dX7_wasTold_34 : decode cX7_wasTold 34 = .ok (.iconst 1, 1) := by decide +kernel
theorem dX7_wasTold_35 : decode cX7_wasTold 35 = .ok (.goto 4, 3) := by decide +kernel
theorem dX7_wasTold_38 : decode cX7_wasTold 38 = .ok (.iconst 0, 1) := by decide +kernel
theorem dX7_wasTold_39 : decode cX7_wasTold 39 = .ok (.ireturn, 1) := by decide +kernel
