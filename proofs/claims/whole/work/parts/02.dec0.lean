theorem dX0_init_0 : decode cX0_init 0 = .ok (.aload_n 0, 1) := by decide +kernel
theorem dX0_init_1 : decode cX0_init 1 = .ok (.invokespecial 1, 3) := by decide +kernel
theorem dX0_init_4 : decode cX0_init 4 = .ok (.aload_n 0, 1) := by decide +kernel
theorem dX0_init_5 : decode cX0_init 5 = .ok (.iload_n 1, 1) := by decide +kernel
theorem dX0_init_6 : decode cX0_init 6 = .ok (.putfield 7, 3) := by decide +kernel
theorem dX0_init_9 : decode cX0_init 9 = .ok (.aload_n 0, 1) := by decide +kernel
theorem dX0_init_10 : decode cX0_init 10 = .ok (.iload_n 2, 1) := by decide +kernel
theorem dX0_init_11 : decode cX0_init 11 = .ok (.putfield 13, 3) := by decide +kernel
theorem dX0_init_14 : decode cX0_init 14 = .ok (.aload_n 0, 1) := by decide +kernel
theorem dX0_init_15 : decode cX0_init 15 = .ok (.iload_n 3, 1) := by decide +kernel
theorem dX0_init_16 : decode cX0_init 16 = .ok (.putfield 16, 3) := by decide +kernel
theorem dX0_init_19 : decode cX0_init 19 = .ok (.aload_n 0, 1) := by decide +kernel
theorem dX0_init_20 : decode cX0_init 20 = .ok (.aload 4, 2) := by decide +kernel
theorem dX0_init_22 : decode cX0_init 22 = .ok (.putfield 19, 3) := by decide +kernel
theorem dX0_init_25 : decode cX0_init 25 = .ok (.return_, 1) := by decide +kernel
theorem dX0_isVote_0 : decode cX0_isVote 0 = .ok (.aload_n 0, 1) := by decide +kernel
theorem dX0_isVote_1 : decode cX0_isVote 1 = .ok (.getfield 7, 3) := by decide +kernel
theorem dX0_isVote_4 : decode cX0_isVote 4 = .ok (.iconst 1, 1) := by decide +kernel
theorem dX0_isVote_5 : decode cX0_isVote 5 = .ok (.if_icmp .ne 15, 3) := by decide +kernel
theorem dX0_isVote_8 : decode cX0_isVote 8 = .ok (.aload_n 0, 1) := by decide +kernel
theorem dX0_isVote_9 : decode cX0_isVote 9 = .ok (.getfield 16, 3) := by decide +kernel
theorem dX0_isVote_12 : decode cX0_isVote 12 = .ok (.iload_n 1, 1) := by decide +kernel
theorem dX0_isVote_13 : decode cX0_isVote 13 = .ok (.if_icmp .ne 7, 3) := by decide +kernel
theorem dX0_isVote_16 : decode cX0_isVote 16 = .ok (.iconst 1, 1) := by decide +kernel
theorem dX0_isVote_17 : decode cX0_isVote 17 = .ok (.goto 4, 3) := by decide +kernel
theorem dX0_isVote_20 : decode cX0_isVote 20 = .ok (.iconst 0, 1) := by decide +kernel
theorem dX0_isVote_21 : decode cX0_isVote 21 = .ok (.ireturn, 1) := by decide +kernel
theorem dX1_init_0 : decode cX1_init 0 = .ok (.aload_n 0, 1) := by decide +kernel
theorem dX1_init_1 : decode cX1_init 1 = .ok (.invokespecial 1, 3) := by decide +kernel
theorem dX1_init_4 : decode cX1_init 4 = .ok (.aload_n 0, 1) := by decide +kernel
theorem dX1_init_5 : decode cX1_init 5 = .ok (.sipush 400, 3) := by decide +kernel
theorem dX1_init_8 : decode cX1_init 8 = .ok (.anewarray 9, 3) := by decide +kernel
theorem dX1_init_11 : decode cX1_init 11 = .ok (.putfield 11, 3) := by decide +kernel
theorem dX1_init_14 : decode cX1_init 14 = .ok (.return_, 1) := by decide +kernel
theorem dX1_isFull_0 : decode cX1_isFull 0 = .ok (.aload_n 0, 1) := by decide +kernel
theorem dX1_isFull_1 : decode cX1_isFull 1 = .ok (.getfield 15, 3) := by decide +kernel
theorem dX1_isFull_4 : decode cX1_isFull 4 = .ok (.sipush 400, 3) := by decide +kernel
theorem dX1_isFull_7 : decode cX1_isFull 7 = .ok (.if_icmp .lt 7, 3) := by decide +kernel
theorem dX1_isFull_10 : decode cX1_isFull 10 = .ok (.iconst 1, 1) := by decide +kernel
theorem dX1_isFull_11 : decode cX1_isFull 11 = .ok (.goto 4, 3) := by decide +kernel
theorem dX1_isFull_14 : decode cX1_isFull 14 = .ok (.iconst 0, 1) := by decide +kernel
theorem dX1_isFull_15 : decode cX1_isFull 15 = .ok (.ireturn, 1) := by decide +kernel
theorem dX1_keep_0 : decode cX1_keep 0 = .ok (.aload_n 0, 1) := by decide +kernel
theorem dX1_keep_1 : decode cX1_keep 1 = .ok (.getfield 15, 3) := by decide +kernel
theorem dX1_keep_4 : decode cX1_keep 4 = .ok (.sipush 400, 3) := by decide +kernel
theorem dX1_keep_7 : decode cX1_keep 7 = .ok (.if_icmp .ge 45, 3) := by decide +kernel
theorem dX1_keep_10 : decode cX1_keep 10 = .ok (.aload_n 0, 1) := by decide +kernel
theorem dX1_keep_11 : decode cX1_keep 11 = .ok (.getfield 11, 3) := by decide +kernel
theorem dX1_keep_14 : decode cX1_keep 14 = .ok (.aload_n 0, 1) := by decide +kernel
theorem dX1_keep_15 : decode cX1_keep 15 = .ok (.getfield 15, 3) := by decide +kernel
theorem dX1_keep_18 : decode cX1_keep 18 = .ok (.aload_n 1, 1) := by decide +kernel
theorem dX1_keep_19 : decode cX1_keep 19 = .ok (.aastore, 1) := by decide +kernel
theorem dX1_keep_20 : decode cX1_keep 20 = .ok (.aload_n 0, 1) := by decide +kernel
theorem dX1_keep_21 : decode cX1_keep 21 = .ok (.dup, 1) := by decide +kernel
theorem dX1_keep_22 : decode cX1_keep 22 = .ok (.getfield 15, 3) := by decide +kernel
theorem dX1_keep_25 : decode cX1_keep 25 = .ok (.iconst 1, 1) := by decide +kernel
theorem dX1_keep_26 : decode cX1_keep 26 = .ok (.iadd, 1) := by decide +kernel
theorem dX1_keep_27 : decode cX1_keep 27 = .ok (.putfield 15, 3) := by decide +kernel
theorem dX1_keep_30 : decode cX1_keep 30 = .ok (.aload_n 0, 1) := by decide +kernel
theorem dX1_keep_31 : decode cX1_keep 31 = .ok (.dup, 1) := by decide +kernel
theorem dX1_keep_32 : decode cX1_keep 32 = .ok (.getfield 19, 3) := by decide +kernel
theorem dX1_keep_35 : decode cX1_keep 35 = .ok (.aload_n 1, 1) := by decide +kernel
theorem dX1_keep_36 : decode cX1_keep 36 = .ok (.getfield 22, 3) := by decide +kernel
theorem dX1_keep_39 : decode cX1_keep 39 = .ok (.iconst 1, 1) := by decide +kernel
theorem dX1_keep_40 : decode cX1_keep 40 = .ok (.if_icmp .ne 7, 3) := by decide +kernel
theorem dX1_keep_43 : decode cX1_keep 43 = .ok (.iconst 1, 1) := by decide +kernel
theorem dX1_keep_44 : decode cX1_keep 44 = .ok (.goto 4, 3) := by decide +kernel
theorem dX1_keep_47 : decode cX1_keep 47 = .ok (.iconst 0, 1) := by decide +kernel
theorem dX1_keep_48 : decode cX1_keep 48 = .ok (.iadd, 1) := by decide +kernel
theorem dX1_keep_49 : decode cX1_keep 49 = .ok (.putfield 19, 3) := by decide +kernel
theorem dX1_keep_52 : decode cX1_keep 52 = .ok (.return_, 1) := by decide +kernel
theorem dX2_init_0 : decode cX2_init 0 = .ok (.aload_n 0, 1) := by decide +kernel
theorem dX2_init_1 : decode cX2_init 1 = .ok (.invokespecial 3, 3) := by decide +kernel
theorem dX2_init_4 : decode cX2_init 4 = .ok (.return_, 1) := by decide +kernel
theorem dX2_clear_0 : decode cX2_clear 0 = .ok (.aload_n 0, 1) := by decide +kernel
theorem dX2_clear_1 : decode cX2_clear 1 = .ok (.iconst 0, 1) := by decide +kernel
theorem dX2_clear_2 : decode cX2_clear 2 = .ok (.putfield 9, 3) := by decide +kernel
theorem dX2_clear_5 : decode cX2_clear 5 = .ok (.aload_n 0, 1) := by decide +kernel
theorem dX2_clear_6 : decode cX2_clear 6 = .ok (.iconst 0, 1) := by decide +kernel
theorem dX2_clear_7 : decode cX2_clear 7 = .ok (.putfield 15, 3) := by decide +kernel
theorem dX2_clear_10 : decode cX2_clear 10 = .ok (.aload_n 0, 1) := by decide +kernel
theorem dX2_clear_11 : decode cX2_clear 11 = .ok (.iconst 0, 1) := by decide +kernel
theorem dX2_clear_12 : decode cX2_clear 12 = .ok (.putfield 18, 3) := by decide +kernel
theorem dX2_clear_15 : decode cX2_clear 15 = .ok (.aload_n 0, 1) := by decide +kernel
theorem dX2_clear_16 : decode cX2_clear 16 = .ok (.iconst 0, 1) := by decide +kernel
theorem dX2_clear_17 : decode cX2_clear 17 = .ok (.putfield 21, 3) := by decide +kernel
theorem dX2_clear_20 : decode cX2_clear 20 = .ok (.aload_n 0, 1) := by decide +kernel
theorem dX2_clear_21 : decode cX2_clear 21 = .ok (.iconst 0, 1) := by decide +kernel
theorem dX2_clear_22 : decode cX2_clear 22 = .ok (.putfield 24, 3) := by decide +kernel
theorem dX2_clear_25 : decode cX2_clear 25 = .ok (.aload_n 0, 1) := by decide +kernel
theorem dX2_clear_26 : decode cX2_clear 26 = .ok (.iconst (-1), 1) := by decide +kernel
theorem dX2_clear_27 : decode cX2_clear 27 = .ok (.putfield 27, 3) := by decide +kernel
theorem dX2_clear_30 : decode cX2_clear 30 = .ok (.aload_n 0, 1) := by decide +kernel
theorem dX2_clear_31 : decode cX2_clear 31 = .ok (.iconst 0, 1) := by decide +kernel
theorem dX2_clear_32 : decode cX2_clear 32 = .ok (.putfield 30, 3) := by decide +kernel
theorem dX2_clear_35 : decode cX2_clear 35 = .ok (.return_, 1) := by decide +kernel
theorem dX2_copyFrom_0 : decode cX2_copyFrom 0 = .ok (.aload_n 0, 1) := by decide +kernel
theorem dX2_copyFrom_1 : decode cX2_copyFrom 1 = .ok (.aload_n 1, 1) := by decide +kernel
theorem dX2_copyFrom_2 : decode cX2_copyFrom 2 = .ok (.getfield 9, 3) := by decide +kernel
theorem dX2_copyFrom_5 : decode cX2_copyFrom 5 = .ok (.putfield 9, 3) := by decide +kernel
theorem dX2_copyFrom_8 : decode cX2_copyFrom 8 = .ok (.aload_n 0, 1) := by decide +kernel
theorem dX2_copyFrom_9 : decode cX2_copyFrom 9 = .ok (.aload_n 1, 1) := by decide +kernel
theorem dX2_copyFrom_10 : decode cX2_copyFrom 10 = .ok (.getfield 15, 3) := by decide +kernel
theorem dX2_copyFrom_13 : decode cX2_copyFrom 13 = .ok (.putfield 15, 3) := by decide +kernel
theorem dX2_copyFrom_16 : decode cX2_copyFrom 16 = .ok (.aload_n 0, 1) := by decide +kernel
theorem dX2_copyFrom_17 : decode cX2_copyFrom 17 = .ok (.aload_n 1, 1) := by decide +kernel
theorem dX2_copyFrom_18 : decode cX2_copyFrom 18 = .ok (.getfield 18, 3) := by decide +kernel
theorem dX2_copyFrom_21 : decode cX2_copyFrom 21 = .ok (.putfield 18, 3) := by decide +kernel
theorem dX2_copyFrom_24 : decode cX2_copyFrom 24 = .ok (.aload_n 0, 1) := by decide +kernel
theorem dX2_copyFrom_25 : decode cX2_copyFrom 25 = .ok (.aload_n 1, 1) := by decide +kernel
theorem dX2_copyFrom_26 : decode cX2_copyFrom 26 = .ok (.getfield 21, 3) := by decide +kernel
theorem dX2_copyFrom_29 : decode cX2_copyFrom 29 = .ok (.putfield 21, 3) := by decide +kernel
theorem dX2_copyFrom_32 : decode cX2_copyFrom 32 = .ok (.aload_n 0, 1) := by decide +kernel
theorem dX2_copyFrom_33 : decode cX2_copyFrom 33 = .ok (.aload_n 1, 1) := by decide +kernel
theorem dX2_copyFrom_34 : decode cX2_copyFrom 34 = .ok (.getfield 24, 3) := by decide +kernel
theorem dX2_copyFrom_37 : decode cX2_copyFrom 37 = .ok (.putfield 24, 3) := by decide +kernel
theorem dX2_copyFrom_40 : decode cX2_copyFrom 40 = .ok (.aload_n 0, 1) := by decide +kernel
theorem dX2_copyFrom_41 : decode cX2_copyFrom 41 = .ok (.aload_n 1, 1) := by decide +kernel
theorem dX2_copyFrom_42 : decode cX2_copyFrom 42 = .ok (.getfield 27, 3) := by decide +kernel
theorem dX2_copyFrom_45 : decode cX2_copyFrom 45 = .ok (.putfield 27, 3) := by decide +kernel
theorem dX2_copyFrom_48 : decode cX2_copyFrom 48 = .ok (.aload_n 0, 1) := by decide +kernel
theorem dX2_copyFrom_49 : decode cX2_copyFrom 49 = .ok (.aload_n 1, 1) := by decide +kernel
theorem dX2_copyFrom_50 : decode cX2_copyFrom 50 = .ok (.getfield 30, 3) := by decide +kernel
theorem dX2_copyFrom_53 : decode cX2_copyFrom 53 = .ok (.putfield 30, 3) := by decide +kernel
theorem dX2_copyFrom_56 : decode cX2_copyFrom 56 = .ok (.return_, 1) := by decide +kernel
theorem dX2_begin_0 : decode cX2_begin 0 = .ok (.aload_n 0, 1) := by decide +kernel
theorem dX2_begin_1 : decode cX2_begin 1 = .ok (.iload_n 2, 1) := by decide +kernel
theorem dX2_begin_2 : decode cX2_begin 2 = .ok (.putfield 9, 3) := by decide +kernel
theorem dX2_begin_5 : decode cX2_begin 5 = .ok (.aload_n 0, 1) := by decide +kernel
theorem dX2_begin_6 : decode cX2_begin 6 = .ok (.iload_n 2, 1) := by decide +kernel
theorem dX2_begin_7 : decode cX2_begin 7 = .ok (.ifCond .le 9, 3) := by decide +kernel
theorem dX2_begin_10 : decode cX2_begin 10 = .ok (.iload_n 3, 1) := by decide +kernel
theorem dX2_begin_11 : decode cX2_begin 11 = .ok (.iload_n 2, 1) := by decide +kernel
theorem dX2_begin_12 : decode cX2_begin 12 = .ok (.idiv, 1) := by decide +kernel
theorem dX2_begin_13 : decode cX2_begin 13 = .ok (.goto 4, 3) := by decide +kernel
theorem dX2_begin_16 : decode cX2_begin 16 = .ok (.iload_n 3, 1) := by decide +kernel
theorem dX2_begin_17 : decode cX2_begin 17 = .ok (.putfield 18, 3) := by decide +kernel
theorem dX2_begin_20 : decode cX2_begin 20 = .ok (.aload_n 0, 1) := by decide +kernel
theorem dX2_begin_21 : decode cX2_begin 21 = .ok (.iload_n 3, 1) := by decide +kernel
theorem dX2_begin_22 : decode cX2_begin 22 = .ok (.putfield 21, 3) := by decide +kernel
theorem dX2_begin_25 : decode cX2_begin 25 = .ok (.aload_n 0, 1) := by decide +kernel
theorem dX2_begin_26 : decode cX2_begin 26 = .ok (.iload_n 1, 1) := by decide +kernel
theorem dX2_begin_27 : decode cX2_begin 27 = .ok (.putfield 27, 3) := by decide +kernel
theorem dX2_begin_30 : decode cX2_begin 30 = .ok (.return_, 1) := by decide +kernel
theorem dX2_canBeSeen_0 : decode cX2_canBeSeen 0 = .ok (.aload_n 0, 1) := by decide +kernel
theorem dX2_canBeSeen_1 : decode cX2_canBeSeen 1 = .ok (.getfield 15, 3) := by decide +kernel
theorem dX2_canBeSeen_4 : decode cX2_canBeSeen 4 = .ok (.aload_n 0, 1) := by decide +kernel
theorem dX2_canBeSeen_5 : decode cX2_canBeSeen 5 = .ok (.getfield 9, 3) := by decide +kernel
theorem dX2_canBeSeen_8 : decode cX2_canBeSeen 8 = .ok (.if_icmp .ge 21, 3) := by decide +kernel
theorem dX2_canBeSeen_11 : decode cX2_canBeSeen 11 = .ok (.aload_n 0, 1) := by decide +kernel
theorem dX2_canBeSeen_12 : decode cX2_canBeSeen 12 = .ok (.getfield 24, 3) := by decide +kernel
theorem dX2_canBeSeen_15 : decode cX2_canBeSeen 15 = .ok (.ifCond .ne 14, 3) := by decide +kernel
theorem dX2_canBeSeen_18 : decode cX2_canBeSeen 18 = .ok (.aload_n 0, 1) := by decide +kernel
theorem dX2_canBeSeen_19 : decode cX2_canBeSeen 19 = .ok (.getfield 30, 3) := by decide +kernel
theorem dX2_canBeSeen_22 : decode cX2_canBeSeen 22 = .ok (.ifCond .ne 7, 3) := by decide +kernel
theorem dX2_canBeSeen_25 : decode cX2_canBeSeen 25 = .ok (.iconst 1, 1) := by decide +kernel
theorem dX2_canBeSeen_26 : decode cX2_canBeSeen 26 = .ok (.goto 4, 3) := by decide +kernel
theorem dX2_canBeSeen_29 : decode cX2_canBeSeen 29 = .ok (.iconst 0, 1) := by decide +kernel
theorem dX2_canBeSeen_30 : decode cX2_canBeSeen 30 = .ok (.ireturn, 1) := by decide +kernel
theorem dX2_canFail_0 : decode cX2_canFail 0 = .ok (.aload_n 0, 1) := by decide +kernel
theorem dX2_canFail_1 : decode cX2_canFail 1 = .ok (.getfield 15, 3) := by decide +kernel
theorem dX2_canFail_4 : decode cX2_canFail 4 = .ok (.ifCond .le 25, 3) := by decide +kernel
theorem dX2_canFail_7 : decode cX2_canFail 7 = .ok (.aload_n 0, 1) := by decide +kernel
theorem dX2_canFail_8 : decode cX2_canFail 8 = .ok (.getfield 15, 3) := by decide +kernel
theorem dX2_canFail_11 : decode cX2_canFail 11 = .ok (.aload_n 0, 1) := by decide +kernel
theorem dX2_canFail_12 : decode cX2_canFail 12 = .ok (.getfield 9, 3) := by decide +kernel
theorem dX2_canFail_15 : decode cX2_canFail 15 = .ok (.if_icmp .ge 14, 3) := by decide +kernel
theorem dX2_canFail_18 : decode cX2_canFail 18 = .ok (.aload_n 0, 1) := by decide +kernel
theorem dX2_canFail_19 : decode cX2_canFail 19 = .ok (.getfield 24, 3) := by decide +kernel
theorem dX2_canFail_22 : decode cX2_canFail 22 = .ok (.ifCond .ne 7, 3) := by decide +kernel
theorem dX2_canFail_25 : decode cX2_canFail 25 = .ok (.iconst 1, 1) := by decide +kernel
theorem dX2_canFail_26 : decode cX2_canFail 26 = .ok (.goto 4, 3) := by decide +kernel
theorem dX2_canFail_29 : decode cX2_canFail 29 = .ok (.iconst 0, 1) := by decide +kernel
theorem dX2_canFail_30 : decode cX2_canFail 30 = .ok (.ireturn, 1) := by decide +kernel
theorem dX2_payStage_0 : decode cX2_payStage 0 = .ok (.aload_n 0, 1) := by decide +kernel
theorem dX2_payStage_1 : decode cX2_payStage 1 = .ok (.getfield 30, 3) := by decide +kernel
theorem dX2_payStage_4 : decode cX2_payStage 4 = .ok (.ifCond .eq 14, 3) := by decide +kernel
theorem dX2_payStage_7 : decode cX2_payStage 7 = .ok (.aload_n 0, 1) := by decide +kernel
theorem dX2_payStage_8 : decode cX2_payStage 8 = .ok (.getfield 15, 3) := by decide +kernel
theorem dX2_payStage_11 : decode cX2_payStage 11 = .ok (.aload_n 0, 1) := by decide +kernel
theorem dX2_payStage_12 : decode cX2_payStage 12 = .ok (.getfield 9, 3) := by decide +kernel
theorem dX2_payStage_15 : decode cX2_payStage 15 = .ok (.if_icmp .lt 5, 3) := by decide +kernel
theorem dX2_payStage_18 : decode cX2_payStage 18 = .ok (.iconst 0, 1) := by decide +kernel
theorem dX2_payStage_19 : decode cX2_payStage 19 = .ok (.ireturn, 1) := by decide +kernel
theorem dX2_payStage_20 : decode cX2_payStage 20 = .ok (.aload_n 0, 1) := by decide +kernel
theorem dX2_payStage_21 : decode cX2_payStage 21 = .ok (.dup, 1) := by decide +kernel
theorem dX2_payStage_22 : decode cX2_payStage 22 = .ok (.getfield 15, 3) := by decide +kernel
theorem dX2_payStage_25 : decode cX2_payStage 25 = .ok (.iconst 1, 1) := by decide +kernel
theorem dX2_payStage_26 : decode cX2_payStage 26 = .ok (.iadd, 1) := by decide +kernel
theorem dX2_payStage_27 : decode cX2_payStage 27 = .ok (.putfield 15, 3) := by decide +kernel
theorem dX2_payStage_30 : decode cX2_payStage 30 = .ok (.aload_n 0, 1) := by decide +kernel
theorem dX2_payStage_31 : decode cX2_payStage 31 = .ok (.iconst 0, 1) := by decide +kernel
theorem dX2_payStage_32 : decode cX2_payStage 32 = .ok (.putfield 30, 3) := by decide +kernel
theorem dX2_payStage_35 : decode cX2_payStage 35 = .ok (.aload_n 0, 1) := by decide +kernel
theorem dX2_payStage_36 : decode cX2_payStage 36 = .ok (.getfield 15, 3) := by decide +kernel
theorem dX2_payStage_39 : decode cX2_payStage 39 = .ok (.aload_n 0, 1) := by decide +kernel
theorem dX2_payStage_40 : decode cX2_payStage 40 = .ok (.getfield 9, 3) := by decide +kernel
theorem dX2_payStage_43 : decode cX2_payStage 43 = .ok (.if_icmp .ne 10, 3) := by decide +kernel
theorem dX2_payStage_46 : decode cX2_payStage 46 = .ok (.aload_n 0, 1) := by decide +kernel
theorem dX2_payStage_47 : decode cX2_payStage 47 = .ok (.getfield 21, 3) := by decide +kernel
theorem dX2_payStage_50 : decode cX2_payStage 50 = .ok (.goto 7, 3) := by decide +kernel
theorem dX2_payStage_53 : decode cX2_payStage 53 = .ok (.aload_n 0, 1) := by decide +kernel
theorem dX2_payStage_54 : decode cX2_payStage 54 = .ok (.getfield 18, 3) := by decide +kernel
theorem dX2_payStage_57 : decode cX2_payStage 57 = .ok (.istore_n 1, 1) := by decide +kernel
theorem dX2_payStage_58 : decode cX2_payStage 58 = .ok (.aload_n 0, 1) := by decide +kernel
theorem dX2_payStage_59 : decode cX2_payStage 59 = .ok (.dup, 1) := by decide +kernel
theorem dX2_payStage_60 : decode cX2_payStage 60 = .ok (.getfield 21, 3) := by decide +kernel
theorem dX2_payStage_63 : decode cX2_payStage 63 = .ok (.iload_n 1, 1) := by decide +kernel
theorem dX2_payStage_64 : decode cX2_payStage 64 = .ok (.isub, 1) := by decide +kernel
theorem dX2_payStage_65 : decode cX2_payStage 65 = .ok (.putfield 21, 3) := by decide +kernel
theorem dX2_payStage_68 : decode cX2_payStage 68 = .ok (.iload_n 1, 1) := by decide +kernel
theorem dX2_payStage_69 : decode cX2_payStage 69 = .ok (.ireturn, 1) := by decide +kernel
theorem dX2_loseStage_0 : decode cX2_loseStage 0 = .ok (.aload_n 0, 1) := by decide +kernel
theorem dX2_loseStage_1 : decode cX2_loseStage 1 = .ok (.dup, 1) := by decide +kernel
theorem dX2_loseStage_2 : decode cX2_loseStage 2 = .ok (.getfield 15, 3) := by decide +kernel
theorem dX2_loseStage_5 : decode cX2_loseStage 5 = .ok (.iconst 1, 1) := by decide +kernel
theorem dX2_loseStage_6 : decode cX2_loseStage 6 = .ok (.isub, 1) := by decide +kernel
theorem dX2_loseStage_7 : decode cX2_loseStage 7 = .ok (.putfield 15, 3) := by decide +kernel
theorem dX2_loseStage_10 : decode cX2_loseStage 10 = .ok (.aload_n 0, 1) := by decide +kernel
theorem dX2_loseStage_11 : decode cX2_loseStage 11 = .ok (.iconst 0, 1) := by decide +kernel
theorem dX2_loseStage_12 : decode cX2_loseStage 12 = .ok (.putfield 30, 3) := by decide +kernel
theorem dX2_loseStage_15 : decode cX2_loseStage 15 = .ok (.aload_n 0, 1) := by decide +kernel
theorem dX2_loseStage_16 : decode cX2_loseStage 16 = .ok (.aload_n 0, 1) := by decide +kernel
theorem dX2_loseStage_17 : decode cX2_loseStage 17 = .ok (.getfield 18, 3) := by decide +kernel
theorem dX2_loseStage_20 : decode cX2_loseStage 20 = .ok (.putfield 24, 3) := by decide +kernel
theorem dX2_loseStage_23 : decode cX2_loseStage 23 = .ok (.return_, 1) := by decide +kernel
theorem dX2_fillLack_0 : decode cX2_fillLack 0 = .ok (.lload_n 1, 1) := by decide +kernel
theorem dX2_fillLack_1 : decode cX2_fillLack 1 = .ok (.aload_n 0, 1) := by decide +kernel
theorem dX2_fillLack_2 : decode cX2_fillLack 2 = .ok (.getfield 24, 3) := by decide +kernel
theorem dX2_fillLack_5 : decode cX2_fillLack 5 = .ok (.i2l, 1) := by decide +kernel
theorem dX2_fillLack_6 : decode cX2_fillLack 6 = .ok (.lcmp, 1) := by decide +kernel
theorem dX2_fillLack_7 : decode cX2_fillLack 7 = .ok (.ifCond .ge 7, 3) := by decide +kernel
theorem dX2_fillLack_10 : decode cX2_fillLack 10 = .ok (.iconst 0, 1) := by decide +kernel
theorem dX2_fillLack_11 : decode cX2_fillLack 11 = .ok (.goto 7, 3) := by decide +kernel
theorem dX2_fillLack_14 : decode cX2_fillLack 14 = .ok (.aload_n 0, 1) := by decide +kernel
theorem dX2_fillLack_15 : decode cX2_fillLack 15 = .ok (.getfield 24, 3) := by decide +kernel
theorem dX2_fillLack_18 : decode cX2_fillLack 18 = .ok (.istore_n 3, 1) := by decide +kernel
theorem dX2_fillLack_19 : decode cX2_fillLack 19 = .ok (.aload_n 0, 1) := by decide +kernel
theorem dX2_fillLack_20 : decode cX2_fillLack 20 = .ok (.dup, 1) := by decide +kernel
theorem dX2_fillLack_21 : decode cX2_fillLack 21 = .ok (.getfield 21, 3) := by decide +kernel
theorem dX2_fillLack_24 : decode cX2_fillLack 24 = .ok (.iload_n 3, 1) := by decide +kernel
theorem dX2_fillLack_25 : decode cX2_fillLack 25 = .ok (.iadd, 1) := by decide +kernel
theorem dX2_fillLack_26 : decode cX2_fillLack 26 = .ok (.putfield 21, 3) := by decide +kernel
theorem dX2_fillLack_29 : decode cX2_fillLack 29 = .ok (.aload_n 0, 1) := by decide +kernel
theorem dX2_fillLack_30 : decode cX2_fillLack 30 = .ok (.dup, 1) := by decide +kernel
theorem dX2_fillLack_31 : decode cX2_fillLack 31 = .ok (.getfield 24, 3) := by decide +kernel
theorem dX2_fillLack_34 : decode cX2_fillLack 34 = .ok (.iload_n 3, 1) := by decide +kernel
theorem dX2_fillLack_35 : decode cX2_fillLack 35 = .ok (.isub, 1) := by decide +kernel
theorem dX2_fillLack_36 : decode cX2_fillLack 36 = .ok (.putfield 24, 3) := by decide +kernel
theorem dX2_fillLack_39 : decode cX2_fillLack 39 = .ok (.iload_n 3, 1) := by decide +kernel
theorem dX2_fillLack_40 : decode cX2_fillLack 40 = .ok (.ireturn, 1) := by decide +kernel
theorem dX3_init_0 : decode cX3_init 0 = .ok (.aload_n 0, 1) := by decide +kernel
theorem dX3_init_1 : decode cX3_init 1 = .ok (.invokespecial 3, 3) := by decide +kernel
theorem dX3_init_4 : decode cX3_init 4 = .ok (.aload_n 0, 1) := by decide +kernel
theorem dX3_init_5 : decode cX3_init 5 = .ok (.bipush 12, 2) := by decide +kernel
theorem dX3_init_7 : decode cX3_init 7 = .ok (.anewarray 11, 3) := by decide +kernel
theorem dX3_init_10 : decode cX3_init 10 = .ok (.putfield 13, 3) := by decide +kernel
theorem dX3_init_13 : decode cX3_init 13 = .ok (.aload_n 0, 1) := by decide +kernel
theorem dX3_init_14 : decode cX3_init 14 = .ok (.bipush 12, 2) := by decide +kernel
theorem dX3_init_16 : decode cX3_init 16 = .ok (.newarray .int, 2) := by decide +kernel
theorem dX3_init_18 : decode cX3_init 18 = .ok (.putfield 17, 3) := by decide +kernel
theorem dX3_init_21 : decode cX3_init 21 = .ok (.aload_n 0, 1) := by decide +kernel
theorem dX3_init_22 : decode cX3_init 22 = .ok (.new 21, 3) := by decide +kernel
theorem dX3_init_25 : decode cX3_init 25 = .ok (.dup, 1) := by decide +kernel
theorem dX3_init_26 : decode cX3_init 26 = .ok (.getstatic 23, 3) := by decide +kernel
theorem dX3_init_29 : decode cX3_init 29 = .ok (.invokespecial 26, 3) := by decide +kernel
theorem dX3_init_32 : decode cX3_init 32 = .ok (.putfield 29, 3) := by decide +kernel
theorem dX3_init_35 : decode cX3_init 35 = .ok (.aload_n 0, 1) := by decide +kernel
theorem dX3_init_36 : decode cX3_init 36 = .ok (.aload_n 0, 1) := by decide +kernel
theorem dX3_init_37 : decode cX3_init 37 = .ok (.getfield 29, 3) := by decide +kernel
theorem dX3_init_40 : decode cX3_init 40 = .ok (.putfield 33, 3) := by decide +kernel
theorem dX3_init_43 : decode cX3_init 43 = .ok (.aload_n 0, 1) := by decide +kernel
theorem dX3_init_44 : decode cX3_init 44 = .ok (.aload_n 0, 1) := by decide +kernel
theorem dX3_init_45 : decode cX3_init 45 = .ok (.getfield 29, 3) := by decide +kernel
theorem dX3_init_48 : decode cX3_init 48 = .ok (.putfield 36, 3) := by decide +kernel
theorem dX3_init_51 : decode cX3_init 51 = .ok (.iconst 0, 1) := by decide +kernel
theorem dX3_init_52 : decode cX3_init 52 = .ok (.istore_n 1, 1) := by decide +kernel
theorem dX3_init_53 : decode cX3_init 53 = .ok (.iload_n 1, 1) := by decide +kernel
theorem dX3_init_54 : decode cX3_init 54 = .ok (.bipush 12, 2) := by decide +kernel
theorem dX3_init_56 : decode cX3_init 56 = .ok (.if_icmp .ge 22, 3) := by decide +kernel
theorem dX3_init_59 : decode cX3_init 59 = .ok (.aload_n 0, 1) := by decide +kernel
theorem dX3_init_60 : decode cX3_init 60 = .ok (.getfield 13, 3) := by decide +kernel
theorem dX3_init_63 : decode cX3_init 63 = .ok (.iload_n 1, 1) := by decide +kernel
theorem dX3_init_64 : decode cX3_init 64 = .ok (.new 11, 3) := by decide +kernel
theorem dX3_init_67 : decode cX3_init 67 = .ok (.dup, 1) := by decide +kernel
theorem dX3_init_68 : decode cX3_init 68 = .ok (.invokespecial 39, 3) := by decide +kernel
theorem dX3_init_71 : decode cX3_init 71 = .ok (.aastore, 1) := by decide +kernel
theorem dX3_init_72 : decode cX3_init 72 = .ok (.iinc 1 1, 3) := by decide +kernel
theorem dX3_init_75 : decode cX3_init 75 = .ok (.goto (-22), 3) := by decide +kernel
theorem dX3_init_78 : decode cX3_init 78 = .ok (.return_, 1) := by decide +kernel
theorem dX3_clear_0 : decode cX3_clear 0 = .ok (.aload_n 0, 1) := by decide +kernel
theorem dX3_clear_1 : decode cX3_clear 1 = .ok (.iconst 0, 1) := by decide +kernel
theorem dX3_clear_2 : decode cX3_clear 2 = .ok (.putfield 40, 3) := by decide +kernel
theorem dX3_clear_5 : decode cX3_clear 5 = .ok (.aload_n 0, 1) := by decide +kernel
theorem dX3_clear_6 : decode cX3_clear 6 = .ok (.iconst 0, 1) := by decide +kernel
theorem dX3_clear_7 : decode cX3_clear 7 = .ok (.putfield 44, 3) := by decide +kernel
theorem dX3_clear_10 : decode cX3_clear 10 = .ok (.aload_n 0, 1) := by decide +kernel
theorem dX3_clear_11 : decode cX3_clear 11 = .ok (.iconst 0, 1) := by decide +kernel
theorem dX3_clear_12 : decode cX3_clear 12 = .ok (.putfield 47, 3) := by decide +kernel
theorem dX3_clear_15 : decode cX3_clear 15 = .ok (.aload_n 0, 1) := by decide +kernel
theorem dX3_clear_16 : decode cX3_clear 16 = .ok (.iconst 0, 1) := by decide +kernel
theorem dX3_clear_17 : decode cX3_clear 17 = .ok (.putfield 50, 3) := by decide +kernel
theorem dX3_clear_20 : decode cX3_clear 20 = .ok (.aload_n 0, 1) := by decide +kernel
theorem dX3_clear_21 : decode cX3_clear 21 = .ok (.iconst 0, 1) := by decide +kernel
theorem dX3_clear_22 : decode cX3_clear 22 = .ok (.putfield 53, 3) := by decide +kernel
theorem dX3_clear_25 : decode cX3_clear 25 = .ok (.aload_n 0, 1) := by decide +kernel
theorem dX3_clear_26 : decode cX3_clear 26 = .ok (.lconst 0, 1) := by decide +kernel
theorem dX3_clear_27 : decode cX3_clear 27 = .ok (.putfield 56, 3) := by decide +kernel
theorem dX3_clear_30 : decode cX3_clear 30 = .ok (.aload_n 0, 1) := by decide +kernel
theorem dX3_clear_31 : decode cX3_clear 31 = .ok (.lconst 0, 1) := by decide +kernel
theorem dX3_clear_32 : decode cX3_clear 32 = .ok (.putfield 60, 3) := by decide +kernel
theorem dX3_clear_35 : decode cX3_clear 35 = .ok (.aload_n 0, 1) := by decide +kernel
theorem dX3_clear_36 : decode cX3_clear 36 = .ok (.lconst 0, 1) := by decide +kernel
theorem dX3_clear_37 : decode cX3_clear 37 = .ok (.putfield 63, 3) := by decide +kernel
theorem dX3_clear_40 : decode cX3_clear 40 = .ok (.aload_n 0, 1) := by decide +kernel
theorem dX3_clear_41 : decode cX3_clear 41 = .ok (.lconst 0, 1) := by decide +kernel
theorem dX3_clear_42 : decode cX3_clear 42 = .ok (.putfield 66, 3) := by decide +kernel
theorem dX3_clear_45 : decode cX3_clear 45 = .ok (.aload_n 0, 1) := by decide +kernel
theorem dX3_clear_46 : decode cX3_clear 46 = .ok (.lconst 0, 1) := by decide +kernel
theorem dX3_clear_47 : decode cX3_clear 47 = .ok (.putfield 69, 3) := by decide +kernel
theorem dX3_clear_50 : decode cX3_clear 50 = .ok (.aload_n 0, 1) := by decide +kernel
theorem dX3_clear_51 : decode cX3_clear 51 = .ok (.aload_n 0, 1) := by decide +kernel
theorem dX3_clear_52 : decode cX3_clear 52 = .ok (.getfield 29, 3) := by decide +kernel
theorem dX3_clear_55 : decode cX3_clear 55 = .ok (.putfield 33, 3) := by decide +kernel
theorem dX3_clear_58 : decode cX3_clear 58 = .ok (.aload_n 0, 1) := by decide +kernel
theorem dX3_clear_59 : decode cX3_clear 59 = .ok (.aload_n 0, 1) := by decide +kernel
theorem dX3_clear_60 : decode cX3_clear 60 = .ok (.getfield 29, 3) := by decide +kernel
theorem dX3_clear_63 : decode cX3_clear 63 = .ok (.putfield 36, 3) := by decide +kernel
theorem dX3_clear_66 : decode cX3_clear 66 = .ok (.return_, 1) := by decide +kernel
theorem dX3_copyFrom_0 : decode cX3_copyFrom 0 = .ok (.aload_n 0, 1) := by decide +kernel
theorem dX3_copyFrom_1 : decode cX3_copyFrom 1 = .ok (.aload_n 1, 1) := by decide +kernel
theorem dX3_copyFrom_2 : decode cX3_copyFrom 2 = .ok (.getfield 40, 3) := by decide +kernel
theorem dX3_copyFrom_5 : decode cX3_copyFrom 5 = .ok (.putfield 40, 3) := by decide +kernel
theorem dX3_copyFrom_8 : decode cX3_copyFrom 8 = .ok (.aload_n 0, 1) := by decide +kernel
theorem dX3_copyFrom_9 : decode cX3_copyFrom 9 = .ok (.aload_n 1, 1) := by decide +kernel
theorem dX3_copyFrom_10 : decode cX3_copyFrom 10 = .ok (.getfield 44, 3) := by decide +kernel
theorem dX3_copyFrom_13 : decode cX3_copyFrom 13 = .ok (.putfield 44, 3) := by decide +kernel
theorem dX3_copyFrom_16 : decode cX3_copyFrom 16 = .ok (.aload_n 0, 1) := by decide +kernel
theorem dX3_copyFrom_17 : decode cX3_copyFrom 17 = .ok (.aload_n 1, 1) := by decide +kernel
theorem dX3_copyFrom_18 : decode cX3_copyFrom 18 = .ok (.getfield 47, 3) := by decide +kernel
theorem dX3_copyFrom_21 : decode cX3_copyFrom 21 = .ok (.putfield 47, 3) := by decide +kernel
theorem dX3_copyFrom_24 : decode cX3_copyFrom 24 = .ok (.aload_n 0, 1) := by decide +kernel
theorem dX3_copyFrom_25 : decode cX3_copyFrom 25 = .ok (.aload_n 1, 1) := by decide +kernel
theorem dX3_copyFrom_26 : decode cX3_copyFrom 26 = .ok (.getfield 50, 3) := by decide +kernel
theorem dX3_copyFrom_29 : decode cX3_copyFrom 29 = .ok (.putfield 50, 3) := by decide +kernel
theorem dX3_copyFrom_32 : decode cX3_copyFrom 32 = .ok (.aload_n 0, 1) := by decide +kernel
theorem dX3_copyFrom_33 : decode cX3_copyFrom 33 = .ok (.aload_n 1, 1) := by decide +kernel
theorem dX3_copyFrom_34 : decode cX3_copyFrom 34 = .ok (.getfield 53, 3) := by decide +kernel
theorem dX3_copyFrom_37 : decode cX3_copyFrom 37 = .ok (.putfield 53, 3) := by decide +kernel
theorem dX3_copyFrom_40 : decode cX3_copyFrom 40 = .ok (.aload_n 0, 1) := by decide +kernel
theorem dX3_copyFrom_41 : decode cX3_copyFrom 41 = .ok (.aload_n 1, 1) := by decide +kernel
theorem dX3_copyFrom_42 : decode cX3_copyFrom 42 = .ok (.getfield 56, 3) := by decide +kernel
theorem dX3_copyFrom_45 : decode cX3_copyFrom 45 = .ok (.putfield 56, 3) := by decide +kernel
theorem dX3_copyFrom_48 : decode cX3_copyFrom 48 = .ok (.aload_n 0, 1) := by decide +kernel
theorem dX3_copyFrom_49 : decode cX3_copyFrom 49 = .ok (.aload_n 1, 1) := by decide +kernel
theorem dX3_copyFrom_50 : decode cX3_copyFrom 50 = .ok (.getfield 60, 3) := by decide +kernel
theorem dX3_copyFrom_53 : decode cX3_copyFrom 53 = .ok (.putfield 60, 3) := by decide +kernel
theorem dX3_copyFrom_56 : decode cX3_copyFrom 56 = .ok (.aload_n 0, 1) := by decide +kernel
theorem dX3_copyFrom_57 : decode cX3_copyFrom 57 = .ok (.aload_n 1, 1) := by decide +kernel
theorem dX3_copyFrom_58 : decode cX3_copyFrom 58 = .ok (.getfield 63, 3) := by decide +kernel
theorem dX3_copyFrom_61 : decode cX3_copyFrom 61 = .ok (.putfield 63, 3) := by decide +kernel
theorem dX3_copyFrom_64 : decode cX3_copyFrom 64 = .ok (.aload_n 0, 1) := by decide +kernel
theorem dX3_copyFrom_65 : decode cX3_copyFrom 65 = .ok (.aload_n 1, 1) := by decide +kernel
theorem dX3_copyFrom_66 : decode cX3_copyFrom 66 = .ok (.getfield 66, 3) := by decide +kernel
theorem dX3_copyFrom_69 : decode cX3_copyFrom 69 = .ok (.putfield 66, 3) := by decide +kernel
theorem dX3_copyFrom_72 : decode cX3_copyFrom 72 = .ok (.aload_n 0, 1) := by decide +kernel
theorem dX3_copyFrom_73 : decode cX3_copyFrom 73 = .ok (.aload_n 1, 1) := by decide +kernel
theorem dX3_copyFrom_74 : decode cX3_copyFrom 74 = .ok (.getfield 69, 3) := by decide +kernel
theorem dX3_copyFrom_77 : decode cX3_copyFrom 77 = .ok (.putfield 69, 3) := by decide +kernel
theorem dX3_copyFrom_80 : decode cX3_copyFrom 80 = .ok (.aload_n 0, 1) := by decide +kernel
theorem dX3_copyFrom_81 : decode cX3_copyFrom 81 = .ok (.aload_n 1, 1) := by decide +kernel
theorem dX3_copyFrom_82 : decode cX3_copyFrom 82 = .ok (.getfield 33, 3) := by decide +kernel
theorem dX3_copyFrom_85 : decode cX3_copyFrom 85 = .ok (.putfield 33, 3) := by decide +kernel
theorem dX3_copyFrom_88 : decode cX3_copyFrom 88 = .ok (.aload_n 0, 1) := by decide +kernel
theorem dX3_copyFrom_89 : decode cX3_copyFrom 89 = .ok (.aload_n 1, 1) := by decide +kernel
theorem dX3_copyFrom_90 : decode cX3_copyFrom 90 = .ok (.getfield 36, 3) := by decide +kernel
theorem dX3_copyFrom_93 : decode cX3_copyFrom 93 = .ok (.putfield 36, 3) := by decide +kernel
theorem dX3_copyFrom_96 : decode cX3_copyFrom 96 = .ok (.aload_n 1, 1) := by decide +kernel
theorem dX3_copyFrom_97 : decode cX3_copyFrom 97 = .ok (.getfield 17, 3) := by decide +kernel
theorem dX3_copyFrom_100 : decode cX3_copyFrom 100 = .ok (.iconst 0, 1) := by decide +kernel
theorem dX3_copyFrom_101 : decode cX3_copyFrom 101 = .ok (.aload_n 0, 1) := by decide +kernel
theorem dX3_copyFrom_102 : decode cX3_copyFrom 102 = .ok (.getfield 17, 3) := by decide +kernel
theorem dX3_copyFrom_105 : decode cX3_copyFrom 105 = .ok (.iconst 0, 1) := by decide +kernel
theorem dX3_copyFrom_106 : decode cX3_copyFrom 106 = .ok (.bipush 12, 2) := by decide +kernel
theorem dX3_copyFrom_108 : decode cX3_copyFrom 108 = .ok (.invokestatic 72, 3) := by decide +kernel
theorem dX3_copyFrom_111 : decode cX3_copyFrom 111 = .ok (.iconst 0, 1) := by decide +kernel
theorem dX3_copyFrom_112 : decode cX3_copyFrom 112 = .ok (.istore_n 2, 1) := by decide +kernel
theorem dX3_copyFrom_113 : decode cX3_copyFrom 113 = .ok (.iload_n 2, 1) := by decide +kernel
theorem dX3_copyFrom_114 : decode cX3_copyFrom 114 = .ok (.aload_n 0, 1) := by decide +kernel
theorem dX3_copyFrom_115 : decode cX3_copyFrom 115 = .ok (.getfield 40, 3) := by decide +kernel
theorem dX3_copyFrom_118 : decode cX3_copyFrom 118 = .ok (.if_icmp .ge 24, 3) := by decide +kernel
theorem dX3_copyFrom_121 : decode cX3_copyFrom 121 = .ok (.aload_n 0, 1) := by decide +kernel
theorem dX3_copyFrom_122 : decode cX3_copyFrom 122 = .ok (.getfield 13, 3) := by decide +kernel
theorem dX3_copyFrom_125 : decode cX3_copyFrom 125 = .ok (.iload_n 2, 1) := by decide +kernel
theorem dX3_copyFrom_126 : decode cX3_copyFrom 126 = .ok (.aaload, 1) := by decide +kernel
theorem dX3_copyFrom_127 : decode cX3_copyFrom 127 = .ok (.aload_n 1, 1) := by decide +kernel
theorem dX3_copyFrom_128 : decode cX3_copyFrom 128 = .ok (.getfield 13, 3) := by decide +kernel
theorem dX3_copyFrom_131 : decode cX3_copyFrom 131 = .ok (.iload_n 2, 1) := by decide +kernel
theorem dX3_copyFrom_132 : decode cX3_copyFrom 132 = .ok (.aaload, 1) := by decide +kernel
theorem dX3_copyFrom_133 : decode cX3_copyFrom 133 = .ok (.invokevirtual 78, 3) := by decide +kernel
theorem dX3_copyFrom_136 : decode cX3_copyFrom 136 = .ok (.iinc 2 1, 3) := by decide +kernel
theorem dX3_copyFrom_139 : decode cX3_copyFrom 139 = .ok (.goto (-26), 3) := by decide +kernel
theorem dX3_copyFrom_142 : decode cX3_copyFrom 142 = .ok (.return_, 1) := by decide +kernel
theorem dX3_enter_0 : decode cX3_enter 0 = .ok (.iload_n 1, 1) := by decide +kernel
theorem dX3_enter_1 : decode cX3_enter 1 = .ok (.tableswitch 109 0 8 #[51, 57, 65, 72, 78, 85, 91, 97, 103], 51) := by decide +kernel
theorem dX3_enter_52 : decode cX3_enter 52 = .ok (.aload_n 0, 1) := by decide +kernel
theorem dX3_enter_53 : decode cX3_enter 53 = .ok (.iload_n 2, 1) := by decide +kernel
theorem dX3_enter_54 : decode cX3_enter 54 = .ok (.invokevirtual 82, 3) := by decide +kernel
theorem dX3_enter_57 : decode cX3_enter 57 = .ok (.ireturn, 1) := by decide +kernel
theorem dX3_enter_58 : decode cX3_enter 58 = .ok (.aload_n 0, 1) := by decide +kernel
theorem dX3_enter_59 : decode cX3_enter 59 = .ok (.iload_n 2, 1) := by decide +kernel
theorem dX3_enter_60 : decode cX3_enter 60 = .ok (.aload 4, 2) := by decide +kernel
theorem dX3_enter_62 : decode cX3_enter 62 = .ok (.invokevirtual 86, 3) := by decide +kernel
theorem dX3_enter_65 : decode cX3_enter 65 = .ok (.ireturn, 1) := by decide +kernel
theorem dX3_enter_66 : decode cX3_enter 66 = .ok (.aload_n 0, 1) := by decide +kernel
theorem dX3_enter_67 : decode cX3_enter 67 = .ok (.iload_n 2, 1) := by decide +kernel
theorem dX3_enter_68 : decode cX3_enter 68 = .ok (.iload_n 3, 1) := by decide +kernel
theorem dX3_enter_69 : decode cX3_enter 69 = .ok (.invokevirtual 90, 3) := by decide +kernel
theorem dX3_enter_72 : decode cX3_enter 72 = .ok (.ireturn, 1) := by decide +kernel
theorem dX3_enter_73 : decode cX3_enter 73 = .ok (.aload_n 0, 1) := by decide +kernel
theorem dX3_enter_74 : decode cX3_enter 74 = .ok (.iload_n 2, 1) := by decide +kernel
theorem dX3_enter_75 : decode cX3_enter 75 = .ok (.invokevirtual 94, 3) := by decide +kernel
theorem dX3_enter_78 : decode cX3_enter 78 = .ok (.ireturn, 1) := by decide +kernel
theorem dX3_enter_79 : decode cX3_enter 79 = .ok (.aload_n 0, 1) := by decide +kernel
theorem dX3_enter_80 : decode cX3_enter 80 = .ok (.iload_n 2, 1) := by decide +kernel
theorem dX3_enter_81 : decode cX3_enter 81 = .ok (.iload_n 3, 1) := by decide +kernel
theorem dX3_enter_82 : decode cX3_enter 82 = .ok (.invokevirtual 97, 3) := by decide +kernel
theorem dX3_enter_85 : decode cX3_enter 85 = .ok (.ireturn, 1) := by decide +kernel
theorem dX3_enter_86 : decode cX3_enter 86 = .ok (.aload_n 0, 1) := by decide +kernel
theorem dX3_enter_87 : decode cX3_enter 87 = .ok (.iload_n 2, 1) := by decide +kernel
theorem dX3_enter_88 : decode cX3_enter 88 = .ok (.invokevirtual 100, 3) := by decide +kernel
theorem dX3_enter_91 : decode cX3_enter 91 = .ok (.ireturn, 1) := by decide +kernel
theorem dX3_enter_92 : decode cX3_enter 92 = .ok (.aload_n 0, 1) := by decide +kernel
theorem dX3_enter_93 : decode cX3_enter 93 = .ok (.iload_n 2, 1) := by decide +kernel
theorem dX3_enter_94 : decode cX3_enter 94 = .ok (.invokevirtual 103, 3) := by decide +kernel
theorem dX3_enter_97 : decode cX3_enter 97 = .ok (.ireturn, 1) := by decide +kernel
theorem dX3_enter_98 : decode cX3_enter 98 = .ok (.aload_n 0, 1) := by decide +kernel
theorem dX3_enter_99 : decode cX3_enter 99 = .ok (.iload_n 2, 1) := by decide +kernel
theorem dX3_enter_100 : decode cX3_enter 100 = .ok (.invokevirtual 106, 3) := by decide +kernel
theorem dX3_enter_103 : decode cX3_enter 103 = .ok (.ireturn, 1) := by decide +kernel
theorem dX3_enter_104 : decode cX3_enter 104 = .ok (.aload_n 0, 1) := by decide +kernel
theorem dX3_enter_105 : decode cX3_enter 105 = .ok (.iload_n 2, 1) := by decide +kernel
theorem dX3_enter_106 : decode cX3_enter 106 = .ok (.invokevirtual 109, 3) := by decide +kernel
theorem dX3_enter_109 : decode cX3_enter 109 = .ok (.ireturn, 1) := by decide +kernel
theorem dX3_enter_110 : decode cX3_enter 110 = .ok (.iconst 0, 1) := by decide +kernel
theorem dX3_enter_111 : decode cX3_enter 111 = .ok (.ireturn, 1) := by decide +kernel
theorem dX3_isMember_0 : decode cX3_isMember 0 = .ok (.iload_n 1, 1) := by decide +kernel
theorem dX3_isMember_1 : decode cX3_isMember 1 = .ok (.ifCond .lt 15, 3) := by decide +kernel
theorem dX3_isMember_4 : decode cX3_isMember 4 = .ok (.iload_n 1, 1) := by decide +kernel
theorem dX3_isMember_5 : decode cX3_isMember 5 = .ok (.aload_n 0, 1) := by decide +kernel
theorem dX3_isMember_6 : decode cX3_isMember 6 = .ok (.getfield 40, 3) := by decide +kernel
theorem dX3_isMember_9 : decode cX3_isMember 9 = .ok (.if_icmp .ge 7, 3) := by decide +kernel
theorem dX3_isMember_12 : decode cX3_isMember 12 = .ok (.iconst 1, 1) := by decide +kernel
theorem dX3_isMember_13 : decode cX3_isMember 13 = .ok (.goto 4, 3) := by decide +kernel
theorem dX3_isMember_16 : decode cX3_isMember 16 = .ok (.iconst 0, 1) := by decide +kernel
theorem dX3_isMember_17 : decode cX3_isMember 17 = .ok (.ireturn, 1) := by decide +kernel
theorem dX3_isMemberIn_0 : decode cX3_isMemberIn 0 = .ok (.iload_n 1, 1) := by decide +kernel
theorem dX3_isMemberIn_1 : decode cX3_isMemberIn 1 = .ok (.ifCond .lt 27, 3) := by decide +kernel
theorem dX3_isMemberIn_4 : decode cX3_isMemberIn 4 = .ok (.iload_n 1, 1) := by decide +kernel
theorem dX3_isMemberIn_5 : decode cX3_isMemberIn 5 = .ok (.aload_n 0, 1) := by decide +kernel
theorem dX3_isMemberIn_6 : decode cX3_isMemberIn 6 = .ok (.getfield 40, 3) := by decide +kernel
theorem dX3_isMemberIn_9 : decode cX3_isMemberIn 9 = .ok (.if_icmp .ge 19, 3) := by decide +kernel
theorem dX3_isMemberIn_12 : decode cX3_isMemberIn 12 = .ok (.aload_n 0, 1) := by decide +kernel
theorem dX3_isMemberIn_13 : decode cX3_isMemberIn 13 = .ok (.getfield 13, 3) := by decide +kernel
theorem dX3_isMemberIn_16 : decode cX3_isMemberIn 16 = .ok (.iload_n 1, 1) := by decide +kernel
theorem dX3_isMemberIn_17 : decode cX3_isMemberIn 17 = .ok (.aaload, 1) := by decide +kernel
theorem dX3_isMemberIn_18 : decode cX3_isMemberIn 18 = .ok (.getfield 112, 3) := by decide +kernel
theorem dX3_isMemberIn_21 : decode cX3_isMemberIn 21 = .ok (.ifCond .eq 7, 3) := by decide +kernel
theorem dX3_isMemberIn_24 : decode cX3_isMemberIn 24 = .ok (.iconst 1, 1) := by decide +kernel
theorem dX3_isMemberIn_25 : decode cX3_isMemberIn 25 = .ok (.goto 4, 3) := by decide +kernel
theorem dX3_isMemberIn_28 : decode cX3_isMemberIn 28 = .ok (.iconst 0, 1) := by decide +kernel
theorem dX3_isMemberIn_29 : decode cX3_isMemberIn 29 = .ok (.ireturn, 1) := by decide +kernel
theorem dX3_areAllIn_0 : decode cX3_areAllIn 0 = .ok (.iload_n 1, 1) := by decide +kernel
theorem dX3_areAllIn_1 : decode cX3_areAllIn 1 = .ok (.aload_n 0, 1) := by decide +kernel
theorem dX3_areAllIn_2 : decode cX3_areAllIn 2 = .ok (.getfield 40, 3) := by decide +kernel
theorem dX3_areAllIn_5 : decode cX3_areAllIn 5 = .ok (.iushr, 1) := by decide +kernel
theorem dX3_areAllIn_6 : decode cX3_areAllIn 6 = .ok (.ifCond .eq 5, 3) := by decide +kernel
theorem dX3_areAllIn_9 : decode cX3_areAllIn 9 = .ok (.iconst 0, 1) := by decide +kernel
theorem dX3_areAllIn_10 : decode cX3_areAllIn 10 = .ok (.ireturn, 1) := by decide +kernel
theorem dX3_areAllIn_11 : decode cX3_areAllIn 11 = .ok (.iconst 0, 1) := by decide +kernel
theorem dX3_areAllIn_12 : decode cX3_areAllIn 12 = .ok (.istore_n 2, 1) := by decide +kernel
theorem dX3_areAllIn_13 : decode cX3_areAllIn 13 = .ok (.iload_n 2, 1) := by decide +kernel
theorem dX3_areAllIn_14 : decode cX3_areAllIn 14 = .ok (.aload_n 0, 1) := by decide +kernel
theorem dX3_areAllIn_15 : decode cX3_areAllIn 15 = .ok (.getfield 40, 3) := by decide +kernel
theorem dX3_areAllIn_18 : decode cX3_areAllIn 18 = .ok (.if_icmp .ge 32, 3) := by decide +kernel
theorem dX3_areAllIn_21 : decode cX3_areAllIn 21 = .ok (.iload_n 1, 1) := by decide +kernel
theorem dX3_areAllIn_22 : decode cX3_areAllIn 22 = .ok (.iload_n 2, 1) := by decide +kernel
theorem dX3_areAllIn_23 : decode cX3_areAllIn 23 = .ok (.iushr, 1) := by decide +kernel
theorem dX3_areAllIn_24 : decode cX3_areAllIn 24 = .ok (.iconst 1, 1) := by decide +kernel
theorem dX3_areAllIn_25 : decode cX3_areAllIn 25 = .ok (.iand, 1) := by decide +kernel
theorem dX3_areAllIn_26 : decode cX3_areAllIn 26 = .ok (.iconst 1, 1) := by decide +kernel
theorem dX3_areAllIn_27 : decode cX3_areAllIn 27 = .ok (.if_icmp .ne 17, 3) := by decide +kernel
theorem dX3_areAllIn_30 : decode cX3_areAllIn 30 = .ok (.aload_n 0, 1) := by decide +kernel
theorem dX3_areAllIn_31 : decode cX3_areAllIn 31 = .ok (.getfield 13, 3) := by decide +kernel
theorem dX3_areAllIn_34 : decode cX3_areAllIn 34 = .ok (.iload_n 2, 1) := by decide +kernel
theorem dX3_areAllIn_35 : decode cX3_areAllIn 35 = .ok (.aaload, 1) := by decide +kernel
theorem dX3_areAllIn_36 : decode cX3_areAllIn 36 = .ok (.getfield 112, 3) := by decide +kernel
theorem dX3_areAllIn_39 : decode cX3_areAllIn 39 = .ok (.ifCond .ne 5, 3) := by decide +kernel
theorem dX3_areAllIn_42 : decode cX3_areAllIn 42 = .ok (.iconst 0, 1) := by decide +kernel
theorem dX3_areAllIn_43 : decode cX3_areAllIn 43 = .ok (.ireturn, 1) := by decide +kernel
theorem dX3_areAllIn_44 : decode cX3_areAllIn 44 = .ok (.iinc 2 1, 3) := by decide +kernel
theorem dX3_areAllIn_47 : decode cX3_areAllIn 47 = .ok (.goto (-34), 3) := by decide +kernel
theorem dX3_areAllIn_50 : decode cX3_areAllIn 50 = .ok (.iconst 1, 1) := by decide +kernel
theorem dX3_areAllIn_51 : decode cX3_areAllIn 51 = .ok (.ireturn, 1) := by decide +kernel
theorem dX3_isCarriedBy_0 : decode cX3_isCarriedBy 0 = .ok (.iconst 0, 1) := by decide +kernel
theorem dX3_isCarriedBy_1 : decode cX3_isCarriedBy 1 = .ok (.istore_n 2, 1) := by decide +kernel
theorem dX3_isCarriedBy_2 : decode cX3_isCarriedBy 2 = .ok (.iconst 0, 1) := by decide +kernel
theorem dX3_isCarriedBy_3 : decode cX3_isCarriedBy 3 = .ok (.istore_n 3, 1) := by decide +kernel
theorem dX3_isCarriedBy_4 : decode cX3_isCarriedBy 4 = .ok (.iconst 0, 1) := by decide +kernel
theorem dX3_isCarriedBy_5 : decode cX3_isCarriedBy 5 = .ok (.istore 4, 2) := by decide +kernel
theorem dX3_isCarriedBy_7 : decode cX3_isCarriedBy 7 = .ok (.iload 4, 2) := by decide +kernel
theorem dX3_isCarriedBy_9 : decode cX3_isCarriedBy 9 = .ok (.aload_n 0, 1) := by decide +kernel
theorem dX3_isCarriedBy_10 : decode cX3_isCarriedBy 10 = .ok (.getfield 40, 3) := by decide +kernel
theorem dX3_isCarriedBy_13 : decode cX3_isCarriedBy 13 = .ok (.if_icmp .ge 62, 3) := by decide +kernel
theorem dX3_isCarriedBy_16 : decode cX3_isCarriedBy 16 = .ok (.aload_n 0, 1) := by decide +kernel
theorem dX3_isCarriedBy_17 : decode cX3_isCarriedBy 17 = .ok (.getfield 13, 3) := by decide +kernel
theorem dX3_isCarriedBy_20 : decode cX3_isCarriedBy 20 = .ok (.iload 4, 2) := by decide +kernel
theorem dX3_isCarriedBy_22 : decode cX3_isCarriedBy 22 = .ok (.aaload, 1) := by decide +kernel
theorem dX3_isCarriedBy_23 : decode cX3_isCarriedBy 23 = .ok (.getfield 112, 3) := by decide +kernel
theorem dX3_isCarriedBy_26 : decode cX3_isCarriedBy 26 = .ok (.ifCond .eq 43, 3) := by decide +kernel
theorem dX3_isCarriedBy_29 : decode cX3_isCarriedBy 29 = .ok (.iload_n 2, 1) := by decide +kernel
theorem dX3_isCarriedBy_30 : decode cX3_isCarriedBy 30 = .ok (.aload_n 0, 1) := by decide +kernel
theorem dX3_isCarriedBy_31 : decode cX3_isCarriedBy 31 = .ok (.getfield 13, 3) := by decide +kernel
theorem dX3_isCarriedBy_34 : decode cX3_isCarriedBy 34 = .ok (.iload 4, 2) := by decide +kernel
theorem dX3_isCarriedBy_36 : decode cX3_isCarriedBy 36 = .ok (.aaload, 1) := by decide +kernel
theorem dX3_isCarriedBy_37 : decode cX3_isCarriedBy 37 = .ok (.getfield 116, 3) := by decide +kernel
theorem dX3_isCarriedBy_40 : decode cX3_isCarriedBy 40 = .ok (.iadd, 1) := by decide +kernel
theorem dX3_isCarriedBy_41 : decode cX3_isCarriedBy 41 = .ok (.istore_n 2, 1) := by decide +kernel
theorem dX3_isCarriedBy_42 : decode cX3_isCarriedBy 42 = .ok (.iload_n 3, 1) := by decide +kernel
theorem dX3_isCarriedBy_43 : decode cX3_isCarriedBy 43 = .ok (.iload_n 1, 1) := by decide +kernel
theorem dX3_isCarriedBy_44 : decode cX3_isCarriedBy 44 = .ok (.iload 4, 2) := by decide +kernel
theorem dX3_isCarriedBy_46 : decode cX3_isCarriedBy 46 = .ok (.iushr, 1) := by decide +kernel
theorem dX3_isCarriedBy_47 : decode cX3_isCarriedBy 47 = .ok (.iconst 1, 1) := by decide +kernel
theorem dX3_isCarriedBy_48 : decode cX3_isCarriedBy 48 = .ok (.iand, 1) := by decide +kernel
theorem dX3_isCarriedBy_49 : decode cX3_isCarriedBy 49 = .ok (.iconst 1, 1) := by decide +kernel
theorem dX3_isCarriedBy_50 : decode cX3_isCarriedBy 50 = .ok (.if_icmp .ne 16, 3) := by decide +kernel
theorem dX3_isCarriedBy_53 : decode cX3_isCarriedBy 53 = .ok (.aload_n 0, 1) := by decide +kernel
theorem dX3_isCarriedBy_54 : decode cX3_isCarriedBy 54 = .ok (.getfield 13, 3) := by decide +kernel
theorem dX3_isCarriedBy_57 : decode cX3_isCarriedBy 57 = .ok (.iload 4, 2) := by decide +kernel
theorem dX3_isCarriedBy_59 : decode cX3_isCarriedBy 59 = .ok (.aaload, 1) := by decide +kernel
theorem dX3_isCarriedBy_60 : decode cX3_isCarriedBy 60 = .ok (.getfield 116, 3) := by decide +kernel
theorem dX3_isCarriedBy_63 : decode cX3_isCarriedBy 63 = .ok (.goto 4, 3) := by decide +kernel
theorem dX3_isCarriedBy_66 : decode cX3_isCarriedBy 66 = .ok (.iconst 0, 1) := by decide +kernel
theorem dX3_isCarriedBy_67 : decode cX3_isCarriedBy 67 = .ok (.iadd, 1) := by decide +kernel
theorem dX3_isCarriedBy_68 : decode cX3_isCarriedBy 68 = .ok (.istore_n 3, 1) := by decide +kernel
theorem dX3_isCarriedBy_69 : decode cX3_isCarriedBy 69 = .ok (.iinc 4 1, 3) := by decide +kernel
theorem dX3_isCarriedBy_72 : decode cX3_isCarriedBy 72 = .ok (.goto (-65), 3) := by decide +kernel
theorem dX3_isCarriedBy_75 : decode cX3_isCarriedBy 75 = .ok (.iconst 2, 1) := by decide +kernel
theorem dX3_isCarriedBy_76 : decode cX3_isCarriedBy 76 = .ok (.iload_n 3, 1) := by decide +kernel
theorem dX3_isCarriedBy_77 : decode cX3_isCarriedBy 77 = .ok (.imul, 1) := by decide +kernel
theorem dX3_isCarriedBy_78 : decode cX3_isCarriedBy 78 = .ok (.iload_n 2, 1) := by decide +kernel
theorem dX3_isCarriedBy_79 : decode cX3_isCarriedBy 79 = .ok (.if_icmp .le 7, 3) := by decide +kernel
theorem dX3_isCarriedBy_82 : decode cX3_isCarriedBy 82 = .ok (.iconst 1, 1) := by decide +kernel
theorem dX3_isCarriedBy_83 : decode cX3_isCarriedBy 83 = .ok (.goto 4, 3) := by decide +kernel
theorem dX3_isCarriedBy_86 : decode cX3_isCarriedBy 86 = .ok (.iconst 0, 1) := by decide +kernel
theorem dX3_isCarriedBy_87 : decode cX3_isCarriedBy 87 = .ok (.ireturn, 1) := by decide +kernel
theorem dX3_areAllHoused_0 : decode cX3_areAllHoused 0 = .ok (.iconst 0, 1) := by decide +kernel
theorem dX3_areAllHoused_1 : decode cX3_areAllHoused 1 = .ok (.istore_n 1, 1) := by decide +kernel
theorem dX3_areAllHoused_2 : decode cX3_areAllHoused 2 = .ok (.iload_n 1, 1) := by decide +kernel
theorem dX3_areAllHoused_3 : decode cX3_areAllHoused 3 = .ok (.aload_n 0, 1) := by decide +kernel
theorem dX3_areAllHoused_4 : decode cX3_areAllHoused 4 = .ok (.getfield 40, 3) := by decide +kernel
theorem dX3_areAllHoused_7 : decode cX3_areAllHoused 7 = .ok (.if_icmp .ge 35, 3) := by decide +kernel
theorem dX3_areAllHoused_10 : decode cX3_areAllHoused 10 = .ok (.aload_n 0, 1) := by decide +kernel
theorem dX3_areAllHoused_11 : decode cX3_areAllHoused 11 = .ok (.getfield 13, 3) := by decide +kernel
theorem dX3_areAllHoused_14 : decode cX3_areAllHoused 14 = .ok (.iload_n 1, 1) := by decide +kernel
theorem dX3_areAllHoused_15 : decode cX3_areAllHoused 15 = .ok (.aaload, 1) := by decide +kernel
theorem dX3_areAllHoused_16 : decode cX3_areAllHoused 16 = .ok (.getfield 112, 3) := by decide +kernel
theorem dX3_areAllHoused_19 : decode cX3_areAllHoused 19 = .ok (.ifCond .eq 17, 3) := by decide +kernel
theorem dX3_areAllHoused_22 : decode cX3_areAllHoused 22 = .ok (.aload_n 0, 1) := by decide +kernel
theorem dX3_areAllHoused_23 : decode cX3_areAllHoused 23 = .ok (.getfield 13, 3) := by decide +kernel
theorem dX3_areAllHoused_26 : decode cX3_areAllHoused 26 = .ok (.iload_n 1, 1) := by decide +kernel
theorem dX3_areAllHoused_27 : decode cX3_areAllHoused 27 = .ok (.aaload, 1) := by decide +kernel
theorem dX3_areAllHoused_28 : decode cX3_areAllHoused 28 = .ok (.invokevirtual 119, 3) := by decide +kernel
theorem dX3_areAllHoused_31 : decode cX3_areAllHoused 31 = .ok (.ifCond .ne 5, 3) := by decide +kernel
theorem dX3_areAllHoused_34 : decode cX3_areAllHoused 34 = .ok (.iconst 0, 1) := by decide +kernel
theorem dX3_areAllHoused_35 : decode cX3_areAllHoused 35 = .ok (.ireturn, 1) := by decide +kernel
theorem dX3_areAllHoused_36 : decode cX3_areAllHoused 36 = .ok (.iinc 1 1, 3) := by decide +kernel
theorem dX3_areAllHoused_39 : decode cX3_areAllHoused 39 = .ok (.goto (-37), 3) := by decide +kernel
theorem dX3_areAllHoused_42 : decode cX3_areAllHoused 42 = .ok (.iconst 1, 1) := by decide +kernel
theorem dX3_areAllHoused_43 : decode cX3_areAllHoused 43 = .ok (.ireturn, 1) := by decide +kernel
theorem dX3_membersIn_0 : decode cX3_membersIn 0 = .ok (.iconst 0, 1) := by decide +kernel
theorem dX3_membersIn_1 : decode cX3_membersIn 1 = .ok (.istore_n 1, 1) := by decide +kernel
theorem dX3_membersIn_2 : decode cX3_membersIn 2 = .ok (.iconst 0, 1) := by decide +kernel
theorem dX3_membersIn_3 : decode cX3_membersIn 3 = .ok (.istore_n 2, 1) := by decide +kernel
theorem dX3_membersIn_4 : decode cX3_membersIn 4 = .ok (.iload_n 2, 1) := by decide +kernel
theorem dX3_membersIn_5 : decode cX3_membersIn 5 = .ok (.aload_n 0, 1) := by decide +kernel
theorem dX3_membersIn_6 : decode cX3_membersIn 6 = .ok (.getfield 40, 3) := by decide +kernel
theorem dX3_membersIn_9 : decode cX3_membersIn 9 = .ok (.if_icmp .ge 29, 3) := by decide +kernel
theorem dX3_membersIn_12 : decode cX3_membersIn 12 = .ok (.iload_n 1, 1) := by decide +kernel
theorem dX3_membersIn_13 : decode cX3_membersIn 13 = .ok (.aload_n 0, 1) := by decide +kernel
theorem dX3_membersIn_14 : decode cX3_membersIn 14 = .ok (.getfield 13, 3) := by decide +kernel
theorem dX3_membersIn_17 : decode cX3_membersIn 17 = .ok (.iload_n 2, 1) := by decide +kernel
theorem dX3_membersIn_18 : decode cX3_membersIn 18 = .ok (.aaload, 1) := by decide +kernel
theorem dX3_membersIn_19 : decode cX3_membersIn 19 = .ok (.getfield 112, 3) := by decide +kernel
theorem dX3_membersIn_22 : decode cX3_membersIn 22 = .ok (.ifCond .eq 7, 3) := by decide +kernel
theorem dX3_membersIn_25 : decode cX3_membersIn 25 = .ok (.iconst 1, 1) := by decide +kernel
theorem dX3_membersIn_26 : decode cX3_membersIn 26 = .ok (.goto 4, 3) := by decide +kernel
theorem dX3_membersIn_29 : decode cX3_membersIn 29 = .ok (.iconst 0, 1) := by decide +kernel
theorem dX3_membersIn_30 : decode cX3_membersIn 30 = .ok (.iadd, 1) := by decide +kernel
theorem dX3_membersIn_31 : decode cX3_membersIn 31 = .ok (.istore_n 1, 1) := by decide +kernel
theorem dX3_membersIn_32 : decode cX3_membersIn 32 = .ok (.iinc 2 1, 3) := by decide +kernel
theorem dX3_membersIn_35 : decode cX3_membersIn 35 = .ok (.goto (-31), 3) := by decide +kernel
theorem dX3_membersIn_38 : decode cX3_membersIn 38 = .ok (.iload_n 1, 1) := by decide +kernel
theorem dX3_membersIn_39 : decode cX3_membersIn 39 = .ok (.ireturn, 1) := by decide +kernel
theorem dX3_housesDone_0 : decode cX3_housesDone 0 = .ok (.iconst 0, 1) := by decide +kernel
theorem dX3_housesDone_1 : decode cX3_housesDone 1 = .ok (.istore_n 1, 1) := by decide +kernel
theorem dX3_housesDone_2 : decode cX3_housesDone 2 = .ok (.iconst 0, 1) := by decide +kernel
theorem dX3_housesDone_3 : decode cX3_housesDone 3 = .ok (.istore_n 2, 1) := by decide +kernel
theorem dX3_housesDone_4 : decode cX3_housesDone 4 = .ok (.iload_n 2, 1) := by decide +kernel
theorem dX3_housesDone_5 : decode cX3_housesDone 5 = .ok (.aload_n 0, 1) := by decide +kernel
theorem dX3_housesDone_6 : decode cX3_housesDone 6 = .ok (.getfield 40, 3) := by decide +kernel
theorem dX3_housesDone_9 : decode cX3_housesDone 9 = .ok (.if_icmp .ge 45, 3) := by decide +kernel
theorem dX3_housesDone_12 : decode cX3_housesDone 12 = .ok (.aload_n 0, 1) := by decide +kernel
theorem dX3_housesDone_13 : decode cX3_housesDone 13 = .ok (.getfield 13, 3) := by decide +kernel
theorem dX3_housesDone_16 : decode cX3_housesDone 16 = .ok (.iload_n 2, 1) := by decide +kernel
theorem dX3_housesDone_17 : decode cX3_housesDone 17 = .ok (.aaload, 1) := by decide +kernel
theorem dX3_housesDone_18 : decode cX3_housesDone 18 = .ok (.getfield 123, 3) := by decide +kernel
theorem dX3_housesDone_21 : decode cX3_housesDone 21 = .ok (.astore_n 3, 1) := by decide +kernel
theorem dX3_housesDone_22 : decode cX3_housesDone 22 = .ok (.iload_n 1, 1) := by decide +kernel
theorem dX3_housesDone_23 : decode cX3_housesDone 23 = .ok (.aload_n 3, 1) := by decide +kernel
theorem dX3_housesDone_24 : decode cX3_housesDone 24 = .ok (.getfield 127, 3) := by decide +kernel
theorem dX3_housesDone_27 : decode cX3_housesDone 27 = .ok (.ifCond .le 18, 3) := by decide +kernel
theorem dX3_housesDone_30 : decode cX3_housesDone 30 = .ok (.aload_n 3, 1) := by decide +kernel
theorem dX3_housesDone_31 : decode cX3_housesDone 31 = .ok (.getfield 132, 3) := by decide +kernel
theorem dX3_housesDone_34 : decode cX3_housesDone 34 = .ok (.aload_n 3, 1) := by decide +kernel
theorem dX3_housesDone_35 : decode cX3_housesDone 35 = .ok (.getfield 127, 3) := by decide +kernel
theorem dX3_housesDone_38 : decode cX3_housesDone 38 = .ok (.if_icmp .ne 7, 3) := by decide +kernel
theorem dX3_housesDone_41 : decode cX3_housesDone 41 = .ok (.iconst 1, 1) := by decide +kernel
theorem dX3_housesDone_42 : decode cX3_housesDone 42 = .ok (.goto 4, 3) := by decide +kernel
theorem dX3_housesDone_45 : decode cX3_housesDone 45 = .ok (.iconst 0, 1) := by decide +kernel
theorem dX3_housesDone_46 : decode cX3_housesDone 46 = .ok (.iadd, 1) := by decide +kernel
theorem dX3_housesDone_47 : decode cX3_housesDone 47 = .ok (.istore_n 1, 1) := by decide +kernel
theorem dX3_housesDone_48 : decode cX3_housesDone 48 = .ok (.iinc 2 1, 3) := by decide +kernel
theorem dX3_housesDone_51 : decode cX3_housesDone 51 = .ok (.goto (-47), 3) := by decide +kernel
theorem dX3_housesDone_54 : decode cX3_housesDone 54 = .ok (.iload_n 1, 1) := by decide +kernel
theorem dX3_housesDone_55 : decode cX3_housesDone 55 = .ok (.ireturn, 1) := by decide +kernel
theorem dX3_together_0 : decode cX3_together 0 = .ok (.lconst 0, 1) := by decide +kernel
theorem dX3_together_1 : decode cX3_together 1 = .ok (.lstore_n 2, 1) := by decide +kernel
theorem dX3_together_2 : decode cX3_together 2 = .ok (.iconst 0, 1) := by decide +kernel
theorem dX3_together_3 : decode cX3_together 3 = .ok (.istore 4, 2) := by decide +kernel
theorem dX3_together_5 : decode cX3_together 5 = .ok (.iload 4, 2) := by decide +kernel
theorem dX3_together_7 : decode cX3_together 7 = .ok (.aload_n 0, 1) := by decide +kernel
theorem dX3_together_8 : decode cX3_together 8 = .ok (.getfield 40, 3) := by decide +kernel
theorem dX3_together_11 : decode cX3_together 11 = .ok (.if_icmp .ge 24, 3) := by decide +kernel
theorem dX3_together_14 : decode cX3_together 14 = .ok (.lload_n 2, 1) := by decide +kernel
theorem dX3_together_15 : decode cX3_together 15 = .ok (.aload_n 0, 1) := by decide +kernel
theorem dX3_together_16 : decode cX3_together 16 = .ok (.getfield 13, 3) := by decide +kernel
theorem dX3_together_19 : decode cX3_together 19 = .ok (.iload 4, 2) := by decide +kernel
theorem dX3_together_21 : decode cX3_together 21 = .ok (.aaload, 1) := by decide +kernel
theorem dX3_together_22 : decode cX3_together 22 = .ok (.iload_n 1, 1) := by decide +kernel
theorem dX3_together_23 : decode cX3_together 23 = .ok (.invokevirtual 135, 3) := by decide +kernel
theorem dX3_together_26 : decode cX3_together 26 = .ok (.i2l, 1) := by decide +kernel
theorem dX3_together_27 : decode cX3_together 27 = .ok (.ladd, 1) := by decide +kernel
theorem dX3_together_28 : decode cX3_together 28 = .ok (.lstore_n 2, 1) := by decide +kernel
theorem dX3_together_29 : decode cX3_together 29 = .ok (.iinc 4 1, 3) := by decide +kernel
theorem dX3_together_32 : decode cX3_together 32 = .ok (.goto (-27), 3) := by decide +kernel
theorem dX3_together_35 : decode cX3_together 35 = .ok (.lload_n 2, 1) := by decide +kernel
theorem dX3_together_36 : decode cX3_together 36 = .ok (.lreturn, 1) := by decide +kernel
theorem dX3_grantPlenty_0 : decode cX3_grantPlenty 0 = .ok (.aload_n 0, 1) := by decide +kernel
theorem dX3_grantPlenty_1 : decode cX3_grantPlenty 1 = .ok (.iconst 0, 1) := by decide +kernel
theorem dX3_grantPlenty_2 : decode cX3_grantPlenty 2 = .ok (.putfield 50, 3) := by decide +kernel
theorem dX3_grantPlenty_5 : decode cX3_grantPlenty 5 = .ok (.iconst 0, 1) := by decide +kernel
theorem dX3_grantPlenty_6 : decode cX3_grantPlenty 6 = .ok (.istore_n 1, 1) := by decide +kernel
theorem dX3_grantPlenty_7 : decode cX3_grantPlenty 7 = .ok (.iload_n 1, 1) := by decide +kernel
theorem dX3_grantPlenty_8 : decode cX3_grantPlenty 8 = .ok (.aload_n 0, 1) := by decide +kernel
theorem dX3_grantPlenty_9 : decode cX3_grantPlenty 9 = .ok (.getfield 40, 3) := by decide +kernel
theorem dX3_grantPlenty_12 : decode cX3_grantPlenty 12 = .ok (.if_icmp .ge 47, 3) := by decide +kernel
theorem dX3_grantPlenty_15 : decode cX3_grantPlenty 15 = .ok (.aload_n 0, 1) := by decide +kernel
theorem dX3_grantPlenty_16 : decode cX3_grantPlenty 16 = .ok (.getfield 13, 3) := by decide +kernel
theorem dX3_grantPlenty_19 : decode cX3_grantPlenty 19 = .ok (.iload_n 1, 1) := by decide +kernel
theorem dX3_grantPlenty_20 : decode cX3_grantPlenty 20 = .ok (.aaload, 1) := by decide +kernel
theorem dX3_grantPlenty_21 : decode cX3_grantPlenty 21 = .ok (.astore_n 2, 1) := by decide +kernel
theorem dX3_grantPlenty_22 : decode cX3_grantPlenty 22 = .ok (.aload_n 2, 1) := by decide +kernel
theorem dX3_grantPlenty_23 : decode cX3_grantPlenty 23 = .ok (.iconst 0, 1) := by decide +kernel
theorem dX3_grantPlenty_24 : decode cX3_grantPlenty 24 = .ok (.putfield 139, 3) := by decide +kernel
theorem dX3_grantPlenty_27 : decode cX3_grantPlenty 27 = .ok (.aload_n 2, 1) := by decide +kernel
theorem dX3_grantPlenty_28 : decode cX3_grantPlenty 28 = .ok (.getfield 112, 3) := by decide +kernel
theorem dX3_grantPlenty_31 : decode cX3_grantPlenty 31 = .ok (.ifCond .eq 22, 3) := by decide +kernel
theorem dX3_grantPlenty_34 : decode cX3_grantPlenty 34 = .ok (.aload_n 2, 1) := by decide +kernel
theorem dX3_grantPlenty_35 : decode cX3_grantPlenty 35 = .ok (.aload_n 2, 1) := by decide +kernel
theorem dX3_grantPlenty_36 : decode cX3_grantPlenty 36 = .ok (.getfield 142, 3) := by decide +kernel
theorem dX3_grantPlenty_39 : decode cX3_grantPlenty 39 = .ok (.aload_n 2, 1) := by decide +kernel
theorem dX3_grantPlenty_40 : decode cX3_grantPlenty 40 = .ok (.aload_n 0, 1) := by decide +kernel
theorem dX3_grantPlenty_41 : decode cX3_grantPlenty 41 = .ok (.getfield 36, 3) := by decide +kernel
theorem dX3_grantPlenty_44 : decode cX3_grantPlenty 44 = .ok (.invokevirtual 145, 3) := by decide +kernel
theorem dX3_grantPlenty_47 : decode cX3_grantPlenty 47 = .ok (.invokestatic 149, 3) := by decide +kernel
theorem dX3_grantPlenty_50 : decode cX3_grantPlenty 50 = .ok (.putfield 142, 3) := by decide +kernel
theorem dX3_grantPlenty_53 : decode cX3_grantPlenty 53 = .ok (.iinc 1 1, 3) := by decide +kernel
theorem dX3_grantPlenty_56 : decode cX3_grantPlenty 56 = .ok (.goto (-49), 3) := by decide +kernel
theorem dX3_grantPlenty_59 : decode cX3_grantPlenty 59 = .ok (.return_, 1) := by decide +kernel
theorem dX3_skipWeeksOfSaving_0 : decode cX3_skipWeeksOfSaving 0 = .ok (.lconst 0, 1) := by decide +kernel
theorem dX3_skipWeeksOfSaving_1 : decode cX3_skipWeeksOfSaving 1 = .ok (.lstore_n 2, 1) := by decide +kernel
theorem dX3_skipWeeksOfSaving_2 : decode cX3_skipWeeksOfSaving 2 = .ok (.iconst 0, 1) := by decide +kernel
theorem dX3_skipWeeksOfSaving_3 : decode cX3_skipWeeksOfSaving 3 = .ok (.istore 4, 2) := by decide +kernel
theorem dX3_skipWeeksOfSaving_5 : decode cX3_skipWeeksOfSaving 5 = .ok (.iload 4, 2) := by decide +kernel
theorem dX3_skipWeeksOfSaving_7 : decode cX3_skipWeeksOfSaving 7 = .ok (.aload_n 0, 1) := by decide +kernel
theorem dX3_skipWeeksOfSaving_8 : decode cX3_skipWeeksOfSaving 8 = .ok (.getfield 40, 3) := by decide +kernel
theorem dX3_skipWeeksOfSaving_11 : decode cX3_skipWeeksOfSaving 11 = .ok (.if_icmp .ge 63, 3) := by decide +kernel
theorem dX3_skipWeeksOfSaving_14 : decode cX3_skipWeeksOfSaving 14 = .ok (.aload_n 0, 1) := by decide +kernel
theorem dX3_skipWeeksOfSaving_15 : decode cX3_skipWeeksOfSaving 15 = .ok (.getfield 13, 3) := by decide +kernel
theorem dX3_skipWeeksOfSaving_18 : decode cX3_skipWeeksOfSaving 18 = .ok (.iload 4, 2) := by decide +kernel
theorem dX3_skipWeeksOfSaving_20 : decode cX3_skipWeeksOfSaving 20 = .ok (.aaload, 1) := by decide +kernel
theorem dX3_skipWeeksOfSaving_21 : decode cX3_skipWeeksOfSaving 21 = .ok (.astore 5, 2) := by decide +kernel
theorem dX3_skipWeeksOfSaving_23 : decode cX3_skipWeeksOfSaving 23 = .ok (.aload 5, 2) := by decide +kernel
theorem dX3_skipWeeksOfSaving_25 : decode cX3_skipWeeksOfSaving 25 = .ok (.getfield 155, 3) := by decide +kernel
theorem dX3_skipWeeksOfSaving_28 : decode cX3_skipWeeksOfSaving 28 = .ok (.ifCond .gt 14, 3) := by decide +kernel
theorem dX3_skipWeeksOfSaving_31 : decode cX3_skipWeeksOfSaving 31 = .ok (.aload 5, 2) := by decide +kernel
theorem dX3_skipWeeksOfSaving_33 : decode cX3_skipWeeksOfSaving 33 = .ok (.getfield 123, 3) := by decide +kernel
theorem dX3_skipWeeksOfSaving_36 : decode cX3_skipWeeksOfSaving 36 = .ok (.getfield 158, 3) := by decide +kernel
theorem dX3_skipWeeksOfSaving_39 : decode cX3_skipWeeksOfSaving 39 = .ok (.ifCond .le 4, 3) := by decide +kernel
theorem dX3_skipWeeksOfSaving_42 : decode cX3_skipWeeksOfSaving 42 = .ok (.return_, 1) := by decide +kernel
theorem dX3_skipWeeksOfSaving_43 : decode cX3_skipWeeksOfSaving 43 = .ok (.lload_n 2, 1) := by decide +kernel
theorem dX3_skipWeeksOfSaving_44 : decode cX3_skipWeeksOfSaving 44 = .ok (.aload 5, 2) := by decide +kernel
theorem dX3_skipWeeksOfSaving_46 : decode cX3_skipWeeksOfSaving 46 = .ok (.getfield 112, 3) := by decide +kernel
theorem dX3_skipWeeksOfSaving_49 : decode cX3_skipWeeksOfSaving 49 = .ok (.ifCond .eq 16, 3) := by decide +kernel
theorem dX3_skipWeeksOfSaving_52 : decode cX3_skipWeeksOfSaving 52 = .ok (.aload 5, 2) := by decide +kernel
theorem dX3_skipWeeksOfSaving_54 : decode cX3_skipWeeksOfSaving 54 = .ok (.aload_n 0, 1) := by decide +kernel
theorem dX3_skipWeeksOfSaving_55 : decode cX3_skipWeeksOfSaving 55 = .ok (.getfield 36, 3) := by decide +kernel
theorem dX3_skipWeeksOfSaving_58 : decode cX3_skipWeeksOfSaving 58 = .ok (.invokevirtual 145, 3) := by decide +kernel
theorem dX3_skipWeeksOfSaving_61 : decode cX3_skipWeeksOfSaving 61 = .ok (.i2l, 1) := by decide +kernel
theorem dX3_skipWeeksOfSaving_62 : decode cX3_skipWeeksOfSaving 62 = .ok (.goto 4, 3) := by decide +kernel
theorem dX3_skipWeeksOfSaving_65 : decode cX3_skipWeeksOfSaving 65 = .ok (.lconst 0, 1) := by decide +kernel
theorem dX3_skipWeeksOfSaving_66 : decode cX3_skipWeeksOfSaving 66 = .ok (.ladd, 1) := by decide +kernel
theorem dX3_skipWeeksOfSaving_67 : decode cX3_skipWeeksOfSaving 67 = .ok (.lstore_n 2, 1) := by decide +kernel
theorem dX3_skipWeeksOfSaving_68 : decode cX3_skipWeeksOfSaving 68 = .ok (.iinc 4 1, 3) := by decide +kernel
theorem dX3_skipWeeksOfSaving_71 : decode cX3_skipWeeksOfSaving 71 = .ok (.goto (-66), 3) := by decide +kernel
theorem dX3_skipWeeksOfSaving_74 : decode cX3_skipWeeksOfSaving 74 = .ok (.aload_n 0, 1) := by decide +kernel
theorem dX3_skipWeeksOfSaving_75 : decode cX3_skipWeeksOfSaving 75 = .ok (.getfield 36, 3) := by decide +kernel
theorem dX3_skipWeeksOfSaving_78 : decode cX3_skipWeeksOfSaving 78 = .ok (.getfield 161, 3) := by decide +kernel
theorem dX3_skipWeeksOfSaving_81 : decode cX3_skipWeeksOfSaving 81 = .ok (.iconst 3, 1) := by decide +kernel
theorem dX3_skipWeeksOfSaving_82 : decode cX3_skipWeeksOfSaving 82 = .ok (.iaload, 1) := by decide +kernel
theorem dX3_skipWeeksOfSaving_83 : decode cX3_skipWeeksOfSaving 83 = .ok (.i2l, 1) := by decide +kernel
theorem dX3_skipWeeksOfSaving_84 : decode cX3_skipWeeksOfSaving 84 = .ok (.aload_n 0, 1) := by decide +kernel
theorem dX3_skipWeeksOfSaving_85 : decode cX3_skipWeeksOfSaving 85 = .ok (.getfield 56, 3) := by decide +kernel
theorem dX3_skipWeeksOfSaving_88 : decode cX3_skipWeeksOfSaving 88 = .ok (.lsub, 1) := by decide +kernel
theorem dX3_skipWeeksOfSaving_89 : decode cX3_skipWeeksOfSaving 89 = .ok (.lstore 4, 2) := by decide +kernel
theorem dX3_skipWeeksOfSaving_91 : decode cX3_skipWeeksOfSaving 91 = .ok (.lload_n 2, 1) := by decide +kernel
theorem dX3_skipWeeksOfSaving_92 : decode cX3_skipWeeksOfSaving 92 = .ok (.lconst 1, 1) := by decide +kernel
theorem dX3_skipWeeksOfSaving_93 : decode cX3_skipWeeksOfSaving 93 = .ok (.lcmp, 1) := by decide +kernel
theorem dX3_skipWeeksOfSaving_94 : decode cX3_skipWeeksOfSaving 94 = .ok (.ifCond .lt 10, 3) := by decide +kernel
theorem dX3_skipWeeksOfSaving_97 : decode cX3_skipWeeksOfSaving 97 = .ok (.lload 4, 2) := by decide +kernel
theorem dX3_skipWeeksOfSaving_99 : decode cX3_skipWeeksOfSaving 99 = .ok (.lconst 1, 1) := by decide +kernel
theorem dX3_skipWeeksOfSaving_100 : decode cX3_skipWeeksOfSaving 100 = .ok (.lcmp, 1) := by decide +kernel
theorem dX3_skipWeeksOfSaving_101 : decode cX3_skipWeeksOfSaving 101 = .ok (.ifCond .ge 4, 3) := by decide +kernel
theorem dX3_skipWeeksOfSaving_104 : decode cX3_skipWeeksOfSaving 104 = .ok (.return_, 1) := by decide +kernel
theorem dX3_skipWeeksOfSaving_105 : decode cX3_skipWeeksOfSaving 105 = .ok (.lload 4, 2) := by decide +kernel
theorem dX3_skipWeeksOfSaving_107 : decode cX3_skipWeeksOfSaving 107 = .ok (.lconst 1, 1) := by decide +kernel
theorem dX3_skipWeeksOfSaving_108 : decode cX3_skipWeeksOfSaving 108 = .ok (.lsub, 1) := by decide +kernel
theorem dX3_skipWeeksOfSaving_109 : decode cX3_skipWeeksOfSaving 109 = .ok (.lload_n 2, 1) := by decide +kernel
theorem dX3_skipWeeksOfSaving_110 : decode cX3_skipWeeksOfSaving 110 = .ok (.ldiv, 1) := by decide +kernel
theorem dX3_skipWeeksOfSaving_111 : decode cX3_skipWeeksOfSaving 111 = .ok (.iload_n 1, 1) := by decide +kernel
theorem dX3_skipWeeksOfSaving_112 : decode cX3_skipWeeksOfSaving 112 = .ok (.aload_n 0, 1) := by decide +kernel
theorem dX3_skipWeeksOfSaving_113 : decode cX3_skipWeeksOfSaving 113 = .ok (.getfield 47, 3) := by decide +kernel
theorem dX3_skipWeeksOfSaving_116 : decode cX3_skipWeeksOfSaving 116 = .ok (.isub, 1) := by decide +kernel
theorem dX3_skipWeeksOfSaving_117 : decode cX3_skipWeeksOfSaving 117 = .ok (.i2l, 1) := by decide +kernel
theorem dX3_skipWeeksOfSaving_118 : decode cX3_skipWeeksOfSaving 118 = .ok (.invokestatic 164, 3) := by decide +kernel
theorem dX3_skipWeeksOfSaving_121 : decode cX3_skipWeeksOfSaving 121 = .ok (.lstore 6, 2) := by decide +kernel
theorem dX3_skipWeeksOfSaving_123 : decode cX3_skipWeeksOfSaving 123 = .ok (.aload_n 0, 1) := by decide +kernel
theorem dX3_skipWeeksOfSaving_124 : decode cX3_skipWeeksOfSaving 124 = .ok (.dup, 1) := by decide +kernel
theorem dX3_skipWeeksOfSaving_125 : decode cX3_skipWeeksOfSaving 125 = .ok (.getfield 56, 3) := by decide +kernel
theorem dX3_skipWeeksOfSaving_128 : decode cX3_skipWeeksOfSaving 128 = .ok (.lload 6, 2) := by decide +kernel
theorem dX3_skipWeeksOfSaving_130 : decode cX3_skipWeeksOfSaving 130 = .ok (.lload_n 2, 1) := by decide +kernel
theorem dX3_skipWeeksOfSaving_131 : decode cX3_skipWeeksOfSaving 131 = .ok (.lmul, 1) := by decide +kernel
theorem dX3_skipWeeksOfSaving_132 : decode cX3_skipWeeksOfSaving 132 = .ok (.ladd, 1) := by decide +kernel
theorem dX3_skipWeeksOfSaving_133 : decode cX3_skipWeeksOfSaving 133 = .ok (.putfield 56, 3) := by decide +kernel
theorem dX3_skipWeeksOfSaving_136 : decode cX3_skipWeeksOfSaving 136 = .ok (.aload_n 0, 1) := by decide +kernel
theorem dX3_skipWeeksOfSaving_137 : decode cX3_skipWeeksOfSaving 137 = .ok (.dup, 1) := by decide +kernel
theorem dX3_skipWeeksOfSaving_138 : decode cX3_skipWeeksOfSaving 138 = .ok (.getfield 47, 3) := by decide +kernel
theorem dX3_skipWeeksOfSaving_141 : decode cX3_skipWeeksOfSaving 141 = .ok (.lload 6, 2) := by decide +kernel
theorem dX3_skipWeeksOfSaving_143 : decode cX3_skipWeeksOfSaving 143 = .ok (.l2i, 1) := by decide +kernel
theorem dX3_skipWeeksOfSaving_144 : decode cX3_skipWeeksOfSaving 144 = .ok (.iadd, 1) := by decide +kernel
theorem dX3_skipWeeksOfSaving_145 : decode cX3_skipWeeksOfSaving 145 = .ok (.putfield 47, 3) := by decide +kernel
theorem dX3_skipWeeksOfSaving_148 : decode cX3_skipWeeksOfSaving 148 = .ok (.return_, 1) := by decide +kernel
theorem dX3_passWeeks_0 : decode cX3_passWeeks 0 = .ok (.iload_n 1, 1) := by decide +kernel
theorem dX3_passWeeks_1 : decode cX3_passWeeks 1 = .ok (.iconst 1, 1) := by decide +kernel
theorem dX3_passWeeks_2 : decode cX3_passWeeks 2 = .ok (.if_icmp .lt 9, 3) := by decide +kernel
theorem dX3_passWeeks_5 : decode cX3_passWeeks 5 = .ok (.iload_n 1, 1) := by decide +kernel
theorem dX3_passWeeks_6 : decode cX3_passWeeks 6 = .ok (.bipush 100, 2) := by decide +kernel
theorem dX3_passWeeks_8 : decode cX3_passWeeks 8 = .ok (.if_icmp .le 5, 3) := by decide +kernel
theorem dX3_passWeeks_11 : decode cX3_passWeeks 11 = .ok (.iconst 0, 1) := by decide +kernel
theorem dX3_passWeeks_12 : decode cX3_passWeeks 12 = .ok (.ireturn, 1) := by decide +kernel
theorem dX3_passWeeks_13 : decode cX3_passWeeks 13 = .ok (.iconst 0, 1) := by decide +kernel
theorem dX3_passWeeks_14 : decode cX3_passWeeks 14 = .ok (.istore_n 2, 1) := by decide +kernel
theorem dX3_passWeeks_15 : decode cX3_passWeeks 15 = .ok (.iload_n 2, 1) := by decide +kernel
theorem dX3_passWeeks_16 : decode cX3_passWeeks 16 = .ok (.iload_n 1, 1) := by decide +kernel
theorem dX3_passWeeks_17 : decode cX3_passWeeks 17 = .ok (.if_icmp .ge 52, 3) := by decide +kernel
theorem dX3_passWeeks_20 : decode cX3_passWeeks 20 = .ok (.aload_n 0, 1) := by decide +kernel
theorem dX3_passWeeks_21 : decode cX3_passWeeks 21 = .ok (.dup, 1) := by decide +kernel
theorem dX3_passWeeks_22 : decode cX3_passWeeks 22 = .ok (.getfield 47, 3) := by decide +kernel
theorem dX3_passWeeks_25 : decode cX3_passWeeks 25 = .ok (.iconst 1, 1) := by decide +kernel
theorem dX3_passWeeks_26 : decode cX3_passWeeks 26 = .ok (.iadd, 1) := by decide +kernel
theorem dX3_passWeeks_27 : decode cX3_passWeeks 27 = .ok (.putfield 47, 3) := by decide +kernel
theorem dX3_passWeeks_30 : decode cX3_passWeeks 30 = .ok (.aload_n 0, 1) := by decide +kernel
theorem dX3_passWeeks_31 : decode cX3_passWeeks 31 = .ok (.aload_n 0, 1) := by decide +kernel
theorem dX3_passWeeks_32 : decode cX3_passWeeks 32 = .ok (.getfield 36, 3) := by decide +kernel
theorem dX3_passWeeks_35 : decode cX3_passWeeks 35 = .ok (.putfield 33, 3) := by decide +kernel
theorem dX3_passWeeks_38 : decode cX3_passWeeks 38 = .ok (.aload_n 0, 1) := by decide +kernel
theorem dX3_passWeeks_39 : decode cX3_passWeeks 39 = .ok (.invokevirtual 168, 3) := by decide +kernel
theorem dX3_passWeeks_42 : decode cX3_passWeeks 42 = .ok (.aload_n 0, 1) := by decide +kernel
theorem dX3_passWeeks_43 : decode cX3_passWeeks 43 = .ok (.invokevirtual 171, 3) := by decide +kernel
theorem dX3_passWeeks_46 : decode cX3_passWeeks 46 = .ok (.aload_n 0, 1) := by decide +kernel
theorem dX3_passWeeks_47 : decode cX3_passWeeks 47 = .ok (.invokevirtual 174, 3) := by decide +kernel
theorem dX3_passWeeks_50 : decode cX3_passWeeks 50 = .ok (.aload_n 0, 1) := by decide +kernel
theorem dX3_passWeeks_51 : decode cX3_passWeeks 51 = .ok (.invokevirtual 177, 3) := by decide +kernel
theorem dX3_passWeeks_54 : decode cX3_passWeeks 54 = .ok (.aload_n 0, 1) := by decide +kernel
theorem dX3_passWeeks_55 : decode cX3_passWeeks 55 = .ok (.invokevirtual 180, 3) := by decide +kernel
theorem dX3_passWeeks_58 : decode cX3_passWeeks 58 = .ok (.aload_n 0, 1) := by decide +kernel
theorem dX3_passWeeks_59 : decode cX3_passWeeks 59 = .ok (.iconst 0, 1) := by decide +kernel
theorem dX3_passWeeks_60 : decode cX3_passWeeks 60 = .ok (.putfield 50, 3) := by decide +kernel
theorem dX3_passWeeks_63 : decode cX3_passWeeks 63 = .ok (.iinc 2 1, 3) := by decide +kernel
theorem dX3_passWeeks_66 : decode cX3_passWeeks 66 = .ok (.goto (-51), 3) := by decide +kernel
theorem dX3_passWeeks_69 : decode cX3_passWeeks 69 = .ok (.iconst 1, 1) := by decide +kernel
theorem dX3_passWeeks_70 : decode cX3_passWeeks 70 = .ok (.ireturn, 1) := by decide +kernel
theorem dX3_enrol_0 : decode cX3_enrol 0 = .ok (.iload_n 1, 1) := by decide +kernel
theorem dX3_enrol_1 : decode cX3_enrol 1 = .ok (.iconst 1, 1) := by decide +kernel
theorem dX3_enrol_2 : decode cX3_enrol 2 = .ok (.if_icmp .lt 17, 3) := by decide +kernel
theorem dX3_enrol_5 : decode cX3_enrol 5 = .ok (.iload_n 1, 1) := by decide +kernel
theorem dX3_enrol_6 : decode cX3_enrol 6 = .ok (.iconst 5, 1) := by decide +kernel
theorem dX3_enrol_7 : decode cX3_enrol 7 = .ok (.if_icmp .gt 12, 3) := by decide +kernel
theorem dX3_enrol_10 : decode cX3_enrol 10 = .ok (.aload_n 0, 1) := by decide +kernel
theorem dX3_enrol_11 : decode cX3_enrol 11 = .ok (.getfield 40, 3) := by decide +kernel
theorem dX3_enrol_14 : decode cX3_enrol 14 = .ok (.bipush 12, 2) := by decide +kernel
theorem dX3_enrol_16 : decode cX3_enrol 16 = .ok (.if_icmp .lt 5, 3) := by decide +kernel
theorem dX3_enrol_19 : decode cX3_enrol 19 = .ok (.iconst 0, 1) := by decide +kernel
theorem dX3_enrol_20 : decode cX3_enrol 20 = .ok (.ireturn, 1) := by decide +kernel
theorem dX3_enrol_21 : decode cX3_enrol 21 = .ok (.aload_n 0, 1) := by decide +kernel
theorem dX3_enrol_22 : decode cX3_enrol 22 = .ok (.getfield 13, 3) := by decide +kernel
theorem dX3_enrol_25 : decode cX3_enrol 25 = .ok (.aload_n 0, 1) := by decide +kernel
theorem dX3_enrol_26 : decode cX3_enrol 26 = .ok (.getfield 40, 3) := by decide +kernel
theorem dX3_enrol_29 : decode cX3_enrol 29 = .ok (.aaload, 1) := by decide +kernel
theorem dX3_enrol_30 : decode cX3_enrol 30 = .ok (.iload_n 1, 1) := by decide +kernel
theorem dX3_enrol_31 : decode cX3_enrol 31 = .ok (.invokevirtual 183, 3) := by decide +kernel
theorem dX3_enrol_34 : decode cX3_enrol 34 = .ok (.aload_n 0, 1) := by decide +kernel
theorem dX3_enrol_35 : decode cX3_enrol 35 = .ok (.dup, 1) := by decide +kernel
theorem dX3_enrol_36 : decode cX3_enrol 36 = .ok (.getfield 40, 3) := by decide +kernel
theorem dX3_enrol_39 : decode cX3_enrol 39 = .ok (.iconst 1, 1) := by decide +kernel
theorem dX3_enrol_40 : decode cX3_enrol 40 = .ok (.iadd, 1) := by decide +kernel
theorem dX3_enrol_41 : decode cX3_enrol 41 = .ok (.putfield 40, 3) := by decide +kernel
theorem dX3_enrol_44 : decode cX3_enrol 44 = .ok (.iconst 1, 1) := by decide +kernel
theorem dX3_enrol_45 : decode cX3_enrol 45 = .ok (.ireturn, 1) := by decide +kernel
theorem dX3_carry_0 : decode cX3_carry 0 = .ok (.aload_n 2, 1) := by decide +kernel
theorem dX3_carry_1 : decode cX3_carry 1 = .ok (.ifnull 19, 3) := by decide +kernel
theorem dX3_carry_4 : decode cX3_carry 4 = .ok (.aload_n 0, 1) := by decide +kernel
theorem dX3_carry_5 : decode cX3_carry 5 = .ok (.iload_n 1, 1) := by decide +kernel
theorem dX3_carry_6 : decode cX3_carry 6 = .ok (.invokevirtual 187, 3) := by decide +kernel
theorem dX3_carry_9 : decode cX3_carry 9 = .ok (.ifCond .eq 11, 3) := by decide +kernel
theorem dX3_carry_12 : decode cX3_carry 12 = .ok (.aload_n 0, 1) := by decide +kernel
theorem dX3_carry_13 : decode cX3_carry 13 = .ok (.iload_n 1, 1) := by decide +kernel
theorem dX3_carry_14 : decode cX3_carry 14 = .ok (.invokevirtual 190, 3) := by decide +kernel
theorem dX3_carry_17 : decode cX3_carry 17 = .ok (.ifCond .ne 5, 3) := by decide +kernel
theorem dX3_carry_20 : decode cX3_carry 20 = .ok (.iconst 0, 1) := by decide +kernel
theorem dX3_carry_21 : decode cX3_carry 21 = .ok (.ireturn, 1) := by decide +kernel
theorem dX3_carry_22 : decode cX3_carry 22 = .ok (.aload_n 0, 1) := by decide +kernel
theorem dX3_carry_23 : decode cX3_carry 23 = .ok (.aload_n 2, 1) := by decide +kernel
theorem dX3_carry_24 : decode cX3_carry 24 = .ok (.putfield 36, 3) := by decide +kernel
theorem dX3_carry_27 : decode cX3_carry 27 = .ok (.iconst 1, 1) := by decide +kernel
theorem dX3_carry_28 : decode cX3_carry 28 = .ok (.ireturn, 1) := by decide +kernel
theorem dX3_payIn_0 : decode cX3_payIn 0 = .ok (.aload_n 0, 1) := by decide +kernel
theorem dX3_payIn_1 : decode cX3_payIn 1 = .ok (.iload_n 1, 1) := by decide +kernel
theorem dX3_payIn_2 : decode cX3_payIn 2 = .ok (.invokevirtual 193, 3) := by decide +kernel
theorem dX3_payIn_5 : decode cX3_payIn 5 = .ok (.ifCond .eq 14, 3) := by decide +kernel
theorem dX3_payIn_8 : decode cX3_payIn 8 = .ok (.iload_n 2, 1) := by decide +kernel
theorem dX3_payIn_9 : decode cX3_payIn 9 = .ok (.iconst 1, 1) := by decide +kernel
theorem dX3_payIn_10 : decode cX3_payIn 10 = .ok (.if_icmp .lt 9, 3) := by decide +kernel
theorem dX3_payIn_13 : decode cX3_payIn 13 = .ok (.iload_n 2, 1) := by decide +kernel
theorem dX3_payIn_14 : decode cX3_payIn 14 = .ok (.ldc 196, 2) := by decide +kernel
theorem dX3_payIn_16 : decode cX3_payIn 16 = .ok (.if_icmp .le 5, 3) := by decide +kernel
theorem dX3_payIn_19 : decode cX3_payIn 19 = .ok (.iconst 0, 1) := by decide +kernel
theorem dX3_payIn_20 : decode cX3_payIn 20 = .ok (.ireturn, 1) := by decide +kernel
theorem dX3_payIn_21 : decode cX3_payIn 21 = .ok (.aload_n 0, 1) := by decide +kernel
theorem dX3_payIn_22 : decode cX3_payIn 22 = .ok (.getfield 13, 3) := by decide +kernel
theorem dX3_payIn_25 : decode cX3_payIn 25 = .ok (.iload_n 1, 1) := by decide +kernel
theorem dX3_payIn_26 : decode cX3_payIn 26 = .ok (.aaload, 1) := by decide +kernel
theorem dX3_payIn_27 : decode cX3_payIn 27 = .ok (.dup, 1) := by decide +kernel
theorem dX3_payIn_28 : decode cX3_payIn 28 = .ok (.getfield 142, 3) := by decide +kernel
theorem dX3_payIn_31 : decode cX3_payIn 31 = .ok (.iload_n 2, 1) := by decide +kernel
theorem dX3_payIn_32 : decode cX3_payIn 32 = .ok (.iadd, 1) := by decide +kernel
theorem dX3_payIn_33 : decode cX3_payIn 33 = .ok (.putfield 142, 3) := by decide +kernel
theorem dX3_payIn_36 : decode cX3_payIn 36 = .ok (.aload_n 0, 1) := by decide +kernel
theorem dX3_payIn_37 : decode cX3_payIn 37 = .ok (.dup, 1) := by decide +kernel
theorem dX3_payIn_38 : decode cX3_payIn 38 = .ok (.getfield 69, 3) := by decide +kernel
theorem dX3_payIn_41 : decode cX3_payIn 41 = .ok (.iload_n 2, 1) := by decide +kernel
theorem dX3_payIn_42 : decode cX3_payIn 42 = .ok (.i2l, 1) := by decide +kernel
theorem dX3_payIn_43 : decode cX3_payIn 43 = .ok (.ladd, 1) := by decide +kernel
theorem dX3_payIn_44 : decode cX3_payIn 44 = .ok (.putfield 69, 3) := by decide +kernel
theorem dX3_payIn_47 : decode cX3_payIn 47 = .ok (.iconst 1, 1) := by decide +kernel
theorem dX3_payIn_48 : decode cX3_payIn 48 = .ok (.ireturn, 1) := by decide +kernel
theorem dX3_tellLot_0 : decode cX3_tellLot 0 = .ok (.iload_n 1, 1) := by decide +kernel
theorem dX3_tellLot_1 : decode cX3_tellLot 1 = .ok (.ifCond .lt 10, 3) := by decide +kernel
theorem dX3_tellLot_4 : decode cX3_tellLot 4 = .ok (.iload_n 1, 1) := by decide +kernel
theorem dX3_tellLot_5 : decode cX3_tellLot 5 = .ok (.sipush 10000, 3) := by decide +kernel
theorem dX3_tellLot_8 : decode cX3_tellLot 8 = .ok (.if_icmp .le 5, 3) := by decide +kernel
theorem dX3_tellLot_11 : decode cX3_tellLot 11 = .ok (.iconst 0, 1) := by decide +kernel
theorem dX3_tellLot_12 : decode cX3_tellLot 12 = .ok (.ireturn, 1) := by decide +kernel
theorem dX3_tellLot_13 : decode cX3_tellLot 13 = .ok (.aload_n 0, 1) := by decide +kernel
theorem dX3_tellLot_14 : decode cX3_tellLot 14 = .ok (.iload_n 1, 1) := by decide +kernel
theorem dX3_tellLot_15 : decode cX3_tellLot 15 = .ok (.putfield 50, 3) := by decide +kernel
theorem dX3_tellLot_18 : decode cX3_tellLot 18 = .ok (.iconst 1, 1) := by decide +kernel
theorem dX3_tellLot_19 : decode cX3_tellLot 19 = .ok (.ireturn, 1) := by decide +kernel
theorem dX3_takeBid_0 : decode cX3_takeBid 0 = .ok (.aload_n 0, 1) := by decide +kernel
theorem dX3_takeBid_1 : decode cX3_takeBid 1 = .ok (.iload_n 1, 1) := by decide +kernel
theorem dX3_takeBid_2 : decode cX3_takeBid 2 = .ok (.invokevirtual 193, 3) := by decide +kernel
theorem dX3_takeBid_5 : decode cX3_takeBid 5 = .ok (.ifCond .eq 14, 3) := by decide +kernel
theorem dX3_takeBid_8 : decode cX3_takeBid 8 = .ok (.iload_n 2, 1) := by decide +kernel
theorem dX3_takeBid_9 : decode cX3_takeBid 9 = .ok (.ifCond .lt 10, 3) := by decide +kernel
theorem dX3_takeBid_12 : decode cX3_takeBid 12 = .ok (.iload_n 2, 1) := by decide +kernel
theorem dX3_takeBid_13 : decode cX3_takeBid 13 = .ok (.sipush 5000, 3) := by decide +kernel
theorem dX3_takeBid_16 : decode cX3_takeBid 16 = .ok (.if_icmp .le 5, 3) := by decide +kernel
theorem dX3_takeBid_19 : decode cX3_takeBid 19 = .ok (.iconst 0, 1) := by decide +kernel
theorem dX3_takeBid_20 : decode cX3_takeBid 20 = .ok (.ireturn, 1) := by decide +kernel
theorem dX3_takeBid_21 : decode cX3_takeBid 21 = .ok (.aload_n 0, 1) := by decide +kernel
theorem dX3_takeBid_22 : decode cX3_takeBid 22 = .ok (.getfield 13, 3) := by decide +kernel
theorem dX3_takeBid_25 : decode cX3_takeBid 25 = .ok (.iload_n 1, 1) := by decide +kernel
theorem dX3_takeBid_26 : decode cX3_takeBid 26 = .ok (.aaload, 1) := by decide +kernel
theorem dX3_takeBid_27 : decode cX3_takeBid 27 = .ok (.iload_n 2, 1) := by decide +kernel
theorem dX3_takeBid_28 : decode cX3_takeBid 28 = .ok (.putfield 139, 3) := by decide +kernel
theorem dX3_takeBid_31 : decode cX3_takeBid 31 = .ok (.iconst 1, 1) := by decide +kernel
theorem dX3_takeBid_32 : decode cX3_takeBid 32 = .ok (.ireturn, 1) := by decide +kernel
theorem dX3_markSeen_0 : decode cX3_markSeen 0 = .ok (.aload_n 0, 1) := by decide +kernel
theorem dX3_markSeen_1 : decode cX3_markSeen 1 = .ok (.iload_n 1, 1) := by decide +kernel
theorem dX3_markSeen_2 : decode cX3_markSeen 2 = .ok (.invokevirtual 197, 3) := by decide +kernel
theorem dX3_markSeen_5 : decode cX3_markSeen 5 = .ok (.ifCond .eq 18, 3) := by decide +kernel
theorem dX3_markSeen_8 : decode cX3_markSeen 8 = .ok (.aload_n 0, 1) := by decide +kernel
theorem dX3_markSeen_9 : decode cX3_markSeen 9 = .ok (.getfield 13, 3) := by decide +kernel
theorem dX3_markSeen_12 : decode cX3_markSeen 12 = .ok (.iload_n 1, 1) := by decide +kernel
theorem dX3_markSeen_13 : decode cX3_markSeen 13 = .ok (.aaload, 1) := by decide +kernel
theorem dX3_markSeen_14 : decode cX3_markSeen 14 = .ok (.getfield 123, 3) := by decide +kernel
theorem dX3_markSeen_17 : decode cX3_markSeen 17 = .ok (.invokevirtual 200, 3) := by decide +kernel
theorem dX3_markSeen_20 : decode cX3_markSeen 20 = .ok (.ifCond .ne 5, 3) := by decide +kernel
theorem dX3_markSeen_23 : decode cX3_markSeen 23 = .ok (.iconst 0, 1) := by decide +kernel
theorem dX3_markSeen_24 : decode cX3_markSeen 24 = .ok (.ireturn, 1) := by decide +kernel
theorem dX3_markSeen_25 : decode cX3_markSeen 25 = .ok (.aload_n 0, 1) := by decide +kernel
theorem dX3_markSeen_26 : decode cX3_markSeen 26 = .ok (.getfield 13, 3) := by decide +kernel
theorem dX3_markSeen_29 : decode cX3_markSeen 29 = .ok (.iload_n 1, 1) := by decide +kernel
theorem dX3_markSeen_30 : decode cX3_markSeen 30 = .ok (.aaload, 1) := by decide +kernel
theorem dX3_markSeen_31 : decode cX3_markSeen 31 = .ok (.getfield 123, 3) := by decide +kernel
theorem dX3_markSeen_34 : decode cX3_markSeen 34 = .ok (.iconst 1, 1) := by decide +kernel
theorem dX3_markSeen_35 : decode cX3_markSeen 35 = .ok (.putfield 203, 3) := by decide +kernel
theorem dX3_markSeen_38 : decode cX3_markSeen 38 = .ok (.iconst 1, 1) := by decide +kernel
theorem dX3_markSeen_39 : decode cX3_markSeen 39 = .ok (.ireturn, 1) := by decide +kernel
theorem dX3_letGo_0 : decode cX3_letGo 0 = .ok (.aload_n 0, 1) := by decide +kernel
theorem dX3_letGo_1 : decode cX3_letGo 1 = .ok (.iload_n 1, 1) := by decide +kernel
theorem dX3_letGo_2 : decode cX3_letGo 2 = .ok (.invokevirtual 193, 3) := by decide +kernel
theorem dX3_letGo_5 : decode cX3_letGo 5 = .ok (.ifCond .eq 24, 3) := by decide +kernel
theorem dX3_letGo_8 : decode cX3_letGo 8 = .ok (.aload_n 0, 1) := by decide +kernel
theorem dX3_letGo_9 : decode cX3_letGo 9 = .ok (.getfield 13, 3) := by decide +kernel
theorem dX3_letGo_12 : decode cX3_letGo 12 = .ok (.iload_n 1, 1) := by decide +kernel
theorem dX3_letGo_13 : decode cX3_letGo 13 = .ok (.aaload, 1) := by decide +kernel
theorem dX3_letGo_14 : decode cX3_letGo 14 = .ok (.invokevirtual 119, 3) := by decide +kernel
theorem dX3_letGo_17 : decode cX3_letGo 17 = .ok (.ifCond .ne 12, 3) := by decide +kernel
theorem dX3_letGo_20 : decode cX3_letGo 20 = .ok (.aload_n 0, 1) := by decide +kernel
theorem dX3_letGo_21 : decode cX3_letGo 21 = .ok (.getfield 44, 3) := by decide +kernel
theorem dX3_letGo_24 : decode cX3_letGo 24 = .ok (.bipush 12, 2) := by decide +kernel
theorem dX3_letGo_26 : decode cX3_letGo 26 = .ok (.if_icmp .lt 5, 3) := by decide +kernel
theorem dX3_letGo_29 : decode cX3_letGo 29 = .ok (.iconst 0, 1) := by decide +kernel
theorem dX3_letGo_30 : decode cX3_letGo 30 = .ok (.ireturn, 1) := by decide +kernel
theorem dX3_letGo_31 : decode cX3_letGo 31 = .ok (.aload_n 0, 1) := by decide +kernel
theorem dX3_letGo_32 : decode cX3_letGo 32 = .ok (.getfield 13, 3) := by decide +kernel
theorem dX3_letGo_35 : decode cX3_letGo 35 = .ok (.iload_n 1, 1) := by decide +kernel
theorem dX3_letGo_36 : decode cX3_letGo 36 = .ok (.aaload, 1) := by decide +kernel
theorem dX3_letGo_37 : decode cX3_letGo 37 = .ok (.astore_n 2, 1) := by decide +kernel
theorem dX3_letGo_38 : decode cX3_letGo 38 = .ok (.aload_n 2, 1) := by decide +kernel
theorem dX3_letGo_39 : decode cX3_letGo 39 = .ok (.getfield 206, 3) := by decide +kernel
theorem dX3_letGo_42 : decode cX3_letGo 42 = .ok (.i2l, 1) := by decide +kernel
theorem dX3_letGo_43 : decode cX3_letGo 43 = .ok (.aload_n 0, 1) := by decide +kernel
theorem dX3_letGo_44 : decode cX3_letGo 44 = .ok (.getfield 33, 3) := by decide +kernel
theorem dX3_letGo_47 : decode cX3_letGo 47 = .ok (.getfield 161, 3) := by decide +kernel
theorem dX3_letGo_50 : decode cX3_letGo 50 = .ok (.bipush 6, 2) := by decide +kernel
theorem dX3_letGo_52 : decode cX3_letGo 52 = .ok (.iaload, 1) := by decide +kernel
theorem dX3_letGo_53 : decode cX3_letGo 53 = .ok (.i2l, 1) := by decide +kernel
theorem dX3_letGo_54 : decode cX3_letGo 54 = .ok (.lmul, 1) := by decide +kernel
theorem dX3_letGo_55 : decode cX3_letGo 55 = .ok (.ldc2_w 209, 3) := by decide +kernel
theorem dX3_letGo_58 : decode cX3_letGo 58 = .ok (.ldiv, 1) := by decide +kernel
theorem dX3_letGo_59 : decode cX3_letGo 59 = .ok (.lstore_n 3, 1) := by decide +kernel
theorem dX3_letGo_60 : decode cX3_letGo 60 = .ok (.aload_n 2, 1) := by decide +kernel
theorem dX3_letGo_61 : decode cX3_letGo 61 = .ok (.lload_n 3, 1) := by decide +kernel
theorem dX3_letGo_62 : decode cX3_letGo 62 = .ok (.l2i, 1) := by decide +kernel
theorem dX3_letGo_63 : decode cX3_letGo 63 = .ok (.aload_n 2, 1) := by decide +kernel
theorem dX3_letGo_64 : decode cX3_letGo 64 = .ok (.getfield 142, 3) := by decide +kernel
theorem dX3_letGo_67 : decode cX3_letGo 67 = .ok (.iadd, 1) := by decide +kernel
theorem dX3_letGo_68 : decode cX3_letGo 68 = .ok (.putfield 155, 3) := by decide +kernel
theorem dX3_letGo_71 : decode cX3_letGo 71 = .ok (.aload_n 2, 1) := by decide +kernel
theorem dX3_letGo_72 : decode cX3_letGo 72 = .ok (.aload_n 0, 1) := by decide +kernel
theorem dX3_letGo_73 : decode cX3_letGo 73 = .ok (.getfield 47, 3) := by decide +kernel
theorem dX3_letGo_76 : decode cX3_letGo 76 = .ok (.aload_n 0, 1) := by decide +kernel
theorem dX3_letGo_77 : decode cX3_letGo 77 = .ok (.getfield 33, 3) := by decide +kernel
theorem dX3_letGo_80 : decode cX3_letGo 80 = .ok (.getfield 161, 3) := by decide +kernel
theorem dX3_letGo_83 : decode cX3_letGo 83 = .ok (.bipush 7, 2) := by decide +kernel
theorem dX3_letGo_85 : decode cX3_letGo 85 = .ok (.iaload, 1) := by decide +kernel
theorem dX3_letGo_86 : decode cX3_letGo 86 = .ok (.iadd, 1) := by decide +kernel
theorem dX3_letGo_87 : decode cX3_letGo 87 = .ok (.putfield 211, 3) := by decide +kernel
theorem dX3_letGo_90 : decode cX3_letGo 90 = .ok (.aload_n 0, 1) := by decide +kernel
theorem dX3_letGo_91 : decode cX3_letGo 91 = .ok (.dup, 1) := by decide +kernel
theorem dX3_letGo_92 : decode cX3_letGo 92 = .ok (.getfield 56, 3) := by decide +kernel
theorem dX3_letGo_95 : decode cX3_letGo 95 = .ok (.aload_n 2, 1) := by decide +kernel
theorem dX3_letGo_96 : decode cX3_letGo 96 = .ok (.getfield 142, 3) := by decide +kernel
theorem dX3_letGo_99 : decode cX3_letGo 99 = .ok (.i2l, 1) := by decide +kernel
theorem dX3_letGo_100 : decode cX3_letGo 100 = .ok (.ladd, 1) := by decide +kernel
theorem dX3_letGo_101 : decode cX3_letGo 101 = .ok (.putfield 56, 3) := by decide +kernel
theorem dX3_letGo_104 : decode cX3_letGo 104 = .ok (.aload_n 2, 1) := by decide +kernel
theorem dX3_letGo_105 : decode cX3_letGo 105 = .ok (.iconst 0, 1) := by decide +kernel
theorem dX3_letGo_106 : decode cX3_letGo 106 = .ok (.putfield 142, 3) := by decide +kernel
theorem dX3_letGo_109 : decode cX3_letGo 109 = .ok (.aload_n 2, 1) := by decide +kernel
theorem dX3_letGo_110 : decode cX3_letGo 110 = .ok (.iconst 0, 1) := by decide +kernel
theorem dX3_letGo_111 : decode cX3_letGo 111 = .ok (.putfield 214, 3) := by decide +kernel
theorem dX3_letGo_114 : decode cX3_letGo 114 = .ok (.aload_n 2, 1) := by decide +kernel
theorem dX3_letGo_115 : decode cX3_letGo 115 = .ok (.iconst 0, 1) := by decide +kernel
theorem dX3_letGo_116 : decode cX3_letGo 116 = .ok (.putfield 139, 3) := by decide +kernel
theorem dX3_letGo_119 : decode cX3_letGo 119 = .ok (.aload_n 2, 1) := by decide +kernel
theorem dX3_letGo_120 : decode cX3_letGo 120 = .ok (.iconst 0, 1) := by decide +kernel
theorem dX3_letGo_121 : decode cX3_letGo 121 = .ok (.putfield 112, 3) := by decide +kernel
theorem dX3_letGo_124 : decode cX3_letGo 124 = .ok (.aload_n 0, 1) := by decide +kernel
theorem dX3_letGo_125 : decode cX3_letGo 125 = .ok (.getfield 17, 3) := by decide +kernel
theorem dX3_letGo_128 : decode cX3_letGo 128 = .ok (.aload_n 0, 1) := by decide +kernel
theorem dX3_letGo_129 : decode cX3_letGo 129 = .ok (.getfield 44, 3) := by decide +kernel
theorem dX3_letGo_132 : decode cX3_letGo 132 = .ok (.iload_n 1, 1) := by decide +kernel
theorem dX3_letGo_133 : decode cX3_letGo 133 = .ok (.iastore, 1) := by decide +kernel
theorem dX3_letGo_134 : decode cX3_letGo 134 = .ok (.aload_n 0, 1) := by decide +kernel
theorem dX3_letGo_135 : decode cX3_letGo 135 = .ok (.dup, 1) := by decide +kernel
theorem dX3_letGo_136 : decode cX3_letGo 136 = .ok (.getfield 44, 3) := by decide +kernel
theorem dX3_letGo_139 : decode cX3_letGo 139 = .ok (.iconst 1, 1) := by decide +kernel
theorem dX3_letGo_140 : decode cX3_letGo 140 = .ok (.iadd, 1) := by decide +kernel
theorem dX3_letGo_141 : decode cX3_letGo 141 = .ok (.putfield 44, 3) := by decide +kernel
theorem dX3_letGo_144 : decode cX3_letGo 144 = .ok (.iconst 1, 1) := by decide +kernel
theorem dX3_letGo_145 : decode cX3_letGo 145 = .ok (.ireturn, 1) := by decide +kernel
theorem dX3_letBuilderFail_0 : decode cX3_letBuilderFail 0 = .ok (.aload_n 0, 1) := by decide +kernel
theorem dX3_letBuilderFail_1 : decode cX3_letBuilderFail 1 = .ok (.iload_n 1, 1) := by decide +kernel
theorem dX3_letBuilderFail_2 : decode cX3_letBuilderFail 2 = .ok (.invokevirtual 197, 3) := by decide +kernel
theorem dX3_letBuilderFail_5 : decode cX3_letBuilderFail 5 = .ok (.ifCond .eq 18, 3) := by decide +kernel
theorem dX3_letBuilderFail_8 : decode cX3_letBuilderFail 8 = .ok (.aload_n 0, 1) := by decide +kernel
theorem dX3_letBuilderFail_9 : decode cX3_letBuilderFail 9 = .ok (.getfield 13, 3) := by decide +kernel
theorem dX3_letBuilderFail_12 : decode cX3_letBuilderFail 12 = .ok (.iload_n 1, 1) := by decide +kernel
theorem dX3_letBuilderFail_13 : decode cX3_letBuilderFail 13 = .ok (.aaload, 1) := by decide +kernel
theorem dX3_letBuilderFail_14 : decode cX3_letBuilderFail 14 = .ok (.getfield 123, 3) := by decide +kernel
theorem dX3_letBuilderFail_17 : decode cX3_letBuilderFail 17 = .ok (.invokevirtual 217, 3) := by decide +kernel
theorem dX3_letBuilderFail_20 : decode cX3_letBuilderFail 20 = .ok (.ifCond .ne 5, 3) := by decide +kernel
theorem dX3_letBuilderFail_23 : decode cX3_letBuilderFail 23 = .ok (.iconst 0, 1) := by decide +kernel
theorem dX3_letBuilderFail_24 : decode cX3_letBuilderFail 24 = .ok (.ireturn, 1) := by decide +kernel
theorem dX3_letBuilderFail_25 : decode cX3_letBuilderFail 25 = .ok (.aload_n 0, 1) := by decide +kernel
theorem dX3_letBuilderFail_26 : decode cX3_letBuilderFail 26 = .ok (.getfield 13, 3) := by decide +kernel
theorem dX3_letBuilderFail_29 : decode cX3_letBuilderFail 29 = .ok (.iload_n 1, 1) := by decide +kernel
theorem dX3_letBuilderFail_30 : decode cX3_letBuilderFail 30 = .ok (.aaload, 1) := by decide +kernel
theorem dX3_letBuilderFail_31 : decode cX3_letBuilderFail 31 = .ok (.getfield 123, 3) := by decide +kernel
theorem dX3_letBuilderFail_34 : decode cX3_letBuilderFail 34 = .ok (.invokevirtual 220, 3) := by decide +kernel
theorem dX3_letBuilderFail_37 : decode cX3_letBuilderFail 37 = .ok (.aload_n 0, 1) := by decide +kernel
theorem dX3_letBuilderFail_38 : decode cX3_letBuilderFail 38 = .ok (.dup, 1) := by decide +kernel
theorem dX3_letBuilderFail_39 : decode cX3_letBuilderFail 39 = .ok (.getfield 56, 3) := by decide +kernel
theorem dX3_letBuilderFail_42 : decode cX3_letBuilderFail 42 = .ok (.aload_n 0, 1) := by decide +kernel
theorem dX3_letBuilderFail_43 : decode cX3_letBuilderFail 43 = .ok (.getfield 13, 3) := by decide +kernel
theorem dX3_letBuilderFail_46 : decode cX3_letBuilderFail 46 = .ok (.iload_n 1, 1) := by decide +kernel
theorem dX3_letBuilderFail_47 : decode cX3_letBuilderFail 47 = .ok (.aaload, 1) := by decide +kernel
theorem dX3_letBuilderFail_48 : decode cX3_letBuilderFail 48 = .ok (.getfield 123, 3) := by decide +kernel
theorem dX3_letBuilderFail_51 : decode cX3_letBuilderFail 51 = .ok (.aload_n 0, 1) := by decide +kernel
theorem dX3_letBuilderFail_52 : decode cX3_letBuilderFail 52 = .ok (.getfield 56, 3) := by decide +kernel
theorem dX3_letBuilderFail_55 : decode cX3_letBuilderFail 55 = .ok (.invokevirtual 223, 3) := by decide +kernel
theorem dX3_letBuilderFail_58 : decode cX3_letBuilderFail 58 = .ok (.i2l, 1) := by decide +kernel
theorem dX3_letBuilderFail_59 : decode cX3_letBuilderFail 59 = .ok (.lsub, 1) := by decide +kernel
theorem dX3_letBuilderFail_60 : decode cX3_letBuilderFail 60 = .ok (.putfield 56, 3) := by decide +kernel
theorem dX3_letBuilderFail_63 : decode cX3_letBuilderFail 63 = .ok (.iconst 1, 1) := by decide +kernel
theorem dX3_letBuilderFail_64 : decode cX3_letBuilderFail 64 = .ok (.ireturn, 1) := by decide +kernel
theorem dX3_takeDues_0 : decode cX3_takeDues 0 = .ok (.iconst 0, 1) := by decide +kernel
theorem dX3_takeDues_1 : decode cX3_takeDues 1 = .ok (.istore_n 1, 1) := by decide +kernel
theorem dX3_takeDues_2 : decode cX3_takeDues 2 = .ok (.iload_n 1, 1) := by decide +kernel
theorem dX3_takeDues_3 : decode cX3_takeDues 3 = .ok (.aload_n 0, 1) := by decide +kernel
theorem dX3_takeDues_4 : decode cX3_takeDues 4 = .ok (.getfield 40, 3) := by decide +kernel
theorem dX3_takeDues_7 : decode cX3_takeDues 7 = .ok (.if_icmp .ge 118, 3) := by decide +kernel
theorem dX3_takeDues_10 : decode cX3_takeDues 10 = .ok (.aload_n 0, 1) := by decide +kernel
theorem dX3_takeDues_11 : decode cX3_takeDues 11 = .ok (.getfield 13, 3) := by decide +kernel
theorem dX3_takeDues_14 : decode cX3_takeDues 14 = .ok (.iload_n 1, 1) := by decide +kernel
theorem dX3_takeDues_15 : decode cX3_takeDues 15 = .ok (.aaload, 1) := by decide +kernel
theorem dX3_takeDues_16 : decode cX3_takeDues 16 = .ok (.astore_n 2, 1) := by decide +kernel
theorem dX3_takeDues_17 : decode cX3_takeDues 17 = .ok (.aload_n 2, 1) := by decide +kernel
theorem dX3_takeDues_18 : decode cX3_takeDues 18 = .ok (.getfield 112, 3) := by decide +kernel
theorem dX3_takeDues_21 : decode cX3_takeDues 21 = .ok (.ifCond .ne 6, 3) := by decide +kernel
theorem dX3_takeDues_24 : decode cX3_takeDues 24 = .ok (.goto 95, 3) := by decide +kernel
theorem dX3_takeDues_27 : decode cX3_takeDues 27 = .ok (.aload_n 2, 1) := by decide +kernel
theorem dX3_takeDues_28 : decode cX3_takeDues 28 = .ok (.aload_n 0, 1) := by decide +kernel
theorem dX3_takeDues_29 : decode cX3_takeDues 29 = .ok (.getfield 33, 3) := by decide +kernel
theorem dX3_takeDues_32 : decode cX3_takeDues 32 = .ok (.invokevirtual 145, 3) := by decide +kernel
theorem dX3_takeDues_35 : decode cX3_takeDues 35 = .ok (.istore_n 3, 1) := by decide +kernel
theorem dX3_takeDues_36 : decode cX3_takeDues 36 = .ok (.aload_n 2, 1) := by decide +kernel
theorem dX3_takeDues_37 : decode cX3_takeDues 37 = .ok (.getfield 142, 3) := by decide +kernel
theorem dX3_takeDues_40 : decode cX3_takeDues 40 = .ok (.iload_n 3, 1) := by decide +kernel
theorem dX3_takeDues_41 : decode cX3_takeDues 41 = .ok (.if_icmp .lt 42, 3) := by decide +kernel
theorem dX3_takeDues_44 : decode cX3_takeDues 44 = .ok (.aload_n 2, 1) := by decide +kernel
theorem dX3_takeDues_45 : decode cX3_takeDues 45 = .ok (.dup, 1) := by decide +kernel
theorem dX3_takeDues_46 : decode cX3_takeDues 46 = .ok (.getfield 142, 3) := by decide +kernel
theorem dX3_takeDues_49 : decode cX3_takeDues 49 = .ok (.iload_n 3, 1) := by decide +kernel
theorem dX3_takeDues_50 : decode cX3_takeDues 50 = .ok (.isub, 1) := by decide +kernel
theorem dX3_takeDues_51 : decode cX3_takeDues 51 = .ok (.putfield 142, 3) := by decide +kernel
theorem dX3_takeDues_54 : decode cX3_takeDues 54 = .ok (.aload_n 2, 1) := by decide +kernel
theorem dX3_takeDues_55 : decode cX3_takeDues 55 = .ok (.dup, 1) := by decide +kernel
theorem dX3_takeDues_56 : decode cX3_takeDues 56 = .ok (.getfield 206, 3) := by decide +kernel
theorem dX3_takeDues_59 : decode cX3_takeDues 59 = .ok (.iload_n 3, 1) := by decide +kernel
theorem dX3_takeDues_60 : decode cX3_takeDues 60 = .ok (.iadd, 1) := by decide +kernel
theorem dX3_takeDues_61 : decode cX3_takeDues 61 = .ok (.putfield 206, 3) := by decide +kernel
theorem dX3_takeDues_64 : decode cX3_takeDues 64 = .ok (.aload_n 2, 1) := by decide +kernel
theorem dX3_takeDues_65 : decode cX3_takeDues 65 = .ok (.iconst 0, 1) := by decide +kernel
theorem dX3_takeDues_66 : decode cX3_takeDues 66 = .ok (.putfield 214, 3) := by decide +kernel
theorem dX3_takeDues_69 : decode cX3_takeDues 69 = .ok (.aload_n 0, 1) := by decide +kernel
theorem dX3_takeDues_70 : decode cX3_takeDues 70 = .ok (.dup, 1) := by decide +kernel
theorem dX3_takeDues_71 : decode cX3_takeDues 71 = .ok (.getfield 56, 3) := by decide +kernel
theorem dX3_takeDues_74 : decode cX3_takeDues 74 = .ok (.iload_n 3, 1) := by decide +kernel
theorem dX3_takeDues_75 : decode cX3_takeDues 75 = .ok (.i2l, 1) := by decide +kernel
theorem dX3_takeDues_76 : decode cX3_takeDues 76 = .ok (.ladd, 1) := by decide +kernel
theorem dX3_takeDues_77 : decode cX3_takeDues 77 = .ok (.putfield 56, 3) := by decide +kernel
theorem dX3_takeDues_80 : decode cX3_takeDues 80 = .ok (.goto 39, 3) := by decide +kernel
theorem dX3_takeDues_83 : decode cX3_takeDues 83 = .ok (.aload_n 2, 1) := by decide +kernel
theorem dX3_takeDues_84 : decode cX3_takeDues 84 = .ok (.getfield 116, 3) := by decide +kernel
theorem dX3_takeDues_87 : decode cX3_takeDues 87 = .ok (.aload_n 0, 1) := by decide +kernel
theorem dX3_takeDues_88 : decode cX3_takeDues 88 = .ok (.getfield 33, 3) := by decide +kernel
theorem dX3_takeDues_91 : decode cX3_takeDues 91 = .ok (.getfield 161, 3) := by decide +kernel
theorem dX3_takeDues_94 : decode cX3_takeDues 94 = .ok (.iconst 2, 1) := by decide +kernel
theorem dX3_takeDues_95 : decode cX3_takeDues 95 = .ok (.iaload, 1) := by decide +kernel
theorem dX3_takeDues_96 : decode cX3_takeDues 96 = .ok (.imul, 1) := by decide +kernel
theorem dX3_takeDues_97 : decode cX3_takeDues 97 = .ok (.istore 4, 2) := by decide +kernel
theorem dX3_takeDues_99 : decode cX3_takeDues 99 = .ok (.aload_n 2, 1) := by decide +kernel
theorem dX3_takeDues_100 : decode cX3_takeDues 100 = .ok (.iload_n 3, 1) := by decide +kernel
theorem dX3_takeDues_101 : decode cX3_takeDues 101 = .ok (.iload 4, 2) := by decide +kernel
theorem dX3_takeDues_103 : decode cX3_takeDues 103 = .ok (.iadd, 1) := by decide +kernel
theorem dX3_takeDues_104 : decode cX3_takeDues 104 = .ok (.putfield 214, 3) := by decide +kernel
theorem dX3_takeDues_107 : decode cX3_takeDues 107 = .ok (.aload_n 0, 1) := by decide +kernel
theorem dX3_takeDues_108 : decode cX3_takeDues 108 = .ok (.dup, 1) := by decide +kernel
theorem dX3_takeDues_109 : decode cX3_takeDues 109 = .ok (.getfield 66, 3) := by decide +kernel
theorem dX3_takeDues_112 : decode cX3_takeDues 112 = .ok (.iload 4, 2) := by decide +kernel
theorem dX3_takeDues_114 : decode cX3_takeDues 114 = .ok (.i2l, 1) := by decide +kernel
theorem dX3_takeDues_115 : decode cX3_takeDues 115 = .ok (.ladd, 1) := by decide +kernel
theorem dX3_takeDues_116 : decode cX3_takeDues 116 = .ok (.putfield 66, 3) := by decide +kernel
theorem dX3_takeDues_119 : decode cX3_takeDues 119 = .ok (.iinc 1 1, 3) := by decide +kernel
theorem dX3_takeDues_122 : decode cX3_takeDues 122 = .ok (.goto (-120), 3) := by decide +kernel
theorem dX3_takeDues_125 : decode cX3_takeDues 125 = .ok (.return_, 1) := by decide +kernel
theorem dX3_payLeavers_0 : decode cX3_payLeavers 0 = .ok (.iconst 0, 1) := by decide +kernel
theorem dX3_payLeavers_1 : decode cX3_payLeavers 1 = .ok (.istore_n 1, 1) := by decide +kernel
theorem dX3_payLeavers_2 : decode cX3_payLeavers 2 = .ok (.iload_n 1, 1) := by decide +kernel
theorem dX3_payLeavers_3 : decode cX3_payLeavers 3 = .ok (.aload_n 0, 1) := by decide +kernel
theorem dX3_payLeavers_4 : decode cX3_payLeavers 4 = .ok (.getfield 44, 3) := by decide +kernel
theorem dX3_payLeavers_7 : decode cX3_payLeavers 7 = .ok (.if_icmp .ge 97, 3) := by decide +kernel
theorem dX3_payLeavers_10 : decode cX3_payLeavers 10 = .ok (.aload_n 0, 1) := by decide +kernel
theorem dX3_payLeavers_11 : decode cX3_payLeavers 11 = .ok (.getfield 13, 3) := by decide +kernel
theorem dX3_payLeavers_14 : decode cX3_payLeavers 14 = .ok (.aload_n 0, 1) := by decide +kernel
theorem dX3_payLeavers_15 : decode cX3_payLeavers 15 = .ok (.getfield 17, 3) := by decide +kernel
theorem dX3_payLeavers_18 : decode cX3_payLeavers 18 = .ok (.iload_n 1, 1) := by decide +kernel
theorem dX3_payLeavers_19 : decode cX3_payLeavers 19 = .ok (.iaload, 1) := by decide +kernel
theorem dX3_payLeavers_20 : decode cX3_payLeavers 20 = .ok (.aaload, 1) := by decide +kernel
theorem dX3_payLeavers_21 : decode cX3_payLeavers 21 = .ok (.astore_n 2, 1) := by decide +kernel
theorem dX3_payLeavers_22 : decode cX3_payLeavers 22 = .ok (.aload_n 2, 1) := by decide +kernel
theorem dX3_payLeavers_23 : decode cX3_payLeavers 23 = .ok (.getfield 155, 3) := by decide +kernel
theorem dX3_payLeavers_26 : decode cX3_payLeavers 26 = .ok (.ifCond .eq 72, 3) := by decide +kernel
theorem dX3_payLeavers_29 : decode cX3_payLeavers 29 = .ok (.aload_n 0, 1) := by decide +kernel
theorem dX3_payLeavers_30 : decode cX3_payLeavers 30 = .ok (.getfield 47, 3) := by decide +kernel
theorem dX3_payLeavers_33 : decode cX3_payLeavers 33 = .ok (.aload_n 2, 1) := by decide +kernel
theorem dX3_payLeavers_34 : decode cX3_payLeavers 34 = .ok (.getfield 211, 3) := by decide +kernel
theorem dX3_payLeavers_37 : decode cX3_payLeavers 37 = .ok (.if_icmp .ge 6, 3) := by decide +kernel
theorem dX3_payLeavers_40 : decode cX3_payLeavers 40 = .ok (.goto 58, 3) := by decide +kernel
theorem dX3_payLeavers_43 : decode cX3_payLeavers 43 = .ok (.aload_n 0, 1) := by decide +kernel
theorem dX3_payLeavers_44 : decode cX3_payLeavers 44 = .ok (.getfield 56, 3) := by decide +kernel
theorem dX3_payLeavers_47 : decode cX3_payLeavers 47 = .ok (.aload_n 2, 1) := by decide +kernel
theorem dX3_payLeavers_48 : decode cX3_payLeavers 48 = .ok (.getfield 155, 3) := by decide +kernel
theorem dX3_payLeavers_51 : decode cX3_payLeavers 51 = .ok (.i2l, 1) := by decide +kernel
theorem dX3_payLeavers_52 : decode cX3_payLeavers 52 = .ok (.lcmp, 1) := by decide +kernel
theorem dX3_payLeavers_53 : decode cX3_payLeavers 53 = .ok (.ifCond .ge 4, 3) := by decide +kernel
theorem dX3_payLeavers_56 : decode cX3_payLeavers 56 = .ok (.return_, 1) := by decide +kernel
theorem dX3_payLeavers_57 : decode cX3_payLeavers 57 = .ok (.aload_n 0, 1) := by decide +kernel
theorem dX3_payLeavers_58 : decode cX3_payLeavers 58 = .ok (.dup, 1) := by decide +kernel
theorem dX3_payLeavers_59 : decode cX3_payLeavers 59 = .ok (.getfield 56, 3) := by decide +kernel
theorem dX3_payLeavers_62 : decode cX3_payLeavers 62 = .ok (.aload_n 2, 1) := by decide +kernel
theorem dX3_payLeavers_63 : decode cX3_payLeavers 63 = .ok (.getfield 155, 3) := by decide +kernel
theorem dX3_payLeavers_66 : decode cX3_payLeavers 66 = .ok (.i2l, 1) := by decide +kernel
theorem dX3_payLeavers_67 : decode cX3_payLeavers 67 = .ok (.lsub, 1) := by decide +kernel
theorem dX3_payLeavers_68 : decode cX3_payLeavers 68 = .ok (.putfield 56, 3) := by decide +kernel
theorem dX3_payLeavers_71 : decode cX3_payLeavers 71 = .ok (.aload_n 0, 1) := by decide +kernel
theorem dX3_payLeavers_72 : decode cX3_payLeavers 72 = .ok (.dup, 1) := by decide +kernel
theorem dX3_payLeavers_73 : decode cX3_payLeavers 73 = .ok (.getfield 63, 3) := by decide +kernel
theorem dX3_payLeavers_76 : decode cX3_payLeavers 76 = .ok (.aload_n 2, 1) := by decide +kernel
theorem dX3_payLeavers_77 : decode cX3_payLeavers 77 = .ok (.getfield 155, 3) := by decide +kernel
theorem dX3_payLeavers_80 : decode cX3_payLeavers 80 = .ok (.i2l, 1) := by decide +kernel
theorem dX3_payLeavers_81 : decode cX3_payLeavers 81 = .ok (.ladd, 1) := by decide +kernel
theorem dX3_payLeavers_82 : decode cX3_payLeavers 82 = .ok (.putfield 63, 3) := by decide +kernel
theorem dX3_payLeavers_85 : decode cX3_payLeavers 85 = .ok (.aload_n 2, 1) := by decide +kernel
theorem dX3_payLeavers_86 : decode cX3_payLeavers 86 = .ok (.aload_n 2, 1) := by decide +kernel
theorem dX3_payLeavers_87 : decode cX3_payLeavers 87 = .ok (.getfield 155, 3) := by decide +kernel
theorem dX3_payLeavers_90 : decode cX3_payLeavers 90 = .ok (.putfield 227, 3) := by decide +kernel
theorem dX3_payLeavers_93 : decode cX3_payLeavers 93 = .ok (.aload_n 2, 1) := by decide +kernel
theorem dX3_payLeavers_94 : decode cX3_payLeavers 94 = .ok (.iconst 0, 1) := by decide +kernel
theorem dX3_payLeavers_95 : decode cX3_payLeavers 95 = .ok (.putfield 155, 3) := by decide +kernel
theorem dX3_payLeavers_98 : decode cX3_payLeavers 98 = .ok (.iinc 1 1, 3) := by decide +kernel
theorem dX3_payLeavers_101 : decode cX3_payLeavers 101 = .ok (.goto (-99), 3) := by decide +kernel
theorem dX3_payLeavers_104 : decode cX3_payLeavers 104 = .ok (.return_, 1) := by decide +kernel
theorem dX3_payStages_0 : decode cX3_payStages 0 = .ok (.iconst 0, 1) := by decide +kernel
theorem dX3_payStages_1 : decode cX3_payStages 1 = .ok (.istore_n 1, 1) := by decide +kernel
theorem dX3_payStages_2 : decode cX3_payStages 2 = .ok (.iload_n 1, 1) := by decide +kernel
theorem dX3_payStages_3 : decode cX3_payStages 3 = .ok (.aload_n 0, 1) := by decide +kernel
theorem dX3_payStages_4 : decode cX3_payStages 4 = .ok (.getfield 40, 3) := by decide +kernel
theorem dX3_payStages_7 : decode cX3_payStages 7 = .ok (.if_icmp .ge 31, 3) := by decide +kernel
theorem dX3_payStages_10 : decode cX3_payStages 10 = .ok (.aload_n 0, 1) := by decide +kernel
theorem dX3_payStages_11 : decode cX3_payStages 11 = .ok (.dup, 1) := by decide +kernel
theorem dX3_payStages_12 : decode cX3_payStages 12 = .ok (.getfield 60, 3) := by decide +kernel
theorem dX3_payStages_15 : decode cX3_payStages 15 = .ok (.aload_n 0, 1) := by decide +kernel
theorem dX3_payStages_16 : decode cX3_payStages 16 = .ok (.getfield 13, 3) := by decide +kernel
theorem dX3_payStages_19 : decode cX3_payStages 19 = .ok (.iload_n 1, 1) := by decide +kernel
theorem dX3_payStages_20 : decode cX3_payStages 20 = .ok (.aaload, 1) := by decide +kernel
theorem dX3_payStages_21 : decode cX3_payStages 21 = .ok (.getfield 123, 3) := by decide +kernel
theorem dX3_payStages_24 : decode cX3_payStages 24 = .ok (.invokevirtual 230, 3) := by decide +kernel
theorem dX3_payStages_27 : decode cX3_payStages 27 = .ok (.i2l, 1) := by decide +kernel
theorem dX3_payStages_28 : decode cX3_payStages 28 = .ok (.ladd, 1) := by decide +kernel
theorem dX3_payStages_29 : decode cX3_payStages 29 = .ok (.putfield 60, 3) := by decide +kernel
theorem dX3_payStages_32 : decode cX3_payStages 32 = .ok (.iinc 1 1, 3) := by decide +kernel
theorem dX3_payStages_35 : decode cX3_payStages 35 = .ok (.goto (-33), 3) := by decide +kernel
theorem dX3_payStages_38 : decode cX3_payStages 38 = .ok (.return_, 1) := by decide +kernel
theorem dX3_holdDraw_0 : decode cX3_holdDraw 0 = .ok (.aload_n 0, 1) := by decide +kernel
theorem dX3_holdDraw_1 : decode cX3_holdDraw 1 = .ok (.getfield 33, 3) := by decide +kernel
theorem dX3_holdDraw_4 : decode cX3_holdDraw 4 = .ok (.getfield 161, 3) := by decide +kernel
theorem dX3_holdDraw_7 : decode cX3_holdDraw 7 = .ok (.iconst 3, 1) := by decide +kernel
theorem dX3_holdDraw_8 : decode cX3_holdDraw 8 = .ok (.iaload, 1) := by decide +kernel
theorem dX3_holdDraw_9 : decode cX3_holdDraw 9 = .ok (.istore_n 1, 1) := by decide +kernel
theorem dX3_holdDraw_10 : decode cX3_holdDraw 10 = .ok (.aload_n 0, 1) := by decide +kernel
theorem dX3_holdDraw_11 : decode cX3_holdDraw 11 = .ok (.getfield 56, 3) := by decide +kernel
theorem dX3_holdDraw_14 : decode cX3_holdDraw 14 = .ok (.iload_n 1, 1) := by decide +kernel
theorem dX3_holdDraw_15 : decode cX3_holdDraw 15 = .ok (.i2l, 1) := by decide +kernel
theorem dX3_holdDraw_16 : decode cX3_holdDraw 16 = .ok (.lcmp, 1) := by decide +kernel
theorem dX3_holdDraw_17 : decode cX3_holdDraw 17 = .ok (.ifCond .ge 4, 3) := by decide +kernel
theorem dX3_holdDraw_20 : decode cX3_holdDraw 20 = .ok (.return_, 1) := by decide +kernel
theorem dX3_holdDraw_21 : decode cX3_holdDraw 21 = .ok (.aload_n 0, 1) := by decide +kernel
theorem dX3_holdDraw_22 : decode cX3_holdDraw 22 = .ok (.getfield 33, 3) := by decide +kernel
theorem dX3_holdDraw_25 : decode cX3_holdDraw 25 = .ok (.getfield 161, 3) := by decide +kernel
theorem dX3_holdDraw_28 : decode cX3_holdDraw 28 = .ok (.iconst 5, 1) := by decide +kernel
theorem dX3_holdDraw_29 : decode cX3_holdDraw 29 = .ok (.iaload, 1) := by decide +kernel
theorem dX3_holdDraw_30 : decode cX3_holdDraw 30 = .ok (.iconst 1, 1) := by decide +kernel
theorem dX3_holdDraw_31 : decode cX3_holdDraw 31 = .ok (.if_icmp .ne 7, 3) := by decide +kernel
theorem dX3_holdDraw_34 : decode cX3_holdDraw 34 = .ok (.iconst 1, 1) := by decide +kernel
theorem dX3_holdDraw_35 : decode cX3_holdDraw 35 = .ok (.goto 4, 3) := by decide +kernel
theorem dX3_holdDraw_38 : decode cX3_holdDraw 38 = .ok (.iconst 0, 1) := by decide +kernel
theorem dX3_holdDraw_39 : decode cX3_holdDraw 39 = .ok (.istore_n 2, 1) := by decide +kernel
theorem dX3_holdDraw_40 : decode cX3_holdDraw 40 = .ok (.iload_n 2, 1) := by decide +kernel
theorem dX3_holdDraw_41 : decode cX3_holdDraw 41 = .ok (.ifCond .eq 13, 3) := by decide +kernel
theorem dX3_holdDraw_44 : decode cX3_holdDraw 44 = .ok (.aload_n 0, 1) := by decide +kernel
theorem dX3_holdDraw_45 : decode cX3_holdDraw 45 = .ok (.iload_n 1, 1) := by decide +kernel
theorem dX3_holdDraw_46 : decode cX3_holdDraw 46 = .ok (.iconst 2, 1) := by decide +kernel
theorem dX3_holdDraw_47 : decode cX3_holdDraw 47 = .ok (.idiv, 1) := by decide +kernel
theorem dX3_holdDraw_48 : decode cX3_holdDraw 48 = .ok (.invokevirtual 234, 3) := by decide +kernel
theorem dX3_holdDraw_51 : decode cX3_holdDraw 51 = .ok (.goto 7, 3) := by decide +kernel
theorem dX3_holdDraw_54 : decode cX3_holdDraw 54 = .ok (.aload_n 0, 1) := by decide +kernel
theorem dX3_holdDraw_55 : decode cX3_holdDraw 55 = .ok (.invokevirtual 237, 3) := by decide +kernel
theorem dX3_holdDraw_58 : decode cX3_holdDraw 58 = .ok (.istore_n 3, 1) := by decide +kernel
theorem dX3_holdDraw_59 : decode cX3_holdDraw 59 = .ok (.iload_n 3, 1) := by decide +kernel
theorem dX3_holdDraw_60 : decode cX3_holdDraw 60 = .ok (.iconst (-1), 1) := by decide +kernel
theorem dX3_holdDraw_61 : decode cX3_holdDraw 61 = .ok (.if_icmp .ne 4, 3) := by decide +kernel
theorem dX3_holdDraw_64 : decode cX3_holdDraw 64 = .ok (.return_, 1) := by decide +kernel
theorem dX3_holdDraw_65 : decode cX3_holdDraw 65 = .ok (.aload_n 0, 1) := by decide +kernel
theorem dX3_holdDraw_66 : decode cX3_holdDraw 66 = .ok (.getfield 13, 3) := by decide +kernel
theorem dX3_holdDraw_69 : decode cX3_holdDraw 69 = .ok (.iload_n 3, 1) := by decide +kernel
theorem dX3_holdDraw_70 : decode cX3_holdDraw 70 = .ok (.aaload, 1) := by decide +kernel
theorem dX3_holdDraw_71 : decode cX3_holdDraw 71 = .ok (.astore 4, 2) := by decide +kernel
theorem dX3_holdDraw_73 : decode cX3_holdDraw 73 = .ok (.iload_n 2, 1) := by decide +kernel
theorem dX3_holdDraw_74 : decode cX3_holdDraw 74 = .ok (.ifCond .eq 17, 3) := by decide +kernel
theorem dX3_holdDraw_77 : decode cX3_holdDraw 77 = .ok (.aload 4, 2) := by decide +kernel
theorem dX3_holdDraw_79 : decode cX3_holdDraw 79 = .ok (.getfield 139, 3) := by decide +kernel
theorem dX3_holdDraw_82 : decode cX3_holdDraw 82 = .ok (.iload_n 1, 1) := by decide +kernel
theorem dX3_holdDraw_83 : decode cX3_holdDraw 83 = .ok (.iconst 2, 1) := by decide +kernel
theorem dX3_holdDraw_84 : decode cX3_holdDraw 84 = .ok (.idiv, 1) := by decide +kernel
theorem dX3_holdDraw_85 : decode cX3_holdDraw 85 = .ok (.invokestatic 240, 3) := by decide +kernel
theorem dX3_holdDraw_88 : decode cX3_holdDraw 88 = .ok (.goto 4, 3) := by decide +kernel
theorem dX3_holdDraw_91 : decode cX3_holdDraw 91 = .ok (.iconst 0, 1) := by decide +kernel
theorem dX3_holdDraw_92 : decode cX3_holdDraw 92 = .ok (.istore 5, 2) := by decide +kernel
theorem dX3_holdDraw_94 : decode cX3_holdDraw 94 = .ok (.aload_n 0, 1) := by decide +kernel
theorem dX3_holdDraw_95 : decode cX3_holdDraw 95 = .ok (.dup, 1) := by decide +kernel
theorem dX3_holdDraw_96 : decode cX3_holdDraw 96 = .ok (.getfield 56, 3) := by decide +kernel
theorem dX3_holdDraw_99 : decode cX3_holdDraw 99 = .ok (.iload_n 1, 1) := by decide +kernel
theorem dX3_holdDraw_100 : decode cX3_holdDraw 100 = .ok (.i2l, 1) := by decide +kernel
theorem dX3_holdDraw_101 : decode cX3_holdDraw 101 = .ok (.lsub, 1) := by decide +kernel
theorem dX3_holdDraw_102 : decode cX3_holdDraw 102 = .ok (.putfield 56, 3) := by decide +kernel
theorem dX3_holdDraw_105 : decode cX3_holdDraw 105 = .ok (.aload 4, 2) := by decide +kernel
theorem dX3_holdDraw_107 : decode cX3_holdDraw 107 = .ok (.getfield 123, 3) := by decide +kernel
theorem dX3_holdDraw_110 : decode cX3_holdDraw 110 = .ok (.aload_n 0, 1) := by decide +kernel
theorem dX3_holdDraw_111 : decode cX3_holdDraw 111 = .ok (.getfield 47, 3) := by decide +kernel
theorem dX3_holdDraw_114 : decode cX3_holdDraw 114 = .ok (.aload_n 0, 1) := by decide +kernel
theorem dX3_holdDraw_115 : decode cX3_holdDraw 115 = .ok (.getfield 33, 3) := by decide +kernel
theorem dX3_holdDraw_118 : decode cX3_holdDraw 118 = .ok (.getfield 161, 3) := by decide +kernel
theorem dX3_holdDraw_121 : decode cX3_holdDraw 121 = .ok (.iconst 4, 1) := by decide +kernel
theorem dX3_holdDraw_122 : decode cX3_holdDraw 122 = .ok (.iaload, 1) := by decide +kernel
theorem dX3_holdDraw_123 : decode cX3_holdDraw 123 = .ok (.iload_n 1, 1) := by decide +kernel
theorem dX3_holdDraw_124 : decode cX3_holdDraw 124 = .ok (.iload 5, 2) := by decide +kernel
theorem dX3_holdDraw_126 : decode cX3_holdDraw 126 = .ok (.isub, 1) := by decide +kernel
theorem dX3_holdDraw_127 : decode cX3_holdDraw 127 = .ok (.invokevirtual 242, 3) := by decide +kernel
theorem dX3_holdDraw_130 : decode cX3_holdDraw 130 = .ok (.aload 4, 2) := by decide +kernel
theorem dX3_holdDraw_132 : decode cX3_holdDraw 132 = .ok (.iconst 0, 1) := by decide +kernel
theorem dX3_holdDraw_133 : decode cX3_holdDraw 133 = .ok (.putfield 139, 3) := by decide +kernel
theorem dX3_holdDraw_136 : decode cX3_holdDraw 136 = .ok (.aload_n 0, 1) := by decide +kernel
theorem dX3_holdDraw_137 : decode cX3_holdDraw 137 = .ok (.dup, 1) := by decide +kernel
theorem dX3_holdDraw_138 : decode cX3_holdDraw 138 = .ok (.getfield 53, 3) := by decide +kernel
theorem dX3_holdDraw_141 : decode cX3_holdDraw 141 = .ok (.iconst 1, 1) := by decide +kernel
theorem dX3_holdDraw_142 : decode cX3_holdDraw 142 = .ok (.iadd, 1) := by decide +kernel
theorem dX3_holdDraw_143 : decode cX3_holdDraw 143 = .ok (.putfield 53, 3) := by decide +kernel
theorem dX3_holdDraw_146 : decode cX3_holdDraw 146 = .ok (.aload_n 0, 1) := by decide +kernel
theorem dX3_holdDraw_147 : decode cX3_holdDraw 147 = .ok (.iload 5, 2) := by decide +kernel
theorem dX3_holdDraw_149 : decode cX3_holdDraw 149 = .ok (.invokevirtual 246, 3) := by decide +kernel
theorem dX3_holdDraw_152 : decode cX3_holdDraw 152 = .ok (.return_, 1) := by decide +kernel
theorem dX3_greatestBidder_0 : decode cX3_greatestBidder 0 = .ok (.iconst (-1), 1) := by decide +kernel
theorem dX3_greatestBidder_1 : decode cX3_greatestBidder 1 = .ok (.istore_n 2, 1) := by decide +kernel
theorem dX3_greatestBidder_2 : decode cX3_greatestBidder 2 = .ok (.iconst (-1), 1) := by decide +kernel
theorem dX3_greatestBidder_3 : decode cX3_greatestBidder 3 = .ok (.istore_n 3, 1) := by decide +kernel
theorem dX3_greatestBidder_4 : decode cX3_greatestBidder 4 = .ok (.iconst 0, 1) := by decide +kernel
theorem dX3_greatestBidder_5 : decode cX3_greatestBidder 5 = .ok (.istore 4, 2) := by decide +kernel
theorem dX3_greatestBidder_7 : decode cX3_greatestBidder 7 = .ok (.iload 4, 2) := by decide +kernel
theorem dX3_greatestBidder_9 : decode cX3_greatestBidder 9 = .ok (.aload_n 0, 1) := by decide +kernel
theorem dX3_greatestBidder_10 : decode cX3_greatestBidder 10 = .ok (.getfield 40, 3) := by decide +kernel
theorem dX3_greatestBidder_13 : decode cX3_greatestBidder 13 = .ok (.if_icmp .ge 50, 3) := by decide +kernel
theorem dX3_greatestBidder_16 : decode cX3_greatestBidder 16 = .ok (.aload_n 0, 1) := by decide +kernel
theorem dX3_greatestBidder_17 : decode cX3_greatestBidder 17 = .ok (.getfield 13, 3) := by decide +kernel
theorem dX3_greatestBidder_20 : decode cX3_greatestBidder 20 = .ok (.iload 4, 2) := by decide +kernel
theorem dX3_greatestBidder_22 : decode cX3_greatestBidder 22 = .ok (.aaload, 1) := by decide +kernel
theorem dX3_greatestBidder_23 : decode cX3_greatestBidder 23 = .ok (.getfield 139, 3) := by decide +kernel
theorem dX3_greatestBidder_26 : decode cX3_greatestBidder 26 = .ok (.iload_n 1, 1) := by decide +kernel
theorem dX3_greatestBidder_27 : decode cX3_greatestBidder 27 = .ok (.invokestatic 240, 3) := by decide +kernel
theorem dX3_greatestBidder_30 : decode cX3_greatestBidder 30 = .ok (.istore 5, 2) := by decide +kernel
theorem dX3_greatestBidder_32 : decode cX3_greatestBidder 32 = .ok (.aload_n 0, 1) := by decide +kernel
theorem dX3_greatestBidder_33 : decode cX3_greatestBidder 33 = .ok (.getfield 13, 3) := by decide +kernel
theorem dX3_greatestBidder_36 : decode cX3_greatestBidder 36 = .ok (.iload 4, 2) := by decide +kernel
theorem dX3_greatestBidder_38 : decode cX3_greatestBidder 38 = .ok (.aaload, 1) := by decide +kernel
theorem dX3_greatestBidder_39 : decode cX3_greatestBidder 39 = .ok (.invokevirtual 249, 3) := by decide +kernel
theorem dX3_greatestBidder_42 : decode cX3_greatestBidder 42 = .ok (.ifCond .eq 15, 3) := by decide +kernel
theorem dX3_greatestBidder_45 : decode cX3_greatestBidder 45 = .ok (.iload 5, 2) := by decide +kernel
theorem dX3_greatestBidder_47 : decode cX3_greatestBidder 47 = .ok (.iload_n 3, 1) := by decide +kernel
theorem dX3_greatestBidder_48 : decode cX3_greatestBidder 48 = .ok (.if_icmp .le 9, 3) := by decide +kernel
theorem dX3_greatestBidder_51 : decode cX3_greatestBidder 51 = .ok (.iload 4, 2) := by decide +kernel
theorem dX3_greatestBidder_53 : decode cX3_greatestBidder 53 = .ok (.istore_n 2, 1) := by decide +kernel
theorem dX3_greatestBidder_54 : decode cX3_greatestBidder 54 = .ok (.iload 5, 2) := by decide +kernel
theorem dX3_greatestBidder_56 : decode cX3_greatestBidder 56 = .ok (.istore_n 3, 1) := by decide +kernel
theorem dX3_greatestBidder_57 : decode cX3_greatestBidder 57 = .ok (.iinc 4 1, 3) := by decide +kernel
theorem dX3_greatestBidder_60 : decode cX3_greatestBidder 60 = .ok (.goto (-53), 3) := by decide +kernel
theorem dX3_greatestBidder_63 : decode cX3_greatestBidder 63 = .ok (.iload_n 2, 1) := by decide +kernel
theorem dX3_greatestBidder_64 : decode cX3_greatestBidder 64 = .ok (.ireturn, 1) := by decide +kernel
theorem dX3_holderOfLot_0 : decode cX3_holderOfLot 0 = .ok (.iconst 0, 1) := by decide +kernel
theorem dX3_holderOfLot_1 : decode cX3_holderOfLot 1 = .ok (.istore_n 1, 1) := by decide +kernel
theorem dX3_holderOfLot_2 : decode cX3_holderOfLot 2 = .ok (.iconst 0, 1) := by decide +kernel
theorem dX3_holderOfLot_3 : decode cX3_holderOfLot 3 = .ok (.istore_n 2, 1) := by decide +kernel
theorem dX3_holderOfLot_4 : decode cX3_holderOfLot 4 = .ok (.iload_n 2, 1) := by decide +kernel
theorem dX3_holderOfLot_5 : decode cX3_holderOfLot 5 = .ok (.aload_n 0, 1) := by decide +kernel
theorem dX3_holderOfLot_6 : decode cX3_holderOfLot 6 = .ok (.getfield 40, 3) := by decide +kernel
theorem dX3_holderOfLot_9 : decode cX3_holderOfLot 9 = .ok (.if_icmp .ge 37, 3) := by decide +kernel
theorem dX3_holderOfLot_12 : decode cX3_holderOfLot 12 = .ok (.iload_n 1, 1) := by decide +kernel
theorem dX3_holderOfLot_13 : decode cX3_holderOfLot 13 = .ok (.aload_n 0, 1) := by decide +kernel
theorem dX3_holderOfLot_14 : decode cX3_holderOfLot 14 = .ok (.getfield 13, 3) := by decide +kernel
theorem dX3_holderOfLot_17 : decode cX3_holderOfLot 17 = .ok (.iload_n 2, 1) := by decide +kernel
theorem dX3_holderOfLot_18 : decode cX3_holderOfLot 18 = .ok (.aaload, 1) := by decide +kernel
theorem dX3_holderOfLot_19 : decode cX3_holderOfLot 19 = .ok (.invokevirtual 249, 3) := by decide +kernel
theorem dX3_holderOfLot_22 : decode cX3_holderOfLot 22 = .ok (.ifCond .eq 15, 3) := by decide +kernel
theorem dX3_holderOfLot_25 : decode cX3_holderOfLot 25 = .ok (.aload_n 0, 1) := by decide +kernel
theorem dX3_holderOfLot_26 : decode cX3_holderOfLot 26 = .ok (.getfield 13, 3) := by decide +kernel
theorem dX3_holderOfLot_29 : decode cX3_holderOfLot 29 = .ok (.iload_n 2, 1) := by decide +kernel
theorem dX3_holderOfLot_30 : decode cX3_holderOfLot 30 = .ok (.aaload, 1) := by decide +kernel
theorem dX3_holderOfLot_31 : decode cX3_holderOfLot 31 = .ok (.getfield 116, 3) := by decide +kernel
theorem dX3_holderOfLot_34 : decode cX3_holderOfLot 34 = .ok (.goto 4, 3) := by decide +kernel
theorem dX3_holderOfLot_37 : decode cX3_holderOfLot 37 = .ok (.iconst 0, 1) := by decide +kernel
theorem dX3_holderOfLot_38 : decode cX3_holderOfLot 38 = .ok (.iadd, 1) := by decide +kernel
theorem dX3_holderOfLot_39 : decode cX3_holderOfLot 39 = .ok (.istore_n 1, 1) := by decide +kernel
theorem dX3_holderOfLot_40 : decode cX3_holderOfLot 40 = .ok (.iinc 2 1, 3) := by decide +kernel
theorem dX3_holderOfLot_43 : decode cX3_holderOfLot 43 = .ok (.goto (-39), 3) := by decide +kernel
theorem dX3_holderOfLot_46 : decode cX3_holderOfLot 46 = .ok (.iload_n 1, 1) := by decide +kernel
theorem dX3_holderOfLot_47 : decode cX3_holderOfLot 47 = .ok (.ifCond .le 12, 3) := by decide +kernel
theorem dX3_holderOfLot_50 : decode cX3_holderOfLot 50 = .ok (.aload_n 0, 1) := by decide +kernel
theorem dX3_holderOfLot_51 : decode cX3_holderOfLot 51 = .ok (.getfield 50, 3) := by decide +kernel
theorem dX3_holderOfLot_54 : decode cX3_holderOfLot 54 = .ok (.iload_n 1, 1) := by decide +kernel
theorem dX3_holderOfLot_55 : decode cX3_holderOfLot 55 = .ok (.irem, 1) := by decide +kernel
theorem dX3_holderOfLot_56 : decode cX3_holderOfLot 56 = .ok (.goto 4, 3) := by decide +kernel
theorem dX3_holderOfLot_59 : decode cX3_holderOfLot 59 = .ok (.iconst 0, 1) := by decide +kernel
theorem dX3_holderOfLot_60 : decode cX3_holderOfLot 60 = .ok (.istore_n 2, 1) := by decide +kernel
theorem dX3_holderOfLot_61 : decode cX3_holderOfLot 61 = .ok (.iconst 0, 1) := by decide +kernel
theorem dX3_holderOfLot_62 : decode cX3_holderOfLot 62 = .ok (.istore_n 3, 1) := by decide +kernel
theorem dX3_holderOfLot_63 : decode cX3_holderOfLot 63 = .ok (.iload_n 3, 1) := by decide +kernel
theorem dX3_holderOfLot_64 : decode cX3_holderOfLot 64 = .ok (.aload_n 0, 1) := by decide +kernel
theorem dX3_holderOfLot_65 : decode cX3_holderOfLot 65 = .ok (.getfield 40, 3) := by decide +kernel
theorem dX3_holderOfLot_68 : decode cX3_holderOfLot 68 = .ok (.if_icmp .ge 48, 3) := by decide +kernel
theorem dX3_holderOfLot_71 : decode cX3_holderOfLot 71 = .ok (.aload_n 0, 1) := by decide +kernel
theorem dX3_holderOfLot_72 : decode cX3_holderOfLot 72 = .ok (.getfield 13, 3) := by decide +kernel
theorem dX3_holderOfLot_75 : decode cX3_holderOfLot 75 = .ok (.iload_n 3, 1) := by decide +kernel
theorem dX3_holderOfLot_76 : decode cX3_holderOfLot 76 = .ok (.aaload, 1) := by decide +kernel
theorem dX3_holderOfLot_77 : decode cX3_holderOfLot 77 = .ok (.invokevirtual 249, 3) := by decide +kernel
theorem dX3_holderOfLot_80 : decode cX3_holderOfLot 80 = .ok (.ifCond .eq 30, 3) := by decide +kernel
theorem dX3_holderOfLot_83 : decode cX3_holderOfLot 83 = .ok (.iload_n 2, 1) := by decide +kernel
theorem dX3_holderOfLot_84 : decode cX3_holderOfLot 84 = .ok (.aload_n 0, 1) := by decide +kernel
theorem dX3_holderOfLot_85 : decode cX3_holderOfLot 85 = .ok (.getfield 13, 3) := by decide +kernel
theorem dX3_holderOfLot_88 : decode cX3_holderOfLot 88 = .ok (.iload_n 3, 1) := by decide +kernel
theorem dX3_holderOfLot_89 : decode cX3_holderOfLot 89 = .ok (.aaload, 1) := by decide +kernel
theorem dX3_holderOfLot_90 : decode cX3_holderOfLot 90 = .ok (.getfield 116, 3) := by decide +kernel
theorem dX3_holderOfLot_93 : decode cX3_holderOfLot 93 = .ok (.if_icmp .ge 5, 3) := by decide +kernel
theorem dX3_holderOfLot_96 : decode cX3_holderOfLot 96 = .ok (.iload_n 3, 1) := by decide +kernel
theorem dX3_holderOfLot_97 : decode cX3_holderOfLot 97 = .ok (.ireturn, 1) := by decide +kernel
theorem dX3_holderOfLot_98 : decode cX3_holderOfLot 98 = .ok (.iload_n 2, 1) := by decide +kernel
theorem dX3_holderOfLot_99 : decode cX3_holderOfLot 99 = .ok (.aload_n 0, 1) := by decide +kernel
theorem dX3_holderOfLot_100 : decode cX3_holderOfLot 100 = .ok (.getfield 13, 3) := by decide +kernel
theorem dX3_holderOfLot_103 : decode cX3_holderOfLot 103 = .ok (.iload_n 3, 1) := by decide +kernel
theorem dX3_holderOfLot_104 : decode cX3_holderOfLot 104 = .ok (.aaload, 1) := by decide +kernel
theorem dX3_holderOfLot_105 : decode cX3_holderOfLot 105 = .ok (.getfield 116, 3) := by decide +kernel
theorem dX3_holderOfLot_108 : decode cX3_holderOfLot 108 = .ok (.isub, 1) := by decide +kernel
theorem dX3_holderOfLot_109 : decode cX3_holderOfLot 109 = .ok (.istore_n 2, 1) := by decide +kernel
theorem dX3_holderOfLot_110 : decode cX3_holderOfLot 110 = .ok (.iinc 3 1, 3) := by decide +kernel
theorem dX3_holderOfLot_113 : decode cX3_holderOfLot 113 = .ok (.goto (-50), 3) := by decide +kernel
theorem dX3_holderOfLot_116 : decode cX3_holderOfLot 116 = .ok (.iconst (-1), 1) := by decide +kernel
theorem dX3_holderOfLot_117 : decode cX3_holderOfLot 117 = .ok (.ireturn, 1) := by decide +kernel
theorem dX3_shareOut_0 : decode cX3_shareOut 0 = .ok (.iconst 0, 1) := by decide +kernel
theorem dX3_shareOut_1 : decode cX3_shareOut 1 = .ok (.istore_n 2, 1) := by decide +kernel
theorem dX3_shareOut_2 : decode cX3_shareOut 2 = .ok (.iconst 0, 1) := by decide +kernel
theorem dX3_shareOut_3 : decode cX3_shareOut 3 = .ok (.istore_n 3, 1) := by decide +kernel
theorem dX3_shareOut_4 : decode cX3_shareOut 4 = .ok (.iload_n 3, 1) := by decide +kernel
theorem dX3_shareOut_5 : decode cX3_shareOut 5 = .ok (.aload_n 0, 1) := by decide +kernel
theorem dX3_shareOut_6 : decode cX3_shareOut 6 = .ok (.getfield 40, 3) := by decide +kernel
theorem dX3_shareOut_9 : decode cX3_shareOut 9 = .ok (.if_icmp .ge 37, 3) := by decide +kernel
theorem dX3_shareOut_12 : decode cX3_shareOut 12 = .ok (.iload_n 2, 1) := by decide +kernel
theorem dX3_shareOut_13 : decode cX3_shareOut 13 = .ok (.aload_n 0, 1) := by decide +kernel
theorem dX3_shareOut_14 : decode cX3_shareOut 14 = .ok (.getfield 13, 3) := by decide +kernel
theorem dX3_shareOut_17 : decode cX3_shareOut 17 = .ok (.iload_n 3, 1) := by decide +kernel
theorem dX3_shareOut_18 : decode cX3_shareOut 18 = .ok (.aaload, 1) := by decide +kernel
theorem dX3_shareOut_19 : decode cX3_shareOut 19 = .ok (.getfield 112, 3) := by decide +kernel
theorem dX3_shareOut_22 : decode cX3_shareOut 22 = .ok (.ifCond .eq 15, 3) := by decide +kernel
theorem dX3_shareOut_25 : decode cX3_shareOut 25 = .ok (.aload_n 0, 1) := by decide +kernel
theorem dX3_shareOut_26 : decode cX3_shareOut 26 = .ok (.getfield 13, 3) := by decide +kernel
theorem dX3_shareOut_29 : decode cX3_shareOut 29 = .ok (.iload_n 3, 1) := by decide +kernel
theorem dX3_shareOut_30 : decode cX3_shareOut 30 = .ok (.aaload, 1) := by decide +kernel
theorem dX3_shareOut_31 : decode cX3_shareOut 31 = .ok (.getfield 116, 3) := by decide +kernel
theorem dX3_shareOut_34 : decode cX3_shareOut 34 = .ok (.goto 4, 3) := by decide +kernel
theorem dX3_shareOut_37 : decode cX3_shareOut 37 = .ok (.iconst 0, 1) := by decide +kernel
theorem dX3_shareOut_38 : decode cX3_shareOut 38 = .ok (.iadd, 1) := by decide +kernel
theorem dX3_shareOut_39 : decode cX3_shareOut 39 = .ok (.istore_n 2, 1) := by decide +kernel
theorem dX3_shareOut_40 : decode cX3_shareOut 40 = .ok (.iinc 3 1, 3) := by decide +kernel
theorem dX3_shareOut_43 : decode cX3_shareOut 43 = .ok (.goto (-39), 3) := by decide +kernel
theorem dX3_shareOut_46 : decode cX3_shareOut 46 = .ok (.iload_n 1, 1) := by decide +kernel
theorem dX3_shareOut_47 : decode cX3_shareOut 47 = .ok (.istore_n 3, 1) := by decide +kernel
theorem dX3_shareOut_48 : decode cX3_shareOut 48 = .ok (.iconst 0, 1) := by decide +kernel
theorem dX3_shareOut_49 : decode cX3_shareOut 49 = .ok (.istore 4, 2) := by decide +kernel
theorem dX3_shareOut_51 : decode cX3_shareOut 51 = .ok (.iload 4, 2) := by decide +kernel
theorem dX3_shareOut_53 : decode cX3_shareOut 53 = .ok (.aload_n 0, 1) := by decide +kernel
theorem dX3_shareOut_54 : decode cX3_shareOut 54 = .ok (.getfield 40, 3) := by decide +kernel
theorem dX3_shareOut_57 : decode cX3_shareOut 57 = .ok (.if_icmp .ge 64, 3) := by decide +kernel
theorem dX3_shareOut_60 : decode cX3_shareOut 60 = .ok (.iload_n 2, 1) := by decide +kernel
theorem dX3_shareOut_61 : decode cX3_shareOut 61 = .ok (.ifCond .le 60, 3) := by decide +kernel
theorem dX3_shareOut_64 : decode cX3_shareOut 64 = .ok (.aload_n 0, 1) := by decide +kernel
theorem dX3_shareOut_65 : decode cX3_shareOut 65 = .ok (.getfield 13, 3) := by decide +kernel
theorem dX3_shareOut_68 : decode cX3_shareOut 68 = .ok (.iload 4, 2) := by decide +kernel
theorem dX3_shareOut_70 : decode cX3_shareOut 70 = .ok (.aaload, 1) := by decide +kernel
theorem dX3_shareOut_71 : decode cX3_shareOut 71 = .ok (.getfield 112, 3) := by decide +kernel
theorem dX3_shareOut_74 : decode cX3_shareOut 74 = .ok (.ifCond .eq 41, 3) := by decide +kernel
theorem dX3_shareOut_77 : decode cX3_shareOut 77 = .ok (.iload_n 1, 1) := by decide +kernel
theorem dX3_shareOut_78 : decode cX3_shareOut 78 = .ok (.aload_n 0, 1) := by decide +kernel
theorem dX3_shareOut_79 : decode cX3_shareOut 79 = .ok (.getfield 13, 3) := by decide +kernel
theorem dX3_shareOut_82 : decode cX3_shareOut 82 = .ok (.iload 4, 2) := by decide +kernel
theorem dX3_shareOut_84 : decode cX3_shareOut 84 = .ok (.aaload, 1) := by decide +kernel
theorem dX3_shareOut_85 : decode cX3_shareOut 85 = .ok (.getfield 116, 3) := by decide +kernel
theorem dX3_shareOut_88 : decode cX3_shareOut 88 = .ok (.imul, 1) := by decide +kernel
theorem dX3_shareOut_89 : decode cX3_shareOut 89 = .ok (.iload_n 2, 1) := by decide +kernel
theorem dX3_shareOut_90 : decode cX3_shareOut 90 = .ok (.idiv, 1) := by decide +kernel
theorem dX3_shareOut_91 : decode cX3_shareOut 91 = .ok (.istore 5, 2) := by decide +kernel
theorem dX3_shareOut_93 : decode cX3_shareOut 93 = .ok (.aload_n 0, 1) := by decide +kernel
theorem dX3_shareOut_94 : decode cX3_shareOut 94 = .ok (.getfield 13, 3) := by decide +kernel
theorem dX3_shareOut_97 : decode cX3_shareOut 97 = .ok (.iload 4, 2) := by decide +kernel
theorem dX3_shareOut_99 : decode cX3_shareOut 99 = .ok (.aaload, 1) := by decide +kernel
theorem dX3_shareOut_100 : decode cX3_shareOut 100 = .ok (.dup, 1) := by decide +kernel
theorem dX3_shareOut_101 : decode cX3_shareOut 101 = .ok (.getfield 142, 3) := by decide +kernel
theorem dX3_shareOut_104 : decode cX3_shareOut 104 = .ok (.iload 5, 2) := by decide +kernel
theorem dX3_shareOut_106 : decode cX3_shareOut 106 = .ok (.iadd, 1) := by decide +kernel
theorem dX3_shareOut_107 : decode cX3_shareOut 107 = .ok (.putfield 142, 3) := by decide +kernel
theorem dX3_shareOut_110 : decode cX3_shareOut 110 = .ok (.iload_n 3, 1) := by decide +kernel
theorem dX3_shareOut_111 : decode cX3_shareOut 111 = .ok (.iload 5, 2) := by decide +kernel
theorem dX3_shareOut_113 : decode cX3_shareOut 113 = .ok (.isub, 1) := by decide +kernel
theorem dX3_shareOut_114 : decode cX3_shareOut 114 = .ok (.istore_n 3, 1) := by decide +kernel
theorem dX3_shareOut_115 : decode cX3_shareOut 115 = .ok (.iinc 4 1, 3) := by decide +kernel
theorem dX3_shareOut_118 : decode cX3_shareOut 118 = .ok (.goto (-67), 3) := by decide +kernel
theorem dX3_shareOut_121 : decode cX3_shareOut 121 = .ok (.aload_n 0, 1) := by decide +kernel
theorem dX3_shareOut_122 : decode cX3_shareOut 122 = .ok (.dup, 1) := by decide +kernel
theorem dX3_shareOut_123 : decode cX3_shareOut 123 = .ok (.getfield 56, 3) := by decide +kernel
theorem dX3_shareOut_126 : decode cX3_shareOut 126 = .ok (.iload_n 3, 1) := by decide +kernel
theorem dX3_shareOut_127 : decode cX3_shareOut 127 = .ok (.i2l, 1) := by decide +kernel
theorem dX3_shareOut_128 : decode cX3_shareOut 128 = .ok (.ladd, 1) := by decide +kernel
theorem dX3_shareOut_129 : decode cX3_shareOut 129 = .ok (.putfield 56, 3) := by decide +kernel
theorem dX3_shareOut_132 : decode cX3_shareOut 132 = .ok (.return_, 1) := by decide +kernel
theorem dX3_fillLacks_0 : decode cX3_fillLacks 0 = .ok (.iconst 0, 1) := by decide +kernel
theorem dX3_fillLacks_1 : decode cX3_fillLacks 1 = .ok (.istore_n 1, 1) := by decide +kernel
theorem dX3_fillLacks_2 : decode cX3_fillLacks 2 = .ok (.iload_n 1, 1) := by decide +kernel
theorem dX3_fillLacks_3 : decode cX3_fillLacks 3 = .ok (.aload_n 0, 1) := by decide +kernel
theorem dX3_fillLacks_4 : decode cX3_fillLacks 4 = .ok (.getfield 40, 3) := by decide +kernel
theorem dX3_fillLacks_7 : decode cX3_fillLacks 7 = .ok (.if_icmp .ge 35, 3) := by decide +kernel
theorem dX3_fillLacks_10 : decode cX3_fillLacks 10 = .ok (.aload_n 0, 1) := by decide +kernel
theorem dX3_fillLacks_11 : decode cX3_fillLacks 11 = .ok (.dup, 1) := by decide +kernel
theorem dX3_fillLacks_12 : decode cX3_fillLacks 12 = .ok (.getfield 56, 3) := by decide +kernel
theorem dX3_fillLacks_15 : decode cX3_fillLacks 15 = .ok (.aload_n 0, 1) := by decide +kernel
theorem dX3_fillLacks_16 : decode cX3_fillLacks 16 = .ok (.getfield 13, 3) := by decide +kernel
theorem dX3_fillLacks_19 : decode cX3_fillLacks 19 = .ok (.iload_n 1, 1) := by decide +kernel
theorem dX3_fillLacks_20 : decode cX3_fillLacks 20 = .ok (.aaload, 1) := by decide +kernel
theorem dX3_fillLacks_21 : decode cX3_fillLacks 21 = .ok (.getfield 123, 3) := by decide +kernel
theorem dX3_fillLacks_24 : decode cX3_fillLacks 24 = .ok (.aload_n 0, 1) := by decide +kernel
theorem dX3_fillLacks_25 : decode cX3_fillLacks 25 = .ok (.getfield 56, 3) := by decide +kernel
theorem dX3_fillLacks_28 : decode cX3_fillLacks 28 = .ok (.invokevirtual 223, 3) := by decide +kernel
theorem dX3_fillLacks_31 : decode cX3_fillLacks 31 = .ok (.i2l, 1) := by decide +kernel
theorem dX3_fillLacks_32 : decode cX3_fillLacks 32 = .ok (.lsub, 1) := by decide +kernel
theorem dX3_fillLacks_33 : decode cX3_fillLacks 33 = .ok (.putfield 56, 3) := by decide +kernel
theorem dX3_fillLacks_36 : decode cX3_fillLacks 36 = .ok (.iinc 1 1, 3) := by decide +kernel
theorem dX3_fillLacks_39 : decode cX3_fillLacks 39 = .ok (.goto (-37), 3) := by decide +kernel
theorem dX3_fillLacks_42 : decode cX3_fillLacks 42 = .ok (.return_, 1) := by decide +kernel
theorem dX4_init_0 : decode cX4_init 0 = .ok (.aload_n 0, 1) := by decide +kernel
theorem dX4_init_1 : decode cX4_init 1 = .ok (.invokespecial 3, 3) := by decide +kernel
theorem dX4_init_4 : decode cX4_init 4 = .ok (.aload_n 0, 1) := by decide +kernel
theorem dX4_init_5 : decode cX4_init 5 = .ok (.new 9, 3) := by decide +kernel
theorem dX4_init_8 : decode cX4_init 8 = .ok (.dup, 1) := by decide +kernel
theorem dX4_init_9 : decode cX4_init 9 = .ok (.invokespecial 11, 3) := by decide +kernel
theorem dX4_init_12 : decode cX4_init 12 = .ok (.putfield 12, 3) := by decide +kernel
theorem dX4_init_15 : decode cX4_init 15 = .ok (.return_, 1) := by decide +kernel
theorem dX4_join_0 : decode cX4_join 0 = .ok (.aload_n 0, 1) := by decide +kernel
theorem dX4_join_1 : decode cX4_join 1 = .ok (.getfield 12, 3) := by decide +kernel
theorem dX4_join_4 : decode cX4_join 4 = .ok (.invokevirtual 18, 3) := by decide +kernel
theorem dX4_join_7 : decode cX4_join 7 = .ok (.aload_n 0, 1) := by decide +kernel
theorem dX4_join_8 : decode cX4_join 8 = .ok (.iload_n 1, 1) := by decide +kernel
theorem dX4_join_9 : decode cX4_join 9 = .ok (.putfield 21, 3) := by decide +kernel
theorem dX4_join_12 : decode cX4_join 12 = .ok (.aload_n 0, 1) := by decide +kernel
theorem dX4_join_13 : decode cX4_join 13 = .ok (.iconst 1, 1) := by decide +kernel
theorem dX4_join_14 : decode cX4_join 14 = .ok (.putfield 25, 3) := by decide +kernel
theorem dX4_join_17 : decode cX4_join 17 = .ok (.aload_n 0, 1) := by decide +kernel
theorem dX4_join_18 : decode cX4_join 18 = .ok (.iconst 0, 1) := by decide +kernel
theorem dX4_join_19 : decode cX4_join 19 = .ok (.putfield 29, 3) := by decide +kernel
theorem dX4_join_22 : decode cX4_join 22 = .ok (.aload_n 0, 1) := by decide +kernel
theorem dX4_join_23 : decode cX4_join 23 = .ok (.iconst 0, 1) := by decide +kernel
theorem dX4_join_24 : decode cX4_join 24 = .ok (.putfield 32, 3) := by decide +kernel
theorem dX4_join_27 : decode cX4_join 27 = .ok (.aload_n 0, 1) := by decide +kernel
theorem dX4_join_28 : decode cX4_join 28 = .ok (.iconst 0, 1) := by decide +kernel
theorem dX4_join_29 : decode cX4_join 29 = .ok (.putfield 35, 3) := by decide +kernel
theorem dX4_join_32 : decode cX4_join 32 = .ok (.aload_n 0, 1) := by decide +kernel
theorem dX4_join_33 : decode cX4_join 33 = .ok (.iconst 0, 1) := by decide +kernel
theorem dX4_join_34 : decode cX4_join 34 = .ok (.putfield 38, 3) := by decide +kernel
theorem dX4_join_37 : decode cX4_join 37 = .ok (.aload_n 0, 1) := by decide +kernel
theorem dX4_join_38 : decode cX4_join 38 = .ok (.iconst 0, 1) := by decide +kernel
theorem dX4_join_39 : decode cX4_join 39 = .ok (.putfield 41, 3) := by decide +kernel
theorem dX4_join_42 : decode cX4_join 42 = .ok (.aload_n 0, 1) := by decide +kernel
theorem dX4_join_43 : decode cX4_join 43 = .ok (.iconst 0, 1) := by decide +kernel
theorem dX4_join_44 : decode cX4_join 44 = .ok (.putfield 44, 3) := by decide +kernel
theorem dX4_join_47 : decode cX4_join 47 = .ok (.aload_n 0, 1) := by decide +kernel
theorem dX4_join_48 : decode cX4_join 48 = .ok (.iconst 0, 1) := by decide +kernel
theorem dX4_join_49 : decode cX4_join 49 = .ok (.putfield 47, 3) := by decide +kernel
theorem dX4_join_52 : decode cX4_join 52 = .ok (.return_, 1) := by decide +kernel
theorem dX4_copyFrom_0 : decode cX4_copyFrom 0 = .ok (.aload_n 0, 1) := by decide +kernel
theorem dX4_copyFrom_1 : decode cX4_copyFrom 1 = .ok (.getfield 12, 3) := by decide +kernel
theorem dX4_copyFrom_4 : decode cX4_copyFrom 4 = .ok (.aload_n 1, 1) := by decide +kernel
theorem dX4_copyFrom_5 : decode cX4_copyFrom 5 = .ok (.getfield 12, 3) := by decide +kernel
theorem dX4_copyFrom_8 : decode cX4_copyFrom 8 = .ok (.invokevirtual 50, 3) := by decide +kernel
theorem dX4_copyFrom_11 : decode cX4_copyFrom 11 = .ok (.aload_n 0, 1) := by decide +kernel
theorem dX4_copyFrom_12 : decode cX4_copyFrom 12 = .ok (.aload_n 1, 1) := by decide +kernel
theorem dX4_copyFrom_13 : decode cX4_copyFrom 13 = .ok (.getfield 21, 3) := by decide +kernel
theorem dX4_copyFrom_16 : decode cX4_copyFrom 16 = .ok (.putfield 21, 3) := by decide +kernel
theorem dX4_copyFrom_19 : decode cX4_copyFrom 19 = .ok (.aload_n 0, 1) := by decide +kernel
theorem dX4_copyFrom_20 : decode cX4_copyFrom 20 = .ok (.aload_n 1, 1) := by decide +kernel
theorem dX4_copyFrom_21 : decode cX4_copyFrom 21 = .ok (.getfield 25, 3) := by decide +kernel
theorem dX4_copyFrom_24 : decode cX4_copyFrom 24 = .ok (.putfield 25, 3) := by decide +kernel
theorem dX4_copyFrom_27 : decode cX4_copyFrom 27 = .ok (.aload_n 0, 1) := by decide +kernel
theorem dX4_copyFrom_28 : decode cX4_copyFrom 28 = .ok (.aload_n 1, 1) := by decide +kernel
theorem dX4_copyFrom_29 : decode cX4_copyFrom 29 = .ok (.getfield 29, 3) := by decide +kernel
theorem dX4_copyFrom_32 : decode cX4_copyFrom 32 = .ok (.putfield 29, 3) := by decide +kernel
theorem dX4_copyFrom_35 : decode cX4_copyFrom 35 = .ok (.aload_n 0, 1) := by decide +kernel
theorem dX4_copyFrom_36 : decode cX4_copyFrom 36 = .ok (.aload_n 1, 1) := by decide +kernel
theorem dX4_copyFrom_37 : decode cX4_copyFrom 37 = .ok (.getfield 32, 3) := by decide +kernel
theorem dX4_copyFrom_40 : decode cX4_copyFrom 40 = .ok (.putfield 32, 3) := by decide +kernel
theorem dX4_copyFrom_43 : decode cX4_copyFrom 43 = .ok (.aload_n 0, 1) := by decide +kernel
theorem dX4_copyFrom_44 : decode cX4_copyFrom 44 = .ok (.aload_n 1, 1) := by decide +kernel
theorem dX4_copyFrom_45 : decode cX4_copyFrom 45 = .ok (.getfield 35, 3) := by decide +kernel
theorem dX4_copyFrom_48 : decode cX4_copyFrom 48 = .ok (.putfield 35, 3) := by decide +kernel
theorem dX4_copyFrom_51 : decode cX4_copyFrom 51 = .ok (.aload_n 0, 1) := by decide +kernel
theorem dX4_copyFrom_52 : decode cX4_copyFrom 52 = .ok (.aload_n 1, 1) := by decide +kernel
theorem dX4_copyFrom_53 : decode cX4_copyFrom 53 = .ok (.getfield 38, 3) := by decide +kernel
theorem dX4_copyFrom_56 : decode cX4_copyFrom 56 = .ok (.putfield 38, 3) := by decide +kernel
theorem dX4_copyFrom_59 : decode cX4_copyFrom 59 = .ok (.aload_n 0, 1) := by decide +kernel
theorem dX4_copyFrom_60 : decode cX4_copyFrom 60 = .ok (.aload_n 1, 1) := by decide +kernel
theorem dX4_copyFrom_61 : decode cX4_copyFrom 61 = .ok (.getfield 41, 3) := by decide +kernel
theorem dX4_copyFrom_64 : decode cX4_copyFrom 64 = .ok (.putfield 41, 3) := by decide +kernel
theorem dX4_copyFrom_67 : decode cX4_copyFrom 67 = .ok (.aload_n 0, 1) := by decide +kernel
theorem dX4_copyFrom_68 : decode cX4_copyFrom 68 = .ok (.aload_n 1, 1) := by decide +kernel
theorem dX4_copyFrom_69 : decode cX4_copyFrom 69 = .ok (.getfield 44, 3) := by decide +kernel
theorem dX4_copyFrom_72 : decode cX4_copyFrom 72 = .ok (.putfield 44, 3) := by decide +kernel
theorem dX4_copyFrom_75 : decode cX4_copyFrom 75 = .ok (.aload_n 0, 1) := by decide +kernel
theorem dX4_copyFrom_76 : decode cX4_copyFrom 76 = .ok (.aload_n 1, 1) := by decide +kernel
theorem dX4_copyFrom_77 : decode cX4_copyFrom 77 = .ok (.getfield 47, 3) := by decide +kernel
theorem dX4_copyFrom_80 : decode cX4_copyFrom 80 = .ok (.putfield 47, 3) := by decide +kernel
theorem dX4_copyFrom_83 : decode cX4_copyFrom 83 = .ok (.return_, 1) := by decide +kernel
theorem dX4_hasHouse_0 : decode cX4_hasHouse 0 = .ok (.aload_n 0, 1) := by decide +kernel
theorem dX4_hasHouse_1 : decode cX4_hasHouse 1 = .ok (.getfield 12, 3) := by decide +kernel
theorem dX4_hasHouse_4 : decode cX4_hasHouse 4 = .ok (.getfield 54, 3) := by decide +kernel
theorem dX4_hasHouse_7 : decode cX4_hasHouse 7 = .ok (.ifCond .le 7, 3) := by decide +kernel
theorem dX4_hasHouse_10 : decode cX4_hasHouse 10 = .ok (.iconst 1, 1) := by decide +kernel
theorem dX4_hasHouse_11 : decode cX4_hasHouse 11 = .ok (.goto 4, 3) := by decide +kernel
theorem dX4_hasHouse_14 : decode cX4_hasHouse 14 = .ok (.iconst 0, 1) := by decide +kernel
theorem dX4_hasHouse_15 : decode cX4_hasHouse 15 = .ok (.ireturn, 1) := by decide +kernel
theorem dX4_mayDraw_0 : decode cX4_mayDraw 0 = .ok (.aload_n 0, 1) := by decide +kernel
theorem dX4_mayDraw_1 : decode cX4_mayDraw 1 = .ok (.getfield 25, 3) := by decide +kernel
theorem dX4_mayDraw_4 : decode cX4_mayDraw 4 = .ok (.ifCond .eq 24, 3) := by decide +kernel
theorem dX4_mayDraw_7 : decode cX4_mayDraw 7 = .ok (.aload_n 0, 1) := by decide +kernel
theorem dX4_mayDraw_8 : decode cX4_mayDraw 8 = .ok (.getfield 12, 3) := by decide +kernel
theorem dX4_mayDraw_11 : decode cX4_mayDraw 11 = .ok (.getfield 54, 3) := by decide +kernel
theorem dX4_mayDraw_14 : decode cX4_mayDraw 14 = .ok (.ifCond .ne 14, 3) := by decide +kernel
theorem dX4_mayDraw_17 : decode cX4_mayDraw 17 = .ok (.aload_n 0, 1) := by decide +kernel
theorem dX4_mayDraw_18 : decode cX4_mayDraw 18 = .ok (.getfield 32, 3) := by decide +kernel
theorem dX4_mayDraw_21 : decode cX4_mayDraw 21 = .ok (.ifCond .ne 7, 3) := by decide +kernel
theorem dX4_mayDraw_24 : decode cX4_mayDraw 24 = .ok (.iconst 1, 1) := by decide +kernel
theorem dX4_mayDraw_25 : decode cX4_mayDraw 25 = .ok (.goto 4, 3) := by decide +kernel
theorem dX4_mayDraw_28 : decode cX4_mayDraw 28 = .ok (.iconst 0, 1) := by decide +kernel
