theorem dX1_append_42 : decode cX1_append 42 = .ok (.getfield 24, 3) := by decide +kernel
theorem dX1_append_45 : decode cX1_append 45 = .ok (.aload_n 0, 1) := by decide +kernel
theorem dX1_append_46 : decode cX1_append 46 = .ok (.getfield 31, 3) := by decide +kernel
theorem dX1_append_49 : decode cX1_append 49 = .ok (.iload 5, 2) := by decide +kernel
theorem dX1_append_51 : decode cX1_append 51 = .ok (.iastore, 1) := by decide +kernel
theorem dX1_append_52 : decode cX1_append 52 = .ok (.aload_n 0, 1) := by decide +kernel
theorem dX1_append_53 : decode cX1_append 53 = .ok (.getfield 27, 3) := by decide +kernel
theorem dX1_append_56 : decode cX1_append 56 = .ok (.aload_n 0, 1) := by decide +kernel
theorem dX1_append_57 : decode cX1_append 57 = .ok (.getfield 31, 3) := by decide +kernel
theorem dX1_append_60 : decode cX1_append 60 = .ok (.iconst 1, 1) := by decide +kernel
theorem dX1_append_61 : decode cX1_append 61 = .ok (.bastore, 1) := by decide +kernel
theorem dX1_append_62 : decode cX1_append 62 = .ok (.aload_n 0, 1) := by decide +kernel
theorem dX1_append_63 : decode cX1_append 63 = .ok (.dup, 1) := by decide +kernel
theorem dX1_append_64 : decode cX1_append 64 = .ok (.getfield 31, 3) := by decide +kernel
theorem dX1_append_67 : decode cX1_append 67 = .ok (.iconst 1, 1) := by decide +kernel
theorem dX1_append_68 : decode cX1_append 68 = .ok (.iadd, 1) := by decide +kernel
theorem dX1_append_69 : decode cX1_append 69 = .ok (.putfield 31, 3) := by decide +kernel
theorem dX1_append_72 : decode cX1_append 72 = .ok (.return_, 1) := by decide +kernel
set_option maxRecDepth 20000 in
theorem ggX1_appendFrom_X1_append : GoodIn wsX1_appendFrom wsX1_append := goodIn_r _ [10, 1, 11, 2, 3, 4, 5, 12, 13, 14, 15, 16, 17, 18, 19] (by decide +kernel) (by decide +kernel)
set_option maxRecDepth 20000 in
theorem gX1_appendFrom_X1_append : GoodIn wsX1_appendFrom (wsV RX1 35 RX1 yX1_append wsX1_append) := goodIn_app (goodIn_of _ (by decide +kernel)) ggX1_appendFrom_X1_append
theorem dX1_appendFrom_0 : decode cX1_appendFrom 0 = .ok (.aload_n 0, 1) := by decide +kernel
theorem dX1_appendFrom_1 : decode cX1_appendFrom 1 = .ok (.aload_n 1, 1) := by decide +kernel
theorem dX1_appendFrom_2 : decode cX1_appendFrom 2 = .ok (.getfield 9, 3) := by decide +kernel
theorem dX1_appendFrom_5 : decode cX1_appendFrom 5 = .ok (.iload_n 2, 1) := by decide +kernel
theorem dX1_appendFrom_6 : decode cX1_appendFrom 6 = .ok (.iaload, 1) := by decide +kernel
theorem dX1_appendFrom_7 : decode cX1_appendFrom 7 = .ok (.aload_n 1, 1) := by decide +kernel
theorem dX1_appendFrom_8 : decode cX1_appendFrom 8 = .ok (.getfield 15, 3) := by decide +kernel
theorem dX1_appendFrom_11 : decode cX1_appendFrom 11 = .ok (.iload_n 2, 1) := by decide +kernel
theorem dX1_appendFrom_12 : decode cX1_appendFrom 12 = .ok (.iaload, 1) := by decide +kernel
theorem dX1_appendFrom_13 : decode cX1_appendFrom 13 = .ok (.aload_n 1, 1) := by decide +kernel
theorem dX1_appendFrom_14 : decode cX1_appendFrom 14 = .ok (.getfield 18, 3) := by decide +kernel
theorem dX1_appendFrom_17 : decode cX1_appendFrom 17 = .ok (.iload_n 2, 1) := by decide +kernel
theorem dX1_appendFrom_18 : decode cX1_appendFrom 18 = .ok (.iaload, 1) := by decide +kernel
theorem dX1_appendFrom_19 : decode cX1_appendFrom 19 = .ok (.aload_n 1, 1) := by decide +kernel
theorem dX1_appendFrom_20 : decode cX1_appendFrom 20 = .ok (.getfield 21, 3) := by decide +kernel
theorem dX1_appendFrom_23 : decode cX1_appendFrom 23 = .ok (.iload_n 2, 1) := by decide +kernel
theorem dX1_appendFrom_24 : decode cX1_appendFrom 24 = .ok (.iaload, 1) := by decide +kernel
theorem dX1_appendFrom_25 : decode cX1_appendFrom 25 = .ok (.aload_n 1, 1) := by decide +kernel
theorem dX1_appendFrom_26 : decode cX1_appendFrom 26 = .ok (.getfield 24, 3) := by decide +kernel
theorem dX1_appendFrom_29 : decode cX1_appendFrom 29 = .ok (.iload_n 2, 1) := by decide +kernel
theorem dX1_appendFrom_30 : decode cX1_appendFrom 30 = .ok (.iaload, 1) := by decide +kernel
theorem dX1_appendFrom_31 : decode cX1_appendFrom 31 = .ok (.invokevirtual 35, 3) := by decide +kernel
theorem dX1_appendFrom_34 : decode cX1_appendFrom 34 = .ok (.return_, 1) := by decide +kernel
set_option maxRecDepth 20000 in
theorem ggX1_appendAll_X1_appendFrom : GoodIn wsX1_appendAll wsX1_appendFrom := goodIn_r _ [6, 7, 8, 9, 10, 11, 12, 13, 14, 5, 15, 1, 16, 17, 18, 19, 20, 21, 22, 23] (by decide +kernel) (by decide +kernel)
set_option maxRecDepth 20000 in
theorem gX1_appendAll_X1_appendFrom : GoodIn wsX1_appendAll (wsV RX1 39 RX1 yX1_appendFrom wsX1_appendFrom) := goodIn_app (goodIn_of _ (by decide +kernel)) ggX1_appendAll_X1_appendFrom
theorem dX1_appendAll_0 : decode cX1_appendAll 0 = .ok (.iconst 0, 1) := by decide +kernel
theorem dX1_appendAll_1 : decode cX1_appendAll 1 = .ok (.istore_n 2, 1) := by decide +kernel
theorem dX1_appendAll_2 : decode cX1_appendAll 2 = .ok (.iload_n 2, 1) := by decide +kernel
theorem dX1_appendAll_3 : decode cX1_appendAll 3 = .ok (.aload_n 1, 1) := by decide +kernel
theorem dX1_appendAll_4 : decode cX1_appendAll 4 = .ok (.getfield 31, 3) := by decide +kernel
theorem dX1_appendAll_7 : decode cX1_appendAll 7 = .ok (.if_icmp .ge 15, 3) := by decide +kernel
theorem dX1_appendAll_10 : decode cX1_appendAll 10 = .ok (.aload_n 0, 1) := by decide +kernel
theorem dX1_appendAll_11 : decode cX1_appendAll 11 = .ok (.aload_n 1, 1) := by decide +kernel
theorem dX1_appendAll_12 : decode cX1_appendAll 12 = .ok (.iload_n 2, 1) := by decide +kernel
theorem dX1_appendAll_13 : decode cX1_appendAll 13 = .ok (.invokevirtual 39, 3) := by decide +kernel
theorem dX1_appendAll_16 : decode cX1_appendAll 16 = .ok (.iinc 2 1, 3) := by decide +kernel
theorem dX1_appendAll_19 : decode cX1_appendAll 19 = .ok (.goto (-17), 3) := by decide +kernel
theorem dX1_appendAll_22 : decode cX1_appendAll 22 = .ok (.return_, 1) := by decide +kernel
set_option maxRecDepth 20000 in
theorem ggX1_keepLiving_X1_appendFrom : GoodIn wsX1_keepLiving wsX1_appendFrom := goodIn_r _ [7, 8, 9, 10, 11, 12, 13, 14, 15, 6, 16, 1, 2, 17, 18, 19, 20, 21, 22, 23] (by decide +kernel) (by decide +kernel)
set_option maxRecDepth 20000 in
theorem gX1_keepLiving_X1_appendFrom : GoodIn wsX1_keepLiving (wsV RX1 39 RX1 yX1_appendFrom wsX1_appendFrom) := goodIn_app (goodIn_of _ (by decide +kernel)) ggX1_keepLiving_X1_appendFrom
theorem dX1_keepLiving_0 : decode cX1_keepLiving 0 = .ok (.aload_n 0, 1) := by decide +kernel
theorem dX1_keepLiving_1 : decode cX1_keepLiving 1 = .ok (.getfield 31, 3) := by decide +kernel
theorem dX1_keepLiving_4 : decode cX1_keepLiving 4 = .ok (.istore_n 1, 1) := by decide +kernel
theorem dX1_keepLiving_5 : decode cX1_keepLiving 5 = .ok (.aload_n 0, 1) := by decide +kernel
theorem dX1_keepLiving_6 : decode cX1_keepLiving 6 = .ok (.iconst 0, 1) := by decide +kernel
theorem dX1_keepLiving_7 : decode cX1_keepLiving 7 = .ok (.putfield 31, 3) := by decide +kernel
theorem dX1_keepLiving_10 : decode cX1_keepLiving 10 = .ok (.iconst 0, 1) := by decide +kernel
theorem dX1_keepLiving_11 : decode cX1_keepLiving 11 = .ok (.istore_n 2, 1) := by decide +kernel
theorem dX1_keepLiving_12 : decode cX1_keepLiving 12 = .ok (.iload_n 2, 1) := by decide +kernel
theorem dX1_keepLiving_13 : decode cX1_keepLiving 13 = .ok (.iload_n 1, 1) := by decide +kernel
theorem dX1_keepLiving_14 : decode cX1_keepLiving 14 = .ok (.if_icmp .ge 24, 3) := by decide +kernel
theorem dX1_keepLiving_17 : decode cX1_keepLiving 17 = .ok (.aload_n 0, 1) := by decide +kernel
theorem dX1_keepLiving_18 : decode cX1_keepLiving 18 = .ok (.getfield 27, 3) := by decide +kernel
theorem dX1_keepLiving_21 : decode cX1_keepLiving 21 = .ok (.iload_n 2, 1) := by decide +kernel
theorem dX1_keepLiving_22 : decode cX1_keepLiving 22 = .ok (.baload, 1) := by decide +kernel
theorem dX1_keepLiving_23 : decode cX1_keepLiving 23 = .ok (.ifCond .eq 9, 3) := by decide +kernel
theorem dX1_keepLiving_26 : decode cX1_keepLiving 26 = .ok (.aload_n 0, 1) := by decide +kernel
theorem dX1_keepLiving_27 : decode cX1_keepLiving 27 = .ok (.aload_n 0, 1) := by decide +kernel
theorem dX1_keepLiving_28 : decode cX1_keepLiving 28 = .ok (.iload_n 2, 1) := by decide +kernel
theorem dX1_keepLiving_29 : decode cX1_keepLiving 29 = .ok (.invokevirtual 39, 3) := by decide +kernel
theorem dX1_keepLiving_32 : decode cX1_keepLiving 32 = .ok (.iinc 2 1, 3) := by decide +kernel
theorem dX1_keepLiving_35 : decode cX1_keepLiving 35 = .ok (.goto (-23), 3) := by decide +kernel
theorem dX1_keepLiving_38 : decode cX1_keepLiving 38 = .ok (.return_, 1) := by decide +kernel
set_option maxRecDepth 20000 in
theorem ggX1_livingRoot_X1_isRoot : GoodIn wsX1_livingRoot wsX1_isRoot := goodIn_r _ [8, 9, 10, 11, 12, 13, 14, 15, 16] (by decide +kernel) (by decide +kernel)
set_option maxRecDepth 20000 in
theorem gX1_livingRoot_X1_isRoot : GoodIn wsX1_livingRoot (wsV RX1 43 RX1 yX1_isRoot wsX1_isRoot) := goodIn_app (goodIn_of _ (by decide +kernel)) ggX1_livingRoot_X1_isRoot
theorem dX1_livingRoot_0 : decode cX1_livingRoot 0 = .ok (.iconst 0, 1) := by decide +kernel
theorem dX1_livingRoot_1 : decode cX1_livingRoot 1 = .ok (.istore_n 2, 1) := by decide +kernel
theorem dX1_livingRoot_2 : decode cX1_livingRoot 2 = .ok (.iload_n 2, 1) := by decide +kernel
theorem dX1_livingRoot_3 : decode cX1_livingRoot 3 = .ok (.aload_n 0, 1) := by decide +kernel
theorem dX1_livingRoot_4 : decode cX1_livingRoot 4 = .ok (.getfield 31, 3) := by decide +kernel
theorem dX1_livingRoot_7 : decode cX1_livingRoot 7 = .ok (.if_icmp .ge 38, 3) := by decide +kernel
theorem dX1_livingRoot_10 : decode cX1_livingRoot 10 = .ok (.aload_n 0, 1) := by decide +kernel
theorem dX1_livingRoot_11 : decode cX1_livingRoot 11 = .ok (.getfield 27, 3) := by decide +kernel
theorem dX1_livingRoot_14 : decode cX1_livingRoot 14 = .ok (.iload_n 2, 1) := by decide +kernel
theorem dX1_livingRoot_15 : decode cX1_livingRoot 15 = .ok (.baload, 1) := by decide +kernel
theorem dX1_livingRoot_16 : decode cX1_livingRoot 16 = .ok (.ifCond .eq 23, 3) := by decide +kernel
theorem dX1_livingRoot_19 : decode cX1_livingRoot 19 = .ok (.aload_n 0, 1) := by decide +kernel
theorem dX1_livingRoot_20 : decode cX1_livingRoot 20 = .ok (.iload_n 2, 1) := by decide +kernel
theorem dX1_livingRoot_21 : decode cX1_livingRoot 21 = .ok (.invokevirtual 43, 3) := by decide +kernel
theorem dX1_livingRoot_24 : decode cX1_livingRoot 24 = .ok (.ifCond .eq 15, 3) := by decide +kernel
theorem dX1_livingRoot_27 : decode cX1_livingRoot 27 = .ok (.aload_n 0, 1) := by decide +kernel
theorem dX1_livingRoot_28 : decode cX1_livingRoot 28 = .ok (.getfield 24, 3) := by decide +kernel
theorem dX1_livingRoot_31 : decode cX1_livingRoot 31 = .ok (.iload_n 2, 1) := by decide +kernel
theorem dX1_livingRoot_32 : decode cX1_livingRoot 32 = .ok (.iaload, 1) := by decide +kernel
theorem dX1_livingRoot_33 : decode cX1_livingRoot 33 = .ok (.iload_n 1, 1) := by decide +kernel
theorem dX1_livingRoot_34 : decode cX1_livingRoot 34 = .ok (.if_icmp .ne 5, 3) := by decide +kernel
theorem dX1_livingRoot_37 : decode cX1_livingRoot 37 = .ok (.iload_n 2, 1) := by decide +kernel
theorem dX1_livingRoot_38 : decode cX1_livingRoot 38 = .ok (.ireturn, 1) := by decide +kernel
theorem dX1_livingRoot_39 : decode cX1_livingRoot 39 = .ok (.iinc 2 1, 3) := by decide +kernel
theorem dX1_livingRoot_42 : decode cX1_livingRoot 42 = .ok (.goto (-40), 3) := by decide +kernel
theorem dX1_livingRoot_45 : decode cX1_livingRoot 45 = .ok (.iconst (-1), 1) := by decide +kernel
theorem dX1_livingRoot_46 : decode cX1_livingRoot 46 = .ok (.ireturn, 1) := by decide +kernel
set_option maxRecDepth 20000 in
theorem ggX1_killBlock_X1_firstBelow : GoodIn wsX1_killBlock wsX1_firstBelow := goodIn_r _ [6, 7, 8, 9, 10, 11, 12, 13, 14] (by decide +kernel) (by decide +kernel)
set_option maxRecDepth 20000 in
theorem gX1_killBlock_X1_firstBelow : GoodIn wsX1_killBlock (wsV RX1 47 RX1 yX1_firstBelow wsX1_firstBelow) := goodIn_app (goodIn_of _ (by decide +kernel)) ggX1_killBlock_X1_firstBelow
theorem dX1_killBlock_0 : decode cX1_killBlock 0 = .ok (.aload_n 0, 1) := by decide +kernel
theorem dX1_killBlock_1 : decode cX1_killBlock 1 = .ok (.iload_n 1, 1) := by decide +kernel
theorem dX1_killBlock_2 : decode cX1_killBlock 2 = .ok (.invokevirtual 47, 3) := by decide +kernel
theorem dX1_killBlock_5 : decode cX1_killBlock 5 = .ok (.istore_n 2, 1) := by decide +kernel
theorem dX1_killBlock_6 : decode cX1_killBlock 6 = .ok (.iload_n 2, 1) := by decide +kernel
theorem dX1_killBlock_7 : decode cX1_killBlock 7 = .ok (.istore_n 3, 1) := by decide +kernel
theorem dX1_killBlock_8 : decode cX1_killBlock 8 = .ok (.iload_n 3, 1) := by decide +kernel
theorem dX1_killBlock_9 : decode cX1_killBlock 9 = .ok (.iload_n 1, 1) := by decide +kernel
theorem dX1_killBlock_10 : decode cX1_killBlock 10 = .ok (.if_icmp .gt 16, 3) := by decide +kernel
theorem dX1_killBlock_13 : decode cX1_killBlock 13 = .ok (.aload_n 0, 1) := by decide +kernel
theorem dX1_killBlock_14 : decode cX1_killBlock 14 = .ok (.getfield 27, 3) := by decide +kernel
theorem dX1_killBlock_17 : decode cX1_killBlock 17 = .ok (.iload_n 3, 1) := by decide +kernel
theorem dX1_killBlock_18 : decode cX1_killBlock 18 = .ok (.iconst 0, 1) := by decide +kernel
theorem dX1_killBlock_19 : decode cX1_killBlock 19 = .ok (.bastore, 1) := by decide +kernel
theorem dX1_killBlock_20 : decode cX1_killBlock 20 = .ok (.iinc 3 1, 3) := by decide +kernel
theorem dX1_killBlock_23 : decode cX1_killBlock 23 = .ok (.goto (-15), 3) := by decide +kernel
theorem dX1_killBlock_26 : decode cX1_killBlock 26 = .ok (.iload_n 1, 1) := by decide +kernel
theorem dX1_killBlock_27 : decode cX1_killBlock 27 = .ok (.iload_n 2, 1) := by decide +kernel
theorem dX1_killBlock_28 : decode cX1_killBlock 28 = .ok (.isub, 1) := by decide +kernel
theorem dX1_killBlock_29 : decode cX1_killBlock 29 = .ok (.iconst 1, 1) := by decide +kernel
theorem dX1_killBlock_30 : decode cX1_killBlock 30 = .ok (.iadd, 1) := by decide +kernel
theorem dX1_killBlock_31 : decode cX1_killBlock 31 = .ok (.ireturn, 1) := by decide +kernel
theorem dX1_countLiving_0 : decode cX1_countLiving 0 = .ok (.iconst 0, 1) := by decide +kernel
theorem dX1_countLiving_1 : decode cX1_countLiving 1 = .ok (.istore_n 2, 1) := by decide +kernel
theorem dX1_countLiving_2 : decode cX1_countLiving 2 = .ok (.iconst 0, 1) := by decide +kernel
theorem dX1_countLiving_3 : decode cX1_countLiving 3 = .ok (.istore_n 3, 1) := by decide +kernel
theorem dX1_countLiving_4 : decode cX1_countLiving 4 = .ok (.iload_n 3, 1) := by decide +kernel
theorem dX1_countLiving_5 : decode cX1_countLiving 5 = .ok (.aload_n 0, 1) := by decide +kernel
theorem dX1_countLiving_6 : decode cX1_countLiving 6 = .ok (.getfield 31, 3) := by decide +kernel
theorem dX1_countLiving_9 : decode cX1_countLiving 9 = .ok (.if_icmp .ge 31, 3) := by decide +kernel
theorem dX1_countLiving_12 : decode cX1_countLiving 12 = .ok (.aload_n 0, 1) := by decide +kernel
theorem dX1_countLiving_13 : decode cX1_countLiving 13 = .ok (.getfield 27, 3) := by decide +kernel
theorem dX1_countLiving_16 : decode cX1_countLiving 16 = .ok (.iload_n 3, 1) := by decide +kernel
theorem dX1_countLiving_17 : decode cX1_countLiving 17 = .ok (.baload, 1) := by decide +kernel
theorem dX1_countLiving_18 : decode cX1_countLiving 18 = .ok (.ifCond .eq 16, 3) := by decide +kernel
theorem dX1_countLiving_21 : decode cX1_countLiving 21 = .ok (.aload_n 0, 1) := by decide +kernel
theorem dX1_countLiving_22 : decode cX1_countLiving 22 = .ok (.getfield 9, 3) := by decide +kernel
theorem dX1_countLiving_25 : decode cX1_countLiving 25 = .ok (.iload_n 3, 1) := by decide +kernel
theorem dX1_countLiving_26 : decode cX1_countLiving 26 = .ok (.iaload, 1) := by decide +kernel
theorem dX1_countLiving_27 : decode cX1_countLiving 27 = .ok (.iload_n 1, 1) := by decide +kernel
theorem dX1_countLiving_28 : decode cX1_countLiving 28 = .ok (.if_icmp .lt 6, 3) := by decide +kernel
theorem dX1_countLiving_31 : decode cX1_countLiving 31 = .ok (.iinc 2 1, 3) := by decide +kernel
theorem dX1_countLiving_34 : decode cX1_countLiving 34 = .ok (.iinc 3 1, 3) := by decide +kernel
theorem dX1_countLiving_37 : decode cX1_countLiving 37 = .ok (.goto (-33), 3) := by decide +kernel
theorem dX1_countLiving_40 : decode cX1_countLiving 40 = .ok (.iload_n 2, 1) := by decide +kernel
theorem dX1_countLiving_41 : decode cX1_countLiving 41 = .ok (.ireturn, 1) := by decide +kernel
theorem dX1_parentOf_0 : decode cX1_parentOf 0 = .ok (.iload_n 1, 1) := by decide +kernel
theorem dX1_parentOf_1 : decode cX1_parentOf 1 = .ok (.iconst 1, 1) := by decide +kernel
theorem dX1_parentOf_2 : decode cX1_parentOf 2 = .ok (.iadd, 1) := by decide +kernel
theorem dX1_parentOf_3 : decode cX1_parentOf 3 = .ok (.istore_n 2, 1) := by decide +kernel
theorem dX1_parentOf_4 : decode cX1_parentOf 4 = .ok (.iload_n 2, 1) := by decide +kernel
theorem dX1_parentOf_5 : decode cX1_parentOf 5 = .ok (.aload_n 0, 1) := by decide +kernel
theorem dX1_parentOf_6 : decode cX1_parentOf 6 = .ok (.getfield 31, 3) := by decide +kernel
theorem dX1_parentOf_9 : decode cX1_parentOf 9 = .ok (.if_icmp .ge 26, 3) := by decide +kernel
theorem dX1_parentOf_12 : decode cX1_parentOf 12 = .ok (.aload_n 0, 1) := by decide +kernel
theorem dX1_parentOf_13 : decode cX1_parentOf 13 = .ok (.getfield 9, 3) := by decide +kernel
theorem dX1_parentOf_16 : decode cX1_parentOf 16 = .ok (.iload_n 2, 1) := by decide +kernel
theorem dX1_parentOf_17 : decode cX1_parentOf 17 = .ok (.iaload, 1) := by decide +kernel
theorem dX1_parentOf_18 : decode cX1_parentOf 18 = .ok (.aload_n 0, 1) := by decide +kernel
theorem dX1_parentOf_19 : decode cX1_parentOf 19 = .ok (.getfield 9, 3) := by decide +kernel
theorem dX1_parentOf_22 : decode cX1_parentOf 22 = .ok (.iload_n 1, 1) := by decide +kernel
theorem dX1_parentOf_23 : decode cX1_parentOf 23 = .ok (.iaload, 1) := by decide +kernel
theorem dX1_parentOf_24 : decode cX1_parentOf 24 = .ok (.if_icmp .le 5, 3) := by decide +kernel
theorem dX1_parentOf_27 : decode cX1_parentOf 27 = .ok (.iload_n 2, 1) := by decide +kernel
theorem dX1_parentOf_28 : decode cX1_parentOf 28 = .ok (.ireturn, 1) := by decide +kernel
theorem dX1_parentOf_29 : decode cX1_parentOf 29 = .ok (.iinc 2 1, 3) := by decide +kernel
theorem dX1_parentOf_32 : decode cX1_parentOf 32 = .ok (.goto (-28), 3) := by decide +kernel
theorem dX1_parentOf_35 : decode cX1_parentOf 35 = .ok (.iconst (-1), 1) := by decide +kernel
theorem dX1_parentOf_36 : decode cX1_parentOf 36 = .ok (.ireturn, 1) := by decide +kernel
theorem dX1_firstBelow_0 : decode cX1_firstBelow 0 = .ok (.iload_n 1, 1) := by decide +kernel
theorem dX1_firstBelow_1 : decode cX1_firstBelow 1 = .ok (.istore_n 2, 1) := by decide +kernel
theorem dX1_firstBelow_2 : decode cX1_firstBelow 2 = .ok (.iload_n 2, 1) := by decide +kernel
theorem dX1_firstBelow_3 : decode cX1_firstBelow 3 = .ok (.ifCond .le 26, 3) := by decide +kernel
theorem dX1_firstBelow_6 : decode cX1_firstBelow 6 = .ok (.aload_n 0, 1) := by decide +kernel
theorem dX1_firstBelow_7 : decode cX1_firstBelow 7 = .ok (.getfield 9, 3) := by decide +kernel
theorem dX1_firstBelow_10 : decode cX1_firstBelow 10 = .ok (.iload_n 2, 1) := by decide +kernel
theorem dX1_firstBelow_11 : decode cX1_firstBelow 11 = .ok (.iconst 1, 1) := by decide +kernel
theorem dX1_firstBelow_12 : decode cX1_firstBelow 12 = .ok (.isub, 1) := by decide +kernel
theorem dX1_firstBelow_13 : decode cX1_firstBelow 13 = .ok (.iaload, 1) := by decide +kernel
theorem dX1_firstBelow_14 : decode cX1_firstBelow 14 = .ok (.aload_n 0, 1) := by decide +kernel
theorem dX1_firstBelow_15 : decode cX1_firstBelow 15 = .ok (.getfield 9, 3) := by decide +kernel
theorem dX1_firstBelow_18 : decode cX1_firstBelow 18 = .ok (.iload_n 1, 1) := by decide +kernel
theorem dX1_firstBelow_19 : decode cX1_firstBelow 19 = .ok (.iaload, 1) := by decide +kernel
theorem dX1_firstBelow_20 : decode cX1_firstBelow 20 = .ok (.if_icmp .ge 9, 3) := by decide +kernel
theorem dX1_firstBelow_23 : decode cX1_firstBelow 23 = .ok (.iinc 2 (-1), 3) := by decide +kernel
theorem dX1_firstBelow_26 : decode cX1_firstBelow 26 = .ok (.goto (-24), 3) := by decide +kernel
theorem dX1_firstBelow_29 : decode cX1_firstBelow 29 = .ok (.iload_n 2, 1) := by decide +kernel
theorem dX1_firstBelow_30 : decode cX1_firstBelow 30 = .ok (.ireturn, 1) := by decide +kernel
theorem dX2_init_0 : decode cX2_init 0 = .ok (.aload_n 0, 1) := by decide +kernel
theorem dX2_init_1 : decode cX2_init 1 = .ok (.invokespecial 3, 3) := by decide +kernel
theorem dX2_init_4 : decode cX2_init 4 = .ok (.aload_n 0, 1) := by decide +kernel
theorem dX2_init_5 : decode cX2_init 5 = .ok (.sipush 200, 3) := by decide +kernel
theorem dX2_init_8 : decode cX2_init 8 = .ok (.newarray .boolean, 2) := by decide +kernel
theorem dX2_init_10 : decode cX2_init 10 = .ok (.putfield 9, 3) := by decide +kernel
theorem dX2_init_13 : decode cX2_init 13 = .ok (.aload_n 0, 1) := by decide +kernel
theorem dX2_init_14 : decode cX2_init 14 = .ok (.sipush 200, 3) := by decide +kernel
theorem dX2_init_17 : decode cX2_init 17 = .ok (.newarray .long, 2) := by decide +kernel
theorem dX2_init_19 : decode cX2_init 19 = .ok (.putfield 15, 3) := by decide +kernel
theorem dX2_init_22 : decode cX2_init 22 = .ok (.aload_n 0, 1) := by decide +kernel
theorem dX2_init_23 : decode cX2_init 23 = .ok (.iconst 0, 1) := by decide +kernel
theorem dX2_init_24 : decode cX2_init 24 = .ok (.putfield 19, 3) := by decide +kernel
theorem dX2_init_27 : decode cX2_init 27 = .ok (.return_, 1) := by decide +kernel
theorem dX2_has_0 : decode cX2_has 0 = .ok (.iload_n 1, 1) := by decide +kernel
theorem dX2_has_1 : decode cX2_has 1 = .ok (.ifCond .lt 23, 3) := by decide +kernel
theorem dX2_has_4 : decode cX2_has 4 = .ok (.iload_n 1, 1) := by decide +kernel
theorem dX2_has_5 : decode cX2_has 5 = .ok (.sipush 200, 3) := by decide +kernel
theorem dX2_has_8 : decode cX2_has 8 = .ok (.if_icmp .ge 16, 3) := by decide +kernel
theorem dX2_has_11 : decode cX2_has 11 = .ok (.aload_n 0, 1) := by decide +kernel
theorem dX2_has_12 : decode cX2_has 12 = .ok (.getfield 9, 3) := by decide +kernel
theorem dX2_has_15 : decode cX2_has 15 = .ok (.iload_n 1, 1) := by decide +kernel
theorem dX2_has_16 : decode cX2_has 16 = .ok (.baload, 1) := by decide +kernel
theorem dX2_has_17 : decode cX2_has 17 = .ok (.ifCond .eq 7, 3) := by decide +kernel
theorem dX2_has_20 : decode cX2_has 20 = .ok (.iconst 1, 1) := by decide +kernel
theorem dX2_has_21 : decode cX2_has 21 = .ok (.goto 4, 3) := by decide +kernel
theorem dX2_has_24 : decode cX2_has 24 = .ok (.iconst 0, 1) := by decide +kernel
theorem dX2_has_25 : decode cX2_has 25 = .ok (.ireturn, 1) := by decide +kernel
theorem dX2_clear_0 : decode cX2_clear 0 = .ok (.iconst 0, 1) := by decide +kernel
theorem dX2_clear_1 : decode cX2_clear 1 = .ok (.istore_n 1, 1) := by decide +kernel
theorem dX2_clear_2 : decode cX2_clear 2 = .ok (.iload_n 1, 1) := by decide +kernel
theorem dX2_clear_3 : decode cX2_clear 3 = .ok (.sipush 200, 3) := by decide +kernel
theorem dX2_clear_6 : decode cX2_clear 6 = .ok (.if_icmp .ge 16, 3) := by decide +kernel
theorem dX2_clear_9 : decode cX2_clear 9 = .ok (.aload_n 0, 1) := by decide +kernel
theorem dX2_clear_10 : decode cX2_clear 10 = .ok (.getfield 9, 3) := by decide +kernel
theorem dX2_clear_13 : decode cX2_clear 13 = .ok (.iload_n 1, 1) := by decide +kernel
theorem dX2_clear_14 : decode cX2_clear 14 = .ok (.iconst 0, 1) := by decide +kernel
theorem dX2_clear_15 : decode cX2_clear 15 = .ok (.bastore, 1) := by decide +kernel
theorem dX2_clear_16 : decode cX2_clear 16 = .ok (.iinc 1 1, 3) := by decide +kernel
theorem dX2_clear_19 : decode cX2_clear 19 = .ok (.goto (-17), 3) := by decide +kernel
theorem dX2_clear_22 : decode cX2_clear 22 = .ok (.aload_n 0, 1) := by decide +kernel
theorem dX2_clear_23 : decode cX2_clear 23 = .ok (.iconst 0, 1) := by decide +kernel
theorem dX2_clear_24 : decode cX2_clear 24 = .ok (.putfield 19, 3) := by decide +kernel
theorem dX2_clear_27 : decode cX2_clear 27 = .ok (.return_, 1) := by decide +kernel
theorem dX2_put_0 : decode cX2_put 0 = .ok (.aload_n 0, 1) := by decide +kernel
theorem dX2_put_1 : decode cX2_put 1 = .ok (.getfield 9, 3) := by decide +kernel
theorem dX2_put_4 : decode cX2_put 4 = .ok (.iload_n 1, 1) := by decide +kernel
theorem dX2_put_5 : decode cX2_put 5 = .ok (.baload, 1) := by decide +kernel
theorem dX2_put_6 : decode cX2_put 6 = .ok (.ifCond .ne 20, 3) := by decide +kernel
theorem dX2_put_9 : decode cX2_put 9 = .ok (.aload_n 0, 1) := by decide +kernel
theorem dX2_put_10 : decode cX2_put 10 = .ok (.getfield 9, 3) := by decide +kernel
theorem dX2_put_13 : decode cX2_put 13 = .ok (.iload_n 1, 1) := by decide +kernel
theorem dX2_put_14 : decode cX2_put 14 = .ok (.iconst 1, 1) := by decide +kernel
theorem dX2_put_15 : decode cX2_put 15 = .ok (.bastore, 1) := by decide +kernel
theorem dX2_put_16 : decode cX2_put 16 = .ok (.aload_n 0, 1) := by decide +kernel
theorem dX2_put_17 : decode cX2_put 17 = .ok (.dup, 1) := by decide +kernel
theorem dX2_put_18 : decode cX2_put 18 = .ok (.getfield 19, 3) := by decide +kernel
theorem dX2_put_21 : decode cX2_put 21 = .ok (.iconst 1, 1) := by decide +kernel
theorem dX2_put_22 : decode cX2_put 22 = .ok (.iadd, 1) := by decide +kernel
theorem dX2_put_23 : decode cX2_put 23 = .ok (.putfield 19, 3) := by decide +kernel
theorem dX2_put_26 : decode cX2_put 26 = .ok (.aload_n 0, 1) := by decide +kernel
theorem dX2_put_27 : decode cX2_put 27 = .ok (.getfield 15, 3) := by decide +kernel
theorem dX2_put_30 : decode cX2_put 30 = .ok (.iload_n 1, 1) := by decide +kernel
theorem dX2_put_31 : decode cX2_put 31 = .ok (.lload_n 2, 1) := by decide +kernel
theorem dX2_put_32 : decode cX2_put 32 = .ok (.lastore, 1) := by decide +kernel
theorem dX2_put_33 : decode cX2_put 33 = .ok (.return_, 1) := by decide +kernel
set_option maxRecDepth 20000 in
theorem ggX2_add_X2_put : GoodIn wsX2_add wsX2_put := goodIn_r _ [7, 1, 8, 2, 9, 10, 11] (by decide +kernel) (by decide +kernel)
set_option maxRecDepth 20000 in
theorem gX2_add_X2_put : GoodIn wsX2_add (wsV RX2 23 RX2 yX2_put wsX2_put) := goodIn_app (goodIn_of _ (by decide +kernel)) ggX2_add_X2_put
theorem dX2_add_0 : decode cX2_add 0 = .ok (.aload_n 0, 1) := by decide +kernel
theorem dX2_add_1 : decode cX2_add 1 = .ok (.iload_n 1, 1) := by decide +kernel
theorem dX2_add_2 : decode cX2_add 2 = .ok (.aload_n 0, 1) := by decide +kernel
theorem dX2_add_3 : decode cX2_add 3 = .ok (.getfield 9, 3) := by decide +kernel
theorem dX2_add_6 : decode cX2_add 6 = .ok (.iload_n 1, 1) := by decide +kernel
theorem dX2_add_7 : decode cX2_add 7 = .ok (.baload, 1) := by decide +kernel
theorem dX2_add_8 : decode cX2_add 8 = .ok (.ifCond .eq 14, 3) := by decide +kernel
theorem dX2_add_11 : decode cX2_add 11 = .ok (.aload_n 0, 1) := by decide +kernel
theorem dX2_add_12 : decode cX2_add 12 = .ok (.getfield 15, 3) := by decide +kernel
theorem dX2_add_15 : decode cX2_add 15 = .ok (.iload_n 1, 1) := by decide +kernel
theorem dX2_add_16 : decode cX2_add 16 = .ok (.laload, 1) := by decide +kernel
theorem dX2_add_17 : decode cX2_add 17 = .ok (.lload_n 2, 1) := by decide +kernel
theorem dX2_add_18 : decode cX2_add 18 = .ok (.ladd, 1) := by decide +kernel
theorem dX2_add_19 : decode cX2_add 19 = .ok (.goto 4, 3) := by decide +kernel
theorem dX2_add_22 : decode cX2_add 22 = .ok (.lload_n 2, 1) := by decide +kernel
theorem dX2_add_23 : decode cX2_add 23 = .ok (.invokevirtual 23, 3) := by decide +kernel
theorem dX2_add_26 : decode cX2_add 26 = .ok (.return_, 1) := by decide +kernel
theorem dX2_remove_0 : decode cX2_remove 0 = .ok (.aload_n 0, 1) := by decide +kernel
theorem dX2_remove_1 : decode cX2_remove 1 = .ok (.getfield 9, 3) := by decide +kernel
theorem dX2_remove_4 : decode cX2_remove 4 = .ok (.iload_n 1, 1) := by decide +kernel
theorem dX2_remove_5 : decode cX2_remove 5 = .ok (.baload, 1) := by decide +kernel
theorem dX2_remove_6 : decode cX2_remove 6 = .ok (.ifCond .eq 20, 3) := by decide +kernel
theorem dX2_remove_9 : decode cX2_remove 9 = .ok (.aload_n 0, 1) := by decide +kernel
theorem dX2_remove_10 : decode cX2_remove 10 = .ok (.getfield 9, 3) := by decide +kernel
theorem dX2_remove_13 : decode cX2_remove 13 = .ok (.iload_n 1, 1) := by decide +kernel
theorem dX2_remove_14 : decode cX2_remove 14 = .ok (.iconst 0, 1) := by decide +kernel
theorem dX2_remove_15 : decode cX2_remove 15 = .ok (.bastore, 1) := by decide +kernel
theorem dX2_remove_16 : decode cX2_remove 16 = .ok (.aload_n 0, 1) := by decide +kernel
theorem dX2_remove_17 : decode cX2_remove 17 = .ok (.dup, 1) := by decide +kernel
theorem dX2_remove_18 : decode cX2_remove 18 = .ok (.getfield 19, 3) := by decide +kernel
theorem dX2_remove_21 : decode cX2_remove 21 = .ok (.iconst 1, 1) := by decide +kernel
theorem dX2_remove_22 : decode cX2_remove 22 = .ok (.isub, 1) := by decide +kernel
theorem dX2_remove_23 : decode cX2_remove 23 = .ok (.putfield 19, 3) := by decide +kernel
theorem dX2_remove_26 : decode cX2_remove 26 = .ok (.return_, 1) := by decide +kernel
set_option maxRecDepth 20000 in
theorem ggX2_addAll_X2_add : GoodIn wsX2_addAll wsX2_add := goodIn_r _ [7, 1, 2, 8, 9, 10, 6, 11, 12, 13, 14, 15] (by decide +kernel) (by decide +kernel)
set_option maxRecDepth 20000 in
theorem gX2_addAll_X2_add : GoodIn wsX2_addAll (wsV RX2 27 RX2 yX2_add wsX2_add) := goodIn_app (goodIn_of _ (by decide +kernel)) ggX2_addAll_X2_add
theorem dX2_addAll_0 : decode cX2_addAll 0 = .ok (.iconst 0, 1) := by decide +kernel
theorem dX2_addAll_1 : decode cX2_addAll 1 = .ok (.istore_n 2, 1) := by decide +kernel
theorem dX2_addAll_2 : decode cX2_addAll 2 = .ok (.iload_n 2, 1) := by decide +kernel
theorem dX2_addAll_3 : decode cX2_addAll 3 = .ok (.sipush 200, 3) := by decide +kernel
theorem dX2_addAll_6 : decode cX2_addAll 6 = .ok (.if_icmp .ge 29, 3) := by decide +kernel
theorem dX2_addAll_9 : decode cX2_addAll 9 = .ok (.aload_n 1, 1) := by decide +kernel
theorem dX2_addAll_10 : decode cX2_addAll 10 = .ok (.getfield 9, 3) := by decide +kernel
theorem dX2_addAll_13 : decode cX2_addAll 13 = .ok (.iload_n 2, 1) := by decide +kernel
theorem dX2_addAll_14 : decode cX2_addAll 14 = .ok (.baload, 1) := by decide +kernel
theorem dX2_addAll_15 : decode cX2_addAll 15 = .ok (.ifCond .eq 14, 3) := by decide +kernel
theorem dX2_addAll_18 : decode cX2_addAll 18 = .ok (.aload_n 0, 1) := by decide +kernel
theorem dX2_addAll_19 : decode cX2_addAll 19 = .ok (.iload_n 2, 1) := by decide +kernel
theorem dX2_addAll_20 : decode cX2_addAll 20 = .ok (.aload_n 1, 1) := by decide +kernel
theorem dX2_addAll_21 : decode cX2_addAll 21 = .ok (.getfield 15, 3) := by decide +kernel
theorem dX2_addAll_24 : decode cX2_addAll 24 = .ok (.iload_n 2, 1) := by decide +kernel
theorem dX2_addAll_25 : decode cX2_addAll 25 = .ok (.laload, 1) := by decide +kernel
theorem dX2_addAll_26 : decode cX2_addAll 26 = .ok (.invokevirtual 27, 3) := by decide +kernel
theorem dX2_addAll_29 : decode cX2_addAll 29 = .ok (.iinc 2 1, 3) := by decide +kernel
theorem dX2_addAll_32 : decode cX2_addAll 32 = .ok (.goto (-30), 3) := by decide +kernel
theorem dX2_addAll_35 : decode cX2_addAll 35 = .ok (.return_, 1) := by decide +kernel
set_option maxRecDepth 20000 in
theorem ggX2_removeAll_X2_remove : GoodIn wsX2_removeAll wsX2_remove := goodIn_r _ [6, 1, 7, 8, 9, 10] (by decide +kernel) (by decide +kernel)
set_option maxRecDepth 20000 in
theorem gX2_removeAll_X2_remove : GoodIn wsX2_removeAll (wsV RX2 30 RX2 yX2_remove wsX2_remove) := goodIn_app (goodIn_of _ (by decide +kernel)) ggX2_removeAll_X2_remove
theorem dX2_removeAll_0 : decode cX2_removeAll 0 = .ok (.iconst 0, 1) := by decide +kernel
theorem dX2_removeAll_1 : decode cX2_removeAll 1 = .ok (.istore_n 2, 1) := by decide +kernel
theorem dX2_removeAll_2 : decode cX2_removeAll 2 = .ok (.iload_n 2, 1) := by decide +kernel
theorem dX2_removeAll_3 : decode cX2_removeAll 3 = .ok (.sipush 200, 3) := by decide +kernel
theorem dX2_removeAll_6 : decode cX2_removeAll 6 = .ok (.if_icmp .ge 23, 3) := by decide +kernel
theorem dX2_removeAll_9 : decode cX2_removeAll 9 = .ok (.aload_n 1, 1) := by decide +kernel
theorem dX2_removeAll_10 : decode cX2_removeAll 10 = .ok (.getfield 9, 3) := by decide +kernel
theorem dX2_removeAll_13 : decode cX2_removeAll 13 = .ok (.iload_n 2, 1) := by decide +kernel
theorem dX2_removeAll_14 : decode cX2_removeAll 14 = .ok (.baload, 1) := by decide +kernel
theorem dX2_removeAll_15 : decode cX2_removeAll 15 = .ok (.ifCond .eq 8, 3) := by decide +kernel
theorem dX2_removeAll_18 : decode cX2_removeAll 18 = .ok (.aload_n 0, 1) := by decide +kernel
theorem dX2_removeAll_19 : decode cX2_removeAll 19 = .ok (.iload_n 2, 1) := by decide +kernel
theorem dX2_removeAll_20 : decode cX2_removeAll 20 = .ok (.invokevirtual 30, 3) := by decide +kernel
theorem dX2_removeAll_23 : decode cX2_removeAll 23 = .ok (.iinc 2 1, 3) := by decide +kernel
theorem dX2_removeAll_26 : decode cX2_removeAll 26 = .ok (.goto (-24), 3) := by decide +kernel
theorem dX2_removeAll_29 : decode cX2_removeAll 29 = .ok (.return_, 1) := by decide +kernel
set_option maxRecDepth 20000 in
theorem ggX2_keepCommon_X2_remove : GoodIn wsX2_keepCommon wsX2_remove := goodIn_r _ [7, 1, 8, 17, 18, 19] (by decide +kernel) (by decide +kernel)
set_option maxRecDepth 20000 in
theorem gX2_keepCommon_X2_remove : GoodIn wsX2_keepCommon (wsV RX2 30 RX2 yX2_remove wsX2_remove) := goodIn_app (goodIn_of _ (by decide +kernel)) ggX2_keepCommon_X2_remove
set_option maxRecDepth 20000 in
theorem ggX2_keepCommon_X2_add : GoodIn wsX2_keepCommon wsX2_add := goodIn_r _ [12, 1, 2, 13, 14, 15, 6, 16, 8, 17, 18, 19] (by decide +kernel) (by decide +kernel)
set_option maxRecDepth 20000 in
theorem gX2_keepCommon_X2_add : GoodIn wsX2_keepCommon (wsV RX2 27 RX2 yX2_add wsX2_add) := goodIn_app (goodIn_of _ (by decide +kernel)) ggX2_keepCommon_X2_add
theorem dX2_keepCommon_0 : decode cX2_keepCommon 0 = .ok (.iconst 0, 1) := by decide +kernel
theorem dX2_keepCommon_1 : decode cX2_keepCommon 1 = .ok (.istore_n 2, 1) := by decide +kernel
theorem dX2_keepCommon_2 : decode cX2_keepCommon 2 = .ok (.iload_n 2, 1) := by decide +kernel
theorem dX2_keepCommon_3 : decode cX2_keepCommon 3 = .ok (.sipush 200, 3) := by decide +kernel
theorem dX2_keepCommon_6 : decode cX2_keepCommon 6 = .ok (.if_icmp .ge 46, 3) := by decide +kernel
theorem dX2_keepCommon_9 : decode cX2_keepCommon 9 = .ok (.aload_n 1, 1) := by decide +kernel
theorem dX2_keepCommon_10 : decode cX2_keepCommon 10 = .ok (.getfield 9, 3) := by decide +kernel
theorem dX2_keepCommon_13 : decode cX2_keepCommon 13 = .ok (.iload_n 2, 1) := by decide +kernel
theorem dX2_keepCommon_14 : decode cX2_keepCommon 14 = .ok (.baload, 1) := by decide +kernel
theorem dX2_keepCommon_15 : decode cX2_keepCommon 15 = .ok (.ifCond .ne 11, 3) := by decide +kernel
theorem dX2_keepCommon_18 : decode cX2_keepCommon 18 = .ok (.aload_n 0, 1) := by decide +kernel
theorem dX2_keepCommon_19 : decode cX2_keepCommon 19 = .ok (.iload_n 2, 1) := by decide +kernel
theorem dX2_keepCommon_20 : decode cX2_keepCommon 20 = .ok (.invokevirtual 30, 3) := by decide +kernel
theorem dX2_keepCommon_23 : decode cX2_keepCommon 23 = .ok (.goto 23, 3) := by decide +kernel
theorem dX2_keepCommon_26 : decode cX2_keepCommon 26 = .ok (.aload_n 0, 1) := by decide +kernel
theorem dX2_keepCommon_27 : decode cX2_keepCommon 27 = .ok (.getfield 9, 3) := by decide +kernel
theorem dX2_keepCommon_30 : decode cX2_keepCommon 30 = .ok (.iload_n 2, 1) := by decide +kernel
theorem dX2_keepCommon_31 : decode cX2_keepCommon 31 = .ok (.baload, 1) := by decide +kernel
theorem dX2_keepCommon_32 : decode cX2_keepCommon 32 = .ok (.ifCond .eq 14, 3) := by decide +kernel
theorem dX2_keepCommon_35 : decode cX2_keepCommon 35 = .ok (.aload_n 0, 1) := by decide +kernel
theorem dX2_keepCommon_36 : decode cX2_keepCommon 36 = .ok (.iload_n 2, 1) := by decide +kernel
theorem dX2_keepCommon_37 : decode cX2_keepCommon 37 = .ok (.aload_n 1, 1) := by decide +kernel
theorem dX2_keepCommon_38 : decode cX2_keepCommon 38 = .ok (.getfield 15, 3) := by decide +kernel
theorem dX2_keepCommon_41 : decode cX2_keepCommon 41 = .ok (.iload_n 2, 1) := by decide +kernel
theorem dX2_keepCommon_42 : decode cX2_keepCommon 42 = .ok (.laload, 1) := by decide +kernel
theorem dX2_keepCommon_43 : decode cX2_keepCommon 43 = .ok (.invokevirtual 27, 3) := by decide +kernel
theorem dX2_keepCommon_46 : decode cX2_keepCommon 46 = .ok (.iinc 2 1, 3) := by decide +kernel
theorem dX2_keepCommon_49 : decode cX2_keepCommon 49 = .ok (.goto (-47), 3) := by decide +kernel
theorem dX2_keepCommon_52 : decode cX2_keepCommon 52 = .ok (.return_, 1) := by decide +kernel
set_option maxRecDepth 20000 in
theorem ggX2_moveTo_X2_clear : GoodIn wsX2_moveTo wsX2_clear := goodIn_r _ [5, 6, 7, 21, 22, 23] (by decide +kernel) (by decide +kernel)
set_option maxRecDepth 20000 in
theorem gX2_moveTo_X2_clear : GoodIn wsX2_moveTo (wsV RX2 34 RX2 yX2_clear wsX2_clear) := goodIn_app (goodIn_of _ (by decide +kernel)) ggX2_moveTo_X2_clear
set_option maxRecDepth 20000 in
theorem ggX2_moveTo_X2_addAll : GoodIn wsX2_moveTo wsX2_addAll := goodIn_r _ [11, 6, 12, 13, 14, 15, 4, 16, 17, 18, 19, 20, 7, 21, 22, 23] (by decide +kernel) (by decide +kernel)
set_option maxRecDepth 20000 in
theorem gX2_moveTo_X2_addAll : GoodIn wsX2_moveTo (wsV RX2 37 RX2 yX2_addAll wsX2_addAll) := goodIn_app (goodIn_of _ (by decide +kernel)) ggX2_moveTo_X2_addAll
theorem dX2_moveTo_0 : decode cX2_moveTo 0 = .ok (.aload_n 1, 1) := by decide +kernel
theorem dX2_moveTo_1 : decode cX2_moveTo 1 = .ok (.invokevirtual 34, 3) := by decide +kernel
theorem dX2_moveTo_4 : decode cX2_moveTo 4 = .ok (.aload_n 1, 1) := by decide +kernel
theorem dX2_moveTo_5 : decode cX2_moveTo 5 = .ok (.aload_n 0, 1) := by decide +kernel
theorem dX2_moveTo_6 : decode cX2_moveTo 6 = .ok (.invokevirtual 37, 3) := by decide +kernel
theorem dX2_moveTo_9 : decode cX2_moveTo 9 = .ok (.aload_n 0, 1) := by decide +kernel
theorem dX2_moveTo_10 : decode cX2_moveTo 10 = .ok (.invokevirtual 34, 3) := by decide +kernel
theorem dX2_moveTo_13 : decode cX2_moveTo 13 = .ok (.return_, 1) := by decide +kernel
set_option maxRecDepth 20000 in
theorem ggX3_init_X1_init : GoodIn wsX3_init wsX1_init := goodIn_r _ [23, 24, 2, 3, 25, 26, 27, 28, 29, 30, 31, 32, 33, 49, 50, 51, 52, 53, 54, 55] (by decide +kernel) (by decide +kernel)
set_option maxRecDepth 20000 in
theorem gX3_init_X1_init : GoodIn wsX3_init (wsX1_init) := ggX3_init_X1_init
set_option maxRecDepth 20000 in
theorem ggX3_init_X2_init : GoodIn wsX3_init wsX2_init := goodIn_r _ [36, 37, 2, 3, 31, 38, 39, 40, 41, 64, 65, 66] (by decide +kernel) (by decide +kernel)
set_option maxRecDepth 20000 in
theorem gX3_init_X2_init : GoodIn wsX3_init (wsX2_init) := ggX3_init_X2_init
set_option maxRecDepth 20000 in
theorem ggX3_init_X0_init : GoodIn wsX3_init wsX0_init := goodIn_r _ [44, 45, 2, 3, 25, 46, 47, 48, 67, 68, 69] (by decide +kernel) (by decide +kernel)
set_option maxRecDepth 20000 in
theorem gX3_init_X0_init : GoodIn wsX3_init (wsX0_init) := ggX3_init_X0_init
theorem dX3_init_0 : decode cX3_init 0 = .ok (.aload_n 0, 1) := by decide +kernel
theorem dX3_init_1 : decode cX3_init 1 = .ok (.invokespecial 3, 3) := by decide +kernel
theorem dX3_init_4 : decode cX3_init 4 = .ok (.aload_n 0, 1) := by decide +kernel
theorem dX3_init_5 : decode cX3_init 5 = .ok (.new 9, 3) := by decide +kernel
theorem dX3_init_8 : decode cX3_init 8 = .ok (.dup, 1) := by decide +kernel
theorem dX3_init_9 : decode cX3_init 9 = .ok (.bipush 60, 2) := by decide +kernel
theorem dX3_init_11 : decode cX3_init 11 = .ok (.invokespecial 13, 3) := by decide +kernel
theorem dX3_init_14 : decode cX3_init 14 = .ok (.putfield 16, 3) := by decide +kernel
theorem dX3_init_17 : decode cX3_init 17 = .ok (.aload_n 0, 1) := by decide +kernel
theorem dX3_init_18 : decode cX3_init 18 = .ok (.new 9, 3) := by decide +kernel
theorem dX3_init_21 : decode cX3_init 21 = .ok (.dup, 1) := by decide +kernel
theorem dX3_init_22 : decode cX3_init 22 = .ok (.sipush 200, 3) := by decide +kernel
theorem dX3_init_25 : decode cX3_init 25 = .ok (.invokespecial 13, 3) := by decide +kernel
theorem dX3_init_28 : decode cX3_init 28 = .ok (.putfield 20, 3) := by decide +kernel
theorem dX3_init_31 : decode cX3_init 31 = .ok (.aload_n 0, 1) := by decide +kernel
theorem dX3_init_32 : decode cX3_init 32 = .ok (.bipush 8, 2) := by decide +kernel
theorem dX3_init_34 : decode cX3_init 34 = .ok (.anewarray 23, 3) := by decide +kernel
theorem dX3_init_37 : decode cX3_init 37 = .ok (.putfield 25, 3) := by decide +kernel
theorem dX3_init_40 : decode cX3_init 40 = .ok (.iconst 0, 1) := by decide +kernel
theorem dX3_init_41 : decode cX3_init 41 = .ok (.istore_n 1, 1) := by decide +kernel
theorem dX3_init_42 : decode cX3_init 42 = .ok (.iload_n 1, 1) := by decide +kernel
theorem dX3_init_43 : decode cX3_init 43 = .ok (.bipush 8, 2) := by decide +kernel
theorem dX3_init_45 : decode cX3_init 45 = .ok (.if_icmp .ge 22, 3) := by decide +kernel
theorem dX3_init_48 : decode cX3_init 48 = .ok (.aload_n 0, 1) := by decide +kernel
theorem dX3_init_49 : decode cX3_init 49 = .ok (.getfield 25, 3) := by decide +kernel
theorem dX3_init_52 : decode cX3_init 52 = .ok (.iload_n 1, 1) := by decide +kernel
theorem dX3_init_53 : decode cX3_init 53 = .ok (.new 23, 3) := by decide +kernel
theorem dX3_init_56 : decode cX3_init 56 = .ok (.dup, 1) := by decide +kernel
theorem dX3_init_57 : decode cX3_init 57 = .ok (.invokespecial 29, 3) := by decide +kernel
theorem dX3_init_60 : decode cX3_init 60 = .ok (.aastore, 1) := by decide +kernel
theorem dX3_init_61 : decode cX3_init 61 = .ok (.iinc 1 1, 3) := by decide +kernel
theorem dX3_init_64 : decode cX3_init 64 = .ok (.goto (-22), 3) := by decide +kernel
theorem dX3_init_67 : decode cX3_init 67 = .ok (.aload_n 0, 1) := by decide +kernel
theorem dX3_init_68 : decode cX3_init 68 = .ok (.new 23, 3) := by decide +kernel
theorem dX3_init_71 : decode cX3_init 71 = .ok (.dup, 1) := by decide +kernel
theorem dX3_init_72 : decode cX3_init 72 = .ok (.invokespecial 29, 3) := by decide +kernel
theorem dX3_init_75 : decode cX3_init 75 = .ok (.putfield 30, 3) := by decide +kernel
theorem dX3_init_78 : decode cX3_init 78 = .ok (.aload_n 0, 1) := by decide +kernel
theorem dX3_init_79 : decode cX3_init 79 = .ok (.new 23, 3) := by decide +kernel
theorem dX3_init_82 : decode cX3_init 82 = .ok (.dup, 1) := by decide +kernel
theorem dX3_init_83 : decode cX3_init 83 = .ok (.invokespecial 29, 3) := by decide +kernel
theorem dX3_init_86 : decode cX3_init 86 = .ok (.putfield 34, 3) := by decide +kernel
theorem dX3_init_89 : decode cX3_init 89 = .ok (.aload_n 0, 1) := by decide +kernel
theorem dX3_init_90 : decode cX3_init 90 = .ok (.new 37, 3) := by decide +kernel
theorem dX3_init_93 : decode cX3_init 93 = .ok (.dup, 1) := by decide +kernel
theorem dX3_init_94 : decode cX3_init 94 = .ok (.invokespecial 39, 3) := by decide +kernel
theorem dX3_init_97 : decode cX3_init 97 = .ok (.putfield 40, 3) := by decide +kernel
theorem dX3_init_100 : decode cX3_init 100 = .ok (.aload_n 0, 1) := by decide +kernel
theorem dX3_init_101 : decode cX3_init 101 = .ok (.iconst 0, 1) := by decide +kernel
theorem dX3_init_102 : decode cX3_init 102 = .ok (.putfield 44, 3) := by decide +kernel
theorem dX3_init_105 : decode cX3_init 105 = .ok (.aload_n 0, 1) := by decide +kernel
theorem dX3_init_106 : decode cX3_init 106 = .ok (.iconst 0, 1) := by decide +kernel
theorem dX3_init_107 : decode cX3_init 107 = .ok (.putfield 48, 3) := by decide +kernel
theorem dX3_init_110 : decode cX3_init 110 = .ok (.return_, 1) := by decide +kernel
set_option maxRecDepth 20000 in
theorem ggX3_child_X3_isWithin : GoodIn wsX3_child wsX3_isWithin := goodIn_r _ [6] (by decide +kernel) (by decide +kernel)
set_option maxRecDepth 20000 in
theorem gX3_child_X3_isWithin : GoodIn wsX3_child (va_wsS RX3 52 yX3_isWithin wsX3_isWithin) := goodIn_app (goodIn_of _ (by decide +kernel)) ggX3_child_X3_isWithin
set_option maxRecDepth 20000 in
theorem ggX3_child_X3_areTold : GoodIn wsX3_child wsX3_areTold := goodIn_r _ [9, 10, 11, 5, 12, 3, 4, 6] (by decide +kernel) (by decide +kernel)
set_option maxRecDepth 20000 in
theorem gX3_child_X3_areTold : GoodIn wsX3_child (va_wsS RX3 56 yX3_areTold wsX3_areTold) := goodIn_app (goodIn_of _ (by decide +kernel)) ggX3_child_X3_areTold
set_option maxRecDepth 20000 in
theorem ggX3_child_X1_append : GoodIn wsX3_child wsX1_append := goodIn_r _ [17, 18, 19, 20, 21, 22, 23, 24, 33, 34, 35, 36, 37, 38, 39] (by decide +kernel) (by decide +kernel)
set_option maxRecDepth 20000 in
theorem gX3_child_X1_append : GoodIn wsX3_child (wsV RX3 62 RX1 yX1_append wsX1_append) := goodIn_app (goodIn_of _ (by decide +kernel)) ggX3_child_X1_append
theorem dX3_child_0 : decode cX3_child 0 = .ok (.iload_n 1, 1) := by decide +kernel
theorem dX3_child_1 : decode cX3_child 1 = .ok (.iconst 0, 1) := by decide +kernel
theorem dX3_child_2 : decode cX3_child 2 = .ok (.iconst 1, 1) := by decide +kernel
theorem dX3_child_3 : decode cX3_child 3 = .ok (.invokestatic 52, 3) := by decide +kernel
theorem dX3_child_6 : decode cX3_child 6 = .ok (.ifCond .eq 13, 3) := by decide +kernel
theorem dX3_child_9 : decode cX3_child 9 = .ok (.iload_n 2, 1) := by decide +kernel
theorem dX3_child_10 : decode cX3_child 10 = .ok (.iload_n 3, 1) := by decide +kernel
theorem dX3_child_11 : decode cX3_child 11 = .ok (.iload 4, 2) := by decide +kernel
theorem dX3_child_13 : decode cX3_child 13 = .ok (.invokestatic 56, 3) := by decide +kernel
theorem dX3_child_16 : decode cX3_child 16 = .ok (.ifCond .ne 6, 3) := by decide +kernel
theorem dX3_child_19 : decode cX3_child 19 = .ok (.bipush (-2), 2) := by decide +kernel
theorem dX3_child_21 : decode cX3_child 21 = .ok (.ireturn, 1) := by decide +kernel
theorem dX3_child_22 : decode cX3_child 22 = .ok (.aload_n 0, 1) := by decide +kernel
theorem dX3_child_23 : decode cX3_child 23 = .ok (.getfield 16, 3) := by decide +kernel
theorem dX3_child_26 : decode cX3_child 26 = .ok (.getfield 59, 3) := by decide +kernel
theorem dX3_child_29 : decode cX3_child 29 = .ok (.bipush 60, 2) := by decide +kernel
theorem dX3_child_31 : decode cX3_child 31 = .ok (.if_icmp .lt 6, 3) := by decide +kernel
theorem dX3_child_34 : decode cX3_child 34 = .ok (.bipush (-4), 2) := by decide +kernel
theorem dX3_child_36 : decode cX3_child 36 = .ok (.ireturn, 1) := by decide +kernel
theorem dX3_child_37 : decode cX3_child 37 = .ok (.aload_n 0, 1) := by decide +kernel
theorem dX3_child_38 : decode cX3_child 38 = .ok (.getfield 16, 3) := by decide +kernel
theorem dX3_child_41 : decode cX3_child 41 = .ok (.iload_n 1, 1) := by decide +kernel
theorem dX3_child_42 : decode cX3_child 42 = .ok (.iload_n 2, 1) := by decide +kernel
theorem dX3_child_43 : decode cX3_child 43 = .ok (.iload_n 3, 1) := by decide +kernel
theorem dX3_child_44 : decode cX3_child 44 = .ok (.iload 4, 2) := by decide +kernel
theorem dX3_child_46 : decode cX3_child 46 = .ok (.iconst (-1), 1) := by decide +kernel
theorem dX3_child_47 : decode cX3_child 47 = .ok (.invokevirtual 62, 3) := by decide +kernel
theorem dX3_child_50 : decode cX3_child 50 = .ok (.aload_n 0, 1) := by decide +kernel
theorem dX3_child_51 : decode cX3_child 51 = .ok (.getfield 16, 3) := by decide +kernel
theorem dX3_child_54 : decode cX3_child 54 = .ok (.getfield 59, 3) := by decide +kernel
theorem dX3_child_57 : decode cX3_child 57 = .ok (.ireturn, 1) := by decide +kernel
set_option maxRecDepth 20000 in
theorem ggX3_close_X3_isKey : GoodIn wsX3_close wsX3_isKey := goodIn_r _ [7, 8, 9, 6, 10] (by decide +kernel) (by decide +kernel)
set_option maxRecDepth 20000 in
theorem gX3_close_X3_isKey : GoodIn wsX3_close (va_wsS RX3 66 yX3_isKey wsX3_isKey) := goodIn_app (goodIn_of _ (by decide +kernel)) ggX3_close_X3_isKey
set_option maxRecDepth 20000 in
theorem ggX3_close_X3_areTold : GoodIn wsX3_close wsX3_areTold := goodIn_r _ [13, 14, 15, 6, 16, 8, 9, 10] (by decide +kernel) (by decide +kernel)
set_option maxRecDepth 20000 in
theorem gX3_close_X3_areTold : GoodIn wsX3_close (va_wsS RX3 56 yX3_areTold wsX3_areTold) := goodIn_app (goodIn_of _ (by decide +kernel)) ggX3_close_X3_areTold
set_option maxRecDepth 20000 in
theorem ggX3_close_X1_livingRoot : GoodIn wsX3_close wsX1_livingRoot := goodIn_r _ [21, 22, 23, 24, 25, 26, 27, 20, 28, 29, 68, 69, 70, 71, 72, 73, 74] (by decide +kernel) (by decide +kernel)
set_option maxRecDepth 20000 in
theorem gX3_close_X1_livingRoot : GoodIn wsX3_close (wsV RX3 70 RX1 yX1_livingRoot wsX1_livingRoot) := goodIn_app (goodIn_of _ (by decide +kernel)) ggX3_close_X1_livingRoot
set_option maxRecDepth 20000 in
theorem ggX3_close_X1_killBlock : GoodIn wsX3_close wsX1_killBlock := goodIn_r _ [33, 23, 34, 35, 36, 20, 37, 29, 68, 69, 70, 71, 72, 73, 74] (by decide +kernel) (by decide +kernel)
set_option maxRecDepth 20000 in
theorem gX3_close_X1_killBlock : GoodIn wsX3_close (wsV RX3 74 RX1 yX1_killBlock wsX1_killBlock) := goodIn_app (goodIn_of _ (by decide +kernel)) ggX3_close_X1_killBlock
set_option maxRecDepth 20000 in
theorem ggX3_close_X3_forgetSets : GoodIn wsX3_close wsX3_forgetSets := goodIn_r _ [41, 42, 43, 60, 61, 62, 63, 64, 65, 66, 67] (by decide +kernel) (by decide +kernel)
set_option maxRecDepth 20000 in
theorem gX3_close_X3_forgetSets : GoodIn wsX3_close (wsV RX3 77 RX3 yX3_forgetSets wsX3_forgetSets) := goodIn_app (goodIn_of _ (by decide +kernel)) ggX3_close_X3_forgetSets
set_option maxRecDepth 20000 in
theorem ggX3_close_X1_appendAll : GoodIn wsX3_close wsX1_appendAll := goodIn_r _ [47, 22, 48, 49, 50, 20, 51, 29, 52, 53, 54, 24, 55, 56, 57, 58, 23, 68, 69, 70, 71, 72, 73, 74] (by decide +kernel) (by decide +kernel)
set_option maxRecDepth 20000 in
theorem gX3_close_X1_appendAll : GoodIn wsX3_close (wsV RX3 80 RX1 yX1_appendAll wsX1_appendAll) := goodIn_app (goodIn_of _ (by decide +kernel)) ggX3_close_X1_appendAll
set_option maxRecDepth 20000 in
theorem ggX3_close_X1_append : GoodIn wsX3_close wsX1_append := goodIn_r _ [58, 29, 22, 52, 53, 54, 24, 23, 68, 69, 70, 71, 72, 73, 74] (by decide +kernel) (by decide +kernel)
set_option maxRecDepth 20000 in
theorem gX3_close_X1_append : GoodIn wsX3_close (wsV RX3 62 RX1 yX1_append wsX1_append) := goodIn_app (goodIn_of _ (by decide +kernel)) ggX3_close_X1_append
theorem dX3_close_0 : decode cX3_close 0 = .ok (.iload_n 1, 1) := by decide +kernel
theorem dX3_close_1 : decode cX3_close 1 = .ok (.invokestatic 66, 3) := by decide +kernel
theorem dX3_close_4 : decode cX3_close 4 = .ok (.ifCond .eq 13, 3) := by decide +kernel
theorem dX3_close_7 : decode cX3_close 7 = .ok (.iload_n 2, 1) := by decide +kernel
theorem dX3_close_8 : decode cX3_close 8 = .ok (.iload_n 3, 1) := by decide +kernel
theorem dX3_close_9 : decode cX3_close 9 = .ok (.iload 4, 2) := by decide +kernel
theorem dX3_close_11 : decode cX3_close 11 = .ok (.invokestatic 56, 3) := by decide +kernel
theorem dX3_close_14 : decode cX3_close 14 = .ok (.ifCond .ne 6, 3) := by decide +kernel
theorem dX3_close_17 : decode cX3_close 17 = .ok (.bipush (-2), 2) := by decide +kernel
theorem dX3_close_19 : decode cX3_close 19 = .ok (.ireturn, 1) := by decide +kernel
theorem dX3_close_20 : decode cX3_close 20 = .ok (.aload_n 0, 1) := by decide +kernel
theorem dX3_close_21 : decode cX3_close 21 = .ok (.getfield 20, 3) := by decide +kernel
theorem dX3_close_24 : decode cX3_close 24 = .ok (.getfield 59, 3) := by decide +kernel
theorem dX3_close_27 : decode cX3_close 27 = .ok (.aload_n 0, 1) := by decide +kernel
theorem dX3_close_28 : decode cX3_close 28 = .ok (.getfield 16, 3) := by decide +kernel
theorem dX3_close_31 : decode cX3_close 31 = .ok (.getfield 59, 3) := by decide +kernel
theorem dX3_close_34 : decode cX3_close 34 = .ok (.iadd, 1) := by decide +kernel
theorem dX3_close_35 : decode cX3_close 35 = .ok (.iconst 1, 1) := by decide +kernel
theorem dX3_close_36 : decode cX3_close 36 = .ok (.iadd, 1) := by decide +kernel
theorem dX3_close_37 : decode cX3_close 37 = .ok (.sipush 200, 3) := by decide +kernel
theorem dX3_close_40 : decode cX3_close 40 = .ok (.if_icmp .le 6, 3) := by decide +kernel
theorem dX3_close_43 : decode cX3_close 43 = .ok (.bipush (-4), 2) := by decide +kernel
theorem dX3_close_45 : decode cX3_close 45 = .ok (.ireturn, 1) := by decide +kernel
theorem dX3_close_46 : decode cX3_close 46 = .ok (.aload_n 0, 1) := by decide +kernel
theorem dX3_close_47 : decode cX3_close 47 = .ok (.getfield 20, 3) := by decide +kernel
theorem dX3_close_50 : decode cX3_close 50 = .ok (.iload_n 1, 1) := by decide +kernel
theorem dX3_close_51 : decode cX3_close 51 = .ok (.invokevirtual 70, 3) := by decide +kernel
theorem dX3_close_54 : decode cX3_close 54 = .ok (.istore 5, 2) := by decide +kernel
theorem dX3_close_56 : decode cX3_close 56 = .ok (.iload 5, 2) := by decide +kernel
theorem dX3_close_58 : decode cX3_close 58 = .ok (.iconst (-1), 1) := by decide +kernel
theorem dX3_close_59 : decode cX3_close 59 = .ok (.if_icmp .eq 17, 3) := by decide +kernel
theorem dX3_close_62 : decode cX3_close 62 = .ok (.aload_n 0, 1) := by decide +kernel
theorem dX3_close_63 : decode cX3_close 63 = .ok (.getfield 20, 3) := by decide +kernel
theorem dX3_close_66 : decode cX3_close 66 = .ok (.iload 5, 2) := by decide +kernel
theorem dX3_close_68 : decode cX3_close 68 = .ok (.invokevirtual 74, 3) := by decide +kernel
theorem dX3_close_71 : decode cX3_close 71 = .ok (.pop, 1) := by decide +kernel
theorem dX3_close_72 : decode cX3_close 72 = .ok (.aload_n 0, 1) := by decide +kernel
theorem dX3_close_73 : decode cX3_close 73 = .ok (.invokevirtual 77, 3) := by decide +kernel
theorem dX3_close_76 : decode cX3_close 76 = .ok (.aload_n 0, 1) := by decide +kernel
theorem dX3_close_77 : decode cX3_close 77 = .ok (.getfield 20, 3) := by decide +kernel
theorem dX3_close_80 : decode cX3_close 80 = .ok (.aload_n 0, 1) := by decide +kernel
theorem dX3_close_81 : decode cX3_close 81 = .ok (.getfield 16, 3) := by decide +kernel
theorem dX3_close_84 : decode cX3_close 84 = .ok (.invokevirtual 80, 3) := by decide +kernel
theorem dX3_close_87 : decode cX3_close 87 = .ok (.aload_n 0, 1) := by decide +kernel
theorem dX3_close_88 : decode cX3_close 88 = .ok (.getfield 20, 3) := by decide +kernel
theorem dX3_close_91 : decode cX3_close 91 = .ok (.iconst 2, 1) := by decide +kernel
theorem dX3_close_92 : decode cX3_close 92 = .ok (.iload_n 2, 1) := by decide +kernel
theorem dX3_close_93 : decode cX3_close 93 = .ok (.iload_n 3, 1) := by decide +kernel
theorem dX3_close_94 : decode cX3_close 94 = .ok (.iload 4, 2) := by decide +kernel
theorem dX3_close_96 : decode cX3_close 96 = .ok (.iload_n 1, 1) := by decide +kernel
theorem dX3_close_97 : decode cX3_close 97 = .ok (.invokevirtual 62, 3) := by decide +kernel
theorem dX3_close_100 : decode cX3_close 100 = .ok (.aload_n 0, 1) := by decide +kernel
theorem dX3_close_101 : decode cX3_close 101 = .ok (.getfield 16, 3) := by decide +kernel
theorem dX3_close_104 : decode cX3_close 104 = .ok (.iconst 0, 1) := by decide +kernel
theorem dX3_close_105 : decode cX3_close 105 = .ok (.putfield 59, 3) := by decide +kernel
theorem dX3_close_108 : decode cX3_close 108 = .ok (.aload_n 0, 1) := by decide +kernel
theorem dX3_close_109 : decode cX3_close 109 = .ok (.getfield 20, 3) := by decide +kernel
theorem dX3_close_112 : decode cX3_close 112 = .ok (.getfield 59, 3) := by decide +kernel
theorem dX3_close_115 : decode cX3_close 115 = .ok (.iconst 1, 1) := by decide +kernel
theorem dX3_close_116 : decode cX3_close 116 = .ok (.isub, 1) := by decide +kernel
theorem dX3_close_117 : decode cX3_close 117 = .ok (.ireturn, 1) := by decide +kernel
theorem dX3_drop_0 : decode cX3_drop 0 = .ok (.aload_n 0, 1) := by decide +kernel
theorem dX3_drop_1 : decode cX3_drop 1 = .ok (.getfield 16, 3) := by decide +kernel
theorem dX3_drop_4 : decode cX3_drop 4 = .ok (.getfield 59, 3) := by decide +kernel
theorem dX3_drop_7 : decode cX3_drop 7 = .ok (.istore_n 1, 1) := by decide +kernel
theorem dX3_drop_8 : decode cX3_drop 8 = .ok (.aload_n 0, 1) := by decide +kernel
theorem dX3_drop_9 : decode cX3_drop 9 = .ok (.getfield 16, 3) := by decide +kernel
theorem dX3_drop_12 : decode cX3_drop 12 = .ok (.iconst 0, 1) := by decide +kernel
theorem dX3_drop_13 : decode cX3_drop 13 = .ok (.putfield 59, 3) := by decide +kernel
theorem dX3_drop_16 : decode cX3_drop 16 = .ok (.iload_n 1, 1) := by decide +kernel
theorem dX3_drop_17 : decode cX3_drop 17 = .ok (.ireturn, 1) := by decide +kernel
set_option maxRecDepth 20000 in
theorem ggX3_kill_X1_livingRoot : GoodIn wsX3_kill wsX1_livingRoot := goodIn_r _ [6, 7, 8, 9, 10, 11, 12, 5, 13, 14, 38, 39, 40, 41, 42, 43, 44] (by decide +kernel) (by decide +kernel)
set_option maxRecDepth 20000 in
theorem gX3_kill_X1_livingRoot : GoodIn wsX3_kill (wsV RX3 70 RX1 yX1_livingRoot wsX1_livingRoot) := goodIn_app (goodIn_of _ (by decide +kernel)) ggX3_kill_X1_livingRoot
set_option maxRecDepth 20000 in
theorem ggX3_kill_X3_forgetSets : GoodIn wsX3_kill wsX3_forgetSets := goodIn_r _ [19, 20, 21, 30, 31, 32, 33, 34, 35, 36, 37] (by decide +kernel) (by decide +kernel)
set_option maxRecDepth 20000 in
theorem gX3_kill_X3_forgetSets : GoodIn wsX3_kill (wsV RX3 77 RX3 yX3_forgetSets wsX3_forgetSets) := goodIn_app (goodIn_of _ (by decide +kernel)) ggX3_kill_X3_forgetSets
set_option maxRecDepth 20000 in
theorem ggX3_kill_X1_killBlock : GoodIn wsX3_kill wsX1_killBlock := goodIn_r _ [25, 8, 26, 27, 28, 5, 29, 14, 38, 39, 40, 41, 42, 43, 44] (by decide +kernel) (by decide +kernel)
set_option maxRecDepth 20000 in
theorem gX3_kill_X1_killBlock : GoodIn wsX3_kill (wsV RX3 74 RX1 yX1_killBlock wsX1_killBlock) := goodIn_app (goodIn_of _ (by decide +kernel)) ggX3_kill_X1_killBlock
theorem dX3_kill_0 : decode cX3_kill 0 = .ok (.aload_n 0, 1) := by decide +kernel
theorem dX3_kill_1 : decode cX3_kill 1 = .ok (.getfield 20, 3) := by decide +kernel
theorem dX3_kill_4 : decode cX3_kill 4 = .ok (.iload_n 1, 1) := by decide +kernel
theorem dX3_kill_5 : decode cX3_kill 5 = .ok (.invokevirtual 70, 3) := by decide +kernel
theorem dX3_kill_8 : decode cX3_kill 8 = .ok (.istore_n 2, 1) := by decide +kernel
theorem dX3_kill_9 : decode cX3_kill 9 = .ok (.iload_n 2, 1) := by decide +kernel
theorem dX3_kill_10 : decode cX3_kill 10 = .ok (.iconst (-1), 1) := by decide +kernel
theorem dX3_kill_11 : decode cX3_kill 11 = .ok (.if_icmp .ne 5, 3) := by decide +kernel
theorem dX3_kill_14 : decode cX3_kill 14 = .ok (.iconst (-1), 1) := by decide +kernel
theorem dX3_kill_15 : decode cX3_kill 15 = .ok (.ireturn, 1) := by decide +kernel
theorem dX3_kill_16 : decode cX3_kill 16 = .ok (.aload_n 0, 1) := by decide +kernel
theorem dX3_kill_17 : decode cX3_kill 17 = .ok (.invokevirtual 77, 3) := by decide +kernel
theorem dX3_kill_20 : decode cX3_kill 20 = .ok (.aload_n 0, 1) := by decide +kernel
theorem dX3_kill_21 : decode cX3_kill 21 = .ok (.getfield 20, 3) := by decide +kernel
theorem dX3_kill_24 : decode cX3_kill 24 = .ok (.iload_n 2, 1) := by decide +kernel
theorem dX3_kill_25 : decode cX3_kill 25 = .ok (.invokevirtual 74, 3) := by decide +kernel
theorem dX3_kill_28 : decode cX3_kill 28 = .ok (.ireturn, 1) := by decide +kernel
set_option maxRecDepth 20000 in
theorem ggX3_merge_X1_keepLiving : GoodIn wsX3_merge wsX1_keepLiving := goodIn_r _ [7, 8, 9, 10, 11, 12, 6, 13, 14, 15, 16, 17, 18, 19, 20, 21, 22, 38, 39, 40, 41, 42, 43, 44] (by decide +kernel) (by decide +kernel)
set_option maxRecDepth 20000 in
theorem gX3_merge_X1_keepLiving : GoodIn wsX3_merge (wsV RX3 84 RX1 yX1_keepLiving wsX1_keepLiving) := goodIn_app (goodIn_of _ (by decide +kernel)) ggX3_merge_X1_keepLiving
set_option maxRecDepth 20000 in
theorem ggX3_merge_X3_forgetSets : GoodIn wsX3_merge wsX3_forgetSets := goodIn_r _ [27, 28, 29, 30, 31, 32, 33, 34, 35, 36, 37] (by decide +kernel) (by decide +kernel)
set_option maxRecDepth 20000 in
theorem gX3_merge_X3_forgetSets : GoodIn wsX3_merge (wsV RX3 77 RX3 yX3_forgetSets wsX3_forgetSets) := goodIn_app (goodIn_of _ (by decide +kernel)) ggX3_merge_X3_forgetSets
theorem dX3_merge_0 : decode cX3_merge 0 = .ok (.aload_n 0, 1) := by decide +kernel
theorem dX3_merge_1 : decode cX3_merge 1 = .ok (.getfield 20, 3) := by decide +kernel
theorem dX3_merge_4 : decode cX3_merge 4 = .ok (.invokevirtual 84, 3) := by decide +kernel
theorem dX3_merge_7 : decode cX3_merge 7 = .ok (.aload_n 0, 1) := by decide +kernel
theorem dX3_merge_8 : decode cX3_merge 8 = .ok (.invokevirtual 77, 3) := by decide +kernel
theorem dX3_merge_11 : decode cX3_merge 11 = .ok (.aload_n 0, 1) := by decide +kernel
theorem dX3_merge_12 : decode cX3_merge 12 = .ok (.getfield 20, 3) := by decide +kernel
theorem dX3_merge_15 : decode cX3_merge 15 = .ok (.getfield 59, 3) := by decide +kernel
theorem dX3_merge_18 : decode cX3_merge 18 = .ok (.ireturn, 1) := by decide +kernel
set_option maxRecDepth 20000 in
theorem ggX3_object_X1_holds : GoodIn wsX3_object wsX1_holds := goodIn_r _ [12, 13, 35, 36, 37, 38, 39, 40, 41] (by decide +kernel) (by decide +kernel)
set_option maxRecDepth 20000 in
theorem gX3_object_X1_holds : GoodIn wsX3_object (wsV RX3 87 RX1 yX1_holds wsX1_holds) := goodIn_app (goodIn_of _ (by decide +kernel)) ggX3_object_X1_holds
set_option maxRecDepth 20000 in
theorem ggX3_object_X1_isRoot : GoodIn wsX3_object wsX1_isRoot := goodIn_r _ [17, 18, 35, 36, 37, 38, 39, 40, 41] (by decide +kernel) (by decide +kernel)
set_option maxRecDepth 20000 in
theorem gX3_object_X1_isRoot : GoodIn wsX3_object (wsV RX3 103 RX1 yX1_isRoot wsX1_isRoot) := goodIn_app (goodIn_of _ (by decide +kernel)) ggX3_object_X1_isRoot
set_option maxRecDepth 20000 in
theorem ggX3_object_X1_parentOf : GoodIn wsX3_object wsX1_parentOf := goodIn_r _ [22, 13, 18, 35, 36, 37, 38, 39, 40, 41] (by decide +kernel) (by decide +kernel)
set_option maxRecDepth 20000 in
theorem gX3_object_X1_parentOf : GoodIn wsX3_object (wsV RX3 109 RX1 yX1_parentOf wsX1_parentOf) := goodIn_app (goodIn_of _ (by decide +kernel)) ggX3_object_X1_parentOf
set_option maxRecDepth 20000 in
theorem ggX3_object_X1_firstBelow : GoodIn wsX3_object wsX1_firstBelow := goodIn_r _ [26, 18, 35, 36, 37, 38, 39, 40, 41] (by decide +kernel) (by decide +kernel)
set_option maxRecDepth 20000 in
theorem gX3_object_X1_firstBelow : GoodIn wsX3_object (wsV RX3 116 RX1 yX1_firstBelow wsX1_firstBelow) := goodIn_app (goodIn_of _ (by decide +kernel)) ggX3_object_X1_firstBelow
theorem dX3_object_0 : decode cX3_object 0 = .ok (.aload_n 0, 1) := by decide +kernel
theorem dX3_object_1 : decode cX3_object 1 = .ok (.getfield 20, 3) := by decide +kernel
theorem dX3_object_4 : decode cX3_object 4 = .ok (.iload_n 1, 1) := by decide +kernel
theorem dX3_object_5 : decode cX3_object 5 = .ok (.invokevirtual 87, 3) := by decide +kernel
theorem dX3_object_8 : decode cX3_object 8 = .ok (.ifCond .ne 5, 3) := by decide +kernel
theorem dX3_object_11 : decode cX3_object 11 = .ok (.iconst (-1), 1) := by decide +kernel
theorem dX3_object_12 : decode cX3_object 12 = .ok (.ireturn, 1) := by decide +kernel
theorem dX3_object_13 : decode cX3_object 13 = .ok (.iload_n 2, 1) := by decide +kernel
theorem dX3_object_14 : decode cX3_object 14 = .ok (.tableswitch 166 0 7 #[46, 56, 66, 76, 86, 112, 137, 155], 46) := by decide +kernel
theorem dX3_object_60 : decode cX3_object 60 = .ok (.aload_n 0, 1) := by decide +kernel
theorem dX3_object_61 : decode cX3_object 61 = .ok (.getfield 20, 3) := by decide +kernel
theorem dX3_object_64 : decode cX3_object 64 = .ok (.getfield 90, 3) := by decide +kernel
theorem dX3_object_67 : decode cX3_object 67 = .ok (.iload_n 1, 1) := by decide +kernel
theorem dX3_object_68 : decode cX3_object 68 = .ok (.iaload, 1) := by decide +kernel
theorem dX3_object_69 : decode cX3_object 69 = .ok (.ireturn, 1) := by decide +kernel
theorem dX3_object_70 : decode cX3_object 70 = .ok (.aload_n 0, 1) := by decide +kernel
theorem dX3_object_71 : decode cX3_object 71 = .ok (.getfield 20, 3) := by decide +kernel
theorem dX3_object_74 : decode cX3_object 74 = .ok (.getfield 94, 3) := by decide +kernel
theorem dX3_object_77 : decode cX3_object 77 = .ok (.iload_n 1, 1) := by decide +kernel
theorem dX3_object_78 : decode cX3_object 78 = .ok (.iaload, 1) := by decide +kernel
theorem dX3_object_79 : decode cX3_object 79 = .ok (.ireturn, 1) := by decide +kernel
theorem dX3_object_80 : decode cX3_object 80 = .ok (.aload_n 0, 1) := by decide +kernel
theorem dX3_object_81 : decode cX3_object 81 = .ok (.getfield 20, 3) := by decide +kernel
theorem dX3_object_84 : decode cX3_object 84 = .ok (.getfield 97, 3) := by decide +kernel
theorem dX3_object_87 : decode cX3_object 87 = .ok (.iload_n 1, 1) := by decide +kernel
theorem dX3_object_88 : decode cX3_object 88 = .ok (.iaload, 1) := by decide +kernel
theorem dX3_object_89 : decode cX3_object 89 = .ok (.ireturn, 1) := by decide +kernel
theorem dX3_object_90 : decode cX3_object 90 = .ok (.aload_n 0, 1) := by decide +kernel
theorem dX3_object_91 : decode cX3_object 91 = .ok (.getfield 20, 3) := by decide +kernel
theorem dX3_object_94 : decode cX3_object 94 = .ok (.getfield 100, 3) := by decide +kernel
theorem dX3_object_97 : decode cX3_object 97 = .ok (.iload_n 1, 1) := by decide +kernel
theorem dX3_object_98 : decode cX3_object 98 = .ok (.iaload, 1) := by decide +kernel
theorem dX3_object_99 : decode cX3_object 99 = .ok (.ireturn, 1) := by decide +kernel
theorem dX3_object_100 : decode cX3_object 100 = .ok (.aload_n 0, 1) := by decide +kernel
theorem dX3_object_101 : decode cX3_object 101 = .ok (.getfield 20, 3) := by decide +kernel
theorem dX3_object_104 : decode cX3_object 104 = .ok (.iload_n 1, 1) := by decide +kernel
theorem dX3_object_105 : decode cX3_object 105 = .ok (.invokevirtual 103, 3) := by decide +kernel
theorem dX3_object_108 : decode cX3_object 108 = .ok (.ifCond .eq 15, 3) := by decide +kernel
theorem dX3_object_111 : decode cX3_object 111 = .ok (.aload_n 0, 1) := by decide +kernel
theorem dX3_object_112 : decode cX3_object 112 = .ok (.getfield 20, 3) := by decide +kernel
theorem dX3_object_115 : decode cX3_object 115 = .ok (.getfield 106, 3) := by decide +kernel
theorem dX3_object_118 : decode cX3_object 118 = .ok (.iload_n 1, 1) := by decide +kernel
theorem dX3_object_119 : decode cX3_object 119 = .ok (.iaload, 1) := by decide +kernel
theorem dX3_object_120 : decode cX3_object 120 = .ok (.goto 5, 3) := by decide +kernel
theorem dX3_object_123 : decode cX3_object 123 = .ok (.bipush (-3), 2) := by decide +kernel
theorem dX3_object_125 : decode cX3_object 125 = .ok (.ireturn, 1) := by decide +kernel
theorem dX3_object_126 : decode cX3_object 126 = .ok (.aload_n 0, 1) := by decide +kernel
theorem dX3_object_127 : decode cX3_object 127 = .ok (.getfield 20, 3) := by decide +kernel
theorem dX3_object_130 : decode cX3_object 130 = .ok (.iload_n 1, 1) := by decide +kernel
theorem dX3_object_131 : decode cX3_object 131 = .ok (.invokevirtual 103, 3) := by decide +kernel
theorem dX3_object_134 : decode cX3_object 134 = .ok (.ifCond .eq 8, 3) := by decide +kernel
theorem dX3_object_137 : decode cX3_object 137 = .ok (.bipush (-3), 2) := by decide +kernel
theorem dX3_object_139 : decode cX3_object 139 = .ok (.goto 11, 3) := by decide +kernel
theorem dX3_object_142 : decode cX3_object 142 = .ok (.aload_n 0, 1) := by decide +kernel
theorem dX3_object_143 : decode cX3_object 143 = .ok (.getfield 20, 3) := by decide +kernel
theorem dX3_object_146 : decode cX3_object 146 = .ok (.iload_n 1, 1) := by decide +kernel
theorem dX3_object_147 : decode cX3_object 147 = .ok (.invokevirtual 109, 3) := by decide +kernel
theorem dX3_object_150 : decode cX3_object 150 = .ok (.ireturn, 1) := by decide +kernel
theorem dX3_object_151 : decode cX3_object 151 = .ok (.aload_n 0, 1) := by decide +kernel
theorem dX3_object_152 : decode cX3_object 152 = .ok (.getfield 20, 3) := by decide +kernel
theorem dX3_object_155 : decode cX3_object 155 = .ok (.getfield 112, 3) := by decide +kernel
theorem dX3_object_158 : decode cX3_object 158 = .ok (.iload_n 1, 1) := by decide +kernel
theorem dX3_object_159 : decode cX3_object 159 = .ok (.baload, 1) := by decide +kernel
theorem dX3_object_160 : decode cX3_object 160 = .ok (.ifCond .eq 7, 3) := by decide +kernel
theorem dX3_object_163 : decode cX3_object 163 = .ok (.iconst 1, 1) := by decide +kernel
theorem dX3_object_164 : decode cX3_object 164 = .ok (.goto 4, 3) := by decide +kernel
theorem dX3_object_167 : decode cX3_object 167 = .ok (.iconst 0, 1) := by decide +kernel
theorem dX3_object_168 : decode cX3_object 168 = .ok (.ireturn, 1) := by decide +kernel
theorem dX3_object_169 : decode cX3_object 169 = .ok (.iload_n 1, 1) := by decide +kernel
theorem dX3_object_170 : decode cX3_object 170 = .ok (.aload_n 0, 1) := by decide +kernel
theorem dX3_object_171 : decode cX3_object 171 = .ok (.getfield 20, 3) := by decide +kernel
theorem dX3_object_174 : decode cX3_object 174 = .ok (.iload_n 1, 1) := by decide +kernel
theorem dX3_object_175 : decode cX3_object 175 = .ok (.invokevirtual 116, 3) := by decide +kernel
theorem dX3_object_178 : decode cX3_object 178 = .ok (.isub, 1) := by decide +kernel
theorem dX3_object_179 : decode cX3_object 179 = .ok (.ireturn, 1) := by decide +kernel
theorem dX3_object_180 : decode cX3_object 180 = .ok (.bipush (-2), 2) := by decide +kernel
theorem dX3_object_182 : decode cX3_object 182 = .ok (.ireturn, 1) := by decide +kernel
set_option maxRecDepth 20000 in
theorem ggX3_count_X1_countLiving : GoodIn wsX3_count wsX1_countLiving := goodIn_r _ [9, 10, 11, 12, 21, 22, 23, 24, 25, 26, 27] (by decide +kernel) (by decide +kernel)
set_option maxRecDepth 20000 in
theorem gX3_count_X1_countLiving : GoodIn wsX3_count (wsV RX3 119 RX1 yX1_countLiving wsX1_countLiving) := goodIn_app (goodIn_of _ (by decide +kernel)) ggX3_count_X1_countLiving
theorem dX3_count_0 : decode cX3_count 0 = .ok (.iload_n 1, 1) := by decide +kernel
theorem dX3_count_1 : decode cX3_count 1 = .ok (.tableswitch 74 0 4 #[35, 43, 52, 61, 69], 35) := by decide +kernel
theorem dX3_count_36 : decode cX3_count 36 = .ok (.aload_n 0, 1) := by decide +kernel
theorem dX3_count_37 : decode cX3_count 37 = .ok (.getfield 20, 3) := by decide +kernel
theorem dX3_count_40 : decode cX3_count 40 = .ok (.getfield 59, 3) := by decide +kernel
theorem dX3_count_43 : decode cX3_count 43 = .ok (.ireturn, 1) := by decide +kernel
theorem dX3_count_44 : decode cX3_count 44 = .ok (.aload_n 0, 1) := by decide +kernel
theorem dX3_count_45 : decode cX3_count 45 = .ok (.getfield 20, 3) := by decide +kernel
theorem dX3_count_48 : decode cX3_count 48 = .ok (.iconst 0, 1) := by decide +kernel
theorem dX3_count_49 : decode cX3_count 49 = .ok (.invokevirtual 119, 3) := by decide +kernel
theorem dX3_count_52 : decode cX3_count 52 = .ok (.ireturn, 1) := by decide +kernel
theorem dX3_count_53 : decode cX3_count 53 = .ok (.aload_n 0, 1) := by decide +kernel
theorem dX3_count_54 : decode cX3_count 54 = .ok (.getfield 20, 3) := by decide +kernel
theorem dX3_count_57 : decode cX3_count 57 = .ok (.iconst 2, 1) := by decide +kernel
theorem dX3_count_58 : decode cX3_count 58 = .ok (.invokevirtual 119, 3) := by decide +kernel
theorem dX3_count_61 : decode cX3_count 61 = .ok (.ireturn, 1) := by decide +kernel
theorem dX3_count_62 : decode cX3_count 62 = .ok (.aload_n 0, 1) := by decide +kernel
theorem dX3_count_63 : decode cX3_count 63 = .ok (.getfield 16, 3) := by decide +kernel
theorem dX3_count_66 : decode cX3_count 66 = .ok (.getfield 59, 3) := by decide +kernel
theorem dX3_count_69 : decode cX3_count 69 = .ok (.ireturn, 1) := by decide +kernel
theorem dX3_count_70 : decode cX3_count 70 = .ok (.aload_n 0, 1) := by decide +kernel
theorem dX3_count_71 : decode cX3_count 71 = .ok (.getfield 44, 3) := by decide +kernel
theorem dX3_count_74 : decode cX3_count 74 = .ok (.ireturn, 1) := by decide +kernel
theorem dX3_count_75 : decode cX3_count 75 = .ok (.bipush (-2), 2) := by decide +kernel
theorem dX3_count_77 : decode cX3_count 77 = .ok (.ireturn, 1) := by decide +kernel
set_option maxRecDepth 20000 in
theorem ggX3_root_X1_livingRoot : GoodIn wsX3_root wsX1_livingRoot := goodIn_r _ [6, 7, 8, 9, 10, 11, 12, 5, 13, 14, 23, 24, 25, 26, 27, 28, 29] (by decide +kernel) (by decide +kernel)
set_option maxRecDepth 20000 in
theorem gX3_root_X1_livingRoot : GoodIn wsX3_root (wsV RX3 70 RX1 yX1_livingRoot wsX1_livingRoot) := goodIn_app (goodIn_of _ (by decide +kernel)) ggX3_root_X1_livingRoot
theorem dX3_root_0 : decode cX3_root 0 = .ok (.aload_n 0, 1) := by decide +kernel
theorem dX3_root_1 : decode cX3_root 1 = .ok (.getfield 20, 3) := by decide +kernel
theorem dX3_root_4 : decode cX3_root 4 = .ok (.iload_n 1, 1) := by decide +kernel
theorem dX3_root_5 : decode cX3_root 5 = .ok (.invokevirtual 70, 3) := by decide +kernel
theorem dX3_root_8 : decode cX3_root 8 = .ok (.istore_n 2, 1) := by decide +kernel
theorem dX3_root_9 : decode cX3_root 9 = .ok (.iload_n 2, 1) := by decide +kernel
theorem dX3_root_10 : decode cX3_root 10 = .ok (.iconst (-1), 1) := by decide +kernel
theorem dX3_root_11 : decode cX3_root 11 = .ok (.if_icmp .ne 7, 3) := by decide +kernel
theorem dX3_root_14 : decode cX3_root 14 = .ok (.iconst (-1), 1) := by decide +kernel
theorem dX3_root_15 : decode cX3_root 15 = .ok (.goto 4, 3) := by decide +kernel
theorem dX3_root_18 : decode cX3_root 18 = .ok (.iload_n 2, 1) := by decide +kernel
theorem dX3_root_19 : decode cX3_root 19 = .ok (.ireturn, 1) := by decide +kernel
set_option maxRecDepth 20000 in
theorem ggX3_find_X3_canBeFound : GoodIn wsX3_find wsX3_canBeFound := goodIn_r _ [10, 11, 12, 9, 13, 14, 15, 16, 17, 18, 19] (by decide +kernel) (by decide +kernel)
set_option maxRecDepth 20000 in
theorem gX3_find_X3_canBeFound : GoodIn wsX3_find (va_wsS RX3 122 yX3_canBeFound wsX3_canBeFound) := goodIn_app (goodIn_of _ (by decide +kernel)) ggX3_find_X3_canBeFound
set_option maxRecDepth 20000 in
theorem ggX3_find_X2_clear : GoodIn wsX3_find wsX2_clear := goodIn_r _ [24, 25, 26, 73, 74, 75] (by decide +kernel) (by decide +kernel)
set_option maxRecDepth 20000 in
theorem gX3_find_X2_clear : GoodIn wsX3_find (wsV RX3 125 RX2 yX2_clear wsX2_clear) := goodIn_app (goodIn_of _ (by decide +kernel)) ggX3_find_X2_clear
set_option maxRecDepth 20000 in
theorem ggX3_find_X3_isFound : GoodIn wsX3_find wsX3_isFound := goodIn_r _ [30, 3, 31, 32, 33, 34, 35, 11, 12, 9, 13, 36, 37, 38, 39, 40, 41, 58, 59, 60, 61, 62, 63, 64, 65, 66, 67, 68, 69, 70, 71, 72] (by decide +kernel) (by decide +kernel)
set_option maxRecDepth 20000 in
theorem gX3_find_X3_isFound : GoodIn wsX3_find (wsV RX3 128 RX3 yX3_isFound wsX3_isFound) := goodIn_app (goodIn_of _ (by decide +kernel)) ggX3_find_X3_isFound
set_option maxRecDepth 20000 in
theorem ggX3_find_X3_scoreFound : GoodIn wsX3_find wsX3_scoreFound := goodIn_r _ [45, 3, 32, 46, 47, 48, 49, 50, 51, 52, 58, 59, 60, 61, 62, 63, 64, 65, 66, 67, 68, 69, 70, 71, 72] (by decide +kernel) (by decide +kernel)
set_option maxRecDepth 20000 in
theorem gX3_find_X3_scoreFound : GoodIn wsX3_find (wsV RX3 132 RX3 yX3_scoreFound wsX3_scoreFound) := goodIn_app (goodIn_of _ (by decide +kernel)) ggX3_find_X3_scoreFound
set_option maxRecDepth 20000 in
theorem ggX3_find_X2_put : GoodIn wsX3_find wsX2_put := goodIn_r _ [56, 25, 26, 57, 73, 74, 75] (by decide +kernel) (by decide +kernel)
set_option maxRecDepth 20000 in
theorem gX3_find_X2_put : GoodIn wsX3_find (wsV RX3 136 RX2 yX2_put wsX2_put) := goodIn_app (goodIn_of _ (by decide +kernel)) ggX3_find_X2_put
theorem dX3_find_0 : decode cX3_find 0 = .ok (.iload_n 1, 1) := by decide +kernel
theorem dX3_find_1 : decode cX3_find 1 = .ok (.iload_n 2, 1) := by decide +kernel
theorem dX3_find_2 : decode cX3_find 2 = .ok (.iload_n 3, 1) := by decide +kernel
theorem dX3_find_3 : decode cX3_find 3 = .ok (.invokestatic 122, 3) := by decide +kernel
theorem dX3_find_6 : decode cX3_find 6 = .ok (.ifCond .ne 6, 3) := by decide +kernel
theorem dX3_find_9 : decode cX3_find 9 = .ok (.bipush (-2), 2) := by decide +kernel
theorem dX3_find_11 : decode cX3_find 11 = .ok (.ireturn, 1) := by decide +kernel
theorem dX3_find_12 : decode cX3_find 12 = .ok (.aload_n 0, 1) := by decide +kernel
theorem dX3_find_13 : decode cX3_find 13 = .ok (.getfield 44, 3) := by decide +kernel
theorem dX3_find_16 : decode cX3_find 16 = .ok (.bipush 8, 2) := by decide +kernel
theorem dX3_find_18 : decode cX3_find 18 = .ok (.if_icmp .lt 6, 3) := by decide +kernel
theorem dX3_find_21 : decode cX3_find 21 = .ok (.bipush (-4), 2) := by decide +kernel
theorem dX3_find_23 : decode cX3_find 23 = .ok (.ireturn, 1) := by decide +kernel
theorem dX3_find_24 : decode cX3_find 24 = .ok (.aload_n 0, 1) := by decide +kernel
theorem dX3_find_25 : decode cX3_find 25 = .ok (.getfield 25, 3) := by decide +kernel
theorem dX3_find_28 : decode cX3_find 28 = .ok (.aload_n 0, 1) := by decide +kernel
theorem dX3_find_29 : decode cX3_find 29 = .ok (.getfield 44, 3) := by decide +kernel
theorem dX3_find_32 : decode cX3_find 32 = .ok (.aaload, 1) := by decide +kernel
theorem dX3_find_33 : decode cX3_find 33 = .ok (.astore 4, 2) := by decide +kernel
theorem dX3_find_35 : decode cX3_find 35 = .ok (.aload 4, 2) := by decide +kernel
theorem dX3_find_37 : decode cX3_find 37 = .ok (.invokevirtual 125, 3) := by decide +kernel
theorem dX3_find_40 : decode cX3_find 40 = .ok (.iconst 0, 1) := by decide +kernel
theorem dX3_find_41 : decode cX3_find 41 = .ok (.istore 5, 2) := by decide +kernel
theorem dX3_find_43 : decode cX3_find 43 = .ok (.iload 5, 2) := by decide +kernel
theorem dX3_find_45 : decode cX3_find 45 = .ok (.aload_n 0, 1) := by decide +kernel
theorem dX3_find_46 : decode cX3_find 46 = .ok (.getfield 20, 3) := by decide +kernel
theorem dX3_find_49 : decode cX3_find 49 = .ok (.getfield 59, 3) := by decide +kernel
theorem dX3_find_52 : decode cX3_find 52 = .ok (.if_icmp .ge 49, 3) := by decide +kernel
theorem dX3_find_55 : decode cX3_find 55 = .ok (.aload_n 0, 1) := by decide +kernel
theorem dX3_find_56 : decode cX3_find 56 = .ok (.getfield 20, 3) := by decide +kernel
theorem dX3_find_59 : decode cX3_find 59 = .ok (.getfield 112, 3) := by decide +kernel
theorem dX3_find_62 : decode cX3_find 62 = .ok (.iload 5, 2) := by decide +kernel
theorem dX3_find_64 : decode cX3_find 64 = .ok (.baload, 1) := by decide +kernel
theorem dX3_find_65 : decode cX3_find 65 = .ok (.ifCond .eq 30, 3) := by decide +kernel
theorem dX3_find_68 : decode cX3_find 68 = .ok (.aload_n 0, 1) := by decide +kernel
theorem dX3_find_69 : decode cX3_find 69 = .ok (.iload 5, 2) := by decide +kernel
theorem dX3_find_71 : decode cX3_find 71 = .ok (.iload_n 1, 1) := by decide +kernel
theorem dX3_find_72 : decode cX3_find 72 = .ok (.iload_n 2, 1) := by decide +kernel
theorem dX3_find_73 : decode cX3_find 73 = .ok (.iload_n 3, 1) := by decide +kernel
theorem dX3_find_74 : decode cX3_find 74 = .ok (.invokevirtual 128, 3) := by decide +kernel
theorem dX3_find_77 : decode cX3_find 77 = .ok (.ifCond .eq 18, 3) := by decide +kernel
theorem dX3_find_80 : decode cX3_find 80 = .ok (.aload 4, 2) := by decide +kernel
theorem dX3_find_82 : decode cX3_find 82 = .ok (.iload 5, 2) := by decide +kernel
theorem dX3_find_84 : decode cX3_find 84 = .ok (.aload_n 0, 1) := by decide +kernel
theorem dX3_find_85 : decode cX3_find 85 = .ok (.iload 5, 2) := by decide +kernel
theorem dX3_find_87 : decode cX3_find 87 = .ok (.iload_n 1, 1) := by decide +kernel
theorem dX3_find_88 : decode cX3_find 88 = .ok (.iload_n 2, 1) := by decide +kernel
theorem dX3_find_89 : decode cX3_find 89 = .ok (.invokevirtual 132, 3) := by decide +kernel
theorem dX3_find_92 : decode cX3_find 92 = .ok (.invokevirtual 136, 3) := by decide +kernel
theorem dX3_find_95 : decode cX3_find 95 = .ok (.iinc 5 1, 3) := by decide +kernel
theorem dX3_find_98 : decode cX3_find 98 = .ok (.goto (-55), 3) := by decide +kernel
theorem dX3_find_101 : decode cX3_find 101 = .ok (.aload_n 0, 1) := by decide +kernel
theorem dX3_find_102 : decode cX3_find 102 = .ok (.dup, 1) := by decide +kernel
theorem dX3_find_103 : decode cX3_find 103 = .ok (.getfield 44, 3) := by decide +kernel
theorem dX3_find_106 : decode cX3_find 106 = .ok (.iconst 1, 1) := by decide +kernel
theorem dX3_find_107 : decode cX3_find 107 = .ok (.iadd, 1) := by decide +kernel
theorem dX3_find_108 : decode cX3_find 108 = .ok (.putfield 44, 3) := by decide +kernel
theorem dX3_find_111 : decode cX3_find 111 = .ok (.aload 4, 2) := by decide +kernel
theorem dX3_find_113 : decode cX3_find 113 = .ok (.getfield 140, 3) := by decide +kernel
theorem dX3_find_116 : decode cX3_find 116 = .ok (.ireturn, 1) := by decide +kernel
set_option maxRecDepth 20000 in
theorem ggX3_join_X3_isWithin : GoodIn wsX3_join wsX3_isWithin := goodIn_r _ [7] (by decide +kernel) (by decide +kernel)
set_option maxRecDepth 20000 in
theorem gX3_join_X3_isWithin : GoodIn wsX3_join (va_wsS RX3 52 yX3_isWithin wsX3_isWithin) := goodIn_app (goodIn_of _ (by decide +kernel)) ggX3_join_X3_isWithin
set_option maxRecDepth 20000 in
theorem ggX3_join_X2_keepCommon : GoodIn wsX3_join wsX2_keepCommon := goodIn_r _ [12, 13, 14, 15, 16, 17, 11, 18, 19, 20, 21, 22, 23, 24, 25, 26, 27, 44, 45, 46] (by decide +kernel) (by decide +kernel)
set_option maxRecDepth 20000 in
theorem gX3_join_X2_keepCommon : GoodIn wsX3_join (wsV RX3 141 RX2 yX2_keepCommon wsX2_keepCommon) := goodIn_app (goodIn_of _ (by decide +kernel)) ggX3_join_X2_keepCommon
set_option maxRecDepth 20000 in
theorem ggX3_join_X2_addAll : GoodIn wsX3_join wsX2_addAll := goodIn_r _ [31, 13, 14, 20, 21, 22, 11, 23, 24, 25, 26, 27, 19, 44, 45, 46] (by decide +kernel) (by decide +kernel)
set_option maxRecDepth 20000 in
theorem gX3_join_X2_addAll : GoodIn wsX3_join (wsV RX3 145 RX2 yX2_addAll wsX2_addAll) := goodIn_app (goodIn_of _ (by decide +kernel)) ggX3_join_X2_addAll
set_option maxRecDepth 20000 in
theorem ggX3_join_X2_removeAll : GoodIn wsX3_join wsX2_removeAll := goodIn_r _ [35, 13, 15, 16, 17, 11, 18, 19, 44, 45, 46] (by decide +kernel) (by decide +kernel)
set_option maxRecDepth 20000 in
theorem gX3_join_X2_removeAll : GoodIn wsX3_join (wsV RX3 148 RX2 yX2_removeAll wsX2_removeAll) := goodIn_app (goodIn_of _ (by decide +kernel)) ggX3_join_X2_removeAll
theorem dX3_join_0 : decode cX3_join 0 = .ok (.iload_n 1, 1) := by decide +kernel
theorem dX3_join_1 : decode cX3_join 1 = .ok (.iconst 0, 1) := by decide +kernel
theorem dX3_join_2 : decode cX3_join 2 = .ok (.iconst 2, 1) := by decide +kernel
theorem dX3_join_3 : decode cX3_join 3 = .ok (.invokestatic 52, 3) := by decide +kernel
theorem dX3_join_6 : decode cX3_join 6 = .ok (.ifCond .ne 6, 3) := by decide +kernel
theorem dX3_join_9 : decode cX3_join 9 = .ok (.bipush (-2), 2) := by decide +kernel
theorem dX3_join_11 : decode cX3_join 11 = .ok (.ireturn, 1) := by decide +kernel
theorem dX3_join_12 : decode cX3_join 12 = .ok (.aload_n 0, 1) := by decide +kernel
theorem dX3_join_13 : decode cX3_join 13 = .ok (.getfield 44, 3) := by decide +kernel
theorem dX3_join_16 : decode cX3_join 16 = .ok (.iconst 2, 1) := by decide +kernel
theorem dX3_join_17 : decode cX3_join 17 = .ok (.if_icmp .ge 6, 3) := by decide +kernel
theorem dX3_join_20 : decode cX3_join 20 = .ok (.bipush (-3), 2) := by decide +kernel
theorem dX3_join_22 : decode cX3_join 22 = .ok (.ireturn, 1) := by decide +kernel
theorem dX3_join_23 : decode cX3_join 23 = .ok (.aload_n 0, 1) := by decide +kernel
theorem dX3_join_24 : decode cX3_join 24 = .ok (.getfield 25, 3) := by decide +kernel
theorem dX3_join_27 : decode cX3_join 27 = .ok (.aload_n 0, 1) := by decide +kernel
theorem dX3_join_28 : decode cX3_join 28 = .ok (.getfield 44, 3) := by decide +kernel
theorem dX3_join_31 : decode cX3_join 31 = .ok (.iconst 2, 1) := by decide +kernel
theorem dX3_join_32 : decode cX3_join 32 = .ok (.isub, 1) := by decide +kernel
theorem dX3_join_33 : decode cX3_join 33 = .ok (.aaload, 1) := by decide +kernel
theorem dX3_join_34 : decode cX3_join 34 = .ok (.astore_n 2, 1) := by decide +kernel
theorem dX3_join_35 : decode cX3_join 35 = .ok (.aload_n 0, 1) := by decide +kernel
theorem dX3_join_36 : decode cX3_join 36 = .ok (.getfield 25, 3) := by decide +kernel
theorem dX3_join_39 : decode cX3_join 39 = .ok (.aload_n 0, 1) := by decide +kernel
theorem dX3_join_40 : decode cX3_join 40 = .ok (.getfield 44, 3) := by decide +kernel
theorem dX3_join_43 : decode cX3_join 43 = .ok (.iconst 1, 1) := by decide +kernel
theorem dX3_join_44 : decode cX3_join 44 = .ok (.isub, 1) := by decide +kernel
theorem dX3_join_45 : decode cX3_join 45 = .ok (.aaload, 1) := by decide +kernel
theorem dX3_join_46 : decode cX3_join 46 = .ok (.astore_n 3, 1) := by decide +kernel
theorem dX3_join_47 : decode cX3_join 47 = .ok (.iload_n 1, 1) := by decide +kernel
theorem dX3_join_48 : decode cX3_join 48 = .ok (.lookupswitch 44 #[(0, 28), (1, 36)], 28) := by decide +kernel
theorem dX3_join_76 : decode cX3_join 76 = .ok (.aload_n 2, 1) := by decide +kernel
theorem dX3_join_77 : decode cX3_join 77 = .ok (.aload_n 3, 1) := by decide +kernel
theorem dX3_join_78 : decode cX3_join 78 = .ok (.invokevirtual 141, 3) := by decide +kernel
theorem dX3_join_81 : decode cX3_join 81 = .ok (.goto 16, 3) := by decide +kernel
theorem dX3_join_84 : decode cX3_join 84 = .ok (.aload_n 2, 1) := by decide +kernel
theorem dX3_join_85 : decode cX3_join 85 = .ok (.aload_n 3, 1) := by decide +kernel
theorem dX3_join_86 : decode cX3_join 86 = .ok (.invokevirtual 145, 3) := by decide +kernel
theorem dX3_join_89 : decode cX3_join 89 = .ok (.goto 8, 3) := by decide +kernel
theorem dX3_join_92 : decode cX3_join 92 = .ok (.aload_n 2, 1) := by decide +kernel
theorem dX3_join_93 : decode cX3_join 93 = .ok (.aload_n 3, 1) := by decide +kernel
theorem dX3_join_94 : decode cX3_join 94 = .ok (.invokevirtual 148, 3) := by decide +kernel
theorem dX3_join_97 : decode cX3_join 97 = .ok (.aload_n 0, 1) := by decide +kernel
theorem dX3_join_98 : decode cX3_join 98 = .ok (.dup, 1) := by decide +kernel
theorem dX3_join_99 : decode cX3_join 99 = .ok (.getfield 44, 3) := by decide +kernel
theorem dX3_join_102 : decode cX3_join 102 = .ok (.iconst 1, 1) := by decide +kernel
theorem dX3_join_103 : decode cX3_join 103 = .ok (.isub, 1) := by decide +kernel
theorem dX3_join_104 : decode cX3_join 104 = .ok (.putfield 44, 3) := by decide +kernel
theorem dX3_join_107 : decode cX3_join 107 = .ok (.aload_n 2, 1) := by decide +kernel
theorem dX3_join_108 : decode cX3_join 108 = .ok (.getfield 140, 3) := by decide +kernel
theorem dX3_join_111 : decode cX3_join 111 = .ok (.ireturn, 1) := by decide +kernel
set_option maxRecDepth 20000 in
theorem ggX3_up_X3_isWithin : GoodIn wsX3_up wsX3_isWithin := goodIn_r _ [12] (by decide +kernel) (by decide +kernel)
set_option maxRecDepth 20000 in
theorem gX3_up_X3_isWithin : GoodIn wsX3_up (va_wsS RX3 52 yX3_isWithin wsX3_isWithin) := goodIn_app (goodIn_of _ (by decide +kernel)) ggX3_up_X3_isWithin
set_option maxRecDepth 20000 in
theorem ggX3_up_X2_moveTo : GoodIn wsX3_up wsX2_moveTo := goodIn_r _ [17, 18, 19, 20, 16, 21, 22, 23, 24, 25, 26, 27, 28, 29, 30, 31, 32, 33, 34, 35, 36, 78, 79, 80] (by decide +kernel) (by decide +kernel)
set_option maxRecDepth 20000 in
theorem gX3_up_X2_moveTo : GoodIn wsX3_up (wsV RX3 151 RX2 yX2_moveTo wsX2_moveTo) := goodIn_app (goodIn_of _ (by decide +kernel)) ggX3_up_X2_moveTo
set_option maxRecDepth 20000 in
theorem ggX3_up_X3_gatherBelow : GoodIn wsX3_up wsX3_gatherBelow := goodIn_r _ [40, 5, 3, 41, 42, 43, 44, 45, 46, 47, 48, 49, 50, 16, 51, 22, 52, 53, 11, 54, 55, 56, 57, 58, 59, 60, 61, 62, 34, 35, 36, 23, 28, 63, 64, 65, 66, 67, 68, 69, 70, 78, 79, 80, 71, 72, 73, 74, 75, 76, 77] (by decide +kernel) (by decide +kernel)
set_option maxRecDepth 20000 in
theorem gX3_up_X3_gatherBelow : GoodIn wsX3_up (wsV RX3 154 RX3 yX3_gatherBelow wsX3_gatherBelow) := goodIn_app (goodIn_of _ (by decide +kernel)) ggX3_up_X3_gatherBelow
theorem dX3_up_0 : decode cX3_up 0 = .ok (.iload_n 1, 1) := by decide +kernel
theorem dX3_up_1 : decode cX3_up 1 = .ok (.iconst 1, 1) := by decide +kernel
theorem dX3_up_2 : decode cX3_up 2 = .ok (.iconst 2, 1) := by decide +kernel
theorem dX3_up_3 : decode cX3_up 3 = .ok (.invokestatic 52, 3) := by decide +kernel
theorem dX3_up_6 : decode cX3_up 6 = .ok (.ifCond .eq 12, 3) := by decide +kernel
theorem dX3_up_9 : decode cX3_up 9 = .ok (.iload_n 2, 1) := by decide +kernel
theorem dX3_up_10 : decode cX3_up 10 = .ok (.iconst 0, 1) := by decide +kernel
theorem dX3_up_11 : decode cX3_up 11 = .ok (.iconst 4, 1) := by decide +kernel
theorem dX3_up_12 : decode cX3_up 12 = .ok (.invokestatic 52, 3) := by decide +kernel
theorem dX3_up_15 : decode cX3_up 15 = .ok (.ifCond .ne 6, 3) := by decide +kernel
theorem dX3_up_18 : decode cX3_up 18 = .ok (.bipush (-2), 2) := by decide +kernel
theorem dX3_up_20 : decode cX3_up 20 = .ok (.ireturn, 1) := by decide +kernel
theorem dX3_up_21 : decode cX3_up 21 = .ok (.aload_n 0, 1) := by decide +kernel
theorem dX3_up_22 : decode cX3_up 22 = .ok (.getfield 44, 3) := by decide +kernel
theorem dX3_up_25 : decode cX3_up 25 = .ok (.iconst 1, 1) := by decide +kernel
theorem dX3_up_26 : decode cX3_up 26 = .ok (.if_icmp .ge 6, 3) := by decide +kernel
theorem dX3_up_29 : decode cX3_up 29 = .ok (.bipush (-3), 2) := by decide +kernel
theorem dX3_up_31 : decode cX3_up 31 = .ok (.ireturn, 1) := by decide +kernel
theorem dX3_up_32 : decode cX3_up 32 = .ok (.aload_n 0, 1) := by decide +kernel
theorem dX3_up_33 : decode cX3_up 33 = .ok (.getfield 25, 3) := by decide +kernel
theorem dX3_up_36 : decode cX3_up 36 = .ok (.aload_n 0, 1) := by decide +kernel
theorem dX3_up_37 : decode cX3_up 37 = .ok (.getfield 44, 3) := by decide +kernel
theorem dX3_up_40 : decode cX3_up 40 = .ok (.iconst 1, 1) := by decide +kernel
theorem dX3_up_41 : decode cX3_up 41 = .ok (.isub, 1) := by decide +kernel
theorem dX3_up_42 : decode cX3_up 42 = .ok (.aaload, 1) := by decide +kernel
theorem dX3_up_43 : decode cX3_up 43 = .ok (.astore_n 3, 1) := by decide +kernel
theorem dX3_up_44 : decode cX3_up 44 = .ok (.aload_n 3, 1) := by decide +kernel
theorem dX3_up_45 : decode cX3_up 45 = .ok (.aload_n 0, 1) := by decide +kernel
theorem dX3_up_46 : decode cX3_up 46 = .ok (.getfield 34, 3) := by decide +kernel
theorem dX3_up_49 : decode cX3_up 49 = .ok (.invokevirtual 151, 3) := by decide +kernel
theorem dX3_up_52 : decode cX3_up 52 = .ok (.aload_n 0, 1) := by decide +kernel
theorem dX3_up_53 : decode cX3_up 53 = .ok (.iconst 1, 1) := by decide +kernel
theorem dX3_up_54 : decode cX3_up 54 = .ok (.putfield 48, 3) := by decide +kernel
theorem dX3_up_57 : decode cX3_up 57 = .ok (.iconst 0, 1) := by decide +kernel
theorem dX3_up_58 : decode cX3_up 58 = .ok (.istore 4, 2) := by decide +kernel
theorem dX3_up_60 : decode cX3_up 60 = .ok (.iload 4, 2) := by decide +kernel
theorem dX3_up_62 : decode cX3_up 62 = .ok (.aload_n 0, 1) := by decide +kernel
theorem dX3_up_63 : decode cX3_up 63 = .ok (.getfield 20, 3) := by decide +kernel
theorem dX3_up_66 : decode cX3_up 66 = .ok (.getfield 59, 3) := by decide +kernel
theorem dX3_up_69 : decode cX3_up 69 = .ok (.if_icmp .ge 31, 3) := by decide +kernel
theorem dX3_up_72 : decode cX3_up 72 = .ok (.aload_n 0, 1) := by decide +kernel
theorem dX3_up_73 : decode cX3_up 73 = .ok (.getfield 20, 3) := by decide +kernel
theorem dX3_up_76 : decode cX3_up 76 = .ok (.getfield 90, 3) := by decide +kernel
theorem dX3_up_79 : decode cX3_up 79 = .ok (.iload 4, 2) := by decide +kernel
theorem dX3_up_81 : decode cX3_up 81 = .ok (.iaload, 1) := by decide +kernel
theorem dX3_up_82 : decode cX3_up 82 = .ok (.iload_n 1, 1) := by decide +kernel
theorem dX3_up_83 : decode cX3_up 83 = .ok (.if_icmp .ne 11, 3) := by decide +kernel
theorem dX3_up_86 : decode cX3_up 86 = .ok (.aload_n 0, 1) := by decide +kernel
theorem dX3_up_87 : decode cX3_up 87 = .ok (.iload 4, 2) := by decide +kernel
theorem dX3_up_89 : decode cX3_up 89 = .ok (.iload_n 2, 1) := by decide +kernel
theorem dX3_up_90 : decode cX3_up 90 = .ok (.aload_n 3, 1) := by decide +kernel
theorem dX3_up_91 : decode cX3_up 91 = .ok (.invokevirtual 154, 3) := by decide +kernel
theorem dX3_up_94 : decode cX3_up 94 = .ok (.iinc 4 1, 3) := by decide +kernel
theorem dX3_up_97 : decode cX3_up 97 = .ok (.goto (-37), 3) := by decide +kernel
theorem dX3_up_100 : decode cX3_up 100 = .ok (.aload_n 3, 1) := by decide +kernel
theorem dX3_up_101 : decode cX3_up 101 = .ok (.getfield 140, 3) := by decide +kernel
theorem dX3_up_104 : decode cX3_up 104 = .ok (.ireturn, 1) := by decide +kernel
set_option maxRecDepth 20000 in
theorem ggX3_down_X3_isWithin : GoodIn wsX3_down wsX3_isWithin := goodIn_r _ [10] (by decide +kernel) (by decide +kernel)
set_option maxRecDepth 20000 in
theorem gX3_down_X3_isWithin : GoodIn wsX3_down (va_wsS RX3 52 yX3_isWithin wsX3_isWithin) := goodIn_app (goodIn_of _ (by decide +kernel)) ggX3_down_X3_isWithin
set_option maxRecDepth 20000 in
theorem ggX3_down_X2_moveTo : GoodIn wsX3_down wsX2_moveTo := goodIn_r _ [15, 16, 17, 18, 14, 19, 20, 21, 22, 23, 24, 25, 26, 27, 28, 29, 30, 31, 32, 33, 34, 67, 68, 69] (by decide +kernel) (by decide +kernel)
set_option maxRecDepth 20000 in
theorem gX3_down_X2_moveTo : GoodIn wsX3_down (wsV RX3 151 RX2 yX2_moveTo wsX2_moveTo) := goodIn_app (goodIn_of _ (by decide +kernel)) ggX3_down_X2_moveTo
set_option maxRecDepth 20000 in
theorem ggX3_down_X2_has : GoodIn wsX3_down wsX2_has := goodIn_r _ [38, 20, 67, 68, 69] (by decide +kernel) (by decide +kernel)
set_option maxRecDepth 20000 in
theorem gX3_down_X2_has : GoodIn wsX3_down (wsV RX3 158 RX2 yX2_has wsX2_has) := goodIn_app (goodIn_of _ (by decide +kernel)) ggX3_down_X2_has
set_option maxRecDepth 20000 in
theorem ggX3_down_X3_spreadBelow : GoodIn wsX3_down wsX3_spreadBelow := goodIn_r _ [42, 4, 43, 3, 44, 45, 46, 47, 48, 49, 50, 51, 28, 29, 14, 30, 20, 26, 31, 32, 33, 34, 21, 52, 53, 54, 55, 56, 57, 58, 59, 60, 61, 62, 63, 64, 65, 66, 67, 68, 69] (by decide +kernel) (by decide +kernel)
set_option maxRecDepth 20000 in
theorem gX3_down_X3_spreadBelow : GoodIn wsX3_down (wsV RX3 161 RX3 yX3_spreadBelow wsX3_spreadBelow) := goodIn_app (goodIn_of _ (by decide +kernel)) ggX3_down_X3_spreadBelow
theorem dX3_down_0 : decode cX3_down 0 = .ok (.iload_n 1, 1) := by decide +kernel
theorem dX3_down_1 : decode cX3_down 1 = .ok (.iconst 0, 1) := by decide +kernel
theorem dX3_down_2 : decode cX3_down 2 = .ok (.iconst 1, 1) := by decide +kernel
theorem dX3_down_3 : decode cX3_down 3 = .ok (.invokestatic 52, 3) := by decide +kernel
theorem dX3_down_6 : decode cX3_down 6 = .ok (.ifCond .ne 6, 3) := by decide +kernel
theorem dX3_down_9 : decode cX3_down 9 = .ok (.bipush (-2), 2) := by decide +kernel
theorem dX3_down_11 : decode cX3_down 11 = .ok (.ireturn, 1) := by decide +kernel
theorem dX3_down_12 : decode cX3_down 12 = .ok (.aload_n 0, 1) := by decide +kernel
theorem dX3_down_13 : decode cX3_down 13 = .ok (.getfield 44, 3) := by decide +kernel
theorem dX3_down_16 : decode cX3_down 16 = .ok (.iconst 1, 1) := by decide +kernel
theorem dX3_down_17 : decode cX3_down 17 = .ok (.if_icmp .ge 6, 3) := by decide +kernel
theorem dX3_down_20 : decode cX3_down 20 = .ok (.bipush (-3), 2) := by decide +kernel
theorem dX3_down_22 : decode cX3_down 22 = .ok (.ireturn, 1) := by decide +kernel
theorem dX3_down_23 : decode cX3_down 23 = .ok (.aload_n 0, 1) := by decide +kernel
theorem dX3_down_24 : decode cX3_down 24 = .ok (.getfield 25, 3) := by decide +kernel
theorem dX3_down_27 : decode cX3_down 27 = .ok (.aload_n 0, 1) := by decide +kernel
theorem dX3_down_28 : decode cX3_down 28 = .ok (.getfield 44, 3) := by decide +kernel
theorem dX3_down_31 : decode cX3_down 31 = .ok (.iconst 1, 1) := by decide +kernel
theorem dX3_down_32 : decode cX3_down 32 = .ok (.isub, 1) := by decide +kernel
theorem dX3_down_33 : decode cX3_down 33 = .ok (.aaload, 1) := by decide +kernel
theorem dX3_down_34 : decode cX3_down 34 = .ok (.astore_n 2, 1) := by decide +kernel
theorem dX3_down_35 : decode cX3_down 35 = .ok (.aload_n 2, 1) := by decide +kernel
theorem dX3_down_36 : decode cX3_down 36 = .ok (.aload_n 0, 1) := by decide +kernel
theorem dX3_down_37 : decode cX3_down 37 = .ok (.getfield 30, 3) := by decide +kernel
theorem dX3_down_40 : decode cX3_down 40 = .ok (.invokevirtual 151, 3) := by decide +kernel
theorem dX3_down_43 : decode cX3_down 43 = .ok (.iconst 0, 1) := by decide +kernel
theorem dX3_down_44 : decode cX3_down 44 = .ok (.istore_n 3, 1) := by decide +kernel
theorem dX3_down_45 : decode cX3_down 45 = .ok (.iload_n 3, 1) := by decide +kernel
theorem dX3_down_46 : decode cX3_down 46 = .ok (.aload_n 0, 1) := by decide +kernel
theorem dX3_down_47 : decode cX3_down 47 = .ok (.getfield 20, 3) := by decide +kernel
theorem dX3_down_50 : decode cX3_down 50 = .ok (.getfield 59, 3) := by decide +kernel
theorem dX3_down_53 : decode cX3_down 53 = .ok (.if_icmp .ge 27, 3) := by decide +kernel
theorem dX3_down_56 : decode cX3_down 56 = .ok (.aload_n 0, 1) := by decide +kernel
theorem dX3_down_57 : decode cX3_down 57 = .ok (.getfield 30, 3) := by decide +kernel
theorem dX3_down_60 : decode cX3_down 60 = .ok (.iload_n 3, 1) := by decide +kernel
theorem dX3_down_61 : decode cX3_down 61 = .ok (.invokevirtual 158, 3) := by decide +kernel
theorem dX3_down_64 : decode cX3_down 64 = .ok (.ifCond .eq 10, 3) := by decide +kernel
theorem dX3_down_67 : decode cX3_down 67 = .ok (.aload_n 0, 1) := by decide +kernel
theorem dX3_down_68 : decode cX3_down 68 = .ok (.iload_n 3, 1) := by decide +kernel
theorem dX3_down_69 : decode cX3_down 69 = .ok (.iload_n 1, 1) := by decide +kernel
theorem dX3_down_70 : decode cX3_down 70 = .ok (.aload_n 2, 1) := by decide +kernel
theorem dX3_down_71 : decode cX3_down 71 = .ok (.invokevirtual 161, 3) := by decide +kernel
theorem dX3_down_74 : decode cX3_down 74 = .ok (.iinc 3 1, 3) := by decide +kernel
theorem dX3_down_77 : decode cX3_down 77 = .ok (.goto (-32), 3) := by decide +kernel
theorem dX3_down_80 : decode cX3_down 80 = .ok (.aload_n 2, 1) := by decide +kernel
theorem dX3_down_81 : decode cX3_down 81 = .ok (.getfield 140, 3) := by decide +kernel
theorem dX3_down_84 : decode cX3_down 84 = .ok (.ireturn, 1) := by decide +kernel
set_option maxRecDepth 20000 in
theorem ggX3_over_X2_moveTo : GoodIn wsX3_over wsX2_moveTo := goodIn_r _ [11, 12, 13, 14, 10, 15, 16, 17, 18, 19, 20, 21, 22, 23, 24, 25, 26, 27, 28, 29, 30, 66, 67, 68] (by decide +kernel) (by decide +kernel)
set_option maxRecDepth 20000 in
theorem gX3_over_X2_moveTo : GoodIn wsX3_over (wsV RX3 151 RX2 yX2_moveTo wsX2_moveTo) := goodIn_app (goodIn_of _ (by decide +kernel)) ggX3_over_X2_moveTo
set_option maxRecDepth 20000 in
theorem ggX3_over_X2_has : GoodIn wsX3_over wsX2_has := goodIn_r _ [34, 16, 66, 67, 68] (by decide +kernel) (by decide +kernel)
set_option maxRecDepth 20000 in
theorem gX3_over_X2_has : GoodIn wsX3_over (wsV RX3 158 RX2 yX2_has wsX2_has) := goodIn_app (goodIn_of _ (by decide +kernel)) ggX3_over_X2_has
set_option maxRecDepth 20000 in
theorem ggX3_over_X1_isRoot : GoodIn wsX3_over wsX1_isRoot := goodIn_r _ [39, 40, 59, 60, 61, 62, 63, 64, 65] (by decide +kernel) (by decide +kernel)
set_option maxRecDepth 20000 in
theorem gX3_over_X1_isRoot : GoodIn wsX3_over (wsV RX3 103 RX1 yX1_isRoot wsX1_isRoot) := goodIn_app (goodIn_of _ (by decide +kernel)) ggX3_over_X1_isRoot
set_option maxRecDepth 20000 in
theorem ggX3_over_X3_spreadToLinked : GoodIn wsX3_over wsX3_spreadToLinked := goodIn_r _ [45, 4, 5, 46, 47, 48, 3, 49, 50, 28, 29, 10, 30, 16, 17, 22, 51, 52, 53, 54, 55, 56, 57, 58, 59, 60, 61, 62, 63, 64, 65, 66, 67, 68] (by decide +kernel) (by decide +kernel)
set_option maxRecDepth 20000 in
theorem gX3_over_X3_spreadToLinked : GoodIn wsX3_over (wsV RX3 164 RX3 yX3_spreadToLinked wsX3_spreadToLinked) := goodIn_app (goodIn_of _ (by decide +kernel)) ggX3_over_X3_spreadToLinked
theorem dX3_over_0 : decode cX3_over 0 = .ok (.aload_n 0, 1) := by decide +kernel
theorem dX3_over_1 : decode cX3_over 1 = .ok (.getfield 44, 3) := by decide +kernel
theorem dX3_over_4 : decode cX3_over 4 = .ok (.iconst 1, 1) := by decide +kernel
theorem dX3_over_5 : decode cX3_over 5 = .ok (.if_icmp .ge 6, 3) := by decide +kernel
theorem dX3_over_8 : decode cX3_over 8 = .ok (.bipush (-3), 2) := by decide +kernel
theorem dX3_over_10 : decode cX3_over 10 = .ok (.ireturn, 1) := by decide +kernel
theorem dX3_over_11 : decode cX3_over 11 = .ok (.aload_n 0, 1) := by decide +kernel
theorem dX3_over_12 : decode cX3_over 12 = .ok (.getfield 25, 3) := by decide +kernel
theorem dX3_over_15 : decode cX3_over 15 = .ok (.aload_n 0, 1) := by decide +kernel
theorem dX3_over_16 : decode cX3_over 16 = .ok (.getfield 44, 3) := by decide +kernel
theorem dX3_over_19 : decode cX3_over 19 = .ok (.iconst 1, 1) := by decide +kernel
theorem dX3_over_20 : decode cX3_over 20 = .ok (.isub, 1) := by decide +kernel
theorem dX3_over_21 : decode cX3_over 21 = .ok (.aaload, 1) := by decide +kernel
theorem dX3_over_22 : decode cX3_over 22 = .ok (.astore_n 1, 1) := by decide +kernel
theorem dX3_over_23 : decode cX3_over 23 = .ok (.aload_n 1, 1) := by decide +kernel
theorem dX3_over_24 : decode cX3_over 24 = .ok (.aload_n 0, 1) := by decide +kernel
theorem dX3_over_25 : decode cX3_over 25 = .ok (.getfield 30, 3) := by decide +kernel
theorem dX3_over_28 : decode cX3_over 28 = .ok (.invokevirtual 151, 3) := by decide +kernel
theorem dX3_over_31 : decode cX3_over 31 = .ok (.iconst 0, 1) := by decide +kernel
theorem dX3_over_32 : decode cX3_over 32 = .ok (.istore_n 2, 1) := by decide +kernel
theorem dX3_over_33 : decode cX3_over 33 = .ok (.iload_n 2, 1) := by decide +kernel
theorem dX3_over_34 : decode cX3_over 34 = .ok (.aload_n 0, 1) := by decide +kernel
theorem dX3_over_35 : decode cX3_over 35 = .ok (.getfield 20, 3) := by decide +kernel
theorem dX3_over_38 : decode cX3_over 38 = .ok (.getfield 59, 3) := by decide +kernel
theorem dX3_over_41 : decode cX3_over 41 = .ok (.if_icmp .ge 37, 3) := by decide +kernel
theorem dX3_over_44 : decode cX3_over 44 = .ok (.aload_n 0, 1) := by decide +kernel
theorem dX3_over_45 : decode cX3_over 45 = .ok (.getfield 30, 3) := by decide +kernel
theorem dX3_over_48 : decode cX3_over 48 = .ok (.iload_n 2, 1) := by decide +kernel
theorem dX3_over_49 : decode cX3_over 49 = .ok (.invokevirtual 158, 3) := by decide +kernel
theorem dX3_over_52 : decode cX3_over 52 = .ok (.ifCond .eq 20, 3) := by decide +kernel
theorem dX3_over_55 : decode cX3_over 55 = .ok (.aload_n 0, 1) := by decide +kernel
theorem dX3_over_56 : decode cX3_over 56 = .ok (.getfield 20, 3) := by decide +kernel
theorem dX3_over_59 : decode cX3_over 59 = .ok (.iload_n 2, 1) := by decide +kernel
theorem dX3_over_60 : decode cX3_over 60 = .ok (.invokevirtual 103, 3) := by decide +kernel
theorem dX3_over_63 : decode cX3_over 63 = .ok (.ifCond .eq 9, 3) := by decide +kernel
theorem dX3_over_66 : decode cX3_over 66 = .ok (.aload_n 0, 1) := by decide +kernel
theorem dX3_over_67 : decode cX3_over 67 = .ok (.iload_n 2, 1) := by decide +kernel
theorem dX3_over_68 : decode cX3_over 68 = .ok (.aload_n 1, 1) := by decide +kernel
theorem dX3_over_69 : decode cX3_over 69 = .ok (.invokevirtual 164, 3) := by decide +kernel
theorem dX3_over_72 : decode cX3_over 72 = .ok (.iinc 2 1, 3) := by decide +kernel
theorem dX3_over_75 : decode cX3_over 75 = .ok (.goto (-42), 3) := by decide +kernel
theorem dX3_over_78 : decode cX3_over 78 = .ok (.aload_n 1, 1) := by decide +kernel
theorem dX3_over_79 : decode cX3_over 79 = .ok (.getfield 140, 3) := by decide +kernel
theorem dX3_over_82 : decode cX3_over 82 = .ok (.ireturn, 1) := by decide +kernel
set_option maxRecDepth 20000 in
theorem ggX3_again_X2_clear : GoodIn wsX3_again wsX2_clear := goodIn_r _ [7, 8, 9, 31, 32, 33] (by decide +kernel) (by decide +kernel)
set_option maxRecDepth 20000 in
theorem gX3_again_X2_clear : GoodIn wsX3_again (wsV RX3 125 RX2 yX2_clear wsX2_clear) := goodIn_app (goodIn_of _ (by decide +kernel)) ggX3_again_X2_clear
set_option maxRecDepth 20000 in
theorem ggX3_again_X2_addAll : GoodIn wsX3_again wsX2_addAll := goodIn_r _ [13, 8, 14, 15, 16, 17, 6, 18, 19, 20, 21, 22, 9, 31, 32, 33] (by decide +kernel) (by decide +kernel)
set_option maxRecDepth 20000 in
theorem gX3_again_X2_addAll : GoodIn wsX3_again (wsV RX3 145 RX2 yX2_addAll wsX2_addAll) := goodIn_app (goodIn_of _ (by decide +kernel)) ggX3_again_X2_addAll
theorem dX3_again_0 : decode cX3_again 0 = .ok (.aload_n 0, 1) := by decide +kernel
theorem dX3_again_1 : decode cX3_again 1 = .ok (.getfield 44, 3) := by decide +kernel
theorem dX3_again_4 : decode cX3_again 4 = .ok (.iconst 1, 1) := by decide +kernel
theorem dX3_again_5 : decode cX3_again 5 = .ok (.if_icmp .ge 6, 3) := by decide +kernel
theorem dX3_again_8 : decode cX3_again 8 = .ok (.bipush (-3), 2) := by decide +kernel
theorem dX3_again_10 : decode cX3_again 10 = .ok (.ireturn, 1) := by decide +kernel
theorem dX3_again_11 : decode cX3_again 11 = .ok (.aload_n 0, 1) := by decide +kernel
theorem dX3_again_12 : decode cX3_again 12 = .ok (.getfield 44, 3) := by decide +kernel
theorem dX3_again_15 : decode cX3_again 15 = .ok (.bipush 8, 2) := by decide +kernel
theorem dX3_again_17 : decode cX3_again 17 = .ok (.if_icmp .lt 6, 3) := by decide +kernel
theorem dX3_again_20 : decode cX3_again 20 = .ok (.bipush (-4), 2) := by decide +kernel
theorem dX3_again_22 : decode cX3_again 22 = .ok (.ireturn, 1) := by decide +kernel
theorem dX3_again_23 : decode cX3_again 23 = .ok (.aload_n 0, 1) := by decide +kernel
theorem dX3_again_24 : decode cX3_again 24 = .ok (.getfield 25, 3) := by decide +kernel
theorem dX3_again_27 : decode cX3_again 27 = .ok (.aload_n 0, 1) := by decide +kernel
theorem dX3_again_28 : decode cX3_again 28 = .ok (.getfield 44, 3) := by decide +kernel
theorem dX3_again_31 : decode cX3_again 31 = .ok (.aaload, 1) := by decide +kernel
theorem dX3_again_32 : decode cX3_again 32 = .ok (.astore_n 1, 1) := by decide +kernel
theorem dX3_again_33 : decode cX3_again 33 = .ok (.aload_n 1, 1) := by decide +kernel
theorem dX3_again_34 : decode cX3_again 34 = .ok (.invokevirtual 125, 3) := by decide +kernel
theorem dX3_again_37 : decode cX3_again 37 = .ok (.aload_n 1, 1) := by decide +kernel
theorem dX3_again_38 : decode cX3_again 38 = .ok (.aload_n 0, 1) := by decide +kernel
theorem dX3_again_39 : decode cX3_again 39 = .ok (.getfield 25, 3) := by decide +kernel
theorem dX3_again_42 : decode cX3_again 42 = .ok (.aload_n 0, 1) := by decide +kernel
theorem dX3_again_43 : decode cX3_again 43 = .ok (.getfield 44, 3) := by decide +kernel
theorem dX3_again_46 : decode cX3_again 46 = .ok (.iconst 1, 1) := by decide +kernel
theorem dX3_again_47 : decode cX3_again 47 = .ok (.isub, 1) := by decide +kernel
theorem dX3_again_48 : decode cX3_again 48 = .ok (.aaload, 1) := by decide +kernel
theorem dX3_again_49 : decode cX3_again 49 = .ok (.invokevirtual 145, 3) := by decide +kernel
theorem dX3_again_52 : decode cX3_again 52 = .ok (.aload_n 0, 1) := by decide +kernel
theorem dX3_again_53 : decode cX3_again 53 = .ok (.dup, 1) := by decide +kernel
theorem dX3_again_54 : decode cX3_again 54 = .ok (.getfield 44, 3) := by decide +kernel
theorem dX3_again_57 : decode cX3_again 57 = .ok (.iconst 1, 1) := by decide +kernel
theorem dX3_again_58 : decode cX3_again 58 = .ok (.iadd, 1) := by decide +kernel
theorem dX3_again_59 : decode cX3_again 59 = .ok (.putfield 44, 3) := by decide +kernel
theorem dX3_again_62 : decode cX3_again 62 = .ok (.aload_n 0, 1) := by decide +kernel
theorem dX3_again_63 : decode cX3_again 63 = .ok (.getfield 44, 3) := by decide +kernel
theorem dX3_again_66 : decode cX3_again 66 = .ok (.ireturn, 1) := by decide +kernel
theorem dX3_pop_0 : decode cX3_pop 0 = .ok (.aload_n 0, 1) := by decide +kernel
theorem dX3_pop_1 : decode cX3_pop 1 = .ok (.getfield 44, 3) := by decide +kernel
theorem dX3_pop_4 : decode cX3_pop 4 = .ok (.iconst 1, 1) := by decide +kernel
theorem dX3_pop_5 : decode cX3_pop 5 = .ok (.if_icmp .ge 6, 3) := by decide +kernel
theorem dX3_pop_8 : decode cX3_pop 8 = .ok (.bipush (-3), 2) := by decide +kernel
theorem dX3_pop_10 : decode cX3_pop 10 = .ok (.ireturn, 1) := by decide +kernel
theorem dX3_pop_11 : decode cX3_pop 11 = .ok (.aload_n 0, 1) := by decide +kernel
theorem dX3_pop_12 : decode cX3_pop 12 = .ok (.dup, 1) := by decide +kernel
theorem dX3_pop_13 : decode cX3_pop 13 = .ok (.getfield 44, 3) := by decide +kernel
theorem dX3_pop_16 : decode cX3_pop 16 = .ok (.iconst 1, 1) := by decide +kernel
theorem dX3_pop_17 : decode cX3_pop 17 = .ok (.isub, 1) := by decide +kernel
theorem dX3_pop_18 : decode cX3_pop 18 = .ok (.putfield 44, 3) := by decide +kernel
theorem dX3_pop_21 : decode cX3_pop 21 = .ok (.aload_n 0, 1) := by decide +kernel
theorem dX3_pop_22 : decode cX3_pop 22 = .ok (.getfield 44, 3) := by decide +kernel
theorem dX3_pop_25 : decode cX3_pop 25 = .ok (.ireturn, 1) := by decide +kernel
set_option maxRecDepth 20000 in
theorem ggX3_hit_X0_rank : GoodIn wsX3_hit wsX0_rank := goodIn_r _ [10, 11, 12, 13, 14, 15, 16, 17, 18, 19, 20, 21, 9, 22, 23, 24, 25, 26, 27, 28, 29, 30, 31, 32, 33, 34, 35, 36, 59, 60, 61, 62, 63, 64] (by decide +kernel) (by decide +kernel)
set_option maxRecDepth 20000 in
theorem gX3_hit_X0_rank : GoodIn wsX3_hit (wsV RX3 168 RX0 yX0_rank wsX0_rank) := goodIn_app (goodIn_of _ (by decide +kernel)) ggX3_hit_X0_rank
set_option maxRecDepth 20000 in
theorem ggX3_hit_X3_answerRanked : GoodIn wsX3_hit wsX3_answerRanked := goodIn_r _ [41, 2, 42, 43, 44, 45, 46, 47, 48, 49, 50, 51, 59, 60, 61] (by decide +kernel) (by decide +kernel)
set_option maxRecDepth 20000 in
theorem gX3_hit_X3_answerRanked : GoodIn wsX3_hit (wsV RX3 172 RX3 yX3_answerRanked wsX3_answerRanked) := goodIn_app (goodIn_of _ (by decide +kernel)) ggX3_hit_X3_answerRanked
theorem dX3_hit_0 : decode cX3_hit 0 = .ok (.aload_n 0, 1) := by decide +kernel
theorem dX3_hit_1 : decode cX3_hit 1 = .ok (.getfield 44, 3) := by decide +kernel
theorem dX3_hit_4 : decode cX3_hit 4 = .ok (.iconst 1, 1) := by decide +kernel
theorem dX3_hit_5 : decode cX3_hit 5 = .ok (.if_icmp .ge 6, 3) := by decide +kernel
theorem dX3_hit_8 : decode cX3_hit 8 = .ok (.bipush (-3), 2) := by decide +kernel
theorem dX3_hit_10 : decode cX3_hit 10 = .ok (.ireturn, 1) := by decide +kernel
theorem dX3_hit_11 : decode cX3_hit 11 = .ok (.aload_n 0, 1) := by decide +kernel
theorem dX3_hit_12 : decode cX3_hit 12 = .ok (.getfield 40, 3) := by decide +kernel
theorem dX3_hit_15 : decode cX3_hit 15 = .ok (.aload_n 0, 1) := by decide +kernel
theorem dX3_hit_16 : decode cX3_hit 16 = .ok (.getfield 25, 3) := by decide +kernel
theorem dX3_hit_19 : decode cX3_hit 19 = .ok (.aload_n 0, 1) := by decide +kernel
theorem dX3_hit_20 : decode cX3_hit 20 = .ok (.getfield 44, 3) := by decide +kernel
theorem dX3_hit_23 : decode cX3_hit 23 = .ok (.iconst 1, 1) := by decide +kernel
