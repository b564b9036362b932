theorem dX3_hit_24 : decode cX3_hit 24 = .ok (.isub, 1) := by decide +kernel
theorem dX3_hit_25 : decode cX3_hit 25 = .ok (.aaload, 1) := by decide +kernel
theorem dX3_hit_26 : decode cX3_hit 26 = .ok (.iconst 0, 1) := by decide +kernel
theorem dX3_hit_27 : decode cX3_hit 27 = .ok (.aload_n 0, 1) := by decide +kernel
theorem dX3_hit_28 : decode cX3_hit 28 = .ok (.getfield 20, 3) := by decide +kernel
theorem dX3_hit_31 : decode cX3_hit 31 = .ok (.getfield 59, 3) := by decide +kernel
theorem dX3_hit_34 : decode cX3_hit 34 = .ok (.invokevirtual 168, 3) := by decide +kernel
theorem dX3_hit_37 : decode cX3_hit 37 = .ok (.aload_n 0, 1) := by decide +kernel
theorem dX3_hit_38 : decode cX3_hit 38 = .ok (.iload_n 1, 1) := by decide +kernel
theorem dX3_hit_39 : decode cX3_hit 39 = .ok (.invokevirtual 172, 3) := by decide +kernel
theorem dX3_hit_42 : decode cX3_hit 42 = .ok (.ireturn, 1) := by decide +kernel
set_option maxRecDepth 20000 in
theorem ggX3_score_X2_has : GoodIn wsX3_score wsX2_has := goodIn_r _ [9, 10, 19, 20, 21] (by decide +kernel) (by decide +kernel)
set_option maxRecDepth 20000 in
theorem gX3_score_X2_has : GoodIn wsX3_score (wsV RX3 158 RX2 yX2_has wsX2_has) := goodIn_app (goodIn_of _ (by decide +kernel)) ggX3_score_X2_has
theorem dX3_score_0 : decode cX3_score 0 = .ok (.aload_n 0, 1) := by decide +kernel
theorem dX3_score_1 : decode cX3_score 1 = .ok (.getfield 44, 3) := by decide +kernel
theorem dX3_score_4 : decode cX3_score 4 = .ok (.iconst 1, 1) := by decide +kernel
theorem dX3_score_5 : decode cX3_score 5 = .ok (.if_icmp .ge 7, 3) := by decide +kernel
theorem dX3_score_8 : decode cX3_score 8 = .ok (.ldc2_w 175, 3) := by decide +kernel
theorem dX3_score_11 : decode cX3_score 11 = .ok (.lreturn, 1) := by decide +kernel
theorem dX3_score_12 : decode cX3_score 12 = .ok (.aload_n 0, 1) := by decide +kernel
theorem dX3_score_13 : decode cX3_score 13 = .ok (.getfield 25, 3) := by decide +kernel
theorem dX3_score_16 : decode cX3_score 16 = .ok (.aload_n 0, 1) := by decide +kernel
theorem dX3_score_17 : decode cX3_score 17 = .ok (.getfield 44, 3) := by decide +kernel
theorem dX3_score_20 : decode cX3_score 20 = .ok (.iconst 1, 1) := by decide +kernel
theorem dX3_score_21 : decode cX3_score 21 = .ok (.isub, 1) := by decide +kernel
theorem dX3_score_22 : decode cX3_score 22 = .ok (.aaload, 1) := by decide +kernel
theorem dX3_score_23 : decode cX3_score 23 = .ok (.astore_n 2, 1) := by decide +kernel
theorem dX3_score_24 : decode cX3_score 24 = .ok (.aload_n 2, 1) := by decide +kernel
theorem dX3_score_25 : decode cX3_score 25 = .ok (.iload_n 1, 1) := by decide +kernel
theorem dX3_score_26 : decode cX3_score 26 = .ok (.invokevirtual 158, 3) := by decide +kernel
theorem dX3_score_29 : decode cX3_score 29 = .ok (.ifCond .eq 12, 3) := by decide +kernel
theorem dX3_score_32 : decode cX3_score 32 = .ok (.aload_n 2, 1) := by decide +kernel
theorem dX3_score_33 : decode cX3_score 33 = .ok (.getfield 177, 3) := by decide +kernel
theorem dX3_score_36 : decode cX3_score 36 = .ok (.iload_n 1, 1) := by decide +kernel
theorem dX3_score_37 : decode cX3_score 37 = .ok (.laload, 1) := by decide +kernel
theorem dX3_score_38 : decode cX3_score 38 = .ok (.goto 6, 3) := by decide +kernel
theorem dX3_score_41 : decode cX3_score 41 = .ok (.ldc2_w 175, 3) := by decide +kernel
theorem dX3_score_44 : decode cX3_score 44 = .ok (.lreturn, 1) := by decide +kernel
set_option maxRecDepth 20000 in
theorem ggX3_family_X1_holds : GoodIn wsX3_family wsX1_holds := goodIn_r _ [9, 10, 62, 63, 64, 65, 66, 67, 68] (by decide +kernel) (by decide +kernel)
set_option maxRecDepth 20000 in
theorem gX3_family_X1_holds : GoodIn wsX3_family (wsV RX3 87 RX1 yX1_holds wsX1_holds) := goodIn_app (goodIn_of _ (by decide +kernel)) ggX3_family_X1_holds
set_option maxRecDepth 20000 in
theorem ggX3_family_X1_firstBelow : GoodIn wsX3_family wsX1_firstBelow := goodIn_r _ [14, 15, 62, 63, 64, 65, 66, 67, 68] (by decide +kernel) (by decide +kernel)
set_option maxRecDepth 20000 in
theorem gX3_family_X1_firstBelow : GoodIn wsX3_family (wsV RX3 116 RX1 yX1_firstBelow wsX1_firstBelow) := goodIn_app (goodIn_of _ (by decide +kernel)) ggX3_family_X1_firstBelow
set_option maxRecDepth 20000 in
theorem ggX3_family_X0_rank : GoodIn wsX3_family wsX0_rank := goodIn_r _ [20, 21, 22, 23, 24, 25, 26, 27, 28, 29, 30, 31, 19, 32, 33, 34, 35, 36, 37, 38, 39, 40, 41, 42, 43, 44, 45, 46, 69, 70, 71, 72, 73, 74] (by decide +kernel) (by decide +kernel)
set_option maxRecDepth 20000 in
theorem gX3_family_X0_rank : GoodIn wsX3_family (wsV RX3 168 RX0 yX0_rank wsX0_rank) := goodIn_app (goodIn_of _ (by decide +kernel)) ggX3_family_X0_rank
set_option maxRecDepth 20000 in
theorem ggX3_family_X3_answerRanked : GoodIn wsX3_family wsX3_answerRanked := goodIn_r _ [51, 3, 52, 53, 54, 55, 56, 57, 58, 59, 60, 61, 69, 70, 71] (by decide +kernel) (by decide +kernel)
set_option maxRecDepth 20000 in
theorem gX3_family_X3_answerRanked : GoodIn wsX3_family (wsV RX3 172 RX3 yX3_answerRanked wsX3_answerRanked) := goodIn_app (goodIn_of _ (by decide +kernel)) ggX3_family_X3_answerRanked
theorem dX3_family_0 : decode cX3_family 0 = .ok (.aload_n 0, 1) := by decide +kernel
theorem dX3_family_1 : decode cX3_family 1 = .ok (.getfield 48, 3) := by decide +kernel
theorem dX3_family_4 : decode cX3_family 4 = .ok (.ifCond .eq 14, 3) := by decide +kernel
theorem dX3_family_7 : decode cX3_family 7 = .ok (.aload_n 0, 1) := by decide +kernel
theorem dX3_family_8 : decode cX3_family 8 = .ok (.getfield 20, 3) := by decide +kernel
theorem dX3_family_11 : decode cX3_family 11 = .ok (.iload_n 1, 1) := by decide +kernel
theorem dX3_family_12 : decode cX3_family 12 = .ok (.invokevirtual 87, 3) := by decide +kernel
theorem dX3_family_15 : decode cX3_family 15 = .ok (.ifCond .ne 5, 3) := by decide +kernel
theorem dX3_family_18 : decode cX3_family 18 = .ok (.iconst (-1), 1) := by decide +kernel
theorem dX3_family_19 : decode cX3_family 19 = .ok (.ireturn, 1) := by decide +kernel
theorem dX3_family_20 : decode cX3_family 20 = .ok (.aload_n 0, 1) := by decide +kernel
theorem dX3_family_21 : decode cX3_family 21 = .ok (.getfield 40, 3) := by decide +kernel
theorem dX3_family_24 : decode cX3_family 24 = .ok (.aload_n 0, 1) := by decide +kernel
theorem dX3_family_25 : decode cX3_family 25 = .ok (.getfield 34, 3) := by decide +kernel
theorem dX3_family_28 : decode cX3_family 28 = .ok (.aload_n 0, 1) := by decide +kernel
theorem dX3_family_29 : decode cX3_family 29 = .ok (.getfield 20, 3) := by decide +kernel
theorem dX3_family_32 : decode cX3_family 32 = .ok (.iload_n 1, 1) := by decide +kernel
theorem dX3_family_33 : decode cX3_family 33 = .ok (.invokevirtual 116, 3) := by decide +kernel
theorem dX3_family_36 : decode cX3_family 36 = .ok (.iload_n 1, 1) := by decide +kernel
theorem dX3_family_37 : decode cX3_family 37 = .ok (.invokevirtual 168, 3) := by decide +kernel
theorem dX3_family_40 : decode cX3_family 40 = .ok (.aload_n 0, 1) := by decide +kernel
theorem dX3_family_41 : decode cX3_family 41 = .ok (.iload_n 2, 1) := by decide +kernel
theorem dX3_family_42 : decode cX3_family 42 = .ok (.invokevirtual 172, 3) := by decide +kernel
theorem dX3_family_45 : decode cX3_family 45 = .ok (.ireturn, 1) := by decide +kernel
theorem dX3_share_0 : decode cX3_share 0 = .ok (.aload_n 0, 1) := by decide +kernel
theorem dX3_share_1 : decode cX3_share 1 = .ok (.getfield 44, 3) := by decide +kernel
theorem dX3_share_4 : decode cX3_share 4 = .ok (.iconst 2, 1) := by decide +kernel
theorem dX3_share_5 : decode cX3_share 5 = .ok (.if_icmp .ge 7, 3) := by decide +kernel
theorem dX3_share_8 : decode cX3_share 8 = .ok (.ldc2_w 175, 3) := by decide +kernel
theorem dX3_share_11 : decode cX3_share 11 = .ok (.lreturn, 1) := by decide +kernel
theorem dX3_share_12 : decode cX3_share 12 = .ok (.aload_n 0, 1) := by decide +kernel
theorem dX3_share_13 : decode cX3_share 13 = .ok (.getfield 25, 3) := by decide +kernel
theorem dX3_share_16 : decode cX3_share 16 = .ok (.aload_n 0, 1) := by decide +kernel
theorem dX3_share_17 : decode cX3_share 17 = .ok (.getfield 44, 3) := by decide +kernel
theorem dX3_share_20 : decode cX3_share 20 = .ok (.iconst 2, 1) := by decide +kernel
theorem dX3_share_21 : decode cX3_share 21 = .ok (.isub, 1) := by decide +kernel
theorem dX3_share_22 : decode cX3_share 22 = .ok (.aaload, 1) := by decide +kernel
theorem dX3_share_23 : decode cX3_share 23 = .ok (.getfield 140, 3) := by decide +kernel
theorem dX3_share_26 : decode cX3_share 26 = .ok (.istore_n 1, 1) := by decide +kernel
theorem dX3_share_27 : decode cX3_share 27 = .ok (.iload_n 1, 1) := by decide +kernel
theorem dX3_share_28 : decode cX3_share 28 = .ok (.ifCond .ne 13, 3) := by decide +kernel
theorem dX3_share_31 : decode cX3_share 31 = .ok (.new 181, 3) := by decide +kernel
theorem dX3_share_34 : decode cX3_share 34 = .ok (.dup, 1) := by decide +kernel
theorem dX3_share_35 : decode cX3_share 35 = .ok (.ldc 183, 2) := by decide +kernel
theorem dX3_share_37 : decode cX3_share 37 = .ok (.invokespecial 185, 3) := by decide +kernel
theorem dX3_share_40 : decode cX3_share 40 = .ok (.athrow, 1) := by decide +kernel
theorem dX3_share_41 : decode cX3_share 41 = .ok (.ldc2_w 188, 3) := by decide +kernel
theorem dX3_share_44 : decode cX3_share 44 = .ok (.aload_n 0, 1) := by decide +kernel
theorem dX3_share_45 : decode cX3_share 45 = .ok (.getfield 25, 3) := by decide +kernel
theorem dX3_share_48 : decode cX3_share 48 = .ok (.aload_n 0, 1) := by decide +kernel
theorem dX3_share_49 : decode cX3_share 49 = .ok (.getfield 44, 3) := by decide +kernel
theorem dX3_share_52 : decode cX3_share 52 = .ok (.iconst 1, 1) := by decide +kernel
theorem dX3_share_53 : decode cX3_share 53 = .ok (.isub, 1) := by decide +kernel
theorem dX3_share_54 : decode cX3_share 54 = .ok (.aaload, 1) := by decide +kernel
theorem dX3_share_55 : decode cX3_share 55 = .ok (.getfield 140, 3) := by decide +kernel
theorem dX3_share_58 : decode cX3_share 58 = .ok (.i2l, 1) := by decide +kernel
theorem dX3_share_59 : decode cX3_share 59 = .ok (.lmul, 1) := by decide +kernel
theorem dX3_share_60 : decode cX3_share 60 = .ok (.iload_n 1, 1) := by decide +kernel
theorem dX3_share_61 : decode cX3_share 61 = .ok (.i2l, 1) := by decide +kernel
theorem dX3_share_62 : decode cX3_share 62 = .ok (.ldiv, 1) := by decide +kernel
theorem dX3_share_63 : decode cX3_share 63 = .ok (.lreturn, 1) := by decide +kernel
theorem dX3_isWithin_0 : decode cX3_isWithin 0 = .ok (.iload_n 0, 1) := by decide +kernel
theorem dX3_isWithin_1 : decode cX3_isWithin 1 = .ok (.iload_n 1, 1) := by decide +kernel
theorem dX3_isWithin_2 : decode cX3_isWithin 2 = .ok (.if_icmp .lt 12, 3) := by decide +kernel
theorem dX3_isWithin_5 : decode cX3_isWithin 5 = .ok (.iload_n 0, 1) := by decide +kernel
theorem dX3_isWithin_6 : decode cX3_isWithin 6 = .ok (.iload_n 2, 1) := by decide +kernel
theorem dX3_isWithin_7 : decode cX3_isWithin 7 = .ok (.if_icmp .gt 7, 3) := by decide +kernel
theorem dX3_isWithin_10 : decode cX3_isWithin 10 = .ok (.iconst 1, 1) := by decide +kernel
theorem dX3_isWithin_11 : decode cX3_isWithin 11 = .ok (.goto 4, 3) := by decide +kernel
theorem dX3_isWithin_14 : decode cX3_isWithin 14 = .ok (.iconst 0, 1) := by decide +kernel
theorem dX3_isWithin_15 : decode cX3_isWithin 15 = .ok (.ireturn, 1) := by decide +kernel
set_option maxRecDepth 20000 in
theorem ggX3_isKey_X3_isWithin : GoodIn wsX3_isKey wsX3_isWithin := goodIn_r _ [4] (by decide +kernel) (by decide +kernel)
set_option maxRecDepth 20000 in
theorem gX3_isKey_X3_isWithin : GoodIn wsX3_isKey (va_wsS RX3 52 yX3_isWithin wsX3_isWithin) := goodIn_app (goodIn_of _ (by decide +kernel)) ggX3_isKey_X3_isWithin
theorem dX3_isKey_0 : decode cX3_isKey 0 = .ok (.iload_n 0, 1) := by decide +kernel
theorem dX3_isKey_1 : decode cX3_isKey 1 = .ok (.iconst 0, 1) := by decide +kernel
theorem dX3_isKey_2 : decode cX3_isKey 2 = .ok (.sipush 999, 3) := by decide +kernel
theorem dX3_isKey_5 : decode cX3_isKey 5 = .ok (.invokestatic 52, 3) := by decide +kernel
theorem dX3_isKey_8 : decode cX3_isKey 8 = .ok (.ireturn, 1) := by decide +kernel
set_option maxRecDepth 20000 in
theorem ggX3_isValue_X3_isWithin : GoodIn wsX3_isValue wsX3_isWithin := goodIn_r _ [4] (by decide +kernel) (by decide +kernel)
set_option maxRecDepth 20000 in
theorem gX3_isValue_X3_isWithin : GoodIn wsX3_isValue (va_wsS RX3 52 yX3_isWithin wsX3_isWithin) := goodIn_app (goodIn_of _ (by decide +kernel)) ggX3_isValue_X3_isWithin
theorem dX3_isValue_0 : decode cX3_isValue 0 = .ok (.iload_n 0, 1) := by decide +kernel
theorem dX3_isValue_1 : decode cX3_isValue 1 = .ok (.sipush (-1000), 3) := by decide +kernel
theorem dX3_isValue_4 : decode cX3_isValue 4 = .ok (.sipush 1000, 3) := by decide +kernel
theorem dX3_isValue_7 : decode cX3_isValue 7 = .ok (.invokestatic 52, 3) := by decide +kernel
theorem dX3_isValue_10 : decode cX3_isValue 10 = .ok (.ireturn, 1) := by decide +kernel
set_option maxRecDepth 20000 in
theorem ggX3_areTold_X3_isValue : GoodIn wsX3_areTold wsX3_isValue := goodIn_r _ [4, 5, 6, 3, 7] (by decide +kernel) (by decide +kernel)
set_option maxRecDepth 20000 in
theorem gX3_areTold_X3_isValue : GoodIn wsX3_areTold (va_wsS RX3 190 yX3_isValue wsX3_isValue) := goodIn_app (goodIn_of _ (by decide +kernel)) ggX3_areTold_X3_isValue
set_option maxRecDepth 20000 in
theorem ggX3_areTold_X3_isWithin : GoodIn wsX3_areTold wsX3_isWithin := goodIn_r _ [7] (by decide +kernel) (by decide +kernel)
set_option maxRecDepth 20000 in
theorem gX3_areTold_X3_isWithin : GoodIn wsX3_areTold (va_wsS RX3 52 yX3_isWithin wsX3_isWithin) := goodIn_app (goodIn_of _ (by decide +kernel)) ggX3_areTold_X3_isWithin
theorem dX3_areTold_0 : decode cX3_areTold 0 = .ok (.iload_n 0, 1) := by decide +kernel
theorem dX3_areTold_1 : decode cX3_areTold 1 = .ok (.invokestatic 190, 3) := by decide +kernel
theorem dX3_areTold_4 : decode cX3_areTold 4 = .ok (.ifCond .eq 29, 3) := by decide +kernel
theorem dX3_areTold_7 : decode cX3_areTold 7 = .ok (.iload_n 1, 1) := by decide +kernel
theorem dX3_areTold_8 : decode cX3_areTold 8 = .ok (.iconst 0, 1) := by decide +kernel
theorem dX3_areTold_9 : decode cX3_areTold 9 = .ok (.sipush 255, 3) := by decide +kernel
theorem dX3_areTold_12 : decode cX3_areTold 12 = .ok (.invokestatic 52, 3) := by decide +kernel
theorem dX3_areTold_15 : decode cX3_areTold 15 = .ok (.ifCond .eq 18, 3) := by decide +kernel
theorem dX3_areTold_18 : decode cX3_areTold 18 = .ok (.iload_n 2, 1) := by decide +kernel
theorem dX3_areTold_19 : decode cX3_areTold 19 = .ok (.iconst (-1), 1) := by decide +kernel
theorem dX3_areTold_20 : decode cX3_areTold 20 = .ok (.sipush 999, 3) := by decide +kernel
theorem dX3_areTold_23 : decode cX3_areTold 23 = .ok (.invokestatic 52, 3) := by decide +kernel
theorem dX3_areTold_26 : decode cX3_areTold 26 = .ok (.ifCond .eq 7, 3) := by decide +kernel
theorem dX3_areTold_29 : decode cX3_areTold 29 = .ok (.iconst 1, 1) := by decide +kernel
theorem dX3_areTold_30 : decode cX3_areTold 30 = .ok (.goto 4, 3) := by decide +kernel
theorem dX3_areTold_33 : decode cX3_areTold 33 = .ok (.iconst 0, 1) := by decide +kernel
theorem dX3_areTold_34 : decode cX3_areTold 34 = .ok (.ireturn, 1) := by decide +kernel
theorem dX3_forgetSets_0 : decode cX3_forgetSets 0 = .ok (.aload_n 0, 1) := by decide +kernel
theorem dX3_forgetSets_1 : decode cX3_forgetSets 1 = .ok (.iconst 0, 1) := by decide +kernel
theorem dX3_forgetSets_2 : decode cX3_forgetSets 2 = .ok (.putfield 44, 3) := by decide +kernel
theorem dX3_forgetSets_5 : decode cX3_forgetSets 5 = .ok (.aload_n 0, 1) := by decide +kernel
theorem dX3_forgetSets_6 : decode cX3_forgetSets 6 = .ok (.iconst 0, 1) := by decide +kernel
theorem dX3_forgetSets_7 : decode cX3_forgetSets 7 = .ok (.putfield 48, 3) := by decide +kernel
theorem dX3_forgetSets_10 : decode cX3_forgetSets 10 = .ok (.return_, 1) := by decide +kernel
set_option maxRecDepth 20000 in
theorem ggX3_canBeFound_X3_isWithin : GoodIn wsX3_canBeFound wsX3_isWithin := goodIn_r _ [4] (by decide +kernel) (by decide +kernel)
set_option maxRecDepth 20000 in
theorem gX3_canBeFound_X3_isWithin : GoodIn wsX3_canBeFound (va_wsS RX3 52 yX3_isWithin wsX3_isWithin) := goodIn_app (goodIn_of _ (by decide +kernel)) ggX3_canBeFound_X3_isWithin
set_option maxRecDepth 20000 in
theorem ggX3_canBeFound_X3_isValue : GoodIn wsX3_canBeFound wsX3_isValue := goodIn_r _ [7, 1, 2, 3, 4] (by decide +kernel) (by decide +kernel)
set_option maxRecDepth 20000 in
theorem gX3_canBeFound_X3_isValue : GoodIn wsX3_canBeFound (va_wsS RX3 190 yX3_isValue wsX3_isValue) := goodIn_app (goodIn_of _ (by decide +kernel)) ggX3_canBeFound_X3_isValue
set_option maxRecDepth 20000 in
theorem ggX3_canBeFound_X3_isKey : GoodIn wsX3_canBeFound wsX3_isKey := goodIn_r _ [10, 1, 2, 3, 4] (by decide +kernel) (by decide +kernel)
set_option maxRecDepth 20000 in
theorem gX3_canBeFound_X3_isKey : GoodIn wsX3_canBeFound (va_wsS RX3 66 yX3_isKey wsX3_isKey) := goodIn_app (goodIn_of _ (by decide +kernel)) ggX3_canBeFound_X3_isKey
theorem dX3_canBeFound_0 : decode cX3_canBeFound 0 = .ok (.iload_n 0, 1) := by decide +kernel
theorem dX3_canBeFound_1 : decode cX3_canBeFound 1 = .ok (.tableswitch 82 0 5 #[39, 41, 50, 70, 77, 77], 39) := by decide +kernel
theorem dX3_canBeFound_40 : decode cX3_canBeFound 40 = .ok (.iconst 1, 1) := by decide +kernel
theorem dX3_canBeFound_41 : decode cX3_canBeFound 41 = .ok (.ireturn, 1) := by decide +kernel
theorem dX3_canBeFound_42 : decode cX3_canBeFound 42 = .ok (.iload_n 1, 1) := by decide +kernel
theorem dX3_canBeFound_43 : decode cX3_canBeFound 43 = .ok (.iconst 0, 1) := by decide +kernel
theorem dX3_canBeFound_44 : decode cX3_canBeFound 44 = .ok (.sipush 255, 3) := by decide +kernel
theorem dX3_canBeFound_47 : decode cX3_canBeFound 47 = .ok (.invokestatic 52, 3) := by decide +kernel
theorem dX3_canBeFound_50 : decode cX3_canBeFound 50 = .ok (.ireturn, 1) := by decide +kernel
theorem dX3_canBeFound_51 : decode cX3_canBeFound 51 = .ok (.iload_n 1, 1) := by decide +kernel
theorem dX3_canBeFound_52 : decode cX3_canBeFound 52 = .ok (.invokestatic 190, 3) := by decide +kernel
theorem dX3_canBeFound_55 : decode cX3_canBeFound 55 = .ok (.ifCond .eq 14, 3) := by decide +kernel
theorem dX3_canBeFound_58 : decode cX3_canBeFound 58 = .ok (.iload_n 2, 1) := by decide +kernel
theorem dX3_canBeFound_59 : decode cX3_canBeFound 59 = .ok (.invokestatic 190, 3) := by decide +kernel
theorem dX3_canBeFound_62 : decode cX3_canBeFound 62 = .ok (.ifCond .eq 7, 3) := by decide +kernel
theorem dX3_canBeFound_65 : decode cX3_canBeFound 65 = .ok (.iconst 1, 1) := by decide +kernel
theorem dX3_canBeFound_66 : decode cX3_canBeFound 66 = .ok (.goto 4, 3) := by decide +kernel
theorem dX3_canBeFound_69 : decode cX3_canBeFound 69 = .ok (.iconst 0, 1) := by decide +kernel
theorem dX3_canBeFound_70 : decode cX3_canBeFound 70 = .ok (.ireturn, 1) := by decide +kernel
theorem dX3_canBeFound_71 : decode cX3_canBeFound 71 = .ok (.iload_n 1, 1) := by decide +kernel
theorem dX3_canBeFound_72 : decode cX3_canBeFound 72 = .ok (.iconst 0, 1) := by decide +kernel
theorem dX3_canBeFound_73 : decode cX3_canBeFound 73 = .ok (.iconst 2, 1) := by decide +kernel
theorem dX3_canBeFound_74 : decode cX3_canBeFound 74 = .ok (.invokestatic 52, 3) := by decide +kernel
theorem dX3_canBeFound_77 : decode cX3_canBeFound 77 = .ok (.ireturn, 1) := by decide +kernel
theorem dX3_canBeFound_78 : decode cX3_canBeFound 78 = .ok (.iload_n 1, 1) := by decide +kernel
theorem dX3_canBeFound_79 : decode cX3_canBeFound 79 = .ok (.invokestatic 66, 3) := by decide +kernel
theorem dX3_canBeFound_82 : decode cX3_canBeFound 82 = .ok (.ireturn, 1) := by decide +kernel
theorem dX3_canBeFound_83 : decode cX3_canBeFound 83 = .ok (.iconst 0, 1) := by decide +kernel
theorem dX3_canBeFound_84 : decode cX3_canBeFound 84 = .ok (.ireturn, 1) := by decide +kernel
set_option maxRecDepth 20000 in
theorem ggX3_isFound_X3_isWithin : GoodIn wsX3_isFound wsX3_isWithin := goodIn_r _ [10] (by decide +kernel) (by decide +kernel)
set_option maxRecDepth 20000 in
theorem gX3_isFound_X3_isWithin : GoodIn wsX3_isFound (va_wsS RX3 52 yX3_isWithin wsX3_isWithin) := goodIn_app (goodIn_of _ (by decide +kernel)) ggX3_isFound_X3_isWithin
set_option maxRecDepth 20000 in
theorem ggX3_isFound_X1_isRoot : GoodIn wsX3_isFound wsX1_isRoot := goodIn_r _ [15, 16, 25, 26, 27, 28, 29, 30, 31] (by decide +kernel) (by decide +kernel)
set_option maxRecDepth 20000 in
theorem gX3_isFound_X1_isRoot : GoodIn wsX3_isFound (wsV RX3 103 RX1 yX1_isRoot wsX1_isRoot) := goodIn_app (goodIn_of _ (by decide +kernel)) ggX3_isFound_X1_isRoot
theorem dX3_isFound_0 : decode cX3_isFound 0 = .ok (.iload_n 2, 1) := by decide +kernel
theorem dX3_isFound_1 : decode cX3_isFound 1 = .ok (.tableswitch 140 1 5 #[35, 56, 72, 91, 121], 35) := by decide +kernel
theorem dX3_isFound_36 : decode cX3_isFound 36 = .ok (.aload_n 0, 1) := by decide +kernel
theorem dX3_isFound_37 : decode cX3_isFound 37 = .ok (.getfield 20, 3) := by decide +kernel
theorem dX3_isFound_40 : decode cX3_isFound 40 = .ok (.getfield 97, 3) := by decide +kernel
theorem dX3_isFound_43 : decode cX3_isFound 43 = .ok (.iload_n 1, 1) := by decide +kernel
theorem dX3_isFound_44 : decode cX3_isFound 44 = .ok (.iaload, 1) := by decide +kernel
theorem dX3_isFound_45 : decode cX3_isFound 45 = .ok (.iload_n 3, 1) := by decide +kernel
theorem dX3_isFound_46 : decode cX3_isFound 46 = .ok (.iand, 1) := by decide +kernel
theorem dX3_isFound_47 : decode cX3_isFound 47 = .ok (.iload_n 3, 1) := by decide +kernel
theorem dX3_isFound_48 : decode cX3_isFound 48 = .ok (.if_icmp .ne 7, 3) := by decide +kernel
theorem dX3_isFound_51 : decode cX3_isFound 51 = .ok (.iconst 1, 1) := by decide +kernel
theorem dX3_isFound_52 : decode cX3_isFound 52 = .ok (.goto 4, 3) := by decide +kernel
theorem dX3_isFound_55 : decode cX3_isFound 55 = .ok (.iconst 0, 1) := by decide +kernel
theorem dX3_isFound_56 : decode cX3_isFound 56 = .ok (.ireturn, 1) := by decide +kernel
theorem dX3_isFound_57 : decode cX3_isFound 57 = .ok (.aload_n 0, 1) := by decide +kernel
theorem dX3_isFound_58 : decode cX3_isFound 58 = .ok (.getfield 20, 3) := by decide +kernel
theorem dX3_isFound_61 : decode cX3_isFound 61 = .ok (.getfield 94, 3) := by decide +kernel
theorem dX3_isFound_64 : decode cX3_isFound 64 = .ok (.iload_n 1, 1) := by decide +kernel
theorem dX3_isFound_65 : decode cX3_isFound 65 = .ok (.iaload, 1) := by decide +kernel
theorem dX3_isFound_66 : decode cX3_isFound 66 = .ok (.iload_n 3, 1) := by decide +kernel
theorem dX3_isFound_67 : decode cX3_isFound 67 = .ok (.iload 4, 2) := by decide +kernel
theorem dX3_isFound_69 : decode cX3_isFound 69 = .ok (.invokestatic 52, 3) := by decide +kernel
theorem dX3_isFound_72 : decode cX3_isFound 72 = .ok (.ireturn, 1) := by decide +kernel
theorem dX3_isFound_73 : decode cX3_isFound 73 = .ok (.aload_n 0, 1) := by decide +kernel
theorem dX3_isFound_74 : decode cX3_isFound 74 = .ok (.getfield 20, 3) := by decide +kernel
theorem dX3_isFound_77 : decode cX3_isFound 77 = .ok (.getfield 90, 3) := by decide +kernel
theorem dX3_isFound_80 : decode cX3_isFound 80 = .ok (.iload_n 1, 1) := by decide +kernel
theorem dX3_isFound_81 : decode cX3_isFound 81 = .ok (.iaload, 1) := by decide +kernel
theorem dX3_isFound_82 : decode cX3_isFound 82 = .ok (.iload_n 3, 1) := by decide +kernel
theorem dX3_isFound_83 : decode cX3_isFound 83 = .ok (.if_icmp .ne 7, 3) := by decide +kernel
theorem dX3_isFound_86 : decode cX3_isFound 86 = .ok (.iconst 1, 1) := by decide +kernel
theorem dX3_isFound_87 : decode cX3_isFound 87 = .ok (.goto 4, 3) := by decide +kernel
theorem dX3_isFound_90 : decode cX3_isFound 90 = .ok (.iconst 0, 1) := by decide +kernel
theorem dX3_isFound_91 : decode cX3_isFound 91 = .ok (.ireturn, 1) := by decide +kernel
theorem dX3_isFound_92 : decode cX3_isFound 92 = .ok (.aload_n 0, 1) := by decide +kernel
theorem dX3_isFound_93 : decode cX3_isFound 93 = .ok (.getfield 20, 3) := by decide +kernel
theorem dX3_isFound_96 : decode cX3_isFound 96 = .ok (.iload_n 1, 1) := by decide +kernel
theorem dX3_isFound_97 : decode cX3_isFound 97 = .ok (.invokevirtual 103, 3) := by decide +kernel
theorem dX3_isFound_100 : decode cX3_isFound 100 = .ok (.ifCond .eq 20, 3) := by decide +kernel
theorem dX3_isFound_103 : decode cX3_isFound 103 = .ok (.aload_n 0, 1) := by decide +kernel
theorem dX3_isFound_104 : decode cX3_isFound 104 = .ok (.getfield 20, 3) := by decide +kernel
theorem dX3_isFound_107 : decode cX3_isFound 107 = .ok (.getfield 106, 3) := by decide +kernel
theorem dX3_isFound_110 : decode cX3_isFound 110 = .ok (.iload_n 1, 1) := by decide +kernel
theorem dX3_isFound_111 : decode cX3_isFound 111 = .ok (.iaload, 1) := by decide +kernel
theorem dX3_isFound_112 : decode cX3_isFound 112 = .ok (.iload_n 3, 1) := by decide +kernel
theorem dX3_isFound_113 : decode cX3_isFound 113 = .ok (.if_icmp .ne 7, 3) := by decide +kernel
theorem dX3_isFound_116 : decode cX3_isFound 116 = .ok (.iconst 1, 1) := by decide +kernel
theorem dX3_isFound_117 : decode cX3_isFound 117 = .ok (.goto 4, 3) := by decide +kernel
theorem dX3_isFound_120 : decode cX3_isFound 120 = .ok (.iconst 0, 1) := by decide +kernel
theorem dX3_isFound_121 : decode cX3_isFound 121 = .ok (.ireturn, 1) := by decide +kernel
theorem dX3_isFound_122 : decode cX3_isFound 122 = .ok (.aload_n 0, 1) := by decide +kernel
theorem dX3_isFound_123 : decode cX3_isFound 123 = .ok (.getfield 20, 3) := by decide +kernel
theorem dX3_isFound_126 : decode cX3_isFound 126 = .ok (.getfield 100, 3) := by decide +kernel
theorem dX3_isFound_129 : decode cX3_isFound 129 = .ok (.iload_n 1, 1) := by decide +kernel
theorem dX3_isFound_130 : decode cX3_isFound 130 = .ok (.iaload, 1) := by decide +kernel
theorem dX3_isFound_131 : decode cX3_isFound 131 = .ok (.iload_n 3, 1) := by decide +kernel
theorem dX3_isFound_132 : decode cX3_isFound 132 = .ok (.if_icmp .ne 7, 3) := by decide +kernel
theorem dX3_isFound_135 : decode cX3_isFound 135 = .ok (.iconst 1, 1) := by decide +kernel
theorem dX3_isFound_136 : decode cX3_isFound 136 = .ok (.goto 4, 3) := by decide +kernel
theorem dX3_isFound_139 : decode cX3_isFound 139 = .ok (.iconst 0, 1) := by decide +kernel
theorem dX3_isFound_140 : decode cX3_isFound 140 = .ok (.ireturn, 1) := by decide +kernel
theorem dX3_isFound_141 : decode cX3_isFound 141 = .ok (.iconst 1, 1) := by decide +kernel
theorem dX3_isFound_142 : decode cX3_isFound 142 = .ok (.ireturn, 1) := by decide +kernel
set_option maxRecDepth 20000 in
theorem ggX3_scoreFound_J6_bitCount_0f7a4 : GoodIn wsX3_scoreFound wsJ6_bitCount_0f7a4 := goodIn_r _ [6, 7, 8, 9] (by decide +kernel) (by decide +kernel)
set_option maxRecDepth 20000 in
theorem gX3_scoreFound_J6_bitCount_0f7a4 : GoodIn wsX3_scoreFound (va_wsS RX3 193 yJ6_bitCount_0f7a4 wsJ6_bitCount_0f7a4) := goodIn_app (goodIn_of _ (by decide +kernel)) ggX3_scoreFound_J6_bitCount_0f7a4
theorem dX3_scoreFound_0 : decode cX3_scoreFound 0 = .ok (.iload_n 2, 1) := by decide +kernel
theorem dX3_scoreFound_1 : decode cX3_scoreFound 1 = .ok (.tableswitch 54 1 5 #[35, 41, 54, 52, 52], 35) := by decide +kernel
theorem dX3_scoreFound_36 : decode cX3_scoreFound 36 = .ok (.iload_n 3, 1) := by decide +kernel
theorem dX3_scoreFound_37 : decode cX3_scoreFound 37 = .ok (.invokestatic 193, 3) := by decide +kernel
theorem dX3_scoreFound_40 : decode cX3_scoreFound 40 = .ok (.i2l, 1) := by decide +kernel
theorem dX3_scoreFound_41 : decode cX3_scoreFound 41 = .ok (.lreturn, 1) := by decide +kernel
theorem dX3_scoreFound_42 : decode cX3_scoreFound 42 = .ok (.aload_n 0, 1) := by decide +kernel
theorem dX3_scoreFound_43 : decode cX3_scoreFound 43 = .ok (.getfield 20, 3) := by decide +kernel
theorem dX3_scoreFound_46 : decode cX3_scoreFound 46 = .ok (.getfield 94, 3) := by decide +kernel
theorem dX3_scoreFound_49 : decode cX3_scoreFound 49 = .ok (.iload_n 1, 1) := by decide +kernel
theorem dX3_scoreFound_50 : decode cX3_scoreFound 50 = .ok (.iaload, 1) := by decide +kernel
theorem dX3_scoreFound_51 : decode cX3_scoreFound 51 = .ok (.i2l, 1) := by decide +kernel
theorem dX3_scoreFound_52 : decode cX3_scoreFound 52 = .ok (.lreturn, 1) := by decide +kernel
theorem dX3_scoreFound_53 : decode cX3_scoreFound 53 = .ok (.lconst 1, 1) := by decide +kernel
theorem dX3_scoreFound_54 : decode cX3_scoreFound 54 = .ok (.lreturn, 1) := by decide +kernel
theorem dX3_scoreFound_55 : decode cX3_scoreFound 55 = .ok (.lconst 0, 1) := by decide +kernel
theorem dX3_scoreFound_56 : decode cX3_scoreFound 56 = .ok (.lreturn, 1) := by decide +kernel
set_option maxRecDepth 20000 in
theorem ggX3_gatherBelow_X1_firstBelow : GoodIn wsX3_gatherBelow wsX1_firstBelow := goodIn_r _ [8, 9, 44, 45, 46, 47, 48, 49, 50] (by decide +kernel) (by decide +kernel)
set_option maxRecDepth 20000 in
theorem gX3_gatherBelow_X1_firstBelow : GoodIn wsX3_gatherBelow (wsV RX3 116 RX1 yX1_firstBelow wsX1_firstBelow) := goodIn_app (goodIn_of _ (by decide +kernel)) ggX3_gatherBelow_X1_firstBelow
set_option maxRecDepth 20000 in
theorem ggX3_gatherBelow_X2_has : GoodIn wsX3_gatherBelow wsX2_has := goodIn_r _ [14, 15, 41, 42, 43] (by decide +kernel) (by decide +kernel)
set_option maxRecDepth 20000 in
theorem gX3_gatherBelow_X2_has : GoodIn wsX3_gatherBelow (wsV RX3 158 RX2 yX2_has wsX2_has) := goodIn_app (goodIn_of _ (by decide +kernel)) ggX3_gatherBelow_X2_has
set_option maxRecDepth 20000 in
theorem ggX3_gatherBelow_X3_combine : GoodIn wsX3_gatherBelow wsX3_combine := goodIn_r _ [19, 20, 21, 22, 23, 24, 25, 26] (by decide +kernel) (by decide +kernel)
set_option maxRecDepth 20000 in
theorem gX3_gatherBelow_X3_combine : GoodIn wsX3_gatherBelow (va_wsS RX3 198 yX3_combine wsX3_combine) := goodIn_app (goodIn_of _ (by decide +kernel)) ggX3_gatherBelow_X3_combine
set_option maxRecDepth 20000 in
theorem ggX3_gatherBelow_X2_put : GoodIn wsX3_gatherBelow wsX2_put := goodIn_r _ [30, 15, 31, 32, 41, 42, 43] (by decide +kernel) (by decide +kernel)
set_option maxRecDepth 20000 in
theorem gX3_gatherBelow_X2_put : GoodIn wsX3_gatherBelow (wsV RX3 136 RX2 yX2_put wsX2_put) := goodIn_app (goodIn_of _ (by decide +kernel)) ggX3_gatherBelow_X2_put
theorem dX3_gatherBelow_0 : decode cX3_gatherBelow 0 = .ok (.iconst 0, 1) := by decide +kernel
theorem dX3_gatherBelow_1 : decode cX3_gatherBelow 1 = .ok (.istore 4, 2) := by decide +kernel
theorem dX3_gatherBelow_3 : decode cX3_gatherBelow 3 = .ok (.lconst 0, 1) := by decide +kernel
theorem dX3_gatherBelow_4 : decode cX3_gatherBelow 4 = .ok (.lstore 5, 2) := by decide +kernel
theorem dX3_gatherBelow_6 : decode cX3_gatherBelow 6 = .ok (.aload_n 0, 1) := by decide +kernel
theorem dX3_gatherBelow_7 : decode cX3_gatherBelow 7 = .ok (.getfield 20, 3) := by decide +kernel
theorem dX3_gatherBelow_10 : decode cX3_gatherBelow 10 = .ok (.iload_n 1, 1) := by decide +kernel
theorem dX3_gatherBelow_11 : decode cX3_gatherBelow 11 = .ok (.invokevirtual 116, 3) := by decide +kernel
theorem dX3_gatherBelow_14 : decode cX3_gatherBelow 14 = .ok (.istore 7, 2) := by decide +kernel
theorem dX3_gatherBelow_16 : decode cX3_gatherBelow 16 = .ok (.iload 7, 2) := by decide +kernel
theorem dX3_gatherBelow_18 : decode cX3_gatherBelow 18 = .ok (.iload_n 1, 1) := by decide +kernel
theorem dX3_gatherBelow_19 : decode cX3_gatherBelow 19 = .ok (.if_icmp .ge 65, 3) := by decide +kernel
theorem dX3_gatherBelow_22 : decode cX3_gatherBelow 22 = .ok (.aload_n 0, 1) := by decide +kernel
theorem dX3_gatherBelow_23 : decode cX3_gatherBelow 23 = .ok (.getfield 34, 3) := by decide +kernel
theorem dX3_gatherBelow_26 : decode cX3_gatherBelow 26 = .ok (.iload 7, 2) := by decide +kernel
theorem dX3_gatherBelow_28 : decode cX3_gatherBelow 28 = .ok (.invokevirtual 158, 3) := by decide +kernel
theorem dX3_gatherBelow_31 : decode cX3_gatherBelow 31 = .ok (.ifCond .eq 47, 3) := by decide +kernel
theorem dX3_gatherBelow_34 : decode cX3_gatherBelow 34 = .ok (.iload_n 2, 1) := by decide +kernel
theorem dX3_gatherBelow_35 : decode cX3_gatherBelow 35 = .ok (.iconst 3, 1) := by decide +kernel
theorem dX3_gatherBelow_36 : decode cX3_gatherBelow 36 = .ok (.if_icmp .ne 7, 3) := by decide +kernel
theorem dX3_gatherBelow_39 : decode cX3_gatherBelow 39 = .ok (.lconst 1, 1) := by decide +kernel
theorem dX3_gatherBelow_40 : decode cX3_gatherBelow 40 = .ok (.goto 13, 3) := by decide +kernel
theorem dX3_gatherBelow_43 : decode cX3_gatherBelow 43 = .ok (.aload_n 0, 1) := by decide +kernel
theorem dX3_gatherBelow_44 : decode cX3_gatherBelow 44 = .ok (.getfield 34, 3) := by decide +kernel
theorem dX3_gatherBelow_47 : decode cX3_gatherBelow 47 = .ok (.getfield 177, 3) := by decide +kernel
theorem dX3_gatherBelow_50 : decode cX3_gatherBelow 50 = .ok (.iload 7, 2) := by decide +kernel
theorem dX3_gatherBelow_52 : decode cX3_gatherBelow 52 = .ok (.laload, 1) := by decide +kernel
theorem dX3_gatherBelow_53 : decode cX3_gatherBelow 53 = .ok (.lstore 8, 2) := by decide +kernel
theorem dX3_gatherBelow_55 : decode cX3_gatherBelow 55 = .ok (.iload 4, 2) := by decide +kernel
theorem dX3_gatherBelow_57 : decode cX3_gatherBelow 57 = .ok (.ifCond .ne 8, 3) := by decide +kernel
theorem dX3_gatherBelow_60 : decode cX3_gatherBelow 60 = .ok (.lload 8, 2) := by decide +kernel
theorem dX3_gatherBelow_62 : decode cX3_gatherBelow 62 = .ok (.goto 11, 3) := by decide +kernel
theorem dX3_gatherBelow_65 : decode cX3_gatherBelow 65 = .ok (.iload_n 2, 1) := by decide +kernel
theorem dX3_gatherBelow_66 : decode cX3_gatherBelow 66 = .ok (.lload 5, 2) := by decide +kernel
theorem dX3_gatherBelow_68 : decode cX3_gatherBelow 68 = .ok (.lload 8, 2) := by decide +kernel
theorem dX3_gatherBelow_70 : decode cX3_gatherBelow 70 = .ok (.invokestatic 198, 3) := by decide +kernel
theorem dX3_gatherBelow_73 : decode cX3_gatherBelow 73 = .ok (.lstore 5, 2) := by decide +kernel
theorem dX3_gatherBelow_75 : decode cX3_gatherBelow 75 = .ok (.iinc 4 1, 3) := by decide +kernel
theorem dX3_gatherBelow_78 : decode cX3_gatherBelow 78 = .ok (.iinc 7 1, 3) := by decide +kernel
theorem dX3_gatherBelow_81 : decode cX3_gatherBelow 81 = .ok (.goto (-65), 3) := by decide +kernel
theorem dX3_gatherBelow_84 : decode cX3_gatherBelow 84 = .ok (.iload 4, 2) := by decide +kernel
theorem dX3_gatherBelow_86 : decode cX3_gatherBelow 86 = .ok (.ifCond .le 24, 3) := by decide +kernel
theorem dX3_gatherBelow_89 : decode cX3_gatherBelow 89 = .ok (.aload_n 3, 1) := by decide +kernel
theorem dX3_gatherBelow_90 : decode cX3_gatherBelow 90 = .ok (.iload_n 1, 1) := by decide +kernel
theorem dX3_gatherBelow_91 : decode cX3_gatherBelow 91 = .ok (.iload_n 2, 1) := by decide +kernel
theorem dX3_gatherBelow_92 : decode cX3_gatherBelow 92 = .ok (.iconst 4, 1) := by decide +kernel
theorem dX3_gatherBelow_93 : decode cX3_gatherBelow 93 = .ok (.if_icmp .ne 12, 3) := by decide +kernel
theorem dX3_gatherBelow_96 : decode cX3_gatherBelow 96 = .ok (.lload 5, 2) := by decide +kernel
theorem dX3_gatherBelow_98 : decode cX3_gatherBelow 98 = .ok (.iload 4, 2) := by decide +kernel
theorem dX3_gatherBelow_100 : decode cX3_gatherBelow 100 = .ok (.i2l, 1) := by decide +kernel
theorem dX3_gatherBelow_101 : decode cX3_gatherBelow 101 = .ok (.ldiv, 1) := by decide +kernel
theorem dX3_gatherBelow_102 : decode cX3_gatherBelow 102 = .ok (.goto 5, 3) := by decide +kernel
theorem dX3_gatherBelow_105 : decode cX3_gatherBelow 105 = .ok (.lload 5, 2) := by decide +kernel
theorem dX3_gatherBelow_107 : decode cX3_gatherBelow 107 = .ok (.invokevirtual 136, 3) := by decide +kernel
theorem dX3_gatherBelow_110 : decode cX3_gatherBelow 110 = .ok (.return_, 1) := by decide +kernel
theorem dX3_combine_0 : decode cX3_combine 0 = .ok (.iload_n 0, 1) := by decide +kernel
theorem dX3_combine_1 : decode cX3_combine 1 = .ok (.lookupswitch 39 #[(1, 27), (2, 33)], 27) := by decide +kernel
theorem dX3_combine_28 : decode cX3_combine 28 = .ok (.lload_n 1, 1) := by decide +kernel
theorem dX3_combine_29 : decode cX3_combine 29 = .ok (.lload_n 3, 1) := by decide +kernel
theorem dX3_combine_30 : decode cX3_combine 30 = .ok (.invokestatic 202, 3) := by decide +kernel
theorem dX3_combine_33 : decode cX3_combine 33 = .ok (.lreturn, 1) := by decide +kernel
theorem dX3_combine_34 : decode cX3_combine 34 = .ok (.lload_n 1, 1) := by decide +kernel
theorem dX3_combine_35 : decode cX3_combine 35 = .ok (.lload_n 3, 1) := by decide +kernel
theorem dX3_combine_36 : decode cX3_combine 36 = .ok (.invokestatic 208, 3) := by decide +kernel
theorem dX3_combine_39 : decode cX3_combine 39 = .ok (.lreturn, 1) := by decide +kernel
theorem dX3_combine_40 : decode cX3_combine 40 = .ok (.lload_n 1, 1) := by decide +kernel
theorem dX3_combine_41 : decode cX3_combine 41 = .ok (.lload_n 3, 1) := by decide +kernel
theorem dX3_combine_42 : decode cX3_combine 42 = .ok (.ladd, 1) := by decide +kernel
theorem dX3_combine_43 : decode cX3_combine 43 = .ok (.lreturn, 1) := by decide +kernel
set_option maxRecDepth 20000 in
theorem ggX3_spreadBelow_X1_firstBelow : GoodIn wsX3_spreadBelow wsX1_firstBelow := goodIn_r _ [9, 10, 31, 32, 33, 34, 35, 36, 37] (by decide +kernel) (by decide +kernel)
set_option maxRecDepth 20000 in
theorem gX3_spreadBelow_X1_firstBelow : GoodIn wsX3_spreadBelow (wsV RX3 116 RX1 yX1_firstBelow wsX1_firstBelow) := goodIn_app (goodIn_of _ (by decide +kernel)) ggX3_spreadBelow_X1_firstBelow
set_option maxRecDepth 20000 in
theorem ggX3_spreadBelow_X2_add : GoodIn wsX3_spreadBelow wsX2_add := goodIn_r _ [15, 16, 17, 18, 19, 20, 14, 21, 22, 38, 39, 40] (by decide +kernel) (by decide +kernel)
set_option maxRecDepth 20000 in
theorem gX3_spreadBelow_X2_add : GoodIn wsX3_spreadBelow (wsV RX3 211 RX2 yX2_add wsX2_add) := goodIn_app (goodIn_of _ (by decide +kernel)) ggX3_spreadBelow_X2_add
theorem dX3_spreadBelow_0 : decode cX3_spreadBelow 0 = .ok (.aload_n 0, 1) := by decide +kernel
theorem dX3_spreadBelow_1 : decode cX3_spreadBelow 1 = .ok (.getfield 20, 3) := by decide +kernel
theorem dX3_spreadBelow_4 : decode cX3_spreadBelow 4 = .ok (.iload_n 1, 1) := by decide +kernel
theorem dX3_spreadBelow_5 : decode cX3_spreadBelow 5 = .ok (.invokevirtual 116, 3) := by decide +kernel
theorem dX3_spreadBelow_8 : decode cX3_spreadBelow 8 = .ok (.istore 4, 2) := by decide +kernel
theorem dX3_spreadBelow_10 : decode cX3_spreadBelow 10 = .ok (.iload 4, 2) := by decide +kernel
theorem dX3_spreadBelow_12 : decode cX3_spreadBelow 12 = .ok (.iload_n 1, 1) := by decide +kernel
theorem dX3_spreadBelow_13 : decode cX3_spreadBelow 13 = .ok (.if_icmp .ge 38, 3) := by decide +kernel
theorem dX3_spreadBelow_16 : decode cX3_spreadBelow 16 = .ok (.aload_n 0, 1) := by decide +kernel
theorem dX3_spreadBelow_17 : decode cX3_spreadBelow 17 = .ok (.getfield 20, 3) := by decide +kernel
theorem dX3_spreadBelow_20 : decode cX3_spreadBelow 20 = .ok (.getfield 90, 3) := by decide +kernel
theorem dX3_spreadBelow_23 : decode cX3_spreadBelow 23 = .ok (.iload 4, 2) := by decide +kernel
theorem dX3_spreadBelow_25 : decode cX3_spreadBelow 25 = .ok (.iaload, 1) := by decide +kernel
theorem dX3_spreadBelow_26 : decode cX3_spreadBelow 26 = .ok (.iload_n 2, 1) := by decide +kernel
theorem dX3_spreadBelow_27 : decode cX3_spreadBelow 27 = .ok (.if_icmp .ne 18, 3) := by decide +kernel
theorem dX3_spreadBelow_30 : decode cX3_spreadBelow 30 = .ok (.aload_n 3, 1) := by decide +kernel
theorem dX3_spreadBelow_31 : decode cX3_spreadBelow 31 = .ok (.iload 4, 2) := by decide +kernel
theorem dX3_spreadBelow_33 : decode cX3_spreadBelow 33 = .ok (.aload_n 0, 1) := by decide +kernel
theorem dX3_spreadBelow_34 : decode cX3_spreadBelow 34 = .ok (.getfield 30, 3) := by decide +kernel
theorem dX3_spreadBelow_37 : decode cX3_spreadBelow 37 = .ok (.getfield 177, 3) := by decide +kernel
theorem dX3_spreadBelow_40 : decode cX3_spreadBelow 40 = .ok (.iload_n 1, 1) := by decide +kernel
theorem dX3_spreadBelow_41 : decode cX3_spreadBelow 41 = .ok (.laload, 1) := by decide +kernel
theorem dX3_spreadBelow_42 : decode cX3_spreadBelow 42 = .ok (.invokevirtual 211, 3) := by decide +kernel
theorem dX3_spreadBelow_45 : decode cX3_spreadBelow 45 = .ok (.iinc 4 1, 3) := by decide +kernel
theorem dX3_spreadBelow_48 : decode cX3_spreadBelow 48 = .ok (.goto (-38), 3) := by decide +kernel
theorem dX3_spreadBelow_51 : decode cX3_spreadBelow 51 = .ok (.return_, 1) := by decide +kernel
set_option maxRecDepth 20000 in
theorem ggX3_spreadToLinked_X2_put : GoodIn wsX3_spreadToLinked wsX2_put := goodIn_r _ [12, 13, 14, 15, 31, 32, 33] (by decide +kernel) (by decide +kernel)
set_option maxRecDepth 20000 in
theorem gX3_spreadToLinked_X2_put : GoodIn wsX3_spreadToLinked (wsV RX3 136 RX2 yX2_put wsX2_put) := goodIn_app (goodIn_of _ (by decide +kernel)) ggX3_spreadToLinked_X2_put
theorem dX3_spreadToLinked_0 : decode cX3_spreadToLinked 0 = .ok (.iconst 0, 1) := by decide +kernel
theorem dX3_spreadToLinked_1 : decode cX3_spreadToLinked 1 = .ok (.istore_n 3, 1) := by decide +kernel
theorem dX3_spreadToLinked_2 : decode cX3_spreadToLinked 2 = .ok (.iload_n 3, 1) := by decide +kernel
theorem dX3_spreadToLinked_3 : decode cX3_spreadToLinked 3 = .ok (.aload_n 0, 1) := by decide +kernel
theorem dX3_spreadToLinked_4 : decode cX3_spreadToLinked 4 = .ok (.getfield 20, 3) := by decide +kernel
theorem dX3_spreadToLinked_7 : decode cX3_spreadToLinked 7 = .ok (.getfield 59, 3) := by decide +kernel
theorem dX3_spreadToLinked_10 : decode cX3_spreadToLinked 10 = .ok (.if_icmp .ge 56, 3) := by decide +kernel
theorem dX3_spreadToLinked_13 : decode cX3_spreadToLinked 13 = .ok (.aload_n 0, 1) := by decide +kernel
theorem dX3_spreadToLinked_14 : decode cX3_spreadToLinked 14 = .ok (.getfield 20, 3) := by decide +kernel
theorem dX3_spreadToLinked_17 : decode cX3_spreadToLinked 17 = .ok (.getfield 112, 3) := by decide +kernel
theorem dX3_spreadToLinked_20 : decode cX3_spreadToLinked 20 = .ok (.iload_n 3, 1) := by decide +kernel
theorem dX3_spreadToLinked_21 : decode cX3_spreadToLinked 21 = .ok (.baload, 1) := by decide +kernel
theorem dX3_spreadToLinked_22 : decode cX3_spreadToLinked 22 = .ok (.ifCond .eq 38, 3) := by decide +kernel
theorem dX3_spreadToLinked_25 : decode cX3_spreadToLinked 25 = .ok (.aload_n 0, 1) := by decide +kernel
theorem dX3_spreadToLinked_26 : decode cX3_spreadToLinked 26 = .ok (.getfield 20, 3) := by decide +kernel
theorem dX3_spreadToLinked_29 : decode cX3_spreadToLinked 29 = .ok (.getfield 100, 3) := by decide +kernel
theorem dX3_spreadToLinked_32 : decode cX3_spreadToLinked 32 = .ok (.iload_n 3, 1) := by decide +kernel
theorem dX3_spreadToLinked_33 : decode cX3_spreadToLinked 33 = .ok (.iaload, 1) := by decide +kernel
theorem dX3_spreadToLinked_34 : decode cX3_spreadToLinked 34 = .ok (.aload_n 0, 1) := by decide +kernel
theorem dX3_spreadToLinked_35 : decode cX3_spreadToLinked 35 = .ok (.getfield 20, 3) := by decide +kernel
theorem dX3_spreadToLinked_38 : decode cX3_spreadToLinked 38 = .ok (.getfield 106, 3) := by decide +kernel
theorem dX3_spreadToLinked_41 : decode cX3_spreadToLinked 41 = .ok (.iload_n 1, 1) := by decide +kernel
theorem dX3_spreadToLinked_42 : decode cX3_spreadToLinked 42 = .ok (.iaload, 1) := by decide +kernel
theorem dX3_spreadToLinked_43 : decode cX3_spreadToLinked 43 = .ok (.if_icmp .ne 17, 3) := by decide +kernel
theorem dX3_spreadToLinked_46 : decode cX3_spreadToLinked 46 = .ok (.aload_n 2, 1) := by decide +kernel
theorem dX3_spreadToLinked_47 : decode cX3_spreadToLinked 47 = .ok (.iload_n 3, 1) := by decide +kernel
theorem dX3_spreadToLinked_48 : decode cX3_spreadToLinked 48 = .ok (.aload_n 0, 1) := by decide +kernel
theorem dX3_spreadToLinked_49 : decode cX3_spreadToLinked 49 = .ok (.getfield 30, 3) := by decide +kernel
theorem dX3_spreadToLinked_52 : decode cX3_spreadToLinked 52 = .ok (.getfield 177, 3) := by decide +kernel
theorem dX3_spreadToLinked_55 : decode cX3_spreadToLinked 55 = .ok (.iload_n 1, 1) := by decide +kernel
theorem dX3_spreadToLinked_56 : decode cX3_spreadToLinked 56 = .ok (.laload, 1) := by decide +kernel
theorem dX3_spreadToLinked_57 : decode cX3_spreadToLinked 57 = .ok (.invokevirtual 136, 3) := by decide +kernel
theorem dX3_spreadToLinked_60 : decode cX3_spreadToLinked 60 = .ok (.iinc 3 1, 3) := by decide +kernel
theorem dX3_spreadToLinked_63 : decode cX3_spreadToLinked 63 = .ok (.goto (-61), 3) := by decide +kernel
theorem dX3_spreadToLinked_66 : decode cX3_spreadToLinked 66 = .ok (.return_, 1) := by decide +kernel
theorem dX3_answerRanked_0 : decode cX3_answerRanked 0 = .ok (.iload_n 1, 1) := by decide +kernel
theorem dX3_answerRanked_1 : decode cX3_answerRanked 1 = .ok (.iconst (-1), 1) := by decide +kernel
theorem dX3_answerRanked_2 : decode cX3_answerRanked 2 = .ok (.if_icmp .ne 11, 3) := by decide +kernel
theorem dX3_answerRanked_5 : decode cX3_answerRanked 5 = .ok (.aload_n 0, 1) := by decide +kernel
theorem dX3_answerRanked_6 : decode cX3_answerRanked 6 = .ok (.getfield 40, 3) := by decide +kernel
theorem dX3_answerRanked_9 : decode cX3_answerRanked 9 = .ok (.getfield 214, 3) := by decide +kernel
theorem dX3_answerRanked_12 : decode cX3_answerRanked 12 = .ok (.ireturn, 1) := by decide +kernel
theorem dX3_answerRanked_13 : decode cX3_answerRanked 13 = .ok (.iload_n 1, 1) := by decide +kernel
theorem dX3_answerRanked_14 : decode cX3_answerRanked 14 = .ok (.ifCond .lt 26, 3) := by decide +kernel
theorem dX3_answerRanked_17 : decode cX3_answerRanked 17 = .ok (.iload_n 1, 1) := by decide +kernel
theorem dX3_answerRanked_18 : decode cX3_answerRanked 18 = .ok (.aload_n 0, 1) := by decide +kernel
theorem dX3_answerRanked_19 : decode cX3_answerRanked 19 = .ok (.getfield 40, 3) := by decide +kernel
theorem dX3_answerRanked_22 : decode cX3_answerRanked 22 = .ok (.getfield 214, 3) := by decide +kernel
theorem dX3_answerRanked_25 : decode cX3_answerRanked 25 = .ok (.if_icmp .ge 15, 3) := by decide +kernel
theorem dX3_answerRanked_28 : decode cX3_answerRanked 28 = .ok (.aload_n 0, 1) := by decide +kernel
theorem dX3_answerRanked_29 : decode cX3_answerRanked 29 = .ok (.getfield 40, 3) := by decide +kernel
theorem dX3_answerRanked_32 : decode cX3_answerRanked 32 = .ok (.getfield 215, 3) := by decide +kernel
theorem dX3_answerRanked_35 : decode cX3_answerRanked 35 = .ok (.iload_n 1, 1) := by decide +kernel
theorem dX3_answerRanked_36 : decode cX3_answerRanked 36 = .ok (.iaload, 1) := by decide +kernel
theorem dX3_answerRanked_37 : decode cX3_answerRanked 37 = .ok (.goto 4, 3) := by decide +kernel
theorem dX3_answerRanked_40 : decode cX3_answerRanked 40 = .ok (.iconst (-1), 1) := by decide +kernel
theorem dX3_answerRanked_41 : decode cX3_answerRanked 41 = .ok (.ireturn, 1) := by decide +kernel
theorem dX4_init_0 : decode cX4_init 0 = .ok (.aload_n 0, 1) := by decide +kernel
theorem dX4_init_1 : decode cX4_init 1 = .ok (.invokespecial 1, 3) := by decide +kernel
theorem dX4_init_4 : decode cX4_init 4 = .ok (.aload_n 0, 1) := by decide +kernel
theorem dX4_init_5 : decode cX4_init 5 = .ok (.sipush 261, 3) := by decide +kernel
theorem dX4_init_8 : decode cX4_init 8 = .ok (.newarray .int, 2) := by decide +kernel
theorem dX4_init_10 : decode cX4_init 10 = .ok (.putfield 7, 3) := by decide +kernel
theorem dX4_init_13 : decode cX4_init 13 = .ok (.aload_n 0, 1) := by decide +kernel
theorem dX4_init_14 : decode cX4_init 14 = .ok (.sipush 261, 3) := by decide +kernel
theorem dX4_init_17 : decode cX4_init 17 = .ok (.newarray .int, 2) := by decide +kernel
theorem dX4_init_19 : decode cX4_init 19 = .ok (.putfield 13, 3) := by decide +kernel
theorem dX4_init_22 : decode cX4_init 22 = .ok (.aload_n 0, 1) := by decide +kernel
theorem dX4_init_23 : decode cX4_init 23 = .ok (.sipush 261, 3) := by decide +kernel
theorem dX4_init_26 : decode cX4_init 26 = .ok (.newarray .int, 2) := by decide +kernel
theorem dX4_init_28 : decode cX4_init 28 = .ok (.putfield 16, 3) := by decide +kernel
theorem dX4_init_31 : decode cX4_init 31 = .ok (.aload_n 0, 1) := by decide +kernel
theorem dX4_init_32 : decode cX4_init 32 = .ok (.sipush 261, 3) := by decide +kernel
theorem dX4_init_35 : decode cX4_init 35 = .ok (.newarray .int, 2) := by decide +kernel
theorem dX4_init_37 : decode cX4_init 37 = .ok (.putfield 19, 3) := by decide +kernel
theorem dX4_init_40 : decode cX4_init 40 = .ok (.aload_n 0, 1) := by decide +kernel
theorem dX4_init_41 : decode cX4_init 41 = .ok (.sipush 261, 3) := by decide +kernel
theorem dX4_init_44 : decode cX4_init 44 = .ok (.newarray .int, 2) := by decide +kernel
theorem dX4_init_46 : decode cX4_init 46 = .ok (.putfield 22, 3) := by decide +kernel
theorem dX4_init_49 : decode cX4_init 49 = .ok (.aload_n 0, 1) := by decide +kernel
theorem dX4_init_50 : decode cX4_init 50 = .ok (.sipush 261, 3) := by decide +kernel
theorem dX4_init_53 : decode cX4_init 53 = .ok (.newarray .boolean, 2) := by decide +kernel
theorem dX4_init_55 : decode cX4_init 55 = .ok (.putfield 25, 3) := by decide +kernel
theorem dX4_init_58 : decode cX4_init 58 = .ok (.aload_n 0, 1) := by decide +kernel
theorem dX4_init_59 : decode cX4_init 59 = .ok (.sipush 240, 3) := by decide +kernel
theorem dX4_init_62 : decode cX4_init 62 = .ok (.newarray .int, 2) := by decide +kernel
theorem dX4_init_64 : decode cX4_init 64 = .ok (.putfield 29, 3) := by decide +kernel
theorem dX4_init_67 : decode cX4_init 67 = .ok (.aload_n 0, 1) := by decide +kernel
theorem dX4_init_68 : decode cX4_init 68 = .ok (.sipush 1800, 3) := by decide +kernel
theorem dX4_init_71 : decode cX4_init 71 = .ok (.newarray .boolean, 2) := by decide +kernel
theorem dX4_init_73 : decode cX4_init 73 = .ok (.putfield 32, 3) := by decide +kernel
theorem dX4_init_76 : decode cX4_init 76 = .ok (.aload_n 0, 1) := by decide +kernel
theorem dX4_init_77 : decode cX4_init 77 = .ok (.sipush 1800, 3) := by decide +kernel
theorem dX4_init_80 : decode cX4_init 80 = .ok (.newarray .long, 2) := by decide +kernel
theorem dX4_init_82 : decode cX4_init 82 = .ok (.putfield 35, 3) := by decide +kernel
theorem dX4_init_85 : decode cX4_init 85 = .ok (.aload_n 0, 1) := by decide +kernel
theorem dX4_init_86 : decode cX4_init 86 = .ok (.sipush 200, 3) := by decide +kernel
theorem dX4_init_89 : decode cX4_init 89 = .ok (.newarray .boolean, 2) := by decide +kernel
theorem dX4_init_91 : decode cX4_init 91 = .ok (.putfield 39, 3) := by decide +kernel
theorem dX4_init_94 : decode cX4_init 94 = .ok (.aload_n 0, 1) := by decide +kernel
theorem dX4_init_95 : decode cX4_init 95 = .ok (.sipush 200, 3) := by decide +kernel
theorem dX4_init_98 : decode cX4_init 98 = .ok (.newarray .long, 2) := by decide +kernel
theorem dX4_init_100 : decode cX4_init 100 = .ok (.putfield 42, 3) := by decide +kernel
theorem dX4_init_103 : decode cX4_init 103 = .ok (.return_, 1) := by decide +kernel
theorem dX4_thrown_0 : decode cX4_thrown 0 = .ok (.aload_n 0, 1) := by decide +kernel
theorem dX4_thrown_1 : decode cX4_thrown 1 = .ok (.getfield 45, 3) := by decide +kernel
theorem dX4_thrown_4 : decode cX4_thrown 4 = .ok (.ireturn, 1) := by decide +kernel
theorem dX4_isIn_0 : decode cX4_isIn 0 = .ok (.iload_n 0, 1) := by decide +kernel
theorem dX4_isIn_1 : decode cX4_isIn 1 = .ok (.iload_n 1, 1) := by decide +kernel
theorem dX4_isIn_2 : decode cX4_isIn 2 = .ok (.if_icmp .lt 12, 3) := by decide +kernel
theorem dX4_isIn_5 : decode cX4_isIn 5 = .ok (.iload_n 0, 1) := by decide +kernel
theorem dX4_isIn_6 : decode cX4_isIn 6 = .ok (.iload_n 2, 1) := by decide +kernel
theorem dX4_isIn_7 : decode cX4_isIn 7 = .ok (.if_icmp .gt 7, 3) := by decide +kernel
theorem dX4_isIn_10 : decode cX4_isIn 10 = .ok (.iconst 1, 1) := by decide +kernel
theorem dX4_isIn_11 : decode cX4_isIn 11 = .ok (.goto 4, 3) := by decide +kernel
theorem dX4_isIn_14 : decode cX4_isIn 14 = .ok (.iconst 0, 1) := by decide +kernel
theorem dX4_isIn_15 : decode cX4_isIn 15 = .ok (.ireturn, 1) := by decide +kernel
set_option maxRecDepth 20000 in
theorem ggX4_isObject_X4_isIn : GoodIn wsX4_isObject wsX4_isIn := goodIn_r _ [5] (by decide +kernel) (by decide +kernel)
set_option maxRecDepth 20000 in
theorem gX4_isObject_X4_isIn : GoodIn wsX4_isObject (va_wsS RX4 52 yX4_isIn wsX4_isIn) := goodIn_app (goodIn_of _ (by decide +kernel)) ggX4_isObject_X4_isIn
theorem dX4_isObject_0 : decode cX4_isObject 0 = .ok (.iload_n 1, 1) := by decide +kernel
theorem dX4_isObject_1 : decode cX4_isObject 1 = .ok (.iconst 0, 1) := by decide +kernel
theorem dX4_isObject_2 : decode cX4_isObject 2 = .ok (.aload_n 0, 1) := by decide +kernel
theorem dX4_isObject_3 : decode cX4_isObject 3 = .ok (.getfield 49, 3) := by decide +kernel
theorem dX4_isObject_6 : decode cX4_isObject 6 = .ok (.iconst 1, 1) := by decide +kernel
theorem dX4_isObject_7 : decode cX4_isObject 7 = .ok (.isub, 1) := by decide +kernel
theorem dX4_isObject_8 : decode cX4_isObject 8 = .ok (.invokestatic 52, 3) := by decide +kernel
theorem dX4_isObject_11 : decode cX4_isObject 11 = .ok (.ireturn, 1) := by decide +kernel
set_option maxRecDepth 20000 in
theorem ggX4_child_X4_isIn : GoodIn wsX4_child wsX4_isIn := goodIn_r _ [7] (by decide +kernel) (by decide +kernel)
set_option maxRecDepth 20000 in
theorem gX4_child_X4_isIn : GoodIn wsX4_child (va_wsS RX4 52 yX4_isIn wsX4_isIn) := goodIn_app (goodIn_of _ (by decide +kernel)) ggX4_child_X4_isIn
theorem dX4_child_0 : decode cX4_child 0 = .ok (.aload_n 0, 1) := by decide +kernel
theorem dX4_child_1 : decode cX4_child 1 = .ok (.iconst 0, 1) := by decide +kernel
theorem dX4_child_2 : decode cX4_child 2 = .ok (.putfield 45, 3) := by decide +kernel
theorem dX4_child_5 : decode cX4_child 5 = .ok (.iload_n 1, 1) := by decide +kernel
theorem dX4_child_6 : decode cX4_child 6 = .ok (.iconst 0, 1) := by decide +kernel
theorem dX4_child_7 : decode cX4_child 7 = .ok (.iconst 1, 1) := by decide +kernel
theorem dX4_child_8 : decode cX4_child 8 = .ok (.invokestatic 52, 3) := by decide +kernel
theorem dX4_child_11 : decode cX4_child 11 = .ok (.ifCond .eq 39, 3) := by decide +kernel
theorem dX4_child_14 : decode cX4_child 14 = .ok (.iload_n 2, 1) := by decide +kernel
theorem dX4_child_15 : decode cX4_child 15 = .ok (.sipush (-1000), 3) := by decide +kernel
theorem dX4_child_18 : decode cX4_child 18 = .ok (.sipush 1000, 3) := by decide +kernel
theorem dX4_child_21 : decode cX4_child 21 = .ok (.invokestatic 52, 3) := by decide +kernel
theorem dX4_child_24 : decode cX4_child 24 = .ok (.ifCond .eq 26, 3) := by decide +kernel
theorem dX4_child_27 : decode cX4_child 27 = .ok (.iload_n 3, 1) := by decide +kernel
theorem dX4_child_28 : decode cX4_child 28 = .ok (.iconst 0, 1) := by decide +kernel
theorem dX4_child_29 : decode cX4_child 29 = .ok (.sipush 255, 3) := by decide +kernel
theorem dX4_child_32 : decode cX4_child 32 = .ok (.invokestatic 52, 3) := by decide +kernel
theorem dX4_child_35 : decode cX4_child 35 = .ok (.ifCond .eq 15, 3) := by decide +kernel
theorem dX4_child_38 : decode cX4_child 38 = .ok (.iload 4, 2) := by decide +kernel
theorem dX4_child_40 : decode cX4_child 40 = .ok (.iconst (-1), 1) := by decide +kernel
theorem dX4_child_41 : decode cX4_child 41 = .ok (.sipush 999, 3) := by decide +kernel
theorem dX4_child_44 : decode cX4_child 44 = .ok (.invokestatic 52, 3) := by decide +kernel
theorem dX4_child_47 : decode cX4_child 47 = .ok (.ifCond .ne 6, 3) := by decide +kernel
theorem dX4_child_50 : decode cX4_child 50 = .ok (.bipush (-2), 2) := by decide +kernel
theorem dX4_child_52 : decode cX4_child 52 = .ok (.ireturn, 1) := by decide +kernel
theorem dX4_child_53 : decode cX4_child 53 = .ok (.aload_n 0, 1) := by decide +kernel
theorem dX4_child_54 : decode cX4_child 54 = .ok (.getfield 56, 3) := by decide +kernel
theorem dX4_child_57 : decode cX4_child 57 = .ok (.bipush 60, 2) := by decide +kernel
theorem dX4_child_59 : decode cX4_child 59 = .ok (.if_icmp .ne 6, 3) := by decide +kernel
theorem dX4_child_62 : decode cX4_child 62 = .ok (.bipush (-4), 2) := by decide +kernel
theorem dX4_child_64 : decode cX4_child 64 = .ok (.ireturn, 1) := by decide +kernel
theorem dX4_child_65 : decode cX4_child 65 = .ok (.aload_n 0, 1) := by decide +kernel
theorem dX4_child_66 : decode cX4_child 66 = .ok (.getfield 29, 3) := by decide +kernel
theorem dX4_child_69 : decode cX4_child 69 = .ok (.iconst 4, 1) := by decide +kernel
theorem dX4_child_70 : decode cX4_child 70 = .ok (.aload_n 0, 1) := by decide +kernel
theorem dX4_child_71 : decode cX4_child 71 = .ok (.getfield 56, 3) := by decide +kernel
theorem dX4_child_74 : decode cX4_child 74 = .ok (.imul, 1) := by decide +kernel
theorem dX4_child_75 : decode cX4_child 75 = .ok (.iload_n 1, 1) := by decide +kernel
theorem dX4_child_76 : decode cX4_child 76 = .ok (.iastore, 1) := by decide +kernel
theorem dX4_child_77 : decode cX4_child 77 = .ok (.aload_n 0, 1) := by decide +kernel
theorem dX4_child_78 : decode cX4_child 78 = .ok (.getfield 29, 3) := by decide +kernel
theorem dX4_child_81 : decode cX4_child 81 = .ok (.iconst 4, 1) := by decide +kernel
theorem dX4_child_82 : decode cX4_child 82 = .ok (.aload_n 0, 1) := by decide +kernel
theorem dX4_child_83 : decode cX4_child 83 = .ok (.getfield 56, 3) := by decide +kernel
theorem dX4_child_86 : decode cX4_child 86 = .ok (.imul, 1) := by decide +kernel
theorem dX4_child_87 : decode cX4_child 87 = .ok (.iconst 1, 1) := by decide +kernel
theorem dX4_child_88 : decode cX4_child 88 = .ok (.iadd, 1) := by decide +kernel
theorem dX4_child_89 : decode cX4_child 89 = .ok (.iload_n 2, 1) := by decide +kernel
theorem dX4_child_90 : decode cX4_child 90 = .ok (.iastore, 1) := by decide +kernel
theorem dX4_child_91 : decode cX4_child 91 = .ok (.aload_n 0, 1) := by decide +kernel
theorem dX4_child_92 : decode cX4_child 92 = .ok (.getfield 29, 3) := by decide +kernel
theorem dX4_child_95 : decode cX4_child 95 = .ok (.iconst 4, 1) := by decide +kernel
theorem dX4_child_96 : decode cX4_child 96 = .ok (.aload_n 0, 1) := by decide +kernel
theorem dX4_child_97 : decode cX4_child 97 = .ok (.getfield 56, 3) := by decide +kernel
theorem dX4_child_100 : decode cX4_child 100 = .ok (.imul, 1) := by decide +kernel
theorem dX4_child_101 : decode cX4_child 101 = .ok (.iconst 2, 1) := by decide +kernel
theorem dX4_child_102 : decode cX4_child 102 = .ok (.iadd, 1) := by decide +kernel
theorem dX4_child_103 : decode cX4_child 103 = .ok (.iload_n 3, 1) := by decide +kernel
theorem dX4_child_104 : decode cX4_child 104 = .ok (.iastore, 1) := by decide +kernel
theorem dX4_child_105 : decode cX4_child 105 = .ok (.aload_n 0, 1) := by decide +kernel
theorem dX4_child_106 : decode cX4_child 106 = .ok (.getfield 29, 3) := by decide +kernel
theorem dX4_child_109 : decode cX4_child 109 = .ok (.iconst 4, 1) := by decide +kernel
theorem dX4_child_110 : decode cX4_child 110 = .ok (.aload_n 0, 1) := by decide +kernel
theorem dX4_child_111 : decode cX4_child 111 = .ok (.getfield 56, 3) := by decide +kernel
theorem dX4_child_114 : decode cX4_child 114 = .ok (.imul, 1) := by decide +kernel
theorem dX4_child_115 : decode cX4_child 115 = .ok (.iconst 3, 1) := by decide +kernel
theorem dX4_child_116 : decode cX4_child 116 = .ok (.iadd, 1) := by decide +kernel
theorem dX4_child_117 : decode cX4_child 117 = .ok (.iload 4, 2) := by decide +kernel
theorem dX4_child_119 : decode cX4_child 119 = .ok (.iastore, 1) := by decide +kernel
theorem dX4_child_120 : decode cX4_child 120 = .ok (.aload_n 0, 1) := by decide +kernel
theorem dX4_child_121 : decode cX4_child 121 = .ok (.dup, 1) := by decide +kernel
theorem dX4_child_122 : decode cX4_child 122 = .ok (.getfield 56, 3) := by decide +kernel
theorem dX4_child_125 : decode cX4_child 125 = .ok (.iconst 1, 1) := by decide +kernel
theorem dX4_child_126 : decode cX4_child 126 = .ok (.iadd, 1) := by decide +kernel
theorem dX4_child_127 : decode cX4_child 127 = .ok (.putfield 56, 3) := by decide +kernel
theorem dX4_child_130 : decode cX4_child 130 = .ok (.aload_n 0, 1) := by decide +kernel
theorem dX4_child_131 : decode cX4_child 131 = .ok (.getfield 56, 3) := by decide +kernel
theorem dX4_child_134 : decode cX4_child 134 = .ok (.ireturn, 1) := by decide +kernel
theorem dX4_stand_0 : decode cX4_stand 0 = .ok (.aload_n 0, 1) := by decide +kernel
theorem dX4_stand_1 : decode cX4_stand 1 = .ok (.getfield 7, 3) := by decide +kernel
theorem dX4_stand_4 : decode cX4_stand 4 = .ok (.aload_n 0, 1) := by decide +kernel
theorem dX4_stand_5 : decode cX4_stand 5 = .ok (.getfield 49, 3) := by decide +kernel
theorem dX4_stand_8 : decode cX4_stand 8 = .ok (.iload_n 1, 1) := by decide +kernel
theorem dX4_stand_9 : decode cX4_stand 9 = .ok (.iastore, 1) := by decide +kernel
theorem dX4_stand_10 : decode cX4_stand 10 = .ok (.aload_n 0, 1) := by decide +kernel
theorem dX4_stand_11 : decode cX4_stand 11 = .ok (.getfield 13, 3) := by decide +kernel
theorem dX4_stand_14 : decode cX4_stand 14 = .ok (.aload_n 0, 1) := by decide +kernel
theorem dX4_stand_15 : decode cX4_stand 15 = .ok (.getfield 49, 3) := by decide +kernel
theorem dX4_stand_18 : decode cX4_stand 18 = .ok (.iload_n 2, 1) := by decide +kernel
theorem dX4_stand_19 : decode cX4_stand 19 = .ok (.iastore, 1) := by decide +kernel
theorem dX4_stand_20 : decode cX4_stand 20 = .ok (.aload_n 0, 1) := by decide +kernel
theorem dX4_stand_21 : decode cX4_stand 21 = .ok (.getfield 16, 3) := by decide +kernel
theorem dX4_stand_24 : decode cX4_stand 24 = .ok (.aload_n 0, 1) := by decide +kernel
theorem dX4_stand_25 : decode cX4_stand 25 = .ok (.getfield 49, 3) := by decide +kernel
theorem dX4_stand_28 : decode cX4_stand 28 = .ok (.iload_n 3, 1) := by decide +kernel
theorem dX4_stand_29 : decode cX4_stand 29 = .ok (.iastore, 1) := by decide +kernel
theorem dX4_stand_30 : decode cX4_stand 30 = .ok (.aload_n 0, 1) := by decide +kernel
theorem dX4_stand_31 : decode cX4_stand 31 = .ok (.getfield 19, 3) := by decide +kernel
theorem dX4_stand_34 : decode cX4_stand 34 = .ok (.aload_n 0, 1) := by decide +kernel
theorem dX4_stand_35 : decode cX4_stand 35 = .ok (.getfield 49, 3) := by decide +kernel
theorem dX4_stand_38 : decode cX4_stand 38 = .ok (.iload 4, 2) := by decide +kernel
theorem dX4_stand_40 : decode cX4_stand 40 = .ok (.iastore, 1) := by decide +kernel
theorem dX4_stand_41 : decode cX4_stand 41 = .ok (.aload_n 0, 1) := by decide +kernel
theorem dX4_stand_42 : decode cX4_stand 42 = .ok (.getfield 22, 3) := by decide +kernel
theorem dX4_stand_45 : decode cX4_stand 45 = .ok (.aload_n 0, 1) := by decide +kernel
theorem dX4_stand_46 : decode cX4_stand 46 = .ok (.getfield 49, 3) := by decide +kernel
theorem dX4_stand_49 : decode cX4_stand 49 = .ok (.iload 5, 2) := by decide +kernel
theorem dX4_stand_51 : decode cX4_stand 51 = .ok (.iastore, 1) := by decide +kernel
theorem dX4_stand_52 : decode cX4_stand 52 = .ok (.aload_n 0, 1) := by decide +kernel
theorem dX4_stand_53 : decode cX4_stand 53 = .ok (.getfield 25, 3) := by decide +kernel
theorem dX4_stand_56 : decode cX4_stand 56 = .ok (.aload_n 0, 1) := by decide +kernel
theorem dX4_stand_57 : decode cX4_stand 57 = .ok (.getfield 49, 3) := by decide +kernel
theorem dX4_stand_60 : decode cX4_stand 60 = .ok (.iconst 1, 1) := by decide +kernel
theorem dX4_stand_61 : decode cX4_stand 61 = .ok (.bastore, 1) := by decide +kernel
theorem dX4_stand_62 : decode cX4_stand 62 = .ok (.iconst 0, 1) := by decide +kernel
theorem dX4_stand_63 : decode cX4_stand 63 = .ok (.istore 6, 2) := by decide +kernel
theorem dX4_stand_65 : decode cX4_stand 65 = .ok (.iload 6, 2) := by decide +kernel
theorem dX4_stand_67 : decode cX4_stand 67 = .ok (.bipush 9, 2) := by decide +kernel
theorem dX4_stand_69 : decode cX4_stand 69 = .ok (.if_icmp .ge 26, 3) := by decide +kernel
theorem dX4_stand_72 : decode cX4_stand 72 = .ok (.aload_n 0, 1) := by decide +kernel
theorem dX4_stand_73 : decode cX4_stand 73 = .ok (.getfield 32, 3) := by decide +kernel
theorem dX4_stand_76 : decode cX4_stand 76 = .ok (.sipush 200, 3) := by decide +kernel
theorem dX4_stand_79 : decode cX4_stand 79 = .ok (.iload 6, 2) := by decide +kernel
theorem dX4_stand_81 : decode cX4_stand 81 = .ok (.imul, 1) := by decide +kernel
theorem dX4_stand_82 : decode cX4_stand 82 = .ok (.aload_n 0, 1) := by decide +kernel
theorem dX4_stand_83 : decode cX4_stand 83 = .ok (.getfield 49, 3) := by decide +kernel
theorem dX4_stand_86 : decode cX4_stand 86 = .ok (.iadd, 1) := by decide +kernel
theorem dX4_stand_87 : decode cX4_stand 87 = .ok (.iconst 0, 1) := by decide +kernel
theorem dX4_stand_88 : decode cX4_stand 88 = .ok (.bastore, 1) := by decide +kernel
theorem dX4_stand_89 : decode cX4_stand 89 = .ok (.iinc 6 1, 3) := by decide +kernel
theorem dX4_stand_92 : decode cX4_stand 92 = .ok (.goto (-27), 3) := by decide +kernel
theorem dX4_stand_95 : decode cX4_stand 95 = .ok (.aload_n 0, 1) := by decide +kernel
theorem dX4_stand_96 : decode cX4_stand 96 = .ok (.dup, 1) := by decide +kernel
theorem dX4_stand_97 : decode cX4_stand 97 = .ok (.getfield 49, 3) := by decide +kernel
theorem dX4_stand_100 : decode cX4_stand 100 = .ok (.iconst 1, 1) := by decide +kernel
theorem dX4_stand_101 : decode cX4_stand 101 = .ok (.iadd, 1) := by decide +kernel
theorem dX4_stand_102 : decode cX4_stand 102 = .ok (.putfield 49, 3) := by decide +kernel
theorem dX4_stand_105 : decode cX4_stand 105 = .ok (.return_, 1) := by decide +kernel
theorem dX4_rootOf_0 : decode cX4_rootOf 0 = .ok (.iconst 0, 1) := by decide +kernel
theorem dX4_rootOf_1 : decode cX4_rootOf 1 = .ok (.istore_n 2, 1) := by decide +kernel
theorem dX4_rootOf_2 : decode cX4_rootOf 2 = .ok (.iload_n 2, 1) := by decide +kernel
theorem dX4_rootOf_3 : decode cX4_rootOf 3 = .ok (.aload_n 0, 1) := by decide +kernel
theorem dX4_rootOf_4 : decode cX4_rootOf 4 = .ok (.getfield 49, 3) := by decide +kernel
theorem dX4_rootOf_7 : decode cX4_rootOf 7 = .ok (.if_icmp .ge 40, 3) := by decide +kernel
theorem dX4_rootOf_10 : decode cX4_rootOf 10 = .ok (.aload_n 0, 1) := by decide +kernel
theorem dX4_rootOf_11 : decode cX4_rootOf 11 = .ok (.getfield 25, 3) := by decide +kernel
theorem dX4_rootOf_14 : decode cX4_rootOf 14 = .ok (.iload_n 2, 1) := by decide +kernel
theorem dX4_rootOf_15 : decode cX4_rootOf 15 = .ok (.baload, 1) := by decide +kernel
theorem dX4_rootOf_16 : decode cX4_rootOf 16 = .ok (.ifCond .eq 25, 3) := by decide +kernel
theorem dX4_rootOf_19 : decode cX4_rootOf 19 = .ok (.aload_n 0, 1) := by decide +kernel
theorem dX4_rootOf_20 : decode cX4_rootOf 20 = .ok (.getfield 7, 3) := by decide +kernel
theorem dX4_rootOf_23 : decode cX4_rootOf 23 = .ok (.iload_n 2, 1) := by decide +kernel
theorem dX4_rootOf_24 : decode cX4_rootOf 24 = .ok (.iaload, 1) := by decide +kernel
theorem dX4_rootOf_25 : decode cX4_rootOf 25 = .ok (.iconst 2, 1) := by decide +kernel
theorem dX4_rootOf_26 : decode cX4_rootOf 26 = .ok (.if_icmp .ne 15, 3) := by decide +kernel
theorem dX4_rootOf_29 : decode cX4_rootOf 29 = .ok (.aload_n 0, 1) := by decide +kernel
theorem dX4_rootOf_30 : decode cX4_rootOf 30 = .ok (.getfield 22, 3) := by decide +kernel
theorem dX4_rootOf_33 : decode cX4_rootOf 33 = .ok (.iload_n 2, 1) := by decide +kernel
theorem dX4_rootOf_34 : decode cX4_rootOf 34 = .ok (.iaload, 1) := by decide +kernel
theorem dX4_rootOf_35 : decode cX4_rootOf 35 = .ok (.iload_n 1, 1) := by decide +kernel
theorem dX4_rootOf_36 : decode cX4_rootOf 36 = .ok (.if_icmp .ne 5, 3) := by decide +kernel
theorem dX4_rootOf_39 : decode cX4_rootOf 39 = .ok (.iload_n 2, 1) := by decide +kernel
theorem dX4_rootOf_40 : decode cX4_rootOf 40 = .ok (.ireturn, 1) := by decide +kernel
theorem dX4_rootOf_41 : decode cX4_rootOf 41 = .ok (.iinc 2 1, 3) := by decide +kernel
theorem dX4_rootOf_44 : decode cX4_rootOf 44 = .ok (.goto (-42), 3) := by decide +kernel
theorem dX4_rootOf_47 : decode cX4_rootOf 47 = .ok (.iconst (-1), 1) := by decide +kernel
theorem dX4_rootOf_48 : decode cX4_rootOf 48 = .ok (.ireturn, 1) := by decide +kernel
theorem dX4_empty_0 : decode cX4_empty 0 = .ok (.aload_n 0, 1) := by decide +kernel
theorem dX4_empty_1 : decode cX4_empty 1 = .ok (.iconst 0, 1) := by decide +kernel
theorem dX4_empty_2 : decode cX4_empty 2 = .ok (.putfield 59, 3) := by decide +kernel
theorem dX4_empty_5 : decode cX4_empty 5 = .ok (.aload_n 0, 1) := by decide +kernel
theorem dX4_empty_6 : decode cX4_empty 6 = .ok (.iconst 0, 1) := by decide +kernel
theorem dX4_empty_7 : decode cX4_empty 7 = .ok (.putfield 62, 3) := by decide +kernel
theorem dX4_empty_10 : decode cX4_empty 10 = .ok (.return_, 1) := by decide +kernel
set_option maxRecDepth 20000 in
theorem ggX4_die_X4_empty : GoodIn wsX4_die wsX4_empty := goodIn_r _ [7, 8, 9, 10, 11, 12, 13, 14, 15, 16, 17, 18, 19, 20, 21, 22, 23, 24, 25] (by decide +kernel) (by decide +kernel)
set_option maxRecDepth 20000 in
theorem gX4_die_X4_empty : GoodIn wsX4_die (wsV RX4 66 RX4 yX4_empty wsX4_empty) := goodIn_app (goodIn_of _ (by decide +kernel)) ggX4_die_X4_empty
theorem dX4_die_0 : decode cX4_die 0 = .ok (.iconst 0, 1) := by decide +kernel
theorem dX4_die_1 : decode cX4_die 1 = .ok (.istore_n 2, 1) := by decide +kernel
theorem dX4_die_2 : decode cX4_die 2 = .ok (.iload_n 1, 1) := by decide +kernel
theorem dX4_die_3 : decode cX4_die 3 = .ok (.istore_n 3, 1) := by decide +kernel
theorem dX4_die_4 : decode cX4_die 4 = .ok (.iload_n 3, 1) := by decide +kernel
theorem dX4_die_5 : decode cX4_die 5 = .ok (.ifCond .lt 34, 3) := by decide +kernel
theorem dX4_die_8 : decode cX4_die 8 = .ok (.iload_n 3, 1) := by decide +kernel
theorem dX4_die_9 : decode cX4_die 9 = .ok (.iload_n 1, 1) := by decide +kernel
theorem dX4_die_10 : decode cX4_die 10 = .ok (.if_icmp .eq 13, 3) := by decide +kernel
theorem dX4_die_13 : decode cX4_die 13 = .ok (.aload_n 0, 1) := by decide +kernel
theorem dX4_die_14 : decode cX4_die 14 = .ok (.getfield 7, 3) := by decide +kernel
theorem dX4_die_17 : decode cX4_die 17 = .ok (.iload_n 3, 1) := by decide +kernel
theorem dX4_die_18 : decode cX4_die 18 = .ok (.iaload, 1) := by decide +kernel
theorem dX4_die_19 : decode cX4_die 19 = .ok (.iconst 2, 1) := by decide +kernel
theorem dX4_die_20 : decode cX4_die 20 = .ok (.if_icmp .ge 19, 3) := by decide +kernel
theorem dX4_die_23 : decode cX4_die 23 = .ok (.aload_n 0, 1) := by decide +kernel
theorem dX4_die_24 : decode cX4_die 24 = .ok (.getfield 25, 3) := by decide +kernel
theorem dX4_die_27 : decode cX4_die 27 = .ok (.iload_n 3, 1) := by decide +kernel
theorem dX4_die_28 : decode cX4_die 28 = .ok (.iconst 0, 1) := by decide +kernel
theorem dX4_die_29 : decode cX4_die 29 = .ok (.bastore, 1) := by decide +kernel
theorem dX4_die_30 : decode cX4_die 30 = .ok (.iinc 2 1, 3) := by decide +kernel
theorem dX4_die_33 : decode cX4_die 33 = .ok (.iinc 3 (-1), 3) := by decide +kernel
theorem dX4_die_36 : decode cX4_die 36 = .ok (.goto (-32), 3) := by decide +kernel
theorem dX4_die_39 : decode cX4_die 39 = .ok (.aload_n 0, 1) := by decide +kernel
theorem dX4_die_40 : decode cX4_die 40 = .ok (.invokevirtual 66, 3) := by decide +kernel
theorem dX4_die_43 : decode cX4_die 43 = .ok (.iload_n 2, 1) := by decide +kernel
theorem dX4_die_44 : decode cX4_die 44 = .ok (.ireturn, 1) := by decide +kernel
set_option maxRecDepth 20000 in
theorem ggX4_close_X4_isIn : GoodIn wsX4_close wsX4_isIn := goodIn_r _ [8] (by decide +kernel) (by decide +kernel)
set_option maxRecDepth 20000 in
theorem gX4_close_X4_isIn : GoodIn wsX4_close (va_wsS RX4 52 yX4_isIn wsX4_isIn) := goodIn_app (goodIn_of _ (by decide +kernel)) ggX4_close_X4_isIn
set_option maxRecDepth 20000 in
theorem ggX4_close_X4_rootOf : GoodIn wsX4_close wsX4_rootOf := goodIn_r _ [12, 2, 13, 14, 15, 34, 35, 36, 37, 38, 39, 40, 41, 42, 43, 44, 45, 46, 47, 48, 49] (by decide +kernel) (by decide +kernel)
set_option maxRecDepth 20000 in
theorem gX4_close_X4_rootOf : GoodIn wsX4_close (wsV RX4 69 RX4 yX4_rootOf wsX4_rootOf) := goodIn_app (goodIn_of _ (by decide +kernel)) ggX4_close_X4_rootOf
set_option maxRecDepth 20000 in
theorem ggX4_close_X4_die : GoodIn wsX4_close wsX4_die := goodIn_r _ [19, 14, 13, 20, 21, 22, 7, 23, 24, 25, 34, 35, 36, 37, 38, 39, 40, 41, 42, 43, 44, 45, 46, 47, 48, 49] (by decide +kernel) (by decide +kernel)
set_option maxRecDepth 20000 in
theorem gX4_close_X4_die : GoodIn wsX4_close (wsV RX4 73 RX4 yX4_die wsX4_die) := goodIn_app (goodIn_of _ (by decide +kernel)) ggX4_close_X4_die
set_option maxRecDepth 20000 in
theorem ggX4_close_X4_stand : GoodIn wsX4_close wsX4_stand := goodIn_r _ [29, 14, 2, 30, 31, 32, 15, 13, 33, 34, 35, 36, 37, 38, 39, 40, 41, 42, 43, 44, 45, 46, 47, 48, 49] (by decide +kernel) (by decide +kernel)
set_option maxRecDepth 20000 in
theorem gX4_close_X4_stand : GoodIn wsX4_close (wsV RX4 76 RX4 yX4_stand wsX4_stand) := goodIn_app (goodIn_of _ (by decide +kernel)) ggX4_close_X4_stand
theorem dX4_close_0 : decode cX4_close 0 = .ok (.aload_n 0, 1) := by decide +kernel
theorem dX4_close_1 : decode cX4_close 1 = .ok (.iconst 0, 1) := by decide +kernel
theorem dX4_close_2 : decode cX4_close 2 = .ok (.putfield 45, 3) := by decide +kernel
theorem dX4_close_5 : decode cX4_close 5 = .ok (.iload_n 1, 1) := by decide +kernel
theorem dX4_close_6 : decode cX4_close 6 = .ok (.iconst 0, 1) := by decide +kernel
theorem dX4_close_7 : decode cX4_close 7 = .ok (.sipush 999, 3) := by decide +kernel
theorem dX4_close_10 : decode cX4_close 10 = .ok (.invokestatic 52, 3) := by decide +kernel
theorem dX4_close_13 : decode cX4_close 13 = .ok (.ifCond .eq 39, 3) := by decide +kernel
theorem dX4_close_16 : decode cX4_close 16 = .ok (.iload_n 2, 1) := by decide +kernel
theorem dX4_close_17 : decode cX4_close 17 = .ok (.sipush (-1000), 3) := by decide +kernel
theorem dX4_close_20 : decode cX4_close 20 = .ok (.sipush 1000, 3) := by decide +kernel
theorem dX4_close_23 : decode cX4_close 23 = .ok (.invokestatic 52, 3) := by decide +kernel
theorem dX4_close_26 : decode cX4_close 26 = .ok (.ifCond .eq 26, 3) := by decide +kernel
theorem dX4_close_29 : decode cX4_close 29 = .ok (.iload_n 3, 1) := by decide +kernel
theorem dX4_close_30 : decode cX4_close 30 = .ok (.iconst 0, 1) := by decide +kernel
theorem dX4_close_31 : decode cX4_close 31 = .ok (.sipush 255, 3) := by decide +kernel
theorem dX4_close_34 : decode cX4_close 34 = .ok (.invokestatic 52, 3) := by decide +kernel
theorem dX4_close_37 : decode cX4_close 37 = .ok (.ifCond .eq 15, 3) := by decide +kernel
theorem dX4_close_40 : decode cX4_close 40 = .ok (.iload 4, 2) := by decide +kernel
theorem dX4_close_42 : decode cX4_close 42 = .ok (.iconst (-1), 1) := by decide +kernel
theorem dX4_close_43 : decode cX4_close 43 = .ok (.sipush 999, 3) := by decide +kernel
theorem dX4_close_46 : decode cX4_close 46 = .ok (.invokestatic 52, 3) := by decide +kernel
theorem dX4_close_49 : decode cX4_close 49 = .ok (.ifCond .ne 6, 3) := by decide +kernel
theorem dX4_close_52 : decode cX4_close 52 = .ok (.bipush (-2), 2) := by decide +kernel
theorem dX4_close_54 : decode cX4_close 54 = .ok (.ireturn, 1) := by decide +kernel
theorem dX4_close_55 : decode cX4_close 55 = .ok (.aload_n 0, 1) := by decide +kernel
theorem dX4_close_56 : decode cX4_close 56 = .ok (.getfield 49, 3) := by decide +kernel
theorem dX4_close_59 : decode cX4_close 59 = .ok (.aload_n 0, 1) := by decide +kernel
theorem dX4_close_60 : decode cX4_close 60 = .ok (.getfield 56, 3) := by decide +kernel
theorem dX4_close_63 : decode cX4_close 63 = .ok (.iadd, 1) := by decide +kernel
theorem dX4_close_64 : decode cX4_close 64 = .ok (.iconst 1, 1) := by decide +kernel
theorem dX4_close_65 : decode cX4_close 65 = .ok (.iadd, 1) := by decide +kernel
theorem dX4_close_66 : decode cX4_close 66 = .ok (.sipush 200, 3) := by decide +kernel
theorem dX4_close_69 : decode cX4_close 69 = .ok (.if_icmp .le 6, 3) := by decide +kernel
theorem dX4_close_72 : decode cX4_close 72 = .ok (.bipush (-4), 2) := by decide +kernel
theorem dX4_close_74 : decode cX4_close 74 = .ok (.ireturn, 1) := by decide +kernel
theorem dX4_close_75 : decode cX4_close 75 = .ok (.aload_n 0, 1) := by decide +kernel
theorem dX4_close_76 : decode cX4_close 76 = .ok (.iload_n 1, 1) := by decide +kernel
theorem dX4_close_77 : decode cX4_close 77 = .ok (.invokevirtual 69, 3) := by decide +kernel
theorem dX4_close_80 : decode cX4_close 80 = .ok (.istore 5, 2) := by decide +kernel
theorem dX4_close_82 : decode cX4_close 82 = .ok (.iload 5, 2) := by decide +kernel
theorem dX4_close_84 : decode cX4_close 84 = .ok (.ifCond .lt 10, 3) := by decide +kernel
theorem dX4_close_87 : decode cX4_close 87 = .ok (.aload_n 0, 1) := by decide +kernel
theorem dX4_close_88 : decode cX4_close 88 = .ok (.iload 5, 2) := by decide +kernel
theorem dX4_close_90 : decode cX4_close 90 = .ok (.invokevirtual 73, 3) := by decide +kernel
theorem dX4_close_93 : decode cX4_close 93 = .ok (.pop, 1) := by decide +kernel
theorem dX4_close_94 : decode cX4_close 94 = .ok (.iconst 0, 1) := by decide +kernel
theorem dX4_close_95 : decode cX4_close 95 = .ok (.istore 6, 2) := by decide +kernel
theorem dX4_close_97 : decode cX4_close 97 = .ok (.iload 6, 2) := by decide +kernel
theorem dX4_close_99 : decode cX4_close 99 = .ok (.aload_n 0, 1) := by decide +kernel
theorem dX4_close_100 : decode cX4_close 100 = .ok (.getfield 56, 3) := by decide +kernel
theorem dX4_close_103 : decode cX4_close 103 = .ok (.if_icmp .ge 57, 3) := by decide +kernel
theorem dX4_close_106 : decode cX4_close 106 = .ok (.aload_n 0, 1) := by decide +kernel
theorem dX4_close_107 : decode cX4_close 107 = .ok (.aload_n 0, 1) := by decide +kernel
theorem dX4_close_108 : decode cX4_close 108 = .ok (.getfield 29, 3) := by decide +kernel
theorem dX4_close_111 : decode cX4_close 111 = .ok (.iconst 4, 1) := by decide +kernel
theorem dX4_close_112 : decode cX4_close 112 = .ok (.iload 6, 2) := by decide +kernel
theorem dX4_close_114 : decode cX4_close 114 = .ok (.imul, 1) := by decide +kernel
theorem dX4_close_115 : decode cX4_close 115 = .ok (.iaload, 1) := by decide +kernel
theorem dX4_close_116 : decode cX4_close 116 = .ok (.aload_n 0, 1) := by decide +kernel
theorem dX4_close_117 : decode cX4_close 117 = .ok (.getfield 29, 3) := by decide +kernel
theorem dX4_close_120 : decode cX4_close 120 = .ok (.iconst 4, 1) := by decide +kernel
theorem dX4_close_121 : decode cX4_close 121 = .ok (.iload 6, 2) := by decide +kernel
theorem dX4_close_123 : decode cX4_close 123 = .ok (.imul, 1) := by decide +kernel
theorem dX4_close_124 : decode cX4_close 124 = .ok (.iconst 1, 1) := by decide +kernel
theorem dX4_close_125 : decode cX4_close 125 = .ok (.iadd, 1) := by decide +kernel
theorem dX4_close_126 : decode cX4_close 126 = .ok (.iaload, 1) := by decide +kernel
theorem dX4_close_127 : decode cX4_close 127 = .ok (.aload_n 0, 1) := by decide +kernel
theorem dX4_close_128 : decode cX4_close 128 = .ok (.getfield 29, 3) := by decide +kernel
theorem dX4_close_131 : decode cX4_close 131 = .ok (.iconst 4, 1) := by decide +kernel
theorem dX4_close_132 : decode cX4_close 132 = .ok (.iload 6, 2) := by decide +kernel
theorem dX4_close_134 : decode cX4_close 134 = .ok (.imul, 1) := by decide +kernel
theorem dX4_close_135 : decode cX4_close 135 = .ok (.iconst 2, 1) := by decide +kernel
theorem dX4_close_136 : decode cX4_close 136 = .ok (.iadd, 1) := by decide +kernel
theorem dX4_close_137 : decode cX4_close 137 = .ok (.iaload, 1) := by decide +kernel
theorem dX4_close_138 : decode cX4_close 138 = .ok (.aload_n 0, 1) := by decide +kernel
theorem dX4_close_139 : decode cX4_close 139 = .ok (.getfield 29, 3) := by decide +kernel
theorem dX4_close_142 : decode cX4_close 142 = .ok (.iconst 4, 1) := by decide +kernel
theorem dX4_close_143 : decode cX4_close 143 = .ok (.iload 6, 2) := by decide +kernel
theorem dX4_close_145 : decode cX4_close 145 = .ok (.imul, 1) := by decide +kernel
theorem dX4_close_146 : decode cX4_close 146 = .ok (.iconst 3, 1) := by decide +kernel
theorem dX4_close_147 : decode cX4_close 147 = .ok (.iadd, 1) := by decide +kernel
theorem dX4_close_148 : decode cX4_close 148 = .ok (.iaload, 1) := by decide +kernel
theorem dX4_close_149 : decode cX4_close 149 = .ok (.bipush (-3), 2) := by decide +kernel
theorem dX4_close_151 : decode cX4_close 151 = .ok (.invokevirtual 76, 3) := by decide +kernel
theorem dX4_close_154 : decode cX4_close 154 = .ok (.iinc 6 1, 3) := by decide +kernel
theorem dX4_close_157 : decode cX4_close 157 = .ok (.goto (-60), 3) := by decide +kernel
theorem dX4_close_160 : decode cX4_close 160 = .ok (.aload_n 0, 1) := by decide +kernel
theorem dX4_close_161 : decode cX4_close 161 = .ok (.iconst 0, 1) := by decide +kernel
theorem dX4_close_162 : decode cX4_close 162 = .ok (.putfield 56, 3) := by decide +kernel
theorem dX4_close_165 : decode cX4_close 165 = .ok (.aload_n 0, 1) := by decide +kernel
theorem dX4_close_166 : decode cX4_close 166 = .ok (.iconst 2, 1) := by decide +kernel
theorem dX4_close_167 : decode cX4_close 167 = .ok (.iload_n 2, 1) := by decide +kernel
theorem dX4_close_168 : decode cX4_close 168 = .ok (.iload_n 3, 1) := by decide +kernel
theorem dX4_close_169 : decode cX4_close 169 = .ok (.iload 4, 2) := by decide +kernel
theorem dX4_close_171 : decode cX4_close 171 = .ok (.iload_n 1, 1) := by decide +kernel
theorem dX4_close_172 : decode cX4_close 172 = .ok (.invokevirtual 76, 3) := by decide +kernel
theorem dX4_close_175 : decode cX4_close 175 = .ok (.aload_n 0, 1) := by decide +kernel
theorem dX4_close_176 : decode cX4_close 176 = .ok (.getfield 49, 3) := by decide +kernel
theorem dX4_close_179 : decode cX4_close 179 = .ok (.iconst 1, 1) := by decide +kernel
theorem dX4_close_180 : decode cX4_close 180 = .ok (.isub, 1) := by decide +kernel
theorem dX4_close_181 : decode cX4_close 181 = .ok (.ireturn, 1) := by decide +kernel
theorem dX4_drop_0 : decode cX4_drop 0 = .ok (.aload_n 0, 1) := by decide +kernel
theorem dX4_drop_1 : decode cX4_drop 1 = .ok (.iconst 0, 1) := by decide +kernel
theorem dX4_drop_2 : decode cX4_drop 2 = .ok (.putfield 45, 3) := by decide +kernel
theorem dX4_drop_5 : decode cX4_drop 5 = .ok (.aload_n 0, 1) := by decide +kernel
theorem dX4_drop_6 : decode cX4_drop 6 = .ok (.getfield 56, 3) := by decide +kernel
theorem dX4_drop_9 : decode cX4_drop 9 = .ok (.istore_n 1, 1) := by decide +kernel
theorem dX4_drop_10 : decode cX4_drop 10 = .ok (.aload_n 0, 1) := by decide +kernel
theorem dX4_drop_11 : decode cX4_drop 11 = .ok (.iconst 0, 1) := by decide +kernel
theorem dX4_drop_12 : decode cX4_drop 12 = .ok (.putfield 56, 3) := by decide +kernel
theorem dX4_drop_15 : decode cX4_drop 15 = .ok (.iload_n 1, 1) := by decide +kernel
theorem dX4_drop_16 : decode cX4_drop 16 = .ok (.ireturn, 1) := by decide +kernel
set_option maxRecDepth 20000 in
theorem ggX4_kill_X4_rootOf : GoodIn wsX4_kill wsX4_rootOf := goodIn_r _ [6, 7, 8, 9, 10, 21, 22, 23, 24, 25, 26, 27, 28, 29, 30, 31, 32, 33, 34, 35, 36] (by decide +kernel) (by decide +kernel)
set_option maxRecDepth 20000 in
theorem gX4_kill_X4_rootOf : GoodIn wsX4_kill (wsV RX4 69 RX4 yX4_rootOf wsX4_rootOf) := goodIn_app (goodIn_of _ (by decide +kernel)) ggX4_kill_X4_rootOf
set_option maxRecDepth 20000 in
theorem ggX4_kill_X4_die : GoodIn wsX4_kill wsX4_die := goodIn_r _ [14, 9, 8, 15, 16, 17, 5, 18, 19, 20, 21, 22, 23, 24, 25, 26, 27, 28, 29, 30, 31, 32, 33, 34, 35, 36] (by decide +kernel) (by decide +kernel)
set_option maxRecDepth 20000 in
theorem gX4_kill_X4_die : GoodIn wsX4_kill (wsV RX4 73 RX4 yX4_die wsX4_die) := goodIn_app (goodIn_of _ (by decide +kernel)) ggX4_kill_X4_die
theorem dX4_kill_0 : decode cX4_kill 0 = .ok (.aload_n 0, 1) := by decide +kernel
theorem dX4_kill_1 : decode cX4_kill 1 = .ok (.iconst 0, 1) := by decide +kernel
theorem dX4_kill_2 : decode cX4_kill 2 = .ok (.putfield 45, 3) := by decide +kernel
theorem dX4_kill_5 : decode cX4_kill 5 = .ok (.aload_n 0, 1) := by decide +kernel
theorem dX4_kill_6 : decode cX4_kill 6 = .ok (.iload_n 1, 1) := by decide +kernel
theorem dX4_kill_7 : decode cX4_kill 7 = .ok (.invokevirtual 69, 3) := by decide +kernel
theorem dX4_kill_10 : decode cX4_kill 10 = .ok (.istore_n 2, 1) := by decide +kernel
theorem dX4_kill_11 : decode cX4_kill 11 = .ok (.iload_n 2, 1) := by decide +kernel
theorem dX4_kill_12 : decode cX4_kill 12 = .ok (.ifCond .ge 7, 3) := by decide +kernel
theorem dX4_kill_15 : decode cX4_kill 15 = .ok (.iconst (-1), 1) := by decide +kernel
theorem dX4_kill_16 : decode cX4_kill 16 = .ok (.goto 8, 3) := by decide +kernel
theorem dX4_kill_19 : decode cX4_kill 19 = .ok (.aload_n 0, 1) := by decide +kernel
theorem dX4_kill_20 : decode cX4_kill 20 = .ok (.iload_n 2, 1) := by decide +kernel
theorem dX4_kill_21 : decode cX4_kill 21 = .ok (.invokevirtual 73, 3) := by decide +kernel
theorem dX4_kill_24 : decode cX4_kill 24 = .ok (.ireturn, 1) := by decide +kernel
set_option maxRecDepth 20000 in
theorem ggX4_merge_X4_empty : GoodIn wsX4_merge wsX4_empty := goodIn_r _ [13, 14, 15, 16, 17, 18, 19, 20, 21, 22, 23, 24, 25, 26, 27, 28, 29, 30, 31] (by decide +kernel) (by decide +kernel)
set_option maxRecDepth 20000 in
theorem gX4_merge_X4_empty : GoodIn wsX4_merge (wsV RX4 66 RX4 yX4_empty wsX4_empty) := goodIn_app (goodIn_of _ (by decide +kernel)) ggX4_merge_X4_empty
theorem dX4_merge_0 : decode cX4_merge 0 = .ok (.aload_n 0, 1) := by decide +kernel
theorem dX4_merge_1 : decode cX4_merge 1 = .ok (.iconst 0, 1) := by decide +kernel
theorem dX4_merge_2 : decode cX4_merge 2 = .ok (.putfield 45, 3) := by decide +kernel
theorem dX4_merge_5 : decode cX4_merge 5 = .ok (.iconst 0, 1) := by decide +kernel
theorem dX4_merge_6 : decode cX4_merge 6 = .ok (.istore_n 1, 1) := by decide +kernel
theorem dX4_merge_7 : decode cX4_merge 7 = .ok (.iconst 0, 1) := by decide +kernel
theorem dX4_merge_8 : decode cX4_merge 8 = .ok (.istore_n 2, 1) := by decide +kernel
theorem dX4_merge_9 : decode cX4_merge 9 = .ok (.iload_n 2, 1) := by decide +kernel
theorem dX4_merge_10 : decode cX4_merge 10 = .ok (.aload_n 0, 1) := by decide +kernel
theorem dX4_merge_11 : decode cX4_merge 11 = .ok (.getfield 49, 3) := by decide +kernel
theorem dX4_merge_14 : decode cX4_merge 14 = .ok (.if_icmp .ge 88, 3) := by decide +kernel
theorem dX4_merge_17 : decode cX4_merge 17 = .ok (.aload_n 0, 1) := by decide +kernel
theorem dX4_merge_18 : decode cX4_merge 18 = .ok (.getfield 25, 3) := by decide +kernel
theorem dX4_merge_21 : decode cX4_merge 21 = .ok (.iload_n 2, 1) := by decide +kernel
theorem dX4_merge_22 : decode cX4_merge 22 = .ok (.baload, 1) := by decide +kernel
theorem dX4_merge_23 : decode cX4_merge 23 = .ok (.ifCond .eq 73, 3) := by decide +kernel
theorem dX4_merge_26 : decode cX4_merge 26 = .ok (.aload_n 0, 1) := by decide +kernel
theorem dX4_merge_27 : decode cX4_merge 27 = .ok (.getfield 7, 3) := by decide +kernel
theorem dX4_merge_30 : decode cX4_merge 30 = .ok (.iload_n 1, 1) := by decide +kernel
theorem dX4_merge_31 : decode cX4_merge 31 = .ok (.aload_n 0, 1) := by decide +kernel
theorem dX4_merge_32 : decode cX4_merge 32 = .ok (.getfield 7, 3) := by decide +kernel
theorem dX4_merge_35 : decode cX4_merge 35 = .ok (.iload_n 2, 1) := by decide +kernel
theorem dX4_merge_36 : decode cX4_merge 36 = .ok (.iaload, 1) := by decide +kernel
theorem dX4_merge_37 : decode cX4_merge 37 = .ok (.iastore, 1) := by decide +kernel
theorem dX4_merge_38 : decode cX4_merge 38 = .ok (.aload_n 0, 1) := by decide +kernel
theorem dX4_merge_39 : decode cX4_merge 39 = .ok (.getfield 13, 3) := by decide +kernel
theorem dX4_merge_42 : decode cX4_merge 42 = .ok (.iload_n 1, 1) := by decide +kernel
theorem dX4_merge_43 : decode cX4_merge 43 = .ok (.aload_n 0, 1) := by decide +kernel
theorem dX4_merge_44 : decode cX4_merge 44 = .ok (.getfield 13, 3) := by decide +kernel
theorem dX4_merge_47 : decode cX4_merge 47 = .ok (.iload_n 2, 1) := by decide +kernel
theorem dX4_merge_48 : decode cX4_merge 48 = .ok (.iaload, 1) := by decide +kernel
theorem dX4_merge_49 : decode cX4_merge 49 = .ok (.iastore, 1) := by decide +kernel
theorem dX4_merge_50 : decode cX4_merge 50 = .ok (.aload_n 0, 1) := by decide +kernel
theorem dX4_merge_51 : decode cX4_merge 51 = .ok (.getfield 16, 3) := by decide +kernel
theorem dX4_merge_54 : decode cX4_merge 54 = .ok (.iload_n 1, 1) := by decide +kernel
theorem dX4_merge_55 : decode cX4_merge 55 = .ok (.aload_n 0, 1) := by decide +kernel
theorem dX4_merge_56 : decode cX4_merge 56 = .ok (.getfield 16, 3) := by decide +kernel
theorem dX4_merge_59 : decode cX4_merge 59 = .ok (.iload_n 2, 1) := by decide +kernel
theorem dX4_merge_60 : decode cX4_merge 60 = .ok (.iaload, 1) := by decide +kernel
theorem dX4_merge_61 : decode cX4_merge 61 = .ok (.iastore, 1) := by decide +kernel
theorem dX4_merge_62 : decode cX4_merge 62 = .ok (.aload_n 0, 1) := by decide +kernel
theorem dX4_merge_63 : decode cX4_merge 63 = .ok (.getfield 19, 3) := by decide +kernel
theorem dX4_merge_66 : decode cX4_merge 66 = .ok (.iload_n 1, 1) := by decide +kernel
theorem dX4_merge_67 : decode cX4_merge 67 = .ok (.aload_n 0, 1) := by decide +kernel
theorem dX4_merge_68 : decode cX4_merge 68 = .ok (.getfield 19, 3) := by decide +kernel
theorem dX4_merge_71 : decode cX4_merge 71 = .ok (.iload_n 2, 1) := by decide +kernel
theorem dX4_merge_72 : decode cX4_merge 72 = .ok (.iaload, 1) := by decide +kernel
theorem dX4_merge_73 : decode cX4_merge 73 = .ok (.iastore, 1) := by decide +kernel
theorem dX4_merge_74 : decode cX4_merge 74 = .ok (.aload_n 0, 1) := by decide +kernel
theorem dX4_merge_75 : decode cX4_merge 75 = .ok (.getfield 22, 3) := by decide +kernel
theorem dX4_merge_78 : decode cX4_merge 78 = .ok (.iload_n 1, 1) := by decide +kernel
theorem dX4_merge_79 : decode cX4_merge 79 = .ok (.aload_n 0, 1) := by decide +kernel
theorem dX4_merge_80 : decode cX4_merge 80 = .ok (.getfield 22, 3) := by decide +kernel
theorem dX4_merge_83 : decode cX4_merge 83 = .ok (.iload_n 2, 1) := by decide +kernel
theorem dX4_merge_84 : decode cX4_merge 84 = .ok (.iaload, 1) := by decide +kernel
theorem dX4_merge_85 : decode cX4_merge 85 = .ok (.iastore, 1) := by decide +kernel
theorem dX4_merge_86 : decode cX4_merge 86 = .ok (.aload_n 0, 1) := by decide +kernel
theorem dX4_merge_87 : decode cX4_merge 87 = .ok (.getfield 25, 3) := by decide +kernel
theorem dX4_merge_90 : decode cX4_merge 90 = .ok (.iload_n 1, 1) := by decide +kernel
theorem dX4_merge_91 : decode cX4_merge 91 = .ok (.iconst 1, 1) := by decide +kernel
theorem dX4_merge_92 : decode cX4_merge 92 = .ok (.bastore, 1) := by decide +kernel
theorem dX4_merge_93 : decode cX4_merge 93 = .ok (.iinc 1 1, 3) := by decide +kernel
theorem dX4_merge_96 : decode cX4_merge 96 = .ok (.iinc 2 1, 3) := by decide +kernel
theorem dX4_merge_99 : decode cX4_merge 99 = .ok (.goto (-90), 3) := by decide +kernel
theorem dX4_merge_102 : decode cX4_merge 102 = .ok (.aload_n 0, 1) := by decide +kernel
theorem dX4_merge_103 : decode cX4_merge 103 = .ok (.iload_n 1, 1) := by decide +kernel
theorem dX4_merge_104 : decode cX4_merge 104 = .ok (.putfield 49, 3) := by decide +kernel
theorem dX4_merge_107 : decode cX4_merge 107 = .ok (.aload_n 0, 1) := by decide +kernel
theorem dX4_merge_108 : decode cX4_merge 108 = .ok (.invokevirtual 66, 3) := by decide +kernel
theorem dX4_merge_111 : decode cX4_merge 111 = .ok (.iload_n 1, 1) := by decide +kernel
theorem dX4_merge_112 : decode cX4_merge 112 = .ok (.ireturn, 1) := by decide +kernel
theorem dX4_parent_0 : decode cX4_parent 0 = .ok (.aload_n 0, 1) := by decide +kernel
theorem dX4_parent_1 : decode cX4_parent 1 = .ok (.getfield 7, 3) := by decide +kernel
theorem dX4_parent_4 : decode cX4_parent 4 = .ok (.iload_n 1, 1) := by decide +kernel
theorem dX4_parent_5 : decode cX4_parent 5 = .ok (.iaload, 1) := by decide +kernel
theorem dX4_parent_6 : decode cX4_parent 6 = .ok (.iconst 2, 1) := by decide +kernel
theorem dX4_parent_7 : decode cX4_parent 7 = .ok (.if_icmp .ne 6, 3) := by decide +kernel
theorem dX4_parent_10 : decode cX4_parent 10 = .ok (.bipush (-3), 2) := by decide +kernel
theorem dX4_parent_12 : decode cX4_parent 12 = .ok (.ireturn, 1) := by decide +kernel
theorem dX4_parent_13 : decode cX4_parent 13 = .ok (.iload_n 1, 1) := by decide +kernel
theorem dX4_parent_14 : decode cX4_parent 14 = .ok (.iconst 1, 1) := by decide +kernel
theorem dX4_parent_15 : decode cX4_parent 15 = .ok (.iadd, 1) := by decide +kernel
theorem dX4_parent_16 : decode cX4_parent 16 = .ok (.istore_n 2, 1) := by decide +kernel
theorem dX4_parent_17 : decode cX4_parent 17 = .ok (.aload_n 0, 1) := by decide +kernel
theorem dX4_parent_18 : decode cX4_parent 18 = .ok (.getfield 7, 3) := by decide +kernel
theorem dX4_parent_21 : decode cX4_parent 21 = .ok (.iload_n 2, 1) := by decide +kernel
theorem dX4_parent_22 : decode cX4_parent 22 = .ok (.iaload, 1) := by decide +kernel
theorem dX4_parent_23 : decode cX4_parent 23 = .ok (.aload_n 0, 1) := by decide +kernel
theorem dX4_parent_24 : decode cX4_parent 24 = .ok (.getfield 7, 3) := by decide +kernel
theorem dX4_parent_27 : decode cX4_parent 27 = .ok (.iload_n 1, 1) := by decide +kernel
theorem dX4_parent_28 : decode cX4_parent 28 = .ok (.iaload, 1) := by decide +kernel
theorem dX4_parent_29 : decode cX4_parent 29 = .ok (.if_icmp .gt 9, 3) := by decide +kernel
theorem dX4_parent_32 : decode cX4_parent 32 = .ok (.iinc 2 1, 3) := by decide +kernel
theorem dX4_parent_35 : decode cX4_parent 35 = .ok (.goto (-18), 3) := by decide +kernel
theorem dX4_parent_38 : decode cX4_parent 38 = .ok (.iload_n 2, 1) := by decide +kernel
theorem dX4_parent_39 : decode cX4_parent 39 = .ok (.ireturn, 1) := by decide +kernel
set_option maxRecDepth 20000 in
theorem ggX4_isAbove_X4_parent : GoodIn wsX4_isAbove wsX4_parent := goodIn_r _ [5, 6, 7, 8, 9, 10, 11, 12, 13, 14, 15, 16, 17, 18, 19, 20, 21, 22] (by decide +kernel) (by decide +kernel)
set_option maxRecDepth 20000 in
theorem gX4_isAbove_X4_parent : GoodIn wsX4_isAbove (wsV RX4 80 RX4 yX4_parent wsX4_parent) := goodIn_app (goodIn_of _ (by decide +kernel)) ggX4_isAbove_X4_parent
theorem dX4_isAbove_0 : decode cX4_isAbove 0 = .ok (.aload_n 0, 1) := by decide +kernel
theorem dX4_isAbove_1 : decode cX4_isAbove 1 = .ok (.iload_n 2, 1) := by decide +kernel
theorem dX4_isAbove_2 : decode cX4_isAbove 2 = .ok (.invokevirtual 80, 3) := by decide +kernel
theorem dX4_isAbove_5 : decode cX4_isAbove 5 = .ok (.istore_n 3, 1) := by decide +kernel
theorem dX4_isAbove_6 : decode cX4_isAbove 6 = .ok (.iload_n 3, 1) := by decide +kernel
theorem dX4_isAbove_7 : decode cX4_isAbove 7 = .ok (.ifCond .lt 17, 3) := by decide +kernel
theorem dX4_isAbove_10 : decode cX4_isAbove 10 = .ok (.iload_n 3, 1) := by decide +kernel
theorem dX4_isAbove_11 : decode cX4_isAbove 11 = .ok (.iload_n 1, 1) := by decide +kernel
theorem dX4_isAbove_12 : decode cX4_isAbove 12 = .ok (.if_icmp .eq 12, 3) := by decide +kernel
theorem dX4_isAbove_15 : decode cX4_isAbove 15 = .ok (.aload_n 0, 1) := by decide +kernel
theorem dX4_isAbove_16 : decode cX4_isAbove 16 = .ok (.iload_n 3, 1) := by decide +kernel
theorem dX4_isAbove_17 : decode cX4_isAbove 17 = .ok (.invokevirtual 80, 3) := by decide +kernel
theorem dX4_isAbove_20 : decode cX4_isAbove 20 = .ok (.istore_n 3, 1) := by decide +kernel
theorem dX4_isAbove_21 : decode cX4_isAbove 21 = .ok (.goto (-15), 3) := by decide +kernel
theorem dX4_isAbove_24 : decode cX4_isAbove 24 = .ok (.iload_n 3, 1) := by decide +kernel
theorem dX4_isAbove_25 : decode cX4_isAbove 25 = .ok (.iload_n 1, 1) := by decide +kernel
theorem dX4_isAbove_26 : decode cX4_isAbove 26 = .ok (.if_icmp .ne 7, 3) := by decide +kernel
theorem dX4_isAbove_29 : decode cX4_isAbove 29 = .ok (.iconst 1, 1) := by decide +kernel
theorem dX4_isAbove_30 : decode cX4_isAbove 30 = .ok (.goto 4, 3) := by decide +kernel
theorem dX4_isAbove_33 : decode cX4_isAbove 33 = .ok (.iconst 0, 1) := by decide +kernel
theorem dX4_isAbove_34 : decode cX4_isAbove 34 = .ok (.ireturn, 1) := by decide +kernel
set_option maxRecDepth 20000 in
theorem ggX4_belowOf_X4_isAbove : GoodIn wsX4_belowOf wsX4_isAbove := goodIn_r _ [6, 7, 8, 9, 5, 10, 11, 12, 13, 14, 15, 16, 17, 18, 19, 20, 21, 22, 23, 24, 25, 26, 27] (by decide +kernel) (by decide +kernel)
set_option maxRecDepth 20000 in
theorem gX4_belowOf_X4_isAbove : GoodIn wsX4_belowOf (wsV RX4 83 RX4 yX4_isAbove wsX4_isAbove) := goodIn_app (goodIn_of _ (by decide +kernel)) ggX4_belowOf_X4_isAbove
theorem dX4_belowOf_0 : decode cX4_belowOf 0 = .ok (.iconst 0, 1) := by decide +kernel
theorem dX4_belowOf_1 : decode cX4_belowOf 1 = .ok (.istore_n 2, 1) := by decide +kernel
theorem dX4_belowOf_2 : decode cX4_belowOf 2 = .ok (.iconst 0, 1) := by decide +kernel
theorem dX4_belowOf_3 : decode cX4_belowOf 3 = .ok (.istore_n 3, 1) := by decide +kernel
theorem dX4_belowOf_4 : decode cX4_belowOf 4 = .ok (.iload_n 3, 1) := by decide +kernel
theorem dX4_belowOf_5 : decode cX4_belowOf 5 = .ok (.aload_n 0, 1) := by decide +kernel
theorem dX4_belowOf_6 : decode cX4_belowOf 6 = .ok (.getfield 49, 3) := by decide +kernel
theorem dX4_belowOf_9 : decode cX4_belowOf 9 = .ok (.if_icmp .ge 26, 3) := by decide +kernel
theorem dX4_belowOf_12 : decode cX4_belowOf 12 = .ok (.iload_n 2, 1) := by decide +kernel
theorem dX4_belowOf_13 : decode cX4_belowOf 13 = .ok (.aload_n 0, 1) := by decide +kernel
theorem dX4_belowOf_14 : decode cX4_belowOf 14 = .ok (.iload_n 1, 1) := by decide +kernel
theorem dX4_belowOf_15 : decode cX4_belowOf 15 = .ok (.iload_n 3, 1) := by decide +kernel
theorem dX4_belowOf_16 : decode cX4_belowOf 16 = .ok (.invokevirtual 83, 3) := by decide +kernel
theorem dX4_belowOf_19 : decode cX4_belowOf 19 = .ok (.ifCond .eq 7, 3) := by decide +kernel
theorem dX4_belowOf_22 : decode cX4_belowOf 22 = .ok (.iconst 1, 1) := by decide +kernel
theorem dX4_belowOf_23 : decode cX4_belowOf 23 = .ok (.goto 4, 3) := by decide +kernel
theorem dX4_belowOf_26 : decode cX4_belowOf 26 = .ok (.iconst 0, 1) := by decide +kernel
theorem dX4_belowOf_27 : decode cX4_belowOf 27 = .ok (.iadd, 1) := by decide +kernel
theorem dX4_belowOf_28 : decode cX4_belowOf 28 = .ok (.istore_n 2, 1) := by decide +kernel
theorem dX4_belowOf_29 : decode cX4_belowOf 29 = .ok (.iinc 3 1, 3) := by decide +kernel
theorem dX4_belowOf_32 : decode cX4_belowOf 32 = .ok (.goto (-28), 3) := by decide +kernel
theorem dX4_belowOf_35 : decode cX4_belowOf 35 = .ok (.iload_n 2, 1) := by decide +kernel
theorem dX4_belowOf_36 : decode cX4_belowOf 36 = .ok (.ireturn, 1) := by decide +kernel
set_option maxRecDepth 20000 in
theorem ggX4_object_X4_isObject : GoodIn wsX4_object wsX4_isObject := goodIn_r _ [12, 13, 14, 15, 11, 16, 29, 30, 31, 32, 33, 34, 35, 36, 37, 38, 39, 40, 41, 42, 43, 44] (by decide +kernel) (by decide +kernel)
set_option maxRecDepth 20000 in
theorem gX4_object_X4_isObject : GoodIn wsX4_object (wsV RX4 87 RX4 yX4_isObject wsX4_isObject) := goodIn_app (goodIn_of _ (by decide +kernel)) ggX4_object_X4_isObject
set_option maxRecDepth 20000 in
theorem ggX4_object_X4_parent : GoodIn wsX4_object wsX4_parent := goodIn_r _ [20, 2, 29, 30, 31, 32, 33, 34, 35, 36, 37, 38, 39, 40, 41, 42, 43, 44] (by decide +kernel) (by decide +kernel)
set_option maxRecDepth 20000 in
theorem gX4_object_X4_parent : GoodIn wsX4_object (wsV RX4 80 RX4 yX4_parent wsX4_parent) := goodIn_app (goodIn_of _ (by decide +kernel)) ggX4_object_X4_parent
set_option maxRecDepth 20000 in
theorem ggX4_object_X4_belowOf : GoodIn wsX4_object wsX4_belowOf := goodIn_r _ [24, 13, 25, 26, 27, 11, 28, 17, 18, 19, 20, 2, 29, 30, 31, 32, 33, 34, 35, 36, 37, 38, 39, 40, 41, 42, 43, 44] (by decide +kernel) (by decide +kernel)
set_option maxRecDepth 20000 in
theorem gX4_object_X4_belowOf : GoodIn wsX4_object (wsV RX4 91 RX4 yX4_belowOf wsX4_belowOf) := goodIn_app (goodIn_of _ (by decide +kernel)) ggX4_object_X4_belowOf
theorem dX4_object_0 : decode cX4_object 0 = .ok (.aload_n 0, 1) := by decide +kernel
theorem dX4_object_1 : decode cX4_object 1 = .ok (.iconst 0, 1) := by decide +kernel
theorem dX4_object_2 : decode cX4_object 2 = .ok (.putfield 45, 3) := by decide +kernel
theorem dX4_object_5 : decode cX4_object 5 = .ok (.aload_n 0, 1) := by decide +kernel
theorem dX4_object_6 : decode cX4_object 6 = .ok (.iload_n 1, 1) := by decide +kernel
theorem dX4_object_7 : decode cX4_object 7 = .ok (.invokevirtual 87, 3) := by decide +kernel
theorem dX4_object_10 : decode cX4_object 10 = .ok (.ifCond .ne 5, 3) := by decide +kernel
theorem dX4_object_13 : decode cX4_object 13 = .ok (.iconst (-1), 1) := by decide +kernel
theorem dX4_object_14 : decode cX4_object 14 = .ok (.ireturn, 1) := by decide +kernel
theorem dX4_object_15 : decode cX4_object 15 = .ok (.iload_n 2, 1) := by decide +kernel
theorem dX4_object_16 : decode cX4_object 16 = .ok (.tableswitch 125 0 7 #[48, 55, 62, 69, 76, 98, 104, 119], 48) := by decide +kernel
theorem dX4_object_64 : decode cX4_object 64 = .ok (.aload_n 0, 1) := by decide +kernel
theorem dX4_object_65 : decode cX4_object 65 = .ok (.getfield 7, 3) := by decide +kernel
theorem dX4_object_68 : decode cX4_object 68 = .ok (.iload_n 1, 1) := by decide +kernel
theorem dX4_object_69 : decode cX4_object 69 = .ok (.iaload, 1) := by decide +kernel
theorem dX4_object_70 : decode cX4_object 70 = .ok (.ireturn, 1) := by decide +kernel
theorem dX4_object_71 : decode cX4_object 71 = .ok (.aload_n 0, 1) := by decide +kernel
theorem dX4_object_72 : decode cX4_object 72 = .ok (.getfield 13, 3) := by decide +kernel
theorem dX4_object_75 : decode cX4_object 75 = .ok (.iload_n 1, 1) := by decide +kernel
theorem dX4_object_76 : decode cX4_object 76 = .ok (.iaload, 1) := by decide +kernel
theorem dX4_object_77 : decode cX4_object 77 = .ok (.ireturn, 1) := by decide +kernel
theorem dX4_object_78 : decode cX4_object 78 = .ok (.aload_n 0, 1) := by decide +kernel
theorem dX4_object_79 : decode cX4_object 79 = .ok (.getfield 16, 3) := by decide +kernel
theorem dX4_object_82 : decode cX4_object 82 = .ok (.iload_n 1, 1) := by decide +kernel
theorem dX4_object_83 : decode cX4_object 83 = .ok (.iaload, 1) := by decide +kernel
theorem dX4_object_84 : decode cX4_object 84 = .ok (.ireturn, 1) := by decide +kernel
theorem dX4_object_85 : decode cX4_object 85 = .ok (.aload_n 0, 1) := by decide +kernel
theorem dX4_object_86 : decode cX4_object 86 = .ok (.getfield 19, 3) := by decide +kernel
theorem dX4_object_89 : decode cX4_object 89 = .ok (.iload_n 1, 1) := by decide +kernel
theorem dX4_object_90 : decode cX4_object 90 = .ok (.iaload, 1) := by decide +kernel
theorem dX4_object_91 : decode cX4_object 91 = .ok (.ireturn, 1) := by decide +kernel
theorem dX4_object_92 : decode cX4_object 92 = .ok (.aload_n 0, 1) := by decide +kernel
theorem dX4_object_93 : decode cX4_object 93 = .ok (.getfield 7, 3) := by decide +kernel
theorem dX4_object_96 : decode cX4_object 96 = .ok (.iload_n 1, 1) := by decide +kernel
theorem dX4_object_97 : decode cX4_object 97 = .ok (.iaload, 1) := by decide +kernel
theorem dX4_object_98 : decode cX4_object 98 = .ok (.iconst 2, 1) := by decide +kernel
theorem dX4_object_99 : decode cX4_object 99 = .ok (.if_icmp .ne 12, 3) := by decide +kernel
theorem dX4_object_102 : decode cX4_object 102 = .ok (.aload_n 0, 1) := by decide +kernel
theorem dX4_object_103 : decode cX4_object 103 = .ok (.getfield 22, 3) := by decide +kernel
theorem dX4_object_106 : decode cX4_object 106 = .ok (.iload_n 1, 1) := by decide +kernel
theorem dX4_object_107 : decode cX4_object 107 = .ok (.iaload, 1) := by decide +kernel
theorem dX4_object_108 : decode cX4_object 108 = .ok (.goto 5, 3) := by decide +kernel
theorem dX4_object_111 : decode cX4_object 111 = .ok (.bipush (-3), 2) := by decide +kernel
theorem dX4_object_113 : decode cX4_object 113 = .ok (.ireturn, 1) := by decide +kernel
theorem dX4_object_114 : decode cX4_object 114 = .ok (.aload_n 0, 1) := by decide +kernel
theorem dX4_object_115 : decode cX4_object 115 = .ok (.iload_n 1, 1) := by decide +kernel
theorem dX4_object_116 : decode cX4_object 116 = .ok (.invokevirtual 80, 3) := by decide +kernel
theorem dX4_object_119 : decode cX4_object 119 = .ok (.ireturn, 1) := by decide +kernel
theorem dX4_object_120 : decode cX4_object 120 = .ok (.aload_n 0, 1) := by decide +kernel
theorem dX4_object_121 : decode cX4_object 121 = .ok (.getfield 25, 3) := by decide +kernel
theorem dX4_object_124 : decode cX4_object 124 = .ok (.iload_n 1, 1) := by decide +kernel
theorem dX4_object_125 : decode cX4_object 125 = .ok (.baload, 1) := by decide +kernel
theorem dX4_object_126 : decode cX4_object 126 = .ok (.ifCond .eq 7, 3) := by decide +kernel
theorem dX4_object_129 : decode cX4_object 129 = .ok (.iconst 1, 1) := by decide +kernel
theorem dX4_object_130 : decode cX4_object 130 = .ok (.goto 4, 3) := by decide +kernel
theorem dX4_object_133 : decode cX4_object 133 = .ok (.iconst 0, 1) := by decide +kernel
theorem dX4_object_134 : decode cX4_object 134 = .ok (.ireturn, 1) := by decide +kernel
theorem dX4_object_135 : decode cX4_object 135 = .ok (.aload_n 0, 1) := by decide +kernel
theorem dX4_object_136 : decode cX4_object 136 = .ok (.iload_n 1, 1) := by decide +kernel
theorem dX4_object_137 : decode cX4_object 137 = .ok (.invokevirtual 91, 3) := by decide +kernel
theorem dX4_object_140 : decode cX4_object 140 = .ok (.ireturn, 1) := by decide +kernel
theorem dX4_object_141 : decode cX4_object 141 = .ok (.bipush (-2), 2) := by decide +kernel
theorem dX4_object_143 : decode cX4_object 143 = .ok (.ireturn, 1) := by decide +kernel
set_option maxRecDepth 20000 in
theorem ggX4_count_X4_isIn : GoodIn wsX4_count wsX4_isIn := goodIn_r _ [10] (by decide +kernel) (by decide +kernel)
set_option maxRecDepth 20000 in
theorem gX4_count_X4_isIn : GoodIn wsX4_count (va_wsS RX4 52 yX4_isIn wsX4_isIn) := goodIn_app (goodIn_of _ (by decide +kernel)) ggX4_count_X4_isIn
theorem dX4_count_0 : decode cX4_count 0 = .ok (.aload_n 0, 1) := by decide +kernel
theorem dX4_count_1 : decode cX4_count 1 = .ok (.iconst 0, 1) := by decide +kernel
theorem dX4_count_2 : decode cX4_count 2 = .ok (.putfield 45, 3) := by decide +kernel
theorem dX4_count_5 : decode cX4_count 5 = .ok (.iload_n 1, 1) := by decide +kernel
theorem dX4_count_6 : decode cX4_count 6 = .ok (.iconst 0, 1) := by decide +kernel
theorem dX4_count_7 : decode cX4_count 7 = .ok (.iconst 4, 1) := by decide +kernel
theorem dX4_count_8 : decode cX4_count 8 = .ok (.invokestatic 52, 3) := by decide +kernel
theorem dX4_count_11 : decode cX4_count 11 = .ok (.ifCond .ne 6, 3) := by decide +kernel
theorem dX4_count_14 : decode cX4_count 14 = .ok (.bipush (-2), 2) := by decide +kernel
theorem dX4_count_16 : decode cX4_count 16 = .ok (.ireturn, 1) := by decide +kernel
theorem dX4_count_17 : decode cX4_count 17 = .ok (.iconst 0, 1) := by decide +kernel
theorem dX4_count_18 : decode cX4_count 18 = .ok (.istore_n 2, 1) := by decide +kernel
theorem dX4_count_19 : decode cX4_count 19 = .ok (.iconst 0, 1) := by decide +kernel
theorem dX4_count_20 : decode cX4_count 20 = .ok (.istore_n 3, 1) := by decide +kernel
theorem dX4_count_21 : decode cX4_count 21 = .ok (.iconst 0, 1) := by decide +kernel
theorem dX4_count_22 : decode cX4_count 22 = .ok (.istore 4, 2) := by decide +kernel
theorem dX4_count_24 : decode cX4_count 24 = .ok (.iload 4, 2) := by decide +kernel
theorem dX4_count_26 : decode cX4_count 26 = .ok (.aload_n 0, 1) := by decide +kernel
theorem dX4_count_27 : decode cX4_count 27 = .ok (.getfield 49, 3) := by decide +kernel
theorem dX4_count_30 : decode cX4_count 30 = .ok (.if_icmp .ge 56, 3) := by decide +kernel
theorem dX4_count_33 : decode cX4_count 33 = .ok (.iload_n 2, 1) := by decide +kernel
theorem dX4_count_34 : decode cX4_count 34 = .ok (.aload_n 0, 1) := by decide +kernel
theorem dX4_count_35 : decode cX4_count 35 = .ok (.getfield 25, 3) := by decide +kernel
theorem dX4_count_38 : decode cX4_count 38 = .ok (.iload 4, 2) := by decide +kernel
theorem dX4_count_40 : decode cX4_count 40 = .ok (.baload, 1) := by decide +kernel
theorem dX4_count_41 : decode cX4_count 41 = .ok (.ifCond .eq 7, 3) := by decide +kernel
theorem dX4_count_44 : decode cX4_count 44 = .ok (.iconst 1, 1) := by decide +kernel
theorem dX4_count_45 : decode cX4_count 45 = .ok (.goto 4, 3) := by decide +kernel
theorem dX4_count_48 : decode cX4_count 48 = .ok (.iconst 0, 1) := by decide +kernel
theorem dX4_count_49 : decode cX4_count 49 = .ok (.iadd, 1) := by decide +kernel
theorem dX4_count_50 : decode cX4_count 50 = .ok (.istore_n 2, 1) := by decide +kernel
theorem dX4_count_51 : decode cX4_count 51 = .ok (.iload_n 3, 1) := by decide +kernel
theorem dX4_count_52 : decode cX4_count 52 = .ok (.aload_n 0, 1) := by decide +kernel
theorem dX4_count_53 : decode cX4_count 53 = .ok (.getfield 25, 3) := by decide +kernel
theorem dX4_count_56 : decode cX4_count 56 = .ok (.iload 4, 2) := by decide +kernel
theorem dX4_count_58 : decode cX4_count 58 = .ok (.baload, 1) := by decide +kernel
theorem dX4_count_59 : decode cX4_count 59 = .ok (.ifCond .eq 18, 3) := by decide +kernel
theorem dX4_count_62 : decode cX4_count 62 = .ok (.aload_n 0, 1) := by decide +kernel
theorem dX4_count_63 : decode cX4_count 63 = .ok (.getfield 7, 3) := by decide +kernel
theorem dX4_count_66 : decode cX4_count 66 = .ok (.iload 4, 2) := by decide +kernel
theorem dX4_count_68 : decode cX4_count 68 = .ok (.iaload, 1) := by decide +kernel
theorem dX4_count_69 : decode cX4_count 69 = .ok (.iconst 2, 1) := by decide +kernel
theorem dX4_count_70 : decode cX4_count 70 = .ok (.if_icmp .ne 7, 3) := by decide +kernel
theorem dX4_count_73 : decode cX4_count 73 = .ok (.iconst 1, 1) := by decide +kernel
theorem dX4_count_74 : decode cX4_count 74 = .ok (.goto 4, 3) := by decide +kernel
theorem dX4_count_77 : decode cX4_count 77 = .ok (.iconst 0, 1) := by decide +kernel
theorem dX4_count_78 : decode cX4_count 78 = .ok (.iadd, 1) := by decide +kernel
theorem dX4_count_79 : decode cX4_count 79 = .ok (.istore_n 3, 1) := by decide +kernel
theorem dX4_count_80 : decode cX4_count 80 = .ok (.iinc 4 1, 3) := by decide +kernel
theorem dX4_count_83 : decode cX4_count 83 = .ok (.goto (-59), 3) := by decide +kernel
theorem dX4_count_86 : decode cX4_count 86 = .ok (.iload_n 1, 1) := by decide +kernel
theorem dX4_count_87 : decode cX4_count 87 = .ok (.ifCond .ne 10, 3) := by decide +kernel
theorem dX4_count_90 : decode cX4_count 90 = .ok (.aload_n 0, 1) := by decide +kernel
theorem dX4_count_91 : decode cX4_count 91 = .ok (.getfield 49, 3) := by decide +kernel
theorem dX4_count_94 : decode cX4_count 94 = .ok (.goto 37, 3) := by decide +kernel
theorem dX4_count_97 : decode cX4_count 97 = .ok (.iload_n 1, 1) := by decide +kernel
theorem dX4_count_98 : decode cX4_count 98 = .ok (.iconst 1, 1) := by decide +kernel
theorem dX4_count_99 : decode cX4_count 99 = .ok (.if_icmp .ne 7, 3) := by decide +kernel
theorem dX4_count_102 : decode cX4_count 102 = .ok (.iload_n 2, 1) := by decide +kernel
theorem dX4_count_103 : decode cX4_count 103 = .ok (.goto 28, 3) := by decide +kernel
theorem dX4_count_106 : decode cX4_count 106 = .ok (.iload_n 1, 1) := by decide +kernel
theorem dX4_count_107 : decode cX4_count 107 = .ok (.iconst 2, 1) := by decide +kernel
theorem dX4_count_108 : decode cX4_count 108 = .ok (.if_icmp .ne 7, 3) := by decide +kernel
