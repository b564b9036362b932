abbrev pc_J6_bitCount_0f7a4 (cs : Nat → ClassId)  : va_W := []
abbrev rm_J6_bitCount_0f7a4 : Room := { frames := 0, cells := 0, slots := 0, locals := 0 }
def call_J6_bitCount_0f7a4 (p0 : Int32) (Q : Int32 → Prop) : Prop :=
    Q ((((((((p0 - ((((p0).toUInt32 >>> ((1 : Int32).toUInt32 &&& Int32.toUInt32 31)).toInt32) &&& 1431655765)) &&& 858993459) + (((((p0 - ((((p0).toUInt32 >>> ((1 : Int32).toUInt32 &&& Int32.toUInt32 31)).toInt32) &&& 1431655765))).toUInt32 >>> ((2 : Int32).toUInt32 &&& Int32.toUInt32 31)).toInt32) &&& 858993459)) + ((((((p0 - ((((p0).toUInt32 >>> ((1 : Int32).toUInt32 &&& Int32.toUInt32 31)).toInt32) &&& 1431655765)) &&& 858993459) + (((((p0 - ((((p0).toUInt32 >>> ((1 : Int32).toUInt32 &&& Int32.toUInt32 31)).toInt32) &&& 1431655765))).toUInt32 >>> ((2 : Int32).toUInt32 &&& Int32.toUInt32 31)).toInt32) &&& 858993459))).toUInt32 >>> ((4 : Int32).toUInt32 &&& Int32.toUInt32 31)).toInt32)) &&& 252645135) + ((((((((p0 - ((((p0).toUInt32 >>> ((1 : Int32).toUInt32 &&& Int32.toUInt32 31)).toInt32) &&& 1431655765)) &&& 858993459) + (((((p0 - ((((p0).toUInt32 >>> ((1 : Int32).toUInt32 &&& Int32.toUInt32 31)).toInt32) &&& 1431655765))).toUInt32 >>> ((2 : Int32).toUInt32 &&& Int32.toUInt32 31)).toInt32) &&& 858993459)) + ((((((p0 - ((((p0).toUInt32 >>> ((1 : Int32).toUInt32 &&& Int32.toUInt32 31)).toInt32) &&& 1431655765)) &&& 858993459) + (((((p0 - ((((p0).toUInt32 >>> ((1 : Int32).toUInt32 &&& Int32.toUInt32 31)).toInt32) &&& 1431655765))).toUInt32 >>> ((2 : Int32).toUInt32 &&& Int32.toUInt32 31)).toInt32) &&& 858993459))).toUInt32 >>> ((4 : Int32).toUInt32 &&& Int32.toUInt32 31)).toInt32)) &&& 252645135)).toUInt32 >>> ((8 : Int32).toUInt32 &&& Int32.toUInt32 31)).toInt32)) + (((((((((p0 - ((((p0).toUInt32 >>> ((1 : Int32).toUInt32 &&& Int32.toUInt32 31)).toInt32) &&& 1431655765)) &&& 858993459) + (((((p0 - ((((p0).toUInt32 >>> ((1 : Int32).toUInt32 &&& Int32.toUInt32 31)).toInt32) &&& 1431655765))).toUInt32 >>> ((2 : Int32).toUInt32 &&& Int32.toUInt32 31)).toInt32) &&& 858993459)) + ((((((p0 - ((((p0).toUInt32 >>> ((1 : Int32).toUInt32 &&& Int32.toUInt32 31)).toInt32) &&& 1431655765)) &&& 858993459) + (((((p0 - ((((p0).toUInt32 >>> ((1 : Int32).toUInt32 &&& Int32.toUInt32 31)).toInt32) &&& 1431655765))).toUInt32 >>> ((2 : Int32).toUInt32 &&& Int32.toUInt32 31)).toInt32) &&& 858993459))).toUInt32 >>> ((4 : Int32).toUInt32 &&& Int32.toUInt32 31)).toInt32)) &&& 252645135) + ((((((((p0 - ((((p0).toUInt32 >>> ((1 : Int32).toUInt32 &&& Int32.toUInt32 31)).toInt32) &&& 1431655765)) &&& 858993459) + (((((p0 - ((((p0).toUInt32 >>> ((1 : Int32).toUInt32 &&& Int32.toUInt32 31)).toInt32) &&& 1431655765))).toUInt32 >>> ((2 : Int32).toUInt32 &&& Int32.toUInt32 31)).toInt32) &&& 858993459)) + ((((((p0 - ((((p0).toUInt32 >>> ((1 : Int32).toUInt32 &&& Int32.toUInt32 31)).toInt32) &&& 1431655765)) &&& 858993459) + (((((p0 - ((((p0).toUInt32 >>> ((1 : Int32).toUInt32 &&& Int32.toUInt32 31)).toInt32) &&& 1431655765))).toUInt32 >>> ((2 : Int32).toUInt32 &&& Int32.toUInt32 31)).toInt32) &&& 858993459))).toUInt32 >>> ((4 : Int32).toUInt32 &&& Int32.toUInt32 31)).toInt32)) &&& 252645135)).toUInt32 >>> ((8 : Int32).toUInt32 &&& Int32.toUInt32 31)).toInt32))).toUInt32 >>> ((16 : Int32).toUInt32 &&& Int32.toUInt32 31)).toInt32)) &&& 63)
set_option maxHeartbeats 4000000 in
set_option maxRecDepth 100000 in
theorem m_J6_bitCount_0f7a4 (l : Launch) (D : va_G) (cs : Nat → ClassId)  (p0 : Int32) (Q : Int32 → Prop) (h : call_J6_bitCount_0f7a4 p0 Q) : CtI l yJ6_bitCount_0f7a4 wsJ6_bitCount_0f7a4 rm_J6_bitCount_0f7a4 D cs [.int p0] (pc_J6_bitCount_0f7a4 cs ) (fun u : Unit => (pc_J6_bitCount_0f7a4 cs )) (fun r u => Q r ) := by
  refine xo_I (S := Unit) (cc := cJ6_bitCount_0f7a4) (maxL := 1) (own := RJ6) (lv0 := [(0, .int p0)]) (by decide) rfl rfl (Nat.le_of_ble_eq_true rfl) rfl ?_
  intro p e s m args below meth c A Z ls F hK hA hP hD hS hl RET
  have hw := h
  unfold call_J6_bitCount_0f7a4 at hw
  generalize ([] : List Loc) = locs at hS ⊢
  obtain ⟨H, hHe⟩ : ∃ H, H = s.heap := ⟨_, rfl⟩
  have hP : va_P D vwCl (pc_J6_bitCount_0f7a4 cs ) H := by rw [hHe]; exact hP
  have hS : va_S A s.heap H locs := by rw [hHe]; exact hS
  suffices W p l e rm_J6_bitCount_0f7a4 s m args below meth c H locs 0 0 Z (F0 m 0 ls []) by rw [hHe] at this; exact this
  refine lv_iload_n F.1 F.2.1 dJ6_bitCount_0f7a4_0 rfl (lv_at hl 0 rfl) ?_
  refine lv_iload_n F.1 F.2.1 dJ6_bitCount_0f7a4_1 rfl (lv_at hl 0 rfl) ?_
  refine lv_iconst (v := 1) F.1 F.2.1 dJ6_bitCount_0f7a4_2 (by decide) ?_
  refine lv_iushr (v := ((p0).toUInt32 >>> ((1 : Int32).toUInt32 &&& Int32.toUInt32 31)).toInt32) F.1 F.2.1 dJ6_bitCount_0f7a4_3 rfl ?_
  refine lv_ldcw (v := 1431655765) F.1 F.2.1 F.2.2.2.1 (F.2.2.2.2 (.constant RJ6 265 (1431655765)) (by decide +kernel)) dJ6_bitCount_0f7a4_4 ?_
  refine lv_iand F.1 F.2.1 dJ6_bitCount_0f7a4_7 ?_
  refine lv_isub F.1 F.2.1 dJ6_bitCount_0f7a4_8 ?_
  refine lv_istore_n (lv' := [(0, .int (p0 - ((((p0).toUInt32 >>> ((1 : Int32).toUInt32 &&& Int32.toUInt32 31)).toInt32) &&& 1431655765)))]) F.1 F.2.1 dJ6_bitCount_0f7a4_9 rfl hl (by decide) rfl (fun ls hl => ?_)
  refine lv_iload_n F.1 F.2.1 dJ6_bitCount_0f7a4_10 rfl (lv_at hl 0 rfl) ?_
  refine lv_ldcw (v := 858993459) F.1 F.2.1 F.2.2.2.1 (F.2.2.2.2 (.constant RJ6 266 (858993459)) (by decide +kernel)) dJ6_bitCount_0f7a4_11 ?_
  refine lv_iand F.1 F.2.1 dJ6_bitCount_0f7a4_14 ?_
  refine lv_iload_n F.1 F.2.1 dJ6_bitCount_0f7a4_15 rfl (lv_at hl 0 rfl) ?_
  refine lv_iconst (v := 2) F.1 F.2.1 dJ6_bitCount_0f7a4_16 (by decide) ?_
  refine lv_iushr (v := (((p0 - ((((p0).toUInt32 >>> ((1 : Int32).toUInt32 &&& Int32.toUInt32 31)).toInt32) &&& 1431655765))).toUInt32 >>> ((2 : Int32).toUInt32 &&& Int32.toUInt32 31)).toInt32) F.1 F.2.1 dJ6_bitCount_0f7a4_17 rfl ?_
  refine lv_ldcw (v := 858993459) F.1 F.2.1 F.2.2.2.1 (F.2.2.2.2 (.constant RJ6 266 (858993459)) (by decide +kernel)) dJ6_bitCount_0f7a4_18 ?_
  refine lv_iand F.1 F.2.1 dJ6_bitCount_0f7a4_21 ?_
  refine lv_iadd F.1 F.2.1 dJ6_bitCount_0f7a4_22 ?_
  refine lv_istore_n (lv' := [(0, .int (((p0 - ((((p0).toUInt32 >>> ((1 : Int32).toUInt32 &&& Int32.toUInt32 31)).toInt32) &&& 1431655765)) &&& 858993459) + (((((p0 - ((((p0).toUInt32 >>> ((1 : Int32).toUInt32 &&& Int32.toUInt32 31)).toInt32) &&& 1431655765))).toUInt32 >>> ((2 : Int32).toUInt32 &&& Int32.toUInt32 31)).toInt32) &&& 858993459)))]) F.1 F.2.1 dJ6_bitCount_0f7a4_23 rfl hl (by decide) rfl (fun ls hl => ?_)
  refine lv_iload_n F.1 F.2.1 dJ6_bitCount_0f7a4_24 rfl (lv_at hl 0 rfl) ?_
  refine lv_iload_n F.1 F.2.1 dJ6_bitCount_0f7a4_25 rfl (lv_at hl 0 rfl) ?_
  refine lv_iconst (v := 4) F.1 F.2.1 dJ6_bitCount_0f7a4_26 (by decide) ?_
  refine lv_iushr (v := (((((p0 - ((((p0).toUInt32 >>> ((1 : Int32).toUInt32 &&& Int32.toUInt32 31)).toInt32) &&& 1431655765)) &&& 858993459) + (((((p0 - ((((p0).toUInt32 >>> ((1 : Int32).toUInt32 &&& Int32.toUInt32 31)).toInt32) &&& 1431655765))).toUInt32 >>> ((2 : Int32).toUInt32 &&& Int32.toUInt32 31)).toInt32) &&& 858993459))).toUInt32 >>> ((4 : Int32).toUInt32 &&& Int32.toUInt32 31)).toInt32) F.1 F.2.1 dJ6_bitCount_0f7a4_27 rfl ?_
  refine lv_iadd F.1 F.2.1 dJ6_bitCount_0f7a4_28 ?_
  refine lv_ldcw (v := 252645135) F.1 F.2.1 F.2.2.2.1 (F.2.2.2.2 (.constant RJ6 267 (252645135)) (by decide +kernel)) dJ6_bitCount_0f7a4_29 ?_
  refine lv_iand F.1 F.2.1 dJ6_bitCount_0f7a4_32 ?_
  refine lv_istore_n (lv' := [(0, .int (((((p0 - ((((p0).toUInt32 >>> ((1 : Int32).toUInt32 &&& Int32.toUInt32 31)).toInt32) &&& 1431655765)) &&& 858993459) + (((((p0 - ((((p0).toUInt32 >>> ((1 : Int32).toUInt32 &&& Int32.toUInt32 31)).toInt32) &&& 1431655765))).toUInt32 >>> ((2 : Int32).toUInt32 &&& Int32.toUInt32 31)).toInt32) &&& 858993459)) + ((((((p0 - ((((p0).toUInt32 >>> ((1 : Int32).toUInt32 &&& Int32.toUInt32 31)).toInt32) &&& 1431655765)) &&& 858993459) + (((((p0 - ((((p0).toUInt32 >>> ((1 : Int32).toUInt32 &&& Int32.toUInt32 31)).toInt32) &&& 1431655765))).toUInt32 >>> ((2 : Int32).toUInt32 &&& Int32.toUInt32 31)).toInt32) &&& 858993459))).toUInt32 >>> ((4 : Int32).toUInt32 &&& Int32.toUInt32 31)).toInt32)) &&& 252645135))]) F.1 F.2.1 dJ6_bitCount_0f7a4_33 rfl hl (by decide) rfl (fun ls hl => ?_)
  refine lv_iload_n F.1 F.2.1 dJ6_bitCount_0f7a4_34 rfl (lv_at hl 0 rfl) ?_
  refine lv_iload_n F.1 F.2.1 dJ6_bitCount_0f7a4_35 rfl (lv_at hl 0 rfl) ?_
  refine lv_bipush (v := 8) F.1 F.2.1 dJ6_bitCount_0f7a4_36 (by decide) ?_
  refine lv_iushr (v := (((((((p0 - ((((p0).toUInt32 >>> ((1 : Int32).toUInt32 &&& Int32.toUInt32 31)).toInt32) &&& 1431655765)) &&& 858993459) + (((((p0 - ((((p0).toUInt32 >>> ((1 : Int32).toUInt32 &&& Int32.toUInt32 31)).toInt32) &&& 1431655765))).toUInt32 >>> ((2 : Int32).toUInt32 &&& Int32.toUInt32 31)).toInt32) &&& 858993459)) + ((((((p0 - ((((p0).toUInt32 >>> ((1 : Int32).toUInt32 &&& Int32.toUInt32 31)).toInt32) &&& 1431655765)) &&& 858993459) + (((((p0 - ((((p0).toUInt32 >>> ((1 : Int32).toUInt32 &&& Int32.toUInt32 31)).toInt32) &&& 1431655765))).toUInt32 >>> ((2 : Int32).toUInt32 &&& Int32.toUInt32 31)).toInt32) &&& 858993459))).toUInt32 >>> ((4 : Int32).toUInt32 &&& Int32.toUInt32 31)).toInt32)) &&& 252645135)).toUInt32 >>> ((8 : Int32).toUInt32 &&& Int32.toUInt32 31)).toInt32) F.1 F.2.1 dJ6_bitCount_0f7a4_38 rfl ?_
  refine lv_iadd F.1 F.2.1 dJ6_bitCount_0f7a4_39 ?_
  refine lv_istore_n (lv' := [(0, .int ((((((p0 - ((((p0).toUInt32 >>> ((1 : Int32).toUInt32 &&& Int32.toUInt32 31)).toInt32) &&& 1431655765)) &&& 858993459) + (((((p0 - ((((p0).toUInt32 >>> ((1 : Int32).toUInt32 &&& Int32.toUInt32 31)).toInt32) &&& 1431655765))).toUInt32 >>> ((2 : Int32).toUInt32 &&& Int32.toUInt32 31)).toInt32) &&& 858993459)) + ((((((p0 - ((((p0).toUInt32 >>> ((1 : Int32).toUInt32 &&& Int32.toUInt32 31)).toInt32) &&& 1431655765)) &&& 858993459) + (((((p0 - ((((p0).toUInt32 >>> ((1 : Int32).toUInt32 &&& Int32.toUInt32 31)).toInt32) &&& 1431655765))).toUInt32 >>> ((2 : Int32).toUInt32 &&& Int32.toUInt32 31)).toInt32) &&& 858993459))).toUInt32 >>> ((4 : Int32).toUInt32 &&& Int32.toUInt32 31)).toInt32)) &&& 252645135) + ((((((((p0 - ((((p0).toUInt32 >>> ((1 : Int32).toUInt32 &&& Int32.toUInt32 31)).toInt32) &&& 1431655765)) &&& 858993459) + (((((p0 - ((((p0).toUInt32 >>> ((1 : Int32).toUInt32 &&& Int32.toUInt32 31)).toInt32) &&& 1431655765))).toUInt32 >>> ((2 : Int32).toUInt32 &&& Int32.toUInt32 31)).toInt32) &&& 858993459)) + ((((((p0 - ((((p0).toUInt32 >>> ((1 : Int32).toUInt32 &&& Int32.toUInt32 31)).toInt32) &&& 1431655765)) &&& 858993459) + (((((p0 - ((((p0).toUInt32 >>> ((1 : Int32).toUInt32 &&& Int32.toUInt32 31)).toInt32) &&& 1431655765))).toUInt32 >>> ((2 : Int32).toUInt32 &&& Int32.toUInt32 31)).toInt32) &&& 858993459))).toUInt32 >>> ((4 : Int32).toUInt32 &&& Int32.toUInt32 31)).toInt32)) &&& 252645135)).toUInt32 >>> ((8 : Int32).toUInt32 &&& Int32.toUInt32 31)).toInt32)))]) F.1 F.2.1 dJ6_bitCount_0f7a4_40 rfl hl (by decide) rfl (fun ls hl => ?_)
  refine lv_iload_n F.1 F.2.1 dJ6_bitCount_0f7a4_41 rfl (lv_at hl 0 rfl) ?_
  refine lv_iload_n F.1 F.2.1 dJ6_bitCount_0f7a4_42 rfl (lv_at hl 0 rfl) ?_
  refine lv_bipush (v := 16) F.1 F.2.1 dJ6_bitCount_0f7a4_43 (by decide) ?_
  refine lv_iushr (v := ((((((((p0 - ((((p0).toUInt32 >>> ((1 : Int32).toUInt32 &&& Int32.toUInt32 31)).toInt32) &&& 1431655765)) &&& 858993459) + (((((p0 - ((((p0).toUInt32 >>> ((1 : Int32).toUInt32 &&& Int32.toUInt32 31)).toInt32) &&& 1431655765))).toUInt32 >>> ((2 : Int32).toUInt32 &&& Int32.toUInt32 31)).toInt32) &&& 858993459)) + ((((((p0 - ((((p0).toUInt32 >>> ((1 : Int32).toUInt32 &&& Int32.toUInt32 31)).toInt32) &&& 1431655765)) &&& 858993459) + (((((p0 - ((((p0).toUInt32 >>> ((1 : Int32).toUInt32 &&& Int32.toUInt32 31)).toInt32) &&& 1431655765))).toUInt32 >>> ((2 : Int32).toUInt32 &&& Int32.toUInt32 31)).toInt32) &&& 858993459))).toUInt32 >>> ((4 : Int32).toUInt32 &&& Int32.toUInt32 31)).toInt32)) &&& 252645135) + ((((((((p0 - ((((p0).toUInt32 >>> ((1 : Int32).toUInt32 &&& Int32.toUInt32 31)).toInt32) &&& 1431655765)) &&& 858993459) + (((((p0 - ((((p0).toUInt32 >>> ((1 : Int32).toUInt32 &&& Int32.toUInt32 31)).toInt32) &&& 1431655765))).toUInt32 >>> ((2 : Int32).toUInt32 &&& Int32.toUInt32 31)).toInt32) &&& 858993459)) + ((((((p0 - ((((p0).toUInt32 >>> ((1 : Int32).toUInt32 &&& Int32.toUInt32 31)).toInt32) &&& 1431655765)) &&& 858993459) + (((((p0 - ((((p0).toUInt32 >>> ((1 : Int32).toUInt32 &&& Int32.toUInt32 31)).toInt32) &&& 1431655765))).toUInt32 >>> ((2 : Int32).toUInt32 &&& Int32.toUInt32 31)).toInt32) &&& 858993459))).toUInt32 >>> ((4 : Int32).toUInt32 &&& Int32.toUInt32 31)).toInt32)) &&& 252645135)).toUInt32 >>> ((8 : Int32).toUInt32 &&& Int32.toUInt32 31)).toInt32))).toUInt32 >>> ((16 : Int32).toUInt32 &&& Int32.toUInt32 31)).toInt32) F.1 F.2.1 dJ6_bitCount_0f7a4_45 rfl ?_
  refine lv_iadd F.1 F.2.1 dJ6_bitCount_0f7a4_46 ?_
  refine lv_istore_n (lv' := [(0, .int (((((((p0 - ((((p0).toUInt32 >>> ((1 : Int32).toUInt32 &&& Int32.toUInt32 31)).toInt32) &&& 1431655765)) &&& 858993459) + (((((p0 - ((((p0).toUInt32 >>> ((1 : Int32).toUInt32 &&& Int32.toUInt32 31)).toInt32) &&& 1431655765))).toUInt32 >>> ((2 : Int32).toUInt32 &&& Int32.toUInt32 31)).toInt32) &&& 858993459)) + ((((((p0 - ((((p0).toUInt32 >>> ((1 : Int32).toUInt32 &&& Int32.toUInt32 31)).toInt32) &&& 1431655765)) &&& 858993459) + (((((p0 - ((((p0).toUInt32 >>> ((1 : Int32).toUInt32 &&& Int32.toUInt32 31)).toInt32) &&& 1431655765))).toUInt32 >>> ((2 : Int32).toUInt32 &&& Int32.toUInt32 31)).toInt32) &&& 858993459))).toUInt32 >>> ((4 : Int32).toUInt32 &&& Int32.toUInt32 31)).toInt32)) &&& 252645135) + ((((((((p0 - ((((p0).toUInt32 >>> ((1 : Int32).toUInt32 &&& Int32.toUInt32 31)).toInt32) &&& 1431655765)) &&& 858993459) + (((((p0 - ((((p0).toUInt32 >>> ((1 : Int32).toUInt32 &&& Int32.toUInt32 31)).toInt32) &&& 1431655765))).toUInt32 >>> ((2 : Int32).toUInt32 &&& Int32.toUInt32 31)).toInt32) &&& 858993459)) + ((((((p0 - ((((p0).toUInt32 >>> ((1 : Int32).toUInt32 &&& Int32.toUInt32 31)).toInt32) &&& 1431655765)) &&& 858993459) + (((((p0 - ((((p0).toUInt32 >>> ((1 : Int32).toUInt32 &&& Int32.toUInt32 31)).toInt32) &&& 1431655765))).toUInt32 >>> ((2 : Int32).toUInt32 &&& Int32.toUInt32 31)).toInt32) &&& 858993459))).toUInt32 >>> ((4 : Int32).toUInt32 &&& Int32.toUInt32 31)).toInt32)) &&& 252645135)).toUInt32 >>> ((8 : Int32).toUInt32 &&& Int32.toUInt32 31)).toInt32)) + (((((((((p0 - ((((p0).toUInt32 >>> ((1 : Int32).toUInt32 &&& Int32.toUInt32 31)).toInt32) &&& 1431655765)) &&& 858993459) + (((((p0 - ((((p0).toUInt32 >>> ((1 : Int32).toUInt32 &&& Int32.toUInt32 31)).toInt32) &&& 1431655765))).toUInt32 >>> ((2 : Int32).toUInt32 &&& Int32.toUInt32 31)).toInt32) &&& 858993459)) + ((((((p0 - ((((p0).toUInt32 >>> ((1 : Int32).toUInt32 &&& Int32.toUInt32 31)).toInt32) &&& 1431655765)) &&& 858993459) + (((((p0 - ((((p0).toUInt32 >>> ((1 : Int32).toUInt32 &&& Int32.toUInt32 31)).toInt32) &&& 1431655765))).toUInt32 >>> ((2 : Int32).toUInt32 &&& Int32.toUInt32 31)).toInt32) &&& 858993459))).toUInt32 >>> ((4 : Int32).toUInt32 &&& Int32.toUInt32 31)).toInt32)) &&& 252645135) + ((((((((p0 - ((((p0).toUInt32 >>> ((1 : Int32).toUInt32 &&& Int32.toUInt32 31)).toInt32) &&& 1431655765)) &&& 858993459) + (((((p0 - ((((p0).toUInt32 >>> ((1 : Int32).toUInt32 &&& Int32.toUInt32 31)).toInt32) &&& 1431655765))).toUInt32 >>> ((2 : Int32).toUInt32 &&& Int32.toUInt32 31)).toInt32) &&& 858993459)) + ((((((p0 - ((((p0).toUInt32 >>> ((1 : Int32).toUInt32 &&& Int32.toUInt32 31)).toInt32) &&& 1431655765)) &&& 858993459) + (((((p0 - ((((p0).toUInt32 >>> ((1 : Int32).toUInt32 &&& Int32.toUInt32 31)).toInt32) &&& 1431655765))).toUInt32 >>> ((2 : Int32).toUInt32 &&& Int32.toUInt32 31)).toInt32) &&& 858993459))).toUInt32 >>> ((4 : Int32).toUInt32 &&& Int32.toUInt32 31)).toInt32)) &&& 252645135)).toUInt32 >>> ((8 : Int32).toUInt32 &&& Int32.toUInt32 31)).toInt32))).toUInt32 >>> ((16 : Int32).toUInt32 &&& Int32.toUInt32 31)).toInt32)))]) F.1 F.2.1 dJ6_bitCount_0f7a4_47 rfl hl (by decide) rfl (fun ls hl => ?_)
  refine lv_iload_n F.1 F.2.1 dJ6_bitCount_0f7a4_48 rfl (lv_at hl 0 rfl) ?_
  refine lv_bipush (v := 63) F.1 F.2.1 dJ6_bitCount_0f7a4_49 (by decide) ?_
  refine lv_iand F.1 F.2.1 dJ6_bitCount_0f7a4_51 ?_
  exact RET ((((((((p0 - ((((p0).toUInt32 >>> ((1 : Int32).toUInt32 &&& Int32.toUInt32 31)).toInt32) &&& 1431655765)) &&& 858993459) + (((((p0 - ((((p0).toUInt32 >>> ((1 : Int32).toUInt32 &&& Int32.toUInt32 31)).toInt32) &&& 1431655765))).toUInt32 >>> ((2 : Int32).toUInt32 &&& Int32.toUInt32 31)).toInt32) &&& 858993459)) + ((((((p0 - ((((p0).toUInt32 >>> ((1 : Int32).toUInt32 &&& Int32.toUInt32 31)).toInt32) &&& 1431655765)) &&& 858993459) + (((((p0 - ((((p0).toUInt32 >>> ((1 : Int32).toUInt32 &&& Int32.toUInt32 31)).toInt32) &&& 1431655765))).toUInt32 >>> ((2 : Int32).toUInt32 &&& Int32.toUInt32 31)).toInt32) &&& 858993459))).toUInt32 >>> ((4 : Int32).toUInt32 &&& Int32.toUInt32 31)).toInt32)) &&& 252645135) + ((((((((p0 - ((((p0).toUInt32 >>> ((1 : Int32).toUInt32 &&& Int32.toUInt32 31)).toInt32) &&& 1431655765)) &&& 858993459) + (((((p0 - ((((p0).toUInt32 >>> ((1 : Int32).toUInt32 &&& Int32.toUInt32 31)).toInt32) &&& 1431655765))).toUInt32 >>> ((2 : Int32).toUInt32 &&& Int32.toUInt32 31)).toInt32) &&& 858993459)) + ((((((p0 - ((((p0).toUInt32 >>> ((1 : Int32).toUInt32 &&& Int32.toUInt32 31)).toInt32) &&& 1431655765)) &&& 858993459) + (((((p0 - ((((p0).toUInt32 >>> ((1 : Int32).toUInt32 &&& Int32.toUInt32 31)).toInt32) &&& 1431655765))).toUInt32 >>> ((2 : Int32).toUInt32 &&& Int32.toUInt32 31)).toInt32) &&& 858993459))).toUInt32 >>> ((4 : Int32).toUInt32 &&& Int32.toUInt32 31)).toInt32)) &&& 252645135)).toUInt32 >>> ((8 : Int32).toUInt32 &&& Int32.toUInt32 31)).toInt32)) + (((((((((p0 - ((((p0).toUInt32 >>> ((1 : Int32).toUInt32 &&& Int32.toUInt32 31)).toInt32) &&& 1431655765)) &&& 858993459) + (((((p0 - ((((p0).toUInt32 >>> ((1 : Int32).toUInt32 &&& Int32.toUInt32 31)).toInt32) &&& 1431655765))).toUInt32 >>> ((2 : Int32).toUInt32 &&& Int32.toUInt32 31)).toInt32) &&& 858993459)) + ((((((p0 - ((((p0).toUInt32 >>> ((1 : Int32).toUInt32 &&& Int32.toUInt32 31)).toInt32) &&& 1431655765)) &&& 858993459) + (((((p0 - ((((p0).toUInt32 >>> ((1 : Int32).toUInt32 &&& Int32.toUInt32 31)).toInt32) &&& 1431655765))).toUInt32 >>> ((2 : Int32).toUInt32 &&& Int32.toUInt32 31)).toInt32) &&& 858993459))).toUInt32 >>> ((4 : Int32).toUInt32 &&& Int32.toUInt32 31)).toInt32)) &&& 252645135) + ((((((((p0 - ((((p0).toUInt32 >>> ((1 : Int32).toUInt32 &&& Int32.toUInt32 31)).toInt32) &&& 1431655765)) &&& 858993459) + (((((p0 - ((((p0).toUInt32 >>> ((1 : Int32).toUInt32 &&& Int32.toUInt32 31)).toInt32) &&& 1431655765))).toUInt32 >>> ((2 : Int32).toUInt32 &&& Int32.toUInt32 31)).toInt32) &&& 858993459)) + ((((((p0 - ((((p0).toUInt32 >>> ((1 : Int32).toUInt32 &&& Int32.toUInt32 31)).toInt32) &&& 1431655765)) &&& 858993459) + (((((p0 - ((((p0).toUInt32 >>> ((1 : Int32).toUInt32 &&& Int32.toUInt32 31)).toInt32) &&& 1431655765))).toUInt32 >>> ((2 : Int32).toUInt32 &&& Int32.toUInt32 31)).toInt32) &&& 858993459))).toUInt32 >>> ((4 : Int32).toUInt32 &&& Int32.toUInt32 31)).toInt32)) &&& 252645135)).toUInt32 >>> ((8 : Int32).toUInt32 &&& Int32.toUInt32 31)).toInt32))).toUInt32 >>> ((16 : Int32).toUInt32 &&& Int32.toUInt32 31)).toInt32)) &&& 63) () H locs 52 ls hw hP hD hS dJ6_bitCount_0f7a4_52

abbrev pc_X3_isWithin (cs : Nat → ClassId)  : va_W := []
abbrev rm_X3_isWithin : Room := { frames := 0, cells := 0, slots := 0, locals := 0 }
def call_X3_isWithin (p0 : Int32) (p1 : Int32) (p2 : Int32) (Q : Bool → Prop) : Prop := ∀ (X14 : Prop) (X15 : Bool → Prop),
    (X15 false → X14) →
    (∀ (s0 : Bool),
      Q s0 → X15 s0) →
    ((p0 < p1 → X14) ∧ (¬ p0 < p1 → ((p2 < p0 → X14) ∧ (¬ p2 < p0 → X15 true))))
set_option maxHeartbeats 4000000 in
set_option maxRecDepth 100000 in
theorem m_X3_isWithin (l : Launch) (D : va_G) (cs : Nat → ClassId)  (p0 : Int32) (p1 : Int32) (p2 : Int32) (Q : Bool → Prop) (h : call_X3_isWithin p0 p1 p2 Q) : CtZ l yX3_isWithin wsX3_isWithin rm_X3_isWithin D cs [.int p0, .int p1, .int p2] (pc_X3_isWithin cs ) (fun u : Unit => (pc_X3_isWithin cs )) (fun r u => Q r ) := by
  refine xo_Z (S := Unit) (cc := cX3_isWithin) (maxL := 3) (own := RX3) (lv0 := [(0, .int p0), (1, .int p1), (2, .int p2)]) (by decide) rfl rfl (Nat.le_of_ble_eq_true rfl) rfl ?_
  intro p e s m args below meth c A Z ls F hK hA hP hD hS hl RET
  unfold call_X3_isWithin at h
  obtain ⟨X14, hX14⟩ : ∃ X : Prop, (X  ↔ ∀ (H : Heap) (locs : List Loc) (ls : Array Slot), va_P D vwCl (pc_X3_isWithin cs ) H → va_D A (pc_X3_isWithin cs ) → va_S A s.heap H locs → lv_has ls 3 [] → W p l e rm_X3_isWithin s m args below meth c H locs 0 0 Z (F0 m 14 ls [])) := ⟨_, Iff.rfl⟩
  obtain ⟨X15, hX15⟩ : ∃ X : Bool → Prop, ∀ (s0 : Bool), (X s0 ↔ ∀ (H : Heap) (locs : List Loc) (ls : Array Slot), va_P D vwCl (pc_X3_isWithin cs ) H → va_D A (pc_X3_isWithin cs ) → va_S A s.heap H locs → lv_has ls 3 [] → W p l e rm_X3_isWithin s m args below meth c H locs 0 0 Z (F0 m 15 ls [.int (b2i s0)])) := ⟨_, fun _ => Iff.rfl⟩
  refine xt_cut (h X14 X15 ?_ ?_) (fun hw => ?_)
  · intro  hw
    refine (hX14).mpr ?_
    intro H locs ls hP hD hS hl
    refine lv_iconst (v := 0) F.1 F.2.1 dX3_isWithin_14 (by decide) ?_
    exact (hX15 _).mp hw H locs ls hP hD hS (lv_sub hl [] rfl)
  · intro s0 hw
    refine (hX15 _).mpr ?_
    intro H locs ls hP hD hS hl
    exact RET s0 () H locs 15 ls _ rfl hw hP hD hS dX3_isWithin_15
  generalize ([] : List Loc) = locs at hS ⊢
  obtain ⟨H, hHe⟩ : ∃ H, H = s.heap := ⟨_, rfl⟩
  have hP : va_P D vwCl (pc_X3_isWithin cs ) H := by rw [hHe]; exact hP
  have hS : va_S A s.heap H locs := by rw [hHe]; exact hS
  suffices W p l e rm_X3_isWithin s m args below meth c H locs 0 0 Z (F0 m 0 ls []) by rw [hHe] at this; exact this
  refine lv_iload_n F.1 F.2.1 dX3_isWithin_0 rfl (lv_at hl 0 rfl) ?_
  refine lv_iload_n F.1 F.2.1 dX3_isWithin_1 rfl (lv_at hl 1 rfl) ?_
  refine lv_icmp_lt (tgt := 14) F.1 F.2.1 dX3_isWithin_2 (by decide) (fun hc => ?_) (fun hc => ?_)
  · have hw := hw.1 hc
    exact (hX14).mp hw H locs ls hP hD hS (lv_sub hl [] rfl)
  · have hw := hw.2 hc
    refine lv_iload_n F.1 F.2.1 dX3_isWithin_5 rfl (lv_at hl 0 rfl) ?_
    refine lv_iload_n F.1 F.2.1 dX3_isWithin_6 rfl (lv_at hl 2 rfl) ?_
    refine lv_icmp_gt (tgt := 14) F.1 F.2.1 dX3_isWithin_7 (by decide) (fun hc => ?_) (fun hc => ?_)
    · have hw := hw.1 hc
      exact (hX14).mp hw H locs ls hP hD hS (lv_sub hl [] rfl)
    · have hw := hw.2 hc
      refine lv_iconst (v := 1) F.1 F.2.1 dX3_isWithin_10 (by decide) ?_
      refine lv_goto (tgt := 15) F.1 F.2.1 dX3_isWithin_11 (by decide) ?_
      exact (hX15 _).mp hw H locs ls hP hD hS (lv_sub hl [] rfl)

abbrev pc_X3_isKey (cs : Nat → ClassId)  : va_W := []
abbrev rm_X3_isKey : Room := { frames := 1, cells := 0, slots := 0, locals := 22 }
def call_X3_isKey (p0 : Int32) (Q : Bool → Prop) : Prop :=
    (call_X3_isWithin p0 0 999 (fun (r5 : Bool) => Q r5))
set_option maxHeartbeats 4000000 in
set_option maxRecDepth 100000 in
theorem m_X3_isKey (l : Launch) (D : va_G) (cs : Nat → ClassId)  (p0 : Int32) (Q : Bool → Prop) (h : call_X3_isKey p0 Q) : CtZ l yX3_isKey wsX3_isKey rm_X3_isKey D cs [.int p0] (pc_X3_isKey cs ) (fun u : Unit => (pc_X3_isKey cs )) (fun r u => Q r ) := by
  refine xo_Z (S := Unit) (cc := cX3_isKey) (maxL := 1) (own := RX3) (lv0 := [(0, .int p0)]) (by decide) rfl rfl (Nat.le_of_ble_eq_true rfl) rfl ?_
  intro p e s m args below meth c A Z ls F hK hA hP hD hS hl RET
  have hw := h
  unfold call_X3_isKey at hw
  generalize ([] : List Loc) = locs at hS ⊢
  obtain ⟨H, hHe⟩ : ∃ H, H = s.heap := ⟨_, rfl⟩
  have hP : va_P D vwCl (pc_X3_isKey cs ) H := by rw [hHe]; exact hP
  have hS : va_S A s.heap H locs := by rw [hHe]; exact hS
  suffices W p l e rm_X3_isKey s m args below meth c H locs 0 0 Z (F0 m 0 ls []) by rw [hHe] at this; exact this
  refine lv_iload_n F.1 F.2.1 dX3_isKey_0 rfl (lv_at hl 0 rfl) ?_
  refine lv_iconst (v := 0) F.1 F.2.1 dX3_isKey_1 (by decide) ?_
  refine lv_sipush (v := 999) F.1 F.2.1 dX3_isKey_2 (by decide) ?_
  refine xc_Sz (As := [.int p0, .int 0, .int 999]) (rest := []) (m_X3_isWithin l D cs p0 0 999 _ hw) F (va_cwS 3 F.2.2.2.2 gX3_isKey_X3_isWithin rfl rfl rfl (by decide +kernel) ⟨Nat.le_of_ble_eq_true rfl, Nat.le_of_ble_eq_true rfl⟩) hK hP hD hS hA [] [] rfl rfl rfl hl.1 rfl (Nat.le_of_ble_eq_true rfl) dX3_isKey_5 ⟨Nat.zero_le _, Nat.zero_le _⟩ (fun r5 u H locs hw hP hD hS => ?_)
  have hP : va_P D vwCl (pc_X3_isKey cs ) H := hP.sub [] rfl
  have hD : va_D A (pc_X3_isKey cs ) := hD.sub [] (by decide) rfl
  try dsimp only at hw
  exact RET r5 () H locs 8 ls _ rfl hw hP hD hS dX3_isKey_8

abbrev pc_X3_isValue (cs : Nat → ClassId)  : va_W := []
abbrev rm_X3_isValue : Room := { frames := 1, cells := 0, slots := 0, locals := 22 }
def call_X3_isValue (p0 : Int32) (Q : Bool → Prop) : Prop :=
    (call_X3_isWithin p0 (-1000) 1000 (fun (r7 : Bool) => Q r7))
set_option maxHeartbeats 4000000 in
set_option maxRecDepth 100000 in
theorem m_X3_isValue (l : Launch) (D : va_G) (cs : Nat → ClassId)  (p0 : Int32) (Q : Bool → Prop) (h : call_X3_isValue p0 Q) : CtZ l yX3_isValue wsX3_isValue rm_X3_isValue D cs [.int p0] (pc_X3_isValue cs ) (fun u : Unit => (pc_X3_isValue cs )) (fun r u => Q r ) := by
  refine xo_Z (S := Unit) (cc := cX3_isValue) (maxL := 1) (own := RX3) (lv0 := [(0, .int p0)]) (by decide) rfl rfl (Nat.le_of_ble_eq_true rfl) rfl ?_
  intro p e s m args below meth c A Z ls F hK hA hP hD hS hl RET
  have hw := h
  unfold call_X3_isValue at hw
  generalize ([] : List Loc) = locs at hS ⊢
  obtain ⟨H, hHe⟩ : ∃ H, H = s.heap := ⟨_, rfl⟩
  have hP : va_P D vwCl (pc_X3_isValue cs ) H := by rw [hHe]; exact hP
  have hS : va_S A s.heap H locs := by rw [hHe]; exact hS
  suffices W p l e rm_X3_isValue s m args below meth c H locs 0 0 Z (F0 m 0 ls []) by rw [hHe] at this; exact this
  refine lv_iload_n F.1 F.2.1 dX3_isValue_0 rfl (lv_at hl 0 rfl) ?_
  refine lv_sipush (v := (-1000)) F.1 F.2.1 dX3_isValue_1 (by decide) ?_
  refine lv_sipush (v := 1000) F.1 F.2.1 dX3_isValue_4 (by decide) ?_
  refine xc_Sz (As := [.int p0, .int (-1000), .int 1000]) (rest := []) (m_X3_isWithin l D cs p0 (-1000) 1000 _ hw) F (va_cwS 3 F.2.2.2.2 gX3_isValue_X3_isWithin rfl rfl rfl (by decide +kernel) ⟨Nat.le_of_ble_eq_true rfl, Nat.le_of_ble_eq_true rfl⟩) hK hP hD hS hA [] [] rfl rfl rfl hl.1 rfl (Nat.le_of_ble_eq_true rfl) dX3_isValue_7 ⟨Nat.zero_le _, Nat.zero_le _⟩ (fun r7 u H locs hw hP hD hS => ?_)
  have hP : va_P D vwCl (pc_X3_isValue cs ) H := hP.sub [] rfl
  have hD : va_D A (pc_X3_isValue cs ) := hD.sub [] (by decide) rfl
  try dsimp only at hw
  exact RET r7 () H locs 10 ls _ rfl hw hP hD hS dX3_isValue_10

abbrev pc_X3_areTold (cs : Nat → ClassId)  : va_W := []
abbrev rm_X3_areTold : Room := { frames := 2, cells := 0, slots := 0, locals := 42 }
def call_X3_areTold (p0 : Int32) (p1 : Int32) (p2 : Int32) (Q : Bool → Prop) : Prop := ∀ (X33 : Prop) (X34 : Bool → Prop),
    (X34 false → X33) →
    (∀ (s0 : Bool),
      Q s0 → X34 s0) →
    (call_X3_isValue p0 (fun (r1 : Bool) => ((r1 = false → X33) ∧ (r1 = true → (call_X3_isWithin p1 0 255 (fun (r12 : Bool) => ((r12 = false → X33) ∧ (r12 = true → (call_X3_isWithin p2 (-1) 999 (fun (r23 : Bool) => ((r23 = false → X33) ∧ (r23 = true → X34 true))))))))))))
set_option maxHeartbeats 4000000 in
set_option maxRecDepth 100000 in
theorem m_X3_areTold (l : Launch) (D : va_G) (cs : Nat → ClassId)  (p0 : Int32) (p1 : Int32) (p2 : Int32) (Q : Bool → Prop) (h : call_X3_areTold p0 p1 p2 Q) : CtZ l yX3_areTold wsX3_areTold rm_X3_areTold D cs [.int p0, .int p1, .int p2] (pc_X3_areTold cs ) (fun u : Unit => (pc_X3_areTold cs )) (fun r u => Q r ) := by
  refine xo_Z (S := Unit) (cc := cX3_areTold) (maxL := 3) (own := RX3) (lv0 := [(0, .int p0), (1, .int p1), (2, .int p2)]) (by decide) rfl rfl (Nat.le_of_ble_eq_true rfl) rfl ?_
  intro p e s m args below meth c A Z ls F hK hA hP hD hS hl RET
  unfold call_X3_areTold at h
  obtain ⟨X33, hX33⟩ : ∃ X : Prop, (X  ↔ ∀ (H : Heap) (locs : List Loc) (ls : Array Slot), va_P D vwCl (pc_X3_areTold cs ) H → va_D A (pc_X3_areTold cs ) → va_S A s.heap H locs → lv_has ls 3 [] → W p l e rm_X3_areTold s m args below meth c H locs 0 0 Z (F0 m 33 ls [])) := ⟨_, Iff.rfl⟩
  obtain ⟨X34, hX34⟩ : ∃ X : Bool → Prop, ∀ (s0 : Bool), (X s0 ↔ ∀ (H : Heap) (locs : List Loc) (ls : Array Slot), va_P D vwCl (pc_X3_areTold cs ) H → va_D A (pc_X3_areTold cs ) → va_S A s.heap H locs → lv_has ls 3 [] → W p l e rm_X3_areTold s m args below meth c H locs 0 0 Z (F0 m 34 ls [.int (b2i s0)])) := ⟨_, fun _ => Iff.rfl⟩
  refine xt_cut (h X33 X34 ?_ ?_) (fun hw => ?_)
  · intro  hw
    refine (hX33).mpr ?_
    intro H locs ls hP hD hS hl
    refine lv_iconst (v := 0) F.1 F.2.1 dX3_areTold_33 (by decide) ?_
    exact (hX34 _).mp hw H locs ls hP hD hS (lv_sub hl [] rfl)
  · intro s0 hw
    refine (hX34 _).mpr ?_
    intro H locs ls hP hD hS hl
    exact RET s0 () H locs 34 ls _ rfl hw hP hD hS dX3_areTold_34
  generalize ([] : List Loc) = locs at hS ⊢
  obtain ⟨H, hHe⟩ : ∃ H, H = s.heap := ⟨_, rfl⟩
  have hP : va_P D vwCl (pc_X3_areTold cs ) H := by rw [hHe]; exact hP
  have hS : va_S A s.heap H locs := by rw [hHe]; exact hS
  suffices W p l e rm_X3_areTold s m args below meth c H locs 0 0 Z (F0 m 0 ls []) by rw [hHe] at this; exact this
  refine lv_iload_n F.1 F.2.1 dX3_areTold_0 rfl (lv_at hl 0 rfl) ?_
  refine xc_Sz (As := [.int p0]) (rest := []) (m_X3_isValue l D cs p0 _ hw) F (va_cwS 1 F.2.2.2.2 gX3_areTold_X3_isValue rfl rfl rfl (by decide +kernel) ⟨Nat.le_of_ble_eq_true rfl, Nat.le_of_ble_eq_true rfl⟩) hK hP hD hS hA [] [] rfl rfl rfl hl.1 rfl (Nat.le_of_ble_eq_true rfl) dX3_areTold_1 ⟨Nat.zero_le _, Nat.zero_le _⟩ (fun r1 u H locs hw hP hD hS => ?_)
  have hP : va_P D vwCl (pc_X3_areTold cs ) H := hP.sub [] rfl
  have hD : va_D A (pc_X3_areTold cs ) := hD.sub [] (by decide) rfl
  try dsimp only at hw
  refine xi_ifeqz (tgt := 33) F dX3_areTold_4 (by decide) (fun hc => ?_) (fun hc => ?_)
  · have hw := hw.1 hc
    exact (hX33).mp hw H locs ls hP hD hS (lv_sub hl [] rfl)
  · have hw := hw.2 hc
    refine lv_iload_n F.1 F.2.1 dX3_areTold_7 rfl (lv_at hl 1 rfl) ?_
    refine lv_iconst (v := 0) F.1 F.2.1 dX3_areTold_8 (by decide) ?_
    refine lv_sipush (v := 255) F.1 F.2.1 dX3_areTold_9 (by decide) ?_
    refine xc_Sz (As := [.int p1, .int 0, .int 255]) (rest := []) (m_X3_isWithin l D cs p1 0 255 _ hw) F (va_cwS 3 F.2.2.2.2 gX3_areTold_X3_isWithin rfl rfl rfl (by decide +kernel) ⟨Nat.le_of_ble_eq_true rfl, Nat.le_of_ble_eq_true rfl⟩) hK hP hD hS hA [] [] rfl rfl rfl hl.1 rfl (Nat.le_of_ble_eq_true rfl) dX3_areTold_12 ⟨Nat.zero_le _, Nat.zero_le _⟩ (fun r12 u H locs hw hP hD hS => ?_)
    have hP : va_P D vwCl (pc_X3_areTold cs ) H := hP.sub [] rfl
    have hD : va_D A (pc_X3_areTold cs ) := hD.sub [] (by decide) rfl
    try dsimp only at hw
    refine xi_ifeqz (tgt := 33) F dX3_areTold_15 (by decide) (fun hc => ?_) (fun hc => ?_)
    · have hw := hw.1 hc
      exact (hX33).mp hw H locs ls hP hD hS (lv_sub hl [] rfl)
    · have hw := hw.2 hc
      refine lv_iload_n F.1 F.2.1 dX3_areTold_18 rfl (lv_at hl 2 rfl) ?_
      refine lv_iconst (v := (-1)) F.1 F.2.1 dX3_areTold_19 (by decide) ?_
      refine lv_sipush (v := 999) F.1 F.2.1 dX3_areTold_20 (by decide) ?_
      refine xc_Sz (As := [.int p2, .int (-1), .int 999]) (rest := []) (m_X3_isWithin l D cs p2 (-1) 999 _ hw) F (va_cwS 3 F.2.2.2.2 gX3_areTold_X3_isWithin rfl rfl rfl (by decide +kernel) ⟨Nat.le_of_ble_eq_true rfl, Nat.le_of_ble_eq_true rfl⟩) hK hP hD hS hA [] [] rfl rfl rfl hl.1 rfl (Nat.le_of_ble_eq_true rfl) dX3_areTold_23 ⟨Nat.zero_le _, Nat.zero_le _⟩ (fun r23 u H locs hw hP hD hS => ?_)
      have hP : va_P D vwCl (pc_X3_areTold cs ) H := hP.sub [] rfl
      have hD : va_D A (pc_X3_areTold cs ) := hD.sub [] (by decide) rfl
      try dsimp only at hw
      refine xi_ifeqz (tgt := 33) F dX3_areTold_26 (by decide) (fun hc => ?_) (fun hc => ?_)
      · have hw := hw.1 hc
        exact (hX33).mp hw H locs ls hP hD hS (lv_sub hl [] rfl)
      · have hw := hw.2 hc
        refine lv_iconst (v := 1) F.1 F.2.1 dX3_areTold_29 (by decide) ?_
        refine lv_goto (tgt := 34) F.1 F.2.1 dX3_areTold_30 (by decide) ?_
        exact (hX34 _).mp hw H locs ls hP hD hS (lv_sub hl [] rfl)

theorem in_X3_forgetSets_X3 : ∀ w ∈ wsX30, w ∈ wsX3_forgetSets := by decide +kernel
theorem fl_X3_forgetSets_44 : Cond.fieldLink RX3 44 "JoinBlocks" "depth" "I" ∈ wsX3_forgetSets := by decide +kernel
theorem fl_X3_forgetSets_48 : Cond.fieldLink RX3 48 "JoinBlocks" "wentUp" "Z" ∈ wsX3_forgetSets := by decide +kernel
abbrev pc_X3_forgetSets (cs : Nat → ClassId) (h0 : Nat) (h0_open : Nat) (h0_row : Nat) (h0_stack : Nat) (h0_taken : Nat) (h0_kin : Nat) (h0_ranking : Nat) (n0_depth : Int32) (b0_wentUp : Bool) : va_W := [(h0, .inr (3, [.ref h0_open, .ref h0_row, .ref h0_stack, .ref h0_taken, .ref h0_kin, .ref h0_ranking, .int n0_depth, .int (b2i b0_wentUp)]))]
abbrev rm_X3_forgetSets : Room := { frames := 0, cells := 0, slots := 0, locals := 0 }
def call_X3_forgetSets (n0_depth : Int32) (b0_wentUp : Bool) (Q : Int32 → Bool → Prop) : Prop :=
    Q 0 false
set_option maxHeartbeats 4000000 in
set_option maxRecDepth 100000 in
theorem m_X3_forgetSets (l : Launch) (D : va_G) (cs : Nat → ClassId) (h0 : Nat) (h0_open : Nat) (h0_row : Nat) (h0_stack : Nat) (h0_taken : Nat) (h0_kin : Nat) (h0_ranking : Nat)  (n0_depth : Int32) (b0_wentUp : Bool) (Q : Int32 → Bool → Prop) (h : call_X3_forgetSets n0_depth b0_wentUp Q) : CtV l yX3_forgetSets wsX3_forgetSets rm_X3_forgetSets D cs [.ref h0] (pc_X3_forgetSets cs h0 h0_open h0_row h0_stack h0_taken h0_kin h0_ranking n0_depth b0_wentUp) (fun u : Int32 × Bool => (pc_X3_forgetSets cs h0 h0_open h0_row h0_stack h0_taken h0_kin h0_ranking u.1 u.2)) 0 0 (fun u => Q u.1 u.2) := by
  refine xo_V (S := Int32 × Bool) (cc := cX3_forgetSets) (maxL := 1) (own := RX3) (lv0 := [(0, .ref h0)]) (by decide) rfl rfl (Nat.le_of_ble_eq_true rfl) rfl ?_
  intro p e s m args below meth c A Z ls hnm F hK hA hP hD hS hl RET
  have hw := h
  unfold call_X3_forgetSets at hw
  generalize ([] : List Loc) = locs at hS ⊢
  obtain ⟨H, hHe⟩ : ∃ H, H = s.heap := ⟨_, rfl⟩
  have hP : va_P D vwCl (pc_X3_forgetSets cs h0 h0_open h0_row h0_stack h0_taken h0_kin h0_ranking n0_depth b0_wentUp) H := by rw [hHe]; exact hP
  have hS : va_S A s.heap H locs := by rw [hHe]; exact hS
  suffices W p l e rm_X3_forgetSets s m args below meth c H locs 0 0 Z (F0 m 0 ls []) by rw [hHe] at this; exact this
  refine lv_aload_n F.1 F.2.1 dX3_forgetSets_0 rfl (lv_at hl 0 rfl) ?_
  refine lv_iconst (v := 0) F.1 F.2.1 dX3_forgetSets_1 (by decide) ?_
  refine xi_put (C := RX3) (T := TX3) (N := 8) (v := .int 0) (ty := .int) F in_X3_forgetSets_X3 tyX3 tyX3_ok nmX3 hK hP hD hS 0 rfl rfl 6 (by decide) fl_X3_forgetSets_44 rfl (tyX3_ok 6 (by decide)) rfl rfl (Nat.le_of_ble_eq_true rfl) dX3_forgetSets_2 (fun H locs hP hD hS => ?_)
  have hP : va_P D vwCl (pc_X3_forgetSets cs h0 h0_open h0_row h0_stack h0_taken h0_kin h0_ranking 0 b0_wentUp) H := hP
  have hD : va_D A (pc_X3_forgetSets cs h0 h0_open h0_row h0_stack h0_taken h0_kin h0_ranking 0 b0_wentUp) := hD
  refine lv_aload_n F.1 F.2.1 dX3_forgetSets_5 rfl (lv_at hl 0 rfl) ?_
  refine lv_iconst (v := 0) F.1 F.2.1 dX3_forgetSets_6 (by decide) ?_
  refine xi_put (C := RX3) (T := TX3) (N := 8) (v := .int (b2i false)) (ty := .boolean) F in_X3_forgetSets_X3 tyX3 tyX3_ok nmX3 hK hP hD hS 0 rfl rfl 7 (by decide) fl_X3_forgetSets_48 rfl (tyX3_ok 7 (by decide)) (b2i_narrow _) (b2i_fits _) (Nat.le_of_ble_eq_true rfl) dX3_forgetSets_7 (fun H locs hP hD hS => ?_)
  have hP : va_P D vwCl (pc_X3_forgetSets cs h0 h0_open h0_row h0_stack h0_taken h0_kin h0_ranking 0 false) H := hP
  have hD : va_D A (pc_X3_forgetSets cs h0 h0_open h0_row h0_stack h0_taken h0_kin h0_ranking 0 false) := hD
  exact RET (0, false) H locs 10 ls hw hP hD hS dX3_forgetSets_10

abbrev pc_X3_canBeFound (cs : Nat → ClassId)  : va_W := []
abbrev rm_X3_canBeFound : Room := { frames := 2, cells := 0, slots := 0, locals := 42 }
def call_X3_canBeFound (p0 : Int32) (p1 : Int32) (p2 : Int32) (Q : Bool → Prop) : Prop := ∀ (X69 : Prop) (X70 : Bool → Prop),
    (X70 false → X69) →
    (∀ (s0 : Bool),
      Q s0 → X70 s0) →
    ((p0 = 0 → Q true) ∧ (p0 = 1 → (call_X3_isWithin p1 0 255 (fun (r47 : Bool) => Q r47))) ∧ (p0 = 2 → (call_X3_isValue p1 (fun (r52 : Bool) => ((r52 = false → X69) ∧ (r52 = true → (call_X3_isValue p2 (fun (r59 : Bool) => ((r59 = false → X69) ∧ (r59 = true → X70 true))))))))) ∧ (p0 = 3 → (call_X3_isWithin p1 0 2 (fun (r74 : Bool) => Q r74))) ∧ (p0 = 4 → (call_X3_isKey p1 (fun (r79 : Bool) => Q r79))) ∧ (p0 = 5 → (call_X3_isKey p1 (fun (r79 : Bool) => Q r79))) ∧ (¬ p0 = 0 → ¬ p0 = 1 → ¬ p0 = 2 → ¬ p0 = 3 → ¬ p0 = 4 → ¬ p0 = 5 → Q false))
set_option maxHeartbeats 4000000 in
set_option maxRecDepth 100000 in
theorem m_X3_canBeFound (l : Launch) (D : va_G) (cs : Nat → ClassId)  (p0 : Int32) (p1 : Int32) (p2 : Int32) (Q : Bool → Prop) (h : call_X3_canBeFound p0 p1 p2 Q) : CtZ l yX3_canBeFound wsX3_canBeFound rm_X3_canBeFound D cs [.int p0, .int p1, .int p2] (pc_X3_canBeFound cs ) (fun u : Unit => (pc_X3_canBeFound cs )) (fun r u => Q r ) := by
  refine xo_Z (S := Unit) (cc := cX3_canBeFound) (maxL := 3) (own := RX3) (lv0 := [(0, .int p0), (1, .int p1), (2, .int p2)]) (by decide) rfl rfl (Nat.le_of_ble_eq_true rfl) rfl ?_
  intro p e s m args below meth c A Z ls F hK hA hP hD hS hl RET
  unfold call_X3_canBeFound at h
  obtain ⟨X69, hX69⟩ : ∃ X : Prop, (X  ↔ ∀ (H : Heap) (locs : List Loc) (ls : Array Slot), va_P D vwCl (pc_X3_canBeFound cs ) H → va_D A (pc_X3_canBeFound cs ) → va_S A s.heap H locs → lv_has ls 3 [] → W p l e rm_X3_canBeFound s m args below meth c H locs 0 0 Z (F0 m 69 ls [])) := ⟨_, Iff.rfl⟩
  obtain ⟨X70, hX70⟩ : ∃ X : Bool → Prop, ∀ (s0 : Bool), (X s0 ↔ ∀ (H : Heap) (locs : List Loc) (ls : Array Slot), va_P D vwCl (pc_X3_canBeFound cs ) H → va_D A (pc_X3_canBeFound cs ) → va_S A s.heap H locs → lv_has ls 3 [] → W p l e rm_X3_canBeFound s m args below meth c H locs 0 0 Z (F0 m 70 ls [.int (b2i s0)])) := ⟨_, fun _ => Iff.rfl⟩
  refine xt_cut (h X69 X70 ?_ ?_) (fun hw => ?_)
  · intro  hw
    refine (hX69).mpr ?_
    intro H locs ls hP hD hS hl
    refine lv_iconst (v := 0) F.1 F.2.1 dX3_canBeFound_69 (by decide) ?_
    exact (hX70 _).mp hw H locs ls hP hD hS (lv_sub hl [] rfl)
  · intro s0 hw
    refine (hX70 _).mpr ?_
    intro H locs ls hP hD hS hl
    exact RET s0 () H locs 70 ls _ rfl hw hP hD hS dX3_canBeFound_70
  generalize ([] : List Loc) = locs at hS ⊢
  obtain ⟨H, hHe⟩ : ∃ H, H = s.heap := ⟨_, rfl⟩
  have hP : va_P D vwCl (pc_X3_canBeFound cs ) H := by rw [hHe]; exact hP
  have hS : va_S A s.heap H locs := by rw [hHe]; exact hS
  suffices W p l e rm_X3_canBeFound s m args below meth c H locs 0 0 Z (F0 m 0 ls []) by rw [hHe] at this; exact this
  refine lv_iload_n F.1 F.2.1 dX3_canBeFound_0 rfl (lv_at hl 0 rfl) ?_
  obtain ⟨hw0, hw1, hw2, hw3, hw4, hw5, hwd⟩ := hw
  by_cases hc0 : p0 = 0
  · have hw := hw0 hc0
    refine xi_tswIn (tgt := 40) (v := 0) (off := 39) F dX3_canBeFound_1 hc0 (by decide) ?_
    refine lv_iconst (v := 1) F.1 F.2.1 dX3_canBeFound_40 (by decide) ?_
    exact RET true () H locs 41 ls _ rfl hw hP hD hS dX3_canBeFound_41
  by_cases hc1 : p0 = 1
  · have hw := hw1 hc1
    refine xi_tswIn (tgt := 42) (v := 1) (off := 41) F dX3_canBeFound_1 hc1 (by decide) ?_
    refine lv_iload_n F.1 F.2.1 dX3_canBeFound_42 rfl (lv_at hl 1 rfl) ?_
    refine lv_iconst (v := 0) F.1 F.2.1 dX3_canBeFound_43 (by decide) ?_
    refine lv_sipush (v := 255) F.1 F.2.1 dX3_canBeFound_44 (by decide) ?_
    refine xc_Sz (As := [.int p1, .int 0, .int 255]) (rest := []) (m_X3_isWithin l D cs p1 0 255 _ hw) F (va_cwS 3 F.2.2.2.2 gX3_canBeFound_X3_isWithin rfl rfl rfl (by decide +kernel) ⟨Nat.le_of_ble_eq_true rfl, Nat.le_of_ble_eq_true rfl⟩) hK hP hD hS hA [] [] rfl rfl rfl hl.1 rfl (Nat.le_of_ble_eq_true rfl) dX3_canBeFound_47 ⟨Nat.zero_le _, Nat.zero_le _⟩ (fun r47 u H locs hw hP hD hS => ?_)
    have hP : va_P D vwCl (pc_X3_canBeFound cs ) H := hP.sub [] rfl
    have hD : va_D A (pc_X3_canBeFound cs ) := hD.sub [] (by decide) rfl
    try dsimp only at hw
    exact RET r47 () H locs 50 ls _ rfl hw hP hD hS dX3_canBeFound_50
  by_cases hc2 : p0 = 2
  · have hw := hw2 hc2
    refine xi_tswIn (tgt := 51) (v := 2) (off := 50) F dX3_canBeFound_1 hc2 (by decide) ?_
    refine lv_iload_n F.1 F.2.1 dX3_canBeFound_51 rfl (lv_at hl 1 rfl) ?_
    refine xc_Sz (As := [.int p1]) (rest := []) (m_X3_isValue l D cs p1 _ hw) F (va_cwS 1 F.2.2.2.2 gX3_canBeFound_X3_isValue rfl rfl rfl (by decide +kernel) ⟨Nat.le_of_ble_eq_true rfl, Nat.le_of_ble_eq_true rfl⟩) hK hP hD hS hA [] [] rfl rfl rfl hl.1 rfl (Nat.le_of_ble_eq_true rfl) dX3_canBeFound_52 ⟨Nat.zero_le _, Nat.zero_le _⟩ (fun r52 u H locs hw hP hD hS => ?_)
    have hP : va_P D vwCl (pc_X3_canBeFound cs ) H := hP.sub [] rfl
    have hD : va_D A (pc_X3_canBeFound cs ) := hD.sub [] (by decide) rfl
    try dsimp only at hw
    refine xi_ifeqz (tgt := 69) F dX3_canBeFound_55 (by decide) (fun hc => ?_) (fun hc => ?_)
    · have hw := hw.1 hc
      exact (hX69).mp hw H locs ls hP hD hS (lv_sub hl [] rfl)
    · have hw := hw.2 hc
      refine lv_iload_n F.1 F.2.1 dX3_canBeFound_58 rfl (lv_at hl 2 rfl) ?_
      refine xc_Sz (As := [.int p2]) (rest := []) (m_X3_isValue l D cs p2 _ hw) F (va_cwS 1 F.2.2.2.2 gX3_canBeFound_X3_isValue rfl rfl rfl (by decide +kernel) ⟨Nat.le_of_ble_eq_true rfl, Nat.le_of_ble_eq_true rfl⟩) hK hP hD hS hA [] [] rfl rfl rfl hl.1 rfl (Nat.le_of_ble_eq_true rfl) dX3_canBeFound_59 ⟨Nat.zero_le _, Nat.zero_le _⟩ (fun r59 u H locs hw hP hD hS => ?_)
      have hP : va_P D vwCl (pc_X3_canBeFound cs ) H := hP.sub [] rfl
      have hD : va_D A (pc_X3_canBeFound cs ) := hD.sub [] (by decide) rfl
      try dsimp only at hw
      refine xi_ifeqz (tgt := 69) F dX3_canBeFound_62 (by decide) (fun hc => ?_) (fun hc => ?_)
      · have hw := hw.1 hc
        exact (hX69).mp hw H locs ls hP hD hS (lv_sub hl [] rfl)
      · have hw := hw.2 hc
        refine lv_iconst (v := 1) F.1 F.2.1 dX3_canBeFound_65 (by decide) ?_
        refine lv_goto (tgt := 70) F.1 F.2.1 dX3_canBeFound_66 (by decide) ?_
        exact (hX70 _).mp hw H locs ls hP hD hS (lv_sub hl [] rfl)
  by_cases hc3 : p0 = 3
  · have hw := hw3 hc3
    refine xi_tswIn (tgt := 71) (v := 3) (off := 70) F dX3_canBeFound_1 hc3 (by decide) ?_
    refine lv_iload_n F.1 F.2.1 dX3_canBeFound_71 rfl (lv_at hl 1 rfl) ?_
    refine lv_iconst (v := 0) F.1 F.2.1 dX3_canBeFound_72 (by decide) ?_
    refine lv_iconst (v := 2) F.1 F.2.1 dX3_canBeFound_73 (by decide) ?_
    refine xc_Sz (As := [.int p1, .int 0, .int 2]) (rest := []) (m_X3_isWithin l D cs p1 0 2 _ hw) F (va_cwS 3 F.2.2.2.2 gX3_canBeFound_X3_isWithin rfl rfl rfl (by decide +kernel) ⟨Nat.le_of_ble_eq_true rfl, Nat.le_of_ble_eq_true rfl⟩) hK hP hD hS hA [] [] rfl rfl rfl hl.1 rfl (Nat.le_of_ble_eq_true rfl) dX3_canBeFound_74 ⟨Nat.zero_le _, Nat.zero_le _⟩ (fun r74 u H locs hw hP hD hS => ?_)
    have hP : va_P D vwCl (pc_X3_canBeFound cs ) H := hP.sub [] rfl
    have hD : va_D A (pc_X3_canBeFound cs ) := hD.sub [] (by decide) rfl
    try dsimp only at hw
    exact RET r74 () H locs 77 ls _ rfl hw hP hD hS dX3_canBeFound_77
  by_cases hc4 : p0 = 4
  · have hw := hw4 hc4
    refine xi_tswIn (tgt := 78) (v := 4) (off := 77) F dX3_canBeFound_1 hc4 (by decide) ?_
    refine lv_iload_n F.1 F.2.1 dX3_canBeFound_78 rfl (lv_at hl 1 rfl) ?_
    refine xc_Sz (As := [.int p1]) (rest := []) (m_X3_isKey l D cs p1 _ hw) F (va_cwS 1 F.2.2.2.2 gX3_canBeFound_X3_isKey rfl rfl rfl (by decide +kernel) ⟨Nat.le_of_ble_eq_true rfl, Nat.le_of_ble_eq_true rfl⟩) hK hP hD hS hA [] [] rfl rfl rfl hl.1 rfl (Nat.le_of_ble_eq_true rfl) dX3_canBeFound_79 ⟨Nat.zero_le _, Nat.zero_le _⟩ (fun r79 u H locs hw hP hD hS => ?_)
    have hP : va_P D vwCl (pc_X3_canBeFound cs ) H := hP.sub [] rfl
    have hD : va_D A (pc_X3_canBeFound cs ) := hD.sub [] (by decide) rfl
    try dsimp only at hw
    exact RET r79 () H locs 82 ls _ rfl hw hP hD hS dX3_canBeFound_82
  by_cases hc5 : p0 = 5
  · have hw := hw5 hc5
    refine xi_tswIn (tgt := 78) (v := 5) (off := 77) F dX3_canBeFound_1 hc5 (by decide) ?_
    refine lv_iload_n F.1 F.2.1 dX3_canBeFound_78 rfl (lv_at hl 1 rfl) ?_
    refine xc_Sz (As := [.int p1]) (rest := []) (m_X3_isKey l D cs p1 _ hw) F (va_cwS 1 F.2.2.2.2 gX3_canBeFound_X3_isKey rfl rfl rfl (by decide +kernel) ⟨Nat.le_of_ble_eq_true rfl, Nat.le_of_ble_eq_true rfl⟩) hK hP hD hS hA [] [] rfl rfl rfl hl.1 rfl (Nat.le_of_ble_eq_true rfl) dX3_canBeFound_79 ⟨Nat.zero_le _, Nat.zero_le _⟩ (fun r79 u H locs hw hP hD hS => ?_)
    have hP : va_P D vwCl (pc_X3_canBeFound cs ) H := hP.sub [] rfl
    have hD : va_D A (pc_X3_canBeFound cs ) := hD.sub [] (by decide) rfl
    try dsimp only at hw
    exact RET r79 () H locs 82 ls _ rfl hw hP hD hS dX3_canBeFound_82
  have hw := hwd hc0 hc1 hc2 hc3 hc4 hc5
  refine xi_tswOut (tgt := 83) F dX3_canBeFound_1 (fun k hk => by rcases (show k = 0 ∨ k = 1 ∨ k = 2 ∨ k = 3 ∨ k = 4 ∨ k = 5 by omega) with rfl | rfl | rfl | rfl | rfl | rfl <;> assumption) (by decide) ?_
  refine lv_iconst (v := 0) F.1 F.2.1 dX3_canBeFound_83 (by decide) ?_
  exact RET false () H locs 84 ls _ rfl hw hP hD hS dX3_canBeFound_84

theorem in_X3_isFound_X3 : ∀ w ∈ wsX30, w ∈ wsX3_isFound := by decide +kernel
theorem fl_X3_isFound_20 : Cond.fieldLink RX3 20 "JoinBlocks" "row" "LJoinBlocks$Row;" ∈ wsX3_isFound := by decide +kernel
theorem in_X3_isFound_X1 : ∀ w ∈ wsX10, w ∈ wsX3_isFound := by decide +kernel
theorem fl_X3_isFound_97 : Cond.fieldLink RX3 97 "JoinBlocks$Row" "tags" "[I" ∈ wsX3_isFound := by decide +kernel
theorem fl_X3_isFound_94 : Cond.fieldLink RX3 94 "JoinBlocks$Row" "values" "[I" ∈ wsX3_isFound := by decide +kernel
theorem fl_X3_isFound_90 : Cond.fieldLink RX3 90 "JoinBlocks$Row" "levels" "[I" ∈ wsX3_isFound := by decide +kernel
theorem fl_X3_isFound_106 : Cond.fieldLink RX3 106 "JoinBlocks$Row" "keys" "[I" ∈ wsX3_isFound := by decide +kernel
theorem fl_X3_isFound_100 : Cond.fieldLink RX3 100 "JoinBlocks$Row" "links" "[I" ∈ wsX3_isFound := by decide +kernel
abbrev pc_X3_isFound (cs : Nat → ClassId) (h0 : Nat) (h0_open : Nat) (h0_row : Nat) (h0_stack : Nat) (h0_taken : Nat) (h0_kin : Nat) (h0_ranking : Nat) (h0_row_levels : Nat) (h0_row_values : Nat) (h0_row_tags : Nat) (h0_row_links : Nat) (h0_row_keys : Nat) (h0_row_living : Nat) (n0_depth : Int32) (b0_wentUp : Bool) (n0_row_size : Int32) (f0_row_levels : Nat → Int32) (f0_row_values : Nat → Int32) (f0_row_tags : Nat → Int32) (f0_row_links : Nat → Int32) (f0_row_keys : Nat → Int32) : va_W := [(h0, .inr (3, [.ref h0_open, .ref h0_row, .ref h0_stack, .ref h0_taken, .ref h0_kin, .ref h0_ranking, .int n0_depth, .int (b2i b0_wentUp)])), (h0_row, .inr (1, [.ref h0_row_levels, .ref h0_row_values, .ref h0_row_tags, .ref h0_row_links, .ref h0_row_keys, .ref h0_row_living, .int n0_row_size])), (h0_row_levels, .inl (cs 0, 200, .inl f0_row_levels)), (h0_row_values, .inl (cs 0, 200, .inl f0_row_values)), (h0_row_tags, .inl (cs 0, 200, .inl f0_row_tags)), (h0_row_links, .inl (cs 0, 200, .inl f0_row_links)), (h0_row_keys, .inl (cs 0, 200, .inl f0_row_keys))]
abbrev rm_X3_isFound : Room := { frames := 1, cells := 0, slots := 0, locals := 22 }
def call_X3_isFound (p1 : Int32) (p2 : Int32) (p3 : Int32) (p4 : Int32) (f0_row_levels : Nat → Int32) (f0_row_values : Nat → Int32) (f0_row_tags : Nat → Int32) (f0_row_links : Nat → Int32) (f0_row_keys : Nat → Int32) (Q : Bool → Prop) : Prop := ∀ (X56 : Bool → Prop) (X91 : Bool → Prop) (X120 : Prop) (X121 : Bool → Prop) (X140 : Bool → Prop),
    (∀ (s0 : Bool),
      Q s0 → X56 s0) →
    (∀ (s0 : Bool),
      Q s0 → X91 s0) →
    (X121 false → X120) →
    (∀ (s0 : Bool),
      Q s0 → X121 s0) →
    (∀ (s0 : Bool),
      Q s0 → X140 s0) →
    ((p2 = 1 → (∃ j44 : Nat, j44 < 200 ∧ p1 = nI j44 ∧ ((¬ ((f0_row_tags j44) &&& p3) = p3 → X56 false) ∧ (((f0_row_tags j44) &&& p3) = p3 → X56 true)))) ∧ (p2 = 2 → (∃ j65 : Nat, j65 < 200 ∧ p1 = nI j65 ∧ (call_X3_isWithin (f0_row_values j65) p3 p4 (fun (r69 : Bool) => Q r69)))) ∧ (p2 = 3 → (∃ j81 : Nat, j81 < 200 ∧ p1 = nI j81 ∧ ((¬ (f0_row_levels j81) = p3 → X91 false) ∧ ((f0_row_levels j81) = p3 → X91 true)))) ∧ (p2 = 4 → (call_X1_isRoot 200 p1 f0_row_levels (fun (r97 : Bool) => ((r97 = false → X120) ∧ (r97 = true → (∃ j111 : Nat, j111 < 200 ∧ p1 = nI j111 ∧ ((¬ (f0_row_keys j111) = p3 → X120) ∧ ((f0_row_keys j111) = p3 → X121 true)))))))) ∧ (p2 = 5 → (∃ j130 : Nat, j130 < 200 ∧ p1 = nI j130 ∧ ((¬ (f0_row_links j130) = p3 → X140 false) ∧ ((f0_row_links j130) = p3 → X140 true)))) ∧ (¬ p2 = 1 → ¬ p2 = 2 → ¬ p2 = 3 → ¬ p2 = 4 → ¬ p2 = 5 → Q true))
set_option maxHeartbeats 4000000 in
set_option maxRecDepth 100000 in
theorem m_X3_isFound (l : Launch) (D : va_G) (cs : Nat → ClassId) (h0 : Nat) (h0_open : Nat) (h0_row : Nat) (h0_stack : Nat) (h0_taken : Nat) (h0_kin : Nat) (h0_ranking : Nat) (h0_row_levels : Nat) (h0_row_values : Nat) (h0_row_tags : Nat) (h0_row_links : Nat) (h0_row_keys : Nat) (h0_row_living : Nat)  (p1 : Int32) (p2 : Int32) (p3 : Int32) (p4 : Int32) (n0_depth : Int32) (b0_wentUp : Bool) (n0_row_size : Int32) (f0_row_levels : Nat → Int32) (f0_row_values : Nat → Int32) (f0_row_tags : Nat → Int32) (f0_row_links : Nat → Int32) (f0_row_keys : Nat → Int32) (Q : Bool → Prop) (h : call_X3_isFound p1 p2 p3 p4 f0_row_levels f0_row_values f0_row_tags f0_row_links f0_row_keys Q) : CtZ l yX3_isFound wsX3_isFound rm_X3_isFound D cs [.ref h0, .int p1, .int p2, .int p3, .int p4] (pc_X3_isFound cs h0 h0_open h0_row h0_stack h0_taken h0_kin h0_ranking h0_row_levels h0_row_values h0_row_tags h0_row_links h0_row_keys h0_row_living n0_depth b0_wentUp n0_row_size f0_row_levels f0_row_values f0_row_tags f0_row_links f0_row_keys) (fun u : Unit => (pc_X3_isFound cs h0 h0_open h0_row h0_stack h0_taken h0_kin h0_ranking h0_row_levels h0_row_values h0_row_tags h0_row_links h0_row_keys h0_row_living n0_depth b0_wentUp n0_row_size f0_row_levels f0_row_values f0_row_tags f0_row_links f0_row_keys)) (fun r u => Q r ) := by
  refine xo_Z (S := Unit) (cc := cX3_isFound) (maxL := 5) (own := RX3) (lv0 := [(0, .ref h0), (1, .int p1), (2, .int p2), (3, .int p3), (4, .int p4)]) (by decide) rfl rfl (Nat.le_of_ble_eq_true rfl) rfl ?_
  intro p e s m args below meth c A Z ls F hK hA hP hD hS hl RET
  unfold call_X3_isFound at h
  obtain ⟨X56, hX56⟩ : ∃ X : Bool → Prop, ∀ (s0 : Bool), (X s0 ↔ ∀ (H : Heap) (locs : List Loc) (ls : Array Slot), va_P D vwCl (pc_X3_isFound cs h0 h0_open h0_row h0_stack h0_taken h0_kin h0_ranking h0_row_levels h0_row_values h0_row_tags h0_row_links h0_row_keys h0_row_living n0_depth b0_wentUp n0_row_size f0_row_levels f0_row_values f0_row_tags f0_row_links f0_row_keys) H → va_D A (pc_X3_isFound cs h0 h0_open h0_row h0_stack h0_taken h0_kin h0_ranking h0_row_levels h0_row_values h0_row_tags h0_row_links h0_row_keys h0_row_living n0_depth b0_wentUp n0_row_size f0_row_levels f0_row_values f0_row_tags f0_row_links f0_row_keys) → va_S A s.heap H locs → lv_has ls 5 [] → W p l e rm_X3_isFound s m args below meth c H locs 0 0 Z (F0 m 56 ls [.int (b2i s0)])) := ⟨_, fun _ => Iff.rfl⟩
  obtain ⟨X91, hX91⟩ : ∃ X : Bool → Prop, ∀ (s0 : Bool), (X s0 ↔ ∀ (H : Heap) (locs : List Loc) (ls : Array Slot), va_P D vwCl (pc_X3_isFound cs h0 h0_open h0_row h0_stack h0_taken h0_kin h0_ranking h0_row_levels h0_row_values h0_row_tags h0_row_links h0_row_keys h0_row_living n0_depth b0_wentUp n0_row_size f0_row_levels f0_row_values f0_row_tags f0_row_links f0_row_keys) H → va_D A (pc_X3_isFound cs h0 h0_open h0_row h0_stack h0_taken h0_kin h0_ranking h0_row_levels h0_row_values h0_row_tags h0_row_links h0_row_keys h0_row_living n0_depth b0_wentUp n0_row_size f0_row_levels f0_row_values f0_row_tags f0_row_links f0_row_keys) → va_S A s.heap H locs → lv_has ls 5 [] → W p l e rm_X3_isFound s m args below meth c H locs 0 0 Z (F0 m 91 ls [.int (b2i s0)])) := ⟨_, fun _ => Iff.rfl⟩
  obtain ⟨X120, hX120⟩ : ∃ X : Prop, (X  ↔ ∀ (H : Heap) (locs : List Loc) (ls : Array Slot), va_P D vwCl (pc_X3_isFound cs h0 h0_open h0_row h0_stack h0_taken h0_kin h0_ranking h0_row_levels h0_row_values h0_row_tags h0_row_links h0_row_keys h0_row_living n0_depth b0_wentUp n0_row_size f0_row_levels f0_row_values f0_row_tags f0_row_links f0_row_keys) H → va_D A (pc_X3_isFound cs h0 h0_open h0_row h0_stack h0_taken h0_kin h0_ranking h0_row_levels h0_row_values h0_row_tags h0_row_links h0_row_keys h0_row_living n0_depth b0_wentUp n0_row_size f0_row_levels f0_row_values f0_row_tags f0_row_links f0_row_keys) → va_S A s.heap H locs → lv_has ls 5 [] → W p l e rm_X3_isFound s m args below meth c H locs 0 0 Z (F0 m 120 ls [])) := ⟨_, Iff.rfl⟩
  obtain ⟨X121, hX121⟩ : ∃ X : Bool → Prop, ∀ (s0 : Bool), (X s0 ↔ ∀ (H : Heap) (locs : List Loc) (ls : Array Slot), va_P D vwCl (pc_X3_isFound cs h0 h0_open h0_row h0_stack h0_taken h0_kin h0_ranking h0_row_levels h0_row_values h0_row_tags h0_row_links h0_row_keys h0_row_living n0_depth b0_wentUp n0_row_size f0_row_levels f0_row_values f0_row_tags f0_row_links f0_row_keys) H → va_D A (pc_X3_isFound cs h0 h0_open h0_row h0_stack h0_taken h0_kin h0_ranking h0_row_levels h0_row_values h0_row_tags h0_row_links h0_row_keys h0_row_living n0_depth b0_wentUp n0_row_size f0_row_levels f0_row_values f0_row_tags f0_row_links f0_row_keys) → va_S A s.heap H locs → lv_has ls 5 [] → W p l e rm_X3_isFound s m args below meth c H locs 0 0 Z (F0 m 121 ls [.int (b2i s0)])) := ⟨_, fun _ => Iff.rfl⟩
  obtain ⟨X140, hX140⟩ : ∃ X : Bool → Prop, ∀ (s0 : Bool), (X s0 ↔ ∀ (H : Heap) (locs : List Loc) (ls : Array Slot), va_P D vwCl (pc_X3_isFound cs h0 h0_open h0_row h0_stack h0_taken h0_kin h0_ranking h0_row_levels h0_row_values h0_row_tags h0_row_links h0_row_keys h0_row_living n0_depth b0_wentUp n0_row_size f0_row_levels f0_row_values f0_row_tags f0_row_links f0_row_keys) H → va_D A (pc_X3_isFound cs h0 h0_open h0_row h0_stack h0_taken h0_kin h0_ranking h0_row_levels h0_row_values h0_row_tags h0_row_links h0_row_keys h0_row_living n0_depth b0_wentUp n0_row_size f0_row_levels f0_row_values f0_row_tags f0_row_links f0_row_keys) → va_S A s.heap H locs → lv_has ls 5 [] → W p l e rm_X3_isFound s m args below meth c H locs 0 0 Z (F0 m 140 ls [.int (b2i s0)])) := ⟨_, fun _ => Iff.rfl⟩
  refine xt_cut (h X56 X91 X120 X121 X140 ?_ ?_ ?_ ?_ ?_) (fun hw => ?_)
  · intro s0 hw
    refine (hX56 _).mpr ?_
    intro H locs ls hP hD hS hl
    exact RET s0 () H locs 56 ls _ rfl hw hP hD hS dX3_isFound_56
  · intro s0 hw
    refine (hX91 _).mpr ?_
    intro H locs ls hP hD hS hl
    exact RET s0 () H locs 91 ls _ rfl hw hP hD hS dX3_isFound_91
  · intro  hw
    refine (hX120).mpr ?_
    intro H locs ls hP hD hS hl
    refine lv_iconst (v := 0) F.1 F.2.1 dX3_isFound_120 (by decide) ?_
    exact (hX121 _).mp hw H locs ls hP hD hS (lv_sub hl [] rfl)
  · intro s0 hw
    refine (hX121 _).mpr ?_
    intro H locs ls hP hD hS hl
    exact RET s0 () H locs 121 ls _ rfl hw hP hD hS dX3_isFound_121
  · intro s0 hw
    refine (hX140 _).mpr ?_
    intro H locs ls hP hD hS hl
    exact RET s0 () H locs 140 ls _ rfl hw hP hD hS dX3_isFound_140
  generalize ([] : List Loc) = locs at hS ⊢
  obtain ⟨H, hHe⟩ : ∃ H, H = s.heap := ⟨_, rfl⟩
  have hP : va_P D vwCl (pc_X3_isFound cs h0 h0_open h0_row h0_stack h0_taken h0_kin h0_ranking h0_row_levels h0_row_values h0_row_tags h0_row_links h0_row_keys h0_row_living n0_depth b0_wentUp n0_row_size f0_row_levels f0_row_values f0_row_tags f0_row_links f0_row_keys) H := by rw [hHe]; exact hP
  have hS : va_S A s.heap H locs := by rw [hHe]; exact hS
  suffices W p l e rm_X3_isFound s m args below meth c H locs 0 0 Z (F0 m 0 ls []) by rw [hHe] at this; exact this
  refine lv_iload_n F.1 F.2.1 dX3_isFound_0 rfl (lv_at hl 2 rfl) ?_
  obtain ⟨hw0, hw1, hw2, hw3, hw4, hwd⟩ := hw
  by_cases hc0 : p2 = 1
  · have hw := hw0 hc0
    refine xi_tswIn (tgt := 36) (v := 1) (off := 35) F dX3_isFound_1 hc0 (by decide) ?_
    refine lv_aload_n F.1 F.2.1 dX3_isFound_36 rfl (lv_at hl 0 rfl) ?_
    refine xi_get (C := RX3) (T := TX3) (N := 8) (v := .ref h0_row) F in_X3_isFound_X3 hK hP 0 rfl rfl 1 (by decide) fl_X3_isFound_20 rfl dX3_isFound_37 ?_
    refine xi_get (C := RX1) (T := TX1) (N := 7) (v := .ref h0_row_tags) F in_X3_isFound_X1 hK hP 1 rfl rfl 2 (by decide) fl_X3_isFound_97 rfl dX3_isFound_40 ?_
    refine lv_iload_n F.1 F.2.1 dX3_isFound_43 rfl (lv_at hl 1 rfl) ?_
    obtain ⟨j44, hj, he, hw⟩ := hw
    refine xi_iald (j := j44) F hK hP 4 rfl (by decide) hj he dX3_isFound_44 ?_
    refine lv_iload_n F.1 F.2.1 dX3_isFound_45 rfl (lv_at hl 3 rfl) ?_
    refine lv_iand F.1 F.2.1 dX3_isFound_46 ?_
    refine lv_iload_n F.1 F.2.1 dX3_isFound_47 rfl (lv_at hl 3 rfl) ?_
    refine lv_icmp_ne (tgt := 55) F.1 F.2.1 dX3_isFound_48 (by decide) (fun hc => ?_) (fun hc => ?_)
    · have hw := hw.1 hc
      refine lv_iconst (v := 0) F.1 F.2.1 dX3_isFound_55 (by decide) ?_
      exact (hX56 _).mp hw H locs ls hP hD hS (lv_sub hl [] rfl)
    · have hw := hw.2 hc
      refine lv_iconst (v := 1) F.1 F.2.1 dX3_isFound_51 (by decide) ?_
      refine lv_goto (tgt := 56) F.1 F.2.1 dX3_isFound_52 (by decide) ?_
      exact (hX56 _).mp hw H locs ls hP hD hS (lv_sub hl [] rfl)
  by_cases hc1 : p2 = 2
  · have hw := hw1 hc1
    refine xi_tswIn (tgt := 57) (v := 2) (off := 56) F dX3_isFound_1 hc1 (by decide) ?_
    refine lv_aload_n F.1 F.2.1 dX3_isFound_57 rfl (lv_at hl 0 rfl) ?_
    refine xi_get (C := RX3) (T := TX3) (N := 8) (v := .ref h0_row) F in_X3_isFound_X3 hK hP 0 rfl rfl 1 (by decide) fl_X3_isFound_20 rfl dX3_isFound_58 ?_
    refine xi_get (C := RX1) (T := TX1) (N := 7) (v := .ref h0_row_values) F in_X3_isFound_X1 hK hP 1 rfl rfl 1 (by decide) fl_X3_isFound_94 rfl dX3_isFound_61 ?_
    refine lv_iload_n F.1 F.2.1 dX3_isFound_64 rfl (lv_at hl 1 rfl) ?_
    obtain ⟨j65, hj, he, hw⟩ := hw
    refine xi_iald (j := j65) F hK hP 3 rfl (by decide) hj he dX3_isFound_65 ?_
    refine lv_iload_n F.1 F.2.1 dX3_isFound_66 rfl (lv_at hl 3 rfl) ?_
    refine lv_iload F.1 F.2.1 dX3_isFound_67 (lv_at hl 4 rfl) ?_
    refine xc_Sz (As := [.int (f0_row_values j65), .int p3, .int p4]) (rest := []) (m_X3_isWithin l D cs (f0_row_values j65) p3 p4 _ hw) F (va_cwS 3 F.2.2.2.2 gX3_isFound_X3_isWithin rfl rfl rfl (by decide +kernel) ⟨Nat.le_of_ble_eq_true rfl, Nat.le_of_ble_eq_true rfl⟩) hK hP hD hS hA [] [0, 1, 2, 3, 4, 5, 6] rfl rfl rfl hl.1 rfl (Nat.le_of_ble_eq_true rfl) dX3_isFound_69 ⟨Nat.zero_le _, Nat.zero_le _⟩ (fun r69 u H locs hw hP hD hS => ?_)
    have hP : va_P D vwCl (pc_X3_isFound cs h0 h0_open h0_row h0_stack h0_taken h0_kin h0_ranking h0_row_levels h0_row_values h0_row_tags h0_row_links h0_row_keys h0_row_living n0_depth b0_wentUp n0_row_size f0_row_levels f0_row_values f0_row_tags f0_row_links f0_row_keys) H := hP.sub [0, 1, 2, 3, 4, 5, 6] rfl
    have hD : va_D A (pc_X3_isFound cs h0 h0_open h0_row h0_stack h0_taken h0_kin h0_ranking h0_row_levels h0_row_values h0_row_tags h0_row_links h0_row_keys h0_row_living n0_depth b0_wentUp n0_row_size f0_row_levels f0_row_values f0_row_tags f0_row_links f0_row_keys) := hD.sub [0, 1, 2, 3, 4, 5, 6] (by decide) rfl
    try dsimp only at hw
    exact RET r69 () H locs 72 ls _ rfl hw hP hD hS dX3_isFound_72
  by_cases hc2 : p2 = 3
  · have hw := hw2 hc2
    refine xi_tswIn (tgt := 73) (v := 3) (off := 72) F dX3_isFound_1 hc2 (by decide) ?_
    refine lv_aload_n F.1 F.2.1 dX3_isFound_73 rfl (lv_at hl 0 rfl) ?_
    refine xi_get (C := RX3) (T := TX3) (N := 8) (v := .ref h0_row) F in_X3_isFound_X3 hK hP 0 rfl rfl 1 (by decide) fl_X3_isFound_20 rfl dX3_isFound_74 ?_
    refine xi_get (C := RX1) (T := TX1) (N := 7) (v := .ref h0_row_levels) F in_X3_isFound_X1 hK hP 1 rfl rfl 0 (by decide) fl_X3_isFound_90 rfl dX3_isFound_77 ?_
    refine lv_iload_n F.1 F.2.1 dX3_isFound_80 rfl (lv_at hl 1 rfl) ?_
    obtain ⟨j81, hj, he, hw⟩ := hw
    refine xi_iald (j := j81) F hK hP 2 rfl (by decide) hj he dX3_isFound_81 ?_
    refine lv_iload_n F.1 F.2.1 dX3_isFound_82 rfl (lv_at hl 3 rfl) ?_
    refine lv_icmp_ne (tgt := 90) F.1 F.2.1 dX3_isFound_83 (by decide) (fun hc => ?_) (fun hc => ?_)
    · have hw := hw.1 hc
      refine lv_iconst (v := 0) F.1 F.2.1 dX3_isFound_90 (by decide) ?_
      exact (hX91 _).mp hw H locs ls hP hD hS (lv_sub hl [] rfl)
    · have hw := hw.2 hc
      refine lv_iconst (v := 1) F.1 F.2.1 dX3_isFound_86 (by decide) ?_
      refine lv_goto (tgt := 91) F.1 F.2.1 dX3_isFound_87 (by decide) ?_
      exact (hX91 _).mp hw H locs ls hP hD hS (lv_sub hl [] rfl)
  by_cases hc3 : p2 = 4
  · have hw := hw3 hc3
    refine xi_tswIn (tgt := 92) (v := 4) (off := 91) F dX3_isFound_1 hc3 (by decide) ?_
    refine lv_aload_n F.1 F.2.1 dX3_isFound_92 rfl (lv_at hl 0 rfl) ?_
    refine xi_get (C := RX3) (T := TX3) (N := 8) (v := .ref h0_row) F in_X3_isFound_X3 hK hP 0 rfl rfl 1 (by decide) fl_X3_isFound_20 rfl dX3_isFound_93 ?_
    refine lv_iload_n F.1 F.2.1 dX3_isFound_96 rfl (lv_at hl 1 rfl) ?_
    refine xc_Vz (As := [.int p1]) (rest := []) (m_X1_isRoot l D cs h0_row h0_row_levels h0_row_values h0_row_tags h0_row_links h0_row_keys h0_row_living 200 (by decide) p1 n0_row_size f0_row_levels _ hw) F (cwV 1 F.2.2.2.2 gX3_isFound_X1_isRoot rfl rfl rfl (by decide +kernel) ⟨Nat.le_of_ble_eq_true rfl, Nat.le_of_ble_eq_true rfl⟩) hK hP hD hS hA [1, 2] [0, 3, 4, 5, 6] rfl rfl 0 rfl rfl rfl hl.1 rfl (Nat.le_of_ble_eq_true rfl) dX3_isFound_97 ⟨Nat.zero_le _, Nat.zero_le _⟩ (fun r97 u H locs hw hP hD hS => ?_)
    have hP : va_P D vwCl (pc_X3_isFound cs h0 h0_open h0_row h0_stack h0_taken h0_kin h0_ranking h0_row_levels h0_row_values h0_row_tags h0_row_links h0_row_keys h0_row_living n0_depth b0_wentUp n0_row_size f0_row_levels f0_row_values f0_row_tags f0_row_links f0_row_keys) H := hP.sub [0, 5, 6, 1, 2, 3, 4] rfl
    have hD : va_D A (pc_X3_isFound cs h0 h0_open h0_row h0_stack h0_taken h0_kin h0_ranking h0_row_levels h0_row_values h0_row_tags h0_row_links h0_row_keys h0_row_living n0_depth b0_wentUp n0_row_size f0_row_levels f0_row_values f0_row_tags f0_row_links f0_row_keys) := hD.sub [0, 5, 6, 1, 2, 3, 4] (by decide) rfl
    try dsimp only at hw
    refine xi_ifeqz (tgt := 120) F dX3_isFound_100 (by decide) (fun hc => ?_) (fun hc => ?_)
    · have hw := hw.1 hc
      exact (hX120).mp hw H locs ls hP hD hS (lv_sub hl [] rfl)
    · have hw := hw.2 hc
      refine lv_aload_n F.1 F.2.1 dX3_isFound_103 rfl (lv_at hl 0 rfl) ?_
      refine xi_get (C := RX3) (T := TX3) (N := 8) (v := .ref h0_row) F in_X3_isFound_X3 hK hP 0 rfl rfl 1 (by decide) fl_X3_isFound_20 rfl dX3_isFound_104 ?_
      refine xi_get (C := RX1) (T := TX1) (N := 7) (v := .ref h0_row_keys) F in_X3_isFound_X1 hK hP 1 rfl rfl 4 (by decide) fl_X3_isFound_106 rfl dX3_isFound_107 ?_
      refine lv_iload_n F.1 F.2.1 dX3_isFound_110 rfl (lv_at hl 1 rfl) ?_
      obtain ⟨j111, hj, he, hw⟩ := hw
      refine xi_iald (j := j111) F hK hP 6 rfl (by decide) hj he dX3_isFound_111 ?_
      refine lv_iload_n F.1 F.2.1 dX3_isFound_112 rfl (lv_at hl 3 rfl) ?_
      refine lv_icmp_ne (tgt := 120) F.1 F.2.1 dX3_isFound_113 (by decide) (fun hc => ?_) (fun hc => ?_)
      · have hw := hw.1 hc
        exact (hX120).mp hw H locs ls hP hD hS (lv_sub hl [] rfl)
      · have hw := hw.2 hc
        refine lv_iconst (v := 1) F.1 F.2.1 dX3_isFound_116 (by decide) ?_
        refine lv_goto (tgt := 121) F.1 F.2.1 dX3_isFound_117 (by decide) ?_
        exact (hX121 _).mp hw H locs ls hP hD hS (lv_sub hl [] rfl)
  by_cases hc4 : p2 = 5
  · have hw := hw4 hc4
    refine xi_tswIn (tgt := 122) (v := 5) (off := 121) F dX3_isFound_1 hc4 (by decide) ?_
    refine lv_aload_n F.1 F.2.1 dX3_isFound_122 rfl (lv_at hl 0 rfl) ?_
    refine xi_get (C := RX3) (T := TX3) (N := 8) (v := .ref h0_row) F in_X3_isFound_X3 hK hP 0 rfl rfl 1 (by decide) fl_X3_isFound_20 rfl dX3_isFound_123 ?_
    refine xi_get (C := RX1) (T := TX1) (N := 7) (v := .ref h0_row_links) F in_X3_isFound_X1 hK hP 1 rfl rfl 3 (by decide) fl_X3_isFound_100 rfl dX3_isFound_126 ?_
    refine lv_iload_n F.1 F.2.1 dX3_isFound_129 rfl (lv_at hl 1 rfl) ?_
    obtain ⟨j130, hj, he, hw⟩ := hw
    refine xi_iald (j := j130) F hK hP 5 rfl (by decide) hj he dX3_isFound_130 ?_
    refine lv_iload_n F.1 F.2.1 dX3_isFound_131 rfl (lv_at hl 3 rfl) ?_
    refine lv_icmp_ne (tgt := 139) F.1 F.2.1 dX3_isFound_132 (by decide) (fun hc => ?_) (fun hc => ?_)
    · have hw := hw.1 hc
      refine lv_iconst (v := 0) F.1 F.2.1 dX3_isFound_139 (by decide) ?_
      exact (hX140 _).mp hw H locs ls hP hD hS (lv_sub hl [] rfl)
    · have hw := hw.2 hc
      refine lv_iconst (v := 1) F.1 F.2.1 dX3_isFound_135 (by decide) ?_
      refine lv_goto (tgt := 140) F.1 F.2.1 dX3_isFound_136 (by decide) ?_
      exact (hX140 _).mp hw H locs ls hP hD hS (lv_sub hl [] rfl)
  have hw := hwd hc0 hc1 hc2 hc3 hc4
  refine xi_tswOut (tgt := 141) F dX3_isFound_1 (fun k hk => by rcases (show k = 0 ∨ k = 1 ∨ k = 2 ∨ k = 3 ∨ k = 4 by omega) with rfl | rfl | rfl | rfl | rfl <;> assumption) (by decide) ?_
  refine lv_iconst (v := 1) F.1 F.2.1 dX3_isFound_141 (by decide) ?_
  exact RET true () H locs 142 ls _ rfl hw hP hD hS dX3_isFound_142

theorem in_X3_scoreFound_X3 : ∀ w ∈ wsX30, w ∈ wsX3_scoreFound := by decide +kernel
theorem fl_X3_scoreFound_20 : Cond.fieldLink RX3 20 "JoinBlocks" "row" "LJoinBlocks$Row;" ∈ wsX3_scoreFound := by decide +kernel
theorem in_X3_scoreFound_X1 : ∀ w ∈ wsX10, w ∈ wsX3_scoreFound := by decide +kernel
theorem fl_X3_scoreFound_94 : Cond.fieldLink RX3 94 "JoinBlocks$Row" "values" "[I" ∈ wsX3_scoreFound := by decide +kernel
abbrev pc_X3_scoreFound (cs : Nat → ClassId) (h0 : Nat) (h0_open : Nat) (h0_row : Nat) (h0_stack : Nat) (h0_taken : Nat) (h0_kin : Nat) (h0_ranking : Nat) (h0_row_levels : Nat) (h0_row_values : Nat) (h0_row_tags : Nat) (h0_row_links : Nat) (h0_row_keys : Nat) (h0_row_living : Nat) (n0_depth : Int32) (b0_wentUp : Bool) (n0_row_size : Int32) (f0_row_values : Nat → Int32) : va_W := [(h0, .inr (3, [.ref h0_open, .ref h0_row, .ref h0_stack, .ref h0_taken, .ref h0_kin, .ref h0_ranking, .int n0_depth, .int (b2i b0_wentUp)])), (h0_row, .inr (1, [.ref h0_row_levels, .ref h0_row_values, .ref h0_row_tags, .ref h0_row_links, .ref h0_row_keys, .ref h0_row_living, .int n0_row_size])), (h0_row_values, .inl (cs 0, 200, .inl f0_row_values))]
abbrev rm_X3_scoreFound : Room := { frames := 1, cells := 0, slots := 0, locals := 20 }
def call_X3_scoreFound (p1 : Int32) (p2 : Int32) (p3 : Int32) (f0_row_values : Nat → Int32) (Q : Int64 → Prop) : Prop :=
    ((p2 = 1 → (call_J6_bitCount_0f7a4 p3 (fun (r37 : Int32) => Q ((r37).toInt64)))) ∧ (p2 = 2 → (∃ j50 : Nat, j50 < 200 ∧ p1 = nI j50 ∧ Q (((f0_row_values j50)).toInt64))) ∧ (p2 = 3 → Q 0) ∧ (p2 = 4 → Q 1) ∧ (p2 = 5 → Q 1) ∧ (¬ p2 = 1 → ¬ p2 = 2 → ¬ p2 = 3 → ¬ p2 = 4 → ¬ p2 = 5 → Q 0))
set_option maxHeartbeats 4000000 in
set_option maxRecDepth 100000 in
theorem m_X3_scoreFound (l : Launch) (D : va_G) (cs : Nat → ClassId) (h0 : Nat) (h0_open : Nat) (h0_row : Nat) (h0_stack : Nat) (h0_taken : Nat) (h0_kin : Nat) (h0_ranking : Nat) (h0_row_levels : Nat) (h0_row_values : Nat) (h0_row_tags : Nat) (h0_row_links : Nat) (h0_row_keys : Nat) (h0_row_living : Nat)  (p1 : Int32) (p2 : Int32) (p3 : Int32) (n0_depth : Int32) (b0_wentUp : Bool) (n0_row_size : Int32) (f0_row_values : Nat → Int32) (Q : Int64 → Prop) (h : call_X3_scoreFound p1 p2 p3 f0_row_values Q) : CtL l yX3_scoreFound wsX3_scoreFound rm_X3_scoreFound D cs [.ref h0, .int p1, .int p2, .int p3] (pc_X3_scoreFound cs h0 h0_open h0_row h0_stack h0_taken h0_kin h0_ranking h0_row_levels h0_row_values h0_row_tags h0_row_links h0_row_keys h0_row_living n0_depth b0_wentUp n0_row_size f0_row_values) (fun u : Unit => (pc_X3_scoreFound cs h0 h0_open h0_row h0_stack h0_taken h0_kin h0_ranking h0_row_levels h0_row_values h0_row_tags h0_row_links h0_row_keys h0_row_living n0_depth b0_wentUp n0_row_size f0_row_values)) (fun r u => Q r ) := by
  refine xo_L (S := Unit) (cc := cX3_scoreFound) (maxL := 4) (own := RX3) (lv0 := [(0, .ref h0), (1, .int p1), (2, .int p2), (3, .int p3)]) (by decide) rfl rfl (Nat.le_of_ble_eq_true rfl) rfl ?_
  intro p e s m args below meth c A Z ls F hK hA hP hD hS hl RET
  have hw := h
  unfold call_X3_scoreFound at hw
  generalize ([] : List Loc) = locs at hS ⊢
  obtain ⟨H, hHe⟩ : ∃ H, H = s.heap := ⟨_, rfl⟩
  have hP : va_P D vwCl (pc_X3_scoreFound cs h0 h0_open h0_row h0_stack h0_taken h0_kin h0_ranking h0_row_levels h0_row_values h0_row_tags h0_row_links h0_row_keys h0_row_living n0_depth b0_wentUp n0_row_size f0_row_values) H := by rw [hHe]; exact hP
  have hS : va_S A s.heap H locs := by rw [hHe]; exact hS
  suffices W p l e rm_X3_scoreFound s m args below meth c H locs 0 0 Z (F0 m 0 ls []) by rw [hHe] at this; exact this
  refine lv_iload_n F.1 F.2.1 dX3_scoreFound_0 rfl (lv_at hl 2 rfl) ?_
  obtain ⟨hw0, hw1, hw2, hw3, hw4, hwd⟩ := hw
  by_cases hc0 : p2 = 1
  · have hw := hw0 hc0
    refine xi_tswIn (tgt := 36) (v := 1) (off := 35) F dX3_scoreFound_1 hc0 (by decide) ?_
    refine lv_iload_n F.1 F.2.1 dX3_scoreFound_36 rfl (lv_at hl 3 rfl) ?_
    refine xc_Si (As := [.int p3]) (rest := []) (m_J6_bitCount_0f7a4 l D cs p3 _ hw) F (va_cwS 1 F.2.2.2.2 gX3_scoreFound_J6_bitCount_0f7a4 rfl rfl rfl (by decide +kernel) ⟨Nat.le_of_ble_eq_true rfl, Nat.le_of_ble_eq_true rfl⟩) hK hP hD hS hA [] [0, 1, 2] rfl rfl rfl hl.1 rfl (Nat.le_of_ble_eq_true rfl) dX3_scoreFound_37 ⟨Nat.zero_le _, Nat.zero_le _⟩ (fun r37 u H locs hw hP hD hS => ?_)
    have hP : va_P D vwCl (pc_X3_scoreFound cs h0 h0_open h0_row h0_stack h0_taken h0_kin h0_ranking h0_row_levels h0_row_values h0_row_tags h0_row_links h0_row_keys h0_row_living n0_depth b0_wentUp n0_row_size f0_row_values) H := hP.sub [0, 1, 2] rfl
    have hD : va_D A (pc_X3_scoreFound cs h0 h0_open h0_row h0_stack h0_taken h0_kin h0_ranking h0_row_levels h0_row_values h0_row_tags h0_row_links h0_row_keys h0_row_living n0_depth b0_wentUp n0_row_size f0_row_values) := hD.sub [0, 1, 2] (by decide) rfl
    try dsimp only at hw
    refine lv_i2l (v := (r37).toInt64) F.1 F.2.1 dX3_scoreFound_40 rfl ?_
    exact RET ((r37).toInt64) () H locs 41 ls hw hP hD hS dX3_scoreFound_41
  by_cases hc1 : p2 = 2
  · have hw := hw1 hc1
    refine xi_tswIn (tgt := 42) (v := 2) (off := 41) F dX3_scoreFound_1 hc1 (by decide) ?_
    refine lv_aload_n F.1 F.2.1 dX3_scoreFound_42 rfl (lv_at hl 0 rfl) ?_
    refine xi_get (C := RX3) (T := TX3) (N := 8) (v := .ref h0_row) F in_X3_scoreFound_X3 hK hP 0 rfl rfl 1 (by decide) fl_X3_scoreFound_20 rfl dX3_scoreFound_43 ?_
    refine xi_get (C := RX1) (T := TX1) (N := 7) (v := .ref h0_row_values) F in_X3_scoreFound_X1 hK hP 1 rfl rfl 1 (by decide) fl_X3_scoreFound_94 rfl dX3_scoreFound_46 ?_
    refine lv_iload_n F.1 F.2.1 dX3_scoreFound_49 rfl (lv_at hl 1 rfl) ?_
    obtain ⟨j50, hj, he, hw⟩ := hw
    refine xi_iald (j := j50) F hK hP 2 rfl (by decide) hj he dX3_scoreFound_50 ?_
    refine lv_i2l (v := ((f0_row_values j50)).toInt64) F.1 F.2.1 dX3_scoreFound_51 rfl ?_
    exact RET (((f0_row_values j50)).toInt64) () H locs 52 ls hw hP hD hS dX3_scoreFound_52
  by_cases hc2 : p2 = 3
  · have hw := hw2 hc2
    refine xi_tswIn (tgt := 55) (v := 3) (off := 54) F dX3_scoreFound_1 hc2 (by decide) ?_
    refine lv_lconst (v := 0) F.1 F.2.1 dX3_scoreFound_55 (by decide) ?_
    exact RET 0 () H locs 56 ls hw hP hD hS dX3_scoreFound_56
  by_cases hc3 : p2 = 4
  · have hw := hw3 hc3
    refine xi_tswIn (tgt := 53) (v := 4) (off := 52) F dX3_scoreFound_1 hc3 (by decide) ?_
    refine lv_lconst (v := 1) F.1 F.2.1 dX3_scoreFound_53 (by decide) ?_
    exact RET 1 () H locs 54 ls hw hP hD hS dX3_scoreFound_54
  by_cases hc4 : p2 = 5
  · have hw := hw4 hc4
    refine xi_tswIn (tgt := 53) (v := 5) (off := 52) F dX3_scoreFound_1 hc4 (by decide) ?_
    refine lv_lconst (v := 1) F.1 F.2.1 dX3_scoreFound_53 (by decide) ?_
    exact RET 1 () H locs 54 ls hw hP hD hS dX3_scoreFound_54
  have hw := hwd hc0 hc1 hc2 hc3 hc4
  refine xi_tswOut (tgt := 55) F dX3_scoreFound_1 (fun k hk => by rcases (show k = 0 ∨ k = 1 ∨ k = 2 ∨ k = 3 ∨ k = 4 by omega) with rfl | rfl | rfl | rfl | rfl <;> assumption) (by decide) ?_
  refine lv_lconst (v := 0) F.1 F.2.1 dX3_scoreFound_55 (by decide) ?_
  exact RET 0 () H locs 56 ls hw hP hD hS dX3_scoreFound_56

abbrev pc_X3_combine (cs : Nat → ClassId)  : va_W := []
abbrev rm_X3_combine : Room := { frames := 1, cells := 0, slots := 0, locals := 23 }
def call_X3_combine (p0 : Int32) (p1 : Int64) (p3 : Int64) (Q : Int64 → Prop) : Prop :=
    ((p0 = 1 → Q (if p3 < p1 then p1 else p3)) ∧ (p0 = 2 → Q (if p3 < p1 then p3 else p1)) ∧ (¬ p0 = 1 → ¬ p0 = 2 → Q (p1 + p3)))
set_option maxHeartbeats 4000000 in
set_option maxRecDepth 100000 in
theorem m_X3_combine (l : Launch) (D : va_G) (cs : Nat → ClassId)  (p0 : Int32) (p1 : Int64) (p3 : Int64) (Q : Int64 → Prop) (h : call_X3_combine p0 p1 p3 Q) : CtL l yX3_combine wsX3_combine rm_X3_combine D cs [.int p0, .long p1, .long p3] (pc_X3_combine cs ) (fun u : Unit => (pc_X3_combine cs )) (fun r u => Q r ) := by
  refine xo_L (S := Unit) (cc := cX3_combine) (maxL := 5) (own := RX3) (lv0 := [(0, .int p0), (1, .long p1), (3, .long p3)]) (by decide) rfl rfl (Nat.le_of_ble_eq_true rfl) rfl ?_
  intro p e s m args below meth c A Z ls F hK hA hP hD hS hl RET
  have hw := h
  unfold call_X3_combine at hw
  generalize ([] : List Loc) = locs at hS ⊢
  obtain ⟨H, hHe⟩ : ∃ H, H = s.heap := ⟨_, rfl⟩
  have hP : va_P D vwCl (pc_X3_combine cs ) H := by rw [hHe]; exact hP
  have hS : va_S A s.heap H locs := by rw [hHe]; exact hS
  suffices W p l e rm_X3_combine s m args below meth c H locs 0 0 Z (F0 m 0 ls []) by rw [hHe] at this; exact this
  refine lv_iload_n F.1 F.2.1 dX3_combine_0 rfl (lv_at hl 0 rfl) ?_
  obtain ⟨hw0, hw1, hwd⟩ := hw
  by_cases hc0 : p0 = 1
  · have hw := hw0 hc0
    refine lv_lookup (tgt := 28) (off := 27) F.1 F.2.1 dX3_combine_1 (by decide) (by first | (rw [hc0]; done) | (rw [hc0]; rfl)) (by decide) ?_
    refine lv_lload_n F.1 F.2.1 dX3_combine_28 rfl (lv_at hl 1 rfl) ?_
    refine lv_lload_n F.1 F.2.1 dX3_combine_29 rfl (lv_at hl 2 rfl) ?_
    refine va_mmax_long F.1 F.2.1 (F.2.2.1.trans hl.1.symm) F.2.2.2.1 (F.2.2.2.2 (.methodLink RX3 202 Lib.MathLoose.max_long.x) (by decide +kernel)) (F.2.2.2.2 (.static Lib.MathLoose.max_long.x) (by decide +kernel)) (F.2.2.2.2 (.initialized "java/lang/Math") (by decide +kernel)) (F.2.2.2.2 (.code Lib.MathLoose.max_long.x Lib.MathLoose.max_long.code 4 (some .long)) (by decide +kernel)) (Nat.le_of_ble_eq_true rfl) (Nat.le_of_ble_eq_true rfl) (Nat.zero_le _) (Nat.zero_le _) dX3_combine_30 ?_
    exact RET (if p3 < p1 then p1 else p3) () H locs 33 ls hw hP hD hS dX3_combine_33
  by_cases hc1 : p0 = 2
  · have hw := hw1 hc1
    refine lv_lookup (tgt := 34) (off := 33) F.1 F.2.1 dX3_combine_1 (by decide) (by first | (rw [hc1]; done) | (rw [hc1]; rfl)) (by decide) ?_
    refine lv_lload_n F.1 F.2.1 dX3_combine_34 rfl (lv_at hl 1 rfl) ?_
    refine lv_lload_n F.1 F.2.1 dX3_combine_35 rfl (lv_at hl 2 rfl) ?_
    refine va_mmin_long F.1 F.2.1 (F.2.2.1.trans hl.1.symm) F.2.2.2.1 (F.2.2.2.2 (.methodLink RX3 208 Lib.MathLoose.min_long.x) (by decide +kernel)) (F.2.2.2.2 (.static Lib.MathLoose.min_long.x) (by decide +kernel)) (F.2.2.2.2 (.initialized "java/lang/Math") (by decide +kernel)) (F.2.2.2.2 (.code Lib.MathLoose.min_long.x Lib.MathLoose.min_long.code 4 (some .long)) (by decide +kernel)) (Nat.le_of_ble_eq_true rfl) (Nat.le_of_ble_eq_true rfl) (Nat.zero_le _) (Nat.zero_le _) dX3_combine_36 ?_
    exact RET (if p3 < p1 then p3 else p1) () H locs 39 ls hw hP hD hS dX3_combine_39
  have hw := hwd hc0 hc1
  refine lv_lookup (tgt := 40) (off := 39) F.1 F.2.1 dX3_combine_1 (by decide) ((lv_osw hc0 rfl).trans ((lv_osw hc1 rfl).trans rfl)) (by decide) ?_
  refine lv_lload_n F.1 F.2.1 dX3_combine_40 rfl (lv_at hl 1 rfl) ?_
  refine lv_lload_n F.1 F.2.1 dX3_combine_41 rfl (lv_at hl 2 rfl) ?_
  refine lv_ladd F.1 F.2.1 dX3_combine_42 ?_
  exact RET (p1 + p3) () H locs 43 ls hw hP hD hS dX3_combine_43

theorem in_X3_gatherBelow_X3 : ∀ w ∈ wsX30, w ∈ wsX3_gatherBelow := by decide +kernel
theorem fl_X3_gatherBelow_34 : Cond.fieldLink RX3 34 "JoinBlocks" "kin" "LJoinBlocks$ScoredSet;" ∈ wsX3_gatherBelow := by decide +kernel
theorem in_X3_gatherBelow_X2 : ∀ w ∈ wsX20, w ∈ wsX3_gatherBelow := by decide +kernel
theorem fl_X3_gatherBelow_177 : Cond.fieldLink RX3 177 "JoinBlocks$ScoredSet" "scores" "[J" ∈ wsX3_gatherBelow := by decide +kernel
theorem fl_X3_gatherBelow_20 : Cond.fieldLink RX3 20 "JoinBlocks" "row" "LJoinBlocks$Row;" ∈ wsX3_gatherBelow := by decide +kernel
abbrev pc_X3_gatherBelow (cs : Nat → ClassId) (h0 : Nat) (h0_open : Nat) (h0_row : Nat) (h0_stack : Nat) (h0_taken : Nat) (h0_kin : Nat) (h0_ranking : Nat) (h0_row_levels : Nat) (h0_row_values : Nat) (h0_row_tags : Nat) (h0_row_links : Nat) (h0_row_keys : Nat) (h0_row_living : Nat) (h0_kin_members : Nat) (h0_kin_scores : Nat) (h3 : Nat) (h3_members : Nat) (h3_scores : Nat) (n0_depth : Int32) (b0_wentUp : Bool) (n0_row_size : Int32) (f0_row_levels : Nat → Int32) (n0_kin_size : Int32) (f0_kin_members : Nat → Bool) (f0_kin_scores : Nat → Int64) (n3_size : Int32) (f3_members : Nat → Bool) (f3_scores : Nat → Int64) : va_W := [(h0, .inr (3, [.ref h0_open, .ref h0_row, .ref h0_stack, .ref h0_taken, .ref h0_kin, .ref h0_ranking, .int n0_depth, .int (b2i b0_wentUp)])), (h0_row, .inr (1, [.ref h0_row_levels, .ref h0_row_values, .ref h0_row_tags, .ref h0_row_links, .ref h0_row_keys, .ref h0_row_living, .int n0_row_size])), (h0_row_levels, .inl (cs 0, 200, .inl f0_row_levels)), (h0_kin, .inr (2, [.ref h0_kin_members, .ref h0_kin_scores, .int n0_kin_size])), (h0_kin_members, .inl (cs 1, 200, .inl (bF f0_kin_members))), (h0_kin_scores, .inl (cs 2, 200, .inr (.inl f0_kin_scores))), (h3, .inr (2, [.ref h3_members, .ref h3_scores, .int n3_size])), (h3_members, .inl (cs 1, 200, .inl (bF f3_members))), (h3_scores, .inl (cs 2, 200, .inr (.inl f3_scores)))]
abbrev rm_X3_gatherBelow : Room := { frames := 2, cells := 0, slots := 0, locals := 47 }
def call_X3_gatherBelow (p1 : Int32) (p2 : Int32) (f0_row_levels : Nat → Int32) (f0_kin_members : Nat → Bool) (f0_kin_scores : Nat → Int64) (n3_size : Int32) (f3_members : Nat → Bool) (f3_scores : Nat → Int64) (Q : Int32 → (Nat → Bool) → (Nat → Int64) → Prop) : Prop := ∀ (X16 : Int32 → Int64 → Int32 → Int32 → (Nat → Bool) → (Nat → Int64) → Prop) (X53 : Int32 → Int64 → Int32 → Int64 → Int32 → (Nat → Bool) → (Nat → Int64) → Prop) (X73 : Int32 → Int32 → Int64 → Int32 → (Nat → Bool) → (Nat → Int64) → Prop) (X78 : Int32 → Int64 → Int32 → Int32 → (Nat → Bool) → (Nat → Int64) → Prop) (X107 : Int64 → Int32 → Int32 → (Nat → Bool) → (Nat → Int64) → Prop) (X110 : Int32 → (Nat → Bool) → (Nat → Int64) → Prop),
    (∀ (x4 : Int32) (x5 : Int64) (x7 : Int32) (n3_size : Int32) (f3_members : Nat → Bool) (f3_scores : Nat → Int64),
      ((p1 ≤ x7 → ((x4 ≤ 0 → X110 n3_size f3_members f3_scores) ∧ (¬ x4 ≤ 0 → ((¬ p2 = 4 → X107 x5 p1 n3_size f3_members f3_scores) ∧ (p2 = 4 → (¬ ((x4).toInt64) = 0 ∧ X107 (x5 / ((x4).toInt64)) p1 n3_size f3_members f3_scores)))))) ∧ (¬ p1 ≤ x7 → (call_X2_has x7 f0_kin_members (fun (r28 : Bool) => ((r28 = false → X78 x4 x5 x7 n3_size f3_members f3_scores) ∧ (r28 = true → ((¬ p2 = 3 → (∃ j52 : Nat, j52 < 200 ∧ x7 = nI j52 ∧ X53 x4 x5 x7 (f0_kin_scores j52) n3_size f3_members f3_scores)) ∧ (p2 = 3 → X53 x4 x5 x7 1 n3_size f3_members f3_scores)))))))) → X16 x4 x5 x7 n3_size f3_members f3_scores) →
    (∀ (x4 : Int32) (x5 : Int64) (x7 : Int32) (s0 : Int64) (n3_size : Int32) (f3_members : Nat → Bool) (f3_scores : Nat → Int64),
      ((¬ x4 = 0 → (call_X3_combine p2 x5 s0 (fun (r70 : Int64) => X73 x4 x7 r70 n3_size f3_members f3_scores))) ∧ (x4 = 0 → X73 x4 x7 s0 n3_size f3_members f3_scores)) → X53 x4 x5 x7 s0 n3_size f3_members f3_scores) →
    (∀ (x4 : Int32) (x7 : Int32) (s0 : Int64) (n3_size : Int32) (f3_members : Nat → Bool) (f3_scores : Nat → Int64),
      X78 (x4 + 1) s0 x7 n3_size f3_members f3_scores → X73 x4 x7 s0 n3_size f3_members f3_scores) →
    (∀ (x4 : Int32) (x5 : Int64) (x7 : Int32) (n3_size : Int32) (f3_members : Nat → Bool) (f3_scores : Nat → Int64),
      X16 x4 x5 (x7 + 1) n3_size f3_members f3_scores → X78 x4 x5 x7 n3_size f3_members f3_scores) →
    (∀ (s0 : Int64) (s1 : Int32) (n3_size : Int32) (f3_members : Nat → Bool) (f3_scores : Nat → Int64),
      (call_X2_put s1 s0 n3_size f3_members f3_scores (fun (n3_size_107 : Int32) (f3_members_107 : Nat → Bool) (f3_scores_107 : Nat → Int64) => X110 n3_size_107 f3_members_107 f3_scores_107)) → X107 s0 s1 n3_size f3_members f3_scores) →
    (∀ (n3_size : Int32) (f3_members : Nat → Bool) (f3_scores : Nat → Int64),
      Q n3_size f3_members f3_scores → X110 n3_size f3_members f3_scores) →
    (call_X1_firstBelow 200 p1 f0_row_levels (fun (r11 : Int32) => X16 0 0 r11 n3_size f3_members f3_scores))
set_option maxHeartbeats 4000000 in
set_option maxRecDepth 100000 in
theorem m_X3_gatherBelow (l : Launch) (D : va_G) (cs : Nat → ClassId) (h0 : Nat) (h0_open : Nat) (h0_row : Nat) (h0_stack : Nat) (h0_taken : Nat) (h0_kin : Nat) (h0_ranking : Nat) (h0_row_levels : Nat) (h0_row_values : Nat) (h0_row_tags : Nat) (h0_row_links : Nat) (h0_row_keys : Nat) (h0_row_living : Nat) (h0_kin_members : Nat) (h0_kin_scores : Nat) (h3 : Nat) (h3_members : Nat) (h3_scores : Nat)  (p1 : Int32) (p2 : Int32) (n0_depth : Int32) (b0_wentUp : Bool) (n0_row_size : Int32) (f0_row_levels : Nat → Int32) (n0_kin_size : Int32) (f0_kin_members : Nat → Bool) (f0_kin_scores : Nat → Int64) (n3_size : Int32) (f3_members : Nat → Bool) (f3_scores : Nat → Int64) (Q : Int32 → (Nat → Bool) → (Nat → Int64) → Prop) (h : call_X3_gatherBelow p1 p2 f0_row_levels f0_kin_members f0_kin_scores n3_size f3_members f3_scores Q) : CtV l yX3_gatherBelow wsX3_gatherBelow rm_X3_gatherBelow D cs [.ref h0, .int p1, .int p2, .ref h3] (pc_X3_gatherBelow cs h0 h0_open h0_row h0_stack h0_taken h0_kin h0_ranking h0_row_levels h0_row_values h0_row_tags h0_row_links h0_row_keys h0_row_living h0_kin_members h0_kin_scores h3 h3_members h3_scores n0_depth b0_wentUp n0_row_size f0_row_levels n0_kin_size f0_kin_members f0_kin_scores n3_size f3_members f3_scores) (fun u : Int32 × (Nat → Bool) × (Nat → Int64) => (pc_X3_gatherBelow cs h0 h0_open h0_row h0_stack h0_taken h0_kin h0_ranking h0_row_levels h0_row_values h0_row_tags h0_row_links h0_row_keys h0_row_living h0_kin_members h0_kin_scores h3 h3_members h3_scores n0_depth b0_wentUp n0_row_size f0_row_levels n0_kin_size f0_kin_members f0_kin_scores u.1 u.2.1 u.2.2)) 0 0 (fun u => Q u.1 u.2.1 u.2.2) := by
  refine xo_V (S := Int32 × (Nat → Bool) × (Nat → Int64)) (cc := cX3_gatherBelow) (maxL := 10) (own := RX3) (lv0 := [(0, .ref h0), (1, .int p1), (2, .int p2), (3, .ref h3)]) (by decide) rfl rfl (Nat.le_of_ble_eq_true rfl) rfl ?_
  intro p e s m args below meth c A Z ls hnm F hK hA hP hD hS hl RET
  unfold call_X3_gatherBelow at h
  obtain ⟨X16, hX16⟩ : ∃ X : Int32 → Int64 → Int32 → Int32 → (Nat → Bool) → (Nat → Int64) → Prop, ∀ (x4 : Int32) (x5 : Int64) (x7 : Int32) (n3_size : Int32) (f3_members : Nat → Bool) (f3_scores : Nat → Int64), (X x4 x5 x7 n3_size f3_members f3_scores ↔ ∀ (H : Heap) (locs : List Loc) (ls : Array Slot), va_P D vwCl (pc_X3_gatherBelow cs h0 h0_open h0_row h0_stack h0_taken h0_kin h0_ranking h0_row_levels h0_row_values h0_row_tags h0_row_links h0_row_keys h0_row_living h0_kin_members h0_kin_scores h3 h3_members h3_scores n0_depth b0_wentUp n0_row_size f0_row_levels n0_kin_size f0_kin_members f0_kin_scores n3_size f3_members f3_scores) H → va_D A (pc_X3_gatherBelow cs h0 h0_open h0_row h0_stack h0_taken h0_kin h0_ranking h0_row_levels h0_row_values h0_row_tags h0_row_links h0_row_keys h0_row_living h0_kin_members h0_kin_scores h3 h3_members h3_scores n0_depth b0_wentUp n0_row_size f0_row_levels n0_kin_size f0_kin_members f0_kin_scores n3_size f3_members f3_scores) → va_S A s.heap H locs → lv_has ls 10 [(0, .ref h0), (1, .int p1), (2, .int p2), (3, .ref h3), (4, .int x4), (5, .long x5), (7, .int x7)] → W p l e rm_X3_gatherBelow s m args below meth c H locs 0 0 Z (F0 m 16 ls [])) := ⟨_, fun _ _ _ _ _ _ => Iff.rfl⟩
  obtain ⟨X53, hX53⟩ : ∃ X : Int32 → Int64 → Int32 → Int64 → Int32 → (Nat → Bool) → (Nat → Int64) → Prop, ∀ (x4 : Int32) (x5 : Int64) (x7 : Int32) (s0 : Int64) (n3_size : Int32) (f3_members : Nat → Bool) (f3_scores : Nat → Int64), (X x4 x5 x7 s0 n3_size f3_members f3_scores ↔ ∀ (H : Heap) (locs : List Loc) (ls : Array Slot), va_P D vwCl (pc_X3_gatherBelow cs h0 h0_open h0_row h0_stack h0_taken h0_kin h0_ranking h0_row_levels h0_row_values h0_row_tags h0_row_links h0_row_keys h0_row_living h0_kin_members h0_kin_scores h3 h3_members h3_scores n0_depth b0_wentUp n0_row_size f0_row_levels n0_kin_size f0_kin_members f0_kin_scores n3_size f3_members f3_scores) H → va_D A (pc_X3_gatherBelow cs h0 h0_open h0_row h0_stack h0_taken h0_kin h0_ranking h0_row_levels h0_row_values h0_row_tags h0_row_links h0_row_keys h0_row_living h0_kin_members h0_kin_scores h3 h3_members h3_scores n0_depth b0_wentUp n0_row_size f0_row_levels n0_kin_size f0_kin_members f0_kin_scores n3_size f3_members f3_scores) → va_S A s.heap H locs → lv_has ls 10 [(0, .ref h0), (1, .int p1), (2, .int p2), (3, .ref h3), (4, .int x4), (5, .long x5), (7, .int x7)] → W p l e rm_X3_gatherBelow s m args below meth c H locs 0 0 Z (F0 m 53 ls [.long s0])) := ⟨_, fun _ _ _ _ _ _ _ => Iff.rfl⟩
  obtain ⟨X73, hX73⟩ : ∃ X : Int32 → Int32 → Int64 → Int32 → (Nat → Bool) → (Nat → Int64) → Prop, ∀ (x4 : Int32) (x7 : Int32) (s0 : Int64) (n3_size : Int32) (f3_members : Nat → Bool) (f3_scores : Nat → Int64), (X x4 x7 s0 n3_size f3_members f3_scores ↔ ∀ (H : Heap) (locs : List Loc) (ls : Array Slot), va_P D vwCl (pc_X3_gatherBelow cs h0 h0_open h0_row h0_stack h0_taken h0_kin h0_ranking h0_row_levels h0_row_values h0_row_tags h0_row_links h0_row_keys h0_row_living h0_kin_members h0_kin_scores h3 h3_members h3_scores n0_depth b0_wentUp n0_row_size f0_row_levels n0_kin_size f0_kin_members f0_kin_scores n3_size f3_members f3_scores) H → va_D A (pc_X3_gatherBelow cs h0 h0_open h0_row h0_stack h0_taken h0_kin h0_ranking h0_row_levels h0_row_values h0_row_tags h0_row_links h0_row_keys h0_row_living h0_kin_members h0_kin_scores h3 h3_members h3_scores n0_depth b0_wentUp n0_row_size f0_row_levels n0_kin_size f0_kin_members f0_kin_scores n3_size f3_members f3_scores) → va_S A s.heap H locs → lv_has ls 10 [(0, .ref h0), (1, .int p1), (2, .int p2), (3, .ref h3), (4, .int x4), (7, .int x7)] → W p l e rm_X3_gatherBelow s m args below meth c H locs 0 0 Z (F0 m 73 ls [.long s0])) := ⟨_, fun _ _ _ _ _ _ => Iff.rfl⟩
  obtain ⟨X78, hX78⟩ : ∃ X : Int32 → Int64 → Int32 → Int32 → (Nat → Bool) → (Nat → Int64) → Prop, ∀ (x4 : Int32) (x5 : Int64) (x7 : Int32) (n3_size : Int32) (f3_members : Nat → Bool) (f3_scores : Nat → Int64), (X x4 x5 x7 n3_size f3_members f3_scores ↔ ∀ (H : Heap) (locs : List Loc) (ls : Array Slot), va_P D vwCl (pc_X3_gatherBelow cs h0 h0_open h0_row h0_stack h0_taken h0_kin h0_ranking h0_row_levels h0_row_values h0_row_tags h0_row_links h0_row_keys h0_row_living h0_kin_members h0_kin_scores h3 h3_members h3_scores n0_depth b0_wentUp n0_row_size f0_row_levels n0_kin_size f0_kin_members f0_kin_scores n3_size f3_members f3_scores) H → va_D A (pc_X3_gatherBelow cs h0 h0_open h0_row h0_stack h0_taken h0_kin h0_ranking h0_row_levels h0_row_values h0_row_tags h0_row_links h0_row_keys h0_row_living h0_kin_members h0_kin_scores h3 h3_members h3_scores n0_depth b0_wentUp n0_row_size f0_row_levels n0_kin_size f0_kin_members f0_kin_scores n3_size f3_members f3_scores) → va_S A s.heap H locs → lv_has ls 10 [(0, .ref h0), (1, .int p1), (2, .int p2), (3, .ref h3), (4, .int x4), (5, .long x5), (7, .int x7)] → W p l e rm_X3_gatherBelow s m args below meth c H locs 0 0 Z (F0 m 78 ls [])) := ⟨_, fun _ _ _ _ _ _ => Iff.rfl⟩
  obtain ⟨X107, hX107⟩ : ∃ X : Int64 → Int32 → Int32 → (Nat → Bool) → (Nat → Int64) → Prop, ∀ (s0 : Int64) (s1 : Int32) (n3_size : Int32) (f3_members : Nat → Bool) (f3_scores : Nat → Int64), (X s0 s1 n3_size f3_members f3_scores ↔ ∀ (H : Heap) (locs : List Loc) (ls : Array Slot), va_P D vwCl (pc_X3_gatherBelow cs h0 h0_open h0_row h0_stack h0_taken h0_kin h0_ranking h0_row_levels h0_row_values h0_row_tags h0_row_links h0_row_keys h0_row_living h0_kin_members h0_kin_scores h3 h3_members h3_scores n0_depth b0_wentUp n0_row_size f0_row_levels n0_kin_size f0_kin_members f0_kin_scores n3_size f3_members f3_scores) H → va_D A (pc_X3_gatherBelow cs h0 h0_open h0_row h0_stack h0_taken h0_kin h0_ranking h0_row_levels h0_row_values h0_row_tags h0_row_links h0_row_keys h0_row_living h0_kin_members h0_kin_scores h3 h3_members h3_scores n0_depth b0_wentUp n0_row_size f0_row_levels n0_kin_size f0_kin_members f0_kin_scores n3_size f3_members f3_scores) → va_S A s.heap H locs → lv_has ls 10 [] → W p l e rm_X3_gatherBelow s m args below meth c H locs 0 0 Z (F0 m 107 ls [.long s0, .int s1, .ref h3])) := ⟨_, fun _ _ _ _ _ => Iff.rfl⟩
  obtain ⟨X110, hX110⟩ : ∃ X : Int32 → (Nat → Bool) → (Nat → Int64) → Prop, ∀ (n3_size : Int32) (f3_members : Nat → Bool) (f3_scores : Nat → Int64), (X n3_size f3_members f3_scores ↔ ∀ (H : Heap) (locs : List Loc) (ls : Array Slot), va_P D vwCl (pc_X3_gatherBelow cs h0 h0_open h0_row h0_stack h0_taken h0_kin h0_ranking h0_row_levels h0_row_values h0_row_tags h0_row_links h0_row_keys h0_row_living h0_kin_members h0_kin_scores h3 h3_members h3_scores n0_depth b0_wentUp n0_row_size f0_row_levels n0_kin_size f0_kin_members f0_kin_scores n3_size f3_members f3_scores) H → va_D A (pc_X3_gatherBelow cs h0 h0_open h0_row h0_stack h0_taken h0_kin h0_ranking h0_row_levels h0_row_values h0_row_tags h0_row_links h0_row_keys h0_row_living h0_kin_members h0_kin_scores h3 h3_members h3_scores n0_depth b0_wentUp n0_row_size f0_row_levels n0_kin_size f0_kin_members f0_kin_scores n3_size f3_members f3_scores) → va_S A s.heap H locs → lv_has ls 10 [] → W p l e rm_X3_gatherBelow s m args below meth c H locs 0 0 Z (F0 m 110 ls [])) := ⟨_, fun _ _ _ => Iff.rfl⟩
  refine xt_cut (h X16 X53 X73 X78 X107 X110 ?_ ?_ ?_ ?_ ?_ ?_) (fun hw => ?_)
  · intro x4 x5 x7 n3_size f3_members f3_scores hw
    refine (hX16 _ _ _ _ _ _).mpr ?_
    intro H locs ls hP hD hS hl
    refine lv_iload F.1 F.2.1 dX3_gatherBelow_16 (lv_at hl 6 rfl) ?_
    refine lv_iload_n F.1 F.2.1 dX3_gatherBelow_18 rfl (lv_at hl 1 rfl) ?_
    refine lv_icmp_ge (tgt := 84) F.1 F.2.1 dX3_gatherBelow_19 (by decide) (fun hc => ?_) (fun hc => ?_)
    · have hw := hw.1 hc
      refine lv_iload F.1 F.2.1 dX3_gatherBelow_84 (lv_at hl 4 rfl) ?_
      refine lv_if_le (tgt := 110) F.1 F.2.1 dX3_gatherBelow_86 (by decide) (fun hc => ?_) (fun hc => ?_)
      · have hw := hw.1 hc
        exact (hX110 _ _ _).mp hw H locs ls hP hD hS (lv_sub hl [] rfl)
      · have hw := hw.2 hc
        refine lv_aload_n F.1 F.2.1 dX3_gatherBelow_89 rfl (lv_at hl 3 rfl) ?_
        refine lv_iload_n F.1 F.2.1 dX3_gatherBelow_90 rfl (lv_at hl 1 rfl) ?_
        refine lv_iload_n F.1 F.2.1 dX3_gatherBelow_91 rfl (lv_at hl 2 rfl) ?_
        refine lv_iconst (v := 4) F.1 F.2.1 dX3_gatherBelow_92 (by decide) ?_
        refine lv_icmp_ne (tgt := 105) F.1 F.2.1 dX3_gatherBelow_93 (by decide) (fun hc => ?_) (fun hc => ?_)
        · have hw := hw.1 hc
          refine lv_lload F.1 F.2.1 dX3_gatherBelow_105 (lv_at hl 5 rfl) ?_
          exact (hX107 _ _ _ _ _).mp hw H locs ls hP hD hS (lv_sub hl [] rfl)
        · have hw := hw.2 hc
          refine lv_lload F.1 F.2.1 dX3_gatherBelow_96 (lv_at hl 5 rfl) ?_
          refine lv_iload F.1 F.2.1 dX3_gatherBelow_98 (lv_at hl 4 rfl) ?_
          refine lv_i2l (v := (x4).toInt64) F.1 F.2.1 dX3_gatherBelow_100 rfl ?_
          obtain ⟨hne, hw⟩ := hw
          refine lv_ldiv F.1 F.2.1 dX3_gatherBelow_101 hne ?_
          refine lv_goto (tgt := 107) F.1 F.2.1 dX3_gatherBelow_102 (by decide) ?_
          exact (hX107 _ _ _ _ _).mp hw H locs ls hP hD hS (lv_sub hl [] rfl)
    · have hw := hw.2 hc
      refine lv_aload_n F.1 F.2.1 dX3_gatherBelow_22 rfl (lv_at hl 0 rfl) ?_
      refine xi_get (C := RX3) (T := TX3) (N := 8) (v := .ref h0_kin) F in_X3_gatherBelow_X3 hK hP 0 rfl rfl 4 (by decide) fl_X3_gatherBelow_34 rfl dX3_gatherBelow_23 ?_
      refine lv_iload F.1 F.2.1 dX3_gatherBelow_26 (lv_at hl 6 rfl) ?_
      refine xc_Vz (As := [.int x7]) (rest := []) (m_X2_has l D cs h0_kin h0_kin_members h0_kin_scores x7 n0_kin_size f0_kin_members _ hw) F (cwV 1 F.2.2.2.2 gX3_gatherBelow_X2_has rfl rfl rfl (by decide +kernel) ⟨Nat.le_of_ble_eq_true rfl, Nat.le_of_ble_eq_true rfl⟩) hK hP hD hS hA [3, 4] [0, 1, 2, 5, 6, 7, 8] rfl rfl 0 rfl rfl rfl hl.1 rfl (Nat.le_of_ble_eq_true rfl) dX3_gatherBelow_28 ⟨Nat.zero_le _, Nat.zero_le _⟩ (fun r28 u H locs hw hP hD hS => ?_)
      have hP : va_P D vwCl (pc_X3_gatherBelow cs h0 h0_open h0_row h0_stack h0_taken h0_kin h0_ranking h0_row_levels h0_row_values h0_row_tags h0_row_links h0_row_keys h0_row_living h0_kin_members h0_kin_scores h3 h3_members h3_scores n0_depth b0_wentUp n0_row_size f0_row_levels n0_kin_size f0_kin_members f0_kin_scores n3_size f3_members f3_scores) H := hP.sub [0, 1, 2, 7, 8, 3, 4, 5, 6] rfl
      have hD : va_D A (pc_X3_gatherBelow cs h0 h0_open h0_row h0_stack h0_taken h0_kin h0_ranking h0_row_levels h0_row_values h0_row_tags h0_row_links h0_row_keys h0_row_living h0_kin_members h0_kin_scores h3 h3_members h3_scores n0_depth b0_wentUp n0_row_size f0_row_levels n0_kin_size f0_kin_members f0_kin_scores n3_size f3_members f3_scores) := hD.sub [0, 1, 2, 7, 8, 3, 4, 5, 6] (by decide) rfl
      try dsimp only at hw
      refine xi_ifeqz (tgt := 78) F dX3_gatherBelow_31 (by decide) (fun hc => ?_) (fun hc => ?_)
      · have hw := hw.1 hc
        exact (hX78 _ _ _ _ _ _).mp hw H locs ls hP hD hS (lv_sub hl [0, 1, 2, 3, 4, 5, 6] rfl)
      · have hw := hw.2 hc
        refine lv_iload_n F.1 F.2.1 dX3_gatherBelow_34 rfl (lv_at hl 2 rfl) ?_
        refine lv_iconst (v := 3) F.1 F.2.1 dX3_gatherBelow_35 (by decide) ?_
        refine lv_icmp_ne (tgt := 43) F.1 F.2.1 dX3_gatherBelow_36 (by decide) (fun hc => ?_) (fun hc => ?_)
        · have hw := hw.1 hc
          refine lv_aload_n F.1 F.2.1 dX3_gatherBelow_43 rfl (lv_at hl 0 rfl) ?_
          refine xi_get (C := RX3) (T := TX3) (N := 8) (v := .ref h0_kin) F in_X3_gatherBelow_X3 hK hP 0 rfl rfl 4 (by decide) fl_X3_gatherBelow_34 rfl dX3_gatherBelow_44 ?_
          refine xi_get (C := RX2) (T := TX2) (N := 3) (v := .ref h0_kin_scores) F in_X3_gatherBelow_X2 hK hP 3 rfl rfl 1 (by decide) fl_X3_gatherBelow_177 rfl dX3_gatherBelow_47 ?_
          refine lv_iload F.1 F.2.1 dX3_gatherBelow_50 (lv_at hl 6 rfl) ?_
          obtain ⟨j52, hj, he, hw⟩ := hw
          refine xi_lald (j := j52) F hK hP 5 rfl (by decide) hj he dX3_gatherBelow_52 ?_
          exact (hX53 _ _ _ _ _ _ _).mp hw H locs ls hP hD hS (lv_sub hl [0, 1, 2, 3, 4, 5, 6] rfl)
        · have hw := hw.2 hc
          refine lv_lconst (v := 1) F.1 F.2.1 dX3_gatherBelow_39 (by decide) ?_
          refine lv_goto (tgt := 53) F.1 F.2.1 dX3_gatherBelow_40 (by decide) ?_
          exact (hX53 _ _ _ _ _ _ _).mp hw H locs ls hP hD hS (lv_sub hl [0, 1, 2, 3, 4, 5, 6] rfl)
  · intro x4 x5 x7 s0 n3_size f3_members f3_scores hw
    refine (hX53 _ _ _ _ _ _ _).mpr ?_
    intro H locs ls hP hD hS hl
    refine lv_lstore (lv' := [(8, .long s0), (0, .ref h0), (1, .int p1), (2, .int p2), (3, .ref h3), (4, .int x4), (5, .long x5), (7, .int x7)]) F.1 F.2.1 dX3_gatherBelow_53 hl (by decide) rfl (fun ls hl => ?_)
    refine lv_iload F.1 F.2.1 dX3_gatherBelow_55 (lv_at hl 5 rfl) ?_
    refine lv_if_ne (tgt := 65) F.1 F.2.1 dX3_gatherBelow_57 (by decide) (fun hc => ?_) (fun hc => ?_)
    · have hw := hw.1 hc
      refine lv_iload_n F.1 F.2.1 dX3_gatherBelow_65 rfl (lv_at hl 3 rfl) ?_
      refine lv_lload F.1 F.2.1 dX3_gatherBelow_66 (lv_at hl 6 rfl) ?_
      refine lv_lload F.1 F.2.1 dX3_gatherBelow_68 (lv_at hl 0 rfl) ?_
      refine xc_Sl (As := [.int p2, .long x5, .long s0]) (rest := []) (m_X3_combine l D cs p2 x5 s0 _ hw) F (va_cwS 3 F.2.2.2.2 gX3_gatherBelow_X3_combine rfl rfl rfl (by decide +kernel) ⟨Nat.le_of_ble_eq_true rfl, Nat.le_of_ble_eq_true rfl⟩) hK hP hD hS hA [] [0, 1, 2, 3, 4, 5, 6, 7, 8] rfl rfl rfl hl.1 rfl (Nat.le_of_ble_eq_true rfl) dX3_gatherBelow_70 ⟨Nat.zero_le _, Nat.zero_le _⟩ (fun r70 u H locs hw hP hD hS => ?_)
      have hP : va_P D vwCl (pc_X3_gatherBelow cs h0 h0_open h0_row h0_stack h0_taken h0_kin h0_ranking h0_row_levels h0_row_values h0_row_tags h0_row_links h0_row_keys h0_row_living h0_kin_members h0_kin_scores h3 h3_members h3_scores n0_depth b0_wentUp n0_row_size f0_row_levels n0_kin_size f0_kin_members f0_kin_scores n3_size f3_members f3_scores) H := hP.sub [0, 1, 2, 3, 4, 5, 6, 7, 8] rfl
      have hD : va_D A (pc_X3_gatherBelow cs h0 h0_open h0_row h0_stack h0_taken h0_kin h0_ranking h0_row_levels h0_row_values h0_row_tags h0_row_links h0_row_keys h0_row_living h0_kin_members h0_kin_scores h3 h3_members h3_scores n0_depth b0_wentUp n0_row_size f0_row_levels n0_kin_size f0_kin_members f0_kin_scores n3_size f3_members f3_scores) := hD.sub [0, 1, 2, 3, 4, 5, 6, 7, 8] (by decide) rfl
      try dsimp only at hw
      exact (hX73 _ _ _ _ _ _).mp hw H locs ls hP hD hS (lv_sub hl [1, 2, 3, 4, 5, 7] rfl)
    · have hw := hw.2 hc
      refine lv_lload F.1 F.2.1 dX3_gatherBelow_60 (lv_at hl 0 rfl) ?_
      refine lv_goto (tgt := 73) F.1 F.2.1 dX3_gatherBelow_62 (by decide) ?_
      exact (hX73 _ _ _ _ _ _).mp hw H locs ls hP hD hS (lv_sub hl [1, 2, 3, 4, 5, 7] rfl)
  · intro x4 x7 s0 n3_size f3_members f3_scores hw
    refine (hX73 _ _ _ _ _ _).mpr ?_
    intro H locs ls hP hD hS hl
    refine lv_lstore (lv' := [(5, .long s0), (0, .ref h0), (1, .int p1), (2, .int p2), (3, .ref h3), (4, .int x4), (7, .int x7)]) F.1 F.2.1 dX3_gatherBelow_73 hl (by decide) rfl (fun ls hl => ?_)
    refine lv_iinc (v := (x4 + 1)) (lv' := [(4, .int (x4 + 1)), (5, .long s0), (0, .ref h0), (1, .int p1), (2, .int p2), (3, .ref h3), (7, .int x7)]) F.1 F.2.1 dX3_gatherBelow_75 hl (k := 5) rfl rfl (by decide) rfl (fun ls hl => ?_)
    exact (hX78 _ _ _ _ _ _).mp hw H locs ls hP hD hS (lv_sub hl [2, 3, 4, 5, 0, 1, 6] rfl)
  · intro x4 x5 x7 n3_size f3_members f3_scores hw
    refine (hX78 _ _ _ _ _ _).mpr ?_
    intro H locs ls hP hD hS hl
    refine lv_iinc (v := (x7 + 1)) (lv' := [(7, .int (x7 + 1)), (0, .ref h0), (1, .int p1), (2, .int p2), (3, .ref h3), (4, .int x4), (5, .long x5)]) F.1 F.2.1 dX3_gatherBelow_78 hl (k := 6) rfl rfl (by decide) rfl (fun ls hl => ?_)
    refine lv_goto (tgt := 16) F.1 F.2.1 dX3_gatherBelow_81 (by decide) ?_
    exact (hX16 _ _ _ _ _ _).mp hw H locs ls hP hD hS (lv_sub hl [1, 2, 3, 4, 5, 6, 0] rfl)
  · intro s0 s1 n3_size f3_members f3_scores hw
    refine (hX107 _ _ _ _ _).mpr ?_
    intro H locs ls hP hD hS hl
    refine xc_Vv (As := [.int s1, .long s0]) (rest := []) (m_X2_put l D cs h3 h3_members h3_scores s1 s0 n3_size f3_members f3_scores _ hw) F (cwV 2 F.2.2.2.2 gX3_gatherBelow_X2_put rfl rfl rfl (by decide +kernel) ⟨Nat.le_of_ble_eq_true rfl, Nat.le_of_ble_eq_true rfl⟩) hK hP hD hS hA [6, 7, 8] [0, 1, 2, 3, 4, 5] rfl rfl 0 rfl rfl rfl hl.1 rfl (Nat.le_of_ble_eq_true rfl) dX3_gatherBelow_107 ⟨Nat.zero_le _, Nat.zero_le _⟩ (fun u H locs hw hP hD hS => ?_)
    obtain ⟨n3_size_107, f3_members_107, f3_scores_107⟩ := u
    have hP : va_P D vwCl (pc_X3_gatherBelow cs h0 h0_open h0_row h0_stack h0_taken h0_kin h0_ranking h0_row_levels h0_row_values h0_row_tags h0_row_links h0_row_keys h0_row_living h0_kin_members h0_kin_scores h3 h3_members h3_scores n0_depth b0_wentUp n0_row_size f0_row_levels n0_kin_size f0_kin_members f0_kin_scores n3_size_107 f3_members_107 f3_scores_107) H := hP.sub [0, 1, 2, 3, 4, 5, 6, 7, 8] rfl
    have hD : va_D A (pc_X3_gatherBelow cs h0 h0_open h0_row h0_stack h0_taken h0_kin h0_ranking h0_row_levels h0_row_values h0_row_tags h0_row_links h0_row_keys h0_row_living h0_kin_members h0_kin_scores h3 h3_members h3_scores n0_depth b0_wentUp n0_row_size f0_row_levels n0_kin_size f0_kin_members f0_kin_scores n3_size_107 f3_members_107 f3_scores_107) := hD.sub [0, 1, 2, 3, 4, 5, 6, 7, 8] (by decide) rfl
    try dsimp only at hw
    exact (hX110 _ _ _).mp hw H locs ls hP hD hS (lv_sub hl [] rfl)
  · intro n3_size f3_members f3_scores hw
    refine (hX110 _ _ _).mpr ?_
    intro H locs ls hP hD hS hl
    exact RET (n3_size, f3_members, f3_scores) H locs 110 ls hw hP hD hS dX3_gatherBelow_110
  generalize ([] : List Loc) = locs at hS ⊢
  obtain ⟨H, hHe⟩ : ∃ H, H = s.heap := ⟨_, rfl⟩
  have hP : va_P D vwCl (pc_X3_gatherBelow cs h0 h0_open h0_row h0_stack h0_taken h0_kin h0_ranking h0_row_levels h0_row_values h0_row_tags h0_row_links h0_row_keys h0_row_living h0_kin_members h0_kin_scores h3 h3_members h3_scores n0_depth b0_wentUp n0_row_size f0_row_levels n0_kin_size f0_kin_members f0_kin_scores n3_size f3_members f3_scores) H := by rw [hHe]; exact hP
  have hS : va_S A s.heap H locs := by rw [hHe]; exact hS
  suffices W p l e rm_X3_gatherBelow s m args below meth c H locs 0 0 Z (F0 m 0 ls []) by rw [hHe] at this; exact this
  refine lv_iconst (v := 0) F.1 F.2.1 dX3_gatherBelow_0 (by decide) ?_
  refine lv_istore (lv' := [(4, .int 0), (0, .ref h0), (1, .int p1), (2, .int p2), (3, .ref h3)]) F.1 F.2.1 dX3_gatherBelow_1 hl (by decide) rfl (fun ls hl => ?_)
  refine lv_lconst (v := 0) F.1 F.2.1 dX3_gatherBelow_3 (by decide) ?_
  refine lv_lstore (lv' := [(5, .long 0), (4, .int 0), (0, .ref h0), (1, .int p1), (2, .int p2), (3, .ref h3)]) F.1 F.2.1 dX3_gatherBelow_4 hl (by decide) rfl (fun ls hl => ?_)
  refine lv_aload_n F.1 F.2.1 dX3_gatherBelow_6 rfl (lv_at hl 2 rfl) ?_
  refine xi_get (C := RX3) (T := TX3) (N := 8) (v := .ref h0_row) F in_X3_gatherBelow_X3 hK hP 0 rfl rfl 1 (by decide) fl_X3_gatherBelow_20 rfl dX3_gatherBelow_7 ?_
  refine lv_iload_n F.1 F.2.1 dX3_gatherBelow_10 rfl (lv_at hl 3 rfl) ?_
  refine xc_Vi (As := [.int p1]) (rest := []) (m_X1_firstBelow l D cs h0_row h0_row_levels h0_row_values h0_row_tags h0_row_links h0_row_keys h0_row_living 200 (by decide) p1 n0_row_size f0_row_levels _ hw) F (cwV 1 F.2.2.2.2 gX3_gatherBelow_X1_firstBelow rfl rfl rfl (by decide +kernel) ⟨Nat.le_of_ble_eq_true rfl, Nat.le_of_ble_eq_true rfl⟩) hK hP hD hS hA [1, 2] [0, 3, 4, 5, 6, 7, 8] rfl rfl 0 rfl rfl rfl hl.1 rfl (Nat.le_of_ble_eq_true rfl) dX3_gatherBelow_11 ⟨Nat.zero_le _, Nat.zero_le _⟩ (fun r11 u H locs hw hP hD hS => ?_)
  have hP : va_P D vwCl (pc_X3_gatherBelow cs h0 h0_open h0_row h0_stack h0_taken h0_kin h0_ranking h0_row_levels h0_row_values h0_row_tags h0_row_links h0_row_keys h0_row_living h0_kin_members h0_kin_scores h3 h3_members h3_scores n0_depth b0_wentUp n0_row_size f0_row_levels n0_kin_size f0_kin_members f0_kin_scores n3_size f3_members f3_scores) H := hP.sub [0, 7, 8, 1, 2, 3, 4, 5, 6] rfl
  have hD : va_D A (pc_X3_gatherBelow cs h0 h0_open h0_row h0_stack h0_taken h0_kin h0_ranking h0_row_levels h0_row_values h0_row_tags h0_row_links h0_row_keys h0_row_living h0_kin_members h0_kin_scores h3 h3_members h3_scores n0_depth b0_wentUp n0_row_size f0_row_levels n0_kin_size f0_kin_members f0_kin_scores n3_size f3_members f3_scores) := hD.sub [0, 7, 8, 1, 2, 3, 4, 5, 6] (by decide) rfl
  try dsimp only at hw
  refine lv_istore (lv' := [(7, .int r11), (5, .long 0), (4, .int 0), (0, .ref h0), (1, .int p1), (2, .int p2), (3, .ref h3)]) F.1 F.2.1 dX3_gatherBelow_14 hl (by decide) rfl (fun ls hl => ?_)
  exact (hX16 _ _ _ _ _ _).mp hw H locs ls hP hD hS (lv_sub hl [3, 4, 5, 6, 2, 1, 0] rfl)

theorem in_X3_spreadBelow_X3 : ∀ w ∈ wsX30, w ∈ wsX3_spreadBelow := by decide +kernel
theorem fl_X3_spreadBelow_20 : Cond.fieldLink RX3 20 "JoinBlocks" "row" "LJoinBlocks$Row;" ∈ wsX3_spreadBelow := by decide +kernel
theorem in_X3_spreadBelow_X1 : ∀ w ∈ wsX10, w ∈ wsX3_spreadBelow := by decide +kernel
theorem fl_X3_spreadBelow_90 : Cond.fieldLink RX3 90 "JoinBlocks$Row" "levels" "[I" ∈ wsX3_spreadBelow := by decide +kernel
theorem fl_X3_spreadBelow_30 : Cond.fieldLink RX3 30 "JoinBlocks" "taken" "LJoinBlocks$ScoredSet;" ∈ wsX3_spreadBelow := by decide +kernel
theorem in_X3_spreadBelow_X2 : ∀ w ∈ wsX20, w ∈ wsX3_spreadBelow := by decide +kernel
theorem fl_X3_spreadBelow_177 : Cond.fieldLink RX3 177 "JoinBlocks$ScoredSet" "scores" "[J" ∈ wsX3_spreadBelow := by decide +kernel
abbrev pc_X3_spreadBelow (cs : Nat → ClassId) (h0 : Nat) (h0_open : Nat) (h0_row : Nat) (h0_stack : Nat) (h0_taken : Nat) (h0_kin : Nat) (h0_ranking : Nat) (h0_row_levels : Nat) (h0_row_values : Nat) (h0_row_tags : Nat) (h0_row_links : Nat) (h0_row_keys : Nat) (h0_row_living : Nat) (h0_taken_members : Nat) (h0_taken_scores : Nat) (h3 : Nat) (h3_members : Nat) (h3_scores : Nat) (n0_depth : Int32) (b0_wentUp : Bool) (n0_row_size : Int32) (f0_row_levels : Nat → Int32) (n0_taken_size : Int32) (f0_taken_scores : Nat → Int64) (n3_size : Int32) (f3_members : Nat → Bool) (f3_scores : Nat → Int64) : va_W := [(h0, .inr (3, [.ref h0_open, .ref h0_row, .ref h0_stack, .ref h0_taken, .ref h0_kin, .ref h0_ranking, .int n0_depth, .int (b2i b0_wentUp)])), (h0_row, .inr (1, [.ref h0_row_levels, .ref h0_row_values, .ref h0_row_tags, .ref h0_row_links, .ref h0_row_keys, .ref h0_row_living, .int n0_row_size])), (h0_row_levels, .inl (cs 0, 200, .inl f0_row_levels)), (h0_taken, .inr (2, [.ref h0_taken_members, .ref h0_taken_scores, .int n0_taken_size])), (h0_taken_scores, .inl (cs 2, 200, .inr (.inl f0_taken_scores))), (h3, .inr (2, [.ref h3_members, .ref h3_scores, .int n3_size])), (h3_members, .inl (cs 1, 200, .inl (bF f3_members))), (h3_scores, .inl (cs 2, 200, .inr (.inl f3_scores)))]
abbrev rm_X3_spreadBelow : Room := { frames := 2, cells := 0, slots := 0, locals := 46 }
def call_X3_spreadBelow (p1 : Int32) (p2 : Int32) (f0_row_levels : Nat → Int32) (f0_taken_scores : Nat → Int64) (n3_size : Int32) (f3_members : Nat → Bool) (f3_scores : Nat → Int64) (Q : Int32 → (Nat → Bool) → (Nat → Int64) → Prop) : Prop := ∀ (X10 : Int32 → Int32 → (Nat → Bool) → (Nat → Int64) → Prop) (X45 : Int32 → Int32 → (Nat → Bool) → (Nat → Int64) → Prop),
    (∀ (x4 : Int32) (n3_size : Int32) (f3_members : Nat → Bool) (f3_scores : Nat → Int64),
      ((p1 ≤ x4 → Q n3_size f3_members f3_scores) ∧ (¬ p1 ≤ x4 → (∃ j25 : Nat, j25 < 200 ∧ x4 = nI j25 ∧ ((¬ (f0_row_levels j25) = p2 → X45 x4 n3_size f3_members f3_scores) ∧ ((f0_row_levels j25) = p2 → (∃ j41 : Nat, j41 < 200 ∧ p1 = nI j41 ∧ (call_X2_add x4 (f0_taken_scores j41) n3_size f3_members f3_scores (fun (n3_size_42 : Int32) (f3_members_42 : Nat → Bool) (f3_scores_42 : Nat → Int64) => X45 x4 n3_size_42 f3_members_42 f3_scores_42)))))))) → X10 x4 n3_size f3_members f3_scores) →
    (∀ (x4 : Int32) (n3_size : Int32) (f3_members : Nat → Bool) (f3_scores : Nat → Int64),
      X10 (x4 + 1) n3_size f3_members f3_scores → X45 x4 n3_size f3_members f3_scores) →
    (call_X1_firstBelow 200 p1 f0_row_levels (fun (r5 : Int32) => X10 r5 n3_size f3_members f3_scores))
set_option maxHeartbeats 4000000 in
set_option maxRecDepth 100000 in
theorem m_X3_spreadBelow (l : Launch) (D : va_G) (cs : Nat → ClassId) (h0 : Nat) (h0_open : Nat) (h0_row : Nat) (h0_stack : Nat) (h0_taken : Nat) (h0_kin : Nat) (h0_ranking : Nat) (h0_row_levels : Nat) (h0_row_values : Nat) (h0_row_tags : Nat) (h0_row_links : Nat) (h0_row_keys : Nat) (h0_row_living : Nat) (h0_taken_members : Nat) (h0_taken_scores : Nat) (h3 : Nat) (h3_members : Nat) (h3_scores : Nat)  (p1 : Int32) (p2 : Int32) (n0_depth : Int32) (b0_wentUp : Bool) (n0_row_size : Int32) (f0_row_levels : Nat → Int32) (n0_taken_size : Int32) (f0_taken_scores : Nat → Int64) (n3_size : Int32) (f3_members : Nat → Bool) (f3_scores : Nat → Int64) (Q : Int32 → (Nat → Bool) → (Nat → Int64) → Prop) (h : call_X3_spreadBelow p1 p2 f0_row_levels f0_taken_scores n3_size f3_members f3_scores Q) : CtV l yX3_spreadBelow wsX3_spreadBelow rm_X3_spreadBelow D cs [.ref h0, .int p1, .int p2, .ref h3] (pc_X3_spreadBelow cs h0 h0_open h0_row h0_stack h0_taken h0_kin h0_ranking h0_row_levels h0_row_values h0_row_tags h0_row_links h0_row_keys h0_row_living h0_taken_members h0_taken_scores h3 h3_members h3_scores n0_depth b0_wentUp n0_row_size f0_row_levels n0_taken_size f0_taken_scores n3_size f3_members f3_scores) (fun u : Int32 × (Nat → Bool) × (Nat → Int64) => (pc_X3_spreadBelow cs h0 h0_open h0_row h0_stack h0_taken h0_kin h0_ranking h0_row_levels h0_row_values h0_row_tags h0_row_links h0_row_keys h0_row_living h0_taken_members h0_taken_scores h3 h3_members h3_scores n0_depth b0_wentUp n0_row_size f0_row_levels n0_taken_size f0_taken_scores u.1 u.2.1 u.2.2)) 0 0 (fun u => Q u.1 u.2.1 u.2.2) := by
  refine xo_V (S := Int32 × (Nat → Bool) × (Nat → Int64)) (cc := cX3_spreadBelow) (maxL := 5) (own := RX3) (lv0 := [(0, .ref h0), (1, .int p1), (2, .int p2), (3, .ref h3)]) (by decide) rfl rfl (Nat.le_of_ble_eq_true rfl) rfl ?_
  intro p e s m args below meth c A Z ls hnm F hK hA hP hD hS hl RET
  unfold call_X3_spreadBelow at h
  obtain ⟨X10, hX10⟩ : ∃ X : Int32 → Int32 → (Nat → Bool) → (Nat → Int64) → Prop, ∀ (x4 : Int32) (n3_size : Int32) (f3_members : Nat → Bool) (f3_scores : Nat → Int64), (X x4 n3_size f3_members f3_scores ↔ ∀ (H : Heap) (locs : List Loc) (ls : Array Slot), va_P D vwCl (pc_X3_spreadBelow cs h0 h0_open h0_row h0_stack h0_taken h0_kin h0_ranking h0_row_levels h0_row_values h0_row_tags h0_row_links h0_row_keys h0_row_living h0_taken_members h0_taken_scores h3 h3_members h3_scores n0_depth b0_wentUp n0_row_size f0_row_levels n0_taken_size f0_taken_scores n3_size f3_members f3_scores) H → va_D A (pc_X3_spreadBelow cs h0 h0_open h0_row h0_stack h0_taken h0_kin h0_ranking h0_row_levels h0_row_values h0_row_tags h0_row_links h0_row_keys h0_row_living h0_taken_members h0_taken_scores h3 h3_members h3_scores n0_depth b0_wentUp n0_row_size f0_row_levels n0_taken_size f0_taken_scores n3_size f3_members f3_scores) → va_S A s.heap H locs → lv_has ls 5 [(0, .ref h0), (1, .int p1), (2, .int p2), (3, .ref h3), (4, .int x4)] → W p l e rm_X3_spreadBelow s m args below meth c H locs 0 0 Z (F0 m 10 ls [])) := ⟨_, fun _ _ _ _ => Iff.rfl⟩
  obtain ⟨X45, hX45⟩ : ∃ X : Int32 → Int32 → (Nat → Bool) → (Nat → Int64) → Prop, ∀ (x4 : Int32) (n3_size : Int32) (f3_members : Nat → Bool) (f3_scores : Nat → Int64), (X x4 n3_size f3_members f3_scores ↔ ∀ (H : Heap) (locs : List Loc) (ls : Array Slot), va_P D vwCl (pc_X3_spreadBelow cs h0 h0_open h0_row h0_stack h0_taken h0_kin h0_ranking h0_row_levels h0_row_values h0_row_tags h0_row_links h0_row_keys h0_row_living h0_taken_members h0_taken_scores h3 h3_members h3_scores n0_depth b0_wentUp n0_row_size f0_row_levels n0_taken_size f0_taken_scores n3_size f3_members f3_scores) H → va_D A (pc_X3_spreadBelow cs h0 h0_open h0_row h0_stack h0_taken h0_kin h0_ranking h0_row_levels h0_row_values h0_row_tags h0_row_links h0_row_keys h0_row_living h0_taken_members h0_taken_scores h3 h3_members h3_scores n0_depth b0_wentUp n0_row_size f0_row_levels n0_taken_size f0_taken_scores n3_size f3_members f3_scores) → va_S A s.heap H locs → lv_has ls 5 [(0, .ref h0), (1, .int p1), (2, .int p2), (3, .ref h3), (4, .int x4)] → W p l e rm_X3_spreadBelow s m args below meth c H locs 0 0 Z (F0 m 45 ls [])) := ⟨_, fun _ _ _ _ => Iff.rfl⟩
  refine xt_cut (h X10 X45 ?_ ?_) (fun hw => ?_)
  · intro x4 n3_size f3_members f3_scores hw
    refine (hX10 _ _ _ _).mpr ?_
    intro H locs ls hP hD hS hl
    refine lv_iload F.1 F.2.1 dX3_spreadBelow_10 (lv_at hl 4 rfl) ?_
    refine lv_iload_n F.1 F.2.1 dX3_spreadBelow_12 rfl (lv_at hl 1 rfl) ?_
    refine lv_icmp_ge (tgt := 51) F.1 F.2.1 dX3_spreadBelow_13 (by decide) (fun hc => ?_) (fun hc => ?_)
    · have hw := hw.1 hc
      exact RET (n3_size, f3_members, f3_scores) H locs 51 ls hw hP hD hS dX3_spreadBelow_51
    · have hw := hw.2 hc
      refine lv_aload_n F.1 F.2.1 dX3_spreadBelow_16 rfl (lv_at hl 0 rfl) ?_
      refine xi_get (C := RX3) (T := TX3) (N := 8) (v := .ref h0_row) F in_X3_spreadBelow_X3 hK hP 0 rfl rfl 1 (by decide) fl_X3_spreadBelow_20 rfl dX3_spreadBelow_17 ?_
      refine xi_get (C := RX1) (T := TX1) (N := 7) (v := .ref h0_row_levels) F in_X3_spreadBelow_X1 hK hP 1 rfl rfl 0 (by decide) fl_X3_spreadBelow_90 rfl dX3_spreadBelow_20 ?_
      refine lv_iload F.1 F.2.1 dX3_spreadBelow_23 (lv_at hl 4 rfl) ?_
      obtain ⟨j25, hj, he, hw⟩ := hw
      refine xi_iald (j := j25) F hK hP 2 rfl (by decide) hj he dX3_spreadBelow_25 ?_
      refine lv_iload_n F.1 F.2.1 dX3_spreadBelow_26 rfl (lv_at hl 2 rfl) ?_
      refine lv_icmp_ne (tgt := 45) F.1 F.2.1 dX3_spreadBelow_27 (by decide) (fun hc => ?_) (fun hc => ?_)
      · have hw := hw.1 hc
        exact (hX45 _ _ _ _).mp hw H locs ls hP hD hS (lv_sub hl [0, 1, 2, 3, 4] rfl)
      · have hw := hw.2 hc
        refine lv_aload_n F.1 F.2.1 dX3_spreadBelow_30 rfl (lv_at hl 3 rfl) ?_
        refine lv_iload F.1 F.2.1 dX3_spreadBelow_31 (lv_at hl 4 rfl) ?_
        refine lv_aload_n F.1 F.2.1 dX3_spreadBelow_33 rfl (lv_at hl 0 rfl) ?_
        refine xi_get (C := RX3) (T := TX3) (N := 8) (v := .ref h0_taken) F in_X3_spreadBelow_X3 hK hP 0 rfl rfl 3 (by decide) fl_X3_spreadBelow_30 rfl dX3_spreadBelow_34 ?_
        refine xi_get (C := RX2) (T := TX2) (N := 3) (v := .ref h0_taken_scores) F in_X3_spreadBelow_X2 hK hP 3 rfl rfl 1 (by decide) fl_X3_spreadBelow_177 rfl dX3_spreadBelow_37 ?_
        refine lv_iload_n F.1 F.2.1 dX3_spreadBelow_40 rfl (lv_at hl 1 rfl) ?_
        obtain ⟨j41, hj, he, hw⟩ := hw
        refine xi_lald (j := j41) F hK hP 4 rfl (by decide) hj he dX3_spreadBelow_41 ?_
        refine xc_Vv (As := [.int x4, .long (f0_taken_scores j41)]) (rest := []) (m_X2_add l D cs h3 h3_members h3_scores x4 (f0_taken_scores j41) n3_size f3_members f3_scores _ hw) F (cwV 2 F.2.2.2.2 gX3_spreadBelow_X2_add rfl rfl rfl (by decide +kernel) ⟨Nat.le_of_ble_eq_true rfl, Nat.le_of_ble_eq_true rfl⟩) hK hP hD hS hA [5, 6, 7] [0, 1, 2, 3, 4] rfl rfl 0 rfl rfl rfl hl.1 rfl (Nat.le_of_ble_eq_true rfl) dX3_spreadBelow_42 ⟨Nat.zero_le _, Nat.zero_le _⟩ (fun u H locs hw hP hD hS => ?_)
        obtain ⟨n3_size_42, f3_members_42, f3_scores_42⟩ := u
        have hP : va_P D vwCl (pc_X3_spreadBelow cs h0 h0_open h0_row h0_stack h0_taken h0_kin h0_ranking h0_row_levels h0_row_values h0_row_tags h0_row_links h0_row_keys h0_row_living h0_taken_members h0_taken_scores h3 h3_members h3_scores n0_depth b0_wentUp n0_row_size f0_row_levels n0_taken_size f0_taken_scores n3_size_42 f3_members_42 f3_scores_42) H := hP.sub [0, 1, 2, 3, 4, 5, 6, 7] rfl
        have hD : va_D A (pc_X3_spreadBelow cs h0 h0_open h0_row h0_stack h0_taken h0_kin h0_ranking h0_row_levels h0_row_values h0_row_tags h0_row_links h0_row_keys h0_row_living h0_taken_members h0_taken_scores h3 h3_members h3_scores n0_depth b0_wentUp n0_row_size f0_row_levels n0_taken_size f0_taken_scores n3_size_42 f3_members_42 f3_scores_42) := hD.sub [0, 1, 2, 3, 4, 5, 6, 7] (by decide) rfl
        try dsimp only at hw
        exact (hX45 _ _ _ _).mp hw H locs ls hP hD hS (lv_sub hl [0, 1, 2, 3, 4] rfl)
  · intro x4 n3_size f3_members f3_scores hw
    refine (hX45 _ _ _ _).mpr ?_
    intro H locs ls hP hD hS hl
    refine lv_iinc (v := (x4 + 1)) (lv' := [(4, .int (x4 + 1)), (0, .ref h0), (1, .int p1), (2, .int p2), (3, .ref h3)]) F.1 F.2.1 dX3_spreadBelow_45 hl (k := 4) rfl rfl (by decide) rfl (fun ls hl => ?_)
    refine lv_goto (tgt := 10) F.1 F.2.1 dX3_spreadBelow_48 (by decide) ?_
    exact (hX10 _ _ _ _).mp hw H locs ls hP hD hS (lv_sub hl [1, 2, 3, 4, 0] rfl)
  generalize ([] : List Loc) = locs at hS ⊢
  obtain ⟨H, hHe⟩ : ∃ H, H = s.heap := ⟨_, rfl⟩
  have hP : va_P D vwCl (pc_X3_spreadBelow cs h0 h0_open h0_row h0_stack h0_taken h0_kin h0_ranking h0_row_levels h0_row_values h0_row_tags h0_row_links h0_row_keys h0_row_living h0_taken_members h0_taken_scores h3 h3_members h3_scores n0_depth b0_wentUp n0_row_size f0_row_levels n0_taken_size f0_taken_scores n3_size f3_members f3_scores) H := by rw [hHe]; exact hP
  have hS : va_S A s.heap H locs := by rw [hHe]; exact hS
  suffices W p l e rm_X3_spreadBelow s m args below meth c H locs 0 0 Z (F0 m 0 ls []) by rw [hHe] at this; exact this
  refine lv_aload_n F.1 F.2.1 dX3_spreadBelow_0 rfl (lv_at hl 0 rfl) ?_
  refine xi_get (C := RX3) (T := TX3) (N := 8) (v := .ref h0_row) F in_X3_spreadBelow_X3 hK hP 0 rfl rfl 1 (by decide) fl_X3_spreadBelow_20 rfl dX3_spreadBelow_1 ?_
  refine lv_iload_n F.1 F.2.1 dX3_spreadBelow_4 rfl (lv_at hl 1 rfl) ?_
  refine xc_Vi (As := [.int p1]) (rest := []) (m_X1_firstBelow l D cs h0_row h0_row_levels h0_row_values h0_row_tags h0_row_links h0_row_keys h0_row_living 200 (by decide) p1 n0_row_size f0_row_levels _ hw) F (cwV 1 F.2.2.2.2 gX3_spreadBelow_X1_firstBelow rfl rfl rfl (by decide +kernel) ⟨Nat.le_of_ble_eq_true rfl, Nat.le_of_ble_eq_true rfl⟩) hK hP hD hS hA [1, 2] [0, 3, 4, 5, 6, 7] rfl rfl 0 rfl rfl rfl hl.1 rfl (Nat.le_of_ble_eq_true rfl) dX3_spreadBelow_5 ⟨Nat.zero_le _, Nat.zero_le _⟩ (fun r5 u H locs hw hP hD hS => ?_)
  have hP : va_P D vwCl (pc_X3_spreadBelow cs h0 h0_open h0_row h0_stack h0_taken h0_kin h0_ranking h0_row_levels h0_row_values h0_row_tags h0_row_links h0_row_keys h0_row_living h0_taken_members h0_taken_scores h3 h3_members h3_scores n0_depth b0_wentUp n0_row_size f0_row_levels n0_taken_size f0_taken_scores n3_size f3_members f3_scores) H := hP.sub [0, 6, 7, 1, 2, 3, 4, 5] rfl
  have hD : va_D A (pc_X3_spreadBelow cs h0 h0_open h0_row h0_stack h0_taken h0_kin h0_ranking h0_row_levels h0_row_values h0_row_tags h0_row_links h0_row_keys h0_row_living h0_taken_members h0_taken_scores h3 h3_members h3_scores n0_depth b0_wentUp n0_row_size f0_row_levels n0_taken_size f0_taken_scores n3_size f3_members f3_scores) := hD.sub [0, 6, 7, 1, 2, 3, 4, 5] (by decide) rfl
  try dsimp only at hw
  refine lv_istore (lv' := [(4, .int r5), (0, .ref h0), (1, .int p1), (2, .int p2), (3, .ref h3)]) F.1 F.2.1 dX3_spreadBelow_8 hl (by decide) rfl (fun ls hl => ?_)
  exact (hX10 _ _ _ _).mp hw H locs ls hP hD hS (lv_sub hl [1, 2, 3, 4, 0] rfl)

theorem in_X3_spreadToLinked_X3 : ∀ w ∈ wsX30, w ∈ wsX3_spreadToLinked := by decide +kernel
theorem fl_X3_spreadToLinked_20 : Cond.fieldLink RX3 20 "JoinBlocks" "row" "LJoinBlocks$Row;" ∈ wsX3_spreadToLinked := by decide +kernel
theorem in_X3_spreadToLinked_X1 : ∀ w ∈ wsX10, w ∈ wsX3_spreadToLinked := by decide +kernel
theorem fl_X3_spreadToLinked_59 : Cond.fieldLink RX3 59 "JoinBlocks$Row" "size" "I" ∈ wsX3_spreadToLinked := by decide +kernel
theorem fl_X3_spreadToLinked_112 : Cond.fieldLink RX3 112 "JoinBlocks$Row" "living" "[Z" ∈ wsX3_spreadToLinked := by decide +kernel
theorem fl_X3_spreadToLinked_100 : Cond.fieldLink RX3 100 "JoinBlocks$Row" "links" "[I" ∈ wsX3_spreadToLinked := by decide +kernel
theorem fl_X3_spreadToLinked_106 : Cond.fieldLink RX3 106 "JoinBlocks$Row" "keys" "[I" ∈ wsX3_spreadToLinked := by decide +kernel
theorem fl_X3_spreadToLinked_30 : Cond.fieldLink RX3 30 "JoinBlocks" "taken" "LJoinBlocks$ScoredSet;" ∈ wsX3_spreadToLinked := by decide +kernel
theorem in_X3_spreadToLinked_X2 : ∀ w ∈ wsX20, w ∈ wsX3_spreadToLinked := by decide +kernel
theorem fl_X3_spreadToLinked_177 : Cond.fieldLink RX3 177 "JoinBlocks$ScoredSet" "scores" "[J" ∈ wsX3_spreadToLinked := by decide +kernel
abbrev pc_X3_spreadToLinked (cs : Nat → ClassId) (h0 : Nat) (h0_open : Nat) (h0_row : Nat) (h0_stack : Nat) (h0_taken : Nat) (h0_kin : Nat) (h0_ranking : Nat) (h0_row_levels : Nat) (h0_row_values : Nat) (h0_row_tags : Nat) (h0_row_links : Nat) (h0_row_keys : Nat) (h0_row_living : Nat) (h0_taken_members : Nat) (h0_taken_scores : Nat) (h2 : Nat) (h2_members : Nat) (h2_scores : Nat) (n0_depth : Int32) (b0_wentUp : Bool) (n0_row_size : Int32) (f0_row_links : Nat → Int32) (f0_row_keys : Nat → Int32) (f0_row_living : Nat → Bool) (n0_taken_size : Int32) (f0_taken_scores : Nat → Int64) (n2_size : Int32) (f2_members : Nat → Bool) (f2_scores : Nat → Int64) : va_W := [(h0, .inr (3, [.ref h0_open, .ref h0_row, .ref h0_stack, .ref h0_taken, .ref h0_kin, .ref h0_ranking, .int n0_depth, .int (b2i b0_wentUp)])), (h0_row, .inr (1, [.ref h0_row_levels, .ref h0_row_values, .ref h0_row_tags, .ref h0_row_links, .ref h0_row_keys, .ref h0_row_living, .int n0_row_size])), (h0_row_links, .inl (cs 0, 200, .inl f0_row_links)), (h0_row_keys, .inl (cs 0, 200, .inl f0_row_keys)), (h0_row_living, .inl (cs 1, 200, .inl (bF f0_row_living))), (h0_taken, .inr (2, [.ref h0_taken_members, .ref h0_taken_scores, .int n0_taken_size])), (h0_taken_scores, .inl (cs 2, 200, .inr (.inl f0_taken_scores))), (h2, .inr (2, [.ref h2_members, .ref h2_scores, .int n2_size])), (h2_members, .inl (cs 1, 200, .inl (bF f2_members))), (h2_scores, .inl (cs 2, 200, .inr (.inl f2_scores)))]
abbrev rm_X3_spreadToLinked : Room := { frames := 1, cells := 0, slots := 0, locals := 23 }
def call_X3_spreadToLinked (p1 : Int32) (n0_row_size : Int32) (f0_row_links : Nat → Int32) (f0_row_keys : Nat → Int32) (f0_row_living : Nat → Bool) (f0_taken_scores : Nat → Int64) (n2_size : Int32) (f2_members : Nat → Bool) (f2_scores : Nat → Int64) (Q : Int32 → (Nat → Bool) → (Nat → Int64) → Prop) : Prop := ∀ (X2 : Int32 → Int32 → (Nat → Bool) → (Nat → Int64) → Prop) (X60 : Int32 → Int32 → (Nat → Bool) → (Nat → Int64) → Prop),
    (∀ (x3 : Int32) (n2_size : Int32) (f2_members : Nat → Bool) (f2_scores : Nat → Int64),
      ((n0_row_size ≤ x3 → Q n2_size f2_members f2_scores) ∧ (¬ n0_row_size ≤ x3 → (∃ j21 : Nat, j21 < 200 ∧ x3 = nI j21 ∧ (((f0_row_living j21) = false → X60 x3 n2_size f2_members f2_scores) ∧ ((f0_row_living j21) = true → (∃ j33 : Nat, j33 < 200 ∧ x3 = nI j33 ∧ (∃ j42 : Nat, j42 < 200 ∧ p1 = nI j42 ∧ ((¬ (f0_row_links j33) = (f0_row_keys j42) → X60 x3 n2_size f2_members f2_scores) ∧ ((f0_row_links j33) = (f0_row_keys j42) → (∃ j56 : Nat, j56 < 200 ∧ p1 = nI j56 ∧ (call_X2_put x3 (f0_taken_scores j56) n2_size f2_members f2_scores (fun (n2_size_57 : Int32) (f2_members_57 : Nat → Bool) (f2_scores_57 : Nat → Int64) => X60 x3 n2_size_57 f2_members_57 f2_scores_57)))))))))))) → X2 x3 n2_size f2_members f2_scores) →
    (∀ (x3 : Int32) (n2_size : Int32) (f2_members : Nat → Bool) (f2_scores : Nat → Int64),
      X2 (x3 + 1) n2_size f2_members f2_scores → X60 x3 n2_size f2_members f2_scores) →
    X2 0 n2_size f2_members f2_scores
set_option maxHeartbeats 4000000 in
set_option maxRecDepth 100000 in
theorem m_X3_spreadToLinked (l : Launch) (D : va_G) (cs : Nat → ClassId) (h0 : Nat) (h0_open : Nat) (h0_row : Nat) (h0_stack : Nat) (h0_taken : Nat) (h0_kin : Nat) (h0_ranking : Nat) (h0_row_levels : Nat) (h0_row_values : Nat) (h0_row_tags : Nat) (h0_row_links : Nat) (h0_row_keys : Nat) (h0_row_living : Nat) (h0_taken_members : Nat) (h0_taken_scores : Nat) (h2 : Nat) (h2_members : Nat) (h2_scores : Nat)  (p1 : Int32) (n0_depth : Int32) (b0_wentUp : Bool) (n0_row_size : Int32) (f0_row_links : Nat → Int32) (f0_row_keys : Nat → Int32) (f0_row_living : Nat → Bool) (n0_taken_size : Int32) (f0_taken_scores : Nat → Int64) (n2_size : Int32) (f2_members : Nat → Bool) (f2_scores : Nat → Int64) (Q : Int32 → (Nat → Bool) → (Nat → Int64) → Prop) (h : call_X3_spreadToLinked p1 n0_row_size f0_row_links f0_row_keys f0_row_living f0_taken_scores n2_size f2_members f2_scores Q) : CtV l yX3_spreadToLinked wsX3_spreadToLinked rm_X3_spreadToLinked D cs [.ref h0, .int p1, .ref h2] (pc_X3_spreadToLinked cs h0 h0_open h0_row h0_stack h0_taken h0_kin h0_ranking h0_row_levels h0_row_values h0_row_tags h0_row_links h0_row_keys h0_row_living h0_taken_members h0_taken_scores h2 h2_members h2_scores n0_depth b0_wentUp n0_row_size f0_row_links f0_row_keys f0_row_living n0_taken_size f0_taken_scores n2_size f2_members f2_scores) (fun u : Int32 × (Nat → Bool) × (Nat → Int64) => (pc_X3_spreadToLinked cs h0 h0_open h0_row h0_stack h0_taken h0_kin h0_ranking h0_row_levels h0_row_values h0_row_tags h0_row_links h0_row_keys h0_row_living h0_taken_members h0_taken_scores h2 h2_members h2_scores n0_depth b0_wentUp n0_row_size f0_row_links f0_row_keys f0_row_living n0_taken_size f0_taken_scores u.1 u.2.1 u.2.2)) 0 0 (fun u => Q u.1 u.2.1 u.2.2) := by
  refine xo_V (S := Int32 × (Nat → Bool) × (Nat → Int64)) (cc := cX3_spreadToLinked) (maxL := 4) (own := RX3) (lv0 := [(0, .ref h0), (1, .int p1), (2, .ref h2)]) (by decide) rfl rfl (Nat.le_of_ble_eq_true rfl) rfl ?_
  intro p e s m args below meth c A Z ls hnm F hK hA hP hD hS hl RET
  unfold call_X3_spreadToLinked at h
  obtain ⟨X2, hX2⟩ : ∃ X : Int32 → Int32 → (Nat → Bool) → (Nat → Int64) → Prop, ∀ (x3 : Int32) (n2_size : Int32) (f2_members : Nat → Bool) (f2_scores : Nat → Int64), (X x3 n2_size f2_members f2_scores ↔ ∀ (H : Heap) (locs : List Loc) (ls : Array Slot), va_P D vwCl (pc_X3_spreadToLinked cs h0 h0_open h0_row h0_stack h0_taken h0_kin h0_ranking h0_row_levels h0_row_values h0_row_tags h0_row_links h0_row_keys h0_row_living h0_taken_members h0_taken_scores h2 h2_members h2_scores n0_depth b0_wentUp n0_row_size f0_row_links f0_row_keys f0_row_living n0_taken_size f0_taken_scores n2_size f2_members f2_scores) H → va_D A (pc_X3_spreadToLinked cs h0 h0_open h0_row h0_stack h0_taken h0_kin h0_ranking h0_row_levels h0_row_values h0_row_tags h0_row_links h0_row_keys h0_row_living h0_taken_members h0_taken_scores h2 h2_members h2_scores n0_depth b0_wentUp n0_row_size f0_row_links f0_row_keys f0_row_living n0_taken_size f0_taken_scores n2_size f2_members f2_scores) → va_S A s.heap H locs → lv_has ls 4 [(0, .ref h0), (1, .int p1), (2, .ref h2), (3, .int x3)] → W p l e rm_X3_spreadToLinked s m args below meth c H locs 0 0 Z (F0 m 2 ls [])) := ⟨_, fun _ _ _ _ => Iff.rfl⟩
  obtain ⟨X60, hX60⟩ : ∃ X : Int32 → Int32 → (Nat → Bool) → (Nat → Int64) → Prop, ∀ (x3 : Int32) (n2_size : Int32) (f2_members : Nat → Bool) (f2_scores : Nat → Int64), (X x3 n2_size f2_members f2_scores ↔ ∀ (H : Heap) (locs : List Loc) (ls : Array Slot), va_P D vwCl (pc_X3_spreadToLinked cs h0 h0_open h0_row h0_stack h0_taken h0_kin h0_ranking h0_row_levels h0_row_values h0_row_tags h0_row_links h0_row_keys h0_row_living h0_taken_members h0_taken_scores h2 h2_members h2_scores n0_depth b0_wentUp n0_row_size f0_row_links f0_row_keys f0_row_living n0_taken_size f0_taken_scores n2_size f2_members f2_scores) H → va_D A (pc_X3_spreadToLinked cs h0 h0_open h0_row h0_stack h0_taken h0_kin h0_ranking h0_row_levels h0_row_values h0_row_tags h0_row_links h0_row_keys h0_row_living h0_taken_members h0_taken_scores h2 h2_members h2_scores n0_depth b0_wentUp n0_row_size f0_row_links f0_row_keys f0_row_living n0_taken_size f0_taken_scores n2_size f2_members f2_scores) → va_S A s.heap H locs → lv_has ls 4 [(0, .ref h0), (1, .int p1), (2, .ref h2), (3, .int x3)] → W p l e rm_X3_spreadToLinked s m args below meth c H locs 0 0 Z (F0 m 60 ls [])) := ⟨_, fun _ _ _ _ => Iff.rfl⟩
  refine xt_cut (h X2 X60 ?_ ?_) (fun hw => ?_)
  · intro x3 n2_size f2_members f2_scores hw
    refine (hX2 _ _ _ _).mpr ?_
    intro H locs ls hP hD hS hl
    refine lv_iload_n F.1 F.2.1 dX3_spreadToLinked_2 rfl (lv_at hl 3 rfl) ?_
    refine lv_aload_n F.1 F.2.1 dX3_spreadToLinked_3 rfl (lv_at hl 0 rfl) ?_
    refine xi_get (C := RX3) (T := TX3) (N := 8) (v := .ref h0_row) F in_X3_spreadToLinked_X3 hK hP 0 rfl rfl 1 (by decide) fl_X3_spreadToLinked_20 rfl dX3_spreadToLinked_4 ?_
    refine xi_get (C := RX1) (T := TX1) (N := 7) (v := .int n0_row_size) F in_X3_spreadToLinked_X1 hK hP 1 rfl rfl 6 (by decide) fl_X3_spreadToLinked_59 rfl dX3_spreadToLinked_7 ?_
    refine lv_icmp_ge (tgt := 66) F.1 F.2.1 dX3_spreadToLinked_10 (by decide) (fun hc => ?_) (fun hc => ?_)
    · have hw := hw.1 hc
      exact RET (n2_size, f2_members, f2_scores) H locs 66 ls hw hP hD hS dX3_spreadToLinked_66
    · have hw := hw.2 hc
      refine lv_aload_n F.1 F.2.1 dX3_spreadToLinked_13 rfl (lv_at hl 0 rfl) ?_
      refine xi_get (C := RX3) (T := TX3) (N := 8) (v := .ref h0_row) F in_X3_spreadToLinked_X3 hK hP 0 rfl rfl 1 (by decide) fl_X3_spreadToLinked_20 rfl dX3_spreadToLinked_14 ?_
      refine xi_get (C := RX1) (T := TX1) (N := 7) (v := .ref h0_row_living) F in_X3_spreadToLinked_X1 hK hP 1 rfl rfl 5 (by decide) fl_X3_spreadToLinked_112 rfl dX3_spreadToLinked_17 ?_
      refine lv_iload_n F.1 F.2.1 dX3_spreadToLinked_20 rfl (lv_at hl 3 rfl) ?_
      obtain ⟨j21, hj, he, hw⟩ := hw
      refine xi_zald (j := j21) F hK hP 4 rfl (by decide) hj he dX3_spreadToLinked_21 ?_
      refine xi_ifeqz (tgt := 60) F dX3_spreadToLinked_22 (by decide) (fun hc => ?_) (fun hc => ?_)
      · have hw := hw.1 hc
        exact (hX60 _ _ _ _).mp hw H locs ls hP hD hS (lv_sub hl [0, 1, 2, 3] rfl)
      · have hw := hw.2 hc
        refine lv_aload_n F.1 F.2.1 dX3_spreadToLinked_25 rfl (lv_at hl 0 rfl) ?_
        refine xi_get (C := RX3) (T := TX3) (N := 8) (v := .ref h0_row) F in_X3_spreadToLinked_X3 hK hP 0 rfl rfl 1 (by decide) fl_X3_spreadToLinked_20 rfl dX3_spreadToLinked_26 ?_
        refine xi_get (C := RX1) (T := TX1) (N := 7) (v := .ref h0_row_links) F in_X3_spreadToLinked_X1 hK hP 1 rfl rfl 3 (by decide) fl_X3_spreadToLinked_100 rfl dX3_spreadToLinked_29 ?_
        refine lv_iload_n F.1 F.2.1 dX3_spreadToLinked_32 rfl (lv_at hl 3 rfl) ?_
        obtain ⟨j33, hj, he, hw⟩ := hw
        refine xi_iald (j := j33) F hK hP 2 rfl (by decide) hj he dX3_spreadToLinked_33 ?_
        refine lv_aload_n F.1 F.2.1 dX3_spreadToLinked_34 rfl (lv_at hl 0 rfl) ?_
        refine xi_get (C := RX3) (T := TX3) (N := 8) (v := .ref h0_row) F in_X3_spreadToLinked_X3 hK hP 0 rfl rfl 1 (by decide) fl_X3_spreadToLinked_20 rfl dX3_spreadToLinked_35 ?_
        refine xi_get (C := RX1) (T := TX1) (N := 7) (v := .ref h0_row_keys) F in_X3_spreadToLinked_X1 hK hP 1 rfl rfl 4 (by decide) fl_X3_spreadToLinked_106 rfl dX3_spreadToLinked_38 ?_
        refine lv_iload_n F.1 F.2.1 dX3_spreadToLinked_41 rfl (lv_at hl 1 rfl) ?_
        obtain ⟨j42, hj, he, hw⟩ := hw
        refine xi_iald (j := j42) F hK hP 3 rfl (by decide) hj he dX3_spreadToLinked_42 ?_
        refine lv_icmp_ne (tgt := 60) F.1 F.2.1 dX3_spreadToLinked_43 (by decide) (fun hc => ?_) (fun hc => ?_)
        · have hw := hw.1 hc
          exact (hX60 _ _ _ _).mp hw H locs ls hP hD hS (lv_sub hl [0, 1, 2, 3] rfl)
        · have hw := hw.2 hc
          refine lv_aload_n F.1 F.2.1 dX3_spreadToLinked_46 rfl (lv_at hl 2 rfl) ?_
          refine lv_iload_n F.1 F.2.1 dX3_spreadToLinked_47 rfl (lv_at hl 3 rfl) ?_
          refine lv_aload_n F.1 F.2.1 dX3_spreadToLinked_48 rfl (lv_at hl 0 rfl) ?_
          refine xi_get (C := RX3) (T := TX3) (N := 8) (v := .ref h0_taken) F in_X3_spreadToLinked_X3 hK hP 0 rfl rfl 3 (by decide) fl_X3_spreadToLinked_30 rfl dX3_spreadToLinked_49 ?_
          refine xi_get (C := RX2) (T := TX2) (N := 3) (v := .ref h0_taken_scores) F in_X3_spreadToLinked_X2 hK hP 5 rfl rfl 1 (by decide) fl_X3_spreadToLinked_177 rfl dX3_spreadToLinked_52 ?_
          refine lv_iload_n F.1 F.2.1 dX3_spreadToLinked_55 rfl (lv_at hl 1 rfl) ?_
          obtain ⟨j56, hj, he, hw⟩ := hw
          refine xi_lald (j := j56) F hK hP 6 rfl (by decide) hj he dX3_spreadToLinked_56 ?_
          refine xc_Vv (As := [.int x3, .long (f0_taken_scores j56)]) (rest := []) (m_X2_put l D cs h2 h2_members h2_scores x3 (f0_taken_scores j56) n2_size f2_members f2_scores _ hw) F (cwV 2 F.2.2.2.2 gX3_spreadToLinked_X2_put rfl rfl rfl (by decide +kernel) ⟨Nat.le_of_ble_eq_true rfl, Nat.le_of_ble_eq_true rfl⟩) hK hP hD hS hA [7, 8, 9] [0, 1, 2, 3, 4, 5, 6] rfl rfl 0 rfl rfl rfl hl.1 rfl (Nat.le_of_ble_eq_true rfl) dX3_spreadToLinked_57 ⟨Nat.zero_le _, Nat.zero_le _⟩ (fun u H locs hw hP hD hS => ?_)
          obtain ⟨n2_size_57, f2_members_57, f2_scores_57⟩ := u
          have hP : va_P D vwCl (pc_X3_spreadToLinked cs h0 h0_open h0_row h0_stack h0_taken h0_kin h0_ranking h0_row_levels h0_row_values h0_row_tags h0_row_links h0_row_keys h0_row_living h0_taken_members h0_taken_scores h2 h2_members h2_scores n0_depth b0_wentUp n0_row_size f0_row_links f0_row_keys f0_row_living n0_taken_size f0_taken_scores n2_size_57 f2_members_57 f2_scores_57) H := hP.sub [0, 1, 2, 3, 4, 5, 6, 7, 8, 9] rfl
          have hD : va_D A (pc_X3_spreadToLinked cs h0 h0_open h0_row h0_stack h0_taken h0_kin h0_ranking h0_row_levels h0_row_values h0_row_tags h0_row_links h0_row_keys h0_row_living h0_taken_members h0_taken_scores h2 h2_members h2_scores n0_depth b0_wentUp n0_row_size f0_row_links f0_row_keys f0_row_living n0_taken_size f0_taken_scores n2_size_57 f2_members_57 f2_scores_57) := hD.sub [0, 1, 2, 3, 4, 5, 6, 7, 8, 9] (by decide) rfl
          try dsimp only at hw
          exact (hX60 _ _ _ _).mp hw H locs ls hP hD hS (lv_sub hl [0, 1, 2, 3] rfl)
  · intro x3 n2_size f2_members f2_scores hw
    refine (hX60 _ _ _ _).mpr ?_
    intro H locs ls hP hD hS hl
    refine lv_iinc (v := (x3 + 1)) (lv' := [(3, .int (x3 + 1)), (0, .ref h0), (1, .int p1), (2, .ref h2)]) F.1 F.2.1 dX3_spreadToLinked_60 hl (k := 3) rfl rfl (by decide) rfl (fun ls hl => ?_)
    refine lv_goto (tgt := 2) F.1 F.2.1 dX3_spreadToLinked_63 (by decide) ?_
    exact (hX2 _ _ _ _).mp hw H locs ls hP hD hS (lv_sub hl [1, 2, 3, 0] rfl)
  generalize ([] : List Loc) = locs at hS ⊢
  obtain ⟨H, hHe⟩ : ∃ H, H = s.heap := ⟨_, rfl⟩
  have hP : va_P D vwCl (pc_X3_spreadToLinked cs h0 h0_open h0_row h0_stack h0_taken h0_kin h0_ranking h0_row_levels h0_row_values h0_row_tags h0_row_links h0_row_keys h0_row_living h0_taken_members h0_taken_scores h2 h2_members h2_scores n0_depth b0_wentUp n0_row_size f0_row_links f0_row_keys f0_row_living n0_taken_size f0_taken_scores n2_size f2_members f2_scores) H := by rw [hHe]; exact hP
  have hS : va_S A s.heap H locs := by rw [hHe]; exact hS
  suffices W p l e rm_X3_spreadToLinked s m args below meth c H locs 0 0 Z (F0 m 0 ls []) by rw [hHe] at this; exact this
  refine lv_iconst (v := 0) F.1 F.2.1 dX3_spreadToLinked_0 (by decide) ?_
  refine lv_istore_n (lv' := [(3, .int 0), (0, .ref h0), (1, .int p1), (2, .ref h2)]) F.1 F.2.1 dX3_spreadToLinked_1 rfl hl (by decide) rfl (fun ls hl => ?_)
  exact (hX2 _ _ _ _).mp hw H locs ls hP hD hS (lv_sub hl [1, 2, 3, 0] rfl)

theorem in_X3_answerRanked_X3 : ∀ w ∈ wsX30, w ∈ wsX3_answerRanked := by decide +kernel
theorem fl_X3_answerRanked_40 : Cond.fieldLink RX3 40 "JoinBlocks" "ranking" "LJoinBlocks$Ranking;" ∈ wsX3_answerRanked := by decide +kernel
theorem in_X3_answerRanked_X0 : ∀ w ∈ wsX00, w ∈ wsX3_answerRanked := by decide +kernel
theorem fl_X3_answerRanked_214 : Cond.fieldLink RX3 214 "JoinBlocks$Ranking" "size" "I" ∈ wsX3_answerRanked := by decide +kernel
theorem fl_X3_answerRanked_215 : Cond.fieldLink RX3 215 "JoinBlocks$Ranking" "numbers" "[I" ∈ wsX3_answerRanked := by decide +kernel
abbrev pc_X3_answerRanked (cs : Nat → ClassId) (h0 : Nat) (h0_open : Nat) (h0_row : Nat) (h0_stack : Nat) (h0_taken : Nat) (h0_kin : Nat) (h0_ranking : Nat) (h0_ranking_numbers : Nat) (h0_ranking_merged : Nat) (n0_depth : Int32) (b0_wentUp : Bool) (n0_ranking_size : Int32) (f0_ranking_numbers : Nat → Int32) : va_W := [(h0, .inr (3, [.ref h0_open, .ref h0_row, .ref h0_stack, .ref h0_taken, .ref h0_kin, .ref h0_ranking, .int n0_depth, .int (b2i b0_wentUp)])), (h0_ranking, .inr (0, [.ref h0_ranking_numbers, .ref h0_ranking_merged, .int n0_ranking_size])), (h0_ranking_numbers, .inl (cs 0, 200, .inl f0_ranking_numbers))]
abbrev rm_X3_answerRanked : Room := { frames := 0, cells := 0, slots := 0, locals := 0 }
def call_X3_answerRanked (p1 : Int32) (n0_ranking_size : Int32) (f0_ranking_numbers : Nat → Int32) (Q : Int32 → Prop) : Prop := ∀ (X40 : Prop) (X41 : Int32 → Prop),
    (X41 (-1) → X40) →
    (∀ (s0 : Int32),
      Q s0 → X41 s0) →
    ((¬ p1 = (-1) → ((p1 < 0 → X40) ∧ (¬ p1 < 0 → ((n0_ranking_size ≤ p1 → X40) ∧ (¬ n0_ranking_size ≤ p1 → (∃ j36 : Nat, j36 < 200 ∧ p1 = nI j36 ∧ X41 (f0_ranking_numbers j36))))))) ∧ (p1 = (-1) → Q n0_ranking_size))
set_option maxHeartbeats 4000000 in
set_option maxRecDepth 100000 in
theorem m_X3_answerRanked (l : Launch) (D : va_G) (cs : Nat → ClassId) (h0 : Nat) (h0_open : Nat) (h0_row : Nat) (h0_stack : Nat) (h0_taken : Nat) (h0_kin : Nat) (h0_ranking : Nat) (h0_ranking_numbers : Nat) (h0_ranking_merged : Nat)  (p1 : Int32) (n0_depth : Int32) (b0_wentUp : Bool) (n0_ranking_size : Int32) (f0_ranking_numbers : Nat → Int32) (Q : Int32 → Prop) (h : call_X3_answerRanked p1 n0_ranking_size f0_ranking_numbers Q) : CtI l yX3_answerRanked wsX3_answerRanked rm_X3_answerRanked D cs [.ref h0, .int p1] (pc_X3_answerRanked cs h0 h0_open h0_row h0_stack h0_taken h0_kin h0_ranking h0_ranking_numbers h0_ranking_merged n0_depth b0_wentUp n0_ranking_size f0_ranking_numbers) (fun u : Unit => (pc_X3_answerRanked cs h0 h0_open h0_row h0_stack h0_taken h0_kin h0_ranking h0_ranking_numbers h0_ranking_merged n0_depth b0_wentUp n0_ranking_size f0_ranking_numbers)) (fun r u => Q r ) := by
  refine xo_I (S := Unit) (cc := cX3_answerRanked) (maxL := 2) (own := RX3) (lv0 := [(0, .ref h0), (1, .int p1)]) (by decide) rfl rfl (Nat.le_of_ble_eq_true rfl) rfl ?_
  intro p e s m args below meth c A Z ls F hK hA hP hD hS hl RET
  unfold call_X3_answerRanked at h
  obtain ⟨X40, hX40⟩ : ∃ X : Prop, (X  ↔ ∀ (H : Heap) (locs : List Loc) (ls : Array Slot), va_P D vwCl (pc_X3_answerRanked cs h0 h0_open h0_row h0_stack h0_taken h0_kin h0_ranking h0_ranking_numbers h0_ranking_merged n0_depth b0_wentUp n0_ranking_size f0_ranking_numbers) H → va_D A (pc_X3_answerRanked cs h0 h0_open h0_row h0_stack h0_taken h0_kin h0_ranking h0_ranking_numbers h0_ranking_merged n0_depth b0_wentUp n0_ranking_size f0_ranking_numbers) → va_S A s.heap H locs → lv_has ls 2 [] → W p l e rm_X3_answerRanked s m args below meth c H locs 0 0 Z (F0 m 40 ls [])) := ⟨_, Iff.rfl⟩
  obtain ⟨X41, hX41⟩ : ∃ X : Int32 → Prop, ∀ (s0 : Int32), (X s0 ↔ ∀ (H : Heap) (locs : List Loc) (ls : Array Slot), va_P D vwCl (pc_X3_answerRanked cs h0 h0_open h0_row h0_stack h0_taken h0_kin h0_ranking h0_ranking_numbers h0_ranking_merged n0_depth b0_wentUp n0_ranking_size f0_ranking_numbers) H → va_D A (pc_X3_answerRanked cs h0 h0_open h0_row h0_stack h0_taken h0_kin h0_ranking h0_ranking_numbers h0_ranking_merged n0_depth b0_wentUp n0_ranking_size f0_ranking_numbers) → va_S A s.heap H locs → lv_has ls 2 [] → W p l e rm_X3_answerRanked s m args below meth c H locs 0 0 Z (F0 m 41 ls [.int s0])) := ⟨_, fun _ => Iff.rfl⟩
  refine xt_cut (h X40 X41 ?_ ?_) (fun hw => ?_)
  · intro  hw
    refine (hX40).mpr ?_
    intro H locs ls hP hD hS hl
    refine lv_iconst (v := (-1)) F.1 F.2.1 dX3_answerRanked_40 (by decide) ?_
    exact (hX41 _).mp hw H locs ls hP hD hS (lv_sub hl [] rfl)
  · intro s0 hw
    refine (hX41 _).mpr ?_
    intro H locs ls hP hD hS hl
    exact RET s0 () H locs 41 ls hw hP hD hS dX3_answerRanked_41
  generalize ([] : List Loc) = locs at hS ⊢
  obtain ⟨H, hHe⟩ : ∃ H, H = s.heap := ⟨_, rfl⟩
  have hP : va_P D vwCl (pc_X3_answerRanked cs h0 h0_open h0_row h0_stack h0_taken h0_kin h0_ranking h0_ranking_numbers h0_ranking_merged n0_depth b0_wentUp n0_ranking_size f0_ranking_numbers) H := by rw [hHe]; exact hP
  have hS : va_S A s.heap H locs := by rw [hHe]; exact hS
  suffices W p l e rm_X3_answerRanked s m args below meth c H locs 0 0 Z (F0 m 0 ls []) by rw [hHe] at this; exact this
  refine lv_iload_n F.1 F.2.1 dX3_answerRanked_0 rfl (lv_at hl 1 rfl) ?_
  refine lv_iconst (v := (-1)) F.1 F.2.1 dX3_answerRanked_1 (by decide) ?_
  refine lv_icmp_ne (tgt := 13) F.1 F.2.1 dX3_answerRanked_2 (by decide) (fun hc => ?_) (fun hc => ?_)
  · have hw := hw.1 hc
    refine lv_iload_n F.1 F.2.1 dX3_answerRanked_13 rfl (lv_at hl 1 rfl) ?_
    refine lv_if_lt (tgt := 40) F.1 F.2.1 dX3_answerRanked_14 (by decide) (fun hc => ?_) (fun hc => ?_)
    · have hw := hw.1 hc
      exact (hX40).mp hw H locs ls hP hD hS (lv_sub hl [] rfl)
    · have hw := hw.2 hc
      refine lv_iload_n F.1 F.2.1 dX3_answerRanked_17 rfl (lv_at hl 1 rfl) ?_
      refine lv_aload_n F.1 F.2.1 dX3_answerRanked_18 rfl (lv_at hl 0 rfl) ?_
      refine xi_get (C := RX3) (T := TX3) (N := 8) (v := .ref h0_ranking) F in_X3_answerRanked_X3 hK hP 0 rfl rfl 5 (by decide) fl_X3_answerRanked_40 rfl dX3_answerRanked_19 ?_
      refine xi_get (C := RX0) (T := TX0) (N := 3) (v := .int n0_ranking_size) F in_X3_answerRanked_X0 hK hP 1 rfl rfl 2 (by decide) fl_X3_answerRanked_214 rfl dX3_answerRanked_22 ?_
      refine lv_icmp_ge (tgt := 40) F.1 F.2.1 dX3_answerRanked_25 (by decide) (fun hc => ?_) (fun hc => ?_)
      · have hw := hw.1 hc
        exact (hX40).mp hw H locs ls hP hD hS (lv_sub hl [] rfl)
      · have hw := hw.2 hc
        refine lv_aload_n F.1 F.2.1 dX3_answerRanked_28 rfl (lv_at hl 0 rfl) ?_
        refine xi_get (C := RX3) (T := TX3) (N := 8) (v := .ref h0_ranking) F in_X3_answerRanked_X3 hK hP 0 rfl rfl 5 (by decide) fl_X3_answerRanked_40 rfl dX3_answerRanked_29 ?_
        refine xi_get (C := RX0) (T := TX0) (N := 3) (v := .ref h0_ranking_numbers) F in_X3_answerRanked_X0 hK hP 1 rfl rfl 0 (by decide) fl_X3_answerRanked_215 rfl dX3_answerRanked_32 ?_
        refine lv_iload_n F.1 F.2.1 dX3_answerRanked_35 rfl (lv_at hl 1 rfl) ?_
        obtain ⟨j36, hj, he, hw⟩ := hw
        refine xi_iald (j := j36) F hK hP 2 rfl (by decide) hj he dX3_answerRanked_36 ?_
        refine lv_goto (tgt := 41) F.1 F.2.1 dX3_answerRanked_37 (by decide) ?_
        exact (hX41 _).mp hw H locs ls hP hD hS (lv_sub hl [] rfl)
  · have hw := hw.2 hc
    refine lv_aload_n F.1 F.2.1 dX3_answerRanked_5 rfl (lv_at hl 0 rfl) ?_
    refine xi_get (C := RX3) (T := TX3) (N := 8) (v := .ref h0_ranking) F in_X3_answerRanked_X3 hK hP 0 rfl rfl 5 (by decide) fl_X3_answerRanked_40 rfl dX3_answerRanked_6 ?_
    refine xi_get (C := RX0) (T := TX0) (N := 3) (v := .int n0_ranking_size) F in_X3_answerRanked_X0 hK hP 1 rfl rfl 2 (by decide) fl_X3_answerRanked_214 rfl dX3_answerRanked_9 ?_
    exact RET n0_ranking_size () H locs 12 ls hw hP hD hS dX3_answerRanked_12

theorem in_X3_child_X3 : ∀ w ∈ wsX30, w ∈ wsX3_child := by decide +kernel
theorem fl_X3_child_16 : Cond.fieldLink RX3 16 "JoinBlocks" "open" "LJoinBlocks$Row;" ∈ wsX3_child := by decide +kernel
theorem in_X3_child_X1 : ∀ w ∈ wsX10, w ∈ wsX3_child := by decide +kernel
theorem fl_X3_child_59 : Cond.fieldLink RX3 59 "JoinBlocks$Row" "size" "I" ∈ wsX3_child := by decide +kernel
abbrev pc_X3_child (cs : Nat → ClassId) (h0 : Nat) (h0_open : Nat) (h0_row : Nat) (h0_stack : Nat) (h0_taken : Nat) (h0_kin : Nat) (h0_ranking : Nat) (h0_open_levels : Nat) (h0_open_values : Nat) (h0_open_tags : Nat) (h0_open_links : Nat) (h0_open_keys : Nat) (h0_open_living : Nat) (n0_depth : Int32) (b0_wentUp : Bool) (n0_open_size : Int32) (f0_open_levels : Nat → Int32) (f0_open_values : Nat → Int32) (f0_open_tags : Nat → Int32) (f0_open_links : Nat → Int32) (f0_open_keys : Nat → Int32) (f0_open_living : Nat → Bool) : va_W := [(h0, .inr (3, [.ref h0_open, .ref h0_row, .ref h0_stack, .ref h0_taken, .ref h0_kin, .ref h0_ranking, .int n0_depth, .int (b2i b0_wentUp)])), (h0_open, .inr (1, [.ref h0_open_levels, .ref h0_open_values, .ref h0_open_tags, .ref h0_open_links, .ref h0_open_keys, .ref h0_open_living, .int n0_open_size])), (h0_open_levels, .inl (cs 0, 60, .inl f0_open_levels)), (h0_open_values, .inl (cs 0, 60, .inl f0_open_values)), (h0_open_tags, .inl (cs 0, 60, .inl f0_open_tags)), (h0_open_links, .inl (cs 0, 60, .inl f0_open_links)), (h0_open_keys, .inl (cs 0, 60, .inl f0_open_keys)), (h0_open_living, .inl (cs 1, 60, .inl (bF f0_open_living)))]
abbrev rm_X3_child : Room := { frames := 3, cells := 0, slots := 0, locals := 64 }
def call_X3_child (p1 : Int32) (p2 : Int32) (p3 : Int32) (p4 : Int32) (n0_open_size : Int32) (f0_open_levels : Nat → Int32) (f0_open_values : Nat → Int32) (f0_open_tags : Nat → Int32) (f0_open_links : Nat → Int32) (f0_open_keys : Nat → Int32) (f0_open_living : Nat → Bool) (Q : Int32 → Int32 → (Nat → Int32) → (Nat → Int32) → (Nat → Int32) → (Nat → Int32) → (Nat → Int32) → (Nat → Bool) → Prop) : Prop := ∀ (X19 : Int32 → (Nat → Int32) → (Nat → Int32) → (Nat → Int32) → (Nat → Int32) → (Nat → Int32) → (Nat → Bool) → Prop),
    (∀ (n0_open_size : Int32) (f0_open_levels : Nat → Int32) (f0_open_values : Nat → Int32) (f0_open_tags : Nat → Int32) (f0_open_links : Nat → Int32) (f0_open_keys : Nat → Int32) (f0_open_living : Nat → Bool),
      Q (-2) n0_open_size f0_open_levels f0_open_values f0_open_tags f0_open_links f0_open_keys f0_open_living → X19 n0_open_size f0_open_levels f0_open_values f0_open_tags f0_open_links f0_open_keys f0_open_living) →
    (call_X3_isWithin p1 0 1 (fun (r3 : Bool) => ((r3 = false → X19 n0_open_size f0_open_levels f0_open_values f0_open_tags f0_open_links f0_open_keys f0_open_living) ∧ (r3 = true → (call_X3_areTold p2 p3 p4 (fun (r13 : Bool) => ((r13 = true → ((n0_open_size < 60 → (call_X1_append 60 p1 p2 p3 p4 (-1) n0_open_size f0_open_levels f0_open_values f0_open_tags f0_open_links f0_open_keys f0_open_living (fun (n0_open_size_47 : Int32) (f0_open_levels_47 : Nat → Int32) (f0_open_values_47 : Nat → Int32) (f0_open_tags_47 : Nat → Int32) (f0_open_links_47 : Nat → Int32) (f0_open_keys_47 : Nat → Int32) (f0_open_living_47 : Nat → Bool) => Q n0_open_size_47 n0_open_size_47 f0_open_levels_47 f0_open_values_47 f0_open_tags_47 f0_open_links_47 f0_open_keys_47 f0_open_living_47))) ∧ (¬ n0_open_size < 60 → Q (-4) n0_open_size f0_open_levels f0_open_values f0_open_tags f0_open_links f0_open_keys f0_open_living))) ∧ (r13 = false → X19 n0_open_size f0_open_levels f0_open_values f0_open_tags f0_open_links f0_open_keys f0_open_living))))))))
set_option maxHeartbeats 4000000 in
set_option maxRecDepth 100000 in
theorem m_X3_child (l : Launch) (D : va_G) (cs : Nat → ClassId) (h0 : Nat) (h0_open : Nat) (h0_row : Nat) (h0_stack : Nat) (h0_taken : Nat) (h0_kin : Nat) (h0_ranking : Nat) (h0_open_levels : Nat) (h0_open_values : Nat) (h0_open_tags : Nat) (h0_open_links : Nat) (h0_open_keys : Nat) (h0_open_living : Nat)  (p1 : Int32) (p2 : Int32) (p3 : Int32) (p4 : Int32) (n0_depth : Int32) (b0_wentUp : Bool) (n0_open_size : Int32) (f0_open_levels : Nat → Int32) (f0_open_values : Nat → Int32) (f0_open_tags : Nat → Int32) (f0_open_links : Nat → Int32) (f0_open_keys : Nat → Int32) (f0_open_living : Nat → Bool) (Q : Int32 → Int32 → (Nat → Int32) → (Nat → Int32) → (Nat → Int32) → (Nat → Int32) → (Nat → Int32) → (Nat → Bool) → Prop) (h : call_X3_child p1 p2 p3 p4 n0_open_size f0_open_levels f0_open_values f0_open_tags f0_open_links f0_open_keys f0_open_living Q) : CtI l yX3_child wsX3_child rm_X3_child D cs [.ref h0, .int p1, .int p2, .int p3, .int p4] (pc_X3_child cs h0 h0_open h0_row h0_stack h0_taken h0_kin h0_ranking h0_open_levels h0_open_values h0_open_tags h0_open_links h0_open_keys h0_open_living n0_depth b0_wentUp n0_open_size f0_open_levels f0_open_values f0_open_tags f0_open_links f0_open_keys f0_open_living) (fun u : Int32 × (Nat → Int32) × (Nat → Int32) × (Nat → Int32) × (Nat → Int32) × (Nat → Int32) × (Nat → Bool) => (pc_X3_child cs h0 h0_open h0_row h0_stack h0_taken h0_kin h0_ranking h0_open_levels h0_open_values h0_open_tags h0_open_links h0_open_keys h0_open_living n0_depth b0_wentUp u.1 u.2.1 u.2.2.1 u.2.2.2.1 u.2.2.2.2.1 u.2.2.2.2.2.1 u.2.2.2.2.2.2)) (fun r u => Q r u.1 u.2.1 u.2.2.1 u.2.2.2.1 u.2.2.2.2.1 u.2.2.2.2.2.1 u.2.2.2.2.2.2) := by
  refine xo_I (S := Int32 × (Nat → Int32) × (Nat → Int32) × (Nat → Int32) × (Nat → Int32) × (Nat → Int32) × (Nat → Bool)) (cc := cX3_child) (maxL := 5) (own := RX3) (lv0 := [(0, .ref h0), (1, .int p1), (2, .int p2), (3, .int p3), (4, .int p4)]) (by decide) rfl rfl (Nat.le_of_ble_eq_true rfl) rfl ?_
  intro p e s m args below meth c A Z ls F hK hA hP hD hS hl RET
  unfold call_X3_child at h
  obtain ⟨X19, hX19⟩ : ∃ X : Int32 → (Nat → Int32) → (Nat → Int32) → (Nat → Int32) → (Nat → Int32) → (Nat → Int32) → (Nat → Bool) → Prop, ∀ (n0_open_size : Int32) (f0_open_levels : Nat → Int32) (f0_open_values : Nat → Int32) (f0_open_tags : Nat → Int32) (f0_open_links : Nat → Int32) (f0_open_keys : Nat → Int32) (f0_open_living : Nat → Bool), (X n0_open_size f0_open_levels f0_open_values f0_open_tags f0_open_links f0_open_keys f0_open_living ↔ ∀ (H : Heap) (locs : List Loc) (ls : Array Slot), va_P D vwCl (pc_X3_child cs h0 h0_open h0_row h0_stack h0_taken h0_kin h0_ranking h0_open_levels h0_open_values h0_open_tags h0_open_links h0_open_keys h0_open_living n0_depth b0_wentUp n0_open_size f0_open_levels f0_open_values f0_open_tags f0_open_links f0_open_keys f0_open_living) H → va_D A (pc_X3_child cs h0 h0_open h0_row h0_stack h0_taken h0_kin h0_ranking h0_open_levels h0_open_values h0_open_tags h0_open_links h0_open_keys h0_open_living n0_depth b0_wentUp n0_open_size f0_open_levels f0_open_values f0_open_tags f0_open_links f0_open_keys f0_open_living) → va_S A s.heap H locs → lv_has ls 5 [] → W p l e rm_X3_child s m args below meth c H locs 0 0 Z (F0 m 19 ls [])) := ⟨_, fun _ _ _ _ _ _ _ => Iff.rfl⟩
  refine xt_cut (h X19 ?_) (fun hw => ?_)
  · intro n0_open_size f0_open_levels f0_open_values f0_open_tags f0_open_links f0_open_keys f0_open_living hw
    refine (hX19 _ _ _ _ _ _ _).mpr ?_
    intro H locs ls hP hD hS hl
    refine lv_bipush (v := (-2)) F.1 F.2.1 dX3_child_19 (by decide) ?_
    exact RET (-2) (n0_open_size, f0_open_levels, f0_open_values, f0_open_tags, f0_open_links, f0_open_keys, f0_open_living) H locs 21 ls hw hP hD hS dX3_child_21
  generalize ([] : List Loc) = locs at hS ⊢
  obtain ⟨H, hHe⟩ : ∃ H, H = s.heap := ⟨_, rfl⟩
  have hP : va_P D vwCl (pc_X3_child cs h0 h0_open h0_row h0_stack h0_taken h0_kin h0_ranking h0_open_levels h0_open_values h0_open_tags h0_open_links h0_open_keys h0_open_living n0_depth b0_wentUp n0_open_size f0_open_levels f0_open_values f0_open_tags f0_open_links f0_open_keys f0_open_living) H := by rw [hHe]; exact hP
  have hS : va_S A s.heap H locs := by rw [hHe]; exact hS
  suffices W p l e rm_X3_child s m args below meth c H locs 0 0 Z (F0 m 0 ls []) by rw [hHe] at this; exact this
  refine lv_iload_n F.1 F.2.1 dX3_child_0 rfl (lv_at hl 1 rfl) ?_
  refine lv_iconst (v := 0) F.1 F.2.1 dX3_child_1 (by decide) ?_
  refine lv_iconst (v := 1) F.1 F.2.1 dX3_child_2 (by decide) ?_
  refine xc_Sz (As := [.int p1, .int 0, .int 1]) (rest := []) (m_X3_isWithin l D cs p1 0 1 _ hw) F (va_cwS 3 F.2.2.2.2 gX3_child_X3_isWithin rfl rfl rfl (by decide +kernel) ⟨Nat.le_of_ble_eq_true rfl, Nat.le_of_ble_eq_true rfl⟩) hK hP hD hS hA [] [0, 1, 2, 3, 4, 5, 6, 7] rfl rfl rfl hl.1 rfl (Nat.le_of_ble_eq_true rfl) dX3_child_3 ⟨Nat.zero_le _, Nat.zero_le _⟩ (fun r3 u H locs hw hP hD hS => ?_)
  have hP : va_P D vwCl (pc_X3_child cs h0 h0_open h0_row h0_stack h0_taken h0_kin h0_ranking h0_open_levels h0_open_values h0_open_tags h0_open_links h0_open_keys h0_open_living n0_depth b0_wentUp n0_open_size f0_open_levels f0_open_values f0_open_tags f0_open_links f0_open_keys f0_open_living) H := hP.sub [0, 1, 2, 3, 4, 5, 6, 7] rfl
  have hD : va_D A (pc_X3_child cs h0 h0_open h0_row h0_stack h0_taken h0_kin h0_ranking h0_open_levels h0_open_values h0_open_tags h0_open_links h0_open_keys h0_open_living n0_depth b0_wentUp n0_open_size f0_open_levels f0_open_values f0_open_tags f0_open_links f0_open_keys f0_open_living) := hD.sub [0, 1, 2, 3, 4, 5, 6, 7] (by decide) rfl
  try dsimp only at hw
  refine xi_ifeqz (tgt := 19) F dX3_child_6 (by decide) (fun hc => ?_) (fun hc => ?_)
  · have hw := hw.1 hc
    exact (hX19 _ _ _ _ _ _ _).mp hw H locs ls hP hD hS (lv_sub hl [] rfl)
  · have hw := hw.2 hc
    refine lv_iload_n F.1 F.2.1 dX3_child_9 rfl (lv_at hl 2 rfl) ?_
    refine lv_iload_n F.1 F.2.1 dX3_child_10 rfl (lv_at hl 3 rfl) ?_
    refine lv_iload F.1 F.2.1 dX3_child_11 (lv_at hl 4 rfl) ?_
    refine xc_Sz (As := [.int p2, .int p3, .int p4]) (rest := []) (m_X3_areTold l D cs p2 p3 p4 _ hw) F (va_cwS 3 F.2.2.2.2 gX3_child_X3_areTold rfl rfl rfl (by decide +kernel) ⟨Nat.le_of_ble_eq_true rfl, Nat.le_of_ble_eq_true rfl⟩) hK hP hD hS hA [] [0, 1, 2, 3, 4, 5, 6, 7] rfl rfl rfl hl.1 rfl (Nat.le_of_ble_eq_true rfl) dX3_child_13 ⟨Nat.zero_le _, Nat.zero_le _⟩ (fun r13 u H locs hw hP hD hS => ?_)
    have hP : va_P D vwCl (pc_X3_child cs h0 h0_open h0_row h0_stack h0_taken h0_kin h0_ranking h0_open_levels h0_open_values h0_open_tags h0_open_links h0_open_keys h0_open_living n0_depth b0_wentUp n0_open_size f0_open_levels f0_open_values f0_open_tags f0_open_links f0_open_keys f0_open_living) H := hP.sub [0, 1, 2, 3, 4, 5, 6, 7] rfl
    have hD : va_D A (pc_X3_child cs h0 h0_open h0_row h0_stack h0_taken h0_kin h0_ranking h0_open_levels h0_open_values h0_open_tags h0_open_links h0_open_keys h0_open_living n0_depth b0_wentUp n0_open_size f0_open_levels f0_open_values f0_open_tags f0_open_links f0_open_keys f0_open_living) := hD.sub [0, 1, 2, 3, 4, 5, 6, 7] (by decide) rfl
    try dsimp only at hw
    refine xi_ifnez (tgt := 22) F dX3_child_16 (by decide) (fun hc => ?_) (fun hc => ?_)
    · have hw := hw.1 hc
      refine lv_aload_n F.1 F.2.1 dX3_child_22 rfl (lv_at hl 0 rfl) ?_
      refine xi_get (C := RX3) (T := TX3) (N := 8) (v := .ref h0_open) F in_X3_child_X3 hK hP 0 rfl rfl 0 (by decide) fl_X3_child_16 rfl dX3_child_23 ?_
      refine xi_get (C := RX1) (T := TX1) (N := 7) (v := .int n0_open_size) F in_X3_child_X1 hK hP 1 rfl rfl 6 (by decide) fl_X3_child_59 rfl dX3_child_26 ?_
      refine lv_bipush (v := 60) F.1 F.2.1 dX3_child_29 (by decide) ?_
      refine lv_icmp_lt (tgt := 37) F.1 F.2.1 dX3_child_31 (by decide) (fun hc => ?_) (fun hc => ?_)
      · have hw := hw.1 hc
        refine lv_aload_n F.1 F.2.1 dX3_child_37 rfl (lv_at hl 0 rfl) ?_
        refine xi_get (C := RX3) (T := TX3) (N := 8) (v := .ref h0_open) F in_X3_child_X3 hK hP 0 rfl rfl 0 (by decide) fl_X3_child_16 rfl dX3_child_38 ?_
        refine lv_iload_n F.1 F.2.1 dX3_child_41 rfl (lv_at hl 1 rfl) ?_
        refine lv_iload_n F.1 F.2.1 dX3_child_42 rfl (lv_at hl 2 rfl) ?_
        refine lv_iload_n F.1 F.2.1 dX3_child_43 rfl (lv_at hl 3 rfl) ?_
        refine lv_iload F.1 F.2.1 dX3_child_44 (lv_at hl 4 rfl) ?_
        refine lv_iconst (v := (-1)) F.1 F.2.1 dX3_child_46 (by decide) ?_
        refine xc_Vv (As := [.int p1, .int p2, .int p3, .int p4, .int (-1)]) (rest := []) (m_X1_append l D cs h0_open h0_open_levels h0_open_values h0_open_tags h0_open_links h0_open_keys h0_open_living 60 (by decide) p1 p2 p3 p4 (-1) n0_open_size f0_open_levels f0_open_values f0_open_tags f0_open_links f0_open_keys f0_open_living _ hw) F (cwV 5 F.2.2.2.2 gX3_child_X1_append rfl rfl rfl (by decide +kernel) ⟨Nat.le_of_ble_eq_true rfl, Nat.le_of_ble_eq_true rfl⟩) hK hP hD hS hA [1, 2, 3, 4, 5, 6, 7] [0] rfl rfl 0 rfl rfl rfl hl.1 rfl (Nat.le_of_ble_eq_true rfl) dX3_child_47 ⟨Nat.zero_le _, Nat.zero_le _⟩ (fun u H locs hw hP hD hS => ?_)
        obtain ⟨n0_open_size_47, f0_open_levels_47, f0_open_values_47, f0_open_tags_47, f0_open_links_47, f0_open_keys_47, f0_open_living_47⟩ := u
        have hP : va_P D vwCl (pc_X3_child cs h0 h0_open h0_row h0_stack h0_taken h0_kin h0_ranking h0_open_levels h0_open_values h0_open_tags h0_open_links h0_open_keys h0_open_living n0_depth b0_wentUp n0_open_size_47 f0_open_levels_47 f0_open_values_47 f0_open_tags_47 f0_open_links_47 f0_open_keys_47 f0_open_living_47) H := hP.sub [0, 1, 2, 3, 4, 5, 6, 7] rfl
        have hD : va_D A (pc_X3_child cs h0 h0_open h0_row h0_stack h0_taken h0_kin h0_ranking h0_open_levels h0_open_values h0_open_tags h0_open_links h0_open_keys h0_open_living n0_depth b0_wentUp n0_open_size_47 f0_open_levels_47 f0_open_values_47 f0_open_tags_47 f0_open_links_47 f0_open_keys_47 f0_open_living_47) := hD.sub [0, 1, 2, 3, 4, 5, 6, 7] (by decide) rfl
        try dsimp only at hw
        refine lv_aload_n F.1 F.2.1 dX3_child_50 rfl (lv_at hl 0 rfl) ?_
        refine xi_get (C := RX3) (T := TX3) (N := 8) (v := .ref h0_open) F in_X3_child_X3 hK hP 0 rfl rfl 0 (by decide) fl_X3_child_16 rfl dX3_child_51 ?_
        refine xi_get (C := RX1) (T := TX1) (N := 7) (v := .int n0_open_size_47) F in_X3_child_X1 hK hP 1 rfl rfl 6 (by decide) fl_X3_child_59 rfl dX3_child_54 ?_
        exact RET n0_open_size_47 (n0_open_size_47, f0_open_levels_47, f0_open_values_47, f0_open_tags_47, f0_open_links_47, f0_open_keys_47, f0_open_living_47) H locs 57 ls hw hP hD hS dX3_child_57
      · have hw := hw.2 hc
        refine lv_bipush (v := (-4)) F.1 F.2.1 dX3_child_34 (by decide) ?_
        exact RET (-4) (n0_open_size, f0_open_levels, f0_open_values, f0_open_tags, f0_open_links, f0_open_keys, f0_open_living) H locs 36 ls hw hP hD hS dX3_child_36
    · have hw := hw.2 hc
      exact (hX19 _ _ _ _ _ _ _).mp hw H locs ls hP hD hS (lv_sub hl [] rfl)

theorem in_X3_close_X3 : ∀ w ∈ wsX30, w ∈ wsX3_close := by decide +kernel
theorem fl_X3_close_20 : Cond.fieldLink RX3 20 "JoinBlocks" "row" "LJoinBlocks$Row;" ∈ wsX3_close := by decide +kernel
theorem fl_X3_close_16 : Cond.fieldLink RX3 16 "JoinBlocks" "open" "LJoinBlocks$Row;" ∈ wsX3_close := by decide +kernel
theorem in_X3_close_X1 : ∀ w ∈ wsX10, w ∈ wsX3_close := by decide +kernel
theorem fl_X3_close_59 : Cond.fieldLink RX3 59 "JoinBlocks$Row" "size" "I" ∈ wsX3_close := by decide +kernel
abbrev pc_X3_close (cs : Nat → ClassId) (h0 : Nat) (h0_open : Nat) (h0_row : Nat) (h0_stack : Nat) (h0_taken : Nat) (h0_kin : Nat) (h0_ranking : Nat) (h0_open_levels : Nat) (h0_open_values : Nat) (h0_open_tags : Nat) (h0_open_links : Nat) (h0_open_keys : Nat) (h0_open_living : Nat) (h0_row_levels : Nat) (h0_row_values : Nat) (h0_row_tags : Nat) (h0_row_links : Nat) (h0_row_keys : Nat) (h0_row_living : Nat) (n0_depth : Int32) (b0_wentUp : Bool) (n0_open_size : Int32) (f0_open_levels : Nat → Int32) (f0_open_values : Nat → Int32) (f0_open_tags : Nat → Int32) (f0_open_links : Nat → Int32) (f0_open_keys : Nat → Int32) (n0_row_size : Int32) (f0_row_levels : Nat → Int32) (f0_row_values : Nat → Int32) (f0_row_tags : Nat → Int32) (f0_row_links : Nat → Int32) (f0_row_keys : Nat → Int32) (f0_row_living : Nat → Bool) : va_W := [(h0, .inr (3, [.ref h0_open, .ref h0_row, .ref h0_stack, .ref h0_taken, .ref h0_kin, .ref h0_ranking, .int n0_depth, .int (b2i b0_wentUp)])), (h0_open, .inr (1, [.ref h0_open_levels, .ref h0_open_values, .ref h0_open_tags, .ref h0_open_links, .ref h0_open_keys, .ref h0_open_living, .int n0_open_size])), (h0_open_levels, .inl (cs 0, 60, .inl f0_open_levels)), (h0_open_values, .inl (cs 0, 60, .inl f0_open_values)), (h0_open_tags, .inl (cs 0, 60, .inl f0_open_tags)), (h0_open_links, .inl (cs 0, 60, .inl f0_open_links)), (h0_open_keys, .inl (cs 0, 60, .inl f0_open_keys)), (h0_row, .inr (1, [.ref h0_row_levels, .ref h0_row_values, .ref h0_row_tags, .ref h0_row_links, .ref h0_row_keys, .ref h0_row_living, .int n0_row_size])), (h0_row_levels, .inl (cs 0, 200, .inl f0_row_levels)), (h0_row_values, .inl (cs 0, 200, .inl f0_row_values)), (h0_row_tags, .inl (cs 0, 200, .inl f0_row_tags)), (h0_row_links, .inl (cs 0, 200, .inl f0_row_links)), (h0_row_keys, .inl (cs 0, 200, .inl f0_row_keys)), (h0_row_living, .inl (cs 1, 200, .inl (bF f0_row_living)))]
abbrev rm_X3_close : Room := { frames := 3, cells := 0, slots := 0, locals := 69 }
def call_X3_close (p1 : Int32) (p2 : Int32) (p3 : Int32) (p4 : Int32) (n0_depth : Int32) (b0_wentUp : Bool) (n0_open_size : Int32) (f0_open_levels : Nat → Int32) (f0_open_values : Nat → Int32) (f0_open_tags : Nat → Int32) (f0_open_links : Nat → Int32) (f0_open_keys : Nat → Int32) (n0_row_size : Int32) (f0_row_levels : Nat → Int32) (f0_row_values : Nat → Int32) (f0_row_tags : Nat → Int32) (f0_row_links : Nat → Int32) (f0_row_keys : Nat → Int32) (f0_row_living : Nat → Bool) (Q : Int32 → Int32 → Bool → Int32 → Int32 → (Nat → Int32) → (Nat → Int32) → (Nat → Int32) → (Nat → Int32) → (Nat → Int32) → (Nat → Bool) → Prop) : Prop := ∀ (X17 : Int32 → Bool → Int32 → Int32 → (Nat → Int32) → (Nat → Int32) → (Nat → Int32) → (Nat → Int32) → (Nat → Int32) → (Nat → Bool) → Prop) (X76 : Int32 → Bool → Int32 → Int32 → (Nat → Int32) → (Nat → Int32) → (Nat → Int32) → (Nat → Int32) → (Nat → Int32) → (Nat → Bool) → Prop),
    (∀ (n0_depth : Int32) (b0_wentUp : Bool) (n0_open_size : Int32) (n0_row_size : Int32) (f0_row_levels : Nat → Int32) (f0_row_values : Nat → Int32) (f0_row_tags : Nat → Int32) (f0_row_links : Nat → Int32) (f0_row_keys : Nat → Int32) (f0_row_living : Nat → Bool),
      Q (-2) n0_depth b0_wentUp n0_open_size n0_row_size f0_row_levels f0_row_values f0_row_tags f0_row_links f0_row_keys f0_row_living → X17 n0_depth b0_wentUp n0_open_size n0_row_size f0_row_levels f0_row_values f0_row_tags f0_row_links f0_row_keys f0_row_living) →
    (∀ (n0_depth : Int32) (b0_wentUp : Bool) (n0_open_size : Int32) (n0_row_size : Int32) (f0_row_levels : Nat → Int32) (f0_row_values : Nat → Int32) (f0_row_tags : Nat → Int32) (f0_row_links : Nat → Int32) (f0_row_keys : Nat → Int32) (f0_row_living : Nat → Bool),
      (call_X1_appendAll 200 60 n0_row_size f0_row_levels f0_row_values f0_row_tags f0_row_links f0_row_keys f0_row_living n0_open_size f0_open_levels f0_open_values f0_open_tags f0_open_links f0_open_keys (fun (n0_row_size_84 : Int32) (f0_row_levels_84 : Nat → Int32) (f0_row_values_84 : Nat → Int32) (f0_row_tags_84 : Nat → Int32) (f0_row_links_84 : Nat → Int32) (f0_row_keys_84 : Nat → Int32) (f0_row_living_84 : Nat → Bool) => (call_X1_append 200 2 p2 p3 p4 p1 n0_row_size_84 f0_row_levels_84 f0_row_values_84 f0_row_tags_84 f0_row_links_84 f0_row_keys_84 f0_row_living_84 (fun (n0_row_size_97 : Int32) (f0_row_levels_97 : Nat → Int32) (f0_row_values_97 : Nat → Int32) (f0_row_tags_97 : Nat → Int32) (f0_row_links_97 : Nat → Int32) (f0_row_keys_97 : Nat → Int32) (f0_row_living_97 : Nat → Bool) => Q (n0_row_size_97 - 1) n0_depth b0_wentUp 0 n0_row_size_97 f0_row_levels_97 f0_row_values_97 f0_row_tags_97 f0_row_links_97 f0_row_keys_97 f0_row_living_97)))) → X76 n0_depth b0_wentUp n0_open_size n0_row_size f0_row_levels f0_row_values f0_row_tags f0_row_links f0_row_keys f0_row_living) →
    (call_X3_isKey p1 (fun (r1 : Bool) => ((r1 = false → X17 n0_depth b0_wentUp n0_open_size n0_row_size f0_row_levels f0_row_values f0_row_tags f0_row_links f0_row_keys f0_row_living) ∧ (r1 = true → (call_X3_areTold p2 p3 p4 (fun (r11 : Bool) => ((r11 = true → ((((n0_row_size + n0_open_size) + 1) ≤ 200 → (call_X1_livingRoot 200 p1 n0_row_size f0_row_levels f0_row_keys f0_row_living (fun (r51 : Int32) => ((r51 = (-1) → X76 n0_depth b0_wentUp n0_open_size n0_row_size f0_row_levels f0_row_values f0_row_tags f0_row_links f0_row_keys f0_row_living) ∧ (¬ r51 = (-1) → (call_X1_killBlock 200 r51 f0_row_levels f0_row_living (fun (r68 : Int32) (f0_row_living_68 : Nat → Bool) => (call_X3_forgetSets n0_depth b0_wentUp (fun (n0_depth_73 : Int32) (b0_wentUp_73 : Bool) => X76 n0_depth_73 b0_wentUp_73 n0_open_size n0_row_size f0_row_levels f0_row_values f0_row_tags f0_row_links f0_row_keys f0_row_living_68))))))))) ∧ (¬ ((n0_row_size + n0_open_size) + 1) ≤ 200 → Q (-4) n0_depth b0_wentUp n0_open_size n0_row_size f0_row_levels f0_row_values f0_row_tags f0_row_links f0_row_keys f0_row_living))) ∧ (r11 = false → X17 n0_depth b0_wentUp n0_open_size n0_row_size f0_row_levels f0_row_values f0_row_tags f0_row_links f0_row_keys f0_row_living))))))))
set_option maxHeartbeats 4000000 in
set_option maxRecDepth 100000 in
theorem m_X3_close (l : Launch) (D : va_G) (cs : Nat → ClassId) (h0 : Nat) (h0_open : Nat) (h0_row : Nat) (h0_stack : Nat) (h0_taken : Nat) (h0_kin : Nat) (h0_ranking : Nat) (h0_open_levels : Nat) (h0_open_values : Nat) (h0_open_tags : Nat) (h0_open_links : Nat) (h0_open_keys : Nat) (h0_open_living : Nat) (h0_row_levels : Nat) (h0_row_values : Nat) (h0_row_tags : Nat) (h0_row_links : Nat) (h0_row_keys : Nat) (h0_row_living : Nat)  (p1 : Int32) (p2 : Int32) (p3 : Int32) (p4 : Int32) (n0_depth : Int32) (b0_wentUp : Bool) (n0_open_size : Int32) (f0_open_levels : Nat → Int32) (f0_open_values : Nat → Int32) (f0_open_tags : Nat → Int32) (f0_open_links : Nat → Int32) (f0_open_keys : Nat → Int32) (n0_row_size : Int32) (f0_row_levels : Nat → Int32) (f0_row_values : Nat → Int32) (f0_row_tags : Nat → Int32) (f0_row_links : Nat → Int32) (f0_row_keys : Nat → Int32) (f0_row_living : Nat → Bool) (Q : Int32 → Int32 → Bool → Int32 → Int32 → (Nat → Int32) → (Nat → Int32) → (Nat → Int32) → (Nat → Int32) → (Nat → Int32) → (Nat → Bool) → Prop) (h : call_X3_close p1 p2 p3 p4 n0_depth b0_wentUp n0_open_size f0_open_levels f0_open_values f0_open_tags f0_open_links f0_open_keys n0_row_size f0_row_levels f0_row_values f0_row_tags f0_row_links f0_row_keys f0_row_living Q) : CtI l yX3_close wsX3_close rm_X3_close D cs [.ref h0, .int p1, .int p2, .int p3, .int p4] (pc_X3_close cs h0 h0_open h0_row h0_stack h0_taken h0_kin h0_ranking h0_open_levels h0_open_values h0_open_tags h0_open_links h0_open_keys h0_open_living h0_row_levels h0_row_values h0_row_tags h0_row_links h0_row_keys h0_row_living n0_depth b0_wentUp n0_open_size f0_open_levels f0_open_values f0_open_tags f0_open_links f0_open_keys n0_row_size f0_row_levels f0_row_values f0_row_tags f0_row_links f0_row_keys f0_row_living) (fun u : Int32 × Bool × Int32 × Int32 × (Nat → Int32) × (Nat → Int32) × (Nat → Int32) × (Nat → Int32) × (Nat → Int32) × (Nat → Bool) => (pc_X3_close cs h0 h0_open h0_row h0_stack h0_taken h0_kin h0_ranking h0_open_levels h0_open_values h0_open_tags h0_open_links h0_open_keys h0_open_living h0_row_levels h0_row_values h0_row_tags h0_row_links h0_row_keys h0_row_living u.1 u.2.1 u.2.2.1 f0_open_levels f0_open_values f0_open_tags f0_open_links f0_open_keys u.2.2.2.1 u.2.2.2.2.1 u.2.2.2.2.2.1 u.2.2.2.2.2.2.1 u.2.2.2.2.2.2.2.1 u.2.2.2.2.2.2.2.2.1 u.2.2.2.2.2.2.2.2.2)) (fun r u => Q r u.1 u.2.1 u.2.2.1 u.2.2.2.1 u.2.2.2.2.1 u.2.2.2.2.2.1 u.2.2.2.2.2.2.1 u.2.2.2.2.2.2.2.1 u.2.2.2.2.2.2.2.2.1 u.2.2.2.2.2.2.2.2.2) := by
  refine xo_I (S := Int32 × Bool × Int32 × Int32 × (Nat → Int32) × (Nat → Int32) × (Nat → Int32) × (Nat → Int32) × (Nat → Int32) × (Nat → Bool)) (cc := cX3_close) (maxL := 6) (own := RX3) (lv0 := [(0, .ref h0), (1, .int p1), (2, .int p2), (3, .int p3), (4, .int p4)]) (by decide) rfl rfl (Nat.le_of_ble_eq_true rfl) rfl ?_
  intro p e s m args below meth c A Z ls F hK hA hP hD hS hl RET
  unfold call_X3_close at h
  obtain ⟨X17, hX17⟩ : ∃ X : Int32 → Bool → Int32 → Int32 → (Nat → Int32) → (Nat → Int32) → (Nat → Int32) → (Nat → Int32) → (Nat → Int32) → (Nat → Bool) → Prop, ∀ (n0_depth : Int32) (b0_wentUp : Bool) (n0_open_size : Int32) (n0_row_size : Int32) (f0_row_levels : Nat → Int32) (f0_row_values : Nat → Int32) (f0_row_tags : Nat → Int32) (f0_row_links : Nat → Int32) (f0_row_keys : Nat → Int32) (f0_row_living : Nat → Bool), (X n0_depth b0_wentUp n0_open_size n0_row_size f0_row_levels f0_row_values f0_row_tags f0_row_links f0_row_keys f0_row_living ↔ ∀ (H : Heap) (locs : List Loc) (ls : Array Slot), va_P D vwCl (pc_X3_close cs h0 h0_open h0_row h0_stack h0_taken h0_kin h0_ranking h0_open_levels h0_open_values h0_open_tags h0_open_links h0_open_keys h0_open_living h0_row_levels h0_row_values h0_row_tags h0_row_links h0_row_keys h0_row_living n0_depth b0_wentUp n0_open_size f0_open_levels f0_open_values f0_open_tags f0_open_links f0_open_keys n0_row_size f0_row_levels f0_row_values f0_row_tags f0_row_links f0_row_keys f0_row_living) H → va_D A (pc_X3_close cs h0 h0_open h0_row h0_stack h0_taken h0_kin h0_ranking h0_open_levels h0_open_values h0_open_tags h0_open_links h0_open_keys h0_open_living h0_row_levels h0_row_values h0_row_tags h0_row_links h0_row_keys h0_row_living n0_depth b0_wentUp n0_open_size f0_open_levels f0_open_values f0_open_tags f0_open_links f0_open_keys n0_row_size f0_row_levels f0_row_values f0_row_tags f0_row_links f0_row_keys f0_row_living) → va_S A s.heap H locs → lv_has ls 6 [] → W p l e rm_X3_close s m args below meth c H locs 0 0 Z (F0 m 17 ls [])) := ⟨_, fun _ _ _ _ _ _ _ _ _ _ => Iff.rfl⟩
  obtain ⟨X76, hX76⟩ : ∃ X : Int32 → Bool → Int32 → Int32 → (Nat → Int32) → (Nat → Int32) → (Nat → Int32) → (Nat → Int32) → (Nat → Int32) → (Nat → Bool) → Prop, ∀ (n0_depth : Int32) (b0_wentUp : Bool) (n0_open_size : Int32) (n0_row_size : Int32) (f0_row_levels : Nat → Int32) (f0_row_values : Nat → Int32) (f0_row_tags : Nat → Int32) (f0_row_links : Nat → Int32) (f0_row_keys : Nat → Int32) (f0_row_living : Nat → Bool), (X n0_depth b0_wentUp n0_open_size n0_row_size f0_row_levels f0_row_values f0_row_tags f0_row_links f0_row_keys f0_row_living ↔ ∀ (H : Heap) (locs : List Loc) (ls : Array Slot), va_P D vwCl (pc_X3_close cs h0 h0_open h0_row h0_stack h0_taken h0_kin h0_ranking h0_open_levels h0_open_values h0_open_tags h0_open_links h0_open_keys h0_open_living h0_row_levels h0_row_values h0_row_tags h0_row_links h0_row_keys h0_row_living n0_depth b0_wentUp n0_open_size f0_open_levels f0_open_values f0_open_tags f0_open_links f0_open_keys n0_row_size f0_row_levels f0_row_values f0_row_tags f0_row_links f0_row_keys f0_row_living) H → va_D A (pc_X3_close cs h0 h0_open h0_row h0_stack h0_taken h0_kin h0_ranking h0_open_levels h0_open_values h0_open_tags h0_open_links h0_open_keys h0_open_living h0_row_levels h0_row_values h0_row_tags h0_row_links h0_row_keys h0_row_living n0_depth b0_wentUp n0_open_size f0_open_levels f0_open_values f0_open_tags f0_open_links f0_open_keys n0_row_size f0_row_levels f0_row_values f0_row_tags f0_row_links f0_row_keys f0_row_living) → va_S A s.heap H locs → lv_has ls 6 [(0, .ref h0), (1, .int p1), (2, .int p2), (3, .int p3), (4, .int p4)] → W p l e rm_X3_close s m args below meth c H locs 0 0 Z (F0 m 76 ls [])) := ⟨_, fun _ _ _ _ _ _ _ _ _ _ => Iff.rfl⟩
  refine xt_cut (h X17 X76 ?_ ?_) (fun hw => ?_)
  · intro n0_depth b0_wentUp n0_open_size n0_row_size f0_row_levels f0_row_values f0_row_tags f0_row_links f0_row_keys f0_row_living hw
    refine (hX17 _ _ _ _ _ _ _ _ _ _).mpr ?_
    intro H locs ls hP hD hS hl
    refine lv_bipush (v := (-2)) F.1 F.2.1 dX3_close_17 (by decide) ?_
    exact RET (-2) (n0_depth, b0_wentUp, n0_open_size, n0_row_size, f0_row_levels, f0_row_values, f0_row_tags, f0_row_links, f0_row_keys, f0_row_living) H locs 19 ls hw hP hD hS dX3_close_19
  · intro n0_depth b0_wentUp n0_open_size n0_row_size f0_row_levels f0_row_values f0_row_tags f0_row_links f0_row_keys f0_row_living hw
    refine (hX76 _ _ _ _ _ _ _ _ _ _).mpr ?_
    intro H locs ls hP hD hS hl
    refine lv_aload_n F.1 F.2.1 dX3_close_76 rfl (lv_at hl 0 rfl) ?_
    refine xi_get (C := RX3) (T := TX3) (N := 8) (v := .ref h0_row) F in_X3_close_X3 hK hP 0 rfl rfl 1 (by decide) fl_X3_close_20 rfl dX3_close_77 ?_
    refine lv_aload_n F.1 F.2.1 dX3_close_80 rfl (lv_at hl 0 rfl) ?_
    refine xi_get (C := RX3) (T := TX3) (N := 8) (v := .ref h0_open) F in_X3_close_X3 hK hP 0 rfl rfl 0 (by decide) fl_X3_close_16 rfl dX3_close_81 ?_
    refine xc_Vv (As := [.ref h0_open]) (rest := []) (m_X1_appendAll l D cs h0_row h0_row_levels h0_row_values h0_row_tags h0_row_links h0_row_keys h0_row_living h0_open h0_open_levels h0_open_values h0_open_tags h0_open_links h0_open_keys h0_open_living 200 60 (by decide) (by decide) n0_row_size f0_row_levels f0_row_values f0_row_tags f0_row_links f0_row_keys f0_row_living n0_open_size f0_open_levels f0_open_values f0_open_tags f0_open_links f0_open_keys _ hw) F (cwV 1 F.2.2.2.2 gX3_close_X1_appendAll rfl rfl rfl (by decide +kernel) ⟨Nat.le_of_ble_eq_true rfl, Nat.le_of_ble_eq_true rfl⟩) hK hP hD hS hA [7, 8, 9, 10, 11, 12, 13, 1, 2, 3, 4, 5, 6] [0] rfl rfl 0 rfl rfl rfl hl.1 rfl (Nat.le_of_ble_eq_true rfl) dX3_close_84 ⟨Nat.zero_le _, Nat.zero_le _⟩ (fun u H locs hw hP hD hS => ?_)
    obtain ⟨n0_row_size_84, f0_row_levels_84, f0_row_values_84, f0_row_tags_84, f0_row_links_84, f0_row_keys_84, f0_row_living_84⟩ := u
    have hP : va_P D vwCl (pc_X3_close cs h0 h0_open h0_row h0_stack h0_taken h0_kin h0_ranking h0_open_levels h0_open_values h0_open_tags h0_open_links h0_open_keys h0_open_living h0_row_levels h0_row_values h0_row_tags h0_row_links h0_row_keys h0_row_living n0_depth b0_wentUp n0_open_size f0_open_levels f0_open_values f0_open_tags f0_open_links f0_open_keys n0_row_size_84 f0_row_levels_84 f0_row_values_84 f0_row_tags_84 f0_row_links_84 f0_row_keys_84 f0_row_living_84) H := hP.sub [0, 8, 9, 10, 11, 12, 13, 1, 2, 3, 4, 5, 6, 7] rfl
    have hD : va_D A (pc_X3_close cs h0 h0_open h0_row h0_stack h0_taken h0_kin h0_ranking h0_open_levels h0_open_values h0_open_tags h0_open_links h0_open_keys h0_open_living h0_row_levels h0_row_values h0_row_tags h0_row_links h0_row_keys h0_row_living n0_depth b0_wentUp n0_open_size f0_open_levels f0_open_values f0_open_tags f0_open_links f0_open_keys n0_row_size_84 f0_row_levels_84 f0_row_values_84 f0_row_tags_84 f0_row_links_84 f0_row_keys_84 f0_row_living_84) := hD.sub [0, 8, 9, 10, 11, 12, 13, 1, 2, 3, 4, 5, 6, 7] (by decide) rfl
    try dsimp only at hw
    refine lv_aload_n F.1 F.2.1 dX3_close_87 rfl (lv_at hl 0 rfl) ?_
    refine xi_get (C := RX3) (T := TX3) (N := 8) (v := .ref h0_row) F in_X3_close_X3 hK hP 0 rfl rfl 1 (by decide) fl_X3_close_20 rfl dX3_close_88 ?_
    refine lv_iconst (v := 2) F.1 F.2.1 dX3_close_91 (by decide) ?_
    refine lv_iload_n F.1 F.2.1 dX3_close_92 rfl (lv_at hl 2 rfl) ?_
    refine lv_iload_n F.1 F.2.1 dX3_close_93 rfl (lv_at hl 3 rfl) ?_
    refine lv_iload F.1 F.2.1 dX3_close_94 (lv_at hl 4 rfl) ?_
    refine lv_iload_n F.1 F.2.1 dX3_close_96 rfl (lv_at hl 1 rfl) ?_
    refine xc_Vv (As := [.int 2, .int p2, .int p3, .int p4, .int p1]) (rest := []) (m_X1_append l D cs h0_row h0_row_levels h0_row_values h0_row_tags h0_row_links h0_row_keys h0_row_living 200 (by decide) 2 p2 p3 p4 p1 n0_row_size_84 f0_row_levels_84 f0_row_values_84 f0_row_tags_84 f0_row_links_84 f0_row_keys_84 f0_row_living_84 _ hw) F (cwV 5 F.2.2.2.2 gX3_close_X1_append rfl rfl rfl (by decide +kernel) ⟨Nat.le_of_ble_eq_true rfl, Nat.le_of_ble_eq_true rfl⟩) hK hP hD hS hA [7, 8, 9, 10, 11, 12, 13] [0, 1, 2, 3, 4, 5, 6] rfl rfl 0 rfl rfl rfl hl.1 rfl (Nat.le_of_ble_eq_true rfl) dX3_close_97 ⟨Nat.zero_le _, Nat.zero_le _⟩ (fun u H locs hw hP hD hS => ?_)
    obtain ⟨n0_row_size_97, f0_row_levels_97, f0_row_values_97, f0_row_tags_97, f0_row_links_97, f0_row_keys_97, f0_row_living_97⟩ := u
    have hP : va_P D vwCl (pc_X3_close cs h0 h0_open h0_row h0_stack h0_taken h0_kin h0_ranking h0_open_levels h0_open_values h0_open_tags h0_open_links h0_open_keys h0_open_living h0_row_levels h0_row_values h0_row_tags h0_row_links h0_row_keys h0_row_living n0_depth b0_wentUp n0_open_size f0_open_levels f0_open_values f0_open_tags f0_open_links f0_open_keys n0_row_size_97 f0_row_levels_97 f0_row_values_97 f0_row_tags_97 f0_row_links_97 f0_row_keys_97 f0_row_living_97) H := hP.sub [0, 1, 2, 3, 4, 5, 6, 7, 8, 9, 10, 11, 12, 13] rfl
    have hD : va_D A (pc_X3_close cs h0 h0_open h0_row h0_stack h0_taken h0_kin h0_ranking h0_open_levels h0_open_values h0_open_tags h0_open_links h0_open_keys h0_open_living h0_row_levels h0_row_values h0_row_tags h0_row_links h0_row_keys h0_row_living n0_depth b0_wentUp n0_open_size f0_open_levels f0_open_values f0_open_tags f0_open_links f0_open_keys n0_row_size_97 f0_row_levels_97 f0_row_values_97 f0_row_tags_97 f0_row_links_97 f0_row_keys_97 f0_row_living_97) := hD.sub [0, 1, 2, 3, 4, 5, 6, 7, 8, 9, 10, 11, 12, 13] (by decide) rfl
    try dsimp only at hw
    refine lv_aload_n F.1 F.2.1 dX3_close_100 rfl (lv_at hl 0 rfl) ?_
    refine xi_get (C := RX3) (T := TX3) (N := 8) (v := .ref h0_open) F in_X3_close_X3 hK hP 0 rfl rfl 0 (by decide) fl_X3_close_16 rfl dX3_close_101 ?_
    refine lv_iconst (v := 0) F.1 F.2.1 dX3_close_104 (by decide) ?_
    refine xi_put (C := RX1) (T := TX1) (N := 7) (v := .int 0) (ty := .int) F in_X3_close_X1 tyX1 tyX1_ok nmX1 hK hP hD hS 1 rfl rfl 6 (by decide) fl_X3_close_59 rfl (tyX1_ok 6 (by decide)) rfl rfl (Nat.le_of_ble_eq_true rfl) dX3_close_105 (fun H locs hP hD hS => ?_)
    have hP : va_P D vwCl (pc_X3_close cs h0 h0_open h0_row h0_stack h0_taken h0_kin h0_ranking h0_open_levels h0_open_values h0_open_tags h0_open_links h0_open_keys h0_open_living h0_row_levels h0_row_values h0_row_tags h0_row_links h0_row_keys h0_row_living n0_depth b0_wentUp 0 f0_open_levels f0_open_values f0_open_tags f0_open_links f0_open_keys n0_row_size_97 f0_row_levels_97 f0_row_values_97 f0_row_tags_97 f0_row_links_97 f0_row_keys_97 f0_row_living_97) H := hP
    have hD : va_D A (pc_X3_close cs h0 h0_open h0_row h0_stack h0_taken h0_kin h0_ranking h0_open_levels h0_open_values h0_open_tags h0_open_links h0_open_keys h0_open_living h0_row_levels h0_row_values h0_row_tags h0_row_links h0_row_keys h0_row_living n0_depth b0_wentUp 0 f0_open_levels f0_open_values f0_open_tags f0_open_links f0_open_keys n0_row_size_97 f0_row_levels_97 f0_row_values_97 f0_row_tags_97 f0_row_links_97 f0_row_keys_97 f0_row_living_97) := hD
    refine lv_aload_n F.1 F.2.1 dX3_close_108 rfl (lv_at hl 0 rfl) ?_
    refine xi_get (C := RX3) (T := TX3) (N := 8) (v := .ref h0_row) F in_X3_close_X3 hK hP 0 rfl rfl 1 (by decide) fl_X3_close_20 rfl dX3_close_109 ?_
    refine xi_get (C := RX1) (T := TX1) (N := 7) (v := .int n0_row_size_97) F in_X3_close_X1 hK hP 7 rfl rfl 6 (by decide) fl_X3_close_59 rfl dX3_close_112 ?_
    refine lv_iconst (v := 1) F.1 F.2.1 dX3_close_115 (by decide) ?_
    refine lv_isub F.1 F.2.1 dX3_close_116 ?_
    exact RET (n0_row_size_97 - 1) (n0_depth, b0_wentUp, 0, n0_row_size_97, f0_row_levels_97, f0_row_values_97, f0_row_tags_97, f0_row_links_97, f0_row_keys_97, f0_row_living_97) H locs 117 ls hw hP hD hS dX3_close_117
  generalize ([] : List Loc) = locs at hS ⊢
  obtain ⟨H, hHe⟩ : ∃ H, H = s.heap := ⟨_, rfl⟩
  have hP : va_P D vwCl (pc_X3_close cs h0 h0_open h0_row h0_stack h0_taken h0_kin h0_ranking h0_open_levels h0_open_values h0_open_tags h0_open_links h0_open_keys h0_open_living h0_row_levels h0_row_values h0_row_tags h0_row_links h0_row_keys h0_row_living n0_depth b0_wentUp n0_open_size f0_open_levels f0_open_values f0_open_tags f0_open_links f0_open_keys n0_row_size f0_row_levels f0_row_values f0_row_tags f0_row_links f0_row_keys f0_row_living) H := by rw [hHe]; exact hP
  have hS : va_S A s.heap H locs := by rw [hHe]; exact hS
  suffices W p l e rm_X3_close s m args below meth c H locs 0 0 Z (F0 m 0 ls []) by rw [hHe] at this; exact this
  refine lv_iload_n F.1 F.2.1 dX3_close_0 rfl (lv_at hl 1 rfl) ?_
  refine xc_Sz (As := [.int p1]) (rest := []) (m_X3_isKey l D cs p1 _ hw) F (va_cwS 1 F.2.2.2.2 gX3_close_X3_isKey rfl rfl rfl (by decide +kernel) ⟨Nat.le_of_ble_eq_true rfl, Nat.le_of_ble_eq_true rfl⟩) hK hP hD hS hA [] [0, 1, 2, 3, 4, 5, 6, 7, 8, 9, 10, 11, 12, 13] rfl rfl rfl hl.1 rfl (Nat.le_of_ble_eq_true rfl) dX3_close_1 ⟨Nat.zero_le _, Nat.zero_le _⟩ (fun r1 u H locs hw hP hD hS => ?_)
  have hP : va_P D vwCl (pc_X3_close cs h0 h0_open h0_row h0_stack h0_taken h0_kin h0_ranking h0_open_levels h0_open_values h0_open_tags h0_open_links h0_open_keys h0_open_living h0_row_levels h0_row_values h0_row_tags h0_row_links h0_row_keys h0_row_living n0_depth b0_wentUp n0_open_size f0_open_levels f0_open_values f0_open_tags f0_open_links f0_open_keys n0_row_size f0_row_levels f0_row_values f0_row_tags f0_row_links f0_row_keys f0_row_living) H := hP.sub [0, 1, 2, 3, 4, 5, 6, 7, 8, 9, 10, 11, 12, 13] rfl
  have hD : va_D A (pc_X3_close cs h0 h0_open h0_row h0_stack h0_taken h0_kin h0_ranking h0_open_levels h0_open_values h0_open_tags h0_open_links h0_open_keys h0_open_living h0_row_levels h0_row_values h0_row_tags h0_row_links h0_row_keys h0_row_living n0_depth b0_wentUp n0_open_size f0_open_levels f0_open_values f0_open_tags f0_open_links f0_open_keys n0_row_size f0_row_levels f0_row_values f0_row_tags f0_row_links f0_row_keys f0_row_living) := hD.sub [0, 1, 2, 3, 4, 5, 6, 7, 8, 9, 10, 11, 12, 13] (by decide) rfl
  try dsimp only at hw
  refine xi_ifeqz (tgt := 17) F dX3_close_4 (by decide) (fun hc => ?_) (fun hc => ?_)
  · have hw := hw.1 hc
    exact (hX17 _ _ _ _ _ _ _ _ _ _).mp hw H locs ls hP hD hS (lv_sub hl [] rfl)
  · have hw := hw.2 hc
    refine lv_iload_n F.1 F.2.1 dX3_close_7 rfl (lv_at hl 2 rfl) ?_
    refine lv_iload_n F.1 F.2.1 dX3_close_8 rfl (lv_at hl 3 rfl) ?_
    refine lv_iload F.1 F.2.1 dX3_close_9 (lv_at hl 4 rfl) ?_
    refine xc_Sz (As := [.int p2, .int p3, .int p4]) (rest := []) (m_X3_areTold l D cs p2 p3 p4 _ hw) F (va_cwS 3 F.2.2.2.2 gX3_close_X3_areTold rfl rfl rfl (by decide +kernel) ⟨Nat.le_of_ble_eq_true rfl, Nat.le_of_ble_eq_true rfl⟩) hK hP hD hS hA [] [0, 1, 2, 3, 4, 5, 6, 7, 8, 9, 10, 11, 12, 13] rfl rfl rfl hl.1 rfl (Nat.le_of_ble_eq_true rfl) dX3_close_11 ⟨Nat.zero_le _, Nat.zero_le _⟩ (fun r11 u H locs hw hP hD hS => ?_)
    have hP : va_P D vwCl (pc_X3_close cs h0 h0_open h0_row h0_stack h0_taken h0_kin h0_ranking h0_open_levels h0_open_values h0_open_tags h0_open_links h0_open_keys h0_open_living h0_row_levels h0_row_values h0_row_tags h0_row_links h0_row_keys h0_row_living n0_depth b0_wentUp n0_open_size f0_open_levels f0_open_values f0_open_tags f0_open_links f0_open_keys n0_row_size f0_row_levels f0_row_values f0_row_tags f0_row_links f0_row_keys f0_row_living) H := hP.sub [0, 1, 2, 3, 4, 5, 6, 7, 8, 9, 10, 11, 12, 13] rfl
    have hD : va_D A (pc_X3_close cs h0 h0_open h0_row h0_stack h0_taken h0_kin h0_ranking h0_open_levels h0_open_values h0_open_tags h0_open_links h0_open_keys h0_open_living h0_row_levels h0_row_values h0_row_tags h0_row_links h0_row_keys h0_row_living n0_depth b0_wentUp n0_open_size f0_open_levels f0_open_values f0_open_tags f0_open_links f0_open_keys n0_row_size f0_row_levels f0_row_values f0_row_tags f0_row_links f0_row_keys f0_row_living) := hD.sub [0, 1, 2, 3, 4, 5, 6, 7, 8, 9, 10, 11, 12, 13] (by decide) rfl
    try dsimp only at hw
    refine xi_ifnez (tgt := 20) F dX3_close_14 (by decide) (fun hc => ?_) (fun hc => ?_)
    · have hw := hw.1 hc
      refine lv_aload_n F.1 F.2.1 dX3_close_20 rfl (lv_at hl 0 rfl) ?_
      refine xi_get (C := RX3) (T := TX3) (N := 8) (v := .ref h0_row) F in_X3_close_X3 hK hP 0 rfl rfl 1 (by decide) fl_X3_close_20 rfl dX3_close_21 ?_
      refine xi_get (C := RX1) (T := TX1) (N := 7) (v := .int n0_row_size) F in_X3_close_X1 hK hP 7 rfl rfl 6 (by decide) fl_X3_close_59 rfl dX3_close_24 ?_
      refine lv_aload_n F.1 F.2.1 dX3_close_27 rfl (lv_at hl 0 rfl) ?_
      refine xi_get (C := RX3) (T := TX3) (N := 8) (v := .ref h0_open) F in_X3_close_X3 hK hP 0 rfl rfl 0 (by decide) fl_X3_close_16 rfl dX3_close_28 ?_
      refine xi_get (C := RX1) (T := TX1) (N := 7) (v := .int n0_open_size) F in_X3_close_X1 hK hP 1 rfl rfl 6 (by decide) fl_X3_close_59 rfl dX3_close_31 ?_
      refine lv_iadd F.1 F.2.1 dX3_close_34 ?_
      refine lv_iconst (v := 1) F.1 F.2.1 dX3_close_35 (by decide) ?_
      refine lv_iadd F.1 F.2.1 dX3_close_36 ?_
      refine lv_sipush (v := 200) F.1 F.2.1 dX3_close_37 (by decide) ?_
      refine lv_icmp_le (tgt := 46) F.1 F.2.1 dX3_close_40 (by decide) (fun hc => ?_) (fun hc => ?_)
      · have hw := hw.1 hc
        refine lv_aload_n F.1 F.2.1 dX3_close_46 rfl (lv_at hl 0 rfl) ?_
        refine xi_get (C := RX3) (T := TX3) (N := 8) (v := .ref h0_row) F in_X3_close_X3 hK hP 0 rfl rfl 1 (by decide) fl_X3_close_20 rfl dX3_close_47 ?_
        refine lv_iload_n F.1 F.2.1 dX3_close_50 rfl (lv_at hl 1 rfl) ?_
        refine xc_Vi (As := [.int p1]) (rest := []) (m_X1_livingRoot l D cs h0_row h0_row_levels h0_row_values h0_row_tags h0_row_links h0_row_keys h0_row_living 200 (by decide) p1 n0_row_size f0_row_levels f0_row_keys f0_row_living _ hw) F (cwV 1 F.2.2.2.2 gX3_close_X1_livingRoot rfl rfl rfl (by decide +kernel) ⟨Nat.le_of_ble_eq_true rfl, Nat.le_of_ble_eq_true rfl⟩) hK hP hD hS hA [7, 8, 12, 13] [0, 1, 2, 3, 4, 5, 6, 9, 10, 11] rfl rfl 0 rfl rfl rfl hl.1 rfl (Nat.le_of_ble_eq_true rfl) dX3_close_51 ⟨Nat.zero_le _, Nat.zero_le _⟩ (fun r51 u H locs hw hP hD hS => ?_)
        have hP : va_P D vwCl (pc_X3_close cs h0 h0_open h0_row h0_stack h0_taken h0_kin h0_ranking h0_open_levels h0_open_values h0_open_tags h0_open_links h0_open_keys h0_open_living h0_row_levels h0_row_values h0_row_tags h0_row_links h0_row_keys h0_row_living n0_depth b0_wentUp n0_open_size f0_open_levels f0_open_values f0_open_tags f0_open_links f0_open_keys n0_row_size f0_row_levels f0_row_values f0_row_tags f0_row_links f0_row_keys f0_row_living) H := hP.sub [0, 1, 2, 3, 4, 5, 6, 10, 11, 7, 8, 9, 12, 13] rfl
        have hD : va_D A (pc_X3_close cs h0 h0_open h0_row h0_stack h0_taken h0_kin h0_ranking h0_open_levels h0_open_values h0_open_tags h0_open_links h0_open_keys h0_open_living h0_row_levels h0_row_values h0_row_tags h0_row_links h0_row_keys h0_row_living n0_depth b0_wentUp n0_open_size f0_open_levels f0_open_values f0_open_tags f0_open_links f0_open_keys n0_row_size f0_row_levels f0_row_values f0_row_tags f0_row_links f0_row_keys f0_row_living) := hD.sub [0, 1, 2, 3, 4, 5, 6, 10, 11, 7, 8, 9, 12, 13] (by decide) rfl
        try dsimp only at hw
        refine lv_istore (lv' := [(5, .int r51), (0, .ref h0), (1, .int p1), (2, .int p2), (3, .int p3), (4, .int p4)]) F.1 F.2.1 dX3_close_54 hl (by decide) rfl (fun ls hl => ?_)
        refine lv_iload F.1 F.2.1 dX3_close_56 (lv_at hl 0 rfl) ?_
        refine lv_iconst (v := (-1)) F.1 F.2.1 dX3_close_58 (by decide) ?_
        refine lv_icmp_eq (tgt := 76) F.1 F.2.1 dX3_close_59 (by decide) (fun hc => ?_) (fun hc => ?_)
        · have hw := hw.1 hc
          exact (hX76 _ _ _ _ _ _ _ _ _ _).mp hw H locs ls hP hD hS (lv_sub hl [1, 2, 3, 4, 5] rfl)
        · have hw := hw.2 hc
          refine lv_aload_n F.1 F.2.1 dX3_close_62 rfl (lv_at hl 1 rfl) ?_
          refine xi_get (C := RX3) (T := TX3) (N := 8) (v := .ref h0_row) F in_X3_close_X3 hK hP 0 rfl rfl 1 (by decide) fl_X3_close_20 rfl dX3_close_63 ?_
          refine lv_iload F.1 F.2.1 dX3_close_66 (lv_at hl 0 rfl) ?_
          refine xc_Vi (As := [.int r51]) (rest := []) (m_X1_killBlock l D cs h0_row h0_row_levels h0_row_values h0_row_tags h0_row_links h0_row_keys h0_row_living 200 (by decide) r51 n0_row_size f0_row_levels f0_row_living _ hw) F (cwV 1 F.2.2.2.2 gX3_close_X1_killBlock rfl rfl rfl (by decide +kernel) ⟨Nat.le_of_ble_eq_true rfl, Nat.le_of_ble_eq_true rfl⟩) hK hP hD hS hA [7, 8, 13] [0, 1, 2, 3, 4, 5, 6, 9, 10, 11, 12] rfl rfl 0 rfl rfl rfl hl.1 rfl (Nat.le_of_ble_eq_true rfl) dX3_close_68 ⟨Nat.zero_le _, Nat.zero_le _⟩ (fun r68 u H locs hw hP hD hS => ?_)
          obtain ⟨f0_row_living_68, rfl⟩ : ∃ z, z = u := ⟨_, rfl⟩
          have hP : va_P D vwCl (pc_X3_close cs h0 h0_open h0_row h0_stack h0_taken h0_kin h0_ranking h0_open_levels h0_open_values h0_open_tags h0_open_links h0_open_keys h0_open_living h0_row_levels h0_row_values h0_row_tags h0_row_links h0_row_keys h0_row_living n0_depth b0_wentUp n0_open_size f0_open_levels f0_open_values f0_open_tags f0_open_links f0_open_keys n0_row_size f0_row_levels f0_row_values f0_row_tags f0_row_links f0_row_keys f0_row_living_68) H := hP.sub [0, 1, 2, 3, 4, 5, 6, 11, 12, 7, 8, 9, 10, 13] rfl
          have hD : va_D A (pc_X3_close cs h0 h0_open h0_row h0_stack h0_taken h0_kin h0_ranking h0_open_levels h0_open_values h0_open_tags h0_open_links h0_open_keys h0_open_living h0_row_levels h0_row_values h0_row_tags h0_row_links h0_row_keys h0_row_living n0_depth b0_wentUp n0_open_size f0_open_levels f0_open_values f0_open_tags f0_open_links f0_open_keys n0_row_size f0_row_levels f0_row_values f0_row_tags f0_row_links f0_row_keys f0_row_living_68) := hD.sub [0, 1, 2, 3, 4, 5, 6, 11, 12, 7, 8, 9, 10, 13] (by decide) rfl
          try dsimp only at hw
          refine lv_pop F.1 F.2.1 dX3_close_71 rfl ?_
          refine lv_aload_n F.1 F.2.1 dX3_close_72 rfl (lv_at hl 1 rfl) ?_
          refine xc_Vv (As := []) (rest := []) (m_X3_forgetSets l D cs h0 h0_open h0_row h0_stack h0_taken h0_kin h0_ranking n0_depth b0_wentUp _ hw) F (cwV 0 F.2.2.2.2 gX3_close_X3_forgetSets rfl rfl rfl (by decide +kernel) ⟨Nat.le_of_ble_eq_true rfl, Nat.le_of_ble_eq_true rfl⟩) hK hP hD hS hA [0] [1, 2, 3, 4, 5, 6, 7, 8, 9, 10, 11, 12, 13] rfl rfl 0 rfl rfl rfl hl.1 rfl (Nat.le_of_ble_eq_true rfl) dX3_close_73 ⟨Nat.zero_le _, Nat.zero_le _⟩ (fun u H locs hw hP hD hS => ?_)
          obtain ⟨n0_depth_73, b0_wentUp_73⟩ := u
          have hP : va_P D vwCl (pc_X3_close cs h0 h0_open h0_row h0_stack h0_taken h0_kin h0_ranking h0_open_levels h0_open_values h0_open_tags h0_open_links h0_open_keys h0_open_living h0_row_levels h0_row_values h0_row_tags h0_row_links h0_row_keys h0_row_living n0_depth_73 b0_wentUp_73 n0_open_size f0_open_levels f0_open_values f0_open_tags f0_open_links f0_open_keys n0_row_size f0_row_levels f0_row_values f0_row_tags f0_row_links f0_row_keys f0_row_living_68) H := hP.sub [13, 0, 1, 2, 3, 4, 5, 6, 7, 8, 9, 10, 11, 12] rfl
          have hD : va_D A (pc_X3_close cs h0 h0_open h0_row h0_stack h0_taken h0_kin h0_ranking h0_open_levels h0_open_values h0_open_tags h0_open_links h0_open_keys h0_open_living h0_row_levels h0_row_values h0_row_tags h0_row_links h0_row_keys h0_row_living n0_depth_73 b0_wentUp_73 n0_open_size f0_open_levels f0_open_values f0_open_tags f0_open_links f0_open_keys n0_row_size f0_row_levels f0_row_values f0_row_tags f0_row_links f0_row_keys f0_row_living_68) := hD.sub [13, 0, 1, 2, 3, 4, 5, 6, 7, 8, 9, 10, 11, 12] (by decide) rfl
          try dsimp only at hw
          exact (hX76 _ _ _ _ _ _ _ _ _ _).mp hw H locs ls hP hD hS (lv_sub hl [1, 2, 3, 4, 5] rfl)
      · have hw := hw.2 hc
        refine lv_bipush (v := (-4)) F.1 F.2.1 dX3_close_43 (by decide) ?_
        exact RET (-4) (n0_depth, b0_wentUp, n0_open_size, n0_row_size, f0_row_levels, f0_row_values, f0_row_tags, f0_row_links, f0_row_keys, f0_row_living) H locs 45 ls hw hP hD hS dX3_close_45
    · have hw := hw.2 hc
      exact (hX17 _ _ _ _ _ _ _ _ _ _).mp hw H locs ls hP hD hS (lv_sub hl [] rfl)

theorem in_X3_drop_X3 : ∀ w ∈ wsX30, w ∈ wsX3_drop := by decide +kernel
theorem fl_X3_drop_16 : Cond.fieldLink RX3 16 "JoinBlocks" "open" "LJoinBlocks$Row;" ∈ wsX3_drop := by decide +kernel
theorem in_X3_drop_X1 : ∀ w ∈ wsX10, w ∈ wsX3_drop := by decide +kernel
theorem fl_X3_drop_59 : Cond.fieldLink RX3 59 "JoinBlocks$Row" "size" "I" ∈ wsX3_drop := by decide +kernel
abbrev pc_X3_drop (cs : Nat → ClassId) (h0 : Nat) (h0_open : Nat) (h0_row : Nat) (h0_stack : Nat) (h0_taken : Nat) (h0_kin : Nat) (h0_ranking : Nat) (h0_open_levels : Nat) (h0_open_values : Nat) (h0_open_tags : Nat) (h0_open_links : Nat) (h0_open_keys : Nat) (h0_open_living : Nat) (n0_depth : Int32) (b0_wentUp : Bool) (n0_open_size : Int32) : va_W := [(h0, .inr (3, [.ref h0_open, .ref h0_row, .ref h0_stack, .ref h0_taken, .ref h0_kin, .ref h0_ranking, .int n0_depth, .int (b2i b0_wentUp)])), (h0_open, .inr (1, [.ref h0_open_levels, .ref h0_open_values, .ref h0_open_tags, .ref h0_open_links, .ref h0_open_keys, .ref h0_open_living, .int n0_open_size]))]
abbrev rm_X3_drop : Room := { frames := 0, cells := 0, slots := 0, locals := 0 }
def call_X3_drop (n0_open_size : Int32) (Q : Int32 → Int32 → Prop) : Prop :=
    Q n0_open_size 0
set_option maxHeartbeats 4000000 in
set_option maxRecDepth 100000 in
theorem m_X3_drop (l : Launch) (D : va_G) (cs : Nat → ClassId) (h0 : Nat) (h0_open : Nat) (h0_row : Nat) (h0_stack : Nat) (h0_taken : Nat) (h0_kin : Nat) (h0_ranking : Nat) (h0_open_levels : Nat) (h0_open_values : Nat) (h0_open_tags : Nat) (h0_open_links : Nat) (h0_open_keys : Nat) (h0_open_living : Nat)  (n0_depth : Int32) (b0_wentUp : Bool) (n0_open_size : Int32) (Q : Int32 → Int32 → Prop) (h : call_X3_drop n0_open_size Q) : CtI l yX3_drop wsX3_drop rm_X3_drop D cs [.ref h0] (pc_X3_drop cs h0 h0_open h0_row h0_stack h0_taken h0_kin h0_ranking h0_open_levels h0_open_values h0_open_tags h0_open_links h0_open_keys h0_open_living n0_depth b0_wentUp n0_open_size) (fun u : Int32 => (pc_X3_drop cs h0 h0_open h0_row h0_stack h0_taken h0_kin h0_ranking h0_open_levels h0_open_values h0_open_tags h0_open_links h0_open_keys h0_open_living n0_depth b0_wentUp u)) (fun r u => Q r u) := by
  refine xo_I (S := Int32) (cc := cX3_drop) (maxL := 2) (own := RX3) (lv0 := [(0, .ref h0)]) (by decide) rfl rfl (Nat.le_of_ble_eq_true rfl) rfl ?_
  intro p e s m args below meth c A Z ls F hK hA hP hD hS hl RET
  have hw := h
  unfold call_X3_drop at hw
  generalize ([] : List Loc) = locs at hS ⊢
  obtain ⟨H, hHe⟩ : ∃ H, H = s.heap := ⟨_, rfl⟩
  have hP : va_P D vwCl (pc_X3_drop cs h0 h0_open h0_row h0_stack h0_taken h0_kin h0_ranking h0_open_levels h0_open_values h0_open_tags h0_open_links h0_open_keys h0_open_living n0_depth b0_wentUp n0_open_size) H := by rw [hHe]; exact hP
  have hS : va_S A s.heap H locs := by rw [hHe]; exact hS
  suffices W p l e rm_X3_drop s m args below meth c H locs 0 0 Z (F0 m 0 ls []) by rw [hHe] at this; exact this
  refine lv_aload_n F.1 F.2.1 dX3_drop_0 rfl (lv_at hl 0 rfl) ?_
  refine xi_get (C := RX3) (T := TX3) (N := 8) (v := .ref h0_open) F in_X3_drop_X3 hK hP 0 rfl rfl 0 (by decide) fl_X3_drop_16 rfl dX3_drop_1 ?_
  refine xi_get (C := RX1) (T := TX1) (N := 7) (v := .int n0_open_size) F in_X3_drop_X1 hK hP 1 rfl rfl 6 (by decide) fl_X3_drop_59 rfl dX3_drop_4 ?_
  refine lv_istore_n (lv' := [(1, .int n0_open_size), (0, .ref h0)]) F.1 F.2.1 dX3_drop_7 rfl hl (by decide) rfl (fun ls hl => ?_)
  refine lv_aload_n F.1 F.2.1 dX3_drop_8 rfl (lv_at hl 1 rfl) ?_
  refine xi_get (C := RX3) (T := TX3) (N := 8) (v := .ref h0_open) F in_X3_drop_X3 hK hP 0 rfl rfl 0 (by decide) fl_X3_drop_16 rfl dX3_drop_9 ?_
  refine lv_iconst (v := 0) F.1 F.2.1 dX3_drop_12 (by decide) ?_
  refine xi_put (C := RX1) (T := TX1) (N := 7) (v := .int 0) (ty := .int) F in_X3_drop_X1 tyX1 tyX1_ok nmX1 hK hP hD hS 1 rfl rfl 6 (by decide) fl_X3_drop_59 rfl (tyX1_ok 6 (by decide)) rfl rfl (Nat.le_of_ble_eq_true rfl) dX3_drop_13 (fun H locs hP hD hS => ?_)
  have hP : va_P D vwCl (pc_X3_drop cs h0 h0_open h0_row h0_stack h0_taken h0_kin h0_ranking h0_open_levels h0_open_values h0_open_tags h0_open_links h0_open_keys h0_open_living n0_depth b0_wentUp 0) H := hP
  have hD : va_D A (pc_X3_drop cs h0 h0_open h0_row h0_stack h0_taken h0_kin h0_ranking h0_open_levels h0_open_values h0_open_tags h0_open_links h0_open_keys h0_open_living n0_depth b0_wentUp 0) := hD
  refine lv_iload_n F.1 F.2.1 dX3_drop_16 rfl (lv_at hl 0 rfl) ?_
  exact RET n0_open_size (0) H locs 17 ls hw hP hD hS dX3_drop_17

theorem in_X3_kill_X3 : ∀ w ∈ wsX30, w ∈ wsX3_kill := by decide +kernel
theorem fl_X3_kill_20 : Cond.fieldLink RX3 20 "JoinBlocks" "row" "LJoinBlocks$Row;" ∈ wsX3_kill := by decide +kernel
abbrev pc_X3_kill (cs : Nat → ClassId) (h0 : Nat) (h0_open : Nat) (h0_row : Nat) (h0_stack : Nat) (h0_taken : Nat) (h0_kin : Nat) (h0_ranking : Nat) (h0_row_levels : Nat) (h0_row_values : Nat) (h0_row_tags : Nat) (h0_row_links : Nat) (h0_row_keys : Nat) (h0_row_living : Nat) (n0_depth : Int32) (b0_wentUp : Bool) (n0_row_size : Int32) (f0_row_levels : Nat → Int32) (f0_row_keys : Nat → Int32) (f0_row_living : Nat → Bool) : va_W := [(h0, .inr (3, [.ref h0_open, .ref h0_row, .ref h0_stack, .ref h0_taken, .ref h0_kin, .ref h0_ranking, .int n0_depth, .int (b2i b0_wentUp)])), (h0_row, .inr (1, [.ref h0_row_levels, .ref h0_row_values, .ref h0_row_tags, .ref h0_row_links, .ref h0_row_keys, .ref h0_row_living, .int n0_row_size])), (h0_row_levels, .inl (cs 0, 200, .inl f0_row_levels)), (h0_row_keys, .inl (cs 0, 200, .inl f0_row_keys)), (h0_row_living, .inl (cs 1, 200, .inl (bF f0_row_living)))]
abbrev rm_X3_kill : Room := { frames := 2, cells := 0, slots := 0, locals := 45 }
def call_X3_kill (p1 : Int32) (n0_depth : Int32) (b0_wentUp : Bool) (n0_row_size : Int32) (f0_row_levels : Nat → Int32) (f0_row_keys : Nat → Int32) (f0_row_living : Nat → Bool) (Q : Int32 → Int32 → Bool → (Nat → Bool) → Prop) : Prop :=
    (call_X1_livingRoot 200 p1 n0_row_size f0_row_levels f0_row_keys f0_row_living (fun (r5 : Int32) => ((¬ r5 = (-1) → (call_X3_forgetSets n0_depth b0_wentUp (fun (n0_depth_17 : Int32) (b0_wentUp_17 : Bool) => (call_X1_killBlock 200 r5 f0_row_levels f0_row_living (fun (r25 : Int32) (f0_row_living_25 : Nat → Bool) => Q r25 n0_depth_17 b0_wentUp_17 f0_row_living_25))))) ∧ (r5 = (-1) → Q (-1) n0_depth b0_wentUp f0_row_living))))
set_option maxHeartbeats 4000000 in
set_option maxRecDepth 100000 in
theorem m_X3_kill (l : Launch) (D : va_G) (cs : Nat → ClassId) (h0 : Nat) (h0_open : Nat) (h0_row : Nat) (h0_stack : Nat) (h0_taken : Nat) (h0_kin : Nat) (h0_ranking : Nat) (h0_row_levels : Nat) (h0_row_values : Nat) (h0_row_tags : Nat) (h0_row_links : Nat) (h0_row_keys : Nat) (h0_row_living : Nat)  (p1 : Int32) (n0_depth : Int32) (b0_wentUp : Bool) (n0_row_size : Int32) (f0_row_levels : Nat → Int32) (f0_row_keys : Nat → Int32) (f0_row_living : Nat → Bool) (Q : Int32 → Int32 → Bool → (Nat → Bool) → Prop) (h : call_X3_kill p1 n0_depth b0_wentUp n0_row_size f0_row_levels f0_row_keys f0_row_living Q) : CtI l yX3_kill wsX3_kill rm_X3_kill D cs [.ref h0, .int p1] (pc_X3_kill cs h0 h0_open h0_row h0_stack h0_taken h0_kin h0_ranking h0_row_levels h0_row_values h0_row_tags h0_row_links h0_row_keys h0_row_living n0_depth b0_wentUp n0_row_size f0_row_levels f0_row_keys f0_row_living) (fun u : Int32 × Bool × (Nat → Bool) => (pc_X3_kill cs h0 h0_open h0_row h0_stack h0_taken h0_kin h0_ranking h0_row_levels h0_row_values h0_row_tags h0_row_links h0_row_keys h0_row_living u.1 u.2.1 n0_row_size f0_row_levels f0_row_keys u.2.2)) (fun r u => Q r u.1 u.2.1 u.2.2) := by
  refine xo_I (S := Int32 × Bool × (Nat → Bool)) (cc := cX3_kill) (maxL := 3) (own := RX3) (lv0 := [(0, .ref h0), (1, .int p1)]) (by decide) rfl rfl (Nat.le_of_ble_eq_true rfl) rfl ?_
  intro p e s m args below meth c A Z ls F hK hA hP hD hS hl RET
  have hw := h
  unfold call_X3_kill at hw
  generalize ([] : List Loc) = locs at hS ⊢
  obtain ⟨H, hHe⟩ : ∃ H, H = s.heap := ⟨_, rfl⟩
  have hP : va_P D vwCl (pc_X3_kill cs h0 h0_open h0_row h0_stack h0_taken h0_kin h0_ranking h0_row_levels h0_row_values h0_row_tags h0_row_links h0_row_keys h0_row_living n0_depth b0_wentUp n0_row_size f0_row_levels f0_row_keys f0_row_living) H := by rw [hHe]; exact hP
  have hS : va_S A s.heap H locs := by rw [hHe]; exact hS
  suffices W p l e rm_X3_kill s m args below meth c H locs 0 0 Z (F0 m 0 ls []) by rw [hHe] at this; exact this
  refine lv_aload_n F.1 F.2.1 dX3_kill_0 rfl (lv_at hl 0 rfl) ?_
  refine xi_get (C := RX3) (T := TX3) (N := 8) (v := .ref h0_row) F in_X3_kill_X3 hK hP 0 rfl rfl 1 (by decide) fl_X3_kill_20 rfl dX3_kill_1 ?_
  refine lv_iload_n F.1 F.2.1 dX3_kill_4 rfl (lv_at hl 1 rfl) ?_
  refine xc_Vi (As := [.int p1]) (rest := []) (m_X1_livingRoot l D cs h0_row h0_row_levels h0_row_values h0_row_tags h0_row_links h0_row_keys h0_row_living 200 (by decide) p1 n0_row_size f0_row_levels f0_row_keys f0_row_living _ hw) F (cwV 1 F.2.2.2.2 gX3_kill_X1_livingRoot rfl rfl rfl (by decide +kernel) ⟨Nat.le_of_ble_eq_true rfl, Nat.le_of_ble_eq_true rfl⟩) hK hP hD hS hA [1, 2, 3, 4] [0] rfl rfl 0 rfl rfl rfl hl.1 rfl (Nat.le_of_ble_eq_true rfl) dX3_kill_5 ⟨Nat.zero_le _, Nat.zero_le _⟩ (fun r5 u H locs hw hP hD hS => ?_)
  have hP : va_P D vwCl (pc_X3_kill cs h0 h0_open h0_row h0_stack h0_taken h0_kin h0_ranking h0_row_levels h0_row_values h0_row_tags h0_row_links h0_row_keys h0_row_living n0_depth b0_wentUp n0_row_size f0_row_levels f0_row_keys f0_row_living) H := hP.sub [0, 1, 2, 3, 4] rfl
  have hD : va_D A (pc_X3_kill cs h0 h0_open h0_row h0_stack h0_taken h0_kin h0_ranking h0_row_levels h0_row_values h0_row_tags h0_row_links h0_row_keys h0_row_living n0_depth b0_wentUp n0_row_size f0_row_levels f0_row_keys f0_row_living) := hD.sub [0, 1, 2, 3, 4] (by decide) rfl
  try dsimp only at hw
  refine lv_istore_n (lv' := [(2, .int r5), (0, .ref h0), (1, .int p1)]) F.1 F.2.1 dX3_kill_8 rfl hl (by decide) rfl (fun ls hl => ?_)
  refine lv_iload_n F.1 F.2.1 dX3_kill_9 rfl (lv_at hl 0 rfl) ?_
  refine lv_iconst (v := (-1)) F.1 F.2.1 dX3_kill_10 (by decide) ?_
  refine lv_icmp_ne (tgt := 16) F.1 F.2.1 dX3_kill_11 (by decide) (fun hc => ?_) (fun hc => ?_)
  · have hw := hw.1 hc
    refine lv_aload_n F.1 F.2.1 dX3_kill_16 rfl (lv_at hl 1 rfl) ?_
    refine xc_Vv (As := []) (rest := []) (m_X3_forgetSets l D cs h0 h0_open h0_row h0_stack h0_taken h0_kin h0_ranking n0_depth b0_wentUp _ hw) F (cwV 0 F.2.2.2.2 gX3_kill_X3_forgetSets rfl rfl rfl (by decide +kernel) ⟨Nat.le_of_ble_eq_true rfl, Nat.le_of_ble_eq_true rfl⟩) hK hP hD hS hA [0] [1, 2, 3, 4] rfl rfl 0 rfl rfl rfl hl.1 rfl (Nat.le_of_ble_eq_true rfl) dX3_kill_17 ⟨Nat.zero_le _, Nat.zero_le _⟩ (fun u H locs hw hP hD hS => ?_)
    obtain ⟨n0_depth_17, b0_wentUp_17⟩ := u
    have hP : va_P D vwCl (pc_X3_kill cs h0 h0_open h0_row h0_stack h0_taken h0_kin h0_ranking h0_row_levels h0_row_values h0_row_tags h0_row_links h0_row_keys h0_row_living n0_depth_17 b0_wentUp_17 n0_row_size f0_row_levels f0_row_keys f0_row_living) H := hP.sub [4, 0, 1, 2, 3] rfl
    have hD : va_D A (pc_X3_kill cs h0 h0_open h0_row h0_stack h0_taken h0_kin h0_ranking h0_row_levels h0_row_values h0_row_tags h0_row_links h0_row_keys h0_row_living n0_depth_17 b0_wentUp_17 n0_row_size f0_row_levels f0_row_keys f0_row_living) := hD.sub [4, 0, 1, 2, 3] (by decide) rfl
    try dsimp only at hw
    refine lv_aload_n F.1 F.2.1 dX3_kill_20 rfl (lv_at hl 1 rfl) ?_
    refine xi_get (C := RX3) (T := TX3) (N := 8) (v := .ref h0_row) F in_X3_kill_X3 hK hP 0 rfl rfl 1 (by decide) fl_X3_kill_20 rfl dX3_kill_21 ?_
    refine lv_iload_n F.1 F.2.1 dX3_kill_24 rfl (lv_at hl 0 rfl) ?_
    refine xc_Vi (As := [.int r5]) (rest := []) (m_X1_killBlock l D cs h0_row h0_row_levels h0_row_values h0_row_tags h0_row_links h0_row_keys h0_row_living 200 (by decide) r5 n0_row_size f0_row_levels f0_row_living _ hw) F (cwV 1 F.2.2.2.2 gX3_kill_X1_killBlock rfl rfl rfl (by decide +kernel) ⟨Nat.le_of_ble_eq_true rfl, Nat.le_of_ble_eq_true rfl⟩) hK hP hD hS hA [1, 2, 4] [0, 3] rfl rfl 0 rfl rfl rfl hl.1 rfl (Nat.le_of_ble_eq_true rfl) dX3_kill_25 ⟨Nat.zero_le _, Nat.zero_le _⟩ (fun r25 u H locs hw hP hD hS => ?_)
    obtain ⟨f0_row_living_25, rfl⟩ : ∃ z, z = u := ⟨_, rfl⟩
    have hP : va_P D vwCl (pc_X3_kill cs h0 h0_open h0_row h0_stack h0_taken h0_kin h0_ranking h0_row_levels h0_row_values h0_row_tags h0_row_links h0_row_keys h0_row_living n0_depth_17 b0_wentUp_17 n0_row_size f0_row_levels f0_row_keys f0_row_living_25) H := hP.sub [0, 2, 3, 1, 4] rfl
    have hD : va_D A (pc_X3_kill cs h0 h0_open h0_row h0_stack h0_taken h0_kin h0_ranking h0_row_levels h0_row_values h0_row_tags h0_row_links h0_row_keys h0_row_living n0_depth_17 b0_wentUp_17 n0_row_size f0_row_levels f0_row_keys f0_row_living_25) := hD.sub [0, 2, 3, 1, 4] (by decide) rfl
    try dsimp only at hw
    exact RET r25 (n0_depth_17, b0_wentUp_17, f0_row_living_25) H locs 28 ls hw hP hD hS dX3_kill_28
  · have hw := hw.2 hc
    refine lv_iconst (v := (-1)) F.1 F.2.1 dX3_kill_14 (by decide) ?_
    exact RET (-1) (n0_depth, b0_wentUp, f0_row_living) H locs 15 ls hw hP hD hS dX3_kill_15

theorem in_X3_merge_X3 : ∀ w ∈ wsX30, w ∈ wsX3_merge := by decide +kernel
theorem fl_X3_merge_20 : Cond.fieldLink RX3 20 "JoinBlocks" "row" "LJoinBlocks$Row;" ∈ wsX3_merge := by decide +kernel
theorem in_X3_merge_X1 : ∀ w ∈ wsX10, w ∈ wsX3_merge := by decide +kernel
theorem fl_X3_merge_59 : Cond.fieldLink RX3 59 "JoinBlocks$Row" "size" "I" ∈ wsX3_merge := by decide +kernel
abbrev pc_X3_merge (cs : Nat → ClassId) (h0 : Nat) (h0_open : Nat) (h0_row : Nat) (h0_stack : Nat) (h0_taken : Nat) (h0_kin : Nat) (h0_ranking : Nat) (h0_row_levels : Nat) (h0_row_values : Nat) (h0_row_tags : Nat) (h0_row_links : Nat) (h0_row_keys : Nat) (h0_row_living : Nat) (n0_depth : Int32) (b0_wentUp : Bool) (n0_row_size : Int32) (f0_row_levels : Nat → Int32) (f0_row_values : Nat → Int32) (f0_row_tags : Nat → Int32) (f0_row_links : Nat → Int32) (f0_row_keys : Nat → Int32) (f0_row_living : Nat → Bool) : va_W := [(h0, .inr (3, [.ref h0_open, .ref h0_row, .ref h0_stack, .ref h0_taken, .ref h0_kin, .ref h0_ranking, .int n0_depth, .int (b2i b0_wentUp)])), (h0_row, .inr (1, [.ref h0_row_levels, .ref h0_row_values, .ref h0_row_tags, .ref h0_row_links, .ref h0_row_keys, .ref h0_row_living, .int n0_row_size])), (h0_row_levels, .inl (cs 0, 200, .inl f0_row_levels)), (h0_row_values, .inl (cs 0, 200, .inl f0_row_values)), (h0_row_tags, .inl (cs 0, 200, .inl f0_row_tags)), (h0_row_links, .inl (cs 0, 200, .inl f0_row_links)), (h0_row_keys, .inl (cs 0, 200, .inl f0_row_keys)), (h0_row_living, .inl (cs 1, 200, .inl (bF f0_row_living)))]
abbrev rm_X3_merge : Room := { frames := 3, cells := 0, slots := 0, locals := 69 }
def call_X3_merge (n0_depth : Int32) (b0_wentUp : Bool) (n0_row_size : Int32) (f0_row_levels : Nat → Int32) (f0_row_values : Nat → Int32) (f0_row_tags : Nat → Int32) (f0_row_links : Nat → Int32) (f0_row_keys : Nat → Int32) (f0_row_living : Nat → Bool) (Q : Int32 → Int32 → Bool → Int32 → (Nat → Int32) → (Nat → Int32) → (Nat → Int32) → (Nat → Int32) → (Nat → Int32) → (Nat → Bool) → Prop) : Prop :=
    (call_X1_keepLiving 200 n0_row_size f0_row_levels f0_row_values f0_row_tags f0_row_links f0_row_keys f0_row_living (fun (n0_row_size_4 : Int32) (f0_row_levels_4 : Nat → Int32) (f0_row_values_4 : Nat → Int32) (f0_row_tags_4 : Nat → Int32) (f0_row_links_4 : Nat → Int32) (f0_row_keys_4 : Nat → Int32) (f0_row_living_4 : Nat → Bool) => (call_X3_forgetSets n0_depth b0_wentUp (fun (n0_depth_8 : Int32) (b0_wentUp_8 : Bool) => Q n0_row_size_4 n0_depth_8 b0_wentUp_8 n0_row_size_4 f0_row_levels_4 f0_row_values_4 f0_row_tags_4 f0_row_links_4 f0_row_keys_4 f0_row_living_4))))
set_option maxHeartbeats 4000000 in
set_option maxRecDepth 100000 in
theorem m_X3_merge (l : Launch) (D : va_G) (cs : Nat → ClassId) (h0 : Nat) (h0_open : Nat) (h0_row : Nat) (h0_stack : Nat) (h0_taken : Nat) (h0_kin : Nat) (h0_ranking : Nat) (h0_row_levels : Nat) (h0_row_values : Nat) (h0_row_tags : Nat) (h0_row_links : Nat) (h0_row_keys : Nat) (h0_row_living : Nat)  (n0_depth : Int32) (b0_wentUp : Bool) (n0_row_size : Int32) (f0_row_levels : Nat → Int32) (f0_row_values : Nat → Int32) (f0_row_tags : Nat → Int32) (f0_row_links : Nat → Int32) (f0_row_keys : Nat → Int32) (f0_row_living : Nat → Bool) (Q : Int32 → Int32 → Bool → Int32 → (Nat → Int32) → (Nat → Int32) → (Nat → Int32) → (Nat → Int32) → (Nat → Int32) → (Nat → Bool) → Prop) (h : call_X3_merge n0_depth b0_wentUp n0_row_size f0_row_levels f0_row_values f0_row_tags f0_row_links f0_row_keys f0_row_living Q) : CtI l yX3_merge wsX3_merge rm_X3_merge D cs [.ref h0] (pc_X3_merge cs h0 h0_open h0_row h0_stack h0_taken h0_kin h0_ranking h0_row_levels h0_row_values h0_row_tags h0_row_links h0_row_keys h0_row_living n0_depth b0_wentUp n0_row_size f0_row_levels f0_row_values f0_row_tags f0_row_links f0_row_keys f0_row_living) (fun u : Int32 × Bool × Int32 × (Nat → Int32) × (Nat → Int32) × (Nat → Int32) × (Nat → Int32) × (Nat → Int32) × (Nat → Bool) => (pc_X3_merge cs h0 h0_open h0_row h0_stack h0_taken h0_kin h0_ranking h0_row_levels h0_row_values h0_row_tags h0_row_links h0_row_keys h0_row_living u.1 u.2.1 u.2.2.1 u.2.2.2.1 u.2.2.2.2.1 u.2.2.2.2.2.1 u.2.2.2.2.2.2.1 u.2.2.2.2.2.2.2.1 u.2.2.2.2.2.2.2.2)) (fun r u => Q r u.1 u.2.1 u.2.2.1 u.2.2.2.1 u.2.2.2.2.1 u.2.2.2.2.2.1 u.2.2.2.2.2.2.1 u.2.2.2.2.2.2.2.1 u.2.2.2.2.2.2.2.2) := by
  refine xo_I (S := Int32 × Bool × Int32 × (Nat → Int32) × (Nat → Int32) × (Nat → Int32) × (Nat → Int32) × (Nat → Int32) × (Nat → Bool)) (cc := cX3_merge) (maxL := 1) (own := RX3) (lv0 := [(0, .ref h0)]) (by decide) rfl rfl (Nat.le_of_ble_eq_true rfl) rfl ?_
  intro p e s m args below meth c A Z ls F hK hA hP hD hS hl RET
  have hw := h
  unfold call_X3_merge at hw
  generalize ([] : List Loc) = locs at hS ⊢
  obtain ⟨H, hHe⟩ : ∃ H, H = s.heap := ⟨_, rfl⟩
  have hP : va_P D vwCl (pc_X3_merge cs h0 h0_open h0_row h0_stack h0_taken h0_kin h0_ranking h0_row_levels h0_row_values h0_row_tags h0_row_links h0_row_keys h0_row_living n0_depth b0_wentUp n0_row_size f0_row_levels f0_row_values f0_row_tags f0_row_links f0_row_keys f0_row_living) H := by rw [hHe]; exact hP
  have hS : va_S A s.heap H locs := by rw [hHe]; exact hS
  suffices W p l e rm_X3_merge s m args below meth c H locs 0 0 Z (F0 m 0 ls []) by rw [hHe] at this; exact this
  refine lv_aload_n F.1 F.2.1 dX3_merge_0 rfl (lv_at hl 0 rfl) ?_
  refine xi_get (C := RX3) (T := TX3) (N := 8) (v := .ref h0_row) F in_X3_merge_X3 hK hP 0 rfl rfl 1 (by decide) fl_X3_merge_20 rfl dX3_merge_1 ?_
  refine xc_Vv (As := []) (rest := []) (m_X1_keepLiving l D cs h0_row h0_row_levels h0_row_values h0_row_tags h0_row_links h0_row_keys h0_row_living 200 (by decide) n0_row_size f0_row_levels f0_row_values f0_row_tags f0_row_links f0_row_keys f0_row_living _ hw) F (cwV 0 F.2.2.2.2 gX3_merge_X1_keepLiving rfl rfl rfl (by decide +kernel) ⟨Nat.le_of_ble_eq_true rfl, Nat.le_of_ble_eq_true rfl⟩) hK hP hD hS hA [1, 2, 3, 4, 5, 6, 7] [0] rfl rfl 0 rfl rfl rfl hl.1 rfl (Nat.le_of_ble_eq_true rfl) dX3_merge_4 ⟨Nat.zero_le _, Nat.zero_le _⟩ (fun u H locs hw hP hD hS => ?_)
  obtain ⟨n0_row_size_4, f0_row_levels_4, f0_row_values_4, f0_row_tags_4, f0_row_links_4, f0_row_keys_4, f0_row_living_4⟩ := u
  have hP : va_P D vwCl (pc_X3_merge cs h0 h0_open h0_row h0_stack h0_taken h0_kin h0_ranking h0_row_levels h0_row_values h0_row_tags h0_row_links h0_row_keys h0_row_living n0_depth b0_wentUp n0_row_size_4 f0_row_levels_4 f0_row_values_4 f0_row_tags_4 f0_row_links_4 f0_row_keys_4 f0_row_living_4) H := hP.sub [0, 1, 2, 3, 4, 5, 6, 7] rfl
  have hD : va_D A (pc_X3_merge cs h0 h0_open h0_row h0_stack h0_taken h0_kin h0_ranking h0_row_levels h0_row_values h0_row_tags h0_row_links h0_row_keys h0_row_living n0_depth b0_wentUp n0_row_size_4 f0_row_levels_4 f0_row_values_4 f0_row_tags_4 f0_row_links_4 f0_row_keys_4 f0_row_living_4) := hD.sub [0, 1, 2, 3, 4, 5, 6, 7] (by decide) rfl
  try dsimp only at hw
  refine lv_aload_n F.1 F.2.1 dX3_merge_7 rfl (lv_at hl 0 rfl) ?_
  refine xc_Vv (As := []) (rest := []) (m_X3_forgetSets l D cs h0 h0_open h0_row h0_stack h0_taken h0_kin h0_ranking n0_depth b0_wentUp _ hw) F (cwV 0 F.2.2.2.2 gX3_merge_X3_forgetSets rfl rfl rfl (by decide +kernel) ⟨Nat.le_of_ble_eq_true rfl, Nat.le_of_ble_eq_true rfl⟩) hK hP hD hS hA [0] [1, 2, 3, 4, 5, 6, 7] rfl rfl 0 rfl rfl rfl hl.1 rfl (Nat.le_of_ble_eq_true rfl) dX3_merge_8 ⟨Nat.zero_le _, Nat.zero_le _⟩ (fun u H locs hw hP hD hS => ?_)
  obtain ⟨n0_depth_8, b0_wentUp_8⟩ := u
  have hP : va_P D vwCl (pc_X3_merge cs h0 h0_open h0_row h0_stack h0_taken h0_kin h0_ranking h0_row_levels h0_row_values h0_row_tags h0_row_links h0_row_keys h0_row_living n0_depth_8 b0_wentUp_8 n0_row_size_4 f0_row_levels_4 f0_row_values_4 f0_row_tags_4 f0_row_links_4 f0_row_keys_4 f0_row_living_4) H := hP.sub [7, 0, 1, 2, 3, 4, 5, 6] rfl
  have hD : va_D A (pc_X3_merge cs h0 h0_open h0_row h0_stack h0_taken h0_kin h0_ranking h0_row_levels h0_row_values h0_row_tags h0_row_links h0_row_keys h0_row_living n0_depth_8 b0_wentUp_8 n0_row_size_4 f0_row_levels_4 f0_row_values_4 f0_row_tags_4 f0_row_links_4 f0_row_keys_4 f0_row_living_4) := hD.sub [7, 0, 1, 2, 3, 4, 5, 6] (by decide) rfl
  try dsimp only at hw
  refine lv_aload_n F.1 F.2.1 dX3_merge_11 rfl (lv_at hl 0 rfl) ?_
  refine xi_get (C := RX3) (T := TX3) (N := 8) (v := .ref h0_row) F in_X3_merge_X3 hK hP 0 rfl rfl 1 (by decide) fl_X3_merge_20 rfl dX3_merge_12 ?_
  refine xi_get (C := RX1) (T := TX1) (N := 7) (v := .int n0_row_size_4) F in_X3_merge_X1 hK hP 1 rfl rfl 6 (by decide) fl_X3_merge_59 rfl dX3_merge_15 ?_
  exact RET n0_row_size_4 (n0_depth_8, b0_wentUp_8, n0_row_size_4, f0_row_levels_4, f0_row_values_4, f0_row_tags_4, f0_row_links_4, f0_row_keys_4, f0_row_living_4) H locs 18 ls hw hP hD hS dX3_merge_18

theorem in_X3_object_X3 : ∀ w ∈ wsX30, w ∈ wsX3_object := by decide +kernel
theorem fl_X3_object_20 : Cond.fieldLink RX3 20 "JoinBlocks" "row" "LJoinBlocks$Row;" ∈ wsX3_object := by decide +kernel
theorem in_X3_object_X1 : ∀ w ∈ wsX10, w ∈ wsX3_object := by decide +kernel
theorem fl_X3_object_90 : Cond.fieldLink RX3 90 "JoinBlocks$Row" "levels" "[I" ∈ wsX3_object := by decide +kernel
theorem fl_X3_object_94 : Cond.fieldLink RX3 94 "JoinBlocks$Row" "values" "[I" ∈ wsX3_object := by decide +kernel
theorem fl_X3_object_97 : Cond.fieldLink RX3 97 "JoinBlocks$Row" "tags" "[I" ∈ wsX3_object := by decide +kernel
theorem fl_X3_object_100 : Cond.fieldLink RX3 100 "JoinBlocks$Row" "links" "[I" ∈ wsX3_object := by decide +kernel
theorem fl_X3_object_106 : Cond.fieldLink RX3 106 "JoinBlocks$Row" "keys" "[I" ∈ wsX3_object := by decide +kernel
theorem fl_X3_object_112 : Cond.fieldLink RX3 112 "JoinBlocks$Row" "living" "[Z" ∈ wsX3_object := by decide +kernel
abbrev pc_X3_object (cs : Nat → ClassId) (h0 : Nat) (h0_open : Nat) (h0_row : Nat) (h0_stack : Nat) (h0_taken : Nat) (h0_kin : Nat) (h0_ranking : Nat) (h0_row_levels : Nat) (h0_row_values : Nat) (h0_row_tags : Nat) (h0_row_links : Nat) (h0_row_keys : Nat) (h0_row_living : Nat) (n0_depth : Int32) (b0_wentUp : Bool) (n0_row_size : Int32) (f0_row_levels : Nat → Int32) (f0_row_values : Nat → Int32) (f0_row_tags : Nat → Int32) (f0_row_links : Nat → Int32) (f0_row_keys : Nat → Int32) (f0_row_living : Nat → Bool) : va_W := [(h0, .inr (3, [.ref h0_open, .ref h0_row, .ref h0_stack, .ref h0_taken, .ref h0_kin, .ref h0_ranking, .int n0_depth, .int (b2i b0_wentUp)])), (h0_row, .inr (1, [.ref h0_row_levels, .ref h0_row_values, .ref h0_row_tags, .ref h0_row_links, .ref h0_row_keys, .ref h0_row_living, .int n0_row_size])), (h0_row_levels, .inl (cs 0, 200, .inl f0_row_levels)), (h0_row_values, .inl (cs 0, 200, .inl f0_row_values)), (h0_row_tags, .inl (cs 0, 200, .inl f0_row_tags)), (h0_row_links, .inl (cs 0, 200, .inl f0_row_links)), (h0_row_keys, .inl (cs 0, 200, .inl f0_row_keys)), (h0_row_living, .inl (cs 1, 200, .inl (bF f0_row_living)))]
abbrev rm_X3_object : Room := { frames := 1, cells := 0, slots := 0, locals := 22 }
def call_X3_object (p1 : Int32) (p2 : Int32) (n0_row_size : Int32) (f0_row_levels : Nat → Int32) (f0_row_values : Nat → Int32) (f0_row_tags : Nat → Int32) (f0_row_links : Nat → Int32) (f0_row_keys : Nat → Int32) (f0_row_living : Nat → Bool) (Q : Int32 → Prop) : Prop := ∀ (X125 : Int32 → Prop) (X150 : Int32 → Prop) (X168 : Bool → Prop),
    (∀ (s0 : Int32),
      Q s0 → X125 s0) →
    (∀ (s0 : Int32),
      Q s0 → X150 s0) →
    (∀ (s0 : Bool),
      Q (b2i s0) → X168 s0) →
    (call_X1_holds p1 n0_row_size (fun (r5 : Bool) => ((r5 = true → ((p2 = 0 → (∃ j68 : Nat, j68 < 200 ∧ p1 = nI j68 ∧ Q (f0_row_levels j68))) ∧ (p2 = 1 → (∃ j78 : Nat, j78 < 200 ∧ p1 = nI j78 ∧ Q (f0_row_values j78))) ∧ (p2 = 2 → (∃ j88 : Nat, j88 < 200 ∧ p1 = nI j88 ∧ Q (f0_row_tags j88))) ∧ (p2 = 3 → (∃ j98 : Nat, j98 < 200 ∧ p1 = nI j98 ∧ Q (f0_row_links j98))) ∧ (p2 = 4 → (call_X1_isRoot 200 p1 f0_row_levels (fun (r105 : Bool) => ((r105 = false → X125 (-3)) ∧ (r105 = true → (∃ j119 : Nat, j119 < 200 ∧ p1 = nI j119 ∧ X125 (f0_row_keys j119))))))) ∧ (p2 = 5 → (call_X1_isRoot 200 p1 f0_row_levels (fun (r131 : Bool) => ((r131 = false → (call_X1_parentOf 200 p1 n0_row_size f0_row_levels (fun (r147 : Int32) => X150 r147))) ∧ (r131 = true → X150 (-3)))))) ∧ (p2 = 6 → (∃ j159 : Nat, j159 < 200 ∧ p1 = nI j159 ∧ (((f0_row_living j159) = false → X168 false) ∧ ((f0_row_living j159) = true → X168 true)))) ∧ (p2 = 7 → (call_X1_firstBelow 200 p1 f0_row_levels (fun (r175 : Int32) => Q (p1 - r175)))) ∧ (¬ p2 = 0 → ¬ p2 = 1 → ¬ p2 = 2 → ¬ p2 = 3 → ¬ p2 = 4 → ¬ p2 = 5 → ¬ p2 = 6 → ¬ p2 = 7 → Q (-2)))) ∧ (r5 = false → Q (-1)))))
set_option maxHeartbeats 4000000 in
set_option maxRecDepth 100000 in
theorem m_X3_object (l : Launch) (D : va_G) (cs : Nat → ClassId) (h0 : Nat) (h0_open : Nat) (h0_row : Nat) (h0_stack : Nat) (h0_taken : Nat) (h0_kin : Nat) (h0_ranking : Nat) (h0_row_levels : Nat) (h0_row_values : Nat) (h0_row_tags : Nat) (h0_row_links : Nat) (h0_row_keys : Nat) (h0_row_living : Nat)  (p1 : Int32) (p2 : Int32) (n0_depth : Int32) (b0_wentUp : Bool) (n0_row_size : Int32) (f0_row_levels : Nat → Int32) (f0_row_values : Nat → Int32) (f0_row_tags : Nat → Int32) (f0_row_links : Nat → Int32) (f0_row_keys : Nat → Int32) (f0_row_living : Nat → Bool) (Q : Int32 → Prop) (h : call_X3_object p1 p2 n0_row_size f0_row_levels f0_row_values f0_row_tags f0_row_links f0_row_keys f0_row_living Q) : CtI l yX3_object wsX3_object rm_X3_object D cs [.ref h0, .int p1, .int p2] (pc_X3_object cs h0 h0_open h0_row h0_stack h0_taken h0_kin h0_ranking h0_row_levels h0_row_values h0_row_tags h0_row_links h0_row_keys h0_row_living n0_depth b0_wentUp n0_row_size f0_row_levels f0_row_values f0_row_tags f0_row_links f0_row_keys f0_row_living) (fun u : Unit => (pc_X3_object cs h0 h0_open h0_row h0_stack h0_taken h0_kin h0_ranking h0_row_levels h0_row_values h0_row_tags h0_row_links h0_row_keys h0_row_living n0_depth b0_wentUp n0_row_size f0_row_levels f0_row_values f0_row_tags f0_row_links f0_row_keys f0_row_living)) (fun r u => Q r ) := by
  refine xo_I (S := Unit) (cc := cX3_object) (maxL := 3) (own := RX3) (lv0 := [(0, .ref h0), (1, .int p1), (2, .int p2)]) (by decide) rfl rfl (Nat.le_of_ble_eq_true rfl) rfl ?_
  intro p e s m args below meth c A Z ls F hK hA hP hD hS hl RET
  unfold call_X3_object at h
  obtain ⟨X125, hX125⟩ : ∃ X : Int32 → Prop, ∀ (s0 : Int32), (X s0 ↔ ∀ (H : Heap) (locs : List Loc) (ls : Array Slot), va_P D vwCl (pc_X3_object cs h0 h0_open h0_row h0_stack h0_taken h0_kin h0_ranking h0_row_levels h0_row_values h0_row_tags h0_row_links h0_row_keys h0_row_living n0_depth b0_wentUp n0_row_size f0_row_levels f0_row_values f0_row_tags f0_row_links f0_row_keys f0_row_living) H → va_D A (pc_X3_object cs h0 h0_open h0_row h0_stack h0_taken h0_kin h0_ranking h0_row_levels h0_row_values h0_row_tags h0_row_links h0_row_keys h0_row_living n0_depth b0_wentUp n0_row_size f0_row_levels f0_row_values f0_row_tags f0_row_links f0_row_keys f0_row_living) → va_S A s.heap H locs → lv_has ls 3 [] → W p l e rm_X3_object s m args below meth c H locs 0 0 Z (F0 m 125 ls [.int s0])) := ⟨_, fun _ => Iff.rfl⟩
  obtain ⟨X150, hX150⟩ : ∃ X : Int32 → Prop, ∀ (s0 : Int32), (X s0 ↔ ∀ (H : Heap) (locs : List Loc) (ls : Array Slot), va_P D vwCl (pc_X3_object cs h0 h0_open h0_row h0_stack h0_taken h0_kin h0_ranking h0_row_levels h0_row_values h0_row_tags h0_row_links h0_row_keys h0_row_living n0_depth b0_wentUp n0_row_size f0_row_levels f0_row_values f0_row_tags f0_row_links f0_row_keys f0_row_living) H → va_D A (pc_X3_object cs h0 h0_open h0_row h0_stack h0_taken h0_kin h0_ranking h0_row_levels h0_row_values h0_row_tags h0_row_links h0_row_keys h0_row_living n0_depth b0_wentUp n0_row_size f0_row_levels f0_row_values f0_row_tags f0_row_links f0_row_keys f0_row_living) → va_S A s.heap H locs → lv_has ls 3 [] → W p l e rm_X3_object s m args below meth c H locs 0 0 Z (F0 m 150 ls [.int s0])) := ⟨_, fun _ => Iff.rfl⟩
  obtain ⟨X168, hX168⟩ : ∃ X : Bool → Prop, ∀ (s0 : Bool), (X s0 ↔ ∀ (H : Heap) (locs : List Loc) (ls : Array Slot), va_P D vwCl (pc_X3_object cs h0 h0_open h0_row h0_stack h0_taken h0_kin h0_ranking h0_row_levels h0_row_values h0_row_tags h0_row_links h0_row_keys h0_row_living n0_depth b0_wentUp n0_row_size f0_row_levels f0_row_values f0_row_tags f0_row_links f0_row_keys f0_row_living) H → va_D A (pc_X3_object cs h0 h0_open h0_row h0_stack h0_taken h0_kin h0_ranking h0_row_levels h0_row_values h0_row_tags h0_row_links h0_row_keys h0_row_living n0_depth b0_wentUp n0_row_size f0_row_levels f0_row_values f0_row_tags f0_row_links f0_row_keys f0_row_living) → va_S A s.heap H locs → lv_has ls 3 [] → W p l e rm_X3_object s m args below meth c H locs 0 0 Z (F0 m 168 ls [.int (b2i s0)])) := ⟨_, fun _ => Iff.rfl⟩
  refine xt_cut (h X125 X150 X168 ?_ ?_ ?_) (fun hw => ?_)
  · intro s0 hw
    refine (hX125 _).mpr ?_
    intro H locs ls hP hD hS hl
    exact RET s0 () H locs 125 ls hw hP hD hS dX3_object_125
  · intro s0 hw
    refine (hX150 _).mpr ?_
    intro H locs ls hP hD hS hl
    exact RET s0 () H locs 150 ls hw hP hD hS dX3_object_150
  · intro s0 hw
    refine (hX168 _).mpr ?_
    intro H locs ls hP hD hS hl
    exact RET (b2i s0) () H locs 168 ls hw hP hD hS dX3_object_168
  generalize ([] : List Loc) = locs at hS ⊢
  obtain ⟨H, hHe⟩ : ∃ H, H = s.heap := ⟨_, rfl⟩
  have hP : va_P D vwCl (pc_X3_object cs h0 h0_open h0_row h0_stack h0_taken h0_kin h0_ranking h0_row_levels h0_row_values h0_row_tags h0_row_links h0_row_keys h0_row_living n0_depth b0_wentUp n0_row_size f0_row_levels f0_row_values f0_row_tags f0_row_links f0_row_keys f0_row_living) H := by rw [hHe]; exact hP
  have hS : va_S A s.heap H locs := by rw [hHe]; exact hS
  suffices W p l e rm_X3_object s m args below meth c H locs 0 0 Z (F0 m 0 ls []) by rw [hHe] at this; exact this
  refine lv_aload_n F.1 F.2.1 dX3_object_0 rfl (lv_at hl 0 rfl) ?_
  refine xi_get (C := RX3) (T := TX3) (N := 8) (v := .ref h0_row) F in_X3_object_X3 hK hP 0 rfl rfl 1 (by decide) fl_X3_object_20 rfl dX3_object_1 ?_
  refine lv_iload_n F.1 F.2.1 dX3_object_4 rfl (lv_at hl 1 rfl) ?_
  refine xc_Vz (As := [.int p1]) (rest := []) (m_X1_holds l D cs h0_row h0_row_levels h0_row_values h0_row_tags h0_row_links h0_row_keys h0_row_living p1 n0_row_size _ hw) F (cwV 1 F.2.2.2.2 gX3_object_X1_holds rfl rfl rfl (by decide +kernel) ⟨Nat.le_of_ble_eq_true rfl, Nat.le_of_ble_eq_true rfl⟩) hK hP hD hS hA [1] [0, 2, 3, 4, 5, 6, 7] rfl rfl 0 rfl rfl rfl hl.1 rfl (Nat.le_of_ble_eq_true rfl) dX3_object_5 ⟨Nat.zero_le _, Nat.zero_le _⟩ (fun r5 u H locs hw hP hD hS => ?_)
  have hP : va_P D vwCl (pc_X3_object cs h0 h0_open h0_row h0_stack h0_taken h0_kin h0_ranking h0_row_levels h0_row_values h0_row_tags h0_row_links h0_row_keys h0_row_living n0_depth b0_wentUp n0_row_size f0_row_levels f0_row_values f0_row_tags f0_row_links f0_row_keys f0_row_living) H := hP.sub [0, 7, 1, 2, 3, 4, 5, 6] rfl
  have hD : va_D A (pc_X3_object cs h0 h0_open h0_row h0_stack h0_taken h0_kin h0_ranking h0_row_levels h0_row_values h0_row_tags h0_row_links h0_row_keys h0_row_living n0_depth b0_wentUp n0_row_size f0_row_levels f0_row_values f0_row_tags f0_row_links f0_row_keys f0_row_living) := hD.sub [0, 7, 1, 2, 3, 4, 5, 6] (by decide) rfl
  try dsimp only at hw
  refine xi_ifnez (tgt := 13) F dX3_object_8 (by decide) (fun hc => ?_) (fun hc => ?_)
  · have hw := hw.1 hc
    refine lv_iload_n F.1 F.2.1 dX3_object_13 rfl (lv_at hl 2 rfl) ?_
    obtain ⟨hw0, hw1, hw2, hw3, hw4, hw5, hw6, hw7, hwd⟩ := hw
    by_cases hc0 : p2 = 0
    · have hw := hw0 hc0
      refine xi_tswIn (tgt := 60) (v := 0) (off := 46) F dX3_object_14 hc0 (by decide) ?_
      refine lv_aload_n F.1 F.2.1 dX3_object_60 rfl (lv_at hl 0 rfl) ?_
      refine xi_get (C := RX3) (T := TX3) (N := 8) (v := .ref h0_row) F in_X3_object_X3 hK hP 0 rfl rfl 1 (by decide) fl_X3_object_20 rfl dX3_object_61 ?_
      refine xi_get (C := RX1) (T := TX1) (N := 7) (v := .ref h0_row_levels) F in_X3_object_X1 hK hP 1 rfl rfl 0 (by decide) fl_X3_object_90 rfl dX3_object_64 ?_
      refine lv_iload_n F.1 F.2.1 dX3_object_67 rfl (lv_at hl 1 rfl) ?_
      obtain ⟨j68, hj, he, hw⟩ := hw
      refine xi_iald (j := j68) F hK hP 2 rfl (by decide) hj he dX3_object_68 ?_
      exact RET (f0_row_levels j68) () H locs 69 ls hw hP hD hS dX3_object_69
    by_cases hc1 : p2 = 1
    · have hw := hw1 hc1
      refine xi_tswIn (tgt := 70) (v := 1) (off := 56) F dX3_object_14 hc1 (by decide) ?_
      refine lv_aload_n F.1 F.2.1 dX3_object_70 rfl (lv_at hl 0 rfl) ?_
      refine xi_get (C := RX3) (T := TX3) (N := 8) (v := .ref h0_row) F in_X3_object_X3 hK hP 0 rfl rfl 1 (by decide) fl_X3_object_20 rfl dX3_object_71 ?_
      refine xi_get (C := RX1) (T := TX1) (N := 7) (v := .ref h0_row_values) F in_X3_object_X1 hK hP 1 rfl rfl 1 (by decide) fl_X3_object_94 rfl dX3_object_74 ?_
      refine lv_iload_n F.1 F.2.1 dX3_object_77 rfl (lv_at hl 1 rfl) ?_
      obtain ⟨j78, hj, he, hw⟩ := hw
      refine xi_iald (j := j78) F hK hP 3 rfl (by decide) hj he dX3_object_78 ?_
      exact RET (f0_row_values j78) () H locs 79 ls hw hP hD hS dX3_object_79
    by_cases hc2 : p2 = 2
    · have hw := hw2 hc2
      refine xi_tswIn (tgt := 80) (v := 2) (off := 66) F dX3_object_14 hc2 (by decide) ?_
      refine lv_aload_n F.1 F.2.1 dX3_object_80 rfl (lv_at hl 0 rfl) ?_
      refine xi_get (C := RX3) (T := TX3) (N := 8) (v := .ref h0_row) F in_X3_object_X3 hK hP 0 rfl rfl 1 (by decide) fl_X3_object_20 rfl dX3_object_81 ?_
      refine xi_get (C := RX1) (T := TX1) (N := 7) (v := .ref h0_row_tags) F in_X3_object_X1 hK hP 1 rfl rfl 2 (by decide) fl_X3_object_97 rfl dX3_object_84 ?_
      refine lv_iload_n F.1 F.2.1 dX3_object_87 rfl (lv_at hl 1 rfl) ?_
      obtain ⟨j88, hj, he, hw⟩ := hw
      refine xi_iald (j := j88) F hK hP 4 rfl (by decide) hj he dX3_object_88 ?_
      exact RET (f0_row_tags j88) () H locs 89 ls hw hP hD hS dX3_object_89
    by_cases hc3 : p2 = 3
    · have hw := hw3 hc3
      refine xi_tswIn (tgt := 90) (v := 3) (off := 76) F dX3_object_14 hc3 (by decide) ?_
      refine lv_aload_n F.1 F.2.1 dX3_object_90 rfl (lv_at hl 0 rfl) ?_
      refine xi_get (C := RX3) (T := TX3) (N := 8) (v := .ref h0_row) F in_X3_object_X3 hK hP 0 rfl rfl 1 (by decide) fl_X3_object_20 rfl dX3_object_91 ?_
      refine xi_get (C := RX1) (T := TX1) (N := 7) (v := .ref h0_row_links) F in_X3_object_X1 hK hP 1 rfl rfl 3 (by decide) fl_X3_object_100 rfl dX3_object_94 ?_
      refine lv_iload_n F.1 F.2.1 dX3_object_97 rfl (lv_at hl 1 rfl) ?_
      obtain ⟨j98, hj, he, hw⟩ := hw
      refine xi_iald (j := j98) F hK hP 5 rfl (by decide) hj he dX3_object_98 ?_
      exact RET (f0_row_links j98) () H locs 99 ls hw hP hD hS dX3_object_99
    by_cases hc4 : p2 = 4
    · have hw := hw4 hc4
      refine xi_tswIn (tgt := 100) (v := 4) (off := 86) F dX3_object_14 hc4 (by decide) ?_
      refine lv_aload_n F.1 F.2.1 dX3_object_100 rfl (lv_at hl 0 rfl) ?_
      refine xi_get (C := RX3) (T := TX3) (N := 8) (v := .ref h0_row) F in_X3_object_X3 hK hP 0 rfl rfl 1 (by decide) fl_X3_object_20 rfl dX3_object_101 ?_
      refine lv_iload_n F.1 F.2.1 dX3_object_104 rfl (lv_at hl 1 rfl) ?_
      refine xc_Vz (As := [.int p1]) (rest := []) (m_X1_isRoot l D cs h0_row h0_row_levels h0_row_values h0_row_tags h0_row_links h0_row_keys h0_row_living 200 (by decide) p1 n0_row_size f0_row_levels _ hw) F (cwV 1 F.2.2.2.2 gX3_object_X1_isRoot rfl rfl rfl (by decide +kernel) ⟨Nat.le_of_ble_eq_true rfl, Nat.le_of_ble_eq_true rfl⟩) hK hP hD hS hA [1, 2] [0, 3, 4, 5, 6, 7] rfl rfl 0 rfl rfl rfl hl.1 rfl (Nat.le_of_ble_eq_true rfl) dX3_object_105 ⟨Nat.zero_le _, Nat.zero_le _⟩ (fun r105 u H locs hw hP hD hS => ?_)
      have hP : va_P D vwCl (pc_X3_object cs h0 h0_open h0_row h0_stack h0_taken h0_kin h0_ranking h0_row_levels h0_row_values h0_row_tags h0_row_links h0_row_keys h0_row_living n0_depth b0_wentUp n0_row_size f0_row_levels f0_row_values f0_row_tags f0_row_links f0_row_keys f0_row_living) H := hP.sub [0, 6, 7, 1, 2, 3, 4, 5] rfl
      have hD : va_D A (pc_X3_object cs h0 h0_open h0_row h0_stack h0_taken h0_kin h0_ranking h0_row_levels h0_row_values h0_row_tags h0_row_links h0_row_keys h0_row_living n0_depth b0_wentUp n0_row_size f0_row_levels f0_row_values f0_row_tags f0_row_links f0_row_keys f0_row_living) := hD.sub [0, 6, 7, 1, 2, 3, 4, 5] (by decide) rfl
      try dsimp only at hw
      refine xi_ifeqz (tgt := 123) F dX3_object_108 (by decide) (fun hc => ?_) (fun hc => ?_)
      · have hw := hw.1 hc
        refine lv_bipush (v := (-3)) F.1 F.2.1 dX3_object_123 (by decide) ?_
        exact (hX125 _).mp hw H locs ls hP hD hS (lv_sub hl [] rfl)
      · have hw := hw.2 hc
        refine lv_aload_n F.1 F.2.1 dX3_object_111 rfl (lv_at hl 0 rfl) ?_
        refine xi_get (C := RX3) (T := TX3) (N := 8) (v := .ref h0_row) F in_X3_object_X3 hK hP 0 rfl rfl 1 (by decide) fl_X3_object_20 rfl dX3_object_112 ?_
        refine xi_get (C := RX1) (T := TX1) (N := 7) (v := .ref h0_row_keys) F in_X3_object_X1 hK hP 1 rfl rfl 4 (by decide) fl_X3_object_106 rfl dX3_object_115 ?_
        refine lv_iload_n F.1 F.2.1 dX3_object_118 rfl (lv_at hl 1 rfl) ?_
        obtain ⟨j119, hj, he, hw⟩ := hw
        refine xi_iald (j := j119) F hK hP 6 rfl (by decide) hj he dX3_object_119 ?_
        refine lv_goto (tgt := 125) F.1 F.2.1 dX3_object_120 (by decide) ?_
        exact (hX125 _).mp hw H locs ls hP hD hS (lv_sub hl [] rfl)
    by_cases hc5 : p2 = 5
    · have hw := hw5 hc5
      refine xi_tswIn (tgt := 126) (v := 5) (off := 112) F dX3_object_14 hc5 (by decide) ?_
      refine lv_aload_n F.1 F.2.1 dX3_object_126 rfl (lv_at hl 0 rfl) ?_
      refine xi_get (C := RX3) (T := TX3) (N := 8) (v := .ref h0_row) F in_X3_object_X3 hK hP 0 rfl rfl 1 (by decide) fl_X3_object_20 rfl dX3_object_127 ?_
      refine lv_iload_n F.1 F.2.1 dX3_object_130 rfl (lv_at hl 1 rfl) ?_
      refine xc_Vz (As := [.int p1]) (rest := []) (m_X1_isRoot l D cs h0_row h0_row_levels h0_row_values h0_row_tags h0_row_links h0_row_keys h0_row_living 200 (by decide) p1 n0_row_size f0_row_levels _ hw) F (cwV 1 F.2.2.2.2 gX3_object_X1_isRoot rfl rfl rfl (by decide +kernel) ⟨Nat.le_of_ble_eq_true rfl, Nat.le_of_ble_eq_true rfl⟩) hK hP hD hS hA [1, 2] [0, 3, 4, 5, 6, 7] rfl rfl 0 rfl rfl rfl hl.1 rfl (Nat.le_of_ble_eq_true rfl) dX3_object_131 ⟨Nat.zero_le _, Nat.zero_le _⟩ (fun r131 u H locs hw hP hD hS => ?_)
      have hP : va_P D vwCl (pc_X3_object cs h0 h0_open h0_row h0_stack h0_taken h0_kin h0_ranking h0_row_levels h0_row_values h0_row_tags h0_row_links h0_row_keys h0_row_living n0_depth b0_wentUp n0_row_size f0_row_levels f0_row_values f0_row_tags f0_row_links f0_row_keys f0_row_living) H := hP.sub [0, 6, 7, 1, 2, 3, 4, 5] rfl
      have hD : va_D A (pc_X3_object cs h0 h0_open h0_row h0_stack h0_taken h0_kin h0_ranking h0_row_levels h0_row_values h0_row_tags h0_row_links h0_row_keys h0_row_living n0_depth b0_wentUp n0_row_size f0_row_levels f0_row_values f0_row_tags f0_row_links f0_row_keys f0_row_living) := hD.sub [0, 6, 7, 1, 2, 3, 4, 5] (by decide) rfl
      try dsimp only at hw
      refine xi_ifeqz (tgt := 142) F dX3_object_134 (by decide) (fun hc => ?_) (fun hc => ?_)
      · have hw := hw.1 hc
        refine lv_aload_n F.1 F.2.1 dX3_object_142 rfl (lv_at hl 0 rfl) ?_
        refine xi_get (C := RX3) (T := TX3) (N := 8) (v := .ref h0_row) F in_X3_object_X3 hK hP 0 rfl rfl 1 (by decide) fl_X3_object_20 rfl dX3_object_143 ?_
        refine lv_iload_n F.1 F.2.1 dX3_object_146 rfl (lv_at hl 1 rfl) ?_
        refine xc_Vi (As := [.int p1]) (rest := []) (m_X1_parentOf l D cs h0_row h0_row_levels h0_row_values h0_row_tags h0_row_links h0_row_keys h0_row_living 200 (by decide) p1 n0_row_size f0_row_levels _ hw) F (cwV 1 F.2.2.2.2 gX3_object_X1_parentOf rfl rfl rfl (by decide +kernel) ⟨Nat.le_of_ble_eq_true rfl, Nat.le_of_ble_eq_true rfl⟩) hK hP hD hS hA [1, 2] [0, 3, 4, 5, 6, 7] rfl rfl 0 rfl rfl rfl hl.1 rfl (Nat.le_of_ble_eq_true rfl) dX3_object_147 ⟨Nat.zero_le _, Nat.zero_le _⟩ (fun r147 u H locs hw hP hD hS => ?_)
        have hP : va_P D vwCl (pc_X3_object cs h0 h0_open h0_row h0_stack h0_taken h0_kin h0_ranking h0_row_levels h0_row_values h0_row_tags h0_row_links h0_row_keys h0_row_living n0_depth b0_wentUp n0_row_size f0_row_levels f0_row_values f0_row_tags f0_row_links f0_row_keys f0_row_living) H := hP.sub [0, 6, 7, 1, 2, 3, 4, 5] rfl
        have hD : va_D A (pc_X3_object cs h0 h0_open h0_row h0_stack h0_taken h0_kin h0_ranking h0_row_levels h0_row_values h0_row_tags h0_row_links h0_row_keys h0_row_living n0_depth b0_wentUp n0_row_size f0_row_levels f0_row_values f0_row_tags f0_row_links f0_row_keys f0_row_living) := hD.sub [0, 6, 7, 1, 2, 3, 4, 5] (by decide) rfl
        try dsimp only at hw
        exact (hX150 _).mp hw H locs ls hP hD hS (lv_sub hl [] rfl)
      · have hw := hw.2 hc
        refine lv_bipush (v := (-3)) F.1 F.2.1 dX3_object_137 (by decide) ?_
        refine lv_goto (tgt := 150) F.1 F.2.1 dX3_object_139 (by decide) ?_
        exact (hX150 _).mp hw H locs ls hP hD hS (lv_sub hl [] rfl)
    by_cases hc6 : p2 = 6
    · have hw := hw6 hc6
      refine xi_tswIn (tgt := 151) (v := 6) (off := 137) F dX3_object_14 hc6 (by decide) ?_
      refine lv_aload_n F.1 F.2.1 dX3_object_151 rfl (lv_at hl 0 rfl) ?_
      refine xi_get (C := RX3) (T := TX3) (N := 8) (v := .ref h0_row) F in_X3_object_X3 hK hP 0 rfl rfl 1 (by decide) fl_X3_object_20 rfl dX3_object_152 ?_
      refine xi_get (C := RX1) (T := TX1) (N := 7) (v := .ref h0_row_living) F in_X3_object_X1 hK hP 1 rfl rfl 5 (by decide) fl_X3_object_112 rfl dX3_object_155 ?_
      refine lv_iload_n F.1 F.2.1 dX3_object_158 rfl (lv_at hl 1 rfl) ?_
      obtain ⟨j159, hj, he, hw⟩ := hw
      refine xi_zald (j := j159) F hK hP 7 rfl (by decide) hj he dX3_object_159 ?_
      refine xi_ifeqz (tgt := 167) F dX3_object_160 (by decide) (fun hc => ?_) (fun hc => ?_)
      · have hw := hw.1 hc
        refine lv_iconst (v := 0) F.1 F.2.1 dX3_object_167 (by decide) ?_
        exact (hX168 _).mp hw H locs ls hP hD hS (lv_sub hl [] rfl)
      · have hw := hw.2 hc
        refine lv_iconst (v := 1) F.1 F.2.1 dX3_object_163 (by decide) ?_
        refine lv_goto (tgt := 168) F.1 F.2.1 dX3_object_164 (by decide) ?_
        exact (hX168 _).mp hw H locs ls hP hD hS (lv_sub hl [] rfl)
    by_cases hc7 : p2 = 7
    · have hw := hw7 hc7
      refine xi_tswIn (tgt := 169) (v := 7) (off := 155) F dX3_object_14 hc7 (by decide) ?_
      refine lv_iload_n F.1 F.2.1 dX3_object_169 rfl (lv_at hl 1 rfl) ?_
      refine lv_aload_n F.1 F.2.1 dX3_object_170 rfl (lv_at hl 0 rfl) ?_
      refine xi_get (C := RX3) (T := TX3) (N := 8) (v := .ref h0_row) F in_X3_object_X3 hK hP 0 rfl rfl 1 (by decide) fl_X3_object_20 rfl dX3_object_171 ?_
      refine lv_iload_n F.1 F.2.1 dX3_object_174 rfl (lv_at hl 1 rfl) ?_
      refine xc_Vi (As := [.int p1]) (rest := [.int p1]) (m_X1_firstBelow l D cs h0_row h0_row_levels h0_row_values h0_row_tags h0_row_links h0_row_keys h0_row_living 200 (by decide) p1 n0_row_size f0_row_levels _ hw) F (cwV 1 F.2.2.2.2 gX3_object_X1_firstBelow rfl rfl rfl (by decide +kernel) ⟨Nat.le_of_ble_eq_true rfl, Nat.le_of_ble_eq_true rfl⟩) hK hP hD hS hA [1, 2] [0, 3, 4, 5, 6, 7] rfl rfl 0 rfl rfl rfl hl.1 rfl (Nat.le_of_ble_eq_true rfl) dX3_object_175 ⟨Nat.zero_le _, Nat.zero_le _⟩ (fun r175 u H locs hw hP hD hS => ?_)
      have hP : va_P D vwCl (pc_X3_object cs h0 h0_open h0_row h0_stack h0_taken h0_kin h0_ranking h0_row_levels h0_row_values h0_row_tags h0_row_links h0_row_keys h0_row_living n0_depth b0_wentUp n0_row_size f0_row_levels f0_row_values f0_row_tags f0_row_links f0_row_keys f0_row_living) H := hP.sub [0, 6, 7, 1, 2, 3, 4, 5] rfl
      have hD : va_D A (pc_X3_object cs h0 h0_open h0_row h0_stack h0_taken h0_kin h0_ranking h0_row_levels h0_row_values h0_row_tags h0_row_links h0_row_keys h0_row_living n0_depth b0_wentUp n0_row_size f0_row_levels f0_row_values f0_row_tags f0_row_links f0_row_keys f0_row_living) := hD.sub [0, 6, 7, 1, 2, 3, 4, 5] (by decide) rfl
      try dsimp only at hw
      refine lv_isub F.1 F.2.1 dX3_object_178 ?_
      exact RET (p1 - r175) () H locs 179 ls hw hP hD hS dX3_object_179
    have hw := hwd hc0 hc1 hc2 hc3 hc4 hc5 hc6 hc7
    refine xi_tswOut (tgt := 180) F dX3_object_14 (fun k hk => by rcases (show k = 0 ∨ k = 1 ∨ k = 2 ∨ k = 3 ∨ k = 4 ∨ k = 5 ∨ k = 6 ∨ k = 7 by omega) with rfl | rfl | rfl | rfl | rfl | rfl | rfl | rfl <;> assumption) (by decide) ?_
    refine lv_bipush (v := (-2)) F.1 F.2.1 dX3_object_180 (by decide) ?_
    exact RET (-2) () H locs 182 ls hw hP hD hS dX3_object_182
  · have hw := hw.2 hc
    refine lv_iconst (v := (-1)) F.1 F.2.1 dX3_object_11 (by decide) ?_
    exact RET (-1) () H locs 12 ls hw hP hD hS dX3_object_12

theorem in_X3_count_X3 : ∀ w ∈ wsX30, w ∈ wsX3_count := by decide +kernel
theorem fl_X3_count_20 : Cond.fieldLink RX3 20 "JoinBlocks" "row" "LJoinBlocks$Row;" ∈ wsX3_count := by decide +kernel
theorem in_X3_count_X1 : ∀ w ∈ wsX10, w ∈ wsX3_count := by decide +kernel
theorem fl_X3_count_59 : Cond.fieldLink RX3 59 "JoinBlocks$Row" "size" "I" ∈ wsX3_count := by decide +kernel
theorem fl_X3_count_16 : Cond.fieldLink RX3 16 "JoinBlocks" "open" "LJoinBlocks$Row;" ∈ wsX3_count := by decide +kernel
theorem fl_X3_count_44 : Cond.fieldLink RX3 44 "JoinBlocks" "depth" "I" ∈ wsX3_count := by decide +kernel
abbrev pc_X3_count (cs : Nat → ClassId) (h0 : Nat) (h0_open : Nat) (h0_row : Nat) (h0_stack : Nat) (h0_taken : Nat) (h0_kin : Nat) (h0_ranking : Nat) (h0_open_levels : Nat) (h0_open_values : Nat) (h0_open_tags : Nat) (h0_open_links : Nat) (h0_open_keys : Nat) (h0_open_living : Nat) (h0_row_levels : Nat) (h0_row_values : Nat) (h0_row_tags : Nat) (h0_row_links : Nat) (h0_row_keys : Nat) (h0_row_living : Nat) (n0_depth : Int32) (b0_wentUp : Bool) (n0_open_size : Int32) (n0_row_size : Int32) (f0_row_levels : Nat → Int32) (f0_row_living : Nat → Bool) : va_W := [(h0, .inr (3, [.ref h0_open, .ref h0_row, .ref h0_stack, .ref h0_taken, .ref h0_kin, .ref h0_ranking, .int n0_depth, .int (b2i b0_wentUp)])), (h0_open, .inr (1, [.ref h0_open_levels, .ref h0_open_values, .ref h0_open_tags, .ref h0_open_links, .ref h0_open_keys, .ref h0_open_living, .int n0_open_size])), (h0_row, .inr (1, [.ref h0_row_levels, .ref h0_row_values, .ref h0_row_tags, .ref h0_row_links, .ref h0_row_keys, .ref h0_row_living, .int n0_row_size])), (h0_row_levels, .inl (cs 0, 200, .inl f0_row_levels)), (h0_row_living, .inl (cs 1, 200, .inl (bF f0_row_living)))]
abbrev rm_X3_count : Room := { frames := 1, cells := 0, slots := 0, locals := 23 }
def call_X3_count (p1 : Int32) (n0_depth : Int32) (n0_open_size : Int32) (n0_row_size : Int32) (f0_row_levels : Nat → Int32) (f0_row_living : Nat → Bool) (Q : Int32 → Prop) : Prop :=
    ((p1 = 0 → Q n0_row_size) ∧ (p1 = 1 → (call_X1_countLiving 200 0 n0_row_size f0_row_levels f0_row_living (fun (r49 : Int32) => Q r49))) ∧ (p1 = 2 → (call_X1_countLiving 200 2 n0_row_size f0_row_levels f0_row_living (fun (r58 : Int32) => Q r58))) ∧ (p1 = 3 → Q n0_open_size) ∧ (p1 = 4 → Q n0_depth) ∧ (¬ p1 = 0 → ¬ p1 = 1 → ¬ p1 = 2 → ¬ p1 = 3 → ¬ p1 = 4 → Q (-2)))
set_option maxHeartbeats 4000000 in
set_option maxRecDepth 100000 in
theorem m_X3_count (l : Launch) (D : va_G) (cs : Nat → ClassId) (h0 : Nat) (h0_open : Nat) (h0_row : Nat) (h0_stack : Nat) (h0_taken : Nat) (h0_kin : Nat) (h0_ranking : Nat) (h0_open_levels : Nat) (h0_open_values : Nat) (h0_open_tags : Nat) (h0_open_links : Nat) (h0_open_keys : Nat) (h0_open_living : Nat) (h0_row_levels : Nat) (h0_row_values : Nat) (h0_row_tags : Nat) (h0_row_links : Nat) (h0_row_keys : Nat) (h0_row_living : Nat)  (p1 : Int32) (n0_depth : Int32) (b0_wentUp : Bool) (n0_open_size : Int32) (n0_row_size : Int32) (f0_row_levels : Nat → Int32) (f0_row_living : Nat → Bool) (Q : Int32 → Prop) (h : call_X3_count p1 n0_depth n0_open_size n0_row_size f0_row_levels f0_row_living Q) : CtI l yX3_count wsX3_count rm_X3_count D cs [.ref h0, .int p1] (pc_X3_count cs h0 h0_open h0_row h0_stack h0_taken h0_kin h0_ranking h0_open_levels h0_open_values h0_open_tags h0_open_links h0_open_keys h0_open_living h0_row_levels h0_row_values h0_row_tags h0_row_links h0_row_keys h0_row_living n0_depth b0_wentUp n0_open_size n0_row_size f0_row_levels f0_row_living) (fun u : Unit => (pc_X3_count cs h0 h0_open h0_row h0_stack h0_taken h0_kin h0_ranking h0_open_levels h0_open_values h0_open_tags h0_open_links h0_open_keys h0_open_living h0_row_levels h0_row_values h0_row_tags h0_row_links h0_row_keys h0_row_living n0_depth b0_wentUp n0_open_size n0_row_size f0_row_levels f0_row_living)) (fun r u => Q r ) := by
  refine xo_I (S := Unit) (cc := cX3_count) (maxL := 2) (own := RX3) (lv0 := [(0, .ref h0), (1, .int p1)]) (by decide) rfl rfl (Nat.le_of_ble_eq_true rfl) rfl ?_
  intro p e s m args below meth c A Z ls F hK hA hP hD hS hl RET
  have hw := h
  unfold call_X3_count at hw
  generalize ([] : List Loc) = locs at hS ⊢
  obtain ⟨H, hHe⟩ : ∃ H, H = s.heap := ⟨_, rfl⟩
  have hP : va_P D vwCl (pc_X3_count cs h0 h0_open h0_row h0_stack h0_taken h0_kin h0_ranking h0_open_levels h0_open_values h0_open_tags h0_open_links h0_open_keys h0_open_living h0_row_levels h0_row_values h0_row_tags h0_row_links h0_row_keys h0_row_living n0_depth b0_wentUp n0_open_size n0_row_size f0_row_levels f0_row_living) H := by rw [hHe]; exact hP
  have hS : va_S A s.heap H locs := by rw [hHe]; exact hS
  suffices W p l e rm_X3_count s m args below meth c H locs 0 0 Z (F0 m 0 ls []) by rw [hHe] at this; exact this
  refine lv_iload_n F.1 F.2.1 dX3_count_0 rfl (lv_at hl 1 rfl) ?_
  obtain ⟨hw0, hw1, hw2, hw3, hw4, hwd⟩ := hw
  by_cases hc0 : p1 = 0
  · have hw := hw0 hc0
    refine xi_tswIn (tgt := 36) (v := 0) (off := 35) F dX3_count_1 hc0 (by decide) ?_
    refine lv_aload_n F.1 F.2.1 dX3_count_36 rfl (lv_at hl 0 rfl) ?_
    refine xi_get (C := RX3) (T := TX3) (N := 8) (v := .ref h0_row) F in_X3_count_X3 hK hP 0 rfl rfl 1 (by decide) fl_X3_count_20 rfl dX3_count_37 ?_
    refine xi_get (C := RX1) (T := TX1) (N := 7) (v := .int n0_row_size) F in_X3_count_X1 hK hP 2 rfl rfl 6 (by decide) fl_X3_count_59 rfl dX3_count_40 ?_
    exact RET n0_row_size () H locs 43 ls hw hP hD hS dX3_count_43
  by_cases hc1 : p1 = 1
  · have hw := hw1 hc1
    refine xi_tswIn (tgt := 44) (v := 1) (off := 43) F dX3_count_1 hc1 (by decide) ?_
    refine lv_aload_n F.1 F.2.1 dX3_count_44 rfl (lv_at hl 0 rfl) ?_
    refine xi_get (C := RX3) (T := TX3) (N := 8) (v := .ref h0_row) F in_X3_count_X3 hK hP 0 rfl rfl 1 (by decide) fl_X3_count_20 rfl dX3_count_45 ?_
    refine lv_iconst (v := 0) F.1 F.2.1 dX3_count_48 (by decide) ?_
    refine xc_Vi (As := [.int 0]) (rest := []) (m_X1_countLiving l D cs h0_row h0_row_levels h0_row_values h0_row_tags h0_row_links h0_row_keys h0_row_living 200 (by decide) 0 n0_row_size f0_row_levels f0_row_living _ hw) F (cwV 1 F.2.2.2.2 gX3_count_X1_countLiving rfl rfl rfl (by decide +kernel) ⟨Nat.le_of_ble_eq_true rfl, Nat.le_of_ble_eq_true rfl⟩) hK hP hD hS hA [2, 3, 4] [0, 1] rfl rfl 0 rfl rfl rfl hl.1 rfl (Nat.le_of_ble_eq_true rfl) dX3_count_49 ⟨Nat.zero_le _, Nat.zero_le _⟩ (fun r49 u H locs hw hP hD hS => ?_)
    have hP : va_P D vwCl (pc_X3_count cs h0 h0_open h0_row h0_stack h0_taken h0_kin h0_ranking h0_open_levels h0_open_values h0_open_tags h0_open_links h0_open_keys h0_open_living h0_row_levels h0_row_values h0_row_tags h0_row_links h0_row_keys h0_row_living n0_depth b0_wentUp n0_open_size n0_row_size f0_row_levels f0_row_living) H := hP.sub [0, 1, 2, 3, 4] rfl
    have hD : va_D A (pc_X3_count cs h0 h0_open h0_row h0_stack h0_taken h0_kin h0_ranking h0_open_levels h0_open_values h0_open_tags h0_open_links h0_open_keys h0_open_living h0_row_levels h0_row_values h0_row_tags h0_row_links h0_row_keys h0_row_living n0_depth b0_wentUp n0_open_size n0_row_size f0_row_levels f0_row_living) := hD.sub [0, 1, 2, 3, 4] (by decide) rfl
    try dsimp only at hw
    exact RET r49 () H locs 52 ls hw hP hD hS dX3_count_52
  by_cases hc2 : p1 = 2
  · have hw := hw2 hc2
    refine xi_tswIn (tgt := 53) (v := 2) (off := 52) F dX3_count_1 hc2 (by decide) ?_
    refine lv_aload_n F.1 F.2.1 dX3_count_53 rfl (lv_at hl 0 rfl) ?_
    refine xi_get (C := RX3) (T := TX3) (N := 8) (v := .ref h0_row) F in_X3_count_X3 hK hP 0 rfl rfl 1 (by decide) fl_X3_count_20 rfl dX3_count_54 ?_
    refine lv_iconst (v := 2) F.1 F.2.1 dX3_count_57 (by decide) ?_
    refine xc_Vi (As := [.int 2]) (rest := []) (m_X1_countLiving l D cs h0_row h0_row_levels h0_row_values h0_row_tags h0_row_links h0_row_keys h0_row_living 200 (by decide) 2 n0_row_size f0_row_levels f0_row_living _ hw) F (cwV 1 F.2.2.2.2 gX3_count_X1_countLiving rfl rfl rfl (by decide +kernel) ⟨Nat.le_of_ble_eq_true rfl, Nat.le_of_ble_eq_true rfl⟩) hK hP hD hS hA [2, 3, 4] [0, 1] rfl rfl 0 rfl rfl rfl hl.1 rfl (Nat.le_of_ble_eq_true rfl) dX3_count_58 ⟨Nat.zero_le _, Nat.zero_le _⟩ (fun r58 u H locs hw hP hD hS => ?_)
    have hP : va_P D vwCl (pc_X3_count cs h0 h0_open h0_row h0_stack h0_taken h0_kin h0_ranking h0_open_levels h0_open_values h0_open_tags h0_open_links h0_open_keys h0_open_living h0_row_levels h0_row_values h0_row_tags h0_row_links h0_row_keys h0_row_living n0_depth b0_wentUp n0_open_size n0_row_size f0_row_levels f0_row_living) H := hP.sub [0, 1, 2, 3, 4] rfl
    have hD : va_D A (pc_X3_count cs h0 h0_open h0_row h0_stack h0_taken h0_kin h0_ranking h0_open_levels h0_open_values h0_open_tags h0_open_links h0_open_keys h0_open_living h0_row_levels h0_row_values h0_row_tags h0_row_links h0_row_keys h0_row_living n0_depth b0_wentUp n0_open_size n0_row_size f0_row_levels f0_row_living) := hD.sub [0, 1, 2, 3, 4] (by decide) rfl
    try dsimp only at hw
    exact RET r58 () H locs 61 ls hw hP hD hS dX3_count_61
  by_cases hc3 : p1 = 3
  · have hw := hw3 hc3
    refine xi_tswIn (tgt := 62) (v := 3) (off := 61) F dX3_count_1 hc3 (by decide) ?_
    refine lv_aload_n F.1 F.2.1 dX3_count_62 rfl (lv_at hl 0 rfl) ?_
    refine xi_get (C := RX3) (T := TX3) (N := 8) (v := .ref h0_open) F in_X3_count_X3 hK hP 0 rfl rfl 0 (by decide) fl_X3_count_16 rfl dX3_count_63 ?_
    refine xi_get (C := RX1) (T := TX1) (N := 7) (v := .int n0_open_size) F in_X3_count_X1 hK hP 1 rfl rfl 6 (by decide) fl_X3_count_59 rfl dX3_count_66 ?_
    exact RET n0_open_size () H locs 69 ls hw hP hD hS dX3_count_69
  by_cases hc4 : p1 = 4
  · have hw := hw4 hc4
    refine xi_tswIn (tgt := 70) (v := 4) (off := 69) F dX3_count_1 hc4 (by decide) ?_
    refine lv_aload_n F.1 F.2.1 dX3_count_70 rfl (lv_at hl 0 rfl) ?_
    refine xi_get (C := RX3) (T := TX3) (N := 8) (v := .int n0_depth) F in_X3_count_X3 hK hP 0 rfl rfl 6 (by decide) fl_X3_count_44 rfl dX3_count_71 ?_
    exact RET n0_depth () H locs 74 ls hw hP hD hS dX3_count_74
  have hw := hwd hc0 hc1 hc2 hc3 hc4
  refine xi_tswOut (tgt := 75) F dX3_count_1 (fun k hk => by rcases (show k = 0 ∨ k = 1 ∨ k = 2 ∨ k = 3 ∨ k = 4 by omega) with rfl | rfl | rfl | rfl | rfl <;> assumption) (by decide) ?_
  refine lv_bipush (v := (-2)) F.1 F.2.1 dX3_count_75 (by decide) ?_
  exact RET (-2) () H locs 77 ls hw hP hD hS dX3_count_77

theorem in_X3_root_X3 : ∀ w ∈ wsX30, w ∈ wsX3_root := by decide +kernel
theorem fl_X3_root_20 : Cond.fieldLink RX3 20 "JoinBlocks" "row" "LJoinBlocks$Row;" ∈ wsX3_root := by decide +kernel
abbrev pc_X3_root (cs : Nat → ClassId) (h0 : Nat) (h0_open : Nat) (h0_row : Nat) (h0_stack : Nat) (h0_taken : Nat) (h0_kin : Nat) (h0_ranking : Nat) (h0_row_levels : Nat) (h0_row_values : Nat) (h0_row_tags : Nat) (h0_row_links : Nat) (h0_row_keys : Nat) (h0_row_living : Nat) (n0_depth : Int32) (b0_wentUp : Bool) (n0_row_size : Int32) (f0_row_levels : Nat → Int32) (f0_row_keys : Nat → Int32) (f0_row_living : Nat → Bool) : va_W := [(h0, .inr (3, [.ref h0_open, .ref h0_row, .ref h0_stack, .ref h0_taken, .ref h0_kin, .ref h0_ranking, .int n0_depth, .int (b2i b0_wentUp)])), (h0_row, .inr (1, [.ref h0_row_levels, .ref h0_row_values, .ref h0_row_tags, .ref h0_row_links, .ref h0_row_keys, .ref h0_row_living, .int n0_row_size])), (h0_row_levels, .inl (cs 0, 200, .inl f0_row_levels)), (h0_row_keys, .inl (cs 0, 200, .inl f0_row_keys)), (h0_row_living, .inl (cs 1, 200, .inl (bF f0_row_living)))]
abbrev rm_X3_root : Room := { frames := 2, cells := 0, slots := 0, locals := 43 }
def call_X3_root (p1 : Int32) (n0_row_size : Int32) (f0_row_levels : Nat → Int32) (f0_row_keys : Nat → Int32) (f0_row_living : Nat → Bool) (Q : Int32 → Prop) : Prop := ∀ (X19 : Int32 → Prop),
    (∀ (s0 : Int32),
      Q s0 → X19 s0) →
    (call_X1_livingRoot 200 p1 n0_row_size f0_row_levels f0_row_keys f0_row_living (fun (r5 : Int32) => ((¬ r5 = (-1) → X19 r5) ∧ (r5 = (-1) → X19 (-1)))))
set_option maxHeartbeats 4000000 in
set_option maxRecDepth 100000 in
theorem m_X3_root (l : Launch) (D : va_G) (cs : Nat → ClassId) (h0 : Nat) (h0_open : Nat) (h0_row : Nat) (h0_stack : Nat) (h0_taken : Nat) (h0_kin : Nat) (h0_ranking : Nat) (h0_row_levels : Nat) (h0_row_values : Nat) (h0_row_tags : Nat) (h0_row_links : Nat) (h0_row_keys : Nat) (h0_row_living : Nat)  (p1 : Int32) (n0_depth : Int32) (b0_wentUp : Bool) (n0_row_size : Int32) (f0_row_levels : Nat → Int32) (f0_row_keys : Nat → Int32) (f0_row_living : Nat → Bool) (Q : Int32 → Prop) (h : call_X3_root p1 n0_row_size f0_row_levels f0_row_keys f0_row_living Q) : CtI l yX3_root wsX3_root rm_X3_root D cs [.ref h0, .int p1] (pc_X3_root cs h0 h0_open h0_row h0_stack h0_taken h0_kin h0_ranking h0_row_levels h0_row_values h0_row_tags h0_row_links h0_row_keys h0_row_living n0_depth b0_wentUp n0_row_size f0_row_levels f0_row_keys f0_row_living) (fun u : Unit => (pc_X3_root cs h0 h0_open h0_row h0_stack h0_taken h0_kin h0_ranking h0_row_levels h0_row_values h0_row_tags h0_row_links h0_row_keys h0_row_living n0_depth b0_wentUp n0_row_size f0_row_levels f0_row_keys f0_row_living)) (fun r u => Q r ) := by
  refine xo_I (S := Unit) (cc := cX3_root) (maxL := 3) (own := RX3) (lv0 := [(0, .ref h0), (1, .int p1)]) (by decide) rfl rfl (Nat.le_of_ble_eq_true rfl) rfl ?_
  intro p e s m args below meth c A Z ls F hK hA hP hD hS hl RET
  unfold call_X3_root at h
  obtain ⟨X19, hX19⟩ : ∃ X : Int32 → Prop, ∀ (s0 : Int32), (X s0 ↔ ∀ (H : Heap) (locs : List Loc) (ls : Array Slot), va_P D vwCl (pc_X3_root cs h0 h0_open h0_row h0_stack h0_taken h0_kin h0_ranking h0_row_levels h0_row_values h0_row_tags h0_row_links h0_row_keys h0_row_living n0_depth b0_wentUp n0_row_size f0_row_levels f0_row_keys f0_row_living) H → va_D A (pc_X3_root cs h0 h0_open h0_row h0_stack h0_taken h0_kin h0_ranking h0_row_levels h0_row_values h0_row_tags h0_row_links h0_row_keys h0_row_living n0_depth b0_wentUp n0_row_size f0_row_levels f0_row_keys f0_row_living) → va_S A s.heap H locs → lv_has ls 3 [] → W p l e rm_X3_root s m args below meth c H locs 0 0 Z (F0 m 19 ls [.int s0])) := ⟨_, fun _ => Iff.rfl⟩
  refine xt_cut (h X19 ?_) (fun hw => ?_)
  · intro s0 hw
    refine (hX19 _).mpr ?_
    intro H locs ls hP hD hS hl
    exact RET s0 () H locs 19 ls hw hP hD hS dX3_root_19
  generalize ([] : List Loc) = locs at hS ⊢
  obtain ⟨H, hHe⟩ : ∃ H, H = s.heap := ⟨_, rfl⟩
  have hP : va_P D vwCl (pc_X3_root cs h0 h0_open h0_row h0_stack h0_taken h0_kin h0_ranking h0_row_levels h0_row_values h0_row_tags h0_row_links h0_row_keys h0_row_living n0_depth b0_wentUp n0_row_size f0_row_levels f0_row_keys f0_row_living) H := by rw [hHe]; exact hP
  have hS : va_S A s.heap H locs := by rw [hHe]; exact hS
  suffices W p l e rm_X3_root s m args below meth c H locs 0 0 Z (F0 m 0 ls []) by rw [hHe] at this; exact this
  refine lv_aload_n F.1 F.2.1 dX3_root_0 rfl (lv_at hl 0 rfl) ?_
  refine xi_get (C := RX3) (T := TX3) (N := 8) (v := .ref h0_row) F in_X3_root_X3 hK hP 0 rfl rfl 1 (by decide) fl_X3_root_20 rfl dX3_root_1 ?_
  refine lv_iload_n F.1 F.2.1 dX3_root_4 rfl (lv_at hl 1 rfl) ?_
  refine xc_Vi (As := [.int p1]) (rest := []) (m_X1_livingRoot l D cs h0_row h0_row_levels h0_row_values h0_row_tags h0_row_links h0_row_keys h0_row_living 200 (by decide) p1 n0_row_size f0_row_levels f0_row_keys f0_row_living _ hw) F (cwV 1 F.2.2.2.2 gX3_root_X1_livingRoot rfl rfl rfl (by decide +kernel) ⟨Nat.le_of_ble_eq_true rfl, Nat.le_of_ble_eq_true rfl⟩) hK hP hD hS hA [1, 2, 3, 4] [0] rfl rfl 0 rfl rfl rfl hl.1 rfl (Nat.le_of_ble_eq_true rfl) dX3_root_5 ⟨Nat.zero_le _, Nat.zero_le _⟩ (fun r5 u H locs hw hP hD hS => ?_)
  have hP : va_P D vwCl (pc_X3_root cs h0 h0_open h0_row h0_stack h0_taken h0_kin h0_ranking h0_row_levels h0_row_values h0_row_tags h0_row_links h0_row_keys h0_row_living n0_depth b0_wentUp n0_row_size f0_row_levels f0_row_keys f0_row_living) H := hP.sub [0, 1, 2, 3, 4] rfl
  have hD : va_D A (pc_X3_root cs h0 h0_open h0_row h0_stack h0_taken h0_kin h0_ranking h0_row_levels h0_row_values h0_row_tags h0_row_links h0_row_keys h0_row_living n0_depth b0_wentUp n0_row_size f0_row_levels f0_row_keys f0_row_living) := hD.sub [0, 1, 2, 3, 4] (by decide) rfl
  try dsimp only at hw
  refine lv_istore_n (lv' := [(2, .int r5), (0, .ref h0), (1, .int p1)]) F.1 F.2.1 dX3_root_8 rfl hl (by decide) rfl (fun ls hl => ?_)
  refine lv_iload_n F.1 F.2.1 dX3_root_9 rfl (lv_at hl 0 rfl) ?_
  refine lv_iconst (v := (-1)) F.1 F.2.1 dX3_root_10 (by decide) ?_
  refine lv_icmp_ne (tgt := 18) F.1 F.2.1 dX3_root_11 (by decide) (fun hc => ?_) (fun hc => ?_)
  · have hw := hw.1 hc
    refine lv_iload_n F.1 F.2.1 dX3_root_18 rfl (lv_at hl 0 rfl) ?_
    exact (hX19 _).mp hw H locs ls hP hD hS (lv_sub hl [] rfl)
  · have hw := hw.2 hc
    refine lv_iconst (v := (-1)) F.1 F.2.1 dX3_root_14 (by decide) ?_
    refine lv_goto (tgt := 19) F.1 F.2.1 dX3_root_15 (by decide) ?_
    exact (hX19 _).mp hw H locs ls hP hD hS (lv_sub hl [] rfl)

theorem in_X3_find_X3 : ∀ w ∈ wsX30, w ∈ wsX3_find := by decide +kernel
theorem fl_X3_find_20 : Cond.fieldLink RX3 20 "JoinBlocks" "row" "LJoinBlocks$Row;" ∈ wsX3_find := by decide +kernel
theorem in_X3_find_X1 : ∀ w ∈ wsX10, w ∈ wsX3_find := by decide +kernel
theorem fl_X3_find_59 : Cond.fieldLink RX3 59 "JoinBlocks$Row" "size" "I" ∈ wsX3_find := by decide +kernel
theorem fl_X3_find_44 : Cond.fieldLink RX3 44 "JoinBlocks" "depth" "I" ∈ wsX3_find := by decide +kernel
theorem in_X3_find_X2 : ∀ w ∈ wsX20, w ∈ wsX3_find := by decide +kernel
theorem fl_X3_find_140 : Cond.fieldLink RX3 140 "JoinBlocks$ScoredSet" "size" "I" ∈ wsX3_find := by decide +kernel
theorem fl_X3_find_112 : Cond.fieldLink RX3 112 "JoinBlocks$Row" "living" "[Z" ∈ wsX3_find := by decide +kernel
theorem fl_X3_find_25 : Cond.fieldLink RX3 25 "JoinBlocks" "stack" "[LJoinBlocks$ScoredSet;" ∈ wsX3_find := by decide +kernel
abbrev pc_X3_find (cs : Nat → ClassId) (h0 : Nat) (h0_open : Nat) (h0_row : Nat) (h0_stack : Nat) (h0_taken : Nat) (h0_kin : Nat) (h0_ranking : Nat) (h0_row_levels : Nat) (h0_row_values : Nat) (h0_row_tags : Nat) (h0_row_links : Nat) (h0_row_keys : Nat) (h0_row_living : Nat) (hs1 : Nat) (hs1_members : Nat) (hs1_scores : Nat) (n0_depth : Int32) (b0_wentUp : Bool) (n0_row_size : Int32) (f0_row_levels : Nat → Int32) (f0_row_values : Nat → Int32) (f0_row_tags : Nat → Int32) (f0_row_links : Nat → Int32) (f0_row_keys : Nat → Int32) (f0_row_living : Nat → Bool) (f0_stack : Nat → Option Nat) (ns1_size : Int32) (fs1_members : Nat → Bool) (fs1_scores : Nat → Int64) : va_W := [(h0, .inr (3, [.ref h0_open, .ref h0_row, .ref h0_stack, .ref h0_taken, .ref h0_kin, .ref h0_ranking, .int n0_depth, .int (b2i b0_wentUp)])), (h0_row, .inr (1, [.ref h0_row_levels, .ref h0_row_values, .ref h0_row_tags, .ref h0_row_links, .ref h0_row_keys, .ref h0_row_living, .int n0_row_size])), (h0_row_levels, .inl (cs 0, 200, .inl f0_row_levels)), (h0_row_values, .inl (cs 0, 200, .inl f0_row_values)), (h0_row_tags, .inl (cs 0, 200, .inl f0_row_tags)), (h0_row_links, .inl (cs 0, 200, .inl f0_row_links)), (h0_row_keys, .inl (cs 0, 200, .inl f0_row_keys)), (h0_row_living, .inl (cs 1, 200, .inl (bF f0_row_living))), (h0_stack, .inl (cs 3, 8, .inr (.inr (.inr (.inr f0_stack))))), (hs1, .inr (2, [.ref hs1_members, .ref hs1_scores, .int ns1_size])), (hs1_members, .inl (cs 1, 200, .inl (bF fs1_members))), (hs1_scores, .inl (cs 2, 200, .inr (.inl fs1_scores)))]
abbrev rm_X3_find : Room := { frames := 3, cells := 0, slots := 0, locals := 64 }
def call_X3_find (ds1 : Nat) (p1 : Int32) (p2 : Int32) (p3 : Int32) (n0_depth : Int32) (n0_row_size : Int32) (f0_row_levels : Nat → Int32) (f0_row_values : Nat → Int32) (f0_row_tags : Nat → Int32) (f0_row_links : Nat → Int32) (f0_row_keys : Nat → Int32) (f0_row_living : Nat → Bool) (ns1_size : Int32) (fs1_members : Nat → Bool) (fs1_scores : Nat → Int64) (Q : Int32 → Int32 → Int32 → (Nat → Bool) → (Nat → Int64) → Prop) : Prop := ∀ (X43 : Int32 → Int32 → Int32 → (Nat → Bool) → (Nat → Int64) → Prop) (X95 : Int32 → Int32 → Int32 → (Nat → Bool) → (Nat → Int64) → Prop),
    (∀ (x5 : Int32) (n0_depth : Int32) (ns1_size : Int32) (fs1_members : Nat → Bool) (fs1_scores : Nat → Int64),
      ((n0_row_size ≤ x5 → Q ns1_size (n0_depth + 1) ns1_size fs1_members fs1_scores) ∧ (¬ n0_row_size ≤ x5 → (∃ j64 : Nat, j64 < 200 ∧ x5 = nI j64 ∧ (((f0_row_living j64) = false → X95 x5 n0_depth ns1_size fs1_members fs1_scores) ∧ ((f0_row_living j64) = true → (call_X3_isFound x5 p1 p2 p3 f0_row_levels f0_row_values f0_row_tags f0_row_links f0_row_keys (fun (r74 : Bool) => ((r74 = false → X95 x5 n0_depth ns1_size fs1_members fs1_scores) ∧ (r74 = true → (call_X3_scoreFound x5 p1 p2 f0_row_values (fun (r89 : Int64) => (call_X2_put x5 r89 ns1_size fs1_members fs1_scores (fun (ns1_size_92 : Int32) (fs1_members_92 : Nat → Bool) (fs1_scores_92 : Nat → Int64) => X95 x5 n0_depth ns1_size_92 fs1_members_92 fs1_scores_92))))))))))))) → X43 x5 n0_depth ns1_size fs1_members fs1_scores) →
    (∀ (x5 : Int32) (n0_depth : Int32) (ns1_size : Int32) (fs1_members : Nat → Bool) (fs1_scores : Nat → Int64),
      X43 (x5 + 1) n0_depth ns1_size fs1_members fs1_scores → X95 x5 n0_depth ns1_size fs1_members fs1_scores) →
    (call_X3_canBeFound p1 p2 p3 (fun (r3 : Bool) => ((r3 = true → ((n0_depth < 8 → (n0_depth = nI ds1 ∧ (call_X2_clear ns1_size fs1_members (fun (ns1_size_37 : Int32) (fs1_members_37 : Nat → Bool) => X43 0 n0_depth ns1_size_37 fs1_members_37 fs1_scores)))) ∧ (¬ n0_depth < 8 → Q (-4) n0_depth ns1_size fs1_members fs1_scores))) ∧ (r3 = false → Q (-2) n0_depth ns1_size fs1_members fs1_scores))))
set_option maxHeartbeats 4000000 in
set_option maxRecDepth 100000 in
theorem m_X3_find (l : Launch) (D : va_G) (cs : Nat → ClassId) (h0 : Nat) (h0_open : Nat) (h0_row : Nat) (h0_stack : Nat) (h0_taken : Nat) (h0_kin : Nat) (h0_ranking : Nat) (h0_row_levels : Nat) (h0_row_values : Nat) (h0_row_tags : Nat) (h0_row_links : Nat) (h0_row_keys : Nat) (h0_row_living : Nat) (hs1 : Nat) (hs1_members : Nat) (hs1_scores : Nat)  (p1 : Int32) (p2 : Int32) (p3 : Int32) (n0_depth : Int32) (b0_wentUp : Bool) (n0_row_size : Int32) (f0_row_levels : Nat → Int32) (f0_row_values : Nat → Int32) (f0_row_tags : Nat → Int32) (f0_row_links : Nat → Int32) (f0_row_keys : Nat → Int32) (f0_row_living : Nat → Bool) (f0_stack : Nat → Option Nat) (ns1_size : Int32) (fs1_members : Nat → Bool) (fs1_scores : Nat → Int64) (ds1 : Nat) (hds1 : ds1 < 8) (hfs1 : f0_stack ds1 = some hs1) (Q : Int32 → Int32 → Int32 → (Nat → Bool) → (Nat → Int64) → Prop) (h : call_X3_find ds1 p1 p2 p3 n0_depth n0_row_size f0_row_levels f0_row_values f0_row_tags f0_row_links f0_row_keys f0_row_living ns1_size fs1_members fs1_scores Q) : CtI l yX3_find wsX3_find rm_X3_find D cs [.ref h0, .int p1, .int p2, .int p3] (pc_X3_find cs h0 h0_open h0_row h0_stack h0_taken h0_kin h0_ranking h0_row_levels h0_row_values h0_row_tags h0_row_links h0_row_keys h0_row_living hs1 hs1_members hs1_scores n0_depth b0_wentUp n0_row_size f0_row_levels f0_row_values f0_row_tags f0_row_links f0_row_keys f0_row_living f0_stack ns1_size fs1_members fs1_scores) (fun u : Int32 × Int32 × (Nat → Bool) × (Nat → Int64) => (pc_X3_find cs h0 h0_open h0_row h0_stack h0_taken h0_kin h0_ranking h0_row_levels h0_row_values h0_row_tags h0_row_links h0_row_keys h0_row_living hs1 hs1_members hs1_scores u.1 b0_wentUp n0_row_size f0_row_levels f0_row_values f0_row_tags f0_row_links f0_row_keys f0_row_living f0_stack u.2.1 u.2.2.1 u.2.2.2)) (fun r u => Q r u.1 u.2.1 u.2.2.1 u.2.2.2) := by
  refine xo_I (S := Int32 × Int32 × (Nat → Bool) × (Nat → Int64)) (cc := cX3_find) (maxL := 6) (own := RX3) (lv0 := [(0, .ref h0), (1, .int p1), (2, .int p2), (3, .int p3)]) (by decide) rfl rfl (Nat.le_of_ble_eq_true rfl) rfl ?_
  intro p e s m args below meth c A Z ls F hK hA hP hD hS hl RET
  unfold call_X3_find at h
  obtain ⟨X43, hX43⟩ : ∃ X : Int32 → Int32 → Int32 → (Nat → Bool) → (Nat → Int64) → Prop, ∀ (x5 : Int32) (n0_depth : Int32) (ns1_size : Int32) (fs1_members : Nat → Bool) (fs1_scores : Nat → Int64), (X x5 n0_depth ns1_size fs1_members fs1_scores ↔ ∀ (H : Heap) (locs : List Loc) (ls : Array Slot), va_P D vwCl (pc_X3_find cs h0 h0_open h0_row h0_stack h0_taken h0_kin h0_ranking h0_row_levels h0_row_values h0_row_tags h0_row_links h0_row_keys h0_row_living hs1 hs1_members hs1_scores n0_depth b0_wentUp n0_row_size f0_row_levels f0_row_values f0_row_tags f0_row_links f0_row_keys f0_row_living f0_stack ns1_size fs1_members fs1_scores) H → va_D A (pc_X3_find cs h0 h0_open h0_row h0_stack h0_taken h0_kin h0_ranking h0_row_levels h0_row_values h0_row_tags h0_row_links h0_row_keys h0_row_living hs1 hs1_members hs1_scores n0_depth b0_wentUp n0_row_size f0_row_levels f0_row_values f0_row_tags f0_row_links f0_row_keys f0_row_living f0_stack ns1_size fs1_members fs1_scores) → va_S A s.heap H locs → lv_has ls 6 [(0, .ref h0), (1, .int p1), (2, .int p2), (3, .int p3), (4, .ref hs1), (5, .int x5)] → W p l e rm_X3_find s m args below meth c H locs 0 0 Z (F0 m 43 ls [])) := ⟨_, fun _ _ _ _ _ => Iff.rfl⟩
  obtain ⟨X95, hX95⟩ : ∃ X : Int32 → Int32 → Int32 → (Nat → Bool) → (Nat → Int64) → Prop, ∀ (x5 : Int32) (n0_depth : Int32) (ns1_size : Int32) (fs1_members : Nat → Bool) (fs1_scores : Nat → Int64), (X x5 n0_depth ns1_size fs1_members fs1_scores ↔ ∀ (H : Heap) (locs : List Loc) (ls : Array Slot), va_P D vwCl (pc_X3_find cs h0 h0_open h0_row h0_stack h0_taken h0_kin h0_ranking h0_row_levels h0_row_values h0_row_tags h0_row_links h0_row_keys h0_row_living hs1 hs1_members hs1_scores n0_depth b0_wentUp n0_row_size f0_row_levels f0_row_values f0_row_tags f0_row_links f0_row_keys f0_row_living f0_stack ns1_size fs1_members fs1_scores) H → va_D A (pc_X3_find cs h0 h0_open h0_row h0_stack h0_taken h0_kin h0_ranking h0_row_levels h0_row_values h0_row_tags h0_row_links h0_row_keys h0_row_living hs1 hs1_members hs1_scores n0_depth b0_wentUp n0_row_size f0_row_levels f0_row_values f0_row_tags f0_row_links f0_row_keys f0_row_living f0_stack ns1_size fs1_members fs1_scores) → va_S A s.heap H locs → lv_has ls 6 [(0, .ref h0), (1, .int p1), (2, .int p2), (3, .int p3), (4, .ref hs1), (5, .int x5)] → W p l e rm_X3_find s m args below meth c H locs 0 0 Z (F0 m 95 ls [])) := ⟨_, fun _ _ _ _ _ => Iff.rfl⟩
  refine xt_cut (h X43 X95 ?_ ?_) (fun hw => ?_)
  · intro x5 n0_depth ns1_size fs1_members fs1_scores hw
    refine (hX43 _ _ _ _ _).mpr ?_
    intro H locs ls hP hD hS hl
    refine lv_iload F.1 F.2.1 dX3_find_43 (lv_at hl 5 rfl) ?_
    refine lv_aload_n F.1 F.2.1 dX3_find_45 rfl (lv_at hl 0 rfl) ?_
    refine xi_get (C := RX3) (T := TX3) (N := 8) (v := .ref h0_row) F in_X3_find_X3 hK hP 0 rfl rfl 1 (by decide) fl_X3_find_20 rfl dX3_find_46 ?_
    refine xi_get (C := RX1) (T := TX1) (N := 7) (v := .int n0_row_size) F in_X3_find_X1 hK hP 1 rfl rfl 6 (by decide) fl_X3_find_59 rfl dX3_find_49 ?_
    refine lv_icmp_ge (tgt := 101) F.1 F.2.1 dX3_find_52 (by decide) (fun hc => ?_) (fun hc => ?_)
    · have hw := hw.1 hc
      refine lv_aload_n F.1 F.2.1 dX3_find_101 rfl (lv_at hl 0 rfl) ?_
      refine lv_dup F.1 F.2.1 dX3_find_102 rfl ?_
      refine xi_get (C := RX3) (T := TX3) (N := 8) (v := .int n0_depth) F in_X3_find_X3 hK hP 0 rfl rfl 6 (by decide) fl_X3_find_44 rfl dX3_find_103 ?_
      refine lv_iconst (v := 1) F.1 F.2.1 dX3_find_106 (by decide) ?_
      refine lv_iadd F.1 F.2.1 dX3_find_107 ?_
      refine xi_put (C := RX3) (T := TX3) (N := 8) (v := .int (n0_depth + 1)) (ty := .int) F in_X3_find_X3 tyX3 tyX3_ok nmX3 hK hP hD hS 0 rfl rfl 6 (by decide) fl_X3_find_44 rfl (tyX3_ok 6 (by decide)) rfl rfl (Nat.le_of_ble_eq_true rfl) dX3_find_108 (fun H locs hP hD hS => ?_)
      have hP : va_P D vwCl (pc_X3_find cs h0 h0_open h0_row h0_stack h0_taken h0_kin h0_ranking h0_row_levels h0_row_values h0_row_tags h0_row_links h0_row_keys h0_row_living hs1 hs1_members hs1_scores (n0_depth + 1) b0_wentUp n0_row_size f0_row_levels f0_row_values f0_row_tags f0_row_links f0_row_keys f0_row_living f0_stack ns1_size fs1_members fs1_scores) H := hP
      have hD : va_D A (pc_X3_find cs h0 h0_open h0_row h0_stack h0_taken h0_kin h0_ranking h0_row_levels h0_row_values h0_row_tags h0_row_links h0_row_keys h0_row_living hs1 hs1_members hs1_scores (n0_depth + 1) b0_wentUp n0_row_size f0_row_levels f0_row_values f0_row_tags f0_row_links f0_row_keys f0_row_living f0_stack ns1_size fs1_members fs1_scores) := hD
      refine lv_aload F.1 F.2.1 dX3_find_111 (lv_at hl 4 rfl) ?_
      refine xi_get (C := RX2) (T := TX2) (N := 3) (v := .int ns1_size) F in_X3_find_X2 hK hP 9 rfl rfl 2 (by decide) fl_X3_find_140 rfl dX3_find_113 ?_
      exact RET ns1_size ((n0_depth + 1), ns1_size, fs1_members, fs1_scores) H locs 116 ls hw hP hD hS dX3_find_116
    · have hw := hw.2 hc
      refine lv_aload_n F.1 F.2.1 dX3_find_55 rfl (lv_at hl 0 rfl) ?_
      refine xi_get (C := RX3) (T := TX3) (N := 8) (v := .ref h0_row) F in_X3_find_X3 hK hP 0 rfl rfl 1 (by decide) fl_X3_find_20 rfl dX3_find_56 ?_
      refine xi_get (C := RX1) (T := TX1) (N := 7) (v := .ref h0_row_living) F in_X3_find_X1 hK hP 1 rfl rfl 5 (by decide) fl_X3_find_112 rfl dX3_find_59 ?_
      refine lv_iload F.1 F.2.1 dX3_find_62 (lv_at hl 5 rfl) ?_
      obtain ⟨j64, hj, he, hw⟩ := hw
      refine xi_zald (j := j64) F hK hP 7 rfl (by decide) hj he dX3_find_64 ?_
      refine xi_ifeqz (tgt := 95) F dX3_find_65 (by decide) (fun hc => ?_) (fun hc => ?_)
      · have hw := hw.1 hc
        exact (hX95 _ _ _ _ _).mp hw H locs ls hP hD hS (lv_sub hl [0, 1, 2, 3, 4, 5] rfl)
      · have hw := hw.2 hc
        refine lv_aload_n F.1 F.2.1 dX3_find_68 rfl (lv_at hl 0 rfl) ?_
        refine lv_iload F.1 F.2.1 dX3_find_69 (lv_at hl 5 rfl) ?_
        refine lv_iload_n F.1 F.2.1 dX3_find_71 rfl (lv_at hl 1 rfl) ?_
        refine lv_iload_n F.1 F.2.1 dX3_find_72 rfl (lv_at hl 2 rfl) ?_
        refine lv_iload_n F.1 F.2.1 dX3_find_73 rfl (lv_at hl 3 rfl) ?_
        refine xc_Vz (As := [.int x5, .int p1, .int p2, .int p3]) (rest := []) (m_X3_isFound l D cs h0 h0_open h0_row h0_stack h0_taken h0_kin h0_ranking h0_row_levels h0_row_values h0_row_tags h0_row_links h0_row_keys h0_row_living x5 p1 p2 p3 n0_depth b0_wentUp n0_row_size f0_row_levels f0_row_values f0_row_tags f0_row_links f0_row_keys _ hw) F (cwV 4 F.2.2.2.2 gX3_find_X3_isFound rfl rfl rfl (by decide +kernel) ⟨Nat.le_of_ble_eq_true rfl, Nat.le_of_ble_eq_true rfl⟩) hK hP hD hS hA [0, 1, 2, 3, 4, 5, 6] [7, 8, 9, 10, 11] rfl rfl 0 rfl rfl rfl hl.1 rfl (Nat.le_of_ble_eq_true rfl) dX3_find_74 ⟨Nat.zero_le _, Nat.zero_le _⟩ (fun r74 u H locs hw hP hD hS => ?_)
        have hP : va_P D vwCl (pc_X3_find cs h0 h0_open h0_row h0_stack h0_taken h0_kin h0_ranking h0_row_levels h0_row_values h0_row_tags h0_row_links h0_row_keys h0_row_living hs1 hs1_members hs1_scores n0_depth b0_wentUp n0_row_size f0_row_levels f0_row_values f0_row_tags f0_row_links f0_row_keys f0_row_living f0_stack ns1_size fs1_members fs1_scores) H := hP.sub [5, 6, 7, 8, 9, 10, 11, 0, 1, 2, 3, 4] rfl
        have hD : va_D A (pc_X3_find cs h0 h0_open h0_row h0_stack h0_taken h0_kin h0_ranking h0_row_levels h0_row_values h0_row_tags h0_row_links h0_row_keys h0_row_living hs1 hs1_members hs1_scores n0_depth b0_wentUp n0_row_size f0_row_levels f0_row_values f0_row_tags f0_row_links f0_row_keys f0_row_living f0_stack ns1_size fs1_members fs1_scores) := hD.sub [5, 6, 7, 8, 9, 10, 11, 0, 1, 2, 3, 4] (by decide) rfl
        try dsimp only at hw
        refine xi_ifeqz (tgt := 95) F dX3_find_77 (by decide) (fun hc => ?_) (fun hc => ?_)
        · have hw := hw.1 hc
          exact (hX95 _ _ _ _ _).mp hw H locs ls hP hD hS (lv_sub hl [0, 1, 2, 3, 4, 5] rfl)
        · have hw := hw.2 hc
          refine lv_aload F.1 F.2.1 dX3_find_80 (lv_at hl 4 rfl) ?_
          refine lv_iload F.1 F.2.1 dX3_find_82 (lv_at hl 5 rfl) ?_
          refine lv_aload_n F.1 F.2.1 dX3_find_84 rfl (lv_at hl 0 rfl) ?_
          refine lv_iload F.1 F.2.1 dX3_find_85 (lv_at hl 5 rfl) ?_
          refine lv_iload_n F.1 F.2.1 dX3_find_87 rfl (lv_at hl 1 rfl) ?_
          refine lv_iload_n F.1 F.2.1 dX3_find_88 rfl (lv_at hl 2 rfl) ?_
          refine xc_Vl (As := [.int x5, .int p1, .int p2]) (rest := [.int x5, .ref hs1]) (m_X3_scoreFound l D cs h0 h0_open h0_row h0_stack h0_taken h0_kin h0_ranking h0_row_levels h0_row_values h0_row_tags h0_row_links h0_row_keys h0_row_living x5 p1 p2 n0_depth b0_wentUp n0_row_size f0_row_values _ hw) F (cwV 3 F.2.2.2.2 gX3_find_X3_scoreFound rfl rfl rfl (by decide +kernel) ⟨Nat.le_of_ble_eq_true rfl, Nat.le_of_ble_eq_true rfl⟩) hK hP hD hS hA [0, 1, 3] [2, 4, 5, 6, 7, 8, 9, 10, 11] rfl rfl 0 rfl rfl rfl hl.1 rfl (Nat.le_of_ble_eq_true rfl) dX3_find_89 ⟨Nat.zero_le _, Nat.zero_le _⟩ (fun r89 u H locs hw hP hD hS => ?_)
          have hP : va_P D vwCl (pc_X3_find cs h0 h0_open h0_row h0_stack h0_taken h0_kin h0_ranking h0_row_levels h0_row_values h0_row_tags h0_row_links h0_row_keys h0_row_living hs1 hs1_members hs1_scores n0_depth b0_wentUp n0_row_size f0_row_levels f0_row_values f0_row_tags f0_row_links f0_row_keys f0_row_living f0_stack ns1_size fs1_members fs1_scores) H := hP.sub [9, 10, 0, 11, 1, 2, 3, 4, 5, 6, 7, 8] rfl
          have hD : va_D A (pc_X3_find cs h0 h0_open h0_row h0_stack h0_taken h0_kin h0_ranking h0_row_levels h0_row_values h0_row_tags h0_row_links h0_row_keys h0_row_living hs1 hs1_members hs1_scores n0_depth b0_wentUp n0_row_size f0_row_levels f0_row_values f0_row_tags f0_row_links f0_row_keys f0_row_living f0_stack ns1_size fs1_members fs1_scores) := hD.sub [9, 10, 0, 11, 1, 2, 3, 4, 5, 6, 7, 8] (by decide) rfl
          try dsimp only at hw
          refine xc_Vv (As := [.int x5, .long r89]) (rest := []) (m_X2_put l D cs hs1 hs1_members hs1_scores x5 r89 ns1_size fs1_members fs1_scores _ hw) F (cwV 2 F.2.2.2.2 gX3_find_X2_put rfl rfl rfl (by decide +kernel) ⟨Nat.le_of_ble_eq_true rfl, Nat.le_of_ble_eq_true rfl⟩) hK hP hD hS hA [9, 10, 11] [0, 1, 2, 3, 4, 5, 6, 7, 8] rfl rfl 0 rfl rfl rfl hl.1 rfl (Nat.le_of_ble_eq_true rfl) dX3_find_92 ⟨Nat.zero_le _, Nat.zero_le _⟩ (fun u H locs hw hP hD hS => ?_)
          obtain ⟨ns1_size_92, fs1_members_92, fs1_scores_92⟩ := u
          have hP : va_P D vwCl (pc_X3_find cs h0 h0_open h0_row h0_stack h0_taken h0_kin h0_ranking h0_row_levels h0_row_values h0_row_tags h0_row_links h0_row_keys h0_row_living hs1 hs1_members hs1_scores n0_depth b0_wentUp n0_row_size f0_row_levels f0_row_values f0_row_tags f0_row_links f0_row_keys f0_row_living f0_stack ns1_size_92 fs1_members_92 fs1_scores_92) H := hP.sub [0, 1, 2, 3, 4, 5, 6, 7, 8, 9, 10, 11] rfl
          have hD : va_D A (pc_X3_find cs h0 h0_open h0_row h0_stack h0_taken h0_kin h0_ranking h0_row_levels h0_row_values h0_row_tags h0_row_links h0_row_keys h0_row_living hs1 hs1_members hs1_scores n0_depth b0_wentUp n0_row_size f0_row_levels f0_row_values f0_row_tags f0_row_links f0_row_keys f0_row_living f0_stack ns1_size_92 fs1_members_92 fs1_scores_92) := hD.sub [0, 1, 2, 3, 4, 5, 6, 7, 8, 9, 10, 11] (by decide) rfl
          try dsimp only at hw
          exact (hX95 _ _ _ _ _).mp hw H locs ls hP hD hS (lv_sub hl [0, 1, 2, 3, 4, 5] rfl)
  · intro x5 n0_depth ns1_size fs1_members fs1_scores hw
    refine (hX95 _ _ _ _ _).mpr ?_
    intro H locs ls hP hD hS hl
    refine lv_iinc (v := (x5 + 1)) (lv' := [(5, .int (x5 + 1)), (0, .ref h0), (1, .int p1), (2, .int p2), (3, .int p3), (4, .ref hs1)]) F.1 F.2.1 dX3_find_95 hl (k := 5) rfl rfl (by decide) rfl (fun ls hl => ?_)
    refine lv_goto (tgt := 43) F.1 F.2.1 dX3_find_98 (by decide) ?_
    exact (hX43 _ _ _ _ _).mp hw H locs ls hP hD hS (lv_sub hl [1, 2, 3, 4, 5, 0] rfl)
  generalize ([] : List Loc) = locs at hS ⊢
  obtain ⟨H, hHe⟩ : ∃ H, H = s.heap := ⟨_, rfl⟩
  have hP : va_P D vwCl (pc_X3_find cs h0 h0_open h0_row h0_stack h0_taken h0_kin h0_ranking h0_row_levels h0_row_values h0_row_tags h0_row_links h0_row_keys h0_row_living hs1 hs1_members hs1_scores n0_depth b0_wentUp n0_row_size f0_row_levels f0_row_values f0_row_tags f0_row_links f0_row_keys f0_row_living f0_stack ns1_size fs1_members fs1_scores) H := by rw [hHe]; exact hP
  have hS : va_S A s.heap H locs := by rw [hHe]; exact hS
  suffices W p l e rm_X3_find s m args below meth c H locs 0 0 Z (F0 m 0 ls []) by rw [hHe] at this; exact this
  refine lv_iload_n F.1 F.2.1 dX3_find_0 rfl (lv_at hl 1 rfl) ?_
  refine lv_iload_n F.1 F.2.1 dX3_find_1 rfl (lv_at hl 2 rfl) ?_
  refine lv_iload_n F.1 F.2.1 dX3_find_2 rfl (lv_at hl 3 rfl) ?_
  refine xc_Sz (As := [.int p1, .int p2, .int p3]) (rest := []) (m_X3_canBeFound l D cs p1 p2 p3 _ hw) F (va_cwS 3 F.2.2.2.2 gX3_find_X3_canBeFound rfl rfl rfl (by decide +kernel) ⟨Nat.le_of_ble_eq_true rfl, Nat.le_of_ble_eq_true rfl⟩) hK hP hD hS hA [] [0, 1, 2, 3, 4, 5, 6, 7, 8, 9, 10, 11] rfl rfl rfl hl.1 rfl (Nat.le_of_ble_eq_true rfl) dX3_find_3 ⟨Nat.zero_le _, Nat.zero_le _⟩ (fun r3 u H locs hw hP hD hS => ?_)
  have hP : va_P D vwCl (pc_X3_find cs h0 h0_open h0_row h0_stack h0_taken h0_kin h0_ranking h0_row_levels h0_row_values h0_row_tags h0_row_links h0_row_keys h0_row_living hs1 hs1_members hs1_scores n0_depth b0_wentUp n0_row_size f0_row_levels f0_row_values f0_row_tags f0_row_links f0_row_keys f0_row_living f0_stack ns1_size fs1_members fs1_scores) H := hP.sub [0, 1, 2, 3, 4, 5, 6, 7, 8, 9, 10, 11] rfl
  have hD : va_D A (pc_X3_find cs h0 h0_open h0_row h0_stack h0_taken h0_kin h0_ranking h0_row_levels h0_row_values h0_row_tags h0_row_links h0_row_keys h0_row_living hs1 hs1_members hs1_scores n0_depth b0_wentUp n0_row_size f0_row_levels f0_row_values f0_row_tags f0_row_links f0_row_keys f0_row_living f0_stack ns1_size fs1_members fs1_scores) := hD.sub [0, 1, 2, 3, 4, 5, 6, 7, 8, 9, 10, 11] (by decide) rfl
  try dsimp only at hw
  refine xi_ifnez (tgt := 12) F dX3_find_6 (by decide) (fun hc => ?_) (fun hc => ?_)
  · have hw := hw.1 hc
    refine lv_aload_n F.1 F.2.1 dX3_find_12 rfl (lv_at hl 0 rfl) ?_
    refine xi_get (C := RX3) (T := TX3) (N := 8) (v := .int n0_depth) F in_X3_find_X3 hK hP 0 rfl rfl 6 (by decide) fl_X3_find_44 rfl dX3_find_13 ?_
    refine lv_bipush (v := 8) F.1 F.2.1 dX3_find_16 (by decide) ?_
    refine lv_icmp_lt (tgt := 24) F.1 F.2.1 dX3_find_18 (by decide) (fun hc => ?_) (fun hc => ?_)
    · have hw := hw.1 hc
      refine lv_aload_n F.1 F.2.1 dX3_find_24 rfl (lv_at hl 0 rfl) ?_
      refine xi_get (C := RX3) (T := TX3) (N := 8) (v := .ref h0_stack) F in_X3_find_X3 hK hP 0 rfl rfl 2 (by decide) fl_X3_find_25 rfl dX3_find_25 ?_
      refine lv_aload_n F.1 F.2.1 dX3_find_28 rfl (lv_at hl 0 rfl) ?_
      refine xi_get (C := RX3) (T := TX3) (N := 8) (v := .int n0_depth) F in_X3_find_X3 hK hP 0 rfl rfl 6 (by decide) fl_X3_find_44 rfl dX3_find_29 ?_
      obtain ⟨he, hw⟩ := hw
      refine xi_aald F hK hP 8 rfl (by decide) hds1 he hfs1 dX3_find_32 ?_
      refine lv_astore (lv' := [(4, .ref hs1), (0, .ref h0), (1, .int p1), (2, .int p2), (3, .int p3)]) F.1 F.2.1 dX3_find_33 hl (by decide) rfl (fun ls hl => ?_)
      refine lv_aload F.1 F.2.1 dX3_find_35 (lv_at hl 0 rfl) ?_
      refine xc_Vv (As := []) (rest := []) (m_X2_clear l D cs hs1 hs1_members hs1_scores ns1_size fs1_members _ hw) F (cwV 0 F.2.2.2.2 gX3_find_X2_clear rfl rfl rfl (by decide +kernel) ⟨Nat.le_of_ble_eq_true rfl, Nat.le_of_ble_eq_true rfl⟩) hK hP hD hS hA [9, 10] [0, 1, 2, 3, 4, 5, 6, 7, 8, 11] rfl rfl 0 rfl rfl rfl hl.1 rfl (Nat.le_of_ble_eq_true rfl) dX3_find_37 ⟨Nat.zero_le _, Nat.zero_le _⟩ (fun u H locs hw hP hD hS => ?_)
      obtain ⟨ns1_size_37, fs1_members_37⟩ := u
      have hP : va_P D vwCl (pc_X3_find cs h0 h0_open h0_row h0_stack h0_taken h0_kin h0_ranking h0_row_levels h0_row_values h0_row_tags h0_row_links h0_row_keys h0_row_living hs1 hs1_members hs1_scores n0_depth b0_wentUp n0_row_size f0_row_levels f0_row_values f0_row_tags f0_row_links f0_row_keys f0_row_living f0_stack ns1_size_37 fs1_members_37 fs1_scores) H := hP.sub [0, 1, 2, 3, 4, 5, 6, 7, 8, 10, 11, 9] rfl
      have hD : va_D A (pc_X3_find cs h0 h0_open h0_row h0_stack h0_taken h0_kin h0_ranking h0_row_levels h0_row_values h0_row_tags h0_row_links h0_row_keys h0_row_living hs1 hs1_members hs1_scores n0_depth b0_wentUp n0_row_size f0_row_levels f0_row_values f0_row_tags f0_row_links f0_row_keys f0_row_living f0_stack ns1_size_37 fs1_members_37 fs1_scores) := hD.sub [0, 1, 2, 3, 4, 5, 6, 7, 8, 10, 11, 9] (by decide) rfl
      try dsimp only at hw
      refine lv_iconst (v := 0) F.1 F.2.1 dX3_find_40 (by decide) ?_
      refine lv_istore (lv' := [(5, .int 0), (4, .ref hs1), (0, .ref h0), (1, .int p1), (2, .int p2), (3, .int p3)]) F.1 F.2.1 dX3_find_41 hl (by decide) rfl (fun ls hl => ?_)
      exact (hX43 _ _ _ _ _).mp hw H locs ls hP hD hS (lv_sub hl [2, 3, 4, 5, 1, 0] rfl)
    · have hw := hw.2 hc
      refine lv_bipush (v := (-4)) F.1 F.2.1 dX3_find_21 (by decide) ?_
      exact RET (-4) (n0_depth, ns1_size, fs1_members, fs1_scores) H locs 23 ls hw hP hD hS dX3_find_23
  · have hw := hw.2 hc
    refine lv_bipush (v := (-2)) F.1 F.2.1 dX3_find_9 (by decide) ?_
    exact RET (-2) (n0_depth, ns1_size, fs1_members, fs1_scores) H locs 11 ls hw hP hD hS dX3_find_11

theorem in_X3_join_X3 : ∀ w ∈ wsX30, w ∈ wsX3_join := by decide +kernel
theorem fl_X3_join_44 : Cond.fieldLink RX3 44 "JoinBlocks" "depth" "I" ∈ wsX3_join := by decide +kernel
theorem in_X3_join_X2 : ∀ w ∈ wsX20, w ∈ wsX3_join := by decide +kernel
theorem fl_X3_join_140 : Cond.fieldLink RX3 140 "JoinBlocks$ScoredSet" "size" "I" ∈ wsX3_join := by decide +kernel
theorem fl_X3_join_25 : Cond.fieldLink RX3 25 "JoinBlocks" "stack" "[LJoinBlocks$ScoredSet;" ∈ wsX3_join := by decide +kernel
abbrev pc_X3_join (cs : Nat → ClassId) (h0 : Nat) (h0_open : Nat) (h0_row : Nat) (h0_stack : Nat) (h0_taken : Nat) (h0_kin : Nat) (h0_ranking : Nat) (hs1 : Nat) (hs1_members : Nat) (hs1_scores : Nat) (hs2 : Nat) (hs2_members : Nat) (hs2_scores : Nat) (n0_depth : Int32) (b0_wentUp : Bool) (f0_stack : Nat → Option Nat) (ns1_size : Int32) (fs1_members : Nat → Bool) (fs1_scores : Nat → Int64) (ns2_size : Int32) (fs2_members : Nat → Bool) (fs2_scores : Nat → Int64) : va_W := [(h0, .inr (3, [.ref h0_open, .ref h0_row, .ref h0_stack, .ref h0_taken, .ref h0_kin, .ref h0_ranking, .int n0_depth, .int (b2i b0_wentUp)])), (h0_stack, .inl (cs 3, 8, .inr (.inr (.inr (.inr f0_stack))))), (hs1, .inr (2, [.ref hs1_members, .ref hs1_scores, .int ns1_size])), (hs1_members, .inl (cs 1, 200, .inl (bF fs1_members))), (hs1_scores, .inl (cs 2, 200, .inr (.inl fs1_scores))), (hs2, .inr (2, [.ref hs2_members, .ref hs2_scores, .int ns2_size])), (hs2_members, .inl (cs 1, 200, .inl (bF fs2_members))), (hs2_scores, .inl (cs 2, 200, .inr (.inl fs2_scores)))]
abbrev rm_X3_join : Room := { frames := 3, cells := 0, slots := 0, locals := 68 }
def call_X3_join (ds1 : Nat) (ds2 : Nat) (p1 : Int32) (n0_depth : Int32) (ns1_size : Int32) (fs1_members : Nat → Bool) (fs1_scores : Nat → Int64) (fs2_members : Nat → Bool) (fs2_scores : Nat → Int64) (Q : Int32 → Int32 → Int32 → (Nat → Bool) → (Nat → Int64) → Prop) : Prop := ∀ (X97 : Int32 → Int32 → (Nat → Bool) → (Nat → Int64) → Prop),
    (∀ (n0_depth : Int32) (ns1_size : Int32) (fs1_members : Nat → Bool) (fs1_scores : Nat → Int64),
      Q ns1_size (n0_depth - 1) ns1_size fs1_members fs1_scores → X97 n0_depth ns1_size fs1_members fs1_scores) →
    (call_X3_isWithin p1 0 2 (fun (r3 : Bool) => ((r3 = true → ((2 ≤ n0_depth → ((n0_depth - 2) = nI ds1 ∧ ((n0_depth - 1) = nI ds2 ∧ ((p1 = 0 → (call_X2_keepCommon ns1_size fs1_members fs1_scores fs2_members fs2_scores (fun (ns1_size_78 : Int32) (fs1_members_78 : Nat → Bool) (fs1_scores_78 : Nat → Int64) => X97 n0_depth ns1_size_78 fs1_members_78 fs1_scores_78))) ∧ (p1 = 1 → (call_X2_addAll ns1_size fs1_members fs1_scores fs2_members fs2_scores (fun (ns1_size_86 : Int32) (fs1_members_86 : Nat → Bool) (fs1_scores_86 : Nat → Int64) => X97 n0_depth ns1_size_86 fs1_members_86 fs1_scores_86))) ∧ (¬ p1 = 0 → ¬ p1 = 1 → (call_X2_removeAll ns1_size fs1_members fs2_members (fun (ns1_size_94 : Int32) (fs1_members_94 : Nat → Bool) => X97 n0_depth ns1_size_94 fs1_members_94 fs1_scores))))))) ∧ (¬ 2 ≤ n0_depth → Q (-3) n0_depth ns1_size fs1_members fs1_scores))) ∧ (r3 = false → Q (-2) n0_depth ns1_size fs1_members fs1_scores))))
set_option maxHeartbeats 4000000 in
set_option maxRecDepth 100000 in
theorem m_X3_join (l : Launch) (D : va_G) (cs : Nat → ClassId) (h0 : Nat) (h0_open : Nat) (h0_row : Nat) (h0_stack : Nat) (h0_taken : Nat) (h0_kin : Nat) (h0_ranking : Nat) (hs1 : Nat) (hs1_members : Nat) (hs1_scores : Nat) (hs2 : Nat) (hs2_members : Nat) (hs2_scores : Nat)  (p1 : Int32) (n0_depth : Int32) (b0_wentUp : Bool) (f0_stack : Nat → Option Nat) (ns1_size : Int32) (fs1_members : Nat → Bool) (fs1_scores : Nat → Int64) (ns2_size : Int32) (fs2_members : Nat → Bool) (fs2_scores : Nat → Int64) (ds1 : Nat) (hds1 : ds1 < 8) (hfs1 : f0_stack ds1 = some hs1) (ds2 : Nat) (hds2 : ds2 < 8) (hfs2 : f0_stack ds2 = some hs2) (Q : Int32 → Int32 → Int32 → (Nat → Bool) → (Nat → Int64) → Prop) (h : call_X3_join ds1 ds2 p1 n0_depth ns1_size fs1_members fs1_scores fs2_members fs2_scores Q) : CtI l yX3_join wsX3_join rm_X3_join D cs [.ref h0, .int p1] (pc_X3_join cs h0 h0_open h0_row h0_stack h0_taken h0_kin h0_ranking hs1 hs1_members hs1_scores hs2 hs2_members hs2_scores n0_depth b0_wentUp f0_stack ns1_size fs1_members fs1_scores ns2_size fs2_members fs2_scores) (fun u : Int32 × Int32 × (Nat → Bool) × (Nat → Int64) => (pc_X3_join cs h0 h0_open h0_row h0_stack h0_taken h0_kin h0_ranking hs1 hs1_members hs1_scores hs2 hs2_members hs2_scores u.1 b0_wentUp f0_stack u.2.1 u.2.2.1 u.2.2.2 ns2_size fs2_members fs2_scores)) (fun r u => Q r u.1 u.2.1 u.2.2.1 u.2.2.2) := by
  refine xo_I (S := Int32 × Int32 × (Nat → Bool) × (Nat → Int64)) (cc := cX3_join) (maxL := 4) (own := RX3) (lv0 := [(0, .ref h0), (1, .int p1)]) (by decide) rfl rfl (Nat.le_of_ble_eq_true rfl) rfl ?_
  intro p e s m args below meth c A Z ls F hK hA hP hD hS hl RET
  unfold call_X3_join at h
  obtain ⟨X97, hX97⟩ : ∃ X : Int32 → Int32 → (Nat → Bool) → (Nat → Int64) → Prop, ∀ (n0_depth : Int32) (ns1_size : Int32) (fs1_members : Nat → Bool) (fs1_scores : Nat → Int64), (X n0_depth ns1_size fs1_members fs1_scores ↔ ∀ (H : Heap) (locs : List Loc) (ls : Array Slot), va_P D vwCl (pc_X3_join cs h0 h0_open h0_row h0_stack h0_taken h0_kin h0_ranking hs1 hs1_members hs1_scores hs2 hs2_members hs2_scores n0_depth b0_wentUp f0_stack ns1_size fs1_members fs1_scores ns2_size fs2_members fs2_scores) H → va_D A (pc_X3_join cs h0 h0_open h0_row h0_stack h0_taken h0_kin h0_ranking hs1 hs1_members hs1_scores hs2 hs2_members hs2_scores n0_depth b0_wentUp f0_stack ns1_size fs1_members fs1_scores ns2_size fs2_members fs2_scores) → va_S A s.heap H locs → lv_has ls 4 [(0, .ref h0), (2, .ref hs1)] → W p l e rm_X3_join s m args below meth c H locs 0 0 Z (F0 m 97 ls [])) := ⟨_, fun _ _ _ _ => Iff.rfl⟩
  refine xt_cut (h X97 ?_) (fun hw => ?_)
  · intro n0_depth ns1_size fs1_members fs1_scores hw
    refine (hX97 _ _ _ _).mpr ?_
    intro H locs ls hP hD hS hl
    refine lv_aload_n F.1 F.2.1 dX3_join_97 rfl (lv_at hl 0 rfl) ?_
    refine lv_dup F.1 F.2.1 dX3_join_98 rfl ?_
    refine xi_get (C := RX3) (T := TX3) (N := 8) (v := .int n0_depth) F in_X3_join_X3 hK hP 0 rfl rfl 6 (by decide) fl_X3_join_44 rfl dX3_join_99 ?_
    refine lv_iconst (v := 1) F.1 F.2.1 dX3_join_102 (by decide) ?_
    refine lv_isub F.1 F.2.1 dX3_join_103 ?_
    refine xi_put (C := RX3) (T := TX3) (N := 8) (v := .int (n0_depth - 1)) (ty := .int) F in_X3_join_X3 tyX3 tyX3_ok nmX3 hK hP hD hS 0 rfl rfl 6 (by decide) fl_X3_join_44 rfl (tyX3_ok 6 (by decide)) rfl rfl (Nat.le_of_ble_eq_true rfl) dX3_join_104 (fun H locs hP hD hS => ?_)
    have hP : va_P D vwCl (pc_X3_join cs h0 h0_open h0_row h0_stack h0_taken h0_kin h0_ranking hs1 hs1_members hs1_scores hs2 hs2_members hs2_scores (n0_depth - 1) b0_wentUp f0_stack ns1_size fs1_members fs1_scores ns2_size fs2_members fs2_scores) H := hP
    have hD : va_D A (pc_X3_join cs h0 h0_open h0_row h0_stack h0_taken h0_kin h0_ranking hs1 hs1_members hs1_scores hs2 hs2_members hs2_scores (n0_depth - 1) b0_wentUp f0_stack ns1_size fs1_members fs1_scores ns2_size fs2_members fs2_scores) := hD
    refine lv_aload_n F.1 F.2.1 dX3_join_107 rfl (lv_at hl 1 rfl) ?_
    refine xi_get (C := RX2) (T := TX2) (N := 3) (v := .int ns1_size) F in_X3_join_X2 hK hP 2 rfl rfl 2 (by decide) fl_X3_join_140 rfl dX3_join_108 ?_
    exact RET ns1_size ((n0_depth - 1), ns1_size, fs1_members, fs1_scores) H locs 111 ls hw hP hD hS dX3_join_111
  generalize ([] : List Loc) = locs at hS ⊢
  obtain ⟨H, hHe⟩ : ∃ H, H = s.heap := ⟨_, rfl⟩
  have hP : va_P D vwCl (pc_X3_join cs h0 h0_open h0_row h0_stack h0_taken h0_kin h0_ranking hs1 hs1_members hs1_scores hs2 hs2_members hs2_scores n0_depth b0_wentUp f0_stack ns1_size fs1_members fs1_scores ns2_size fs2_members fs2_scores) H := by rw [hHe]; exact hP
  have hS : va_S A s.heap H locs := by rw [hHe]; exact hS
  suffices W p l e rm_X3_join s m args below meth c H locs 0 0 Z (F0 m 0 ls []) by rw [hHe] at this; exact this
  refine lv_iload_n F.1 F.2.1 dX3_join_0 rfl (lv_at hl 1 rfl) ?_
  refine lv_iconst (v := 0) F.1 F.2.1 dX3_join_1 (by decide) ?_
  refine lv_iconst (v := 2) F.1 F.2.1 dX3_join_2 (by decide) ?_
  refine xc_Sz (As := [.int p1, .int 0, .int 2]) (rest := []) (m_X3_isWithin l D cs p1 0 2 _ hw) F (va_cwS 3 F.2.2.2.2 gX3_join_X3_isWithin rfl rfl rfl (by decide +kernel) ⟨Nat.le_of_ble_eq_true rfl, Nat.le_of_ble_eq_true rfl⟩) hK hP hD hS hA [] [0, 1, 2, 3, 4, 5, 6, 7] rfl rfl rfl hl.1 rfl (Nat.le_of_ble_eq_true rfl) dX3_join_3 ⟨Nat.zero_le _, Nat.zero_le _⟩ (fun r3 u H locs hw hP hD hS => ?_)
  have hP : va_P D vwCl (pc_X3_join cs h0 h0_open h0_row h0_stack h0_taken h0_kin h0_ranking hs1 hs1_members hs1_scores hs2 hs2_members hs2_scores n0_depth b0_wentUp f0_stack ns1_size fs1_members fs1_scores ns2_size fs2_members fs2_scores) H := hP.sub [0, 1, 2, 3, 4, 5, 6, 7] rfl
  have hD : va_D A (pc_X3_join cs h0 h0_open h0_row h0_stack h0_taken h0_kin h0_ranking hs1 hs1_members hs1_scores hs2 hs2_members hs2_scores n0_depth b0_wentUp f0_stack ns1_size fs1_members fs1_scores ns2_size fs2_members fs2_scores) := hD.sub [0, 1, 2, 3, 4, 5, 6, 7] (by decide) rfl
  try dsimp only at hw
  refine xi_ifnez (tgt := 12) F dX3_join_6 (by decide) (fun hc => ?_) (fun hc => ?_)
  · have hw := hw.1 hc
    refine lv_aload_n F.1 F.2.1 dX3_join_12 rfl (lv_at hl 0 rfl) ?_
    refine xi_get (C := RX3) (T := TX3) (N := 8) (v := .int n0_depth) F in_X3_join_X3 hK hP 0 rfl rfl 6 (by decide) fl_X3_join_44 rfl dX3_join_13 ?_
    refine lv_iconst (v := 2) F.1 F.2.1 dX3_join_16 (by decide) ?_
    refine lv_icmp_ge (tgt := 23) F.1 F.2.1 dX3_join_17 (by decide) (fun hc => ?_) (fun hc => ?_)
    · have hw := hw.1 hc
      refine lv_aload_n F.1 F.2.1 dX3_join_23 rfl (lv_at hl 0 rfl) ?_
      refine xi_get (C := RX3) (T := TX3) (N := 8) (v := .ref h0_stack) F in_X3_join_X3 hK hP 0 rfl rfl 2 (by decide) fl_X3_join_25 rfl dX3_join_24 ?_
      refine lv_aload_n F.1 F.2.1 dX3_join_27 rfl (lv_at hl 0 rfl) ?_
      refine xi_get (C := RX3) (T := TX3) (N := 8) (v := .int n0_depth) F in_X3_join_X3 hK hP 0 rfl rfl 6 (by decide) fl_X3_join_44 rfl dX3_join_28 ?_
      refine lv_iconst (v := 2) F.1 F.2.1 dX3_join_31 (by decide) ?_
      refine lv_isub F.1 F.2.1 dX3_join_32 ?_
      obtain ⟨he, hw⟩ := hw
      refine xi_aald F hK hP 1 rfl (by decide) hds1 he hfs1 dX3_join_33 ?_
      refine lv_astore_n (lv' := [(2, .ref hs1), (0, .ref h0), (1, .int p1)]) F.1 F.2.1 dX3_join_34 rfl hl (by decide) rfl (fun ls hl => ?_)
      refine lv_aload_n F.1 F.2.1 dX3_join_35 rfl (lv_at hl 1 rfl) ?_
      refine xi_get (C := RX3) (T := TX3) (N := 8) (v := .ref h0_stack) F in_X3_join_X3 hK hP 0 rfl rfl 2 (by decide) fl_X3_join_25 rfl dX3_join_36 ?_
      refine lv_aload_n F.1 F.2.1 dX3_join_39 rfl (lv_at hl 1 rfl) ?_
      refine xi_get (C := RX3) (T := TX3) (N := 8) (v := .int n0_depth) F in_X3_join_X3 hK hP 0 rfl rfl 6 (by decide) fl_X3_join_44 rfl dX3_join_40 ?_
      refine lv_iconst (v := 1) F.1 F.2.1 dX3_join_43 (by decide) ?_
      refine lv_isub F.1 F.2.1 dX3_join_44 ?_
      obtain ⟨he, hw⟩ := hw
      refine xi_aald F hK hP 1 rfl (by decide) hds2 he hfs2 dX3_join_45 ?_
      refine lv_astore_n (lv' := [(3, .ref hs2), (2, .ref hs1), (0, .ref h0), (1, .int p1)]) F.1 F.2.1 dX3_join_46 rfl hl (by decide) rfl (fun ls hl => ?_)
      refine lv_iload_n F.1 F.2.1 dX3_join_47 rfl (lv_at hl 3 rfl) ?_
      obtain ⟨hw0, hw1, hwd⟩ := hw
      by_cases hc0 : p1 = 0
      · have hw := hw0 hc0
        refine lv_lookup (tgt := 76) (off := 28) F.1 F.2.1 dX3_join_48 (by decide) (by first | (rw [hc0]; done) | (rw [hc0]; rfl)) (by decide) ?_
        refine lv_aload_n F.1 F.2.1 dX3_join_76 rfl (lv_at hl 1 rfl) ?_
        refine lv_aload_n F.1 F.2.1 dX3_join_77 rfl (lv_at hl 0 rfl) ?_
        refine xc_Vv (As := [.ref hs2]) (rest := []) (m_X2_keepCommon l D cs hs1 hs1_members hs1_scores hs2 hs2_members hs2_scores ns1_size fs1_members fs1_scores ns2_size fs2_members fs2_scores _ hw) F (cwV 1 F.2.2.2.2 gX3_join_X2_keepCommon rfl rfl rfl (by decide +kernel) ⟨Nat.le_of_ble_eq_true rfl, Nat.le_of_ble_eq_true rfl⟩) hK hP hD hS hA [2, 3, 4, 5, 6, 7] [0, 1] rfl rfl 0 rfl rfl rfl hl.1 rfl (Nat.le_of_ble_eq_true rfl) dX3_join_78 ⟨Nat.zero_le _, Nat.zero_le _⟩ (fun u H locs hw hP hD hS => ?_)
        obtain ⟨ns1_size_78, fs1_members_78, fs1_scores_78⟩ := u
        have hP : va_P D vwCl (pc_X3_join cs h0 h0_open h0_row h0_stack h0_taken h0_kin h0_ranking hs1 hs1_members hs1_scores hs2 hs2_members hs2_scores n0_depth b0_wentUp f0_stack ns1_size_78 fs1_members_78 fs1_scores_78 ns2_size fs2_members fs2_scores) H := hP.sub [0, 1, 2, 3, 4, 5, 6, 7] rfl
        have hD : va_D A (pc_X3_join cs h0 h0_open h0_row h0_stack h0_taken h0_kin h0_ranking hs1 hs1_members hs1_scores hs2 hs2_members hs2_scores n0_depth b0_wentUp f0_stack ns1_size_78 fs1_members_78 fs1_scores_78 ns2_size fs2_members fs2_scores) := hD.sub [0, 1, 2, 3, 4, 5, 6, 7] (by decide) rfl
        try dsimp only at hw
        refine lv_goto (tgt := 97) F.1 F.2.1 dX3_join_81 (by decide) ?_
        exact (hX97 _ _ _ _).mp hw H locs ls hP hD hS (lv_sub hl [2, 1] rfl)
      by_cases hc1 : p1 = 1
      · have hw := hw1 hc1
        refine lv_lookup (tgt := 84) (off := 36) F.1 F.2.1 dX3_join_48 (by decide) (by first | (rw [hc1]; done) | (rw [hc1]; rfl)) (by decide) ?_
        refine lv_aload_n F.1 F.2.1 dX3_join_84 rfl (lv_at hl 1 rfl) ?_
        refine lv_aload_n F.1 F.2.1 dX3_join_85 rfl (lv_at hl 0 rfl) ?_
        refine xc_Vv (As := [.ref hs2]) (rest := []) (m_X2_addAll l D cs hs1 hs1_members hs1_scores hs2 hs2_members hs2_scores ns1_size fs1_members fs1_scores ns2_size fs2_members fs2_scores _ hw) F (cwV 1 F.2.2.2.2 gX3_join_X2_addAll rfl rfl rfl (by decide +kernel) ⟨Nat.le_of_ble_eq_true rfl, Nat.le_of_ble_eq_true rfl⟩) hK hP hD hS hA [2, 3, 4, 5, 6, 7] [0, 1] rfl rfl 0 rfl rfl rfl hl.1 rfl (Nat.le_of_ble_eq_true rfl) dX3_join_86 ⟨Nat.zero_le _, Nat.zero_le _⟩ (fun u H locs hw hP hD hS => ?_)
        obtain ⟨ns1_size_86, fs1_members_86, fs1_scores_86⟩ := u
        have hP : va_P D vwCl (pc_X3_join cs h0 h0_open h0_row h0_stack h0_taken h0_kin h0_ranking hs1 hs1_members hs1_scores hs2 hs2_members hs2_scores n0_depth b0_wentUp f0_stack ns1_size_86 fs1_members_86 fs1_scores_86 ns2_size fs2_members fs2_scores) H := hP.sub [0, 1, 2, 3, 4, 5, 6, 7] rfl
        have hD : va_D A (pc_X3_join cs h0 h0_open h0_row h0_stack h0_taken h0_kin h0_ranking hs1 hs1_members hs1_scores hs2 hs2_members hs2_scores n0_depth b0_wentUp f0_stack ns1_size_86 fs1_members_86 fs1_scores_86 ns2_size fs2_members fs2_scores) := hD.sub [0, 1, 2, 3, 4, 5, 6, 7] (by decide) rfl
        try dsimp only at hw
        refine lv_goto (tgt := 97) F.1 F.2.1 dX3_join_89 (by decide) ?_
        exact (hX97 _ _ _ _).mp hw H locs ls hP hD hS (lv_sub hl [2, 1] rfl)
      have hw := hwd hc0 hc1
      refine lv_lookup (tgt := 92) (off := 44) F.1 F.2.1 dX3_join_48 (by decide) ((lv_osw hc0 rfl).trans ((lv_osw hc1 rfl).trans rfl)) (by decide) ?_
      refine lv_aload_n F.1 F.2.1 dX3_join_92 rfl (lv_at hl 1 rfl) ?_
      refine lv_aload_n F.1 F.2.1 dX3_join_93 rfl (lv_at hl 0 rfl) ?_
      refine xc_Vv (As := [.ref hs2]) (rest := []) (m_X2_removeAll l D cs hs1 hs1_members hs1_scores hs2 hs2_members hs2_scores ns1_size fs1_members ns2_size fs2_members _ hw) F (cwV 1 F.2.2.2.2 gX3_join_X2_removeAll rfl rfl rfl (by decide +kernel) ⟨Nat.le_of_ble_eq_true rfl, Nat.le_of_ble_eq_true rfl⟩) hK hP hD hS hA [2, 3, 5, 6] [0, 1, 4, 7] rfl rfl 0 rfl rfl rfl hl.1 rfl (Nat.le_of_ble_eq_true rfl) dX3_join_94 ⟨Nat.zero_le _, Nat.zero_le _⟩ (fun u H locs hw hP hD hS => ?_)
      obtain ⟨ns1_size_94, fs1_members_94⟩ := u
      have hP : va_P D vwCl (pc_X3_join cs h0 h0_open h0_row h0_stack h0_taken h0_kin h0_ranking hs1 hs1_members hs1_scores hs2 hs2_members hs2_scores n0_depth b0_wentUp f0_stack ns1_size_94 fs1_members_94 fs1_scores ns2_size fs2_members fs2_scores) H := hP.sub [0, 1, 4, 5, 2, 6, 7, 3] rfl
      have hD : va_D A (pc_X3_join cs h0 h0_open h0_row h0_stack h0_taken h0_kin h0_ranking hs1 hs1_members hs1_scores hs2 hs2_members hs2_scores n0_depth b0_wentUp f0_stack ns1_size_94 fs1_members_94 fs1_scores ns2_size fs2_members fs2_scores) := hD.sub [0, 1, 4, 5, 2, 6, 7, 3] (by decide) rfl
      try dsimp only at hw
      exact (hX97 _ _ _ _).mp hw H locs ls hP hD hS (lv_sub hl [2, 1] rfl)
    · have hw := hw.2 hc
      refine lv_bipush (v := (-3)) F.1 F.2.1 dX3_join_20 (by decide) ?_
      exact RET (-3) (n0_depth, ns1_size, fs1_members, fs1_scores) H locs 22 ls hw hP hD hS dX3_join_22
  · have hw := hw.2 hc
    refine lv_bipush (v := (-2)) F.1 F.2.1 dX3_join_9 (by decide) ?_
    exact RET (-2) (n0_depth, ns1_size, fs1_members, fs1_scores) H locs 11 ls hw hP hD hS dX3_join_11

theorem in_X3_up_X3 : ∀ w ∈ wsX30, w ∈ wsX3_up := by decide +kernel
theorem fl_X3_up_20 : Cond.fieldLink RX3 20 "JoinBlocks" "row" "LJoinBlocks$Row;" ∈ wsX3_up := by decide +kernel
theorem in_X3_up_X1 : ∀ w ∈ wsX10, w ∈ wsX3_up := by decide +kernel
theorem fl_X3_up_59 : Cond.fieldLink RX3 59 "JoinBlocks$Row" "size" "I" ∈ wsX3_up := by decide +kernel
theorem in_X3_up_X2 : ∀ w ∈ wsX20, w ∈ wsX3_up := by decide +kernel
theorem fl_X3_up_140 : Cond.fieldLink RX3 140 "JoinBlocks$ScoredSet" "size" "I" ∈ wsX3_up := by decide +kernel
theorem fl_X3_up_90 : Cond.fieldLink RX3 90 "JoinBlocks$Row" "levels" "[I" ∈ wsX3_up := by decide +kernel
theorem fl_X3_up_44 : Cond.fieldLink RX3 44 "JoinBlocks" "depth" "I" ∈ wsX3_up := by decide +kernel
theorem fl_X3_up_25 : Cond.fieldLink RX3 25 "JoinBlocks" "stack" "[LJoinBlocks$ScoredSet;" ∈ wsX3_up := by decide +kernel
theorem fl_X3_up_34 : Cond.fieldLink RX3 34 "JoinBlocks" "kin" "LJoinBlocks$ScoredSet;" ∈ wsX3_up := by decide +kernel
theorem fl_X3_up_48 : Cond.fieldLink RX3 48 "JoinBlocks" "wentUp" "Z" ∈ wsX3_up := by decide +kernel
abbrev pc_X3_up (cs : Nat → ClassId) (h0 : Nat) (h0_open : Nat) (h0_row : Nat) (h0_stack : Nat) (h0_taken : Nat) (h0_kin : Nat) (h0_ranking : Nat) (h0_row_levels : Nat) (h0_row_values : Nat) (h0_row_tags : Nat) (h0_row_links : Nat) (h0_row_keys : Nat) (h0_row_living : Nat) (h0_kin_members : Nat) (h0_kin_scores : Nat) (hs1 : Nat) (hs1_members : Nat) (hs1_scores : Nat) (n0_depth : Int32) (b0_wentUp : Bool) (n0_row_size : Int32) (f0_row_levels : Nat → Int32) (f0_stack : Nat → Option Nat) (n0_kin_size : Int32) (f0_kin_members : Nat → Bool) (f0_kin_scores : Nat → Int64) (ns1_size : Int32) (fs1_members : Nat → Bool) (fs1_scores : Nat → Int64) : va_W := [(h0, .inr (3, [.ref h0_open, .ref h0_row, .ref h0_stack, .ref h0_taken, .ref h0_kin, .ref h0_ranking, .int n0_depth, .int (b2i b0_wentUp)])), (h0_row, .inr (1, [.ref h0_row_levels, .ref h0_row_values, .ref h0_row_tags, .ref h0_row_links, .ref h0_row_keys, .ref h0_row_living, .int n0_row_size])), (h0_row_levels, .inl (cs 0, 200, .inl f0_row_levels)), (h0_stack, .inl (cs 3, 8, .inr (.inr (.inr (.inr f0_stack))))), (h0_kin, .inr (2, [.ref h0_kin_members, .ref h0_kin_scores, .int n0_kin_size])), (h0_kin_members, .inl (cs 1, 200, .inl (bF f0_kin_members))), (h0_kin_scores, .inl (cs 2, 200, .inr (.inl f0_kin_scores))), (hs1, .inr (2, [.ref hs1_members, .ref hs1_scores, .int ns1_size])), (hs1_members, .inl (cs 1, 200, .inl (bF fs1_members))), (hs1_scores, .inl (cs 2, 200, .inr (.inl fs1_scores)))]
abbrev rm_X3_up : Room := { frames := 4, cells := 0, slots := 0, locals := 89 }
def call_X3_up (ds1 : Nat) (p1 : Int32) (p2 : Int32) (n0_depth : Int32) (b0_wentUp : Bool) (n0_row_size : Int32) (f0_row_levels : Nat → Int32) (n0_kin_size : Int32) (f0_kin_members : Nat → Bool) (f0_kin_scores : Nat → Int64) (ns1_size : Int32) (fs1_members : Nat → Bool) (fs1_scores : Nat → Int64) (Q : Int32 → Bool → Int32 → (Nat → Bool) → (Nat → Int64) → Int32 → (Nat → Bool) → (Nat → Int64) → Prop) : Prop := ∀ (X18 : Bool → Int32 → (Nat → Bool) → (Nat → Int64) → Int32 → (Nat → Bool) → (Nat → Int64) → Prop) (X60 : Int32 → Bool → Int32 → (Nat → Bool) → (Nat → Int64) → Int32 → (Nat → Bool) → (Nat → Int64) → Prop) (X94 : Int32 → Bool → Int32 → (Nat → Bool) → (Nat → Int64) → Int32 → (Nat → Bool) → (Nat → Int64) → Prop),
    (∀ (b0_wentUp : Bool) (n0_kin_size : Int32) (f0_kin_members : Nat → Bool) (f0_kin_scores : Nat → Int64) (ns1_size : Int32) (fs1_members : Nat → Bool) (fs1_scores : Nat → Int64),
      Q (-2) b0_wentUp n0_kin_size f0_kin_members f0_kin_scores ns1_size fs1_members fs1_scores → X18 b0_wentUp n0_kin_size f0_kin_members f0_kin_scores ns1_size fs1_members fs1_scores) →
    (∀ (x4 : Int32) (b0_wentUp : Bool) (n0_kin_size : Int32) (f0_kin_members : Nat → Bool) (f0_kin_scores : Nat → Int64) (ns1_size : Int32) (fs1_members : Nat → Bool) (fs1_scores : Nat → Int64),
      ((n0_row_size ≤ x4 → Q ns1_size b0_wentUp n0_kin_size f0_kin_members f0_kin_scores ns1_size fs1_members fs1_scores) ∧ (¬ n0_row_size ≤ x4 → (∃ j81 : Nat, j81 < 200 ∧ x4 = nI j81 ∧ ((¬ (f0_row_levels j81) = p1 → X94 x4 b0_wentUp n0_kin_size f0_kin_members f0_kin_scores ns1_size fs1_members fs1_scores) ∧ ((f0_row_levels j81) = p1 → (call_X3_gatherBelow x4 p2 f0_row_levels f0_kin_members f0_kin_scores ns1_size fs1_members fs1_scores (fun (ns1_size_91 : Int32) (fs1_members_91 : Nat → Bool) (fs1_scores_91 : Nat → Int64) => X94 x4 b0_wentUp n0_kin_size f0_kin_members f0_kin_scores ns1_size_91 fs1_members_91 fs1_scores_91))))))) → X60 x4 b0_wentUp n0_kin_size f0_kin_members f0_kin_scores ns1_size fs1_members fs1_scores) →
    (∀ (x4 : Int32) (b0_wentUp : Bool) (n0_kin_size : Int32) (f0_kin_members : Nat → Bool) (f0_kin_scores : Nat → Int64) (ns1_size : Int32) (fs1_members : Nat → Bool) (fs1_scores : Nat → Int64),
      X60 (x4 + 1) b0_wentUp n0_kin_size f0_kin_members f0_kin_scores ns1_size fs1_members fs1_scores → X94 x4 b0_wentUp n0_kin_size f0_kin_members f0_kin_scores ns1_size fs1_members fs1_scores) →
    (call_X3_isWithin p1 1 2 (fun (r3 : Bool) => ((r3 = false → X18 b0_wentUp n0_kin_size f0_kin_members f0_kin_scores ns1_size fs1_members fs1_scores) ∧ (r3 = true → (call_X3_isWithin p2 0 4 (fun (r12 : Bool) => ((r12 = true → ((1 ≤ n0_depth → ((n0_depth - 1) = nI ds1 ∧ (call_X2_moveTo ns1_size fs1_members fs1_scores n0_kin_size f0_kin_members f0_kin_scores (fun (ns1_size_49 : Int32) (fs1_members_49 : Nat → Bool) (n0_kin_size_49 : Int32) (f0_kin_members_49 : Nat → Bool) (f0_kin_scores_49 : Nat → Int64) => X60 0 true n0_kin_size_49 f0_kin_members_49 f0_kin_scores_49 ns1_size_49 fs1_members_49 fs1_scores)))) ∧ (¬ 1 ≤ n0_depth → Q (-3) b0_wentUp n0_kin_size f0_kin_members f0_kin_scores ns1_size fs1_members fs1_scores))) ∧ (r12 = false → X18 b0_wentUp n0_kin_size f0_kin_members f0_kin_scores ns1_size fs1_members fs1_scores))))))))
set_option maxHeartbeats 4000000 in
set_option maxRecDepth 100000 in
theorem m_X3_up (l : Launch) (D : va_G) (cs : Nat → ClassId) (h0 : Nat) (h0_open : Nat) (h0_row : Nat) (h0_stack : Nat) (h0_taken : Nat) (h0_kin : Nat) (h0_ranking : Nat) (h0_row_levels : Nat) (h0_row_values : Nat) (h0_row_tags : Nat) (h0_row_links : Nat) (h0_row_keys : Nat) (h0_row_living : Nat) (h0_kin_members : Nat) (h0_kin_scores : Nat) (hs1 : Nat) (hs1_members : Nat) (hs1_scores : Nat)  (p1 : Int32) (p2 : Int32) (n0_depth : Int32) (b0_wentUp : Bool) (n0_row_size : Int32) (f0_row_levels : Nat → Int32) (f0_stack : Nat → Option Nat) (n0_kin_size : Int32) (f0_kin_members : Nat → Bool) (f0_kin_scores : Nat → Int64) (ns1_size : Int32) (fs1_members : Nat → Bool) (fs1_scores : Nat → Int64) (ds1 : Nat) (hds1 : ds1 < 8) (hfs1 : f0_stack ds1 = some hs1) (Q : Int32 → Bool → Int32 → (Nat → Bool) → (Nat → Int64) → Int32 → (Nat → Bool) → (Nat → Int64) → Prop) (h : call_X3_up ds1 p1 p2 n0_depth b0_wentUp n0_row_size f0_row_levels n0_kin_size f0_kin_members f0_kin_scores ns1_size fs1_members fs1_scores Q) : CtI l yX3_up wsX3_up rm_X3_up D cs [.ref h0, .int p1, .int p2] (pc_X3_up cs h0 h0_open h0_row h0_stack h0_taken h0_kin h0_ranking h0_row_levels h0_row_values h0_row_tags h0_row_links h0_row_keys h0_row_living h0_kin_members h0_kin_scores hs1 hs1_members hs1_scores n0_depth b0_wentUp n0_row_size f0_row_levels f0_stack n0_kin_size f0_kin_members f0_kin_scores ns1_size fs1_members fs1_scores) (fun u : Bool × Int32 × (Nat → Bool) × (Nat → Int64) × Int32 × (Nat → Bool) × (Nat → Int64) => (pc_X3_up cs h0 h0_open h0_row h0_stack h0_taken h0_kin h0_ranking h0_row_levels h0_row_values h0_row_tags h0_row_links h0_row_keys h0_row_living h0_kin_members h0_kin_scores hs1 hs1_members hs1_scores n0_depth u.1 n0_row_size f0_row_levels f0_stack u.2.1 u.2.2.1 u.2.2.2.1 u.2.2.2.2.1 u.2.2.2.2.2.1 u.2.2.2.2.2.2)) (fun r u => Q r u.1 u.2.1 u.2.2.1 u.2.2.2.1 u.2.2.2.2.1 u.2.2.2.2.2.1 u.2.2.2.2.2.2) := by
  refine xo_I (S := Bool × Int32 × (Nat → Bool) × (Nat → Int64) × Int32 × (Nat → Bool) × (Nat → Int64)) (cc := cX3_up) (maxL := 5) (own := RX3) (lv0 := [(0, .ref h0), (1, .int p1), (2, .int p2)]) (by decide) rfl rfl (Nat.le_of_ble_eq_true rfl) rfl ?_
  intro p e s m args below meth c A Z ls F hK hA hP hD hS hl RET
  unfold call_X3_up at h
  obtain ⟨X18, hX18⟩ : ∃ X : Bool → Int32 → (Nat → Bool) → (Nat → Int64) → Int32 → (Nat → Bool) → (Nat → Int64) → Prop, ∀ (b0_wentUp : Bool) (n0_kin_size : Int32) (f0_kin_members : Nat → Bool) (f0_kin_scores : Nat → Int64) (ns1_size : Int32) (fs1_members : Nat → Bool) (fs1_scores : Nat → Int64), (X b0_wentUp n0_kin_size f0_kin_members f0_kin_scores ns1_size fs1_members fs1_scores ↔ ∀ (H : Heap) (locs : List Loc) (ls : Array Slot), va_P D vwCl (pc_X3_up cs h0 h0_open h0_row h0_stack h0_taken h0_kin h0_ranking h0_row_levels h0_row_values h0_row_tags h0_row_links h0_row_keys h0_row_living h0_kin_members h0_kin_scores hs1 hs1_members hs1_scores n0_depth b0_wentUp n0_row_size f0_row_levels f0_stack n0_kin_size f0_kin_members f0_kin_scores ns1_size fs1_members fs1_scores) H → va_D A (pc_X3_up cs h0 h0_open h0_row h0_stack h0_taken h0_kin h0_ranking h0_row_levels h0_row_values h0_row_tags h0_row_links h0_row_keys h0_row_living h0_kin_members h0_kin_scores hs1 hs1_members hs1_scores n0_depth b0_wentUp n0_row_size f0_row_levels f0_stack n0_kin_size f0_kin_members f0_kin_scores ns1_size fs1_members fs1_scores) → va_S A s.heap H locs → lv_has ls 5 [] → W p l e rm_X3_up s m args below meth c H locs 0 0 Z (F0 m 18 ls [])) := ⟨_, fun _ _ _ _ _ _ _ => Iff.rfl⟩
  obtain ⟨X60, hX60⟩ : ∃ X : Int32 → Bool → Int32 → (Nat → Bool) → (Nat → Int64) → Int32 → (Nat → Bool) → (Nat → Int64) → Prop, ∀ (x4 : Int32) (b0_wentUp : Bool) (n0_kin_size : Int32) (f0_kin_members : Nat → Bool) (f0_kin_scores : Nat → Int64) (ns1_size : Int32) (fs1_members : Nat → Bool) (fs1_scores : Nat → Int64), (X x4 b0_wentUp n0_kin_size f0_kin_members f0_kin_scores ns1_size fs1_members fs1_scores ↔ ∀ (H : Heap) (locs : List Loc) (ls : Array Slot), va_P D vwCl (pc_X3_up cs h0 h0_open h0_row h0_stack h0_taken h0_kin h0_ranking h0_row_levels h0_row_values h0_row_tags h0_row_links h0_row_keys h0_row_living h0_kin_members h0_kin_scores hs1 hs1_members hs1_scores n0_depth b0_wentUp n0_row_size f0_row_levels f0_stack n0_kin_size f0_kin_members f0_kin_scores ns1_size fs1_members fs1_scores) H → va_D A (pc_X3_up cs h0 h0_open h0_row h0_stack h0_taken h0_kin h0_ranking h0_row_levels h0_row_values h0_row_tags h0_row_links h0_row_keys h0_row_living h0_kin_members h0_kin_scores hs1 hs1_members hs1_scores n0_depth b0_wentUp n0_row_size f0_row_levels f0_stack n0_kin_size f0_kin_members f0_kin_scores ns1_size fs1_members fs1_scores) → va_S A s.heap H locs → lv_has ls 5 [(0, .ref h0), (1, .int p1), (2, .int p2), (3, .ref hs1), (4, .int x4)] → W p l e rm_X3_up s m args below meth c H locs 0 0 Z (F0 m 60 ls [])) := ⟨_, fun _ _ _ _ _ _ _ _ => Iff.rfl⟩
  obtain ⟨X94, hX94⟩ : ∃ X : Int32 → Bool → Int32 → (Nat → Bool) → (Nat → Int64) → Int32 → (Nat → Bool) → (Nat → Int64) → Prop, ∀ (x4 : Int32) (b0_wentUp : Bool) (n0_kin_size : Int32) (f0_kin_members : Nat → Bool) (f0_kin_scores : Nat → Int64) (ns1_size : Int32) (fs1_members : Nat → Bool) (fs1_scores : Nat → Int64), (X x4 b0_wentUp n0_kin_size f0_kin_members f0_kin_scores ns1_size fs1_members fs1_scores ↔ ∀ (H : Heap) (locs : List Loc) (ls : Array Slot), va_P D vwCl (pc_X3_up cs h0 h0_open h0_row h0_stack h0_taken h0_kin h0_ranking h0_row_levels h0_row_values h0_row_tags h0_row_links h0_row_keys h0_row_living h0_kin_members h0_kin_scores hs1 hs1_members hs1_scores n0_depth b0_wentUp n0_row_size f0_row_levels f0_stack n0_kin_size f0_kin_members f0_kin_scores ns1_size fs1_members fs1_scores) H → va_D A (pc_X3_up cs h0 h0_open h0_row h0_stack h0_taken h0_kin h0_ranking h0_row_levels h0_row_values h0_row_tags h0_row_links h0_row_keys h0_row_living h0_kin_members h0_kin_scores hs1 hs1_members hs1_scores n0_depth b0_wentUp n0_row_size f0_row_levels f0_stack n0_kin_size f0_kin_members f0_kin_scores ns1_size fs1_members fs1_scores) → va_S A s.heap H locs → lv_has ls 5 [(0, .ref h0), (1, .int p1), (2, .int p2), (3, .ref hs1), (4, .int x4)] → W p l e rm_X3_up s m args below meth c H locs 0 0 Z (F0 m 94 ls [])) := ⟨_, fun _ _ _ _ _ _ _ _ => Iff.rfl⟩
  refine xt_cut (h X18 X60 X94 ?_ ?_ ?_) (fun hw => ?_)
  · intro b0_wentUp n0_kin_size f0_kin_members f0_kin_scores ns1_size fs1_members fs1_scores hw
    refine (hX18 _ _ _ _ _ _ _).mpr ?_
    intro H locs ls hP hD hS hl
    refine lv_bipush (v := (-2)) F.1 F.2.1 dX3_up_18 (by decide) ?_
    exact RET (-2) (b0_wentUp, n0_kin_size, f0_kin_members, f0_kin_scores, ns1_size, fs1_members, fs1_scores) H locs 20 ls hw hP hD hS dX3_up_20
  · intro x4 b0_wentUp n0_kin_size f0_kin_members f0_kin_scores ns1_size fs1_members fs1_scores hw
    refine (hX60 _ _ _ _ _ _ _ _).mpr ?_
    intro H locs ls hP hD hS hl
    refine lv_iload F.1 F.2.1 dX3_up_60 (lv_at hl 4 rfl) ?_
    refine lv_aload_n F.1 F.2.1 dX3_up_62 rfl (lv_at hl 0 rfl) ?_
    refine xi_get (C := RX3) (T := TX3) (N := 8) (v := .ref h0_row) F in_X3_up_X3 hK hP 0 rfl rfl 1 (by decide) fl_X3_up_20 rfl dX3_up_63 ?_
    refine xi_get (C := RX1) (T := TX1) (N := 7) (v := .int n0_row_size) F in_X3_up_X1 hK hP 1 rfl rfl 6 (by decide) fl_X3_up_59 rfl dX3_up_66 ?_
    refine lv_icmp_ge (tgt := 100) F.1 F.2.1 dX3_up_69 (by decide) (fun hc => ?_) (fun hc => ?_)
    · have hw := hw.1 hc
      refine lv_aload_n F.1 F.2.1 dX3_up_100 rfl (lv_at hl 3 rfl) ?_
      refine xi_get (C := RX2) (T := TX2) (N := 3) (v := .int ns1_size) F in_X3_up_X2 hK hP 7 rfl rfl 2 (by decide) fl_X3_up_140 rfl dX3_up_101 ?_
      exact RET ns1_size (b0_wentUp, n0_kin_size, f0_kin_members, f0_kin_scores, ns1_size, fs1_members, fs1_scores) H locs 104 ls hw hP hD hS dX3_up_104
    · have hw := hw.2 hc
      refine lv_aload_n F.1 F.2.1 dX3_up_72 rfl (lv_at hl 0 rfl) ?_
      refine xi_get (C := RX3) (T := TX3) (N := 8) (v := .ref h0_row) F in_X3_up_X3 hK hP 0 rfl rfl 1 (by decide) fl_X3_up_20 rfl dX3_up_73 ?_
      refine xi_get (C := RX1) (T := TX1) (N := 7) (v := .ref h0_row_levels) F in_X3_up_X1 hK hP 1 rfl rfl 0 (by decide) fl_X3_up_90 rfl dX3_up_76 ?_
      refine lv_iload F.1 F.2.1 dX3_up_79 (lv_at hl 4 rfl) ?_
      obtain ⟨j81, hj, he, hw⟩ := hw
      refine xi_iald (j := j81) F hK hP 2 rfl (by decide) hj he dX3_up_81 ?_
      refine lv_iload_n F.1 F.2.1 dX3_up_82 rfl (lv_at hl 1 rfl) ?_
      refine lv_icmp_ne (tgt := 94) F.1 F.2.1 dX3_up_83 (by decide) (fun hc => ?_) (fun hc => ?_)
      · have hw := hw.1 hc
        exact (hX94 _ _ _ _ _ _ _ _).mp hw H locs ls hP hD hS (lv_sub hl [0, 1, 2, 3, 4] rfl)
      · have hw := hw.2 hc
        refine lv_aload_n F.1 F.2.1 dX3_up_86 rfl (lv_at hl 0 rfl) ?_
        refine lv_iload F.1 F.2.1 dX3_up_87 (lv_at hl 4 rfl) ?_
        refine lv_iload_n F.1 F.2.1 dX3_up_89 rfl (lv_at hl 2 rfl) ?_
        refine lv_aload_n F.1 F.2.1 dX3_up_90 rfl (lv_at hl 3 rfl) ?_
        refine xc_Vv (As := [.int x4, .int p2, .ref hs1]) (rest := []) (m_X3_gatherBelow l D cs h0 h0_open h0_row h0_stack h0_taken h0_kin h0_ranking h0_row_levels h0_row_values h0_row_tags h0_row_links h0_row_keys h0_row_living h0_kin_members h0_kin_scores hs1 hs1_members hs1_scores x4 p2 n0_depth b0_wentUp n0_row_size f0_row_levels n0_kin_size f0_kin_members f0_kin_scores ns1_size fs1_members fs1_scores _ hw) F (cwV 3 F.2.2.2.2 gX3_up_X3_gatherBelow rfl rfl rfl (by decide +kernel) ⟨Nat.le_of_ble_eq_true rfl, Nat.le_of_ble_eq_true rfl⟩) hK hP hD hS hA [0, 1, 2, 4, 5, 6, 7, 8, 9] [3] rfl rfl 0 rfl rfl rfl hl.1 rfl (Nat.le_of_ble_eq_true rfl) dX3_up_91 ⟨Nat.zero_le _, Nat.zero_le _⟩ (fun u H locs hw hP hD hS => ?_)
        obtain ⟨ns1_size_91, fs1_members_91, fs1_scores_91⟩ := u
        have hP : va_P D vwCl (pc_X3_up cs h0 h0_open h0_row h0_stack h0_taken h0_kin h0_ranking h0_row_levels h0_row_values h0_row_tags h0_row_links h0_row_keys h0_row_living h0_kin_members h0_kin_scores hs1 hs1_members hs1_scores n0_depth b0_wentUp n0_row_size f0_row_levels f0_stack n0_kin_size f0_kin_members f0_kin_scores ns1_size_91 fs1_members_91 fs1_scores_91) H := hP.sub [1, 2, 3, 0, 4, 5, 6, 7, 8, 9] rfl
        have hD : va_D A (pc_X3_up cs h0 h0_open h0_row h0_stack h0_taken h0_kin h0_ranking h0_row_levels h0_row_values h0_row_tags h0_row_links h0_row_keys h0_row_living h0_kin_members h0_kin_scores hs1 hs1_members hs1_scores n0_depth b0_wentUp n0_row_size f0_row_levels f0_stack n0_kin_size f0_kin_members f0_kin_scores ns1_size_91 fs1_members_91 fs1_scores_91) := hD.sub [1, 2, 3, 0, 4, 5, 6, 7, 8, 9] (by decide) rfl
        try dsimp only at hw
        exact (hX94 _ _ _ _ _ _ _ _).mp hw H locs ls hP hD hS (lv_sub hl [0, 1, 2, 3, 4] rfl)
  · intro x4 b0_wentUp n0_kin_size f0_kin_members f0_kin_scores ns1_size fs1_members fs1_scores hw
    refine (hX94 _ _ _ _ _ _ _ _).mpr ?_
    intro H locs ls hP hD hS hl
    refine lv_iinc (v := (x4 + 1)) (lv' := [(4, .int (x4 + 1)), (0, .ref h0), (1, .int p1), (2, .int p2), (3, .ref hs1)]) F.1 F.2.1 dX3_up_94 hl (k := 4) rfl rfl (by decide) rfl (fun ls hl => ?_)
    refine lv_goto (tgt := 60) F.1 F.2.1 dX3_up_97 (by decide) ?_
    exact (hX60 _ _ _ _ _ _ _ _).mp hw H locs ls hP hD hS (lv_sub hl [1, 2, 3, 4, 0] rfl)
  generalize ([] : List Loc) = locs at hS ⊢
  obtain ⟨H, hHe⟩ : ∃ H, H = s.heap := ⟨_, rfl⟩
  have hP : va_P D vwCl (pc_X3_up cs h0 h0_open h0_row h0_stack h0_taken h0_kin h0_ranking h0_row_levels h0_row_values h0_row_tags h0_row_links h0_row_keys h0_row_living h0_kin_members h0_kin_scores hs1 hs1_members hs1_scores n0_depth b0_wentUp n0_row_size f0_row_levels f0_stack n0_kin_size f0_kin_members f0_kin_scores ns1_size fs1_members fs1_scores) H := by rw [hHe]; exact hP
  have hS : va_S A s.heap H locs := by rw [hHe]; exact hS
  suffices W p l e rm_X3_up s m args below meth c H locs 0 0 Z (F0 m 0 ls []) by rw [hHe] at this; exact this
  refine lv_iload_n F.1 F.2.1 dX3_up_0 rfl (lv_at hl 1 rfl) ?_
  refine lv_iconst (v := 1) F.1 F.2.1 dX3_up_1 (by decide) ?_
  refine lv_iconst (v := 2) F.1 F.2.1 dX3_up_2 (by decide) ?_
  refine xc_Sz (As := [.int p1, .int 1, .int 2]) (rest := []) (m_X3_isWithin l D cs p1 1 2 _ hw) F (va_cwS 3 F.2.2.2.2 gX3_up_X3_isWithin rfl rfl rfl (by decide +kernel) ⟨Nat.le_of_ble_eq_true rfl, Nat.le_of_ble_eq_true rfl⟩) hK hP hD hS hA [] [0, 1, 2, 3, 4, 5, 6, 7, 8, 9] rfl rfl rfl hl.1 rfl (Nat.le_of_ble_eq_true rfl) dX3_up_3 ⟨Nat.zero_le _, Nat.zero_le _⟩ (fun r3 u H locs hw hP hD hS => ?_)
  have hP : va_P D vwCl (pc_X3_up cs h0 h0_open h0_row h0_stack h0_taken h0_kin h0_ranking h0_row_levels h0_row_values h0_row_tags h0_row_links h0_row_keys h0_row_living h0_kin_members h0_kin_scores hs1 hs1_members hs1_scores n0_depth b0_wentUp n0_row_size f0_row_levels f0_stack n0_kin_size f0_kin_members f0_kin_scores ns1_size fs1_members fs1_scores) H := hP.sub [0, 1, 2, 3, 4, 5, 6, 7, 8, 9] rfl
  have hD : va_D A (pc_X3_up cs h0 h0_open h0_row h0_stack h0_taken h0_kin h0_ranking h0_row_levels h0_row_values h0_row_tags h0_row_links h0_row_keys h0_row_living h0_kin_members h0_kin_scores hs1 hs1_members hs1_scores n0_depth b0_wentUp n0_row_size f0_row_levels f0_stack n0_kin_size f0_kin_members f0_kin_scores ns1_size fs1_members fs1_scores) := hD.sub [0, 1, 2, 3, 4, 5, 6, 7, 8, 9] (by decide) rfl
  try dsimp only at hw
  refine xi_ifeqz (tgt := 18) F dX3_up_6 (by decide) (fun hc => ?_) (fun hc => ?_)
  · have hw := hw.1 hc
    exact (hX18 _ _ _ _ _ _ _).mp hw H locs ls hP hD hS (lv_sub hl [] rfl)
  · have hw := hw.2 hc
    refine lv_iload_n F.1 F.2.1 dX3_up_9 rfl (lv_at hl 2 rfl) ?_
    refine lv_iconst (v := 0) F.1 F.2.1 dX3_up_10 (by decide) ?_
    refine lv_iconst (v := 4) F.1 F.2.1 dX3_up_11 (by decide) ?_
    refine xc_Sz (As := [.int p2, .int 0, .int 4]) (rest := []) (m_X3_isWithin l D cs p2 0 4 _ hw) F (va_cwS 3 F.2.2.2.2 gX3_up_X3_isWithin rfl rfl rfl (by decide +kernel) ⟨Nat.le_of_ble_eq_true rfl, Nat.le_of_ble_eq_true rfl⟩) hK hP hD hS hA [] [0, 1, 2, 3, 4, 5, 6, 7, 8, 9] rfl rfl rfl hl.1 rfl (Nat.le_of_ble_eq_true rfl) dX3_up_12 ⟨Nat.zero_le _, Nat.zero_le _⟩ (fun r12 u H locs hw hP hD hS => ?_)
    have hP : va_P D vwCl (pc_X3_up cs h0 h0_open h0_row h0_stack h0_taken h0_kin h0_ranking h0_row_levels h0_row_values h0_row_tags h0_row_links h0_row_keys h0_row_living h0_kin_members h0_kin_scores hs1 hs1_members hs1_scores n0_depth b0_wentUp n0_row_size f0_row_levels f0_stack n0_kin_size f0_kin_members f0_kin_scores ns1_size fs1_members fs1_scores) H := hP.sub [0, 1, 2, 3, 4, 5, 6, 7, 8, 9] rfl
    have hD : va_D A (pc_X3_up cs h0 h0_open h0_row h0_stack h0_taken h0_kin h0_ranking h0_row_levels h0_row_values h0_row_tags h0_row_links h0_row_keys h0_row_living h0_kin_members h0_kin_scores hs1 hs1_members hs1_scores n0_depth b0_wentUp n0_row_size f0_row_levels f0_stack n0_kin_size f0_kin_members f0_kin_scores ns1_size fs1_members fs1_scores) := hD.sub [0, 1, 2, 3, 4, 5, 6, 7, 8, 9] (by decide) rfl
    try dsimp only at hw
    refine xi_ifnez (tgt := 21) F dX3_up_15 (by decide) (fun hc => ?_) (fun hc => ?_)
    · have hw := hw.1 hc
      refine lv_aload_n F.1 F.2.1 dX3_up_21 rfl (lv_at hl 0 rfl) ?_
      refine xi_get (C := RX3) (T := TX3) (N := 8) (v := .int n0_depth) F in_X3_up_X3 hK hP 0 rfl rfl 6 (by decide) fl_X3_up_44 rfl dX3_up_22 ?_
      refine lv_iconst (v := 1) F.1 F.2.1 dX3_up_25 (by decide) ?_
      refine lv_icmp_ge (tgt := 32) F.1 F.2.1 dX3_up_26 (by decide) (fun hc => ?_) (fun hc => ?_)
      · have hw := hw.1 hc
        refine lv_aload_n F.1 F.2.1 dX3_up_32 rfl (lv_at hl 0 rfl) ?_
        refine xi_get (C := RX3) (T := TX3) (N := 8) (v := .ref h0_stack) F in_X3_up_X3 hK hP 0 rfl rfl 2 (by decide) fl_X3_up_25 rfl dX3_up_33 ?_
        refine lv_aload_n F.1 F.2.1 dX3_up_36 rfl (lv_at hl 0 rfl) ?_
        refine xi_get (C := RX3) (T := TX3) (N := 8) (v := .int n0_depth) F in_X3_up_X3 hK hP 0 rfl rfl 6 (by decide) fl_X3_up_44 rfl dX3_up_37 ?_
        refine lv_iconst (v := 1) F.1 F.2.1 dX3_up_40 (by decide) ?_
        refine lv_isub F.1 F.2.1 dX3_up_41 ?_
        obtain ⟨he, hw⟩ := hw
        refine xi_aald F hK hP 3 rfl (by decide) hds1 he hfs1 dX3_up_42 ?_
        refine lv_astore_n (lv' := [(3, .ref hs1), (0, .ref h0), (1, .int p1), (2, .int p2)]) F.1 F.2.1 dX3_up_43 rfl hl (by decide) rfl (fun ls hl => ?_)
        refine lv_aload_n F.1 F.2.1 dX3_up_44 rfl (lv_at hl 0 rfl) ?_
        refine lv_aload_n F.1 F.2.1 dX3_up_45 rfl (lv_at hl 1 rfl) ?_
        refine xi_get (C := RX3) (T := TX3) (N := 8) (v := .ref h0_kin) F in_X3_up_X3 hK hP 0 rfl rfl 4 (by decide) fl_X3_up_34 rfl dX3_up_46 ?_
        refine xc_Vv (As := [.ref h0_kin]) (rest := []) (m_X2_moveTo l D cs hs1 hs1_members hs1_scores h0_kin h0_kin_members h0_kin_scores ns1_size fs1_members fs1_scores n0_kin_size f0_kin_members f0_kin_scores _ hw) F (cwV 1 F.2.2.2.2 gX3_up_X2_moveTo rfl rfl rfl (by decide +kernel) ⟨Nat.le_of_ble_eq_true rfl, Nat.le_of_ble_eq_true rfl⟩) hK hP hD hS hA [7, 8, 9, 4, 5, 6] [0, 1, 2, 3] rfl rfl 0 rfl rfl rfl hl.1 rfl (Nat.le_of_ble_eq_true rfl) dX3_up_49 ⟨Nat.zero_le _, Nat.zero_le _⟩ (fun u H locs hw hP hD hS => ?_)
        obtain ⟨ns1_size_49, fs1_members_49, n0_kin_size_49, f0_kin_members_49, f0_kin_scores_49⟩ := u
        have hP : va_P D vwCl (pc_X3_up cs h0 h0_open h0_row h0_stack h0_taken h0_kin h0_ranking h0_row_levels h0_row_values h0_row_tags h0_row_links h0_row_keys h0_row_living h0_kin_members h0_kin_scores hs1 hs1_members hs1_scores n0_depth b0_wentUp n0_row_size f0_row_levels f0_stack n0_kin_size_49 f0_kin_members_49 f0_kin_scores_49 ns1_size_49 fs1_members_49 fs1_scores) H := hP.sub [0, 1, 2, 3, 7, 8, 9, 4, 5, 6] rfl
        have hD : va_D A (pc_X3_up cs h0 h0_open h0_row h0_stack h0_taken h0_kin h0_ranking h0_row_levels h0_row_values h0_row_tags h0_row_links h0_row_keys h0_row_living h0_kin_members h0_kin_scores hs1 hs1_members hs1_scores n0_depth b0_wentUp n0_row_size f0_row_levels f0_stack n0_kin_size_49 f0_kin_members_49 f0_kin_scores_49 ns1_size_49 fs1_members_49 fs1_scores) := hD.sub [0, 1, 2, 3, 7, 8, 9, 4, 5, 6] (by decide) rfl
        try dsimp only at hw
        refine lv_aload_n F.1 F.2.1 dX3_up_52 rfl (lv_at hl 1 rfl) ?_
        refine lv_iconst (v := 1) F.1 F.2.1 dX3_up_53 (by decide) ?_
        refine xi_put (C := RX3) (T := TX3) (N := 8) (v := .int (b2i true)) (ty := .boolean) F in_X3_up_X3 tyX3 tyX3_ok nmX3 hK hP hD hS 0 rfl rfl 7 (by decide) fl_X3_up_48 rfl (tyX3_ok 7 (by decide)) (b2i_narrow _) (b2i_fits _) (Nat.le_of_ble_eq_true rfl) dX3_up_54 (fun H locs hP hD hS => ?_)
        have hP : va_P D vwCl (pc_X3_up cs h0 h0_open h0_row h0_stack h0_taken h0_kin h0_ranking h0_row_levels h0_row_values h0_row_tags h0_row_links h0_row_keys h0_row_living h0_kin_members h0_kin_scores hs1 hs1_members hs1_scores n0_depth true n0_row_size f0_row_levels f0_stack n0_kin_size_49 f0_kin_members_49 f0_kin_scores_49 ns1_size_49 fs1_members_49 fs1_scores) H := hP
        have hD : va_D A (pc_X3_up cs h0 h0_open h0_row h0_stack h0_taken h0_kin h0_ranking h0_row_levels h0_row_values h0_row_tags h0_row_links h0_row_keys h0_row_living h0_kin_members h0_kin_scores hs1 hs1_members hs1_scores n0_depth true n0_row_size f0_row_levels f0_stack n0_kin_size_49 f0_kin_members_49 f0_kin_scores_49 ns1_size_49 fs1_members_49 fs1_scores) := hD
        refine lv_iconst (v := 0) F.1 F.2.1 dX3_up_57 (by decide) ?_
        refine lv_istore (lv' := [(4, .int 0), (3, .ref hs1), (0, .ref h0), (1, .int p1), (2, .int p2)]) F.1 F.2.1 dX3_up_58 hl (by decide) rfl (fun ls hl => ?_)
        exact (hX60 _ _ _ _ _ _ _ _).mp hw H locs ls hP hD hS (lv_sub hl [2, 3, 4, 1, 0] rfl)
      · have hw := hw.2 hc
        refine lv_bipush (v := (-3)) F.1 F.2.1 dX3_up_29 (by decide) ?_
        exact RET (-3) (b0_wentUp, n0_kin_size, f0_kin_members, f0_kin_scores, ns1_size, fs1_members, fs1_scores) H locs 31 ls hw hP hD hS dX3_up_31
    · have hw := hw.2 hc
      exact (hX18 _ _ _ _ _ _ _).mp hw H locs ls hP hD hS (lv_sub hl [] rfl)

theorem in_X3_down_X3 : ∀ w ∈ wsX30, w ∈ wsX3_down := by decide +kernel
theorem fl_X3_down_20 : Cond.fieldLink RX3 20 "JoinBlocks" "row" "LJoinBlocks$Row;" ∈ wsX3_down := by decide +kernel
theorem in_X3_down_X1 : ∀ w ∈ wsX10, w ∈ wsX3_down := by decide +kernel
theorem fl_X3_down_59 : Cond.fieldLink RX3 59 "JoinBlocks$Row" "size" "I" ∈ wsX3_down := by decide +kernel
theorem in_X3_down_X2 : ∀ w ∈ wsX20, w ∈ wsX3_down := by decide +kernel
theorem fl_X3_down_140 : Cond.fieldLink RX3 140 "JoinBlocks$ScoredSet" "size" "I" ∈ wsX3_down := by decide +kernel
theorem fl_X3_down_30 : Cond.fieldLink RX3 30 "JoinBlocks" "taken" "LJoinBlocks$ScoredSet;" ∈ wsX3_down := by decide +kernel
theorem fl_X3_down_44 : Cond.fieldLink RX3 44 "JoinBlocks" "depth" "I" ∈ wsX3_down := by decide +kernel
theorem fl_X3_down_25 : Cond.fieldLink RX3 25 "JoinBlocks" "stack" "[LJoinBlocks$ScoredSet;" ∈ wsX3_down := by decide +kernel
abbrev pc_X3_down (cs : Nat → ClassId) (h0 : Nat) (h0_open : Nat) (h0_row : Nat) (h0_stack : Nat) (h0_taken : Nat) (h0_kin : Nat) (h0_ranking : Nat) (h0_row_levels : Nat) (h0_row_values : Nat) (h0_row_tags : Nat) (h0_row_links : Nat) (h0_row_keys : Nat) (h0_row_living : Nat) (h0_taken_members : Nat) (h0_taken_scores : Nat) (hs1 : Nat) (hs1_members : Nat) (hs1_scores : Nat) (n0_depth : Int32) (b0_wentUp : Bool) (n0_row_size : Int32) (f0_row_levels : Nat → Int32) (f0_stack : Nat → Option Nat) (n0_taken_size : Int32) (f0_taken_members : Nat → Bool) (f0_taken_scores : Nat → Int64) (ns1_size : Int32) (fs1_members : Nat → Bool) (fs1_scores : Nat → Int64) : va_W := [(h0, .inr (3, [.ref h0_open, .ref h0_row, .ref h0_stack, .ref h0_taken, .ref h0_kin, .ref h0_ranking, .int n0_depth, .int (b2i b0_wentUp)])), (h0_row, .inr (1, [.ref h0_row_levels, .ref h0_row_values, .ref h0_row_tags, .ref h0_row_links, .ref h0_row_keys, .ref h0_row_living, .int n0_row_size])), (h0_row_levels, .inl (cs 0, 200, .inl f0_row_levels)), (h0_stack, .inl (cs 3, 8, .inr (.inr (.inr (.inr f0_stack))))), (h0_taken, .inr (2, [.ref h0_taken_members, .ref h0_taken_scores, .int n0_taken_size])), (h0_taken_members, .inl (cs 1, 200, .inl (bF f0_taken_members))), (h0_taken_scores, .inl (cs 2, 200, .inr (.inl f0_taken_scores))), (hs1, .inr (2, [.ref hs1_members, .ref hs1_scores, .int ns1_size])), (hs1_members, .inl (cs 1, 200, .inl (bF fs1_members))), (hs1_scores, .inl (cs 2, 200, .inr (.inl fs1_scores)))]
abbrev rm_X3_down : Room := { frames := 4, cells := 0, slots := 0, locals := 89 }
def call_X3_down (ds1 : Nat) (p1 : Int32) (n0_depth : Int32) (n0_row_size : Int32) (f0_row_levels : Nat → Int32) (n0_taken_size : Int32) (f0_taken_members : Nat → Bool) (f0_taken_scores : Nat → Int64) (ns1_size : Int32) (fs1_members : Nat → Bool) (fs1_scores : Nat → Int64) (Q : Int32 → Int32 → (Nat → Bool) → (Nat → Int64) → Int32 → (Nat → Bool) → (Nat → Int64) → Prop) : Prop := ∀ (X45 : Int32 → Int32 → (Nat → Bool) → (Nat → Int64) → Int32 → (Nat → Bool) → (Nat → Int64) → Prop) (X74 : Int32 → Int32 → (Nat → Bool) → (Nat → Int64) → Int32 → (Nat → Bool) → (Nat → Int64) → Prop),
    (∀ (x3 : Int32) (n0_taken_size : Int32) (f0_taken_members : Nat → Bool) (f0_taken_scores : Nat → Int64) (ns1_size : Int32) (fs1_members : Nat → Bool) (fs1_scores : Nat → Int64),
      ((n0_row_size ≤ x3 → Q ns1_size n0_taken_size f0_taken_members f0_taken_scores ns1_size fs1_members fs1_scores) ∧ (¬ n0_row_size ≤ x3 → (call_X2_has x3 f0_taken_members (fun (r61 : Bool) => ((r61 = false → X74 x3 n0_taken_size f0_taken_members f0_taken_scores ns1_size fs1_members fs1_scores) ∧ (r61 = true → (call_X3_spreadBelow x3 p1 f0_row_levels f0_taken_scores ns1_size fs1_members fs1_scores (fun (ns1_size_71 : Int32) (fs1_members_71 : Nat → Bool) (fs1_scores_71 : Nat → Int64) => X74 x3 n0_taken_size f0_taken_members f0_taken_scores ns1_size_71 fs1_members_71 fs1_scores_71)))))))) → X45 x3 n0_taken_size f0_taken_members f0_taken_scores ns1_size fs1_members fs1_scores) →
    (∀ (x3 : Int32) (n0_taken_size : Int32) (f0_taken_members : Nat → Bool) (f0_taken_scores : Nat → Int64) (ns1_size : Int32) (fs1_members : Nat → Bool) (fs1_scores : Nat → Int64),
      X45 (x3 + 1) n0_taken_size f0_taken_members f0_taken_scores ns1_size fs1_members fs1_scores → X74 x3 n0_taken_size f0_taken_members f0_taken_scores ns1_size fs1_members fs1_scores) →
    (call_X3_isWithin p1 0 1 (fun (r3 : Bool) => ((r3 = true → ((1 ≤ n0_depth → ((n0_depth - 1) = nI ds1 ∧ (call_X2_moveTo ns1_size fs1_members fs1_scores n0_taken_size f0_taken_members f0_taken_scores (fun (ns1_size_40 : Int32) (fs1_members_40 : Nat → Bool) (n0_taken_size_40 : Int32) (f0_taken_members_40 : Nat → Bool) (f0_taken_scores_40 : Nat → Int64) => X45 0 n0_taken_size_40 f0_taken_members_40 f0_taken_scores_40 ns1_size_40 fs1_members_40 fs1_scores)))) ∧ (¬ 1 ≤ n0_depth → Q (-3) n0_taken_size f0_taken_members f0_taken_scores ns1_size fs1_members fs1_scores))) ∧ (r3 = false → Q (-2) n0_taken_size f0_taken_members f0_taken_scores ns1_size fs1_members fs1_scores))))
set_option maxHeartbeats 4000000 in
set_option maxRecDepth 100000 in
theorem m_X3_down (l : Launch) (D : va_G) (cs : Nat → ClassId) (h0 : Nat) (h0_open : Nat) (h0_row : Nat) (h0_stack : Nat) (h0_taken : Nat) (h0_kin : Nat) (h0_ranking : Nat) (h0_row_levels : Nat) (h0_row_values : Nat) (h0_row_tags : Nat) (h0_row_links : Nat) (h0_row_keys : Nat) (h0_row_living : Nat) (h0_taken_members : Nat) (h0_taken_scores : Nat) (hs1 : Nat) (hs1_members : Nat) (hs1_scores : Nat)  (p1 : Int32) (n0_depth : Int32) (b0_wentUp : Bool) (n0_row_size : Int32) (f0_row_levels : Nat → Int32) (f0_stack : Nat → Option Nat) (n0_taken_size : Int32) (f0_taken_members : Nat → Bool) (f0_taken_scores : Nat → Int64) (ns1_size : Int32) (fs1_members : Nat → Bool) (fs1_scores : Nat → Int64) (ds1 : Nat) (hds1 : ds1 < 8) (hfs1 : f0_stack ds1 = some hs1) (Q : Int32 → Int32 → (Nat → Bool) → (Nat → Int64) → Int32 → (Nat → Bool) → (Nat → Int64) → Prop) (h : call_X3_down ds1 p1 n0_depth n0_row_size f0_row_levels n0_taken_size f0_taken_members f0_taken_scores ns1_size fs1_members fs1_scores Q) : CtI l yX3_down wsX3_down rm_X3_down D cs [.ref h0, .int p1] (pc_X3_down cs h0 h0_open h0_row h0_stack h0_taken h0_kin h0_ranking h0_row_levels h0_row_values h0_row_tags h0_row_links h0_row_keys h0_row_living h0_taken_members h0_taken_scores hs1 hs1_members hs1_scores n0_depth b0_wentUp n0_row_size f0_row_levels f0_stack n0_taken_size f0_taken_members f0_taken_scores ns1_size fs1_members fs1_scores) (fun u : Int32 × (Nat → Bool) × (Nat → Int64) × Int32 × (Nat → Bool) × (Nat → Int64) => (pc_X3_down cs h0 h0_open h0_row h0_stack h0_taken h0_kin h0_ranking h0_row_levels h0_row_values h0_row_tags h0_row_links h0_row_keys h0_row_living h0_taken_members h0_taken_scores hs1 hs1_members hs1_scores n0_depth b0_wentUp n0_row_size f0_row_levels f0_stack u.1 u.2.1 u.2.2.1 u.2.2.2.1 u.2.2.2.2.1 u.2.2.2.2.2)) (fun r u => Q r u.1 u.2.1 u.2.2.1 u.2.2.2.1 u.2.2.2.2.1 u.2.2.2.2.2) := by
  refine xo_I (S := Int32 × (Nat → Bool) × (Nat → Int64) × Int32 × (Nat → Bool) × (Nat → Int64)) (cc := cX3_down) (maxL := 4) (own := RX3) (lv0 := [(0, .ref h0), (1, .int p1)]) (by decide) rfl rfl (Nat.le_of_ble_eq_true rfl) rfl ?_
  intro p e s m args below meth c A Z ls F hK hA hP hD hS hl RET
  unfold call_X3_down at h
  obtain ⟨X45, hX45⟩ : ∃ X : Int32 → Int32 → (Nat → Bool) → (Nat → Int64) → Int32 → (Nat → Bool) → (Nat → Int64) → Prop, ∀ (x3 : Int32) (n0_taken_size : Int32) (f0_taken_members : Nat → Bool) (f0_taken_scores : Nat → Int64) (ns1_size : Int32) (fs1_members : Nat → Bool) (fs1_scores : Nat → Int64), (X x3 n0_taken_size f0_taken_members f0_taken_scores ns1_size fs1_members fs1_scores ↔ ∀ (H : Heap) (locs : List Loc) (ls : Array Slot), va_P D vwCl (pc_X3_down cs h0 h0_open h0_row h0_stack h0_taken h0_kin h0_ranking h0_row_levels h0_row_values h0_row_tags h0_row_links h0_row_keys h0_row_living h0_taken_members h0_taken_scores hs1 hs1_members hs1_scores n0_depth b0_wentUp n0_row_size f0_row_levels f0_stack n0_taken_size f0_taken_members f0_taken_scores ns1_size fs1_members fs1_scores) H → va_D A (pc_X3_down cs h0 h0_open h0_row h0_stack h0_taken h0_kin h0_ranking h0_row_levels h0_row_values h0_row_tags h0_row_links h0_row_keys h0_row_living h0_taken_members h0_taken_scores hs1 hs1_members hs1_scores n0_depth b0_wentUp n0_row_size f0_row_levels f0_stack n0_taken_size f0_taken_members f0_taken_scores ns1_size fs1_members fs1_scores) → va_S A s.heap H locs → lv_has ls 4 [(0, .ref h0), (1, .int p1), (2, .ref hs1), (3, .int x3)] → W p l e rm_X3_down s m args below meth c H locs 0 0 Z (F0 m 45 ls [])) := ⟨_, fun _ _ _ _ _ _ _ => Iff.rfl⟩
  obtain ⟨X74, hX74⟩ : ∃ X : Int32 → Int32 → (Nat → Bool) → (Nat → Int64) → Int32 → (Nat → Bool) → (Nat → Int64) → Prop, ∀ (x3 : Int32) (n0_taken_size : Int32) (f0_taken_members : Nat → Bool) (f0_taken_scores : Nat → Int64) (ns1_size : Int32) (fs1_members : Nat → Bool) (fs1_scores : Nat → Int64), (X x3 n0_taken_size f0_taken_members f0_taken_scores ns1_size fs1_members fs1_scores ↔ ∀ (H : Heap) (locs : List Loc) (ls : Array Slot), va_P D vwCl (pc_X3_down cs h0 h0_open h0_row h0_stack h0_taken h0_kin h0_ranking h0_row_levels h0_row_values h0_row_tags h0_row_links h0_row_keys h0_row_living h0_taken_members h0_taken_scores hs1 hs1_members hs1_scores n0_depth b0_wentUp n0_row_size f0_row_levels f0_stack n0_taken_size f0_taken_members f0_taken_scores ns1_size fs1_members fs1_scores) H → va_D A (pc_X3_down cs h0 h0_open h0_row h0_stack h0_taken h0_kin h0_ranking h0_row_levels h0_row_values h0_row_tags h0_row_links h0_row_keys h0_row_living h0_taken_members h0_taken_scores hs1 hs1_members hs1_scores n0_depth b0_wentUp n0_row_size f0_row_levels f0_stack n0_taken_size f0_taken_members f0_taken_scores ns1_size fs1_members fs1_scores) → va_S A s.heap H locs → lv_has ls 4 [(0, .ref h0), (1, .int p1), (2, .ref hs1), (3, .int x3)] → W p l e rm_X3_down s m args below meth c H locs 0 0 Z (F0 m 74 ls [])) := ⟨_, fun _ _ _ _ _ _ _ => Iff.rfl⟩
  refine xt_cut (h X45 X74 ?_ ?_) (fun hw => ?_)
  · intro x3 n0_taken_size f0_taken_members f0_taken_scores ns1_size fs1_members fs1_scores hw
    refine (hX45 _ _ _ _ _ _ _).mpr ?_
    intro H locs ls hP hD hS hl
    refine lv_iload_n F.1 F.2.1 dX3_down_45 rfl (lv_at hl 3 rfl) ?_
    refine lv_aload_n F.1 F.2.1 dX3_down_46 rfl (lv_at hl 0 rfl) ?_
    refine xi_get (C := RX3) (T := TX3) (N := 8) (v := .ref h0_row) F in_X3_down_X3 hK hP 0 rfl rfl 1 (by decide) fl_X3_down_20 rfl dX3_down_47 ?_
    refine xi_get (C := RX1) (T := TX1) (N := 7) (v := .int n0_row_size) F in_X3_down_X1 hK hP 1 rfl rfl 6 (by decide) fl_X3_down_59 rfl dX3_down_50 ?_
    refine lv_icmp_ge (tgt := 80) F.1 F.2.1 dX3_down_53 (by decide) (fun hc => ?_) (fun hc => ?_)
    · have hw := hw.1 hc
      refine lv_aload_n F.1 F.2.1 dX3_down_80 rfl (lv_at hl 2 rfl) ?_
      refine xi_get (C := RX2) (T := TX2) (N := 3) (v := .int ns1_size) F in_X3_down_X2 hK hP 7 rfl rfl 2 (by decide) fl_X3_down_140 rfl dX3_down_81 ?_
      exact RET ns1_size (n0_taken_size, f0_taken_members, f0_taken_scores, ns1_size, fs1_members, fs1_scores) H locs 84 ls hw hP hD hS dX3_down_84
    · have hw := hw.2 hc
      refine lv_aload_n F.1 F.2.1 dX3_down_56 rfl (lv_at hl 0 rfl) ?_
      refine xi_get (C := RX3) (T := TX3) (N := 8) (v := .ref h0_taken) F in_X3_down_X3 hK hP 0 rfl rfl 3 (by decide) fl_X3_down_30 rfl dX3_down_57 ?_
      refine lv_iload_n F.1 F.2.1 dX3_down_60 rfl (lv_at hl 3 rfl) ?_
      refine xc_Vz (As := [.int x3]) (rest := []) (m_X2_has l D cs h0_taken h0_taken_members h0_taken_scores x3 n0_taken_size f0_taken_members _ hw) F (cwV 1 F.2.2.2.2 gX3_down_X2_has rfl rfl rfl (by decide +kernel) ⟨Nat.le_of_ble_eq_true rfl, Nat.le_of_ble_eq_true rfl⟩) hK hP hD hS hA [4, 5] [0, 1, 2, 3, 6, 7, 8, 9] rfl rfl 0 rfl rfl rfl hl.1 rfl (Nat.le_of_ble_eq_true rfl) dX3_down_61 ⟨Nat.zero_le _, Nat.zero_le _⟩ (fun r61 u H locs hw hP hD hS => ?_)
      have hP : va_P D vwCl (pc_X3_down cs h0 h0_open h0_row h0_stack h0_taken h0_kin h0_ranking h0_row_levels h0_row_values h0_row_tags h0_row_links h0_row_keys h0_row_living h0_taken_members h0_taken_scores hs1 hs1_members hs1_scores n0_depth b0_wentUp n0_row_size f0_row_levels f0_stack n0_taken_size f0_taken_members f0_taken_scores ns1_size fs1_members fs1_scores) H := hP.sub [0, 1, 2, 3, 8, 9, 4, 5, 6, 7] rfl
      have hD : va_D A (pc_X3_down cs h0 h0_open h0_row h0_stack h0_taken h0_kin h0_ranking h0_row_levels h0_row_values h0_row_tags h0_row_links h0_row_keys h0_row_living h0_taken_members h0_taken_scores hs1 hs1_members hs1_scores n0_depth b0_wentUp n0_row_size f0_row_levels f0_stack n0_taken_size f0_taken_members f0_taken_scores ns1_size fs1_members fs1_scores) := hD.sub [0, 1, 2, 3, 8, 9, 4, 5, 6, 7] (by decide) rfl
      try dsimp only at hw
      refine xi_ifeqz (tgt := 74) F dX3_down_64 (by decide) (fun hc => ?_) (fun hc => ?_)
      · have hw := hw.1 hc
        exact (hX74 _ _ _ _ _ _ _).mp hw H locs ls hP hD hS (lv_sub hl [0, 1, 2, 3] rfl)
      · have hw := hw.2 hc
        refine lv_aload_n F.1 F.2.1 dX3_down_67 rfl (lv_at hl 0 rfl) ?_
        refine lv_iload_n F.1 F.2.1 dX3_down_68 rfl (lv_at hl 3 rfl) ?_
        refine lv_iload_n F.1 F.2.1 dX3_down_69 rfl (lv_at hl 1 rfl) ?_
        refine lv_aload_n F.1 F.2.1 dX3_down_70 rfl (lv_at hl 2 rfl) ?_
        refine xc_Vv (As := [.int x3, .int p1, .ref hs1]) (rest := []) (m_X3_spreadBelow l D cs h0 h0_open h0_row h0_stack h0_taken h0_kin h0_ranking h0_row_levels h0_row_values h0_row_tags h0_row_links h0_row_keys h0_row_living h0_taken_members h0_taken_scores hs1 hs1_members hs1_scores x3 p1 n0_depth b0_wentUp n0_row_size f0_row_levels n0_taken_size f0_taken_scores ns1_size fs1_members fs1_scores _ hw) F (cwV 3 F.2.2.2.2 gX3_down_X3_spreadBelow rfl rfl rfl (by decide +kernel) ⟨Nat.le_of_ble_eq_true rfl, Nat.le_of_ble_eq_true rfl⟩) hK hP hD hS hA [0, 1, 2, 4, 6, 7, 8, 9] [3, 5] rfl rfl 0 rfl rfl rfl hl.1 rfl (Nat.le_of_ble_eq_true rfl) dX3_down_71 ⟨Nat.zero_le _, Nat.zero_le _⟩ (fun u H locs hw hP hD hS => ?_)
        obtain ⟨ns1_size_71, fs1_members_71, fs1_scores_71⟩ := u
        have hP : va_P D vwCl (pc_X3_down cs h0 h0_open h0_row h0_stack h0_taken h0_kin h0_ranking h0_row_levels h0_row_values h0_row_tags h0_row_links h0_row_keys h0_row_living h0_taken_members h0_taken_scores hs1 hs1_members hs1_scores n0_depth b0_wentUp n0_row_size f0_row_levels f0_stack n0_taken_size f0_taken_members f0_taken_scores ns1_size_71 fs1_members_71 fs1_scores_71) H := hP.sub [2, 3, 4, 0, 5, 1, 6, 7, 8, 9] rfl
        have hD : va_D A (pc_X3_down cs h0 h0_open h0_row h0_stack h0_taken h0_kin h0_ranking h0_row_levels h0_row_values h0_row_tags h0_row_links h0_row_keys h0_row_living h0_taken_members h0_taken_scores hs1 hs1_members hs1_scores n0_depth b0_wentUp n0_row_size f0_row_levels f0_stack n0_taken_size f0_taken_members f0_taken_scores ns1_size_71 fs1_members_71 fs1_scores_71) := hD.sub [2, 3, 4, 0, 5, 1, 6, 7, 8, 9] (by decide) rfl
        try dsimp only at hw
        exact (hX74 _ _ _ _ _ _ _).mp hw H locs ls hP hD hS (lv_sub hl [0, 1, 2, 3] rfl)
  · intro x3 n0_taken_size f0_taken_members f0_taken_scores ns1_size fs1_members fs1_scores hw
    refine (hX74 _ _ _ _ _ _ _).mpr ?_
    intro H locs ls hP hD hS hl
    refine lv_iinc (v := (x3 + 1)) (lv' := [(3, .int (x3 + 1)), (0, .ref h0), (1, .int p1), (2, .ref hs1)]) F.1 F.2.1 dX3_down_74 hl (k := 3) rfl rfl (by decide) rfl (fun ls hl => ?_)
    refine lv_goto (tgt := 45) F.1 F.2.1 dX3_down_77 (by decide) ?_
    exact (hX45 _ _ _ _ _ _ _).mp hw H locs ls hP hD hS (lv_sub hl [1, 2, 3, 0] rfl)
  generalize ([] : List Loc) = locs at hS ⊢
  obtain ⟨H, hHe⟩ : ∃ H, H = s.heap := ⟨_, rfl⟩
  have hP : va_P D vwCl (pc_X3_down cs h0 h0_open h0_row h0_stack h0_taken h0_kin h0_ranking h0_row_levels h0_row_values h0_row_tags h0_row_links h0_row_keys h0_row_living h0_taken_members h0_taken_scores hs1 hs1_members hs1_scores n0_depth b0_wentUp n0_row_size f0_row_levels f0_stack n0_taken_size f0_taken_members f0_taken_scores ns1_size fs1_members fs1_scores) H := by rw [hHe]; exact hP
  have hS : va_S A s.heap H locs := by rw [hHe]; exact hS
  suffices W p l e rm_X3_down s m args below meth c H locs 0 0 Z (F0 m 0 ls []) by rw [hHe] at this; exact this
  refine lv_iload_n F.1 F.2.1 dX3_down_0 rfl (lv_at hl 1 rfl) ?_
  refine lv_iconst (v := 0) F.1 F.2.1 dX3_down_1 (by decide) ?_
  refine lv_iconst (v := 1) F.1 F.2.1 dX3_down_2 (by decide) ?_
  refine xc_Sz (As := [.int p1, .int 0, .int 1]) (rest := []) (m_X3_isWithin l D cs p1 0 1 _ hw) F (va_cwS 3 F.2.2.2.2 gX3_down_X3_isWithin rfl rfl rfl (by decide +kernel) ⟨Nat.le_of_ble_eq_true rfl, Nat.le_of_ble_eq_true rfl⟩) hK hP hD hS hA [] [0, 1, 2, 3, 4, 5, 6, 7, 8, 9] rfl rfl rfl hl.1 rfl (Nat.le_of_ble_eq_true rfl) dX3_down_3 ⟨Nat.zero_le _, Nat.zero_le _⟩ (fun r3 u H locs hw hP hD hS => ?_)
  have hP : va_P D vwCl (pc_X3_down cs h0 h0_open h0_row h0_stack h0_taken h0_kin h0_ranking h0_row_levels h0_row_values h0_row_tags h0_row_links h0_row_keys h0_row_living h0_taken_members h0_taken_scores hs1 hs1_members hs1_scores n0_depth b0_wentUp n0_row_size f0_row_levels f0_stack n0_taken_size f0_taken_members f0_taken_scores ns1_size fs1_members fs1_scores) H := hP.sub [0, 1, 2, 3, 4, 5, 6, 7, 8, 9] rfl
  have hD : va_D A (pc_X3_down cs h0 h0_open h0_row h0_stack h0_taken h0_kin h0_ranking h0_row_levels h0_row_values h0_row_tags h0_row_links h0_row_keys h0_row_living h0_taken_members h0_taken_scores hs1 hs1_members hs1_scores n0_depth b0_wentUp n0_row_size f0_row_levels f0_stack n0_taken_size f0_taken_members f0_taken_scores ns1_size fs1_members fs1_scores) := hD.sub [0, 1, 2, 3, 4, 5, 6, 7, 8, 9] (by decide) rfl
  try dsimp only at hw
  refine xi_ifnez (tgt := 12) F dX3_down_6 (by decide) (fun hc => ?_) (fun hc => ?_)
  · have hw := hw.1 hc
    refine lv_aload_n F.1 F.2.1 dX3_down_12 rfl (lv_at hl 0 rfl) ?_
    refine xi_get (C := RX3) (T := TX3) (N := 8) (v := .int n0_depth) F in_X3_down_X3 hK hP 0 rfl rfl 6 (by decide) fl_X3_down_44 rfl dX3_down_13 ?_
    refine lv_iconst (v := 1) F.1 F.2.1 dX3_down_16 (by decide) ?_
    refine lv_icmp_ge (tgt := 23) F.1 F.2.1 dX3_down_17 (by decide) (fun hc => ?_) (fun hc => ?_)
    · have hw := hw.1 hc
      refine lv_aload_n F.1 F.2.1 dX3_down_23 rfl (lv_at hl 0 rfl) ?_
      refine xi_get (C := RX3) (T := TX3) (N := 8) (v := .ref h0_stack) F in_X3_down_X3 hK hP 0 rfl rfl 2 (by decide) fl_X3_down_25 rfl dX3_down_24 ?_
      refine lv_aload_n F.1 F.2.1 dX3_down_27 rfl (lv_at hl 0 rfl) ?_
      refine xi_get (C := RX3) (T := TX3) (N := 8) (v := .int n0_depth) F in_X3_down_X3 hK hP 0 rfl rfl 6 (by decide) fl_X3_down_44 rfl dX3_down_28 ?_
      refine lv_iconst (v := 1) F.1 F.2.1 dX3_down_31 (by decide) ?_
      refine lv_isub F.1 F.2.1 dX3_down_32 ?_
      obtain ⟨he, hw⟩ := hw
      refine xi_aald F hK hP 3 rfl (by decide) hds1 he hfs1 dX3_down_33 ?_
      refine lv_astore_n (lv' := [(2, .ref hs1), (0, .ref h0), (1, .int p1)]) F.1 F.2.1 dX3_down_34 rfl hl (by decide) rfl (fun ls hl => ?_)
      refine lv_aload_n F.1 F.2.1 dX3_down_35 rfl (lv_at hl 0 rfl) ?_
      refine lv_aload_n F.1 F.2.1 dX3_down_36 rfl (lv_at hl 1 rfl) ?_
      refine xi_get (C := RX3) (T := TX3) (N := 8) (v := .ref h0_taken) F in_X3_down_X3 hK hP 0 rfl rfl 3 (by decide) fl_X3_down_30 rfl dX3_down_37 ?_
      refine xc_Vv (As := [.ref h0_taken]) (rest := []) (m_X2_moveTo l D cs hs1 hs1_members hs1_scores h0_taken h0_taken_members h0_taken_scores ns1_size fs1_members fs1_scores n0_taken_size f0_taken_members f0_taken_scores _ hw) F (cwV 1 F.2.2.2.2 gX3_down_X2_moveTo rfl rfl rfl (by decide +kernel) ⟨Nat.le_of_ble_eq_true rfl, Nat.le_of_ble_eq_true rfl⟩) hK hP hD hS hA [7, 8, 9, 4, 5, 6] [0, 1, 2, 3] rfl rfl 0 rfl rfl rfl hl.1 rfl (Nat.le_of_ble_eq_true rfl) dX3_down_40 ⟨Nat.zero_le _, Nat.zero_le _⟩ (fun u H locs hw hP hD hS => ?_)
      obtain ⟨ns1_size_40, fs1_members_40, n0_taken_size_40, f0_taken_members_40, f0_taken_scores_40⟩ := u
      have hP : va_P D vwCl (pc_X3_down cs h0 h0_open h0_row h0_stack h0_taken h0_kin h0_ranking h0_row_levels h0_row_values h0_row_tags h0_row_links h0_row_keys h0_row_living h0_taken_members h0_taken_scores hs1 hs1_members hs1_scores n0_depth b0_wentUp n0_row_size f0_row_levels f0_stack n0_taken_size_40 f0_taken_members_40 f0_taken_scores_40 ns1_size_40 fs1_members_40 fs1_scores) H := hP.sub [0, 1, 2, 3, 7, 8, 9, 4, 5, 6] rfl
      have hD : va_D A (pc_X3_down cs h0 h0_open h0_row h0_stack h0_taken h0_kin h0_ranking h0_row_levels h0_row_values h0_row_tags h0_row_links h0_row_keys h0_row_living h0_taken_members h0_taken_scores hs1 hs1_members hs1_scores n0_depth b0_wentUp n0_row_size f0_row_levels f0_stack n0_taken_size_40 f0_taken_members_40 f0_taken_scores_40 ns1_size_40 fs1_members_40 fs1_scores) := hD.sub [0, 1, 2, 3, 7, 8, 9, 4, 5, 6] (by decide) rfl
      try dsimp only at hw
      refine lv_iconst (v := 0) F.1 F.2.1 dX3_down_43 (by decide) ?_
      refine lv_istore_n (lv' := [(3, .int 0), (2, .ref hs1), (0, .ref h0), (1, .int p1)]) F.1 F.2.1 dX3_down_44 rfl hl (by decide) rfl (fun ls hl => ?_)
      exact (hX45 _ _ _ _ _ _ _).mp hw H locs ls hP hD hS (lv_sub hl [2, 3, 1, 0] rfl)
    · have hw := hw.2 hc
      refine lv_bipush (v := (-3)) F.1 F.2.1 dX3_down_20 (by decide) ?_
      exact RET (-3) (n0_taken_size, f0_taken_members, f0_taken_scores, ns1_size, fs1_members, fs1_scores) H locs 22 ls hw hP hD hS dX3_down_22
  · have hw := hw.2 hc
    refine lv_bipush (v := (-2)) F.1 F.2.1 dX3_down_9 (by decide) ?_
    exact RET (-2) (n0_taken_size, f0_taken_members, f0_taken_scores, ns1_size, fs1_members, fs1_scores) H locs 11 ls hw hP hD hS dX3_down_11

theorem in_X3_over_X3 : ∀ w ∈ wsX30, w ∈ wsX3_over := by decide +kernel
theorem fl_X3_over_20 : Cond.fieldLink RX3 20 "JoinBlocks" "row" "LJoinBlocks$Row;" ∈ wsX3_over := by decide +kernel
theorem in_X3_over_X1 : ∀ w ∈ wsX10, w ∈ wsX3_over := by decide +kernel
theorem fl_X3_over_59 : Cond.fieldLink RX3 59 "JoinBlocks$Row" "size" "I" ∈ wsX3_over := by decide +kernel
theorem in_X3_over_X2 : ∀ w ∈ wsX20, w ∈ wsX3_over := by decide +kernel
theorem fl_X3_over_140 : Cond.fieldLink RX3 140 "JoinBlocks$ScoredSet" "size" "I" ∈ wsX3_over := by decide +kernel
theorem fl_X3_over_30 : Cond.fieldLink RX3 30 "JoinBlocks" "taken" "LJoinBlocks$ScoredSet;" ∈ wsX3_over := by decide +kernel
theorem fl_X3_over_44 : Cond.fieldLink RX3 44 "JoinBlocks" "depth" "I" ∈ wsX3_over := by decide +kernel
theorem fl_X3_over_25 : Cond.fieldLink RX3 25 "JoinBlocks" "stack" "[LJoinBlocks$ScoredSet;" ∈ wsX3_over := by decide +kernel
abbrev pc_X3_over (cs : Nat → ClassId) (h0 : Nat) (h0_open : Nat) (h0_row : Nat) (h0_stack : Nat) (h0_taken : Nat) (h0_kin : Nat) (h0_ranking : Nat) (h0_row_levels : Nat) (h0_row_values : Nat) (h0_row_tags : Nat) (h0_row_links : Nat) (h0_row_keys : Nat) (h0_row_living : Nat) (h0_taken_members : Nat) (h0_taken_scores : Nat) (hs1 : Nat) (hs1_members : Nat) (hs1_scores : Nat) (n0_depth : Int32) (b0_wentUp : Bool) (n0_row_size : Int32) (f0_row_levels : Nat → Int32) (f0_row_links : Nat → Int32) (f0_row_keys : Nat → Int32) (f0_row_living : Nat → Bool) (f0_stack : Nat → Option Nat) (n0_taken_size : Int32) (f0_taken_members : Nat → Bool) (f0_taken_scores : Nat → Int64) (ns1_size : Int32) (fs1_members : Nat → Bool) (fs1_scores : Nat → Int64) : va_W := [(h0, .inr (3, [.ref h0_open, .ref h0_row, .ref h0_stack, .ref h0_taken, .ref h0_kin, .ref h0_ranking, .int n0_depth, .int (b2i b0_wentUp)])), (h0_row, .inr (1, [.ref h0_row_levels, .ref h0_row_values, .ref h0_row_tags, .ref h0_row_links, .ref h0_row_keys, .ref h0_row_living, .int n0_row_size])), (h0_row_levels, .inl (cs 0, 200, .inl f0_row_levels)), (h0_row_links, .inl (cs 0, 200, .inl f0_row_links)), (h0_row_keys, .inl (cs 0, 200, .inl f0_row_keys)), (h0_row_living, .inl (cs 1, 200, .inl (bF f0_row_living))), (h0_stack, .inl (cs 3, 8, .inr (.inr (.inr (.inr f0_stack))))), (h0_taken, .inr (2, [.ref h0_taken_members, .ref h0_taken_scores, .int n0_taken_size])), (h0_taken_members, .inl (cs 1, 200, .inl (bF f0_taken_members))), (h0_taken_scores, .inl (cs 2, 200, .inr (.inl f0_taken_scores))), (hs1, .inr (2, [.ref hs1_members, .ref hs1_scores, .int ns1_size])), (hs1_members, .inl (cs 1, 200, .inl (bF fs1_members))), (hs1_scores, .inl (cs 2, 200, .inr (.inl fs1_scores)))]
abbrev rm_X3_over : Room := { frames := 4, cells := 0, slots := 0, locals := 89 }
def call_X3_over (ds1 : Nat) (n0_depth : Int32) (n0_row_size : Int32) (f0_row_levels : Nat → Int32) (f0_row_links : Nat → Int32) (f0_row_keys : Nat → Int32) (f0_row_living : Nat → Bool) (n0_taken_size : Int32) (f0_taken_members : Nat → Bool) (f0_taken_scores : Nat → Int64) (ns1_size : Int32) (fs1_members : Nat → Bool) (fs1_scores : Nat → Int64) (Q : Int32 → Int32 → (Nat → Bool) → (Nat → Int64) → Int32 → (Nat → Bool) → (Nat → Int64) → Prop) : Prop := ∀ (X33 : Int32 → Int32 → (Nat → Bool) → (Nat → Int64) → Int32 → (Nat → Bool) → (Nat → Int64) → Prop) (X72 : Int32 → Int32 → (Nat → Bool) → (Nat → Int64) → Int32 → (Nat → Bool) → (Nat → Int64) → Prop),
    (∀ (x2 : Int32) (n0_taken_size : Int32) (f0_taken_members : Nat → Bool) (f0_taken_scores : Nat → Int64) (ns1_size : Int32) (fs1_members : Nat → Bool) (fs1_scores : Nat → Int64),
      ((n0_row_size ≤ x2 → Q ns1_size n0_taken_size f0_taken_members f0_taken_scores ns1_size fs1_members fs1_scores) ∧ (¬ n0_row_size ≤ x2 → (call_X2_has x2 f0_taken_members (fun (r49 : Bool) => ((r49 = false → X72 x2 n0_taken_size f0_taken_members f0_taken_scores ns1_size fs1_members fs1_scores) ∧ (r49 = true → (call_X1_isRoot 200 x2 f0_row_levels (fun (r60 : Bool) => ((r60 = false → X72 x2 n0_taken_size f0_taken_members f0_taken_scores ns1_size fs1_members fs1_scores) ∧ (r60 = true → (call_X3_spreadToLinked x2 n0_row_size f0_row_links f0_row_keys f0_row_living f0_taken_scores ns1_size fs1_members fs1_scores (fun (ns1_size_69 : Int32) (fs1_members_69 : Nat → Bool) (fs1_scores_69 : Nat → Int64) => X72 x2 n0_taken_size f0_taken_members f0_taken_scores ns1_size_69 fs1_members_69 fs1_scores_69)))))))))))) → X33 x2 n0_taken_size f0_taken_members f0_taken_scores ns1_size fs1_members fs1_scores) →
    (∀ (x2 : Int32) (n0_taken_size : Int32) (f0_taken_members : Nat → Bool) (f0_taken_scores : Nat → Int64) (ns1_size : Int32) (fs1_members : Nat → Bool) (fs1_scores : Nat → Int64),
      X33 (x2 + 1) n0_taken_size f0_taken_members f0_taken_scores ns1_size fs1_members fs1_scores → X72 x2 n0_taken_size f0_taken_members f0_taken_scores ns1_size fs1_members fs1_scores) →
    ((1 ≤ n0_depth → ((n0_depth - 1) = nI ds1 ∧ (call_X2_moveTo ns1_size fs1_members fs1_scores n0_taken_size f0_taken_members f0_taken_scores (fun (ns1_size_28 : Int32) (fs1_members_28 : Nat → Bool) (n0_taken_size_28 : Int32) (f0_taken_members_28 : Nat → Bool) (f0_taken_scores_28 : Nat → Int64) => X33 0 n0_taken_size_28 f0_taken_members_28 f0_taken_scores_28 ns1_size_28 fs1_members_28 fs1_scores)))) ∧ (¬ 1 ≤ n0_depth → Q (-3) n0_taken_size f0_taken_members f0_taken_scores ns1_size fs1_members fs1_scores))
set_option maxHeartbeats 4000000 in
set_option maxRecDepth 100000 in
theorem m_X3_over (l : Launch) (D : va_G) (cs : Nat → ClassId) (h0 : Nat) (h0_open : Nat) (h0_row : Nat) (h0_stack : Nat) (h0_taken : Nat) (h0_kin : Nat) (h0_ranking : Nat) (h0_row_levels : Nat) (h0_row_values : Nat) (h0_row_tags : Nat) (h0_row_links : Nat) (h0_row_keys : Nat) (h0_row_living : Nat) (h0_taken_members : Nat) (h0_taken_scores : Nat) (hs1 : Nat) (hs1_members : Nat) (hs1_scores : Nat)  (n0_depth : Int32) (b0_wentUp : Bool) (n0_row_size : Int32) (f0_row_levels : Nat → Int32) (f0_row_links : Nat → Int32) (f0_row_keys : Nat → Int32) (f0_row_living : Nat → Bool) (f0_stack : Nat → Option Nat) (n0_taken_size : Int32) (f0_taken_members : Nat → Bool) (f0_taken_scores : Nat → Int64) (ns1_size : Int32) (fs1_members : Nat → Bool) (fs1_scores : Nat → Int64) (ds1 : Nat) (hds1 : ds1 < 8) (hfs1 : f0_stack ds1 = some hs1) (Q : Int32 → Int32 → (Nat → Bool) → (Nat → Int64) → Int32 → (Nat → Bool) → (Nat → Int64) → Prop) (h : call_X3_over ds1 n0_depth n0_row_size f0_row_levels f0_row_links f0_row_keys f0_row_living n0_taken_size f0_taken_members f0_taken_scores ns1_size fs1_members fs1_scores Q) : CtI l yX3_over wsX3_over rm_X3_over D cs [.ref h0] (pc_X3_over cs h0 h0_open h0_row h0_stack h0_taken h0_kin h0_ranking h0_row_levels h0_row_values h0_row_tags h0_row_links h0_row_keys h0_row_living h0_taken_members h0_taken_scores hs1 hs1_members hs1_scores n0_depth b0_wentUp n0_row_size f0_row_levels f0_row_links f0_row_keys f0_row_living f0_stack n0_taken_size f0_taken_members f0_taken_scores ns1_size fs1_members fs1_scores) (fun u : Int32 × (Nat → Bool) × (Nat → Int64) × Int32 × (Nat → Bool) × (Nat → Int64) => (pc_X3_over cs h0 h0_open h0_row h0_stack h0_taken h0_kin h0_ranking h0_row_levels h0_row_values h0_row_tags h0_row_links h0_row_keys h0_row_living h0_taken_members h0_taken_scores hs1 hs1_members hs1_scores n0_depth b0_wentUp n0_row_size f0_row_levels f0_row_links f0_row_keys f0_row_living f0_stack u.1 u.2.1 u.2.2.1 u.2.2.2.1 u.2.2.2.2.1 u.2.2.2.2.2)) (fun r u => Q r u.1 u.2.1 u.2.2.1 u.2.2.2.1 u.2.2.2.2.1 u.2.2.2.2.2) := by
  refine xo_I (S := Int32 × (Nat → Bool) × (Nat → Int64) × Int32 × (Nat → Bool) × (Nat → Int64)) (cc := cX3_over) (maxL := 3) (own := RX3) (lv0 := [(0, .ref h0)]) (by decide) rfl rfl (Nat.le_of_ble_eq_true rfl) rfl ?_
  intro p e s m args below meth c A Z ls F hK hA hP hD hS hl RET
  unfold call_X3_over at h
  obtain ⟨X33, hX33⟩ : ∃ X : Int32 → Int32 → (Nat → Bool) → (Nat → Int64) → Int32 → (Nat → Bool) → (Nat → Int64) → Prop, ∀ (x2 : Int32) (n0_taken_size : Int32) (f0_taken_members : Nat → Bool) (f0_taken_scores : Nat → Int64) (ns1_size : Int32) (fs1_members : Nat → Bool) (fs1_scores : Nat → Int64), (X x2 n0_taken_size f0_taken_members f0_taken_scores ns1_size fs1_members fs1_scores ↔ ∀ (H : Heap) (locs : List Loc) (ls : Array Slot), va_P D vwCl (pc_X3_over cs h0 h0_open h0_row h0_stack h0_taken h0_kin h0_ranking h0_row_levels h0_row_values h0_row_tags h0_row_links h0_row_keys h0_row_living h0_taken_members h0_taken_scores hs1 hs1_members hs1_scores n0_depth b0_wentUp n0_row_size f0_row_levels f0_row_links f0_row_keys f0_row_living f0_stack n0_taken_size f0_taken_members f0_taken_scores ns1_size fs1_members fs1_scores) H → va_D A (pc_X3_over cs h0 h0_open h0_row h0_stack h0_taken h0_kin h0_ranking h0_row_levels h0_row_values h0_row_tags h0_row_links h0_row_keys h0_row_living h0_taken_members h0_taken_scores hs1 hs1_members hs1_scores n0_depth b0_wentUp n0_row_size f0_row_levels f0_row_links f0_row_keys f0_row_living f0_stack n0_taken_size f0_taken_members f0_taken_scores ns1_size fs1_members fs1_scores) → va_S A s.heap H locs → lv_has ls 3 [(0, .ref h0), (1, .ref hs1), (2, .int x2)] → W p l e rm_X3_over s m args below meth c H locs 0 0 Z (F0 m 33 ls [])) := ⟨_, fun _ _ _ _ _ _ _ => Iff.rfl⟩
  obtain ⟨X72, hX72⟩ : ∃ X : Int32 → Int32 → (Nat → Bool) → (Nat → Int64) → Int32 → (Nat → Bool) → (Nat → Int64) → Prop, ∀ (x2 : Int32) (n0_taken_size : Int32) (f0_taken_members : Nat → Bool) (f0_taken_scores : Nat → Int64) (ns1_size : Int32) (fs1_members : Nat → Bool) (fs1_scores : Nat → Int64), (X x2 n0_taken_size f0_taken_members f0_taken_scores ns1_size fs1_members fs1_scores ↔ ∀ (H : Heap) (locs : List Loc) (ls : Array Slot), va_P D vwCl (pc_X3_over cs h0 h0_open h0_row h0_stack h0_taken h0_kin h0_ranking h0_row_levels h0_row_values h0_row_tags h0_row_links h0_row_keys h0_row_living h0_taken_members h0_taken_scores hs1 hs1_members hs1_scores n0_depth b0_wentUp n0_row_size f0_row_levels f0_row_links f0_row_keys f0_row_living f0_stack n0_taken_size f0_taken_members f0_taken_scores ns1_size fs1_members fs1_scores) H → va_D A (pc_X3_over cs h0 h0_open h0_row h0_stack h0_taken h0_kin h0_ranking h0_row_levels h0_row_values h0_row_tags h0_row_links h0_row_keys h0_row_living h0_taken_members h0_taken_scores hs1 hs1_members hs1_scores n0_depth b0_wentUp n0_row_size f0_row_levels f0_row_links f0_row_keys f0_row_living f0_stack n0_taken_size f0_taken_members f0_taken_scores ns1_size fs1_members fs1_scores) → va_S A s.heap H locs → lv_has ls 3 [(0, .ref h0), (1, .ref hs1), (2, .int x2)] → W p l e rm_X3_over s m args below meth c H locs 0 0 Z (F0 m 72 ls [])) := ⟨_, fun _ _ _ _ _ _ _ => Iff.rfl⟩
  refine xt_cut (h X33 X72 ?_ ?_) (fun hw => ?_)
  · intro x2 n0_taken_size f0_taken_members f0_taken_scores ns1_size fs1_members fs1_scores hw
    refine (hX33 _ _ _ _ _ _ _).mpr ?_
    intro H locs ls hP hD hS hl
    refine lv_iload_n F.1 F.2.1 dX3_over_33 rfl (lv_at hl 2 rfl) ?_
    refine lv_aload_n F.1 F.2.1 dX3_over_34 rfl (lv_at hl 0 rfl) ?_
    refine xi_get (C := RX3) (T := TX3) (N := 8) (v := .ref h0_row) F in_X3_over_X3 hK hP 0 rfl rfl 1 (by decide) fl_X3_over_20 rfl dX3_over_35 ?_
    refine xi_get (C := RX1) (T := TX1) (N := 7) (v := .int n0_row_size) F in_X3_over_X1 hK hP 1 rfl rfl 6 (by decide) fl_X3_over_59 rfl dX3_over_38 ?_
    refine lv_icmp_ge (tgt := 78) F.1 F.2.1 dX3_over_41 (by decide) (fun hc => ?_) (fun hc => ?_)
    · have hw := hw.1 hc
      refine lv_aload_n F.1 F.2.1 dX3_over_78 rfl (lv_at hl 1 rfl) ?_
      refine xi_get (C := RX2) (T := TX2) (N := 3) (v := .int ns1_size) F in_X3_over_X2 hK hP 10 rfl rfl 2 (by decide) fl_X3_over_140 rfl dX3_over_79 ?_
      exact RET ns1_size (n0_taken_size, f0_taken_members, f0_taken_scores, ns1_size, fs1_members, fs1_scores) H locs 82 ls hw hP hD hS dX3_over_82
    · have hw := hw.2 hc
      refine lv_aload_n F.1 F.2.1 dX3_over_44 rfl (lv_at hl 0 rfl) ?_
      refine xi_get (C := RX3) (T := TX3) (N := 8) (v := .ref h0_taken) F in_X3_over_X3 hK hP 0 rfl rfl 3 (by decide) fl_X3_over_30 rfl dX3_over_45 ?_
      refine lv_iload_n F.1 F.2.1 dX3_over_48 rfl (lv_at hl 2 rfl) ?_
      refine xc_Vz (As := [.int x2]) (rest := []) (m_X2_has l D cs h0_taken h0_taken_members h0_taken_scores x2 n0_taken_size f0_taken_members _ hw) F (cwV 1 F.2.2.2.2 gX3_over_X2_has rfl rfl rfl (by decide +kernel) ⟨Nat.le_of_ble_eq_true rfl, Nat.le_of_ble_eq_true rfl⟩) hK hP hD hS hA [7, 8] [0, 1, 2, 3, 4, 5, 6, 9, 10, 11, 12] rfl rfl 0 rfl rfl rfl hl.1 rfl (Nat.le_of_ble_eq_true rfl) dX3_over_49 ⟨Nat.zero_le _, Nat.zero_le _⟩ (fun r49 u H locs hw hP hD hS => ?_)
      have hP : va_P D vwCl (pc_X3_over cs h0 h0_open h0_row h0_stack h0_taken h0_kin h0_ranking h0_row_levels h0_row_values h0_row_tags h0_row_links h0_row_keys h0_row_living h0_taken_members h0_taken_scores hs1 hs1_members hs1_scores n0_depth b0_wentUp n0_row_size f0_row_levels f0_row_links f0_row_keys f0_row_living f0_stack n0_taken_size f0_taken_members f0_taken_scores ns1_size fs1_members fs1_scores) H := hP.sub [0, 1, 2, 3, 4, 5, 6, 11, 12, 7, 8, 9, 10] rfl
      have hD : va_D A (pc_X3_over cs h0 h0_open h0_row h0_stack h0_taken h0_kin h0_ranking h0_row_levels h0_row_values h0_row_tags h0_row_links h0_row_keys h0_row_living h0_taken_members h0_taken_scores hs1 hs1_members hs1_scores n0_depth b0_wentUp n0_row_size f0_row_levels f0_row_links f0_row_keys f0_row_living f0_stack n0_taken_size f0_taken_members f0_taken_scores ns1_size fs1_members fs1_scores) := hD.sub [0, 1, 2, 3, 4, 5, 6, 11, 12, 7, 8, 9, 10] (by decide) rfl
      try dsimp only at hw
      refine xi_ifeqz (tgt := 72) F dX3_over_52 (by decide) (fun hc => ?_) (fun hc => ?_)
      · have hw := hw.1 hc
        exact (hX72 _ _ _ _ _ _ _).mp hw H locs ls hP hD hS (lv_sub hl [0, 1, 2] rfl)
      · have hw := hw.2 hc
        refine lv_aload_n F.1 F.2.1 dX3_over_55 rfl (lv_at hl 0 rfl) ?_
        refine xi_get (C := RX3) (T := TX3) (N := 8) (v := .ref h0_row) F in_X3_over_X3 hK hP 0 rfl rfl 1 (by decide) fl_X3_over_20 rfl dX3_over_56 ?_
        refine lv_iload_n F.1 F.2.1 dX3_over_59 rfl (lv_at hl 2 rfl) ?_
        refine xc_Vz (As := [.int x2]) (rest := []) (m_X1_isRoot l D cs h0_row h0_row_levels h0_row_values h0_row_tags h0_row_links h0_row_keys h0_row_living 200 (by decide) x2 n0_row_size f0_row_levels _ hw) F (cwV 1 F.2.2.2.2 gX3_over_X1_isRoot rfl rfl rfl (by decide +kernel) ⟨Nat.le_of_ble_eq_true rfl, Nat.le_of_ble_eq_true rfl⟩) hK hP hD hS hA [1, 2] [0, 3, 4, 5, 6, 7, 8, 9, 10, 11, 12] rfl rfl 0 rfl rfl rfl hl.1 rfl (Nat.le_of_ble_eq_true rfl) dX3_over_60 ⟨Nat.zero_le _, Nat.zero_le _⟩ (fun r60 u H locs hw hP hD hS => ?_)
        have hP : va_P D vwCl (pc_X3_over cs h0 h0_open h0_row h0_stack h0_taken h0_kin h0_ranking h0_row_levels h0_row_values h0_row_tags h0_row_links h0_row_keys h0_row_living h0_taken_members h0_taken_scores hs1 hs1_members hs1_scores n0_depth b0_wentUp n0_row_size f0_row_levels f0_row_links f0_row_keys f0_row_living f0_stack n0_taken_size f0_taken_members f0_taken_scores ns1_size fs1_members fs1_scores) H := hP.sub [0, 11, 12, 1, 2, 3, 4, 5, 6, 7, 8, 9, 10] rfl
        have hD : va_D A (pc_X3_over cs h0 h0_open h0_row h0_stack h0_taken h0_kin h0_ranking h0_row_levels h0_row_values h0_row_tags h0_row_links h0_row_keys h0_row_living h0_taken_members h0_taken_scores hs1 hs1_members hs1_scores n0_depth b0_wentUp n0_row_size f0_row_levels f0_row_links f0_row_keys f0_row_living f0_stack n0_taken_size f0_taken_members f0_taken_scores ns1_size fs1_members fs1_scores) := hD.sub [0, 11, 12, 1, 2, 3, 4, 5, 6, 7, 8, 9, 10] (by decide) rfl
        try dsimp only at hw
        refine xi_ifeqz (tgt := 72) F dX3_over_63 (by decide) (fun hc => ?_) (fun hc => ?_)
        · have hw := hw.1 hc
          exact (hX72 _ _ _ _ _ _ _).mp hw H locs ls hP hD hS (lv_sub hl [0, 1, 2] rfl)
        · have hw := hw.2 hc
          refine lv_aload_n F.1 F.2.1 dX3_over_66 rfl (lv_at hl 0 rfl) ?_
          refine lv_iload_n F.1 F.2.1 dX3_over_67 rfl (lv_at hl 2 rfl) ?_
          refine lv_aload_n F.1 F.2.1 dX3_over_68 rfl (lv_at hl 1 rfl) ?_
          refine xc_Vv (As := [.int x2, .ref hs1]) (rest := []) (m_X3_spreadToLinked l D cs h0 h0_open h0_row h0_stack h0_taken h0_kin h0_ranking h0_row_levels h0_row_values h0_row_tags h0_row_links h0_row_keys h0_row_living h0_taken_members h0_taken_scores hs1 hs1_members hs1_scores x2 n0_depth b0_wentUp n0_row_size f0_row_links f0_row_keys f0_row_living n0_taken_size f0_taken_scores ns1_size fs1_members fs1_scores _ hw) F (cwV 2 F.2.2.2.2 gX3_over_X3_spreadToLinked rfl rfl rfl (by decide +kernel) ⟨Nat.le_of_ble_eq_true rfl, Nat.le_of_ble_eq_true rfl⟩) hK hP hD hS hA [0, 1, 3, 4, 5, 7, 9, 10, 11, 12] [2, 6, 8] rfl rfl 0 rfl rfl rfl hl.1 rfl (Nat.le_of_ble_eq_true rfl) dX3_over_69 ⟨Nat.zero_le _, Nat.zero_le _⟩ (fun u H locs hw hP hD hS => ?_)
          obtain ⟨ns1_size_69, fs1_members_69, fs1_scores_69⟩ := u
          have hP : va_P D vwCl (pc_X3_over cs h0 h0_open h0_row h0_stack h0_taken h0_kin h0_ranking h0_row_levels h0_row_values h0_row_tags h0_row_links h0_row_keys h0_row_living h0_taken_members h0_taken_scores hs1 hs1_members hs1_scores n0_depth b0_wentUp n0_row_size f0_row_levels f0_row_links f0_row_keys f0_row_living f0_stack n0_taken_size f0_taken_members f0_taken_scores ns1_size_69 fs1_members_69 fs1_scores_69) H := hP.sub [3, 4, 0, 5, 6, 7, 1, 8, 2, 9, 10, 11, 12] rfl
          have hD : va_D A (pc_X3_over cs h0 h0_open h0_row h0_stack h0_taken h0_kin h0_ranking h0_row_levels h0_row_values h0_row_tags h0_row_links h0_row_keys h0_row_living h0_taken_members h0_taken_scores hs1 hs1_members hs1_scores n0_depth b0_wentUp n0_row_size f0_row_levels f0_row_links f0_row_keys f0_row_living f0_stack n0_taken_size f0_taken_members f0_taken_scores ns1_size_69 fs1_members_69 fs1_scores_69) := hD.sub [3, 4, 0, 5, 6, 7, 1, 8, 2, 9, 10, 11, 12] (by decide) rfl
          try dsimp only at hw
          exact (hX72 _ _ _ _ _ _ _).mp hw H locs ls hP hD hS (lv_sub hl [0, 1, 2] rfl)
  · intro x2 n0_taken_size f0_taken_members f0_taken_scores ns1_size fs1_members fs1_scores hw
    refine (hX72 _ _ _ _ _ _ _).mpr ?_
    intro H locs ls hP hD hS hl
    refine lv_iinc (v := (x2 + 1)) (lv' := [(2, .int (x2 + 1)), (0, .ref h0), (1, .ref hs1)]) F.1 F.2.1 dX3_over_72 hl (k := 2) rfl rfl (by decide) rfl (fun ls hl => ?_)
    refine lv_goto (tgt := 33) F.1 F.2.1 dX3_over_75 (by decide) ?_
    exact (hX33 _ _ _ _ _ _ _).mp hw H locs ls hP hD hS (lv_sub hl [1, 2, 0] rfl)
  generalize ([] : List Loc) = locs at hS ⊢
  obtain ⟨H, hHe⟩ : ∃ H, H = s.heap := ⟨_, rfl⟩
  have hP : va_P D vwCl (pc_X3_over cs h0 h0_open h0_row h0_stack h0_taken h0_kin h0_ranking h0_row_levels h0_row_values h0_row_tags h0_row_links h0_row_keys h0_row_living h0_taken_members h0_taken_scores hs1 hs1_members hs1_scores n0_depth b0_wentUp n0_row_size f0_row_levels f0_row_links f0_row_keys f0_row_living f0_stack n0_taken_size f0_taken_members f0_taken_scores ns1_size fs1_members fs1_scores) H := by rw [hHe]; exact hP
  have hS : va_S A s.heap H locs := by rw [hHe]; exact hS
  suffices W p l e rm_X3_over s m args below meth c H locs 0 0 Z (F0 m 0 ls []) by rw [hHe] at this; exact this
  refine lv_aload_n F.1 F.2.1 dX3_over_0 rfl (lv_at hl 0 rfl) ?_
  refine xi_get (C := RX3) (T := TX3) (N := 8) (v := .int n0_depth) F in_X3_over_X3 hK hP 0 rfl rfl 6 (by decide) fl_X3_over_44 rfl dX3_over_1 ?_
  refine lv_iconst (v := 1) F.1 F.2.1 dX3_over_4 (by decide) ?_
  refine lv_icmp_ge (tgt := 11) F.1 F.2.1 dX3_over_5 (by decide) (fun hc => ?_) (fun hc => ?_)
  · have hw := hw.1 hc
    refine lv_aload_n F.1 F.2.1 dX3_over_11 rfl (lv_at hl 0 rfl) ?_
    refine xi_get (C := RX3) (T := TX3) (N := 8) (v := .ref h0_stack) F in_X3_over_X3 hK hP 0 rfl rfl 2 (by decide) fl_X3_over_25 rfl dX3_over_12 ?_
    refine lv_aload_n F.1 F.2.1 dX3_over_15 rfl (lv_at hl 0 rfl) ?_
    refine xi_get (C := RX3) (T := TX3) (N := 8) (v := .int n0_depth) F in_X3_over_X3 hK hP 0 rfl rfl 6 (by decide) fl_X3_over_44 rfl dX3_over_16 ?_
    refine lv_iconst (v := 1) F.1 F.2.1 dX3_over_19 (by decide) ?_
    refine lv_isub F.1 F.2.1 dX3_over_20 ?_
    obtain ⟨he, hw⟩ := hw
    refine xi_aald F hK hP 6 rfl (by decide) hds1 he hfs1 dX3_over_21 ?_
    refine lv_astore_n (lv' := [(1, .ref hs1), (0, .ref h0)]) F.1 F.2.1 dX3_over_22 rfl hl (by decide) rfl (fun ls hl => ?_)
    refine lv_aload_n F.1 F.2.1 dX3_over_23 rfl (lv_at hl 0 rfl) ?_
    refine lv_aload_n F.1 F.2.1 dX3_over_24 rfl (lv_at hl 1 rfl) ?_
    refine xi_get (C := RX3) (T := TX3) (N := 8) (v := .ref h0_taken) F in_X3_over_X3 hK hP 0 rfl rfl 3 (by decide) fl_X3_over_30 rfl dX3_over_25 ?_
    refine xc_Vv (As := [.ref h0_taken]) (rest := []) (m_X2_moveTo l D cs hs1 hs1_members hs1_scores h0_taken h0_taken_members h0_taken_scores ns1_size fs1_members fs1_scores n0_taken_size f0_taken_members f0_taken_scores _ hw) F (cwV 1 F.2.2.2.2 gX3_over_X2_moveTo rfl rfl rfl (by decide +kernel) ⟨Nat.le_of_ble_eq_true rfl, Nat.le_of_ble_eq_true rfl⟩) hK hP hD hS hA [10, 11, 12, 7, 8, 9] [0, 1, 2, 3, 4, 5, 6] rfl rfl 0 rfl rfl rfl hl.1 rfl (Nat.le_of_ble_eq_true rfl) dX3_over_28 ⟨Nat.zero_le _, Nat.zero_le _⟩ (fun u H locs hw hP hD hS => ?_)
    obtain ⟨ns1_size_28, fs1_members_28, n0_taken_size_28, f0_taken_members_28, f0_taken_scores_28⟩ := u
    have hP : va_P D vwCl (pc_X3_over cs h0 h0_open h0_row h0_stack h0_taken h0_kin h0_ranking h0_row_levels h0_row_values h0_row_tags h0_row_links h0_row_keys h0_row_living h0_taken_members h0_taken_scores hs1 hs1_members hs1_scores n0_depth b0_wentUp n0_row_size f0_row_levels f0_row_links f0_row_keys f0_row_living f0_stack n0_taken_size_28 f0_taken_members_28 f0_taken_scores_28 ns1_size_28 fs1_members_28 fs1_scores) H := hP.sub [0, 1, 2, 3, 4, 5, 6, 10, 11, 12, 7, 8, 9] rfl
    have hD : va_D A (pc_X3_over cs h0 h0_open h0_row h0_stack h0_taken h0_kin h0_ranking h0_row_levels h0_row_values h0_row_tags h0_row_links h0_row_keys h0_row_living h0_taken_members h0_taken_scores hs1 hs1_members hs1_scores n0_depth b0_wentUp n0_row_size f0_row_levels f0_row_links f0_row_keys f0_row_living f0_stack n0_taken_size_28 f0_taken_members_28 f0_taken_scores_28 ns1_size_28 fs1_members_28 fs1_scores) := hD.sub [0, 1, 2, 3, 4, 5, 6, 10, 11, 12, 7, 8, 9] (by decide) rfl
    try dsimp only at hw
    refine lv_iconst (v := 0) F.1 F.2.1 dX3_over_31 (by decide) ?_
    refine lv_istore_n (lv' := [(2, .int 0), (1, .ref hs1), (0, .ref h0)]) F.1 F.2.1 dX3_over_32 rfl hl (by decide) rfl (fun ls hl => ?_)
    exact (hX33 _ _ _ _ _ _ _).mp hw H locs ls hP hD hS (lv_sub hl [2, 1, 0] rfl)
  · have hw := hw.2 hc
    refine lv_bipush (v := (-3)) F.1 F.2.1 dX3_over_8 (by decide) ?_
    exact RET (-3) (n0_taken_size, f0_taken_members, f0_taken_scores, ns1_size, fs1_members, fs1_scores) H locs 10 ls hw hP hD hS dX3_over_10

theorem in_X3_again_X3 : ∀ w ∈ wsX30, w ∈ wsX3_again := by decide +kernel
theorem fl_X3_again_44 : Cond.fieldLink RX3 44 "JoinBlocks" "depth" "I" ∈ wsX3_again := by decide +kernel
theorem fl_X3_again_25 : Cond.fieldLink RX3 25 "JoinBlocks" "stack" "[LJoinBlocks$ScoredSet;" ∈ wsX3_again := by decide +kernel
abbrev pc_X3_again (cs : Nat → ClassId) (h0 : Nat) (h0_open : Nat) (h0_row : Nat) (h0_stack : Nat) (h0_taken : Nat) (h0_kin : Nat) (h0_ranking : Nat) (hs1 : Nat) (hs1_members : Nat) (hs1_scores : Nat) (hs2 : Nat) (hs2_members : Nat) (hs2_scores : Nat) (n0_depth : Int32) (b0_wentUp : Bool) (f0_stack : Nat → Option Nat) (ns1_size : Int32) (fs1_members : Nat → Bool) (fs1_scores : Nat → Int64) (ns2_size : Int32) (fs2_members : Nat → Bool) (fs2_scores : Nat → Int64) : va_W := [(h0, .inr (3, [.ref h0_open, .ref h0_row, .ref h0_stack, .ref h0_taken, .ref h0_kin, .ref h0_ranking, .int n0_depth, .int (b2i b0_wentUp)])), (h0_stack, .inl (cs 3, 8, .inr (.inr (.inr (.inr f0_stack))))), (hs1, .inr (2, [.ref hs1_members, .ref hs1_scores, .int ns1_size])), (hs1_members, .inl (cs 1, 200, .inl (bF fs1_members))), (hs1_scores, .inl (cs 2, 200, .inr (.inl fs1_scores))), (hs2, .inr (2, [.ref hs2_members, .ref hs2_scores, .int ns2_size])), (hs2_members, .inl (cs 1, 200, .inl (bF fs2_members))), (hs2_scores, .inl (cs 2, 200, .inr (.inl fs2_scores)))]
abbrev rm_X3_again : Room := { frames := 3, cells := 0, slots := 0, locals := 68 }
def call_X3_again (ds1 : Nat) (ds2 : Nat) (n0_depth : Int32) (ns1_size : Int32) (fs1_members : Nat → Bool) (fs1_scores : Nat → Int64) (fs2_members : Nat → Bool) (fs2_scores : Nat → Int64) (Q : Int32 → Int32 → Int32 → (Nat → Bool) → (Nat → Int64) → Prop) : Prop :=
    ((1 ≤ n0_depth → ((n0_depth < 8 → (n0_depth = nI ds1 ∧ (call_X2_clear ns1_size fs1_members (fun (ns1_size_34 : Int32) (fs1_members_34 : Nat → Bool) => ((n0_depth - 1) = nI ds2 ∧ (call_X2_addAll ns1_size_34 fs1_members_34 fs1_scores fs2_members fs2_scores (fun (ns1_size_49 : Int32) (fs1_members_49 : Nat → Bool) (fs1_scores_49 : Nat → Int64) => Q (n0_depth + 1) (n0_depth + 1) ns1_size_49 fs1_members_49 fs1_scores_49))))))) ∧ (¬ n0_depth < 8 → Q (-4) n0_depth ns1_size fs1_members fs1_scores))) ∧ (¬ 1 ≤ n0_depth → Q (-3) n0_depth ns1_size fs1_members fs1_scores))
set_option maxHeartbeats 4000000 in
set_option maxRecDepth 100000 in
theorem m_X3_again (l : Launch) (D : va_G) (cs : Nat → ClassId) (h0 : Nat) (h0_open : Nat) (h0_row : Nat) (h0_stack : Nat) (h0_taken : Nat) (h0_kin : Nat) (h0_ranking : Nat) (hs1 : Nat) (hs1_members : Nat) (hs1_scores : Nat) (hs2 : Nat) (hs2_members : Nat) (hs2_scores : Nat)  (n0_depth : Int32) (b0_wentUp : Bool) (f0_stack : Nat → Option Nat) (ns1_size : Int32) (fs1_members : Nat → Bool) (fs1_scores : Nat → Int64) (ns2_size : Int32) (fs2_members : Nat → Bool) (fs2_scores : Nat → Int64) (ds1 : Nat) (hds1 : ds1 < 8) (hfs1 : f0_stack ds1 = some hs1) (ds2 : Nat) (hds2 : ds2 < 8) (hfs2 : f0_stack ds2 = some hs2) (Q : Int32 → Int32 → Int32 → (Nat → Bool) → (Nat → Int64) → Prop) (h : call_X3_again ds1 ds2 n0_depth ns1_size fs1_members fs1_scores fs2_members fs2_scores Q) : CtI l yX3_again wsX3_again rm_X3_again D cs [.ref h0] (pc_X3_again cs h0 h0_open h0_row h0_stack h0_taken h0_kin h0_ranking hs1 hs1_members hs1_scores hs2 hs2_members hs2_scores n0_depth b0_wentUp f0_stack ns1_size fs1_members fs1_scores ns2_size fs2_members fs2_scores) (fun u : Int32 × Int32 × (Nat → Bool) × (Nat → Int64) => (pc_X3_again cs h0 h0_open h0_row h0_stack h0_taken h0_kin h0_ranking hs1 hs1_members hs1_scores hs2 hs2_members hs2_scores u.1 b0_wentUp f0_stack u.2.1 u.2.2.1 u.2.2.2 ns2_size fs2_members fs2_scores)) (fun r u => Q r u.1 u.2.1 u.2.2.1 u.2.2.2) := by
  refine xo_I (S := Int32 × Int32 × (Nat → Bool) × (Nat → Int64)) (cc := cX3_again) (maxL := 2) (own := RX3) (lv0 := [(0, .ref h0)]) (by decide) rfl rfl (Nat.le_of_ble_eq_true rfl) rfl ?_
  intro p e s m args below meth c A Z ls F hK hA hP hD hS hl RET
  have hw := h
  unfold call_X3_again at hw
  generalize ([] : List Loc) = locs at hS ⊢
  obtain ⟨H, hHe⟩ : ∃ H, H = s.heap := ⟨_, rfl⟩
  have hP : va_P D vwCl (pc_X3_again cs h0 h0_open h0_row h0_stack h0_taken h0_kin h0_ranking hs1 hs1_members hs1_scores hs2 hs2_members hs2_scores n0_depth b0_wentUp f0_stack ns1_size fs1_members fs1_scores ns2_size fs2_members fs2_scores) H := by rw [hHe]; exact hP
  have hS : va_S A s.heap H locs := by rw [hHe]; exact hS
  suffices W p l e rm_X3_again s m args below meth c H locs 0 0 Z (F0 m 0 ls []) by rw [hHe] at this; exact this
  refine lv_aload_n F.1 F.2.1 dX3_again_0 rfl (lv_at hl 0 rfl) ?_
  refine xi_get (C := RX3) (T := TX3) (N := 8) (v := .int n0_depth) F in_X3_again_X3 hK hP 0 rfl rfl 6 (by decide) fl_X3_again_44 rfl dX3_again_1 ?_
  refine lv_iconst (v := 1) F.1 F.2.1 dX3_again_4 (by decide) ?_
  refine lv_icmp_ge (tgt := 11) F.1 F.2.1 dX3_again_5 (by decide) (fun hc => ?_) (fun hc => ?_)
  · have hw := hw.1 hc
    refine lv_aload_n F.1 F.2.1 dX3_again_11 rfl (lv_at hl 0 rfl) ?_
    refine xi_get (C := RX3) (T := TX3) (N := 8) (v := .int n0_depth) F in_X3_again_X3 hK hP 0 rfl rfl 6 (by decide) fl_X3_again_44 rfl dX3_again_12 ?_
    refine lv_bipush (v := 8) F.1 F.2.1 dX3_again_15 (by decide) ?_
    refine lv_icmp_lt (tgt := 23) F.1 F.2.1 dX3_again_17 (by decide) (fun hc => ?_) (fun hc => ?_)
    · have hw := hw.1 hc
      refine lv_aload_n F.1 F.2.1 dX3_again_23 rfl (lv_at hl 0 rfl) ?_
      refine xi_get (C := RX3) (T := TX3) (N := 8) (v := .ref h0_stack) F in_X3_again_X3 hK hP 0 rfl rfl 2 (by decide) fl_X3_again_25 rfl dX3_again_24 ?_
      refine lv_aload_n F.1 F.2.1 dX3_again_27 rfl (lv_at hl 0 rfl) ?_
      refine xi_get (C := RX3) (T := TX3) (N := 8) (v := .int n0_depth) F in_X3_again_X3 hK hP 0 rfl rfl 6 (by decide) fl_X3_again_44 rfl dX3_again_28 ?_
      obtain ⟨he, hw⟩ := hw
      refine xi_aald F hK hP 1 rfl (by decide) hds1 he hfs1 dX3_again_31 ?_
      refine lv_astore_n (lv' := [(1, .ref hs1), (0, .ref h0)]) F.1 F.2.1 dX3_again_32 rfl hl (by decide) rfl (fun ls hl => ?_)
      refine lv_aload_n F.1 F.2.1 dX3_again_33 rfl (lv_at hl 0 rfl) ?_
      refine xc_Vv (As := []) (rest := []) (m_X2_clear l D cs hs1 hs1_members hs1_scores ns1_size fs1_members _ hw) F (cwV 0 F.2.2.2.2 gX3_again_X2_clear rfl rfl rfl (by decide +kernel) ⟨Nat.le_of_ble_eq_true rfl, Nat.le_of_ble_eq_true rfl⟩) hK hP hD hS hA [2, 3] [0, 1, 4, 5, 6, 7] rfl rfl 0 rfl rfl rfl hl.1 rfl (Nat.le_of_ble_eq_true rfl) dX3_again_34 ⟨Nat.zero_le _, Nat.zero_le _⟩ (fun u H locs hw hP hD hS => ?_)
      obtain ⟨ns1_size_34, fs1_members_34⟩ := u
      have hP : va_P D vwCl (pc_X3_again cs h0 h0_open h0_row h0_stack h0_taken h0_kin h0_ranking hs1 hs1_members hs1_scores hs2 hs2_members hs2_scores n0_depth b0_wentUp f0_stack ns1_size_34 fs1_members_34 fs1_scores ns2_size fs2_members fs2_scores) H := hP.sub [0, 1, 6, 7, 2, 3, 4, 5] rfl
      have hD : va_D A (pc_X3_again cs h0 h0_open h0_row h0_stack h0_taken h0_kin h0_ranking hs1 hs1_members hs1_scores hs2 hs2_members hs2_scores n0_depth b0_wentUp f0_stack ns1_size_34 fs1_members_34 fs1_scores ns2_size fs2_members fs2_scores) := hD.sub [0, 1, 6, 7, 2, 3, 4, 5] (by decide) rfl
      try dsimp only at hw
      refine lv_aload_n F.1 F.2.1 dX3_again_37 rfl (lv_at hl 0 rfl) ?_
      refine lv_aload_n F.1 F.2.1 dX3_again_38 rfl (lv_at hl 1 rfl) ?_
      refine xi_get (C := RX3) (T := TX3) (N := 8) (v := .ref h0_stack) F in_X3_again_X3 hK hP 0 rfl rfl 2 (by decide) fl_X3_again_25 rfl dX3_again_39 ?_
      refine lv_aload_n F.1 F.2.1 dX3_again_42 rfl (lv_at hl 1 rfl) ?_
      refine xi_get (C := RX3) (T := TX3) (N := 8) (v := .int n0_depth) F in_X3_again_X3 hK hP 0 rfl rfl 6 (by decide) fl_X3_again_44 rfl dX3_again_43 ?_
      refine lv_iconst (v := 1) F.1 F.2.1 dX3_again_46 (by decide) ?_
      refine lv_isub F.1 F.2.1 dX3_again_47 ?_
      obtain ⟨he, hw⟩ := hw
      refine xi_aald F hK hP 1 rfl (by decide) hds2 he hfs2 dX3_again_48 ?_
      refine xc_Vv (As := [.ref hs2]) (rest := []) (m_X2_addAll l D cs hs1 hs1_members hs1_scores hs2 hs2_members hs2_scores ns1_size_34 fs1_members_34 fs1_scores ns2_size fs2_members fs2_scores _ hw) F (cwV 1 F.2.2.2.2 gX3_again_X2_addAll rfl rfl rfl (by decide +kernel) ⟨Nat.le_of_ble_eq_true rfl, Nat.le_of_ble_eq_true rfl⟩) hK hP hD hS hA [2, 3, 4, 5, 6, 7] [0, 1] rfl rfl 0 rfl rfl rfl hl.1 rfl (Nat.le_of_ble_eq_true rfl) dX3_again_49 ⟨Nat.zero_le _, Nat.zero_le _⟩ (fun u H locs hw hP hD hS => ?_)
      obtain ⟨ns1_size_49, fs1_members_49, fs1_scores_49⟩ := u
      have hP : va_P D vwCl (pc_X3_again cs h0 h0_open h0_row h0_stack h0_taken h0_kin h0_ranking hs1 hs1_members hs1_scores hs2 hs2_members hs2_scores n0_depth b0_wentUp f0_stack ns1_size_49 fs1_members_49 fs1_scores_49 ns2_size fs2_members fs2_scores) H := hP.sub [0, 1, 2, 3, 4, 5, 6, 7] rfl
      have hD : va_D A (pc_X3_again cs h0 h0_open h0_row h0_stack h0_taken h0_kin h0_ranking hs1 hs1_members hs1_scores hs2 hs2_members hs2_scores n0_depth b0_wentUp f0_stack ns1_size_49 fs1_members_49 fs1_scores_49 ns2_size fs2_members fs2_scores) := hD.sub [0, 1, 2, 3, 4, 5, 6, 7] (by decide) rfl
      try dsimp only at hw
      refine lv_aload_n F.1 F.2.1 dX3_again_52 rfl (lv_at hl 1 rfl) ?_
      refine lv_dup F.1 F.2.1 dX3_again_53 rfl ?_
      refine xi_get (C := RX3) (T := TX3) (N := 8) (v := .int n0_depth) F in_X3_again_X3 hK hP 0 rfl rfl 6 (by decide) fl_X3_again_44 rfl dX3_again_54 ?_
      refine lv_iconst (v := 1) F.1 F.2.1 dX3_again_57 (by decide) ?_
      refine lv_iadd F.1 F.2.1 dX3_again_58 ?_
      refine xi_put (C := RX3) (T := TX3) (N := 8) (v := .int (n0_depth + 1)) (ty := .int) F in_X3_again_X3 tyX3 tyX3_ok nmX3 hK hP hD hS 0 rfl rfl 6 (by decide) fl_X3_again_44 rfl (tyX3_ok 6 (by decide)) rfl rfl (Nat.le_of_ble_eq_true rfl) dX3_again_59 (fun H locs hP hD hS => ?_)
      have hP : va_P D vwCl (pc_X3_again cs h0 h0_open h0_row h0_stack h0_taken h0_kin h0_ranking hs1 hs1_members hs1_scores hs2 hs2_members hs2_scores (n0_depth + 1) b0_wentUp f0_stack ns1_size_49 fs1_members_49 fs1_scores_49 ns2_size fs2_members fs2_scores) H := hP
      have hD : va_D A (pc_X3_again cs h0 h0_open h0_row h0_stack h0_taken h0_kin h0_ranking hs1 hs1_members hs1_scores hs2 hs2_members hs2_scores (n0_depth + 1) b0_wentUp f0_stack ns1_size_49 fs1_members_49 fs1_scores_49 ns2_size fs2_members fs2_scores) := hD
      refine lv_aload_n F.1 F.2.1 dX3_again_62 rfl (lv_at hl 1 rfl) ?_
      refine xi_get (C := RX3) (T := TX3) (N := 8) (v := .int (n0_depth + 1)) F in_X3_again_X3 hK hP 0 rfl rfl 6 (by decide) fl_X3_again_44 rfl dX3_again_63 ?_
      exact RET (n0_depth + 1) ((n0_depth + 1), ns1_size_49, fs1_members_49, fs1_scores_49) H locs 66 ls hw hP hD hS dX3_again_66
    · have hw := hw.2 hc
      refine lv_bipush (v := (-4)) F.1 F.2.1 dX3_again_20 (by decide) ?_
      exact RET (-4) (n0_depth, ns1_size, fs1_members, fs1_scores) H locs 22 ls hw hP hD hS dX3_again_22
  · have hw := hw.2 hc
    refine lv_bipush (v := (-3)) F.1 F.2.1 dX3_again_8 (by decide) ?_
    exact RET (-3) (n0_depth, ns1_size, fs1_members, fs1_scores) H locs 10 ls hw hP hD hS dX3_again_10

theorem in_X3_pop_X3 : ∀ w ∈ wsX30, w ∈ wsX3_pop := by decide +kernel
theorem fl_X3_pop_44 : Cond.fieldLink RX3 44 "JoinBlocks" "depth" "I" ∈ wsX3_pop := by decide +kernel
abbrev pc_X3_pop (cs : Nat → ClassId) (h0 : Nat) (h0_open : Nat) (h0_row : Nat) (h0_stack : Nat) (h0_taken : Nat) (h0_kin : Nat) (h0_ranking : Nat) (n0_depth : Int32) (b0_wentUp : Bool) : va_W := [(h0, .inr (3, [.ref h0_open, .ref h0_row, .ref h0_stack, .ref h0_taken, .ref h0_kin, .ref h0_ranking, .int n0_depth, .int (b2i b0_wentUp)]))]
abbrev rm_X3_pop : Room := { frames := 0, cells := 0, slots := 0, locals := 0 }
def call_X3_pop (n0_depth : Int32) (Q : Int32 → Int32 → Prop) : Prop :=
    ((1 ≤ n0_depth → Q (n0_depth - 1) (n0_depth - 1)) ∧ (¬ 1 ≤ n0_depth → Q (-3) n0_depth))
set_option maxHeartbeats 4000000 in
set_option maxRecDepth 100000 in
theorem m_X3_pop (l : Launch) (D : va_G) (cs : Nat → ClassId) (h0 : Nat) (h0_open : Nat) (h0_row : Nat) (h0_stack : Nat) (h0_taken : Nat) (h0_kin : Nat) (h0_ranking : Nat)  (n0_depth : Int32) (b0_wentUp : Bool) (Q : Int32 → Int32 → Prop) (h : call_X3_pop n0_depth Q) : CtI l yX3_pop wsX3_pop rm_X3_pop D cs [.ref h0] (pc_X3_pop cs h0 h0_open h0_row h0_stack h0_taken h0_kin h0_ranking n0_depth b0_wentUp) (fun u : Int32 => (pc_X3_pop cs h0 h0_open h0_row h0_stack h0_taken h0_kin h0_ranking u b0_wentUp)) (fun r u => Q r u) := by
  refine xo_I (S := Int32) (cc := cX3_pop) (maxL := 1) (own := RX3) (lv0 := [(0, .ref h0)]) (by decide) rfl rfl (Nat.le_of_ble_eq_true rfl) rfl ?_
  intro p e s m args below meth c A Z ls F hK hA hP hD hS hl RET
  have hw := h
  unfold call_X3_pop at hw
  generalize ([] : List Loc) = locs at hS ⊢
  obtain ⟨H, hHe⟩ : ∃ H, H = s.heap := ⟨_, rfl⟩
  have hP : va_P D vwCl (pc_X3_pop cs h0 h0_open h0_row h0_stack h0_taken h0_kin h0_ranking n0_depth b0_wentUp) H := by rw [hHe]; exact hP
  have hS : va_S A s.heap H locs := by rw [hHe]; exact hS
  suffices W p l e rm_X3_pop s m args below meth c H locs 0 0 Z (F0 m 0 ls []) by rw [hHe] at this; exact this
  refine lv_aload_n F.1 F.2.1 dX3_pop_0 rfl (lv_at hl 0 rfl) ?_
  refine xi_get (C := RX3) (T := TX3) (N := 8) (v := .int n0_depth) F in_X3_pop_X3 hK hP 0 rfl rfl 6 (by decide) fl_X3_pop_44 rfl dX3_pop_1 ?_
  refine lv_iconst (v := 1) F.1 F.2.1 dX3_pop_4 (by decide) ?_
  refine lv_icmp_ge (tgt := 11) F.1 F.2.1 dX3_pop_5 (by decide) (fun hc => ?_) (fun hc => ?_)
  · have hw := hw.1 hc
    refine lv_aload_n F.1 F.2.1 dX3_pop_11 rfl (lv_at hl 0 rfl) ?_
    refine lv_dup F.1 F.2.1 dX3_pop_12 rfl ?_
    refine xi_get (C := RX3) (T := TX3) (N := 8) (v := .int n0_depth) F in_X3_pop_X3 hK hP 0 rfl rfl 6 (by decide) fl_X3_pop_44 rfl dX3_pop_13 ?_
    refine lv_iconst (v := 1) F.1 F.2.1 dX3_pop_16 (by decide) ?_
    refine lv_isub F.1 F.2.1 dX3_pop_17 ?_
    refine xi_put (C := RX3) (T := TX3) (N := 8) (v := .int (n0_depth - 1)) (ty := .int) F in_X3_pop_X3 tyX3 tyX3_ok nmX3 hK hP hD hS 0 rfl rfl 6 (by decide) fl_X3_pop_44 rfl (tyX3_ok 6 (by decide)) rfl rfl (Nat.le_of_ble_eq_true rfl) dX3_pop_18 (fun H locs hP hD hS => ?_)
    have hP : va_P D vwCl (pc_X3_pop cs h0 h0_open h0_row h0_stack h0_taken h0_kin h0_ranking (n0_depth - 1) b0_wentUp) H := hP
    have hD : va_D A (pc_X3_pop cs h0 h0_open h0_row h0_stack h0_taken h0_kin h0_ranking (n0_depth - 1) b0_wentUp) := hD
    refine lv_aload_n F.1 F.2.1 dX3_pop_21 rfl (lv_at hl 0 rfl) ?_
    refine xi_get (C := RX3) (T := TX3) (N := 8) (v := .int (n0_depth - 1)) F in_X3_pop_X3 hK hP 0 rfl rfl 6 (by decide) fl_X3_pop_44 rfl dX3_pop_22 ?_
    exact RET (n0_depth - 1) ((n0_depth - 1)) H locs 25 ls hw hP hD hS dX3_pop_25
  · have hw := hw.2 hc
    refine lv_bipush (v := (-3)) F.1 F.2.1 dX3_pop_8 (by decide) ?_
    exact RET (-3) (n0_depth) H locs 10 ls hw hP hD hS dX3_pop_10

theorem in_X3_hit_X3 : ∀ w ∈ wsX30, w ∈ wsX3_hit := by decide +kernel
theorem fl_X3_hit_44 : Cond.fieldLink RX3 44 "JoinBlocks" "depth" "I" ∈ wsX3_hit := by decide +kernel
theorem fl_X3_hit_40 : Cond.fieldLink RX3 40 "JoinBlocks" "ranking" "LJoinBlocks$Ranking;" ∈ wsX3_hit := by decide +kernel
theorem fl_X3_hit_25 : Cond.fieldLink RX3 25 "JoinBlocks" "stack" "[LJoinBlocks$ScoredSet;" ∈ wsX3_hit := by decide +kernel
theorem fl_X3_hit_20 : Cond.fieldLink RX3 20 "JoinBlocks" "row" "LJoinBlocks$Row;" ∈ wsX3_hit := by decide +kernel
theorem in_X3_hit_X1 : ∀ w ∈ wsX10, w ∈ wsX3_hit := by decide +kernel
theorem fl_X3_hit_59 : Cond.fieldLink RX3 59 "JoinBlocks$Row" "size" "I" ∈ wsX3_hit := by decide +kernel
abbrev pc_X3_hit (cs : Nat → ClassId) (h0 : Nat) (h0_open : Nat) (h0_row : Nat) (h0_stack : Nat) (h0_taken : Nat) (h0_kin : Nat) (h0_ranking : Nat) (h0_row_levels : Nat) (h0_row_values : Nat) (h0_row_tags : Nat) (h0_row_links : Nat) (h0_row_keys : Nat) (h0_row_living : Nat) (h0_ranking_numbers : Nat) (h0_ranking_merged : Nat) (hs1 : Nat) (hs1_members : Nat) (hs1_scores : Nat) (n0_depth : Int32) (b0_wentUp : Bool) (n0_row_size : Int32) (f0_stack : Nat → Option Nat) (n0_ranking_size : Int32) (f0_ranking_numbers : Nat → Int32) (f0_ranking_merged : Nat → Int32) (ns1_size : Int32) (fs1_members : Nat → Bool) (fs1_scores : Nat → Int64) : va_W := [(h0, .inr (3, [.ref h0_open, .ref h0_row, .ref h0_stack, .ref h0_taken, .ref h0_kin, .ref h0_ranking, .int n0_depth, .int (b2i b0_wentUp)])), (h0_row, .inr (1, [.ref h0_row_levels, .ref h0_row_values, .ref h0_row_tags, .ref h0_row_links, .ref h0_row_keys, .ref h0_row_living, .int n0_row_size])), (h0_stack, .inl (cs 3, 8, .inr (.inr (.inr (.inr f0_stack))))), (h0_ranking, .inr (0, [.ref h0_ranking_numbers, .ref h0_ranking_merged, .int n0_ranking_size])), (h0_ranking_numbers, .inl (cs 0, 200, .inl f0_ranking_numbers)), (h0_ranking_merged, .inl (cs 0, 200, .inl f0_ranking_merged)), (hs1, .inr (2, [.ref hs1_members, .ref hs1_scores, .int ns1_size])), (hs1_members, .inl (cs 1, 200, .inl (bF fs1_members))), (hs1_scores, .inl (cs 2, 200, .inr (.inl fs1_scores)))]
abbrev rm_X3_hit : Room := { frames := 3, cells := 0, slots := 0, locals := 109 }
def call_X3_hit (ds1 : Nat) (p1 : Int32) (n0_depth : Int32) (n0_row_size : Int32) (n0_ranking_size : Int32) (f0_ranking_numbers : Nat → Int32) (f0_ranking_merged : Nat → Int32) (fs1_members : Nat → Bool) (fs1_scores : Nat → Int64) (Q : Int32 → Int32 → (Nat → Int32) → (Nat → Int32) → Prop) : Prop :=
    ((1 ≤ n0_depth → ((n0_depth - 1) = nI ds1 ∧ (call_X0_rank 0 n0_row_size n0_ranking_size f0_ranking_numbers f0_ranking_merged fs1_members fs1_scores (fun (n0_ranking_size_34 : Int32) (f0_ranking_numbers_34 : Nat → Int32) (f0_ranking_merged_34 : Nat → Int32) => (call_X3_answerRanked p1 n0_ranking_size_34 f0_ranking_numbers_34 (fun (r39 : Int32) => Q r39 n0_ranking_size_34 f0_ranking_numbers_34 f0_ranking_merged_34)))))) ∧ (¬ 1 ≤ n0_depth → Q (-3) n0_ranking_size f0_ranking_numbers f0_ranking_merged))
set_option maxHeartbeats 4000000 in
set_option maxRecDepth 100000 in
theorem m_X3_hit (l : Launch) (D : va_G) (cs : Nat → ClassId) (h0 : Nat) (h0_open : Nat) (h0_row : Nat) (h0_stack : Nat) (h0_taken : Nat) (h0_kin : Nat) (h0_ranking : Nat) (h0_row_levels : Nat) (h0_row_values : Nat) (h0_row_tags : Nat) (h0_row_links : Nat) (h0_row_keys : Nat) (h0_row_living : Nat) (h0_ranking_numbers : Nat) (h0_ranking_merged : Nat) (hs1 : Nat) (hs1_members : Nat) (hs1_scores : Nat)  (p1 : Int32) (n0_depth : Int32) (b0_wentUp : Bool) (n0_row_size : Int32) (f0_stack : Nat → Option Nat) (n0_ranking_size : Int32) (f0_ranking_numbers : Nat → Int32) (f0_ranking_merged : Nat → Int32) (ns1_size : Int32) (fs1_members : Nat → Bool) (fs1_scores : Nat → Int64) (ds1 : Nat) (hds1 : ds1 < 8) (hfs1 : f0_stack ds1 = some hs1) (Q : Int32 → Int32 → (Nat → Int32) → (Nat → Int32) → Prop) (h : call_X3_hit ds1 p1 n0_depth n0_row_size n0_ranking_size f0_ranking_numbers f0_ranking_merged fs1_members fs1_scores Q) : CtI l yX3_hit wsX3_hit rm_X3_hit D cs [.ref h0, .int p1] (pc_X3_hit cs h0 h0_open h0_row h0_stack h0_taken h0_kin h0_ranking h0_row_levels h0_row_values h0_row_tags h0_row_links h0_row_keys h0_row_living h0_ranking_numbers h0_ranking_merged hs1 hs1_members hs1_scores n0_depth b0_wentUp n0_row_size f0_stack n0_ranking_size f0_ranking_numbers f0_ranking_merged ns1_size fs1_members fs1_scores) (fun u : Int32 × (Nat → Int32) × (Nat → Int32) => (pc_X3_hit cs h0 h0_open h0_row h0_stack h0_taken h0_kin h0_ranking h0_row_levels h0_row_values h0_row_tags h0_row_links h0_row_keys h0_row_living h0_ranking_numbers h0_ranking_merged hs1 hs1_members hs1_scores n0_depth b0_wentUp n0_row_size f0_stack u.1 u.2.1 u.2.2 ns1_size fs1_members fs1_scores)) (fun r u => Q r u.1 u.2.1 u.2.2) := by
  refine xo_I (S := Int32 × (Nat → Int32) × (Nat → Int32)) (cc := cX3_hit) (maxL := 2) (own := RX3) (lv0 := [(0, .ref h0), (1, .int p1)]) (by decide) rfl rfl (Nat.le_of_ble_eq_true rfl) rfl ?_
  intro p e s m args below meth c A Z ls F hK hA hP hD hS hl RET
  have hw := h
  unfold call_X3_hit at hw
  generalize ([] : List Loc) = locs at hS ⊢
  obtain ⟨H, hHe⟩ : ∃ H, H = s.heap := ⟨_, rfl⟩
  have hP : va_P D vwCl (pc_X3_hit cs h0 h0_open h0_row h0_stack h0_taken h0_kin h0_ranking h0_row_levels h0_row_values h0_row_tags h0_row_links h0_row_keys h0_row_living h0_ranking_numbers h0_ranking_merged hs1 hs1_members hs1_scores n0_depth b0_wentUp n0_row_size f0_stack n0_ranking_size f0_ranking_numbers f0_ranking_merged ns1_size fs1_members fs1_scores) H := by rw [hHe]; exact hP
  have hS : va_S A s.heap H locs := by rw [hHe]; exact hS
  suffices W p l e rm_X3_hit s m args below meth c H locs 0 0 Z (F0 m 0 ls []) by rw [hHe] at this; exact this
  refine lv_aload_n F.1 F.2.1 dX3_hit_0 rfl (lv_at hl 0 rfl) ?_
  refine xi_get (C := RX3) (T := TX3) (N := 8) (v := .int n0_depth) F in_X3_hit_X3 hK hP 0 rfl rfl 6 (by decide) fl_X3_hit_44 rfl dX3_hit_1 ?_
  refine lv_iconst (v := 1) F.1 F.2.1 dX3_hit_4 (by decide) ?_
  refine lv_icmp_ge (tgt := 11) F.1 F.2.1 dX3_hit_5 (by decide) (fun hc => ?_) (fun hc => ?_)
  · have hw := hw.1 hc
    refine lv_aload_n F.1 F.2.1 dX3_hit_11 rfl (lv_at hl 0 rfl) ?_
    refine xi_get (C := RX3) (T := TX3) (N := 8) (v := .ref h0_ranking) F in_X3_hit_X3 hK hP 0 rfl rfl 5 (by decide) fl_X3_hit_40 rfl dX3_hit_12 ?_
    refine lv_aload_n F.1 F.2.1 dX3_hit_15 rfl (lv_at hl 0 rfl) ?_
    refine xi_get (C := RX3) (T := TX3) (N := 8) (v := .ref h0_stack) F in_X3_hit_X3 hK hP 0 rfl rfl 2 (by decide) fl_X3_hit_25 rfl dX3_hit_16 ?_
    refine lv_aload_n F.1 F.2.1 dX3_hit_19 rfl (lv_at hl 0 rfl) ?_
    refine xi_get (C := RX3) (T := TX3) (N := 8) (v := .int n0_depth) F in_X3_hit_X3 hK hP 0 rfl rfl 6 (by decide) fl_X3_hit_44 rfl dX3_hit_20 ?_
    refine lv_iconst (v := 1) F.1 F.2.1 dX3_hit_23 (by decide) ?_
    refine lv_isub F.1 F.2.1 dX3_hit_24 ?_
    obtain ⟨he, hw⟩ := hw
    refine xi_aald F hK hP 2 rfl (by decide) hds1 he hfs1 dX3_hit_25 ?_
    refine lv_iconst (v := 0) F.1 F.2.1 dX3_hit_26 (by decide) ?_
    refine lv_aload_n F.1 F.2.1 dX3_hit_27 rfl (lv_at hl 0 rfl) ?_
    refine xi_get (C := RX3) (T := TX3) (N := 8) (v := .ref h0_row) F in_X3_hit_X3 hK hP 0 rfl rfl 1 (by decide) fl_X3_hit_20 rfl dX3_hit_28 ?_
    refine xi_get (C := RX1) (T := TX1) (N := 7) (v := .int n0_row_size) F in_X3_hit_X1 hK hP 1 rfl rfl 6 (by decide) fl_X3_hit_59 rfl dX3_hit_31 ?_
    refine xc_Vv (As := [.ref hs1, .int 0, .int n0_row_size]) (rest := []) (m_X0_rank l D cs h0_ranking h0_ranking_numbers h0_ranking_merged hs1 hs1_members hs1_scores 0 n0_row_size n0_ranking_size f0_ranking_numbers f0_ranking_merged ns1_size fs1_members fs1_scores _ hw) F (cwV 3 F.2.2.2.2 gX3_hit_X0_rank rfl rfl rfl (by decide +kernel) ⟨Nat.le_of_ble_eq_true rfl, Nat.le_of_ble_eq_true rfl⟩) hK hP hD hS hA [3, 4, 5, 6, 7, 8] [0, 1, 2] rfl rfl 0 rfl rfl rfl hl.1 rfl (Nat.le_of_ble_eq_true rfl) dX3_hit_34 ⟨Nat.zero_le _, Nat.zero_le _⟩ (fun u H locs hw hP hD hS => ?_)
    obtain ⟨n0_ranking_size_34, f0_ranking_numbers_34, f0_ranking_merged_34⟩ := u
    have hP : va_P D vwCl (pc_X3_hit cs h0 h0_open h0_row h0_stack h0_taken h0_kin h0_ranking h0_row_levels h0_row_values h0_row_tags h0_row_links h0_row_keys h0_row_living h0_ranking_numbers h0_ranking_merged hs1 hs1_members hs1_scores n0_depth b0_wentUp n0_row_size f0_stack n0_ranking_size_34 f0_ranking_numbers_34 f0_ranking_merged_34 ns1_size fs1_members fs1_scores) H := hP.sub [0, 1, 2, 3, 4, 5, 6, 7, 8] rfl
    have hD : va_D A (pc_X3_hit cs h0 h0_open h0_row h0_stack h0_taken h0_kin h0_ranking h0_row_levels h0_row_values h0_row_tags h0_row_links h0_row_keys h0_row_living h0_ranking_numbers h0_ranking_merged hs1 hs1_members hs1_scores n0_depth b0_wentUp n0_row_size f0_stack n0_ranking_size_34 f0_ranking_numbers_34 f0_ranking_merged_34 ns1_size fs1_members fs1_scores) := hD.sub [0, 1, 2, 3, 4, 5, 6, 7, 8] (by decide) rfl
    try dsimp only at hw
    refine lv_aload_n F.1 F.2.1 dX3_hit_37 rfl (lv_at hl 0 rfl) ?_
    refine lv_iload_n F.1 F.2.1 dX3_hit_38 rfl (lv_at hl 1 rfl) ?_
    refine xc_Vi (As := [.int p1]) (rest := []) (m_X3_answerRanked l D cs h0 h0_open h0_row h0_stack h0_taken h0_kin h0_ranking h0_ranking_numbers h0_ranking_merged p1 n0_depth b0_wentUp n0_ranking_size_34 f0_ranking_numbers_34 _ hw) F (cwV 1 F.2.2.2.2 gX3_hit_X3_answerRanked rfl rfl rfl (by decide +kernel) ⟨Nat.le_of_ble_eq_true rfl, Nat.le_of_ble_eq_true rfl⟩) hK hP hD hS hA [0, 3, 4] [1, 2, 5, 6, 7, 8] rfl rfl 0 rfl rfl rfl hl.1 rfl (Nat.le_of_ble_eq_true rfl) dX3_hit_39 ⟨Nat.zero_le _, Nat.zero_le _⟩ (fun r39 u H locs hw hP hD hS => ?_)
    have hP : va_P D vwCl (pc_X3_hit cs h0 h0_open h0_row h0_stack h0_taken h0_kin h0_ranking h0_row_levels h0_row_values h0_row_tags h0_row_links h0_row_keys h0_row_living h0_ranking_numbers h0_ranking_merged hs1 hs1_members hs1_scores n0_depth b0_wentUp n0_row_size f0_stack n0_ranking_size_34 f0_ranking_numbers_34 f0_ranking_merged_34 ns1_size fs1_members fs1_scores) H := hP.sub [6, 0, 1, 7, 8, 2, 3, 4, 5] rfl
    have hD : va_D A (pc_X3_hit cs h0 h0_open h0_row h0_stack h0_taken h0_kin h0_ranking h0_row_levels h0_row_values h0_row_tags h0_row_links h0_row_keys h0_row_living h0_ranking_numbers h0_ranking_merged hs1 hs1_members hs1_scores n0_depth b0_wentUp n0_row_size f0_stack n0_ranking_size_34 f0_ranking_numbers_34 f0_ranking_merged_34 ns1_size fs1_members fs1_scores) := hD.sub [6, 0, 1, 7, 8, 2, 3, 4, 5] (by decide) rfl
    try dsimp only at hw
    exact RET r39 (n0_ranking_size_34, f0_ranking_numbers_34, f0_ranking_merged_34) H locs 42 ls hw hP hD hS dX3_hit_42
  · have hw := hw.2 hc
    refine lv_bipush (v := (-3)) F.1 F.2.1 dX3_hit_8 (by decide) ?_
    exact RET (-3) (n0_ranking_size, f0_ranking_numbers, f0_ranking_merged) H locs 10 ls hw hP hD hS dX3_hit_10

theorem in_X3_score_X3 : ∀ w ∈ wsX30, w ∈ wsX3_score := by decide +kernel
theorem fl_X3_score_44 : Cond.fieldLink RX3 44 "JoinBlocks" "depth" "I" ∈ wsX3_score := by decide +kernel
theorem fl_X3_score_25 : Cond.fieldLink RX3 25 "JoinBlocks" "stack" "[LJoinBlocks$ScoredSet;" ∈ wsX3_score := by decide +kernel
theorem in_X3_score_X2 : ∀ w ∈ wsX20, w ∈ wsX3_score := by decide +kernel
theorem fl_X3_score_177 : Cond.fieldLink RX3 177 "JoinBlocks$ScoredSet" "scores" "[J" ∈ wsX3_score := by decide +kernel
abbrev pc_X3_score (cs : Nat → ClassId) (h0 : Nat) (h0_open : Nat) (h0_row : Nat) (h0_stack : Nat) (h0_taken : Nat) (h0_kin : Nat) (h0_ranking : Nat) (hs1 : Nat) (hs1_members : Nat) (hs1_scores : Nat) (n0_depth : Int32) (b0_wentUp : Bool) (f0_stack : Nat → Option Nat) (ns1_size : Int32) (fs1_members : Nat → Bool) (fs1_scores : Nat → Int64) : va_W := [(h0, .inr (3, [.ref h0_open, .ref h0_row, .ref h0_stack, .ref h0_taken, .ref h0_kin, .ref h0_ranking, .int n0_depth, .int (b2i b0_wentUp)])), (h0_stack, .inl (cs 3, 8, .inr (.inr (.inr (.inr f0_stack))))), (hs1, .inr (2, [.ref hs1_members, .ref hs1_scores, .int ns1_size])), (hs1_members, .inl (cs 1, 200, .inl (bF fs1_members))), (hs1_scores, .inl (cs 2, 200, .inr (.inl fs1_scores)))]
abbrev rm_X3_score : Room := { frames := 1, cells := 0, slots := 0, locals := 21 }
def call_X3_score (ds1 : Nat) (p1 : Int32) (n0_depth : Int32) (fs1_members : Nat → Bool) (fs1_scores : Nat → Int64) (Q : Int64 → Prop) : Prop := ∀ (X44 : Int64 → Prop),
    (∀ (s0 : Int64),
      Q s0 → X44 s0) →
    ((1 ≤ n0_depth → ((n0_depth - 1) = nI ds1 ∧ (call_X2_has p1 fs1_members (fun (r26 : Bool) => ((r26 = false → X44 (-9223372036854775808)) ∧ (r26 = true → (∃ j37 : Nat, j37 < 200 ∧ p1 = nI j37 ∧ X44 (fs1_scores j37)))))))) ∧ (¬ 1 ≤ n0_depth → Q (-9223372036854775808)))
set_option maxHeartbeats 4000000 in
set_option maxRecDepth 100000 in
theorem m_X3_score (l : Launch) (D : va_G) (cs : Nat → ClassId) (h0 : Nat) (h0_open : Nat) (h0_row : Nat) (h0_stack : Nat) (h0_taken : Nat) (h0_kin : Nat) (h0_ranking : Nat) (hs1 : Nat) (hs1_members : Nat) (hs1_scores : Nat)  (p1 : Int32) (n0_depth : Int32) (b0_wentUp : Bool) (f0_stack : Nat → Option Nat) (ns1_size : Int32) (fs1_members : Nat → Bool) (fs1_scores : Nat → Int64) (ds1 : Nat) (hds1 : ds1 < 8) (hfs1 : f0_stack ds1 = some hs1) (Q : Int64 → Prop) (h : call_X3_score ds1 p1 n0_depth fs1_members fs1_scores Q) : CtL l yX3_score wsX3_score rm_X3_score D cs [.ref h0, .int p1] (pc_X3_score cs h0 h0_open h0_row h0_stack h0_taken h0_kin h0_ranking hs1 hs1_members hs1_scores n0_depth b0_wentUp f0_stack ns1_size fs1_members fs1_scores) (fun u : Unit => (pc_X3_score cs h0 h0_open h0_row h0_stack h0_taken h0_kin h0_ranking hs1 hs1_members hs1_scores n0_depth b0_wentUp f0_stack ns1_size fs1_members fs1_scores)) (fun r u => Q r ) := by
  refine xo_L (S := Unit) (cc := cX3_score) (maxL := 3) (own := RX3) (lv0 := [(0, .ref h0), (1, .int p1)]) (by decide) rfl rfl (Nat.le_of_ble_eq_true rfl) rfl ?_
  intro p e s m args below meth c A Z ls F hK hA hP hD hS hl RET
  unfold call_X3_score at h
  obtain ⟨X44, hX44⟩ : ∃ X : Int64 → Prop, ∀ (s0 : Int64), (X s0 ↔ ∀ (H : Heap) (locs : List Loc) (ls : Array Slot), va_P D vwCl (pc_X3_score cs h0 h0_open h0_row h0_stack h0_taken h0_kin h0_ranking hs1 hs1_members hs1_scores n0_depth b0_wentUp f0_stack ns1_size fs1_members fs1_scores) H → va_D A (pc_X3_score cs h0 h0_open h0_row h0_stack h0_taken h0_kin h0_ranking hs1 hs1_members hs1_scores n0_depth b0_wentUp f0_stack ns1_size fs1_members fs1_scores) → va_S A s.heap H locs → lv_has ls 3 [] → W p l e rm_X3_score s m args below meth c H locs 0 0 Z (F0 m 44 ls [.long s0])) := ⟨_, fun _ => Iff.rfl⟩
  refine xt_cut (h X44 ?_) (fun hw => ?_)
  · intro s0 hw
    refine (hX44 _).mpr ?_
    intro H locs ls hP hD hS hl
    exact RET s0 () H locs 44 ls hw hP hD hS dX3_score_44
  generalize ([] : List Loc) = locs at hS ⊢
  obtain ⟨H, hHe⟩ : ∃ H, H = s.heap := ⟨_, rfl⟩
  have hP : va_P D vwCl (pc_X3_score cs h0 h0_open h0_row h0_stack h0_taken h0_kin h0_ranking hs1 hs1_members hs1_scores n0_depth b0_wentUp f0_stack ns1_size fs1_members fs1_scores) H := by rw [hHe]; exact hP
  have hS : va_S A s.heap H locs := by rw [hHe]; exact hS
  suffices W p l e rm_X3_score s m args below meth c H locs 0 0 Z (F0 m 0 ls []) by rw [hHe] at this; exact this
  refine lv_aload_n F.1 F.2.1 dX3_score_0 rfl (lv_at hl 0 rfl) ?_
  refine xi_get (C := RX3) (T := TX3) (N := 8) (v := .int n0_depth) F in_X3_score_X3 hK hP 0 rfl rfl 6 (by decide) fl_X3_score_44 rfl dX3_score_1 ?_
  refine lv_iconst (v := 1) F.1 F.2.1 dX3_score_4 (by decide) ?_
  refine lv_icmp_ge (tgt := 12) F.1 F.2.1 dX3_score_5 (by decide) (fun hc => ?_) (fun hc => ?_)
  · have hw := hw.1 hc
    refine lv_aload_n F.1 F.2.1 dX3_score_12 rfl (lv_at hl 0 rfl) ?_
    refine xi_get (C := RX3) (T := TX3) (N := 8) (v := .ref h0_stack) F in_X3_score_X3 hK hP 0 rfl rfl 2 (by decide) fl_X3_score_25 rfl dX3_score_13 ?_
    refine lv_aload_n F.1 F.2.1 dX3_score_16 rfl (lv_at hl 0 rfl) ?_
    refine xi_get (C := RX3) (T := TX3) (N := 8) (v := .int n0_depth) F in_X3_score_X3 hK hP 0 rfl rfl 6 (by decide) fl_X3_score_44 rfl dX3_score_17 ?_
    refine lv_iconst (v := 1) F.1 F.2.1 dX3_score_20 (by decide) ?_
    refine lv_isub F.1 F.2.1 dX3_score_21 ?_
    obtain ⟨he, hw⟩ := hw
    refine xi_aald F hK hP 1 rfl (by decide) hds1 he hfs1 dX3_score_22 ?_
    refine lv_astore_n (lv' := [(2, .ref hs1), (0, .ref h0), (1, .int p1)]) F.1 F.2.1 dX3_score_23 rfl hl (by decide) rfl (fun ls hl => ?_)
    refine lv_aload_n F.1 F.2.1 dX3_score_24 rfl (lv_at hl 0 rfl) ?_
    refine lv_iload_n F.1 F.2.1 dX3_score_25 rfl (lv_at hl 2 rfl) ?_
    refine xc_Vz (As := [.int p1]) (rest := []) (m_X2_has l D cs hs1 hs1_members hs1_scores p1 ns1_size fs1_members _ hw) F (cwV 1 F.2.2.2.2 gX3_score_X2_has rfl rfl rfl (by decide +kernel) ⟨Nat.le_of_ble_eq_true rfl, Nat.le_of_ble_eq_true rfl⟩) hK hP hD hS hA [2, 3] [0, 1, 4] rfl rfl 0 rfl rfl rfl hl.1 rfl (Nat.le_of_ble_eq_true rfl) dX3_score_26 ⟨Nat.zero_le _, Nat.zero_le _⟩ (fun r26 u H locs hw hP hD hS => ?_)
    have hP : va_P D vwCl (pc_X3_score cs h0 h0_open h0_row h0_stack h0_taken h0_kin h0_ranking hs1 hs1_members hs1_scores n0_depth b0_wentUp f0_stack ns1_size fs1_members fs1_scores) H := hP.sub [0, 1, 3, 4, 2] rfl
    have hD : va_D A (pc_X3_score cs h0 h0_open h0_row h0_stack h0_taken h0_kin h0_ranking hs1 hs1_members hs1_scores n0_depth b0_wentUp f0_stack ns1_size fs1_members fs1_scores) := hD.sub [0, 1, 3, 4, 2] (by decide) rfl
    try dsimp only at hw
    refine xi_ifeqz (tgt := 41) F dX3_score_29 (by decide) (fun hc => ?_) (fun hc => ?_)
    · have hw := hw.1 hc
      refine lv_ldc2 (v := (-9223372036854775808)) F.1 F.2.1 F.2.2.2.1 (F.2.2.2.2 (.constantLong RX3 175 (-9223372036854775808)) (by decide +kernel)) dX3_score_41 ?_
      exact (hX44 _).mp hw H locs ls hP hD hS (lv_sub hl [] rfl)
    · have hw := hw.2 hc
      refine lv_aload_n F.1 F.2.1 dX3_score_32 rfl (lv_at hl 0 rfl) ?_
      refine xi_get (C := RX2) (T := TX2) (N := 3) (v := .ref hs1_scores) F in_X3_score_X2 hK hP 2 rfl rfl 1 (by decide) fl_X3_score_177 rfl dX3_score_33 ?_
      refine lv_iload_n F.1 F.2.1 dX3_score_36 rfl (lv_at hl 2 rfl) ?_
      obtain ⟨j37, hj, he, hw⟩ := hw
      refine xi_lald (j := j37) F hK hP 4 rfl (by decide) hj he dX3_score_37 ?_
      refine lv_goto (tgt := 44) F.1 F.2.1 dX3_score_38 (by decide) ?_
      exact (hX44 _).mp hw H locs ls hP hD hS (lv_sub hl [] rfl)
  · have hw := hw.2 hc
    refine lv_ldc2 (v := (-9223372036854775808)) F.1 F.2.1 F.2.2.2.1 (F.2.2.2.2 (.constantLong RX3 175 (-9223372036854775808)) (by decide +kernel)) dX3_score_8 ?_
    exact RET (-9223372036854775808) () H locs 11 ls hw hP hD hS dX3_score_11

theorem in_X3_family_X3 : ∀ w ∈ wsX30, w ∈ wsX3_family := by decide +kernel
theorem fl_X3_family_48 : Cond.fieldLink RX3 48 "JoinBlocks" "wentUp" "Z" ∈ wsX3_family := by decide +kernel
theorem fl_X3_family_20 : Cond.fieldLink RX3 20 "JoinBlocks" "row" "LJoinBlocks$Row;" ∈ wsX3_family := by decide +kernel
theorem fl_X3_family_40 : Cond.fieldLink RX3 40 "JoinBlocks" "ranking" "LJoinBlocks$Ranking;" ∈ wsX3_family := by decide +kernel
theorem fl_X3_family_34 : Cond.fieldLink RX3 34 "JoinBlocks" "kin" "LJoinBlocks$ScoredSet;" ∈ wsX3_family := by decide +kernel
abbrev pc_X3_family (cs : Nat → ClassId) (h0 : Nat) (h0_open : Nat) (h0_row : Nat) (h0_stack : Nat) (h0_taken : Nat) (h0_kin : Nat) (h0_ranking : Nat) (h0_row_levels : Nat) (h0_row_values : Nat) (h0_row_tags : Nat) (h0_row_links : Nat) (h0_row_keys : Nat) (h0_row_living : Nat) (h0_kin_members : Nat) (h0_kin_scores : Nat) (h0_ranking_numbers : Nat) (h0_ranking_merged : Nat) (n0_depth : Int32) (b0_wentUp : Bool) (n0_row_size : Int32) (f0_row_levels : Nat → Int32) (n0_kin_size : Int32) (f0_kin_members : Nat → Bool) (f0_kin_scores : Nat → Int64) (n0_ranking_size : Int32) (f0_ranking_numbers : Nat → Int32) (f0_ranking_merged : Nat → Int32) : va_W := [(h0, .inr (3, [.ref h0_open, .ref h0_row, .ref h0_stack, .ref h0_taken, .ref h0_kin, .ref h0_ranking, .int n0_depth, .int (b2i b0_wentUp)])), (h0_row, .inr (1, [.ref h0_row_levels, .ref h0_row_values, .ref h0_row_tags, .ref h0_row_links, .ref h0_row_keys, .ref h0_row_living, .int n0_row_size])), (h0_row_levels, .inl (cs 0, 200, .inl f0_row_levels)), (h0_kin, .inr (2, [.ref h0_kin_members, .ref h0_kin_scores, .int n0_kin_size])), (h0_kin_members, .inl (cs 1, 200, .inl (bF f0_kin_members))), (h0_kin_scores, .inl (cs 2, 200, .inr (.inl f0_kin_scores))), (h0_ranking, .inr (0, [.ref h0_ranking_numbers, .ref h0_ranking_merged, .int n0_ranking_size])), (h0_ranking_numbers, .inl (cs 0, 200, .inl f0_ranking_numbers)), (h0_ranking_merged, .inl (cs 0, 200, .inl f0_ranking_merged))]
abbrev rm_X3_family : Room := { frames := 3, cells := 0, slots := 0, locals := 109 }
def call_X3_family (p1 : Int32) (p2 : Int32) (b0_wentUp : Bool) (n0_row_size : Int32) (f0_row_levels : Nat → Int32) (f0_kin_members : Nat → Bool) (f0_kin_scores : Nat → Int64) (n0_ranking_size : Int32) (f0_ranking_numbers : Nat → Int32) (f0_ranking_merged : Nat → Int32) (Q : Int32 → Int32 → (Nat → Int32) → (Nat → Int32) → Prop) : Prop := ∀ (X18 : Int32 → (Nat → Int32) → (Nat → Int32) → Prop),
    (∀ (n0_ranking_size : Int32) (f0_ranking_numbers : Nat → Int32) (f0_ranking_merged : Nat → Int32),
      Q (-1) n0_ranking_size f0_ranking_numbers f0_ranking_merged → X18 n0_ranking_size f0_ranking_numbers f0_ranking_merged) →
    ((b0_wentUp = false → X18 n0_ranking_size f0_ranking_numbers f0_ranking_merged) ∧ (b0_wentUp = true → (call_X1_holds p1 n0_row_size (fun (r12 : Bool) => ((r12 = true → (call_X1_firstBelow 200 p1 f0_row_levels (fun (r33 : Int32) => (call_X0_rank r33 p1 n0_ranking_size f0_ranking_numbers f0_ranking_merged f0_kin_members f0_kin_scores (fun (n0_ranking_size_37 : Int32) (f0_ranking_numbers_37 : Nat → Int32) (f0_ranking_merged_37 : Nat → Int32) => (call_X3_answerRanked p2 n0_ranking_size_37 f0_ranking_numbers_37 (fun (r42 : Int32) => Q r42 n0_ranking_size_37 f0_ranking_numbers_37 f0_ranking_merged_37))))))) ∧ (r12 = false → X18 n0_ranking_size f0_ranking_numbers f0_ranking_merged))))))
set_option maxHeartbeats 4000000 in
set_option maxRecDepth 100000 in
theorem m_X3_family (l : Launch) (D : va_G) (cs : Nat → ClassId) (h0 : Nat) (h0_open : Nat) (h0_row : Nat) (h0_stack : Nat) (h0_taken : Nat) (h0_kin : Nat) (h0_ranking : Nat) (h0_row_levels : Nat) (h0_row_values : Nat) (h0_row_tags : Nat) (h0_row_links : Nat) (h0_row_keys : Nat) (h0_row_living : Nat) (h0_kin_members : Nat) (h0_kin_scores : Nat) (h0_ranking_numbers : Nat) (h0_ranking_merged : Nat)  (p1 : Int32) (p2 : Int32) (n0_depth : Int32) (b0_wentUp : Bool) (n0_row_size : Int32) (f0_row_levels : Nat → Int32) (n0_kin_size : Int32) (f0_kin_members : Nat → Bool) (f0_kin_scores : Nat → Int64) (n0_ranking_size : Int32) (f0_ranking_numbers : Nat → Int32) (f0_ranking_merged : Nat → Int32) (Q : Int32 → Int32 → (Nat → Int32) → (Nat → Int32) → Prop) (h : call_X3_family p1 p2 b0_wentUp n0_row_size f0_row_levels f0_kin_members f0_kin_scores n0_ranking_size f0_ranking_numbers f0_ranking_merged Q) : CtI l yX3_family wsX3_family rm_X3_family D cs [.ref h0, .int p1, .int p2] (pc_X3_family cs h0 h0_open h0_row h0_stack h0_taken h0_kin h0_ranking h0_row_levels h0_row_values h0_row_tags h0_row_links h0_row_keys h0_row_living h0_kin_members h0_kin_scores h0_ranking_numbers h0_ranking_merged n0_depth b0_wentUp n0_row_size f0_row_levels n0_kin_size f0_kin_members f0_kin_scores n0_ranking_size f0_ranking_numbers f0_ranking_merged) (fun u : Int32 × (Nat → Int32) × (Nat → Int32) => (pc_X3_family cs h0 h0_open h0_row h0_stack h0_taken h0_kin h0_ranking h0_row_levels h0_row_values h0_row_tags h0_row_links h0_row_keys h0_row_living h0_kin_members h0_kin_scores h0_ranking_numbers h0_ranking_merged n0_depth b0_wentUp n0_row_size f0_row_levels n0_kin_size f0_kin_members f0_kin_scores u.1 u.2.1 u.2.2)) (fun r u => Q r u.1 u.2.1 u.2.2) := by
  refine xo_I (S := Int32 × (Nat → Int32) × (Nat → Int32)) (cc := cX3_family) (maxL := 3) (own := RX3) (lv0 := [(0, .ref h0), (1, .int p1), (2, .int p2)]) (by decide) rfl rfl (Nat.le_of_ble_eq_true rfl) rfl ?_
  intro p e s m args below meth c A Z ls F hK hA hP hD hS hl RET
  unfold call_X3_family at h
  obtain ⟨X18, hX18⟩ : ∃ X : Int32 → (Nat → Int32) → (Nat → Int32) → Prop, ∀ (n0_ranking_size : Int32) (f0_ranking_numbers : Nat → Int32) (f0_ranking_merged : Nat → Int32), (X n0_ranking_size f0_ranking_numbers f0_ranking_merged ↔ ∀ (H : Heap) (locs : List Loc) (ls : Array Slot), va_P D vwCl (pc_X3_family cs h0 h0_open h0_row h0_stack h0_taken h0_kin h0_ranking h0_row_levels h0_row_values h0_row_tags h0_row_links h0_row_keys h0_row_living h0_kin_members h0_kin_scores h0_ranking_numbers h0_ranking_merged n0_depth b0_wentUp n0_row_size f0_row_levels n0_kin_size f0_kin_members f0_kin_scores n0_ranking_size f0_ranking_numbers f0_ranking_merged) H → va_D A (pc_X3_family cs h0 h0_open h0_row h0_stack h0_taken h0_kin h0_ranking h0_row_levels h0_row_values h0_row_tags h0_row_links h0_row_keys h0_row_living h0_kin_members h0_kin_scores h0_ranking_numbers h0_ranking_merged n0_depth b0_wentUp n0_row_size f0_row_levels n0_kin_size f0_kin_members f0_kin_scores n0_ranking_size f0_ranking_numbers f0_ranking_merged) → va_S A s.heap H locs → lv_has ls 3 [] → W p l e rm_X3_family s m args below meth c H locs 0 0 Z (F0 m 18 ls [])) := ⟨_, fun _ _ _ => Iff.rfl⟩
  refine xt_cut (h X18 ?_) (fun hw => ?_)
  · intro n0_ranking_size f0_ranking_numbers f0_ranking_merged hw
    refine (hX18 _ _ _).mpr ?_
    intro H locs ls hP hD hS hl
    refine lv_iconst (v := (-1)) F.1 F.2.1 dX3_family_18 (by decide) ?_
    exact RET (-1) (n0_ranking_size, f0_ranking_numbers, f0_ranking_merged) H locs 19 ls hw hP hD hS dX3_family_19
  generalize ([] : List Loc) = locs at hS ⊢
  obtain ⟨H, hHe⟩ : ∃ H, H = s.heap := ⟨_, rfl⟩
  have hP : va_P D vwCl (pc_X3_family cs h0 h0_open h0_row h0_stack h0_taken h0_kin h0_ranking h0_row_levels h0_row_values h0_row_tags h0_row_links h0_row_keys h0_row_living h0_kin_members h0_kin_scores h0_ranking_numbers h0_ranking_merged n0_depth b0_wentUp n0_row_size f0_row_levels n0_kin_size f0_kin_members f0_kin_scores n0_ranking_size f0_ranking_numbers f0_ranking_merged) H := by rw [hHe]; exact hP
  have hS : va_S A s.heap H locs := by rw [hHe]; exact hS
  suffices W p l e rm_X3_family s m args below meth c H locs 0 0 Z (F0 m 0 ls []) by rw [hHe] at this; exact this
  refine lv_aload_n F.1 F.2.1 dX3_family_0 rfl (lv_at hl 0 rfl) ?_
  refine xi_get (C := RX3) (T := TX3) (N := 8) (v := .int (b2i b0_wentUp)) F in_X3_family_X3 hK hP 0 rfl rfl 7 (by decide) fl_X3_family_48 rfl dX3_family_1 ?_
  refine xi_ifeqz (tgt := 18) F dX3_family_4 (by decide) (fun hc => ?_) (fun hc => ?_)
  · have hw := hw.1 hc
    exact (hX18 _ _ _).mp hw H locs ls hP hD hS (lv_sub hl [] rfl)
  · have hw := hw.2 hc
    refine lv_aload_n F.1 F.2.1 dX3_family_7 rfl (lv_at hl 0 rfl) ?_
    refine xi_get (C := RX3) (T := TX3) (N := 8) (v := .ref h0_row) F in_X3_family_X3 hK hP 0 rfl rfl 1 (by decide) fl_X3_family_20 rfl dX3_family_8 ?_
    refine lv_iload_n F.1 F.2.1 dX3_family_11 rfl (lv_at hl 1 rfl) ?_
    refine xc_Vz (As := [.int p1]) (rest := []) (m_X1_holds l D cs h0_row h0_row_levels h0_row_values h0_row_tags h0_row_links h0_row_keys h0_row_living p1 n0_row_size _ hw) F (cwV 1 F.2.2.2.2 gX3_family_X1_holds rfl rfl rfl (by decide +kernel) ⟨Nat.le_of_ble_eq_true rfl, Nat.le_of_ble_eq_true rfl⟩) hK hP hD hS hA [1] [0, 2, 3, 4, 5, 6, 7, 8] rfl rfl 0 rfl rfl rfl hl.1 rfl (Nat.le_of_ble_eq_true rfl) dX3_family_12 ⟨Nat.zero_le _, Nat.zero_le _⟩ (fun r12 u H locs hw hP hD hS => ?_)
    have hP : va_P D vwCl (pc_X3_family cs h0 h0_open h0_row h0_stack h0_taken h0_kin h0_ranking h0_row_levels h0_row_values h0_row_tags h0_row_links h0_row_keys h0_row_living h0_kin_members h0_kin_scores h0_ranking_numbers h0_ranking_merged n0_depth b0_wentUp n0_row_size f0_row_levels n0_kin_size f0_kin_members f0_kin_scores n0_ranking_size f0_ranking_numbers f0_ranking_merged) H := hP.sub [0, 8, 1, 2, 3, 4, 5, 6, 7] rfl
    have hD : va_D A (pc_X3_family cs h0 h0_open h0_row h0_stack h0_taken h0_kin h0_ranking h0_row_levels h0_row_values h0_row_tags h0_row_links h0_row_keys h0_row_living h0_kin_members h0_kin_scores h0_ranking_numbers h0_ranking_merged n0_depth b0_wentUp n0_row_size f0_row_levels n0_kin_size f0_kin_members f0_kin_scores n0_ranking_size f0_ranking_numbers f0_ranking_merged) := hD.sub [0, 8, 1, 2, 3, 4, 5, 6, 7] (by decide) rfl
    try dsimp only at hw
    refine xi_ifnez (tgt := 20) F dX3_family_15 (by decide) (fun hc => ?_) (fun hc => ?_)
    · have hw := hw.1 hc
      refine lv_aload_n F.1 F.2.1 dX3_family_20 rfl (lv_at hl 0 rfl) ?_
      refine xi_get (C := RX3) (T := TX3) (N := 8) (v := .ref h0_ranking) F in_X3_family_X3 hK hP 0 rfl rfl 5 (by decide) fl_X3_family_40 rfl dX3_family_21 ?_
      refine lv_aload_n F.1 F.2.1 dX3_family_24 rfl (lv_at hl 0 rfl) ?_
      refine xi_get (C := RX3) (T := TX3) (N := 8) (v := .ref h0_kin) F in_X3_family_X3 hK hP 0 rfl rfl 4 (by decide) fl_X3_family_34 rfl dX3_family_25 ?_
      refine lv_aload_n F.1 F.2.1 dX3_family_28 rfl (lv_at hl 0 rfl) ?_
      refine xi_get (C := RX3) (T := TX3) (N := 8) (v := .ref h0_row) F in_X3_family_X3 hK hP 0 rfl rfl 1 (by decide) fl_X3_family_20 rfl dX3_family_29 ?_
      refine lv_iload_n F.1 F.2.1 dX3_family_32 rfl (lv_at hl 1 rfl) ?_
      refine xc_Vi (As := [.int p1]) (rest := [.ref h0_kin, .ref h0_ranking]) (m_X1_firstBelow l D cs h0_row h0_row_levels h0_row_values h0_row_tags h0_row_links h0_row_keys h0_row_living 200 (by decide) p1 n0_row_size f0_row_levels _ hw) F (cwV 1 F.2.2.2.2 gX3_family_X1_firstBelow rfl rfl rfl (by decide +kernel) ⟨Nat.le_of_ble_eq_true rfl, Nat.le_of_ble_eq_true rfl⟩) hK hP hD hS hA [1, 2] [0, 3, 4, 5, 6, 7, 8] rfl rfl 0 rfl rfl rfl hl.1 rfl (Nat.le_of_ble_eq_true rfl) dX3_family_33 ⟨Nat.zero_le _, Nat.zero_le _⟩ (fun r33 u H locs hw hP hD hS => ?_)
      have hP : va_P D vwCl (pc_X3_family cs h0 h0_open h0_row h0_stack h0_taken h0_kin h0_ranking h0_row_levels h0_row_values h0_row_tags h0_row_links h0_row_keys h0_row_living h0_kin_members h0_kin_scores h0_ranking_numbers h0_ranking_merged n0_depth b0_wentUp n0_row_size f0_row_levels n0_kin_size f0_kin_members f0_kin_scores n0_ranking_size f0_ranking_numbers f0_ranking_merged) H := hP.sub [0, 7, 8, 1, 2, 3, 4, 5, 6] rfl
      have hD : va_D A (pc_X3_family cs h0 h0_open h0_row h0_stack h0_taken h0_kin h0_ranking h0_row_levels h0_row_values h0_row_tags h0_row_links h0_row_keys h0_row_living h0_kin_members h0_kin_scores h0_ranking_numbers h0_ranking_merged n0_depth b0_wentUp n0_row_size f0_row_levels n0_kin_size f0_kin_members f0_kin_scores n0_ranking_size f0_ranking_numbers f0_ranking_merged) := hD.sub [0, 7, 8, 1, 2, 3, 4, 5, 6] (by decide) rfl
      try dsimp only at hw
      refine lv_iload_n F.1 F.2.1 dX3_family_36 rfl (lv_at hl 1 rfl) ?_
      refine xc_Vv (As := [.ref h0_kin, .int r33, .int p1]) (rest := []) (m_X0_rank l D cs h0_ranking h0_ranking_numbers h0_ranking_merged h0_kin h0_kin_members h0_kin_scores r33 p1 n0_ranking_size f0_ranking_numbers f0_ranking_merged n0_kin_size f0_kin_members f0_kin_scores _ hw) F (cwV 3 F.2.2.2.2 gX3_family_X0_rank rfl rfl rfl (by decide +kernel) ⟨Nat.le_of_ble_eq_true rfl, Nat.le_of_ble_eq_true rfl⟩) hK hP hD hS hA [6, 7, 8, 3, 4, 5] [0, 1, 2] rfl rfl 0 rfl rfl rfl hl.1 rfl (Nat.le_of_ble_eq_true rfl) dX3_family_37 ⟨Nat.zero_le _, Nat.zero_le _⟩ (fun u H locs hw hP hD hS => ?_)
      obtain ⟨n0_ranking_size_37, f0_ranking_numbers_37, f0_ranking_merged_37⟩ := u
      have hP : va_P D vwCl (pc_X3_family cs h0 h0_open h0_row h0_stack h0_taken h0_kin h0_ranking h0_row_levels h0_row_values h0_row_tags h0_row_links h0_row_keys h0_row_living h0_kin_members h0_kin_scores h0_ranking_numbers h0_ranking_merged n0_depth b0_wentUp n0_row_size f0_row_levels n0_kin_size f0_kin_members f0_kin_scores n0_ranking_size_37 f0_ranking_numbers_37 f0_ranking_merged_37) H := hP.sub [0, 1, 2, 6, 7, 8, 3, 4, 5] rfl
      have hD : va_D A (pc_X3_family cs h0 h0_open h0_row h0_stack h0_taken h0_kin h0_ranking h0_row_levels h0_row_values h0_row_tags h0_row_links h0_row_keys h0_row_living h0_kin_members h0_kin_scores h0_ranking_numbers h0_ranking_merged n0_depth b0_wentUp n0_row_size f0_row_levels n0_kin_size f0_kin_members f0_kin_scores n0_ranking_size_37 f0_ranking_numbers_37 f0_ranking_merged_37) := hD.sub [0, 1, 2, 6, 7, 8, 3, 4, 5] (by decide) rfl
      try dsimp only at hw
      refine lv_aload_n F.1 F.2.1 dX3_family_40 rfl (lv_at hl 0 rfl) ?_
      refine lv_iload_n F.1 F.2.1 dX3_family_41 rfl (lv_at hl 2 rfl) ?_
      refine xc_Vi (As := [.int p2]) (rest := []) (m_X3_answerRanked l D cs h0 h0_open h0_row h0_stack h0_taken h0_kin h0_ranking h0_ranking_numbers h0_ranking_merged p2 n0_depth b0_wentUp n0_ranking_size_37 f0_ranking_numbers_37 _ hw) F (cwV 1 F.2.2.2.2 gX3_family_X3_answerRanked rfl rfl rfl (by decide +kernel) ⟨Nat.le_of_ble_eq_true rfl, Nat.le_of_ble_eq_true rfl⟩) hK hP hD hS hA [0, 6, 7] [1, 2, 3, 4, 5, 8] rfl rfl 0 rfl rfl rfl hl.1 rfl (Nat.le_of_ble_eq_true rfl) dX3_family_42 ⟨Nat.zero_le _, Nat.zero_le _⟩ (fun r42 u H locs hw hP hD hS => ?_)
      have hP : va_P D vwCl (pc_X3_family cs h0 h0_open h0_row h0_stack h0_taken h0_kin h0_ranking h0_row_levels h0_row_values h0_row_tags h0_row_links h0_row_keys h0_row_living h0_kin_members h0_kin_scores h0_ranking_numbers h0_ranking_merged n0_depth b0_wentUp n0_row_size f0_row_levels n0_kin_size f0_kin_members f0_kin_scores n0_ranking_size_37 f0_ranking_numbers_37 f0_ranking_merged_37) H := hP.sub [6, 0, 1, 2, 3, 4, 7, 8, 5] rfl
      have hD : va_D A (pc_X3_family cs h0 h0_open h0_row h0_stack h0_taken h0_kin h0_ranking h0_row_levels h0_row_values h0_row_tags h0_row_links h0_row_keys h0_row_living h0_kin_members h0_kin_scores h0_ranking_numbers h0_ranking_merged n0_depth b0_wentUp n0_row_size f0_row_levels n0_kin_size f0_kin_members f0_kin_scores n0_ranking_size_37 f0_ranking_numbers_37 f0_ranking_merged_37) := hD.sub [6, 0, 1, 2, 3, 4, 7, 8, 5] (by decide) rfl
      try dsimp only at hw
      exact RET r42 (n0_ranking_size_37, f0_ranking_numbers_37, f0_ranking_merged_37) H locs 45 ls hw hP hD hS dX3_family_45
    · have hw := hw.2 hc
      exact (hX18 _ _ _).mp hw H locs ls hP hD hS (lv_sub hl [] rfl)
