theorem in_X4_thrown_X4 : ∀ w ∈ wsX40, w ∈ wsX4_thrown := by decide +kernel
theorem fl_X4_thrown_45 : Cond.fieldLink RX4 45 "JoinBlocksModel" "thrown" "I" ∈ wsX4_thrown := by decide +kernel
abbrev pc_X4_thrown (cs : Nat → ClassId) (h0 : Nat) (h0_level : Nat) (h0_value : Nat) (h0_tags : Nat) (h0_link : Nat) (h0_key : Nat) (h0_lives : Nat) (h0_open : Nat) (h0_in : Nat) (h0_scores : Nat) (h0_was : Nat) (h0_had : Nat) (n0_thrown : Int32) (n0_objects : Int32) (n0_opened : Int32) (n0_sets : Int32) (b0_hasFamily : Bool) : va_W := [(h0, .inr (4, [.int n0_thrown, .int n0_objects, .ref h0_level, .ref h0_value, .ref h0_tags, .ref h0_link, .ref h0_key, .ref h0_lives, .int n0_opened, .ref h0_open, .int n0_sets, .ref h0_in, .ref h0_scores, .int (b2i b0_hasFamily), .ref h0_was, .ref h0_had]))]
abbrev rm_X4_thrown : Room := { frames := 0, cells := 0, slots := 0, locals := 0 }
def call_X4_thrown (n0_thrown : Int32) (Q : Int32 → Prop) : Prop :=
    Q n0_thrown
set_option maxHeartbeats 4000000 in
set_option maxRecDepth 100000 in
theorem m_X4_thrown (l : Launch) (D : va_G) (cs : Nat → ClassId) (h0 : Nat) (h0_level : Nat) (h0_value : Nat) (h0_tags : Nat) (h0_link : Nat) (h0_key : Nat) (h0_lives : Nat) (h0_open : Nat) (h0_in : Nat) (h0_scores : Nat) (h0_was : Nat) (h0_had : Nat)  (n0_thrown : Int32) (n0_objects : Int32) (n0_opened : Int32) (n0_sets : Int32) (b0_hasFamily : Bool) (Q : Int32 → Prop) (h : call_X4_thrown n0_thrown Q) : CtI l yX4_thrown wsX4_thrown rm_X4_thrown D cs [.ref h0] (pc_X4_thrown cs h0 h0_level h0_value h0_tags h0_link h0_key h0_lives h0_open h0_in h0_scores h0_was h0_had n0_thrown n0_objects n0_opened n0_sets b0_hasFamily) (fun u : Unit => (pc_X4_thrown cs h0 h0_level h0_value h0_tags h0_link h0_key h0_lives h0_open h0_in h0_scores h0_was h0_had n0_thrown n0_objects n0_opened n0_sets b0_hasFamily)) (fun r u => Q r ) := by
  refine xo_I (S := Unit) (cc := cX4_thrown) (maxL := 1) (own := RX4) (lv0 := [(0, .ref h0)]) (by decide) rfl rfl (Nat.le_of_ble_eq_true rfl) rfl ?_
  intro p e s m args below meth c A Z ls F hK hA hP hD hS hl RET
  have hw := h
  unfold call_X4_thrown at hw
  generalize ([] : List Loc) = locs at hS ⊢
  obtain ⟨H, hHe⟩ : ∃ H, H = s.heap := ⟨_, rfl⟩
  have hP : va_P D vwCl (pc_X4_thrown cs h0 h0_level h0_value h0_tags h0_link h0_key h0_lives h0_open h0_in h0_scores h0_was h0_had n0_thrown n0_objects n0_opened n0_sets b0_hasFamily) H := by rw [hHe]; exact hP
  have hS : va_S A s.heap H locs := by rw [hHe]; exact hS
  suffices W p l e rm_X4_thrown s m args below meth c H locs 0 0 Z (F0 m 0 ls []) by rw [hHe] at this; exact this
  refine lv_aload_n F.1 F.2.1 dX4_thrown_0 rfl (lv_at hl 0 rfl) ?_
  refine xi_get (C := RX4) (T := TX4) (N := 16) (v := .int n0_thrown) F in_X4_thrown_X4 hK hP 0 rfl rfl 0 (by decide) fl_X4_thrown_45 rfl dX4_thrown_1 ?_
  exact RET n0_thrown () H locs 4 ls hw hP hD hS dX4_thrown_4

abbrev pc_X4_isIn (cs : Nat → ClassId)  : va_W := []
abbrev rm_X4_isIn : Room := { frames := 0, cells := 0, slots := 0, locals := 0 }
def call_X4_isIn (p0 : Int32) (p1 : Int32) (p2 : Int32) (Q : Bool → Prop) : Prop := ∀ (X14 : Prop) (X15 : Bool → Prop),
    (X15 false → X14) →
    (∀ (s0 : Bool),
      Q s0 → X15 s0) →
    ((p0 < p1 → X14) ∧ (¬ p0 < p1 → ((p2 < p0 → X14) ∧ (¬ p2 < p0 → X15 true))))
set_option maxHeartbeats 4000000 in
set_option maxRecDepth 100000 in
theorem m_X4_isIn (l : Launch) (D : va_G) (cs : Nat → ClassId)  (p0 : Int32) (p1 : Int32) (p2 : Int32) (Q : Bool → Prop) (h : call_X4_isIn p0 p1 p2 Q) : CtZ l yX4_isIn wsX4_isIn rm_X4_isIn D cs [.int p0, .int p1, .int p2] (pc_X4_isIn cs ) (fun u : Unit => (pc_X4_isIn cs )) (fun r u => Q r ) := by
  refine xo_Z (S := Unit) (cc := cX4_isIn) (maxL := 3) (own := RX4) (lv0 := [(0, .int p0), (1, .int p1), (2, .int p2)]) (by decide) rfl rfl (Nat.le_of_ble_eq_true rfl) rfl ?_
  intro p e s m args below meth c A Z ls F hK hA hP hD hS hl RET
  unfold call_X4_isIn at h
  obtain ⟨X14, hX14⟩ : ∃ X : Prop, (X  ↔ ∀ (H : Heap) (locs : List Loc) (ls : Array Slot), va_P D vwCl (pc_X4_isIn cs ) H → va_D A (pc_X4_isIn cs ) → va_S A s.heap H locs → lv_has ls 3 [] → W p l e rm_X4_isIn s m args below meth c H locs 0 0 Z (F0 m 14 ls [])) := ⟨_, Iff.rfl⟩
  obtain ⟨X15, hX15⟩ : ∃ X : Bool → Prop, ∀ (s0 : Bool), (X s0 ↔ ∀ (H : Heap) (locs : List Loc) (ls : Array Slot), va_P D vwCl (pc_X4_isIn cs ) H → va_D A (pc_X4_isIn cs ) → va_S A s.heap H locs → lv_has ls 3 [] → W p l e rm_X4_isIn s m args below meth c H locs 0 0 Z (F0 m 15 ls [.int (b2i s0)])) := ⟨_, fun _ => Iff.rfl⟩
  refine xt_cut (h X14 X15 ?_ ?_) (fun hw => ?_)
  · intro  hw
    refine (hX14).mpr ?_
    intro H locs ls hP hD hS hl
    refine lv_iconst (v := 0) F.1 F.2.1 dX4_isIn_14 (by decide) ?_
    exact (hX15 _).mp hw H locs ls hP hD hS (lv_sub hl [] rfl)
  · intro s0 hw
    refine (hX15 _).mpr ?_
    intro H locs ls hP hD hS hl
    exact RET s0 () H locs 15 ls _ rfl hw hP hD hS dX4_isIn_15
  generalize ([] : List Loc) = locs at hS ⊢
  obtain ⟨H, hHe⟩ : ∃ H, H = s.heap := ⟨_, rfl⟩
  have hP : va_P D vwCl (pc_X4_isIn cs ) H := by rw [hHe]; exact hP
  have hS : va_S A s.heap H locs := by rw [hHe]; exact hS
  suffices W p l e rm_X4_isIn s m args below meth c H locs 0 0 Z (F0 m 0 ls []) by rw [hHe] at this; exact this
  refine lv_iload_n F.1 F.2.1 dX4_isIn_0 rfl (lv_at hl 0 rfl) ?_
  refine lv_iload_n F.1 F.2.1 dX4_isIn_1 rfl (lv_at hl 1 rfl) ?_
  refine lv_icmp_lt (tgt := 14) F.1 F.2.1 dX4_isIn_2 (by decide) (fun hc => ?_) (fun hc => ?_)
  · have hw := hw.1 hc
    exact (hX14).mp hw H locs ls hP hD hS (lv_sub hl [] rfl)
  · have hw := hw.2 hc
    refine lv_iload_n F.1 F.2.1 dX4_isIn_5 rfl (lv_at hl 0 rfl) ?_
    refine lv_iload_n F.1 F.2.1 dX4_isIn_6 rfl (lv_at hl 2 rfl) ?_
    refine lv_icmp_gt (tgt := 14) F.1 F.2.1 dX4_isIn_7 (by decide) (fun hc => ?_) (fun hc => ?_)
    · have hw := hw.1 hc
      exact (hX14).mp hw H locs ls hP hD hS (lv_sub hl [] rfl)
    · have hw := hw.2 hc
      refine lv_iconst (v := 1) F.1 F.2.1 dX4_isIn_10 (by decide) ?_
      refine lv_goto (tgt := 15) F.1 F.2.1 dX4_isIn_11 (by decide) ?_
      exact (hX15 _).mp hw H locs ls hP hD hS (lv_sub hl [] rfl)

theorem in_X4_isObject_X4 : ∀ w ∈ wsX40, w ∈ wsX4_isObject := by decide +kernel
theorem fl_X4_isObject_49 : Cond.fieldLink RX4 49 "JoinBlocksModel" "objects" "I" ∈ wsX4_isObject := by decide +kernel
abbrev pc_X4_isObject (cs : Nat → ClassId) (h0 : Nat) (h0_level : Nat) (h0_value : Nat) (h0_tags : Nat) (h0_link : Nat) (h0_key : Nat) (h0_lives : Nat) (h0_open : Nat) (h0_in : Nat) (h0_scores : Nat) (h0_was : Nat) (h0_had : Nat) (n0_thrown : Int32) (n0_objects : Int32) (n0_opened : Int32) (n0_sets : Int32) (b0_hasFamily : Bool) : va_W := [(h0, .inr (4, [.int n0_thrown, .int n0_objects, .ref h0_level, .ref h0_value, .ref h0_tags, .ref h0_link, .ref h0_key, .ref h0_lives, .int n0_opened, .ref h0_open, .int n0_sets, .ref h0_in, .ref h0_scores, .int (b2i b0_hasFamily), .ref h0_was, .ref h0_had]))]
abbrev rm_X4_isObject : Room := { frames := 1, cells := 0, slots := 0, locals := 22 }
def call_X4_isObject (p1 : Int32) (n0_objects : Int32) (Q : Bool → Prop) : Prop :=
    (call_X4_isIn p1 0 (n0_objects - 1) (fun (r8 : Bool) => Q r8))
set_option maxHeartbeats 4000000 in
set_option maxRecDepth 100000 in
theorem m_X4_isObject (l : Launch) (D : va_G) (cs : Nat → ClassId) (h0 : Nat) (h0_level : Nat) (h0_value : Nat) (h0_tags : Nat) (h0_link : Nat) (h0_key : Nat) (h0_lives : Nat) (h0_open : Nat) (h0_in : Nat) (h0_scores : Nat) (h0_was : Nat) (h0_had : Nat)  (p1 : Int32) (n0_thrown : Int32) (n0_objects : Int32) (n0_opened : Int32) (n0_sets : Int32) (b0_hasFamily : Bool) (Q : Bool → Prop) (h : call_X4_isObject p1 n0_objects Q) : CtZ l yX4_isObject wsX4_isObject rm_X4_isObject D cs [.ref h0, .int p1] (pc_X4_isObject cs h0 h0_level h0_value h0_tags h0_link h0_key h0_lives h0_open h0_in h0_scores h0_was h0_had n0_thrown n0_objects n0_opened n0_sets b0_hasFamily) (fun u : Unit => (pc_X4_isObject cs h0 h0_level h0_value h0_tags h0_link h0_key h0_lives h0_open h0_in h0_scores h0_was h0_had n0_thrown n0_objects n0_opened n0_sets b0_hasFamily)) (fun r u => Q r ) := by
  refine xo_Z (S := Unit) (cc := cX4_isObject) (maxL := 2) (own := RX4) (lv0 := [(0, .ref h0), (1, .int p1)]) (by decide) rfl rfl (Nat.le_of_ble_eq_true rfl) rfl ?_
  intro p e s m args below meth c A Z ls F hK hA hP hD hS hl RET
  have hw := h
  unfold call_X4_isObject at hw
  generalize ([] : List Loc) = locs at hS ⊢
  obtain ⟨H, hHe⟩ : ∃ H, H = s.heap := ⟨_, rfl⟩
  have hP : va_P D vwCl (pc_X4_isObject cs h0 h0_level h0_value h0_tags h0_link h0_key h0_lives h0_open h0_in h0_scores h0_was h0_had n0_thrown n0_objects n0_opened n0_sets b0_hasFamily) H := by rw [hHe]; exact hP
  have hS : va_S A s.heap H locs := by rw [hHe]; exact hS
  suffices W p l e rm_X4_isObject s m args below meth c H locs 0 0 Z (F0 m 0 ls []) by rw [hHe] at this; exact this
  refine lv_iload_n F.1 F.2.1 dX4_isObject_0 rfl (lv_at hl 1 rfl) ?_
  refine lv_iconst (v := 0) F.1 F.2.1 dX4_isObject_1 (by decide) ?_
  refine lv_aload_n F.1 F.2.1 dX4_isObject_2 rfl (lv_at hl 0 rfl) ?_
  refine xi_get (C := RX4) (T := TX4) (N := 16) (v := .int n0_objects) F in_X4_isObject_X4 hK hP 0 rfl rfl 1 (by decide) fl_X4_isObject_49 rfl dX4_isObject_3 ?_
  refine lv_iconst (v := 1) F.1 F.2.1 dX4_isObject_6 (by decide) ?_
  refine lv_isub F.1 F.2.1 dX4_isObject_7 ?_
  refine xc_Sz (As := [.int p1, .int 0, .int (n0_objects - 1)]) (rest := []) (m_X4_isIn l D cs p1 0 (n0_objects - 1) _ hw) F (va_cwS 3 F.2.2.2.2 gX4_isObject_X4_isIn rfl rfl rfl (by decide +kernel) ⟨Nat.le_of_ble_eq_true rfl, Nat.le_of_ble_eq_true rfl⟩) hK hP hD hS hA [] [0] rfl rfl rfl hl.1 rfl (Nat.le_of_ble_eq_true rfl) dX4_isObject_8 ⟨Nat.zero_le _, Nat.zero_le _⟩ (fun r8 u H locs hw hP hD hS => ?_)
  have hP : va_P D vwCl (pc_X4_isObject cs h0 h0_level h0_value h0_tags h0_link h0_key h0_lives h0_open h0_in h0_scores h0_was h0_had n0_thrown n0_objects n0_opened n0_sets b0_hasFamily) H := hP.sub [0] rfl
  have hD : va_D A (pc_X4_isObject cs h0 h0_level h0_value h0_tags h0_link h0_key h0_lives h0_open h0_in h0_scores h0_was h0_had n0_thrown n0_objects n0_opened n0_sets b0_hasFamily) := hD.sub [0] (by decide) rfl
  try dsimp only at hw
  exact RET r8 () H locs 11 ls _ rfl hw hP hD hS dX4_isObject_11

theorem in_X4_child_X4 : ∀ w ∈ wsX40, w ∈ wsX4_child := by decide +kernel
theorem fl_X4_child_45 : Cond.fieldLink RX4 45 "JoinBlocksModel" "thrown" "I" ∈ wsX4_child := by decide +kernel
theorem fl_X4_child_56 : Cond.fieldLink RX4 56 "JoinBlocksModel" "opened" "I" ∈ wsX4_child := by decide +kernel
theorem fl_X4_child_29 : Cond.fieldLink RX4 29 "JoinBlocksModel" "open" "[I" ∈ wsX4_child := by decide +kernel
abbrev pc_X4_child (cs : Nat → ClassId) (h0 : Nat) (h0_level : Nat) (h0_value : Nat) (h0_tags : Nat) (h0_link : Nat) (h0_key : Nat) (h0_lives : Nat) (h0_open : Nat) (h0_in : Nat) (h0_scores : Nat) (h0_was : Nat) (h0_had : Nat) (n0_thrown : Int32) (n0_objects : Int32) (n0_opened : Int32) (n0_sets : Int32) (b0_hasFamily : Bool) (f0_open : Nat → Int32) : va_W := [(h0, .inr (4, [.int n0_thrown, .int n0_objects, .ref h0_level, .ref h0_value, .ref h0_tags, .ref h0_link, .ref h0_key, .ref h0_lives, .int n0_opened, .ref h0_open, .int n0_sets, .ref h0_in, .ref h0_scores, .int (b2i b0_hasFamily), .ref h0_was, .ref h0_had])), (h0_open, .inl (cs 0, 240, .inl f0_open))]
abbrev rm_X4_child : Room := { frames := 1, cells := 0, slots := 0, locals := 22 }
def call_X4_child (p1 : Int32) (p2 : Int32) (p3 : Int32) (p4 : Int32) (n0_thrown : Int32) (n0_opened : Int32) (f0_open : Nat → Int32) (Q : Int32 → Int32 → Int32 → (Nat → Int32) → Prop) : Prop := ∀ (X50 : Int32 → Int32 → (Nat → Int32) → Prop),
    (∀ (n0_thrown : Int32) (n0_opened : Int32) (f0_open : Nat → Int32),
      Q (-2) n0_thrown n0_opened f0_open → X50 n0_thrown n0_opened f0_open) →
    (call_X4_isIn p1 0 1 (fun (r8 : Bool) => ((r8 = false → X50 0 n0_opened f0_open) ∧ (r8 = true → (call_X4_isIn p2 (-1000) 1000 (fun (r21 : Bool) => ((r21 = false → X50 0 n0_opened f0_open) ∧ (r21 = true → (call_X4_isIn p3 0 255 (fun (r32 : Bool) => ((r32 = false → X50 0 n0_opened f0_open) ∧ (r32 = true → (call_X4_isIn p4 (-1) 999 (fun (r44 : Bool) => ((r44 = true → ((¬ n0_opened = 60 → (∃ j76 : Nat, j76 < 240 ∧ (4 * n0_opened) = nI j76 ∧ (∃ j90 : Nat, j90 < 240 ∧ ((4 * n0_opened) + 1) = nI j90 ∧ (∃ j104 : Nat, j104 < 240 ∧ ((4 * n0_opened) + 2) = nI j104 ∧ (∃ j119 : Nat, j119 < 240 ∧ ((4 * n0_opened) + 3) = nI j119 ∧ Q (n0_opened + 1) 0 (n0_opened + 1) (va_up (va_up (va_up (va_up f0_open j76 p1) j90 p2) j104 p3) j119 p4)))))) ∧ (n0_opened = 60 → Q (-4) 0 n0_opened f0_open))) ∧ (r44 = false → X50 0 n0_opened f0_open))))))))))))))))
set_option maxHeartbeats 4000000 in
set_option maxRecDepth 100000 in
theorem m_X4_child (l : Launch) (D : va_G) (cs : Nat → ClassId) (h0 : Nat) (h0_level : Nat) (h0_value : Nat) (h0_tags : Nat) (h0_link : Nat) (h0_key : Nat) (h0_lives : Nat) (h0_open : Nat) (h0_in : Nat) (h0_scores : Nat) (h0_was : Nat) (h0_had : Nat)  (p1 : Int32) (p2 : Int32) (p3 : Int32) (p4 : Int32) (n0_thrown : Int32) (n0_objects : Int32) (n0_opened : Int32) (n0_sets : Int32) (b0_hasFamily : Bool) (f0_open : Nat → Int32) (Q : Int32 → Int32 → Int32 → (Nat → Int32) → Prop) (h : call_X4_child p1 p2 p3 p4 n0_thrown n0_opened f0_open Q) : CtI l yX4_child wsX4_child rm_X4_child D cs [.ref h0, .int p1, .int p2, .int p3, .int p4] (pc_X4_child cs h0 h0_level h0_value h0_tags h0_link h0_key h0_lives h0_open h0_in h0_scores h0_was h0_had n0_thrown n0_objects n0_opened n0_sets b0_hasFamily f0_open) (fun u : Int32 × Int32 × (Nat → Int32) => (pc_X4_child cs h0 h0_level h0_value h0_tags h0_link h0_key h0_lives h0_open h0_in h0_scores h0_was h0_had u.1 n0_objects u.2.1 n0_sets b0_hasFamily u.2.2)) (fun r u => Q r u.1 u.2.1 u.2.2) := by
  refine xo_I (S := Int32 × Int32 × (Nat → Int32)) (cc := cX4_child) (maxL := 5) (own := RX4) (lv0 := [(0, .ref h0), (1, .int p1), (2, .int p2), (3, .int p3), (4, .int p4)]) (by decide) rfl rfl (Nat.le_of_ble_eq_true rfl) rfl ?_
  intro p e s m args below meth c A Z ls F hK hA hP hD hS hl RET
  unfold call_X4_child at h
  obtain ⟨X50, hX50⟩ : ∃ X : Int32 → Int32 → (Nat → Int32) → Prop, ∀ (n0_thrown : Int32) (n0_opened : Int32) (f0_open : Nat → Int32), (X n0_thrown n0_opened f0_open ↔ ∀ (H : Heap) (locs : List Loc) (ls : Array Slot), va_P D vwCl (pc_X4_child cs h0 h0_level h0_value h0_tags h0_link h0_key h0_lives h0_open h0_in h0_scores h0_was h0_had n0_thrown n0_objects n0_opened n0_sets b0_hasFamily f0_open) H → va_D A (pc_X4_child cs h0 h0_level h0_value h0_tags h0_link h0_key h0_lives h0_open h0_in h0_scores h0_was h0_had n0_thrown n0_objects n0_opened n0_sets b0_hasFamily f0_open) → va_S A s.heap H locs → lv_has ls 5 [] → W p l e rm_X4_child s m args below meth c H locs 0 0 Z (F0 m 50 ls [])) := ⟨_, fun _ _ _ => Iff.rfl⟩
  refine xt_cut (h X50 ?_) (fun hw => ?_)
  · intro n0_thrown n0_opened f0_open hw
    refine (hX50 _ _ _).mpr ?_
    intro H locs ls hP hD hS hl
    refine lv_bipush (v := (-2)) F.1 F.2.1 dX4_child_50 (by decide) ?_
    exact RET (-2) (n0_thrown, n0_opened, f0_open) H locs 52 ls hw hP hD hS dX4_child_52
  generalize ([] : List Loc) = locs at hS ⊢
  obtain ⟨H, hHe⟩ : ∃ H, H = s.heap := ⟨_, rfl⟩
  have hP : va_P D vwCl (pc_X4_child cs h0 h0_level h0_value h0_tags h0_link h0_key h0_lives h0_open h0_in h0_scores h0_was h0_had n0_thrown n0_objects n0_opened n0_sets b0_hasFamily f0_open) H := by rw [hHe]; exact hP
  have hS : va_S A s.heap H locs := by rw [hHe]; exact hS
  suffices W p l e rm_X4_child s m args below meth c H locs 0 0 Z (F0 m 0 ls []) by rw [hHe] at this; exact this
  refine lv_aload_n F.1 F.2.1 dX4_child_0 rfl (lv_at hl 0 rfl) ?_
  refine lv_iconst (v := 0) F.1 F.2.1 dX4_child_1 (by decide) ?_
  refine xi_put (C := RX4) (T := TX4) (N := 16) (v := .int 0) (ty := .int) F in_X4_child_X4 tyX4 tyX4_ok nmX4 hK hP hD hS 0 rfl rfl 0 (by decide) fl_X4_child_45 rfl (tyX4_ok 0 (by decide)) rfl rfl (Nat.le_of_ble_eq_true rfl) dX4_child_2 (fun H locs hP hD hS => ?_)
  have hP : va_P D vwCl (pc_X4_child cs h0 h0_level h0_value h0_tags h0_link h0_key h0_lives h0_open h0_in h0_scores h0_was h0_had 0 n0_objects n0_opened n0_sets b0_hasFamily f0_open) H := hP
  have hD : va_D A (pc_X4_child cs h0 h0_level h0_value h0_tags h0_link h0_key h0_lives h0_open h0_in h0_scores h0_was h0_had 0 n0_objects n0_opened n0_sets b0_hasFamily f0_open) := hD
  refine lv_iload_n F.1 F.2.1 dX4_child_5 rfl (lv_at hl 1 rfl) ?_
  refine lv_iconst (v := 0) F.1 F.2.1 dX4_child_6 (by decide) ?_
  refine lv_iconst (v := 1) F.1 F.2.1 dX4_child_7 (by decide) ?_
  refine xc_Sz (As := [.int p1, .int 0, .int 1]) (rest := []) (m_X4_isIn l D cs p1 0 1 _ hw) F (va_cwS 3 F.2.2.2.2 gX4_child_X4_isIn rfl rfl rfl (by decide +kernel) ⟨Nat.le_of_ble_eq_true rfl, Nat.le_of_ble_eq_true rfl⟩) hK hP hD hS hA [] [0, 1] rfl rfl rfl hl.1 rfl (Nat.le_of_ble_eq_true rfl) dX4_child_8 ⟨Nat.zero_le _, Nat.zero_le _⟩ (fun r8 u H locs hw hP hD hS => ?_)
  have hP : va_P D vwCl (pc_X4_child cs h0 h0_level h0_value h0_tags h0_link h0_key h0_lives h0_open h0_in h0_scores h0_was h0_had 0 n0_objects n0_opened n0_sets b0_hasFamily f0_open) H := hP.sub [0, 1] rfl
  have hD : va_D A (pc_X4_child cs h0 h0_level h0_value h0_tags h0_link h0_key h0_lives h0_open h0_in h0_scores h0_was h0_had 0 n0_objects n0_opened n0_sets b0_hasFamily f0_open) := hD.sub [0, 1] (by decide) rfl
  try dsimp only at hw
  refine xi_ifeqz (tgt := 50) F dX4_child_11 (by decide) (fun hc => ?_) (fun hc => ?_)
  · have hw := hw.1 hc
    exact (hX50 _ _ _).mp hw H locs ls hP hD hS (lv_sub hl [] rfl)
  · have hw := hw.2 hc
    refine lv_iload_n F.1 F.2.1 dX4_child_14 rfl (lv_at hl 2 rfl) ?_
    refine lv_sipush (v := (-1000)) F.1 F.2.1 dX4_child_15 (by decide) ?_
    refine lv_sipush (v := 1000) F.1 F.2.1 dX4_child_18 (by decide) ?_
    refine xc_Sz (As := [.int p2, .int (-1000), .int 1000]) (rest := []) (m_X4_isIn l D cs p2 (-1000) 1000 _ hw) F (va_cwS 3 F.2.2.2.2 gX4_child_X4_isIn rfl rfl rfl (by decide +kernel) ⟨Nat.le_of_ble_eq_true rfl, Nat.le_of_ble_eq_true rfl⟩) hK hP hD hS hA [] [0, 1] rfl rfl rfl hl.1 rfl (Nat.le_of_ble_eq_true rfl) dX4_child_21 ⟨Nat.zero_le _, Nat.zero_le _⟩ (fun r21 u H locs hw hP hD hS => ?_)
    have hP : va_P D vwCl (pc_X4_child cs h0 h0_level h0_value h0_tags h0_link h0_key h0_lives h0_open h0_in h0_scores h0_was h0_had 0 n0_objects n0_opened n0_sets b0_hasFamily f0_open) H := hP.sub [0, 1] rfl
    have hD : va_D A (pc_X4_child cs h0 h0_level h0_value h0_tags h0_link h0_key h0_lives h0_open h0_in h0_scores h0_was h0_had 0 n0_objects n0_opened n0_sets b0_hasFamily f0_open) := hD.sub [0, 1] (by decide) rfl
    try dsimp only at hw
    refine xi_ifeqz (tgt := 50) F dX4_child_24 (by decide) (fun hc => ?_) (fun hc => ?_)
    · have hw := hw.1 hc
      exact (hX50 _ _ _).mp hw H locs ls hP hD hS (lv_sub hl [] rfl)
    · have hw := hw.2 hc
      refine lv_iload_n F.1 F.2.1 dX4_child_27 rfl (lv_at hl 3 rfl) ?_
      refine lv_iconst (v := 0) F.1 F.2.1 dX4_child_28 (by decide) ?_
      refine lv_sipush (v := 255) F.1 F.2.1 dX4_child_29 (by decide) ?_
      refine xc_Sz (As := [.int p3, .int 0, .int 255]) (rest := []) (m_X4_isIn l D cs p3 0 255 _ hw) F (va_cwS 3 F.2.2.2.2 gX4_child_X4_isIn rfl rfl rfl (by decide +kernel) ⟨Nat.le_of_ble_eq_true rfl, Nat.le_of_ble_eq_true rfl⟩) hK hP hD hS hA [] [0, 1] rfl rfl rfl hl.1 rfl (Nat.le_of_ble_eq_true rfl) dX4_child_32 ⟨Nat.zero_le _, Nat.zero_le _⟩ (fun r32 u H locs hw hP hD hS => ?_)
      have hP : va_P D vwCl (pc_X4_child cs h0 h0_level h0_value h0_tags h0_link h0_key h0_lives h0_open h0_in h0_scores h0_was h0_had 0 n0_objects n0_opened n0_sets b0_hasFamily f0_open) H := hP.sub [0, 1] rfl
      have hD : va_D A (pc_X4_child cs h0 h0_level h0_value h0_tags h0_link h0_key h0_lives h0_open h0_in h0_scores h0_was h0_had 0 n0_objects n0_opened n0_sets b0_hasFamily f0_open) := hD.sub [0, 1] (by decide) rfl
      try dsimp only at hw
      refine xi_ifeqz (tgt := 50) F dX4_child_35 (by decide) (fun hc => ?_) (fun hc => ?_)
      · have hw := hw.1 hc
        exact (hX50 _ _ _).mp hw H locs ls hP hD hS (lv_sub hl [] rfl)
      · have hw := hw.2 hc
        refine lv_iload F.1 F.2.1 dX4_child_38 (lv_at hl 4 rfl) ?_
        refine lv_iconst (v := (-1)) F.1 F.2.1 dX4_child_40 (by decide) ?_
        refine lv_sipush (v := 999) F.1 F.2.1 dX4_child_41 (by decide) ?_
        refine xc_Sz (As := [.int p4, .int (-1), .int 999]) (rest := []) (m_X4_isIn l D cs p4 (-1) 999 _ hw) F (va_cwS 3 F.2.2.2.2 gX4_child_X4_isIn rfl rfl rfl (by decide +kernel) ⟨Nat.le_of_ble_eq_true rfl, Nat.le_of_ble_eq_true rfl⟩) hK hP hD hS hA [] [0, 1] rfl rfl rfl hl.1 rfl (Nat.le_of_ble_eq_true rfl) dX4_child_44 ⟨Nat.zero_le _, Nat.zero_le _⟩ (fun r44 u H locs hw hP hD hS => ?_)
        have hP : va_P D vwCl (pc_X4_child cs h0 h0_level h0_value h0_tags h0_link h0_key h0_lives h0_open h0_in h0_scores h0_was h0_had 0 n0_objects n0_opened n0_sets b0_hasFamily f0_open) H := hP.sub [0, 1] rfl
        have hD : va_D A (pc_X4_child cs h0 h0_level h0_value h0_tags h0_link h0_key h0_lives h0_open h0_in h0_scores h0_was h0_had 0 n0_objects n0_opened n0_sets b0_hasFamily f0_open) := hD.sub [0, 1] (by decide) rfl
        try dsimp only at hw
        refine xi_ifnez (tgt := 53) F dX4_child_47 (by decide) (fun hc => ?_) (fun hc => ?_)
        · have hw := hw.1 hc
          refine lv_aload_n F.1 F.2.1 dX4_child_53 rfl (lv_at hl 0 rfl) ?_
          refine xi_get (C := RX4) (T := TX4) (N := 16) (v := .int n0_opened) F in_X4_child_X4 hK hP 0 rfl rfl 8 (by decide) fl_X4_child_56 rfl dX4_child_54 ?_
          refine lv_bipush (v := 60) F.1 F.2.1 dX4_child_57 (by decide) ?_
          refine lv_icmp_ne (tgt := 65) F.1 F.2.1 dX4_child_59 (by decide) (fun hc => ?_) (fun hc => ?_)
          · have hw := hw.1 hc
            refine lv_aload_n F.1 F.2.1 dX4_child_65 rfl (lv_at hl 0 rfl) ?_
            refine xi_get (C := RX4) (T := TX4) (N := 16) (v := .ref h0_open) F in_X4_child_X4 hK hP 0 rfl rfl 9 (by decide) fl_X4_child_29 rfl dX4_child_66 ?_
            refine lv_iconst (v := 4) F.1 F.2.1 dX4_child_69 (by decide) ?_
            refine lv_aload_n F.1 F.2.1 dX4_child_70 rfl (lv_at hl 0 rfl) ?_
            refine xi_get (C := RX4) (T := TX4) (N := 16) (v := .int n0_opened) F in_X4_child_X4 hK hP 0 rfl rfl 8 (by decide) fl_X4_child_56 rfl dX4_child_71 ?_
            refine lv_imul F.1 F.2.1 dX4_child_74 ?_
            refine lv_iload_n F.1 F.2.1 dX4_child_75 rfl (lv_at hl 1 rfl) ?_
            obtain ⟨j76, hj, he, hw⟩ := hw
            refine xi_iast (j := j76) F hK hP hD hS 1 rfl (by decide) hj he dX4_child_76 (fun H locs hP hD hS => ?_)
            have hP : va_P D vwCl (pc_X4_child cs h0 h0_level h0_value h0_tags h0_link h0_key h0_lives h0_open h0_in h0_scores h0_was h0_had 0 n0_objects n0_opened n0_sets b0_hasFamily (va_up f0_open j76 p1)) H := hP
            have hD : va_D A (pc_X4_child cs h0 h0_level h0_value h0_tags h0_link h0_key h0_lives h0_open h0_in h0_scores h0_was h0_had 0 n0_objects n0_opened n0_sets b0_hasFamily (va_up f0_open j76 p1)) := hD
            refine lv_aload_n F.1 F.2.1 dX4_child_77 rfl (lv_at hl 0 rfl) ?_
            refine xi_get (C := RX4) (T := TX4) (N := 16) (v := .ref h0_open) F in_X4_child_X4 hK hP 0 rfl rfl 9 (by decide) fl_X4_child_29 rfl dX4_child_78 ?_
            refine lv_iconst (v := 4) F.1 F.2.1 dX4_child_81 (by decide) ?_
            refine lv_aload_n F.1 F.2.1 dX4_child_82 rfl (lv_at hl 0 rfl) ?_
            refine xi_get (C := RX4) (T := TX4) (N := 16) (v := .int n0_opened) F in_X4_child_X4 hK hP 0 rfl rfl 8 (by decide) fl_X4_child_56 rfl dX4_child_83 ?_
            refine lv_imul F.1 F.2.1 dX4_child_86 ?_
            refine lv_iconst (v := 1) F.1 F.2.1 dX4_child_87 (by decide) ?_
            refine lv_iadd F.1 F.2.1 dX4_child_88 ?_
            refine lv_iload_n F.1 F.2.1 dX4_child_89 rfl (lv_at hl 2 rfl) ?_
            obtain ⟨j90, hj, he, hw⟩ := hw
            refine xi_iast (j := j90) F hK hP hD hS 1 rfl (by decide) hj he dX4_child_90 (fun H locs hP hD hS => ?_)
            have hP : va_P D vwCl (pc_X4_child cs h0 h0_level h0_value h0_tags h0_link h0_key h0_lives h0_open h0_in h0_scores h0_was h0_had 0 n0_objects n0_opened n0_sets b0_hasFamily (va_up (va_up f0_open j76 p1) j90 p2)) H := hP
            have hD : va_D A (pc_X4_child cs h0 h0_level h0_value h0_tags h0_link h0_key h0_lives h0_open h0_in h0_scores h0_was h0_had 0 n0_objects n0_opened n0_sets b0_hasFamily (va_up (va_up f0_open j76 p1) j90 p2)) := hD
            refine lv_aload_n F.1 F.2.1 dX4_child_91 rfl (lv_at hl 0 rfl) ?_
            refine xi_get (C := RX4) (T := TX4) (N := 16) (v := .ref h0_open) F in_X4_child_X4 hK hP 0 rfl rfl 9 (by decide) fl_X4_child_29 rfl dX4_child_92 ?_
            refine lv_iconst (v := 4) F.1 F.2.1 dX4_child_95 (by decide) ?_
            refine lv_aload_n F.1 F.2.1 dX4_child_96 rfl (lv_at hl 0 rfl) ?_
            refine xi_get (C := RX4) (T := TX4) (N := 16) (v := .int n0_opened) F in_X4_child_X4 hK hP 0 rfl rfl 8 (by decide) fl_X4_child_56 rfl dX4_child_97 ?_
            refine lv_imul F.1 F.2.1 dX4_child_100 ?_
            refine lv_iconst (v := 2) F.1 F.2.1 dX4_child_101 (by decide) ?_
            refine lv_iadd F.1 F.2.1 dX4_child_102 ?_
            refine lv_iload_n F.1 F.2.1 dX4_child_103 rfl (lv_at hl 3 rfl) ?_
            obtain ⟨j104, hj, he, hw⟩ := hw
            refine xi_iast (j := j104) F hK hP hD hS 1 rfl (by decide) hj he dX4_child_104 (fun H locs hP hD hS => ?_)
            have hP : va_P D vwCl (pc_X4_child cs h0 h0_level h0_value h0_tags h0_link h0_key h0_lives h0_open h0_in h0_scores h0_was h0_had 0 n0_objects n0_opened n0_sets b0_hasFamily (va_up (va_up (va_up f0_open j76 p1) j90 p2) j104 p3)) H := hP
            have hD : va_D A (pc_X4_child cs h0 h0_level h0_value h0_tags h0_link h0_key h0_lives h0_open h0_in h0_scores h0_was h0_had 0 n0_objects n0_opened n0_sets b0_hasFamily (va_up (va_up (va_up f0_open j76 p1) j90 p2) j104 p3)) := hD
            refine lv_aload_n F.1 F.2.1 dX4_child_105 rfl (lv_at hl 0 rfl) ?_
            refine xi_get (C := RX4) (T := TX4) (N := 16) (v := .ref h0_open) F in_X4_child_X4 hK hP 0 rfl rfl 9 (by decide) fl_X4_child_29 rfl dX4_child_106 ?_
            refine lv_iconst (v := 4) F.1 F.2.1 dX4_child_109 (by decide) ?_
            refine lv_aload_n F.1 F.2.1 dX4_child_110 rfl (lv_at hl 0 rfl) ?_
            refine xi_get (C := RX4) (T := TX4) (N := 16) (v := .int n0_opened) F in_X4_child_X4 hK hP 0 rfl rfl 8 (by decide) fl_X4_child_56 rfl dX4_child_111 ?_
            refine lv_imul F.1 F.2.1 dX4_child_114 ?_
            refine lv_iconst (v := 3) F.1 F.2.1 dX4_child_115 (by decide) ?_
            refine lv_iadd F.1 F.2.1 dX4_child_116 ?_
            refine lv_iload F.1 F.2.1 dX4_child_117 (lv_at hl 4 rfl) ?_
            obtain ⟨j119, hj, he, hw⟩ := hw
            refine xi_iast (j := j119) F hK hP hD hS 1 rfl (by decide) hj he dX4_child_119 (fun H locs hP hD hS => ?_)
            have hP : va_P D vwCl (pc_X4_child cs h0 h0_level h0_value h0_tags h0_link h0_key h0_lives h0_open h0_in h0_scores h0_was h0_had 0 n0_objects n0_opened n0_sets b0_hasFamily (va_up (va_up (va_up (va_up f0_open j76 p1) j90 p2) j104 p3) j119 p4)) H := hP
            have hD : va_D A (pc_X4_child cs h0 h0_level h0_value h0_tags h0_link h0_key h0_lives h0_open h0_in h0_scores h0_was h0_had 0 n0_objects n0_opened n0_sets b0_hasFamily (va_up (va_up (va_up (va_up f0_open j76 p1) j90 p2) j104 p3) j119 p4)) := hD
            refine lv_aload_n F.1 F.2.1 dX4_child_120 rfl (lv_at hl 0 rfl) ?_
            refine lv_dup F.1 F.2.1 dX4_child_121 rfl ?_
            refine xi_get (C := RX4) (T := TX4) (N := 16) (v := .int n0_opened) F in_X4_child_X4 hK hP 0 rfl rfl 8 (by decide) fl_X4_child_56 rfl dX4_child_122 ?_
            refine lv_iconst (v := 1) F.1 F.2.1 dX4_child_125 (by decide) ?_
            refine lv_iadd F.1 F.2.1 dX4_child_126 ?_
            refine xi_put (C := RX4) (T := TX4) (N := 16) (v := .int (n0_opened + 1)) (ty := .int) F in_X4_child_X4 tyX4 tyX4_ok nmX4 hK hP hD hS 0 rfl rfl 8 (by decide) fl_X4_child_56 rfl (tyX4_ok 8 (by decide)) rfl rfl (Nat.le_of_ble_eq_true rfl) dX4_child_127 (fun H locs hP hD hS => ?_)
            have hP : va_P D vwCl (pc_X4_child cs h0 h0_level h0_value h0_tags h0_link h0_key h0_lives h0_open h0_in h0_scores h0_was h0_had 0 n0_objects (n0_opened + 1) n0_sets b0_hasFamily (va_up (va_up (va_up (va_up f0_open j76 p1) j90 p2) j104 p3) j119 p4)) H := hP
            have hD : va_D A (pc_X4_child cs h0 h0_level h0_value h0_tags h0_link h0_key h0_lives h0_open h0_in h0_scores h0_was h0_had 0 n0_objects (n0_opened + 1) n0_sets b0_hasFamily (va_up (va_up (va_up (va_up f0_open j76 p1) j90 p2) j104 p3) j119 p4)) := hD
            refine lv_aload_n F.1 F.2.1 dX4_child_130 rfl (lv_at hl 0 rfl) ?_
            refine xi_get (C := RX4) (T := TX4) (N := 16) (v := .int (n0_opened + 1)) F in_X4_child_X4 hK hP 0 rfl rfl 8 (by decide) fl_X4_child_56 rfl dX4_child_131 ?_
            exact RET (n0_opened + 1) (0, (n0_opened + 1), (va_up (va_up (va_up (va_up f0_open j76 p1) j90 p2) j104 p3) j119 p4)) H locs 134 ls hw hP hD hS dX4_child_134
          · have hw := hw.2 hc
            refine lv_bipush (v := (-4)) F.1 F.2.1 dX4_child_62 (by decide) ?_
            exact RET (-4) (0, n0_opened, f0_open) H locs 64 ls hw hP hD hS dX4_child_64
        · have hw := hw.2 hc
          exact (hX50 _ _ _).mp hw H locs ls hP hD hS (lv_sub hl [] rfl)

theorem in_X4_stand_X4 : ∀ w ∈ wsX40, w ∈ wsX4_stand := by decide +kernel
theorem fl_X4_stand_49 : Cond.fieldLink RX4 49 "JoinBlocksModel" "objects" "I" ∈ wsX4_stand := by decide +kernel
theorem fl_X4_stand_32 : Cond.fieldLink RX4 32 "JoinBlocksModel" "in" "[Z" ∈ wsX4_stand := by decide +kernel
theorem fl_X4_stand_7 : Cond.fieldLink RX4 7 "JoinBlocksModel" "level" "[I" ∈ wsX4_stand := by decide +kernel
theorem fl_X4_stand_13 : Cond.fieldLink RX4 13 "JoinBlocksModel" "value" "[I" ∈ wsX4_stand := by decide +kernel
theorem fl_X4_stand_16 : Cond.fieldLink RX4 16 "JoinBlocksModel" "tags" "[I" ∈ wsX4_stand := by decide +kernel
theorem fl_X4_stand_19 : Cond.fieldLink RX4 19 "JoinBlocksModel" "link" "[I" ∈ wsX4_stand := by decide +kernel
theorem fl_X4_stand_22 : Cond.fieldLink RX4 22 "JoinBlocksModel" "key" "[I" ∈ wsX4_stand := by decide +kernel
theorem fl_X4_stand_25 : Cond.fieldLink RX4 25 "JoinBlocksModel" "lives" "[Z" ∈ wsX4_stand := by decide +kernel
abbrev pc_X4_stand (cs : Nat → ClassId) (h0 : Nat) (h0_level : Nat) (h0_value : Nat) (h0_tags : Nat) (h0_link : Nat) (h0_key : Nat) (h0_lives : Nat) (h0_open : Nat) (h0_in : Nat) (h0_scores : Nat) (h0_was : Nat) (h0_had : Nat) (n0_thrown : Int32) (n0_objects : Int32) (n0_opened : Int32) (n0_sets : Int32) (b0_hasFamily : Bool) (f0_level : Nat → Int32) (f0_value : Nat → Int32) (f0_tags : Nat → Int32) (f0_link : Nat → Int32) (f0_key : Nat → Int32) (f0_lives : Nat → Bool) (f0_in : Nat → Bool) : va_W := [(h0, .inr (4, [.int n0_thrown, .int n0_objects, .ref h0_level, .ref h0_value, .ref h0_tags, .ref h0_link, .ref h0_key, .ref h0_lives, .int n0_opened, .ref h0_open, .int n0_sets, .ref h0_in, .ref h0_scores, .int (b2i b0_hasFamily), .ref h0_was, .ref h0_had])), (h0_level, .inl (cs 0, 261, .inl f0_level)), (h0_value, .inl (cs 0, 261, .inl f0_value)), (h0_tags, .inl (cs 0, 261, .inl f0_tags)), (h0_link, .inl (cs 0, 261, .inl f0_link)), (h0_key, .inl (cs 0, 261, .inl f0_key)), (h0_lives, .inl (cs 1, 261, .inl (bF f0_lives))), (h0_in, .inl (cs 1, 1800, .inl (bF f0_in)))]
abbrev rm_X4_stand : Room := { frames := 0, cells := 0, slots := 0, locals := 0 }
def call_X4_stand (p1 : Int32) (p2 : Int32) (p3 : Int32) (p4 : Int32) (p5 : Int32) (n0_objects : Int32) (f0_level : Nat → Int32) (f0_value : Nat → Int32) (f0_tags : Nat → Int32) (f0_link : Nat → Int32) (f0_key : Nat → Int32) (f0_lives : Nat → Bool) (f0_in : Nat → Bool) (Q : Int32 → (Nat → Int32) → (Nat → Int32) → (Nat → Int32) → (Nat → Int32) → (Nat → Int32) → (Nat → Bool) → (Nat → Bool) → Prop) : Prop := ∀ (X65 : Int32 → Int32 → (Nat → Int32) → (Nat → Int32) → (Nat → Int32) → (Nat → Int32) → (Nat → Int32) → (Nat → Bool) → (Nat → Bool) → Prop),
    (∀ (x6 : Int32) (n0_objects : Int32) (f0_level : Nat → Int32) (f0_value : Nat → Int32) (f0_tags : Nat → Int32) (f0_link : Nat → Int32) (f0_key : Nat → Int32) (f0_lives : Nat → Bool) (f0_in : Nat → Bool),
      ((9 ≤ x6 → Q (n0_objects + 1) f0_level f0_value f0_tags f0_link f0_key f0_lives f0_in) ∧ (¬ 9 ≤ x6 → (∃ j88 : Nat, j88 < 1800 ∧ ((200 * x6) + n0_objects) = nI j88 ∧ X65 (x6 + 1) n0_objects f0_level f0_value f0_tags f0_link f0_key f0_lives (va_up f0_in j88 false)))) → X65 x6 n0_objects f0_level f0_value f0_tags f0_link f0_key f0_lives f0_in) →
    (∃ j9 : Nat, j9 < 261 ∧ n0_objects = nI j9 ∧ (∃ j19 : Nat, j19 < 261 ∧ n0_objects = nI j19 ∧ (∃ j29 : Nat, j29 < 261 ∧ n0_objects = nI j29 ∧ (∃ j40 : Nat, j40 < 261 ∧ n0_objects = nI j40 ∧ (∃ j51 : Nat, j51 < 261 ∧ n0_objects = nI j51 ∧ (∃ j61 : Nat, j61 < 261 ∧ n0_objects = nI j61 ∧ X65 0 n0_objects (va_up f0_level j9 p1) (va_up f0_value j19 p2) (va_up f0_tags j29 p3) (va_up f0_link j40 p4) (va_up f0_key j51 p5) (va_up f0_lives j61 true) f0_in))))))
set_option maxHeartbeats 4000000 in
set_option maxRecDepth 100000 in
theorem m_X4_stand (l : Launch) (D : va_G) (cs : Nat → ClassId) (h0 : Nat) (h0_level : Nat) (h0_value : Nat) (h0_tags : Nat) (h0_link : Nat) (h0_key : Nat) (h0_lives : Nat) (h0_open : Nat) (h0_in : Nat) (h0_scores : Nat) (h0_was : Nat) (h0_had : Nat)  (p1 : Int32) (p2 : Int32) (p3 : Int32) (p4 : Int32) (p5 : Int32) (n0_thrown : Int32) (n0_objects : Int32) (n0_opened : Int32) (n0_sets : Int32) (b0_hasFamily : Bool) (f0_level : Nat → Int32) (f0_value : Nat → Int32) (f0_tags : Nat → Int32) (f0_link : Nat → Int32) (f0_key : Nat → Int32) (f0_lives : Nat → Bool) (f0_in : Nat → Bool) (Q : Int32 → (Nat → Int32) → (Nat → Int32) → (Nat → Int32) → (Nat → Int32) → (Nat → Int32) → (Nat → Bool) → (Nat → Bool) → Prop) (h : call_X4_stand p1 p2 p3 p4 p5 n0_objects f0_level f0_value f0_tags f0_link f0_key f0_lives f0_in Q) : CtV l yX4_stand wsX4_stand rm_X4_stand D cs [.ref h0, .int p1, .int p2, .int p3, .int p4, .int p5] (pc_X4_stand cs h0 h0_level h0_value h0_tags h0_link h0_key h0_lives h0_open h0_in h0_scores h0_was h0_had n0_thrown n0_objects n0_opened n0_sets b0_hasFamily f0_level f0_value f0_tags f0_link f0_key f0_lives f0_in) (fun u : Int32 × (Nat → Int32) × (Nat → Int32) × (Nat → Int32) × (Nat → Int32) × (Nat → Int32) × (Nat → Bool) × (Nat → Bool) => (pc_X4_stand cs h0 h0_level h0_value h0_tags h0_link h0_key h0_lives h0_open h0_in h0_scores h0_was h0_had n0_thrown u.1 n0_opened n0_sets b0_hasFamily u.2.1 u.2.2.1 u.2.2.2.1 u.2.2.2.2.1 u.2.2.2.2.2.1 u.2.2.2.2.2.2.1 u.2.2.2.2.2.2.2)) 0 0 (fun u => Q u.1 u.2.1 u.2.2.1 u.2.2.2.1 u.2.2.2.2.1 u.2.2.2.2.2.1 u.2.2.2.2.2.2.1 u.2.2.2.2.2.2.2) := by
  refine xo_V (S := Int32 × (Nat → Int32) × (Nat → Int32) × (Nat → Int32) × (Nat → Int32) × (Nat → Int32) × (Nat → Bool) × (Nat → Bool)) (cc := cX4_stand) (maxL := 7) (own := RX4) (lv0 := [(0, .ref h0), (1, .int p1), (2, .int p2), (3, .int p3), (4, .int p4), (5, .int p5)]) (by decide) rfl rfl (Nat.le_of_ble_eq_true rfl) rfl ?_
  intro p e s m args below meth c A Z ls hnm F hK hA hP hD hS hl RET
  unfold call_X4_stand at h
  obtain ⟨X65, hX65⟩ : ∃ X : Int32 → Int32 → (Nat → Int32) → (Nat → Int32) → (Nat → Int32) → (Nat → Int32) → (Nat → Int32) → (Nat → Bool) → (Nat → Bool) → Prop, ∀ (x6 : Int32) (n0_objects : Int32) (f0_level : Nat → Int32) (f0_value : Nat → Int32) (f0_tags : Nat → Int32) (f0_link : Nat → Int32) (f0_key : Nat → Int32) (f0_lives : Nat → Bool) (f0_in : Nat → Bool), (X x6 n0_objects f0_level f0_value f0_tags f0_link f0_key f0_lives f0_in ↔ ∀ (H : Heap) (locs : List Loc) (ls : Array Slot), va_P D vwCl (pc_X4_stand cs h0 h0_level h0_value h0_tags h0_link h0_key h0_lives h0_open h0_in h0_scores h0_was h0_had n0_thrown n0_objects n0_opened n0_sets b0_hasFamily f0_level f0_value f0_tags f0_link f0_key f0_lives f0_in) H → va_D A (pc_X4_stand cs h0 h0_level h0_value h0_tags h0_link h0_key h0_lives h0_open h0_in h0_scores h0_was h0_had n0_thrown n0_objects n0_opened n0_sets b0_hasFamily f0_level f0_value f0_tags f0_link f0_key f0_lives f0_in) → va_S A s.heap H locs → lv_has ls 7 [(0, .ref h0), (6, .int x6)] → W p l e rm_X4_stand s m args below meth c H locs 0 0 Z (F0 m 65 ls [])) := ⟨_, fun _ _ _ _ _ _ _ _ _ => Iff.rfl⟩
  refine xt_cut (h X65 ?_) (fun hw => ?_)
  · intro x6 n0_objects f0_level f0_value f0_tags f0_link f0_key f0_lives f0_in hw
    refine (hX65 _ _ _ _ _ _ _ _ _).mpr ?_
    intro H locs ls hP hD hS hl
    refine lv_iload F.1 F.2.1 dX4_stand_65 (lv_at hl 1 rfl) ?_
    refine lv_bipush (v := 9) F.1 F.2.1 dX4_stand_67 (by decide) ?_
    refine lv_icmp_ge (tgt := 95) F.1 F.2.1 dX4_stand_69 (by decide) (fun hc => ?_) (fun hc => ?_)
    · have hw := hw.1 hc
      refine lv_aload_n F.1 F.2.1 dX4_stand_95 rfl (lv_at hl 0 rfl) ?_
      refine lv_dup F.1 F.2.1 dX4_stand_96 rfl ?_
      refine xi_get (C := RX4) (T := TX4) (N := 16) (v := .int n0_objects) F in_X4_stand_X4 hK hP 0 rfl rfl 1 (by decide) fl_X4_stand_49 rfl dX4_stand_97 ?_
      refine lv_iconst (v := 1) F.1 F.2.1 dX4_stand_100 (by decide) ?_
      refine lv_iadd F.1 F.2.1 dX4_stand_101 ?_
      refine xi_put (C := RX4) (T := TX4) (N := 16) (v := .int (n0_objects + 1)) (ty := .int) F in_X4_stand_X4 tyX4 tyX4_ok nmX4 hK hP hD hS 0 rfl rfl 1 (by decide) fl_X4_stand_49 rfl (tyX4_ok 1 (by decide)) rfl rfl (Nat.le_of_ble_eq_true rfl) dX4_stand_102 (fun H locs hP hD hS => ?_)
      have hP : va_P D vwCl (pc_X4_stand cs h0 h0_level h0_value h0_tags h0_link h0_key h0_lives h0_open h0_in h0_scores h0_was h0_had n0_thrown (n0_objects + 1) n0_opened n0_sets b0_hasFamily f0_level f0_value f0_tags f0_link f0_key f0_lives f0_in) H := hP
      have hD : va_D A (pc_X4_stand cs h0 h0_level h0_value h0_tags h0_link h0_key h0_lives h0_open h0_in h0_scores h0_was h0_had n0_thrown (n0_objects + 1) n0_opened n0_sets b0_hasFamily f0_level f0_value f0_tags f0_link f0_key f0_lives f0_in) := hD
      exact RET ((n0_objects + 1), f0_level, f0_value, f0_tags, f0_link, f0_key, f0_lives, f0_in) H locs 105 ls hw hP hD hS dX4_stand_105
    · have hw := hw.2 hc
      refine lv_aload_n F.1 F.2.1 dX4_stand_72 rfl (lv_at hl 0 rfl) ?_
      refine xi_get (C := RX4) (T := TX4) (N := 16) (v := .ref h0_in) F in_X4_stand_X4 hK hP 0 rfl rfl 11 (by decide) fl_X4_stand_32 rfl dX4_stand_73 ?_
      refine lv_sipush (v := 200) F.1 F.2.1 dX4_stand_76 (by decide) ?_
      refine lv_iload F.1 F.2.1 dX4_stand_79 (lv_at hl 1 rfl) ?_
      refine lv_imul F.1 F.2.1 dX4_stand_81 ?_
      refine lv_aload_n F.1 F.2.1 dX4_stand_82 rfl (lv_at hl 0 rfl) ?_
      refine xi_get (C := RX4) (T := TX4) (N := 16) (v := .int n0_objects) F in_X4_stand_X4 hK hP 0 rfl rfl 1 (by decide) fl_X4_stand_49 rfl dX4_stand_83 ?_
      refine lv_iadd F.1 F.2.1 dX4_stand_86 ?_
      refine lv_iconst (v := 0) F.1 F.2.1 dX4_stand_87 (by decide) ?_
      obtain ⟨j88, hj, he, hw⟩ := hw
      refine xi_zast (v := false) (j := j88) F hK hP hD hS 7 rfl (by decide) hj he rfl dX4_stand_88 (fun H locs hP hD hS => ?_)
      have hP : va_P D vwCl (pc_X4_stand cs h0 h0_level h0_value h0_tags h0_link h0_key h0_lives h0_open h0_in h0_scores h0_was h0_had n0_thrown n0_objects n0_opened n0_sets b0_hasFamily f0_level f0_value f0_tags f0_link f0_key f0_lives (va_up f0_in j88 false)) H := hP
      have hD : va_D A (pc_X4_stand cs h0 h0_level h0_value h0_tags h0_link h0_key h0_lives h0_open h0_in h0_scores h0_was h0_had n0_thrown n0_objects n0_opened n0_sets b0_hasFamily f0_level f0_value f0_tags f0_link f0_key f0_lives (va_up f0_in j88 false)) := hD
      refine lv_iinc (v := (x6 + 1)) (lv' := [(6, .int (x6 + 1)), (0, .ref h0)]) F.1 F.2.1 dX4_stand_89 hl (k := 1) rfl rfl (by decide) rfl (fun ls hl => ?_)
      refine lv_goto (tgt := 65) F.1 F.2.1 dX4_stand_92 (by decide) ?_
      exact (hX65 _ _ _ _ _ _ _ _ _).mp hw H locs ls hP hD hS (lv_sub hl [1, 0] rfl)
  generalize ([] : List Loc) = locs at hS ⊢
  obtain ⟨H, hHe⟩ : ∃ H, H = s.heap := ⟨_, rfl⟩
  have hP : va_P D vwCl (pc_X4_stand cs h0 h0_level h0_value h0_tags h0_link h0_key h0_lives h0_open h0_in h0_scores h0_was h0_had n0_thrown n0_objects n0_opened n0_sets b0_hasFamily f0_level f0_value f0_tags f0_link f0_key f0_lives f0_in) H := by rw [hHe]; exact hP
  have hS : va_S A s.heap H locs := by rw [hHe]; exact hS
  suffices W p l e rm_X4_stand s m args below meth c H locs 0 0 Z (F0 m 0 ls []) by rw [hHe] at this; exact this
  refine lv_aload_n F.1 F.2.1 dX4_stand_0 rfl (lv_at hl 0 rfl) ?_
  refine xi_get (C := RX4) (T := TX4) (N := 16) (v := .ref h0_level) F in_X4_stand_X4 hK hP 0 rfl rfl 2 (by decide) fl_X4_stand_7 rfl dX4_stand_1 ?_
  refine lv_aload_n F.1 F.2.1 dX4_stand_4 rfl (lv_at hl 0 rfl) ?_
  refine xi_get (C := RX4) (T := TX4) (N := 16) (v := .int n0_objects) F in_X4_stand_X4 hK hP 0 rfl rfl 1 (by decide) fl_X4_stand_49 rfl dX4_stand_5 ?_
  refine lv_iload_n F.1 F.2.1 dX4_stand_8 rfl (lv_at hl 1 rfl) ?_
  obtain ⟨j9, hj, he, hw⟩ := hw
  refine xi_iast (j := j9) F hK hP hD hS 1 rfl (by decide) hj he dX4_stand_9 (fun H locs hP hD hS => ?_)
  have hP : va_P D vwCl (pc_X4_stand cs h0 h0_level h0_value h0_tags h0_link h0_key h0_lives h0_open h0_in h0_scores h0_was h0_had n0_thrown n0_objects n0_opened n0_sets b0_hasFamily (va_up f0_level j9 p1) f0_value f0_tags f0_link f0_key f0_lives f0_in) H := hP
  have hD : va_D A (pc_X4_stand cs h0 h0_level h0_value h0_tags h0_link h0_key h0_lives h0_open h0_in h0_scores h0_was h0_had n0_thrown n0_objects n0_opened n0_sets b0_hasFamily (va_up f0_level j9 p1) f0_value f0_tags f0_link f0_key f0_lives f0_in) := hD
  refine lv_aload_n F.1 F.2.1 dX4_stand_10 rfl (lv_at hl 0 rfl) ?_
  refine xi_get (C := RX4) (T := TX4) (N := 16) (v := .ref h0_value) F in_X4_stand_X4 hK hP 0 rfl rfl 3 (by decide) fl_X4_stand_13 rfl dX4_stand_11 ?_
  refine lv_aload_n F.1 F.2.1 dX4_stand_14 rfl (lv_at hl 0 rfl) ?_
  refine xi_get (C := RX4) (T := TX4) (N := 16) (v := .int n0_objects) F in_X4_stand_X4 hK hP 0 rfl rfl 1 (by decide) fl_X4_stand_49 rfl dX4_stand_15 ?_
  refine lv_iload_n F.1 F.2.1 dX4_stand_18 rfl (lv_at hl 2 rfl) ?_
  obtain ⟨j19, hj, he, hw⟩ := hw
  refine xi_iast (j := j19) F hK hP hD hS 2 rfl (by decide) hj he dX4_stand_19 (fun H locs hP hD hS => ?_)
  have hP : va_P D vwCl (pc_X4_stand cs h0 h0_level h0_value h0_tags h0_link h0_key h0_lives h0_open h0_in h0_scores h0_was h0_had n0_thrown n0_objects n0_opened n0_sets b0_hasFamily (va_up f0_level j9 p1) (va_up f0_value j19 p2) f0_tags f0_link f0_key f0_lives f0_in) H := hP
  have hD : va_D A (pc_X4_stand cs h0 h0_level h0_value h0_tags h0_link h0_key h0_lives h0_open h0_in h0_scores h0_was h0_had n0_thrown n0_objects n0_opened n0_sets b0_hasFamily (va_up f0_level j9 p1) (va_up f0_value j19 p2) f0_tags f0_link f0_key f0_lives f0_in) := hD
  refine lv_aload_n F.1 F.2.1 dX4_stand_20 rfl (lv_at hl 0 rfl) ?_
  refine xi_get (C := RX4) (T := TX4) (N := 16) (v := .ref h0_tags) F in_X4_stand_X4 hK hP 0 rfl rfl 4 (by decide) fl_X4_stand_16 rfl dX4_stand_21 ?_
  refine lv_aload_n F.1 F.2.1 dX4_stand_24 rfl (lv_at hl 0 rfl) ?_
  refine xi_get (C := RX4) (T := TX4) (N := 16) (v := .int n0_objects) F in_X4_stand_X4 hK hP 0 rfl rfl 1 (by decide) fl_X4_stand_49 rfl dX4_stand_25 ?_
  refine lv_iload_n F.1 F.2.1 dX4_stand_28 rfl (lv_at hl 3 rfl) ?_
  obtain ⟨j29, hj, he, hw⟩ := hw
  refine xi_iast (j := j29) F hK hP hD hS 3 rfl (by decide) hj he dX4_stand_29 (fun H locs hP hD hS => ?_)
  have hP : va_P D vwCl (pc_X4_stand cs h0 h0_level h0_value h0_tags h0_link h0_key h0_lives h0_open h0_in h0_scores h0_was h0_had n0_thrown n0_objects n0_opened n0_sets b0_hasFamily (va_up f0_level j9 p1) (va_up f0_value j19 p2) (va_up f0_tags j29 p3) f0_link f0_key f0_lives f0_in) H := hP
  have hD : va_D A (pc_X4_stand cs h0 h0_level h0_value h0_tags h0_link h0_key h0_lives h0_open h0_in h0_scores h0_was h0_had n0_thrown n0_objects n0_opened n0_sets b0_hasFamily (va_up f0_level j9 p1) (va_up f0_value j19 p2) (va_up f0_tags j29 p3) f0_link f0_key f0_lives f0_in) := hD
  refine lv_aload_n F.1 F.2.1 dX4_stand_30 rfl (lv_at hl 0 rfl) ?_
  refine xi_get (C := RX4) (T := TX4) (N := 16) (v := .ref h0_link) F in_X4_stand_X4 hK hP 0 rfl rfl 5 (by decide) fl_X4_stand_19 rfl dX4_stand_31 ?_
  refine lv_aload_n F.1 F.2.1 dX4_stand_34 rfl (lv_at hl 0 rfl) ?_
  refine xi_get (C := RX4) (T := TX4) (N := 16) (v := .int n0_objects) F in_X4_stand_X4 hK hP 0 rfl rfl 1 (by decide) fl_X4_stand_49 rfl dX4_stand_35 ?_
  refine lv_iload F.1 F.2.1 dX4_stand_38 (lv_at hl 4 rfl) ?_
  obtain ⟨j40, hj, he, hw⟩ := hw
  refine xi_iast (j := j40) F hK hP hD hS 4 rfl (by decide) hj he dX4_stand_40 (fun H locs hP hD hS => ?_)
  have hP : va_P D vwCl (pc_X4_stand cs h0 h0_level h0_value h0_tags h0_link h0_key h0_lives h0_open h0_in h0_scores h0_was h0_had n0_thrown n0_objects n0_opened n0_sets b0_hasFamily (va_up f0_level j9 p1) (va_up f0_value j19 p2) (va_up f0_tags j29 p3) (va_up f0_link j40 p4) f0_key f0_lives f0_in) H := hP
  have hD : va_D A (pc_X4_stand cs h0 h0_level h0_value h0_tags h0_link h0_key h0_lives h0_open h0_in h0_scores h0_was h0_had n0_thrown n0_objects n0_opened n0_sets b0_hasFamily (va_up f0_level j9 p1) (va_up f0_value j19 p2) (va_up f0_tags j29 p3) (va_up f0_link j40 p4) f0_key f0_lives f0_in) := hD
  refine lv_aload_n F.1 F.2.1 dX4_stand_41 rfl (lv_at hl 0 rfl) ?_
  refine xi_get (C := RX4) (T := TX4) (N := 16) (v := .ref h0_key) F in_X4_stand_X4 hK hP 0 rfl rfl 6 (by decide) fl_X4_stand_22 rfl dX4_stand_42 ?_
  refine lv_aload_n F.1 F.2.1 dX4_stand_45 rfl (lv_at hl 0 rfl) ?_
  refine xi_get (C := RX4) (T := TX4) (N := 16) (v := .int n0_objects) F in_X4_stand_X4 hK hP 0 rfl rfl 1 (by decide) fl_X4_stand_49 rfl dX4_stand_46 ?_
  refine lv_iload F.1 F.2.1 dX4_stand_49 (lv_at hl 5 rfl) ?_
  obtain ⟨j51, hj, he, hw⟩ := hw
  refine xi_iast (j := j51) F hK hP hD hS 5 rfl (by decide) hj he dX4_stand_51 (fun H locs hP hD hS => ?_)
  have hP : va_P D vwCl (pc_X4_stand cs h0 h0_level h0_value h0_tags h0_link h0_key h0_lives h0_open h0_in h0_scores h0_was h0_had n0_thrown n0_objects n0_opened n0_sets b0_hasFamily (va_up f0_level j9 p1) (va_up f0_value j19 p2) (va_up f0_tags j29 p3) (va_up f0_link j40 p4) (va_up f0_key j51 p5) f0_lives f0_in) H := hP
  have hD : va_D A (pc_X4_stand cs h0 h0_level h0_value h0_tags h0_link h0_key h0_lives h0_open h0_in h0_scores h0_was h0_had n0_thrown n0_objects n0_opened n0_sets b0_hasFamily (va_up f0_level j9 p1) (va_up f0_value j19 p2) (va_up f0_tags j29 p3) (va_up f0_link j40 p4) (va_up f0_key j51 p5) f0_lives f0_in) := hD
  refine lv_aload_n F.1 F.2.1 dX4_stand_52 rfl (lv_at hl 0 rfl) ?_
  refine xi_get (C := RX4) (T := TX4) (N := 16) (v := .ref h0_lives) F in_X4_stand_X4 hK hP 0 rfl rfl 7 (by decide) fl_X4_stand_25 rfl dX4_stand_53 ?_
  refine lv_aload_n F.1 F.2.1 dX4_stand_56 rfl (lv_at hl 0 rfl) ?_
  refine xi_get (C := RX4) (T := TX4) (N := 16) (v := .int n0_objects) F in_X4_stand_X4 hK hP 0 rfl rfl 1 (by decide) fl_X4_stand_49 rfl dX4_stand_57 ?_
  refine lv_iconst (v := 1) F.1 F.2.1 dX4_stand_60 (by decide) ?_
  obtain ⟨j61, hj, he, hw⟩ := hw
  refine xi_zast (v := true) (j := j61) F hK hP hD hS 6 rfl (by decide) hj he rfl dX4_stand_61 (fun H locs hP hD hS => ?_)
  have hP : va_P D vwCl (pc_X4_stand cs h0 h0_level h0_value h0_tags h0_link h0_key h0_lives h0_open h0_in h0_scores h0_was h0_had n0_thrown n0_objects n0_opened n0_sets b0_hasFamily (va_up f0_level j9 p1) (va_up f0_value j19 p2) (va_up f0_tags j29 p3) (va_up f0_link j40 p4) (va_up f0_key j51 p5) (va_up f0_lives j61 true) f0_in) H := hP
  have hD : va_D A (pc_X4_stand cs h0 h0_level h0_value h0_tags h0_link h0_key h0_lives h0_open h0_in h0_scores h0_was h0_had n0_thrown n0_objects n0_opened n0_sets b0_hasFamily (va_up f0_level j9 p1) (va_up f0_value j19 p2) (va_up f0_tags j29 p3) (va_up f0_link j40 p4) (va_up f0_key j51 p5) (va_up f0_lives j61 true) f0_in) := hD
  refine lv_iconst (v := 0) F.1 F.2.1 dX4_stand_62 (by decide) ?_
  refine lv_istore (lv' := [(6, .int 0), (0, .ref h0), (1, .int p1), (2, .int p2), (3, .int p3), (4, .int p4), (5, .int p5)]) F.1 F.2.1 dX4_stand_63 hl (by decide) rfl (fun ls hl => ?_)
  exact (hX65 _ _ _ _ _ _ _ _ _).mp hw H locs ls hP hD hS (lv_sub hl [1, 0] rfl)

theorem in_X4_rootOf_X4 : ∀ w ∈ wsX40, w ∈ wsX4_rootOf := by decide +kernel
theorem fl_X4_rootOf_49 : Cond.fieldLink RX4 49 "JoinBlocksModel" "objects" "I" ∈ wsX4_rootOf := by decide +kernel
theorem fl_X4_rootOf_25 : Cond.fieldLink RX4 25 "JoinBlocksModel" "lives" "[Z" ∈ wsX4_rootOf := by decide +kernel
theorem fl_X4_rootOf_7 : Cond.fieldLink RX4 7 "JoinBlocksModel" "level" "[I" ∈ wsX4_rootOf := by decide +kernel
theorem fl_X4_rootOf_22 : Cond.fieldLink RX4 22 "JoinBlocksModel" "key" "[I" ∈ wsX4_rootOf := by decide +kernel
abbrev pc_X4_rootOf (cs : Nat → ClassId) (h0 : Nat) (h0_level : Nat) (h0_value : Nat) (h0_tags : Nat) (h0_link : Nat) (h0_key : Nat) (h0_lives : Nat) (h0_open : Nat) (h0_in : Nat) (h0_scores : Nat) (h0_was : Nat) (h0_had : Nat) (n0_thrown : Int32) (n0_objects : Int32) (n0_opened : Int32) (n0_sets : Int32) (b0_hasFamily : Bool) (f0_level : Nat → Int32) (f0_key : Nat → Int32) (f0_lives : Nat → Bool) : va_W := [(h0, .inr (4, [.int n0_thrown, .int n0_objects, .ref h0_level, .ref h0_value, .ref h0_tags, .ref h0_link, .ref h0_key, .ref h0_lives, .int n0_opened, .ref h0_open, .int n0_sets, .ref h0_in, .ref h0_scores, .int (b2i b0_hasFamily), .ref h0_was, .ref h0_had])), (h0_level, .inl (cs 0, 261, .inl f0_level)), (h0_key, .inl (cs 0, 261, .inl f0_key)), (h0_lives, .inl (cs 1, 261, .inl (bF f0_lives)))]
abbrev rm_X4_rootOf : Room := { frames := 0, cells := 0, slots := 0, locals := 0 }
def call_X4_rootOf (p1 : Int32) (n0_objects : Int32) (f0_level : Nat → Int32) (f0_key : Nat → Int32) (f0_lives : Nat → Bool) (Q : Int32 → Prop) : Prop := ∀ (X2 : Int32 → Prop) (X41 : Int32 → Prop),
    (∀ (x2 : Int32),
      ((n0_objects ≤ x2 → Q (-1)) ∧ (¬ n0_objects ≤ x2 → (∃ j15 : Nat, j15 < 261 ∧ x2 = nI j15 ∧ (((f0_lives j15) = false → X41 x2) ∧ ((f0_lives j15) = true → (∃ j24 : Nat, j24 < 261 ∧ x2 = nI j24 ∧ ((¬ (f0_level j24) = 2 → X41 x2) ∧ ((f0_level j24) = 2 → (∃ j34 : Nat, j34 < 261 ∧ x2 = nI j34 ∧ ((¬ (f0_key j34) = p1 → X41 x2) ∧ ((f0_key j34) = p1 → Q x2))))))))))) → X2 x2) →
    (∀ (x2 : Int32),
      X2 (x2 + 1) → X41 x2) →
    X2 0
set_option maxHeartbeats 4000000 in
set_option maxRecDepth 100000 in
theorem m_X4_rootOf (l : Launch) (D : va_G) (cs : Nat → ClassId) (h0 : Nat) (h0_level : Nat) (h0_value : Nat) (h0_tags : Nat) (h0_link : Nat) (h0_key : Nat) (h0_lives : Nat) (h0_open : Nat) (h0_in : Nat) (h0_scores : Nat) (h0_was : Nat) (h0_had : Nat)  (p1 : Int32) (n0_thrown : Int32) (n0_objects : Int32) (n0_opened : Int32) (n0_sets : Int32) (b0_hasFamily : Bool) (f0_level : Nat → Int32) (f0_key : Nat → Int32) (f0_lives : Nat → Bool) (Q : Int32 → Prop) (h : call_X4_rootOf p1 n0_objects f0_level f0_key f0_lives Q) : CtI l yX4_rootOf wsX4_rootOf rm_X4_rootOf D cs [.ref h0, .int p1] (pc_X4_rootOf cs h0 h0_level h0_value h0_tags h0_link h0_key h0_lives h0_open h0_in h0_scores h0_was h0_had n0_thrown n0_objects n0_opened n0_sets b0_hasFamily f0_level f0_key f0_lives) (fun u : Unit => (pc_X4_rootOf cs h0 h0_level h0_value h0_tags h0_link h0_key h0_lives h0_open h0_in h0_scores h0_was h0_had n0_thrown n0_objects n0_opened n0_sets b0_hasFamily f0_level f0_key f0_lives)) (fun r u => Q r ) := by
  refine xo_I (S := Unit) (cc := cX4_rootOf) (maxL := 3) (own := RX4) (lv0 := [(0, .ref h0), (1, .int p1)]) (by decide) rfl rfl (Nat.le_of_ble_eq_true rfl) rfl ?_
  intro p e s m args below meth c A Z ls F hK hA hP hD hS hl RET
  unfold call_X4_rootOf at h
  obtain ⟨X2, hX2⟩ : ∃ X : Int32 → Prop, ∀ (x2 : Int32), (X x2 ↔ ∀ (H : Heap) (locs : List Loc) (ls : Array Slot), va_P D vwCl (pc_X4_rootOf cs h0 h0_level h0_value h0_tags h0_link h0_key h0_lives h0_open h0_in h0_scores h0_was h0_had n0_thrown n0_objects n0_opened n0_sets b0_hasFamily f0_level f0_key f0_lives) H → va_D A (pc_X4_rootOf cs h0 h0_level h0_value h0_tags h0_link h0_key h0_lives h0_open h0_in h0_scores h0_was h0_had n0_thrown n0_objects n0_opened n0_sets b0_hasFamily f0_level f0_key f0_lives) → va_S A s.heap H locs → lv_has ls 3 [(0, .ref h0), (1, .int p1), (2, .int x2)] → W p l e rm_X4_rootOf s m args below meth c H locs 0 0 Z (F0 m 2 ls [])) := ⟨_, fun _ => Iff.rfl⟩
  obtain ⟨X41, hX41⟩ : ∃ X : Int32 → Prop, ∀ (x2 : Int32), (X x2 ↔ ∀ (H : Heap) (locs : List Loc) (ls : Array Slot), va_P D vwCl (pc_X4_rootOf cs h0 h0_level h0_value h0_tags h0_link h0_key h0_lives h0_open h0_in h0_scores h0_was h0_had n0_thrown n0_objects n0_opened n0_sets b0_hasFamily f0_level f0_key f0_lives) H → va_D A (pc_X4_rootOf cs h0 h0_level h0_value h0_tags h0_link h0_key h0_lives h0_open h0_in h0_scores h0_was h0_had n0_thrown n0_objects n0_opened n0_sets b0_hasFamily f0_level f0_key f0_lives) → va_S A s.heap H locs → lv_has ls 3 [(0, .ref h0), (1, .int p1), (2, .int x2)] → W p l e rm_X4_rootOf s m args below meth c H locs 0 0 Z (F0 m 41 ls [])) := ⟨_, fun _ => Iff.rfl⟩
  refine xt_cut (h X2 X41 ?_ ?_) (fun hw => ?_)
  · intro x2 hw
    refine (hX2 _).mpr ?_
    intro H locs ls hP hD hS hl
    refine lv_iload_n F.1 F.2.1 dX4_rootOf_2 rfl (lv_at hl 2 rfl) ?_
    refine lv_aload_n F.1 F.2.1 dX4_rootOf_3 rfl (lv_at hl 0 rfl) ?_
    refine xi_get (C := RX4) (T := TX4) (N := 16) (v := .int n0_objects) F in_X4_rootOf_X4 hK hP 0 rfl rfl 1 (by decide) fl_X4_rootOf_49 rfl dX4_rootOf_4 ?_
    refine lv_icmp_ge (tgt := 47) F.1 F.2.1 dX4_rootOf_7 (by decide) (fun hc => ?_) (fun hc => ?_)
    · have hw := hw.1 hc
      refine lv_iconst (v := (-1)) F.1 F.2.1 dX4_rootOf_47 (by decide) ?_
      exact RET (-1) () H locs 48 ls hw hP hD hS dX4_rootOf_48
    · have hw := hw.2 hc
      refine lv_aload_n F.1 F.2.1 dX4_rootOf_10 rfl (lv_at hl 0 rfl) ?_
      refine xi_get (C := RX4) (T := TX4) (N := 16) (v := .ref h0_lives) F in_X4_rootOf_X4 hK hP 0 rfl rfl 7 (by decide) fl_X4_rootOf_25 rfl dX4_rootOf_11 ?_
      refine lv_iload_n F.1 F.2.1 dX4_rootOf_14 rfl (lv_at hl 2 rfl) ?_
      obtain ⟨j15, hj, he, hw⟩ := hw
      refine xi_zald (j := j15) F hK hP 3 rfl (by decide) hj he dX4_rootOf_15 ?_
      refine xi_ifeqz (tgt := 41) F dX4_rootOf_16 (by decide) (fun hc => ?_) (fun hc => ?_)
      · have hw := hw.1 hc
        exact (hX41 _).mp hw H locs ls hP hD hS (lv_sub hl [0, 1, 2] rfl)
      · have hw := hw.2 hc
        refine lv_aload_n F.1 F.2.1 dX4_rootOf_19 rfl (lv_at hl 0 rfl) ?_
        refine xi_get (C := RX4) (T := TX4) (N := 16) (v := .ref h0_level) F in_X4_rootOf_X4 hK hP 0 rfl rfl 2 (by decide) fl_X4_rootOf_7 rfl dX4_rootOf_20 ?_
        refine lv_iload_n F.1 F.2.1 dX4_rootOf_23 rfl (lv_at hl 2 rfl) ?_
        obtain ⟨j24, hj, he, hw⟩ := hw
        refine xi_iald (j := j24) F hK hP 1 rfl (by decide) hj he dX4_rootOf_24 ?_
        refine lv_iconst (v := 2) F.1 F.2.1 dX4_rootOf_25 (by decide) ?_
        refine lv_icmp_ne (tgt := 41) F.1 F.2.1 dX4_rootOf_26 (by decide) (fun hc => ?_) (fun hc => ?_)
        · have hw := hw.1 hc
          exact (hX41 _).mp hw H locs ls hP hD hS (lv_sub hl [0, 1, 2] rfl)
        · have hw := hw.2 hc
          refine lv_aload_n F.1 F.2.1 dX4_rootOf_29 rfl (lv_at hl 0 rfl) ?_
          refine xi_get (C := RX4) (T := TX4) (N := 16) (v := .ref h0_key) F in_X4_rootOf_X4 hK hP 0 rfl rfl 6 (by decide) fl_X4_rootOf_22 rfl dX4_rootOf_30 ?_
          refine lv_iload_n F.1 F.2.1 dX4_rootOf_33 rfl (lv_at hl 2 rfl) ?_
          obtain ⟨j34, hj, he, hw⟩ := hw
          refine xi_iald (j := j34) F hK hP 2 rfl (by decide) hj he dX4_rootOf_34 ?_
          refine lv_iload_n F.1 F.2.1 dX4_rootOf_35 rfl (lv_at hl 1 rfl) ?_
          refine lv_icmp_ne (tgt := 41) F.1 F.2.1 dX4_rootOf_36 (by decide) (fun hc => ?_) (fun hc => ?_)
          · have hw := hw.1 hc
            exact (hX41 _).mp hw H locs ls hP hD hS (lv_sub hl [0, 1, 2] rfl)
          · have hw := hw.2 hc
            refine lv_iload_n F.1 F.2.1 dX4_rootOf_39 rfl (lv_at hl 2 rfl) ?_
            exact RET x2 () H locs 40 ls hw hP hD hS dX4_rootOf_40
  · intro x2 hw
    refine (hX41 _).mpr ?_
    intro H locs ls hP hD hS hl
    refine lv_iinc (v := (x2 + 1)) (lv' := [(2, .int (x2 + 1)), (0, .ref h0), (1, .int p1)]) F.1 F.2.1 dX4_rootOf_41 hl (k := 2) rfl rfl (by decide) rfl (fun ls hl => ?_)
    refine lv_goto (tgt := 2) F.1 F.2.1 dX4_rootOf_44 (by decide) ?_
    exact (hX2 _).mp hw H locs ls hP hD hS (lv_sub hl [1, 2, 0] rfl)
  generalize ([] : List Loc) = locs at hS ⊢
  obtain ⟨H, hHe⟩ : ∃ H, H = s.heap := ⟨_, rfl⟩
  have hP : va_P D vwCl (pc_X4_rootOf cs h0 h0_level h0_value h0_tags h0_link h0_key h0_lives h0_open h0_in h0_scores h0_was h0_had n0_thrown n0_objects n0_opened n0_sets b0_hasFamily f0_level f0_key f0_lives) H := by rw [hHe]; exact hP
  have hS : va_S A s.heap H locs := by rw [hHe]; exact hS
  suffices W p l e rm_X4_rootOf s m args below meth c H locs 0 0 Z (F0 m 0 ls []) by rw [hHe] at this; exact this
  refine lv_iconst (v := 0) F.1 F.2.1 dX4_rootOf_0 (by decide) ?_
  refine lv_istore_n (lv' := [(2, .int 0), (0, .ref h0), (1, .int p1)]) F.1 F.2.1 dX4_rootOf_1 rfl hl (by decide) rfl (fun ls hl => ?_)
  exact (hX2 _).mp hw H locs ls hP hD hS (lv_sub hl [1, 2, 0] rfl)

theorem in_X4_empty_X4 : ∀ w ∈ wsX40, w ∈ wsX4_empty := by decide +kernel
theorem fl_X4_empty_59 : Cond.fieldLink RX4 59 "JoinBlocksModel" "sets" "I" ∈ wsX4_empty := by decide +kernel
theorem fl_X4_empty_62 : Cond.fieldLink RX4 62 "JoinBlocksModel" "hasFamily" "Z" ∈ wsX4_empty := by decide +kernel
abbrev pc_X4_empty (cs : Nat → ClassId) (h0 : Nat) (h0_level : Nat) (h0_value : Nat) (h0_tags : Nat) (h0_link : Nat) (h0_key : Nat) (h0_lives : Nat) (h0_open : Nat) (h0_in : Nat) (h0_scores : Nat) (h0_was : Nat) (h0_had : Nat) (n0_thrown : Int32) (n0_objects : Int32) (n0_opened : Int32) (n0_sets : Int32) (b0_hasFamily : Bool) : va_W := [(h0, .inr (4, [.int n0_thrown, .int n0_objects, .ref h0_level, .ref h0_value, .ref h0_tags, .ref h0_link, .ref h0_key, .ref h0_lives, .int n0_opened, .ref h0_open, .int n0_sets, .ref h0_in, .ref h0_scores, .int (b2i b0_hasFamily), .ref h0_was, .ref h0_had]))]
abbrev rm_X4_empty : Room := { frames := 0, cells := 0, slots := 0, locals := 0 }
def call_X4_empty (n0_sets : Int32) (b0_hasFamily : Bool) (Q : Int32 → Bool → Prop) : Prop :=
    Q 0 false
set_option maxHeartbeats 4000000 in
set_option maxRecDepth 100000 in
theorem m_X4_empty (l : Launch) (D : va_G) (cs : Nat → ClassId) (h0 : Nat) (h0_level : Nat) (h0_value : Nat) (h0_tags : Nat) (h0_link : Nat) (h0_key : Nat) (h0_lives : Nat) (h0_open : Nat) (h0_in : Nat) (h0_scores : Nat) (h0_was : Nat) (h0_had : Nat)  (n0_thrown : Int32) (n0_objects : Int32) (n0_opened : Int32) (n0_sets : Int32) (b0_hasFamily : Bool) (Q : Int32 → Bool → Prop) (h : call_X4_empty n0_sets b0_hasFamily Q) : CtV l yX4_empty wsX4_empty rm_X4_empty D cs [.ref h0] (pc_X4_empty cs h0 h0_level h0_value h0_tags h0_link h0_key h0_lives h0_open h0_in h0_scores h0_was h0_had n0_thrown n0_objects n0_opened n0_sets b0_hasFamily) (fun u : Int32 × Bool => (pc_X4_empty cs h0 h0_level h0_value h0_tags h0_link h0_key h0_lives h0_open h0_in h0_scores h0_was h0_had n0_thrown n0_objects n0_opened u.1 u.2)) 0 0 (fun u => Q u.1 u.2) := by
  refine xo_V (S := Int32 × Bool) (cc := cX4_empty) (maxL := 1) (own := RX4) (lv0 := [(0, .ref h0)]) (by decide) rfl rfl (Nat.le_of_ble_eq_true rfl) rfl ?_
  intro p e s m args below meth c A Z ls hnm F hK hA hP hD hS hl RET
  have hw := h
  unfold call_X4_empty at hw
  generalize ([] : List Loc) = locs at hS ⊢
  obtain ⟨H, hHe⟩ : ∃ H, H = s.heap := ⟨_, rfl⟩
  have hP : va_P D vwCl (pc_X4_empty cs h0 h0_level h0_value h0_tags h0_link h0_key h0_lives h0_open h0_in h0_scores h0_was h0_had n0_thrown n0_objects n0_opened n0_sets b0_hasFamily) H := by rw [hHe]; exact hP
  have hS : va_S A s.heap H locs := by rw [hHe]; exact hS
  suffices W p l e rm_X4_empty s m args below meth c H locs 0 0 Z (F0 m 0 ls []) by rw [hHe] at this; exact this
  refine lv_aload_n F.1 F.2.1 dX4_empty_0 rfl (lv_at hl 0 rfl) ?_
  refine lv_iconst (v := 0) F.1 F.2.1 dX4_empty_1 (by decide) ?_
  refine xi_put (C := RX4) (T := TX4) (N := 16) (v := .int 0) (ty := .int) F in_X4_empty_X4 tyX4 tyX4_ok nmX4 hK hP hD hS 0 rfl rfl 10 (by decide) fl_X4_empty_59 rfl (tyX4_ok 10 (by decide)) rfl rfl (Nat.le_of_ble_eq_true rfl) dX4_empty_2 (fun H locs hP hD hS => ?_)
  have hP : va_P D vwCl (pc_X4_empty cs h0 h0_level h0_value h0_tags h0_link h0_key h0_lives h0_open h0_in h0_scores h0_was h0_had n0_thrown n0_objects n0_opened 0 b0_hasFamily) H := hP
  have hD : va_D A (pc_X4_empty cs h0 h0_level h0_value h0_tags h0_link h0_key h0_lives h0_open h0_in h0_scores h0_was h0_had n0_thrown n0_objects n0_opened 0 b0_hasFamily) := hD
  refine lv_aload_n F.1 F.2.1 dX4_empty_5 rfl (lv_at hl 0 rfl) ?_
  refine lv_iconst (v := 0) F.1 F.2.1 dX4_empty_6 (by decide) ?_
  refine xi_put (C := RX4) (T := TX4) (N := 16) (v := .int (b2i false)) (ty := .boolean) F in_X4_empty_X4 tyX4 tyX4_ok nmX4 hK hP hD hS 0 rfl rfl 13 (by decide) fl_X4_empty_62 rfl (tyX4_ok 13 (by decide)) (b2i_narrow _) (b2i_fits _) (Nat.le_of_ble_eq_true rfl) dX4_empty_7 (fun H locs hP hD hS => ?_)
  have hP : va_P D vwCl (pc_X4_empty cs h0 h0_level h0_value h0_tags h0_link h0_key h0_lives h0_open h0_in h0_scores h0_was h0_had n0_thrown n0_objects n0_opened 0 false) H := hP
  have hD : va_D A (pc_X4_empty cs h0 h0_level h0_value h0_tags h0_link h0_key h0_lives h0_open h0_in h0_scores h0_was h0_had n0_thrown n0_objects n0_opened 0 false) := hD
  exact RET (0, false) H locs 10 ls hw hP hD hS dX4_empty_10

theorem in_X4_die_X4 : ∀ w ∈ wsX40, w ∈ wsX4_die := by decide +kernel
theorem fl_X4_die_7 : Cond.fieldLink RX4 7 "JoinBlocksModel" "level" "[I" ∈ wsX4_die := by decide +kernel
theorem fl_X4_die_25 : Cond.fieldLink RX4 25 "JoinBlocksModel" "lives" "[Z" ∈ wsX4_die := by decide +kernel
abbrev pc_X4_die (cs : Nat → ClassId) (h0 : Nat) (h0_level : Nat) (h0_value : Nat) (h0_tags : Nat) (h0_link : Nat) (h0_key : Nat) (h0_lives : Nat) (h0_open : Nat) (h0_in : Nat) (h0_scores : Nat) (h0_was : Nat) (h0_had : Nat) (n0_thrown : Int32) (n0_objects : Int32) (n0_opened : Int32) (n0_sets : Int32) (b0_hasFamily : Bool) (f0_level : Nat → Int32) (f0_lives : Nat → Bool) : va_W := [(h0, .inr (4, [.int n0_thrown, .int n0_objects, .ref h0_level, .ref h0_value, .ref h0_tags, .ref h0_link, .ref h0_key, .ref h0_lives, .int n0_opened, .ref h0_open, .int n0_sets, .ref h0_in, .ref h0_scores, .int (b2i b0_hasFamily), .ref h0_was, .ref h0_had])), (h0_level, .inl (cs 0, 261, .inl f0_level)), (h0_lives, .inl (cs 1, 261, .inl (bF f0_lives)))]
abbrev rm_X4_die : Room := { frames := 1, cells := 0, slots := 0, locals := 20 }
def call_X4_die (p1 : Int32) (n0_sets : Int32) (b0_hasFamily : Bool) (f0_level : Nat → Int32) (f0_lives : Nat → Bool) (Q : Int32 → Int32 → Bool → (Nat → Bool) → Prop) : Prop := ∀ (X4 : Int32 → Int32 → Int32 → Bool → (Nat → Bool) → Prop) (X23 : Int32 → Int32 → Int32 → Bool → (Nat → Bool) → Prop) (X39 : Int32 → Int32 → Bool → (Nat → Bool) → Prop),
    (∀ (x2 : Int32) (x3 : Int32) (n0_sets : Int32) (b0_hasFamily : Bool) (f0_lives : Nat → Bool),
      ((x3 < 0 → X39 x2 n0_sets b0_hasFamily f0_lives) ∧ (¬ x3 < 0 → ((x3 = p1 → X23 x2 x3 n0_sets b0_hasFamily f0_lives) ∧ (¬ x3 = p1 → (∃ j18 : Nat, j18 < 261 ∧ x3 = nI j18 ∧ ((2 ≤ (f0_level j18) → X39 x2 n0_sets b0_hasFamily f0_lives) ∧ (¬ 2 ≤ (f0_level j18) → X23 x2 x3 n0_sets b0_hasFamily f0_lives))))))) → X4 x2 x3 n0_sets b0_hasFamily f0_lives) →
    (∀ (x2 : Int32) (x3 : Int32) (n0_sets : Int32) (b0_hasFamily : Bool) (f0_lives : Nat → Bool),
      (∃ j29 : Nat, j29 < 261 ∧ x3 = nI j29 ∧ X4 (x2 + 1) (x3 + (-1)) n0_sets b0_hasFamily (va_up f0_lives j29 false)) → X23 x2 x3 n0_sets b0_hasFamily f0_lives) →
    (∀ (x2 : Int32) (n0_sets : Int32) (b0_hasFamily : Bool) (f0_lives : Nat → Bool),
      (call_X4_empty n0_sets b0_hasFamily (fun (n0_sets_40 : Int32) (b0_hasFamily_40 : Bool) => Q x2 n0_sets_40 b0_hasFamily_40 f0_lives)) → X39 x2 n0_sets b0_hasFamily f0_lives) →
    X4 0 p1 n0_sets b0_hasFamily f0_lives
set_option maxHeartbeats 4000000 in
set_option maxRecDepth 100000 in
theorem m_X4_die (l : Launch) (D : va_G) (cs : Nat → ClassId) (h0 : Nat) (h0_level : Nat) (h0_value : Nat) (h0_tags : Nat) (h0_link : Nat) (h0_key : Nat) (h0_lives : Nat) (h0_open : Nat) (h0_in : Nat) (h0_scores : Nat) (h0_was : Nat) (h0_had : Nat)  (p1 : Int32) (n0_thrown : Int32) (n0_objects : Int32) (n0_opened : Int32) (n0_sets : Int32) (b0_hasFamily : Bool) (f0_level : Nat → Int32) (f0_lives : Nat → Bool) (Q : Int32 → Int32 → Bool → (Nat → Bool) → Prop) (h : call_X4_die p1 n0_sets b0_hasFamily f0_level f0_lives Q) : CtI l yX4_die wsX4_die rm_X4_die D cs [.ref h0, .int p1] (pc_X4_die cs h0 h0_level h0_value h0_tags h0_link h0_key h0_lives h0_open h0_in h0_scores h0_was h0_had n0_thrown n0_objects n0_opened n0_sets b0_hasFamily f0_level f0_lives) (fun u : Int32 × Bool × (Nat → Bool) => (pc_X4_die cs h0 h0_level h0_value h0_tags h0_link h0_key h0_lives h0_open h0_in h0_scores h0_was h0_had n0_thrown n0_objects n0_opened u.1 u.2.1 f0_level u.2.2)) (fun r u => Q r u.1 u.2.1 u.2.2) := by
  refine xo_I (S := Int32 × Bool × (Nat → Bool)) (cc := cX4_die) (maxL := 4) (own := RX4) (lv0 := [(0, .ref h0), (1, .int p1)]) (by decide) rfl rfl (Nat.le_of_ble_eq_true rfl) rfl ?_
  intro p e s m args below meth c A Z ls F hK hA hP hD hS hl RET
  unfold call_X4_die at h
  obtain ⟨X4, hX4⟩ : ∃ X : Int32 → Int32 → Int32 → Bool → (Nat → Bool) → Prop, ∀ (x2 : Int32) (x3 : Int32) (n0_sets : Int32) (b0_hasFamily : Bool) (f0_lives : Nat → Bool), (X x2 x3 n0_sets b0_hasFamily f0_lives ↔ ∀ (H : Heap) (locs : List Loc) (ls : Array Slot), va_P D vwCl (pc_X4_die cs h0 h0_level h0_value h0_tags h0_link h0_key h0_lives h0_open h0_in h0_scores h0_was h0_had n0_thrown n0_objects n0_opened n0_sets b0_hasFamily f0_level f0_lives) H → va_D A (pc_X4_die cs h0 h0_level h0_value h0_tags h0_link h0_key h0_lives h0_open h0_in h0_scores h0_was h0_had n0_thrown n0_objects n0_opened n0_sets b0_hasFamily f0_level f0_lives) → va_S A s.heap H locs → lv_has ls 4 [(0, .ref h0), (1, .int p1), (2, .int x2), (3, .int x3)] → W p l e rm_X4_die s m args below meth c H locs 0 0 Z (F0 m 4 ls [])) := ⟨_, fun _ _ _ _ _ => Iff.rfl⟩
  obtain ⟨X23, hX23⟩ : ∃ X : Int32 → Int32 → Int32 → Bool → (Nat → Bool) → Prop, ∀ (x2 : Int32) (x3 : Int32) (n0_sets : Int32) (b0_hasFamily : Bool) (f0_lives : Nat → Bool), (X x2 x3 n0_sets b0_hasFamily f0_lives ↔ ∀ (H : Heap) (locs : List Loc) (ls : Array Slot), va_P D vwCl (pc_X4_die cs h0 h0_level h0_value h0_tags h0_link h0_key h0_lives h0_open h0_in h0_scores h0_was h0_had n0_thrown n0_objects n0_opened n0_sets b0_hasFamily f0_level f0_lives) H → va_D A (pc_X4_die cs h0 h0_level h0_value h0_tags h0_link h0_key h0_lives h0_open h0_in h0_scores h0_was h0_had n0_thrown n0_objects n0_opened n0_sets b0_hasFamily f0_level f0_lives) → va_S A s.heap H locs → lv_has ls 4 [(0, .ref h0), (1, .int p1), (2, .int x2), (3, .int x3)] → W p l e rm_X4_die s m args below meth c H locs 0 0 Z (F0 m 23 ls [])) := ⟨_, fun _ _ _ _ _ => Iff.rfl⟩
  obtain ⟨X39, hX39⟩ : ∃ X : Int32 → Int32 → Bool → (Nat → Bool) → Prop, ∀ (x2 : Int32) (n0_sets : Int32) (b0_hasFamily : Bool) (f0_lives : Nat → Bool), (X x2 n0_sets b0_hasFamily f0_lives ↔ ∀ (H : Heap) (locs : List Loc) (ls : Array Slot), va_P D vwCl (pc_X4_die cs h0 h0_level h0_value h0_tags h0_link h0_key h0_lives h0_open h0_in h0_scores h0_was h0_had n0_thrown n0_objects n0_opened n0_sets b0_hasFamily f0_level f0_lives) H → va_D A (pc_X4_die cs h0 h0_level h0_value h0_tags h0_link h0_key h0_lives h0_open h0_in h0_scores h0_was h0_had n0_thrown n0_objects n0_opened n0_sets b0_hasFamily f0_level f0_lives) → va_S A s.heap H locs → lv_has ls 4 [(0, .ref h0), (2, .int x2)] → W p l e rm_X4_die s m args below meth c H locs 0 0 Z (F0 m 39 ls [])) := ⟨_, fun _ _ _ _ => Iff.rfl⟩
  refine xt_cut (h X4 X23 X39 ?_ ?_ ?_) (fun hw => ?_)
  · intro x2 x3 n0_sets b0_hasFamily f0_lives hw
    refine (hX4 _ _ _ _ _).mpr ?_
    intro H locs ls hP hD hS hl
    refine lv_iload_n F.1 F.2.1 dX4_die_4 rfl (lv_at hl 3 rfl) ?_
    refine lv_if_lt (tgt := 39) F.1 F.2.1 dX4_die_5 (by decide) (fun hc => ?_) (fun hc => ?_)
    · have hw := hw.1 hc
      exact (hX39 _ _ _ _).mp hw H locs ls hP hD hS (lv_sub hl [0, 2] rfl)
    · have hw := hw.2 hc
      refine lv_iload_n F.1 F.2.1 dX4_die_8 rfl (lv_at hl 3 rfl) ?_
      refine lv_iload_n F.1 F.2.1 dX4_die_9 rfl (lv_at hl 1 rfl) ?_
      refine lv_icmp_eq (tgt := 23) F.1 F.2.1 dX4_die_10 (by decide) (fun hc => ?_) (fun hc => ?_)
      · have hw := hw.1 hc
        exact (hX23 _ _ _ _ _).mp hw H locs ls hP hD hS (lv_sub hl [0, 1, 2, 3] rfl)
      · have hw := hw.2 hc
        refine lv_aload_n F.1 F.2.1 dX4_die_13 rfl (lv_at hl 0 rfl) ?_
        refine xi_get (C := RX4) (T := TX4) (N := 16) (v := .ref h0_level) F in_X4_die_X4 hK hP 0 rfl rfl 2 (by decide) fl_X4_die_7 rfl dX4_die_14 ?_
        refine lv_iload_n F.1 F.2.1 dX4_die_17 rfl (lv_at hl 3 rfl) ?_
        obtain ⟨j18, hj, he, hw⟩ := hw
        refine xi_iald (j := j18) F hK hP 1 rfl (by decide) hj he dX4_die_18 ?_
        refine lv_iconst (v := 2) F.1 F.2.1 dX4_die_19 (by decide) ?_
        refine lv_icmp_ge (tgt := 39) F.1 F.2.1 dX4_die_20 (by decide) (fun hc => ?_) (fun hc => ?_)
        · have hw := hw.1 hc
          exact (hX39 _ _ _ _).mp hw H locs ls hP hD hS (lv_sub hl [0, 2] rfl)
        · have hw := hw.2 hc
          exact (hX23 _ _ _ _ _).mp hw H locs ls hP hD hS (lv_sub hl [0, 1, 2, 3] rfl)
  · intro x2 x3 n0_sets b0_hasFamily f0_lives hw
    refine (hX23 _ _ _ _ _).mpr ?_
    intro H locs ls hP hD hS hl
    refine lv_aload_n F.1 F.2.1 dX4_die_23 rfl (lv_at hl 0 rfl) ?_
    refine xi_get (C := RX4) (T := TX4) (N := 16) (v := .ref h0_lives) F in_X4_die_X4 hK hP 0 rfl rfl 7 (by decide) fl_X4_die_25 rfl dX4_die_24 ?_
    refine lv_iload_n F.1 F.2.1 dX4_die_27 rfl (lv_at hl 3 rfl) ?_
    refine lv_iconst (v := 0) F.1 F.2.1 dX4_die_28 (by decide) ?_
    obtain ⟨j29, hj, he, hw⟩ := hw
    refine xi_zast (v := false) (j := j29) F hK hP hD hS 2 rfl (by decide) hj he rfl dX4_die_29 (fun H locs hP hD hS => ?_)
    have hP : va_P D vwCl (pc_X4_die cs h0 h0_level h0_value h0_tags h0_link h0_key h0_lives h0_open h0_in h0_scores h0_was h0_had n0_thrown n0_objects n0_opened n0_sets b0_hasFamily f0_level (va_up f0_lives j29 false)) H := hP
    have hD : va_D A (pc_X4_die cs h0 h0_level h0_value h0_tags h0_link h0_key h0_lives h0_open h0_in h0_scores h0_was h0_had n0_thrown n0_objects n0_opened n0_sets b0_hasFamily f0_level (va_up f0_lives j29 false)) := hD
    refine lv_iinc (v := (x2 + 1)) (lv' := [(2, .int (x2 + 1)), (0, .ref h0), (1, .int p1), (3, .int x3)]) F.1 F.2.1 dX4_die_30 hl (k := 2) rfl rfl (by decide) rfl (fun ls hl => ?_)
    refine lv_iinc (v := (x3 + (-1))) (lv' := [(3, .int (x3 + (-1))), (2, .int (x2 + 1)), (0, .ref h0), (1, .int p1)]) F.1 F.2.1 dX4_die_33 hl (k := 3) rfl rfl (by decide) rfl (fun ls hl => ?_)
    refine lv_goto (tgt := 4) F.1 F.2.1 dX4_die_36 (by decide) ?_
    exact (hX4 _ _ _ _ _).mp hw H locs ls hP hD hS (lv_sub hl [2, 3, 1, 0] rfl)
  · intro x2 n0_sets b0_hasFamily f0_lives hw
    refine (hX39 _ _ _ _).mpr ?_
    intro H locs ls hP hD hS hl
    refine lv_aload_n F.1 F.2.1 dX4_die_39 rfl (lv_at hl 0 rfl) ?_
    refine xc_Vv (As := []) (rest := []) (m_X4_empty l D cs h0 h0_level h0_value h0_tags h0_link h0_key h0_lives h0_open h0_in h0_scores h0_was h0_had n0_thrown n0_objects n0_opened n0_sets b0_hasFamily _ hw) F (cwV 0 F.2.2.2.2 gX4_die_X4_empty rfl rfl rfl (by decide +kernel) ⟨Nat.le_of_ble_eq_true rfl, Nat.le_of_ble_eq_true rfl⟩) hK hP hD hS hA [0] [1, 2] rfl rfl 0 rfl rfl rfl hl.1 rfl (Nat.le_of_ble_eq_true rfl) dX4_die_40 ⟨Nat.zero_le _, Nat.zero_le _⟩ (fun u H locs hw hP hD hS => ?_)
    obtain ⟨n0_sets_40, b0_hasFamily_40⟩ := u
    have hP : va_P D vwCl (pc_X4_die cs h0 h0_level h0_value h0_tags h0_link h0_key h0_lives h0_open h0_in h0_scores h0_was h0_had n0_thrown n0_objects n0_opened n0_sets_40 b0_hasFamily_40 f0_level f0_lives) H := hP.sub [2, 0, 1] rfl
    have hD : va_D A (pc_X4_die cs h0 h0_level h0_value h0_tags h0_link h0_key h0_lives h0_open h0_in h0_scores h0_was h0_had n0_thrown n0_objects n0_opened n0_sets_40 b0_hasFamily_40 f0_level f0_lives) := hD.sub [2, 0, 1] (by decide) rfl
    try dsimp only at hw
    refine lv_iload_n F.1 F.2.1 dX4_die_43 rfl (lv_at hl 1 rfl) ?_
    exact RET x2 (n0_sets_40, b0_hasFamily_40, f0_lives) H locs 44 ls hw hP hD hS dX4_die_44
  generalize ([] : List Loc) = locs at hS ⊢
  obtain ⟨H, hHe⟩ : ∃ H, H = s.heap := ⟨_, rfl⟩
  have hP : va_P D vwCl (pc_X4_die cs h0 h0_level h0_value h0_tags h0_link h0_key h0_lives h0_open h0_in h0_scores h0_was h0_had n0_thrown n0_objects n0_opened n0_sets b0_hasFamily f0_level f0_lives) H := by rw [hHe]; exact hP
  have hS : va_S A s.heap H locs := by rw [hHe]; exact hS
  suffices W p l e rm_X4_die s m args below meth c H locs 0 0 Z (F0 m 0 ls []) by rw [hHe] at this; exact this
  refine lv_iconst (v := 0) F.1 F.2.1 dX4_die_0 (by decide) ?_
  refine lv_istore_n (lv' := [(2, .int 0), (0, .ref h0), (1, .int p1)]) F.1 F.2.1 dX4_die_1 rfl hl (by decide) rfl (fun ls hl => ?_)
  refine lv_iload_n F.1 F.2.1 dX4_die_2 rfl (lv_at hl 2 rfl) ?_
  refine lv_istore_n (lv' := [(3, .int p1), (2, .int 0), (0, .ref h0), (1, .int p1)]) F.1 F.2.1 dX4_die_3 rfl hl (by decide) rfl (fun ls hl => ?_)
  exact (hX4 _ _ _ _ _).mp hw H locs ls hP hD hS (lv_sub hl [2, 3, 1, 0] rfl)

theorem in_X4_close_X4 : ∀ w ∈ wsX40, w ∈ wsX4_close := by decide +kernel
theorem fl_X4_close_56 : Cond.fieldLink RX4 56 "JoinBlocksModel" "opened" "I" ∈ wsX4_close := by decide +kernel
theorem fl_X4_close_49 : Cond.fieldLink RX4 49 "JoinBlocksModel" "objects" "I" ∈ wsX4_close := by decide +kernel
theorem fl_X4_close_29 : Cond.fieldLink RX4 29 "JoinBlocksModel" "open" "[I" ∈ wsX4_close := by decide +kernel
theorem fl_X4_close_45 : Cond.fieldLink RX4 45 "JoinBlocksModel" "thrown" "I" ∈ wsX4_close := by decide +kernel
abbrev pc_X4_close (cs : Nat → ClassId) (h0 : Nat) (h0_level : Nat) (h0_value : Nat) (h0_tags : Nat) (h0_link : Nat) (h0_key : Nat) (h0_lives : Nat) (h0_open : Nat) (h0_in : Nat) (h0_scores : Nat) (h0_was : Nat) (h0_had : Nat) (n0_thrown : Int32) (n0_objects : Int32) (n0_opened : Int32) (n0_sets : Int32) (b0_hasFamily : Bool) (f0_level : Nat → Int32) (f0_value : Nat → Int32) (f0_tags : Nat → Int32) (f0_link : Nat → Int32) (f0_key : Nat → Int32) (f0_lives : Nat → Bool) (f0_open : Nat → Int32) (f0_in : Nat → Bool) : va_W := [(h0, .inr (4, [.int n0_thrown, .int n0_objects, .ref h0_level, .ref h0_value, .ref h0_tags, .ref h0_link, .ref h0_key, .ref h0_lives, .int n0_opened, .ref h0_open, .int n0_sets, .ref h0_in, .ref h0_scores, .int (b2i b0_hasFamily), .ref h0_was, .ref h0_had])), (h0_level, .inl (cs 0, 261, .inl f0_level)), (h0_value, .inl (cs 0, 261, .inl f0_value)), (h0_tags, .inl (cs 0, 261, .inl f0_tags)), (h0_link, .inl (cs 0, 261, .inl f0_link)), (h0_key, .inl (cs 0, 261, .inl f0_key)), (h0_lives, .inl (cs 1, 261, .inl (bF f0_lives))), (h0_open, .inl (cs 0, 240, .inl f0_open)), (h0_in, .inl (cs 1, 1800, .inl (bF f0_in)))]
abbrev rm_X4_close : Room := { frames := 2, cells := 0, slots := 0, locals := 43 }
def call_X4_close (p1 : Int32) (p2 : Int32) (p3 : Int32) (p4 : Int32) (n0_thrown : Int32) (n0_objects : Int32) (n0_opened : Int32) (n0_sets : Int32) (b0_hasFamily : Bool) (f0_level : Nat → Int32) (f0_value : Nat → Int32) (f0_tags : Nat → Int32) (f0_link : Nat → Int32) (f0_key : Nat → Int32) (f0_lives : Nat → Bool) (f0_open : Nat → Int32) (f0_in : Nat → Bool) (Q : Int32 → Int32 → Int32 → Int32 → Int32 → Bool → (Nat → Int32) → (Nat → Int32) → (Nat → Int32) → (Nat → Int32) → (Nat → Int32) → (Nat → Bool) → (Nat → Bool) → Prop) : Prop := ∀ (X52 : Int32 → Int32 → Int32 → Int32 → Bool → (Nat → Int32) → (Nat → Int32) → (Nat → Int32) → (Nat → Int32) → (Nat → Int32) → (Nat → Bool) → (Nat → Bool) → Prop) (X94 : Int32 → Int32 → Int32 → Int32 → Bool → (Nat → Int32) → (Nat → Int32) → (Nat → Int32) → (Nat → Int32) → (Nat → Int32) → (Nat → Bool) → (Nat → Bool) → Prop) (X97 : Int32 → Int32 → Int32 → Int32 → Int32 → Bool → (Nat → Int32) → (Nat → Int32) → (Nat → Int32) → (Nat → Int32) → (Nat → Int32) → (Nat → Bool) → (Nat → Bool) → Prop),
    (∀ (n0_thrown : Int32) (n0_objects : Int32) (n0_opened : Int32) (n0_sets : Int32) (b0_hasFamily : Bool) (f0_level : Nat → Int32) (f0_value : Nat → Int32) (f0_tags : Nat → Int32) (f0_link : Nat → Int32) (f0_key : Nat → Int32) (f0_lives : Nat → Bool) (f0_in : Nat → Bool),
      Q (-2) n0_thrown n0_objects n0_opened n0_sets b0_hasFamily f0_level f0_value f0_tags f0_link f0_key f0_lives f0_in → X52 n0_thrown n0_objects n0_opened n0_sets b0_hasFamily f0_level f0_value f0_tags f0_link f0_key f0_lives f0_in) →
    (∀ (n0_thrown : Int32) (n0_objects : Int32) (n0_opened : Int32) (n0_sets : Int32) (b0_hasFamily : Bool) (f0_level : Nat → Int32) (f0_value : Nat → Int32) (f0_tags : Nat → Int32) (f0_link : Nat → Int32) (f0_key : Nat → Int32) (f0_lives : Nat → Bool) (f0_in : Nat → Bool),
      X97 0 n0_thrown n0_objects n0_opened n0_sets b0_hasFamily f0_level f0_value f0_tags f0_link f0_key f0_lives f0_in → X94 n0_thrown n0_objects n0_opened n0_sets b0_hasFamily f0_level f0_value f0_tags f0_link f0_key f0_lives f0_in) →
    (∀ (x6 : Int32) (n0_thrown : Int32) (n0_objects : Int32) (n0_opened : Int32) (n0_sets : Int32) (b0_hasFamily : Bool) (f0_level : Nat → Int32) (f0_value : Nat → Int32) (f0_tags : Nat → Int32) (f0_link : Nat → Int32) (f0_key : Nat → Int32) (f0_lives : Nat → Bool) (f0_in : Nat → Bool),
      ((n0_opened ≤ x6 → (call_X4_stand 2 p2 p3 p4 p1 n0_objects f0_level f0_value f0_tags f0_link f0_key f0_lives f0_in (fun (n0_objects_172 : Int32) (f0_level_172 : Nat → Int32) (f0_value_172 : Nat → Int32) (f0_tags_172 : Nat → Int32) (f0_link_172 : Nat → Int32) (f0_key_172 : Nat → Int32) (f0_lives_172 : Nat → Bool) (f0_in_172 : Nat → Bool) => Q (n0_objects_172 - 1) n0_thrown n0_objects_172 0 n0_sets b0_hasFamily f0_level_172 f0_value_172 f0_tags_172 f0_link_172 f0_key_172 f0_lives_172 f0_in_172))) ∧ (¬ n0_opened ≤ x6 → (∃ j115 : Nat, j115 < 240 ∧ (4 * x6) = nI j115 ∧ (∃ j126 : Nat, j126 < 240 ∧ ((4 * x6) + 1) = nI j126 ∧ (∃ j137 : Nat, j137 < 240 ∧ ((4 * x6) + 2) = nI j137 ∧ (∃ j148 : Nat, j148 < 240 ∧ ((4 * x6) + 3) = nI j148 ∧ (call_X4_stand (f0_open j115) (f0_open j126) (f0_open j137) (f0_open j148) (-3) n0_objects f0_level f0_value f0_tags f0_link f0_key f0_lives f0_in (fun (n0_objects_151 : Int32) (f0_level_151 : Nat → Int32) (f0_value_151 : Nat → Int32) (f0_tags_151 : Nat → Int32) (f0_link_151 : Nat → Int32) (f0_key_151 : Nat → Int32) (f0_lives_151 : Nat → Bool) (f0_in_151 : Nat → Bool) => X97 (x6 + 1) n0_thrown n0_objects_151 n0_opened n0_sets b0_hasFamily f0_level_151 f0_value_151 f0_tags_151 f0_link_151 f0_key_151 f0_lives_151 f0_in_151)))))))) → X97 x6 n0_thrown n0_objects n0_opened n0_sets b0_hasFamily f0_level f0_value f0_tags f0_link f0_key f0_lives f0_in) →
    (call_X4_isIn p1 0 999 (fun (r10 : Bool) => ((r10 = false → X52 0 n0_objects n0_opened n0_sets b0_hasFamily f0_level f0_value f0_tags f0_link f0_key f0_lives f0_in) ∧ (r10 = true → (call_X4_isIn p2 (-1000) 1000 (fun (r23 : Bool) => ((r23 = false → X52 0 n0_objects n0_opened n0_sets b0_hasFamily f0_level f0_value f0_tags f0_link f0_key f0_lives f0_in) ∧ (r23 = true → (call_X4_isIn p3 0 255 (fun (r34 : Bool) => ((r34 = false → X52 0 n0_objects n0_opened n0_sets b0_hasFamily f0_level f0_value f0_tags f0_link f0_key f0_lives f0_in) ∧ (r34 = true → (call_X4_isIn p4 (-1) 999 (fun (r46 : Bool) => ((r46 = true → ((((n0_objects + n0_opened) + 1) ≤ 200 → (call_X4_rootOf p1 n0_objects f0_level f0_key f0_lives (fun (r77 : Int32) => ((r77 < 0 → X94 0 n0_objects n0_opened n0_sets b0_hasFamily f0_level f0_value f0_tags f0_link f0_key f0_lives f0_in) ∧ (¬ r77 < 0 → (call_X4_die r77 n0_sets b0_hasFamily f0_level f0_lives (fun (r90 : Int32) (n0_sets_90 : Int32) (b0_hasFamily_90 : Bool) (f0_lives_90 : Nat → Bool) => X94 0 n0_objects n0_opened n0_sets_90 b0_hasFamily_90 f0_level f0_value f0_tags f0_link f0_key f0_lives_90 f0_in))))))) ∧ (¬ ((n0_objects + n0_opened) + 1) ≤ 200 → Q (-4) 0 n0_objects n0_opened n0_sets b0_hasFamily f0_level f0_value f0_tags f0_link f0_key f0_lives f0_in))) ∧ (r46 = false → X52 0 n0_objects n0_opened n0_sets b0_hasFamily f0_level f0_value f0_tags f0_link f0_key f0_lives f0_in))))))))))))))))
set_option maxHeartbeats 4000000 in
set_option maxRecDepth 100000 in
theorem m_X4_close (l : Launch) (D : va_G) (cs : Nat → ClassId) (h0 : Nat) (h0_level : Nat) (h0_value : Nat) (h0_tags : Nat) (h0_link : Nat) (h0_key : Nat) (h0_lives : Nat) (h0_open : Nat) (h0_in : Nat) (h0_scores : Nat) (h0_was : Nat) (h0_had : Nat)  (p1 : Int32) (p2 : Int32) (p3 : Int32) (p4 : Int32) (n0_thrown : Int32) (n0_objects : Int32) (n0_opened : Int32) (n0_sets : Int32) (b0_hasFamily : Bool) (f0_level : Nat → Int32) (f0_value : Nat → Int32) (f0_tags : Nat → Int32) (f0_link : Nat → Int32) (f0_key : Nat → Int32) (f0_lives : Nat → Bool) (f0_open : Nat → Int32) (f0_in : Nat → Bool) (Q : Int32 → Int32 → Int32 → Int32 → Int32 → Bool → (Nat → Int32) → (Nat → Int32) → (Nat → Int32) → (Nat → Int32) → (Nat → Int32) → (Nat → Bool) → (Nat → Bool) → Prop) (h : call_X4_close p1 p2 p3 p4 n0_thrown n0_objects n0_opened n0_sets b0_hasFamily f0_level f0_value f0_tags f0_link f0_key f0_lives f0_open f0_in Q) : CtI l yX4_close wsX4_close rm_X4_close D cs [.ref h0, .int p1, .int p2, .int p3, .int p4] (pc_X4_close cs h0 h0_level h0_value h0_tags h0_link h0_key h0_lives h0_open h0_in h0_scores h0_was h0_had n0_thrown n0_objects n0_opened n0_sets b0_hasFamily f0_level f0_value f0_tags f0_link f0_key f0_lives f0_open f0_in) (fun u : Int32 × Int32 × Int32 × Int32 × Bool × (Nat → Int32) × (Nat → Int32) × (Nat → Int32) × (Nat → Int32) × (Nat → Int32) × (Nat → Bool) × (Nat → Bool) => (pc_X4_close cs h0 h0_level h0_value h0_tags h0_link h0_key h0_lives h0_open h0_in h0_scores h0_was h0_had u.1 u.2.1 u.2.2.1 u.2.2.2.1 u.2.2.2.2.1 u.2.2.2.2.2.1 u.2.2.2.2.2.2.1 u.2.2.2.2.2.2.2.1 u.2.2.2.2.2.2.2.2.1 u.2.2.2.2.2.2.2.2.2.1 u.2.2.2.2.2.2.2.2.2.2.1 f0_open u.2.2.2.2.2.2.2.2.2.2.2)) (fun r u => Q r u.1 u.2.1 u.2.2.1 u.2.2.2.1 u.2.2.2.2.1 u.2.2.2.2.2.1 u.2.2.2.2.2.2.1 u.2.2.2.2.2.2.2.1 u.2.2.2.2.2.2.2.2.1 u.2.2.2.2.2.2.2.2.2.1 u.2.2.2.2.2.2.2.2.2.2.1 u.2.2.2.2.2.2.2.2.2.2.2) := by
  refine xo_I (S := Int32 × Int32 × Int32 × Int32 × Bool × (Nat → Int32) × (Nat → Int32) × (Nat → Int32) × (Nat → Int32) × (Nat → Int32) × (Nat → Bool) × (Nat → Bool)) (cc := cX4_close) (maxL := 7) (own := RX4) (lv0 := [(0, .ref h0), (1, .int p1), (2, .int p2), (3, .int p3), (4, .int p4)]) (by decide) rfl rfl (Nat.le_of_ble_eq_true rfl) rfl ?_
  intro p e s m args below meth c A Z ls F hK hA hP hD hS hl RET
  unfold call_X4_close at h
  obtain ⟨X52, hX52⟩ : ∃ X : Int32 → Int32 → Int32 → Int32 → Bool → (Nat → Int32) → (Nat → Int32) → (Nat → Int32) → (Nat → Int32) → (Nat → Int32) → (Nat → Bool) → (Nat → Bool) → Prop, ∀ (n0_thrown : Int32) (n0_objects : Int32) (n0_opened : Int32) (n0_sets : Int32) (b0_hasFamily : Bool) (f0_level : Nat → Int32) (f0_value : Nat → Int32) (f0_tags : Nat → Int32) (f0_link : Nat → Int32) (f0_key : Nat → Int32) (f0_lives : Nat → Bool) (f0_in : Nat → Bool), (X n0_thrown n0_objects n0_opened n0_sets b0_hasFamily f0_level f0_value f0_tags f0_link f0_key f0_lives f0_in ↔ ∀ (H : Heap) (locs : List Loc) (ls : Array Slot), va_P D vwCl (pc_X4_close cs h0 h0_level h0_value h0_tags h0_link h0_key h0_lives h0_open h0_in h0_scores h0_was h0_had n0_thrown n0_objects n0_opened n0_sets b0_hasFamily f0_level f0_value f0_tags f0_link f0_key f0_lives f0_open f0_in) H → va_D A (pc_X4_close cs h0 h0_level h0_value h0_tags h0_link h0_key h0_lives h0_open h0_in h0_scores h0_was h0_had n0_thrown n0_objects n0_opened n0_sets b0_hasFamily f0_level f0_value f0_tags f0_link f0_key f0_lives f0_open f0_in) → va_S A s.heap H locs → lv_has ls 7 [] → W p l e rm_X4_close s m args below meth c H locs 0 0 Z (F0 m 52 ls [])) := ⟨_, fun _ _ _ _ _ _ _ _ _ _ _ _ => Iff.rfl⟩
  obtain ⟨X94, hX94⟩ : ∃ X : Int32 → Int32 → Int32 → Int32 → Bool → (Nat → Int32) → (Nat → Int32) → (Nat → Int32) → (Nat → Int32) → (Nat → Int32) → (Nat → Bool) → (Nat → Bool) → Prop, ∀ (n0_thrown : Int32) (n0_objects : Int32) (n0_opened : Int32) (n0_sets : Int32) (b0_hasFamily : Bool) (f0_level : Nat → Int32) (f0_value : Nat → Int32) (f0_tags : Nat → Int32) (f0_link : Nat → Int32) (f0_key : Nat → Int32) (f0_lives : Nat → Bool) (f0_in : Nat → Bool), (X n0_thrown n0_objects n0_opened n0_sets b0_hasFamily f0_level f0_value f0_tags f0_link f0_key f0_lives f0_in ↔ ∀ (H : Heap) (locs : List Loc) (ls : Array Slot), va_P D vwCl (pc_X4_close cs h0 h0_level h0_value h0_tags h0_link h0_key h0_lives h0_open h0_in h0_scores h0_was h0_had n0_thrown n0_objects n0_opened n0_sets b0_hasFamily f0_level f0_value f0_tags f0_link f0_key f0_lives f0_open f0_in) H → va_D A (pc_X4_close cs h0 h0_level h0_value h0_tags h0_link h0_key h0_lives h0_open h0_in h0_scores h0_was h0_had n0_thrown n0_objects n0_opened n0_sets b0_hasFamily f0_level f0_value f0_tags f0_link f0_key f0_lives f0_open f0_in) → va_S A s.heap H locs → lv_has ls 7 [(0, .ref h0), (1, .int p1), (2, .int p2), (3, .int p3), (4, .int p4)] → W p l e rm_X4_close s m args below meth c H locs 0 0 Z (F0 m 94 ls [])) := ⟨_, fun _ _ _ _ _ _ _ _ _ _ _ _ => Iff.rfl⟩
  obtain ⟨X97, hX97⟩ : ∃ X : Int32 → Int32 → Int32 → Int32 → Int32 → Bool → (Nat → Int32) → (Nat → Int32) → (Nat → Int32) → (Nat → Int32) → (Nat → Int32) → (Nat → Bool) → (Nat → Bool) → Prop, ∀ (x6 : Int32) (n0_thrown : Int32) (n0_objects : Int32) (n0_opened : Int32) (n0_sets : Int32) (b0_hasFamily : Bool) (f0_level : Nat → Int32) (f0_value : Nat → Int32) (f0_tags : Nat → Int32) (f0_link : Nat → Int32) (f0_key : Nat → Int32) (f0_lives : Nat → Bool) (f0_in : Nat → Bool), (X x6 n0_thrown n0_objects n0_opened n0_sets b0_hasFamily f0_level f0_value f0_tags f0_link f0_key f0_lives f0_in ↔ ∀ (H : Heap) (locs : List Loc) (ls : Array Slot), va_P D vwCl (pc_X4_close cs h0 h0_level h0_value h0_tags h0_link h0_key h0_lives h0_open h0_in h0_scores h0_was h0_had n0_thrown n0_objects n0_opened n0_sets b0_hasFamily f0_level f0_value f0_tags f0_link f0_key f0_lives f0_open f0_in) H → va_D A (pc_X4_close cs h0 h0_level h0_value h0_tags h0_link h0_key h0_lives h0_open h0_in h0_scores h0_was h0_had n0_thrown n0_objects n0_opened n0_sets b0_hasFamily f0_level f0_value f0_tags f0_link f0_key f0_lives f0_open f0_in) → va_S A s.heap H locs → lv_has ls 7 [(0, .ref h0), (1, .int p1), (2, .int p2), (3, .int p3), (4, .int p4), (6, .int x6)] → W p l e rm_X4_close s m args below meth c H locs 0 0 Z (F0 m 97 ls [])) := ⟨_, fun _ _ _ _ _ _ _ _ _ _ _ _ _ => Iff.rfl⟩
  refine xt_cut (h X52 X94 X97 ?_ ?_ ?_) (fun hw => ?_)
  · intro n0_thrown n0_objects n0_opened n0_sets b0_hasFamily f0_level f0_value f0_tags f0_link f0_key f0_lives f0_in hw
    refine (hX52 _ _ _ _ _ _ _ _ _ _ _ _).mpr ?_
    intro H locs ls hP hD hS hl
    refine lv_bipush (v := (-2)) F.1 F.2.1 dX4_close_52 (by decide) ?_
    exact RET (-2) (n0_thrown, n0_objects, n0_opened, n0_sets, b0_hasFamily, f0_level, f0_value, f0_tags, f0_link, f0_key, f0_lives, f0_in) H locs 54 ls hw hP hD hS dX4_close_54
  · intro n0_thrown n0_objects n0_opened n0_sets b0_hasFamily f0_level f0_value f0_tags f0_link f0_key f0_lives f0_in hw
    refine (hX94 _ _ _ _ _ _ _ _ _ _ _ _).mpr ?_
    intro H locs ls hP hD hS hl
    refine lv_iconst (v := 0) F.1 F.2.1 dX4_close_94 (by decide) ?_
    refine lv_istore (lv' := [(6, .int 0), (0, .ref h0), (1, .int p1), (2, .int p2), (3, .int p3), (4, .int p4)]) F.1 F.2.1 dX4_close_95 hl (by decide) rfl (fun ls hl => ?_)
    exact (hX97 _ _ _ _ _ _ _ _ _ _ _ _ _).mp hw H locs ls hP hD hS (lv_sub hl [1, 2, 3, 4, 5, 0] rfl)
  · intro x6 n0_thrown n0_objects n0_opened n0_sets b0_hasFamily f0_level f0_value f0_tags f0_link f0_key f0_lives f0_in hw
    refine (hX97 _ _ _ _ _ _ _ _ _ _ _ _ _).mpr ?_
    intro H locs ls hP hD hS hl
    refine lv_iload F.1 F.2.1 dX4_close_97 (lv_at hl 5 rfl) ?_
    refine lv_aload_n F.1 F.2.1 dX4_close_99 rfl (lv_at hl 0 rfl) ?_
    refine xi_get (C := RX4) (T := TX4) (N := 16) (v := .int n0_opened) F in_X4_close_X4 hK hP 0 rfl rfl 8 (by decide) fl_X4_close_56 rfl dX4_close_100 ?_
    refine lv_icmp_ge (tgt := 160) F.1 F.2.1 dX4_close_103 (by decide) (fun hc => ?_) (fun hc => ?_)
    · have hw := hw.1 hc
      refine lv_aload_n F.1 F.2.1 dX4_close_160 rfl (lv_at hl 0 rfl) ?_
      refine lv_iconst (v := 0) F.1 F.2.1 dX4_close_161 (by decide) ?_
      refine xi_put (C := RX4) (T := TX4) (N := 16) (v := .int 0) (ty := .int) F in_X4_close_X4 tyX4 tyX4_ok nmX4 hK hP hD hS 0 rfl rfl 8 (by decide) fl_X4_close_56 rfl (tyX4_ok 8 (by decide)) rfl rfl (Nat.le_of_ble_eq_true rfl) dX4_close_162 (fun H locs hP hD hS => ?_)
      have hP : va_P D vwCl (pc_X4_close cs h0 h0_level h0_value h0_tags h0_link h0_key h0_lives h0_open h0_in h0_scores h0_was h0_had n0_thrown n0_objects 0 n0_sets b0_hasFamily f0_level f0_value f0_tags f0_link f0_key f0_lives f0_open f0_in) H := hP
      have hD : va_D A (pc_X4_close cs h0 h0_level h0_value h0_tags h0_link h0_key h0_lives h0_open h0_in h0_scores h0_was h0_had n0_thrown n0_objects 0 n0_sets b0_hasFamily f0_level f0_value f0_tags f0_link f0_key f0_lives f0_open f0_in) := hD
      refine lv_aload_n F.1 F.2.1 dX4_close_165 rfl (lv_at hl 0 rfl) ?_
      refine lv_iconst (v := 2) F.1 F.2.1 dX4_close_166 (by decide) ?_
      refine lv_iload_n F.1 F.2.1 dX4_close_167 rfl (lv_at hl 2 rfl) ?_
      refine lv_iload_n F.1 F.2.1 dX4_close_168 rfl (lv_at hl 3 rfl) ?_
      refine lv_iload F.1 F.2.1 dX4_close_169 (lv_at hl 4 rfl) ?_
      refine lv_iload_n F.1 F.2.1 dX4_close_171 rfl (lv_at hl 1 rfl) ?_
      refine xc_Vv (As := [.int 2, .int p2, .int p3, .int p4, .int p1]) (rest := []) (m_X4_stand l D cs h0 h0_level h0_value h0_tags h0_link h0_key h0_lives h0_open h0_in h0_scores h0_was h0_had 2 p2 p3 p4 p1 n0_thrown n0_objects 0 n0_sets b0_hasFamily f0_level f0_value f0_tags f0_link f0_key f0_lives f0_in _ hw) F (cwV 5 F.2.2.2.2 gX4_close_X4_stand rfl rfl rfl (by decide +kernel) ⟨Nat.le_of_ble_eq_true rfl, Nat.le_of_ble_eq_true rfl⟩) hK hP hD hS hA [0, 1, 2, 3, 4, 5, 6, 8] [7] rfl rfl 0 rfl rfl rfl hl.1 rfl (Nat.le_of_ble_eq_true rfl) dX4_close_172 ⟨Nat.zero_le _, Nat.zero_le _⟩ (fun u H locs hw hP hD hS => ?_)
      obtain ⟨n0_objects_172, f0_level_172, f0_value_172, f0_tags_172, f0_link_172, f0_key_172, f0_lives_172, f0_in_172⟩ := u
      have hP : va_P D vwCl (pc_X4_close cs h0 h0_level h0_value h0_tags h0_link h0_key h0_lives h0_open h0_in h0_scores h0_was h0_had n0_thrown n0_objects_172 0 n0_sets b0_hasFamily f0_level_172 f0_value_172 f0_tags_172 f0_link_172 f0_key_172 f0_lives_172 f0_open f0_in_172) H := hP.sub [1, 2, 3, 4, 5, 6, 7, 0, 8] rfl
      have hD : va_D A (pc_X4_close cs h0 h0_level h0_value h0_tags h0_link h0_key h0_lives h0_open h0_in h0_scores h0_was h0_had n0_thrown n0_objects_172 0 n0_sets b0_hasFamily f0_level_172 f0_value_172 f0_tags_172 f0_link_172 f0_key_172 f0_lives_172 f0_open f0_in_172) := hD.sub [1, 2, 3, 4, 5, 6, 7, 0, 8] (by decide) rfl
      try dsimp only at hw
      refine lv_aload_n F.1 F.2.1 dX4_close_175 rfl (lv_at hl 0 rfl) ?_
      refine xi_get (C := RX4) (T := TX4) (N := 16) (v := .int n0_objects_172) F in_X4_close_X4 hK hP 0 rfl rfl 1 (by decide) fl_X4_close_49 rfl dX4_close_176 ?_
      refine lv_iconst (v := 1) F.1 F.2.1 dX4_close_179 (by decide) ?_
      refine lv_isub F.1 F.2.1 dX4_close_180 ?_
      exact RET (n0_objects_172 - 1) (n0_thrown, n0_objects_172, 0, n0_sets, b0_hasFamily, f0_level_172, f0_value_172, f0_tags_172, f0_link_172, f0_key_172, f0_lives_172, f0_in_172) H locs 181 ls hw hP hD hS dX4_close_181
    · have hw := hw.2 hc
      refine lv_aload_n F.1 F.2.1 dX4_close_106 rfl (lv_at hl 0 rfl) ?_
      refine lv_aload_n F.1 F.2.1 dX4_close_107 rfl (lv_at hl 0 rfl) ?_
      refine xi_get (C := RX4) (T := TX4) (N := 16) (v := .ref h0_open) F in_X4_close_X4 hK hP 0 rfl rfl 9 (by decide) fl_X4_close_29 rfl dX4_close_108 ?_
      refine lv_iconst (v := 4) F.1 F.2.1 dX4_close_111 (by decide) ?_
      refine lv_iload F.1 F.2.1 dX4_close_112 (lv_at hl 5 rfl) ?_
      refine lv_imul F.1 F.2.1 dX4_close_114 ?_
      obtain ⟨j115, hj, he, hw⟩ := hw
      refine xi_iald (j := j115) F hK hP 7 rfl (by decide) hj he dX4_close_115 ?_
      refine lv_aload_n F.1 F.2.1 dX4_close_116 rfl (lv_at hl 0 rfl) ?_
      refine xi_get (C := RX4) (T := TX4) (N := 16) (v := .ref h0_open) F in_X4_close_X4 hK hP 0 rfl rfl 9 (by decide) fl_X4_close_29 rfl dX4_close_117 ?_
      refine lv_iconst (v := 4) F.1 F.2.1 dX4_close_120 (by decide) ?_
      refine lv_iload F.1 F.2.1 dX4_close_121 (lv_at hl 5 rfl) ?_
      refine lv_imul F.1 F.2.1 dX4_close_123 ?_
      refine lv_iconst (v := 1) F.1 F.2.1 dX4_close_124 (by decide) ?_
      refine lv_iadd F.1 F.2.1 dX4_close_125 ?_
      obtain ⟨j126, hj, he, hw⟩ := hw
      refine xi_iald (j := j126) F hK hP 7 rfl (by decide) hj he dX4_close_126 ?_
      refine lv_aload_n F.1 F.2.1 dX4_close_127 rfl (lv_at hl 0 rfl) ?_
      refine xi_get (C := RX4) (T := TX4) (N := 16) (v := .ref h0_open) F in_X4_close_X4 hK hP 0 rfl rfl 9 (by decide) fl_X4_close_29 rfl dX4_close_128 ?_
      refine lv_iconst (v := 4) F.1 F.2.1 dX4_close_131 (by decide) ?_
      refine lv_iload F.1 F.2.1 dX4_close_132 (lv_at hl 5 rfl) ?_
      refine lv_imul F.1 F.2.1 dX4_close_134 ?_
      refine lv_iconst (v := 2) F.1 F.2.1 dX4_close_135 (by decide) ?_
      refine lv_iadd F.1 F.2.1 dX4_close_136 ?_
      obtain ⟨j137, hj, he, hw⟩ := hw
      refine xi_iald (j := j137) F hK hP 7 rfl (by decide) hj he dX4_close_137 ?_
      refine lv_aload_n F.1 F.2.1 dX4_close_138 rfl (lv_at hl 0 rfl) ?_
      refine xi_get (C := RX4) (T := TX4) (N := 16) (v := .ref h0_open) F in_X4_close_X4 hK hP 0 rfl rfl 9 (by decide) fl_X4_close_29 rfl dX4_close_139 ?_
      refine lv_iconst (v := 4) F.1 F.2.1 dX4_close_142 (by decide) ?_
      refine lv_iload F.1 F.2.1 dX4_close_143 (lv_at hl 5 rfl) ?_
      refine lv_imul F.1 F.2.1 dX4_close_145 ?_
      refine lv_iconst (v := 3) F.1 F.2.1 dX4_close_146 (by decide) ?_
      refine lv_iadd F.1 F.2.1 dX4_close_147 ?_
      obtain ⟨j148, hj, he, hw⟩ := hw
      refine xi_iald (j := j148) F hK hP 7 rfl (by decide) hj he dX4_close_148 ?_
      refine lv_bipush (v := (-3)) F.1 F.2.1 dX4_close_149 (by decide) ?_
      refine xc_Vv (As := [.int (f0_open j115), .int (f0_open j126), .int (f0_open j137), .int (f0_open j148), .int (-3)]) (rest := []) (m_X4_stand l D cs h0 h0_level h0_value h0_tags h0_link h0_key h0_lives h0_open h0_in h0_scores h0_was h0_had (f0_open j115) (f0_open j126) (f0_open j137) (f0_open j148) (-3) n0_thrown n0_objects n0_opened n0_sets b0_hasFamily f0_level f0_value f0_tags f0_link f0_key f0_lives f0_in _ hw) F (cwV 5 F.2.2.2.2 gX4_close_X4_stand rfl rfl rfl (by decide +kernel) ⟨Nat.le_of_ble_eq_true rfl, Nat.le_of_ble_eq_true rfl⟩) hK hP hD hS hA [0, 1, 2, 3, 4, 5, 6, 8] [7] rfl rfl 0 rfl rfl rfl hl.1 rfl (Nat.le_of_ble_eq_true rfl) dX4_close_151 ⟨Nat.zero_le _, Nat.zero_le _⟩ (fun u H locs hw hP hD hS => ?_)
      obtain ⟨n0_objects_151, f0_level_151, f0_value_151, f0_tags_151, f0_link_151, f0_key_151, f0_lives_151, f0_in_151⟩ := u
      have hP : va_P D vwCl (pc_X4_close cs h0 h0_level h0_value h0_tags h0_link h0_key h0_lives h0_open h0_in h0_scores h0_was h0_had n0_thrown n0_objects_151 n0_opened n0_sets b0_hasFamily f0_level_151 f0_value_151 f0_tags_151 f0_link_151 f0_key_151 f0_lives_151 f0_open f0_in_151) H := hP.sub [1, 2, 3, 4, 5, 6, 7, 0, 8] rfl
      have hD : va_D A (pc_X4_close cs h0 h0_level h0_value h0_tags h0_link h0_key h0_lives h0_open h0_in h0_scores h0_was h0_had n0_thrown n0_objects_151 n0_opened n0_sets b0_hasFamily f0_level_151 f0_value_151 f0_tags_151 f0_link_151 f0_key_151 f0_lives_151 f0_open f0_in_151) := hD.sub [1, 2, 3, 4, 5, 6, 7, 0, 8] (by decide) rfl
      try dsimp only at hw
      refine lv_iinc (v := (x6 + 1)) (lv' := [(6, .int (x6 + 1)), (0, .ref h0), (1, .int p1), (2, .int p2), (3, .int p3), (4, .int p4)]) F.1 F.2.1 dX4_close_154 hl (k := 5) rfl rfl (by decide) rfl (fun ls hl => ?_)
      refine lv_goto (tgt := 97) F.1 F.2.1 dX4_close_157 (by decide) ?_
      exact (hX97 _ _ _ _ _ _ _ _ _ _ _ _ _).mp hw H locs ls hP hD hS (lv_sub hl [1, 2, 3, 4, 5, 0] rfl)
  generalize ([] : List Loc) = locs at hS ⊢
  obtain ⟨H, hHe⟩ : ∃ H, H = s.heap := ⟨_, rfl⟩
  have hP : va_P D vwCl (pc_X4_close cs h0 h0_level h0_value h0_tags h0_link h0_key h0_lives h0_open h0_in h0_scores h0_was h0_had n0_thrown n0_objects n0_opened n0_sets b0_hasFamily f0_level f0_value f0_tags f0_link f0_key f0_lives f0_open f0_in) H := by rw [hHe]; exact hP
  have hS : va_S A s.heap H locs := by rw [hHe]; exact hS
  suffices W p l e rm_X4_close s m args below meth c H locs 0 0 Z (F0 m 0 ls []) by rw [hHe] at this; exact this
  refine lv_aload_n F.1 F.2.1 dX4_close_0 rfl (lv_at hl 0 rfl) ?_
  refine lv_iconst (v := 0) F.1 F.2.1 dX4_close_1 (by decide) ?_
  refine xi_put (C := RX4) (T := TX4) (N := 16) (v := .int 0) (ty := .int) F in_X4_close_X4 tyX4 tyX4_ok nmX4 hK hP hD hS 0 rfl rfl 0 (by decide) fl_X4_close_45 rfl (tyX4_ok 0 (by decide)) rfl rfl (Nat.le_of_ble_eq_true rfl) dX4_close_2 (fun H locs hP hD hS => ?_)
  have hP : va_P D vwCl (pc_X4_close cs h0 h0_level h0_value h0_tags h0_link h0_key h0_lives h0_open h0_in h0_scores h0_was h0_had 0 n0_objects n0_opened n0_sets b0_hasFamily f0_level f0_value f0_tags f0_link f0_key f0_lives f0_open f0_in) H := hP
  have hD : va_D A (pc_X4_close cs h0 h0_level h0_value h0_tags h0_link h0_key h0_lives h0_open h0_in h0_scores h0_was h0_had 0 n0_objects n0_opened n0_sets b0_hasFamily f0_level f0_value f0_tags f0_link f0_key f0_lives f0_open f0_in) := hD
  refine lv_iload_n F.1 F.2.1 dX4_close_5 rfl (lv_at hl 1 rfl) ?_
  refine lv_iconst (v := 0) F.1 F.2.1 dX4_close_6 (by decide) ?_
  refine lv_sipush (v := 999) F.1 F.2.1 dX4_close_7 (by decide) ?_
  refine xc_Sz (As := [.int p1, .int 0, .int 999]) (rest := []) (m_X4_isIn l D cs p1 0 999 _ hw) F (va_cwS 3 F.2.2.2.2 gX4_close_X4_isIn rfl rfl rfl (by decide +kernel) ⟨Nat.le_of_ble_eq_true rfl, Nat.le_of_ble_eq_true rfl⟩) hK hP hD hS hA [] [0, 1, 2, 3, 4, 5, 6, 7, 8] rfl rfl rfl hl.1 rfl (Nat.le_of_ble_eq_true rfl) dX4_close_10 ⟨Nat.zero_le _, Nat.zero_le _⟩ (fun r10 u H locs hw hP hD hS => ?_)
  have hP : va_P D vwCl (pc_X4_close cs h0 h0_level h0_value h0_tags h0_link h0_key h0_lives h0_open h0_in h0_scores h0_was h0_had 0 n0_objects n0_opened n0_sets b0_hasFamily f0_level f0_value f0_tags f0_link f0_key f0_lives f0_open f0_in) H := hP.sub [0, 1, 2, 3, 4, 5, 6, 7, 8] rfl
  have hD : va_D A (pc_X4_close cs h0 h0_level h0_value h0_tags h0_link h0_key h0_lives h0_open h0_in h0_scores h0_was h0_had 0 n0_objects n0_opened n0_sets b0_hasFamily f0_level f0_value f0_tags f0_link f0_key f0_lives f0_open f0_in) := hD.sub [0, 1, 2, 3, 4, 5, 6, 7, 8] (by decide) rfl
  try dsimp only at hw
  refine xi_ifeqz (tgt := 52) F dX4_close_13 (by decide) (fun hc => ?_) (fun hc => ?_)
  · have hw := hw.1 hc
    exact (hX52 _ _ _ _ _ _ _ _ _ _ _ _).mp hw H locs ls hP hD hS (lv_sub hl [] rfl)
  · have hw := hw.2 hc
    refine lv_iload_n F.1 F.2.1 dX4_close_16 rfl (lv_at hl 2 rfl) ?_
    refine lv_sipush (v := (-1000)) F.1 F.2.1 dX4_close_17 (by decide) ?_
    refine lv_sipush (v := 1000) F.1 F.2.1 dX4_close_20 (by decide) ?_
    refine xc_Sz (As := [.int p2, .int (-1000), .int 1000]) (rest := []) (m_X4_isIn l D cs p2 (-1000) 1000 _ hw) F (va_cwS 3 F.2.2.2.2 gX4_close_X4_isIn rfl rfl rfl (by decide +kernel) ⟨Nat.le_of_ble_eq_true rfl, Nat.le_of_ble_eq_true rfl⟩) hK hP hD hS hA [] [0, 1, 2, 3, 4, 5, 6, 7, 8] rfl rfl rfl hl.1 rfl (Nat.le_of_ble_eq_true rfl) dX4_close_23 ⟨Nat.zero_le _, Nat.zero_le _⟩ (fun r23 u H locs hw hP hD hS => ?_)
    have hP : va_P D vwCl (pc_X4_close cs h0 h0_level h0_value h0_tags h0_link h0_key h0_lives h0_open h0_in h0_scores h0_was h0_had 0 n0_objects n0_opened n0_sets b0_hasFamily f0_level f0_value f0_tags f0_link f0_key f0_lives f0_open f0_in) H := hP.sub [0, 1, 2, 3, 4, 5, 6, 7, 8] rfl
    have hD : va_D A (pc_X4_close cs h0 h0_level h0_value h0_tags h0_link h0_key h0_lives h0_open h0_in h0_scores h0_was h0_had 0 n0_objects n0_opened n0_sets b0_hasFamily f0_level f0_value f0_tags f0_link f0_key f0_lives f0_open f0_in) := hD.sub [0, 1, 2, 3, 4, 5, 6, 7, 8] (by decide) rfl
    try dsimp only at hw
    refine xi_ifeqz (tgt := 52) F dX4_close_26 (by decide) (fun hc => ?_) (fun hc => ?_)
    · have hw := hw.1 hc
      exact (hX52 _ _ _ _ _ _ _ _ _ _ _ _).mp hw H locs ls hP hD hS (lv_sub hl [] rfl)
    · have hw := hw.2 hc
      refine lv_iload_n F.1 F.2.1 dX4_close_29 rfl (lv_at hl 3 rfl) ?_
      refine lv_iconst (v := 0) F.1 F.2.1 dX4_close_30 (by decide) ?_
      refine lv_sipush (v := 255) F.1 F.2.1 dX4_close_31 (by decide) ?_
      refine xc_Sz (As := [.int p3, .int 0, .int 255]) (rest := []) (m_X4_isIn l D cs p3 0 255 _ hw) F (va_cwS 3 F.2.2.2.2 gX4_close_X4_isIn rfl rfl rfl (by decide +kernel) ⟨Nat.le_of_ble_eq_true rfl, Nat.le_of_ble_eq_true rfl⟩) hK hP hD hS hA [] [0, 1, 2, 3, 4, 5, 6, 7, 8] rfl rfl rfl hl.1 rfl (Nat.le_of_ble_eq_true rfl) dX4_close_34 ⟨Nat.zero_le _, Nat.zero_le _⟩ (fun r34 u H locs hw hP hD hS => ?_)
      have hP : va_P D vwCl (pc_X4_close cs h0 h0_level h0_value h0_tags h0_link h0_key h0_lives h0_open h0_in h0_scores h0_was h0_had 0 n0_objects n0_opened n0_sets b0_hasFamily f0_level f0_value f0_tags f0_link f0_key f0_lives f0_open f0_in) H := hP.sub [0, 1, 2, 3, 4, 5, 6, 7, 8] rfl
      have hD : va_D A (pc_X4_close cs h0 h0_level h0_value h0_tags h0_link h0_key h0_lives h0_open h0_in h0_scores h0_was h0_had 0 n0_objects n0_opened n0_sets b0_hasFamily f0_level f0_value f0_tags f0_link f0_key f0_lives f0_open f0_in) := hD.sub [0, 1, 2, 3, 4, 5, 6, 7, 8] (by decide) rfl
      try dsimp only at hw
      refine xi_ifeqz (tgt := 52) F dX4_close_37 (by decide) (fun hc => ?_) (fun hc => ?_)
      · have hw := hw.1 hc
        exact (hX52 _ _ _ _ _ _ _ _ _ _ _ _).mp hw H locs ls hP hD hS (lv_sub hl [] rfl)
      · have hw := hw.2 hc
        refine lv_iload F.1 F.2.1 dX4_close_40 (lv_at hl 4 rfl) ?_
        refine lv_iconst (v := (-1)) F.1 F.2.1 dX4_close_42 (by decide) ?_
        refine lv_sipush (v := 999) F.1 F.2.1 dX4_close_43 (by decide) ?_
        refine xc_Sz (As := [.int p4, .int (-1), .int 999]) (rest := []) (m_X4_isIn l D cs p4 (-1) 999 _ hw) F (va_cwS 3 F.2.2.2.2 gX4_close_X4_isIn rfl rfl rfl (by decide +kernel) ⟨Nat.le_of_ble_eq_true rfl, Nat.le_of_ble_eq_true rfl⟩) hK hP hD hS hA [] [0, 1, 2, 3, 4, 5, 6, 7, 8] rfl rfl rfl hl.1 rfl (Nat.le_of_ble_eq_true rfl) dX4_close_46 ⟨Nat.zero_le _, Nat.zero_le _⟩ (fun r46 u H locs hw hP hD hS => ?_)
        have hP : va_P D vwCl (pc_X4_close cs h0 h0_level h0_value h0_tags h0_link h0_key h0_lives h0_open h0_in h0_scores h0_was h0_had 0 n0_objects n0_opened n0_sets b0_hasFamily f0_level f0_value f0_tags f0_link f0_key f0_lives f0_open f0_in) H := hP.sub [0, 1, 2, 3, 4, 5, 6, 7, 8] rfl
        have hD : va_D A (pc_X4_close cs h0 h0_level h0_value h0_tags h0_link h0_key h0_lives h0_open h0_in h0_scores h0_was h0_had 0 n0_objects n0_opened n0_sets b0_hasFamily f0_level f0_value f0_tags f0_link f0_key f0_lives f0_open f0_in) := hD.sub [0, 1, 2, 3, 4, 5, 6, 7, 8] (by decide) rfl
        try dsimp only at hw
        refine xi_ifnez (tgt := 55) F dX4_close_49 (by decide) (fun hc => ?_) (fun hc => ?_)
        · have hw := hw.1 hc
          refine lv_aload_n F.1 F.2.1 dX4_close_55 rfl (lv_at hl 0 rfl) ?_
          refine xi_get (C := RX4) (T := TX4) (N := 16) (v := .int n0_objects) F in_X4_close_X4 hK hP 0 rfl rfl 1 (by decide) fl_X4_close_49 rfl dX4_close_56 ?_
          refine lv_aload_n F.1 F.2.1 dX4_close_59 rfl (lv_at hl 0 rfl) ?_
          refine xi_get (C := RX4) (T := TX4) (N := 16) (v := .int n0_opened) F in_X4_close_X4 hK hP 0 rfl rfl 8 (by decide) fl_X4_close_56 rfl dX4_close_60 ?_
          refine lv_iadd F.1 F.2.1 dX4_close_63 ?_
          refine lv_iconst (v := 1) F.1 F.2.1 dX4_close_64 (by decide) ?_
          refine lv_iadd F.1 F.2.1 dX4_close_65 ?_
          refine lv_sipush (v := 200) F.1 F.2.1 dX4_close_66 (by decide) ?_
          refine lv_icmp_le (tgt := 75) F.1 F.2.1 dX4_close_69 (by decide) (fun hc => ?_) (fun hc => ?_)
          · have hw := hw.1 hc
            refine lv_aload_n F.1 F.2.1 dX4_close_75 rfl (lv_at hl 0 rfl) ?_
            refine lv_iload_n F.1 F.2.1 dX4_close_76 rfl (lv_at hl 1 rfl) ?_
            refine xc_Vi (As := [.int p1]) (rest := []) (m_X4_rootOf l D cs h0 h0_level h0_value h0_tags h0_link h0_key h0_lives h0_open h0_in h0_scores h0_was h0_had p1 0 n0_objects n0_opened n0_sets b0_hasFamily f0_level f0_key f0_lives _ hw) F (cwV 1 F.2.2.2.2 gX4_close_X4_rootOf rfl rfl rfl (by decide +kernel) ⟨Nat.le_of_ble_eq_true rfl, Nat.le_of_ble_eq_true rfl⟩) hK hP hD hS hA [0, 1, 5, 6] [2, 3, 4, 7, 8] rfl rfl 0 rfl rfl rfl hl.1 rfl (Nat.le_of_ble_eq_true rfl) dX4_close_77 ⟨Nat.zero_le _, Nat.zero_le _⟩ (fun r77 u H locs hw hP hD hS => ?_)
            have hP : va_P D vwCl (pc_X4_close cs h0 h0_level h0_value h0_tags h0_link h0_key h0_lives h0_open h0_in h0_scores h0_was h0_had 0 n0_objects n0_opened n0_sets b0_hasFamily f0_level f0_value f0_tags f0_link f0_key f0_lives f0_open f0_in) H := hP.sub [5, 6, 0, 1, 2, 7, 8, 3, 4] rfl
            have hD : va_D A (pc_X4_close cs h0 h0_level h0_value h0_tags h0_link h0_key h0_lives h0_open h0_in h0_scores h0_was h0_had 0 n0_objects n0_opened n0_sets b0_hasFamily f0_level f0_value f0_tags f0_link f0_key f0_lives f0_open f0_in) := hD.sub [5, 6, 0, 1, 2, 7, 8, 3, 4] (by decide) rfl
            try dsimp only at hw
            refine lv_istore (lv' := [(5, .int r77), (0, .ref h0), (1, .int p1), (2, .int p2), (3, .int p3), (4, .int p4)]) F.1 F.2.1 dX4_close_80 hl (by decide) rfl (fun ls hl => ?_)
            refine lv_iload F.1 F.2.1 dX4_close_82 (lv_at hl 0 rfl) ?_
            refine lv_if_lt (tgt := 94) F.1 F.2.1 dX4_close_84 (by decide) (fun hc => ?_) (fun hc => ?_)
            · have hw := hw.1 hc
              exact (hX94 _ _ _ _ _ _ _ _ _ _ _ _).mp hw H locs ls hP hD hS (lv_sub hl [1, 2, 3, 4, 5] rfl)
            · have hw := hw.2 hc
              refine lv_aload_n F.1 F.2.1 dX4_close_87 rfl (lv_at hl 1 rfl) ?_
              refine lv_iload F.1 F.2.1 dX4_close_88 (lv_at hl 0 rfl) ?_
              refine xc_Vi (As := [.int r77]) (rest := []) (m_X4_die l D cs h0 h0_level h0_value h0_tags h0_link h0_key h0_lives h0_open h0_in h0_scores h0_was h0_had r77 0 n0_objects n0_opened n0_sets b0_hasFamily f0_level f0_lives _ hw) F (cwV 1 F.2.2.2.2 gX4_close_X4_die rfl rfl rfl (by decide +kernel) ⟨Nat.le_of_ble_eq_true rfl, Nat.le_of_ble_eq_true rfl⟩) hK hP hD hS hA [0, 1, 6] [2, 3, 4, 5, 7, 8] rfl rfl 0 rfl rfl rfl hl.1 rfl (Nat.le_of_ble_eq_true rfl) dX4_close_90 ⟨Nat.zero_le _, Nat.zero_le _⟩ (fun r90 u H locs hw hP hD hS => ?_)
              obtain ⟨n0_sets_90, b0_hasFamily_90, f0_lives_90⟩ := u
              have hP : va_P D vwCl (pc_X4_close cs h0 h0_level h0_value h0_tags h0_link h0_key h0_lives h0_open h0_in h0_scores h0_was h0_had 0 n0_objects n0_opened n0_sets_90 b0_hasFamily_90 f0_level f0_value f0_tags f0_link f0_key f0_lives_90 f0_open f0_in) H := hP.sub [6, 7, 0, 1, 2, 3, 8, 4, 5] rfl
              have hD : va_D A (pc_X4_close cs h0 h0_level h0_value h0_tags h0_link h0_key h0_lives h0_open h0_in h0_scores h0_was h0_had 0 n0_objects n0_opened n0_sets_90 b0_hasFamily_90 f0_level f0_value f0_tags f0_link f0_key f0_lives_90 f0_open f0_in) := hD.sub [6, 7, 0, 1, 2, 3, 8, 4, 5] (by decide) rfl
              try dsimp only at hw
              refine lv_pop F.1 F.2.1 dX4_close_93 rfl ?_
              exact (hX94 _ _ _ _ _ _ _ _ _ _ _ _).mp hw H locs ls hP hD hS (lv_sub hl [1, 2, 3, 4, 5] rfl)
          · have hw := hw.2 hc
            refine lv_bipush (v := (-4)) F.1 F.2.1 dX4_close_72 (by decide) ?_
            exact RET (-4) (0, n0_objects, n0_opened, n0_sets, b0_hasFamily, f0_level, f0_value, f0_tags, f0_link, f0_key, f0_lives, f0_in) H locs 74 ls hw hP hD hS dX4_close_74
        · have hw := hw.2 hc
          exact (hX52 _ _ _ _ _ _ _ _ _ _ _ _).mp hw H locs ls hP hD hS (lv_sub hl [] rfl)

theorem in_X4_drop_X4 : ∀ w ∈ wsX40, w ∈ wsX4_drop := by decide +kernel
theorem fl_X4_drop_45 : Cond.fieldLink RX4 45 "JoinBlocksModel" "thrown" "I" ∈ wsX4_drop := by decide +kernel
theorem fl_X4_drop_56 : Cond.fieldLink RX4 56 "JoinBlocksModel" "opened" "I" ∈ wsX4_drop := by decide +kernel
abbrev pc_X4_drop (cs : Nat → ClassId) (h0 : Nat) (h0_level : Nat) (h0_value : Nat) (h0_tags : Nat) (h0_link : Nat) (h0_key : Nat) (h0_lives : Nat) (h0_open : Nat) (h0_in : Nat) (h0_scores : Nat) (h0_was : Nat) (h0_had : Nat) (n0_thrown : Int32) (n0_objects : Int32) (n0_opened : Int32) (n0_sets : Int32) (b0_hasFamily : Bool) : va_W := [(h0, .inr (4, [.int n0_thrown, .int n0_objects, .ref h0_level, .ref h0_value, .ref h0_tags, .ref h0_link, .ref h0_key, .ref h0_lives, .int n0_opened, .ref h0_open, .int n0_sets, .ref h0_in, .ref h0_scores, .int (b2i b0_hasFamily), .ref h0_was, .ref h0_had]))]
abbrev rm_X4_drop : Room := { frames := 0, cells := 0, slots := 0, locals := 0 }
def call_X4_drop (n0_thrown : Int32) (n0_opened : Int32) (Q : Int32 → Int32 → Int32 → Prop) : Prop :=
    Q n0_opened 0 0
set_option maxHeartbeats 4000000 in
set_option maxRecDepth 100000 in
theorem m_X4_drop (l : Launch) (D : va_G) (cs : Nat → ClassId) (h0 : Nat) (h0_level : Nat) (h0_value : Nat) (h0_tags : Nat) (h0_link : Nat) (h0_key : Nat) (h0_lives : Nat) (h0_open : Nat) (h0_in : Nat) (h0_scores : Nat) (h0_was : Nat) (h0_had : Nat)  (n0_thrown : Int32) (n0_objects : Int32) (n0_opened : Int32) (n0_sets : Int32) (b0_hasFamily : Bool) (Q : Int32 → Int32 → Int32 → Prop) (h : call_X4_drop n0_thrown n0_opened Q) : CtI l yX4_drop wsX4_drop rm_X4_drop D cs [.ref h0] (pc_X4_drop cs h0 h0_level h0_value h0_tags h0_link h0_key h0_lives h0_open h0_in h0_scores h0_was h0_had n0_thrown n0_objects n0_opened n0_sets b0_hasFamily) (fun u : Int32 × Int32 => (pc_X4_drop cs h0 h0_level h0_value h0_tags h0_link h0_key h0_lives h0_open h0_in h0_scores h0_was h0_had u.1 n0_objects u.2 n0_sets b0_hasFamily)) (fun r u => Q r u.1 u.2) := by
  refine xo_I (S := Int32 × Int32) (cc := cX4_drop) (maxL := 2) (own := RX4) (lv0 := [(0, .ref h0)]) (by decide) rfl rfl (Nat.le_of_ble_eq_true rfl) rfl ?_
  intro p e s m args below meth c A Z ls F hK hA hP hD hS hl RET
  have hw := h
  unfold call_X4_drop at hw
  generalize ([] : List Loc) = locs at hS ⊢
  obtain ⟨H, hHe⟩ : ∃ H, H = s.heap := ⟨_, rfl⟩
  have hP : va_P D vwCl (pc_X4_drop cs h0 h0_level h0_value h0_tags h0_link h0_key h0_lives h0_open h0_in h0_scores h0_was h0_had n0_thrown n0_objects n0_opened n0_sets b0_hasFamily) H := by rw [hHe]; exact hP
  have hS : va_S A s.heap H locs := by rw [hHe]; exact hS
  suffices W p l e rm_X4_drop s m args below meth c H locs 0 0 Z (F0 m 0 ls []) by rw [hHe] at this; exact this
  refine lv_aload_n F.1 F.2.1 dX4_drop_0 rfl (lv_at hl 0 rfl) ?_
  refine lv_iconst (v := 0) F.1 F.2.1 dX4_drop_1 (by decide) ?_
  refine xi_put (C := RX4) (T := TX4) (N := 16) (v := .int 0) (ty := .int) F in_X4_drop_X4 tyX4 tyX4_ok nmX4 hK hP hD hS 0 rfl rfl 0 (by decide) fl_X4_drop_45 rfl (tyX4_ok 0 (by decide)) rfl rfl (Nat.le_of_ble_eq_true rfl) dX4_drop_2 (fun H locs hP hD hS => ?_)
  have hP : va_P D vwCl (pc_X4_drop cs h0 h0_level h0_value h0_tags h0_link h0_key h0_lives h0_open h0_in h0_scores h0_was h0_had 0 n0_objects n0_opened n0_sets b0_hasFamily) H := hP
  have hD : va_D A (pc_X4_drop cs h0 h0_level h0_value h0_tags h0_link h0_key h0_lives h0_open h0_in h0_scores h0_was h0_had 0 n0_objects n0_opened n0_sets b0_hasFamily) := hD
  refine lv_aload_n F.1 F.2.1 dX4_drop_5 rfl (lv_at hl 0 rfl) ?_
  refine xi_get (C := RX4) (T := TX4) (N := 16) (v := .int n0_opened) F in_X4_drop_X4 hK hP 0 rfl rfl 8 (by decide) fl_X4_drop_56 rfl dX4_drop_6 ?_
  refine lv_istore_n (lv' := [(1, .int n0_opened), (0, .ref h0)]) F.1 F.2.1 dX4_drop_9 rfl hl (by decide) rfl (fun ls hl => ?_)
  refine lv_aload_n F.1 F.2.1 dX4_drop_10 rfl (lv_at hl 1 rfl) ?_
  refine lv_iconst (v := 0) F.1 F.2.1 dX4_drop_11 (by decide) ?_
  refine xi_put (C := RX4) (T := TX4) (N := 16) (v := .int 0) (ty := .int) F in_X4_drop_X4 tyX4 tyX4_ok nmX4 hK hP hD hS 0 rfl rfl 8 (by decide) fl_X4_drop_56 rfl (tyX4_ok 8 (by decide)) rfl rfl (Nat.le_of_ble_eq_true rfl) dX4_drop_12 (fun H locs hP hD hS => ?_)
  have hP : va_P D vwCl (pc_X4_drop cs h0 h0_level h0_value h0_tags h0_link h0_key h0_lives h0_open h0_in h0_scores h0_was h0_had 0 n0_objects 0 n0_sets b0_hasFamily) H := hP
  have hD : va_D A (pc_X4_drop cs h0 h0_level h0_value h0_tags h0_link h0_key h0_lives h0_open h0_in h0_scores h0_was h0_had 0 n0_objects 0 n0_sets b0_hasFamily) := hD
  refine lv_iload_n F.1 F.2.1 dX4_drop_15 rfl (lv_at hl 0 rfl) ?_
  exact RET n0_opened (0, 0) H locs 16 ls hw hP hD hS dX4_drop_16

theorem in_X4_kill_X4 : ∀ w ∈ wsX40, w ∈ wsX4_kill := by decide +kernel
theorem fl_X4_kill_45 : Cond.fieldLink RX4 45 "JoinBlocksModel" "thrown" "I" ∈ wsX4_kill := by decide +kernel
abbrev pc_X4_kill (cs : Nat → ClassId) (h0 : Nat) (h0_level : Nat) (h0_value : Nat) (h0_tags : Nat) (h0_link : Nat) (h0_key : Nat) (h0_lives : Nat) (h0_open : Nat) (h0_in : Nat) (h0_scores : Nat) (h0_was : Nat) (h0_had : Nat) (n0_thrown : Int32) (n0_objects : Int32) (n0_opened : Int32) (n0_sets : Int32) (b0_hasFamily : Bool) (f0_level : Nat → Int32) (f0_key : Nat → Int32) (f0_lives : Nat → Bool) : va_W := [(h0, .inr (4, [.int n0_thrown, .int n0_objects, .ref h0_level, .ref h0_value, .ref h0_tags, .ref h0_link, .ref h0_key, .ref h0_lives, .int n0_opened, .ref h0_open, .int n0_sets, .ref h0_in, .ref h0_scores, .int (b2i b0_hasFamily), .ref h0_was, .ref h0_had])), (h0_level, .inl (cs 0, 261, .inl f0_level)), (h0_key, .inl (cs 0, 261, .inl f0_key)), (h0_lives, .inl (cs 1, 261, .inl (bF f0_lives)))]
abbrev rm_X4_kill : Room := { frames := 2, cells := 0, slots := 0, locals := 43 }
def call_X4_kill (p1 : Int32) (n0_thrown : Int32) (n0_objects : Int32) (n0_sets : Int32) (b0_hasFamily : Bool) (f0_level : Nat → Int32) (f0_key : Nat → Int32) (f0_lives : Nat → Bool) (Q : Int32 → Int32 → Int32 → Bool → (Nat → Bool) → Prop) : Prop := ∀ (X24 : Int32 → Int32 → Int32 → Bool → (Nat → Bool) → Prop),
    (∀ (s0 : Int32) (n0_thrown : Int32) (n0_sets : Int32) (b0_hasFamily : Bool) (f0_lives : Nat → Bool),
      Q s0 n0_thrown n0_sets b0_hasFamily f0_lives → X24 s0 n0_thrown n0_sets b0_hasFamily f0_lives) →
    (call_X4_rootOf p1 n0_objects f0_level f0_key f0_lives (fun (r7 : Int32) => ((0 ≤ r7 → (call_X4_die r7 n0_sets b0_hasFamily f0_level f0_lives (fun (r21 : Int32) (n0_sets_21 : Int32) (b0_hasFamily_21 : Bool) (f0_lives_21 : Nat → Bool) => X24 r21 0 n0_sets_21 b0_hasFamily_21 f0_lives_21))) ∧ (¬ 0 ≤ r7 → X24 (-1) 0 n0_sets b0_hasFamily f0_lives))))
set_option maxHeartbeats 4000000 in
set_option maxRecDepth 100000 in
theorem m_X4_kill (l : Launch) (D : va_G) (cs : Nat → ClassId) (h0 : Nat) (h0_level : Nat) (h0_value : Nat) (h0_tags : Nat) (h0_link : Nat) (h0_key : Nat) (h0_lives : Nat) (h0_open : Nat) (h0_in : Nat) (h0_scores : Nat) (h0_was : Nat) (h0_had : Nat)  (p1 : Int32) (n0_thrown : Int32) (n0_objects : Int32) (n0_opened : Int32) (n0_sets : Int32) (b0_hasFamily : Bool) (f0_level : Nat → Int32) (f0_key : Nat → Int32) (f0_lives : Nat → Bool) (Q : Int32 → Int32 → Int32 → Bool → (Nat → Bool) → Prop) (h : call_X4_kill p1 n0_thrown n0_objects n0_sets b0_hasFamily f0_level f0_key f0_lives Q) : CtI l yX4_kill wsX4_kill rm_X4_kill D cs [.ref h0, .int p1] (pc_X4_kill cs h0 h0_level h0_value h0_tags h0_link h0_key h0_lives h0_open h0_in h0_scores h0_was h0_had n0_thrown n0_objects n0_opened n0_sets b0_hasFamily f0_level f0_key f0_lives) (fun u : Int32 × Int32 × Bool × (Nat → Bool) => (pc_X4_kill cs h0 h0_level h0_value h0_tags h0_link h0_key h0_lives h0_open h0_in h0_scores h0_was h0_had u.1 n0_objects n0_opened u.2.1 u.2.2.1 f0_level f0_key u.2.2.2)) (fun r u => Q r u.1 u.2.1 u.2.2.1 u.2.2.2) := by
  refine xo_I (S := Int32 × Int32 × Bool × (Nat → Bool)) (cc := cX4_kill) (maxL := 3) (own := RX4) (lv0 := [(0, .ref h0), (1, .int p1)]) (by decide) rfl rfl (Nat.le_of_ble_eq_true rfl) rfl ?_
  intro p e s m args below meth c A Z ls F hK hA hP hD hS hl RET
  unfold call_X4_kill at h
  obtain ⟨X24, hX24⟩ : ∃ X : Int32 → Int32 → Int32 → Bool → (Nat → Bool) → Prop, ∀ (s0 : Int32) (n0_thrown : Int32) (n0_sets : Int32) (b0_hasFamily : Bool) (f0_lives : Nat → Bool), (X s0 n0_thrown n0_sets b0_hasFamily f0_lives ↔ ∀ (H : Heap) (locs : List Loc) (ls : Array Slot), va_P D vwCl (pc_X4_kill cs h0 h0_level h0_value h0_tags h0_link h0_key h0_lives h0_open h0_in h0_scores h0_was h0_had n0_thrown n0_objects n0_opened n0_sets b0_hasFamily f0_level f0_key f0_lives) H → va_D A (pc_X4_kill cs h0 h0_level h0_value h0_tags h0_link h0_key h0_lives h0_open h0_in h0_scores h0_was h0_had n0_thrown n0_objects n0_opened n0_sets b0_hasFamily f0_level f0_key f0_lives) → va_S A s.heap H locs → lv_has ls 3 [] → W p l e rm_X4_kill s m args below meth c H locs 0 0 Z (F0 m 24 ls [.int s0])) := ⟨_, fun _ _ _ _ _ => Iff.rfl⟩
  refine xt_cut (h X24 ?_) (fun hw => ?_)
  · intro s0 n0_thrown n0_sets b0_hasFamily f0_lives hw
    refine (hX24 _ _ _ _ _).mpr ?_
    intro H locs ls hP hD hS hl
    exact RET s0 (n0_thrown, n0_sets, b0_hasFamily, f0_lives) H locs 24 ls hw hP hD hS dX4_kill_24
  generalize ([] : List Loc) = locs at hS ⊢
  obtain ⟨H, hHe⟩ : ∃ H, H = s.heap := ⟨_, rfl⟩
  have hP : va_P D vwCl (pc_X4_kill cs h0 h0_level h0_value h0_tags h0_link h0_key h0_lives h0_open h0_in h0_scores h0_was h0_had n0_thrown n0_objects n0_opened n0_sets b0_hasFamily f0_level f0_key f0_lives) H := by rw [hHe]; exact hP
  have hS : va_S A s.heap H locs := by rw [hHe]; exact hS
  suffices W p l e rm_X4_kill s m args below meth c H locs 0 0 Z (F0 m 0 ls []) by rw [hHe] at this; exact this
  refine lv_aload_n F.1 F.2.1 dX4_kill_0 rfl (lv_at hl 0 rfl) ?_
  refine lv_iconst (v := 0) F.1 F.2.1 dX4_kill_1 (by decide) ?_
  refine xi_put (C := RX4) (T := TX4) (N := 16) (v := .int 0) (ty := .int) F in_X4_kill_X4 tyX4 tyX4_ok nmX4 hK hP hD hS 0 rfl rfl 0 (by decide) fl_X4_kill_45 rfl (tyX4_ok 0 (by decide)) rfl rfl (Nat.le_of_ble_eq_true rfl) dX4_kill_2 (fun H locs hP hD hS => ?_)
  have hP : va_P D vwCl (pc_X4_kill cs h0 h0_level h0_value h0_tags h0_link h0_key h0_lives h0_open h0_in h0_scores h0_was h0_had 0 n0_objects n0_opened n0_sets b0_hasFamily f0_level f0_key f0_lives) H := hP
  have hD : va_D A (pc_X4_kill cs h0 h0_level h0_value h0_tags h0_link h0_key h0_lives h0_open h0_in h0_scores h0_was h0_had 0 n0_objects n0_opened n0_sets b0_hasFamily f0_level f0_key f0_lives) := hD
  refine lv_aload_n F.1 F.2.1 dX4_kill_5 rfl (lv_at hl 0 rfl) ?_
  refine lv_iload_n F.1 F.2.1 dX4_kill_6 rfl (lv_at hl 1 rfl) ?_
  refine xc_Vi (As := [.int p1]) (rest := []) (m_X4_rootOf l D cs h0 h0_level h0_value h0_tags h0_link h0_key h0_lives h0_open h0_in h0_scores h0_was h0_had p1 0 n0_objects n0_opened n0_sets b0_hasFamily f0_level f0_key f0_lives _ hw) F (cwV 1 F.2.2.2.2 gX4_kill_X4_rootOf rfl rfl rfl (by decide +kernel) ⟨Nat.le_of_ble_eq_true rfl, Nat.le_of_ble_eq_true rfl⟩) hK hP hD hS hA [0, 1, 2, 3] [] rfl rfl 0 rfl rfl rfl hl.1 rfl (Nat.le_of_ble_eq_true rfl) dX4_kill_7 ⟨Nat.zero_le _, Nat.zero_le _⟩ (fun r7 u H locs hw hP hD hS => ?_)
  have hP : va_P D vwCl (pc_X4_kill cs h0 h0_level h0_value h0_tags h0_link h0_key h0_lives h0_open h0_in h0_scores h0_was h0_had 0 n0_objects n0_opened n0_sets b0_hasFamily f0_level f0_key f0_lives) H := hP.sub [0, 1, 2, 3] rfl
  have hD : va_D A (pc_X4_kill cs h0 h0_level h0_value h0_tags h0_link h0_key h0_lives h0_open h0_in h0_scores h0_was h0_had 0 n0_objects n0_opened n0_sets b0_hasFamily f0_level f0_key f0_lives) := hD.sub [0, 1, 2, 3] (by decide) rfl
  try dsimp only at hw
  refine lv_istore_n (lv' := [(2, .int r7), (0, .ref h0), (1, .int p1)]) F.1 F.2.1 dX4_kill_10 rfl hl (by decide) rfl (fun ls hl => ?_)
  refine lv_iload_n F.1 F.2.1 dX4_kill_11 rfl (lv_at hl 0 rfl) ?_
  refine lv_if_ge (tgt := 19) F.1 F.2.1 dX4_kill_12 (by decide) (fun hc => ?_) (fun hc => ?_)
  · have hw := hw.1 hc
    refine lv_aload_n F.1 F.2.1 dX4_kill_19 rfl (lv_at hl 1 rfl) ?_
    refine lv_iload_n F.1 F.2.1 dX4_kill_20 rfl (lv_at hl 0 rfl) ?_
    refine xc_Vi (As := [.int r7]) (rest := []) (m_X4_die l D cs h0 h0_level h0_value h0_tags h0_link h0_key h0_lives h0_open h0_in h0_scores h0_was h0_had r7 0 n0_objects n0_opened n0_sets b0_hasFamily f0_level f0_lives _ hw) F (cwV 1 F.2.2.2.2 gX4_kill_X4_die rfl rfl rfl (by decide +kernel) ⟨Nat.le_of_ble_eq_true rfl, Nat.le_of_ble_eq_true rfl⟩) hK hP hD hS hA [0, 1, 3] [2] rfl rfl 0 rfl rfl rfl hl.1 rfl (Nat.le_of_ble_eq_true rfl) dX4_kill_21 ⟨Nat.zero_le _, Nat.zero_le _⟩ (fun r21 u H locs hw hP hD hS => ?_)
    obtain ⟨n0_sets_21, b0_hasFamily_21, f0_lives_21⟩ := u
    have hP : va_P D vwCl (pc_X4_kill cs h0 h0_level h0_value h0_tags h0_link h0_key h0_lives h0_open h0_in h0_scores h0_was h0_had 0 n0_objects n0_opened n0_sets_21 b0_hasFamily_21 f0_level f0_key f0_lives_21) H := hP.sub [1, 2, 0, 3] rfl
    have hD : va_D A (pc_X4_kill cs h0 h0_level h0_value h0_tags h0_link h0_key h0_lives h0_open h0_in h0_scores h0_was h0_had 0 n0_objects n0_opened n0_sets_21 b0_hasFamily_21 f0_level f0_key f0_lives_21) := hD.sub [1, 2, 0, 3] (by decide) rfl
    try dsimp only at hw
    exact (hX24 _ _ _ _ _).mp hw H locs ls hP hD hS (lv_sub hl [] rfl)
  · have hw := hw.2 hc
    refine lv_iconst (v := (-1)) F.1 F.2.1 dX4_kill_15 (by decide) ?_
    refine lv_goto (tgt := 24) F.1 F.2.1 dX4_kill_16 (by decide) ?_
    exact (hX24 _ _ _ _ _).mp hw H locs ls hP hD hS (lv_sub hl [] rfl)

theorem in_X4_merge_X4 : ∀ w ∈ wsX40, w ∈ wsX4_merge := by decide +kernel
theorem fl_X4_merge_49 : Cond.fieldLink RX4 49 "JoinBlocksModel" "objects" "I" ∈ wsX4_merge := by decide +kernel
theorem fl_X4_merge_25 : Cond.fieldLink RX4 25 "JoinBlocksModel" "lives" "[Z" ∈ wsX4_merge := by decide +kernel
theorem fl_X4_merge_7 : Cond.fieldLink RX4 7 "JoinBlocksModel" "level" "[I" ∈ wsX4_merge := by decide +kernel
theorem fl_X4_merge_13 : Cond.fieldLink RX4 13 "JoinBlocksModel" "value" "[I" ∈ wsX4_merge := by decide +kernel
theorem fl_X4_merge_16 : Cond.fieldLink RX4 16 "JoinBlocksModel" "tags" "[I" ∈ wsX4_merge := by decide +kernel
theorem fl_X4_merge_19 : Cond.fieldLink RX4 19 "JoinBlocksModel" "link" "[I" ∈ wsX4_merge := by decide +kernel
theorem fl_X4_merge_22 : Cond.fieldLink RX4 22 "JoinBlocksModel" "key" "[I" ∈ wsX4_merge := by decide +kernel
theorem fl_X4_merge_45 : Cond.fieldLink RX4 45 "JoinBlocksModel" "thrown" "I" ∈ wsX4_merge := by decide +kernel
abbrev pc_X4_merge (cs : Nat → ClassId) (h0 : Nat) (h0_level : Nat) (h0_value : Nat) (h0_tags : Nat) (h0_link : Nat) (h0_key : Nat) (h0_lives : Nat) (h0_open : Nat) (h0_in : Nat) (h0_scores : Nat) (h0_was : Nat) (h0_had : Nat) (n0_thrown : Int32) (n0_objects : Int32) (n0_opened : Int32) (n0_sets : Int32) (b0_hasFamily : Bool) (f0_level : Nat → Int32) (f0_value : Nat → Int32) (f0_tags : Nat → Int32) (f0_link : Nat → Int32) (f0_key : Nat → Int32) (f0_lives : Nat → Bool) : va_W := [(h0, .inr (4, [.int n0_thrown, .int n0_objects, .ref h0_level, .ref h0_value, .ref h0_tags, .ref h0_link, .ref h0_key, .ref h0_lives, .int n0_opened, .ref h0_open, .int n0_sets, .ref h0_in, .ref h0_scores, .int (b2i b0_hasFamily), .ref h0_was, .ref h0_had])), (h0_level, .inl (cs 0, 261, .inl f0_level)), (h0_value, .inl (cs 0, 261, .inl f0_value)), (h0_tags, .inl (cs 0, 261, .inl f0_tags)), (h0_link, .inl (cs 0, 261, .inl f0_link)), (h0_key, .inl (cs 0, 261, .inl f0_key)), (h0_lives, .inl (cs 1, 261, .inl (bF f0_lives)))]
abbrev rm_X4_merge : Room := { frames := 1, cells := 0, slots := 0, locals := 20 }
def call_X4_merge (n0_thrown : Int32) (n0_objects : Int32) (n0_sets : Int32) (b0_hasFamily : Bool) (f0_level : Nat → Int32) (f0_value : Nat → Int32) (f0_tags : Nat → Int32) (f0_link : Nat → Int32) (f0_key : Nat → Int32) (f0_lives : Nat → Bool) (Q : Int32 → Int32 → Int32 → Int32 → Bool → (Nat → Int32) → (Nat → Int32) → (Nat → Int32) → (Nat → Int32) → (Nat → Int32) → (Nat → Bool) → Prop) : Prop := ∀ (X9 : Int32 → Int32 → Int32 → Int32 → Int32 → Bool → (Nat → Int32) → (Nat → Int32) → (Nat → Int32) → (Nat → Int32) → (Nat → Int32) → (Nat → Bool) → Prop) (X96 : Int32 → Int32 → Int32 → Int32 → Int32 → Bool → (Nat → Int32) → (Nat → Int32) → (Nat → Int32) → (Nat → Int32) → (Nat → Int32) → (Nat → Bool) → Prop),
    (∀ (x1 : Int32) (x2 : Int32) (n0_thrown : Int32) (n0_objects : Int32) (n0_sets : Int32) (b0_hasFamily : Bool) (f0_level : Nat → Int32) (f0_value : Nat → Int32) (f0_tags : Nat → Int32) (f0_link : Nat → Int32) (f0_key : Nat → Int32) (f0_lives : Nat → Bool),
      ((n0_objects ≤ x2 → (call_X4_empty n0_sets b0_hasFamily (fun (n0_sets_108 : Int32) (b0_hasFamily_108 : Bool) => Q x1 n0_thrown x1 n0_sets_108 b0_hasFamily_108 f0_level f0_value f0_tags f0_link f0_key f0_lives))) ∧ (¬ n0_objects ≤ x2 → (∃ j22 : Nat, j22 < 261 ∧ x2 = nI j22 ∧ (((f0_lives j22) = false → X96 x1 x2 n0_thrown n0_objects n0_sets b0_hasFamily f0_level f0_value f0_tags f0_link f0_key f0_lives) ∧ ((f0_lives j22) = true → (∃ j36 : Nat, j36 < 261 ∧ x2 = nI j36 ∧ (∃ j37 : Nat, j37 < 261 ∧ x1 = nI j37 ∧ (∃ j48 : Nat, j48 < 261 ∧ x2 = nI j48 ∧ (∃ j49 : Nat, j49 < 261 ∧ x1 = nI j49 ∧ (∃ j60 : Nat, j60 < 261 ∧ x2 = nI j60 ∧ (∃ j61 : Nat, j61 < 261 ∧ x1 = nI j61 ∧ (∃ j72 : Nat, j72 < 261 ∧ x2 = nI j72 ∧ (∃ j73 : Nat, j73 < 261 ∧ x1 = nI j73 ∧ (∃ j84 : Nat, j84 < 261 ∧ x2 = nI j84 ∧ (∃ j85 : Nat, j85 < 261 ∧ x1 = nI j85 ∧ (∃ j92 : Nat, j92 < 261 ∧ x1 = nI j92 ∧ X96 (x1 + 1) x2 n0_thrown n0_objects n0_sets b0_hasFamily (va_up f0_level j37 (f0_level j36)) (va_up f0_value j49 (f0_value j48)) (va_up f0_tags j61 (f0_tags j60)) (va_up f0_link j73 (f0_link j72)) (va_up f0_key j85 (f0_key j84)) (va_up f0_lives j92 true))))))))))))))))) → X9 x1 x2 n0_thrown n0_objects n0_sets b0_hasFamily f0_level f0_value f0_tags f0_link f0_key f0_lives) →
    (∀ (x1 : Int32) (x2 : Int32) (n0_thrown : Int32) (n0_objects : Int32) (n0_sets : Int32) (b0_hasFamily : Bool) (f0_level : Nat → Int32) (f0_value : Nat → Int32) (f0_tags : Nat → Int32) (f0_link : Nat → Int32) (f0_key : Nat → Int32) (f0_lives : Nat → Bool),
      X9 x1 (x2 + 1) n0_thrown n0_objects n0_sets b0_hasFamily f0_level f0_value f0_tags f0_link f0_key f0_lives → X96 x1 x2 n0_thrown n0_objects n0_sets b0_hasFamily f0_level f0_value f0_tags f0_link f0_key f0_lives) →
    X9 0 0 0 n0_objects n0_sets b0_hasFamily f0_level f0_value f0_tags f0_link f0_key f0_lives
set_option maxHeartbeats 4000000 in
set_option maxRecDepth 100000 in
theorem m_X4_merge (l : Launch) (D : va_G) (cs : Nat → ClassId) (h0 : Nat) (h0_level : Nat) (h0_value : Nat) (h0_tags : Nat) (h0_link : Nat) (h0_key : Nat) (h0_lives : Nat) (h0_open : Nat) (h0_in : Nat) (h0_scores : Nat) (h0_was : Nat) (h0_had : Nat)  (n0_thrown : Int32) (n0_objects : Int32) (n0_opened : Int32) (n0_sets : Int32) (b0_hasFamily : Bool) (f0_level : Nat → Int32) (f0_value : Nat → Int32) (f0_tags : Nat → Int32) (f0_link : Nat → Int32) (f0_key : Nat → Int32) (f0_lives : Nat → Bool) (Q : Int32 → Int32 → Int32 → Int32 → Bool → (Nat → Int32) → (Nat → Int32) → (Nat → Int32) → (Nat → Int32) → (Nat → Int32) → (Nat → Bool) → Prop) (h : call_X4_merge n0_thrown n0_objects n0_sets b0_hasFamily f0_level f0_value f0_tags f0_link f0_key f0_lives Q) : CtI l yX4_merge wsX4_merge rm_X4_merge D cs [.ref h0] (pc_X4_merge cs h0 h0_level h0_value h0_tags h0_link h0_key h0_lives h0_open h0_in h0_scores h0_was h0_had n0_thrown n0_objects n0_opened n0_sets b0_hasFamily f0_level f0_value f0_tags f0_link f0_key f0_lives) (fun u : Int32 × Int32 × Int32 × Bool × (Nat → Int32) × (Nat → Int32) × (Nat → Int32) × (Nat → Int32) × (Nat → Int32) × (Nat → Bool) => (pc_X4_merge cs h0 h0_level h0_value h0_tags h0_link h0_key h0_lives h0_open h0_in h0_scores h0_was h0_had u.1 u.2.1 n0_opened u.2.2.1 u.2.2.2.1 u.2.2.2.2.1 u.2.2.2.2.2.1 u.2.2.2.2.2.2.1 u.2.2.2.2.2.2.2.1 u.2.2.2.2.2.2.2.2.1 u.2.2.2.2.2.2.2.2.2)) (fun r u => Q r u.1 u.2.1 u.2.2.1 u.2.2.2.1 u.2.2.2.2.1 u.2.2.2.2.2.1 u.2.2.2.2.2.2.1 u.2.2.2.2.2.2.2.1 u.2.2.2.2.2.2.2.2.1 u.2.2.2.2.2.2.2.2.2) := by
  refine xo_I (S := Int32 × Int32 × Int32 × Bool × (Nat → Int32) × (Nat → Int32) × (Nat → Int32) × (Nat → Int32) × (Nat → Int32) × (Nat → Bool)) (cc := cX4_merge) (maxL := 3) (own := RX4) (lv0 := [(0, .ref h0)]) (by decide) rfl rfl (Nat.le_of_ble_eq_true rfl) rfl ?_
  intro p e s m args below meth c A Z ls F hK hA hP hD hS hl RET
  unfold call_X4_merge at h
  obtain ⟨X9, hX9⟩ : ∃ X : Int32 → Int32 → Int32 → Int32 → Int32 → Bool → (Nat → Int32) → (Nat → Int32) → (Nat → Int32) → (Nat → Int32) → (Nat → Int32) → (Nat → Bool) → Prop, ∀ (x1 : Int32) (x2 : Int32) (n0_thrown : Int32) (n0_objects : Int32) (n0_sets : Int32) (b0_hasFamily : Bool) (f0_level : Nat → Int32) (f0_value : Nat → Int32) (f0_tags : Nat → Int32) (f0_link : Nat → Int32) (f0_key : Nat → Int32) (f0_lives : Nat → Bool), (X x1 x2 n0_thrown n0_objects n0_sets b0_hasFamily f0_level f0_value f0_tags f0_link f0_key f0_lives ↔ ∀ (H : Heap) (locs : List Loc) (ls : Array Slot), va_P D vwCl (pc_X4_merge cs h0 h0_level h0_value h0_tags h0_link h0_key h0_lives h0_open h0_in h0_scores h0_was h0_had n0_thrown n0_objects n0_opened n0_sets b0_hasFamily f0_level f0_value f0_tags f0_link f0_key f0_lives) H → va_D A (pc_X4_merge cs h0 h0_level h0_value h0_tags h0_link h0_key h0_lives h0_open h0_in h0_scores h0_was h0_had n0_thrown n0_objects n0_opened n0_sets b0_hasFamily f0_level f0_value f0_tags f0_link f0_key f0_lives) → va_S A s.heap H locs → lv_has ls 3 [(0, .ref h0), (1, .int x1), (2, .int x2)] → W p l e rm_X4_merge s m args below meth c H locs 0 0 Z (F0 m 9 ls [])) := ⟨_, fun _ _ _ _ _ _ _ _ _ _ _ _ => Iff.rfl⟩
  obtain ⟨X96, hX96⟩ : ∃ X : Int32 → Int32 → Int32 → Int32 → Int32 → Bool → (Nat → Int32) → (Nat → Int32) → (Nat → Int32) → (Nat → Int32) → (Nat → Int32) → (Nat → Bool) → Prop, ∀ (x1 : Int32) (x2 : Int32) (n0_thrown : Int32) (n0_objects : Int32) (n0_sets : Int32) (b0_hasFamily : Bool) (f0_level : Nat → Int32) (f0_value : Nat → Int32) (f0_tags : Nat → Int32) (f0_link : Nat → Int32) (f0_key : Nat → Int32) (f0_lives : Nat → Bool), (X x1 x2 n0_thrown n0_objects n0_sets b0_hasFamily f0_level f0_value f0_tags f0_link f0_key f0_lives ↔ ∀ (H : Heap) (locs : List Loc) (ls : Array Slot), va_P D vwCl (pc_X4_merge cs h0 h0_level h0_value h0_tags h0_link h0_key h0_lives h0_open h0_in h0_scores h0_was h0_had n0_thrown n0_objects n0_opened n0_sets b0_hasFamily f0_level f0_value f0_tags f0_link f0_key f0_lives) H → va_D A (pc_X4_merge cs h0 h0_level h0_value h0_tags h0_link h0_key h0_lives h0_open h0_in h0_scores h0_was h0_had n0_thrown n0_objects n0_opened n0_sets b0_hasFamily f0_level f0_value f0_tags f0_link f0_key f0_lives) → va_S A s.heap H locs → lv_has ls 3 [(0, .ref h0), (1, .int x1), (2, .int x2)] → W p l e rm_X4_merge s m args below meth c H locs 0 0 Z (F0 m 96 ls [])) := ⟨_, fun _ _ _ _ _ _ _ _ _ _ _ _ => Iff.rfl⟩
  refine xt_cut (h X9 X96 ?_ ?_) (fun hw => ?_)
  · intro x1 x2 n0_thrown n0_objects n0_sets b0_hasFamily f0_level f0_value f0_tags f0_link f0_key f0_lives hw
    refine (hX9 _ _ _ _ _ _ _ _ _ _ _ _).mpr ?_
    intro H locs ls hP hD hS hl
    refine lv_iload_n F.1 F.2.1 dX4_merge_9 rfl (lv_at hl 2 rfl) ?_
    refine lv_aload_n F.1 F.2.1 dX4_merge_10 rfl (lv_at hl 0 rfl) ?_
    refine xi_get (C := RX4) (T := TX4) (N := 16) (v := .int n0_objects) F in_X4_merge_X4 hK hP 0 rfl rfl 1 (by decide) fl_X4_merge_49 rfl dX4_merge_11 ?_
    refine lv_icmp_ge (tgt := 102) F.1 F.2.1 dX4_merge_14 (by decide) (fun hc => ?_) (fun hc => ?_)
    · have hw := hw.1 hc
      refine lv_aload_n F.1 F.2.1 dX4_merge_102 rfl (lv_at hl 0 rfl) ?_
      refine lv_iload_n F.1 F.2.1 dX4_merge_103 rfl (lv_at hl 1 rfl) ?_
      refine xi_put (C := RX4) (T := TX4) (N := 16) (v := .int x1) (ty := .int) F in_X4_merge_X4 tyX4 tyX4_ok nmX4 hK hP hD hS 0 rfl rfl 1 (by decide) fl_X4_merge_49 rfl (tyX4_ok 1 (by decide)) rfl rfl (Nat.le_of_ble_eq_true rfl) dX4_merge_104 (fun H locs hP hD hS => ?_)
      have hP : va_P D vwCl (pc_X4_merge cs h0 h0_level h0_value h0_tags h0_link h0_key h0_lives h0_open h0_in h0_scores h0_was h0_had n0_thrown x1 n0_opened n0_sets b0_hasFamily f0_level f0_value f0_tags f0_link f0_key f0_lives) H := hP
      have hD : va_D A (pc_X4_merge cs h0 h0_level h0_value h0_tags h0_link h0_key h0_lives h0_open h0_in h0_scores h0_was h0_had n0_thrown x1 n0_opened n0_sets b0_hasFamily f0_level f0_value f0_tags f0_link f0_key f0_lives) := hD
      refine lv_aload_n F.1 F.2.1 dX4_merge_107 rfl (lv_at hl 0 rfl) ?_
      refine xc_Vv (As := []) (rest := []) (m_X4_empty l D cs h0 h0_level h0_value h0_tags h0_link h0_key h0_lives h0_open h0_in h0_scores h0_was h0_had n0_thrown x1 n0_opened n0_sets b0_hasFamily _ hw) F (cwV 0 F.2.2.2.2 gX4_merge_X4_empty rfl rfl rfl (by decide +kernel) ⟨Nat.le_of_ble_eq_true rfl, Nat.le_of_ble_eq_true rfl⟩) hK hP hD hS hA [0] [1, 2, 3, 4, 5, 6] rfl rfl 0 rfl rfl rfl hl.1 rfl (Nat.le_of_ble_eq_true rfl) dX4_merge_108 ⟨Nat.zero_le _, Nat.zero_le _⟩ (fun u H locs hw hP hD hS => ?_)
      obtain ⟨n0_sets_108, b0_hasFamily_108⟩ := u
      have hP : va_P D vwCl (pc_X4_merge cs h0 h0_level h0_value h0_tags h0_link h0_key h0_lives h0_open h0_in h0_scores h0_was h0_had n0_thrown x1 n0_opened n0_sets_108 b0_hasFamily_108 f0_level f0_value f0_tags f0_link f0_key f0_lives) H := hP.sub [6, 0, 1, 2, 3, 4, 5] rfl
      have hD : va_D A (pc_X4_merge cs h0 h0_level h0_value h0_tags h0_link h0_key h0_lives h0_open h0_in h0_scores h0_was h0_had n0_thrown x1 n0_opened n0_sets_108 b0_hasFamily_108 f0_level f0_value f0_tags f0_link f0_key f0_lives) := hD.sub [6, 0, 1, 2, 3, 4, 5] (by decide) rfl
      try dsimp only at hw
      refine lv_iload_n F.1 F.2.1 dX4_merge_111 rfl (lv_at hl 1 rfl) ?_
      exact RET x1 (n0_thrown, x1, n0_sets_108, b0_hasFamily_108, f0_level, f0_value, f0_tags, f0_link, f0_key, f0_lives) H locs 112 ls hw hP hD hS dX4_merge_112
    · have hw := hw.2 hc
      refine lv_aload_n F.1 F.2.1 dX4_merge_17 rfl (lv_at hl 0 rfl) ?_
      refine xi_get (C := RX4) (T := TX4) (N := 16) (v := .ref h0_lives) F in_X4_merge_X4 hK hP 0 rfl rfl 7 (by decide) fl_X4_merge_25 rfl dX4_merge_18 ?_
      refine lv_iload_n F.1 F.2.1 dX4_merge_21 rfl (lv_at hl 2 rfl) ?_
      obtain ⟨j22, hj, he, hw⟩ := hw
      refine xi_zald (j := j22) F hK hP 6 rfl (by decide) hj he dX4_merge_22 ?_
      refine xi_ifeqz (tgt := 96) F dX4_merge_23 (by decide) (fun hc => ?_) (fun hc => ?_)
      · have hw := hw.1 hc
        exact (hX96 _ _ _ _ _ _ _ _ _ _ _ _).mp hw H locs ls hP hD hS (lv_sub hl [0, 1, 2] rfl)
      · have hw := hw.2 hc
        refine lv_aload_n F.1 F.2.1 dX4_merge_26 rfl (lv_at hl 0 rfl) ?_
        refine xi_get (C := RX4) (T := TX4) (N := 16) (v := .ref h0_level) F in_X4_merge_X4 hK hP 0 rfl rfl 2 (by decide) fl_X4_merge_7 rfl dX4_merge_27 ?_
        refine lv_iload_n F.1 F.2.1 dX4_merge_30 rfl (lv_at hl 1 rfl) ?_
        refine lv_aload_n F.1 F.2.1 dX4_merge_31 rfl (lv_at hl 0 rfl) ?_
        refine xi_get (C := RX4) (T := TX4) (N := 16) (v := .ref h0_level) F in_X4_merge_X4 hK hP 0 rfl rfl 2 (by decide) fl_X4_merge_7 rfl dX4_merge_32 ?_
        refine lv_iload_n F.1 F.2.1 dX4_merge_35 rfl (lv_at hl 2 rfl) ?_
        obtain ⟨j36, hj, he, hw⟩ := hw
        refine xi_iald (j := j36) F hK hP 1 rfl (by decide) hj he dX4_merge_36 ?_
        obtain ⟨j37, hj, he, hw⟩ := hw
        refine xi_iast (j := j37) F hK hP hD hS 1 rfl (by decide) hj he dX4_merge_37 (fun H locs hP hD hS => ?_)
        have hP : va_P D vwCl (pc_X4_merge cs h0 h0_level h0_value h0_tags h0_link h0_key h0_lives h0_open h0_in h0_scores h0_was h0_had n0_thrown n0_objects n0_opened n0_sets b0_hasFamily (va_up f0_level j37 (f0_level j36)) f0_value f0_tags f0_link f0_key f0_lives) H := hP
        have hD : va_D A (pc_X4_merge cs h0 h0_level h0_value h0_tags h0_link h0_key h0_lives h0_open h0_in h0_scores h0_was h0_had n0_thrown n0_objects n0_opened n0_sets b0_hasFamily (va_up f0_level j37 (f0_level j36)) f0_value f0_tags f0_link f0_key f0_lives) := hD
        refine lv_aload_n F.1 F.2.1 dX4_merge_38 rfl (lv_at hl 0 rfl) ?_
        refine xi_get (C := RX4) (T := TX4) (N := 16) (v := .ref h0_value) F in_X4_merge_X4 hK hP 0 rfl rfl 3 (by decide) fl_X4_merge_13 rfl dX4_merge_39 ?_
        refine lv_iload_n F.1 F.2.1 dX4_merge_42 rfl (lv_at hl 1 rfl) ?_
        refine lv_aload_n F.1 F.2.1 dX4_merge_43 rfl (lv_at hl 0 rfl) ?_
        refine xi_get (C := RX4) (T := TX4) (N := 16) (v := .ref h0_value) F in_X4_merge_X4 hK hP 0 rfl rfl 3 (by decide) fl_X4_merge_13 rfl dX4_merge_44 ?_
        refine lv_iload_n F.1 F.2.1 dX4_merge_47 rfl (lv_at hl 2 rfl) ?_
        obtain ⟨j48, hj, he, hw⟩ := hw
        refine xi_iald (j := j48) F hK hP 2 rfl (by decide) hj he dX4_merge_48 ?_
        obtain ⟨j49, hj, he, hw⟩ := hw
        refine xi_iast (j := j49) F hK hP hD hS 2 rfl (by decide) hj he dX4_merge_49 (fun H locs hP hD hS => ?_)
        have hP : va_P D vwCl (pc_X4_merge cs h0 h0_level h0_value h0_tags h0_link h0_key h0_lives h0_open h0_in h0_scores h0_was h0_had n0_thrown n0_objects n0_opened n0_sets b0_hasFamily (va_up f0_level j37 (f0_level j36)) (va_up f0_value j49 (f0_value j48)) f0_tags f0_link f0_key f0_lives) H := hP
        have hD : va_D A (pc_X4_merge cs h0 h0_level h0_value h0_tags h0_link h0_key h0_lives h0_open h0_in h0_scores h0_was h0_had n0_thrown n0_objects n0_opened n0_sets b0_hasFamily (va_up f0_level j37 (f0_level j36)) (va_up f0_value j49 (f0_value j48)) f0_tags f0_link f0_key f0_lives) := hD
        refine lv_aload_n F.1 F.2.1 dX4_merge_50 rfl (lv_at hl 0 rfl) ?_
        refine xi_get (C := RX4) (T := TX4) (N := 16) (v := .ref h0_tags) F in_X4_merge_X4 hK hP 0 rfl rfl 4 (by decide) fl_X4_merge_16 rfl dX4_merge_51 ?_
        refine lv_iload_n F.1 F.2.1 dX4_merge_54 rfl (lv_at hl 1 rfl) ?_
        refine lv_aload_n F.1 F.2.1 dX4_merge_55 rfl (lv_at hl 0 rfl) ?_
        refine xi_get (C := RX4) (T := TX4) (N := 16) (v := .ref h0_tags) F in_X4_merge_X4 hK hP 0 rfl rfl 4 (by decide) fl_X4_merge_16 rfl dX4_merge_56 ?_
        refine lv_iload_n F.1 F.2.1 dX4_merge_59 rfl (lv_at hl 2 rfl) ?_
        obtain ⟨j60, hj, he, hw⟩ := hw
        refine xi_iald (j := j60) F hK hP 3 rfl (by decide) hj he dX4_merge_60 ?_
        obtain ⟨j61, hj, he, hw⟩ := hw
        refine xi_iast (j := j61) F hK hP hD hS 3 rfl (by decide) hj he dX4_merge_61 (fun H locs hP hD hS => ?_)
        have hP : va_P D vwCl (pc_X4_merge cs h0 h0_level h0_value h0_tags h0_link h0_key h0_lives h0_open h0_in h0_scores h0_was h0_had n0_thrown n0_objects n0_opened n0_sets b0_hasFamily (va_up f0_level j37 (f0_level j36)) (va_up f0_value j49 (f0_value j48)) (va_up f0_tags j61 (f0_tags j60)) f0_link f0_key f0_lives) H := hP
        have hD : va_D A (pc_X4_merge cs h0 h0_level h0_value h0_tags h0_link h0_key h0_lives h0_open h0_in h0_scores h0_was h0_had n0_thrown n0_objects n0_opened n0_sets b0_hasFamily (va_up f0_level j37 (f0_level j36)) (va_up f0_value j49 (f0_value j48)) (va_up f0_tags j61 (f0_tags j60)) f0_link f0_key f0_lives) := hD
        refine lv_aload_n F.1 F.2.1 dX4_merge_62 rfl (lv_at hl 0 rfl) ?_
        refine xi_get (C := RX4) (T := TX4) (N := 16) (v := .ref h0_link) F in_X4_merge_X4 hK hP 0 rfl rfl 5 (by decide) fl_X4_merge_19 rfl dX4_merge_63 ?_
        refine lv_iload_n F.1 F.2.1 dX4_merge_66 rfl (lv_at hl 1 rfl) ?_
        refine lv_aload_n F.1 F.2.1 dX4_merge_67 rfl (lv_at hl 0 rfl) ?_
        refine xi_get (C := RX4) (T := TX4) (N := 16) (v := .ref h0_link) F in_X4_merge_X4 hK hP 0 rfl rfl 5 (by decide) fl_X4_merge_19 rfl dX4_merge_68 ?_
        refine lv_iload_n F.1 F.2.1 dX4_merge_71 rfl (lv_at hl 2 rfl) ?_
        obtain ⟨j72, hj, he, hw⟩ := hw
        refine xi_iald (j := j72) F hK hP 4 rfl (by decide) hj he dX4_merge_72 ?_
        obtain ⟨j73, hj, he, hw⟩ := hw
        refine xi_iast (j := j73) F hK hP hD hS 4 rfl (by decide) hj he dX4_merge_73 (fun H locs hP hD hS => ?_)
        have hP : va_P D vwCl (pc_X4_merge cs h0 h0_level h0_value h0_tags h0_link h0_key h0_lives h0_open h0_in h0_scores h0_was h0_had n0_thrown n0_objects n0_opened n0_sets b0_hasFamily (va_up f0_level j37 (f0_level j36)) (va_up f0_value j49 (f0_value j48)) (va_up f0_tags j61 (f0_tags j60)) (va_up f0_link j73 (f0_link j72)) f0_key f0_lives) H := hP
        have hD : va_D A (pc_X4_merge cs h0 h0_level h0_value h0_tags h0_link h0_key h0_lives h0_open h0_in h0_scores h0_was h0_had n0_thrown n0_objects n0_opened n0_sets b0_hasFamily (va_up f0_level j37 (f0_level j36)) (va_up f0_value j49 (f0_value j48)) (va_up f0_tags j61 (f0_tags j60)) (va_up f0_link j73 (f0_link j72)) f0_key f0_lives) := hD
        refine lv_aload_n F.1 F.2.1 dX4_merge_74 rfl (lv_at hl 0 rfl) ?_
        refine xi_get (C := RX4) (T := TX4) (N := 16) (v := .ref h0_key) F in_X4_merge_X4 hK hP 0 rfl rfl 6 (by decide) fl_X4_merge_22 rfl dX4_merge_75 ?_
        refine lv_iload_n F.1 F.2.1 dX4_merge_78 rfl (lv_at hl 1 rfl) ?_
        refine lv_aload_n F.1 F.2.1 dX4_merge_79 rfl (lv_at hl 0 rfl) ?_
        refine xi_get (C := RX4) (T := TX4) (N := 16) (v := .ref h0_key) F in_X4_merge_X4 hK hP 0 rfl rfl 6 (by decide) fl_X4_merge_22 rfl dX4_merge_80 ?_
        refine lv_iload_n F.1 F.2.1 dX4_merge_83 rfl (lv_at hl 2 rfl) ?_
        obtain ⟨j84, hj, he, hw⟩ := hw
        refine xi_iald (j := j84) F hK hP 5 rfl (by decide) hj he dX4_merge_84 ?_
        obtain ⟨j85, hj, he, hw⟩ := hw
        refine xi_iast (j := j85) F hK hP hD hS 5 rfl (by decide) hj he dX4_merge_85 (fun H locs hP hD hS => ?_)
        have hP : va_P D vwCl (pc_X4_merge cs h0 h0_level h0_value h0_tags h0_link h0_key h0_lives h0_open h0_in h0_scores h0_was h0_had n0_thrown n0_objects n0_opened n0_sets b0_hasFamily (va_up f0_level j37 (f0_level j36)) (va_up f0_value j49 (f0_value j48)) (va_up f0_tags j61 (f0_tags j60)) (va_up f0_link j73 (f0_link j72)) (va_up f0_key j85 (f0_key j84)) f0_lives) H := hP
        have hD : va_D A (pc_X4_merge cs h0 h0_level h0_value h0_tags h0_link h0_key h0_lives h0_open h0_in h0_scores h0_was h0_had n0_thrown n0_objects n0_opened n0_sets b0_hasFamily (va_up f0_level j37 (f0_level j36)) (va_up f0_value j49 (f0_value j48)) (va_up f0_tags j61 (f0_tags j60)) (va_up f0_link j73 (f0_link j72)) (va_up f0_key j85 (f0_key j84)) f0_lives) := hD
        refine lv_aload_n F.1 F.2.1 dX4_merge_86 rfl (lv_at hl 0 rfl) ?_
        refine xi_get (C := RX4) (T := TX4) (N := 16) (v := .ref h0_lives) F in_X4_merge_X4 hK hP 0 rfl rfl 7 (by decide) fl_X4_merge_25 rfl dX4_merge_87 ?_
        refine lv_iload_n F.1 F.2.1 dX4_merge_90 rfl (lv_at hl 1 rfl) ?_
        refine lv_iconst (v := 1) F.1 F.2.1 dX4_merge_91 (by decide) ?_
        obtain ⟨j92, hj, he, hw⟩ := hw
        refine xi_zast (v := true) (j := j92) F hK hP hD hS 6 rfl (by decide) hj he rfl dX4_merge_92 (fun H locs hP hD hS => ?_)
        have hP : va_P D vwCl (pc_X4_merge cs h0 h0_level h0_value h0_tags h0_link h0_key h0_lives h0_open h0_in h0_scores h0_was h0_had n0_thrown n0_objects n0_opened n0_sets b0_hasFamily (va_up f0_level j37 (f0_level j36)) (va_up f0_value j49 (f0_value j48)) (va_up f0_tags j61 (f0_tags j60)) (va_up f0_link j73 (f0_link j72)) (va_up f0_key j85 (f0_key j84)) (va_up f0_lives j92 true)) H := hP
        have hD : va_D A (pc_X4_merge cs h0 h0_level h0_value h0_tags h0_link h0_key h0_lives h0_open h0_in h0_scores h0_was h0_had n0_thrown n0_objects n0_opened n0_sets b0_hasFamily (va_up f0_level j37 (f0_level j36)) (va_up f0_value j49 (f0_value j48)) (va_up f0_tags j61 (f0_tags j60)) (va_up f0_link j73 (f0_link j72)) (va_up f0_key j85 (f0_key j84)) (va_up f0_lives j92 true)) := hD
        refine lv_iinc (v := (x1 + 1)) (lv' := [(1, .int (x1 + 1)), (0, .ref h0), (2, .int x2)]) F.1 F.2.1 dX4_merge_93 hl (k := 1) rfl rfl (by decide) rfl (fun ls hl => ?_)
        exact (hX96 _ _ _ _ _ _ _ _ _ _ _ _).mp hw H locs ls hP hD hS (lv_sub hl [1, 0, 2] rfl)
  · intro x1 x2 n0_thrown n0_objects n0_sets b0_hasFamily f0_level f0_value f0_tags f0_link f0_key f0_lives hw
    refine (hX96 _ _ _ _ _ _ _ _ _ _ _ _).mpr ?_
    intro H locs ls hP hD hS hl
    refine lv_iinc (v := (x2 + 1)) (lv' := [(2, .int (x2 + 1)), (0, .ref h0), (1, .int x1)]) F.1 F.2.1 dX4_merge_96 hl (k := 2) rfl rfl (by decide) rfl (fun ls hl => ?_)
    refine lv_goto (tgt := 9) F.1 F.2.1 dX4_merge_99 (by decide) ?_
    exact (hX9 _ _ _ _ _ _ _ _ _ _ _ _).mp hw H locs ls hP hD hS (lv_sub hl [1, 2, 0] rfl)
  generalize ([] : List Loc) = locs at hS ⊢
  obtain ⟨H, hHe⟩ : ∃ H, H = s.heap := ⟨_, rfl⟩
  have hP : va_P D vwCl (pc_X4_merge cs h0 h0_level h0_value h0_tags h0_link h0_key h0_lives h0_open h0_in h0_scores h0_was h0_had n0_thrown n0_objects n0_opened n0_sets b0_hasFamily f0_level f0_value f0_tags f0_link f0_key f0_lives) H := by rw [hHe]; exact hP
  have hS : va_S A s.heap H locs := by rw [hHe]; exact hS
  suffices W p l e rm_X4_merge s m args below meth c H locs 0 0 Z (F0 m 0 ls []) by rw [hHe] at this; exact this
  refine lv_aload_n F.1 F.2.1 dX4_merge_0 rfl (lv_at hl 0 rfl) ?_
  refine lv_iconst (v := 0) F.1 F.2.1 dX4_merge_1 (by decide) ?_
  refine xi_put (C := RX4) (T := TX4) (N := 16) (v := .int 0) (ty := .int) F in_X4_merge_X4 tyX4 tyX4_ok nmX4 hK hP hD hS 0 rfl rfl 0 (by decide) fl_X4_merge_45 rfl (tyX4_ok 0 (by decide)) rfl rfl (Nat.le_of_ble_eq_true rfl) dX4_merge_2 (fun H locs hP hD hS => ?_)
  have hP : va_P D vwCl (pc_X4_merge cs h0 h0_level h0_value h0_tags h0_link h0_key h0_lives h0_open h0_in h0_scores h0_was h0_had 0 n0_objects n0_opened n0_sets b0_hasFamily f0_level f0_value f0_tags f0_link f0_key f0_lives) H := hP
  have hD : va_D A (pc_X4_merge cs h0 h0_level h0_value h0_tags h0_link h0_key h0_lives h0_open h0_in h0_scores h0_was h0_had 0 n0_objects n0_opened n0_sets b0_hasFamily f0_level f0_value f0_tags f0_link f0_key f0_lives) := hD
  refine lv_iconst (v := 0) F.1 F.2.1 dX4_merge_5 (by decide) ?_
  refine lv_istore_n (lv' := [(1, .int 0), (0, .ref h0)]) F.1 F.2.1 dX4_merge_6 rfl hl (by decide) rfl (fun ls hl => ?_)
  refine lv_iconst (v := 0) F.1 F.2.1 dX4_merge_7 (by decide) ?_
  refine lv_istore_n (lv' := [(2, .int 0), (1, .int 0), (0, .ref h0)]) F.1 F.2.1 dX4_merge_8 rfl hl (by decide) rfl (fun ls hl => ?_)
  exact (hX9 _ _ _ _ _ _ _ _ _ _ _ _).mp hw H locs ls hP hD hS (lv_sub hl [2, 1, 0] rfl)

theorem in_X4_parent_X4 : ∀ w ∈ wsX40, w ∈ wsX4_parent := by decide +kernel
theorem fl_X4_parent_7 : Cond.fieldLink RX4 7 "JoinBlocksModel" "level" "[I" ∈ wsX4_parent := by decide +kernel
abbrev pc_X4_parent (cs : Nat → ClassId) (h0 : Nat) (h0_level : Nat) (h0_value : Nat) (h0_tags : Nat) (h0_link : Nat) (h0_key : Nat) (h0_lives : Nat) (h0_open : Nat) (h0_in : Nat) (h0_scores : Nat) (h0_was : Nat) (h0_had : Nat) (n0_thrown : Int32) (n0_objects : Int32) (n0_opened : Int32) (n0_sets : Int32) (b0_hasFamily : Bool) (f0_level : Nat → Int32) : va_W := [(h0, .inr (4, [.int n0_thrown, .int n0_objects, .ref h0_level, .ref h0_value, .ref h0_tags, .ref h0_link, .ref h0_key, .ref h0_lives, .int n0_opened, .ref h0_open, .int n0_sets, .ref h0_in, .ref h0_scores, .int (b2i b0_hasFamily), .ref h0_was, .ref h0_had])), (h0_level, .inl (cs 0, 261, .inl f0_level))]
abbrev rm_X4_parent : Room := { frames := 0, cells := 0, slots := 0, locals := 0 }
def call_X4_parent (p1 : Int32) (f0_level : Nat → Int32) (Q : Int32 → Prop) : Prop := ∀ (X17 : Int32 → Prop),
    (∀ (x2 : Int32),
      (∃ j22 : Nat, j22 < 261 ∧ x2 = nI j22 ∧ (∃ j28 : Nat, j28 < 261 ∧ p1 = nI j28 ∧ (((f0_level j28) < (f0_level j22) → Q x2) ∧ (¬ (f0_level j28) < (f0_level j22) → X17 (x2 + 1))))) → X17 x2) →
    (∃ j5 : Nat, j5 < 261 ∧ p1 = nI j5 ∧ ((¬ (f0_level j5) = 2 → X17 (p1 + 1)) ∧ ((f0_level j5) = 2 → Q (-3))))
set_option maxHeartbeats 4000000 in
set_option maxRecDepth 100000 in
theorem m_X4_parent (l : Launch) (D : va_G) (cs : Nat → ClassId) (h0 : Nat) (h0_level : Nat) (h0_value : Nat) (h0_tags : Nat) (h0_link : Nat) (h0_key : Nat) (h0_lives : Nat) (h0_open : Nat) (h0_in : Nat) (h0_scores : Nat) (h0_was : Nat) (h0_had : Nat)  (p1 : Int32) (n0_thrown : Int32) (n0_objects : Int32) (n0_opened : Int32) (n0_sets : Int32) (b0_hasFamily : Bool) (f0_level : Nat → Int32) (Q : Int32 → Prop) (h : call_X4_parent p1 f0_level Q) : CtI l yX4_parent wsX4_parent rm_X4_parent D cs [.ref h0, .int p1] (pc_X4_parent cs h0 h0_level h0_value h0_tags h0_link h0_key h0_lives h0_open h0_in h0_scores h0_was h0_had n0_thrown n0_objects n0_opened n0_sets b0_hasFamily f0_level) (fun u : Unit => (pc_X4_parent cs h0 h0_level h0_value h0_tags h0_link h0_key h0_lives h0_open h0_in h0_scores h0_was h0_had n0_thrown n0_objects n0_opened n0_sets b0_hasFamily f0_level)) (fun r u => Q r ) := by
  refine xo_I (S := Unit) (cc := cX4_parent) (maxL := 3) (own := RX4) (lv0 := [(0, .ref h0), (1, .int p1)]) (by decide) rfl rfl (Nat.le_of_ble_eq_true rfl) rfl ?_
  intro p e s m args below meth c A Z ls F hK hA hP hD hS hl RET
  unfold call_X4_parent at h
  obtain ⟨X17, hX17⟩ : ∃ X : Int32 → Prop, ∀ (x2 : Int32), (X x2 ↔ ∀ (H : Heap) (locs : List Loc) (ls : Array Slot), va_P D vwCl (pc_X4_parent cs h0 h0_level h0_value h0_tags h0_link h0_key h0_lives h0_open h0_in h0_scores h0_was h0_had n0_thrown n0_objects n0_opened n0_sets b0_hasFamily f0_level) H → va_D A (pc_X4_parent cs h0 h0_level h0_value h0_tags h0_link h0_key h0_lives h0_open h0_in h0_scores h0_was h0_had n0_thrown n0_objects n0_opened n0_sets b0_hasFamily f0_level) → va_S A s.heap H locs → lv_has ls 3 [(0, .ref h0), (1, .int p1), (2, .int x2)] → W p l e rm_X4_parent s m args below meth c H locs 0 0 Z (F0 m 17 ls [])) := ⟨_, fun _ => Iff.rfl⟩
  refine xt_cut (h X17 ?_) (fun hw => ?_)
  · intro x2 hw
    refine (hX17 _).mpr ?_
    intro H locs ls hP hD hS hl
    refine lv_aload_n F.1 F.2.1 dX4_parent_17 rfl (lv_at hl 0 rfl) ?_
    refine xi_get (C := RX4) (T := TX4) (N := 16) (v := .ref h0_level) F in_X4_parent_X4 hK hP 0 rfl rfl 2 (by decide) fl_X4_parent_7 rfl dX4_parent_18 ?_
    refine lv_iload_n F.1 F.2.1 dX4_parent_21 rfl (lv_at hl 2 rfl) ?_
    obtain ⟨j22, hj, he, hw⟩ := hw
    refine xi_iald (j := j22) F hK hP 1 rfl (by decide) hj he dX4_parent_22 ?_
    refine lv_aload_n F.1 F.2.1 dX4_parent_23 rfl (lv_at hl 0 rfl) ?_
    refine xi_get (C := RX4) (T := TX4) (N := 16) (v := .ref h0_level) F in_X4_parent_X4 hK hP 0 rfl rfl 2 (by decide) fl_X4_parent_7 rfl dX4_parent_24 ?_
    refine lv_iload_n F.1 F.2.1 dX4_parent_27 rfl (lv_at hl 1 rfl) ?_
    obtain ⟨j28, hj, he, hw⟩ := hw
    refine xi_iald (j := j28) F hK hP 1 rfl (by decide) hj he dX4_parent_28 ?_
    refine lv_icmp_gt (tgt := 38) F.1 F.2.1 dX4_parent_29 (by decide) (fun hc => ?_) (fun hc => ?_)
    · have hw := hw.1 hc
      refine lv_iload_n F.1 F.2.1 dX4_parent_38 rfl (lv_at hl 2 rfl) ?_
      exact RET x2 () H locs 39 ls hw hP hD hS dX4_parent_39
    · have hw := hw.2 hc
      refine lv_iinc (v := (x2 + 1)) (lv' := [(2, .int (x2 + 1)), (0, .ref h0), (1, .int p1)]) F.1 F.2.1 dX4_parent_32 hl (k := 2) rfl rfl (by decide) rfl (fun ls hl => ?_)
      refine lv_goto (tgt := 17) F.1 F.2.1 dX4_parent_35 (by decide) ?_
      exact (hX17 _).mp hw H locs ls hP hD hS (lv_sub hl [1, 2, 0] rfl)
  generalize ([] : List Loc) = locs at hS ⊢
  obtain ⟨H, hHe⟩ : ∃ H, H = s.heap := ⟨_, rfl⟩
  have hP : va_P D vwCl (pc_X4_parent cs h0 h0_level h0_value h0_tags h0_link h0_key h0_lives h0_open h0_in h0_scores h0_was h0_had n0_thrown n0_objects n0_opened n0_sets b0_hasFamily f0_level) H := by rw [hHe]; exact hP
  have hS : va_S A s.heap H locs := by rw [hHe]; exact hS
  suffices W p l e rm_X4_parent s m args below meth c H locs 0 0 Z (F0 m 0 ls []) by rw [hHe] at this; exact this
  refine lv_aload_n F.1 F.2.1 dX4_parent_0 rfl (lv_at hl 0 rfl) ?_
  refine xi_get (C := RX4) (T := TX4) (N := 16) (v := .ref h0_level) F in_X4_parent_X4 hK hP 0 rfl rfl 2 (by decide) fl_X4_parent_7 rfl dX4_parent_1 ?_
  refine lv_iload_n F.1 F.2.1 dX4_parent_4 rfl (lv_at hl 1 rfl) ?_
  obtain ⟨j5, hj, he, hw⟩ := hw
  refine xi_iald (j := j5) F hK hP 1 rfl (by decide) hj he dX4_parent_5 ?_
  refine lv_iconst (v := 2) F.1 F.2.1 dX4_parent_6 (by decide) ?_
  refine lv_icmp_ne (tgt := 13) F.1 F.2.1 dX4_parent_7 (by decide) (fun hc => ?_) (fun hc => ?_)
  · have hw := hw.1 hc
    refine lv_iload_n F.1 F.2.1 dX4_parent_13 rfl (lv_at hl 1 rfl) ?_
    refine lv_iconst (v := 1) F.1 F.2.1 dX4_parent_14 (by decide) ?_
    refine lv_iadd F.1 F.2.1 dX4_parent_15 ?_
    refine lv_istore_n (lv' := [(2, .int (p1 + 1)), (0, .ref h0), (1, .int p1)]) F.1 F.2.1 dX4_parent_16 rfl hl (by decide) rfl (fun ls hl => ?_)
    exact (hX17 _).mp hw H locs ls hP hD hS (lv_sub hl [1, 2, 0] rfl)
  · have hw := hw.2 hc
    refine lv_bipush (v := (-3)) F.1 F.2.1 dX4_parent_10 (by decide) ?_
    exact RET (-3) () H locs 12 ls hw hP hD hS dX4_parent_12

abbrev pc_X4_isAbove (cs : Nat → ClassId) (h0 : Nat) (h0_level : Nat) (h0_value : Nat) (h0_tags : Nat) (h0_link : Nat) (h0_key : Nat) (h0_lives : Nat) (h0_open : Nat) (h0_in : Nat) (h0_scores : Nat) (h0_was : Nat) (h0_had : Nat) (n0_thrown : Int32) (n0_objects : Int32) (n0_opened : Int32) (n0_sets : Int32) (b0_hasFamily : Bool) (f0_level : Nat → Int32) : va_W := [(h0, .inr (4, [.int n0_thrown, .int n0_objects, .ref h0_level, .ref h0_value, .ref h0_tags, .ref h0_link, .ref h0_key, .ref h0_lives, .int n0_opened, .ref h0_open, .int n0_sets, .ref h0_in, .ref h0_scores, .int (b2i b0_hasFamily), .ref h0_was, .ref h0_had])), (h0_level, .inl (cs 0, 261, .inl f0_level))]
abbrev rm_X4_isAbove : Room := { frames := 1, cells := 0, slots := 0, locals := 22 }
def call_X4_isAbove (p1 : Int32) (p2 : Int32) (f0_level : Nat → Int32) (Q : Bool → Prop) : Prop := ∀ (X6 : Int32 → Prop) (X24 : Int32 → Prop) (X34 : Bool → Prop),
    (∀ (x3 : Int32),
      ((x3 < 0 → X24 x3) ∧ (¬ x3 < 0 → ((x3 = p1 → X24 x3) ∧ (¬ x3 = p1 → (call_X4_parent x3 f0_level (fun (r17 : Int32) => X6 r17)))))) → X6 x3) →
    (∀ (x3 : Int32),
      ((¬ x3 = p1 → X34 false) ∧ (x3 = p1 → X34 true)) → X24 x3) →
    (∀ (s0 : Bool),
      Q s0 → X34 s0) →
    (call_X4_parent p2 f0_level (fun (r2 : Int32) => X6 r2))
set_option maxHeartbeats 4000000 in
set_option maxRecDepth 100000 in
theorem m_X4_isAbove (l : Launch) (D : va_G) (cs : Nat → ClassId) (h0 : Nat) (h0_level : Nat) (h0_value : Nat) (h0_tags : Nat) (h0_link : Nat) (h0_key : Nat) (h0_lives : Nat) (h0_open : Nat) (h0_in : Nat) (h0_scores : Nat) (h0_was : Nat) (h0_had : Nat)  (p1 : Int32) (p2 : Int32) (n0_thrown : Int32) (n0_objects : Int32) (n0_opened : Int32) (n0_sets : Int32) (b0_hasFamily : Bool) (f0_level : Nat → Int32) (Q : Bool → Prop) (h : call_X4_isAbove p1 p2 f0_level Q) : CtZ l yX4_isAbove wsX4_isAbove rm_X4_isAbove D cs [.ref h0, .int p1, .int p2] (pc_X4_isAbove cs h0 h0_level h0_value h0_tags h0_link h0_key h0_lives h0_open h0_in h0_scores h0_was h0_had n0_thrown n0_objects n0_opened n0_sets b0_hasFamily f0_level) (fun u : Unit => (pc_X4_isAbove cs h0 h0_level h0_value h0_tags h0_link h0_key h0_lives h0_open h0_in h0_scores h0_was h0_had n0_thrown n0_objects n0_opened n0_sets b0_hasFamily f0_level)) (fun r u => Q r ) := by
  refine xo_Z (S := Unit) (cc := cX4_isAbove) (maxL := 4) (own := RX4) (lv0 := [(0, .ref h0), (1, .int p1), (2, .int p2)]) (by decide) rfl rfl (Nat.le_of_ble_eq_true rfl) rfl ?_
  intro p e s m args below meth c A Z ls F hK hA hP hD hS hl RET
  unfold call_X4_isAbove at h
  obtain ⟨X6, hX6⟩ : ∃ X : Int32 → Prop, ∀ (x3 : Int32), (X x3 ↔ ∀ (H : Heap) (locs : List Loc) (ls : Array Slot), va_P D vwCl (pc_X4_isAbove cs h0 h0_level h0_value h0_tags h0_link h0_key h0_lives h0_open h0_in h0_scores h0_was h0_had n0_thrown n0_objects n0_opened n0_sets b0_hasFamily f0_level) H → va_D A (pc_X4_isAbove cs h0 h0_level h0_value h0_tags h0_link h0_key h0_lives h0_open h0_in h0_scores h0_was h0_had n0_thrown n0_objects n0_opened n0_sets b0_hasFamily f0_level) → va_S A s.heap H locs → lv_has ls 4 [(0, .ref h0), (1, .int p1), (3, .int x3)] → W p l e rm_X4_isAbove s m args below meth c H locs 0 0 Z (F0 m 6 ls [])) := ⟨_, fun _ => Iff.rfl⟩
  obtain ⟨X24, hX24⟩ : ∃ X : Int32 → Prop, ∀ (x3 : Int32), (X x3 ↔ ∀ (H : Heap) (locs : List Loc) (ls : Array Slot), va_P D vwCl (pc_X4_isAbove cs h0 h0_level h0_value h0_tags h0_link h0_key h0_lives h0_open h0_in h0_scores h0_was h0_had n0_thrown n0_objects n0_opened n0_sets b0_hasFamily f0_level) H → va_D A (pc_X4_isAbove cs h0 h0_level h0_value h0_tags h0_link h0_key h0_lives h0_open h0_in h0_scores h0_was h0_had n0_thrown n0_objects n0_opened n0_sets b0_hasFamily f0_level) → va_S A s.heap H locs → lv_has ls 4 [(1, .int p1), (3, .int x3)] → W p l e rm_X4_isAbove s m args below meth c H locs 0 0 Z (F0 m 24 ls [])) := ⟨_, fun _ => Iff.rfl⟩
  obtain ⟨X34, hX34⟩ : ∃ X : Bool → Prop, ∀ (s0 : Bool), (X s0 ↔ ∀ (H : Heap) (locs : List Loc) (ls : Array Slot), va_P D vwCl (pc_X4_isAbove cs h0 h0_level h0_value h0_tags h0_link h0_key h0_lives h0_open h0_in h0_scores h0_was h0_had n0_thrown n0_objects n0_opened n0_sets b0_hasFamily f0_level) H → va_D A (pc_X4_isAbove cs h0 h0_level h0_value h0_tags h0_link h0_key h0_lives h0_open h0_in h0_scores h0_was h0_had n0_thrown n0_objects n0_opened n0_sets b0_hasFamily f0_level) → va_S A s.heap H locs → lv_has ls 4 [] → W p l e rm_X4_isAbove s m args below meth c H locs 0 0 Z (F0 m 34 ls [.int (b2i s0)])) := ⟨_, fun _ => Iff.rfl⟩
  refine xt_cut (h X6 X24 X34 ?_ ?_ ?_) (fun hw => ?_)
  · intro x3 hw
    refine (hX6 _).mpr ?_
    intro H locs ls hP hD hS hl
    refine lv_iload_n F.1 F.2.1 dX4_isAbove_6 rfl (lv_at hl 2 rfl) ?_
    refine lv_if_lt (tgt := 24) F.1 F.2.1 dX4_isAbove_7 (by decide) (fun hc => ?_) (fun hc => ?_)
    · have hw := hw.1 hc
      exact (hX24 _).mp hw H locs ls hP hD hS (lv_sub hl [1, 2] rfl)
    · have hw := hw.2 hc
      refine lv_iload_n F.1 F.2.1 dX4_isAbove_10 rfl (lv_at hl 2 rfl) ?_
      refine lv_iload_n F.1 F.2.1 dX4_isAbove_11 rfl (lv_at hl 1 rfl) ?_
      refine lv_icmp_eq (tgt := 24) F.1 F.2.1 dX4_isAbove_12 (by decide) (fun hc => ?_) (fun hc => ?_)
      · have hw := hw.1 hc
        exact (hX24 _).mp hw H locs ls hP hD hS (lv_sub hl [1, 2] rfl)
      · have hw := hw.2 hc
        refine lv_aload_n F.1 F.2.1 dX4_isAbove_15 rfl (lv_at hl 0 rfl) ?_
        refine lv_iload_n F.1 F.2.1 dX4_isAbove_16 rfl (lv_at hl 2 rfl) ?_
        refine xc_Vi (As := [.int x3]) (rest := []) (m_X4_parent l D cs h0 h0_level h0_value h0_tags h0_link h0_key h0_lives h0_open h0_in h0_scores h0_was h0_had x3 n0_thrown n0_objects n0_opened n0_sets b0_hasFamily f0_level _ hw) F (cwV 1 F.2.2.2.2 gX4_isAbove_X4_parent rfl rfl rfl (by decide +kernel) ⟨Nat.le_of_ble_eq_true rfl, Nat.le_of_ble_eq_true rfl⟩) hK hP hD hS hA [0, 1] [] rfl rfl 0 rfl rfl rfl hl.1 rfl (Nat.le_of_ble_eq_true rfl) dX4_isAbove_17 ⟨Nat.zero_le _, Nat.zero_le _⟩ (fun r17 u H locs hw hP hD hS => ?_)
        have hP : va_P D vwCl (pc_X4_isAbove cs h0 h0_level h0_value h0_tags h0_link h0_key h0_lives h0_open h0_in h0_scores h0_was h0_had n0_thrown n0_objects n0_opened n0_sets b0_hasFamily f0_level) H := hP.sub [0, 1] rfl
        have hD : va_D A (pc_X4_isAbove cs h0 h0_level h0_value h0_tags h0_link h0_key h0_lives h0_open h0_in h0_scores h0_was h0_had n0_thrown n0_objects n0_opened n0_sets b0_hasFamily f0_level) := hD.sub [0, 1] (by decide) rfl
        try dsimp only at hw
        refine lv_istore_n (lv' := [(3, .int r17), (0, .ref h0), (1, .int p1)]) F.1 F.2.1 dX4_isAbove_20 rfl hl (by decide) rfl (fun ls hl => ?_)
        refine lv_goto (tgt := 6) F.1 F.2.1 dX4_isAbove_21 (by decide) ?_
        exact (hX6 _).mp hw H locs ls hP hD hS (lv_sub hl [1, 2, 0] rfl)
  · intro x3 hw
    refine (hX24 _).mpr ?_
    intro H locs ls hP hD hS hl
    refine lv_iload_n F.1 F.2.1 dX4_isAbove_24 rfl (lv_at hl 1 rfl) ?_
    refine lv_iload_n F.1 F.2.1 dX4_isAbove_25 rfl (lv_at hl 0 rfl) ?_
    refine lv_icmp_ne (tgt := 33) F.1 F.2.1 dX4_isAbove_26 (by decide) (fun hc => ?_) (fun hc => ?_)
    · have hw := hw.1 hc
      refine lv_iconst (v := 0) F.1 F.2.1 dX4_isAbove_33 (by decide) ?_
      exact (hX34 _).mp hw H locs ls hP hD hS (lv_sub hl [] rfl)
    · have hw := hw.2 hc
      refine lv_iconst (v := 1) F.1 F.2.1 dX4_isAbove_29 (by decide) ?_
      refine lv_goto (tgt := 34) F.1 F.2.1 dX4_isAbove_30 (by decide) ?_
      exact (hX34 _).mp hw H locs ls hP hD hS (lv_sub hl [] rfl)
  · intro s0 hw
    refine (hX34 _).mpr ?_
    intro H locs ls hP hD hS hl
    exact RET s0 () H locs 34 ls _ rfl hw hP hD hS dX4_isAbove_34
  generalize ([] : List Loc) = locs at hS ⊢
  obtain ⟨H, hHe⟩ : ∃ H, H = s.heap := ⟨_, rfl⟩
  have hP : va_P D vwCl (pc_X4_isAbove cs h0 h0_level h0_value h0_tags h0_link h0_key h0_lives h0_open h0_in h0_scores h0_was h0_had n0_thrown n0_objects n0_opened n0_sets b0_hasFamily f0_level) H := by rw [hHe]; exact hP
  have hS : va_S A s.heap H locs := by rw [hHe]; exact hS
  suffices W p l e rm_X4_isAbove s m args below meth c H locs 0 0 Z (F0 m 0 ls []) by rw [hHe] at this; exact this
  refine lv_aload_n F.1 F.2.1 dX4_isAbove_0 rfl (lv_at hl 0 rfl) ?_
  refine lv_iload_n F.1 F.2.1 dX4_isAbove_1 rfl (lv_at hl 2 rfl) ?_
  refine xc_Vi (As := [.int p2]) (rest := []) (m_X4_parent l D cs h0 h0_level h0_value h0_tags h0_link h0_key h0_lives h0_open h0_in h0_scores h0_was h0_had p2 n0_thrown n0_objects n0_opened n0_sets b0_hasFamily f0_level _ hw) F (cwV 1 F.2.2.2.2 gX4_isAbove_X4_parent rfl rfl rfl (by decide +kernel) ⟨Nat.le_of_ble_eq_true rfl, Nat.le_of_ble_eq_true rfl⟩) hK hP hD hS hA [0, 1] [] rfl rfl 0 rfl rfl rfl hl.1 rfl (Nat.le_of_ble_eq_true rfl) dX4_isAbove_2 ⟨Nat.zero_le _, Nat.zero_le _⟩ (fun r2 u H locs hw hP hD hS => ?_)
  have hP : va_P D vwCl (pc_X4_isAbove cs h0 h0_level h0_value h0_tags h0_link h0_key h0_lives h0_open h0_in h0_scores h0_was h0_had n0_thrown n0_objects n0_opened n0_sets b0_hasFamily f0_level) H := hP.sub [0, 1] rfl
  have hD : va_D A (pc_X4_isAbove cs h0 h0_level h0_value h0_tags h0_link h0_key h0_lives h0_open h0_in h0_scores h0_was h0_had n0_thrown n0_objects n0_opened n0_sets b0_hasFamily f0_level) := hD.sub [0, 1] (by decide) rfl
  try dsimp only at hw
  refine lv_istore_n (lv' := [(3, .int r2), (0, .ref h0), (1, .int p1), (2, .int p2)]) F.1 F.2.1 dX4_isAbove_5 rfl hl (by decide) rfl (fun ls hl => ?_)
  exact (hX6 _).mp hw H locs ls hP hD hS (lv_sub hl [1, 2, 0] rfl)

theorem in_X4_belowOf_X4 : ∀ w ∈ wsX40, w ∈ wsX4_belowOf := by decide +kernel
theorem fl_X4_belowOf_49 : Cond.fieldLink RX4 49 "JoinBlocksModel" "objects" "I" ∈ wsX4_belowOf := by decide +kernel
abbrev pc_X4_belowOf (cs : Nat → ClassId) (h0 : Nat) (h0_level : Nat) (h0_value : Nat) (h0_tags : Nat) (h0_link : Nat) (h0_key : Nat) (h0_lives : Nat) (h0_open : Nat) (h0_in : Nat) (h0_scores : Nat) (h0_was : Nat) (h0_had : Nat) (n0_thrown : Int32) (n0_objects : Int32) (n0_opened : Int32) (n0_sets : Int32) (b0_hasFamily : Bool) (f0_level : Nat → Int32) : va_W := [(h0, .inr (4, [.int n0_thrown, .int n0_objects, .ref h0_level, .ref h0_value, .ref h0_tags, .ref h0_link, .ref h0_key, .ref h0_lives, .int n0_opened, .ref h0_open, .int n0_sets, .ref h0_in, .ref h0_scores, .int (b2i b0_hasFamily), .ref h0_was, .ref h0_had])), (h0_level, .inl (cs 0, 261, .inl f0_level))]
abbrev rm_X4_belowOf : Room := { frames := 2, cells := 0, slots := 0, locals := 45 }
def call_X4_belowOf (p1 : Int32) (n0_objects : Int32) (f0_level : Nat → Int32) (Q : Int32 → Prop) : Prop := ∀ (X4 : Int32 → Int32 → Prop) (X27 : Int32 → Bool → Int32 → Prop),
    (∀ (x2 : Int32) (x3 : Int32),
      ((n0_objects ≤ x3 → Q x2) ∧ (¬ n0_objects ≤ x3 → (call_X4_isAbove p1 x3 f0_level (fun (r16 : Bool) => ((r16 = false → X27 x3 false x2) ∧ (r16 = true → X27 x3 true x2)))))) → X4 x2 x3) →
    (∀ (x3 : Int32) (s0 : Bool) (s1 : Int32),
      X4 (s1 + (b2i s0)) (x3 + 1) → X27 x3 s0 s1) →
    X4 0 0
set_option maxHeartbeats 4000000 in
set_option maxRecDepth 100000 in
theorem m_X4_belowOf (l : Launch) (D : va_G) (cs : Nat → ClassId) (h0 : Nat) (h0_level : Nat) (h0_value : Nat) (h0_tags : Nat) (h0_link : Nat) (h0_key : Nat) (h0_lives : Nat) (h0_open : Nat) (h0_in : Nat) (h0_scores : Nat) (h0_was : Nat) (h0_had : Nat)  (p1 : Int32) (n0_thrown : Int32) (n0_objects : Int32) (n0_opened : Int32) (n0_sets : Int32) (b0_hasFamily : Bool) (f0_level : Nat → Int32) (Q : Int32 → Prop) (h : call_X4_belowOf p1 n0_objects f0_level Q) : CtI l yX4_belowOf wsX4_belowOf rm_X4_belowOf D cs [.ref h0, .int p1] (pc_X4_belowOf cs h0 h0_level h0_value h0_tags h0_link h0_key h0_lives h0_open h0_in h0_scores h0_was h0_had n0_thrown n0_objects n0_opened n0_sets b0_hasFamily f0_level) (fun u : Unit => (pc_X4_belowOf cs h0 h0_level h0_value h0_tags h0_link h0_key h0_lives h0_open h0_in h0_scores h0_was h0_had n0_thrown n0_objects n0_opened n0_sets b0_hasFamily f0_level)) (fun r u => Q r ) := by
  refine xo_I (S := Unit) (cc := cX4_belowOf) (maxL := 4) (own := RX4) (lv0 := [(0, .ref h0), (1, .int p1)]) (by decide) rfl rfl (Nat.le_of_ble_eq_true rfl) rfl ?_
  intro p e s m args below meth c A Z ls F hK hA hP hD hS hl RET
  unfold call_X4_belowOf at h
  obtain ⟨X4, hX4⟩ : ∃ X : Int32 → Int32 → Prop, ∀ (x2 : Int32) (x3 : Int32), (X x2 x3 ↔ ∀ (H : Heap) (locs : List Loc) (ls : Array Slot), va_P D vwCl (pc_X4_belowOf cs h0 h0_level h0_value h0_tags h0_link h0_key h0_lives h0_open h0_in h0_scores h0_was h0_had n0_thrown n0_objects n0_opened n0_sets b0_hasFamily f0_level) H → va_D A (pc_X4_belowOf cs h0 h0_level h0_value h0_tags h0_link h0_key h0_lives h0_open h0_in h0_scores h0_was h0_had n0_thrown n0_objects n0_opened n0_sets b0_hasFamily f0_level) → va_S A s.heap H locs → lv_has ls 4 [(0, .ref h0), (1, .int p1), (2, .int x2), (3, .int x3)] → W p l e rm_X4_belowOf s m args below meth c H locs 0 0 Z (F0 m 4 ls [])) := ⟨_, fun _ _ => Iff.rfl⟩
  obtain ⟨X27, hX27⟩ : ∃ X : Int32 → Bool → Int32 → Prop, ∀ (x3 : Int32) (s0 : Bool) (s1 : Int32), (X x3 s0 s1 ↔ ∀ (H : Heap) (locs : List Loc) (ls : Array Slot), va_P D vwCl (pc_X4_belowOf cs h0 h0_level h0_value h0_tags h0_link h0_key h0_lives h0_open h0_in h0_scores h0_was h0_had n0_thrown n0_objects n0_opened n0_sets b0_hasFamily f0_level) H → va_D A (pc_X4_belowOf cs h0 h0_level h0_value h0_tags h0_link h0_key h0_lives h0_open h0_in h0_scores h0_was h0_had n0_thrown n0_objects n0_opened n0_sets b0_hasFamily f0_level) → va_S A s.heap H locs → lv_has ls 4 [(0, .ref h0), (1, .int p1), (3, .int x3)] → W p l e rm_X4_belowOf s m args below meth c H locs 0 0 Z (F0 m 27 ls [.int (b2i s0), .int s1])) := ⟨_, fun _ _ _ => Iff.rfl⟩
  refine xt_cut (h X4 X27 ?_ ?_) (fun hw => ?_)
  · intro x2 x3 hw
    refine (hX4 _ _).mpr ?_
    intro H locs ls hP hD hS hl
    refine lv_iload_n F.1 F.2.1 dX4_belowOf_4 rfl (lv_at hl 3 rfl) ?_
    refine lv_aload_n F.1 F.2.1 dX4_belowOf_5 rfl (lv_at hl 0 rfl) ?_
    refine xi_get (C := RX4) (T := TX4) (N := 16) (v := .int n0_objects) F in_X4_belowOf_X4 hK hP 0 rfl rfl 1 (by decide) fl_X4_belowOf_49 rfl dX4_belowOf_6 ?_
    refine lv_icmp_ge (tgt := 35) F.1 F.2.1 dX4_belowOf_9 (by decide) (fun hc => ?_) (fun hc => ?_)
    · have hw := hw.1 hc
      refine lv_iload_n F.1 F.2.1 dX4_belowOf_35 rfl (lv_at hl 2 rfl) ?_
      exact RET x2 () H locs 36 ls hw hP hD hS dX4_belowOf_36
    · have hw := hw.2 hc
      refine lv_iload_n F.1 F.2.1 dX4_belowOf_12 rfl (lv_at hl 2 rfl) ?_
      refine lv_aload_n F.1 F.2.1 dX4_belowOf_13 rfl (lv_at hl 0 rfl) ?_
      refine lv_iload_n F.1 F.2.1 dX4_belowOf_14 rfl (lv_at hl 1 rfl) ?_
      refine lv_iload_n F.1 F.2.1 dX4_belowOf_15 rfl (lv_at hl 3 rfl) ?_
      refine xc_Vz (As := [.int p1, .int x3]) (rest := [.int x2]) (m_X4_isAbove l D cs h0 h0_level h0_value h0_tags h0_link h0_key h0_lives h0_open h0_in h0_scores h0_was h0_had p1 x3 n0_thrown n0_objects n0_opened n0_sets b0_hasFamily f0_level _ hw) F (cwV 2 F.2.2.2.2 gX4_belowOf_X4_isAbove rfl rfl rfl (by decide +kernel) ⟨Nat.le_of_ble_eq_true rfl, Nat.le_of_ble_eq_true rfl⟩) hK hP hD hS hA [0, 1] [] rfl rfl 0 rfl rfl rfl hl.1 rfl (Nat.le_of_ble_eq_true rfl) dX4_belowOf_16 ⟨Nat.zero_le _, Nat.zero_le _⟩ (fun r16 u H locs hw hP hD hS => ?_)
      have hP : va_P D vwCl (pc_X4_belowOf cs h0 h0_level h0_value h0_tags h0_link h0_key h0_lives h0_open h0_in h0_scores h0_was h0_had n0_thrown n0_objects n0_opened n0_sets b0_hasFamily f0_level) H := hP.sub [0, 1] rfl
      have hD : va_D A (pc_X4_belowOf cs h0 h0_level h0_value h0_tags h0_link h0_key h0_lives h0_open h0_in h0_scores h0_was h0_had n0_thrown n0_objects n0_opened n0_sets b0_hasFamily f0_level) := hD.sub [0, 1] (by decide) rfl
      try dsimp only at hw
      refine xi_ifeqz (tgt := 26) F dX4_belowOf_19 (by decide) (fun hc => ?_) (fun hc => ?_)
      · have hw := hw.1 hc
        refine lv_iconst (v := 0) F.1 F.2.1 dX4_belowOf_26 (by decide) ?_
        exact (hX27 _ _ _).mp hw H locs ls hP hD hS (lv_sub hl [0, 1, 3] rfl)
      · have hw := hw.2 hc
        refine lv_iconst (v := 1) F.1 F.2.1 dX4_belowOf_22 (by decide) ?_
        refine lv_goto (tgt := 27) F.1 F.2.1 dX4_belowOf_23 (by decide) ?_
        exact (hX27 _ _ _).mp hw H locs ls hP hD hS (lv_sub hl [0, 1, 3] rfl)
  · intro x3 s0 s1 hw
    refine (hX27 _ _ _).mpr ?_
    intro H locs ls hP hD hS hl
    refine lv_iadd F.1 F.2.1 dX4_belowOf_27 ?_
    refine lv_istore_n (lv' := [(2, .int (s1 + (b2i s0))), (0, .ref h0), (1, .int p1), (3, .int x3)]) F.1 F.2.1 dX4_belowOf_28 rfl hl (by decide) rfl (fun ls hl => ?_)
    refine lv_iinc (v := (x3 + 1)) (lv' := [(3, .int (x3 + 1)), (2, .int (s1 + (b2i s0))), (0, .ref h0), (1, .int p1)]) F.1 F.2.1 dX4_belowOf_29 hl (k := 3) rfl rfl (by decide) rfl (fun ls hl => ?_)
    refine lv_goto (tgt := 4) F.1 F.2.1 dX4_belowOf_32 (by decide) ?_
    exact (hX4 _ _).mp hw H locs ls hP hD hS (lv_sub hl [2, 3, 1, 0] rfl)
  generalize ([] : List Loc) = locs at hS ⊢
  obtain ⟨H, hHe⟩ : ∃ H, H = s.heap := ⟨_, rfl⟩
  have hP : va_P D vwCl (pc_X4_belowOf cs h0 h0_level h0_value h0_tags h0_link h0_key h0_lives h0_open h0_in h0_scores h0_was h0_had n0_thrown n0_objects n0_opened n0_sets b0_hasFamily f0_level) H := by rw [hHe]; exact hP
  have hS : va_S A s.heap H locs := by rw [hHe]; exact hS
  suffices W p l e rm_X4_belowOf s m args below meth c H locs 0 0 Z (F0 m 0 ls []) by rw [hHe] at this; exact this
  refine lv_iconst (v := 0) F.1 F.2.1 dX4_belowOf_0 (by decide) ?_
  refine lv_istore_n (lv' := [(2, .int 0), (0, .ref h0), (1, .int p1)]) F.1 F.2.1 dX4_belowOf_1 rfl hl (by decide) rfl (fun ls hl => ?_)
  refine lv_iconst (v := 0) F.1 F.2.1 dX4_belowOf_2 (by decide) ?_
  refine lv_istore_n (lv' := [(3, .int 0), (2, .int 0), (0, .ref h0), (1, .int p1)]) F.1 F.2.1 dX4_belowOf_3 rfl hl (by decide) rfl (fun ls hl => ?_)
  exact (hX4 _ _).mp hw H locs ls hP hD hS (lv_sub hl [2, 3, 1, 0] rfl)

theorem in_X4_object_X4 : ∀ w ∈ wsX40, w ∈ wsX4_object := by decide +kernel
theorem fl_X4_object_45 : Cond.fieldLink RX4 45 "JoinBlocksModel" "thrown" "I" ∈ wsX4_object := by decide +kernel
theorem fl_X4_object_7 : Cond.fieldLink RX4 7 "JoinBlocksModel" "level" "[I" ∈ wsX4_object := by decide +kernel
theorem fl_X4_object_13 : Cond.fieldLink RX4 13 "JoinBlocksModel" "value" "[I" ∈ wsX4_object := by decide +kernel
theorem fl_X4_object_16 : Cond.fieldLink RX4 16 "JoinBlocksModel" "tags" "[I" ∈ wsX4_object := by decide +kernel
theorem fl_X4_object_19 : Cond.fieldLink RX4 19 "JoinBlocksModel" "link" "[I" ∈ wsX4_object := by decide +kernel
theorem fl_X4_object_22 : Cond.fieldLink RX4 22 "JoinBlocksModel" "key" "[I" ∈ wsX4_object := by decide +kernel
theorem fl_X4_object_25 : Cond.fieldLink RX4 25 "JoinBlocksModel" "lives" "[Z" ∈ wsX4_object := by decide +kernel
abbrev pc_X4_object (cs : Nat → ClassId) (h0 : Nat) (h0_level : Nat) (h0_value : Nat) (h0_tags : Nat) (h0_link : Nat) (h0_key : Nat) (h0_lives : Nat) (h0_open : Nat) (h0_in : Nat) (h0_scores : Nat) (h0_was : Nat) (h0_had : Nat) (n0_thrown : Int32) (n0_objects : Int32) (n0_opened : Int32) (n0_sets : Int32) (b0_hasFamily : Bool) (f0_level : Nat → Int32) (f0_value : Nat → Int32) (f0_tags : Nat → Int32) (f0_link : Nat → Int32) (f0_key : Nat → Int32) (f0_lives : Nat → Bool) : va_W := [(h0, .inr (4, [.int n0_thrown, .int n0_objects, .ref h0_level, .ref h0_value, .ref h0_tags, .ref h0_link, .ref h0_key, .ref h0_lives, .int n0_opened, .ref h0_open, .int n0_sets, .ref h0_in, .ref h0_scores, .int (b2i b0_hasFamily), .ref h0_was, .ref h0_had])), (h0_level, .inl (cs 0, 261, .inl f0_level)), (h0_value, .inl (cs 0, 261, .inl f0_value)), (h0_tags, .inl (cs 0, 261, .inl f0_tags)), (h0_link, .inl (cs 0, 261, .inl f0_link)), (h0_key, .inl (cs 0, 261, .inl f0_key)), (h0_lives, .inl (cs 1, 261, .inl (bF f0_lives)))]
abbrev rm_X4_object : Room := { frames := 3, cells := 0, slots := 0, locals := 68 }
def call_X4_object (p1 : Int32) (p2 : Int32) (n0_thrown : Int32) (n0_objects : Int32) (f0_level : Nat → Int32) (f0_value : Nat → Int32) (f0_tags : Nat → Int32) (f0_link : Nat → Int32) (f0_key : Nat → Int32) (f0_lives : Nat → Bool) (Q : Int32 → Int32 → Prop) : Prop := ∀ (X113 : Int32 → Int32 → Prop) (X134 : Bool → Int32 → Prop),
    (∀ (s0 : Int32) (n0_thrown : Int32),
      Q s0 n0_thrown → X113 s0 n0_thrown) →
    (∀ (s0 : Bool) (n0_thrown : Int32),
      Q (b2i s0) n0_thrown → X134 s0 n0_thrown) →
    (call_X4_isObject p1 n0_objects (fun (r7 : Bool) => ((r7 = true → ((p2 = 0 → (∃ j69 : Nat, j69 < 261 ∧ p1 = nI j69 ∧ Q (f0_level j69) 0)) ∧ (p2 = 1 → (∃ j76 : Nat, j76 < 261 ∧ p1 = nI j76 ∧ Q (f0_value j76) 0)) ∧ (p2 = 2 → (∃ j83 : Nat, j83 < 261 ∧ p1 = nI j83 ∧ Q (f0_tags j83) 0)) ∧ (p2 = 3 → (∃ j90 : Nat, j90 < 261 ∧ p1 = nI j90 ∧ Q (f0_link j90) 0)) ∧ (p2 = 4 → (∃ j97 : Nat, j97 < 261 ∧ p1 = nI j97 ∧ ((¬ (f0_level j97) = 2 → X113 (-3) 0) ∧ ((f0_level j97) = 2 → (∃ j107 : Nat, j107 < 261 ∧ p1 = nI j107 ∧ X113 (f0_key j107) 0))))) ∧ (p2 = 5 → (call_X4_parent p1 f0_level (fun (r116 : Int32) => Q r116 0))) ∧ (p2 = 6 → (∃ j125 : Nat, j125 < 261 ∧ p1 = nI j125 ∧ (((f0_lives j125) = false → X134 false 0) ∧ ((f0_lives j125) = true → X134 true 0)))) ∧ (p2 = 7 → (call_X4_belowOf p1 n0_objects f0_level (fun (r137 : Int32) => Q r137 0))) ∧ (¬ p2 = 0 → ¬ p2 = 1 → ¬ p2 = 2 → ¬ p2 = 3 → ¬ p2 = 4 → ¬ p2 = 5 → ¬ p2 = 6 → ¬ p2 = 7 → Q (-2) 0))) ∧ (r7 = false → Q (-1) 0))))
set_option maxHeartbeats 4000000 in
set_option maxRecDepth 100000 in
theorem m_X4_object (l : Launch) (D : va_G) (cs : Nat → ClassId) (h0 : Nat) (h0_level : Nat) (h0_value : Nat) (h0_tags : Nat) (h0_link : Nat) (h0_key : Nat) (h0_lives : Nat) (h0_open : Nat) (h0_in : Nat) (h0_scores : Nat) (h0_was : Nat) (h0_had : Nat)  (p1 : Int32) (p2 : Int32) (n0_thrown : Int32) (n0_objects : Int32) (n0_opened : Int32) (n0_sets : Int32) (b0_hasFamily : Bool) (f0_level : Nat → Int32) (f0_value : Nat → Int32) (f0_tags : Nat → Int32) (f0_link : Nat → Int32) (f0_key : Nat → Int32) (f0_lives : Nat → Bool) (Q : Int32 → Int32 → Prop) (h : call_X4_object p1 p2 n0_thrown n0_objects f0_level f0_value f0_tags f0_link f0_key f0_lives Q) : CtI l yX4_object wsX4_object rm_X4_object D cs [.ref h0, .int p1, .int p2] (pc_X4_object cs h0 h0_level h0_value h0_tags h0_link h0_key h0_lives h0_open h0_in h0_scores h0_was h0_had n0_thrown n0_objects n0_opened n0_sets b0_hasFamily f0_level f0_value f0_tags f0_link f0_key f0_lives) (fun u : Int32 => (pc_X4_object cs h0 h0_level h0_value h0_tags h0_link h0_key h0_lives h0_open h0_in h0_scores h0_was h0_had u n0_objects n0_opened n0_sets b0_hasFamily f0_level f0_value f0_tags f0_link f0_key f0_lives)) (fun r u => Q r u) := by
  refine xo_I (S := Int32) (cc := cX4_object) (maxL := 3) (own := RX4) (lv0 := [(0, .ref h0), (1, .int p1), (2, .int p2)]) (by decide) rfl rfl (Nat.le_of_ble_eq_true rfl) rfl ?_
  intro p e s m args below meth c A Z ls F hK hA hP hD hS hl RET
  unfold call_X4_object at h
  obtain ⟨X113, hX113⟩ : ∃ X : Int32 → Int32 → Prop, ∀ (s0 : Int32) (n0_thrown : Int32), (X s0 n0_thrown ↔ ∀ (H : Heap) (locs : List Loc) (ls : Array Slot), va_P D vwCl (pc_X4_object cs h0 h0_level h0_value h0_tags h0_link h0_key h0_lives h0_open h0_in h0_scores h0_was h0_had n0_thrown n0_objects n0_opened n0_sets b0_hasFamily f0_level f0_value f0_tags f0_link f0_key f0_lives) H → va_D A (pc_X4_object cs h0 h0_level h0_value h0_tags h0_link h0_key h0_lives h0_open h0_in h0_scores h0_was h0_had n0_thrown n0_objects n0_opened n0_sets b0_hasFamily f0_level f0_value f0_tags f0_link f0_key f0_lives) → va_S A s.heap H locs → lv_has ls 3 [] → W p l e rm_X4_object s m args below meth c H locs 0 0 Z (F0 m 113 ls [.int s0])) := ⟨_, fun _ _ => Iff.rfl⟩
  obtain ⟨X134, hX134⟩ : ∃ X : Bool → Int32 → Prop, ∀ (s0 : Bool) (n0_thrown : Int32), (X s0 n0_thrown ↔ ∀ (H : Heap) (locs : List Loc) (ls : Array Slot), va_P D vwCl (pc_X4_object cs h0 h0_level h0_value h0_tags h0_link h0_key h0_lives h0_open h0_in h0_scores h0_was h0_had n0_thrown n0_objects n0_opened n0_sets b0_hasFamily f0_level f0_value f0_tags f0_link f0_key f0_lives) H → va_D A (pc_X4_object cs h0 h0_level h0_value h0_tags h0_link h0_key h0_lives h0_open h0_in h0_scores h0_was h0_had n0_thrown n0_objects n0_opened n0_sets b0_hasFamily f0_level f0_value f0_tags f0_link f0_key f0_lives) → va_S A s.heap H locs → lv_has ls 3 [] → W p l e rm_X4_object s m args below meth c H locs 0 0 Z (F0 m 134 ls [.int (b2i s0)])) := ⟨_, fun _ _ => Iff.rfl⟩
  refine xt_cut (h X113 X134 ?_ ?_) (fun hw => ?_)
  · intro s0 n0_thrown hw
    refine (hX113 _ _).mpr ?_
    intro H locs ls hP hD hS hl
    exact RET s0 (n0_thrown) H locs 113 ls hw hP hD hS dX4_object_113
  · intro s0 n0_thrown hw
    refine (hX134 _ _).mpr ?_
    intro H locs ls hP hD hS hl
    exact RET (b2i s0) (n0_thrown) H locs 134 ls hw hP hD hS dX4_object_134
  generalize ([] : List Loc) = locs at hS ⊢
  obtain ⟨H, hHe⟩ : ∃ H, H = s.heap := ⟨_, rfl⟩
  have hP : va_P D vwCl (pc_X4_object cs h0 h0_level h0_value h0_tags h0_link h0_key h0_lives h0_open h0_in h0_scores h0_was h0_had n0_thrown n0_objects n0_opened n0_sets b0_hasFamily f0_level f0_value f0_tags f0_link f0_key f0_lives) H := by rw [hHe]; exact hP
  have hS : va_S A s.heap H locs := by rw [hHe]; exact hS
  suffices W p l e rm_X4_object s m args below meth c H locs 0 0 Z (F0 m 0 ls []) by rw [hHe] at this; exact this
  refine lv_aload_n F.1 F.2.1 dX4_object_0 rfl (lv_at hl 0 rfl) ?_
  refine lv_iconst (v := 0) F.1 F.2.1 dX4_object_1 (by decide) ?_
  refine xi_put (C := RX4) (T := TX4) (N := 16) (v := .int 0) (ty := .int) F in_X4_object_X4 tyX4 tyX4_ok nmX4 hK hP hD hS 0 rfl rfl 0 (by decide) fl_X4_object_45 rfl (tyX4_ok 0 (by decide)) rfl rfl (Nat.le_of_ble_eq_true rfl) dX4_object_2 (fun H locs hP hD hS => ?_)
  have hP : va_P D vwCl (pc_X4_object cs h0 h0_level h0_value h0_tags h0_link h0_key h0_lives h0_open h0_in h0_scores h0_was h0_had 0 n0_objects n0_opened n0_sets b0_hasFamily f0_level f0_value f0_tags f0_link f0_key f0_lives) H := hP
  have hD : va_D A (pc_X4_object cs h0 h0_level h0_value h0_tags h0_link h0_key h0_lives h0_open h0_in h0_scores h0_was h0_had 0 n0_objects n0_opened n0_sets b0_hasFamily f0_level f0_value f0_tags f0_link f0_key f0_lives) := hD
  refine lv_aload_n F.1 F.2.1 dX4_object_5 rfl (lv_at hl 0 rfl) ?_
  refine lv_iload_n F.1 F.2.1 dX4_object_6 rfl (lv_at hl 1 rfl) ?_
  refine xc_Vz (As := [.int p1]) (rest := []) (m_X4_isObject l D cs h0 h0_level h0_value h0_tags h0_link h0_key h0_lives h0_open h0_in h0_scores h0_was h0_had p1 0 n0_objects n0_opened n0_sets b0_hasFamily _ hw) F (cwV 1 F.2.2.2.2 gX4_object_X4_isObject rfl rfl rfl (by decide +kernel) ⟨Nat.le_of_ble_eq_true rfl, Nat.le_of_ble_eq_true rfl⟩) hK hP hD hS hA [0] [1, 2, 3, 4, 5, 6] rfl rfl 0 rfl rfl rfl hl.1 rfl (Nat.le_of_ble_eq_true rfl) dX4_object_7 ⟨Nat.zero_le _, Nat.zero_le _⟩ (fun r7 u H locs hw hP hD hS => ?_)
  have hP : va_P D vwCl (pc_X4_object cs h0 h0_level h0_value h0_tags h0_link h0_key h0_lives h0_open h0_in h0_scores h0_was h0_had 0 n0_objects n0_opened n0_sets b0_hasFamily f0_level f0_value f0_tags f0_link f0_key f0_lives) H := hP.sub [6, 0, 1, 2, 3, 4, 5] rfl
  have hD : va_D A (pc_X4_object cs h0 h0_level h0_value h0_tags h0_link h0_key h0_lives h0_open h0_in h0_scores h0_was h0_had 0 n0_objects n0_opened n0_sets b0_hasFamily f0_level f0_value f0_tags f0_link f0_key f0_lives) := hD.sub [6, 0, 1, 2, 3, 4, 5] (by decide) rfl
  try dsimp only at hw
  refine xi_ifnez (tgt := 15) F dX4_object_10 (by decide) (fun hc => ?_) (fun hc => ?_)
  · have hw := hw.1 hc
    refine lv_iload_n F.1 F.2.1 dX4_object_15 rfl (lv_at hl 2 rfl) ?_
    obtain ⟨hw0, hw1, hw2, hw3, hw4, hw5, hw6, hw7, hwd⟩ := hw
    by_cases hc0 : p2 = 0
    · have hw := hw0 hc0
      refine xi_tswIn (tgt := 64) (v := 0) (off := 48) F dX4_object_16 hc0 (by decide) ?_
      refine lv_aload_n F.1 F.2.1 dX4_object_64 rfl (lv_at hl 0 rfl) ?_
      refine xi_get (C := RX4) (T := TX4) (N := 16) (v := .ref h0_level) F in_X4_object_X4 hK hP 0 rfl rfl 2 (by decide) fl_X4_object_7 rfl dX4_object_65 ?_
      refine lv_iload_n F.1 F.2.1 dX4_object_68 rfl (lv_at hl 1 rfl) ?_
      obtain ⟨j69, hj, he, hw⟩ := hw
      refine xi_iald (j := j69) F hK hP 1 rfl (by decide) hj he dX4_object_69 ?_
      exact RET (f0_level j69) (0) H locs 70 ls hw hP hD hS dX4_object_70
    by_cases hc1 : p2 = 1
    · have hw := hw1 hc1
      refine xi_tswIn (tgt := 71) (v := 1) (off := 55) F dX4_object_16 hc1 (by decide) ?_
      refine lv_aload_n F.1 F.2.1 dX4_object_71 rfl (lv_at hl 0 rfl) ?_
      refine xi_get (C := RX4) (T := TX4) (N := 16) (v := .ref h0_value) F in_X4_object_X4 hK hP 0 rfl rfl 3 (by decide) fl_X4_object_13 rfl dX4_object_72 ?_
      refine lv_iload_n F.1 F.2.1 dX4_object_75 rfl (lv_at hl 1 rfl) ?_
      obtain ⟨j76, hj, he, hw⟩ := hw
      refine xi_iald (j := j76) F hK hP 2 rfl (by decide) hj he dX4_object_76 ?_
      exact RET (f0_value j76) (0) H locs 77 ls hw hP hD hS dX4_object_77
    by_cases hc2 : p2 = 2
    · have hw := hw2 hc2
      refine xi_tswIn (tgt := 78) (v := 2) (off := 62) F dX4_object_16 hc2 (by decide) ?_
      refine lv_aload_n F.1 F.2.1 dX4_object_78 rfl (lv_at hl 0 rfl) ?_
      refine xi_get (C := RX4) (T := TX4) (N := 16) (v := .ref h0_tags) F in_X4_object_X4 hK hP 0 rfl rfl 4 (by decide) fl_X4_object_16 rfl dX4_object_79 ?_
      refine lv_iload_n F.1 F.2.1 dX4_object_82 rfl (lv_at hl 1 rfl) ?_
      obtain ⟨j83, hj, he, hw⟩ := hw
      refine xi_iald (j := j83) F hK hP 3 rfl (by decide) hj he dX4_object_83 ?_
      exact RET (f0_tags j83) (0) H locs 84 ls hw hP hD hS dX4_object_84
    by_cases hc3 : p2 = 3
    · have hw := hw3 hc3
      refine xi_tswIn (tgt := 85) (v := 3) (off := 69) F dX4_object_16 hc3 (by decide) ?_
      refine lv_aload_n F.1 F.2.1 dX4_object_85 rfl (lv_at hl 0 rfl) ?_
      refine xi_get (C := RX4) (T := TX4) (N := 16) (v := .ref h0_link) F in_X4_object_X4 hK hP 0 rfl rfl 5 (by decide) fl_X4_object_19 rfl dX4_object_86 ?_
      refine lv_iload_n F.1 F.2.1 dX4_object_89 rfl (lv_at hl 1 rfl) ?_
      obtain ⟨j90, hj, he, hw⟩ := hw
      refine xi_iald (j := j90) F hK hP 4 rfl (by decide) hj he dX4_object_90 ?_
      exact RET (f0_link j90) (0) H locs 91 ls hw hP hD hS dX4_object_91
    by_cases hc4 : p2 = 4
    · have hw := hw4 hc4
      refine xi_tswIn (tgt := 92) (v := 4) (off := 76) F dX4_object_16 hc4 (by decide) ?_
      refine lv_aload_n F.1 F.2.1 dX4_object_92 rfl (lv_at hl 0 rfl) ?_
      refine xi_get (C := RX4) (T := TX4) (N := 16) (v := .ref h0_level) F in_X4_object_X4 hK hP 0 rfl rfl 2 (by decide) fl_X4_object_7 rfl dX4_object_93 ?_
      refine lv_iload_n F.1 F.2.1 dX4_object_96 rfl (lv_at hl 1 rfl) ?_
      obtain ⟨j97, hj, he, hw⟩ := hw
      refine xi_iald (j := j97) F hK hP 1 rfl (by decide) hj he dX4_object_97 ?_
      refine lv_iconst (v := 2) F.1 F.2.1 dX4_object_98 (by decide) ?_
      refine lv_icmp_ne (tgt := 111) F.1 F.2.1 dX4_object_99 (by decide) (fun hc => ?_) (fun hc => ?_)
      · have hw := hw.1 hc
        refine lv_bipush (v := (-3)) F.1 F.2.1 dX4_object_111 (by decide) ?_
        exact (hX113 _ _).mp hw H locs ls hP hD hS (lv_sub hl [] rfl)
      · have hw := hw.2 hc
        refine lv_aload_n F.1 F.2.1 dX4_object_102 rfl (lv_at hl 0 rfl) ?_
        refine xi_get (C := RX4) (T := TX4) (N := 16) (v := .ref h0_key) F in_X4_object_X4 hK hP 0 rfl rfl 6 (by decide) fl_X4_object_22 rfl dX4_object_103 ?_
        refine lv_iload_n F.1 F.2.1 dX4_object_106 rfl (lv_at hl 1 rfl) ?_
        obtain ⟨j107, hj, he, hw⟩ := hw
        refine xi_iald (j := j107) F hK hP 5 rfl (by decide) hj he dX4_object_107 ?_
        refine lv_goto (tgt := 113) F.1 F.2.1 dX4_object_108 (by decide) ?_
        exact (hX113 _ _).mp hw H locs ls hP hD hS (lv_sub hl [] rfl)
    by_cases hc5 : p2 = 5
    · have hw := hw5 hc5
      refine xi_tswIn (tgt := 114) (v := 5) (off := 98) F dX4_object_16 hc5 (by decide) ?_
      refine lv_aload_n F.1 F.2.1 dX4_object_114 rfl (lv_at hl 0 rfl) ?_
      refine lv_iload_n F.1 F.2.1 dX4_object_115 rfl (lv_at hl 1 rfl) ?_
      refine xc_Vi (As := [.int p1]) (rest := []) (m_X4_parent l D cs h0 h0_level h0_value h0_tags h0_link h0_key h0_lives h0_open h0_in h0_scores h0_was h0_had p1 0 n0_objects n0_opened n0_sets b0_hasFamily f0_level _ hw) F (cwV 1 F.2.2.2.2 gX4_object_X4_parent rfl rfl rfl (by decide +kernel) ⟨Nat.le_of_ble_eq_true rfl, Nat.le_of_ble_eq_true rfl⟩) hK hP hD hS hA [0, 1] [2, 3, 4, 5, 6] rfl rfl 0 rfl rfl rfl hl.1 rfl (Nat.le_of_ble_eq_true rfl) dX4_object_116 ⟨Nat.zero_le _, Nat.zero_le _⟩ (fun r116 u H locs hw hP hD hS => ?_)
      have hP : va_P D vwCl (pc_X4_object cs h0 h0_level h0_value h0_tags h0_link h0_key h0_lives h0_open h0_in h0_scores h0_was h0_had 0 n0_objects n0_opened n0_sets b0_hasFamily f0_level f0_value f0_tags f0_link f0_key f0_lives) H := hP.sub [5, 6, 0, 1, 2, 3, 4] rfl
      have hD : va_D A (pc_X4_object cs h0 h0_level h0_value h0_tags h0_link h0_key h0_lives h0_open h0_in h0_scores h0_was h0_had 0 n0_objects n0_opened n0_sets b0_hasFamily f0_level f0_value f0_tags f0_link f0_key f0_lives) := hD.sub [5, 6, 0, 1, 2, 3, 4] (by decide) rfl
      try dsimp only at hw
      exact RET r116 (0) H locs 119 ls hw hP hD hS dX4_object_119
    by_cases hc6 : p2 = 6
    · have hw := hw6 hc6
      refine xi_tswIn (tgt := 120) (v := 6) (off := 104) F dX4_object_16 hc6 (by decide) ?_
      refine lv_aload_n F.1 F.2.1 dX4_object_120 rfl (lv_at hl 0 rfl) ?_
      refine xi_get (C := RX4) (T := TX4) (N := 16) (v := .ref h0_lives) F in_X4_object_X4 hK hP 0 rfl rfl 7 (by decide) fl_X4_object_25 rfl dX4_object_121 ?_
      refine lv_iload_n F.1 F.2.1 dX4_object_124 rfl (lv_at hl 1 rfl) ?_
      obtain ⟨j125, hj, he, hw⟩ := hw
      refine xi_zald (j := j125) F hK hP 6 rfl (by decide) hj he dX4_object_125 ?_
      refine xi_ifeqz (tgt := 133) F dX4_object_126 (by decide) (fun hc => ?_) (fun hc => ?_)
      · have hw := hw.1 hc
        refine lv_iconst (v := 0) F.1 F.2.1 dX4_object_133 (by decide) ?_
        exact (hX134 _ _).mp hw H locs ls hP hD hS (lv_sub hl [] rfl)
      · have hw := hw.2 hc
        refine lv_iconst (v := 1) F.1 F.2.1 dX4_object_129 (by decide) ?_
        refine lv_goto (tgt := 134) F.1 F.2.1 dX4_object_130 (by decide) ?_
        exact (hX134 _ _).mp hw H locs ls hP hD hS (lv_sub hl [] rfl)
    by_cases hc7 : p2 = 7
    · have hw := hw7 hc7
      refine xi_tswIn (tgt := 135) (v := 7) (off := 119) F dX4_object_16 hc7 (by decide) ?_
      refine lv_aload_n F.1 F.2.1 dX4_object_135 rfl (lv_at hl 0 rfl) ?_
      refine lv_iload_n F.1 F.2.1 dX4_object_136 rfl (lv_at hl 1 rfl) ?_
      refine xc_Vi (As := [.int p1]) (rest := []) (m_X4_belowOf l D cs h0 h0_level h0_value h0_tags h0_link h0_key h0_lives h0_open h0_in h0_scores h0_was h0_had p1 0 n0_objects n0_opened n0_sets b0_hasFamily f0_level _ hw) F (cwV 1 F.2.2.2.2 gX4_object_X4_belowOf rfl rfl rfl (by decide +kernel) ⟨Nat.le_of_ble_eq_true rfl, Nat.le_of_ble_eq_true rfl⟩) hK hP hD hS hA [0, 1] [2, 3, 4, 5, 6] rfl rfl 0 rfl rfl rfl hl.1 rfl (Nat.le_of_ble_eq_true rfl) dX4_object_137 ⟨Nat.zero_le _, Nat.zero_le _⟩ (fun r137 u H locs hw hP hD hS => ?_)
      have hP : va_P D vwCl (pc_X4_object cs h0 h0_level h0_value h0_tags h0_link h0_key h0_lives h0_open h0_in h0_scores h0_was h0_had 0 n0_objects n0_opened n0_sets b0_hasFamily f0_level f0_value f0_tags f0_link f0_key f0_lives) H := hP.sub [5, 6, 0, 1, 2, 3, 4] rfl
      have hD : va_D A (pc_X4_object cs h0 h0_level h0_value h0_tags h0_link h0_key h0_lives h0_open h0_in h0_scores h0_was h0_had 0 n0_objects n0_opened n0_sets b0_hasFamily f0_level f0_value f0_tags f0_link f0_key f0_lives) := hD.sub [5, 6, 0, 1, 2, 3, 4] (by decide) rfl
      try dsimp only at hw
      exact RET r137 (0) H locs 140 ls hw hP hD hS dX4_object_140
    have hw := hwd hc0 hc1 hc2 hc3 hc4 hc5 hc6 hc7
    refine xi_tswOut (tgt := 141) F dX4_object_16 (fun k hk => by rcases (show k = 0 ∨ k = 1 ∨ k = 2 ∨ k = 3 ∨ k = 4 ∨ k = 5 ∨ k = 6 ∨ k = 7 by omega) with rfl | rfl | rfl | rfl | rfl | rfl | rfl | rfl <;> assumption) (by decide) ?_
    refine lv_bipush (v := (-2)) F.1 F.2.1 dX4_object_141 (by decide) ?_
    exact RET (-2) (0) H locs 143 ls hw hP hD hS dX4_object_143
  · have hw := hw.2 hc
    refine lv_iconst (v := (-1)) F.1 F.2.1 dX4_object_13 (by decide) ?_
    exact RET (-1) (0) H locs 14 ls hw hP hD hS dX4_object_14

theorem in_X4_count_X4 : ∀ w ∈ wsX40, w ∈ wsX4_count := by decide +kernel
theorem fl_X4_count_49 : Cond.fieldLink RX4 49 "JoinBlocksModel" "objects" "I" ∈ wsX4_count := by decide +kernel
theorem fl_X4_count_59 : Cond.fieldLink RX4 59 "JoinBlocksModel" "sets" "I" ∈ wsX4_count := by decide +kernel
theorem fl_X4_count_56 : Cond.fieldLink RX4 56 "JoinBlocksModel" "opened" "I" ∈ wsX4_count := by decide +kernel
theorem fl_X4_count_25 : Cond.fieldLink RX4 25 "JoinBlocksModel" "lives" "[Z" ∈ wsX4_count := by decide +kernel
theorem fl_X4_count_7 : Cond.fieldLink RX4 7 "JoinBlocksModel" "level" "[I" ∈ wsX4_count := by decide +kernel
theorem fl_X4_count_45 : Cond.fieldLink RX4 45 "JoinBlocksModel" "thrown" "I" ∈ wsX4_count := by decide +kernel
abbrev pc_X4_count (cs : Nat → ClassId) (h0 : Nat) (h0_level : Nat) (h0_value : Nat) (h0_tags : Nat) (h0_link : Nat) (h0_key : Nat) (h0_lives : Nat) (h0_open : Nat) (h0_in : Nat) (h0_scores : Nat) (h0_was : Nat) (h0_had : Nat) (n0_thrown : Int32) (n0_objects : Int32) (n0_opened : Int32) (n0_sets : Int32) (b0_hasFamily : Bool) (f0_level : Nat → Int32) (f0_lives : Nat → Bool) : va_W := [(h0, .inr (4, [.int n0_thrown, .int n0_objects, .ref h0_level, .ref h0_value, .ref h0_tags, .ref h0_link, .ref h0_key, .ref h0_lives, .int n0_opened, .ref h0_open, .int n0_sets, .ref h0_in, .ref h0_scores, .int (b2i b0_hasFamily), .ref h0_was, .ref h0_had])), (h0_level, .inl (cs 0, 261, .inl f0_level)), (h0_lives, .inl (cs 1, 261, .inl (bF f0_lives)))]
abbrev rm_X4_count : Room := { frames := 1, cells := 0, slots := 0, locals := 22 }
def call_X4_count (p1 : Int32) (n0_thrown : Int32) (n0_objects : Int32) (n0_opened : Int32) (n0_sets : Int32) (f0_level : Nat → Int32) (f0_lives : Nat → Bool) (Q : Int32 → Int32 → Prop) : Prop := ∀ (X24 : Int32 → Int32 → Int32 → Int32 → Prop) (X49 : Int32 → Int32 → Bool → Int32 → Int32 → Prop) (X77 : Int32 → Int32 → Int32 → Int32 → Prop) (X78 : Int32 → Int32 → Bool → Int32 → Int32 → Prop) (X131 : Int32 → Int32 → Prop),
    (∀ (x2 : Int32) (x3 : Int32) (x4 : Int32) (n0_thrown : Int32),
      ((n0_objects ≤ x4 → ((¬ p1 = 0 → ((¬ p1 = 1 → ((¬ p1 = 2 → ((¬ p1 = 3 → X131 n0_sets n0_thrown) ∧ (p1 = 3 → X131 n0_opened n0_thrown))) ∧ (p1 = 2 → X131 x3 n0_thrown))) ∧ (p1 = 1 → X131 x2 n0_thrown))) ∧ (p1 = 0 → X131 n0_objects n0_thrown))) ∧ (¬ n0_objects ≤ x4 → (∃ j40 : Nat, j40 < 261 ∧ x4 = nI j40 ∧ (((f0_lives j40) = false → X49 x3 x4 false x2 n0_thrown) ∧ ((f0_lives j40) = true → X49 x3 x4 true x2 n0_thrown))))) → X24 x2 x3 x4 n0_thrown) →
    (∀ (x3 : Int32) (x4 : Int32) (s0 : Bool) (s1 : Int32) (n0_thrown : Int32),
      (∃ j58 : Nat, j58 < 261 ∧ x4 = nI j58 ∧ (((f0_lives j58) = false → X77 (s1 + (b2i s0)) x4 x3 n0_thrown) ∧ ((f0_lives j58) = true → (∃ j68 : Nat, j68 < 261 ∧ x4 = nI j68 ∧ ((¬ (f0_level j68) = 2 → X77 (s1 + (b2i s0)) x4 x3 n0_thrown) ∧ ((f0_level j68) = 2 → X78 (s1 + (b2i s0)) x4 true x3 n0_thrown)))))) → X49 x3 x4 s0 s1 n0_thrown) →
    (∀ (x2 : Int32) (x4 : Int32) (s0 : Int32) (n0_thrown : Int32),
      X78 x2 x4 false s0 n0_thrown → X77 x2 x4 s0 n0_thrown) →
    (∀ (x2 : Int32) (x4 : Int32) (s0 : Bool) (s1 : Int32) (n0_thrown : Int32),
      X24 x2 (s1 + (b2i s0)) (x4 + 1) n0_thrown → X78 x2 x4 s0 s1 n0_thrown) →
    (∀ (s0 : Int32) (n0_thrown : Int32),
      Q s0 n0_thrown → X131 s0 n0_thrown) →
    (call_X4_isIn p1 0 4 (fun (r8 : Bool) => ((r8 = true → X24 0 0 0 0) ∧ (r8 = false → Q (-2) 0))))
set_option maxHeartbeats 4000000 in
set_option maxRecDepth 100000 in
theorem m_X4_count (l : Launch) (D : va_G) (cs : Nat → ClassId) (h0 : Nat) (h0_level : Nat) (h0_value : Nat) (h0_tags : Nat) (h0_link : Nat) (h0_key : Nat) (h0_lives : Nat) (h0_open : Nat) (h0_in : Nat) (h0_scores : Nat) (h0_was : Nat) (h0_had : Nat)  (p1 : Int32) (n0_thrown : Int32) (n0_objects : Int32) (n0_opened : Int32) (n0_sets : Int32) (b0_hasFamily : Bool) (f0_level : Nat → Int32) (f0_lives : Nat → Bool) (Q : Int32 → Int32 → Prop) (h : call_X4_count p1 n0_thrown n0_objects n0_opened n0_sets f0_level f0_lives Q) : CtI l yX4_count wsX4_count rm_X4_count D cs [.ref h0, .int p1] (pc_X4_count cs h0 h0_level h0_value h0_tags h0_link h0_key h0_lives h0_open h0_in h0_scores h0_was h0_had n0_thrown n0_objects n0_opened n0_sets b0_hasFamily f0_level f0_lives) (fun u : Int32 => (pc_X4_count cs h0 h0_level h0_value h0_tags h0_link h0_key h0_lives h0_open h0_in h0_scores h0_was h0_had u n0_objects n0_opened n0_sets b0_hasFamily f0_level f0_lives)) (fun r u => Q r u) := by
  refine xo_I (S := Int32) (cc := cX4_count) (maxL := 5) (own := RX4) (lv0 := [(0, .ref h0), (1, .int p1)]) (by decide) rfl rfl (Nat.le_of_ble_eq_true rfl) rfl ?_
  intro p e s m args below meth c A Z ls F hK hA hP hD hS hl RET
  unfold call_X4_count at h
  obtain ⟨X24, hX24⟩ : ∃ X : Int32 → Int32 → Int32 → Int32 → Prop, ∀ (x2 : Int32) (x3 : Int32) (x4 : Int32) (n0_thrown : Int32), (X x2 x3 x4 n0_thrown ↔ ∀ (H : Heap) (locs : List Loc) (ls : Array Slot), va_P D vwCl (pc_X4_count cs h0 h0_level h0_value h0_tags h0_link h0_key h0_lives h0_open h0_in h0_scores h0_was h0_had n0_thrown n0_objects n0_opened n0_sets b0_hasFamily f0_level f0_lives) H → va_D A (pc_X4_count cs h0 h0_level h0_value h0_tags h0_link h0_key h0_lives h0_open h0_in h0_scores h0_was h0_had n0_thrown n0_objects n0_opened n0_sets b0_hasFamily f0_level f0_lives) → va_S A s.heap H locs → lv_has ls 5 [(0, .ref h0), (1, .int p1), (2, .int x2), (3, .int x3), (4, .int x4)] → W p l e rm_X4_count s m args below meth c H locs 0 0 Z (F0 m 24 ls [])) := ⟨_, fun _ _ _ _ => Iff.rfl⟩
  obtain ⟨X49, hX49⟩ : ∃ X : Int32 → Int32 → Bool → Int32 → Int32 → Prop, ∀ (x3 : Int32) (x4 : Int32) (s0 : Bool) (s1 : Int32) (n0_thrown : Int32), (X x3 x4 s0 s1 n0_thrown ↔ ∀ (H : Heap) (locs : List Loc) (ls : Array Slot), va_P D vwCl (pc_X4_count cs h0 h0_level h0_value h0_tags h0_link h0_key h0_lives h0_open h0_in h0_scores h0_was h0_had n0_thrown n0_objects n0_opened n0_sets b0_hasFamily f0_level f0_lives) H → va_D A (pc_X4_count cs h0 h0_level h0_value h0_tags h0_link h0_key h0_lives h0_open h0_in h0_scores h0_was h0_had n0_thrown n0_objects n0_opened n0_sets b0_hasFamily f0_level f0_lives) → va_S A s.heap H locs → lv_has ls 5 [(0, .ref h0), (1, .int p1), (3, .int x3), (4, .int x4)] → W p l e rm_X4_count s m args below meth c H locs 0 0 Z (F0 m 49 ls [.int (b2i s0), .int s1])) := ⟨_, fun _ _ _ _ _ => Iff.rfl⟩
  obtain ⟨X77, hX77⟩ : ∃ X : Int32 → Int32 → Int32 → Int32 → Prop, ∀ (x2 : Int32) (x4 : Int32) (s0 : Int32) (n0_thrown : Int32), (X x2 x4 s0 n0_thrown ↔ ∀ (H : Heap) (locs : List Loc) (ls : Array Slot), va_P D vwCl (pc_X4_count cs h0 h0_level h0_value h0_tags h0_link h0_key h0_lives h0_open h0_in h0_scores h0_was h0_had n0_thrown n0_objects n0_opened n0_sets b0_hasFamily f0_level f0_lives) H → va_D A (pc_X4_count cs h0 h0_level h0_value h0_tags h0_link h0_key h0_lives h0_open h0_in h0_scores h0_was h0_had n0_thrown n0_objects n0_opened n0_sets b0_hasFamily f0_level f0_lives) → va_S A s.heap H locs → lv_has ls 5 [(0, .ref h0), (1, .int p1), (2, .int x2), (4, .int x4)] → W p l e rm_X4_count s m args below meth c H locs 0 0 Z (F0 m 77 ls [.int s0])) := ⟨_, fun _ _ _ _ => Iff.rfl⟩
  obtain ⟨X78, hX78⟩ : ∃ X : Int32 → Int32 → Bool → Int32 → Int32 → Prop, ∀ (x2 : Int32) (x4 : Int32) (s0 : Bool) (s1 : Int32) (n0_thrown : Int32), (X x2 x4 s0 s1 n0_thrown ↔ ∀ (H : Heap) (locs : List Loc) (ls : Array Slot), va_P D vwCl (pc_X4_count cs h0 h0_level h0_value h0_tags h0_link h0_key h0_lives h0_open h0_in h0_scores h0_was h0_had n0_thrown n0_objects n0_opened n0_sets b0_hasFamily f0_level f0_lives) H → va_D A (pc_X4_count cs h0 h0_level h0_value h0_tags h0_link h0_key h0_lives h0_open h0_in h0_scores h0_was h0_had n0_thrown n0_objects n0_opened n0_sets b0_hasFamily f0_level f0_lives) → va_S A s.heap H locs → lv_has ls 5 [(0, .ref h0), (1, .int p1), (2, .int x2), (4, .int x4)] → W p l e rm_X4_count s m args below meth c H locs 0 0 Z (F0 m 78 ls [.int (b2i s0), .int s1])) := ⟨_, fun _ _ _ _ _ => Iff.rfl⟩
  obtain ⟨X131, hX131⟩ : ∃ X : Int32 → Int32 → Prop, ∀ (s0 : Int32) (n0_thrown : Int32), (X s0 n0_thrown ↔ ∀ (H : Heap) (locs : List Loc) (ls : Array Slot), va_P D vwCl (pc_X4_count cs h0 h0_level h0_value h0_tags h0_link h0_key h0_lives h0_open h0_in h0_scores h0_was h0_had n0_thrown n0_objects n0_opened n0_sets b0_hasFamily f0_level f0_lives) H → va_D A (pc_X4_count cs h0 h0_level h0_value h0_tags h0_link h0_key h0_lives h0_open h0_in h0_scores h0_was h0_had n0_thrown n0_objects n0_opened n0_sets b0_hasFamily f0_level f0_lives) → va_S A s.heap H locs → lv_has ls 5 [] → W p l e rm_X4_count s m args below meth c H locs 0 0 Z (F0 m 131 ls [.int s0])) := ⟨_, fun _ _ => Iff.rfl⟩
  refine xt_cut (h X24 X49 X77 X78 X131 ?_ ?_ ?_ ?_ ?_) (fun hw => ?_)
  · intro x2 x3 x4 n0_thrown hw
    refine (hX24 _ _ _ _).mpr ?_
    intro H locs ls hP hD hS hl
    refine lv_iload F.1 F.2.1 dX4_count_24 (lv_at hl 4 rfl) ?_
    refine lv_aload_n F.1 F.2.1 dX4_count_26 rfl (lv_at hl 0 rfl) ?_
    refine xi_get (C := RX4) (T := TX4) (N := 16) (v := .int n0_objects) F in_X4_count_X4 hK hP 0 rfl rfl 1 (by decide) fl_X4_count_49 rfl dX4_count_27 ?_
    refine lv_icmp_ge (tgt := 86) F.1 F.2.1 dX4_count_30 (by decide) (fun hc => ?_) (fun hc => ?_)
    · have hw := hw.1 hc
      refine lv_iload_n F.1 F.2.1 dX4_count_86 rfl (lv_at hl 1 rfl) ?_
      refine lv_if_ne (tgt := 97) F.1 F.2.1 dX4_count_87 (by decide) (fun hc => ?_) (fun hc => ?_)
      · have hw := hw.1 hc
        refine lv_iload_n F.1 F.2.1 dX4_count_97 rfl (lv_at hl 1 rfl) ?_
        refine lv_iconst (v := 1) F.1 F.2.1 dX4_count_98 (by decide) ?_
        refine lv_icmp_ne (tgt := 106) F.1 F.2.1 dX4_count_99 (by decide) (fun hc => ?_) (fun hc => ?_)
        · have hw := hw.1 hc
          refine lv_iload_n F.1 F.2.1 dX4_count_106 rfl (lv_at hl 1 rfl) ?_
          refine lv_iconst (v := 2) F.1 F.2.1 dX4_count_107 (by decide) ?_
          refine lv_icmp_ne (tgt := 115) F.1 F.2.1 dX4_count_108 (by decide) (fun hc => ?_) (fun hc => ?_)
          · have hw := hw.1 hc
            refine lv_iload_n F.1 F.2.1 dX4_count_115 rfl (lv_at hl 1 rfl) ?_
            refine lv_iconst (v := 3) F.1 F.2.1 dX4_count_116 (by decide) ?_
            refine lv_icmp_ne (tgt := 127) F.1 F.2.1 dX4_count_117 (by decide) (fun hc => ?_) (fun hc => ?_)
            · have hw := hw.1 hc
              refine lv_aload_n F.1 F.2.1 dX4_count_127 rfl (lv_at hl 0 rfl) ?_
              refine xi_get (C := RX4) (T := TX4) (N := 16) (v := .int n0_sets) F in_X4_count_X4 hK hP 0 rfl rfl 10 (by decide) fl_X4_count_59 rfl dX4_count_128 ?_
              exact (hX131 _ _).mp hw H locs ls hP hD hS (lv_sub hl [] rfl)
            · have hw := hw.2 hc
              refine lv_aload_n F.1 F.2.1 dX4_count_120 rfl (lv_at hl 0 rfl) ?_
              refine xi_get (C := RX4) (T := TX4) (N := 16) (v := .int n0_opened) F in_X4_count_X4 hK hP 0 rfl rfl 8 (by decide) fl_X4_count_56 rfl dX4_count_121 ?_
              refine lv_goto (tgt := 131) F.1 F.2.1 dX4_count_124 (by decide) ?_
              exact (hX131 _ _).mp hw H locs ls hP hD hS (lv_sub hl [] rfl)
          · have hw := hw.2 hc
            refine lv_iload_n F.1 F.2.1 dX4_count_111 rfl (lv_at hl 3 rfl) ?_
            refine lv_goto (tgt := 131) F.1 F.2.1 dX4_count_112 (by decide) ?_
            exact (hX131 _ _).mp hw H locs ls hP hD hS (lv_sub hl [] rfl)
        · have hw := hw.2 hc
          refine lv_iload_n F.1 F.2.1 dX4_count_102 rfl (lv_at hl 2 rfl) ?_
          refine lv_goto (tgt := 131) F.1 F.2.1 dX4_count_103 (by decide) ?_
          exact (hX131 _ _).mp hw H locs ls hP hD hS (lv_sub hl [] rfl)
      · have hw := hw.2 hc
        refine lv_aload_n F.1 F.2.1 dX4_count_90 rfl (lv_at hl 0 rfl) ?_
        refine xi_get (C := RX4) (T := TX4) (N := 16) (v := .int n0_objects) F in_X4_count_X4 hK hP 0 rfl rfl 1 (by decide) fl_X4_count_49 rfl dX4_count_91 ?_
        refine lv_goto (tgt := 131) F.1 F.2.1 dX4_count_94 (by decide) ?_
        exact (hX131 _ _).mp hw H locs ls hP hD hS (lv_sub hl [] rfl)
    · have hw := hw.2 hc
      refine lv_iload_n F.1 F.2.1 dX4_count_33 rfl (lv_at hl 2 rfl) ?_
      refine lv_aload_n F.1 F.2.1 dX4_count_34 rfl (lv_at hl 0 rfl) ?_
      refine xi_get (C := RX4) (T := TX4) (N := 16) (v := .ref h0_lives) F in_X4_count_X4 hK hP 0 rfl rfl 7 (by decide) fl_X4_count_25 rfl dX4_count_35 ?_
      refine lv_iload F.1 F.2.1 dX4_count_38 (lv_at hl 4 rfl) ?_
      obtain ⟨j40, hj, he, hw⟩ := hw
      refine xi_zald (j := j40) F hK hP 2 rfl (by decide) hj he dX4_count_40 ?_
      refine xi_ifeqz (tgt := 48) F dX4_count_41 (by decide) (fun hc => ?_) (fun hc => ?_)
      · have hw := hw.1 hc
        refine lv_iconst (v := 0) F.1 F.2.1 dX4_count_48 (by decide) ?_
        exact (hX49 _ _ _ _ _).mp hw H locs ls hP hD hS (lv_sub hl [0, 1, 3, 4] rfl)
      · have hw := hw.2 hc
        refine lv_iconst (v := 1) F.1 F.2.1 dX4_count_44 (by decide) ?_
        refine lv_goto (tgt := 49) F.1 F.2.1 dX4_count_45 (by decide) ?_
        exact (hX49 _ _ _ _ _).mp hw H locs ls hP hD hS (lv_sub hl [0, 1, 3, 4] rfl)
  · intro x3 x4 s0 s1 n0_thrown hw
    refine (hX49 _ _ _ _ _).mpr ?_
    intro H locs ls hP hD hS hl
    refine lv_iadd F.1 F.2.1 dX4_count_49 ?_
    refine lv_istore_n (lv' := [(2, .int (s1 + (b2i s0))), (0, .ref h0), (1, .int p1), (3, .int x3), (4, .int x4)]) F.1 F.2.1 dX4_count_50 rfl hl (by decide) rfl (fun ls hl => ?_)
    refine lv_iload_n F.1 F.2.1 dX4_count_51 rfl (lv_at hl 3 rfl) ?_
    refine lv_aload_n F.1 F.2.1 dX4_count_52 rfl (lv_at hl 1 rfl) ?_
    refine xi_get (C := RX4) (T := TX4) (N := 16) (v := .ref h0_lives) F in_X4_count_X4 hK hP 0 rfl rfl 7 (by decide) fl_X4_count_25 rfl dX4_count_53 ?_
    refine lv_iload F.1 F.2.1 dX4_count_56 (lv_at hl 4 rfl) ?_
    obtain ⟨j58, hj, he, hw⟩ := hw
    refine xi_zald (j := j58) F hK hP 2 rfl (by decide) hj he dX4_count_58 ?_
    refine xi_ifeqz (tgt := 77) F dX4_count_59 (by decide) (fun hc => ?_) (fun hc => ?_)
    · have hw := hw.1 hc
      exact (hX77 _ _ _ _).mp hw H locs ls hP hD hS (lv_sub hl [1, 2, 0, 4] rfl)
    · have hw := hw.2 hc
      refine lv_aload_n F.1 F.2.1 dX4_count_62 rfl (lv_at hl 1 rfl) ?_
      refine xi_get (C := RX4) (T := TX4) (N := 16) (v := .ref h0_level) F in_X4_count_X4 hK hP 0 rfl rfl 2 (by decide) fl_X4_count_7 rfl dX4_count_63 ?_
      refine lv_iload F.1 F.2.1 dX4_count_66 (lv_at hl 4 rfl) ?_
      obtain ⟨j68, hj, he, hw⟩ := hw
      refine xi_iald (j := j68) F hK hP 1 rfl (by decide) hj he dX4_count_68 ?_
      refine lv_iconst (v := 2) F.1 F.2.1 dX4_count_69 (by decide) ?_
      refine lv_icmp_ne (tgt := 77) F.1 F.2.1 dX4_count_70 (by decide) (fun hc => ?_) (fun hc => ?_)
      · have hw := hw.1 hc
        exact (hX77 _ _ _ _).mp hw H locs ls hP hD hS (lv_sub hl [1, 2, 0, 4] rfl)
      · have hw := hw.2 hc
        refine lv_iconst (v := 1) F.1 F.2.1 dX4_count_73 (by decide) ?_
        refine lv_goto (tgt := 78) F.1 F.2.1 dX4_count_74 (by decide) ?_
        exact (hX78 _ _ _ _ _).mp hw H locs ls hP hD hS (lv_sub hl [1, 2, 0, 4] rfl)
  · intro x2 x4 s0 n0_thrown hw
    refine (hX77 _ _ _ _).mpr ?_
    intro H locs ls hP hD hS hl
    refine lv_iconst (v := 0) F.1 F.2.1 dX4_count_77 (by decide) ?_
    exact (hX78 _ _ _ _ _).mp hw H locs ls hP hD hS (lv_sub hl [0, 1, 2, 3] rfl)
  · intro x2 x4 s0 s1 n0_thrown hw
    refine (hX78 _ _ _ _ _).mpr ?_
    intro H locs ls hP hD hS hl
    refine lv_iadd F.1 F.2.1 dX4_count_78 ?_
    refine lv_istore_n (lv' := [(3, .int (s1 + (b2i s0))), (0, .ref h0), (1, .int p1), (2, .int x2), (4, .int x4)]) F.1 F.2.1 dX4_count_79 rfl hl (by decide) rfl (fun ls hl => ?_)
    refine lv_iinc (v := (x4 + 1)) (lv' := [(4, .int (x4 + 1)), (3, .int (s1 + (b2i s0))), (0, .ref h0), (1, .int p1), (2, .int x2)]) F.1 F.2.1 dX4_count_80 hl (k := 4) rfl rfl (by decide) rfl (fun ls hl => ?_)
    refine lv_goto (tgt := 24) F.1 F.2.1 dX4_count_83 (by decide) ?_
    exact (hX24 _ _ _ _).mp hw H locs ls hP hD hS (lv_sub hl [2, 3, 4, 1, 0] rfl)
  · intro s0 n0_thrown hw
    refine (hX131 _ _).mpr ?_
    intro H locs ls hP hD hS hl
    exact RET s0 (n0_thrown) H locs 131 ls hw hP hD hS dX4_count_131
  generalize ([] : List Loc) = locs at hS ⊢
  obtain ⟨H, hHe⟩ : ∃ H, H = s.heap := ⟨_, rfl⟩
  have hP : va_P D vwCl (pc_X4_count cs h0 h0_level h0_value h0_tags h0_link h0_key h0_lives h0_open h0_in h0_scores h0_was h0_had n0_thrown n0_objects n0_opened n0_sets b0_hasFamily f0_level f0_lives) H := by rw [hHe]; exact hP
  have hS : va_S A s.heap H locs := by rw [hHe]; exact hS
  suffices W p l e rm_X4_count s m args below meth c H locs 0 0 Z (F0 m 0 ls []) by rw [hHe] at this; exact this
  refine lv_aload_n F.1 F.2.1 dX4_count_0 rfl (lv_at hl 0 rfl) ?_
  refine lv_iconst (v := 0) F.1 F.2.1 dX4_count_1 (by decide) ?_
  refine xi_put (C := RX4) (T := TX4) (N := 16) (v := .int 0) (ty := .int) F in_X4_count_X4 tyX4 tyX4_ok nmX4 hK hP hD hS 0 rfl rfl 0 (by decide) fl_X4_count_45 rfl (tyX4_ok 0 (by decide)) rfl rfl (Nat.le_of_ble_eq_true rfl) dX4_count_2 (fun H locs hP hD hS => ?_)
  have hP : va_P D vwCl (pc_X4_count cs h0 h0_level h0_value h0_tags h0_link h0_key h0_lives h0_open h0_in h0_scores h0_was h0_had 0 n0_objects n0_opened n0_sets b0_hasFamily f0_level f0_lives) H := hP
  have hD : va_D A (pc_X4_count cs h0 h0_level h0_value h0_tags h0_link h0_key h0_lives h0_open h0_in h0_scores h0_was h0_had 0 n0_objects n0_opened n0_sets b0_hasFamily f0_level f0_lives) := hD
  refine lv_iload_n F.1 F.2.1 dX4_count_5 rfl (lv_at hl 1 rfl) ?_
  refine lv_iconst (v := 0) F.1 F.2.1 dX4_count_6 (by decide) ?_
  refine lv_iconst (v := 4) F.1 F.2.1 dX4_count_7 (by decide) ?_
  refine xc_Sz (As := [.int p1, .int 0, .int 4]) (rest := []) (m_X4_isIn l D cs p1 0 4 _ hw) F (va_cwS 3 F.2.2.2.2 gX4_count_X4_isIn rfl rfl rfl (by decide +kernel) ⟨Nat.le_of_ble_eq_true rfl, Nat.le_of_ble_eq_true rfl⟩) hK hP hD hS hA [] [0, 1, 2] rfl rfl rfl hl.1 rfl (Nat.le_of_ble_eq_true rfl) dX4_count_8 ⟨Nat.zero_le _, Nat.zero_le _⟩ (fun r8 u H locs hw hP hD hS => ?_)
  have hP : va_P D vwCl (pc_X4_count cs h0 h0_level h0_value h0_tags h0_link h0_key h0_lives h0_open h0_in h0_scores h0_was h0_had 0 n0_objects n0_opened n0_sets b0_hasFamily f0_level f0_lives) H := hP.sub [0, 1, 2] rfl
  have hD : va_D A (pc_X4_count cs h0 h0_level h0_value h0_tags h0_link h0_key h0_lives h0_open h0_in h0_scores h0_was h0_had 0 n0_objects n0_opened n0_sets b0_hasFamily f0_level f0_lives) := hD.sub [0, 1, 2] (by decide) rfl
  try dsimp only at hw
  refine xi_ifnez (tgt := 17) F dX4_count_11 (by decide) (fun hc => ?_) (fun hc => ?_)
  · have hw := hw.1 hc
    refine lv_iconst (v := 0) F.1 F.2.1 dX4_count_17 (by decide) ?_
    refine lv_istore_n (lv' := [(2, .int 0), (0, .ref h0), (1, .int p1)]) F.1 F.2.1 dX4_count_18 rfl hl (by decide) rfl (fun ls hl => ?_)
    refine lv_iconst (v := 0) F.1 F.2.1 dX4_count_19 (by decide) ?_
    refine lv_istore_n (lv' := [(3, .int 0), (2, .int 0), (0, .ref h0), (1, .int p1)]) F.1 F.2.1 dX4_count_20 rfl hl (by decide) rfl (fun ls hl => ?_)
    refine lv_iconst (v := 0) F.1 F.2.1 dX4_count_21 (by decide) ?_
    refine lv_istore (lv' := [(4, .int 0), (3, .int 0), (2, .int 0), (0, .ref h0), (1, .int p1)]) F.1 F.2.1 dX4_count_22 hl (by decide) rfl (fun ls hl => ?_)
    exact (hX24 _ _ _ _).mp hw H locs ls hP hD hS (lv_sub hl [3, 4, 2, 1, 0] rfl)
  · have hw := hw.2 hc
    refine lv_bipush (v := (-2)) F.1 F.2.1 dX4_count_14 (by decide) ?_
    exact RET (-2) (0) H locs 16 ls hw hP hD hS dX4_count_16

theorem in_X4_root_X4 : ∀ w ∈ wsX40, w ∈ wsX4_root := by decide +kernel
theorem fl_X4_root_45 : Cond.fieldLink RX4 45 "JoinBlocksModel" "thrown" "I" ∈ wsX4_root := by decide +kernel
abbrev pc_X4_root (cs : Nat → ClassId) (h0 : Nat) (h0_level : Nat) (h0_value : Nat) (h0_tags : Nat) (h0_link : Nat) (h0_key : Nat) (h0_lives : Nat) (h0_open : Nat) (h0_in : Nat) (h0_scores : Nat) (h0_was : Nat) (h0_had : Nat) (n0_thrown : Int32) (n0_objects : Int32) (n0_opened : Int32) (n0_sets : Int32) (b0_hasFamily : Bool) (f0_level : Nat → Int32) (f0_key : Nat → Int32) (f0_lives : Nat → Bool) : va_W := [(h0, .inr (4, [.int n0_thrown, .int n0_objects, .ref h0_level, .ref h0_value, .ref h0_tags, .ref h0_link, .ref h0_key, .ref h0_lives, .int n0_opened, .ref h0_open, .int n0_sets, .ref h0_in, .ref h0_scores, .int (b2i b0_hasFamily), .ref h0_was, .ref h0_had])), (h0_level, .inl (cs 0, 261, .inl f0_level)), (h0_key, .inl (cs 0, 261, .inl f0_key)), (h0_lives, .inl (cs 1, 261, .inl (bF f0_lives)))]
abbrev rm_X4_root : Room := { frames := 1, cells := 0, slots := 0, locals := 22 }
def call_X4_root (p1 : Int32) (n0_thrown : Int32) (n0_objects : Int32) (f0_level : Nat → Int32) (f0_key : Nat → Int32) (f0_lives : Nat → Bool) (Q : Int32 → Int32 → Prop) : Prop :=
    (call_X4_rootOf p1 n0_objects f0_level f0_key f0_lives (fun (r7 : Int32) => Q r7 0))
set_option maxHeartbeats 4000000 in
set_option maxRecDepth 100000 in
theorem m_X4_root (l : Launch) (D : va_G) (cs : Nat → ClassId) (h0 : Nat) (h0_level : Nat) (h0_value : Nat) (h0_tags : Nat) (h0_link : Nat) (h0_key : Nat) (h0_lives : Nat) (h0_open : Nat) (h0_in : Nat) (h0_scores : Nat) (h0_was : Nat) (h0_had : Nat)  (p1 : Int32) (n0_thrown : Int32) (n0_objects : Int32) (n0_opened : Int32) (n0_sets : Int32) (b0_hasFamily : Bool) (f0_level : Nat → Int32) (f0_key : Nat → Int32) (f0_lives : Nat → Bool) (Q : Int32 → Int32 → Prop) (h : call_X4_root p1 n0_thrown n0_objects f0_level f0_key f0_lives Q) : CtI l yX4_root wsX4_root rm_X4_root D cs [.ref h0, .int p1] (pc_X4_root cs h0 h0_level h0_value h0_tags h0_link h0_key h0_lives h0_open h0_in h0_scores h0_was h0_had n0_thrown n0_objects n0_opened n0_sets b0_hasFamily f0_level f0_key f0_lives) (fun u : Int32 => (pc_X4_root cs h0 h0_level h0_value h0_tags h0_link h0_key h0_lives h0_open h0_in h0_scores h0_was h0_had u n0_objects n0_opened n0_sets b0_hasFamily f0_level f0_key f0_lives)) (fun r u => Q r u) := by
  refine xo_I (S := Int32) (cc := cX4_root) (maxL := 2) (own := RX4) (lv0 := [(0, .ref h0), (1, .int p1)]) (by decide) rfl rfl (Nat.le_of_ble_eq_true rfl) rfl ?_
  intro p e s m args below meth c A Z ls F hK hA hP hD hS hl RET
  have hw := h
  unfold call_X4_root at hw
  generalize ([] : List Loc) = locs at hS ⊢
  obtain ⟨H, hHe⟩ : ∃ H, H = s.heap := ⟨_, rfl⟩
  have hP : va_P D vwCl (pc_X4_root cs h0 h0_level h0_value h0_tags h0_link h0_key h0_lives h0_open h0_in h0_scores h0_was h0_had n0_thrown n0_objects n0_opened n0_sets b0_hasFamily f0_level f0_key f0_lives) H := by rw [hHe]; exact hP
  have hS : va_S A s.heap H locs := by rw [hHe]; exact hS
  suffices W p l e rm_X4_root s m args below meth c H locs 0 0 Z (F0 m 0 ls []) by rw [hHe] at this; exact this
  refine lv_aload_n F.1 F.2.1 dX4_root_0 rfl (lv_at hl 0 rfl) ?_
  refine lv_iconst (v := 0) F.1 F.2.1 dX4_root_1 (by decide) ?_
  refine xi_put (C := RX4) (T := TX4) (N := 16) (v := .int 0) (ty := .int) F in_X4_root_X4 tyX4 tyX4_ok nmX4 hK hP hD hS 0 rfl rfl 0 (by decide) fl_X4_root_45 rfl (tyX4_ok 0 (by decide)) rfl rfl (Nat.le_of_ble_eq_true rfl) dX4_root_2 (fun H locs hP hD hS => ?_)
  have hP : va_P D vwCl (pc_X4_root cs h0 h0_level h0_value h0_tags h0_link h0_key h0_lives h0_open h0_in h0_scores h0_was h0_had 0 n0_objects n0_opened n0_sets b0_hasFamily f0_level f0_key f0_lives) H := hP
  have hD : va_D A (pc_X4_root cs h0 h0_level h0_value h0_tags h0_link h0_key h0_lives h0_open h0_in h0_scores h0_was h0_had 0 n0_objects n0_opened n0_sets b0_hasFamily f0_level f0_key f0_lives) := hD
  refine lv_aload_n F.1 F.2.1 dX4_root_5 rfl (lv_at hl 0 rfl) ?_
  refine lv_iload_n F.1 F.2.1 dX4_root_6 rfl (lv_at hl 1 rfl) ?_
  refine xc_Vi (As := [.int p1]) (rest := []) (m_X4_rootOf l D cs h0 h0_level h0_value h0_tags h0_link h0_key h0_lives h0_open h0_in h0_scores h0_was h0_had p1 0 n0_objects n0_opened n0_sets b0_hasFamily f0_level f0_key f0_lives _ hw) F (cwV 1 F.2.2.2.2 gX4_root_X4_rootOf rfl rfl rfl (by decide +kernel) ⟨Nat.le_of_ble_eq_true rfl, Nat.le_of_ble_eq_true rfl⟩) hK hP hD hS hA [0, 1, 2, 3] [] rfl rfl 0 rfl rfl rfl hl.1 rfl (Nat.le_of_ble_eq_true rfl) dX4_root_7 ⟨Nat.zero_le _, Nat.zero_le _⟩ (fun r7 u H locs hw hP hD hS => ?_)
  have hP : va_P D vwCl (pc_X4_root cs h0 h0_level h0_value h0_tags h0_link h0_key h0_lives h0_open h0_in h0_scores h0_was h0_had 0 n0_objects n0_opened n0_sets b0_hasFamily f0_level f0_key f0_lives) H := hP.sub [0, 1, 2, 3] rfl
  have hD : va_D A (pc_X4_root cs h0 h0_level h0_value h0_tags h0_link h0_key h0_lives h0_open h0_in h0_scores h0_was h0_had 0 n0_objects n0_opened n0_sets b0_hasFamily f0_level f0_key f0_lives) := hD.sub [0, 1, 2, 3] (by decide) rfl
  try dsimp only at hw
  exact RET r7 (0) H locs 10 ls hw hP hD hS dX4_root_10

theorem in_X4_sizeOf_X4 : ∀ w ∈ wsX40, w ∈ wsX4_sizeOf := by decide +kernel
theorem fl_X4_sizeOf_49 : Cond.fieldLink RX4 49 "JoinBlocksModel" "objects" "I" ∈ wsX4_sizeOf := by decide +kernel
theorem fl_X4_sizeOf_32 : Cond.fieldLink RX4 32 "JoinBlocksModel" "in" "[Z" ∈ wsX4_sizeOf := by decide +kernel
abbrev pc_X4_sizeOf (cs : Nat → ClassId) (h0 : Nat) (h0_level : Nat) (h0_value : Nat) (h0_tags : Nat) (h0_link : Nat) (h0_key : Nat) (h0_lives : Nat) (h0_open : Nat) (h0_in : Nat) (h0_scores : Nat) (h0_was : Nat) (h0_had : Nat) (n0_thrown : Int32) (n0_objects : Int32) (n0_opened : Int32) (n0_sets : Int32) (b0_hasFamily : Bool) (f0_in : Nat → Bool) : va_W := [(h0, .inr (4, [.int n0_thrown, .int n0_objects, .ref h0_level, .ref h0_value, .ref h0_tags, .ref h0_link, .ref h0_key, .ref h0_lives, .int n0_opened, .ref h0_open, .int n0_sets, .ref h0_in, .ref h0_scores, .int (b2i b0_hasFamily), .ref h0_was, .ref h0_had])), (h0_in, .inl (cs 1, 1800, .inl (bF f0_in)))]
abbrev rm_X4_sizeOf : Room := { frames := 0, cells := 0, slots := 0, locals := 0 }
def call_X4_sizeOf (p1 : Int32) (n0_objects : Int32) (f0_in : Nat → Bool) (Q : Int32 → Prop) : Prop := ∀ (X4 : Int32 → Int32 → Prop) (X33 : Int32 → Bool → Int32 → Prop),
    (∀ (x2 : Int32) (x3 : Int32),
      ((n0_objects ≤ x3 → Q x2) ∧ (¬ n0_objects ≤ x3 → (∃ j24 : Nat, j24 < 1800 ∧ ((200 * p1) + x3) = nI j24 ∧ (((f0_in j24) = false → X33 x3 false x2) ∧ ((f0_in j24) = true → X33 x3 true x2))))) → X4 x2 x3) →
    (∀ (x3 : Int32) (s0 : Bool) (s1 : Int32),
      X4 (s1 + (b2i s0)) (x3 + 1) → X33 x3 s0 s1) →
    X4 0 0
set_option maxHeartbeats 4000000 in
set_option maxRecDepth 100000 in
theorem m_X4_sizeOf (l : Launch) (D : va_G) (cs : Nat → ClassId) (h0 : Nat) (h0_level : Nat) (h0_value : Nat) (h0_tags : Nat) (h0_link : Nat) (h0_key : Nat) (h0_lives : Nat) (h0_open : Nat) (h0_in : Nat) (h0_scores : Nat) (h0_was : Nat) (h0_had : Nat)  (p1 : Int32) (n0_thrown : Int32) (n0_objects : Int32) (n0_opened : Int32) (n0_sets : Int32) (b0_hasFamily : Bool) (f0_in : Nat → Bool) (Q : Int32 → Prop) (h : call_X4_sizeOf p1 n0_objects f0_in Q) : CtI l yX4_sizeOf wsX4_sizeOf rm_X4_sizeOf D cs [.ref h0, .int p1] (pc_X4_sizeOf cs h0 h0_level h0_value h0_tags h0_link h0_key h0_lives h0_open h0_in h0_scores h0_was h0_had n0_thrown n0_objects n0_opened n0_sets b0_hasFamily f0_in) (fun u : Unit => (pc_X4_sizeOf cs h0 h0_level h0_value h0_tags h0_link h0_key h0_lives h0_open h0_in h0_scores h0_was h0_had n0_thrown n0_objects n0_opened n0_sets b0_hasFamily f0_in)) (fun r u => Q r ) := by
  refine xo_I (S := Unit) (cc := cX4_sizeOf) (maxL := 4) (own := RX4) (lv0 := [(0, .ref h0), (1, .int p1)]) (by decide) rfl rfl (Nat.le_of_ble_eq_true rfl) rfl ?_
  intro p e s m args below meth c A Z ls F hK hA hP hD hS hl RET
  unfold call_X4_sizeOf at h
  obtain ⟨X4, hX4⟩ : ∃ X : Int32 → Int32 → Prop, ∀ (x2 : Int32) (x3 : Int32), (X x2 x3 ↔ ∀ (H : Heap) (locs : List Loc) (ls : Array Slot), va_P D vwCl (pc_X4_sizeOf cs h0 h0_level h0_value h0_tags h0_link h0_key h0_lives h0_open h0_in h0_scores h0_was h0_had n0_thrown n0_objects n0_opened n0_sets b0_hasFamily f0_in) H → va_D A (pc_X4_sizeOf cs h0 h0_level h0_value h0_tags h0_link h0_key h0_lives h0_open h0_in h0_scores h0_was h0_had n0_thrown n0_objects n0_opened n0_sets b0_hasFamily f0_in) → va_S A s.heap H locs → lv_has ls 4 [(0, .ref h0), (1, .int p1), (2, .int x2), (3, .int x3)] → W p l e rm_X4_sizeOf s m args below meth c H locs 0 0 Z (F0 m 4 ls [])) := ⟨_, fun _ _ => Iff.rfl⟩
  obtain ⟨X33, hX33⟩ : ∃ X : Int32 → Bool → Int32 → Prop, ∀ (x3 : Int32) (s0 : Bool) (s1 : Int32), (X x3 s0 s1 ↔ ∀ (H : Heap) (locs : List Loc) (ls : Array Slot), va_P D vwCl (pc_X4_sizeOf cs h0 h0_level h0_value h0_tags h0_link h0_key h0_lives h0_open h0_in h0_scores h0_was h0_had n0_thrown n0_objects n0_opened n0_sets b0_hasFamily f0_in) H → va_D A (pc_X4_sizeOf cs h0 h0_level h0_value h0_tags h0_link h0_key h0_lives h0_open h0_in h0_scores h0_was h0_had n0_thrown n0_objects n0_opened n0_sets b0_hasFamily f0_in) → va_S A s.heap H locs → lv_has ls 4 [(0, .ref h0), (1, .int p1), (3, .int x3)] → W p l e rm_X4_sizeOf s m args below meth c H locs 0 0 Z (F0 m 33 ls [.int (b2i s0), .int s1])) := ⟨_, fun _ _ _ => Iff.rfl⟩
  refine xt_cut (h X4 X33 ?_ ?_) (fun hw => ?_)
  · intro x2 x3 hw
    refine (hX4 _ _).mpr ?_
    intro H locs ls hP hD hS hl
    refine lv_iload_n F.1 F.2.1 dX4_sizeOf_4 rfl (lv_at hl 3 rfl) ?_
    refine lv_aload_n F.1 F.2.1 dX4_sizeOf_5 rfl (lv_at hl 0 rfl) ?_
    refine xi_get (C := RX4) (T := TX4) (N := 16) (v := .int n0_objects) F in_X4_sizeOf_X4 hK hP 0 rfl rfl 1 (by decide) fl_X4_sizeOf_49 rfl dX4_sizeOf_6 ?_
    refine lv_icmp_ge (tgt := 41) F.1 F.2.1 dX4_sizeOf_9 (by decide) (fun hc => ?_) (fun hc => ?_)
    · have hw := hw.1 hc
      refine lv_iload_n F.1 F.2.1 dX4_sizeOf_41 rfl (lv_at hl 2 rfl) ?_
      exact RET x2 () H locs 42 ls hw hP hD hS dX4_sizeOf_42
    · have hw := hw.2 hc
      refine lv_iload_n F.1 F.2.1 dX4_sizeOf_12 rfl (lv_at hl 2 rfl) ?_
      refine lv_aload_n F.1 F.2.1 dX4_sizeOf_13 rfl (lv_at hl 0 rfl) ?_
      refine xi_get (C := RX4) (T := TX4) (N := 16) (v := .ref h0_in) F in_X4_sizeOf_X4 hK hP 0 rfl rfl 11 (by decide) fl_X4_sizeOf_32 rfl dX4_sizeOf_14 ?_
      refine lv_sipush (v := 200) F.1 F.2.1 dX4_sizeOf_17 (by decide) ?_
      refine lv_iload_n F.1 F.2.1 dX4_sizeOf_20 rfl (lv_at hl 1 rfl) ?_
      refine lv_imul F.1 F.2.1 dX4_sizeOf_21 ?_
      refine lv_iload_n F.1 F.2.1 dX4_sizeOf_22 rfl (lv_at hl 3 rfl) ?_
      refine lv_iadd F.1 F.2.1 dX4_sizeOf_23 ?_
      obtain ⟨j24, hj, he, hw⟩ := hw
      refine xi_zald (j := j24) F hK hP 1 rfl (by decide) hj he dX4_sizeOf_24 ?_
      refine xi_ifeqz (tgt := 32) F dX4_sizeOf_25 (by decide) (fun hc => ?_) (fun hc => ?_)
      · have hw := hw.1 hc
        refine lv_iconst (v := 0) F.1 F.2.1 dX4_sizeOf_32 (by decide) ?_
        exact (hX33 _ _ _).mp hw H locs ls hP hD hS (lv_sub hl [0, 1, 3] rfl)
      · have hw := hw.2 hc
        refine lv_iconst (v := 1) F.1 F.2.1 dX4_sizeOf_28 (by decide) ?_
        refine lv_goto (tgt := 33) F.1 F.2.1 dX4_sizeOf_29 (by decide) ?_
        exact (hX33 _ _ _).mp hw H locs ls hP hD hS (lv_sub hl [0, 1, 3] rfl)
  · intro x3 s0 s1 hw
    refine (hX33 _ _ _).mpr ?_
    intro H locs ls hP hD hS hl
    refine lv_iadd F.1 F.2.1 dX4_sizeOf_33 ?_
    refine lv_istore_n (lv' := [(2, .int (s1 + (b2i s0))), (0, .ref h0), (1, .int p1), (3, .int x3)]) F.1 F.2.1 dX4_sizeOf_34 rfl hl (by decide) rfl (fun ls hl => ?_)
    refine lv_iinc (v := (x3 + 1)) (lv' := [(3, .int (x3 + 1)), (2, .int (s1 + (b2i s0))), (0, .ref h0), (1, .int p1)]) F.1 F.2.1 dX4_sizeOf_35 hl (k := 3) rfl rfl (by decide) rfl (fun ls hl => ?_)
    refine lv_goto (tgt := 4) F.1 F.2.1 dX4_sizeOf_38 (by decide) ?_
    exact (hX4 _ _).mp hw H locs ls hP hD hS (lv_sub hl [2, 3, 1, 0] rfl)
  generalize ([] : List Loc) = locs at hS ⊢
  obtain ⟨H, hHe⟩ : ∃ H, H = s.heap := ⟨_, rfl⟩
  have hP : va_P D vwCl (pc_X4_sizeOf cs h0 h0_level h0_value h0_tags h0_link h0_key h0_lives h0_open h0_in h0_scores h0_was h0_had n0_thrown n0_objects n0_opened n0_sets b0_hasFamily f0_in) H := by rw [hHe]; exact hP
  have hS : va_S A s.heap H locs := by rw [hHe]; exact hS
  suffices W p l e rm_X4_sizeOf s m args below meth c H locs 0 0 Z (F0 m 0 ls []) by rw [hHe] at this; exact this
  refine lv_iconst (v := 0) F.1 F.2.1 dX4_sizeOf_0 (by decide) ?_
  refine lv_istore_n (lv' := [(2, .int 0), (0, .ref h0), (1, .int p1)]) F.1 F.2.1 dX4_sizeOf_1 rfl hl (by decide) rfl (fun ls hl => ?_)
  refine lv_iconst (v := 0) F.1 F.2.1 dX4_sizeOf_2 (by decide) ?_
  refine lv_istore_n (lv' := [(3, .int 0), (2, .int 0), (0, .ref h0), (1, .int p1)]) F.1 F.2.1 dX4_sizeOf_3 rfl hl (by decide) rfl (fun ls hl => ?_)
  exact (hX4 _ _).mp hw H locs ls hP hD hS (lv_sub hl [2, 3, 1, 0] rfl)

abbrev pc_X4_bits (cs : Nat → ClassId)  : va_W := []
abbrev rm_X4_bits : Room := { frames := 0, cells := 0, slots := 0, locals := 0 }
def call_X4_bits (p0 : Int32) (Q : Int32 → Prop) : Prop := ∀ (X4 : Int32 → Int32 → Prop),
    (∀ (x1 : Int32) (x2 : Int32),
      ((8 ≤ x2 → Q x1) ∧ (¬ 8 ≤ x2 → X4 (x1 + ((p0 >>> ((x2 : Int32) &&& 31)) &&& 1)) (x2 + 1))) → X4 x1 x2) →
    X4 0 0
set_option maxHeartbeats 4000000 in
set_option maxRecDepth 100000 in
theorem m_X4_bits (l : Launch) (D : va_G) (cs : Nat → ClassId)  (p0 : Int32) (Q : Int32 → Prop) (h : call_X4_bits p0 Q) : CtI l yX4_bits wsX4_bits rm_X4_bits D cs [.int p0] (pc_X4_bits cs ) (fun u : Unit => (pc_X4_bits cs )) (fun r u => Q r ) := by
  refine xo_I (S := Unit) (cc := cX4_bits) (maxL := 3) (own := RX4) (lv0 := [(0, .int p0)]) (by decide) rfl rfl (Nat.le_of_ble_eq_true rfl) rfl ?_
  intro p e s m args below meth c A Z ls F hK hA hP hD hS hl RET
  unfold call_X4_bits at h
  obtain ⟨X4, hX4⟩ : ∃ X : Int32 → Int32 → Prop, ∀ (x1 : Int32) (x2 : Int32), (X x1 x2 ↔ ∀ (H : Heap) (locs : List Loc) (ls : Array Slot), va_P D vwCl (pc_X4_bits cs ) H → va_D A (pc_X4_bits cs ) → va_S A s.heap H locs → lv_has ls 3 [(0, .int p0), (1, .int x1), (2, .int x2)] → W p l e rm_X4_bits s m args below meth c H locs 0 0 Z (F0 m 4 ls [])) := ⟨_, fun _ _ => Iff.rfl⟩
  refine xt_cut (h X4 ?_) (fun hw => ?_)
  · intro x1 x2 hw
    refine (hX4 _ _).mpr ?_
    intro H locs ls hP hD hS hl
    refine lv_iload_n F.1 F.2.1 dX4_bits_4 rfl (lv_at hl 2 rfl) ?_
    refine lv_bipush (v := 8) F.1 F.2.1 dX4_bits_5 (by decide) ?_
    refine lv_icmp_ge (tgt := 24) F.1 F.2.1 dX4_bits_7 (by decide) (fun hc => ?_) (fun hc => ?_)
    · have hw := hw.1 hc
      refine lv_iload_n F.1 F.2.1 dX4_bits_24 rfl (lv_at hl 1 rfl) ?_
      exact RET x1 () H locs 25 ls hw hP hD hS dX4_bits_25
    · have hw := hw.2 hc
      refine lv_iload_n F.1 F.2.1 dX4_bits_10 rfl (lv_at hl 1 rfl) ?_
      refine lv_iload_n F.1 F.2.1 dX4_bits_11 rfl (lv_at hl 0 rfl) ?_
      refine lv_iload_n F.1 F.2.1 dX4_bits_12 rfl (lv_at hl 2 rfl) ?_
      refine lv_ishr F.1 F.2.1 dX4_bits_13 ?_
      refine lv_iconst (v := 1) F.1 F.2.1 dX4_bits_14 (by decide) ?_
      refine lv_iand F.1 F.2.1 dX4_bits_15 ?_
      refine lv_iadd F.1 F.2.1 dX4_bits_16 ?_
      refine lv_istore_n (lv' := [(1, .int (x1 + ((p0 >>> ((x2 : Int32) &&& 31)) &&& 1))), (0, .int p0), (2, .int x2)]) F.1 F.2.1 dX4_bits_17 rfl hl (by decide) rfl (fun ls hl => ?_)
      refine lv_iinc (v := (x2 + 1)) (lv' := [(2, .int (x2 + 1)), (1, .int (x1 + ((p0 >>> ((x2 : Int32) &&& 31)) &&& 1))), (0, .int p0)]) F.1 F.2.1 dX4_bits_18 hl (k := 2) rfl rfl (by decide) rfl (fun ls hl => ?_)
      refine lv_goto (tgt := 4) F.1 F.2.1 dX4_bits_21 (by decide) ?_
      exact (hX4 _ _).mp hw H locs ls hP hD hS (lv_sub hl [2, 1, 0] rfl)
  generalize ([] : List Loc) = locs at hS ⊢
  obtain ⟨H, hHe⟩ : ∃ H, H = s.heap := ⟨_, rfl⟩
  have hP : va_P D vwCl (pc_X4_bits cs ) H := by rw [hHe]; exact hP
  have hS : va_S A s.heap H locs := by rw [hHe]; exact hS
  suffices W p l e rm_X4_bits s m args below meth c H locs 0 0 Z (F0 m 0 ls []) by rw [hHe] at this; exact this
  refine lv_iconst (v := 0) F.1 F.2.1 dX4_bits_0 (by decide) ?_
  refine lv_istore_n (lv' := [(1, .int 0), (0, .int p0)]) F.1 F.2.1 dX4_bits_1 rfl hl (by decide) rfl (fun ls hl => ?_)
  refine lv_iconst (v := 0) F.1 F.2.1 dX4_bits_2 (by decide) ?_
  refine lv_istore_n (lv' := [(2, .int 0), (1, .int 0), (0, .int p0)]) F.1 F.2.1 dX4_bits_3 rfl hl (by decide) rfl (fun ls hl => ?_)
  exact (hX4 _ _).mp hw H locs ls hP hD hS (lv_sub hl [2, 1, 0] rfl)

abbrev pc_X4_mayBeFound (cs : Nat → ClassId)  : va_W := []
abbrev rm_X4_mayBeFound : Room := { frames := 1, cells := 0, slots := 0, locals := 22 }
def call_X4_mayBeFound (p0 : Int32) (p1 : Int32) (p2 : Int32) (Q : Bool → Prop) : Prop := ∀ (X81 : Prop) (X82 : Bool → Prop),
    (X82 false → X81) →
    (∀ (s0 : Bool),
      Q s0 → X82 s0) →
    ((p0 = 0 → Q true) ∧ (p0 = 1 → (call_X4_isIn p1 0 255 (fun (r47 : Bool) => Q r47))) ∧ (p0 = 2 → (call_X4_isIn p1 (-1000) 1000 (fun (r58 : Bool) => ((r58 = false → X81) ∧ (r58 = true → (call_X4_isIn p2 (-1000) 1000 (fun (r71 : Bool) => ((r71 = false → X81) ∧ (r71 = true → X82 true))))))))) ∧ (p0 = 3 → (call_X4_isIn p1 0 2 (fun (r86 : Bool) => Q r86))) ∧ (p0 = 4 → (call_X4_isIn p1 0 999 (fun (r95 : Bool) => Q r95))) ∧ (p0 = 5 → (call_X4_isIn p1 0 999 (fun (r104 : Bool) => Q r104))) ∧ (¬ p0 = 0 → ¬ p0 = 1 → ¬ p0 = 2 → ¬ p0 = 3 → ¬ p0 = 4 → ¬ p0 = 5 → Q false))
set_option maxHeartbeats 4000000 in
set_option maxRecDepth 100000 in
theorem m_X4_mayBeFound (l : Launch) (D : va_G) (cs : Nat → ClassId)  (p0 : Int32) (p1 : Int32) (p2 : Int32) (Q : Bool → Prop) (h : call_X4_mayBeFound p0 p1 p2 Q) : CtZ l yX4_mayBeFound wsX4_mayBeFound rm_X4_mayBeFound D cs [.int p0, .int p1, .int p2] (pc_X4_mayBeFound cs ) (fun u : Unit => (pc_X4_mayBeFound cs )) (fun r u => Q r ) := by
  refine xo_Z (S := Unit) (cc := cX4_mayBeFound) (maxL := 3) (own := RX4) (lv0 := [(0, .int p0), (1, .int p1), (2, .int p2)]) (by decide) rfl rfl (Nat.le_of_ble_eq_true rfl) rfl ?_
  intro p e s m args below meth c A Z ls F hK hA hP hD hS hl RET
  unfold call_X4_mayBeFound at h
  obtain ⟨X81, hX81⟩ : ∃ X : Prop, (X  ↔ ∀ (H : Heap) (locs : List Loc) (ls : Array Slot), va_P D vwCl (pc_X4_mayBeFound cs ) H → va_D A (pc_X4_mayBeFound cs ) → va_S A s.heap H locs → lv_has ls 3 [] → W p l e rm_X4_mayBeFound s m args below meth c H locs 0 0 Z (F0 m 81 ls [])) := ⟨_, Iff.rfl⟩
  obtain ⟨X82, hX82⟩ : ∃ X : Bool → Prop, ∀ (s0 : Bool), (X s0 ↔ ∀ (H : Heap) (locs : List Loc) (ls : Array Slot), va_P D vwCl (pc_X4_mayBeFound cs ) H → va_D A (pc_X4_mayBeFound cs ) → va_S A s.heap H locs → lv_has ls 3 [] → W p l e rm_X4_mayBeFound s m args below meth c H locs 0 0 Z (F0 m 82 ls [.int (b2i s0)])) := ⟨_, fun _ => Iff.rfl⟩
  refine xt_cut (h X81 X82 ?_ ?_) (fun hw => ?_)
  · intro  hw
    refine (hX81).mpr ?_
    intro H locs ls hP hD hS hl
    refine lv_iconst (v := 0) F.1 F.2.1 dX4_mayBeFound_81 (by decide) ?_
    exact (hX82 _).mp hw H locs ls hP hD hS (lv_sub hl [] rfl)
  · intro s0 hw
    refine (hX82 _).mpr ?_
    intro H locs ls hP hD hS hl
    exact RET s0 () H locs 82 ls _ rfl hw hP hD hS dX4_mayBeFound_82
  generalize ([] : List Loc) = locs at hS ⊢
  obtain ⟨H, hHe⟩ : ∃ H, H = s.heap := ⟨_, rfl⟩
  have hP : va_P D vwCl (pc_X4_mayBeFound cs ) H := by rw [hHe]; exact hP
  have hS : va_S A s.heap H locs := by rw [hHe]; exact hS
  suffices W p l e rm_X4_mayBeFound s m args below meth c H locs 0 0 Z (F0 m 0 ls []) by rw [hHe] at this; exact this
  refine lv_iload_n F.1 F.2.1 dX4_mayBeFound_0 rfl (lv_at hl 0 rfl) ?_
  obtain ⟨hw0, hw1, hw2, hw3, hw4, hw5, hwd⟩ := hw
  by_cases hc0 : p0 = 0
  · have hw := hw0 hc0
    refine xi_tswIn (tgt := 40) (v := 0) (off := 39) F dX4_mayBeFound_1 hc0 (by decide) ?_
    refine lv_iconst (v := 1) F.1 F.2.1 dX4_mayBeFound_40 (by decide) ?_
    exact RET true () H locs 41 ls _ rfl hw hP hD hS dX4_mayBeFound_41
  by_cases hc1 : p0 = 1
  · have hw := hw1 hc1
    refine xi_tswIn (tgt := 42) (v := 1) (off := 41) F dX4_mayBeFound_1 hc1 (by decide) ?_
    refine lv_iload_n F.1 F.2.1 dX4_mayBeFound_42 rfl (lv_at hl 1 rfl) ?_
    refine lv_iconst (v := 0) F.1 F.2.1 dX4_mayBeFound_43 (by decide) ?_
    refine lv_sipush (v := 255) F.1 F.2.1 dX4_mayBeFound_44 (by decide) ?_
    refine xc_Sz (As := [.int p1, .int 0, .int 255]) (rest := []) (m_X4_isIn l D cs p1 0 255 _ hw) F (va_cwS 3 F.2.2.2.2 gX4_mayBeFound_X4_isIn rfl rfl rfl (by decide +kernel) ⟨Nat.le_of_ble_eq_true rfl, Nat.le_of_ble_eq_true rfl⟩) hK hP hD hS hA [] [] rfl rfl rfl hl.1 rfl (Nat.le_of_ble_eq_true rfl) dX4_mayBeFound_47 ⟨Nat.zero_le _, Nat.zero_le _⟩ (fun r47 u H locs hw hP hD hS => ?_)
    have hP : va_P D vwCl (pc_X4_mayBeFound cs ) H := hP.sub [] rfl
    have hD : va_D A (pc_X4_mayBeFound cs ) := hD.sub [] (by decide) rfl
    try dsimp only at hw
    exact RET r47 () H locs 50 ls _ rfl hw hP hD hS dX4_mayBeFound_50
  by_cases hc2 : p0 = 2
  · have hw := hw2 hc2
    refine xi_tswIn (tgt := 51) (v := 2) (off := 50) F dX4_mayBeFound_1 hc2 (by decide) ?_
    refine lv_iload_n F.1 F.2.1 dX4_mayBeFound_51 rfl (lv_at hl 1 rfl) ?_
    refine lv_sipush (v := (-1000)) F.1 F.2.1 dX4_mayBeFound_52 (by decide) ?_
    refine lv_sipush (v := 1000) F.1 F.2.1 dX4_mayBeFound_55 (by decide) ?_
    refine xc_Sz (As := [.int p1, .int (-1000), .int 1000]) (rest := []) (m_X4_isIn l D cs p1 (-1000) 1000 _ hw) F (va_cwS 3 F.2.2.2.2 gX4_mayBeFound_X4_isIn rfl rfl rfl (by decide +kernel) ⟨Nat.le_of_ble_eq_true rfl, Nat.le_of_ble_eq_true rfl⟩) hK hP hD hS hA [] [] rfl rfl rfl hl.1 rfl (Nat.le_of_ble_eq_true rfl) dX4_mayBeFound_58 ⟨Nat.zero_le _, Nat.zero_le _⟩ (fun r58 u H locs hw hP hD hS => ?_)
    have hP : va_P D vwCl (pc_X4_mayBeFound cs ) H := hP.sub [] rfl
    have hD : va_D A (pc_X4_mayBeFound cs ) := hD.sub [] (by decide) rfl
    try dsimp only at hw
    refine xi_ifeqz (tgt := 81) F dX4_mayBeFound_61 (by decide) (fun hc => ?_) (fun hc => ?_)
    · have hw := hw.1 hc
      exact (hX81).mp hw H locs ls hP hD hS (lv_sub hl [] rfl)
    · have hw := hw.2 hc
      refine lv_iload_n F.1 F.2.1 dX4_mayBeFound_64 rfl (lv_at hl 2 rfl) ?_
      refine lv_sipush (v := (-1000)) F.1 F.2.1 dX4_mayBeFound_65 (by decide) ?_
      refine lv_sipush (v := 1000) F.1 F.2.1 dX4_mayBeFound_68 (by decide) ?_
      refine xc_Sz (As := [.int p2, .int (-1000), .int 1000]) (rest := []) (m_X4_isIn l D cs p2 (-1000) 1000 _ hw) F (va_cwS 3 F.2.2.2.2 gX4_mayBeFound_X4_isIn rfl rfl rfl (by decide +kernel) ⟨Nat.le_of_ble_eq_true rfl, Nat.le_of_ble_eq_true rfl⟩) hK hP hD hS hA [] [] rfl rfl rfl hl.1 rfl (Nat.le_of_ble_eq_true rfl) dX4_mayBeFound_71 ⟨Nat.zero_le _, Nat.zero_le _⟩ (fun r71 u H locs hw hP hD hS => ?_)
      have hP : va_P D vwCl (pc_X4_mayBeFound cs ) H := hP.sub [] rfl
      have hD : va_D A (pc_X4_mayBeFound cs ) := hD.sub [] (by decide) rfl
      try dsimp only at hw
      refine xi_ifeqz (tgt := 81) F dX4_mayBeFound_74 (by decide) (fun hc => ?_) (fun hc => ?_)
      · have hw := hw.1 hc
        exact (hX81).mp hw H locs ls hP hD hS (lv_sub hl [] rfl)
      · have hw := hw.2 hc
        refine lv_iconst (v := 1) F.1 F.2.1 dX4_mayBeFound_77 (by decide) ?_
        refine lv_goto (tgt := 82) F.1 F.2.1 dX4_mayBeFound_78 (by decide) ?_
        exact (hX82 _).mp hw H locs ls hP hD hS (lv_sub hl [] rfl)
  by_cases hc3 : p0 = 3
  · have hw := hw3 hc3
    refine xi_tswIn (tgt := 83) (v := 3) (off := 82) F dX4_mayBeFound_1 hc3 (by decide) ?_
    refine lv_iload_n F.1 F.2.1 dX4_mayBeFound_83 rfl (lv_at hl 1 rfl) ?_
    refine lv_iconst (v := 0) F.1 F.2.1 dX4_mayBeFound_84 (by decide) ?_
    refine lv_iconst (v := 2) F.1 F.2.1 dX4_mayBeFound_85 (by decide) ?_
    refine xc_Sz (As := [.int p1, .int 0, .int 2]) (rest := []) (m_X4_isIn l D cs p1 0 2 _ hw) F (va_cwS 3 F.2.2.2.2 gX4_mayBeFound_X4_isIn rfl rfl rfl (by decide +kernel) ⟨Nat.le_of_ble_eq_true rfl, Nat.le_of_ble_eq_true rfl⟩) hK hP hD hS hA [] [] rfl rfl rfl hl.1 rfl (Nat.le_of_ble_eq_true rfl) dX4_mayBeFound_86 ⟨Nat.zero_le _, Nat.zero_le _⟩ (fun r86 u H locs hw hP hD hS => ?_)
    have hP : va_P D vwCl (pc_X4_mayBeFound cs ) H := hP.sub [] rfl
    have hD : va_D A (pc_X4_mayBeFound cs ) := hD.sub [] (by decide) rfl
    try dsimp only at hw
    exact RET r86 () H locs 89 ls _ rfl hw hP hD hS dX4_mayBeFound_89
  by_cases hc4 : p0 = 4
  · have hw := hw4 hc4
    refine xi_tswIn (tgt := 90) (v := 4) (off := 89) F dX4_mayBeFound_1 hc4 (by decide) ?_
    refine lv_iload_n F.1 F.2.1 dX4_mayBeFound_90 rfl (lv_at hl 1 rfl) ?_
    refine lv_iconst (v := 0) F.1 F.2.1 dX4_mayBeFound_91 (by decide) ?_
    refine lv_sipush (v := 999) F.1 F.2.1 dX4_mayBeFound_92 (by decide) ?_
    refine xc_Sz (As := [.int p1, .int 0, .int 999]) (rest := []) (m_X4_isIn l D cs p1 0 999 _ hw) F (va_cwS 3 F.2.2.2.2 gX4_mayBeFound_X4_isIn rfl rfl rfl (by decide +kernel) ⟨Nat.le_of_ble_eq_true rfl, Nat.le_of_ble_eq_true rfl⟩) hK hP hD hS hA [] [] rfl rfl rfl hl.1 rfl (Nat.le_of_ble_eq_true rfl) dX4_mayBeFound_95 ⟨Nat.zero_le _, Nat.zero_le _⟩ (fun r95 u H locs hw hP hD hS => ?_)
    have hP : va_P D vwCl (pc_X4_mayBeFound cs ) H := hP.sub [] rfl
    have hD : va_D A (pc_X4_mayBeFound cs ) := hD.sub [] (by decide) rfl
    try dsimp only at hw
    exact RET r95 () H locs 98 ls _ rfl hw hP hD hS dX4_mayBeFound_98
  by_cases hc5 : p0 = 5
  · have hw := hw5 hc5
    refine xi_tswIn (tgt := 99) (v := 5) (off := 98) F dX4_mayBeFound_1 hc5 (by decide) ?_
    refine lv_iload_n F.1 F.2.1 dX4_mayBeFound_99 rfl (lv_at hl 1 rfl) ?_
    refine lv_iconst (v := 0) F.1 F.2.1 dX4_mayBeFound_100 (by decide) ?_
    refine lv_sipush (v := 999) F.1 F.2.1 dX4_mayBeFound_101 (by decide) ?_
    refine xc_Sz (As := [.int p1, .int 0, .int 999]) (rest := []) (m_X4_isIn l D cs p1 0 999 _ hw) F (va_cwS 3 F.2.2.2.2 gX4_mayBeFound_X4_isIn rfl rfl rfl (by decide +kernel) ⟨Nat.le_of_ble_eq_true rfl, Nat.le_of_ble_eq_true rfl⟩) hK hP hD hS hA [] [] rfl rfl rfl hl.1 rfl (Nat.le_of_ble_eq_true rfl) dX4_mayBeFound_104 ⟨Nat.zero_le _, Nat.zero_le _⟩ (fun r104 u H locs hw hP hD hS => ?_)
    have hP : va_P D vwCl (pc_X4_mayBeFound cs ) H := hP.sub [] rfl
    have hD : va_D A (pc_X4_mayBeFound cs ) := hD.sub [] (by decide) rfl
    try dsimp only at hw
    exact RET r104 () H locs 107 ls _ rfl hw hP hD hS dX4_mayBeFound_107
  have hw := hwd hc0 hc1 hc2 hc3 hc4 hc5
  refine xi_tswOut (tgt := 108) F dX4_mayBeFound_1 (fun k hk => by rcases (show k = 0 ∨ k = 1 ∨ k = 2 ∨ k = 3 ∨ k = 4 ∨ k = 5 by omega) with rfl | rfl | rfl | rfl | rfl | rfl <;> assumption) (by decide) ?_
  refine lv_iconst (v := 0) F.1 F.2.1 dX4_mayBeFound_108 (by decide) ?_
  exact RET false () H locs 109 ls _ rfl hw hP hD hS dX4_mayBeFound_109

theorem in_X4_isFound_X4 : ∀ w ∈ wsX40, w ∈ wsX4_isFound := by decide +kernel
theorem fl_X4_isFound_16 : Cond.fieldLink RX4 16 "JoinBlocksModel" "tags" "[I" ∈ wsX4_isFound := by decide +kernel
theorem fl_X4_isFound_13 : Cond.fieldLink RX4 13 "JoinBlocksModel" "value" "[I" ∈ wsX4_isFound := by decide +kernel
theorem fl_X4_isFound_7 : Cond.fieldLink RX4 7 "JoinBlocksModel" "level" "[I" ∈ wsX4_isFound := by decide +kernel
theorem fl_X4_isFound_22 : Cond.fieldLink RX4 22 "JoinBlocksModel" "key" "[I" ∈ wsX4_isFound := by decide +kernel
theorem fl_X4_isFound_19 : Cond.fieldLink RX4 19 "JoinBlocksModel" "link" "[I" ∈ wsX4_isFound := by decide +kernel
abbrev pc_X4_isFound (cs : Nat → ClassId) (h0 : Nat) (h0_level : Nat) (h0_value : Nat) (h0_tags : Nat) (h0_link : Nat) (h0_key : Nat) (h0_lives : Nat) (h0_open : Nat) (h0_in : Nat) (h0_scores : Nat) (h0_was : Nat) (h0_had : Nat) (n0_thrown : Int32) (n0_objects : Int32) (n0_opened : Int32) (n0_sets : Int32) (b0_hasFamily : Bool) (f0_level : Nat → Int32) (f0_value : Nat → Int32) (f0_tags : Nat → Int32) (f0_link : Nat → Int32) (f0_key : Nat → Int32) : va_W := [(h0, .inr (4, [.int n0_thrown, .int n0_objects, .ref h0_level, .ref h0_value, .ref h0_tags, .ref h0_link, .ref h0_key, .ref h0_lives, .int n0_opened, .ref h0_open, .int n0_sets, .ref h0_in, .ref h0_scores, .int (b2i b0_hasFamily), .ref h0_was, .ref h0_had])), (h0_level, .inl (cs 0, 261, .inl f0_level)), (h0_value, .inl (cs 0, 261, .inl f0_value)), (h0_tags, .inl (cs 0, 261, .inl f0_tags)), (h0_link, .inl (cs 0, 261, .inl f0_link)), (h0_key, .inl (cs 0, 261, .inl f0_key))]
abbrev rm_X4_isFound : Room := { frames := 1, cells := 0, slots := 0, locals := 22 }
def call_X4_isFound (p1 : Int32) (p2 : Int32) (p3 : Int32) (p4 : Int32) (f0_level : Nat → Int32) (f0_value : Nat → Int32) (f0_tags : Nat → Int32) (f0_link : Nat → Int32) (f0_key : Nat → Int32) (Q : Bool → Prop) : Prop := ∀ (X55 : Bool → Prop) (X84 : Bool → Prop) (X109 : Prop) (X110 : Bool → Prop) (X126 : Bool → Prop),
    (∀ (s0 : Bool),
      Q s0 → X55 s0) →
    (∀ (s0 : Bool),
      Q s0 → X84 s0) →
    (X110 false → X109) →
    (∀ (s0 : Bool),
      Q s0 → X110 s0) →
    (∀ (s0 : Bool),
      Q s0 → X126 s0) →
    ((p2 = 0 → Q true) ∧ (p2 = 1 → (∃ j43 : Nat, j43 < 261 ∧ p1 = nI j43 ∧ ((¬ ((f0_tags j43) &&& p3) = p3 → X55 false) ∧ (((f0_tags j43) &&& p3) = p3 → X55 true)))) ∧ (p2 = 2 → (∃ j61 : Nat, j61 < 261 ∧ p1 = nI j61 ∧ (call_X4_isIn (f0_value j61) p3 p4 (fun (r65 : Bool) => Q r65)))) ∧ (p2 = 3 → (∃ j74 : Nat, j74 < 261 ∧ p1 = nI j74 ∧ ((¬ (f0_level j74) = p3 → X84 false) ∧ ((f0_level j74) = p3 → X84 true)))) ∧ (p2 = 4 → (∃ j90 : Nat, j90 < 261 ∧ p1 = nI j90 ∧ ((¬ (f0_level j90) = 2 → X109) ∧ ((f0_level j90) = 2 → (∃ j100 : Nat, j100 < 261 ∧ p1 = nI j100 ∧ ((¬ (f0_key j100) = p3 → X109) ∧ ((f0_key j100) = p3 → X110 true))))))) ∧ (¬ p2 = 0 → ¬ p2 = 1 → ¬ p2 = 2 → ¬ p2 = 3 → ¬ p2 = 4 → (∃ j116 : Nat, j116 < 261 ∧ p1 = nI j116 ∧ ((¬ (f0_link j116) = p3 → X126 false) ∧ ((f0_link j116) = p3 → X126 true)))))
set_option maxHeartbeats 4000000 in
set_option maxRecDepth 100000 in
theorem m_X4_isFound (l : Launch) (D : va_G) (cs : Nat → ClassId) (h0 : Nat) (h0_level : Nat) (h0_value : Nat) (h0_tags : Nat) (h0_link : Nat) (h0_key : Nat) (h0_lives : Nat) (h0_open : Nat) (h0_in : Nat) (h0_scores : Nat) (h0_was : Nat) (h0_had : Nat)  (p1 : Int32) (p2 : Int32) (p3 : Int32) (p4 : Int32) (n0_thrown : Int32) (n0_objects : Int32) (n0_opened : Int32) (n0_sets : Int32) (b0_hasFamily : Bool) (f0_level : Nat → Int32) (f0_value : Nat → Int32) (f0_tags : Nat → Int32) (f0_link : Nat → Int32) (f0_key : Nat → Int32) (Q : Bool → Prop) (h : call_X4_isFound p1 p2 p3 p4 f0_level f0_value f0_tags f0_link f0_key Q) : CtZ l yX4_isFound wsX4_isFound rm_X4_isFound D cs [.ref h0, .int p1, .int p2, .int p3, .int p4] (pc_X4_isFound cs h0 h0_level h0_value h0_tags h0_link h0_key h0_lives h0_open h0_in h0_scores h0_was h0_had n0_thrown n0_objects n0_opened n0_sets b0_hasFamily f0_level f0_value f0_tags f0_link f0_key) (fun u : Unit => (pc_X4_isFound cs h0 h0_level h0_value h0_tags h0_link h0_key h0_lives h0_open h0_in h0_scores h0_was h0_had n0_thrown n0_objects n0_opened n0_sets b0_hasFamily f0_level f0_value f0_tags f0_link f0_key)) (fun r u => Q r ) := by
  refine xo_Z (S := Unit) (cc := cX4_isFound) (maxL := 5) (own := RX4) (lv0 := [(0, .ref h0), (1, .int p1), (2, .int p2), (3, .int p3), (4, .int p4)]) (by decide) rfl rfl (Nat.le_of_ble_eq_true rfl) rfl ?_
  intro p e s m args below meth c A Z ls F hK hA hP hD hS hl RET
  unfold call_X4_isFound at h
  obtain ⟨X55, hX55⟩ : ∃ X : Bool → Prop, ∀ (s0 : Bool), (X s0 ↔ ∀ (H : Heap) (locs : List Loc) (ls : Array Slot), va_P D vwCl (pc_X4_isFound cs h0 h0_level h0_value h0_tags h0_link h0_key h0_lives h0_open h0_in h0_scores h0_was h0_had n0_thrown n0_objects n0_opened n0_sets b0_hasFamily f0_level f0_value f0_tags f0_link f0_key) H → va_D A (pc_X4_isFound cs h0 h0_level h0_value h0_tags h0_link h0_key h0_lives h0_open h0_in h0_scores h0_was h0_had n0_thrown n0_objects n0_opened n0_sets b0_hasFamily f0_level f0_value f0_tags f0_link f0_key) → va_S A s.heap H locs → lv_has ls 5 [] → W p l e rm_X4_isFound s m args below meth c H locs 0 0 Z (F0 m 55 ls [.int (b2i s0)])) := ⟨_, fun _ => Iff.rfl⟩
  obtain ⟨X84, hX84⟩ : ∃ X : Bool → Prop, ∀ (s0 : Bool), (X s0 ↔ ∀ (H : Heap) (locs : List Loc) (ls : Array Slot), va_P D vwCl (pc_X4_isFound cs h0 h0_level h0_value h0_tags h0_link h0_key h0_lives h0_open h0_in h0_scores h0_was h0_had n0_thrown n0_objects n0_opened n0_sets b0_hasFamily f0_level f0_value f0_tags f0_link f0_key) H → va_D A (pc_X4_isFound cs h0 h0_level h0_value h0_tags h0_link h0_key h0_lives h0_open h0_in h0_scores h0_was h0_had n0_thrown n0_objects n0_opened n0_sets b0_hasFamily f0_level f0_value f0_tags f0_link f0_key) → va_S A s.heap H locs → lv_has ls 5 [] → W p l e rm_X4_isFound s m args below meth c H locs 0 0 Z (F0 m 84 ls [.int (b2i s0)])) := ⟨_, fun _ => Iff.rfl⟩
  obtain ⟨X109, hX109⟩ : ∃ X : Prop, (X  ↔ ∀ (H : Heap) (locs : List Loc) (ls : Array Slot), va_P D vwCl (pc_X4_isFound cs h0 h0_level h0_value h0_tags h0_link h0_key h0_lives h0_open h0_in h0_scores h0_was h0_had n0_thrown n0_objects n0_opened n0_sets b0_hasFamily f0_level f0_value f0_tags f0_link f0_key) H → va_D A (pc_X4_isFound cs h0 h0_level h0_value h0_tags h0_link h0_key h0_lives h0_open h0_in h0_scores h0_was h0_had n0_thrown n0_objects n0_opened n0_sets b0_hasFamily f0_level f0_value f0_tags f0_link f0_key) → va_S A s.heap H locs → lv_has ls 5 [] → W p l e rm_X4_isFound s m args below meth c H locs 0 0 Z (F0 m 109 ls [])) := ⟨_, Iff.rfl⟩
  obtain ⟨X110, hX110⟩ : ∃ X : Bool → Prop, ∀ (s0 : Bool), (X s0 ↔ ∀ (H : Heap) (locs : List Loc) (ls : Array Slot), va_P D vwCl (pc_X4_isFound cs h0 h0_level h0_value h0_tags h0_link h0_key h0_lives h0_open h0_in h0_scores h0_was h0_had n0_thrown n0_objects n0_opened n0_sets b0_hasFamily f0_level f0_value f0_tags f0_link f0_key) H → va_D A (pc_X4_isFound cs h0 h0_level h0_value h0_tags h0_link h0_key h0_lives h0_open h0_in h0_scores h0_was h0_had n0_thrown n0_objects n0_opened n0_sets b0_hasFamily f0_level f0_value f0_tags f0_link f0_key) → va_S A s.heap H locs → lv_has ls 5 [] → W p l e rm_X4_isFound s m args below meth c H locs 0 0 Z (F0 m 110 ls [.int (b2i s0)])) := ⟨_, fun _ => Iff.rfl⟩
  obtain ⟨X126, hX126⟩ : ∃ X : Bool → Prop, ∀ (s0 : Bool), (X s0 ↔ ∀ (H : Heap) (locs : List Loc) (ls : Array Slot), va_P D vwCl (pc_X4_isFound cs h0 h0_level h0_value h0_tags h0_link h0_key h0_lives h0_open h0_in h0_scores h0_was h0_had n0_thrown n0_objects n0_opened n0_sets b0_hasFamily f0_level f0_value f0_tags f0_link f0_key) H → va_D A (pc_X4_isFound cs h0 h0_level h0_value h0_tags h0_link h0_key h0_lives h0_open h0_in h0_scores h0_was h0_had n0_thrown n0_objects n0_opened n0_sets b0_hasFamily f0_level f0_value f0_tags f0_link f0_key) → va_S A s.heap H locs → lv_has ls 5 [] → W p l e rm_X4_isFound s m args below meth c H locs 0 0 Z (F0 m 126 ls [.int (b2i s0)])) := ⟨_, fun _ => Iff.rfl⟩
  refine xt_cut (h X55 X84 X109 X110 X126 ?_ ?_ ?_ ?_ ?_) (fun hw => ?_)
  · intro s0 hw
    refine (hX55 _).mpr ?_
    intro H locs ls hP hD hS hl
    exact RET s0 () H locs 55 ls _ rfl hw hP hD hS dX4_isFound_55
  · intro s0 hw
    refine (hX84 _).mpr ?_
    intro H locs ls hP hD hS hl
    exact RET s0 () H locs 84 ls _ rfl hw hP hD hS dX4_isFound_84
  · intro  hw
    refine (hX109).mpr ?_
    intro H locs ls hP hD hS hl
    refine lv_iconst (v := 0) F.1 F.2.1 dX4_isFound_109 (by decide) ?_
    exact (hX110 _).mp hw H locs ls hP hD hS (lv_sub hl [] rfl)
  · intro s0 hw
    refine (hX110 _).mpr ?_
    intro H locs ls hP hD hS hl
    exact RET s0 () H locs 110 ls _ rfl hw hP hD hS dX4_isFound_110
  · intro s0 hw
    refine (hX126 _).mpr ?_
    intro H locs ls hP hD hS hl
    exact RET s0 () H locs 126 ls _ rfl hw hP hD hS dX4_isFound_126
  generalize ([] : List Loc) = locs at hS ⊢
  obtain ⟨H, hHe⟩ : ∃ H, H = s.heap := ⟨_, rfl⟩
  have hP : va_P D vwCl (pc_X4_isFound cs h0 h0_level h0_value h0_tags h0_link h0_key h0_lives h0_open h0_in h0_scores h0_was h0_had n0_thrown n0_objects n0_opened n0_sets b0_hasFamily f0_level f0_value f0_tags f0_link f0_key) H := by rw [hHe]; exact hP
  have hS : va_S A s.heap H locs := by rw [hHe]; exact hS
  suffices W p l e rm_X4_isFound s m args below meth c H locs 0 0 Z (F0 m 0 ls []) by rw [hHe] at this; exact this
  refine lv_iload_n F.1 F.2.1 dX4_isFound_0 rfl (lv_at hl 2 rfl) ?_
  obtain ⟨hw0, hw1, hw2, hw3, hw4, hwd⟩ := hw
  by_cases hc0 : p2 = 0
  · have hw := hw0 hc0
    refine xi_tswIn (tgt := 36) (v := 0) (off := 35) F dX4_isFound_1 hc0 (by decide) ?_
    refine lv_iconst (v := 1) F.1 F.2.1 dX4_isFound_36 (by decide) ?_
    exact RET true () H locs 37 ls _ rfl hw hP hD hS dX4_isFound_37
  by_cases hc1 : p2 = 1
  · have hw := hw1 hc1
    refine xi_tswIn (tgt := 38) (v := 1) (off := 37) F dX4_isFound_1 hc1 (by decide) ?_
    refine lv_aload_n F.1 F.2.1 dX4_isFound_38 rfl (lv_at hl 0 rfl) ?_
    refine xi_get (C := RX4) (T := TX4) (N := 16) (v := .ref h0_tags) F in_X4_isFound_X4 hK hP 0 rfl rfl 4 (by decide) fl_X4_isFound_16 rfl dX4_isFound_39 ?_
    refine lv_iload_n F.1 F.2.1 dX4_isFound_42 rfl (lv_at hl 1 rfl) ?_
    obtain ⟨j43, hj, he, hw⟩ := hw
    refine xi_iald (j := j43) F hK hP 3 rfl (by decide) hj he dX4_isFound_43 ?_
    refine lv_iload_n F.1 F.2.1 dX4_isFound_44 rfl (lv_at hl 3 rfl) ?_
    refine lv_iand F.1 F.2.1 dX4_isFound_45 ?_
    refine lv_iload_n F.1 F.2.1 dX4_isFound_46 rfl (lv_at hl 3 rfl) ?_
    refine lv_icmp_ne (tgt := 54) F.1 F.2.1 dX4_isFound_47 (by decide) (fun hc => ?_) (fun hc => ?_)
    · have hw := hw.1 hc
      refine lv_iconst (v := 0) F.1 F.2.1 dX4_isFound_54 (by decide) ?_
      exact (hX55 _).mp hw H locs ls hP hD hS (lv_sub hl [] rfl)
    · have hw := hw.2 hc
      refine lv_iconst (v := 1) F.1 F.2.1 dX4_isFound_50 (by decide) ?_
      refine lv_goto (tgt := 55) F.1 F.2.1 dX4_isFound_51 (by decide) ?_
      exact (hX55 _).mp hw H locs ls hP hD hS (lv_sub hl [] rfl)
  by_cases hc2 : p2 = 2
  · have hw := hw2 hc2
    refine xi_tswIn (tgt := 56) (v := 2) (off := 55) F dX4_isFound_1 hc2 (by decide) ?_
    refine lv_aload_n F.1 F.2.1 dX4_isFound_56 rfl (lv_at hl 0 rfl) ?_
    refine xi_get (C := RX4) (T := TX4) (N := 16) (v := .ref h0_value) F in_X4_isFound_X4 hK hP 0 rfl rfl 3 (by decide) fl_X4_isFound_13 rfl dX4_isFound_57 ?_
    refine lv_iload_n F.1 F.2.1 dX4_isFound_60 rfl (lv_at hl 1 rfl) ?_
    obtain ⟨j61, hj, he, hw⟩ := hw
    refine xi_iald (j := j61) F hK hP 2 rfl (by decide) hj he dX4_isFound_61 ?_
    refine lv_iload_n F.1 F.2.1 dX4_isFound_62 rfl (lv_at hl 3 rfl) ?_
    refine lv_iload F.1 F.2.1 dX4_isFound_63 (lv_at hl 4 rfl) ?_
    refine xc_Sz (As := [.int (f0_value j61), .int p3, .int p4]) (rest := []) (m_X4_isIn l D cs (f0_value j61) p3 p4 _ hw) F (va_cwS 3 F.2.2.2.2 gX4_isFound_X4_isIn rfl rfl rfl (by decide +kernel) ⟨Nat.le_of_ble_eq_true rfl, Nat.le_of_ble_eq_true rfl⟩) hK hP hD hS hA [] [0, 1, 2, 3, 4, 5] rfl rfl rfl hl.1 rfl (Nat.le_of_ble_eq_true rfl) dX4_isFound_65 ⟨Nat.zero_le _, Nat.zero_le _⟩ (fun r65 u H locs hw hP hD hS => ?_)
    have hP : va_P D vwCl (pc_X4_isFound cs h0 h0_level h0_value h0_tags h0_link h0_key h0_lives h0_open h0_in h0_scores h0_was h0_had n0_thrown n0_objects n0_opened n0_sets b0_hasFamily f0_level f0_value f0_tags f0_link f0_key) H := hP.sub [0, 1, 2, 3, 4, 5] rfl
    have hD : va_D A (pc_X4_isFound cs h0 h0_level h0_value h0_tags h0_link h0_key h0_lives h0_open h0_in h0_scores h0_was h0_had n0_thrown n0_objects n0_opened n0_sets b0_hasFamily f0_level f0_value f0_tags f0_link f0_key) := hD.sub [0, 1, 2, 3, 4, 5] (by decide) rfl
    try dsimp only at hw
    exact RET r65 () H locs 68 ls _ rfl hw hP hD hS dX4_isFound_68
  by_cases hc3 : p2 = 3
  · have hw := hw3 hc3
    refine xi_tswIn (tgt := 69) (v := 3) (off := 68) F dX4_isFound_1 hc3 (by decide) ?_
    refine lv_aload_n F.1 F.2.1 dX4_isFound_69 rfl (lv_at hl 0 rfl) ?_
    refine xi_get (C := RX4) (T := TX4) (N := 16) (v := .ref h0_level) F in_X4_isFound_X4 hK hP 0 rfl rfl 2 (by decide) fl_X4_isFound_7 rfl dX4_isFound_70 ?_
    refine lv_iload_n F.1 F.2.1 dX4_isFound_73 rfl (lv_at hl 1 rfl) ?_
    obtain ⟨j74, hj, he, hw⟩ := hw
    refine xi_iald (j := j74) F hK hP 1 rfl (by decide) hj he dX4_isFound_74 ?_
    refine lv_iload_n F.1 F.2.1 dX4_isFound_75 rfl (lv_at hl 3 rfl) ?_
    refine lv_icmp_ne (tgt := 83) F.1 F.2.1 dX4_isFound_76 (by decide) (fun hc => ?_) (fun hc => ?_)
    · have hw := hw.1 hc
      refine lv_iconst (v := 0) F.1 F.2.1 dX4_isFound_83 (by decide) ?_
      exact (hX84 _).mp hw H locs ls hP hD hS (lv_sub hl [] rfl)
    · have hw := hw.2 hc
      refine lv_iconst (v := 1) F.1 F.2.1 dX4_isFound_79 (by decide) ?_
      refine lv_goto (tgt := 84) F.1 F.2.1 dX4_isFound_80 (by decide) ?_
      exact (hX84 _).mp hw H locs ls hP hD hS (lv_sub hl [] rfl)
  by_cases hc4 : p2 = 4
  · have hw := hw4 hc4
    refine xi_tswIn (tgt := 85) (v := 4) (off := 84) F dX4_isFound_1 hc4 (by decide) ?_
    refine lv_aload_n F.1 F.2.1 dX4_isFound_85 rfl (lv_at hl 0 rfl) ?_
    refine xi_get (C := RX4) (T := TX4) (N := 16) (v := .ref h0_level) F in_X4_isFound_X4 hK hP 0 rfl rfl 2 (by decide) fl_X4_isFound_7 rfl dX4_isFound_86 ?_
    refine lv_iload_n F.1 F.2.1 dX4_isFound_89 rfl (lv_at hl 1 rfl) ?_
    obtain ⟨j90, hj, he, hw⟩ := hw
    refine xi_iald (j := j90) F hK hP 1 rfl (by decide) hj he dX4_isFound_90 ?_
    refine lv_iconst (v := 2) F.1 F.2.1 dX4_isFound_91 (by decide) ?_
    refine lv_icmp_ne (tgt := 109) F.1 F.2.1 dX4_isFound_92 (by decide) (fun hc => ?_) (fun hc => ?_)
    · have hw := hw.1 hc
      exact (hX109).mp hw H locs ls hP hD hS (lv_sub hl [] rfl)
    · have hw := hw.2 hc
      refine lv_aload_n F.1 F.2.1 dX4_isFound_95 rfl (lv_at hl 0 rfl) ?_
      refine xi_get (C := RX4) (T := TX4) (N := 16) (v := .ref h0_key) F in_X4_isFound_X4 hK hP 0 rfl rfl 6 (by decide) fl_X4_isFound_22 rfl dX4_isFound_96 ?_
      refine lv_iload_n F.1 F.2.1 dX4_isFound_99 rfl (lv_at hl 1 rfl) ?_
      obtain ⟨j100, hj, he, hw⟩ := hw
      refine xi_iald (j := j100) F hK hP 5 rfl (by decide) hj he dX4_isFound_100 ?_
      refine lv_iload_n F.1 F.2.1 dX4_isFound_101 rfl (lv_at hl 3 rfl) ?_
      refine lv_icmp_ne (tgt := 109) F.1 F.2.1 dX4_isFound_102 (by decide) (fun hc => ?_) (fun hc => ?_)
      · have hw := hw.1 hc
        exact (hX109).mp hw H locs ls hP hD hS (lv_sub hl [] rfl)
      · have hw := hw.2 hc
        refine lv_iconst (v := 1) F.1 F.2.1 dX4_isFound_105 (by decide) ?_
        refine lv_goto (tgt := 110) F.1 F.2.1 dX4_isFound_106 (by decide) ?_
        exact (hX110 _).mp hw H locs ls hP hD hS (lv_sub hl [] rfl)
  have hw := hwd hc0 hc1 hc2 hc3 hc4
  refine xi_tswOut (tgt := 111) F dX4_isFound_1 (fun k hk => by rcases (show k = 0 ∨ k = 1 ∨ k = 2 ∨ k = 3 ∨ k = 4 by omega) with rfl | rfl | rfl | rfl | rfl <;> assumption) (by decide) ?_
  refine lv_aload_n F.1 F.2.1 dX4_isFound_111 rfl (lv_at hl 0 rfl) ?_
  refine xi_get (C := RX4) (T := TX4) (N := 16) (v := .ref h0_link) F in_X4_isFound_X4 hK hP 0 rfl rfl 5 (by decide) fl_X4_isFound_19 rfl dX4_isFound_112 ?_
  refine lv_iload_n F.1 F.2.1 dX4_isFound_115 rfl (lv_at hl 1 rfl) ?_
  obtain ⟨j116, hj, he, hw⟩ := hw
  refine xi_iald (j := j116) F hK hP 4 rfl (by decide) hj he dX4_isFound_116 ?_
  refine lv_iload_n F.1 F.2.1 dX4_isFound_117 rfl (lv_at hl 3 rfl) ?_
  refine lv_icmp_ne (tgt := 125) F.1 F.2.1 dX4_isFound_118 (by decide) (fun hc => ?_) (fun hc => ?_)
  · have hw := hw.1 hc
    refine lv_iconst (v := 0) F.1 F.2.1 dX4_isFound_125 (by decide) ?_
    exact (hX126 _).mp hw H locs ls hP hD hS (lv_sub hl [] rfl)
  · have hw := hw.2 hc
    refine lv_iconst (v := 1) F.1 F.2.1 dX4_isFound_121 (by decide) ?_
    refine lv_goto (tgt := 126) F.1 F.2.1 dX4_isFound_122 (by decide) ?_
    exact (hX126 _).mp hw H locs ls hP hD hS (lv_sub hl [] rfl)

theorem in_X4_find_X4 : ∀ w ∈ wsX40, w ∈ wsX4_find := by decide +kernel
theorem fl_X4_find_49 : Cond.fieldLink RX4 49 "JoinBlocksModel" "objects" "I" ∈ wsX4_find := by decide +kernel
theorem fl_X4_find_59 : Cond.fieldLink RX4 59 "JoinBlocksModel" "sets" "I" ∈ wsX4_find := by decide +kernel
theorem fl_X4_find_32 : Cond.fieldLink RX4 32 "JoinBlocksModel" "in" "[Z" ∈ wsX4_find := by decide +kernel
theorem fl_X4_find_25 : Cond.fieldLink RX4 25 "JoinBlocksModel" "lives" "[Z" ∈ wsX4_find := by decide +kernel
theorem fl_X4_find_35 : Cond.fieldLink RX4 35 "JoinBlocksModel" "scores" "[J" ∈ wsX4_find := by decide +kernel
theorem fl_X4_find_13 : Cond.fieldLink RX4 13 "JoinBlocksModel" "value" "[I" ∈ wsX4_find := by decide +kernel
theorem fl_X4_find_45 : Cond.fieldLink RX4 45 "JoinBlocksModel" "thrown" "I" ∈ wsX4_find := by decide +kernel
abbrev pc_X4_find (cs : Nat → ClassId) (h0 : Nat) (h0_level : Nat) (h0_value : Nat) (h0_tags : Nat) (h0_link : Nat) (h0_key : Nat) (h0_lives : Nat) (h0_open : Nat) (h0_in : Nat) (h0_scores : Nat) (h0_was : Nat) (h0_had : Nat) (n0_thrown : Int32) (n0_objects : Int32) (n0_opened : Int32) (n0_sets : Int32) (b0_hasFamily : Bool) (f0_level : Nat → Int32) (f0_value : Nat → Int32) (f0_tags : Nat → Int32) (f0_link : Nat → Int32) (f0_key : Nat → Int32) (f0_lives : Nat → Bool) (f0_in : Nat → Bool) (f0_scores : Nat → Int64) : va_W := [(h0, .inr (4, [.int n0_thrown, .int n0_objects, .ref h0_level, .ref h0_value, .ref h0_tags, .ref h0_link, .ref h0_key, .ref h0_lives, .int n0_opened, .ref h0_open, .int n0_sets, .ref h0_in, .ref h0_scores, .int (b2i b0_hasFamily), .ref h0_was, .ref h0_had])), (h0_level, .inl (cs 0, 261, .inl f0_level)), (h0_value, .inl (cs 0, 261, .inl f0_value)), (h0_tags, .inl (cs 0, 261, .inl f0_tags)), (h0_link, .inl (cs 0, 261, .inl f0_link)), (h0_key, .inl (cs 0, 261, .inl f0_key)), (h0_lives, .inl (cs 1, 261, .inl (bF f0_lives))), (h0_in, .inl (cs 1, 1800, .inl (bF f0_in))), (h0_scores, .inl (cs 2, 1800, .inr (.inl f0_scores)))]
abbrev rm_X4_find : Room := { frames := 2, cells := 0, slots := 0, locals := 46 }
def call_X4_find (p1 : Int32) (p2 : Int32) (p3 : Int32) (n0_thrown : Int32) (n0_objects : Int32) (n0_sets : Int32) (f0_level : Nat → Int32) (f0_value : Nat → Int32) (f0_tags : Nat → Int32) (f0_link : Nat → Int32) (f0_key : Nat → Int32) (f0_lives : Nat → Bool) (f0_in : Nat → Bool) (f0_scores : Nat → Int64) (Q : Int32 → Int32 → Int32 → (Nat → Bool) → (Nat → Int64) → Prop) : Prop := ∀ (X32 : Int32 → Int32 → Int32 → (Nat → Bool) → (Nat → Int64) → Prop) (X82 : Int32 → Int32 → Int32 → Int32 → (Nat → Bool) → (Nat → Int64) → Prop) (X83 : Int32 → Bool → Int32 → Int32 → Int32 → (Nat → Bool) → (Nat → Int64) → Prop) (X138 : Int32 → Int64 → Int32 → Int32 → Int32 → (Nat → Bool) → (Nat → Int64) → Prop),
    (∀ (x4 : Int32) (n0_thrown : Int32) (n0_sets : Int32) (f0_in : Nat → Bool) (f0_scores : Nat → Int64),
      ((n0_objects ≤ x4 → (call_X4_sizeOf ((n0_sets + 1) - 1) n0_objects f0_in (fun (r162 : Int32) => Q r162 n0_thrown (n0_sets + 1) f0_in f0_scores))) ∧ (¬ n0_objects ≤ x4 → (∃ j62 : Nat, j62 < 261 ∧ x4 = nI j62 ∧ (((f0_lives j62) = false → X82 x4 ((200 * n0_sets) + x4) n0_thrown n0_sets f0_in f0_scores) ∧ ((f0_lives j62) = true → (call_X4_isFound x4 p1 p2 p3 f0_level f0_value f0_tags f0_link f0_key (fun (r72 : Bool) => ((r72 = false → X82 x4 ((200 * n0_sets) + x4) n0_thrown n0_sets f0_in f0_scores) ∧ (r72 = true → X83 x4 true ((200 * n0_sets) + x4) n0_thrown n0_sets f0_in f0_scores))))))))) → X32 x4 n0_thrown n0_sets f0_in f0_scores) →
    (∀ (x4 : Int32) (s0 : Int32) (n0_thrown : Int32) (n0_sets : Int32) (f0_in : Nat → Bool) (f0_scores : Nat → Int64),
      X83 x4 false s0 n0_thrown n0_sets f0_in f0_scores → X82 x4 s0 n0_thrown n0_sets f0_in f0_scores) →
    (∀ (x4 : Int32) (s0 : Bool) (s1 : Int32) (n0_thrown : Int32) (n0_sets : Int32) (f0_in : Nat → Bool) (f0_scores : Nat → Int64),
      (∃ j83 : Nat, j83 < 1800 ∧ s1 = nI j83 ∧ ((¬ p1 = 1 → ((¬ p1 = 2 → ((p1 < 4 → X138 x4 0 ((200 * n0_sets) + x4) n0_thrown n0_sets (va_up f0_in j83 s0) f0_scores) ∧ (¬ p1 < 4 → X138 x4 1 ((200 * n0_sets) + x4) n0_thrown n0_sets (va_up f0_in j83 s0) f0_scores))) ∧ (p1 = 2 → (∃ j123 : Nat, j123 < 261 ∧ x4 = nI j123 ∧ X138 x4 (((f0_value j123)).toInt64) ((200 * n0_sets) + x4) n0_thrown n0_sets (va_up f0_in j83 s0) f0_scores)))) ∧ (p1 = 1 → (call_X4_bits p2 (fun (r105 : Int32) => X138 x4 ((r105).toInt64) ((200 * n0_sets) + x4) n0_thrown n0_sets (va_up f0_in j83 s0) f0_scores))))) → X83 x4 s0 s1 n0_thrown n0_sets f0_in f0_scores) →
    (∀ (x4 : Int32) (s0 : Int64) (s1 : Int32) (n0_thrown : Int32) (n0_sets : Int32) (f0_in : Nat → Bool) (f0_scores : Nat → Int64),
      (∃ j138 : Nat, j138 < 1800 ∧ s1 = nI j138 ∧ X32 (x4 + 1) n0_thrown n0_sets f0_in (va_up f0_scores j138 s0)) → X138 x4 s0 s1 n0_thrown n0_sets f0_in f0_scores) →
    (call_X4_mayBeFound p1 p2 p3 (fun (r8 : Bool) => ((r8 = true → ((¬ n0_sets = 8 → X32 0 0 n0_sets f0_in f0_scores) ∧ (n0_sets = 8 → Q (-4) 0 n0_sets f0_in f0_scores))) ∧ (r8 = false → Q (-2) 0 n0_sets f0_in f0_scores))))
set_option maxHeartbeats 4000000 in
set_option maxRecDepth 100000 in
theorem m_X4_find (l : Launch) (D : va_G) (cs : Nat → ClassId) (h0 : Nat) (h0_level : Nat) (h0_value : Nat) (h0_tags : Nat) (h0_link : Nat) (h0_key : Nat) (h0_lives : Nat) (h0_open : Nat) (h0_in : Nat) (h0_scores : Nat) (h0_was : Nat) (h0_had : Nat)  (p1 : Int32) (p2 : Int32) (p3 : Int32) (n0_thrown : Int32) (n0_objects : Int32) (n0_opened : Int32) (n0_sets : Int32) (b0_hasFamily : Bool) (f0_level : Nat → Int32) (f0_value : Nat → Int32) (f0_tags : Nat → Int32) (f0_link : Nat → Int32) (f0_key : Nat → Int32) (f0_lives : Nat → Bool) (f0_in : Nat → Bool) (f0_scores : Nat → Int64) (Q : Int32 → Int32 → Int32 → (Nat → Bool) → (Nat → Int64) → Prop) (h : call_X4_find p1 p2 p3 n0_thrown n0_objects n0_sets f0_level f0_value f0_tags f0_link f0_key f0_lives f0_in f0_scores Q) : CtI l yX4_find wsX4_find rm_X4_find D cs [.ref h0, .int p1, .int p2, .int p3] (pc_X4_find cs h0 h0_level h0_value h0_tags h0_link h0_key h0_lives h0_open h0_in h0_scores h0_was h0_had n0_thrown n0_objects n0_opened n0_sets b0_hasFamily f0_level f0_value f0_tags f0_link f0_key f0_lives f0_in f0_scores) (fun u : Int32 × Int32 × (Nat → Bool) × (Nat → Int64) => (pc_X4_find cs h0 h0_level h0_value h0_tags h0_link h0_key h0_lives h0_open h0_in h0_scores h0_was h0_had u.1 n0_objects n0_opened u.2.1 b0_hasFamily f0_level f0_value f0_tags f0_link f0_key f0_lives u.2.2.1 u.2.2.2)) (fun r u => Q r u.1 u.2.1 u.2.2.1 u.2.2.2) := by
  refine xo_I (S := Int32 × Int32 × (Nat → Bool) × (Nat → Int64)) (cc := cX4_find) (maxL := 5) (own := RX4) (lv0 := [(0, .ref h0), (1, .int p1), (2, .int p2), (3, .int p3)]) (by decide) rfl rfl (Nat.le_of_ble_eq_true rfl) rfl ?_
  intro p e s m args below meth c A Z ls F hK hA hP hD hS hl RET
  unfold call_X4_find at h
  obtain ⟨X32, hX32⟩ : ∃ X : Int32 → Int32 → Int32 → (Nat → Bool) → (Nat → Int64) → Prop, ∀ (x4 : Int32) (n0_thrown : Int32) (n0_sets : Int32) (f0_in : Nat → Bool) (f0_scores : Nat → Int64), (X x4 n0_thrown n0_sets f0_in f0_scores ↔ ∀ (H : Heap) (locs : List Loc) (ls : Array Slot), va_P D vwCl (pc_X4_find cs h0 h0_level h0_value h0_tags h0_link h0_key h0_lives h0_open h0_in h0_scores h0_was h0_had n0_thrown n0_objects n0_opened n0_sets b0_hasFamily f0_level f0_value f0_tags f0_link f0_key f0_lives f0_in f0_scores) H → va_D A (pc_X4_find cs h0 h0_level h0_value h0_tags h0_link h0_key h0_lives h0_open h0_in h0_scores h0_was h0_had n0_thrown n0_objects n0_opened n0_sets b0_hasFamily f0_level f0_value f0_tags f0_link f0_key f0_lives f0_in f0_scores) → va_S A s.heap H locs → lv_has ls 5 [(0, .ref h0), (1, .int p1), (2, .int p2), (3, .int p3), (4, .int x4)] → W p l e rm_X4_find s m args below meth c H locs 0 0 Z (F0 m 32 ls [])) := ⟨_, fun _ _ _ _ _ => Iff.rfl⟩
  obtain ⟨X82, hX82⟩ : ∃ X : Int32 → Int32 → Int32 → Int32 → (Nat → Bool) → (Nat → Int64) → Prop, ∀ (x4 : Int32) (s0 : Int32) (n0_thrown : Int32) (n0_sets : Int32) (f0_in : Nat → Bool) (f0_scores : Nat → Int64), (X x4 s0 n0_thrown n0_sets f0_in f0_scores ↔ ∀ (H : Heap) (locs : List Loc) (ls : Array Slot), va_P D vwCl (pc_X4_find cs h0 h0_level h0_value h0_tags h0_link h0_key h0_lives h0_open h0_in h0_scores h0_was h0_had n0_thrown n0_objects n0_opened n0_sets b0_hasFamily f0_level f0_value f0_tags f0_link f0_key f0_lives f0_in f0_scores) H → va_D A (pc_X4_find cs h0 h0_level h0_value h0_tags h0_link h0_key h0_lives h0_open h0_in h0_scores h0_was h0_had n0_thrown n0_objects n0_opened n0_sets b0_hasFamily f0_level f0_value f0_tags f0_link f0_key f0_lives f0_in f0_scores) → va_S A s.heap H locs → lv_has ls 5 [(0, .ref h0), (1, .int p1), (2, .int p2), (3, .int p3), (4, .int x4)] → W p l e rm_X4_find s m args below meth c H locs 0 0 Z (F0 m 82 ls [.int s0, .ref h0_in])) := ⟨_, fun _ _ _ _ _ _ => Iff.rfl⟩
  obtain ⟨X83, hX83⟩ : ∃ X : Int32 → Bool → Int32 → Int32 → Int32 → (Nat → Bool) → (Nat → Int64) → Prop, ∀ (x4 : Int32) (s0 : Bool) (s1 : Int32) (n0_thrown : Int32) (n0_sets : Int32) (f0_in : Nat → Bool) (f0_scores : Nat → Int64), (X x4 s0 s1 n0_thrown n0_sets f0_in f0_scores ↔ ∀ (H : Heap) (locs : List Loc) (ls : Array Slot), va_P D vwCl (pc_X4_find cs h0 h0_level h0_value h0_tags h0_link h0_key h0_lives h0_open h0_in h0_scores h0_was h0_had n0_thrown n0_objects n0_opened n0_sets b0_hasFamily f0_level f0_value f0_tags f0_link f0_key f0_lives f0_in f0_scores) H → va_D A (pc_X4_find cs h0 h0_level h0_value h0_tags h0_link h0_key h0_lives h0_open h0_in h0_scores h0_was h0_had n0_thrown n0_objects n0_opened n0_sets b0_hasFamily f0_level f0_value f0_tags f0_link f0_key f0_lives f0_in f0_scores) → va_S A s.heap H locs → lv_has ls 5 [(0, .ref h0), (1, .int p1), (2, .int p2), (3, .int p3), (4, .int x4)] → W p l e rm_X4_find s m args below meth c H locs 0 0 Z (F0 m 83 ls [.int (b2i s0), .int s1, .ref h0_in])) := ⟨_, fun _ _ _ _ _ _ _ => Iff.rfl⟩
  obtain ⟨X138, hX138⟩ : ∃ X : Int32 → Int64 → Int32 → Int32 → Int32 → (Nat → Bool) → (Nat → Int64) → Prop, ∀ (x4 : Int32) (s0 : Int64) (s1 : Int32) (n0_thrown : Int32) (n0_sets : Int32) (f0_in : Nat → Bool) (f0_scores : Nat → Int64), (X x4 s0 s1 n0_thrown n0_sets f0_in f0_scores ↔ ∀ (H : Heap) (locs : List Loc) (ls : Array Slot), va_P D vwCl (pc_X4_find cs h0 h0_level h0_value h0_tags h0_link h0_key h0_lives h0_open h0_in h0_scores h0_was h0_had n0_thrown n0_objects n0_opened n0_sets b0_hasFamily f0_level f0_value f0_tags f0_link f0_key f0_lives f0_in f0_scores) H → va_D A (pc_X4_find cs h0 h0_level h0_value h0_tags h0_link h0_key h0_lives h0_open h0_in h0_scores h0_was h0_had n0_thrown n0_objects n0_opened n0_sets b0_hasFamily f0_level f0_value f0_tags f0_link f0_key f0_lives f0_in f0_scores) → va_S A s.heap H locs → lv_has ls 5 [(0, .ref h0), (1, .int p1), (2, .int p2), (3, .int p3), (4, .int x4)] → W p l e rm_X4_find s m args below meth c H locs 0 0 Z (F0 m 138 ls [.long s0, .int s1, .ref h0_scores])) := ⟨_, fun _ _ _ _ _ _ _ => Iff.rfl⟩
  refine xt_cut (h X32 X82 X83 X138 ?_ ?_ ?_ ?_) (fun hw => ?_)
  · intro x4 n0_thrown n0_sets f0_in f0_scores hw
    refine (hX32 _ _ _ _ _).mpr ?_
    intro H locs ls hP hD hS hl
    refine lv_iload F.1 F.2.1 dX4_find_32 (lv_at hl 4 rfl) ?_
    refine lv_aload_n F.1 F.2.1 dX4_find_34 rfl (lv_at hl 0 rfl) ?_
    refine xi_get (C := RX4) (T := TX4) (N := 16) (v := .int n0_objects) F in_X4_find_X4 hK hP 0 rfl rfl 1 (by decide) fl_X4_find_49 rfl dX4_find_35 ?_
    refine lv_icmp_ge (tgt := 145) F.1 F.2.1 dX4_find_38 (by decide) (fun hc => ?_) (fun hc => ?_)
    · have hw := hw.1 hc
      refine lv_aload_n F.1 F.2.1 dX4_find_145 rfl (lv_at hl 0 rfl) ?_
      refine lv_dup F.1 F.2.1 dX4_find_146 rfl ?_
      refine xi_get (C := RX4) (T := TX4) (N := 16) (v := .int n0_sets) F in_X4_find_X4 hK hP 0 rfl rfl 10 (by decide) fl_X4_find_59 rfl dX4_find_147 ?_
      refine lv_iconst (v := 1) F.1 F.2.1 dX4_find_150 (by decide) ?_
      refine lv_iadd F.1 F.2.1 dX4_find_151 ?_
      refine xi_put (C := RX4) (T := TX4) (N := 16) (v := .int (n0_sets + 1)) (ty := .int) F in_X4_find_X4 tyX4 tyX4_ok nmX4 hK hP hD hS 0 rfl rfl 10 (by decide) fl_X4_find_59 rfl (tyX4_ok 10 (by decide)) rfl rfl (Nat.le_of_ble_eq_true rfl) dX4_find_152 (fun H locs hP hD hS => ?_)
      have hP : va_P D vwCl (pc_X4_find cs h0 h0_level h0_value h0_tags h0_link h0_key h0_lives h0_open h0_in h0_scores h0_was h0_had n0_thrown n0_objects n0_opened (n0_sets + 1) b0_hasFamily f0_level f0_value f0_tags f0_link f0_key f0_lives f0_in f0_scores) H := hP
      have hD : va_D A (pc_X4_find cs h0 h0_level h0_value h0_tags h0_link h0_key h0_lives h0_open h0_in h0_scores h0_was h0_had n0_thrown n0_objects n0_opened (n0_sets + 1) b0_hasFamily f0_level f0_value f0_tags f0_link f0_key f0_lives f0_in f0_scores) := hD
      refine lv_aload_n F.1 F.2.1 dX4_find_155 rfl (lv_at hl 0 rfl) ?_
      refine lv_aload_n F.1 F.2.1 dX4_find_156 rfl (lv_at hl 0 rfl) ?_
      refine xi_get (C := RX4) (T := TX4) (N := 16) (v := .int (n0_sets + 1)) F in_X4_find_X4 hK hP 0 rfl rfl 10 (by decide) fl_X4_find_59 rfl dX4_find_157 ?_
      refine lv_iconst (v := 1) F.1 F.2.1 dX4_find_160 (by decide) ?_
      refine lv_isub F.1 F.2.1 dX4_find_161 ?_
      refine xc_Vi (As := [.int ((n0_sets + 1) - 1)]) (rest := []) (m_X4_sizeOf l D cs h0 h0_level h0_value h0_tags h0_link h0_key h0_lives h0_open h0_in h0_scores h0_was h0_had ((n0_sets + 1) - 1) n0_thrown n0_objects n0_opened (n0_sets + 1) b0_hasFamily f0_in _ hw) F (cwV 1 F.2.2.2.2 gX4_find_X4_sizeOf rfl rfl rfl (by decide +kernel) ⟨Nat.le_of_ble_eq_true rfl, Nat.le_of_ble_eq_true rfl⟩) hK hP hD hS hA [0, 7] [1, 2, 3, 4, 5, 6, 8] rfl rfl 0 rfl rfl rfl hl.1 rfl (Nat.le_of_ble_eq_true rfl) dX4_find_162 ⟨Nat.zero_le _, Nat.zero_le _⟩ (fun r162 u H locs hw hP hD hS => ?_)
      have hP : va_P D vwCl (pc_X4_find cs h0 h0_level h0_value h0_tags h0_link h0_key h0_lives h0_open h0_in h0_scores h0_was h0_had n0_thrown n0_objects n0_opened (n0_sets + 1) b0_hasFamily f0_level f0_value f0_tags f0_link f0_key f0_lives f0_in f0_scores) H := hP.sub [7, 0, 1, 2, 3, 4, 5, 8, 6] rfl
      have hD : va_D A (pc_X4_find cs h0 h0_level h0_value h0_tags h0_link h0_key h0_lives h0_open h0_in h0_scores h0_was h0_had n0_thrown n0_objects n0_opened (n0_sets + 1) b0_hasFamily f0_level f0_value f0_tags f0_link f0_key f0_lives f0_in f0_scores) := hD.sub [7, 0, 1, 2, 3, 4, 5, 8, 6] (by decide) rfl
      try dsimp only at hw
      exact RET r162 (n0_thrown, (n0_sets + 1), f0_in, f0_scores) H locs 165 ls hw hP hD hS dX4_find_165
    · have hw := hw.2 hc
      refine lv_aload_n F.1 F.2.1 dX4_find_41 rfl (lv_at hl 0 rfl) ?_
      refine xi_get (C := RX4) (T := TX4) (N := 16) (v := .ref h0_in) F in_X4_find_X4 hK hP 0 rfl rfl 11 (by decide) fl_X4_find_32 rfl dX4_find_42 ?_
      refine lv_sipush (v := 200) F.1 F.2.1 dX4_find_45 (by decide) ?_
      refine lv_aload_n F.1 F.2.1 dX4_find_48 rfl (lv_at hl 0 rfl) ?_
      refine xi_get (C := RX4) (T := TX4) (N := 16) (v := .int n0_sets) F in_X4_find_X4 hK hP 0 rfl rfl 10 (by decide) fl_X4_find_59 rfl dX4_find_49 ?_
      refine lv_imul F.1 F.2.1 dX4_find_52 ?_
      refine lv_iload F.1 F.2.1 dX4_find_53 (lv_at hl 4 rfl) ?_
      refine lv_iadd F.1 F.2.1 dX4_find_55 ?_
      refine lv_aload_n F.1 F.2.1 dX4_find_56 rfl (lv_at hl 0 rfl) ?_
      refine xi_get (C := RX4) (T := TX4) (N := 16) (v := .ref h0_lives) F in_X4_find_X4 hK hP 0 rfl rfl 7 (by decide) fl_X4_find_25 rfl dX4_find_57 ?_
      refine lv_iload F.1 F.2.1 dX4_find_60 (lv_at hl 4 rfl) ?_
      obtain ⟨j62, hj, he, hw⟩ := hw
      refine xi_zald (j := j62) F hK hP 6 rfl (by decide) hj he dX4_find_62 ?_
      refine xi_ifeqz (tgt := 82) F dX4_find_63 (by decide) (fun hc => ?_) (fun hc => ?_)
      · have hw := hw.1 hc
        exact (hX82 _ _ _ _ _ _).mp hw H locs ls hP hD hS (lv_sub hl [0, 1, 2, 3, 4] rfl)
      · have hw := hw.2 hc
        refine lv_aload_n F.1 F.2.1 dX4_find_66 rfl (lv_at hl 0 rfl) ?_
        refine lv_iload F.1 F.2.1 dX4_find_67 (lv_at hl 4 rfl) ?_
        refine lv_iload_n F.1 F.2.1 dX4_find_69 rfl (lv_at hl 1 rfl) ?_
        refine lv_iload_n F.1 F.2.1 dX4_find_70 rfl (lv_at hl 2 rfl) ?_
        refine lv_iload_n F.1 F.2.1 dX4_find_71 rfl (lv_at hl 3 rfl) ?_
        refine xc_Vz (As := [.int x4, .int p1, .int p2, .int p3]) (rest := [.int ((200 * n0_sets) + x4), .ref h0_in]) (m_X4_isFound l D cs h0 h0_level h0_value h0_tags h0_link h0_key h0_lives h0_open h0_in h0_scores h0_was h0_had x4 p1 p2 p3 n0_thrown n0_objects n0_opened n0_sets b0_hasFamily f0_level f0_value f0_tags f0_link f0_key _ hw) F (cwV 4 F.2.2.2.2 gX4_find_X4_isFound rfl rfl rfl (by decide +kernel) ⟨Nat.le_of_ble_eq_true rfl, Nat.le_of_ble_eq_true rfl⟩) hK hP hD hS hA [0, 1, 2, 3, 4, 5] [6, 7, 8] rfl rfl 0 rfl rfl rfl hl.1 rfl (Nat.le_of_ble_eq_true rfl) dX4_find_72 ⟨Nat.zero_le _, Nat.zero_le _⟩ (fun r72 u H locs hw hP hD hS => ?_)
        have hP : va_P D vwCl (pc_X4_find cs h0 h0_level h0_value h0_tags h0_link h0_key h0_lives h0_open h0_in h0_scores h0_was h0_had n0_thrown n0_objects n0_opened n0_sets b0_hasFamily f0_level f0_value f0_tags f0_link f0_key f0_lives f0_in f0_scores) H := hP.sub [3, 4, 5, 6, 7, 8, 0, 1, 2] rfl
        have hD : va_D A (pc_X4_find cs h0 h0_level h0_value h0_tags h0_link h0_key h0_lives h0_open h0_in h0_scores h0_was h0_had n0_thrown n0_objects n0_opened n0_sets b0_hasFamily f0_level f0_value f0_tags f0_link f0_key f0_lives f0_in f0_scores) := hD.sub [3, 4, 5, 6, 7, 8, 0, 1, 2] (by decide) rfl
        try dsimp only at hw
        refine xi_ifeqz (tgt := 82) F dX4_find_75 (by decide) (fun hc => ?_) (fun hc => ?_)
        · have hw := hw.1 hc
          exact (hX82 _ _ _ _ _ _).mp hw H locs ls hP hD hS (lv_sub hl [0, 1, 2, 3, 4] rfl)
        · have hw := hw.2 hc
          refine lv_iconst (v := 1) F.1 F.2.1 dX4_find_78 (by decide) ?_
          refine lv_goto (tgt := 83) F.1 F.2.1 dX4_find_79 (by decide) ?_
          exact (hX83 _ _ _ _ _ _ _).mp hw H locs ls hP hD hS (lv_sub hl [0, 1, 2, 3, 4] rfl)
  · intro x4 s0 n0_thrown n0_sets f0_in f0_scores hw
    refine (hX82 _ _ _ _ _ _).mpr ?_
    intro H locs ls hP hD hS hl
    refine lv_iconst (v := 0) F.1 F.2.1 dX4_find_82 (by decide) ?_
    exact (hX83 _ _ _ _ _ _ _).mp hw H locs ls hP hD hS (lv_sub hl [0, 1, 2, 3, 4] rfl)
  · intro x4 s0 s1 n0_thrown n0_sets f0_in f0_scores hw
    refine (hX83 _ _ _ _ _ _ _).mpr ?_
    intro H locs ls hP hD hS hl
    obtain ⟨j83, hj, he, hw⟩ := hw
    refine xi_zast (v := s0) (j := j83) F hK hP hD hS 7 rfl (by decide) hj he rfl dX4_find_83 (fun H locs hP hD hS => ?_)
    have hP : va_P D vwCl (pc_X4_find cs h0 h0_level h0_value h0_tags h0_link h0_key h0_lives h0_open h0_in h0_scores h0_was h0_had n0_thrown n0_objects n0_opened n0_sets b0_hasFamily f0_level f0_value f0_tags f0_link f0_key f0_lives (va_up f0_in j83 s0) f0_scores) H := hP
    have hD : va_D A (pc_X4_find cs h0 h0_level h0_value h0_tags h0_link h0_key h0_lives h0_open h0_in h0_scores h0_was h0_had n0_thrown n0_objects n0_opened n0_sets b0_hasFamily f0_level f0_value f0_tags f0_link f0_key f0_lives (va_up f0_in j83 s0) f0_scores) := hD
    refine lv_aload_n F.1 F.2.1 dX4_find_84 rfl (lv_at hl 0 rfl) ?_
    refine xi_get (C := RX4) (T := TX4) (N := 16) (v := .ref h0_scores) F in_X4_find_X4 hK hP 0 rfl rfl 12 (by decide) fl_X4_find_35 rfl dX4_find_85 ?_
    refine lv_sipush (v := 200) F.1 F.2.1 dX4_find_88 (by decide) ?_
    refine lv_aload_n F.1 F.2.1 dX4_find_91 rfl (lv_at hl 0 rfl) ?_
    refine xi_get (C := RX4) (T := TX4) (N := 16) (v := .int n0_sets) F in_X4_find_X4 hK hP 0 rfl rfl 10 (by decide) fl_X4_find_59 rfl dX4_find_92 ?_
    refine lv_imul F.1 F.2.1 dX4_find_95 ?_
    refine lv_iload F.1 F.2.1 dX4_find_96 (lv_at hl 4 rfl) ?_
    refine lv_iadd F.1 F.2.1 dX4_find_98 ?_
    refine lv_iload_n F.1 F.2.1 dX4_find_99 rfl (lv_at hl 1 rfl) ?_
    refine lv_iconst (v := 1) F.1 F.2.1 dX4_find_100 (by decide) ?_
    refine lv_icmp_ne (tgt := 112) F.1 F.2.1 dX4_find_101 (by decide) (fun hc => ?_) (fun hc => ?_)
    · have hw := hw.1 hc
      refine lv_iload_n F.1 F.2.1 dX4_find_112 rfl (lv_at hl 1 rfl) ?_
      refine lv_iconst (v := 2) F.1 F.2.1 dX4_find_113 (by decide) ?_
      refine lv_icmp_ne (tgt := 128) F.1 F.2.1 dX4_find_114 (by decide) (fun hc => ?_) (fun hc => ?_)
      · have hw := hw.1 hc
        refine lv_iload_n F.1 F.2.1 dX4_find_128 rfl (lv_at hl 1 rfl) ?_
        refine lv_iconst (v := 4) F.1 F.2.1 dX4_find_129 (by decide) ?_
        refine lv_icmp_lt (tgt := 137) F.1 F.2.1 dX4_find_130 (by decide) (fun hc => ?_) (fun hc => ?_)
        · have hw := hw.1 hc
          refine lv_lconst (v := 0) F.1 F.2.1 dX4_find_137 (by decide) ?_
          exact (hX138 _ _ _ _ _ _ _).mp hw H locs ls hP hD hS (lv_sub hl [0, 1, 2, 3, 4] rfl)
        · have hw := hw.2 hc
          refine lv_lconst (v := 1) F.1 F.2.1 dX4_find_133 (by decide) ?_
          refine lv_goto (tgt := 138) F.1 F.2.1 dX4_find_134 (by decide) ?_
          exact (hX138 _ _ _ _ _ _ _).mp hw H locs ls hP hD hS (lv_sub hl [0, 1, 2, 3, 4] rfl)
      · have hw := hw.2 hc
        refine lv_aload_n F.1 F.2.1 dX4_find_117 rfl (lv_at hl 0 rfl) ?_
        refine xi_get (C := RX4) (T := TX4) (N := 16) (v := .ref h0_value) F in_X4_find_X4 hK hP 0 rfl rfl 3 (by decide) fl_X4_find_13 rfl dX4_find_118 ?_
        refine lv_iload F.1 F.2.1 dX4_find_121 (lv_at hl 4 rfl) ?_
        obtain ⟨j123, hj, he, hw⟩ := hw
        refine xi_iald (j := j123) F hK hP 2 rfl (by decide) hj he dX4_find_123 ?_
        refine lv_i2l (v := ((f0_value j123)).toInt64) F.1 F.2.1 dX4_find_124 rfl ?_
        refine lv_goto (tgt := 138) F.1 F.2.1 dX4_find_125 (by decide) ?_
        exact (hX138 _ _ _ _ _ _ _).mp hw H locs ls hP hD hS (lv_sub hl [0, 1, 2, 3, 4] rfl)
    · have hw := hw.2 hc
      refine lv_iload_n F.1 F.2.1 dX4_find_104 rfl (lv_at hl 2 rfl) ?_
      refine xc_Si (As := [.int p2]) (rest := [.int ((200 * n0_sets) + x4), .ref h0_scores]) (m_X4_bits l D cs p2 _ hw) F (va_cwS 1 F.2.2.2.2 gX4_find_X4_bits rfl rfl rfl (by decide +kernel) ⟨Nat.le_of_ble_eq_true rfl, Nat.le_of_ble_eq_true rfl⟩) hK hP hD hS hA [] [0, 1, 2, 3, 4, 5, 6, 7, 8] rfl rfl rfl hl.1 rfl (Nat.le_of_ble_eq_true rfl) dX4_find_105 ⟨Nat.zero_le _, Nat.zero_le _⟩ (fun r105 u H locs hw hP hD hS => ?_)
      have hP : va_P D vwCl (pc_X4_find cs h0 h0_level h0_value h0_tags h0_link h0_key h0_lives h0_open h0_in h0_scores h0_was h0_had n0_thrown n0_objects n0_opened n0_sets b0_hasFamily f0_level f0_value f0_tags f0_link f0_key f0_lives (va_up f0_in j83 s0) f0_scores) H := hP.sub [0, 1, 2, 3, 4, 5, 6, 7, 8] rfl
      have hD : va_D A (pc_X4_find cs h0 h0_level h0_value h0_tags h0_link h0_key h0_lives h0_open h0_in h0_scores h0_was h0_had n0_thrown n0_objects n0_opened n0_sets b0_hasFamily f0_level f0_value f0_tags f0_link f0_key f0_lives (va_up f0_in j83 s0) f0_scores) := hD.sub [0, 1, 2, 3, 4, 5, 6, 7, 8] (by decide) rfl
      try dsimp only at hw
      refine lv_i2l (v := (r105).toInt64) F.1 F.2.1 dX4_find_108 rfl ?_
      refine lv_goto (tgt := 138) F.1 F.2.1 dX4_find_109 (by decide) ?_
      exact (hX138 _ _ _ _ _ _ _).mp hw H locs ls hP hD hS (lv_sub hl [0, 1, 2, 3, 4] rfl)
  · intro x4 s0 s1 n0_thrown n0_sets f0_in f0_scores hw
    refine (hX138 _ _ _ _ _ _ _).mpr ?_
    intro H locs ls hP hD hS hl
    obtain ⟨j138, hj, he, hw⟩ := hw
    refine xi_last (j := j138) F hK hP hD hS 8 rfl (by decide) hj he dX4_find_138 (fun H locs hP hD hS => ?_)
    have hP : va_P D vwCl (pc_X4_find cs h0 h0_level h0_value h0_tags h0_link h0_key h0_lives h0_open h0_in h0_scores h0_was h0_had n0_thrown n0_objects n0_opened n0_sets b0_hasFamily f0_level f0_value f0_tags f0_link f0_key f0_lives f0_in (va_up f0_scores j138 s0)) H := hP
    have hD : va_D A (pc_X4_find cs h0 h0_level h0_value h0_tags h0_link h0_key h0_lives h0_open h0_in h0_scores h0_was h0_had n0_thrown n0_objects n0_opened n0_sets b0_hasFamily f0_level f0_value f0_tags f0_link f0_key f0_lives f0_in (va_up f0_scores j138 s0)) := hD
    refine lv_iinc (v := (x4 + 1)) (lv' := [(4, .int (x4 + 1)), (0, .ref h0), (1, .int p1), (2, .int p2), (3, .int p3)]) F.1 F.2.1 dX4_find_139 hl (k := 4) rfl rfl (by decide) rfl (fun ls hl => ?_)
    refine lv_goto (tgt := 32) F.1 F.2.1 dX4_find_142 (by decide) ?_
    exact (hX32 _ _ _ _ _).mp hw H locs ls hP hD hS (lv_sub hl [1, 2, 3, 4, 0] rfl)
  generalize ([] : List Loc) = locs at hS ⊢
  obtain ⟨H, hHe⟩ : ∃ H, H = s.heap := ⟨_, rfl⟩
  have hP : va_P D vwCl (pc_X4_find cs h0 h0_level h0_value h0_tags h0_link h0_key h0_lives h0_open h0_in h0_scores h0_was h0_had n0_thrown n0_objects n0_opened n0_sets b0_hasFamily f0_level f0_value f0_tags f0_link f0_key f0_lives f0_in f0_scores) H := by rw [hHe]; exact hP
  have hS : va_S A s.heap H locs := by rw [hHe]; exact hS
  suffices W p l e rm_X4_find s m args below meth c H locs 0 0 Z (F0 m 0 ls []) by rw [hHe] at this; exact this
  refine lv_aload_n F.1 F.2.1 dX4_find_0 rfl (lv_at hl 0 rfl) ?_
  refine lv_iconst (v := 0) F.1 F.2.1 dX4_find_1 (by decide) ?_
  refine xi_put (C := RX4) (T := TX4) (N := 16) (v := .int 0) (ty := .int) F in_X4_find_X4 tyX4 tyX4_ok nmX4 hK hP hD hS 0 rfl rfl 0 (by decide) fl_X4_find_45 rfl (tyX4_ok 0 (by decide)) rfl rfl (Nat.le_of_ble_eq_true rfl) dX4_find_2 (fun H locs hP hD hS => ?_)
  have hP : va_P D vwCl (pc_X4_find cs h0 h0_level h0_value h0_tags h0_link h0_key h0_lives h0_open h0_in h0_scores h0_was h0_had 0 n0_objects n0_opened n0_sets b0_hasFamily f0_level f0_value f0_tags f0_link f0_key f0_lives f0_in f0_scores) H := hP
  have hD : va_D A (pc_X4_find cs h0 h0_level h0_value h0_tags h0_link h0_key h0_lives h0_open h0_in h0_scores h0_was h0_had 0 n0_objects n0_opened n0_sets b0_hasFamily f0_level f0_value f0_tags f0_link f0_key f0_lives f0_in f0_scores) := hD
  refine lv_iload_n F.1 F.2.1 dX4_find_5 rfl (lv_at hl 1 rfl) ?_
  refine lv_iload_n F.1 F.2.1 dX4_find_6 rfl (lv_at hl 2 rfl) ?_
  refine lv_iload_n F.1 F.2.1 dX4_find_7 rfl (lv_at hl 3 rfl) ?_
  refine xc_Sz (As := [.int p1, .int p2, .int p3]) (rest := []) (m_X4_mayBeFound l D cs p1 p2 p3 _ hw) F (va_cwS 3 F.2.2.2.2 gX4_find_X4_mayBeFound rfl rfl rfl (by decide +kernel) ⟨Nat.le_of_ble_eq_true rfl, Nat.le_of_ble_eq_true rfl⟩) hK hP hD hS hA [] [0, 1, 2, 3, 4, 5, 6, 7, 8] rfl rfl rfl hl.1 rfl (Nat.le_of_ble_eq_true rfl) dX4_find_8 ⟨Nat.zero_le _, Nat.zero_le _⟩ (fun r8 u H locs hw hP hD hS => ?_)
  have hP : va_P D vwCl (pc_X4_find cs h0 h0_level h0_value h0_tags h0_link h0_key h0_lives h0_open h0_in h0_scores h0_was h0_had 0 n0_objects n0_opened n0_sets b0_hasFamily f0_level f0_value f0_tags f0_link f0_key f0_lives f0_in f0_scores) H := hP.sub [0, 1, 2, 3, 4, 5, 6, 7, 8] rfl
  have hD : va_D A (pc_X4_find cs h0 h0_level h0_value h0_tags h0_link h0_key h0_lives h0_open h0_in h0_scores h0_was h0_had 0 n0_objects n0_opened n0_sets b0_hasFamily f0_level f0_value f0_tags f0_link f0_key f0_lives f0_in f0_scores) := hD.sub [0, 1, 2, 3, 4, 5, 6, 7, 8] (by decide) rfl
  try dsimp only at hw
  refine xi_ifnez (tgt := 17) F dX4_find_11 (by decide) (fun hc => ?_) (fun hc => ?_)
  · have hw := hw.1 hc
    refine lv_aload_n F.1 F.2.1 dX4_find_17 rfl (lv_at hl 0 rfl) ?_
    refine xi_get (C := RX4) (T := TX4) (N := 16) (v := .int n0_sets) F in_X4_find_X4 hK hP 0 rfl rfl 10 (by decide) fl_X4_find_59 rfl dX4_find_18 ?_
    refine lv_bipush (v := 8) F.1 F.2.1 dX4_find_21 (by decide) ?_
    refine lv_icmp_ne (tgt := 29) F.1 F.2.1 dX4_find_23 (by decide) (fun hc => ?_) (fun hc => ?_)
    · have hw := hw.1 hc
      refine lv_iconst (v := 0) F.1 F.2.1 dX4_find_29 (by decide) ?_
      refine lv_istore (lv' := [(4, .int 0), (0, .ref h0), (1, .int p1), (2, .int p2), (3, .int p3)]) F.1 F.2.1 dX4_find_30 hl (by decide) rfl (fun ls hl => ?_)
      exact (hX32 _ _ _ _ _).mp hw H locs ls hP hD hS (lv_sub hl [1, 2, 3, 4, 0] rfl)
    · have hw := hw.2 hc
      refine lv_bipush (v := (-4)) F.1 F.2.1 dX4_find_26 (by decide) ?_
      exact RET (-4) (0, n0_sets, f0_in, f0_scores) H locs 28 ls hw hP hD hS dX4_find_28
  · have hw := hw.2 hc
    refine lv_bipush (v := (-2)) F.1 F.2.1 dX4_find_14 (by decide) ?_
    exact RET (-2) (0, n0_sets, f0_in, f0_scores) H locs 16 ls hw hP hD hS dX4_find_16

theorem in_X4_join_X4 : ∀ w ∈ wsX40, w ∈ wsX4_join := by decide +kernel
theorem fl_X4_join_49 : Cond.fieldLink RX4 49 "JoinBlocksModel" "objects" "I" ∈ wsX4_join := by decide +kernel
theorem fl_X4_join_59 : Cond.fieldLink RX4 59 "JoinBlocksModel" "sets" "I" ∈ wsX4_join := by decide +kernel
theorem fl_X4_join_32 : Cond.fieldLink RX4 32 "JoinBlocksModel" "in" "[Z" ∈ wsX4_join := by decide +kernel
theorem fl_X4_join_35 : Cond.fieldLink RX4 35 "JoinBlocksModel" "scores" "[J" ∈ wsX4_join := by decide +kernel
theorem fl_X4_join_45 : Cond.fieldLink RX4 45 "JoinBlocksModel" "thrown" "I" ∈ wsX4_join := by decide +kernel
abbrev pc_X4_join (cs : Nat → ClassId) (h0 : Nat) (h0_level : Nat) (h0_value : Nat) (h0_tags : Nat) (h0_link : Nat) (h0_key : Nat) (h0_lives : Nat) (h0_open : Nat) (h0_in : Nat) (h0_scores : Nat) (h0_was : Nat) (h0_had : Nat) (n0_thrown : Int32) (n0_objects : Int32) (n0_opened : Int32) (n0_sets : Int32) (b0_hasFamily : Bool) (f0_in : Nat → Bool) (f0_scores : Nat → Int64) : va_W := [(h0, .inr (4, [.int n0_thrown, .int n0_objects, .ref h0_level, .ref h0_value, .ref h0_tags, .ref h0_link, .ref h0_key, .ref h0_lives, .int n0_opened, .ref h0_open, .int n0_sets, .ref h0_in, .ref h0_scores, .int (b2i b0_hasFamily), .ref h0_was, .ref h0_had])), (h0_in, .inl (cs 1, 1800, .inl (bF f0_in))), (h0_scores, .inl (cs 2, 1800, .inr (.inl f0_scores)))]
abbrev rm_X4_join : Room := { frames := 1, cells := 0, slots := 0, locals := 23 }
def call_X4_join (p1 : Int32) (n0_thrown : Int32) (n0_objects : Int32) (n0_sets : Int32) (f0_in : Nat → Bool) (f0_scores : Nat → Int64) (Q : Int32 → Int32 → Int32 → (Nat → Bool) → (Nat → Int64) → Prop) : Prop := ∀ (X53 : Int32 → Int32 → Int32 → Int32 → Int32 → (Nat → Bool) → (Nat → Int64) → Prop) (X115 : Int32 → Int32 → Int32 → Bool → Bool → Int64 → Int32 → Int32 → Int32 → (Nat → Bool) → (Nat → Int64) → Prop) (X133 : Int32 → Int32 → Int32 → Bool → Bool → Int64 → Int64 → Int32 → Int32 → Int32 → (Nat → Bool) → (Nat → Int64) → Prop) (X135 : Int32 → Int32 → Int32 → Bool → Bool → Int32 → Int32 → (Nat → Bool) → (Nat → Int64) → Prop) (X161 : Int32 → Int32 → Int32 → Int32 → Int32 → Int32 → (Nat → Bool) → (Nat → Int64) → Prop) (X180 : Int32 → Int32 → Int32 → Int32 → Int32 → Int32 → (Nat → Bool) → (Nat → Int64) → Prop) (X202 : Int32 → Int32 → Int32 → Int32 → Int32 → Int32 → (Nat → Bool) → (Nat → Int64) → Prop) (X203 : Int32 → Int32 → Int32 → Bool → Int32 → Int32 → Int32 → (Nat → Bool) → (Nat → Int64) → Prop),
    (∀ (x2 : Int32) (x3 : Int32) (x4 : Int32) (n0_thrown : Int32) (n0_sets : Int32) (f0_in : Nat → Bool) (f0_scores : Nat → Int64),
      ((n0_objects ≤ x4 → (call_X4_sizeOf ((n0_sets - 1) - 1) n0_objects f0_in (fun (r227 : Int32) => Q r227 n0_thrown (n0_sets - 1) f0_in f0_scores))) ∧ (¬ n0_objects ≤ x4 → (∃ j70 : Nat, j70 < 1800 ∧ (x2 + x4) = nI j70 ∧ (∃ j81 : Nat, j81 < 1800 ∧ (x3 + x4) = nI j81 ∧ ((2 ≤ p1 → X135 x2 x3 x4 (f0_in j70) (f0_in j81) n0_thrown n0_sets f0_in f0_scores) ∧ (¬ 2 ≤ p1 → (((f0_in j70) = false → X115 x2 x3 x4 (f0_in j70) (f0_in j81) 0 (x2 + x4) n0_thrown n0_sets f0_in f0_scores) ∧ ((f0_in j70) = true → (∃ j110 : Nat, j110 < 1800 ∧ (x2 + x4) = nI j110 ∧ X115 x2 x3 x4 (f0_in j70) (f0_in j81) (f0_scores j110) (x2 + x4) n0_thrown n0_sets f0_in f0_scores))))))))) → X53 x2 x3 x4 n0_thrown n0_sets f0_in f0_scores) →
    (∀ (x2 : Int32) (x3 : Int32) (x4 : Int32) (x5 : Bool) (x6 : Bool) (s0 : Int64) (s1 : Int32) (n0_thrown : Int32) (n0_sets : Int32) (f0_in : Nat → Bool) (f0_scores : Nat → Int64),
      ((x6 = false → X133 x2 x3 x4 x5 x6 0 s0 s1 n0_thrown n0_sets f0_in f0_scores) ∧ (x6 = true → (∃ j128 : Nat, j128 < 1800 ∧ (x3 + x4) = nI j128 ∧ X133 x2 x3 x4 x5 x6 (f0_scores j128) s0 s1 n0_thrown n0_sets f0_in f0_scores))) → X115 x2 x3 x4 x5 x6 s0 s1 n0_thrown n0_sets f0_in f0_scores) →
    (∀ (x2 : Int32) (x3 : Int32) (x4 : Int32) (x5 : Bool) (x6 : Bool) (s0 : Int64) (s1 : Int64) (s2 : Int32) (n0_thrown : Int32) (n0_sets : Int32) (f0_in : Nat → Bool) (f0_scores : Nat → Int64),
      (∃ j134 : Nat, j134 < 1800 ∧ s2 = nI j134 ∧ X135 x2 x3 x4 x5 x6 n0_thrown n0_sets f0_in (va_up f0_scores j134 (s1 + s0))) → X133 x2 x3 x4 x5 x6 s0 s1 s2 n0_thrown n0_sets f0_in f0_scores) →
    (∀ (x2 : Int32) (x3 : Int32) (x4 : Int32) (x5 : Bool) (x6 : Bool) (n0_thrown : Int32) (n0_sets : Int32) (f0_in : Nat → Bool) (f0_scores : Nat → Int64),
      ((¬ p1 = 0 → ((¬ p1 = 1 → ((x5 = false → X202 x2 x3 x4 (x2 + x4) n0_thrown n0_sets f0_in f0_scores) ∧ (x5 = true → ((x6 = true → X202 x2 x3 x4 (x2 + x4) n0_thrown n0_sets f0_in f0_scores) ∧ (x6 = false → X203 x2 x3 x4 true (x2 + x4) n0_thrown n0_sets f0_in f0_scores))))) ∧ (p1 = 1 → ((x5 = true → X180 x2 x3 x4 (x2 + x4) n0_thrown n0_sets f0_in f0_scores) ∧ (x5 = false → ((x6 = false → X203 x2 x3 x4 false (x2 + x4) n0_thrown n0_sets f0_in f0_scores) ∧ (x6 = true → X180 x2 x3 x4 (x2 + x4) n0_thrown n0_sets f0_in f0_scores))))))) ∧ (p1 = 0 → ((x5 = false → X161 x2 x3 x4 (x2 + x4) n0_thrown n0_sets f0_in f0_scores) ∧ (x5 = true → ((x6 = false → X161 x2 x3 x4 (x2 + x4) n0_thrown n0_sets f0_in f0_scores) ∧ (x6 = true → X203 x2 x3 x4 true (x2 + x4) n0_thrown n0_sets f0_in f0_scores)))))) → X135 x2 x3 x4 x5 x6 n0_thrown n0_sets f0_in f0_scores) →
    (∀ (x2 : Int32) (x3 : Int32) (x4 : Int32) (s0 : Int32) (n0_thrown : Int32) (n0_sets : Int32) (f0_in : Nat → Bool) (f0_scores : Nat → Int64),
      X203 x2 x3 x4 false s0 n0_thrown n0_sets f0_in f0_scores → X161 x2 x3 x4 s0 n0_thrown n0_sets f0_in f0_scores) →
    (∀ (x2 : Int32) (x3 : Int32) (x4 : Int32) (s0 : Int32) (n0_thrown : Int32) (n0_sets : Int32) (f0_in : Nat → Bool) (f0_scores : Nat → Int64),
      X203 x2 x3 x4 true s0 n0_thrown n0_sets f0_in f0_scores → X180 x2 x3 x4 s0 n0_thrown n0_sets f0_in f0_scores) →
    (∀ (x2 : Int32) (x3 : Int32) (x4 : Int32) (s0 : Int32) (n0_thrown : Int32) (n0_sets : Int32) (f0_in : Nat → Bool) (f0_scores : Nat → Int64),
      X203 x2 x3 x4 false s0 n0_thrown n0_sets f0_in f0_scores → X202 x2 x3 x4 s0 n0_thrown n0_sets f0_in f0_scores) →
    (∀ (x2 : Int32) (x3 : Int32) (x4 : Int32) (s0 : Bool) (s1 : Int32) (n0_thrown : Int32) (n0_sets : Int32) (f0_in : Nat → Bool) (f0_scores : Nat → Int64),
      (∃ j203 : Nat, j203 < 1800 ∧ s1 = nI j203 ∧ X53 x2 x3 (x4 + 1) n0_thrown n0_sets (va_up f0_in j203 s0) f0_scores) → X203 x2 x3 x4 s0 s1 n0_thrown n0_sets f0_in f0_scores) →
    (call_X4_isIn p1 0 2 (fun (r8 : Bool) => ((r8 = true → ((2 ≤ n0_sets → X53 (200 * (n0_sets - 2)) (200 * (n0_sets - 1)) 0 0 n0_sets f0_in f0_scores) ∧ (¬ 2 ≤ n0_sets → Q (-3) 0 n0_sets f0_in f0_scores))) ∧ (r8 = false → Q (-2) 0 n0_sets f0_in f0_scores))))
set_option maxHeartbeats 4000000 in
set_option maxRecDepth 100000 in
theorem m_X4_join (l : Launch) (D : va_G) (cs : Nat → ClassId) (h0 : Nat) (h0_level : Nat) (h0_value : Nat) (h0_tags : Nat) (h0_link : Nat) (h0_key : Nat) (h0_lives : Nat) (h0_open : Nat) (h0_in : Nat) (h0_scores : Nat) (h0_was : Nat) (h0_had : Nat)  (p1 : Int32) (n0_thrown : Int32) (n0_objects : Int32) (n0_opened : Int32) (n0_sets : Int32) (b0_hasFamily : Bool) (f0_in : Nat → Bool) (f0_scores : Nat → Int64) (Q : Int32 → Int32 → Int32 → (Nat → Bool) → (Nat → Int64) → Prop) (h : call_X4_join p1 n0_thrown n0_objects n0_sets f0_in f0_scores Q) : CtI l yX4_join wsX4_join rm_X4_join D cs [.ref h0, .int p1] (pc_X4_join cs h0 h0_level h0_value h0_tags h0_link h0_key h0_lives h0_open h0_in h0_scores h0_was h0_had n0_thrown n0_objects n0_opened n0_sets b0_hasFamily f0_in f0_scores) (fun u : Int32 × Int32 × (Nat → Bool) × (Nat → Int64) => (pc_X4_join cs h0 h0_level h0_value h0_tags h0_link h0_key h0_lives h0_open h0_in h0_scores h0_was h0_had u.1 n0_objects n0_opened u.2.1 b0_hasFamily u.2.2.1 u.2.2.2)) (fun r u => Q r u.1 u.2.1 u.2.2.1 u.2.2.2) := by
  refine xo_I (S := Int32 × Int32 × (Nat → Bool) × (Nat → Int64)) (cc := cX4_join) (maxL := 7) (own := RX4) (lv0 := [(0, .ref h0), (1, .int p1)]) (by decide) rfl rfl (Nat.le_of_ble_eq_true rfl) rfl ?_
  intro p e s m args below meth c A Z ls F hK hA hP hD hS hl RET
  unfold call_X4_join at h
  obtain ⟨X53, hX53⟩ : ∃ X : Int32 → Int32 → Int32 → Int32 → Int32 → (Nat → Bool) → (Nat → Int64) → Prop, ∀ (x2 : Int32) (x3 : Int32) (x4 : Int32) (n0_thrown : Int32) (n0_sets : Int32) (f0_in : Nat → Bool) (f0_scores : Nat → Int64), (X x2 x3 x4 n0_thrown n0_sets f0_in f0_scores ↔ ∀ (H : Heap) (locs : List Loc) (ls : Array Slot), va_P D vwCl (pc_X4_join cs h0 h0_level h0_value h0_tags h0_link h0_key h0_lives h0_open h0_in h0_scores h0_was h0_had n0_thrown n0_objects n0_opened n0_sets b0_hasFamily f0_in f0_scores) H → va_D A (pc_X4_join cs h0 h0_level h0_value h0_tags h0_link h0_key h0_lives h0_open h0_in h0_scores h0_was h0_had n0_thrown n0_objects n0_opened n0_sets b0_hasFamily f0_in f0_scores) → va_S A s.heap H locs → lv_has ls 7 [(0, .ref h0), (1, .int p1), (2, .int x2), (3, .int x3), (4, .int x4)] → W p l e rm_X4_join s m args below meth c H locs 0 0 Z (F0 m 53 ls [])) := ⟨_, fun _ _ _ _ _ _ _ => Iff.rfl⟩
  obtain ⟨X115, hX115⟩ : ∃ X : Int32 → Int32 → Int32 → Bool → Bool → Int64 → Int32 → Int32 → Int32 → (Nat → Bool) → (Nat → Int64) → Prop, ∀ (x2 : Int32) (x3 : Int32) (x4 : Int32) (x5 : Bool) (x6 : Bool) (s0 : Int64) (s1 : Int32) (n0_thrown : Int32) (n0_sets : Int32) (f0_in : Nat → Bool) (f0_scores : Nat → Int64), (X x2 x3 x4 x5 x6 s0 s1 n0_thrown n0_sets f0_in f0_scores ↔ ∀ (H : Heap) (locs : List Loc) (ls : Array Slot), va_P D vwCl (pc_X4_join cs h0 h0_level h0_value h0_tags h0_link h0_key h0_lives h0_open h0_in h0_scores h0_was h0_had n0_thrown n0_objects n0_opened n0_sets b0_hasFamily f0_in f0_scores) H → va_D A (pc_X4_join cs h0 h0_level h0_value h0_tags h0_link h0_key h0_lives h0_open h0_in h0_scores h0_was h0_had n0_thrown n0_objects n0_opened n0_sets b0_hasFamily f0_in f0_scores) → va_S A s.heap H locs → lv_has ls 7 [(0, .ref h0), (1, .int p1), (2, .int x2), (3, .int x3), (4, .int x4), (5, .int (b2i x5)), (6, .int (b2i x6))] → W p l e rm_X4_join s m args below meth c H locs 0 0 Z (F0 m 115 ls [.long s0, .int s1, .ref h0_scores])) := ⟨_, fun _ _ _ _ _ _ _ _ _ _ _ => Iff.rfl⟩
  obtain ⟨X133, hX133⟩ : ∃ X : Int32 → Int32 → Int32 → Bool → Bool → Int64 → Int64 → Int32 → Int32 → Int32 → (Nat → Bool) → (Nat → Int64) → Prop, ∀ (x2 : Int32) (x3 : Int32) (x4 : Int32) (x5 : Bool) (x6 : Bool) (s0 : Int64) (s1 : Int64) (s2 : Int32) (n0_thrown : Int32) (n0_sets : Int32) (f0_in : Nat → Bool) (f0_scores : Nat → Int64), (X x2 x3 x4 x5 x6 s0 s1 s2 n0_thrown n0_sets f0_in f0_scores ↔ ∀ (H : Heap) (locs : List Loc) (ls : Array Slot), va_P D vwCl (pc_X4_join cs h0 h0_level h0_value h0_tags h0_link h0_key h0_lives h0_open h0_in h0_scores h0_was h0_had n0_thrown n0_objects n0_opened n0_sets b0_hasFamily f0_in f0_scores) H → va_D A (pc_X4_join cs h0 h0_level h0_value h0_tags h0_link h0_key h0_lives h0_open h0_in h0_scores h0_was h0_had n0_thrown n0_objects n0_opened n0_sets b0_hasFamily f0_in f0_scores) → va_S A s.heap H locs → lv_has ls 7 [(0, .ref h0), (1, .int p1), (2, .int x2), (3, .int x3), (4, .int x4), (5, .int (b2i x5)), (6, .int (b2i x6))] → W p l e rm_X4_join s m args below meth c H locs 0 0 Z (F0 m 133 ls [.long s0, .long s1, .int s2, .ref h0_scores])) := ⟨_, fun _ _ _ _ _ _ _ _ _ _ _ _ => Iff.rfl⟩
  obtain ⟨X135, hX135⟩ : ∃ X : Int32 → Int32 → Int32 → Bool → Bool → Int32 → Int32 → (Nat → Bool) → (Nat → Int64) → Prop, ∀ (x2 : Int32) (x3 : Int32) (x4 : Int32) (x5 : Bool) (x6 : Bool) (n0_thrown : Int32) (n0_sets : Int32) (f0_in : Nat → Bool) (f0_scores : Nat → Int64), (X x2 x3 x4 x5 x6 n0_thrown n0_sets f0_in f0_scores ↔ ∀ (H : Heap) (locs : List Loc) (ls : Array Slot), va_P D vwCl (pc_X4_join cs h0 h0_level h0_value h0_tags h0_link h0_key h0_lives h0_open h0_in h0_scores h0_was h0_had n0_thrown n0_objects n0_opened n0_sets b0_hasFamily f0_in f0_scores) H → va_D A (pc_X4_join cs h0 h0_level h0_value h0_tags h0_link h0_key h0_lives h0_open h0_in h0_scores h0_was h0_had n0_thrown n0_objects n0_opened n0_sets b0_hasFamily f0_in f0_scores) → va_S A s.heap H locs → lv_has ls 7 [(0, .ref h0), (1, .int p1), (2, .int x2), (3, .int x3), (4, .int x4), (5, .int (b2i x5)), (6, .int (b2i x6))] → W p l e rm_X4_join s m args below meth c H locs 0 0 Z (F0 m 135 ls [])) := ⟨_, fun _ _ _ _ _ _ _ _ _ => Iff.rfl⟩
  obtain ⟨X161, hX161⟩ : ∃ X : Int32 → Int32 → Int32 → Int32 → Int32 → Int32 → (Nat → Bool) → (Nat → Int64) → Prop, ∀ (x2 : Int32) (x3 : Int32) (x4 : Int32) (s0 : Int32) (n0_thrown : Int32) (n0_sets : Int32) (f0_in : Nat → Bool) (f0_scores : Nat → Int64), (X x2 x3 x4 s0 n0_thrown n0_sets f0_in f0_scores ↔ ∀ (H : Heap) (locs : List Loc) (ls : Array Slot), va_P D vwCl (pc_X4_join cs h0 h0_level h0_value h0_tags h0_link h0_key h0_lives h0_open h0_in h0_scores h0_was h0_had n0_thrown n0_objects n0_opened n0_sets b0_hasFamily f0_in f0_scores) H → va_D A (pc_X4_join cs h0 h0_level h0_value h0_tags h0_link h0_key h0_lives h0_open h0_in h0_scores h0_was h0_had n0_thrown n0_objects n0_opened n0_sets b0_hasFamily f0_in f0_scores) → va_S A s.heap H locs → lv_has ls 7 [(0, .ref h0), (1, .int p1), (2, .int x2), (3, .int x3), (4, .int x4)] → W p l e rm_X4_join s m args below meth c H locs 0 0 Z (F0 m 161 ls [.int s0, .ref h0_in])) := ⟨_, fun _ _ _ _ _ _ _ _ => Iff.rfl⟩
  obtain ⟨X180, hX180⟩ : ∃ X : Int32 → Int32 → Int32 → Int32 → Int32 → Int32 → (Nat → Bool) → (Nat → Int64) → Prop, ∀ (x2 : Int32) (x3 : Int32) (x4 : Int32) (s0 : Int32) (n0_thrown : Int32) (n0_sets : Int32) (f0_in : Nat → Bool) (f0_scores : Nat → Int64), (X x2 x3 x4 s0 n0_thrown n0_sets f0_in f0_scores ↔ ∀ (H : Heap) (locs : List Loc) (ls : Array Slot), va_P D vwCl (pc_X4_join cs h0 h0_level h0_value h0_tags h0_link h0_key h0_lives h0_open h0_in h0_scores h0_was h0_had n0_thrown n0_objects n0_opened n0_sets b0_hasFamily f0_in f0_scores) H → va_D A (pc_X4_join cs h0 h0_level h0_value h0_tags h0_link h0_key h0_lives h0_open h0_in h0_scores h0_was h0_had n0_thrown n0_objects n0_opened n0_sets b0_hasFamily f0_in f0_scores) → va_S A s.heap H locs → lv_has ls 7 [(0, .ref h0), (1, .int p1), (2, .int x2), (3, .int x3), (4, .int x4)] → W p l e rm_X4_join s m args below meth c H locs 0 0 Z (F0 m 180 ls [.int s0, .ref h0_in])) := ⟨_, fun _ _ _ _ _ _ _ _ => Iff.rfl⟩
  obtain ⟨X202, hX202⟩ : ∃ X : Int32 → Int32 → Int32 → Int32 → Int32 → Int32 → (Nat → Bool) → (Nat → Int64) → Prop, ∀ (x2 : Int32) (x3 : Int32) (x4 : Int32) (s0 : Int32) (n0_thrown : Int32) (n0_sets : Int32) (f0_in : Nat → Bool) (f0_scores : Nat → Int64), (X x2 x3 x4 s0 n0_thrown n0_sets f0_in f0_scores ↔ ∀ (H : Heap) (locs : List Loc) (ls : Array Slot), va_P D vwCl (pc_X4_join cs h0 h0_level h0_value h0_tags h0_link h0_key h0_lives h0_open h0_in h0_scores h0_was h0_had n0_thrown n0_objects n0_opened n0_sets b0_hasFamily f0_in f0_scores) H → va_D A (pc_X4_join cs h0 h0_level h0_value h0_tags h0_link h0_key h0_lives h0_open h0_in h0_scores h0_was h0_had n0_thrown n0_objects n0_opened n0_sets b0_hasFamily f0_in f0_scores) → va_S A s.heap H locs → lv_has ls 7 [(0, .ref h0), (1, .int p1), (2, .int x2), (3, .int x3), (4, .int x4)] → W p l e rm_X4_join s m args below meth c H locs 0 0 Z (F0 m 202 ls [.int s0, .ref h0_in])) := ⟨_, fun _ _ _ _ _ _ _ _ => Iff.rfl⟩
  obtain ⟨X203, hX203⟩ : ∃ X : Int32 → Int32 → Int32 → Bool → Int32 → Int32 → Int32 → (Nat → Bool) → (Nat → Int64) → Prop, ∀ (x2 : Int32) (x3 : Int32) (x4 : Int32) (s0 : Bool) (s1 : Int32) (n0_thrown : Int32) (n0_sets : Int32) (f0_in : Nat → Bool) (f0_scores : Nat → Int64), (X x2 x3 x4 s0 s1 n0_thrown n0_sets f0_in f0_scores ↔ ∀ (H : Heap) (locs : List Loc) (ls : Array Slot), va_P D vwCl (pc_X4_join cs h0 h0_level h0_value h0_tags h0_link h0_key h0_lives h0_open h0_in h0_scores h0_was h0_had n0_thrown n0_objects n0_opened n0_sets b0_hasFamily f0_in f0_scores) H → va_D A (pc_X4_join cs h0 h0_level h0_value h0_tags h0_link h0_key h0_lives h0_open h0_in h0_scores h0_was h0_had n0_thrown n0_objects n0_opened n0_sets b0_hasFamily f0_in f0_scores) → va_S A s.heap H locs → lv_has ls 7 [(0, .ref h0), (1, .int p1), (2, .int x2), (3, .int x3), (4, .int x4)] → W p l e rm_X4_join s m args below meth c H locs 0 0 Z (F0 m 203 ls [.int (b2i s0), .int s1, .ref h0_in])) := ⟨_, fun _ _ _ _ _ _ _ _ _ => Iff.rfl⟩
  refine xt_cut (h X53 X115 X133 X135 X161 X180 X202 X203 ?_ ?_ ?_ ?_ ?_ ?_ ?_ ?_) (fun hw => ?_)
  · intro x2 x3 x4 n0_thrown n0_sets f0_in f0_scores hw
    refine (hX53 _ _ _ _ _ _ _).mpr ?_
    intro H locs ls hP hD hS hl
    refine lv_iload F.1 F.2.1 dX4_join_53 (lv_at hl 4 rfl) ?_
    refine lv_aload_n F.1 F.2.1 dX4_join_55 rfl (lv_at hl 0 rfl) ?_
    refine xi_get (C := RX4) (T := TX4) (N := 16) (v := .int n0_objects) F in_X4_join_X4 hK hP 0 rfl rfl 1 (by decide) fl_X4_join_49 rfl dX4_join_56 ?_
    refine lv_icmp_ge (tgt := 210) F.1 F.2.1 dX4_join_59 (by decide) (fun hc => ?_) (fun hc => ?_)
    · have hw := hw.1 hc
      refine lv_aload_n F.1 F.2.1 dX4_join_210 rfl (lv_at hl 0 rfl) ?_
      refine lv_dup F.1 F.2.1 dX4_join_211 rfl ?_
      refine xi_get (C := RX4) (T := TX4) (N := 16) (v := .int n0_sets) F in_X4_join_X4 hK hP 0 rfl rfl 10 (by decide) fl_X4_join_59 rfl dX4_join_212 ?_
      refine lv_iconst (v := 1) F.1 F.2.1 dX4_join_215 (by decide) ?_
      refine lv_isub F.1 F.2.1 dX4_join_216 ?_
      refine xi_put (C := RX4) (T := TX4) (N := 16) (v := .int (n0_sets - 1)) (ty := .int) F in_X4_join_X4 tyX4 tyX4_ok nmX4 hK hP hD hS 0 rfl rfl 10 (by decide) fl_X4_join_59 rfl (tyX4_ok 10 (by decide)) rfl rfl (Nat.le_of_ble_eq_true rfl) dX4_join_217 (fun H locs hP hD hS => ?_)
      have hP : va_P D vwCl (pc_X4_join cs h0 h0_level h0_value h0_tags h0_link h0_key h0_lives h0_open h0_in h0_scores h0_was h0_had n0_thrown n0_objects n0_opened (n0_sets - 1) b0_hasFamily f0_in f0_scores) H := hP
      have hD : va_D A (pc_X4_join cs h0 h0_level h0_value h0_tags h0_link h0_key h0_lives h0_open h0_in h0_scores h0_was h0_had n0_thrown n0_objects n0_opened (n0_sets - 1) b0_hasFamily f0_in f0_scores) := hD
      refine lv_aload_n F.1 F.2.1 dX4_join_220 rfl (lv_at hl 0 rfl) ?_
      refine lv_aload_n F.1 F.2.1 dX4_join_221 rfl (lv_at hl 0 rfl) ?_
      refine xi_get (C := RX4) (T := TX4) (N := 16) (v := .int (n0_sets - 1)) F in_X4_join_X4 hK hP 0 rfl rfl 10 (by decide) fl_X4_join_59 rfl dX4_join_222 ?_
      refine lv_iconst (v := 1) F.1 F.2.1 dX4_join_225 (by decide) ?_
      refine lv_isub F.1 F.2.1 dX4_join_226 ?_
      refine xc_Vi (As := [.int ((n0_sets - 1) - 1)]) (rest := []) (m_X4_sizeOf l D cs h0 h0_level h0_value h0_tags h0_link h0_key h0_lives h0_open h0_in h0_scores h0_was h0_had ((n0_sets - 1) - 1) n0_thrown n0_objects n0_opened (n0_sets - 1) b0_hasFamily f0_in _ hw) F (cwV 1 F.2.2.2.2 gX4_join_X4_sizeOf rfl rfl rfl (by decide +kernel) ⟨Nat.le_of_ble_eq_true rfl, Nat.le_of_ble_eq_true rfl⟩) hK hP hD hS hA [0, 1] [2] rfl rfl 0 rfl rfl rfl hl.1 rfl (Nat.le_of_ble_eq_true rfl) dX4_join_227 ⟨Nat.zero_le _, Nat.zero_le _⟩ (fun r227 u H locs hw hP hD hS => ?_)
      have hP : va_P D vwCl (pc_X4_join cs h0 h0_level h0_value h0_tags h0_link h0_key h0_lives h0_open h0_in h0_scores h0_was h0_had n0_thrown n0_objects n0_opened (n0_sets - 1) b0_hasFamily f0_in f0_scores) H := hP.sub [1, 2, 0] rfl
      have hD : va_D A (pc_X4_join cs h0 h0_level h0_value h0_tags h0_link h0_key h0_lives h0_open h0_in h0_scores h0_was h0_had n0_thrown n0_objects n0_opened (n0_sets - 1) b0_hasFamily f0_in f0_scores) := hD.sub [1, 2, 0] (by decide) rfl
      try dsimp only at hw
      exact RET r227 (n0_thrown, (n0_sets - 1), f0_in, f0_scores) H locs 230 ls hw hP hD hS dX4_join_230
    · have hw := hw.2 hc
      refine lv_aload_n F.1 F.2.1 dX4_join_62 rfl (lv_at hl 0 rfl) ?_
      refine xi_get (C := RX4) (T := TX4) (N := 16) (v := .ref h0_in) F in_X4_join_X4 hK hP 0 rfl rfl 11 (by decide) fl_X4_join_32 rfl dX4_join_63 ?_
      refine lv_iload_n F.1 F.2.1 dX4_join_66 rfl (lv_at hl 2 rfl) ?_
      refine lv_iload F.1 F.2.1 dX4_join_67 (lv_at hl 4 rfl) ?_
      refine lv_iadd F.1 F.2.1 dX4_join_69 ?_
      obtain ⟨j70, hj, he, hw⟩ := hw
      refine xi_zald (j := j70) F hK hP 1 rfl (by decide) hj he dX4_join_70 ?_
      refine lv_istore (lv' := [(5, .int (b2i (f0_in j70))), (0, .ref h0), (1, .int p1), (2, .int x2), (3, .int x3), (4, .int x4)]) F.1 F.2.1 dX4_join_71 hl (by decide) rfl (fun ls hl => ?_)
      refine lv_aload_n F.1 F.2.1 dX4_join_73 rfl (lv_at hl 1 rfl) ?_
      refine xi_get (C := RX4) (T := TX4) (N := 16) (v := .ref h0_in) F in_X4_join_X4 hK hP 0 rfl rfl 11 (by decide) fl_X4_join_32 rfl dX4_join_74 ?_
      refine lv_iload_n F.1 F.2.1 dX4_join_77 rfl (lv_at hl 4 rfl) ?_
      refine lv_iload F.1 F.2.1 dX4_join_78 (lv_at hl 5 rfl) ?_
      refine lv_iadd F.1 F.2.1 dX4_join_80 ?_
      obtain ⟨j81, hj, he, hw⟩ := hw
      refine xi_zald (j := j81) F hK hP 1 rfl (by decide) hj he dX4_join_81 ?_
      refine lv_istore (lv' := [(6, .int (b2i (f0_in j81))), (5, .int (b2i (f0_in j70))), (0, .ref h0), (1, .int p1), (2, .int x2), (3, .int x3), (4, .int x4)]) F.1 F.2.1 dX4_join_82 hl (by decide) rfl (fun ls hl => ?_)
      refine lv_iload_n F.1 F.2.1 dX4_join_84 rfl (lv_at hl 3 rfl) ?_
      refine lv_iconst (v := 2) F.1 F.2.1 dX4_join_85 (by decide) ?_
      refine lv_icmp_ge (tgt := 135) F.1 F.2.1 dX4_join_86 (by decide) (fun hc => ?_) (fun hc => ?_)
      · have hw := hw.1 hc
        exact (hX135 _ _ _ _ _ _ _ _ _).mp hw H locs ls hP hD hS (lv_sub hl [2, 3, 4, 5, 6, 1, 0] rfl)
      · have hw := hw.2 hc
        refine lv_aload_n F.1 F.2.1 dX4_join_89 rfl (lv_at hl 2 rfl) ?_
        refine xi_get (C := RX4) (T := TX4) (N := 16) (v := .ref h0_scores) F in_X4_join_X4 hK hP 0 rfl rfl 12 (by decide) fl_X4_join_35 rfl dX4_join_90 ?_
        refine lv_iload_n F.1 F.2.1 dX4_join_93 rfl (lv_at hl 4 rfl) ?_
        refine lv_iload F.1 F.2.1 dX4_join_94 (lv_at hl 6 rfl) ?_
        refine lv_iadd F.1 F.2.1 dX4_join_96 ?_
        refine lv_iload F.1 F.2.1 dX4_join_97 (lv_at hl 1 rfl) ?_
        refine xi_ifeqz (tgt := 114) F dX4_join_99 (by decide) (fun hc => ?_) (fun hc => ?_)
        · have hw := hw.1 hc
          refine lv_lconst (v := 0) F.1 F.2.1 dX4_join_114 (by decide) ?_
          exact (hX115 _ _ _ _ _ _ _ _ _ _ _).mp hw H locs ls hP hD hS (lv_sub hl [2, 3, 4, 5, 6, 1, 0] rfl)
        · have hw := hw.2 hc
          refine lv_aload_n F.1 F.2.1 dX4_join_102 rfl (lv_at hl 2 rfl) ?_
          refine xi_get (C := RX4) (T := TX4) (N := 16) (v := .ref h0_scores) F in_X4_join_X4 hK hP 0 rfl rfl 12 (by decide) fl_X4_join_35 rfl dX4_join_103 ?_
          refine lv_iload_n F.1 F.2.1 dX4_join_106 rfl (lv_at hl 4 rfl) ?_
          refine lv_iload F.1 F.2.1 dX4_join_107 (lv_at hl 6 rfl) ?_
          refine lv_iadd F.1 F.2.1 dX4_join_109 ?_
          obtain ⟨j110, hj, he, hw⟩ := hw
          refine xi_lald (j := j110) F hK hP 2 rfl (by decide) hj he dX4_join_110 ?_
          refine lv_goto (tgt := 115) F.1 F.2.1 dX4_join_111 (by decide) ?_
          exact (hX115 _ _ _ _ _ _ _ _ _ _ _).mp hw H locs ls hP hD hS (lv_sub hl [2, 3, 4, 5, 6, 1, 0] rfl)
  · intro x2 x3 x4 x5 x6 s0 s1 n0_thrown n0_sets f0_in f0_scores hw
    refine (hX115 _ _ _ _ _ _ _ _ _ _ _).mpr ?_
    intro H locs ls hP hD hS hl
    refine lv_iload F.1 F.2.1 dX4_join_115 (lv_at hl 6 rfl) ?_
    refine xi_ifeqz (tgt := 132) F dX4_join_117 (by decide) (fun hc => ?_) (fun hc => ?_)
    · have hw := hw.1 hc
      refine lv_lconst (v := 0) F.1 F.2.1 dX4_join_132 (by decide) ?_
      exact (hX133 _ _ _ _ _ _ _ _ _ _ _ _).mp hw H locs ls hP hD hS (lv_sub hl [0, 1, 2, 3, 4, 5, 6] rfl)
    · have hw := hw.2 hc
      refine lv_aload_n F.1 F.2.1 dX4_join_120 rfl (lv_at hl 0 rfl) ?_
      refine xi_get (C := RX4) (T := TX4) (N := 16) (v := .ref h0_scores) F in_X4_join_X4 hK hP 0 rfl rfl 12 (by decide) fl_X4_join_35 rfl dX4_join_121 ?_
      refine lv_iload_n F.1 F.2.1 dX4_join_124 rfl (lv_at hl 3 rfl) ?_
      refine lv_iload F.1 F.2.1 dX4_join_125 (lv_at hl 4 rfl) ?_
      refine lv_iadd F.1 F.2.1 dX4_join_127 ?_
      obtain ⟨j128, hj, he, hw⟩ := hw
      refine xi_lald (j := j128) F hK hP 2 rfl (by decide) hj he dX4_join_128 ?_
      refine lv_goto (tgt := 133) F.1 F.2.1 dX4_join_129 (by decide) ?_
      exact (hX133 _ _ _ _ _ _ _ _ _ _ _ _).mp hw H locs ls hP hD hS (lv_sub hl [0, 1, 2, 3, 4, 5, 6] rfl)
  · intro x2 x3 x4 x5 x6 s0 s1 s2 n0_thrown n0_sets f0_in f0_scores hw
    refine (hX133 _ _ _ _ _ _ _ _ _ _ _ _).mpr ?_
    intro H locs ls hP hD hS hl
    refine lv_ladd F.1 F.2.1 dX4_join_133 ?_
    obtain ⟨j134, hj, he, hw⟩ := hw
    refine xi_last (j := j134) F hK hP hD hS 2 rfl (by decide) hj he dX4_join_134 (fun H locs hP hD hS => ?_)
    have hP : va_P D vwCl (pc_X4_join cs h0 h0_level h0_value h0_tags h0_link h0_key h0_lives h0_open h0_in h0_scores h0_was h0_had n0_thrown n0_objects n0_opened n0_sets b0_hasFamily f0_in (va_up f0_scores j134 (s1 + s0))) H := hP
    have hD : va_D A (pc_X4_join cs h0 h0_level h0_value h0_tags h0_link h0_key h0_lives h0_open h0_in h0_scores h0_was h0_had n0_thrown n0_objects n0_opened n0_sets b0_hasFamily f0_in (va_up f0_scores j134 (s1 + s0))) := hD
    exact (hX135 _ _ _ _ _ _ _ _ _).mp hw H locs ls hP hD hS (lv_sub hl [0, 1, 2, 3, 4, 5, 6] rfl)
  · intro x2 x3 x4 x5 x6 n0_thrown n0_sets f0_in f0_scores hw
    refine (hX135 _ _ _ _ _ _ _ _ _).mpr ?_
    intro H locs ls hP hD hS hl
    refine lv_aload_n F.1 F.2.1 dX4_join_135 rfl (lv_at hl 0 rfl) ?_
    refine xi_get (C := RX4) (T := TX4) (N := 16) (v := .ref h0_in) F in_X4_join_X4 hK hP 0 rfl rfl 11 (by decide) fl_X4_join_32 rfl dX4_join_136 ?_
    refine lv_iload_n F.1 F.2.1 dX4_join_139 rfl (lv_at hl 2 rfl) ?_
    refine lv_iload F.1 F.2.1 dX4_join_140 (lv_at hl 4 rfl) ?_
    refine lv_iadd F.1 F.2.1 dX4_join_142 ?_
    refine lv_iload_n F.1 F.2.1 dX4_join_143 rfl (lv_at hl 1 rfl) ?_
    refine lv_if_ne (tgt := 165) F.1 F.2.1 dX4_join_144 (by decide) (fun hc => ?_) (fun hc => ?_)
    · have hw := hw.1 hc
      refine lv_iload_n F.1 F.2.1 dX4_join_165 rfl (lv_at hl 1 rfl) ?_
      refine lv_iconst (v := 1) F.1 F.2.1 dX4_join_166 (by decide) ?_
      refine lv_icmp_ne (tgt := 188) F.1 F.2.1 dX4_join_167 (by decide) (fun hc => ?_) (fun hc => ?_)
      · have hw := hw.1 hc
        refine lv_iload F.1 F.2.1 dX4_join_188 (lv_at hl 5 rfl) ?_
        refine xi_ifeqz (tgt := 202) F dX4_join_190 (by decide) (fun hc => ?_) (fun hc => ?_)
        · have hw := hw.1 hc
          exact (hX202 _ _ _ _ _ _ _ _).mp hw H locs ls hP hD hS (lv_sub hl [0, 1, 2, 3, 4] rfl)
        · have hw := hw.2 hc
          refine lv_iload F.1 F.2.1 dX4_join_193 (lv_at hl 6 rfl) ?_
          refine xi_ifnez (tgt := 202) F dX4_join_195 (by decide) (fun hc => ?_) (fun hc => ?_)
          · have hw := hw.1 hc
            exact (hX202 _ _ _ _ _ _ _ _).mp hw H locs ls hP hD hS (lv_sub hl [0, 1, 2, 3, 4] rfl)
          · have hw := hw.2 hc
            refine lv_iconst (v := 1) F.1 F.2.1 dX4_join_198 (by decide) ?_
            refine lv_goto (tgt := 203) F.1 F.2.1 dX4_join_199 (by decide) ?_
            exact (hX203 _ _ _ _ _ _ _ _ _).mp hw H locs ls hP hD hS (lv_sub hl [0, 1, 2, 3, 4] rfl)
      · have hw := hw.2 hc
        refine lv_iload F.1 F.2.1 dX4_join_170 (lv_at hl 5 rfl) ?_
        refine xi_ifnez (tgt := 180) F dX4_join_172 (by decide) (fun hc => ?_) (fun hc => ?_)
        · have hw := hw.1 hc
          exact (hX180 _ _ _ _ _ _ _ _).mp hw H locs ls hP hD hS (lv_sub hl [0, 1, 2, 3, 4] rfl)
        · have hw := hw.2 hc
          refine lv_iload F.1 F.2.1 dX4_join_175 (lv_at hl 6 rfl) ?_
          refine xi_ifeqz (tgt := 184) F dX4_join_177 (by decide) (fun hc => ?_) (fun hc => ?_)
          · have hw := hw.1 hc
            refine lv_iconst (v := 0) F.1 F.2.1 dX4_join_184 (by decide) ?_
            refine lv_goto (tgt := 203) F.1 F.2.1 dX4_join_185 (by decide) ?_
            exact (hX203 _ _ _ _ _ _ _ _ _).mp hw H locs ls hP hD hS (lv_sub hl [0, 1, 2, 3, 4] rfl)
          · have hw := hw.2 hc
            exact (hX180 _ _ _ _ _ _ _ _).mp hw H locs ls hP hD hS (lv_sub hl [0, 1, 2, 3, 4] rfl)
    · have hw := hw.2 hc
      refine lv_iload F.1 F.2.1 dX4_join_147 (lv_at hl 5 rfl) ?_
      refine xi_ifeqz (tgt := 161) F dX4_join_149 (by decide) (fun hc => ?_) (fun hc => ?_)
      · have hw := hw.1 hc
        exact (hX161 _ _ _ _ _ _ _ _).mp hw H locs ls hP hD hS (lv_sub hl [0, 1, 2, 3, 4] rfl)
      · have hw := hw.2 hc
        refine lv_iload F.1 F.2.1 dX4_join_152 (lv_at hl 6 rfl) ?_
        refine xi_ifeqz (tgt := 161) F dX4_join_154 (by decide) (fun hc => ?_) (fun hc => ?_)
        · have hw := hw.1 hc
          exact (hX161 _ _ _ _ _ _ _ _).mp hw H locs ls hP hD hS (lv_sub hl [0, 1, 2, 3, 4] rfl)
        · have hw := hw.2 hc
          refine lv_iconst (v := 1) F.1 F.2.1 dX4_join_157 (by decide) ?_
          refine lv_goto (tgt := 203) F.1 F.2.1 dX4_join_158 (by decide) ?_
          exact (hX203 _ _ _ _ _ _ _ _ _).mp hw H locs ls hP hD hS (lv_sub hl [0, 1, 2, 3, 4] rfl)
  · intro x2 x3 x4 s0 n0_thrown n0_sets f0_in f0_scores hw
    refine (hX161 _ _ _ _ _ _ _ _).mpr ?_
    intro H locs ls hP hD hS hl
    refine lv_iconst (v := 0) F.1 F.2.1 dX4_join_161 (by decide) ?_
    refine lv_goto (tgt := 203) F.1 F.2.1 dX4_join_162 (by decide) ?_
    exact (hX203 _ _ _ _ _ _ _ _ _).mp hw H locs ls hP hD hS (lv_sub hl [0, 1, 2, 3, 4] rfl)
  · intro x2 x3 x4 s0 n0_thrown n0_sets f0_in f0_scores hw
    refine (hX180 _ _ _ _ _ _ _ _).mpr ?_
    intro H locs ls hP hD hS hl
    refine lv_iconst (v := 1) F.1 F.2.1 dX4_join_180 (by decide) ?_
    refine lv_goto (tgt := 203) F.1 F.2.1 dX4_join_181 (by decide) ?_
    exact (hX203 _ _ _ _ _ _ _ _ _).mp hw H locs ls hP hD hS (lv_sub hl [0, 1, 2, 3, 4] rfl)
  · intro x2 x3 x4 s0 n0_thrown n0_sets f0_in f0_scores hw
    refine (hX202 _ _ _ _ _ _ _ _).mpr ?_
    intro H locs ls hP hD hS hl
    refine lv_iconst (v := 0) F.1 F.2.1 dX4_join_202 (by decide) ?_
    exact (hX203 _ _ _ _ _ _ _ _ _).mp hw H locs ls hP hD hS (lv_sub hl [0, 1, 2, 3, 4] rfl)
  · intro x2 x3 x4 s0 s1 n0_thrown n0_sets f0_in f0_scores hw
    refine (hX203 _ _ _ _ _ _ _ _ _).mpr ?_
    intro H locs ls hP hD hS hl
    obtain ⟨j203, hj, he, hw⟩ := hw
    refine xi_zast (v := s0) (j := j203) F hK hP hD hS 1 rfl (by decide) hj he rfl dX4_join_203 (fun H locs hP hD hS => ?_)
    have hP : va_P D vwCl (pc_X4_join cs h0 h0_level h0_value h0_tags h0_link h0_key h0_lives h0_open h0_in h0_scores h0_was h0_had n0_thrown n0_objects n0_opened n0_sets b0_hasFamily (va_up f0_in j203 s0) f0_scores) H := hP
    have hD : va_D A (pc_X4_join cs h0 h0_level h0_value h0_tags h0_link h0_key h0_lives h0_open h0_in h0_scores h0_was h0_had n0_thrown n0_objects n0_opened n0_sets b0_hasFamily (va_up f0_in j203 s0) f0_scores) := hD
    refine lv_iinc (v := (x4 + 1)) (lv' := [(4, .int (x4 + 1)), (0, .ref h0), (1, .int p1), (2, .int x2), (3, .int x3)]) F.1 F.2.1 dX4_join_204 hl (k := 4) rfl rfl (by decide) rfl (fun ls hl => ?_)
    refine lv_goto (tgt := 53) F.1 F.2.1 dX4_join_207 (by decide) ?_
    exact (hX53 _ _ _ _ _ _ _).mp hw H locs ls hP hD hS (lv_sub hl [1, 2, 3, 4, 0] rfl)
  generalize ([] : List Loc) = locs at hS ⊢
  obtain ⟨H, hHe⟩ : ∃ H, H = s.heap := ⟨_, rfl⟩
  have hP : va_P D vwCl (pc_X4_join cs h0 h0_level h0_value h0_tags h0_link h0_key h0_lives h0_open h0_in h0_scores h0_was h0_had n0_thrown n0_objects n0_opened n0_sets b0_hasFamily f0_in f0_scores) H := by rw [hHe]; exact hP
  have hS : va_S A s.heap H locs := by rw [hHe]; exact hS
  suffices W p l e rm_X4_join s m args below meth c H locs 0 0 Z (F0 m 0 ls []) by rw [hHe] at this; exact this
  refine lv_aload_n F.1 F.2.1 dX4_join_0 rfl (lv_at hl 0 rfl) ?_
  refine lv_iconst (v := 0) F.1 F.2.1 dX4_join_1 (by decide) ?_
  refine xi_put (C := RX4) (T := TX4) (N := 16) (v := .int 0) (ty := .int) F in_X4_join_X4 tyX4 tyX4_ok nmX4 hK hP hD hS 0 rfl rfl 0 (by decide) fl_X4_join_45 rfl (tyX4_ok 0 (by decide)) rfl rfl (Nat.le_of_ble_eq_true rfl) dX4_join_2 (fun H locs hP hD hS => ?_)
  have hP : va_P D vwCl (pc_X4_join cs h0 h0_level h0_value h0_tags h0_link h0_key h0_lives h0_open h0_in h0_scores h0_was h0_had 0 n0_objects n0_opened n0_sets b0_hasFamily f0_in f0_scores) H := hP
  have hD : va_D A (pc_X4_join cs h0 h0_level h0_value h0_tags h0_link h0_key h0_lives h0_open h0_in h0_scores h0_was h0_had 0 n0_objects n0_opened n0_sets b0_hasFamily f0_in f0_scores) := hD
  refine lv_iload_n F.1 F.2.1 dX4_join_5 rfl (lv_at hl 1 rfl) ?_
  refine lv_iconst (v := 0) F.1 F.2.1 dX4_join_6 (by decide) ?_
  refine lv_iconst (v := 2) F.1 F.2.1 dX4_join_7 (by decide) ?_
  refine xc_Sz (As := [.int p1, .int 0, .int 2]) (rest := []) (m_X4_isIn l D cs p1 0 2 _ hw) F (va_cwS 3 F.2.2.2.2 gX4_join_X4_isIn rfl rfl rfl (by decide +kernel) ⟨Nat.le_of_ble_eq_true rfl, Nat.le_of_ble_eq_true rfl⟩) hK hP hD hS hA [] [0, 1, 2] rfl rfl rfl hl.1 rfl (Nat.le_of_ble_eq_true rfl) dX4_join_8 ⟨Nat.zero_le _, Nat.zero_le _⟩ (fun r8 u H locs hw hP hD hS => ?_)
  have hP : va_P D vwCl (pc_X4_join cs h0 h0_level h0_value h0_tags h0_link h0_key h0_lives h0_open h0_in h0_scores h0_was h0_had 0 n0_objects n0_opened n0_sets b0_hasFamily f0_in f0_scores) H := hP.sub [0, 1, 2] rfl
  have hD : va_D A (pc_X4_join cs h0 h0_level h0_value h0_tags h0_link h0_key h0_lives h0_open h0_in h0_scores h0_was h0_had 0 n0_objects n0_opened n0_sets b0_hasFamily f0_in f0_scores) := hD.sub [0, 1, 2] (by decide) rfl
  try dsimp only at hw
  refine xi_ifnez (tgt := 17) F dX4_join_11 (by decide) (fun hc => ?_) (fun hc => ?_)
  · have hw := hw.1 hc
    refine lv_aload_n F.1 F.2.1 dX4_join_17 rfl (lv_at hl 0 rfl) ?_
    refine xi_get (C := RX4) (T := TX4) (N := 16) (v := .int n0_sets) F in_X4_join_X4 hK hP 0 rfl rfl 10 (by decide) fl_X4_join_59 rfl dX4_join_18 ?_
    refine lv_iconst (v := 2) F.1 F.2.1 dX4_join_21 (by decide) ?_
    refine lv_icmp_ge (tgt := 28) F.1 F.2.1 dX4_join_22 (by decide) (fun hc => ?_) (fun hc => ?_)
    · have hw := hw.1 hc
      refine lv_sipush (v := 200) F.1 F.2.1 dX4_join_28 (by decide) ?_
      refine lv_aload_n F.1 F.2.1 dX4_join_31 rfl (lv_at hl 0 rfl) ?_
      refine xi_get (C := RX4) (T := TX4) (N := 16) (v := .int n0_sets) F in_X4_join_X4 hK hP 0 rfl rfl 10 (by decide) fl_X4_join_59 rfl dX4_join_32 ?_
      refine lv_iconst (v := 2) F.1 F.2.1 dX4_join_35 (by decide) ?_
      refine lv_isub F.1 F.2.1 dX4_join_36 ?_
      refine lv_imul F.1 F.2.1 dX4_join_37 ?_
      refine lv_istore_n (lv' := [(2, .int (200 * (n0_sets - 2))), (0, .ref h0), (1, .int p1)]) F.1 F.2.1 dX4_join_38 rfl hl (by decide) rfl (fun ls hl => ?_)
      refine lv_sipush (v := 200) F.1 F.2.1 dX4_join_39 (by decide) ?_
      refine lv_aload_n F.1 F.2.1 dX4_join_42 rfl (lv_at hl 1 rfl) ?_
      refine xi_get (C := RX4) (T := TX4) (N := 16) (v := .int n0_sets) F in_X4_join_X4 hK hP 0 rfl rfl 10 (by decide) fl_X4_join_59 rfl dX4_join_43 ?_
      refine lv_iconst (v := 1) F.1 F.2.1 dX4_join_46 (by decide) ?_
      refine lv_isub F.1 F.2.1 dX4_join_47 ?_
      refine lv_imul F.1 F.2.1 dX4_join_48 ?_
      refine lv_istore_n (lv' := [(3, .int (200 * (n0_sets - 1))), (2, .int (200 * (n0_sets - 2))), (0, .ref h0), (1, .int p1)]) F.1 F.2.1 dX4_join_49 rfl hl (by decide) rfl (fun ls hl => ?_)
      refine lv_iconst (v := 0) F.1 F.2.1 dX4_join_50 (by decide) ?_
      refine lv_istore (lv' := [(4, .int 0), (3, .int (200 * (n0_sets - 1))), (2, .int (200 * (n0_sets - 2))), (0, .ref h0), (1, .int p1)]) F.1 F.2.1 dX4_join_51 hl (by decide) rfl (fun ls hl => ?_)
      exact (hX53 _ _ _ _ _ _ _).mp hw H locs ls hP hD hS (lv_sub hl [3, 4, 2, 1, 0] rfl)
    · have hw := hw.2 hc
      refine lv_bipush (v := (-3)) F.1 F.2.1 dX4_join_25 (by decide) ?_
      exact RET (-3) (0, n0_sets, f0_in, f0_scores) H locs 27 ls hw hP hD hS dX4_join_27
  · have hw := hw.2 hc
    refine lv_bipush (v := (-2)) F.1 F.2.1 dX4_join_14 (by decide) ?_
    exact RET (-2) (0, n0_sets, f0_in, f0_scores) H locs 16 ls hw hP hD hS dX4_join_16

theorem in_X4_takeLast_X4 : ∀ w ∈ wsX40, w ∈ wsX4_takeLast := by decide +kernel
theorem fl_X4_takeLast_49 : Cond.fieldLink RX4 49 "JoinBlocksModel" "objects" "I" ∈ wsX4_takeLast := by decide +kernel
theorem fl_X4_takeLast_39 : Cond.fieldLink RX4 39 "JoinBlocksModel" "was" "[Z" ∈ wsX4_takeLast := by decide +kernel
theorem fl_X4_takeLast_32 : Cond.fieldLink RX4 32 "JoinBlocksModel" "in" "[Z" ∈ wsX4_takeLast := by decide +kernel
theorem fl_X4_takeLast_42 : Cond.fieldLink RX4 42 "JoinBlocksModel" "had" "[J" ∈ wsX4_takeLast := by decide +kernel
theorem fl_X4_takeLast_35 : Cond.fieldLink RX4 35 "JoinBlocksModel" "scores" "[J" ∈ wsX4_takeLast := by decide +kernel
theorem fl_X4_takeLast_59 : Cond.fieldLink RX4 59 "JoinBlocksModel" "sets" "I" ∈ wsX4_takeLast := by decide +kernel
abbrev pc_X4_takeLast (cs : Nat → ClassId) (h0 : Nat) (h0_level : Nat) (h0_value : Nat) (h0_tags : Nat) (h0_link : Nat) (h0_key : Nat) (h0_lives : Nat) (h0_open : Nat) (h0_in : Nat) (h0_scores : Nat) (h0_was : Nat) (h0_had : Nat) (n0_thrown : Int32) (n0_objects : Int32) (n0_opened : Int32) (n0_sets : Int32) (b0_hasFamily : Bool) (f0_in : Nat → Bool) (f0_scores : Nat → Int64) (f0_was : Nat → Bool) (f0_had : Nat → Int64) : va_W := [(h0, .inr (4, [.int n0_thrown, .int n0_objects, .ref h0_level, .ref h0_value, .ref h0_tags, .ref h0_link, .ref h0_key, .ref h0_lives, .int n0_opened, .ref h0_open, .int n0_sets, .ref h0_in, .ref h0_scores, .int (b2i b0_hasFamily), .ref h0_was, .ref h0_had])), (h0_in, .inl (cs 1, 1800, .inl (bF f0_in))), (h0_scores, .inl (cs 2, 1800, .inr (.inl f0_scores))), (h0_was, .inl (cs 1, 200, .inl (bF f0_was))), (h0_had, .inl (cs 2, 200, .inr (.inl f0_had)))]
abbrev rm_X4_takeLast : Room := { frames := 0, cells := 0, slots := 0, locals := 0 }
def call_X4_takeLast (n0_objects : Int32) (n0_sets : Int32) (f0_in : Nat → Bool) (f0_scores : Nat → Int64) (f0_was : Nat → Bool) (f0_had : Nat → Int64) (Q : (Nat → Bool) → (Nat → Int64) → (Nat → Bool) → (Nat → Int64) → Prop) : Prop := ∀ (X13 : Int32 → Int32 → (Nat → Bool) → (Nat → Int64) → (Nat → Bool) → (Nat → Int64) → Prop),
    (∀ (x1 : Int32) (x2 : Int32) (f0_in : Nat → Bool) (f0_scores : Nat → Int64) (f0_was : Nat → Bool) (f0_had : Nat → Int64),
      ((n0_objects ≤ x2 → Q f0_in f0_scores f0_was f0_had) ∧ (¬ n0_objects ≤ x2 → (∃ j33 : Nat, j33 < 1800 ∧ (x1 + x2) = nI j33 ∧ (∃ j34 : Nat, j34 < 200 ∧ x2 = nI j34 ∧ (∃ j47 : Nat, j47 < 1800 ∧ (x1 + x2) = nI j47 ∧ (∃ j48 : Nat, j48 < 200 ∧ x2 = nI j48 ∧ (∃ j57 : Nat, j57 < 1800 ∧ (x1 + x2) = nI j57 ∧ (∃ j66 : Nat, j66 < 1800 ∧ (x1 + x2) = nI j66 ∧ X13 x1 (x2 + 1) (va_up f0_in j57 false) (va_up f0_scores j66 0) (va_up f0_was j34 (f0_in j33)) (va_up f0_had j48 (f0_scores j47)))))))))) → X13 x1 x2 f0_in f0_scores f0_was f0_had) →
    X13 (200 * (n0_sets - 1)) 0 f0_in f0_scores f0_was f0_had
set_option maxHeartbeats 4000000 in
set_option maxRecDepth 100000 in
theorem m_X4_takeLast (l : Launch) (D : va_G) (cs : Nat → ClassId) (h0 : Nat) (h0_level : Nat) (h0_value : Nat) (h0_tags : Nat) (h0_link : Nat) (h0_key : Nat) (h0_lives : Nat) (h0_open : Nat) (h0_in : Nat) (h0_scores : Nat) (h0_was : Nat) (h0_had : Nat)  (n0_thrown : Int32) (n0_objects : Int32) (n0_opened : Int32) (n0_sets : Int32) (b0_hasFamily : Bool) (f0_in : Nat → Bool) (f0_scores : Nat → Int64) (f0_was : Nat → Bool) (f0_had : Nat → Int64) (Q : (Nat → Bool) → (Nat → Int64) → (Nat → Bool) → (Nat → Int64) → Prop) (h : call_X4_takeLast n0_objects n0_sets f0_in f0_scores f0_was f0_had Q) : CtV l yX4_takeLast wsX4_takeLast rm_X4_takeLast D cs [.ref h0] (pc_X4_takeLast cs h0 h0_level h0_value h0_tags h0_link h0_key h0_lives h0_open h0_in h0_scores h0_was h0_had n0_thrown n0_objects n0_opened n0_sets b0_hasFamily f0_in f0_scores f0_was f0_had) (fun u : (Nat → Bool) × (Nat → Int64) × (Nat → Bool) × (Nat → Int64) => (pc_X4_takeLast cs h0 h0_level h0_value h0_tags h0_link h0_key h0_lives h0_open h0_in h0_scores h0_was h0_had n0_thrown n0_objects n0_opened n0_sets b0_hasFamily u.1 u.2.1 u.2.2.1 u.2.2.2)) 0 0 (fun u => Q u.1 u.2.1 u.2.2.1 u.2.2.2) := by
  refine xo_V (S := (Nat → Bool) × (Nat → Int64) × (Nat → Bool) × (Nat → Int64)) (cc := cX4_takeLast) (maxL := 3) (own := RX4) (lv0 := [(0, .ref h0)]) (by decide) rfl rfl (Nat.le_of_ble_eq_true rfl) rfl ?_
  intro p e s m args below meth c A Z ls hnm F hK hA hP hD hS hl RET
  unfold call_X4_takeLast at h
  obtain ⟨X13, hX13⟩ : ∃ X : Int32 → Int32 → (Nat → Bool) → (Nat → Int64) → (Nat → Bool) → (Nat → Int64) → Prop, ∀ (x1 : Int32) (x2 : Int32) (f0_in : Nat → Bool) (f0_scores : Nat → Int64) (f0_was : Nat → Bool) (f0_had : Nat → Int64), (X x1 x2 f0_in f0_scores f0_was f0_had ↔ ∀ (H : Heap) (locs : List Loc) (ls : Array Slot), va_P D vwCl (pc_X4_takeLast cs h0 h0_level h0_value h0_tags h0_link h0_key h0_lives h0_open h0_in h0_scores h0_was h0_had n0_thrown n0_objects n0_opened n0_sets b0_hasFamily f0_in f0_scores f0_was f0_had) H → va_D A (pc_X4_takeLast cs h0 h0_level h0_value h0_tags h0_link h0_key h0_lives h0_open h0_in h0_scores h0_was h0_had n0_thrown n0_objects n0_opened n0_sets b0_hasFamily f0_in f0_scores f0_was f0_had) → va_S A s.heap H locs → lv_has ls 3 [(0, .ref h0), (1, .int x1), (2, .int x2)] → W p l e rm_X4_takeLast s m args below meth c H locs 0 0 Z (F0 m 13 ls [])) := ⟨_, fun _ _ _ _ _ _ => Iff.rfl⟩
  refine xt_cut (h X13 ?_) (fun hw => ?_)
  · intro x1 x2 f0_in f0_scores f0_was f0_had hw
    refine (hX13 _ _ _ _ _ _).mpr ?_
    intro H locs ls hP hD hS hl
    refine lv_iload_n F.1 F.2.1 dX4_takeLast_13 rfl (lv_at hl 2 rfl) ?_
    refine lv_aload_n F.1 F.2.1 dX4_takeLast_14 rfl (lv_at hl 0 rfl) ?_
    refine xi_get (C := RX4) (T := TX4) (N := 16) (v := .int n0_objects) F in_X4_takeLast_X4 hK hP 0 rfl rfl 1 (by decide) fl_X4_takeLast_49 rfl dX4_takeLast_15 ?_
    refine lv_icmp_ge (tgt := 73) F.1 F.2.1 dX4_takeLast_18 (by decide) (fun hc => ?_) (fun hc => ?_)
    · have hw := hw.1 hc
      exact RET (f0_in, f0_scores, f0_was, f0_had) H locs 73 ls hw hP hD hS dX4_takeLast_73
    · have hw := hw.2 hc
      refine lv_aload_n F.1 F.2.1 dX4_takeLast_21 rfl (lv_at hl 0 rfl) ?_
      refine xi_get (C := RX4) (T := TX4) (N := 16) (v := .ref h0_was) F in_X4_takeLast_X4 hK hP 0 rfl rfl 14 (by decide) fl_X4_takeLast_39 rfl dX4_takeLast_22 ?_
      refine lv_iload_n F.1 F.2.1 dX4_takeLast_25 rfl (lv_at hl 2 rfl) ?_
      refine lv_aload_n F.1 F.2.1 dX4_takeLast_26 rfl (lv_at hl 0 rfl) ?_
      refine xi_get (C := RX4) (T := TX4) (N := 16) (v := .ref h0_in) F in_X4_takeLast_X4 hK hP 0 rfl rfl 11 (by decide) fl_X4_takeLast_32 rfl dX4_takeLast_27 ?_
      refine lv_iload_n F.1 F.2.1 dX4_takeLast_30 rfl (lv_at hl 1 rfl) ?_
      refine lv_iload_n F.1 F.2.1 dX4_takeLast_31 rfl (lv_at hl 2 rfl) ?_
      refine lv_iadd F.1 F.2.1 dX4_takeLast_32 ?_
      obtain ⟨j33, hj, he, hw⟩ := hw
      refine xi_zald (j := j33) F hK hP 1 rfl (by decide) hj he dX4_takeLast_33 ?_
      obtain ⟨j34, hj, he, hw⟩ := hw
      refine xi_zast (v := (f0_in j33)) (j := j34) F hK hP hD hS 3 rfl (by decide) hj he rfl dX4_takeLast_34 (fun H locs hP hD hS => ?_)
      have hP : va_P D vwCl (pc_X4_takeLast cs h0 h0_level h0_value h0_tags h0_link h0_key h0_lives h0_open h0_in h0_scores h0_was h0_had n0_thrown n0_objects n0_opened n0_sets b0_hasFamily f0_in f0_scores (va_up f0_was j34 (f0_in j33)) f0_had) H := hP
      have hD : va_D A (pc_X4_takeLast cs h0 h0_level h0_value h0_tags h0_link h0_key h0_lives h0_open h0_in h0_scores h0_was h0_had n0_thrown n0_objects n0_opened n0_sets b0_hasFamily f0_in f0_scores (va_up f0_was j34 (f0_in j33)) f0_had) := hD
      refine lv_aload_n F.1 F.2.1 dX4_takeLast_35 rfl (lv_at hl 0 rfl) ?_
      refine xi_get (C := RX4) (T := TX4) (N := 16) (v := .ref h0_had) F in_X4_takeLast_X4 hK hP 0 rfl rfl 15 (by decide) fl_X4_takeLast_42 rfl dX4_takeLast_36 ?_
      refine lv_iload_n F.1 F.2.1 dX4_takeLast_39 rfl (lv_at hl 2 rfl) ?_
      refine lv_aload_n F.1 F.2.1 dX4_takeLast_40 rfl (lv_at hl 0 rfl) ?_
      refine xi_get (C := RX4) (T := TX4) (N := 16) (v := .ref h0_scores) F in_X4_takeLast_X4 hK hP 0 rfl rfl 12 (by decide) fl_X4_takeLast_35 rfl dX4_takeLast_41 ?_
      refine lv_iload_n F.1 F.2.1 dX4_takeLast_44 rfl (lv_at hl 1 rfl) ?_
      refine lv_iload_n F.1 F.2.1 dX4_takeLast_45 rfl (lv_at hl 2 rfl) ?_
      refine lv_iadd F.1 F.2.1 dX4_takeLast_46 ?_
      obtain ⟨j47, hj, he, hw⟩ := hw
      refine xi_lald (j := j47) F hK hP 2 rfl (by decide) hj he dX4_takeLast_47 ?_
      obtain ⟨j48, hj, he, hw⟩ := hw
      refine xi_last (j := j48) F hK hP hD hS 4 rfl (by decide) hj he dX4_takeLast_48 (fun H locs hP hD hS => ?_)
      have hP : va_P D vwCl (pc_X4_takeLast cs h0 h0_level h0_value h0_tags h0_link h0_key h0_lives h0_open h0_in h0_scores h0_was h0_had n0_thrown n0_objects n0_opened n0_sets b0_hasFamily f0_in f0_scores (va_up f0_was j34 (f0_in j33)) (va_up f0_had j48 (f0_scores j47))) H := hP
      have hD : va_D A (pc_X4_takeLast cs h0 h0_level h0_value h0_tags h0_link h0_key h0_lives h0_open h0_in h0_scores h0_was h0_had n0_thrown n0_objects n0_opened n0_sets b0_hasFamily f0_in f0_scores (va_up f0_was j34 (f0_in j33)) (va_up f0_had j48 (f0_scores j47))) := hD
      refine lv_aload_n F.1 F.2.1 dX4_takeLast_49 rfl (lv_at hl 0 rfl) ?_
      refine xi_get (C := RX4) (T := TX4) (N := 16) (v := .ref h0_in) F in_X4_takeLast_X4 hK hP 0 rfl rfl 11 (by decide) fl_X4_takeLast_32 rfl dX4_takeLast_50 ?_
      refine lv_iload_n F.1 F.2.1 dX4_takeLast_53 rfl (lv_at hl 1 rfl) ?_
      refine lv_iload_n F.1 F.2.1 dX4_takeLast_54 rfl (lv_at hl 2 rfl) ?_
      refine lv_iadd F.1 F.2.1 dX4_takeLast_55 ?_
      refine lv_iconst (v := 0) F.1 F.2.1 dX4_takeLast_56 (by decide) ?_
      obtain ⟨j57, hj, he, hw⟩ := hw
      refine xi_zast (v := false) (j := j57) F hK hP hD hS 1 rfl (by decide) hj he rfl dX4_takeLast_57 (fun H locs hP hD hS => ?_)
      have hP : va_P D vwCl (pc_X4_takeLast cs h0 h0_level h0_value h0_tags h0_link h0_key h0_lives h0_open h0_in h0_scores h0_was h0_had n0_thrown n0_objects n0_opened n0_sets b0_hasFamily (va_up f0_in j57 false) f0_scores (va_up f0_was j34 (f0_in j33)) (va_up f0_had j48 (f0_scores j47))) H := hP
      have hD : va_D A (pc_X4_takeLast cs h0 h0_level h0_value h0_tags h0_link h0_key h0_lives h0_open h0_in h0_scores h0_was h0_had n0_thrown n0_objects n0_opened n0_sets b0_hasFamily (va_up f0_in j57 false) f0_scores (va_up f0_was j34 (f0_in j33)) (va_up f0_had j48 (f0_scores j47))) := hD
      refine lv_aload_n F.1 F.2.1 dX4_takeLast_58 rfl (lv_at hl 0 rfl) ?_
      refine xi_get (C := RX4) (T := TX4) (N := 16) (v := .ref h0_scores) F in_X4_takeLast_X4 hK hP 0 rfl rfl 12 (by decide) fl_X4_takeLast_35 rfl dX4_takeLast_59 ?_
      refine lv_iload_n F.1 F.2.1 dX4_takeLast_62 rfl (lv_at hl 1 rfl) ?_
      refine lv_iload_n F.1 F.2.1 dX4_takeLast_63 rfl (lv_at hl 2 rfl) ?_
      refine lv_iadd F.1 F.2.1 dX4_takeLast_64 ?_
      refine lv_lconst (v := 0) F.1 F.2.1 dX4_takeLast_65 (by decide) ?_
      obtain ⟨j66, hj, he, hw⟩ := hw
      refine xi_last (j := j66) F hK hP hD hS 2 rfl (by decide) hj he dX4_takeLast_66 (fun H locs hP hD hS => ?_)
      have hP : va_P D vwCl (pc_X4_takeLast cs h0 h0_level h0_value h0_tags h0_link h0_key h0_lives h0_open h0_in h0_scores h0_was h0_had n0_thrown n0_objects n0_opened n0_sets b0_hasFamily (va_up f0_in j57 false) (va_up f0_scores j66 0) (va_up f0_was j34 (f0_in j33)) (va_up f0_had j48 (f0_scores j47))) H := hP
      have hD : va_D A (pc_X4_takeLast cs h0 h0_level h0_value h0_tags h0_link h0_key h0_lives h0_open h0_in h0_scores h0_was h0_had n0_thrown n0_objects n0_opened n0_sets b0_hasFamily (va_up f0_in j57 false) (va_up f0_scores j66 0) (va_up f0_was j34 (f0_in j33)) (va_up f0_had j48 (f0_scores j47))) := hD
      refine lv_iinc (v := (x2 + 1)) (lv' := [(2, .int (x2 + 1)), (0, .ref h0), (1, .int x1)]) F.1 F.2.1 dX4_takeLast_67 hl (k := 2) rfl rfl (by decide) rfl (fun ls hl => ?_)
      refine lv_goto (tgt := 13) F.1 F.2.1 dX4_takeLast_70 (by decide) ?_
      exact (hX13 _ _ _ _ _ _).mp hw H locs ls hP hD hS (lv_sub hl [1, 2, 0] rfl)
  generalize ([] : List Loc) = locs at hS ⊢
  obtain ⟨H, hHe⟩ : ∃ H, H = s.heap := ⟨_, rfl⟩
  have hP : va_P D vwCl (pc_X4_takeLast cs h0 h0_level h0_value h0_tags h0_link h0_key h0_lives h0_open h0_in h0_scores h0_was h0_had n0_thrown n0_objects n0_opened n0_sets b0_hasFamily f0_in f0_scores f0_was f0_had) H := by rw [hHe]; exact hP
  have hS : va_S A s.heap H locs := by rw [hHe]; exact hS
  suffices W p l e rm_X4_takeLast s m args below meth c H locs 0 0 Z (F0 m 0 ls []) by rw [hHe] at this; exact this
  refine lv_sipush (v := 200) F.1 F.2.1 dX4_takeLast_0 (by decide) ?_
  refine lv_aload_n F.1 F.2.1 dX4_takeLast_3 rfl (lv_at hl 0 rfl) ?_
  refine xi_get (C := RX4) (T := TX4) (N := 16) (v := .int n0_sets) F in_X4_takeLast_X4 hK hP 0 rfl rfl 10 (by decide) fl_X4_takeLast_59 rfl dX4_takeLast_4 ?_
  refine lv_iconst (v := 1) F.1 F.2.1 dX4_takeLast_7 (by decide) ?_
  refine lv_isub F.1 F.2.1 dX4_takeLast_8 ?_
  refine lv_imul F.1 F.2.1 dX4_takeLast_9 ?_
  refine lv_istore_n (lv' := [(1, .int (200 * (n0_sets - 1))), (0, .ref h0)]) F.1 F.2.1 dX4_takeLast_10 rfl hl (by decide) rfl (fun ls hl => ?_)
  refine lv_iconst (v := 0) F.1 F.2.1 dX4_takeLast_11 (by decide) ?_
  refine lv_istore_n (lv' := [(2, .int 0), (1, .int (200 * (n0_sets - 1))), (0, .ref h0)]) F.1 F.2.1 dX4_takeLast_12 rfl hl (by decide) rfl (fun ls hl => ?_)
  exact (hX13 _ _ _ _ _ _).mp hw H locs ls hP hD hS (lv_sub hl [2, 1, 0] rfl)

theorem in_X4_up_X4 : ∀ w ∈ wsX40, w ∈ wsX4_up := by decide +kernel
theorem fl_X4_up_49 : Cond.fieldLink RX4 49 "JoinBlocksModel" "objects" "I" ∈ wsX4_up := by decide +kernel
theorem fl_X4_up_59 : Cond.fieldLink RX4 59 "JoinBlocksModel" "sets" "I" ∈ wsX4_up := by decide +kernel
theorem fl_X4_up_32 : Cond.fieldLink RX4 32 "JoinBlocksModel" "in" "[Z" ∈ wsX4_up := by decide +kernel
theorem fl_X4_up_39 : Cond.fieldLink RX4 39 "JoinBlocksModel" "was" "[Z" ∈ wsX4_up := by decide +kernel
theorem fl_X4_up_35 : Cond.fieldLink RX4 35 "JoinBlocksModel" "scores" "[J" ∈ wsX4_up := by decide +kernel
theorem fl_X4_up_42 : Cond.fieldLink RX4 42 "JoinBlocksModel" "had" "[J" ∈ wsX4_up := by decide +kernel
theorem fl_X4_up_7 : Cond.fieldLink RX4 7 "JoinBlocksModel" "level" "[I" ∈ wsX4_up := by decide +kernel
theorem fl_X4_up_45 : Cond.fieldLink RX4 45 "JoinBlocksModel" "thrown" "I" ∈ wsX4_up := by decide +kernel
theorem fl_X4_up_62 : Cond.fieldLink RX4 62 "JoinBlocksModel" "hasFamily" "Z" ∈ wsX4_up := by decide +kernel
abbrev pc_X4_up (cs : Nat → ClassId) (h0 : Nat) (h0_level : Nat) (h0_value : Nat) (h0_tags : Nat) (h0_link : Nat) (h0_key : Nat) (h0_lives : Nat) (h0_open : Nat) (h0_in : Nat) (h0_scores : Nat) (h0_was : Nat) (h0_had : Nat) (n0_thrown : Int32) (n0_objects : Int32) (n0_opened : Int32) (n0_sets : Int32) (b0_hasFamily : Bool) (f0_level : Nat → Int32) (f0_in : Nat → Bool) (f0_scores : Nat → Int64) (f0_was : Nat → Bool) (f0_had : Nat → Int64) : va_W := [(h0, .inr (4, [.int n0_thrown, .int n0_objects, .ref h0_level, .ref h0_value, .ref h0_tags, .ref h0_link, .ref h0_key, .ref h0_lives, .int n0_opened, .ref h0_open, .int n0_sets, .ref h0_in, .ref h0_scores, .int (b2i b0_hasFamily), .ref h0_was, .ref h0_had])), (h0_level, .inl (cs 0, 261, .inl f0_level)), (h0_in, .inl (cs 1, 1800, .inl (bF f0_in))), (h0_scores, .inl (cs 2, 1800, .inr (.inl f0_scores))), (h0_was, .inl (cs 1, 200, .inl (bF f0_was))), (h0_had, .inl (cs 2, 200, .inr (.inl f0_had)))]
abbrev rm_X4_up : Room := { frames := 2, cells := 0, slots := 0, locals := 45 }
def call_X4_up (p1 : Int32) (p2 : Int32) (n0_thrown : Int32) (n0_objects : Int32) (n0_sets : Int32) (b0_hasFamily : Bool) (f0_level : Nat → Int32) (f0_in : Nat → Bool) (f0_scores : Nat → Int64) (f0_was : Nat → Bool) (f0_had : Nat → Int64) (Q : Int32 → Int32 → Bool → (Nat → Bool) → (Nat → Int64) → (Nat → Bool) → (Nat → Int64) → Prop) : Prop := ∀ (X23 : Int32 → Bool → (Nat → Bool) → (Nat → Int64) → (Nat → Bool) → (Nat → Int64) → Prop) (X47 : Int32 → Int32 → Bool → (Nat → Bool) → (Nat → Int64) → (Nat → Bool) → (Nat → Int64) → Prop) (X107 : Int32 → Int32 → Int32 → Bool → (Nat → Bool) → (Nat → Int64) → (Nat → Bool) → (Nat → Int64) → Prop) (X145 : Int32 → Int32 → Int64 → Int64 → Int64 → Int32 → Int32 → Int32 → Bool → (Nat → Bool) → (Nat → Int64) → (Nat → Bool) → (Nat → Int64) → Prop) (X205 : Int32 → Int32 → Int64 → Int64 → Int32 → Int32 → Int32 → Bool → (Nat → Bool) → (Nat → Int64) → (Nat → Bool) → (Nat → Int64) → Prop) (X217 : Int32 → Int32 → Int64 → Int64 → Int32 → Int32 → Int64 → Int32 → Bool → (Nat → Bool) → (Nat → Int64) → (Nat → Bool) → (Nat → Int64) → Prop) (X237 : Int32 → Int32 → Int64 → Int64 → Int32 → Int32 → Int32 → Bool → (Nat → Bool) → (Nat → Int64) → (Nat → Bool) → (Nat → Int64) → Prop) (X249 : Int32 → Int32 → Int64 → Int64 → Int32 → Int32 → Int64 → Int32 → Bool → (Nat → Bool) → (Nat → Int64) → (Nat → Bool) → (Nat → Int64) → Prop) (X254 : Int32 → Int32 → Int64 → Int64 → Int64 → Int32 → Int32 → Int32 → Bool → (Nat → Bool) → (Nat → Int64) → (Nat → Bool) → (Nat → Int64) → Prop) (X329 : Int32 → Int32 → Int64 → Int32 → Int32 → Bool → (Nat → Bool) → (Nat → Int64) → (Nat → Bool) → (Nat → Int64) → Prop) (X330 : Int32 → Int32 → Int32 → Bool → (Nat → Bool) → (Nat → Int64) → (Nat → Bool) → (Nat → Int64) → Prop),
    (∀ (n0_thrown : Int32) (b0_hasFamily : Bool) (f0_in : Nat → Bool) (f0_scores : Nat → Int64) (f0_was : Nat → Bool) (f0_had : Nat → Int64),
      Q (-2) n0_thrown b0_hasFamily f0_in f0_scores f0_was f0_had → X23 n0_thrown b0_hasFamily f0_in f0_scores f0_was f0_had) →
    (∀ (x3 : Int32) (n0_thrown : Int32) (b0_hasFamily : Bool) (f0_in : Nat → Bool) (f0_scores : Nat → Int64) (f0_was : Nat → Bool) (f0_had : Nat → Int64),
      ((n0_objects ≤ x3 → X107 (200 * (n0_sets - 1)) 0 n0_thrown b0_hasFamily f0_in f0_scores f0_was f0_had) ∧ (¬ n0_objects ≤ x3 → (∃ j69 : Nat, j69 < 200 ∧ x3 = nI j69 ∧ (∃ j70 : Nat, j70 < 1800 ∧ (1600 + x3) = nI j70 ∧ (∃ j85 : Nat, j85 < 200 ∧ x3 = nI j85 ∧ (∃ j86 : Nat, j86 < 1800 ∧ (1600 + x3) = nI j86 ∧ X47 (x3 + 1) n0_thrown b0_hasFamily (va_up f0_in j70 (f0_was j69)) (va_up f0_scores j86 (f0_had j85)) f0_was f0_had)))))) → X47 x3 n0_thrown b0_hasFamily f0_in f0_scores f0_was f0_had) →
    (∀ (x3 : Int32) (x4 : Int32) (n0_thrown : Int32) (b0_hasFamily : Bool) (f0_in : Nat → Bool) (f0_scores : Nat → Int64) (f0_was : Nat → Bool) (f0_had : Nat → Int64),
      ((n0_objects ≤ x4 → (call_X4_sizeOf (n0_sets - 1) n0_objects f0_in (fun (r343 : Int32) => Q r343 n0_thrown b0_hasFamily f0_in f0_scores f0_was f0_had))) ∧ (¬ n0_objects ≤ x4 → (∃ j122 : Nat, j122 < 261 ∧ x4 = nI j122 ∧ (((f0_level j122) = p1 → X145 x3 x4 0 0 0 0 0 n0_thrown b0_hasFamily f0_in f0_scores f0_was f0_had) ∧ (¬ (f0_level j122) = p1 → X330 x3 x4 n0_thrown b0_hasFamily f0_in f0_scores f0_was f0_had))))) → X107 x3 x4 n0_thrown b0_hasFamily f0_in f0_scores f0_was f0_had) →
    (∀ (x3 : Int32) (x4 : Int32) (x5 : Int64) (x7 : Int64) (x9 : Int64) (x11 : Int32) (x12 : Int32) (n0_thrown : Int32) (b0_hasFamily : Bool) (f0_in : Nat → Bool) (f0_scores : Nat → Int64) (f0_was : Nat → Bool) (f0_had : Nat → Int64),
      ((n0_objects ≤ x12 → ((x11 ≤ 0 → X330 x3 x4 n0_thrown b0_hasFamily f0_in f0_scores f0_was f0_had) ∧ (¬ x11 ≤ 0 → (∃ j274 : Nat, j274 < 1800 ∧ (x3 + x4) = nI j274 ∧ ((¬ p2 = 0 → ((¬ p2 = 1 → ((¬ p2 = 2 → ((¬ p2 = 3 → (¬ ((x11).toInt64) = 0 ∧ X329 x3 x4 (x5 / ((x11).toInt64)) (x3 + x4) n0_thrown b0_hasFamily (va_up f0_in j274 true) f0_scores f0_was f0_had)) ∧ (p2 = 3 → X329 x3 x4 ((x11).toInt64) (x3 + x4) n0_thrown b0_hasFamily (va_up f0_in j274 true) f0_scores f0_was f0_had))) ∧ (p2 = 2 → X329 x3 x4 x9 (x3 + x4) n0_thrown b0_hasFamily (va_up f0_in j274 true) f0_scores f0_was f0_had))) ∧ (p2 = 1 → X329 x3 x4 x7 (x3 + x4) n0_thrown b0_hasFamily (va_up f0_in j274 true) f0_scores f0_was f0_had))) ∧ (p2 = 0 → X329 x3 x4 x5 (x3 + x4) n0_thrown b0_hasFamily (va_up f0_in j274 true) f0_scores f0_was f0_had)))))) ∧ (¬ n0_objects ≤ x12 → (∃ j160 : Nat, j160 < 200 ∧ x12 = nI j160 ∧ (((f0_was j160) = false → X254 x3 x4 x5 x7 x9 x11 x12 n0_thrown b0_hasFamily f0_in f0_scores f0_was f0_had) ∧ ((f0_was j160) = true → (call_X4_isAbove x4 x12 f0_level (fun (r169 : Bool) => ((r169 = false → X254 x3 x4 x5 x7 x9 x11 x12 n0_thrown b0_hasFamily f0_in f0_scores f0_was f0_had) ∧ (r169 = true → (∃ j183 : Nat, j183 < 200 ∧ x12 = nI j183 ∧ ((x11 = 0 → X205 x3 x4 (x5 + (f0_had j183)) x9 x11 x12 n0_thrown b0_hasFamily f0_in f0_scores f0_was f0_had) ∧ (¬ x11 = 0 → (∃ j198 : Nat, j198 < 200 ∧ x12 = nI j198 ∧ (((f0_had j198) ≤ x7 → X217 x3 x4 (x5 + (f0_had j183)) x9 x11 x12 x7 n0_thrown b0_hasFamily f0_in f0_scores f0_was f0_had) ∧ (¬ (f0_had j198) ≤ x7 → X205 x3 x4 (x5 + (f0_had j183)) x9 x11 x12 n0_thrown b0_hasFamily f0_in f0_scores f0_was f0_had))))))))))))))) → X145 x3 x4 x5 x7 x9 x11 x12 n0_thrown b0_hasFamily f0_in f0_scores f0_was f0_had) →
    (∀ (x3 : Int32) (x4 : Int32) (x5 : Int64) (x9 : Int64) (x11 : Int32) (x12 : Int32) (n0_thrown : Int32) (b0_hasFamily : Bool) (f0_in : Nat → Bool) (f0_scores : Nat → Int64) (f0_was : Nat → Bool) (f0_had : Nat → Int64),
      (∃ j211 : Nat, j211 < 200 ∧ x12 = nI j211 ∧ X217 x3 x4 x5 x9 x11 x12 (f0_had j211) n0_thrown b0_hasFamily f0_in f0_scores f0_was f0_had) → X205 x3 x4 x5 x9 x11 x12 n0_thrown b0_hasFamily f0_in f0_scores f0_was f0_had) →
    (∀ (x3 : Int32) (x4 : Int32) (x5 : Int64) (x9 : Int64) (x11 : Int32) (x12 : Int32) (s0 : Int64) (n0_thrown : Int32) (b0_hasFamily : Bool) (f0_in : Nat → Bool) (f0_scores : Nat → Int64) (f0_was : Nat → Bool) (f0_had : Nat → Int64),
      ((x11 = 0 → X237 x3 x4 x5 s0 x11 x12 n0_thrown b0_hasFamily f0_in f0_scores f0_was f0_had) ∧ (¬ x11 = 0 → (∃ j230 : Nat, j230 < 200 ∧ x12 = nI j230 ∧ ((x9 ≤ (f0_had j230) → X249 x3 x4 x5 s0 x11 x12 x9 n0_thrown b0_hasFamily f0_in f0_scores f0_was f0_had) ∧ (¬ x9 ≤ (f0_had j230) → X237 x3 x4 x5 s0 x11 x12 n0_thrown b0_hasFamily f0_in f0_scores f0_was f0_had))))) → X217 x3 x4 x5 x9 x11 x12 s0 n0_thrown b0_hasFamily f0_in f0_scores f0_was f0_had) →
    (∀ (x3 : Int32) (x4 : Int32) (x5 : Int64) (x7 : Int64) (x11 : Int32) (x12 : Int32) (n0_thrown : Int32) (b0_hasFamily : Bool) (f0_in : Nat → Bool) (f0_scores : Nat → Int64) (f0_was : Nat → Bool) (f0_had : Nat → Int64),
      (∃ j243 : Nat, j243 < 200 ∧ x12 = nI j243 ∧ X249 x3 x4 x5 x7 x11 x12 (f0_had j243) n0_thrown b0_hasFamily f0_in f0_scores f0_was f0_had) → X237 x3 x4 x5 x7 x11 x12 n0_thrown b0_hasFamily f0_in f0_scores f0_was f0_had) →
    (∀ (x3 : Int32) (x4 : Int32) (x5 : Int64) (x7 : Int64) (x11 : Int32) (x12 : Int32) (s0 : Int64) (n0_thrown : Int32) (b0_hasFamily : Bool) (f0_in : Nat → Bool) (f0_scores : Nat → Int64) (f0_was : Nat → Bool) (f0_had : Nat → Int64),
      X254 x3 x4 x5 x7 s0 (x11 + 1) x12 n0_thrown b0_hasFamily f0_in f0_scores f0_was f0_had → X249 x3 x4 x5 x7 x11 x12 s0 n0_thrown b0_hasFamily f0_in f0_scores f0_was f0_had) →
    (∀ (x3 : Int32) (x4 : Int32) (x5 : Int64) (x7 : Int64) (x9 : Int64) (x11 : Int32) (x12 : Int32) (n0_thrown : Int32) (b0_hasFamily : Bool) (f0_in : Nat → Bool) (f0_scores : Nat → Int64) (f0_was : Nat → Bool) (f0_had : Nat → Int64),
      X145 x3 x4 x5 x7 x9 x11 (x12 + 1) n0_thrown b0_hasFamily f0_in f0_scores f0_was f0_had → X254 x3 x4 x5 x7 x9 x11 x12 n0_thrown b0_hasFamily f0_in f0_scores f0_was f0_had) →
    (∀ (x3 : Int32) (x4 : Int32) (s0 : Int64) (s1 : Int32) (n0_thrown : Int32) (b0_hasFamily : Bool) (f0_in : Nat → Bool) (f0_scores : Nat → Int64) (f0_was : Nat → Bool) (f0_had : Nat → Int64),
      (∃ j329 : Nat, j329 < 1800 ∧ s1 = nI j329 ∧ X330 x3 x4 n0_thrown b0_hasFamily f0_in (va_up f0_scores j329 s0) f0_was f0_had) → X329 x3 x4 s0 s1 n0_thrown b0_hasFamily f0_in f0_scores f0_was f0_had) →
    (∀ (x3 : Int32) (x4 : Int32) (n0_thrown : Int32) (b0_hasFamily : Bool) (f0_in : Nat → Bool) (f0_scores : Nat → Int64) (f0_was : Nat → Bool) (f0_had : Nat → Int64),
      X107 x3 (x4 + 1) n0_thrown b0_hasFamily f0_in f0_scores f0_was f0_had → X330 x3 x4 n0_thrown b0_hasFamily f0_in f0_scores f0_was f0_had) →
    (call_X4_isIn p1 1 2 (fun (r8 : Bool) => ((r8 = false → X23 0 b0_hasFamily f0_in f0_scores f0_was f0_had) ∧ (r8 = true → (call_X4_isIn p2 0 4 (fun (r17 : Bool) => ((r17 = true → ((¬ n0_sets = 0 → (call_X4_takeLast n0_objects n0_sets f0_in f0_scores f0_was f0_had (fun (f0_in_37 : Nat → Bool) (f0_scores_37 : Nat → Int64) (f0_was_37 : Nat → Bool) (f0_had_37 : Nat → Int64) => X47 0 0 true f0_in_37 f0_scores_37 f0_was_37 f0_had_37))) ∧ (n0_sets = 0 → Q (-3) 0 b0_hasFamily f0_in f0_scores f0_was f0_had))) ∧ (r17 = false → X23 0 b0_hasFamily f0_in f0_scores f0_was f0_had))))))))
set_option maxHeartbeats 4000000 in
set_option maxRecDepth 100000 in
theorem m_X4_up (l : Launch) (D : va_G) (cs : Nat → ClassId) (h0 : Nat) (h0_level : Nat) (h0_value : Nat) (h0_tags : Nat) (h0_link : Nat) (h0_key : Nat) (h0_lives : Nat) (h0_open : Nat) (h0_in : Nat) (h0_scores : Nat) (h0_was : Nat) (h0_had : Nat)  (p1 : Int32) (p2 : Int32) (n0_thrown : Int32) (n0_objects : Int32) (n0_opened : Int32) (n0_sets : Int32) (b0_hasFamily : Bool) (f0_level : Nat → Int32) (f0_in : Nat → Bool) (f0_scores : Nat → Int64) (f0_was : Nat → Bool) (f0_had : Nat → Int64) (Q : Int32 → Int32 → Bool → (Nat → Bool) → (Nat → Int64) → (Nat → Bool) → (Nat → Int64) → Prop) (h : call_X4_up p1 p2 n0_thrown n0_objects n0_sets b0_hasFamily f0_level f0_in f0_scores f0_was f0_had Q) : CtI l yX4_up wsX4_up rm_X4_up D cs [.ref h0, .int p1, .int p2] (pc_X4_up cs h0 h0_level h0_value h0_tags h0_link h0_key h0_lives h0_open h0_in h0_scores h0_was h0_had n0_thrown n0_objects n0_opened n0_sets b0_hasFamily f0_level f0_in f0_scores f0_was f0_had) (fun u : Int32 × Bool × (Nat → Bool) × (Nat → Int64) × (Nat → Bool) × (Nat → Int64) => (pc_X4_up cs h0 h0_level h0_value h0_tags h0_link h0_key h0_lives h0_open h0_in h0_scores h0_was h0_had u.1 n0_objects n0_opened n0_sets u.2.1 f0_level u.2.2.1 u.2.2.2.1 u.2.2.2.2.1 u.2.2.2.2.2)) (fun r u => Q r u.1 u.2.1 u.2.2.1 u.2.2.2.1 u.2.2.2.2.1 u.2.2.2.2.2) := by
  refine xo_I (S := Int32 × Bool × (Nat → Bool) × (Nat → Int64) × (Nat → Bool) × (Nat → Int64)) (cc := cX4_up) (maxL := 13) (own := RX4) (lv0 := [(0, .ref h0), (1, .int p1), (2, .int p2)]) (by decide) rfl rfl (Nat.le_of_ble_eq_true rfl) rfl ?_
  intro p e s m args below meth c A Z ls F hK hA hP hD hS hl RET
  unfold call_X4_up at h
  obtain ⟨X23, hX23⟩ : ∃ X : Int32 → Bool → (Nat → Bool) → (Nat → Int64) → (Nat → Bool) → (Nat → Int64) → Prop, ∀ (n0_thrown : Int32) (b0_hasFamily : Bool) (f0_in : Nat → Bool) (f0_scores : Nat → Int64) (f0_was : Nat → Bool) (f0_had : Nat → Int64), (X n0_thrown b0_hasFamily f0_in f0_scores f0_was f0_had ↔ ∀ (H : Heap) (locs : List Loc) (ls : Array Slot), va_P D vwCl (pc_X4_up cs h0 h0_level h0_value h0_tags h0_link h0_key h0_lives h0_open h0_in h0_scores h0_was h0_had n0_thrown n0_objects n0_opened n0_sets b0_hasFamily f0_level f0_in f0_scores f0_was f0_had) H → va_D A (pc_X4_up cs h0 h0_level h0_value h0_tags h0_link h0_key h0_lives h0_open h0_in h0_scores h0_was h0_had n0_thrown n0_objects n0_opened n0_sets b0_hasFamily f0_level f0_in f0_scores f0_was f0_had) → va_S A s.heap H locs → lv_has ls 13 [] → W p l e rm_X4_up s m args below meth c H locs 0 0 Z (F0 m 23 ls [])) := ⟨_, fun _ _ _ _ _ _ => Iff.rfl⟩
  obtain ⟨X47, hX47⟩ : ∃ X : Int32 → Int32 → Bool → (Nat → Bool) → (Nat → Int64) → (Nat → Bool) → (Nat → Int64) → Prop, ∀ (x3 : Int32) (n0_thrown : Int32) (b0_hasFamily : Bool) (f0_in : Nat → Bool) (f0_scores : Nat → Int64) (f0_was : Nat → Bool) (f0_had : Nat → Int64), (X x3 n0_thrown b0_hasFamily f0_in f0_scores f0_was f0_had ↔ ∀ (H : Heap) (locs : List Loc) (ls : Array Slot), va_P D vwCl (pc_X4_up cs h0 h0_level h0_value h0_tags h0_link h0_key h0_lives h0_open h0_in h0_scores h0_was h0_had n0_thrown n0_objects n0_opened n0_sets b0_hasFamily f0_level f0_in f0_scores f0_was f0_had) H → va_D A (pc_X4_up cs h0 h0_level h0_value h0_tags h0_link h0_key h0_lives h0_open h0_in h0_scores h0_was h0_had n0_thrown n0_objects n0_opened n0_sets b0_hasFamily f0_level f0_in f0_scores f0_was f0_had) → va_S A s.heap H locs → lv_has ls 13 [(0, .ref h0), (1, .int p1), (2, .int p2), (3, .int x3)] → W p l e rm_X4_up s m args below meth c H locs 0 0 Z (F0 m 47 ls [])) := ⟨_, fun _ _ _ _ _ _ _ => Iff.rfl⟩
  obtain ⟨X107, hX107⟩ : ∃ X : Int32 → Int32 → Int32 → Bool → (Nat → Bool) → (Nat → Int64) → (Nat → Bool) → (Nat → Int64) → Prop, ∀ (x3 : Int32) (x4 : Int32) (n0_thrown : Int32) (b0_hasFamily : Bool) (f0_in : Nat → Bool) (f0_scores : Nat → Int64) (f0_was : Nat → Bool) (f0_had : Nat → Int64), (X x3 x4 n0_thrown b0_hasFamily f0_in f0_scores f0_was f0_had ↔ ∀ (H : Heap) (locs : List Loc) (ls : Array Slot), va_P D vwCl (pc_X4_up cs h0 h0_level h0_value h0_tags h0_link h0_key h0_lives h0_open h0_in h0_scores h0_was h0_had n0_thrown n0_objects n0_opened n0_sets b0_hasFamily f0_level f0_in f0_scores f0_was f0_had) H → va_D A (pc_X4_up cs h0 h0_level h0_value h0_tags h0_link h0_key h0_lives h0_open h0_in h0_scores h0_was h0_had n0_thrown n0_objects n0_opened n0_sets b0_hasFamily f0_level f0_in f0_scores f0_was f0_had) → va_S A s.heap H locs → lv_has ls 13 [(0, .ref h0), (1, .int p1), (2, .int p2), (3, .int x3), (4, .int x4)] → W p l e rm_X4_up s m args below meth c H locs 0 0 Z (F0 m 107 ls [])) := ⟨_, fun _ _ _ _ _ _ _ _ => Iff.rfl⟩
  obtain ⟨X145, hX145⟩ : ∃ X : Int32 → Int32 → Int64 → Int64 → Int64 → Int32 → Int32 → Int32 → Bool → (Nat → Bool) → (Nat → Int64) → (Nat → Bool) → (Nat → Int64) → Prop, ∀ (x3 : Int32) (x4 : Int32) (x5 : Int64) (x7 : Int64) (x9 : Int64) (x11 : Int32) (x12 : Int32) (n0_thrown : Int32) (b0_hasFamily : Bool) (f0_in : Nat → Bool) (f0_scores : Nat → Int64) (f0_was : Nat → Bool) (f0_had : Nat → Int64), (X x3 x4 x5 x7 x9 x11 x12 n0_thrown b0_hasFamily f0_in f0_scores f0_was f0_had ↔ ∀ (H : Heap) (locs : List Loc) (ls : Array Slot), va_P D vwCl (pc_X4_up cs h0 h0_level h0_value h0_tags h0_link h0_key h0_lives h0_open h0_in h0_scores h0_was h0_had n0_thrown n0_objects n0_opened n0_sets b0_hasFamily f0_level f0_in f0_scores f0_was f0_had) H → va_D A (pc_X4_up cs h0 h0_level h0_value h0_tags h0_link h0_key h0_lives h0_open h0_in h0_scores h0_was h0_had n0_thrown n0_objects n0_opened n0_sets b0_hasFamily f0_level f0_in f0_scores f0_was f0_had) → va_S A s.heap H locs → lv_has ls 13 [(0, .ref h0), (1, .int p1), (2, .int p2), (3, .int x3), (4, .int x4), (5, .long x5), (7, .long x7), (9, .long x9), (11, .int x11), (12, .int x12)] → W p l e rm_X4_up s m args below meth c H locs 0 0 Z (F0 m 145 ls [])) := ⟨_, fun _ _ _ _ _ _ _ _ _ _ _ _ _ => Iff.rfl⟩
  obtain ⟨X205, hX205⟩ : ∃ X : Int32 → Int32 → Int64 → Int64 → Int32 → Int32 → Int32 → Bool → (Nat → Bool) → (Nat → Int64) → (Nat → Bool) → (Nat → Int64) → Prop, ∀ (x3 : Int32) (x4 : Int32) (x5 : Int64) (x9 : Int64) (x11 : Int32) (x12 : Int32) (n0_thrown : Int32) (b0_hasFamily : Bool) (f0_in : Nat → Bool) (f0_scores : Nat → Int64) (f0_was : Nat → Bool) (f0_had : Nat → Int64), (X x3 x4 x5 x9 x11 x12 n0_thrown b0_hasFamily f0_in f0_scores f0_was f0_had ↔ ∀ (H : Heap) (locs : List Loc) (ls : Array Slot), va_P D vwCl (pc_X4_up cs h0 h0_level h0_value h0_tags h0_link h0_key h0_lives h0_open h0_in h0_scores h0_was h0_had n0_thrown n0_objects n0_opened n0_sets b0_hasFamily f0_level f0_in f0_scores f0_was f0_had) H → va_D A (pc_X4_up cs h0 h0_level h0_value h0_tags h0_link h0_key h0_lives h0_open h0_in h0_scores h0_was h0_had n0_thrown n0_objects n0_opened n0_sets b0_hasFamily f0_level f0_in f0_scores f0_was f0_had) → va_S A s.heap H locs → lv_has ls 13 [(0, .ref h0), (1, .int p1), (2, .int p2), (3, .int x3), (4, .int x4), (5, .long x5), (9, .long x9), (11, .int x11), (12, .int x12)] → W p l e rm_X4_up s m args below meth c H locs 0 0 Z (F0 m 205 ls [])) := ⟨_, fun _ _ _ _ _ _ _ _ _ _ _ _ => Iff.rfl⟩
  obtain ⟨X217, hX217⟩ : ∃ X : Int32 → Int32 → Int64 → Int64 → Int32 → Int32 → Int64 → Int32 → Bool → (Nat → Bool) → (Nat → Int64) → (Nat → Bool) → (Nat → Int64) → Prop, ∀ (x3 : Int32) (x4 : Int32) (x5 : Int64) (x9 : Int64) (x11 : Int32) (x12 : Int32) (s0 : Int64) (n0_thrown : Int32) (b0_hasFamily : Bool) (f0_in : Nat → Bool) (f0_scores : Nat → Int64) (f0_was : Nat → Bool) (f0_had : Nat → Int64), (X x3 x4 x5 x9 x11 x12 s0 n0_thrown b0_hasFamily f0_in f0_scores f0_was f0_had ↔ ∀ (H : Heap) (locs : List Loc) (ls : Array Slot), va_P D vwCl (pc_X4_up cs h0 h0_level h0_value h0_tags h0_link h0_key h0_lives h0_open h0_in h0_scores h0_was h0_had n0_thrown n0_objects n0_opened n0_sets b0_hasFamily f0_level f0_in f0_scores f0_was f0_had) H → va_D A (pc_X4_up cs h0 h0_level h0_value h0_tags h0_link h0_key h0_lives h0_open h0_in h0_scores h0_was h0_had n0_thrown n0_objects n0_opened n0_sets b0_hasFamily f0_level f0_in f0_scores f0_was f0_had) → va_S A s.heap H locs → lv_has ls 13 [(0, .ref h0), (1, .int p1), (2, .int p2), (3, .int x3), (4, .int x4), (5, .long x5), (9, .long x9), (11, .int x11), (12, .int x12)] → W p l e rm_X4_up s m args below meth c H locs 0 0 Z (F0 m 217 ls [.long s0])) := ⟨_, fun _ _ _ _ _ _ _ _ _ _ _ _ _ => Iff.rfl⟩
  obtain ⟨X237, hX237⟩ : ∃ X : Int32 → Int32 → Int64 → Int64 → Int32 → Int32 → Int32 → Bool → (Nat → Bool) → (Nat → Int64) → (Nat → Bool) → (Nat → Int64) → Prop, ∀ (x3 : Int32) (x4 : Int32) (x5 : Int64) (x7 : Int64) (x11 : Int32) (x12 : Int32) (n0_thrown : Int32) (b0_hasFamily : Bool) (f0_in : Nat → Bool) (f0_scores : Nat → Int64) (f0_was : Nat → Bool) (f0_had : Nat → Int64), (X x3 x4 x5 x7 x11 x12 n0_thrown b0_hasFamily f0_in f0_scores f0_was f0_had ↔ ∀ (H : Heap) (locs : List Loc) (ls : Array Slot), va_P D vwCl (pc_X4_up cs h0 h0_level h0_value h0_tags h0_link h0_key h0_lives h0_open h0_in h0_scores h0_was h0_had n0_thrown n0_objects n0_opened n0_sets b0_hasFamily f0_level f0_in f0_scores f0_was f0_had) H → va_D A (pc_X4_up cs h0 h0_level h0_value h0_tags h0_link h0_key h0_lives h0_open h0_in h0_scores h0_was h0_had n0_thrown n0_objects n0_opened n0_sets b0_hasFamily f0_level f0_in f0_scores f0_was f0_had) → va_S A s.heap H locs → lv_has ls 13 [(0, .ref h0), (1, .int p1), (2, .int p2), (3, .int x3), (4, .int x4), (5, .long x5), (7, .long x7), (11, .int x11), (12, .int x12)] → W p l e rm_X4_up s m args below meth c H locs 0 0 Z (F0 m 237 ls [])) := ⟨_, fun _ _ _ _ _ _ _ _ _ _ _ _ => Iff.rfl⟩
  obtain ⟨X249, hX249⟩ : ∃ X : Int32 → Int32 → Int64 → Int64 → Int32 → Int32 → Int64 → Int32 → Bool → (Nat → Bool) → (Nat → Int64) → (Nat → Bool) → (Nat → Int64) → Prop, ∀ (x3 : Int32) (x4 : Int32) (x5 : Int64) (x7 : Int64) (x11 : Int32) (x12 : Int32) (s0 : Int64) (n0_thrown : Int32) (b0_hasFamily : Bool) (f0_in : Nat → Bool) (f0_scores : Nat → Int64) (f0_was : Nat → Bool) (f0_had : Nat → Int64), (X x3 x4 x5 x7 x11 x12 s0 n0_thrown b0_hasFamily f0_in f0_scores f0_was f0_had ↔ ∀ (H : Heap) (locs : List Loc) (ls : Array Slot), va_P D vwCl (pc_X4_up cs h0 h0_level h0_value h0_tags h0_link h0_key h0_lives h0_open h0_in h0_scores h0_was h0_had n0_thrown n0_objects n0_opened n0_sets b0_hasFamily f0_level f0_in f0_scores f0_was f0_had) H → va_D A (pc_X4_up cs h0 h0_level h0_value h0_tags h0_link h0_key h0_lives h0_open h0_in h0_scores h0_was h0_had n0_thrown n0_objects n0_opened n0_sets b0_hasFamily f0_level f0_in f0_scores f0_was f0_had) → va_S A s.heap H locs → lv_has ls 13 [(0, .ref h0), (1, .int p1), (2, .int p2), (3, .int x3), (4, .int x4), (5, .long x5), (7, .long x7), (11, .int x11), (12, .int x12)] → W p l e rm_X4_up s m args below meth c H locs 0 0 Z (F0 m 249 ls [.long s0])) := ⟨_, fun _ _ _ _ _ _ _ _ _ _ _ _ _ => Iff.rfl⟩
  obtain ⟨X254, hX254⟩ : ∃ X : Int32 → Int32 → Int64 → Int64 → Int64 → Int32 → Int32 → Int32 → Bool → (Nat → Bool) → (Nat → Int64) → (Nat → Bool) → (Nat → Int64) → Prop, ∀ (x3 : Int32) (x4 : Int32) (x5 : Int64) (x7 : Int64) (x9 : Int64) (x11 : Int32) (x12 : Int32) (n0_thrown : Int32) (b0_hasFamily : Bool) (f0_in : Nat → Bool) (f0_scores : Nat → Int64) (f0_was : Nat → Bool) (f0_had : Nat → Int64), (X x3 x4 x5 x7 x9 x11 x12 n0_thrown b0_hasFamily f0_in f0_scores f0_was f0_had ↔ ∀ (H : Heap) (locs : List Loc) (ls : Array Slot), va_P D vwCl (pc_X4_up cs h0 h0_level h0_value h0_tags h0_link h0_key h0_lives h0_open h0_in h0_scores h0_was h0_had n0_thrown n0_objects n0_opened n0_sets b0_hasFamily f0_level f0_in f0_scores f0_was f0_had) H → va_D A (pc_X4_up cs h0 h0_level h0_value h0_tags h0_link h0_key h0_lives h0_open h0_in h0_scores h0_was h0_had n0_thrown n0_objects n0_opened n0_sets b0_hasFamily f0_level f0_in f0_scores f0_was f0_had) → va_S A s.heap H locs → lv_has ls 13 [(0, .ref h0), (1, .int p1), (2, .int p2), (3, .int x3), (4, .int x4), (5, .long x5), (7, .long x7), (9, .long x9), (11, .int x11), (12, .int x12)] → W p l e rm_X4_up s m args below meth c H locs 0 0 Z (F0 m 254 ls [])) := ⟨_, fun _ _ _ _ _ _ _ _ _ _ _ _ _ => Iff.rfl⟩
  obtain ⟨X329, hX329⟩ : ∃ X : Int32 → Int32 → Int64 → Int32 → Int32 → Bool → (Nat → Bool) → (Nat → Int64) → (Nat → Bool) → (Nat → Int64) → Prop, ∀ (x3 : Int32) (x4 : Int32) (s0 : Int64) (s1 : Int32) (n0_thrown : Int32) (b0_hasFamily : Bool) (f0_in : Nat → Bool) (f0_scores : Nat → Int64) (f0_was : Nat → Bool) (f0_had : Nat → Int64), (X x3 x4 s0 s1 n0_thrown b0_hasFamily f0_in f0_scores f0_was f0_had ↔ ∀ (H : Heap) (locs : List Loc) (ls : Array Slot), va_P D vwCl (pc_X4_up cs h0 h0_level h0_value h0_tags h0_link h0_key h0_lives h0_open h0_in h0_scores h0_was h0_had n0_thrown n0_objects n0_opened n0_sets b0_hasFamily f0_level f0_in f0_scores f0_was f0_had) H → va_D A (pc_X4_up cs h0 h0_level h0_value h0_tags h0_link h0_key h0_lives h0_open h0_in h0_scores h0_was h0_had n0_thrown n0_objects n0_opened n0_sets b0_hasFamily f0_level f0_in f0_scores f0_was f0_had) → va_S A s.heap H locs → lv_has ls 13 [(0, .ref h0), (1, .int p1), (2, .int p2), (3, .int x3), (4, .int x4)] → W p l e rm_X4_up s m args below meth c H locs 0 0 Z (F0 m 329 ls [.long s0, .int s1, .ref h0_scores])) := ⟨_, fun _ _ _ _ _ _ _ _ _ _ => Iff.rfl⟩
  obtain ⟨X330, hX330⟩ : ∃ X : Int32 → Int32 → Int32 → Bool → (Nat → Bool) → (Nat → Int64) → (Nat → Bool) → (Nat → Int64) → Prop, ∀ (x3 : Int32) (x4 : Int32) (n0_thrown : Int32) (b0_hasFamily : Bool) (f0_in : Nat → Bool) (f0_scores : Nat → Int64) (f0_was : Nat → Bool) (f0_had : Nat → Int64), (X x3 x4 n0_thrown b0_hasFamily f0_in f0_scores f0_was f0_had ↔ ∀ (H : Heap) (locs : List Loc) (ls : Array Slot), va_P D vwCl (pc_X4_up cs h0 h0_level h0_value h0_tags h0_link h0_key h0_lives h0_open h0_in h0_scores h0_was h0_had n0_thrown n0_objects n0_opened n0_sets b0_hasFamily f0_level f0_in f0_scores f0_was f0_had) H → va_D A (pc_X4_up cs h0 h0_level h0_value h0_tags h0_link h0_key h0_lives h0_open h0_in h0_scores h0_was h0_had n0_thrown n0_objects n0_opened n0_sets b0_hasFamily f0_level f0_in f0_scores f0_was f0_had) → va_S A s.heap H locs → lv_has ls 13 [(0, .ref h0), (1, .int p1), (2, .int p2), (3, .int x3), (4, .int x4)] → W p l e rm_X4_up s m args below meth c H locs 0 0 Z (F0 m 330 ls [])) := ⟨_, fun _ _ _ _ _ _ _ _ => Iff.rfl⟩
  refine xt_cut (h X23 X47 X107 X145 X205 X217 X237 X249 X254 X329 X330 ?_ ?_ ?_ ?_ ?_ ?_ ?_ ?_ ?_ ?_ ?_) (fun hw => ?_)
  · intro n0_thrown b0_hasFamily f0_in f0_scores f0_was f0_had hw
    refine (hX23 _ _ _ _ _ _).mpr ?_
    intro H locs ls hP hD hS hl
    refine lv_bipush (v := (-2)) F.1 F.2.1 dX4_up_23 (by decide) ?_
    exact RET (-2) (n0_thrown, b0_hasFamily, f0_in, f0_scores, f0_was, f0_had) H locs 25 ls hw hP hD hS dX4_up_25
  · intro x3 n0_thrown b0_hasFamily f0_in f0_scores f0_was f0_had hw
    refine (hX47 _ _ _ _ _ _ _).mpr ?_
    intro H locs ls hP hD hS hl
    refine lv_iload_n F.1 F.2.1 dX4_up_47 rfl (lv_at hl 3 rfl) ?_
    refine lv_aload_n F.1 F.2.1 dX4_up_48 rfl (lv_at hl 0 rfl) ?_
    refine xi_get (C := RX4) (T := TX4) (N := 16) (v := .int n0_objects) F in_X4_up_X4 hK hP 0 rfl rfl 1 (by decide) fl_X4_up_49 rfl dX4_up_49 ?_
    refine lv_icmp_ge (tgt := 93) F.1 F.2.1 dX4_up_52 (by decide) (fun hc => ?_) (fun hc => ?_)
    · have hw := hw.1 hc
      refine lv_sipush (v := 200) F.1 F.2.1 dX4_up_93 (by decide) ?_
      refine lv_aload_n F.1 F.2.1 dX4_up_96 rfl (lv_at hl 0 rfl) ?_
      refine xi_get (C := RX4) (T := TX4) (N := 16) (v := .int n0_sets) F in_X4_up_X4 hK hP 0 rfl rfl 10 (by decide) fl_X4_up_59 rfl dX4_up_97 ?_
      refine lv_iconst (v := 1) F.1 F.2.1 dX4_up_100 (by decide) ?_
      refine lv_isub F.1 F.2.1 dX4_up_101 ?_
      refine lv_imul F.1 F.2.1 dX4_up_102 ?_
      refine lv_istore_n (lv' := [(3, .int (200 * (n0_sets - 1))), (0, .ref h0), (1, .int p1), (2, .int p2)]) F.1 F.2.1 dX4_up_103 rfl hl (by decide) rfl (fun ls hl => ?_)
      refine lv_iconst (v := 0) F.1 F.2.1 dX4_up_104 (by decide) ?_
      refine lv_istore (lv' := [(4, .int 0), (3, .int (200 * (n0_sets - 1))), (0, .ref h0), (1, .int p1), (2, .int p2)]) F.1 F.2.1 dX4_up_105 hl (by decide) rfl (fun ls hl => ?_)
      exact (hX107 _ _ _ _ _ _ _ _).mp hw H locs ls hP hD hS (lv_sub hl [2, 3, 4, 1, 0] rfl)
    · have hw := hw.2 hc
      refine lv_aload_n F.1 F.2.1 dX4_up_55 rfl (lv_at hl 0 rfl) ?_
      refine xi_get (C := RX4) (T := TX4) (N := 16) (v := .ref h0_in) F in_X4_up_X4 hK hP 0 rfl rfl 11 (by decide) fl_X4_up_32 rfl dX4_up_56 ?_
      refine lv_sipush (v := 1600) F.1 F.2.1 dX4_up_59 (by decide) ?_
      refine lv_iload_n F.1 F.2.1 dX4_up_62 rfl (lv_at hl 3 rfl) ?_
      refine lv_iadd F.1 F.2.1 dX4_up_63 ?_
      refine lv_aload_n F.1 F.2.1 dX4_up_64 rfl (lv_at hl 0 rfl) ?_
      refine xi_get (C := RX4) (T := TX4) (N := 16) (v := .ref h0_was) F in_X4_up_X4 hK hP 0 rfl rfl 14 (by decide) fl_X4_up_39 rfl dX4_up_65 ?_
      refine lv_iload_n F.1 F.2.1 dX4_up_68 rfl (lv_at hl 3 rfl) ?_
      obtain ⟨j69, hj, he, hw⟩ := hw
      refine xi_zald (j := j69) F hK hP 4 rfl (by decide) hj he dX4_up_69 ?_
      obtain ⟨j70, hj, he, hw⟩ := hw
      refine xi_zast (v := (f0_was j69)) (j := j70) F hK hP hD hS 2 rfl (by decide) hj he rfl dX4_up_70 (fun H locs hP hD hS => ?_)
      have hP : va_P D vwCl (pc_X4_up cs h0 h0_level h0_value h0_tags h0_link h0_key h0_lives h0_open h0_in h0_scores h0_was h0_had n0_thrown n0_objects n0_opened n0_sets b0_hasFamily f0_level (va_up f0_in j70 (f0_was j69)) f0_scores f0_was f0_had) H := hP
      have hD : va_D A (pc_X4_up cs h0 h0_level h0_value h0_tags h0_link h0_key h0_lives h0_open h0_in h0_scores h0_was h0_had n0_thrown n0_objects n0_opened n0_sets b0_hasFamily f0_level (va_up f0_in j70 (f0_was j69)) f0_scores f0_was f0_had) := hD
      refine lv_aload_n F.1 F.2.1 dX4_up_71 rfl (lv_at hl 0 rfl) ?_
      refine xi_get (C := RX4) (T := TX4) (N := 16) (v := .ref h0_scores) F in_X4_up_X4 hK hP 0 rfl rfl 12 (by decide) fl_X4_up_35 rfl dX4_up_72 ?_
      refine lv_sipush (v := 1600) F.1 F.2.1 dX4_up_75 (by decide) ?_
      refine lv_iload_n F.1 F.2.1 dX4_up_78 rfl (lv_at hl 3 rfl) ?_
      refine lv_iadd F.1 F.2.1 dX4_up_79 ?_
      refine lv_aload_n F.1 F.2.1 dX4_up_80 rfl (lv_at hl 0 rfl) ?_
      refine xi_get (C := RX4) (T := TX4) (N := 16) (v := .ref h0_had) F in_X4_up_X4 hK hP 0 rfl rfl 15 (by decide) fl_X4_up_42 rfl dX4_up_81 ?_
      refine lv_iload_n F.1 F.2.1 dX4_up_84 rfl (lv_at hl 3 rfl) ?_
      obtain ⟨j85, hj, he, hw⟩ := hw
      refine xi_lald (j := j85) F hK hP 5 rfl (by decide) hj he dX4_up_85 ?_
      obtain ⟨j86, hj, he, hw⟩ := hw
      refine xi_last (j := j86) F hK hP hD hS 3 rfl (by decide) hj he dX4_up_86 (fun H locs hP hD hS => ?_)
      have hP : va_P D vwCl (pc_X4_up cs h0 h0_level h0_value h0_tags h0_link h0_key h0_lives h0_open h0_in h0_scores h0_was h0_had n0_thrown n0_objects n0_opened n0_sets b0_hasFamily f0_level (va_up f0_in j70 (f0_was j69)) (va_up f0_scores j86 (f0_had j85)) f0_was f0_had) H := hP
      have hD : va_D A (pc_X4_up cs h0 h0_level h0_value h0_tags h0_link h0_key h0_lives h0_open h0_in h0_scores h0_was h0_had n0_thrown n0_objects n0_opened n0_sets b0_hasFamily f0_level (va_up f0_in j70 (f0_was j69)) (va_up f0_scores j86 (f0_had j85)) f0_was f0_had) := hD
      refine lv_iinc (v := (x3 + 1)) (lv' := [(3, .int (x3 + 1)), (0, .ref h0), (1, .int p1), (2, .int p2)]) F.1 F.2.1 dX4_up_87 hl (k := 3) rfl rfl (by decide) rfl (fun ls hl => ?_)
      refine lv_goto (tgt := 47) F.1 F.2.1 dX4_up_90 (by decide) ?_
      exact (hX47 _ _ _ _ _ _ _).mp hw H locs ls hP hD hS (lv_sub hl [1, 2, 3, 0] rfl)
  · intro x3 x4 n0_thrown b0_hasFamily f0_in f0_scores f0_was f0_had hw
    refine (hX107 _ _ _ _ _ _ _ _).mpr ?_
    intro H locs ls hP hD hS hl
    refine lv_iload F.1 F.2.1 dX4_up_107 (lv_at hl 4 rfl) ?_
    refine lv_aload_n F.1 F.2.1 dX4_up_109 rfl (lv_at hl 0 rfl) ?_
    refine xi_get (C := RX4) (T := TX4) (N := 16) (v := .int n0_objects) F in_X4_up_X4 hK hP 0 rfl rfl 1 (by decide) fl_X4_up_49 rfl dX4_up_110 ?_
    refine lv_icmp_ge (tgt := 336) F.1 F.2.1 dX4_up_113 (by decide) (fun hc => ?_) (fun hc => ?_)
    · have hw := hw.1 hc
      refine lv_aload_n F.1 F.2.1 dX4_up_336 rfl (lv_at hl 0 rfl) ?_
      refine lv_aload_n F.1 F.2.1 dX4_up_337 rfl (lv_at hl 0 rfl) ?_
      refine xi_get (C := RX4) (T := TX4) (N := 16) (v := .int n0_sets) F in_X4_up_X4 hK hP 0 rfl rfl 10 (by decide) fl_X4_up_59 rfl dX4_up_338 ?_
      refine lv_iconst (v := 1) F.1 F.2.1 dX4_up_341 (by decide) ?_
      refine lv_isub F.1 F.2.1 dX4_up_342 ?_
      refine xc_Vi (As := [.int (n0_sets - 1)]) (rest := []) (m_X4_sizeOf l D cs h0 h0_level h0_value h0_tags h0_link h0_key h0_lives h0_open h0_in h0_scores h0_was h0_had (n0_sets - 1) n0_thrown n0_objects n0_opened n0_sets b0_hasFamily f0_in _ hw) F (cwV 1 F.2.2.2.2 gX4_up_X4_sizeOf rfl rfl rfl (by decide +kernel) ⟨Nat.le_of_ble_eq_true rfl, Nat.le_of_ble_eq_true rfl⟩) hK hP hD hS hA [0, 2] [1, 3, 4, 5] rfl rfl 0 rfl rfl rfl hl.1 rfl (Nat.le_of_ble_eq_true rfl) dX4_up_343 ⟨Nat.zero_le _, Nat.zero_le _⟩ (fun r343 u H locs hw hP hD hS => ?_)
      have hP : va_P D vwCl (pc_X4_up cs h0 h0_level h0_value h0_tags h0_link h0_key h0_lives h0_open h0_in h0_scores h0_was h0_had n0_thrown n0_objects n0_opened n0_sets b0_hasFamily f0_level f0_in f0_scores f0_was f0_had) H := hP.sub [4, 0, 5, 1, 2, 3] rfl
      have hD : va_D A (pc_X4_up cs h0 h0_level h0_value h0_tags h0_link h0_key h0_lives h0_open h0_in h0_scores h0_was h0_had n0_thrown n0_objects n0_opened n0_sets b0_hasFamily f0_level f0_in f0_scores f0_was f0_had) := hD.sub [4, 0, 5, 1, 2, 3] (by decide) rfl
      try dsimp only at hw
      exact RET r343 (n0_thrown, b0_hasFamily, f0_in, f0_scores, f0_was, f0_had) H locs 346 ls hw hP hD hS dX4_up_346
    · have hw := hw.2 hc
      refine lv_aload_n F.1 F.2.1 dX4_up_116 rfl (lv_at hl 0 rfl) ?_
      refine xi_get (C := RX4) (T := TX4) (N := 16) (v := .ref h0_level) F in_X4_up_X4 hK hP 0 rfl rfl 2 (by decide) fl_X4_up_7 rfl dX4_up_117 ?_
      refine lv_iload F.1 F.2.1 dX4_up_120 (lv_at hl 4 rfl) ?_
      obtain ⟨j122, hj, he, hw⟩ := hw
      refine xi_iald (j := j122) F hK hP 1 rfl (by decide) hj he dX4_up_122 ?_
      refine lv_iload_n F.1 F.2.1 dX4_up_123 rfl (lv_at hl 1 rfl) ?_
      refine lv_icmp_eq (tgt := 130) F.1 F.2.1 dX4_up_124 (by decide) (fun hc => ?_) (fun hc => ?_)
      · have hw := hw.1 hc
        refine lv_lconst (v := 0) F.1 F.2.1 dX4_up_130 (by decide) ?_
        refine lv_lstore (lv' := [(5, .long 0), (0, .ref h0), (1, .int p1), (2, .int p2), (3, .int x3), (4, .int x4)]) F.1 F.2.1 dX4_up_131 hl (by decide) rfl (fun ls hl => ?_)
        refine lv_lconst (v := 0) F.1 F.2.1 dX4_up_133 (by decide) ?_
        refine lv_lstore (lv' := [(7, .long 0), (5, .long 0), (0, .ref h0), (1, .int p1), (2, .int p2), (3, .int x3), (4, .int x4)]) F.1 F.2.1 dX4_up_134 hl (by decide) rfl (fun ls hl => ?_)
        refine lv_lconst (v := 0) F.1 F.2.1 dX4_up_136 (by decide) ?_
        refine lv_lstore (lv' := [(9, .long 0), (7, .long 0), (5, .long 0), (0, .ref h0), (1, .int p1), (2, .int p2), (3, .int x3), (4, .int x4)]) F.1 F.2.1 dX4_up_137 hl (by decide) rfl (fun ls hl => ?_)
        refine lv_iconst (v := 0) F.1 F.2.1 dX4_up_139 (by decide) ?_
        refine lv_istore (lv' := [(11, .int 0), (9, .long 0), (7, .long 0), (5, .long 0), (0, .ref h0), (1, .int p1), (2, .int p2), (3, .int x3), (4, .int x4)]) F.1 F.2.1 dX4_up_140 hl (by decide) rfl (fun ls hl => ?_)
        refine lv_iconst (v := 0) F.1 F.2.1 dX4_up_142 (by decide) ?_
        refine lv_istore (lv' := [(12, .int 0), (11, .int 0), (9, .long 0), (7, .long 0), (5, .long 0), (0, .ref h0), (1, .int p1), (2, .int p2), (3, .int x3), (4, .int x4)]) F.1 F.2.1 dX4_up_143 hl (by decide) rfl (fun ls hl => ?_)
        exact (hX145 _ _ _ _ _ _ _ _ _ _ _ _ _).mp hw H locs ls hP hD hS (lv_sub hl [5, 6, 7, 8, 9, 4, 3, 2, 1, 0] rfl)
      · have hw := hw.2 hc
        refine lv_goto (tgt := 330) F.1 F.2.1 dX4_up_127 (by decide) ?_
        exact (hX330 _ _ _ _ _ _ _ _).mp hw H locs ls hP hD hS (lv_sub hl [0, 1, 2, 3, 4] rfl)
  · intro x3 x4 x5 x7 x9 x11 x12 n0_thrown b0_hasFamily f0_in f0_scores f0_was f0_had hw
    refine (hX145 _ _ _ _ _ _ _ _ _ _ _ _ _).mpr ?_
    intro H locs ls hP hD hS hl
    refine lv_iload F.1 F.2.1 dX4_up_145 (lv_at hl 9 rfl) ?_
    refine lv_aload_n F.1 F.2.1 dX4_up_147 rfl (lv_at hl 0 rfl) ?_
    refine xi_get (C := RX4) (T := TX4) (N := 16) (v := .int n0_objects) F in_X4_up_X4 hK hP 0 rfl rfl 1 (by decide) fl_X4_up_49 rfl dX4_up_148 ?_
    refine lv_icmp_ge (tgt := 260) F.1 F.2.1 dX4_up_151 (by decide) (fun hc => ?_) (fun hc => ?_)
    · have hw := hw.1 hc
      refine lv_iload F.1 F.2.1 dX4_up_260 (lv_at hl 8 rfl) ?_
      refine lv_if_le (tgt := 330) F.1 F.2.1 dX4_up_262 (by decide) (fun hc => ?_) (fun hc => ?_)
      · have hw := hw.1 hc
        exact (hX330 _ _ _ _ _ _ _ _).mp hw H locs ls hP hD hS (lv_sub hl [0, 1, 2, 3, 4] rfl)
      · have hw := hw.2 hc
        refine lv_aload_n F.1 F.2.1 dX4_up_265 rfl (lv_at hl 0 rfl) ?_
        refine xi_get (C := RX4) (T := TX4) (N := 16) (v := .ref h0_in) F in_X4_up_X4 hK hP 0 rfl rfl 11 (by decide) fl_X4_up_32 rfl dX4_up_266 ?_
        refine lv_iload_n F.1 F.2.1 dX4_up_269 rfl (lv_at hl 3 rfl) ?_
        refine lv_iload F.1 F.2.1 dX4_up_270 (lv_at hl 4 rfl) ?_
        refine lv_iadd F.1 F.2.1 dX4_up_272 ?_
        refine lv_iconst (v := 1) F.1 F.2.1 dX4_up_273 (by decide) ?_
        obtain ⟨j274, hj, he, hw⟩ := hw
        refine xi_zast (v := true) (j := j274) F hK hP hD hS 2 rfl (by decide) hj he rfl dX4_up_274 (fun H locs hP hD hS => ?_)
        have hP : va_P D vwCl (pc_X4_up cs h0 h0_level h0_value h0_tags h0_link h0_key h0_lives h0_open h0_in h0_scores h0_was h0_had n0_thrown n0_objects n0_opened n0_sets b0_hasFamily f0_level (va_up f0_in j274 true) f0_scores f0_was f0_had) H := hP
        have hD : va_D A (pc_X4_up cs h0 h0_level h0_value h0_tags h0_link h0_key h0_lives h0_open h0_in h0_scores h0_was h0_had n0_thrown n0_objects n0_opened n0_sets b0_hasFamily f0_level (va_up f0_in j274 true) f0_scores f0_was f0_had) := hD
        refine lv_aload_n F.1 F.2.1 dX4_up_275 rfl (lv_at hl 0 rfl) ?_
        refine xi_get (C := RX4) (T := TX4) (N := 16) (v := .ref h0_scores) F in_X4_up_X4 hK hP 0 rfl rfl 12 (by decide) fl_X4_up_35 rfl dX4_up_276 ?_
        refine lv_iload_n F.1 F.2.1 dX4_up_279 rfl (lv_at hl 3 rfl) ?_
        refine lv_iload F.1 F.2.1 dX4_up_280 (lv_at hl 4 rfl) ?_
        refine lv_iadd F.1 F.2.1 dX4_up_282 ?_
        refine lv_iload_n F.1 F.2.1 dX4_up_283 rfl (lv_at hl 2 rfl) ?_
        refine lv_if_ne (tgt := 292) F.1 F.2.1 dX4_up_284 (by decide) (fun hc => ?_) (fun hc => ?_)
        · have hw := hw.1 hc
          refine lv_iload_n F.1 F.2.1 dX4_up_292 rfl (lv_at hl 2 rfl) ?_
          refine lv_iconst (v := 1) F.1 F.2.1 dX4_up_293 (by decide) ?_
          refine lv_icmp_ne (tgt := 302) F.1 F.2.1 dX4_up_294 (by decide) (fun hc => ?_) (fun hc => ?_)
          · have hw := hw.1 hc
            refine lv_iload_n F.1 F.2.1 dX4_up_302 rfl (lv_at hl 2 rfl) ?_
            refine lv_iconst (v := 2) F.1 F.2.1 dX4_up_303 (by decide) ?_
            refine lv_icmp_ne (tgt := 312) F.1 F.2.1 dX4_up_304 (by decide) (fun hc => ?_) (fun hc => ?_)
            · have hw := hw.1 hc
              refine lv_iload_n F.1 F.2.1 dX4_up_312 rfl (lv_at hl 2 rfl) ?_
              refine lv_iconst (v := 3) F.1 F.2.1 dX4_up_313 (by decide) ?_
              refine lv_icmp_ne (tgt := 323) F.1 F.2.1 dX4_up_314 (by decide) (fun hc => ?_) (fun hc => ?_)
              · have hw := hw.1 hc
                refine lv_lload F.1 F.2.1 dX4_up_323 (lv_at hl 5 rfl) ?_
                refine lv_iload F.1 F.2.1 dX4_up_325 (lv_at hl 8 rfl) ?_
                refine lv_i2l (v := (x11).toInt64) F.1 F.2.1 dX4_up_327 rfl ?_
                obtain ⟨hne, hw⟩ := hw
                refine lv_ldiv F.1 F.2.1 dX4_up_328 hne ?_
                exact (hX329 _ _ _ _ _ _ _ _ _ _).mp hw H locs ls hP hD hS (lv_sub hl [0, 1, 2, 3, 4] rfl)
              · have hw := hw.2 hc
                refine lv_iload F.1 F.2.1 dX4_up_317 (lv_at hl 8 rfl) ?_
                refine lv_i2l (v := (x11).toInt64) F.1 F.2.1 dX4_up_319 rfl ?_
                refine lv_goto (tgt := 329) F.1 F.2.1 dX4_up_320 (by decide) ?_
                exact (hX329 _ _ _ _ _ _ _ _ _ _).mp hw H locs ls hP hD hS (lv_sub hl [0, 1, 2, 3, 4] rfl)
            · have hw := hw.2 hc
              refine lv_lload F.1 F.2.1 dX4_up_307 (lv_at hl 7 rfl) ?_
              refine lv_goto (tgt := 329) F.1 F.2.1 dX4_up_309 (by decide) ?_
              exact (hX329 _ _ _ _ _ _ _ _ _ _).mp hw H locs ls hP hD hS (lv_sub hl [0, 1, 2, 3, 4] rfl)
          · have hw := hw.2 hc
            refine lv_lload F.1 F.2.1 dX4_up_297 (lv_at hl 6 rfl) ?_
            refine lv_goto (tgt := 329) F.1 F.2.1 dX4_up_299 (by decide) ?_
            exact (hX329 _ _ _ _ _ _ _ _ _ _).mp hw H locs ls hP hD hS (lv_sub hl [0, 1, 2, 3, 4] rfl)
        · have hw := hw.2 hc
          refine lv_lload F.1 F.2.1 dX4_up_287 (lv_at hl 5 rfl) ?_
          refine lv_goto (tgt := 329) F.1 F.2.1 dX4_up_289 (by decide) ?_
          exact (hX329 _ _ _ _ _ _ _ _ _ _).mp hw H locs ls hP hD hS (lv_sub hl [0, 1, 2, 3, 4] rfl)
    · have hw := hw.2 hc
      refine lv_aload_n F.1 F.2.1 dX4_up_154 rfl (lv_at hl 0 rfl) ?_
      refine xi_get (C := RX4) (T := TX4) (N := 16) (v := .ref h0_was) F in_X4_up_X4 hK hP 0 rfl rfl 14 (by decide) fl_X4_up_39 rfl dX4_up_155 ?_
      refine lv_iload F.1 F.2.1 dX4_up_158 (lv_at hl 9 rfl) ?_
      obtain ⟨j160, hj, he, hw⟩ := hw
      refine xi_zald (j := j160) F hK hP 4 rfl (by decide) hj he dX4_up_160 ?_
      refine xi_ifeqz (tgt := 254) F dX4_up_161 (by decide) (fun hc => ?_) (fun hc => ?_)
      · have hw := hw.1 hc
        exact (hX254 _ _ _ _ _ _ _ _ _ _ _ _ _).mp hw H locs ls hP hD hS (lv_sub hl [0, 1, 2, 3, 4, 5, 6, 7, 8, 9] rfl)
      · have hw := hw.2 hc
        refine lv_aload_n F.1 F.2.1 dX4_up_164 rfl (lv_at hl 0 rfl) ?_
        refine lv_iload F.1 F.2.1 dX4_up_165 (lv_at hl 4 rfl) ?_
        refine lv_iload F.1 F.2.1 dX4_up_167 (lv_at hl 9 rfl) ?_
        refine xc_Vz (As := [.int x4, .int x12]) (rest := []) (m_X4_isAbove l D cs h0 h0_level h0_value h0_tags h0_link h0_key h0_lives h0_open h0_in h0_scores h0_was h0_had x4 x12 n0_thrown n0_objects n0_opened n0_sets b0_hasFamily f0_level _ hw) F (cwV 2 F.2.2.2.2 gX4_up_X4_isAbove rfl rfl rfl (by decide +kernel) ⟨Nat.le_of_ble_eq_true rfl, Nat.le_of_ble_eq_true rfl⟩) hK hP hD hS hA [0, 1] [2, 3, 4, 5] rfl rfl 0 rfl rfl rfl hl.1 rfl (Nat.le_of_ble_eq_true rfl) dX4_up_169 ⟨Nat.zero_le _, Nat.zero_le _⟩ (fun r169 u H locs hw hP hD hS => ?_)
        have hP : va_P D vwCl (pc_X4_up cs h0 h0_level h0_value h0_tags h0_link h0_key h0_lives h0_open h0_in h0_scores h0_was h0_had n0_thrown n0_objects n0_opened n0_sets b0_hasFamily f0_level f0_in f0_scores f0_was f0_had) H := hP.sub [4, 5, 0, 1, 2, 3] rfl
        have hD : va_D A (pc_X4_up cs h0 h0_level h0_value h0_tags h0_link h0_key h0_lives h0_open h0_in h0_scores h0_was h0_had n0_thrown n0_objects n0_opened n0_sets b0_hasFamily f0_level f0_in f0_scores f0_was f0_had) := hD.sub [4, 5, 0, 1, 2, 3] (by decide) rfl
        try dsimp only at hw
        refine xi_ifeqz (tgt := 254) F dX4_up_172 (by decide) (fun hc => ?_) (fun hc => ?_)
        · have hw := hw.1 hc
          exact (hX254 _ _ _ _ _ _ _ _ _ _ _ _ _).mp hw H locs ls hP hD hS (lv_sub hl [0, 1, 2, 3, 4, 5, 6, 7, 8, 9] rfl)
        · have hw := hw.2 hc
          refine lv_lload F.1 F.2.1 dX4_up_175 (lv_at hl 5 rfl) ?_
          refine lv_aload_n F.1 F.2.1 dX4_up_177 rfl (lv_at hl 0 rfl) ?_
          refine xi_get (C := RX4) (T := TX4) (N := 16) (v := .ref h0_had) F in_X4_up_X4 hK hP 0 rfl rfl 15 (by decide) fl_X4_up_42 rfl dX4_up_178 ?_
          refine lv_iload F.1 F.2.1 dX4_up_181 (lv_at hl 9 rfl) ?_
          obtain ⟨j183, hj, he, hw⟩ := hw
          refine xi_lald (j := j183) F hK hP 5 rfl (by decide) hj he dX4_up_183 ?_
          refine lv_ladd F.1 F.2.1 dX4_up_184 ?_
          refine lv_lstore (lv' := [(5, .long (x5 + (f0_had j183))), (0, .ref h0), (1, .int p1), (2, .int p2), (3, .int x3), (4, .int x4), (7, .long x7), (9, .long x9), (11, .int x11), (12, .int x12)]) F.1 F.2.1 dX4_up_185 hl (by decide) rfl (fun ls hl => ?_)
          refine lv_iload F.1 F.2.1 dX4_up_187 (lv_at hl 8 rfl) ?_
          refine lv_if_eq (tgt := 205) F.1 F.2.1 dX4_up_189 (by decide) (fun hc => ?_) (fun hc => ?_)
          · have hw := hw.1 hc
            exact (hX205 _ _ _ _ _ _ _ _ _ _ _ _).mp hw H locs ls hP hD hS (lv_sub hl [1, 2, 3, 4, 5, 0, 7, 8, 9] rfl)
          · have hw := hw.2 hc
            refine lv_aload_n F.1 F.2.1 dX4_up_192 rfl (lv_at hl 1 rfl) ?_
            refine xi_get (C := RX4) (T := TX4) (N := 16) (v := .ref h0_had) F in_X4_up_X4 hK hP 0 rfl rfl 15 (by decide) fl_X4_up_42 rfl dX4_up_193 ?_
            refine lv_iload F.1 F.2.1 dX4_up_196 (lv_at hl 9 rfl) ?_
            obtain ⟨j198, hj, he, hw⟩ := hw
            refine xi_lald (j := j198) F hK hP 5 rfl (by decide) hj he dX4_up_198 ?_
            refine lv_lload F.1 F.2.1 dX4_up_199 (lv_at hl 6 rfl) ?_
            refine xi_lcmp_le (tgt := 215) F dX4_up_201 dX4_up_202 (by decide) (fun hc => ?_) (fun hc => ?_)
            · have hw := hw.1 hc
              refine lv_lload F.1 F.2.1 dX4_up_215 (lv_at hl 6 rfl) ?_
              exact (hX217 _ _ _ _ _ _ _ _ _ _ _ _ _).mp hw H locs ls hP hD hS (lv_sub hl [1, 2, 3, 4, 5, 0, 7, 8, 9] rfl)
            · have hw := hw.2 hc
              exact (hX205 _ _ _ _ _ _ _ _ _ _ _ _).mp hw H locs ls hP hD hS (lv_sub hl [1, 2, 3, 4, 5, 0, 7, 8, 9] rfl)
  · intro x3 x4 x5 x9 x11 x12 n0_thrown b0_hasFamily f0_in f0_scores f0_was f0_had hw
    refine (hX205 _ _ _ _ _ _ _ _ _ _ _ _).mpr ?_
    intro H locs ls hP hD hS hl
    refine lv_aload_n F.1 F.2.1 dX4_up_205 rfl (lv_at hl 0 rfl) ?_
    refine xi_get (C := RX4) (T := TX4) (N := 16) (v := .ref h0_had) F in_X4_up_X4 hK hP 0 rfl rfl 15 (by decide) fl_X4_up_42 rfl dX4_up_206 ?_
    refine lv_iload F.1 F.2.1 dX4_up_209 (lv_at hl 8 rfl) ?_
    obtain ⟨j211, hj, he, hw⟩ := hw
    refine xi_lald (j := j211) F hK hP 5 rfl (by decide) hj he dX4_up_211 ?_
    refine lv_goto (tgt := 217) F.1 F.2.1 dX4_up_212 (by decide) ?_
    exact (hX217 _ _ _ _ _ _ _ _ _ _ _ _ _).mp hw H locs ls hP hD hS (lv_sub hl [0, 1, 2, 3, 4, 5, 6, 7, 8] rfl)
  · intro x3 x4 x5 x9 x11 x12 s0 n0_thrown b0_hasFamily f0_in f0_scores f0_was f0_had hw
    refine (hX217 _ _ _ _ _ _ _ _ _ _ _ _ _).mpr ?_
    intro H locs ls hP hD hS hl
    refine lv_lstore (lv' := [(7, .long s0), (0, .ref h0), (1, .int p1), (2, .int p2), (3, .int x3), (4, .int x4), (5, .long x5), (9, .long x9), (11, .int x11), (12, .int x12)]) F.1 F.2.1 dX4_up_217 hl (by decide) rfl (fun ls hl => ?_)
    refine lv_iload F.1 F.2.1 dX4_up_219 (lv_at hl 8 rfl) ?_
    refine lv_if_eq (tgt := 237) F.1 F.2.1 dX4_up_221 (by decide) (fun hc => ?_) (fun hc => ?_)
    · have hw := hw.1 hc
      exact (hX237 _ _ _ _ _ _ _ _ _ _ _ _).mp hw H locs ls hP hD hS (lv_sub hl [1, 2, 3, 4, 5, 6, 0, 8, 9] rfl)
    · have hw := hw.2 hc
      refine lv_aload_n F.1 F.2.1 dX4_up_224 rfl (lv_at hl 1 rfl) ?_
      refine xi_get (C := RX4) (T := TX4) (N := 16) (v := .ref h0_had) F in_X4_up_X4 hK hP 0 rfl rfl 15 (by decide) fl_X4_up_42 rfl dX4_up_225 ?_
      refine lv_iload F.1 F.2.1 dX4_up_228 (lv_at hl 9 rfl) ?_
      obtain ⟨j230, hj, he, hw⟩ := hw
      refine xi_lald (j := j230) F hK hP 5 rfl (by decide) hj he dX4_up_230 ?_
      refine lv_lload F.1 F.2.1 dX4_up_231 (lv_at hl 7 rfl) ?_
      refine xi_lcmp_ge (tgt := 247) F dX4_up_233 dX4_up_234 (by decide) (fun hc => ?_) (fun hc => ?_)
      · have hw := hw.1 hc
        refine lv_lload F.1 F.2.1 dX4_up_247 (lv_at hl 7 rfl) ?_
        exact (hX249 _ _ _ _ _ _ _ _ _ _ _ _ _).mp hw H locs ls hP hD hS (lv_sub hl [1, 2, 3, 4, 5, 6, 0, 8, 9] rfl)
      · have hw := hw.2 hc
        exact (hX237 _ _ _ _ _ _ _ _ _ _ _ _).mp hw H locs ls hP hD hS (lv_sub hl [1, 2, 3, 4, 5, 6, 0, 8, 9] rfl)
  · intro x3 x4 x5 x7 x11 x12 n0_thrown b0_hasFamily f0_in f0_scores f0_was f0_had hw
    refine (hX237 _ _ _ _ _ _ _ _ _ _ _ _).mpr ?_
    intro H locs ls hP hD hS hl
    refine lv_aload_n F.1 F.2.1 dX4_up_237 rfl (lv_at hl 0 rfl) ?_
    refine xi_get (C := RX4) (T := TX4) (N := 16) (v := .ref h0_had) F in_X4_up_X4 hK hP 0 rfl rfl 15 (by decide) fl_X4_up_42 rfl dX4_up_238 ?_
    refine lv_iload F.1 F.2.1 dX4_up_241 (lv_at hl 8 rfl) ?_
    obtain ⟨j243, hj, he, hw⟩ := hw
    refine xi_lald (j := j243) F hK hP 5 rfl (by decide) hj he dX4_up_243 ?_
    refine lv_goto (tgt := 249) F.1 F.2.1 dX4_up_244 (by decide) ?_
    exact (hX249 _ _ _ _ _ _ _ _ _ _ _ _ _).mp hw H locs ls hP hD hS (lv_sub hl [0, 1, 2, 3, 4, 5, 6, 7, 8] rfl)
  · intro x3 x4 x5 x7 x11 x12 s0 n0_thrown b0_hasFamily f0_in f0_scores f0_was f0_had hw
    refine (hX249 _ _ _ _ _ _ _ _ _ _ _ _ _).mpr ?_
    intro H locs ls hP hD hS hl
    refine lv_lstore (lv' := [(9, .long s0), (0, .ref h0), (1, .int p1), (2, .int p2), (3, .int x3), (4, .int x4), (5, .long x5), (7, .long x7), (11, .int x11), (12, .int x12)]) F.1 F.2.1 dX4_up_249 hl (by decide) rfl (fun ls hl => ?_)
    refine lv_iinc (v := (x11 + 1)) (lv' := [(11, .int (x11 + 1)), (9, .long s0), (0, .ref h0), (1, .int p1), (2, .int p2), (3, .int x3), (4, .int x4), (5, .long x5), (7, .long x7), (12, .int x12)]) F.1 F.2.1 dX4_up_251 hl (k := 8) rfl rfl (by decide) rfl (fun ls hl => ?_)
    exact (hX254 _ _ _ _ _ _ _ _ _ _ _ _ _).mp hw H locs ls hP hD hS (lv_sub hl [2, 3, 4, 5, 6, 7, 8, 1, 0, 9] rfl)
  · intro x3 x4 x5 x7 x9 x11 x12 n0_thrown b0_hasFamily f0_in f0_scores f0_was f0_had hw
    refine (hX254 _ _ _ _ _ _ _ _ _ _ _ _ _).mpr ?_
    intro H locs ls hP hD hS hl
    refine lv_iinc (v := (x12 + 1)) (lv' := [(12, .int (x12 + 1)), (0, .ref h0), (1, .int p1), (2, .int p2), (3, .int x3), (4, .int x4), (5, .long x5), (7, .long x7), (9, .long x9), (11, .int x11)]) F.1 F.2.1 dX4_up_254 hl (k := 9) rfl rfl (by decide) rfl (fun ls hl => ?_)
    refine lv_goto (tgt := 145) F.1 F.2.1 dX4_up_257 (by decide) ?_
    exact (hX145 _ _ _ _ _ _ _ _ _ _ _ _ _).mp hw H locs ls hP hD hS (lv_sub hl [1, 2, 3, 4, 5, 6, 7, 8, 9, 0] rfl)
  · intro x3 x4 s0 s1 n0_thrown b0_hasFamily f0_in f0_scores f0_was f0_had hw
    refine (hX329 _ _ _ _ _ _ _ _ _ _).mpr ?_
    intro H locs ls hP hD hS hl
    obtain ⟨j329, hj, he, hw⟩ := hw
    refine xi_last (j := j329) F hK hP hD hS 3 rfl (by decide) hj he dX4_up_329 (fun H locs hP hD hS => ?_)
    have hP : va_P D vwCl (pc_X4_up cs h0 h0_level h0_value h0_tags h0_link h0_key h0_lives h0_open h0_in h0_scores h0_was h0_had n0_thrown n0_objects n0_opened n0_sets b0_hasFamily f0_level f0_in (va_up f0_scores j329 s0) f0_was f0_had) H := hP
    have hD : va_D A (pc_X4_up cs h0 h0_level h0_value h0_tags h0_link h0_key h0_lives h0_open h0_in h0_scores h0_was h0_had n0_thrown n0_objects n0_opened n0_sets b0_hasFamily f0_level f0_in (va_up f0_scores j329 s0) f0_was f0_had) := hD
    exact (hX330 _ _ _ _ _ _ _ _).mp hw H locs ls hP hD hS (lv_sub hl [0, 1, 2, 3, 4] rfl)
  · intro x3 x4 n0_thrown b0_hasFamily f0_in f0_scores f0_was f0_had hw
    refine (hX330 _ _ _ _ _ _ _ _).mpr ?_
    intro H locs ls hP hD hS hl
    refine lv_iinc (v := (x4 + 1)) (lv' := [(4, .int (x4 + 1)), (0, .ref h0), (1, .int p1), (2, .int p2), (3, .int x3)]) F.1 F.2.1 dX4_up_330 hl (k := 4) rfl rfl (by decide) rfl (fun ls hl => ?_)
    refine lv_goto (tgt := 107) F.1 F.2.1 dX4_up_333 (by decide) ?_
    exact (hX107 _ _ _ _ _ _ _ _).mp hw H locs ls hP hD hS (lv_sub hl [1, 2, 3, 4, 0] rfl)
  generalize ([] : List Loc) = locs at hS ⊢
  obtain ⟨H, hHe⟩ : ∃ H, H = s.heap := ⟨_, rfl⟩
  have hP : va_P D vwCl (pc_X4_up cs h0 h0_level h0_value h0_tags h0_link h0_key h0_lives h0_open h0_in h0_scores h0_was h0_had n0_thrown n0_objects n0_opened n0_sets b0_hasFamily f0_level f0_in f0_scores f0_was f0_had) H := by rw [hHe]; exact hP
  have hS : va_S A s.heap H locs := by rw [hHe]; exact hS
  suffices W p l e rm_X4_up s m args below meth c H locs 0 0 Z (F0 m 0 ls []) by rw [hHe] at this; exact this
  refine lv_aload_n F.1 F.2.1 dX4_up_0 rfl (lv_at hl 0 rfl) ?_
  refine lv_iconst (v := 0) F.1 F.2.1 dX4_up_1 (by decide) ?_
  refine xi_put (C := RX4) (T := TX4) (N := 16) (v := .int 0) (ty := .int) F in_X4_up_X4 tyX4 tyX4_ok nmX4 hK hP hD hS 0 rfl rfl 0 (by decide) fl_X4_up_45 rfl (tyX4_ok 0 (by decide)) rfl rfl (Nat.le_of_ble_eq_true rfl) dX4_up_2 (fun H locs hP hD hS => ?_)
  have hP : va_P D vwCl (pc_X4_up cs h0 h0_level h0_value h0_tags h0_link h0_key h0_lives h0_open h0_in h0_scores h0_was h0_had 0 n0_objects n0_opened n0_sets b0_hasFamily f0_level f0_in f0_scores f0_was f0_had) H := hP
  have hD : va_D A (pc_X4_up cs h0 h0_level h0_value h0_tags h0_link h0_key h0_lives h0_open h0_in h0_scores h0_was h0_had 0 n0_objects n0_opened n0_sets b0_hasFamily f0_level f0_in f0_scores f0_was f0_had) := hD
  refine lv_iload_n F.1 F.2.1 dX4_up_5 rfl (lv_at hl 1 rfl) ?_
  refine lv_iconst (v := 1) F.1 F.2.1 dX4_up_6 (by decide) ?_
  refine lv_iconst (v := 2) F.1 F.2.1 dX4_up_7 (by decide) ?_
  refine xc_Sz (As := [.int p1, .int 1, .int 2]) (rest := []) (m_X4_isIn l D cs p1 1 2 _ hw) F (va_cwS 3 F.2.2.2.2 gX4_up_X4_isIn rfl rfl rfl (by decide +kernel) ⟨Nat.le_of_ble_eq_true rfl, Nat.le_of_ble_eq_true rfl⟩) hK hP hD hS hA [] [0, 1, 2, 3, 4, 5] rfl rfl rfl hl.1 rfl (Nat.le_of_ble_eq_true rfl) dX4_up_8 ⟨Nat.zero_le _, Nat.zero_le _⟩ (fun r8 u H locs hw hP hD hS => ?_)
  have hP : va_P D vwCl (pc_X4_up cs h0 h0_level h0_value h0_tags h0_link h0_key h0_lives h0_open h0_in h0_scores h0_was h0_had 0 n0_objects n0_opened n0_sets b0_hasFamily f0_level f0_in f0_scores f0_was f0_had) H := hP.sub [0, 1, 2, 3, 4, 5] rfl
  have hD : va_D A (pc_X4_up cs h0 h0_level h0_value h0_tags h0_link h0_key h0_lives h0_open h0_in h0_scores h0_was h0_had 0 n0_objects n0_opened n0_sets b0_hasFamily f0_level f0_in f0_scores f0_was f0_had) := hD.sub [0, 1, 2, 3, 4, 5] (by decide) rfl
  try dsimp only at hw
  refine xi_ifeqz (tgt := 23) F dX4_up_11 (by decide) (fun hc => ?_) (fun hc => ?_)
  · have hw := hw.1 hc
    exact (hX23 _ _ _ _ _ _).mp hw H locs ls hP hD hS (lv_sub hl [] rfl)
  · have hw := hw.2 hc
    refine lv_iload_n F.1 F.2.1 dX4_up_14 rfl (lv_at hl 2 rfl) ?_
    refine lv_iconst (v := 0) F.1 F.2.1 dX4_up_15 (by decide) ?_
    refine lv_iconst (v := 4) F.1 F.2.1 dX4_up_16 (by decide) ?_
    refine xc_Sz (As := [.int p2, .int 0, .int 4]) (rest := []) (m_X4_isIn l D cs p2 0 4 _ hw) F (va_cwS 3 F.2.2.2.2 gX4_up_X4_isIn rfl rfl rfl (by decide +kernel) ⟨Nat.le_of_ble_eq_true rfl, Nat.le_of_ble_eq_true rfl⟩) hK hP hD hS hA [] [0, 1, 2, 3, 4, 5] rfl rfl rfl hl.1 rfl (Nat.le_of_ble_eq_true rfl) dX4_up_17 ⟨Nat.zero_le _, Nat.zero_le _⟩ (fun r17 u H locs hw hP hD hS => ?_)
    have hP : va_P D vwCl (pc_X4_up cs h0 h0_level h0_value h0_tags h0_link h0_key h0_lives h0_open h0_in h0_scores h0_was h0_had 0 n0_objects n0_opened n0_sets b0_hasFamily f0_level f0_in f0_scores f0_was f0_had) H := hP.sub [0, 1, 2, 3, 4, 5] rfl
    have hD : va_D A (pc_X4_up cs h0 h0_level h0_value h0_tags h0_link h0_key h0_lives h0_open h0_in h0_scores h0_was h0_had 0 n0_objects n0_opened n0_sets b0_hasFamily f0_level f0_in f0_scores f0_was f0_had) := hD.sub [0, 1, 2, 3, 4, 5] (by decide) rfl
    try dsimp only at hw
    refine xi_ifnez (tgt := 26) F dX4_up_20 (by decide) (fun hc => ?_) (fun hc => ?_)
    · have hw := hw.1 hc
      refine lv_aload_n F.1 F.2.1 dX4_up_26 rfl (lv_at hl 0 rfl) ?_
      refine xi_get (C := RX4) (T := TX4) (N := 16) (v := .int n0_sets) F in_X4_up_X4 hK hP 0 rfl rfl 10 (by decide) fl_X4_up_59 rfl dX4_up_27 ?_
      refine lv_if_ne (tgt := 36) F.1 F.2.1 dX4_up_30 (by decide) (fun hc => ?_) (fun hc => ?_)
      · have hw := hw.1 hc
        refine lv_aload_n F.1 F.2.1 dX4_up_36 rfl (lv_at hl 0 rfl) ?_
        refine xc_Vv (As := []) (rest := []) (m_X4_takeLast l D cs h0 h0_level h0_value h0_tags h0_link h0_key h0_lives h0_open h0_in h0_scores h0_was h0_had 0 n0_objects n0_opened n0_sets b0_hasFamily f0_in f0_scores f0_was f0_had _ hw) F (cwV 0 F.2.2.2.2 gX4_up_X4_takeLast rfl rfl rfl (by decide +kernel) ⟨Nat.le_of_ble_eq_true rfl, Nat.le_of_ble_eq_true rfl⟩) hK hP hD hS hA [0, 2, 3, 4, 5] [1] rfl rfl 0 rfl rfl rfl hl.1 rfl (Nat.le_of_ble_eq_true rfl) dX4_up_37 ⟨Nat.zero_le _, Nat.zero_le _⟩ (fun u H locs hw hP hD hS => ?_)
        obtain ⟨f0_in_37, f0_scores_37, f0_was_37, f0_had_37⟩ := u
        have hP : va_P D vwCl (pc_X4_up cs h0 h0_level h0_value h0_tags h0_link h0_key h0_lives h0_open h0_in h0_scores h0_was h0_had 0 n0_objects n0_opened n0_sets b0_hasFamily f0_level f0_in_37 f0_scores_37 f0_was_37 f0_had_37) H := hP.sub [1, 0, 2, 3, 4, 5] rfl
        have hD : va_D A (pc_X4_up cs h0 h0_level h0_value h0_tags h0_link h0_key h0_lives h0_open h0_in h0_scores h0_was h0_had 0 n0_objects n0_opened n0_sets b0_hasFamily f0_level f0_in_37 f0_scores_37 f0_was_37 f0_had_37) := hD.sub [1, 0, 2, 3, 4, 5] (by decide) rfl
        try dsimp only at hw
        refine lv_aload_n F.1 F.2.1 dX4_up_40 rfl (lv_at hl 0 rfl) ?_
        refine lv_iconst (v := 1) F.1 F.2.1 dX4_up_41 (by decide) ?_
        refine xi_put (C := RX4) (T := TX4) (N := 16) (v := .int (b2i true)) (ty := .boolean) F in_X4_up_X4 tyX4 tyX4_ok nmX4 hK hP hD hS 0 rfl rfl 13 (by decide) fl_X4_up_62 rfl (tyX4_ok 13 (by decide)) (b2i_narrow _) (b2i_fits _) (Nat.le_of_ble_eq_true rfl) dX4_up_42 (fun H locs hP hD hS => ?_)
        have hP : va_P D vwCl (pc_X4_up cs h0 h0_level h0_value h0_tags h0_link h0_key h0_lives h0_open h0_in h0_scores h0_was h0_had 0 n0_objects n0_opened n0_sets true f0_level f0_in_37 f0_scores_37 f0_was_37 f0_had_37) H := hP
        have hD : va_D A (pc_X4_up cs h0 h0_level h0_value h0_tags h0_link h0_key h0_lives h0_open h0_in h0_scores h0_was h0_had 0 n0_objects n0_opened n0_sets true f0_level f0_in_37 f0_scores_37 f0_was_37 f0_had_37) := hD
        refine lv_iconst (v := 0) F.1 F.2.1 dX4_up_45 (by decide) ?_
        refine lv_istore_n (lv' := [(3, .int 0), (0, .ref h0), (1, .int p1), (2, .int p2)]) F.1 F.2.1 dX4_up_46 rfl hl (by decide) rfl (fun ls hl => ?_)
        exact (hX47 _ _ _ _ _ _ _).mp hw H locs ls hP hD hS (lv_sub hl [1, 2, 3, 0] rfl)
      · have hw := hw.2 hc
        refine lv_bipush (v := (-3)) F.1 F.2.1 dX4_up_33 (by decide) ?_
        exact RET (-3) (0, b0_hasFamily, f0_in, f0_scores, f0_was, f0_had) H locs 35 ls hw hP hD hS dX4_up_35
    · have hw := hw.2 hc
      exact (hX23 _ _ _ _ _ _).mp hw H locs ls hP hD hS (lv_sub hl [] rfl)

theorem in_X4_down_X4 : ∀ w ∈ wsX40, w ∈ wsX4_down := by decide +kernel
theorem fl_X4_down_49 : Cond.fieldLink RX4 49 "JoinBlocksModel" "objects" "I" ∈ wsX4_down := by decide +kernel
theorem fl_X4_down_59 : Cond.fieldLink RX4 59 "JoinBlocksModel" "sets" "I" ∈ wsX4_down := by decide +kernel
theorem fl_X4_down_7 : Cond.fieldLink RX4 7 "JoinBlocksModel" "level" "[I" ∈ wsX4_down := by decide +kernel
theorem fl_X4_down_39 : Cond.fieldLink RX4 39 "JoinBlocksModel" "was" "[Z" ∈ wsX4_down := by decide +kernel
theorem fl_X4_down_32 : Cond.fieldLink RX4 32 "JoinBlocksModel" "in" "[Z" ∈ wsX4_down := by decide +kernel
theorem fl_X4_down_35 : Cond.fieldLink RX4 35 "JoinBlocksModel" "scores" "[J" ∈ wsX4_down := by decide +kernel
theorem fl_X4_down_42 : Cond.fieldLink RX4 42 "JoinBlocksModel" "had" "[J" ∈ wsX4_down := by decide +kernel
theorem fl_X4_down_45 : Cond.fieldLink RX4 45 "JoinBlocksModel" "thrown" "I" ∈ wsX4_down := by decide +kernel
abbrev pc_X4_down (cs : Nat → ClassId) (h0 : Nat) (h0_level : Nat) (h0_value : Nat) (h0_tags : Nat) (h0_link : Nat) (h0_key : Nat) (h0_lives : Nat) (h0_open : Nat) (h0_in : Nat) (h0_scores : Nat) (h0_was : Nat) (h0_had : Nat) (n0_thrown : Int32) (n0_objects : Int32) (n0_opened : Int32) (n0_sets : Int32) (b0_hasFamily : Bool) (f0_level : Nat → Int32) (f0_in : Nat → Bool) (f0_scores : Nat → Int64) (f0_was : Nat → Bool) (f0_had : Nat → Int64) : va_W := [(h0, .inr (4, [.int n0_thrown, .int n0_objects, .ref h0_level, .ref h0_value, .ref h0_tags, .ref h0_link, .ref h0_key, .ref h0_lives, .int n0_opened, .ref h0_open, .int n0_sets, .ref h0_in, .ref h0_scores, .int (b2i b0_hasFamily), .ref h0_was, .ref h0_had])), (h0_level, .inl (cs 0, 261, .inl f0_level)), (h0_in, .inl (cs 1, 1800, .inl (bF f0_in))), (h0_scores, .inl (cs 2, 1800, .inr (.inl f0_scores))), (h0_was, .inl (cs 1, 200, .inl (bF f0_was))), (h0_had, .inl (cs 2, 200, .inr (.inl f0_had)))]
abbrev rm_X4_down : Room := { frames := 1, cells := 0, slots := 0, locals := 23 }
def call_X4_down (p1 : Int32) (n0_thrown : Int32) (n0_objects : Int32) (n0_sets : Int32) (f0_level : Nat → Int32) (f0_in : Nat → Bool) (f0_scores : Nat → Int64) (f0_was : Nat → Bool) (f0_had : Nat → Int64) (Q : Int32 → Int32 → (Nat → Bool) → (Nat → Int64) → (Nat → Bool) → (Nat → Int64) → Prop) : Prop := ∀ (X44 : Int32 → Int32 → Int32 → (Nat → Bool) → (Nat → Int64) → (Nat → Bool) → (Nat → Int64) → Prop) (X59 : Int32 → Int32 → Int32 → Int32 → (Nat → Bool) → (Nat → Int64) → (Nat → Bool) → (Nat → Int64) → Prop) (X111 : Int32 → Int32 → Int32 → Int32 → (Nat → Bool) → (Nat → Int64) → (Nat → Bool) → (Nat → Int64) → Prop) (X122 : Int32 → Int32 → Int32 → (Nat → Bool) → (Nat → Int64) → (Nat → Bool) → (Nat → Int64) → Prop),
    (∀ (x2 : Int32) (x3 : Int32) (n0_thrown : Int32) (f0_in : Nat → Bool) (f0_scores : Nat → Int64) (f0_was : Nat → Bool) (f0_had : Nat → Int64),
      ((n0_objects ≤ x3 → (call_X4_sizeOf (n0_sets - 1) n0_objects f0_in (fun (r135 : Int32) => Q r135 n0_thrown f0_in f0_scores f0_was f0_had))) ∧ (¬ n0_objects ≤ x3 → (call_X4_parent x3 f0_level (fun (r54 : Int32) => X59 x2 x3 r54 n0_thrown f0_in f0_scores f0_was f0_had)))) → X44 x2 x3 n0_thrown f0_in f0_scores f0_was f0_had) →
    (∀ (x2 : Int32) (x3 : Int32) (x4 : Int32) (n0_thrown : Int32) (f0_in : Nat → Bool) (f0_scores : Nat → Int64) (f0_was : Nat → Bool) (f0_had : Nat → Int64),
      ((x4 < 0 → X122 x2 x3 n0_thrown f0_in f0_scores f0_was f0_had) ∧ (¬ x4 < 0 → (∃ j69 : Nat, j69 < 261 ∧ x3 = nI j69 ∧ ((¬ (f0_level j69) = p1 → X122 x2 x3 n0_thrown f0_in f0_scores f0_was f0_had) ∧ ((f0_level j69) = p1 → (∃ j80 : Nat, j80 < 200 ∧ x4 = nI j80 ∧ (((f0_was j80) = false → X111 x2 x3 x4 n0_thrown f0_in f0_scores f0_was f0_had) ∧ ((f0_was j80) = true → (∃ j92 : Nat, j92 < 1800 ∧ (x2 + x3) = nI j92 ∧ (∃ j101 : Nat, j101 < 1800 ∧ (x2 + x3) = nI j101 ∧ (∃ j108 : Nat, j108 < 200 ∧ x4 = nI j108 ∧ (∃ j110 : Nat, j110 < 1800 ∧ (x2 + x3) = nI j110 ∧ X111 x2 x3 x4 n0_thrown (va_up f0_in j92 true) (va_up f0_scores j110 ((f0_scores j101) + (f0_had j108))) f0_was f0_had)))))))))))) → X59 x2 x3 x4 n0_thrown f0_in f0_scores f0_was f0_had) →
    (∀ (x2 : Int32) (x3 : Int32) (x4 : Int32) (n0_thrown : Int32) (f0_in : Nat → Bool) (f0_scores : Nat → Int64) (f0_was : Nat → Bool) (f0_had : Nat → Int64),
      (call_X4_parent x4 f0_level (fun (r114 : Int32) => X59 x2 x3 r114 n0_thrown f0_in f0_scores f0_was f0_had)) → X111 x2 x3 x4 n0_thrown f0_in f0_scores f0_was f0_had) →
    (∀ (x2 : Int32) (x3 : Int32) (n0_thrown : Int32) (f0_in : Nat → Bool) (f0_scores : Nat → Int64) (f0_was : Nat → Bool) (f0_had : Nat → Int64),
      X44 x2 (x3 + 1) n0_thrown f0_in f0_scores f0_was f0_had → X122 x2 x3 n0_thrown f0_in f0_scores f0_was f0_had) →
    (call_X4_isIn p1 0 1 (fun (r8 : Bool) => ((r8 = true → ((¬ n0_sets = 0 → (call_X4_takeLast n0_objects n0_sets f0_in f0_scores f0_was f0_had (fun (f0_in_28 : Nat → Bool) (f0_scores_28 : Nat → Int64) (f0_was_28 : Nat → Bool) (f0_had_28 : Nat → Int64) => X44 (200 * (n0_sets - 1)) 0 0 f0_in_28 f0_scores_28 f0_was_28 f0_had_28))) ∧ (n0_sets = 0 → Q (-3) 0 f0_in f0_scores f0_was f0_had))) ∧ (r8 = false → Q (-2) 0 f0_in f0_scores f0_was f0_had))))
set_option maxHeartbeats 4000000 in
set_option maxRecDepth 100000 in
theorem m_X4_down (l : Launch) (D : va_G) (cs : Nat → ClassId) (h0 : Nat) (h0_level : Nat) (h0_value : Nat) (h0_tags : Nat) (h0_link : Nat) (h0_key : Nat) (h0_lives : Nat) (h0_open : Nat) (h0_in : Nat) (h0_scores : Nat) (h0_was : Nat) (h0_had : Nat)  (p1 : Int32) (n0_thrown : Int32) (n0_objects : Int32) (n0_opened : Int32) (n0_sets : Int32) (b0_hasFamily : Bool) (f0_level : Nat → Int32) (f0_in : Nat → Bool) (f0_scores : Nat → Int64) (f0_was : Nat → Bool) (f0_had : Nat → Int64) (Q : Int32 → Int32 → (Nat → Bool) → (Nat → Int64) → (Nat → Bool) → (Nat → Int64) → Prop) (h : call_X4_down p1 n0_thrown n0_objects n0_sets f0_level f0_in f0_scores f0_was f0_had Q) : CtI l yX4_down wsX4_down rm_X4_down D cs [.ref h0, .int p1] (pc_X4_down cs h0 h0_level h0_value h0_tags h0_link h0_key h0_lives h0_open h0_in h0_scores h0_was h0_had n0_thrown n0_objects n0_opened n0_sets b0_hasFamily f0_level f0_in f0_scores f0_was f0_had) (fun u : Int32 × (Nat → Bool) × (Nat → Int64) × (Nat → Bool) × (Nat → Int64) => (pc_X4_down cs h0 h0_level h0_value h0_tags h0_link h0_key h0_lives h0_open h0_in h0_scores h0_was h0_had u.1 n0_objects n0_opened n0_sets b0_hasFamily f0_level u.2.1 u.2.2.1 u.2.2.2.1 u.2.2.2.2)) (fun r u => Q r u.1 u.2.1 u.2.2.1 u.2.2.2.1 u.2.2.2.2) := by
  refine xo_I (S := Int32 × (Nat → Bool) × (Nat → Int64) × (Nat → Bool) × (Nat → Int64)) (cc := cX4_down) (maxL := 5) (own := RX4) (lv0 := [(0, .ref h0), (1, .int p1)]) (by decide) rfl rfl (Nat.le_of_ble_eq_true rfl) rfl ?_
  intro p e s m args below meth c A Z ls F hK hA hP hD hS hl RET
  unfold call_X4_down at h
  obtain ⟨X44, hX44⟩ : ∃ X : Int32 → Int32 → Int32 → (Nat → Bool) → (Nat → Int64) → (Nat → Bool) → (Nat → Int64) → Prop, ∀ (x2 : Int32) (x3 : Int32) (n0_thrown : Int32) (f0_in : Nat → Bool) (f0_scores : Nat → Int64) (f0_was : Nat → Bool) (f0_had : Nat → Int64), (X x2 x3 n0_thrown f0_in f0_scores f0_was f0_had ↔ ∀ (H : Heap) (locs : List Loc) (ls : Array Slot), va_P D vwCl (pc_X4_down cs h0 h0_level h0_value h0_tags h0_link h0_key h0_lives h0_open h0_in h0_scores h0_was h0_had n0_thrown n0_objects n0_opened n0_sets b0_hasFamily f0_level f0_in f0_scores f0_was f0_had) H → va_D A (pc_X4_down cs h0 h0_level h0_value h0_tags h0_link h0_key h0_lives h0_open h0_in h0_scores h0_was h0_had n0_thrown n0_objects n0_opened n0_sets b0_hasFamily f0_level f0_in f0_scores f0_was f0_had) → va_S A s.heap H locs → lv_has ls 5 [(0, .ref h0), (1, .int p1), (2, .int x2), (3, .int x3)] → W p l e rm_X4_down s m args below meth c H locs 0 0 Z (F0 m 44 ls [])) := ⟨_, fun _ _ _ _ _ _ _ => Iff.rfl⟩
  obtain ⟨X59, hX59⟩ : ∃ X : Int32 → Int32 → Int32 → Int32 → (Nat → Bool) → (Nat → Int64) → (Nat → Bool) → (Nat → Int64) → Prop, ∀ (x2 : Int32) (x3 : Int32) (x4 : Int32) (n0_thrown : Int32) (f0_in : Nat → Bool) (f0_scores : Nat → Int64) (f0_was : Nat → Bool) (f0_had : Nat → Int64), (X x2 x3 x4 n0_thrown f0_in f0_scores f0_was f0_had ↔ ∀ (H : Heap) (locs : List Loc) (ls : Array Slot), va_P D vwCl (pc_X4_down cs h0 h0_level h0_value h0_tags h0_link h0_key h0_lives h0_open h0_in h0_scores h0_was h0_had n0_thrown n0_objects n0_opened n0_sets b0_hasFamily f0_level f0_in f0_scores f0_was f0_had) H → va_D A (pc_X4_down cs h0 h0_level h0_value h0_tags h0_link h0_key h0_lives h0_open h0_in h0_scores h0_was h0_had n0_thrown n0_objects n0_opened n0_sets b0_hasFamily f0_level f0_in f0_scores f0_was f0_had) → va_S A s.heap H locs → lv_has ls 5 [(0, .ref h0), (1, .int p1), (2, .int x2), (3, .int x3), (4, .int x4)] → W p l e rm_X4_down s m args below meth c H locs 0 0 Z (F0 m 59 ls [])) := ⟨_, fun _ _ _ _ _ _ _ _ => Iff.rfl⟩
  obtain ⟨X111, hX111⟩ : ∃ X : Int32 → Int32 → Int32 → Int32 → (Nat → Bool) → (Nat → Int64) → (Nat → Bool) → (Nat → Int64) → Prop, ∀ (x2 : Int32) (x3 : Int32) (x4 : Int32) (n0_thrown : Int32) (f0_in : Nat → Bool) (f0_scores : Nat → Int64) (f0_was : Nat → Bool) (f0_had : Nat → Int64), (X x2 x3 x4 n0_thrown f0_in f0_scores f0_was f0_had ↔ ∀ (H : Heap) (locs : List Loc) (ls : Array Slot), va_P D vwCl (pc_X4_down cs h0 h0_level h0_value h0_tags h0_link h0_key h0_lives h0_open h0_in h0_scores h0_was h0_had n0_thrown n0_objects n0_opened n0_sets b0_hasFamily f0_level f0_in f0_scores f0_was f0_had) H → va_D A (pc_X4_down cs h0 h0_level h0_value h0_tags h0_link h0_key h0_lives h0_open h0_in h0_scores h0_was h0_had n0_thrown n0_objects n0_opened n0_sets b0_hasFamily f0_level f0_in f0_scores f0_was f0_had) → va_S A s.heap H locs → lv_has ls 5 [(0, .ref h0), (1, .int p1), (2, .int x2), (3, .int x3), (4, .int x4)] → W p l e rm_X4_down s m args below meth c H locs 0 0 Z (F0 m 111 ls [])) := ⟨_, fun _ _ _ _ _ _ _ _ => Iff.rfl⟩
  obtain ⟨X122, hX122⟩ : ∃ X : Int32 → Int32 → Int32 → (Nat → Bool) → (Nat → Int64) → (Nat → Bool) → (Nat → Int64) → Prop, ∀ (x2 : Int32) (x3 : Int32) (n0_thrown : Int32) (f0_in : Nat → Bool) (f0_scores : Nat → Int64) (f0_was : Nat → Bool) (f0_had : Nat → Int64), (X x2 x3 n0_thrown f0_in f0_scores f0_was f0_had ↔ ∀ (H : Heap) (locs : List Loc) (ls : Array Slot), va_P D vwCl (pc_X4_down cs h0 h0_level h0_value h0_tags h0_link h0_key h0_lives h0_open h0_in h0_scores h0_was h0_had n0_thrown n0_objects n0_opened n0_sets b0_hasFamily f0_level f0_in f0_scores f0_was f0_had) H → va_D A (pc_X4_down cs h0 h0_level h0_value h0_tags h0_link h0_key h0_lives h0_open h0_in h0_scores h0_was h0_had n0_thrown n0_objects n0_opened n0_sets b0_hasFamily f0_level f0_in f0_scores f0_was f0_had) → va_S A s.heap H locs → lv_has ls 5 [(0, .ref h0), (1, .int p1), (2, .int x2), (3, .int x3)] → W p l e rm_X4_down s m args below meth c H locs 0 0 Z (F0 m 122 ls [])) := ⟨_, fun _ _ _ _ _ _ _ => Iff.rfl⟩
  refine xt_cut (h X44 X59 X111 X122 ?_ ?_ ?_ ?_) (fun hw => ?_)
  · intro x2 x3 n0_thrown f0_in f0_scores f0_was f0_had hw
    refine (hX44 _ _ _ _ _ _ _).mpr ?_
    intro H locs ls hP hD hS hl
    refine lv_iload_n F.1 F.2.1 dX4_down_44 rfl (lv_at hl 3 rfl) ?_
    refine lv_aload_n F.1 F.2.1 dX4_down_45 rfl (lv_at hl 0 rfl) ?_
    refine xi_get (C := RX4) (T := TX4) (N := 16) (v := .int n0_objects) F in_X4_down_X4 hK hP 0 rfl rfl 1 (by decide) fl_X4_down_49 rfl dX4_down_46 ?_
    refine lv_icmp_ge (tgt := 128) F.1 F.2.1 dX4_down_49 (by decide) (fun hc => ?_) (fun hc => ?_)
    · have hw := hw.1 hc
      refine lv_aload_n F.1 F.2.1 dX4_down_128 rfl (lv_at hl 0 rfl) ?_
      refine lv_aload_n F.1 F.2.1 dX4_down_129 rfl (lv_at hl 0 rfl) ?_
      refine xi_get (C := RX4) (T := TX4) (N := 16) (v := .int n0_sets) F in_X4_down_X4 hK hP 0 rfl rfl 10 (by decide) fl_X4_down_59 rfl dX4_down_130 ?_
      refine lv_iconst (v := 1) F.1 F.2.1 dX4_down_133 (by decide) ?_
      refine lv_isub F.1 F.2.1 dX4_down_134 ?_
      refine xc_Vi (As := [.int (n0_sets - 1)]) (rest := []) (m_X4_sizeOf l D cs h0 h0_level h0_value h0_tags h0_link h0_key h0_lives h0_open h0_in h0_scores h0_was h0_had (n0_sets - 1) n0_thrown n0_objects n0_opened n0_sets b0_hasFamily f0_in _ hw) F (cwV 1 F.2.2.2.2 gX4_down_X4_sizeOf rfl rfl rfl (by decide +kernel) ⟨Nat.le_of_ble_eq_true rfl, Nat.le_of_ble_eq_true rfl⟩) hK hP hD hS hA [0, 2] [1, 3, 4, 5] rfl rfl 0 rfl rfl rfl hl.1 rfl (Nat.le_of_ble_eq_true rfl) dX4_down_135 ⟨Nat.zero_le _, Nat.zero_le _⟩ (fun r135 u H locs hw hP hD hS => ?_)
      have hP : va_P D vwCl (pc_X4_down cs h0 h0_level h0_value h0_tags h0_link h0_key h0_lives h0_open h0_in h0_scores h0_was h0_had n0_thrown n0_objects n0_opened n0_sets b0_hasFamily f0_level f0_in f0_scores f0_was f0_had) H := hP.sub [4, 0, 5, 1, 2, 3] rfl
      have hD : va_D A (pc_X4_down cs h0 h0_level h0_value h0_tags h0_link h0_key h0_lives h0_open h0_in h0_scores h0_was h0_had n0_thrown n0_objects n0_opened n0_sets b0_hasFamily f0_level f0_in f0_scores f0_was f0_had) := hD.sub [4, 0, 5, 1, 2, 3] (by decide) rfl
      try dsimp only at hw
      exact RET r135 (n0_thrown, f0_in, f0_scores, f0_was, f0_had) H locs 138 ls hw hP hD hS dX4_down_138
    · have hw := hw.2 hc
      refine lv_aload_n F.1 F.2.1 dX4_down_52 rfl (lv_at hl 0 rfl) ?_
      refine lv_iload_n F.1 F.2.1 dX4_down_53 rfl (lv_at hl 3 rfl) ?_
      refine xc_Vi (As := [.int x3]) (rest := []) (m_X4_parent l D cs h0 h0_level h0_value h0_tags h0_link h0_key h0_lives h0_open h0_in h0_scores h0_was h0_had x3 n0_thrown n0_objects n0_opened n0_sets b0_hasFamily f0_level _ hw) F (cwV 1 F.2.2.2.2 gX4_down_X4_parent rfl rfl rfl (by decide +kernel) ⟨Nat.le_of_ble_eq_true rfl, Nat.le_of_ble_eq_true rfl⟩) hK hP hD hS hA [0, 1] [2, 3, 4, 5] rfl rfl 0 rfl rfl rfl hl.1 rfl (Nat.le_of_ble_eq_true rfl) dX4_down_54 ⟨Nat.zero_le _, Nat.zero_le _⟩ (fun r54 u H locs hw hP hD hS => ?_)
      have hP : va_P D vwCl (pc_X4_down cs h0 h0_level h0_value h0_tags h0_link h0_key h0_lives h0_open h0_in h0_scores h0_was h0_had n0_thrown n0_objects n0_opened n0_sets b0_hasFamily f0_level f0_in f0_scores f0_was f0_had) H := hP.sub [4, 5, 0, 1, 2, 3] rfl
      have hD : va_D A (pc_X4_down cs h0 h0_level h0_value h0_tags h0_link h0_key h0_lives h0_open h0_in h0_scores h0_was h0_had n0_thrown n0_objects n0_opened n0_sets b0_hasFamily f0_level f0_in f0_scores f0_was f0_had) := hD.sub [4, 5, 0, 1, 2, 3] (by decide) rfl
      try dsimp only at hw
      refine lv_istore (lv' := [(4, .int r54), (0, .ref h0), (1, .int p1), (2, .int x2), (3, .int x3)]) F.1 F.2.1 dX4_down_57 hl (by decide) rfl (fun ls hl => ?_)
      exact (hX59 _ _ _ _ _ _ _ _).mp hw H locs ls hP hD hS (lv_sub hl [1, 2, 3, 4, 0] rfl)
  · intro x2 x3 x4 n0_thrown f0_in f0_scores f0_was f0_had hw
    refine (hX59 _ _ _ _ _ _ _ _).mpr ?_
    intro H locs ls hP hD hS hl
    refine lv_iload F.1 F.2.1 dX4_down_59 (lv_at hl 4 rfl) ?_
    refine lv_if_lt (tgt := 122) F.1 F.2.1 dX4_down_61 (by decide) (fun hc => ?_) (fun hc => ?_)
    · have hw := hw.1 hc
      exact (hX122 _ _ _ _ _ _ _).mp hw H locs ls hP hD hS (lv_sub hl [0, 1, 2, 3] rfl)
    · have hw := hw.2 hc
      refine lv_aload_n F.1 F.2.1 dX4_down_64 rfl (lv_at hl 0 rfl) ?_
      refine xi_get (C := RX4) (T := TX4) (N := 16) (v := .ref h0_level) F in_X4_down_X4 hK hP 0 rfl rfl 2 (by decide) fl_X4_down_7 rfl dX4_down_65 ?_
      refine lv_iload_n F.1 F.2.1 dX4_down_68 rfl (lv_at hl 3 rfl) ?_
      obtain ⟨j69, hj, he, hw⟩ := hw
      refine xi_iald (j := j69) F hK hP 1 rfl (by decide) hj he dX4_down_69 ?_
      refine lv_iload_n F.1 F.2.1 dX4_down_70 rfl (lv_at hl 1 rfl) ?_
      refine lv_icmp_ne (tgt := 122) F.1 F.2.1 dX4_down_71 (by decide) (fun hc => ?_) (fun hc => ?_)
      · have hw := hw.1 hc
        exact (hX122 _ _ _ _ _ _ _).mp hw H locs ls hP hD hS (lv_sub hl [0, 1, 2, 3] rfl)
      · have hw := hw.2 hc
        refine lv_aload_n F.1 F.2.1 dX4_down_74 rfl (lv_at hl 0 rfl) ?_
        refine xi_get (C := RX4) (T := TX4) (N := 16) (v := .ref h0_was) F in_X4_down_X4 hK hP 0 rfl rfl 14 (by decide) fl_X4_down_39 rfl dX4_down_75 ?_
        refine lv_iload F.1 F.2.1 dX4_down_78 (lv_at hl 4 rfl) ?_
        obtain ⟨j80, hj, he, hw⟩ := hw
        refine xi_zald (j := j80) F hK hP 4 rfl (by decide) hj he dX4_down_80 ?_
        refine xi_ifeqz (tgt := 111) F dX4_down_81 (by decide) (fun hc => ?_) (fun hc => ?_)
        · have hw := hw.1 hc
          exact (hX111 _ _ _ _ _ _ _ _).mp hw H locs ls hP hD hS (lv_sub hl [0, 1, 2, 3, 4] rfl)
        · have hw := hw.2 hc
          refine lv_aload_n F.1 F.2.1 dX4_down_84 rfl (lv_at hl 0 rfl) ?_
          refine xi_get (C := RX4) (T := TX4) (N := 16) (v := .ref h0_in) F in_X4_down_X4 hK hP 0 rfl rfl 11 (by decide) fl_X4_down_32 rfl dX4_down_85 ?_
          refine lv_iload_n F.1 F.2.1 dX4_down_88 rfl (lv_at hl 2 rfl) ?_
          refine lv_iload_n F.1 F.2.1 dX4_down_89 rfl (lv_at hl 3 rfl) ?_
          refine lv_iadd F.1 F.2.1 dX4_down_90 ?_
          refine lv_iconst (v := 1) F.1 F.2.1 dX4_down_91 (by decide) ?_
          obtain ⟨j92, hj, he, hw⟩ := hw
          refine xi_zast (v := true) (j := j92) F hK hP hD hS 2 rfl (by decide) hj he rfl dX4_down_92 (fun H locs hP hD hS => ?_)
          have hP : va_P D vwCl (pc_X4_down cs h0 h0_level h0_value h0_tags h0_link h0_key h0_lives h0_open h0_in h0_scores h0_was h0_had n0_thrown n0_objects n0_opened n0_sets b0_hasFamily f0_level (va_up f0_in j92 true) f0_scores f0_was f0_had) H := hP
          have hD : va_D A (pc_X4_down cs h0 h0_level h0_value h0_tags h0_link h0_key h0_lives h0_open h0_in h0_scores h0_was h0_had n0_thrown n0_objects n0_opened n0_sets b0_hasFamily f0_level (va_up f0_in j92 true) f0_scores f0_was f0_had) := hD
          refine lv_aload_n F.1 F.2.1 dX4_down_93 rfl (lv_at hl 0 rfl) ?_
          refine xi_get (C := RX4) (T := TX4) (N := 16) (v := .ref h0_scores) F in_X4_down_X4 hK hP 0 rfl rfl 12 (by decide) fl_X4_down_35 rfl dX4_down_94 ?_
          refine lv_iload_n F.1 F.2.1 dX4_down_97 rfl (lv_at hl 2 rfl) ?_
          refine lv_iload_n F.1 F.2.1 dX4_down_98 rfl (lv_at hl 3 rfl) ?_
          refine lv_iadd F.1 F.2.1 dX4_down_99 ?_
          refine lv_dup2_11 F.1 F.2.1 dX4_down_100 rfl rfl ?_
          obtain ⟨j101, hj, he, hw⟩ := hw
          refine xi_lald (j := j101) F hK hP 3 rfl (by decide) hj he dX4_down_101 ?_
          refine lv_aload_n F.1 F.2.1 dX4_down_102 rfl (lv_at hl 0 rfl) ?_
          refine xi_get (C := RX4) (T := TX4) (N := 16) (v := .ref h0_had) F in_X4_down_X4 hK hP 0 rfl rfl 15 (by decide) fl_X4_down_42 rfl dX4_down_103 ?_
          refine lv_iload F.1 F.2.1 dX4_down_106 (lv_at hl 4 rfl) ?_
          obtain ⟨j108, hj, he, hw⟩ := hw
          refine xi_lald (j := j108) F hK hP 5 rfl (by decide) hj he dX4_down_108 ?_
          refine lv_ladd F.1 F.2.1 dX4_down_109 ?_
          obtain ⟨j110, hj, he, hw⟩ := hw
          refine xi_last (j := j110) F hK hP hD hS 3 rfl (by decide) hj he dX4_down_110 (fun H locs hP hD hS => ?_)
          have hP : va_P D vwCl (pc_X4_down cs h0 h0_level h0_value h0_tags h0_link h0_key h0_lives h0_open h0_in h0_scores h0_was h0_had n0_thrown n0_objects n0_opened n0_sets b0_hasFamily f0_level (va_up f0_in j92 true) (va_up f0_scores j110 ((f0_scores j101) + (f0_had j108))) f0_was f0_had) H := hP
          have hD : va_D A (pc_X4_down cs h0 h0_level h0_value h0_tags h0_link h0_key h0_lives h0_open h0_in h0_scores h0_was h0_had n0_thrown n0_objects n0_opened n0_sets b0_hasFamily f0_level (va_up f0_in j92 true) (va_up f0_scores j110 ((f0_scores j101) + (f0_had j108))) f0_was f0_had) := hD
          exact (hX111 _ _ _ _ _ _ _ _).mp hw H locs ls hP hD hS (lv_sub hl [0, 1, 2, 3, 4] rfl)
  · intro x2 x3 x4 n0_thrown f0_in f0_scores f0_was f0_had hw
    refine (hX111 _ _ _ _ _ _ _ _).mpr ?_
    intro H locs ls hP hD hS hl
    refine lv_aload_n F.1 F.2.1 dX4_down_111 rfl (lv_at hl 0 rfl) ?_
    refine lv_iload F.1 F.2.1 dX4_down_112 (lv_at hl 4 rfl) ?_
    refine xc_Vi (As := [.int x4]) (rest := []) (m_X4_parent l D cs h0 h0_level h0_value h0_tags h0_link h0_key h0_lives h0_open h0_in h0_scores h0_was h0_had x4 n0_thrown n0_objects n0_opened n0_sets b0_hasFamily f0_level _ hw) F (cwV 1 F.2.2.2.2 gX4_down_X4_parent rfl rfl rfl (by decide +kernel) ⟨Nat.le_of_ble_eq_true rfl, Nat.le_of_ble_eq_true rfl⟩) hK hP hD hS hA [0, 1] [2, 3, 4, 5] rfl rfl 0 rfl rfl rfl hl.1 rfl (Nat.le_of_ble_eq_true rfl) dX4_down_114 ⟨Nat.zero_le _, Nat.zero_le _⟩ (fun r114 u H locs hw hP hD hS => ?_)
    have hP : va_P D vwCl (pc_X4_down cs h0 h0_level h0_value h0_tags h0_link h0_key h0_lives h0_open h0_in h0_scores h0_was h0_had n0_thrown n0_objects n0_opened n0_sets b0_hasFamily f0_level f0_in f0_scores f0_was f0_had) H := hP.sub [4, 5, 0, 1, 2, 3] rfl
    have hD : va_D A (pc_X4_down cs h0 h0_level h0_value h0_tags h0_link h0_key h0_lives h0_open h0_in h0_scores h0_was h0_had n0_thrown n0_objects n0_opened n0_sets b0_hasFamily f0_level f0_in f0_scores f0_was f0_had) := hD.sub [4, 5, 0, 1, 2, 3] (by decide) rfl
    try dsimp only at hw
    refine lv_istore (lv' := [(4, .int r114), (0, .ref h0), (1, .int p1), (2, .int x2), (3, .int x3)]) F.1 F.2.1 dX4_down_117 hl (by decide) rfl (fun ls hl => ?_)
    refine lv_goto (tgt := 59) F.1 F.2.1 dX4_down_119 (by decide) ?_
    exact (hX59 _ _ _ _ _ _ _ _).mp hw H locs ls hP hD hS (lv_sub hl [1, 2, 3, 4, 0] rfl)
  · intro x2 x3 n0_thrown f0_in f0_scores f0_was f0_had hw
    refine (hX122 _ _ _ _ _ _ _).mpr ?_
    intro H locs ls hP hD hS hl
    refine lv_iinc (v := (x3 + 1)) (lv' := [(3, .int (x3 + 1)), (0, .ref h0), (1, .int p1), (2, .int x2)]) F.1 F.2.1 dX4_down_122 hl (k := 3) rfl rfl (by decide) rfl (fun ls hl => ?_)
    refine lv_goto (tgt := 44) F.1 F.2.1 dX4_down_125 (by decide) ?_
    exact (hX44 _ _ _ _ _ _ _).mp hw H locs ls hP hD hS (lv_sub hl [1, 2, 3, 0] rfl)
  generalize ([] : List Loc) = locs at hS ⊢
  obtain ⟨H, hHe⟩ : ∃ H, H = s.heap := ⟨_, rfl⟩
  have hP : va_P D vwCl (pc_X4_down cs h0 h0_level h0_value h0_tags h0_link h0_key h0_lives h0_open h0_in h0_scores h0_was h0_had n0_thrown n0_objects n0_opened n0_sets b0_hasFamily f0_level f0_in f0_scores f0_was f0_had) H := by rw [hHe]; exact hP
  have hS : va_S A s.heap H locs := by rw [hHe]; exact hS
  suffices W p l e rm_X4_down s m args below meth c H locs 0 0 Z (F0 m 0 ls []) by rw [hHe] at this; exact this
  refine lv_aload_n F.1 F.2.1 dX4_down_0 rfl (lv_at hl 0 rfl) ?_
  refine lv_iconst (v := 0) F.1 F.2.1 dX4_down_1 (by decide) ?_
  refine xi_put (C := RX4) (T := TX4) (N := 16) (v := .int 0) (ty := .int) F in_X4_down_X4 tyX4 tyX4_ok nmX4 hK hP hD hS 0 rfl rfl 0 (by decide) fl_X4_down_45 rfl (tyX4_ok 0 (by decide)) rfl rfl (Nat.le_of_ble_eq_true rfl) dX4_down_2 (fun H locs hP hD hS => ?_)
  have hP : va_P D vwCl (pc_X4_down cs h0 h0_level h0_value h0_tags h0_link h0_key h0_lives h0_open h0_in h0_scores h0_was h0_had 0 n0_objects n0_opened n0_sets b0_hasFamily f0_level f0_in f0_scores f0_was f0_had) H := hP
  have hD : va_D A (pc_X4_down cs h0 h0_level h0_value h0_tags h0_link h0_key h0_lives h0_open h0_in h0_scores h0_was h0_had 0 n0_objects n0_opened n0_sets b0_hasFamily f0_level f0_in f0_scores f0_was f0_had) := hD
  refine lv_iload_n F.1 F.2.1 dX4_down_5 rfl (lv_at hl 1 rfl) ?_
  refine lv_iconst (v := 0) F.1 F.2.1 dX4_down_6 (by decide) ?_
  refine lv_iconst (v := 1) F.1 F.2.1 dX4_down_7 (by decide) ?_
  refine xc_Sz (As := [.int p1, .int 0, .int 1]) (rest := []) (m_X4_isIn l D cs p1 0 1 _ hw) F (va_cwS 3 F.2.2.2.2 gX4_down_X4_isIn rfl rfl rfl (by decide +kernel) ⟨Nat.le_of_ble_eq_true rfl, Nat.le_of_ble_eq_true rfl⟩) hK hP hD hS hA [] [0, 1, 2, 3, 4, 5] rfl rfl rfl hl.1 rfl (Nat.le_of_ble_eq_true rfl) dX4_down_8 ⟨Nat.zero_le _, Nat.zero_le _⟩ (fun r8 u H locs hw hP hD hS => ?_)
  have hP : va_P D vwCl (pc_X4_down cs h0 h0_level h0_value h0_tags h0_link h0_key h0_lives h0_open h0_in h0_scores h0_was h0_had 0 n0_objects n0_opened n0_sets b0_hasFamily f0_level f0_in f0_scores f0_was f0_had) H := hP.sub [0, 1, 2, 3, 4, 5] rfl
  have hD : va_D A (pc_X4_down cs h0 h0_level h0_value h0_tags h0_link h0_key h0_lives h0_open h0_in h0_scores h0_was h0_had 0 n0_objects n0_opened n0_sets b0_hasFamily f0_level f0_in f0_scores f0_was f0_had) := hD.sub [0, 1, 2, 3, 4, 5] (by decide) rfl
  try dsimp only at hw
  refine xi_ifnez (tgt := 17) F dX4_down_11 (by decide) (fun hc => ?_) (fun hc => ?_)
  · have hw := hw.1 hc
    refine lv_aload_n F.1 F.2.1 dX4_down_17 rfl (lv_at hl 0 rfl) ?_
    refine xi_get (C := RX4) (T := TX4) (N := 16) (v := .int n0_sets) F in_X4_down_X4 hK hP 0 rfl rfl 10 (by decide) fl_X4_down_59 rfl dX4_down_18 ?_
    refine lv_if_ne (tgt := 27) F.1 F.2.1 dX4_down_21 (by decide) (fun hc => ?_) (fun hc => ?_)
    · have hw := hw.1 hc
      refine lv_aload_n F.1 F.2.1 dX4_down_27 rfl (lv_at hl 0 rfl) ?_
      refine xc_Vv (As := []) (rest := []) (m_X4_takeLast l D cs h0 h0_level h0_value h0_tags h0_link h0_key h0_lives h0_open h0_in h0_scores h0_was h0_had 0 n0_objects n0_opened n0_sets b0_hasFamily f0_in f0_scores f0_was f0_had _ hw) F (cwV 0 F.2.2.2.2 gX4_down_X4_takeLast rfl rfl rfl (by decide +kernel) ⟨Nat.le_of_ble_eq_true rfl, Nat.le_of_ble_eq_true rfl⟩) hK hP hD hS hA [0, 2, 3, 4, 5] [1] rfl rfl 0 rfl rfl rfl hl.1 rfl (Nat.le_of_ble_eq_true rfl) dX4_down_28 ⟨Nat.zero_le _, Nat.zero_le _⟩ (fun u H locs hw hP hD hS => ?_)
      obtain ⟨f0_in_28, f0_scores_28, f0_was_28, f0_had_28⟩ := u
      have hP : va_P D vwCl (pc_X4_down cs h0 h0_level h0_value h0_tags h0_link h0_key h0_lives h0_open h0_in h0_scores h0_was h0_had 0 n0_objects n0_opened n0_sets b0_hasFamily f0_level f0_in_28 f0_scores_28 f0_was_28 f0_had_28) H := hP.sub [1, 0, 2, 3, 4, 5] rfl
      have hD : va_D A (pc_X4_down cs h0 h0_level h0_value h0_tags h0_link h0_key h0_lives h0_open h0_in h0_scores h0_was h0_had 0 n0_objects n0_opened n0_sets b0_hasFamily f0_level f0_in_28 f0_scores_28 f0_was_28 f0_had_28) := hD.sub [1, 0, 2, 3, 4, 5] (by decide) rfl
      try dsimp only at hw
      refine lv_sipush (v := 200) F.1 F.2.1 dX4_down_31 (by decide) ?_
      refine lv_aload_n F.1 F.2.1 dX4_down_34 rfl (lv_at hl 0 rfl) ?_
      refine xi_get (C := RX4) (T := TX4) (N := 16) (v := .int n0_sets) F in_X4_down_X4 hK hP 0 rfl rfl 10 (by decide) fl_X4_down_59 rfl dX4_down_35 ?_
      refine lv_iconst (v := 1) F.1 F.2.1 dX4_down_38 (by decide) ?_
      refine lv_isub F.1 F.2.1 dX4_down_39 ?_
      refine lv_imul F.1 F.2.1 dX4_down_40 ?_
      refine lv_istore_n (lv' := [(2, .int (200 * (n0_sets - 1))), (0, .ref h0), (1, .int p1)]) F.1 F.2.1 dX4_down_41 rfl hl (by decide) rfl (fun ls hl => ?_)
      refine lv_iconst (v := 0) F.1 F.2.1 dX4_down_42 (by decide) ?_
      refine lv_istore_n (lv' := [(3, .int 0), (2, .int (200 * (n0_sets - 1))), (0, .ref h0), (1, .int p1)]) F.1 F.2.1 dX4_down_43 rfl hl (by decide) rfl (fun ls hl => ?_)
      exact (hX44 _ _ _ _ _ _ _).mp hw H locs ls hP hD hS (lv_sub hl [2, 3, 1, 0] rfl)
    · have hw := hw.2 hc
      refine lv_bipush (v := (-3)) F.1 F.2.1 dX4_down_24 (by decide) ?_
      exact RET (-3) (0, f0_in, f0_scores, f0_was, f0_had) H locs 26 ls hw hP hD hS dX4_down_26
  · have hw := hw.2 hc
    refine lv_bipush (v := (-2)) F.1 F.2.1 dX4_down_14 (by decide) ?_
    exact RET (-2) (0, f0_in, f0_scores, f0_was, f0_had) H locs 16 ls hw hP hD hS dX4_down_16

theorem in_X4_over_X4 : ∀ w ∈ wsX40, w ∈ wsX4_over := by decide +kernel
theorem fl_X4_over_49 : Cond.fieldLink RX4 49 "JoinBlocksModel" "objects" "I" ∈ wsX4_over := by decide +kernel
theorem fl_X4_over_59 : Cond.fieldLink RX4 59 "JoinBlocksModel" "sets" "I" ∈ wsX4_over := by decide +kernel
theorem fl_X4_over_39 : Cond.fieldLink RX4 39 "JoinBlocksModel" "was" "[Z" ∈ wsX4_over := by decide +kernel
theorem fl_X4_over_7 : Cond.fieldLink RX4 7 "JoinBlocksModel" "level" "[I" ∈ wsX4_over := by decide +kernel
theorem fl_X4_over_25 : Cond.fieldLink RX4 25 "JoinBlocksModel" "lives" "[Z" ∈ wsX4_over := by decide +kernel
theorem fl_X4_over_19 : Cond.fieldLink RX4 19 "JoinBlocksModel" "link" "[I" ∈ wsX4_over := by decide +kernel
theorem fl_X4_over_22 : Cond.fieldLink RX4 22 "JoinBlocksModel" "key" "[I" ∈ wsX4_over := by decide +kernel
theorem fl_X4_over_32 : Cond.fieldLink RX4 32 "JoinBlocksModel" "in" "[Z" ∈ wsX4_over := by decide +kernel
theorem fl_X4_over_35 : Cond.fieldLink RX4 35 "JoinBlocksModel" "scores" "[J" ∈ wsX4_over := by decide +kernel
theorem fl_X4_over_42 : Cond.fieldLink RX4 42 "JoinBlocksModel" "had" "[J" ∈ wsX4_over := by decide +kernel
theorem fl_X4_over_45 : Cond.fieldLink RX4 45 "JoinBlocksModel" "thrown" "I" ∈ wsX4_over := by decide +kernel
abbrev pc_X4_over (cs : Nat → ClassId) (h0 : Nat) (h0_level : Nat) (h0_value : Nat) (h0_tags : Nat) (h0_link : Nat) (h0_key : Nat) (h0_lives : Nat) (h0_open : Nat) (h0_in : Nat) (h0_scores : Nat) (h0_was : Nat) (h0_had : Nat) (n0_thrown : Int32) (n0_objects : Int32) (n0_opened : Int32) (n0_sets : Int32) (b0_hasFamily : Bool) (f0_level : Nat → Int32) (f0_link : Nat → Int32) (f0_key : Nat → Int32) (f0_lives : Nat → Bool) (f0_in : Nat → Bool) (f0_scores : Nat → Int64) (f0_was : Nat → Bool) (f0_had : Nat → Int64) : va_W := [(h0, .inr (4, [.int n0_thrown, .int n0_objects, .ref h0_level, .ref h0_value, .ref h0_tags, .ref h0_link, .ref h0_key, .ref h0_lives, .int n0_opened, .ref h0_open, .int n0_sets, .ref h0_in, .ref h0_scores, .int (b2i b0_hasFamily), .ref h0_was, .ref h0_had])), (h0_level, .inl (cs 0, 261, .inl f0_level)), (h0_link, .inl (cs 0, 261, .inl f0_link)), (h0_key, .inl (cs 0, 261, .inl f0_key)), (h0_lives, .inl (cs 1, 261, .inl (bF f0_lives))), (h0_in, .inl (cs 1, 1800, .inl (bF f0_in))), (h0_scores, .inl (cs 2, 1800, .inr (.inl f0_scores))), (h0_was, .inl (cs 1, 200, .inl (bF f0_was))), (h0_had, .inl (cs 2, 200, .inr (.inl f0_had)))]
abbrev rm_X4_over : Room := { frames := 1, cells := 0, slots := 0, locals := 23 }
def call_X4_over (n0_thrown : Int32) (n0_objects : Int32) (n0_sets : Int32) (f0_level : Nat → Int32) (f0_link : Nat → Int32) (f0_key : Nat → Int32) (f0_lives : Nat → Bool) (f0_in : Nat → Bool) (f0_scores : Nat → Int64) (f0_was : Nat → Bool) (f0_had : Nat → Int64) (Q : Int32 → Int32 → (Nat → Bool) → (Nat → Int64) → (Nat → Bool) → (Nat → Int64) → Prop) : Prop := ∀ (X32 : Int32 → Int32 → Int32 → (Nat → Bool) → (Nat → Int64) → (Nat → Bool) → (Nat → Int64) → Prop) (X42 : Int32 → Int32 → Int32 → Int32 → (Nat → Bool) → (Nat → Int64) → (Nat → Bool) → (Nat → Int64) → Prop) (X116 : Int32 → Int32 → Int32 → Int32 → (Nat → Bool) → (Nat → Int64) → (Nat → Bool) → (Nat → Int64) → Prop) (X122 : Int32 → Int32 → Int32 → (Nat → Bool) → (Nat → Int64) → (Nat → Bool) → (Nat → Int64) → Prop),
    (∀ (x1 : Int32) (x2 : Int32) (n0_thrown : Int32) (f0_in : Nat → Bool) (f0_scores : Nat → Int64) (f0_was : Nat → Bool) (f0_had : Nat → Int64),
      ((n0_objects ≤ x2 → (call_X4_sizeOf (n0_sets - 1) n0_objects f0_in (fun (r135 : Int32) => Q r135 n0_thrown f0_in f0_scores f0_was f0_had))) ∧ (¬ n0_objects ≤ x2 → X42 x1 x2 0 n0_thrown f0_in f0_scores f0_was f0_had)) → X32 x1 x2 n0_thrown f0_in f0_scores f0_was f0_had) →
    (∀ (x1 : Int32) (x2 : Int32) (x3 : Int32) (n0_thrown : Int32) (f0_in : Nat → Bool) (f0_scores : Nat → Int64) (f0_was : Nat → Bool) (f0_had : Nat → Int64),
      ((n0_objects ≤ x3 → X122 x1 x2 n0_thrown f0_in f0_scores f0_was f0_had) ∧ (¬ n0_objects ≤ x3 → (∃ j55 : Nat, j55 < 200 ∧ x2 = nI j55 ∧ (((f0_was j55) = false → X122 x1 x2 n0_thrown f0_in f0_scores f0_was f0_had) ∧ ((f0_was j55) = true → (∃ j64 : Nat, j64 < 261 ∧ x2 = nI j64 ∧ ((¬ (f0_level j64) = 2 → X122 x1 x2 n0_thrown f0_in f0_scores f0_was f0_had) ∧ ((f0_level j64) = 2 → (∃ j74 : Nat, j74 < 261 ∧ x3 = nI j74 ∧ (((f0_lives j74) = false → X116 x1 x2 x3 n0_thrown f0_in f0_scores f0_was f0_had) ∧ ((f0_lives j74) = true → (∃ j83 : Nat, j83 < 261 ∧ x3 = nI j83 ∧ (∃ j89 : Nat, j89 < 261 ∧ x2 = nI j89 ∧ ((¬ (f0_link j83) = (f0_key j89) → X116 x1 x2 x3 n0_thrown f0_in f0_scores f0_was f0_had) ∧ ((f0_link j83) = (f0_key j89) → (∃ j101 : Nat, j101 < 1800 ∧ (x1 + x3) = nI j101 ∧ (∃ j114 : Nat, j114 < 200 ∧ x2 = nI j114 ∧ (∃ j115 : Nat, j115 < 1800 ∧ (x1 + x3) = nI j115 ∧ X116 x1 x2 x3 n0_thrown (va_up f0_in j101 true) (va_up f0_scores j115 (f0_had j114)) f0_was f0_had)))))))))))))))))) → X42 x1 x2 x3 n0_thrown f0_in f0_scores f0_was f0_had) →
    (∀ (x1 : Int32) (x2 : Int32) (x3 : Int32) (n0_thrown : Int32) (f0_in : Nat → Bool) (f0_scores : Nat → Int64) (f0_was : Nat → Bool) (f0_had : Nat → Int64),
      X42 x1 x2 (x3 + 1) n0_thrown f0_in f0_scores f0_was f0_had → X116 x1 x2 x3 n0_thrown f0_in f0_scores f0_was f0_had) →
    (∀ (x1 : Int32) (x2 : Int32) (n0_thrown : Int32) (f0_in : Nat → Bool) (f0_scores : Nat → Int64) (f0_was : Nat → Bool) (f0_had : Nat → Int64),
      X32 x1 (x2 + 1) n0_thrown f0_in f0_scores f0_was f0_had → X122 x1 x2 n0_thrown f0_in f0_scores f0_was f0_had) →
    ((¬ n0_sets = 0 → (call_X4_takeLast n0_objects n0_sets f0_in f0_scores f0_was f0_had (fun (f0_in_16 : Nat → Bool) (f0_scores_16 : Nat → Int64) (f0_was_16 : Nat → Bool) (f0_had_16 : Nat → Int64) => X32 (200 * (n0_sets - 1)) 0 0 f0_in_16 f0_scores_16 f0_was_16 f0_had_16))) ∧ (n0_sets = 0 → Q (-3) 0 f0_in f0_scores f0_was f0_had))
set_option maxHeartbeats 4000000 in
set_option maxRecDepth 100000 in
theorem m_X4_over (l : Launch) (D : va_G) (cs : Nat → ClassId) (h0 : Nat) (h0_level : Nat) (h0_value : Nat) (h0_tags : Nat) (h0_link : Nat) (h0_key : Nat) (h0_lives : Nat) (h0_open : Nat) (h0_in : Nat) (h0_scores : Nat) (h0_was : Nat) (h0_had : Nat)  (n0_thrown : Int32) (n0_objects : Int32) (n0_opened : Int32) (n0_sets : Int32) (b0_hasFamily : Bool) (f0_level : Nat → Int32) (f0_link : Nat → Int32) (f0_key : Nat → Int32) (f0_lives : Nat → Bool) (f0_in : Nat → Bool) (f0_scores : Nat → Int64) (f0_was : Nat → Bool) (f0_had : Nat → Int64) (Q : Int32 → Int32 → (Nat → Bool) → (Nat → Int64) → (Nat → Bool) → (Nat → Int64) → Prop) (h : call_X4_over n0_thrown n0_objects n0_sets f0_level f0_link f0_key f0_lives f0_in f0_scores f0_was f0_had Q) : CtI l yX4_over wsX4_over rm_X4_over D cs [.ref h0] (pc_X4_over cs h0 h0_level h0_value h0_tags h0_link h0_key h0_lives h0_open h0_in h0_scores h0_was h0_had n0_thrown n0_objects n0_opened n0_sets b0_hasFamily f0_level f0_link f0_key f0_lives f0_in f0_scores f0_was f0_had) (fun u : Int32 × (Nat → Bool) × (Nat → Int64) × (Nat → Bool) × (Nat → Int64) => (pc_X4_over cs h0 h0_level h0_value h0_tags h0_link h0_key h0_lives h0_open h0_in h0_scores h0_was h0_had u.1 n0_objects n0_opened n0_sets b0_hasFamily f0_level f0_link f0_key f0_lives u.2.1 u.2.2.1 u.2.2.2.1 u.2.2.2.2)) (fun r u => Q r u.1 u.2.1 u.2.2.1 u.2.2.2.1 u.2.2.2.2) := by
  refine xo_I (S := Int32 × (Nat → Bool) × (Nat → Int64) × (Nat → Bool) × (Nat → Int64)) (cc := cX4_over) (maxL := 4) (own := RX4) (lv0 := [(0, .ref h0)]) (by decide) rfl rfl (Nat.le_of_ble_eq_true rfl) rfl ?_
  intro p e s m args below meth c A Z ls F hK hA hP hD hS hl RET
  unfold call_X4_over at h
  obtain ⟨X32, hX32⟩ : ∃ X : Int32 → Int32 → Int32 → (Nat → Bool) → (Nat → Int64) → (Nat → Bool) → (Nat → Int64) → Prop, ∀ (x1 : Int32) (x2 : Int32) (n0_thrown : Int32) (f0_in : Nat → Bool) (f0_scores : Nat → Int64) (f0_was : Nat → Bool) (f0_had : Nat → Int64), (X x1 x2 n0_thrown f0_in f0_scores f0_was f0_had ↔ ∀ (H : Heap) (locs : List Loc) (ls : Array Slot), va_P D vwCl (pc_X4_over cs h0 h0_level h0_value h0_tags h0_link h0_key h0_lives h0_open h0_in h0_scores h0_was h0_had n0_thrown n0_objects n0_opened n0_sets b0_hasFamily f0_level f0_link f0_key f0_lives f0_in f0_scores f0_was f0_had) H → va_D A (pc_X4_over cs h0 h0_level h0_value h0_tags h0_link h0_key h0_lives h0_open h0_in h0_scores h0_was h0_had n0_thrown n0_objects n0_opened n0_sets b0_hasFamily f0_level f0_link f0_key f0_lives f0_in f0_scores f0_was f0_had) → va_S A s.heap H locs → lv_has ls 4 [(0, .ref h0), (1, .int x1), (2, .int x2)] → W p l e rm_X4_over s m args below meth c H locs 0 0 Z (F0 m 32 ls [])) := ⟨_, fun _ _ _ _ _ _ _ => Iff.rfl⟩
  obtain ⟨X42, hX42⟩ : ∃ X : Int32 → Int32 → Int32 → Int32 → (Nat → Bool) → (Nat → Int64) → (Nat → Bool) → (Nat → Int64) → Prop, ∀ (x1 : Int32) (x2 : Int32) (x3 : Int32) (n0_thrown : Int32) (f0_in : Nat → Bool) (f0_scores : Nat → Int64) (f0_was : Nat → Bool) (f0_had : Nat → Int64), (X x1 x2 x3 n0_thrown f0_in f0_scores f0_was f0_had ↔ ∀ (H : Heap) (locs : List Loc) (ls : Array Slot), va_P D vwCl (pc_X4_over cs h0 h0_level h0_value h0_tags h0_link h0_key h0_lives h0_open h0_in h0_scores h0_was h0_had n0_thrown n0_objects n0_opened n0_sets b0_hasFamily f0_level f0_link f0_key f0_lives f0_in f0_scores f0_was f0_had) H → va_D A (pc_X4_over cs h0 h0_level h0_value h0_tags h0_link h0_key h0_lives h0_open h0_in h0_scores h0_was h0_had n0_thrown n0_objects n0_opened n0_sets b0_hasFamily f0_level f0_link f0_key f0_lives f0_in f0_scores f0_was f0_had) → va_S A s.heap H locs → lv_has ls 4 [(0, .ref h0), (1, .int x1), (2, .int x2), (3, .int x3)] → W p l e rm_X4_over s m args below meth c H locs 0 0 Z (F0 m 42 ls [])) := ⟨_, fun _ _ _ _ _ _ _ _ => Iff.rfl⟩
  obtain ⟨X116, hX116⟩ : ∃ X : Int32 → Int32 → Int32 → Int32 → (Nat → Bool) → (Nat → Int64) → (Nat → Bool) → (Nat → Int64) → Prop, ∀ (x1 : Int32) (x2 : Int32) (x3 : Int32) (n0_thrown : Int32) (f0_in : Nat → Bool) (f0_scores : Nat → Int64) (f0_was : Nat → Bool) (f0_had : Nat → Int64), (X x1 x2 x3 n0_thrown f0_in f0_scores f0_was f0_had ↔ ∀ (H : Heap) (locs : List Loc) (ls : Array Slot), va_P D vwCl (pc_X4_over cs h0 h0_level h0_value h0_tags h0_link h0_key h0_lives h0_open h0_in h0_scores h0_was h0_had n0_thrown n0_objects n0_opened n0_sets b0_hasFamily f0_level f0_link f0_key f0_lives f0_in f0_scores f0_was f0_had) H → va_D A (pc_X4_over cs h0 h0_level h0_value h0_tags h0_link h0_key h0_lives h0_open h0_in h0_scores h0_was h0_had n0_thrown n0_objects n0_opened n0_sets b0_hasFamily f0_level f0_link f0_key f0_lives f0_in f0_scores f0_was f0_had) → va_S A s.heap H locs → lv_has ls 4 [(0, .ref h0), (1, .int x1), (2, .int x2), (3, .int x3)] → W p l e rm_X4_over s m args below meth c H locs 0 0 Z (F0 m 116 ls [])) := ⟨_, fun _ _ _ _ _ _ _ _ => Iff.rfl⟩
  obtain ⟨X122, hX122⟩ : ∃ X : Int32 → Int32 → Int32 → (Nat → Bool) → (Nat → Int64) → (Nat → Bool) → (Nat → Int64) → Prop, ∀ (x1 : Int32) (x2 : Int32) (n0_thrown : Int32) (f0_in : Nat → Bool) (f0_scores : Nat → Int64) (f0_was : Nat → Bool) (f0_had : Nat → Int64), (X x1 x2 n0_thrown f0_in f0_scores f0_was f0_had ↔ ∀ (H : Heap) (locs : List Loc) (ls : Array Slot), va_P D vwCl (pc_X4_over cs h0 h0_level h0_value h0_tags h0_link h0_key h0_lives h0_open h0_in h0_scores h0_was h0_had n0_thrown n0_objects n0_opened n0_sets b0_hasFamily f0_level f0_link f0_key f0_lives f0_in f0_scores f0_was f0_had) H → va_D A (pc_X4_over cs h0 h0_level h0_value h0_tags h0_link h0_key h0_lives h0_open h0_in h0_scores h0_was h0_had n0_thrown n0_objects n0_opened n0_sets b0_hasFamily f0_level f0_link f0_key f0_lives f0_in f0_scores f0_was f0_had) → va_S A s.heap H locs → lv_has ls 4 [(0, .ref h0), (1, .int x1), (2, .int x2)] → W p l e rm_X4_over s m args below meth c H locs 0 0 Z (F0 m 122 ls [])) := ⟨_, fun _ _ _ _ _ _ _ => Iff.rfl⟩
  refine xt_cut (h X32 X42 X116 X122 ?_ ?_ ?_ ?_) (fun hw => ?_)
  · intro x1 x2 n0_thrown f0_in f0_scores f0_was f0_had hw
    refine (hX32 _ _ _ _ _ _ _).mpr ?_
    intro H locs ls hP hD hS hl
    refine lv_iload_n F.1 F.2.1 dX4_over_32 rfl (lv_at hl 2 rfl) ?_
    refine lv_aload_n F.1 F.2.1 dX4_over_33 rfl (lv_at hl 0 rfl) ?_
    refine xi_get (C := RX4) (T := TX4) (N := 16) (v := .int n0_objects) F in_X4_over_X4 hK hP 0 rfl rfl 1 (by decide) fl_X4_over_49 rfl dX4_over_34 ?_
    refine lv_icmp_ge (tgt := 128) F.1 F.2.1 dX4_over_37 (by decide) (fun hc => ?_) (fun hc => ?_)
    · have hw := hw.1 hc
      refine lv_aload_n F.1 F.2.1 dX4_over_128 rfl (lv_at hl 0 rfl) ?_
      refine lv_aload_n F.1 F.2.1 dX4_over_129 rfl (lv_at hl 0 rfl) ?_
      refine xi_get (C := RX4) (T := TX4) (N := 16) (v := .int n0_sets) F in_X4_over_X4 hK hP 0 rfl rfl 10 (by decide) fl_X4_over_59 rfl dX4_over_130 ?_
      refine lv_iconst (v := 1) F.1 F.2.1 dX4_over_133 (by decide) ?_
      refine lv_isub F.1 F.2.1 dX4_over_134 ?_
      refine xc_Vi (As := [.int (n0_sets - 1)]) (rest := []) (m_X4_sizeOf l D cs h0 h0_level h0_value h0_tags h0_link h0_key h0_lives h0_open h0_in h0_scores h0_was h0_had (n0_sets - 1) n0_thrown n0_objects n0_opened n0_sets b0_hasFamily f0_in _ hw) F (cwV 1 F.2.2.2.2 gX4_over_X4_sizeOf rfl rfl rfl (by decide +kernel) ⟨Nat.le_of_ble_eq_true rfl, Nat.le_of_ble_eq_true rfl⟩) hK hP hD hS hA [0, 5] [1, 2, 3, 4, 6, 7, 8] rfl rfl 0 rfl rfl rfl hl.1 rfl (Nat.le_of_ble_eq_true rfl) dX4_over_135 ⟨Nat.zero_le _, Nat.zero_le _⟩ (fun r135 u H locs hw hP hD hS => ?_)
      have hP : va_P D vwCl (pc_X4_over cs h0 h0_level h0_value h0_tags h0_link h0_key h0_lives h0_open h0_in h0_scores h0_was h0_had n0_thrown n0_objects n0_opened n0_sets b0_hasFamily f0_level f0_link f0_key f0_lives f0_in f0_scores f0_was f0_had) H := hP.sub [7, 0, 1, 2, 3, 8, 4, 5, 6] rfl
      have hD : va_D A (pc_X4_over cs h0 h0_level h0_value h0_tags h0_link h0_key h0_lives h0_open h0_in h0_scores h0_was h0_had n0_thrown n0_objects n0_opened n0_sets b0_hasFamily f0_level f0_link f0_key f0_lives f0_in f0_scores f0_was f0_had) := hD.sub [7, 0, 1, 2, 3, 8, 4, 5, 6] (by decide) rfl
      try dsimp only at hw
      exact RET r135 (n0_thrown, f0_in, f0_scores, f0_was, f0_had) H locs 138 ls hw hP hD hS dX4_over_138
    · have hw := hw.2 hc
      refine lv_iconst (v := 0) F.1 F.2.1 dX4_over_40 (by decide) ?_
      refine lv_istore_n (lv' := [(3, .int 0), (0, .ref h0), (1, .int x1), (2, .int x2)]) F.1 F.2.1 dX4_over_41 rfl hl (by decide) rfl (fun ls hl => ?_)
      exact (hX42 _ _ _ _ _ _ _ _).mp hw H locs ls hP hD hS (lv_sub hl [1, 2, 3, 0] rfl)
  · intro x1 x2 x3 n0_thrown f0_in f0_scores f0_was f0_had hw
    refine (hX42 _ _ _ _ _ _ _ _).mpr ?_
    intro H locs ls hP hD hS hl
    refine lv_iload_n F.1 F.2.1 dX4_over_42 rfl (lv_at hl 3 rfl) ?_
    refine lv_aload_n F.1 F.2.1 dX4_over_43 rfl (lv_at hl 0 rfl) ?_
    refine xi_get (C := RX4) (T := TX4) (N := 16) (v := .int n0_objects) F in_X4_over_X4 hK hP 0 rfl rfl 1 (by decide) fl_X4_over_49 rfl dX4_over_44 ?_
    refine lv_icmp_ge (tgt := 122) F.1 F.2.1 dX4_over_47 (by decide) (fun hc => ?_) (fun hc => ?_)
    · have hw := hw.1 hc
      exact (hX122 _ _ _ _ _ _ _).mp hw H locs ls hP hD hS (lv_sub hl [0, 1, 2] rfl)
    · have hw := hw.2 hc
      refine lv_aload_n F.1 F.2.1 dX4_over_50 rfl (lv_at hl 0 rfl) ?_
      refine xi_get (C := RX4) (T := TX4) (N := 16) (v := .ref h0_was) F in_X4_over_X4 hK hP 0 rfl rfl 14 (by decide) fl_X4_over_39 rfl dX4_over_51 ?_
      refine lv_iload_n F.1 F.2.1 dX4_over_54 rfl (lv_at hl 2 rfl) ?_
      obtain ⟨j55, hj, he, hw⟩ := hw
      refine xi_zald (j := j55) F hK hP 7 rfl (by decide) hj he dX4_over_55 ?_
      refine xi_ifeqz (tgt := 122) F dX4_over_56 (by decide) (fun hc => ?_) (fun hc => ?_)
      · have hw := hw.1 hc
        exact (hX122 _ _ _ _ _ _ _).mp hw H locs ls hP hD hS (lv_sub hl [0, 1, 2] rfl)
      · have hw := hw.2 hc
        refine lv_aload_n F.1 F.2.1 dX4_over_59 rfl (lv_at hl 0 rfl) ?_
        refine xi_get (C := RX4) (T := TX4) (N := 16) (v := .ref h0_level) F in_X4_over_X4 hK hP 0 rfl rfl 2 (by decide) fl_X4_over_7 rfl dX4_over_60 ?_
        refine lv_iload_n F.1 F.2.1 dX4_over_63 rfl (lv_at hl 2 rfl) ?_
        obtain ⟨j64, hj, he, hw⟩ := hw
        refine xi_iald (j := j64) F hK hP 1 rfl (by decide) hj he dX4_over_64 ?_
        refine lv_iconst (v := 2) F.1 F.2.1 dX4_over_65 (by decide) ?_
        refine lv_icmp_ne (tgt := 122) F.1 F.2.1 dX4_over_66 (by decide) (fun hc => ?_) (fun hc => ?_)
        · have hw := hw.1 hc
          exact (hX122 _ _ _ _ _ _ _).mp hw H locs ls hP hD hS (lv_sub hl [0, 1, 2] rfl)
        · have hw := hw.2 hc
          refine lv_aload_n F.1 F.2.1 dX4_over_69 rfl (lv_at hl 0 rfl) ?_
          refine xi_get (C := RX4) (T := TX4) (N := 16) (v := .ref h0_lives) F in_X4_over_X4 hK hP 0 rfl rfl 7 (by decide) fl_X4_over_25 rfl dX4_over_70 ?_
          refine lv_iload_n F.1 F.2.1 dX4_over_73 rfl (lv_at hl 3 rfl) ?_
          obtain ⟨j74, hj, he, hw⟩ := hw
          refine xi_zald (j := j74) F hK hP 4 rfl (by decide) hj he dX4_over_74 ?_
          refine xi_ifeqz (tgt := 116) F dX4_over_75 (by decide) (fun hc => ?_) (fun hc => ?_)
          · have hw := hw.1 hc
            exact (hX116 _ _ _ _ _ _ _ _).mp hw H locs ls hP hD hS (lv_sub hl [0, 1, 2, 3] rfl)
          · have hw := hw.2 hc
            refine lv_aload_n F.1 F.2.1 dX4_over_78 rfl (lv_at hl 0 rfl) ?_
            refine xi_get (C := RX4) (T := TX4) (N := 16) (v := .ref h0_link) F in_X4_over_X4 hK hP 0 rfl rfl 5 (by decide) fl_X4_over_19 rfl dX4_over_79 ?_
            refine lv_iload_n F.1 F.2.1 dX4_over_82 rfl (lv_at hl 3 rfl) ?_
            obtain ⟨j83, hj, he, hw⟩ := hw
            refine xi_iald (j := j83) F hK hP 2 rfl (by decide) hj he dX4_over_83 ?_
            refine lv_aload_n F.1 F.2.1 dX4_over_84 rfl (lv_at hl 0 rfl) ?_
            refine xi_get (C := RX4) (T := TX4) (N := 16) (v := .ref h0_key) F in_X4_over_X4 hK hP 0 rfl rfl 6 (by decide) fl_X4_over_22 rfl dX4_over_85 ?_
            refine lv_iload_n F.1 F.2.1 dX4_over_88 rfl (lv_at hl 2 rfl) ?_
            obtain ⟨j89, hj, he, hw⟩ := hw
            refine xi_iald (j := j89) F hK hP 3 rfl (by decide) hj he dX4_over_89 ?_
            refine lv_icmp_ne (tgt := 116) F.1 F.2.1 dX4_over_90 (by decide) (fun hc => ?_) (fun hc => ?_)
            · have hw := hw.1 hc
              exact (hX116 _ _ _ _ _ _ _ _).mp hw H locs ls hP hD hS (lv_sub hl [0, 1, 2, 3] rfl)
            · have hw := hw.2 hc
              refine lv_aload_n F.1 F.2.1 dX4_over_93 rfl (lv_at hl 0 rfl) ?_
              refine xi_get (C := RX4) (T := TX4) (N := 16) (v := .ref h0_in) F in_X4_over_X4 hK hP 0 rfl rfl 11 (by decide) fl_X4_over_32 rfl dX4_over_94 ?_
              refine lv_iload_n F.1 F.2.1 dX4_over_97 rfl (lv_at hl 1 rfl) ?_
              refine lv_iload_n F.1 F.2.1 dX4_over_98 rfl (lv_at hl 3 rfl) ?_
              refine lv_iadd F.1 F.2.1 dX4_over_99 ?_
              refine lv_iconst (v := 1) F.1 F.2.1 dX4_over_100 (by decide) ?_
              obtain ⟨j101, hj, he, hw⟩ := hw
              refine xi_zast (v := true) (j := j101) F hK hP hD hS 5 rfl (by decide) hj he rfl dX4_over_101 (fun H locs hP hD hS => ?_)
              have hP : va_P D vwCl (pc_X4_over cs h0 h0_level h0_value h0_tags h0_link h0_key h0_lives h0_open h0_in h0_scores h0_was h0_had n0_thrown n0_objects n0_opened n0_sets b0_hasFamily f0_level f0_link f0_key f0_lives (va_up f0_in j101 true) f0_scores f0_was f0_had) H := hP
              have hD : va_D A (pc_X4_over cs h0 h0_level h0_value h0_tags h0_link h0_key h0_lives h0_open h0_in h0_scores h0_was h0_had n0_thrown n0_objects n0_opened n0_sets b0_hasFamily f0_level f0_link f0_key f0_lives (va_up f0_in j101 true) f0_scores f0_was f0_had) := hD
              refine lv_aload_n F.1 F.2.1 dX4_over_102 rfl (lv_at hl 0 rfl) ?_
              refine xi_get (C := RX4) (T := TX4) (N := 16) (v := .ref h0_scores) F in_X4_over_X4 hK hP 0 rfl rfl 12 (by decide) fl_X4_over_35 rfl dX4_over_103 ?_
              refine lv_iload_n F.1 F.2.1 dX4_over_106 rfl (lv_at hl 1 rfl) ?_
              refine lv_iload_n F.1 F.2.1 dX4_over_107 rfl (lv_at hl 3 rfl) ?_
              refine lv_iadd F.1 F.2.1 dX4_over_108 ?_
              refine lv_aload_n F.1 F.2.1 dX4_over_109 rfl (lv_at hl 0 rfl) ?_
              refine xi_get (C := RX4) (T := TX4) (N := 16) (v := .ref h0_had) F in_X4_over_X4 hK hP 0 rfl rfl 15 (by decide) fl_X4_over_42 rfl dX4_over_110 ?_
              refine lv_iload_n F.1 F.2.1 dX4_over_113 rfl (lv_at hl 2 rfl) ?_
              obtain ⟨j114, hj, he, hw⟩ := hw
              refine xi_lald (j := j114) F hK hP 8 rfl (by decide) hj he dX4_over_114 ?_
              obtain ⟨j115, hj, he, hw⟩ := hw
              refine xi_last (j := j115) F hK hP hD hS 6 rfl (by decide) hj he dX4_over_115 (fun H locs hP hD hS => ?_)
              have hP : va_P D vwCl (pc_X4_over cs h0 h0_level h0_value h0_tags h0_link h0_key h0_lives h0_open h0_in h0_scores h0_was h0_had n0_thrown n0_objects n0_opened n0_sets b0_hasFamily f0_level f0_link f0_key f0_lives (va_up f0_in j101 true) (va_up f0_scores j115 (f0_had j114)) f0_was f0_had) H := hP
              have hD : va_D A (pc_X4_over cs h0 h0_level h0_value h0_tags h0_link h0_key h0_lives h0_open h0_in h0_scores h0_was h0_had n0_thrown n0_objects n0_opened n0_sets b0_hasFamily f0_level f0_link f0_key f0_lives (va_up f0_in j101 true) (va_up f0_scores j115 (f0_had j114)) f0_was f0_had) := hD
              exact (hX116 _ _ _ _ _ _ _ _).mp hw H locs ls hP hD hS (lv_sub hl [0, 1, 2, 3] rfl)
  · intro x1 x2 x3 n0_thrown f0_in f0_scores f0_was f0_had hw
    refine (hX116 _ _ _ _ _ _ _ _).mpr ?_
    intro H locs ls hP hD hS hl
    refine lv_iinc (v := (x3 + 1)) (lv' := [(3, .int (x3 + 1)), (0, .ref h0), (1, .int x1), (2, .int x2)]) F.1 F.2.1 dX4_over_116 hl (k := 3) rfl rfl (by decide) rfl (fun ls hl => ?_)
    refine lv_goto (tgt := 42) F.1 F.2.1 dX4_over_119 (by decide) ?_
    exact (hX42 _ _ _ _ _ _ _ _).mp hw H locs ls hP hD hS (lv_sub hl [1, 2, 3, 0] rfl)
  · intro x1 x2 n0_thrown f0_in f0_scores f0_was f0_had hw
    refine (hX122 _ _ _ _ _ _ _).mpr ?_
    intro H locs ls hP hD hS hl
    refine lv_iinc (v := (x2 + 1)) (lv' := [(2, .int (x2 + 1)), (0, .ref h0), (1, .int x1)]) F.1 F.2.1 dX4_over_122 hl (k := 2) rfl rfl (by decide) rfl (fun ls hl => ?_)
    refine lv_goto (tgt := 32) F.1 F.2.1 dX4_over_125 (by decide) ?_
    exact (hX32 _ _ _ _ _ _ _).mp hw H locs ls hP hD hS (lv_sub hl [1, 2, 0] rfl)
  generalize ([] : List Loc) = locs at hS ⊢
  obtain ⟨H, hHe⟩ : ∃ H, H = s.heap := ⟨_, rfl⟩
  have hP : va_P D vwCl (pc_X4_over cs h0 h0_level h0_value h0_tags h0_link h0_key h0_lives h0_open h0_in h0_scores h0_was h0_had n0_thrown n0_objects n0_opened n0_sets b0_hasFamily f0_level f0_link f0_key f0_lives f0_in f0_scores f0_was f0_had) H := by rw [hHe]; exact hP
  have hS : va_S A s.heap H locs := by rw [hHe]; exact hS
  suffices W p l e rm_X4_over s m args below meth c H locs 0 0 Z (F0 m 0 ls []) by rw [hHe] at this; exact this
  refine lv_aload_n F.1 F.2.1 dX4_over_0 rfl (lv_at hl 0 rfl) ?_
  refine lv_iconst (v := 0) F.1 F.2.1 dX4_over_1 (by decide) ?_
  refine xi_put (C := RX4) (T := TX4) (N := 16) (v := .int 0) (ty := .int) F in_X4_over_X4 tyX4 tyX4_ok nmX4 hK hP hD hS 0 rfl rfl 0 (by decide) fl_X4_over_45 rfl (tyX4_ok 0 (by decide)) rfl rfl (Nat.le_of_ble_eq_true rfl) dX4_over_2 (fun H locs hP hD hS => ?_)
  have hP : va_P D vwCl (pc_X4_over cs h0 h0_level h0_value h0_tags h0_link h0_key h0_lives h0_open h0_in h0_scores h0_was h0_had 0 n0_objects n0_opened n0_sets b0_hasFamily f0_level f0_link f0_key f0_lives f0_in f0_scores f0_was f0_had) H := hP
  have hD : va_D A (pc_X4_over cs h0 h0_level h0_value h0_tags h0_link h0_key h0_lives h0_open h0_in h0_scores h0_was h0_had 0 n0_objects n0_opened n0_sets b0_hasFamily f0_level f0_link f0_key f0_lives f0_in f0_scores f0_was f0_had) := hD
  refine lv_aload_n F.1 F.2.1 dX4_over_5 rfl (lv_at hl 0 rfl) ?_
  refine xi_get (C := RX4) (T := TX4) (N := 16) (v := .int n0_sets) F in_X4_over_X4 hK hP 0 rfl rfl 10 (by decide) fl_X4_over_59 rfl dX4_over_6 ?_
  refine lv_if_ne (tgt := 15) F.1 F.2.1 dX4_over_9 (by decide) (fun hc => ?_) (fun hc => ?_)
  · have hw := hw.1 hc
    refine lv_aload_n F.1 F.2.1 dX4_over_15 rfl (lv_at hl 0 rfl) ?_
    refine xc_Vv (As := []) (rest := []) (m_X4_takeLast l D cs h0 h0_level h0_value h0_tags h0_link h0_key h0_lives h0_open h0_in h0_scores h0_was h0_had 0 n0_objects n0_opened n0_sets b0_hasFamily f0_in f0_scores f0_was f0_had _ hw) F (cwV 0 F.2.2.2.2 gX4_over_X4_takeLast rfl rfl rfl (by decide +kernel) ⟨Nat.le_of_ble_eq_true rfl, Nat.le_of_ble_eq_true rfl⟩) hK hP hD hS hA [0, 5, 6, 7, 8] [1, 2, 3, 4] rfl rfl 0 rfl rfl rfl hl.1 rfl (Nat.le_of_ble_eq_true rfl) dX4_over_16 ⟨Nat.zero_le _, Nat.zero_le _⟩ (fun u H locs hw hP hD hS => ?_)
    obtain ⟨f0_in_16, f0_scores_16, f0_was_16, f0_had_16⟩ := u
    have hP : va_P D vwCl (pc_X4_over cs h0 h0_level h0_value h0_tags h0_link h0_key h0_lives h0_open h0_in h0_scores h0_was h0_had 0 n0_objects n0_opened n0_sets b0_hasFamily f0_level f0_link f0_key f0_lives f0_in_16 f0_scores_16 f0_was_16 f0_had_16) H := hP.sub [4, 0, 1, 2, 3, 5, 6, 7, 8] rfl
    have hD : va_D A (pc_X4_over cs h0 h0_level h0_value h0_tags h0_link h0_key h0_lives h0_open h0_in h0_scores h0_was h0_had 0 n0_objects n0_opened n0_sets b0_hasFamily f0_level f0_link f0_key f0_lives f0_in_16 f0_scores_16 f0_was_16 f0_had_16) := hD.sub [4, 0, 1, 2, 3, 5, 6, 7, 8] (by decide) rfl
    try dsimp only at hw
    refine lv_sipush (v := 200) F.1 F.2.1 dX4_over_19 (by decide) ?_
    refine lv_aload_n F.1 F.2.1 dX4_over_22 rfl (lv_at hl 0 rfl) ?_
    refine xi_get (C := RX4) (T := TX4) (N := 16) (v := .int n0_sets) F in_X4_over_X4 hK hP 0 rfl rfl 10 (by decide) fl_X4_over_59 rfl dX4_over_23 ?_
    refine lv_iconst (v := 1) F.1 F.2.1 dX4_over_26 (by decide) ?_
    refine lv_isub F.1 F.2.1 dX4_over_27 ?_
    refine lv_imul F.1 F.2.1 dX4_over_28 ?_
    refine lv_istore_n (lv' := [(1, .int (200 * (n0_sets - 1))), (0, .ref h0)]) F.1 F.2.1 dX4_over_29 rfl hl (by decide) rfl (fun ls hl => ?_)
    refine lv_iconst (v := 0) F.1 F.2.1 dX4_over_30 (by decide) ?_
    refine lv_istore_n (lv' := [(2, .int 0), (1, .int (200 * (n0_sets - 1))), (0, .ref h0)]) F.1 F.2.1 dX4_over_31 rfl hl (by decide) rfl (fun ls hl => ?_)
    exact (hX32 _ _ _ _ _ _ _).mp hw H locs ls hP hD hS (lv_sub hl [2, 1, 0] rfl)
  · have hw := hw.2 hc
    refine lv_bipush (v := (-3)) F.1 F.2.1 dX4_over_12 (by decide) ?_
    exact RET (-3) (0, f0_in, f0_scores, f0_was, f0_had) H locs 14 ls hw hP hD hS dX4_over_14

theorem in_X4_again_X4 : ∀ w ∈ wsX40, w ∈ wsX4_again := by decide +kernel
theorem fl_X4_again_49 : Cond.fieldLink RX4 49 "JoinBlocksModel" "objects" "I" ∈ wsX4_again := by decide +kernel
theorem fl_X4_again_59 : Cond.fieldLink RX4 59 "JoinBlocksModel" "sets" "I" ∈ wsX4_again := by decide +kernel
theorem fl_X4_again_32 : Cond.fieldLink RX4 32 "JoinBlocksModel" "in" "[Z" ∈ wsX4_again := by decide +kernel
theorem fl_X4_again_35 : Cond.fieldLink RX4 35 "JoinBlocksModel" "scores" "[J" ∈ wsX4_again := by decide +kernel
theorem fl_X4_again_45 : Cond.fieldLink RX4 45 "JoinBlocksModel" "thrown" "I" ∈ wsX4_again := by decide +kernel
abbrev pc_X4_again (cs : Nat → ClassId) (h0 : Nat) (h0_level : Nat) (h0_value : Nat) (h0_tags : Nat) (h0_link : Nat) (h0_key : Nat) (h0_lives : Nat) (h0_open : Nat) (h0_in : Nat) (h0_scores : Nat) (h0_was : Nat) (h0_had : Nat) (n0_thrown : Int32) (n0_objects : Int32) (n0_opened : Int32) (n0_sets : Int32) (b0_hasFamily : Bool) (f0_in : Nat → Bool) (f0_scores : Nat → Int64) : va_W := [(h0, .inr (4, [.int n0_thrown, .int n0_objects, .ref h0_level, .ref h0_value, .ref h0_tags, .ref h0_link, .ref h0_key, .ref h0_lives, .int n0_opened, .ref h0_open, .int n0_sets, .ref h0_in, .ref h0_scores, .int (b2i b0_hasFamily), .ref h0_was, .ref h0_had])), (h0_in, .inl (cs 1, 1800, .inl (bF f0_in))), (h0_scores, .inl (cs 2, 1800, .inr (.inl f0_scores)))]
abbrev rm_X4_again : Room := { frames := 0, cells := 0, slots := 0, locals := 0 }
def call_X4_again (n0_thrown : Int32) (n0_objects : Int32) (n0_sets : Int32) (f0_in : Nat → Bool) (f0_scores : Nat → Int64) (Q : Int32 → Int32 → Int32 → (Nat → Bool) → (Nat → Int64) → Prop) : Prop := ∀ (X29 : Int32 → Int32 → Int32 → (Nat → Bool) → (Nat → Int64) → Prop),
    (∀ (x1 : Int32) (n0_thrown : Int32) (n0_sets : Int32) (f0_in : Nat → Bool) (f0_scores : Nat → Int64),
      ((n0_objects ≤ x1 → Q (n0_sets + 1) n0_thrown (n0_sets + 1) f0_in f0_scores) ∧ (¬ n0_objects ≤ x1 → (∃ j67 : Nat, j67 < 1800 ∧ ((200 * (n0_sets - 1)) + x1) = nI j67 ∧ (∃ j68 : Nat, j68 < 1800 ∧ ((200 * n0_sets) + x1) = nI j68 ∧ (∃ j99 : Nat, j99 < 1800 ∧ ((200 * (n0_sets - 1)) + x1) = nI j99 ∧ (∃ j100 : Nat, j100 < 1800 ∧ ((200 * n0_sets) + x1) = nI j100 ∧ X29 (x1 + 1) n0_thrown n0_sets (va_up f0_in j68 (f0_in j67)) (va_up f0_scores j100 (f0_scores j99)))))))) → X29 x1 n0_thrown n0_sets f0_in f0_scores) →
    ((¬ n0_sets = 0 → ((¬ n0_sets = 8 → X29 0 0 n0_sets f0_in f0_scores) ∧ (n0_sets = 8 → Q (-4) 0 n0_sets f0_in f0_scores))) ∧ (n0_sets = 0 → Q (-3) 0 n0_sets f0_in f0_scores))
set_option maxHeartbeats 4000000 in
set_option maxRecDepth 100000 in
theorem m_X4_again (l : Launch) (D : va_G) (cs : Nat → ClassId) (h0 : Nat) (h0_level : Nat) (h0_value : Nat) (h0_tags : Nat) (h0_link : Nat) (h0_key : Nat) (h0_lives : Nat) (h0_open : Nat) (h0_in : Nat) (h0_scores : Nat) (h0_was : Nat) (h0_had : Nat)  (n0_thrown : Int32) (n0_objects : Int32) (n0_opened : Int32) (n0_sets : Int32) (b0_hasFamily : Bool) (f0_in : Nat → Bool) (f0_scores : Nat → Int64) (Q : Int32 → Int32 → Int32 → (Nat → Bool) → (Nat → Int64) → Prop) (h : call_X4_again n0_thrown n0_objects n0_sets f0_in f0_scores Q) : CtI l yX4_again wsX4_again rm_X4_again D cs [.ref h0] (pc_X4_again cs h0 h0_level h0_value h0_tags h0_link h0_key h0_lives h0_open h0_in h0_scores h0_was h0_had n0_thrown n0_objects n0_opened n0_sets b0_hasFamily f0_in f0_scores) (fun u : Int32 × Int32 × (Nat → Bool) × (Nat → Int64) => (pc_X4_again cs h0 h0_level h0_value h0_tags h0_link h0_key h0_lives h0_open h0_in h0_scores h0_was h0_had u.1 n0_objects n0_opened u.2.1 b0_hasFamily u.2.2.1 u.2.2.2)) (fun r u => Q r u.1 u.2.1 u.2.2.1 u.2.2.2) := by
  refine xo_I (S := Int32 × Int32 × (Nat → Bool) × (Nat → Int64)) (cc := cX4_again) (maxL := 2) (own := RX4) (lv0 := [(0, .ref h0)]) (by decide) rfl rfl (Nat.le_of_ble_eq_true rfl) rfl ?_
  intro p e s m args below meth c A Z ls F hK hA hP hD hS hl RET
  unfold call_X4_again at h
  obtain ⟨X29, hX29⟩ : ∃ X : Int32 → Int32 → Int32 → (Nat → Bool) → (Nat → Int64) → Prop, ∀ (x1 : Int32) (n0_thrown : Int32) (n0_sets : Int32) (f0_in : Nat → Bool) (f0_scores : Nat → Int64), (X x1 n0_thrown n0_sets f0_in f0_scores ↔ ∀ (H : Heap) (locs : List Loc) (ls : Array Slot), va_P D vwCl (pc_X4_again cs h0 h0_level h0_value h0_tags h0_link h0_key h0_lives h0_open h0_in h0_scores h0_was h0_had n0_thrown n0_objects n0_opened n0_sets b0_hasFamily f0_in f0_scores) H → va_D A (pc_X4_again cs h0 h0_level h0_value h0_tags h0_link h0_key h0_lives h0_open h0_in h0_scores h0_was h0_had n0_thrown n0_objects n0_opened n0_sets b0_hasFamily f0_in f0_scores) → va_S A s.heap H locs → lv_has ls 2 [(0, .ref h0), (1, .int x1)] → W p l e rm_X4_again s m args below meth c H locs 0 0 Z (F0 m 29 ls [])) := ⟨_, fun _ _ _ _ _ => Iff.rfl⟩
  refine xt_cut (h X29 ?_) (fun hw => ?_)
  · intro x1 n0_thrown n0_sets f0_in f0_scores hw
    refine (hX29 _ _ _ _ _).mpr ?_
    intro H locs ls hP hD hS hl
    refine lv_iload_n F.1 F.2.1 dX4_again_29 rfl (lv_at hl 1 rfl) ?_
    refine lv_aload_n F.1 F.2.1 dX4_again_30 rfl (lv_at hl 0 rfl) ?_
    refine xi_get (C := RX4) (T := TX4) (N := 16) (v := .int n0_objects) F in_X4_again_X4 hK hP 0 rfl rfl 1 (by decide) fl_X4_again_49 rfl dX4_again_31 ?_
    refine lv_icmp_ge (tgt := 107) F.1 F.2.1 dX4_again_34 (by decide) (fun hc => ?_) (fun hc => ?_)
    · have hw := hw.1 hc
      refine lv_aload_n F.1 F.2.1 dX4_again_107 rfl (lv_at hl 0 rfl) ?_
      refine lv_dup F.1 F.2.1 dX4_again_108 rfl ?_
      refine xi_get (C := RX4) (T := TX4) (N := 16) (v := .int n0_sets) F in_X4_again_X4 hK hP 0 rfl rfl 10 (by decide) fl_X4_again_59 rfl dX4_again_109 ?_
      refine lv_iconst (v := 1) F.1 F.2.1 dX4_again_112 (by decide) ?_
      refine lv_iadd F.1 F.2.1 dX4_again_113 ?_
      refine xi_put (C := RX4) (T := TX4) (N := 16) (v := .int (n0_sets + 1)) (ty := .int) F in_X4_again_X4 tyX4 tyX4_ok nmX4 hK hP hD hS 0 rfl rfl 10 (by decide) fl_X4_again_59 rfl (tyX4_ok 10 (by decide)) rfl rfl (Nat.le_of_ble_eq_true rfl) dX4_again_114 (fun H locs hP hD hS => ?_)
      have hP : va_P D vwCl (pc_X4_again cs h0 h0_level h0_value h0_tags h0_link h0_key h0_lives h0_open h0_in h0_scores h0_was h0_had n0_thrown n0_objects n0_opened (n0_sets + 1) b0_hasFamily f0_in f0_scores) H := hP
      have hD : va_D A (pc_X4_again cs h0 h0_level h0_value h0_tags h0_link h0_key h0_lives h0_open h0_in h0_scores h0_was h0_had n0_thrown n0_objects n0_opened (n0_sets + 1) b0_hasFamily f0_in f0_scores) := hD
      refine lv_aload_n F.1 F.2.1 dX4_again_117 rfl (lv_at hl 0 rfl) ?_
      refine xi_get (C := RX4) (T := TX4) (N := 16) (v := .int (n0_sets + 1)) F in_X4_again_X4 hK hP 0 rfl rfl 10 (by decide) fl_X4_again_59 rfl dX4_again_118 ?_
      exact RET (n0_sets + 1) (n0_thrown, (n0_sets + 1), f0_in, f0_scores) H locs 121 ls hw hP hD hS dX4_again_121
    · have hw := hw.2 hc
      refine lv_aload_n F.1 F.2.1 dX4_again_37 rfl (lv_at hl 0 rfl) ?_
      refine xi_get (C := RX4) (T := TX4) (N := 16) (v := .ref h0_in) F in_X4_again_X4 hK hP 0 rfl rfl 11 (by decide) fl_X4_again_32 rfl dX4_again_38 ?_
      refine lv_sipush (v := 200) F.1 F.2.1 dX4_again_41 (by decide) ?_
      refine lv_aload_n F.1 F.2.1 dX4_again_44 rfl (lv_at hl 0 rfl) ?_
      refine xi_get (C := RX4) (T := TX4) (N := 16) (v := .int n0_sets) F in_X4_again_X4 hK hP 0 rfl rfl 10 (by decide) fl_X4_again_59 rfl dX4_again_45 ?_
      refine lv_imul F.1 F.2.1 dX4_again_48 ?_
      refine lv_iload_n F.1 F.2.1 dX4_again_49 rfl (lv_at hl 1 rfl) ?_
      refine lv_iadd F.1 F.2.1 dX4_again_50 ?_
      refine lv_aload_n F.1 F.2.1 dX4_again_51 rfl (lv_at hl 0 rfl) ?_
      refine xi_get (C := RX4) (T := TX4) (N := 16) (v := .ref h0_in) F in_X4_again_X4 hK hP 0 rfl rfl 11 (by decide) fl_X4_again_32 rfl dX4_again_52 ?_
      refine lv_sipush (v := 200) F.1 F.2.1 dX4_again_55 (by decide) ?_
      refine lv_aload_n F.1 F.2.1 dX4_again_58 rfl (lv_at hl 0 rfl) ?_
      refine xi_get (C := RX4) (T := TX4) (N := 16) (v := .int n0_sets) F in_X4_again_X4 hK hP 0 rfl rfl 10 (by decide) fl_X4_again_59 rfl dX4_again_59 ?_
      refine lv_iconst (v := 1) F.1 F.2.1 dX4_again_62 (by decide) ?_
      refine lv_isub F.1 F.2.1 dX4_again_63 ?_
      refine lv_imul F.1 F.2.1 dX4_again_64 ?_
      refine lv_iload_n F.1 F.2.1 dX4_again_65 rfl (lv_at hl 1 rfl) ?_
      refine lv_iadd F.1 F.2.1 dX4_again_66 ?_
      obtain ⟨j67, hj, he, hw⟩ := hw
      refine xi_zald (j := j67) F hK hP 1 rfl (by decide) hj he dX4_again_67 ?_
      obtain ⟨j68, hj, he, hw⟩ := hw
      refine xi_zast (v := (f0_in j67)) (j := j68) F hK hP hD hS 1 rfl (by decide) hj he rfl dX4_again_68 (fun H locs hP hD hS => ?_)
      have hP : va_P D vwCl (pc_X4_again cs h0 h0_level h0_value h0_tags h0_link h0_key h0_lives h0_open h0_in h0_scores h0_was h0_had n0_thrown n0_objects n0_opened n0_sets b0_hasFamily (va_up f0_in j68 (f0_in j67)) f0_scores) H := hP
      have hD : va_D A (pc_X4_again cs h0 h0_level h0_value h0_tags h0_link h0_key h0_lives h0_open h0_in h0_scores h0_was h0_had n0_thrown n0_objects n0_opened n0_sets b0_hasFamily (va_up f0_in j68 (f0_in j67)) f0_scores) := hD
      refine lv_aload_n F.1 F.2.1 dX4_again_69 rfl (lv_at hl 0 rfl) ?_
      refine xi_get (C := RX4) (T := TX4) (N := 16) (v := .ref h0_scores) F in_X4_again_X4 hK hP 0 rfl rfl 12 (by decide) fl_X4_again_35 rfl dX4_again_70 ?_
      refine lv_sipush (v := 200) F.1 F.2.1 dX4_again_73 (by decide) ?_
      refine lv_aload_n F.1 F.2.1 dX4_again_76 rfl (lv_at hl 0 rfl) ?_
      refine xi_get (C := RX4) (T := TX4) (N := 16) (v := .int n0_sets) F in_X4_again_X4 hK hP 0 rfl rfl 10 (by decide) fl_X4_again_59 rfl dX4_again_77 ?_
      refine lv_imul F.1 F.2.1 dX4_again_80 ?_
      refine lv_iload_n F.1 F.2.1 dX4_again_81 rfl (lv_at hl 1 rfl) ?_
      refine lv_iadd F.1 F.2.1 dX4_again_82 ?_
      refine lv_aload_n F.1 F.2.1 dX4_again_83 rfl (lv_at hl 0 rfl) ?_
      refine xi_get (C := RX4) (T := TX4) (N := 16) (v := .ref h0_scores) F in_X4_again_X4 hK hP 0 rfl rfl 12 (by decide) fl_X4_again_35 rfl dX4_again_84 ?_
      refine lv_sipush (v := 200) F.1 F.2.1 dX4_again_87 (by decide) ?_
      refine lv_aload_n F.1 F.2.1 dX4_again_90 rfl (lv_at hl 0 rfl) ?_
      refine xi_get (C := RX4) (T := TX4) (N := 16) (v := .int n0_sets) F in_X4_again_X4 hK hP 0 rfl rfl 10 (by decide) fl_X4_again_59 rfl dX4_again_91 ?_
      refine lv_iconst (v := 1) F.1 F.2.1 dX4_again_94 (by decide) ?_
      refine lv_isub F.1 F.2.1 dX4_again_95 ?_
      refine lv_imul F.1 F.2.1 dX4_again_96 ?_
      refine lv_iload_n F.1 F.2.1 dX4_again_97 rfl (lv_at hl 1 rfl) ?_
      refine lv_iadd F.1 F.2.1 dX4_again_98 ?_
      obtain ⟨j99, hj, he, hw⟩ := hw
      refine xi_lald (j := j99) F hK hP 2 rfl (by decide) hj he dX4_again_99 ?_
      obtain ⟨j100, hj, he, hw⟩ := hw
      refine xi_last (j := j100) F hK hP hD hS 2 rfl (by decide) hj he dX4_again_100 (fun H locs hP hD hS => ?_)
      have hP : va_P D vwCl (pc_X4_again cs h0 h0_level h0_value h0_tags h0_link h0_key h0_lives h0_open h0_in h0_scores h0_was h0_had n0_thrown n0_objects n0_opened n0_sets b0_hasFamily (va_up f0_in j68 (f0_in j67)) (va_up f0_scores j100 (f0_scores j99))) H := hP
      have hD : va_D A (pc_X4_again cs h0 h0_level h0_value h0_tags h0_link h0_key h0_lives h0_open h0_in h0_scores h0_was h0_had n0_thrown n0_objects n0_opened n0_sets b0_hasFamily (va_up f0_in j68 (f0_in j67)) (va_up f0_scores j100 (f0_scores j99))) := hD
      refine lv_iinc (v := (x1 + 1)) (lv' := [(1, .int (x1 + 1)), (0, .ref h0)]) F.1 F.2.1 dX4_again_101 hl (k := 1) rfl rfl (by decide) rfl (fun ls hl => ?_)
      refine lv_goto (tgt := 29) F.1 F.2.1 dX4_again_104 (by decide) ?_
      exact (hX29 _ _ _ _ _).mp hw H locs ls hP hD hS (lv_sub hl [1, 0] rfl)
  generalize ([] : List Loc) = locs at hS ⊢
  obtain ⟨H, hHe⟩ : ∃ H, H = s.heap := ⟨_, rfl⟩
  have hP : va_P D vwCl (pc_X4_again cs h0 h0_level h0_value h0_tags h0_link h0_key h0_lives h0_open h0_in h0_scores h0_was h0_had n0_thrown n0_objects n0_opened n0_sets b0_hasFamily f0_in f0_scores) H := by rw [hHe]; exact hP
  have hS : va_S A s.heap H locs := by rw [hHe]; exact hS
  suffices W p l e rm_X4_again s m args below meth c H locs 0 0 Z (F0 m 0 ls []) by rw [hHe] at this; exact this
  refine lv_aload_n F.1 F.2.1 dX4_again_0 rfl (lv_at hl 0 rfl) ?_
  refine lv_iconst (v := 0) F.1 F.2.1 dX4_again_1 (by decide) ?_
  refine xi_put (C := RX4) (T := TX4) (N := 16) (v := .int 0) (ty := .int) F in_X4_again_X4 tyX4 tyX4_ok nmX4 hK hP hD hS 0 rfl rfl 0 (by decide) fl_X4_again_45 rfl (tyX4_ok 0 (by decide)) rfl rfl (Nat.le_of_ble_eq_true rfl) dX4_again_2 (fun H locs hP hD hS => ?_)
  have hP : va_P D vwCl (pc_X4_again cs h0 h0_level h0_value h0_tags h0_link h0_key h0_lives h0_open h0_in h0_scores h0_was h0_had 0 n0_objects n0_opened n0_sets b0_hasFamily f0_in f0_scores) H := hP
  have hD : va_D A (pc_X4_again cs h0 h0_level h0_value h0_tags h0_link h0_key h0_lives h0_open h0_in h0_scores h0_was h0_had 0 n0_objects n0_opened n0_sets b0_hasFamily f0_in f0_scores) := hD
  refine lv_aload_n F.1 F.2.1 dX4_again_5 rfl (lv_at hl 0 rfl) ?_
  refine xi_get (C := RX4) (T := TX4) (N := 16) (v := .int n0_sets) F in_X4_again_X4 hK hP 0 rfl rfl 10 (by decide) fl_X4_again_59 rfl dX4_again_6 ?_
  refine lv_if_ne (tgt := 15) F.1 F.2.1 dX4_again_9 (by decide) (fun hc => ?_) (fun hc => ?_)
  · have hw := hw.1 hc
    refine lv_aload_n F.1 F.2.1 dX4_again_15 rfl (lv_at hl 0 rfl) ?_
    refine xi_get (C := RX4) (T := TX4) (N := 16) (v := .int n0_sets) F in_X4_again_X4 hK hP 0 rfl rfl 10 (by decide) fl_X4_again_59 rfl dX4_again_16 ?_
    refine lv_bipush (v := 8) F.1 F.2.1 dX4_again_19 (by decide) ?_
    refine lv_icmp_ne (tgt := 27) F.1 F.2.1 dX4_again_21 (by decide) (fun hc => ?_) (fun hc => ?_)
    · have hw := hw.1 hc
      refine lv_iconst (v := 0) F.1 F.2.1 dX4_again_27 (by decide) ?_
      refine lv_istore_n (lv' := [(1, .int 0), (0, .ref h0)]) F.1 F.2.1 dX4_again_28 rfl hl (by decide) rfl (fun ls hl => ?_)
      exact (hX29 _ _ _ _ _).mp hw H locs ls hP hD hS (lv_sub hl [1, 0] rfl)
    · have hw := hw.2 hc
      refine lv_bipush (v := (-4)) F.1 F.2.1 dX4_again_24 (by decide) ?_
      exact RET (-4) (0, n0_sets, f0_in, f0_scores) H locs 26 ls hw hP hD hS dX4_again_26
  · have hw := hw.2 hc
    refine lv_bipush (v := (-3)) F.1 F.2.1 dX4_again_12 (by decide) ?_
    exact RET (-3) (0, n0_sets, f0_in, f0_scores) H locs 14 ls hw hP hD hS dX4_again_14

theorem in_X4_pop_X4 : ∀ w ∈ wsX40, w ∈ wsX4_pop := by decide +kernel
theorem fl_X4_pop_45 : Cond.fieldLink RX4 45 "JoinBlocksModel" "thrown" "I" ∈ wsX4_pop := by decide +kernel
theorem fl_X4_pop_59 : Cond.fieldLink RX4 59 "JoinBlocksModel" "sets" "I" ∈ wsX4_pop := by decide +kernel
abbrev pc_X4_pop (cs : Nat → ClassId) (h0 : Nat) (h0_level : Nat) (h0_value : Nat) (h0_tags : Nat) (h0_link : Nat) (h0_key : Nat) (h0_lives : Nat) (h0_open : Nat) (h0_in : Nat) (h0_scores : Nat) (h0_was : Nat) (h0_had : Nat) (n0_thrown : Int32) (n0_objects : Int32) (n0_opened : Int32) (n0_sets : Int32) (b0_hasFamily : Bool) : va_W := [(h0, .inr (4, [.int n0_thrown, .int n0_objects, .ref h0_level, .ref h0_value, .ref h0_tags, .ref h0_link, .ref h0_key, .ref h0_lives, .int n0_opened, .ref h0_open, .int n0_sets, .ref h0_in, .ref h0_scores, .int (b2i b0_hasFamily), .ref h0_was, .ref h0_had]))]
abbrev rm_X4_pop : Room := { frames := 0, cells := 0, slots := 0, locals := 0 }
def call_X4_pop (n0_thrown : Int32) (n0_sets : Int32) (Q : Int32 → Int32 → Int32 → Prop) : Prop :=
    ((¬ n0_sets = 0 → Q (n0_sets - 1) 0 (n0_sets - 1)) ∧ (n0_sets = 0 → Q (-3) 0 n0_sets))
set_option maxHeartbeats 4000000 in
set_option maxRecDepth 100000 in
theorem m_X4_pop (l : Launch) (D : va_G) (cs : Nat → ClassId) (h0 : Nat) (h0_level : Nat) (h0_value : Nat) (h0_tags : Nat) (h0_link : Nat) (h0_key : Nat) (h0_lives : Nat) (h0_open : Nat) (h0_in : Nat) (h0_scores : Nat) (h0_was : Nat) (h0_had : Nat)  (n0_thrown : Int32) (n0_objects : Int32) (n0_opened : Int32) (n0_sets : Int32) (b0_hasFamily : Bool) (Q : Int32 → Int32 → Int32 → Prop) (h : call_X4_pop n0_thrown n0_sets Q) : CtI l yX4_pop wsX4_pop rm_X4_pop D cs [.ref h0] (pc_X4_pop cs h0 h0_level h0_value h0_tags h0_link h0_key h0_lives h0_open h0_in h0_scores h0_was h0_had n0_thrown n0_objects n0_opened n0_sets b0_hasFamily) (fun u : Int32 × Int32 => (pc_X4_pop cs h0 h0_level h0_value h0_tags h0_link h0_key h0_lives h0_open h0_in h0_scores h0_was h0_had u.1 n0_objects n0_opened u.2 b0_hasFamily)) (fun r u => Q r u.1 u.2) := by
  refine xo_I (S := Int32 × Int32) (cc := cX4_pop) (maxL := 1) (own := RX4) (lv0 := [(0, .ref h0)]) (by decide) rfl rfl (Nat.le_of_ble_eq_true rfl) rfl ?_
  intro p e s m args below meth c A Z ls F hK hA hP hD hS hl RET
  have hw := h
  unfold call_X4_pop at hw
  generalize ([] : List Loc) = locs at hS ⊢
  obtain ⟨H, hHe⟩ : ∃ H, H = s.heap := ⟨_, rfl⟩
  have hP : va_P D vwCl (pc_X4_pop cs h0 h0_level h0_value h0_tags h0_link h0_key h0_lives h0_open h0_in h0_scores h0_was h0_had n0_thrown n0_objects n0_opened n0_sets b0_hasFamily) H := by rw [hHe]; exact hP
  have hS : va_S A s.heap H locs := by rw [hHe]; exact hS
  suffices W p l e rm_X4_pop s m args below meth c H locs 0 0 Z (F0 m 0 ls []) by rw [hHe] at this; exact this
  refine lv_aload_n F.1 F.2.1 dX4_pop_0 rfl (lv_at hl 0 rfl) ?_
  refine lv_iconst (v := 0) F.1 F.2.1 dX4_pop_1 (by decide) ?_
  refine xi_put (C := RX4) (T := TX4) (N := 16) (v := .int 0) (ty := .int) F in_X4_pop_X4 tyX4 tyX4_ok nmX4 hK hP hD hS 0 rfl rfl 0 (by decide) fl_X4_pop_45 rfl (tyX4_ok 0 (by decide)) rfl rfl (Nat.le_of_ble_eq_true rfl) dX4_pop_2 (fun H locs hP hD hS => ?_)
  have hP : va_P D vwCl (pc_X4_pop cs h0 h0_level h0_value h0_tags h0_link h0_key h0_lives h0_open h0_in h0_scores h0_was h0_had 0 n0_objects n0_opened n0_sets b0_hasFamily) H := hP
  have hD : va_D A (pc_X4_pop cs h0 h0_level h0_value h0_tags h0_link h0_key h0_lives h0_open h0_in h0_scores h0_was h0_had 0 n0_objects n0_opened n0_sets b0_hasFamily) := hD
  refine lv_aload_n F.1 F.2.1 dX4_pop_5 rfl (lv_at hl 0 rfl) ?_
  refine xi_get (C := RX4) (T := TX4) (N := 16) (v := .int n0_sets) F in_X4_pop_X4 hK hP 0 rfl rfl 10 (by decide) fl_X4_pop_59 rfl dX4_pop_6 ?_
  refine lv_if_ne (tgt := 15) F.1 F.2.1 dX4_pop_9 (by decide) (fun hc => ?_) (fun hc => ?_)
  · have hw := hw.1 hc
    refine lv_aload_n F.1 F.2.1 dX4_pop_15 rfl (lv_at hl 0 rfl) ?_
    refine lv_dup F.1 F.2.1 dX4_pop_16 rfl ?_
    refine xi_get (C := RX4) (T := TX4) (N := 16) (v := .int n0_sets) F in_X4_pop_X4 hK hP 0 rfl rfl 10 (by decide) fl_X4_pop_59 rfl dX4_pop_17 ?_
    refine lv_iconst (v := 1) F.1 F.2.1 dX4_pop_20 (by decide) ?_
    refine lv_isub F.1 F.2.1 dX4_pop_21 ?_
    refine xi_put (C := RX4) (T := TX4) (N := 16) (v := .int (n0_sets - 1)) (ty := .int) F in_X4_pop_X4 tyX4 tyX4_ok nmX4 hK hP hD hS 0 rfl rfl 10 (by decide) fl_X4_pop_59 rfl (tyX4_ok 10 (by decide)) rfl rfl (Nat.le_of_ble_eq_true rfl) dX4_pop_22 (fun H locs hP hD hS => ?_)
    have hP : va_P D vwCl (pc_X4_pop cs h0 h0_level h0_value h0_tags h0_link h0_key h0_lives h0_open h0_in h0_scores h0_was h0_had 0 n0_objects n0_opened (n0_sets - 1) b0_hasFamily) H := hP
    have hD : va_D A (pc_X4_pop cs h0 h0_level h0_value h0_tags h0_link h0_key h0_lives h0_open h0_in h0_scores h0_was h0_had 0 n0_objects n0_opened (n0_sets - 1) b0_hasFamily) := hD
    refine lv_aload_n F.1 F.2.1 dX4_pop_25 rfl (lv_at hl 0 rfl) ?_
    refine xi_get (C := RX4) (T := TX4) (N := 16) (v := .int (n0_sets - 1)) F in_X4_pop_X4 hK hP 0 rfl rfl 10 (by decide) fl_X4_pop_59 rfl dX4_pop_26 ?_
    exact RET (n0_sets - 1) (0, (n0_sets - 1)) H locs 29 ls hw hP hD hS dX4_pop_29
  · have hw := hw.2 hc
    refine lv_bipush (v := (-3)) F.1 F.2.1 dX4_pop_12 (by decide) ?_
    exact RET (-3) (0, n0_sets) H locs 14 ls hw hP hD hS dX4_pop_14

theorem in_X4_kth_X4 : ∀ w ∈ wsX40, w ∈ wsX4_kth := by decide +kernel
theorem fl_X4_kth_49 : Cond.fieldLink RX4 49 "JoinBlocksModel" "objects" "I" ∈ wsX4_kth := by decide +kernel
theorem fl_X4_kth_32 : Cond.fieldLink RX4 32 "JoinBlocksModel" "in" "[Z" ∈ wsX4_kth := by decide +kernel
theorem fl_X4_kth_35 : Cond.fieldLink RX4 35 "JoinBlocksModel" "scores" "[J" ∈ wsX4_kth := by decide +kernel
abbrev pc_X4_kth (cs : Nat → ClassId) (h0 : Nat) (h0_level : Nat) (h0_value : Nat) (h0_tags : Nat) (h0_link : Nat) (h0_key : Nat) (h0_lives : Nat) (h0_open : Nat) (h0_in : Nat) (h0_scores : Nat) (h0_was : Nat) (h0_had : Nat) (n0_thrown : Int32) (n0_objects : Int32) (n0_opened : Int32) (n0_sets : Int32) (b0_hasFamily : Bool) (f0_level : Nat → Int32) (f0_in : Nat → Bool) (f0_scores : Nat → Int64) : va_W := [(h0, .inr (4, [.int n0_thrown, .int n0_objects, .ref h0_level, .ref h0_value, .ref h0_tags, .ref h0_link, .ref h0_key, .ref h0_lives, .int n0_opened, .ref h0_open, .int n0_sets, .ref h0_in, .ref h0_scores, .int (b2i b0_hasFamily), .ref h0_was, .ref h0_had])), (h0_level, .inl (cs 0, 261, .inl f0_level)), (h0_in, .inl (cs 1, 1800, .inl (bF f0_in))), (h0_scores, .inl (cs 2, 1800, .inr (.inl f0_scores)))]
abbrev rm_X4_kth : Room := { frames := 2, cells := 0, slots := 0, locals := 45 }
def call_X4_kth (p1 : Int32) (p2 : Int32) (p3 : Int32) (n0_objects : Int32) (f0_level : Nat → Int32) (f0_in : Nat → Bool) (f0_scores : Nat → Int64) (Q : Int32 → Prop) : Prop := ∀ (X9 : Int32 → Int32 → Int32 → Prop) (X51 : Int32 → Int32 → Int32 → Prop) (X60 : Int32 → Int32 → Int32 → Int32 → Int32 → Prop) (X99 : Int32 → Int32 → Int32 → Int32 → Int32 → Prop) (X154 : Int32 → Int32 → Int32 → Int32 → Int32 → Prop) (X158 : Int32 → Int32 → Int32 → Int32 → Int32 → Prop) (X159 : Int32 → Int32 → Int32 → Int32 → Bool → Int32 → Prop) (X162 : Int32 → Int32 → Int32 → Int32 → Int32 → Prop) (X181 : Int32 → Int32 → Int32 → Prop) (X183 : Int32 → Int32 → Int32 → Prop) (X201 : Int32 → Prop),
    (∀ (x4 : Int32) (x5 : Int32) (x6 : Int32),
      ((n0_objects ≤ x6 → ((¬ p3 = (-1) → X201 x5) ∧ (p3 = (-1) → X201 x4))) ∧ (¬ n0_objects ≤ x6 → (∃ j30 : Nat, j30 < 1800 ∧ ((200 * p1) + x6) = nI j30 ∧ (((f0_in j30) = false → X183 x4 x5 x6) ∧ ((f0_in j30) = true → ((p2 < 0 → X51 x4 x5 x6) ∧ (¬ p2 < 0 → (call_X4_isAbove p2 x6 f0_level (fun (r42 : Bool) => ((r42 = true → X51 x4 x5 x6) ∧ (r42 = false → X183 x4 x5 x6))))))))))) → X9 x4 x5 x6) →
    (∀ (x4 : Int32) (x5 : Int32) (x6 : Int32),
      X60 (x4 + 1) x5 x6 0 0 → X51 x4 x5 x6) →
    (∀ (x4 : Int32) (x5 : Int32) (x6 : Int32) (x7 : Int32) (x8 : Int32),
      ((n0_objects ≤ x8 → ((¬ x7 = p3 → X181 x4 x6 x5) ∧ (x7 = p3 → X181 x4 x6 x6))) ∧ (¬ n0_objects ≤ x8 → (∃ j81 : Nat, j81 < 1800 ∧ ((200 * p1) + x8) = nI j81 ∧ (((f0_in j81) = false → X162 x4 x5 x6 x7 x8) ∧ ((f0_in j81) = true → ((p2 < 0 → X99 x4 x5 x6 x7 x8) ∧ (¬ p2 < 0 → (call_X4_isAbove p2 x8 f0_level (fun (r93 : Bool) => ((r93 = false → X162 x4 x5 x6 x7 x8) ∧ (r93 = true → X99 x4 x5 x6 x7 x8))))))))))) → X60 x4 x5 x6 x7 x8) →
    (∀ (x4 : Int32) (x5 : Int32) (x6 : Int32) (x7 : Int32) (x8 : Int32),
      (∃ j111 : Nat, j111 < 1800 ∧ ((200 * p1) + x8) = nI j111 ∧ (∃ j126 : Nat, j126 < 1800 ∧ ((200 * p1) + x6) = nI j126 ∧ (((f0_scores j126) < (f0_scores j111) → X154 x4 x5 x6 x8 x7) ∧ (¬ (f0_scores j126) < (f0_scores j111) → ((¬ (f0_scores j111) = (f0_scores j126) → X158 x4 x5 x6 x8 x7) ∧ ((f0_scores j111) = (f0_scores j126) → ((x6 ≤ x8 → X158 x4 x5 x6 x8 x7) ∧ (¬ x6 ≤ x8 → X154 x4 x5 x6 x8 x7)))))))) → X99 x4 x5 x6 x7 x8) →
    (∀ (x4 : Int32) (x5 : Int32) (x6 : Int32) (x8 : Int32) (s0 : Int32),
      X159 x4 x5 x6 x8 true s0 → X154 x4 x5 x6 x8 s0) →
    (∀ (x4 : Int32) (x5 : Int32) (x6 : Int32) (x8 : Int32) (s0 : Int32),
      X159 x4 x5 x6 x8 false s0 → X158 x4 x5 x6 x8 s0) →
    (∀ (x4 : Int32) (x5 : Int32) (x6 : Int32) (x8 : Int32) (s0 : Bool) (s1 : Int32),
      X162 x4 x5 x6 (s1 + (b2i s0)) x8 → X159 x4 x5 x6 x8 s0 s1) →
    (∀ (x4 : Int32) (x5 : Int32) (x6 : Int32) (x7 : Int32) (x8 : Int32),
      X60 x4 x5 x6 x7 (x8 + 1) → X162 x4 x5 x6 x7 x8) →
    (∀ (x4 : Int32) (x6 : Int32) (s0 : Int32),
      X183 x4 s0 x6 → X181 x4 x6 s0) →
    (∀ (x4 : Int32) (x5 : Int32) (x6 : Int32),
      X9 x4 x5 (x6 + 1) → X183 x4 x5 x6) →
    (∀ (s0 : Int32),
      Q s0 → X201 s0) →
    X9 0 (-1) 0
set_option maxHeartbeats 4000000 in
set_option maxRecDepth 100000 in
theorem m_X4_kth (l : Launch) (D : va_G) (cs : Nat → ClassId) (h0 : Nat) (h0_level : Nat) (h0_value : Nat) (h0_tags : Nat) (h0_link : Nat) (h0_key : Nat) (h0_lives : Nat) (h0_open : Nat) (h0_in : Nat) (h0_scores : Nat) (h0_was : Nat) (h0_had : Nat)  (p1 : Int32) (p2 : Int32) (p3 : Int32) (n0_thrown : Int32) (n0_objects : Int32) (n0_opened : Int32) (n0_sets : Int32) (b0_hasFamily : Bool) (f0_level : Nat → Int32) (f0_in : Nat → Bool) (f0_scores : Nat → Int64) (Q : Int32 → Prop) (h : call_X4_kth p1 p2 p3 n0_objects f0_level f0_in f0_scores Q) : CtI l yX4_kth wsX4_kth rm_X4_kth D cs [.ref h0, .int p1, .int p2, .int p3] (pc_X4_kth cs h0 h0_level h0_value h0_tags h0_link h0_key h0_lives h0_open h0_in h0_scores h0_was h0_had n0_thrown n0_objects n0_opened n0_sets b0_hasFamily f0_level f0_in f0_scores) (fun u : Unit => (pc_X4_kth cs h0 h0_level h0_value h0_tags h0_link h0_key h0_lives h0_open h0_in h0_scores h0_was h0_had n0_thrown n0_objects n0_opened n0_sets b0_hasFamily f0_level f0_in f0_scores)) (fun r u => Q r ) := by
  refine xo_I (S := Unit) (cc := cX4_kth) (maxL := 13) (own := RX4) (lv0 := [(0, .ref h0), (1, .int p1), (2, .int p2), (3, .int p3)]) (by decide) rfl rfl (Nat.le_of_ble_eq_true rfl) rfl ?_
  intro p e s m args below meth c A Z ls F hK hA hP hD hS hl RET
  unfold call_X4_kth at h
  obtain ⟨X9, hX9⟩ : ∃ X : Int32 → Int32 → Int32 → Prop, ∀ (x4 : Int32) (x5 : Int32) (x6 : Int32), (X x4 x5 x6 ↔ ∀ (H : Heap) (locs : List Loc) (ls : Array Slot), va_P D vwCl (pc_X4_kth cs h0 h0_level h0_value h0_tags h0_link h0_key h0_lives h0_open h0_in h0_scores h0_was h0_had n0_thrown n0_objects n0_opened n0_sets b0_hasFamily f0_level f0_in f0_scores) H → va_D A (pc_X4_kth cs h0 h0_level h0_value h0_tags h0_link h0_key h0_lives h0_open h0_in h0_scores h0_was h0_had n0_thrown n0_objects n0_opened n0_sets b0_hasFamily f0_level f0_in f0_scores) → va_S A s.heap H locs → lv_has ls 13 [(0, .ref h0), (1, .int p1), (2, .int p2), (3, .int p3), (4, .int x4), (5, .int x5), (6, .int x6)] → W p l e rm_X4_kth s m args below meth c H locs 0 0 Z (F0 m 9 ls [])) := ⟨_, fun _ _ _ => Iff.rfl⟩
  obtain ⟨X51, hX51⟩ : ∃ X : Int32 → Int32 → Int32 → Prop, ∀ (x4 : Int32) (x5 : Int32) (x6 : Int32), (X x4 x5 x6 ↔ ∀ (H : Heap) (locs : List Loc) (ls : Array Slot), va_P D vwCl (pc_X4_kth cs h0 h0_level h0_value h0_tags h0_link h0_key h0_lives h0_open h0_in h0_scores h0_was h0_had n0_thrown n0_objects n0_opened n0_sets b0_hasFamily f0_level f0_in f0_scores) H → va_D A (pc_X4_kth cs h0 h0_level h0_value h0_tags h0_link h0_key h0_lives h0_open h0_in h0_scores h0_was h0_had n0_thrown n0_objects n0_opened n0_sets b0_hasFamily f0_level f0_in f0_scores) → va_S A s.heap H locs → lv_has ls 13 [(0, .ref h0), (1, .int p1), (2, .int p2), (3, .int p3), (4, .int x4), (5, .int x5), (6, .int x6)] → W p l e rm_X4_kth s m args below meth c H locs 0 0 Z (F0 m 51 ls [])) := ⟨_, fun _ _ _ => Iff.rfl⟩
  obtain ⟨X60, hX60⟩ : ∃ X : Int32 → Int32 → Int32 → Int32 → Int32 → Prop, ∀ (x4 : Int32) (x5 : Int32) (x6 : Int32) (x7 : Int32) (x8 : Int32), (X x4 x5 x6 x7 x8 ↔ ∀ (H : Heap) (locs : List Loc) (ls : Array Slot), va_P D vwCl (pc_X4_kth cs h0 h0_level h0_value h0_tags h0_link h0_key h0_lives h0_open h0_in h0_scores h0_was h0_had n0_thrown n0_objects n0_opened n0_sets b0_hasFamily f0_level f0_in f0_scores) H → va_D A (pc_X4_kth cs h0 h0_level h0_value h0_tags h0_link h0_key h0_lives h0_open h0_in h0_scores h0_was h0_had n0_thrown n0_objects n0_opened n0_sets b0_hasFamily f0_level f0_in f0_scores) → va_S A s.heap H locs → lv_has ls 13 [(0, .ref h0), (1, .int p1), (2, .int p2), (3, .int p3), (4, .int x4), (5, .int x5), (6, .int x6), (7, .int x7), (8, .int x8)] → W p l e rm_X4_kth s m args below meth c H locs 0 0 Z (F0 m 60 ls [])) := ⟨_, fun _ _ _ _ _ => Iff.rfl⟩
  obtain ⟨X99, hX99⟩ : ∃ X : Int32 → Int32 → Int32 → Int32 → Int32 → Prop, ∀ (x4 : Int32) (x5 : Int32) (x6 : Int32) (x7 : Int32) (x8 : Int32), (X x4 x5 x6 x7 x8 ↔ ∀ (H : Heap) (locs : List Loc) (ls : Array Slot), va_P D vwCl (pc_X4_kth cs h0 h0_level h0_value h0_tags h0_link h0_key h0_lives h0_open h0_in h0_scores h0_was h0_had n0_thrown n0_objects n0_opened n0_sets b0_hasFamily f0_level f0_in f0_scores) H → va_D A (pc_X4_kth cs h0 h0_level h0_value h0_tags h0_link h0_key h0_lives h0_open h0_in h0_scores h0_was h0_had n0_thrown n0_objects n0_opened n0_sets b0_hasFamily f0_level f0_in f0_scores) → va_S A s.heap H locs → lv_has ls 13 [(0, .ref h0), (1, .int p1), (2, .int p2), (3, .int p3), (4, .int x4), (5, .int x5), (6, .int x6), (7, .int x7), (8, .int x8)] → W p l e rm_X4_kth s m args below meth c H locs 0 0 Z (F0 m 99 ls [])) := ⟨_, fun _ _ _ _ _ => Iff.rfl⟩
  obtain ⟨X154, hX154⟩ : ∃ X : Int32 → Int32 → Int32 → Int32 → Int32 → Prop, ∀ (x4 : Int32) (x5 : Int32) (x6 : Int32) (x8 : Int32) (s0 : Int32), (X x4 x5 x6 x8 s0 ↔ ∀ (H : Heap) (locs : List Loc) (ls : Array Slot), va_P D vwCl (pc_X4_kth cs h0 h0_level h0_value h0_tags h0_link h0_key h0_lives h0_open h0_in h0_scores h0_was h0_had n0_thrown n0_objects n0_opened n0_sets b0_hasFamily f0_level f0_in f0_scores) H → va_D A (pc_X4_kth cs h0 h0_level h0_value h0_tags h0_link h0_key h0_lives h0_open h0_in h0_scores h0_was h0_had n0_thrown n0_objects n0_opened n0_sets b0_hasFamily f0_level f0_in f0_scores) → va_S A s.heap H locs → lv_has ls 13 [(0, .ref h0), (1, .int p1), (2, .int p2), (3, .int p3), (4, .int x4), (5, .int x5), (6, .int x6), (8, .int x8)] → W p l e rm_X4_kth s m args below meth c H locs 0 0 Z (F0 m 154 ls [.int s0])) := ⟨_, fun _ _ _ _ _ => Iff.rfl⟩
  obtain ⟨X158, hX158⟩ : ∃ X : Int32 → Int32 → Int32 → Int32 → Int32 → Prop, ∀ (x4 : Int32) (x5 : Int32) (x6 : Int32) (x8 : Int32) (s0 : Int32), (X x4 x5 x6 x8 s0 ↔ ∀ (H : Heap) (locs : List Loc) (ls : Array Slot), va_P D vwCl (pc_X4_kth cs h0 h0_level h0_value h0_tags h0_link h0_key h0_lives h0_open h0_in h0_scores h0_was h0_had n0_thrown n0_objects n0_opened n0_sets b0_hasFamily f0_level f0_in f0_scores) H → va_D A (pc_X4_kth cs h0 h0_level h0_value h0_tags h0_link h0_key h0_lives h0_open h0_in h0_scores h0_was h0_had n0_thrown n0_objects n0_opened n0_sets b0_hasFamily f0_level f0_in f0_scores) → va_S A s.heap H locs → lv_has ls 13 [(0, .ref h0), (1, .int p1), (2, .int p2), (3, .int p3), (4, .int x4), (5, .int x5), (6, .int x6), (8, .int x8)] → W p l e rm_X4_kth s m args below meth c H locs 0 0 Z (F0 m 158 ls [.int s0])) := ⟨_, fun _ _ _ _ _ => Iff.rfl⟩
  obtain ⟨X159, hX159⟩ : ∃ X : Int32 → Int32 → Int32 → Int32 → Bool → Int32 → Prop, ∀ (x4 : Int32) (x5 : Int32) (x6 : Int32) (x8 : Int32) (s0 : Bool) (s1 : Int32), (X x4 x5 x6 x8 s0 s1 ↔ ∀ (H : Heap) (locs : List Loc) (ls : Array Slot), va_P D vwCl (pc_X4_kth cs h0 h0_level h0_value h0_tags h0_link h0_key h0_lives h0_open h0_in h0_scores h0_was h0_had n0_thrown n0_objects n0_opened n0_sets b0_hasFamily f0_level f0_in f0_scores) H → va_D A (pc_X4_kth cs h0 h0_level h0_value h0_tags h0_link h0_key h0_lives h0_open h0_in h0_scores h0_was h0_had n0_thrown n0_objects n0_opened n0_sets b0_hasFamily f0_level f0_in f0_scores) → va_S A s.heap H locs → lv_has ls 13 [(0, .ref h0), (1, .int p1), (2, .int p2), (3, .int p3), (4, .int x4), (5, .int x5), (6, .int x6), (8, .int x8)] → W p l e rm_X4_kth s m args below meth c H locs 0 0 Z (F0 m 159 ls [.int (b2i s0), .int s1])) := ⟨_, fun _ _ _ _ _ _ => Iff.rfl⟩
  obtain ⟨X162, hX162⟩ : ∃ X : Int32 → Int32 → Int32 → Int32 → Int32 → Prop, ∀ (x4 : Int32) (x5 : Int32) (x6 : Int32) (x7 : Int32) (x8 : Int32), (X x4 x5 x6 x7 x8 ↔ ∀ (H : Heap) (locs : List Loc) (ls : Array Slot), va_P D vwCl (pc_X4_kth cs h0 h0_level h0_value h0_tags h0_link h0_key h0_lives h0_open h0_in h0_scores h0_was h0_had n0_thrown n0_objects n0_opened n0_sets b0_hasFamily f0_level f0_in f0_scores) H → va_D A (pc_X4_kth cs h0 h0_level h0_value h0_tags h0_link h0_key h0_lives h0_open h0_in h0_scores h0_was h0_had n0_thrown n0_objects n0_opened n0_sets b0_hasFamily f0_level f0_in f0_scores) → va_S A s.heap H locs → lv_has ls 13 [(0, .ref h0), (1, .int p1), (2, .int p2), (3, .int p3), (4, .int x4), (5, .int x5), (6, .int x6), (7, .int x7), (8, .int x8)] → W p l e rm_X4_kth s m args below meth c H locs 0 0 Z (F0 m 162 ls [])) := ⟨_, fun _ _ _ _ _ => Iff.rfl⟩
  obtain ⟨X181, hX181⟩ : ∃ X : Int32 → Int32 → Int32 → Prop, ∀ (x4 : Int32) (x6 : Int32) (s0 : Int32), (X x4 x6 s0 ↔ ∀ (H : Heap) (locs : List Loc) (ls : Array Slot), va_P D vwCl (pc_X4_kth cs h0 h0_level h0_value h0_tags h0_link h0_key h0_lives h0_open h0_in h0_scores h0_was h0_had n0_thrown n0_objects n0_opened n0_sets b0_hasFamily f0_level f0_in f0_scores) H → va_D A (pc_X4_kth cs h0 h0_level h0_value h0_tags h0_link h0_key h0_lives h0_open h0_in h0_scores h0_was h0_had n0_thrown n0_objects n0_opened n0_sets b0_hasFamily f0_level f0_in f0_scores) → va_S A s.heap H locs → lv_has ls 13 [(0, .ref h0), (1, .int p1), (2, .int p2), (3, .int p3), (4, .int x4), (6, .int x6)] → W p l e rm_X4_kth s m args below meth c H locs 0 0 Z (F0 m 181 ls [.int s0])) := ⟨_, fun _ _ _ => Iff.rfl⟩
  obtain ⟨X183, hX183⟩ : ∃ X : Int32 → Int32 → Int32 → Prop, ∀ (x4 : Int32) (x5 : Int32) (x6 : Int32), (X x4 x5 x6 ↔ ∀ (H : Heap) (locs : List Loc) (ls : Array Slot), va_P D vwCl (pc_X4_kth cs h0 h0_level h0_value h0_tags h0_link h0_key h0_lives h0_open h0_in h0_scores h0_was h0_had n0_thrown n0_objects n0_opened n0_sets b0_hasFamily f0_level f0_in f0_scores) H → va_D A (pc_X4_kth cs h0 h0_level h0_value h0_tags h0_link h0_key h0_lives h0_open h0_in h0_scores h0_was h0_had n0_thrown n0_objects n0_opened n0_sets b0_hasFamily f0_level f0_in f0_scores) → va_S A s.heap H locs → lv_has ls 13 [(0, .ref h0), (1, .int p1), (2, .int p2), (3, .int p3), (4, .int x4), (5, .int x5), (6, .int x6)] → W p l e rm_X4_kth s m args below meth c H locs 0 0 Z (F0 m 183 ls [])) := ⟨_, fun _ _ _ => Iff.rfl⟩
  obtain ⟨X201, hX201⟩ : ∃ X : Int32 → Prop, ∀ (s0 : Int32), (X s0 ↔ ∀ (H : Heap) (locs : List Loc) (ls : Array Slot), va_P D vwCl (pc_X4_kth cs h0 h0_level h0_value h0_tags h0_link h0_key h0_lives h0_open h0_in h0_scores h0_was h0_had n0_thrown n0_objects n0_opened n0_sets b0_hasFamily f0_level f0_in f0_scores) H → va_D A (pc_X4_kth cs h0 h0_level h0_value h0_tags h0_link h0_key h0_lives h0_open h0_in h0_scores h0_was h0_had n0_thrown n0_objects n0_opened n0_sets b0_hasFamily f0_level f0_in f0_scores) → va_S A s.heap H locs → lv_has ls 13 [] → W p l e rm_X4_kth s m args below meth c H locs 0 0 Z (F0 m 201 ls [.int s0])) := ⟨_, fun _ => Iff.rfl⟩
  refine xt_cut (h X9 X51 X60 X99 X154 X158 X159 X162 X181 X183 X201 ?_ ?_ ?_ ?_ ?_ ?_ ?_ ?_ ?_ ?_ ?_) (fun hw => ?_)
  · intro x4 x5 x6 hw
    refine (hX9 _ _ _).mpr ?_
    intro H locs ls hP hD hS hl
    refine lv_iload F.1 F.2.1 dX4_kth_9 (lv_at hl 6 rfl) ?_
    refine lv_aload_n F.1 F.2.1 dX4_kth_11 rfl (lv_at hl 0 rfl) ?_
    refine xi_get (C := RX4) (T := TX4) (N := 16) (v := .int n0_objects) F in_X4_kth_X4 hK hP 0 rfl rfl 1 (by decide) fl_X4_kth_49 rfl dX4_kth_12 ?_
    refine lv_icmp_ge (tgt := 189) F.1 F.2.1 dX4_kth_15 (by decide) (fun hc => ?_) (fun hc => ?_)
    · have hw := hw.1 hc
      refine lv_iload_n F.1 F.2.1 dX4_kth_189 rfl (lv_at hl 3 rfl) ?_
      refine lv_iconst (v := (-1)) F.1 F.2.1 dX4_kth_190 (by decide) ?_
      refine lv_icmp_ne (tgt := 199) F.1 F.2.1 dX4_kth_191 (by decide) (fun hc => ?_) (fun hc => ?_)
      · have hw := hw.1 hc
        refine lv_iload F.1 F.2.1 dX4_kth_199 (lv_at hl 5 rfl) ?_
        exact (hX201 _).mp hw H locs ls hP hD hS (lv_sub hl [] rfl)
      · have hw := hw.2 hc
        refine lv_iload F.1 F.2.1 dX4_kth_194 (lv_at hl 4 rfl) ?_
        refine lv_goto (tgt := 201) F.1 F.2.1 dX4_kth_196 (by decide) ?_
        exact (hX201 _).mp hw H locs ls hP hD hS (lv_sub hl [] rfl)
    · have hw := hw.2 hc
      refine lv_aload_n F.1 F.2.1 dX4_kth_18 rfl (lv_at hl 0 rfl) ?_
      refine xi_get (C := RX4) (T := TX4) (N := 16) (v := .ref h0_in) F in_X4_kth_X4 hK hP 0 rfl rfl 11 (by decide) fl_X4_kth_32 rfl dX4_kth_19 ?_
      refine lv_sipush (v := 200) F.1 F.2.1 dX4_kth_22 (by decide) ?_
      refine lv_iload_n F.1 F.2.1 dX4_kth_25 rfl (lv_at hl 1 rfl) ?_
      refine lv_imul F.1 F.2.1 dX4_kth_26 ?_
      refine lv_iload F.1 F.2.1 dX4_kth_27 (lv_at hl 6 rfl) ?_
      refine lv_iadd F.1 F.2.1 dX4_kth_29 ?_
      obtain ⟨j30, hj, he, hw⟩ := hw
      refine xi_zald (j := j30) F hK hP 2 rfl (by decide) hj he dX4_kth_30 ?_
      refine xi_ifeqz (tgt := 183) F dX4_kth_31 (by decide) (fun hc => ?_) (fun hc => ?_)
      · have hw := hw.1 hc
        exact (hX183 _ _ _).mp hw H locs ls hP hD hS (lv_sub hl [0, 1, 2, 3, 4, 5, 6] rfl)
      · have hw := hw.2 hc
        refine lv_iload_n F.1 F.2.1 dX4_kth_34 rfl (lv_at hl 2 rfl) ?_
        refine lv_if_lt (tgt := 51) F.1 F.2.1 dX4_kth_35 (by decide) (fun hc => ?_) (fun hc => ?_)
        · have hw := hw.1 hc
          exact (hX51 _ _ _).mp hw H locs ls hP hD hS (lv_sub hl [0, 1, 2, 3, 4, 5, 6] rfl)
        · have hw := hw.2 hc
          refine lv_aload_n F.1 F.2.1 dX4_kth_38 rfl (lv_at hl 0 rfl) ?_
          refine lv_iload_n F.1 F.2.1 dX4_kth_39 rfl (lv_at hl 2 rfl) ?_
          refine lv_iload F.1 F.2.1 dX4_kth_40 (lv_at hl 6 rfl) ?_
          refine xc_Vz (As := [.int p2, .int x6]) (rest := []) (m_X4_isAbove l D cs h0 h0_level h0_value h0_tags h0_link h0_key h0_lives h0_open h0_in h0_scores h0_was h0_had p2 x6 n0_thrown n0_objects n0_opened n0_sets b0_hasFamily f0_level _ hw) F (cwV 2 F.2.2.2.2 gX4_kth_X4_isAbove rfl rfl rfl (by decide +kernel) ⟨Nat.le_of_ble_eq_true rfl, Nat.le_of_ble_eq_true rfl⟩) hK hP hD hS hA [0, 1] [2, 3] rfl rfl 0 rfl rfl rfl hl.1 rfl (Nat.le_of_ble_eq_true rfl) dX4_kth_42 ⟨Nat.zero_le _, Nat.zero_le _⟩ (fun r42 u H locs hw hP hD hS => ?_)
          have hP : va_P D vwCl (pc_X4_kth cs h0 h0_level h0_value h0_tags h0_link h0_key h0_lives h0_open h0_in h0_scores h0_was h0_had n0_thrown n0_objects n0_opened n0_sets b0_hasFamily f0_level f0_in f0_scores) H := hP.sub [2, 3, 0, 1] rfl
          have hD : va_D A (pc_X4_kth cs h0 h0_level h0_value h0_tags h0_link h0_key h0_lives h0_open h0_in h0_scores h0_was h0_had n0_thrown n0_objects n0_opened n0_sets b0_hasFamily f0_level f0_in f0_scores) := hD.sub [2, 3, 0, 1] (by decide) rfl
          try dsimp only at hw
          refine xi_ifnez (tgt := 51) F dX4_kth_45 (by decide) (fun hc => ?_) (fun hc => ?_)
          · have hw := hw.1 hc
            exact (hX51 _ _ _).mp hw H locs ls hP hD hS (lv_sub hl [0, 1, 2, 3, 4, 5, 6] rfl)
          · have hw := hw.2 hc
            refine lv_goto (tgt := 183) F.1 F.2.1 dX4_kth_48 (by decide) ?_
            exact (hX183 _ _ _).mp hw H locs ls hP hD hS (lv_sub hl [0, 1, 2, 3, 4, 5, 6] rfl)
  · intro x4 x5 x6 hw
    refine (hX51 _ _ _).mpr ?_
    intro H locs ls hP hD hS hl
    refine lv_iinc (v := (x4 + 1)) (lv' := [(4, .int (x4 + 1)), (0, .ref h0), (1, .int p1), (2, .int p2), (3, .int p3), (5, .int x5), (6, .int x6)]) F.1 F.2.1 dX4_kth_51 hl (k := 4) rfl rfl (by decide) rfl (fun ls hl => ?_)
    refine lv_iconst (v := 0) F.1 F.2.1 dX4_kth_54 (by decide) ?_
    refine lv_istore (lv' := [(7, .int 0), (4, .int (x4 + 1)), (0, .ref h0), (1, .int p1), (2, .int p2), (3, .int p3), (5, .int x5), (6, .int x6)]) F.1 F.2.1 dX4_kth_55 hl (by decide) rfl (fun ls hl => ?_)
    refine lv_iconst (v := 0) F.1 F.2.1 dX4_kth_57 (by decide) ?_
    refine lv_istore (lv' := [(8, .int 0), (7, .int 0), (4, .int (x4 + 1)), (0, .ref h0), (1, .int p1), (2, .int p2), (3, .int p3), (5, .int x5), (6, .int x6)]) F.1 F.2.1 dX4_kth_58 hl (by decide) rfl (fun ls hl => ?_)
    exact (hX60 _ _ _ _ _).mp hw H locs ls hP hD hS (lv_sub hl [3, 4, 5, 6, 2, 7, 8, 1, 0] rfl)
  · intro x4 x5 x6 x7 x8 hw
    refine (hX60 _ _ _ _ _).mpr ?_
    intro H locs ls hP hD hS hl
    refine lv_iload F.1 F.2.1 dX4_kth_60 (lv_at hl 8 rfl) ?_
    refine lv_aload_n F.1 F.2.1 dX4_kth_62 rfl (lv_at hl 0 rfl) ?_
    refine xi_get (C := RX4) (T := TX4) (N := 16) (v := .int n0_objects) F in_X4_kth_X4 hK hP 0 rfl rfl 1 (by decide) fl_X4_kth_49 rfl dX4_kth_63 ?_
    refine lv_icmp_ge (tgt := 168) F.1 F.2.1 dX4_kth_66 (by decide) (fun hc => ?_) (fun hc => ?_)
    · have hw := hw.1 hc
      refine lv_iload F.1 F.2.1 dX4_kth_168 (lv_at hl 7 rfl) ?_
      refine lv_iload_n F.1 F.2.1 dX4_kth_170 rfl (lv_at hl 3 rfl) ?_
      refine lv_icmp_ne (tgt := 179) F.1 F.2.1 dX4_kth_171 (by decide) (fun hc => ?_) (fun hc => ?_)
      · have hw := hw.1 hc
        refine lv_iload F.1 F.2.1 dX4_kth_179 (lv_at hl 5 rfl) ?_
        exact (hX181 _ _ _).mp hw H locs ls hP hD hS (lv_sub hl [0, 1, 2, 3, 4, 6] rfl)
      · have hw := hw.2 hc
        refine lv_iload F.1 F.2.1 dX4_kth_174 (lv_at hl 6 rfl) ?_
        refine lv_goto (tgt := 181) F.1 F.2.1 dX4_kth_176 (by decide) ?_
        exact (hX181 _ _ _).mp hw H locs ls hP hD hS (lv_sub hl [0, 1, 2, 3, 4, 6] rfl)
    · have hw := hw.2 hc
      refine lv_aload_n F.1 F.2.1 dX4_kth_69 rfl (lv_at hl 0 rfl) ?_
      refine xi_get (C := RX4) (T := TX4) (N := 16) (v := .ref h0_in) F in_X4_kth_X4 hK hP 0 rfl rfl 11 (by decide) fl_X4_kth_32 rfl dX4_kth_70 ?_
      refine lv_sipush (v := 200) F.1 F.2.1 dX4_kth_73 (by decide) ?_
      refine lv_iload_n F.1 F.2.1 dX4_kth_76 rfl (lv_at hl 1 rfl) ?_
      refine lv_imul F.1 F.2.1 dX4_kth_77 ?_
      refine lv_iload F.1 F.2.1 dX4_kth_78 (lv_at hl 8 rfl) ?_
      refine lv_iadd F.1 F.2.1 dX4_kth_80 ?_
      obtain ⟨j81, hj, he, hw⟩ := hw
      refine xi_zald (j := j81) F hK hP 2 rfl (by decide) hj he dX4_kth_81 ?_
      refine xi_ifeqz (tgt := 162) F dX4_kth_82 (by decide) (fun hc => ?_) (fun hc => ?_)
      · have hw := hw.1 hc
        exact (hX162 _ _ _ _ _).mp hw H locs ls hP hD hS (lv_sub hl [0, 1, 2, 3, 4, 5, 6, 7, 8] rfl)
      · have hw := hw.2 hc
        refine lv_iload_n F.1 F.2.1 dX4_kth_85 rfl (lv_at hl 2 rfl) ?_
        refine lv_if_lt (tgt := 99) F.1 F.2.1 dX4_kth_86 (by decide) (fun hc => ?_) (fun hc => ?_)
        · have hw := hw.1 hc
          exact (hX99 _ _ _ _ _).mp hw H locs ls hP hD hS (lv_sub hl [0, 1, 2, 3, 4, 5, 6, 7, 8] rfl)
        · have hw := hw.2 hc
          refine lv_aload_n F.1 F.2.1 dX4_kth_89 rfl (lv_at hl 0 rfl) ?_
          refine lv_iload_n F.1 F.2.1 dX4_kth_90 rfl (lv_at hl 2 rfl) ?_
          refine lv_iload F.1 F.2.1 dX4_kth_91 (lv_at hl 8 rfl) ?_
          refine xc_Vz (As := [.int p2, .int x8]) (rest := []) (m_X4_isAbove l D cs h0 h0_level h0_value h0_tags h0_link h0_key h0_lives h0_open h0_in h0_scores h0_was h0_had p2 x8 n0_thrown n0_objects n0_opened n0_sets b0_hasFamily f0_level _ hw) F (cwV 2 F.2.2.2.2 gX4_kth_X4_isAbove rfl rfl rfl (by decide +kernel) ⟨Nat.le_of_ble_eq_true rfl, Nat.le_of_ble_eq_true rfl⟩) hK hP hD hS hA [0, 1] [2, 3] rfl rfl 0 rfl rfl rfl hl.1 rfl (Nat.le_of_ble_eq_true rfl) dX4_kth_93 ⟨Nat.zero_le _, Nat.zero_le _⟩ (fun r93 u H locs hw hP hD hS => ?_)
          have hP : va_P D vwCl (pc_X4_kth cs h0 h0_level h0_value h0_tags h0_link h0_key h0_lives h0_open h0_in h0_scores h0_was h0_had n0_thrown n0_objects n0_opened n0_sets b0_hasFamily f0_level f0_in f0_scores) H := hP.sub [2, 3, 0, 1] rfl
          have hD : va_D A (pc_X4_kth cs h0 h0_level h0_value h0_tags h0_link h0_key h0_lives h0_open h0_in h0_scores h0_was h0_had n0_thrown n0_objects n0_opened n0_sets b0_hasFamily f0_level f0_in f0_scores) := hD.sub [2, 3, 0, 1] (by decide) rfl
          try dsimp only at hw
          refine xi_ifeqz (tgt := 162) F dX4_kth_96 (by decide) (fun hc => ?_) (fun hc => ?_)
          · have hw := hw.1 hc
            exact (hX162 _ _ _ _ _).mp hw H locs ls hP hD hS (lv_sub hl [0, 1, 2, 3, 4, 5, 6, 7, 8] rfl)
          · have hw := hw.2 hc
            exact (hX99 _ _ _ _ _).mp hw H locs ls hP hD hS (lv_sub hl [0, 1, 2, 3, 4, 5, 6, 7, 8] rfl)
  · intro x4 x5 x6 x7 x8 hw
    refine (hX99 _ _ _ _ _).mpr ?_
    intro H locs ls hP hD hS hl
    refine lv_aload_n F.1 F.2.1 dX4_kth_99 rfl (lv_at hl 0 rfl) ?_
    refine xi_get (C := RX4) (T := TX4) (N := 16) (v := .ref h0_scores) F in_X4_kth_X4 hK hP 0 rfl rfl 12 (by decide) fl_X4_kth_35 rfl dX4_kth_100 ?_
    refine lv_sipush (v := 200) F.1 F.2.1 dX4_kth_103 (by decide) ?_
    refine lv_iload_n F.1 F.2.1 dX4_kth_106 rfl (lv_at hl 1 rfl) ?_
    refine lv_imul F.1 F.2.1 dX4_kth_107 ?_
    refine lv_iload F.1 F.2.1 dX4_kth_108 (lv_at hl 8 rfl) ?_
    refine lv_iadd F.1 F.2.1 dX4_kth_110 ?_
    obtain ⟨j111, hj, he, hw⟩ := hw
    refine xi_lald (j := j111) F hK hP 3 rfl (by decide) hj he dX4_kth_111 ?_
    refine lv_lstore (lv' := [(9, .long (f0_scores j111)), (0, .ref h0), (1, .int p1), (2, .int p2), (3, .int p3), (4, .int x4), (5, .int x5), (6, .int x6), (7, .int x7), (8, .int x8)]) F.1 F.2.1 dX4_kth_112 hl (by decide) rfl (fun ls hl => ?_)
    refine lv_aload_n F.1 F.2.1 dX4_kth_114 rfl (lv_at hl 1 rfl) ?_
    refine xi_get (C := RX4) (T := TX4) (N := 16) (v := .ref h0_scores) F in_X4_kth_X4 hK hP 0 rfl rfl 12 (by decide) fl_X4_kth_35 rfl dX4_kth_115 ?_
    refine lv_sipush (v := 200) F.1 F.2.1 dX4_kth_118 (by decide) ?_
    refine lv_iload_n F.1 F.2.1 dX4_kth_121 rfl (lv_at hl 2 rfl) ?_
    refine lv_imul F.1 F.2.1 dX4_kth_122 ?_
    refine lv_iload F.1 F.2.1 dX4_kth_123 (lv_at hl 7 rfl) ?_
    refine lv_iadd F.1 F.2.1 dX4_kth_125 ?_
    obtain ⟨j126, hj, he, hw⟩ := hw
    refine xi_lald (j := j126) F hK hP 3 rfl (by decide) hj he dX4_kth_126 ?_
    refine lv_lstore (lv' := [(11, .long (f0_scores j126)), (9, .long (f0_scores j111)), (0, .ref h0), (1, .int p1), (2, .int p2), (3, .int p3), (4, .int x4), (5, .int x5), (6, .int x6), (7, .int x7), (8, .int x8)]) F.1 F.2.1 dX4_kth_127 hl (by decide) rfl (fun ls hl => ?_)
    refine lv_iload F.1 F.2.1 dX4_kth_129 (lv_at hl 9 rfl) ?_
    refine lv_lload F.1 F.2.1 dX4_kth_131 (lv_at hl 1 rfl) ?_
    refine lv_lload F.1 F.2.1 dX4_kth_133 (lv_at hl 0 rfl) ?_
    refine xi_lcmp_gt (tgt := 154) F dX4_kth_135 dX4_kth_136 (by decide) (fun hc => ?_) (fun hc => ?_)
    · have hw := hw.1 hc
      exact (hX154 _ _ _ _ _).mp hw H locs ls hP hD hS (lv_sub hl [2, 3, 4, 5, 6, 7, 8, 10] rfl)
    · have hw := hw.2 hc
      refine lv_lload F.1 F.2.1 dX4_kth_139 (lv_at hl 1 rfl) ?_
      refine lv_lload F.1 F.2.1 dX4_kth_141 (lv_at hl 0 rfl) ?_
      refine xi_lcmp_ne (tgt := 158) F dX4_kth_143 dX4_kth_144 (by decide) (fun hc => ?_) (fun hc => ?_)
      · have hw := hw.1 hc
        exact (hX158 _ _ _ _ _).mp hw H locs ls hP hD hS (lv_sub hl [2, 3, 4, 5, 6, 7, 8, 10] rfl)
      · have hw := hw.2 hc
        refine lv_iload F.1 F.2.1 dX4_kth_147 (lv_at hl 10 rfl) ?_
        refine lv_iload F.1 F.2.1 dX4_kth_149 (lv_at hl 8 rfl) ?_
        refine lv_icmp_ge (tgt := 158) F.1 F.2.1 dX4_kth_151 (by decide) (fun hc => ?_) (fun hc => ?_)
        · have hw := hw.1 hc
          exact (hX158 _ _ _ _ _).mp hw H locs ls hP hD hS (lv_sub hl [2, 3, 4, 5, 6, 7, 8, 10] rfl)
        · have hw := hw.2 hc
          exact (hX154 _ _ _ _ _).mp hw H locs ls hP hD hS (lv_sub hl [2, 3, 4, 5, 6, 7, 8, 10] rfl)
  · intro x4 x5 x6 x8 s0 hw
    refine (hX154 _ _ _ _ _).mpr ?_
    intro H locs ls hP hD hS hl
    refine lv_iconst (v := 1) F.1 F.2.1 dX4_kth_154 (by decide) ?_
    refine lv_goto (tgt := 159) F.1 F.2.1 dX4_kth_155 (by decide) ?_
    exact (hX159 _ _ _ _ _ _).mp hw H locs ls hP hD hS (lv_sub hl [0, 1, 2, 3, 4, 5, 6, 7] rfl)
  · intro x4 x5 x6 x8 s0 hw
    refine (hX158 _ _ _ _ _).mpr ?_
    intro H locs ls hP hD hS hl
    refine lv_iconst (v := 0) F.1 F.2.1 dX4_kth_158 (by decide) ?_
    exact (hX159 _ _ _ _ _ _).mp hw H locs ls hP hD hS (lv_sub hl [0, 1, 2, 3, 4, 5, 6, 7] rfl)
  · intro x4 x5 x6 x8 s0 s1 hw
    refine (hX159 _ _ _ _ _ _).mpr ?_
    intro H locs ls hP hD hS hl
    refine lv_iadd F.1 F.2.1 dX4_kth_159 ?_
    refine lv_istore (lv' := [(7, .int (s1 + (b2i s0))), (0, .ref h0), (1, .int p1), (2, .int p2), (3, .int p3), (4, .int x4), (5, .int x5), (6, .int x6), (8, .int x8)]) F.1 F.2.1 dX4_kth_160 hl (by decide) rfl (fun ls hl => ?_)
    exact (hX162 _ _ _ _ _).mp hw H locs ls hP hD hS (lv_sub hl [1, 2, 3, 4, 5, 6, 7, 0, 8] rfl)
  · intro x4 x5 x6 x7 x8 hw
    refine (hX162 _ _ _ _ _).mpr ?_
    intro H locs ls hP hD hS hl
    refine lv_iinc (v := (x8 + 1)) (lv' := [(8, .int (x8 + 1)), (0, .ref h0), (1, .int p1), (2, .int p2), (3, .int p3), (4, .int x4), (5, .int x5), (6, .int x6), (7, .int x7)]) F.1 F.2.1 dX4_kth_162 hl (k := 8) rfl rfl (by decide) rfl (fun ls hl => ?_)
    refine lv_goto (tgt := 60) F.1 F.2.1 dX4_kth_165 (by decide) ?_
    exact (hX60 _ _ _ _ _).mp hw H locs ls hP hD hS (lv_sub hl [1, 2, 3, 4, 5, 6, 7, 8, 0] rfl)
  · intro x4 x6 s0 hw
    refine (hX181 _ _ _).mpr ?_
    intro H locs ls hP hD hS hl
    refine lv_istore (lv' := [(5, .int s0), (0, .ref h0), (1, .int p1), (2, .int p2), (3, .int p3), (4, .int x4), (6, .int x6)]) F.1 F.2.1 dX4_kth_181 hl (by decide) rfl (fun ls hl => ?_)
    exact (hX183 _ _ _).mp hw H locs ls hP hD hS (lv_sub hl [1, 2, 3, 4, 5, 0, 6] rfl)
  · intro x4 x5 x6 hw
    refine (hX183 _ _ _).mpr ?_
    intro H locs ls hP hD hS hl
    refine lv_iinc (v := (x6 + 1)) (lv' := [(6, .int (x6 + 1)), (0, .ref h0), (1, .int p1), (2, .int p2), (3, .int p3), (4, .int x4), (5, .int x5)]) F.1 F.2.1 dX4_kth_183 hl (k := 6) rfl rfl (by decide) rfl (fun ls hl => ?_)
    refine lv_goto (tgt := 9) F.1 F.2.1 dX4_kth_186 (by decide) ?_
    exact (hX9 _ _ _).mp hw H locs ls hP hD hS (lv_sub hl [1, 2, 3, 4, 5, 6, 0] rfl)
  · intro s0 hw
    refine (hX201 _).mpr ?_
    intro H locs ls hP hD hS hl
    exact RET s0 () H locs 201 ls hw hP hD hS dX4_kth_201
  generalize ([] : List Loc) = locs at hS ⊢
  obtain ⟨H, hHe⟩ : ∃ H, H = s.heap := ⟨_, rfl⟩
  have hP : va_P D vwCl (pc_X4_kth cs h0 h0_level h0_value h0_tags h0_link h0_key h0_lives h0_open h0_in h0_scores h0_was h0_had n0_thrown n0_objects n0_opened n0_sets b0_hasFamily f0_level f0_in f0_scores) H := by rw [hHe]; exact hP
  have hS : va_S A s.heap H locs := by rw [hHe]; exact hS
  suffices W p l e rm_X4_kth s m args below meth c H locs 0 0 Z (F0 m 0 ls []) by rw [hHe] at this; exact this
  refine lv_iconst (v := 0) F.1 F.2.1 dX4_kth_0 (by decide) ?_
  refine lv_istore (lv' := [(4, .int 0), (0, .ref h0), (1, .int p1), (2, .int p2), (3, .int p3)]) F.1 F.2.1 dX4_kth_1 hl (by decide) rfl (fun ls hl => ?_)
  refine lv_iconst (v := (-1)) F.1 F.2.1 dX4_kth_3 (by decide) ?_
  refine lv_istore (lv' := [(5, .int (-1)), (4, .int 0), (0, .ref h0), (1, .int p1), (2, .int p2), (3, .int p3)]) F.1 F.2.1 dX4_kth_4 hl (by decide) rfl (fun ls hl => ?_)
  refine lv_iconst (v := 0) F.1 F.2.1 dX4_kth_6 (by decide) ?_
  refine lv_istore (lv' := [(6, .int 0), (5, .int (-1)), (4, .int 0), (0, .ref h0), (1, .int p1), (2, .int p2), (3, .int p3)]) F.1 F.2.1 dX4_kth_7 hl (by decide) rfl (fun ls hl => ?_)
  exact (hX9 _ _ _).mp hw H locs ls hP hD hS (lv_sub hl [3, 4, 5, 6, 2, 1, 0] rfl)

theorem in_X4_hit_X4 : ∀ w ∈ wsX40, w ∈ wsX4_hit := by decide +kernel
theorem fl_X4_hit_45 : Cond.fieldLink RX4 45 "JoinBlocksModel" "thrown" "I" ∈ wsX4_hit := by decide +kernel
theorem fl_X4_hit_59 : Cond.fieldLink RX4 59 "JoinBlocksModel" "sets" "I" ∈ wsX4_hit := by decide +kernel
abbrev pc_X4_hit (cs : Nat → ClassId) (h0 : Nat) (h0_level : Nat) (h0_value : Nat) (h0_tags : Nat) (h0_link : Nat) (h0_key : Nat) (h0_lives : Nat) (h0_open : Nat) (h0_in : Nat) (h0_scores : Nat) (h0_was : Nat) (h0_had : Nat) (n0_thrown : Int32) (n0_objects : Int32) (n0_opened : Int32) (n0_sets : Int32) (b0_hasFamily : Bool) (f0_level : Nat → Int32) (f0_in : Nat → Bool) (f0_scores : Nat → Int64) : va_W := [(h0, .inr (4, [.int n0_thrown, .int n0_objects, .ref h0_level, .ref h0_value, .ref h0_tags, .ref h0_link, .ref h0_key, .ref h0_lives, .int n0_opened, .ref h0_open, .int n0_sets, .ref h0_in, .ref h0_scores, .int (b2i b0_hasFamily), .ref h0_was, .ref h0_had])), (h0_level, .inl (cs 0, 261, .inl f0_level)), (h0_in, .inl (cs 1, 1800, .inl (bF f0_in))), (h0_scores, .inl (cs 2, 1800, .inr (.inl f0_scores)))]
abbrev rm_X4_hit : Room := { frames := 3, cells := 0, slots := 0, locals := 77 }
def call_X4_hit (p1 : Int32) (n0_thrown : Int32) (n0_objects : Int32) (n0_sets : Int32) (f0_level : Nat → Int32) (f0_in : Nat → Bool) (f0_scores : Nat → Int64) (Q : Int32 → Int32 → Prop) : Prop := ∀ (X29 : Int32 → Int32 → Prop),
    (∀ (s0 : Int32) (n0_thrown : Int32),
      Q s0 n0_thrown → X29 s0 n0_thrown) →
    ((¬ n0_sets = 0 → (call_X4_kth (n0_sets - 1) (-1) p1 n0_objects f0_level f0_in f0_scores (fun (r26 : Int32) => X29 r26 0))) ∧ (n0_sets = 0 → X29 (-3) 0))
set_option maxHeartbeats 4000000 in
set_option maxRecDepth 100000 in
theorem m_X4_hit (l : Launch) (D : va_G) (cs : Nat → ClassId) (h0 : Nat) (h0_level : Nat) (h0_value : Nat) (h0_tags : Nat) (h0_link : Nat) (h0_key : Nat) (h0_lives : Nat) (h0_open : Nat) (h0_in : Nat) (h0_scores : Nat) (h0_was : Nat) (h0_had : Nat)  (p1 : Int32) (n0_thrown : Int32) (n0_objects : Int32) (n0_opened : Int32) (n0_sets : Int32) (b0_hasFamily : Bool) (f0_level : Nat → Int32) (f0_in : Nat → Bool) (f0_scores : Nat → Int64) (Q : Int32 → Int32 → Prop) (h : call_X4_hit p1 n0_thrown n0_objects n0_sets f0_level f0_in f0_scores Q) : CtI l yX4_hit wsX4_hit rm_X4_hit D cs [.ref h0, .int p1] (pc_X4_hit cs h0 h0_level h0_value h0_tags h0_link h0_key h0_lives h0_open h0_in h0_scores h0_was h0_had n0_thrown n0_objects n0_opened n0_sets b0_hasFamily f0_level f0_in f0_scores) (fun u : Int32 => (pc_X4_hit cs h0 h0_level h0_value h0_tags h0_link h0_key h0_lives h0_open h0_in h0_scores h0_was h0_had u n0_objects n0_opened n0_sets b0_hasFamily f0_level f0_in f0_scores)) (fun r u => Q r u) := by
  refine xo_I (S := Int32) (cc := cX4_hit) (maxL := 2) (own := RX4) (lv0 := [(0, .ref h0), (1, .int p1)]) (by decide) rfl rfl (Nat.le_of_ble_eq_true rfl) rfl ?_
  intro p e s m args below meth c A Z ls F hK hA hP hD hS hl RET
  unfold call_X4_hit at h
  obtain ⟨X29, hX29⟩ : ∃ X : Int32 → Int32 → Prop, ∀ (s0 : Int32) (n0_thrown : Int32), (X s0 n0_thrown ↔ ∀ (H : Heap) (locs : List Loc) (ls : Array Slot), va_P D vwCl (pc_X4_hit cs h0 h0_level h0_value h0_tags h0_link h0_key h0_lives h0_open h0_in h0_scores h0_was h0_had n0_thrown n0_objects n0_opened n0_sets b0_hasFamily f0_level f0_in f0_scores) H → va_D A (pc_X4_hit cs h0 h0_level h0_value h0_tags h0_link h0_key h0_lives h0_open h0_in h0_scores h0_was h0_had n0_thrown n0_objects n0_opened n0_sets b0_hasFamily f0_level f0_in f0_scores) → va_S A s.heap H locs → lv_has ls 2 [] → W p l e rm_X4_hit s m args below meth c H locs 0 0 Z (F0 m 29 ls [.int s0])) := ⟨_, fun _ _ => Iff.rfl⟩
  refine xt_cut (h X29 ?_) (fun hw => ?_)
  · intro s0 n0_thrown hw
    refine (hX29 _ _).mpr ?_
    intro H locs ls hP hD hS hl
    exact RET s0 (n0_thrown) H locs 29 ls hw hP hD hS dX4_hit_29
  generalize ([] : List Loc) = locs at hS ⊢
  obtain ⟨H, hHe⟩ : ∃ H, H = s.heap := ⟨_, rfl⟩
  have hP : va_P D vwCl (pc_X4_hit cs h0 h0_level h0_value h0_tags h0_link h0_key h0_lives h0_open h0_in h0_scores h0_was h0_had n0_thrown n0_objects n0_opened n0_sets b0_hasFamily f0_level f0_in f0_scores) H := by rw [hHe]; exact hP
  have hS : va_S A s.heap H locs := by rw [hHe]; exact hS
  suffices W p l e rm_X4_hit s m args below meth c H locs 0 0 Z (F0 m 0 ls []) by rw [hHe] at this; exact this
  refine lv_aload_n F.1 F.2.1 dX4_hit_0 rfl (lv_at hl 0 rfl) ?_
  refine lv_iconst (v := 0) F.1 F.2.1 dX4_hit_1 (by decide) ?_
  refine xi_put (C := RX4) (T := TX4) (N := 16) (v := .int 0) (ty := .int) F in_X4_hit_X4 tyX4 tyX4_ok nmX4 hK hP hD hS 0 rfl rfl 0 (by decide) fl_X4_hit_45 rfl (tyX4_ok 0 (by decide)) rfl rfl (Nat.le_of_ble_eq_true rfl) dX4_hit_2 (fun H locs hP hD hS => ?_)
  have hP : va_P D vwCl (pc_X4_hit cs h0 h0_level h0_value h0_tags h0_link h0_key h0_lives h0_open h0_in h0_scores h0_was h0_had 0 n0_objects n0_opened n0_sets b0_hasFamily f0_level f0_in f0_scores) H := hP
  have hD : va_D A (pc_X4_hit cs h0 h0_level h0_value h0_tags h0_link h0_key h0_lives h0_open h0_in h0_scores h0_was h0_had 0 n0_objects n0_opened n0_sets b0_hasFamily f0_level f0_in f0_scores) := hD
  refine lv_aload_n F.1 F.2.1 dX4_hit_5 rfl (lv_at hl 0 rfl) ?_
  refine xi_get (C := RX4) (T := TX4) (N := 16) (v := .int n0_sets) F in_X4_hit_X4 hK hP 0 rfl rfl 10 (by decide) fl_X4_hit_59 rfl dX4_hit_6 ?_
  refine lv_if_ne (tgt := 17) F.1 F.2.1 dX4_hit_9 (by decide) (fun hc => ?_) (fun hc => ?_)
  · have hw := hw.1 hc
    refine lv_aload_n F.1 F.2.1 dX4_hit_17 rfl (lv_at hl 0 rfl) ?_
    refine lv_aload_n F.1 F.2.1 dX4_hit_18 rfl (lv_at hl 0 rfl) ?_
    refine xi_get (C := RX4) (T := TX4) (N := 16) (v := .int n0_sets) F in_X4_hit_X4 hK hP 0 rfl rfl 10 (by decide) fl_X4_hit_59 rfl dX4_hit_19 ?_
    refine lv_iconst (v := 1) F.1 F.2.1 dX4_hit_22 (by decide) ?_
    refine lv_isub F.1 F.2.1 dX4_hit_23 ?_
    refine lv_iconst (v := (-1)) F.1 F.2.1 dX4_hit_24 (by decide) ?_
    refine lv_iload_n F.1 F.2.1 dX4_hit_25 rfl (lv_at hl 1 rfl) ?_
    refine xc_Vi (As := [.int (n0_sets - 1), .int (-1), .int p1]) (rest := []) (m_X4_kth l D cs h0 h0_level h0_value h0_tags h0_link h0_key h0_lives h0_open h0_in h0_scores h0_was h0_had (n0_sets - 1) (-1) p1 0 n0_objects n0_opened n0_sets b0_hasFamily f0_level f0_in f0_scores _ hw) F (cwV 3 F.2.2.2.2 gX4_hit_X4_kth rfl rfl rfl (by decide +kernel) ⟨Nat.le_of_ble_eq_true rfl, Nat.le_of_ble_eq_true rfl⟩) hK hP hD hS hA [0, 1, 2, 3] [] rfl rfl 0 rfl rfl rfl hl.1 rfl (Nat.le_of_ble_eq_true rfl) dX4_hit_26 ⟨Nat.zero_le _, Nat.zero_le _⟩ (fun r26 u H locs hw hP hD hS => ?_)
    have hP : va_P D vwCl (pc_X4_hit cs h0 h0_level h0_value h0_tags h0_link h0_key h0_lives h0_open h0_in h0_scores h0_was h0_had 0 n0_objects n0_opened n0_sets b0_hasFamily f0_level f0_in f0_scores) H := hP.sub [0, 1, 2, 3] rfl
    have hD : va_D A (pc_X4_hit cs h0 h0_level h0_value h0_tags h0_link h0_key h0_lives h0_open h0_in h0_scores h0_was h0_had 0 n0_objects n0_opened n0_sets b0_hasFamily f0_level f0_in f0_scores) := hD.sub [0, 1, 2, 3] (by decide) rfl
    try dsimp only at hw
    exact (hX29 _ _).mp hw H locs ls hP hD hS (lv_sub hl [] rfl)
  · have hw := hw.2 hc
    refine lv_bipush (v := (-3)) F.1 F.2.1 dX4_hit_12 (by decide) ?_
    refine lv_goto (tgt := 29) F.1 F.2.1 dX4_hit_14 (by decide) ?_
    exact (hX29 _ _).mp hw H locs ls hP hD hS (lv_sub hl [] rfl)

theorem in_X4_score_X4 : ∀ w ∈ wsX40, w ∈ wsX4_score := by decide +kernel
theorem fl_X4_score_45 : Cond.fieldLink RX4 45 "JoinBlocksModel" "thrown" "I" ∈ wsX4_score := by decide +kernel
theorem fl_X4_score_59 : Cond.fieldLink RX4 59 "JoinBlocksModel" "sets" "I" ∈ wsX4_score := by decide +kernel
theorem fl_X4_score_32 : Cond.fieldLink RX4 32 "JoinBlocksModel" "in" "[Z" ∈ wsX4_score := by decide +kernel
theorem fl_X4_score_35 : Cond.fieldLink RX4 35 "JoinBlocksModel" "scores" "[J" ∈ wsX4_score := by decide +kernel
abbrev pc_X4_score (cs : Nat → ClassId) (h0 : Nat) (h0_level : Nat) (h0_value : Nat) (h0_tags : Nat) (h0_link : Nat) (h0_key : Nat) (h0_lives : Nat) (h0_open : Nat) (h0_in : Nat) (h0_scores : Nat) (h0_was : Nat) (h0_had : Nat) (n0_thrown : Int32) (n0_objects : Int32) (n0_opened : Int32) (n0_sets : Int32) (b0_hasFamily : Bool) (f0_in : Nat → Bool) (f0_scores : Nat → Int64) : va_W := [(h0, .inr (4, [.int n0_thrown, .int n0_objects, .ref h0_level, .ref h0_value, .ref h0_tags, .ref h0_link, .ref h0_key, .ref h0_lives, .int n0_opened, .ref h0_open, .int n0_sets, .ref h0_in, .ref h0_scores, .int (b2i b0_hasFamily), .ref h0_was, .ref h0_had])), (h0_in, .inl (cs 1, 1800, .inl (bF f0_in))), (h0_scores, .inl (cs 2, 1800, .inr (.inl f0_scores)))]
abbrev rm_X4_score : Room := { frames := 2, cells := 0, slots := 0, locals := 43 }
def call_X4_score (p1 : Int32) (n0_thrown : Int32) (n0_objects : Int32) (n0_sets : Int32) (f0_in : Nat → Bool) (f0_scores : Nat → Int64) (Q : Int64 → Int32 → Prop) : Prop := ∀ (X40 : Int32 → Prop) (X63 : Int64 → Int32 → Prop),
    (∀ (n0_thrown : Int32),
      X63 (-9223372036854775808) n0_thrown → X40 n0_thrown) →
    (∀ (s0 : Int64) (n0_thrown : Int32),
      Q s0 n0_thrown → X63 s0 n0_thrown) →
    ((n0_sets = 0 → X40 0) ∧ (¬ n0_sets = 0 → (call_X4_isObject p1 n0_objects (fun (r14 : Bool) => ((r14 = false → X40 0) ∧ (r14 = true → (∃ j36 : Nat, j36 < 1800 ∧ ((200 * (n0_sets - 1)) + p1) = nI j36 ∧ (((f0_in j36) = true → (∃ j62 : Nat, j62 < 1800 ∧ ((200 * (n0_sets - 1)) + p1) = nI j62 ∧ X63 (f0_scores j62) 0)) ∧ ((f0_in j36) = false → X40 0)))))))))
set_option maxHeartbeats 4000000 in
set_option maxRecDepth 100000 in
theorem m_X4_score (l : Launch) (D : va_G) (cs : Nat → ClassId) (h0 : Nat) (h0_level : Nat) (h0_value : Nat) (h0_tags : Nat) (h0_link : Nat) (h0_key : Nat) (h0_lives : Nat) (h0_open : Nat) (h0_in : Nat) (h0_scores : Nat) (h0_was : Nat) (h0_had : Nat)  (p1 : Int32) (n0_thrown : Int32) (n0_objects : Int32) (n0_opened : Int32) (n0_sets : Int32) (b0_hasFamily : Bool) (f0_in : Nat → Bool) (f0_scores : Nat → Int64) (Q : Int64 → Int32 → Prop) (h : call_X4_score p1 n0_thrown n0_objects n0_sets f0_in f0_scores Q) : CtL l yX4_score wsX4_score rm_X4_score D cs [.ref h0, .int p1] (pc_X4_score cs h0 h0_level h0_value h0_tags h0_link h0_key h0_lives h0_open h0_in h0_scores h0_was h0_had n0_thrown n0_objects n0_opened n0_sets b0_hasFamily f0_in f0_scores) (fun u : Int32 => (pc_X4_score cs h0 h0_level h0_value h0_tags h0_link h0_key h0_lives h0_open h0_in h0_scores h0_was h0_had u n0_objects n0_opened n0_sets b0_hasFamily f0_in f0_scores)) (fun r u => Q r u) := by
  refine xo_L (S := Int32) (cc := cX4_score) (maxL := 2) (own := RX4) (lv0 := [(0, .ref h0), (1, .int p1)]) (by decide) rfl rfl (Nat.le_of_ble_eq_true rfl) rfl ?_
  intro p e s m args below meth c A Z ls F hK hA hP hD hS hl RET
  unfold call_X4_score at h
  obtain ⟨X40, hX40⟩ : ∃ X : Int32 → Prop, ∀ (n0_thrown : Int32), (X n0_thrown ↔ ∀ (H : Heap) (locs : List Loc) (ls : Array Slot), va_P D vwCl (pc_X4_score cs h0 h0_level h0_value h0_tags h0_link h0_key h0_lives h0_open h0_in h0_scores h0_was h0_had n0_thrown n0_objects n0_opened n0_sets b0_hasFamily f0_in f0_scores) H → va_D A (pc_X4_score cs h0 h0_level h0_value h0_tags h0_link h0_key h0_lives h0_open h0_in h0_scores h0_was h0_had n0_thrown n0_objects n0_opened n0_sets b0_hasFamily f0_in f0_scores) → va_S A s.heap H locs → lv_has ls 2 [] → W p l e rm_X4_score s m args below meth c H locs 0 0 Z (F0 m 40 ls [])) := ⟨_, fun _ => Iff.rfl⟩
  obtain ⟨X63, hX63⟩ : ∃ X : Int64 → Int32 → Prop, ∀ (s0 : Int64) (n0_thrown : Int32), (X s0 n0_thrown ↔ ∀ (H : Heap) (locs : List Loc) (ls : Array Slot), va_P D vwCl (pc_X4_score cs h0 h0_level h0_value h0_tags h0_link h0_key h0_lives h0_open h0_in h0_scores h0_was h0_had n0_thrown n0_objects n0_opened n0_sets b0_hasFamily f0_in f0_scores) H → va_D A (pc_X4_score cs h0 h0_level h0_value h0_tags h0_link h0_key h0_lives h0_open h0_in h0_scores h0_was h0_had n0_thrown n0_objects n0_opened n0_sets b0_hasFamily f0_in f0_scores) → va_S A s.heap H locs → lv_has ls 2 [] → W p l e rm_X4_score s m args below meth c H locs 0 0 Z (F0 m 63 ls [.long s0])) := ⟨_, fun _ _ => Iff.rfl⟩
  refine xt_cut (h X40 X63 ?_ ?_) (fun hw => ?_)
  · intro n0_thrown hw
    refine (hX40 _).mpr ?_
    intro H locs ls hP hD hS hl
    refine lv_ldc2 (v := (-9223372036854775808)) F.1 F.2.1 F.2.2.2.1 (F.2.2.2.2 (.constantLong RX4 114 (-9223372036854775808)) (by decide +kernel)) dX4_score_40 ?_
    refine lv_goto (tgt := 63) F.1 F.2.1 dX4_score_43 (by decide) ?_
    exact (hX63 _ _).mp hw H locs ls hP hD hS (lv_sub hl [] rfl)
  · intro s0 n0_thrown hw
    refine (hX63 _ _).mpr ?_
    intro H locs ls hP hD hS hl
    exact RET s0 (n0_thrown) H locs 63 ls hw hP hD hS dX4_score_63
  generalize ([] : List Loc) = locs at hS ⊢
  obtain ⟨H, hHe⟩ : ∃ H, H = s.heap := ⟨_, rfl⟩
  have hP : va_P D vwCl (pc_X4_score cs h0 h0_level h0_value h0_tags h0_link h0_key h0_lives h0_open h0_in h0_scores h0_was h0_had n0_thrown n0_objects n0_opened n0_sets b0_hasFamily f0_in f0_scores) H := by rw [hHe]; exact hP
  have hS : va_S A s.heap H locs := by rw [hHe]; exact hS
  suffices W p l e rm_X4_score s m args below meth c H locs 0 0 Z (F0 m 0 ls []) by rw [hHe] at this; exact this
  refine lv_aload_n F.1 F.2.1 dX4_score_0 rfl (lv_at hl 0 rfl) ?_
  refine lv_iconst (v := 0) F.1 F.2.1 dX4_score_1 (by decide) ?_
  refine xi_put (C := RX4) (T := TX4) (N := 16) (v := .int 0) (ty := .int) F in_X4_score_X4 tyX4 tyX4_ok nmX4 hK hP hD hS 0 rfl rfl 0 (by decide) fl_X4_score_45 rfl (tyX4_ok 0 (by decide)) rfl rfl (Nat.le_of_ble_eq_true rfl) dX4_score_2 (fun H locs hP hD hS => ?_)
  have hP : va_P D vwCl (pc_X4_score cs h0 h0_level h0_value h0_tags h0_link h0_key h0_lives h0_open h0_in h0_scores h0_was h0_had 0 n0_objects n0_opened n0_sets b0_hasFamily f0_in f0_scores) H := hP
  have hD : va_D A (pc_X4_score cs h0 h0_level h0_value h0_tags h0_link h0_key h0_lives h0_open h0_in h0_scores h0_was h0_had 0 n0_objects n0_opened n0_sets b0_hasFamily f0_in f0_scores) := hD
  refine lv_aload_n F.1 F.2.1 dX4_score_5 rfl (lv_at hl 0 rfl) ?_
  refine xi_get (C := RX4) (T := TX4) (N := 16) (v := .int n0_sets) F in_X4_score_X4 hK hP 0 rfl rfl 10 (by decide) fl_X4_score_59 rfl dX4_score_6 ?_
  refine lv_if_eq (tgt := 40) F.1 F.2.1 dX4_score_9 (by decide) (fun hc => ?_) (fun hc => ?_)
  · have hw := hw.1 hc
    exact (hX40 _).mp hw H locs ls hP hD hS (lv_sub hl [] rfl)
  · have hw := hw.2 hc
    refine lv_aload_n F.1 F.2.1 dX4_score_12 rfl (lv_at hl 0 rfl) ?_
    refine lv_iload_n F.1 F.2.1 dX4_score_13 rfl (lv_at hl 1 rfl) ?_
    refine xc_Vz (As := [.int p1]) (rest := []) (m_X4_isObject l D cs h0 h0_level h0_value h0_tags h0_link h0_key h0_lives h0_open h0_in h0_scores h0_was h0_had p1 0 n0_objects n0_opened n0_sets b0_hasFamily _ hw) F (cwV 1 F.2.2.2.2 gX4_score_X4_isObject rfl rfl rfl (by decide +kernel) ⟨Nat.le_of_ble_eq_true rfl, Nat.le_of_ble_eq_true rfl⟩) hK hP hD hS hA [0] [1, 2] rfl rfl 0 rfl rfl rfl hl.1 rfl (Nat.le_of_ble_eq_true rfl) dX4_score_14 ⟨Nat.zero_le _, Nat.zero_le _⟩ (fun r14 u H locs hw hP hD hS => ?_)
    have hP : va_P D vwCl (pc_X4_score cs h0 h0_level h0_value h0_tags h0_link h0_key h0_lives h0_open h0_in h0_scores h0_was h0_had 0 n0_objects n0_opened n0_sets b0_hasFamily f0_in f0_scores) H := hP.sub [2, 0, 1] rfl
    have hD : va_D A (pc_X4_score cs h0 h0_level h0_value h0_tags h0_link h0_key h0_lives h0_open h0_in h0_scores h0_was h0_had 0 n0_objects n0_opened n0_sets b0_hasFamily f0_in f0_scores) := hD.sub [2, 0, 1] (by decide) rfl
    try dsimp only at hw
    refine xi_ifeqz (tgt := 40) F dX4_score_17 (by decide) (fun hc => ?_) (fun hc => ?_)
    · have hw := hw.1 hc
      exact (hX40 _).mp hw H locs ls hP hD hS (lv_sub hl [] rfl)
    · have hw := hw.2 hc
      refine lv_aload_n F.1 F.2.1 dX4_score_20 rfl (lv_at hl 0 rfl) ?_
      refine xi_get (C := RX4) (T := TX4) (N := 16) (v := .ref h0_in) F in_X4_score_X4 hK hP 0 rfl rfl 11 (by decide) fl_X4_score_32 rfl dX4_score_21 ?_
      refine lv_sipush (v := 200) F.1 F.2.1 dX4_score_24 (by decide) ?_
      refine lv_aload_n F.1 F.2.1 dX4_score_27 rfl (lv_at hl 0 rfl) ?_
      refine xi_get (C := RX4) (T := TX4) (N := 16) (v := .int n0_sets) F in_X4_score_X4 hK hP 0 rfl rfl 10 (by decide) fl_X4_score_59 rfl dX4_score_28 ?_
      refine lv_iconst (v := 1) F.1 F.2.1 dX4_score_31 (by decide) ?_
      refine lv_isub F.1 F.2.1 dX4_score_32 ?_
      refine lv_imul F.1 F.2.1 dX4_score_33 ?_
      refine lv_iload_n F.1 F.2.1 dX4_score_34 rfl (lv_at hl 1 rfl) ?_
      refine lv_iadd F.1 F.2.1 dX4_score_35 ?_
      obtain ⟨j36, hj, he, hw⟩ := hw
      refine xi_zald (j := j36) F hK hP 1 rfl (by decide) hj he dX4_score_36 ?_
      refine xi_ifnez (tgt := 46) F dX4_score_37 (by decide) (fun hc => ?_) (fun hc => ?_)
      · have hw := hw.1 hc
        refine lv_aload_n F.1 F.2.1 dX4_score_46 rfl (lv_at hl 0 rfl) ?_
        refine xi_get (C := RX4) (T := TX4) (N := 16) (v := .ref h0_scores) F in_X4_score_X4 hK hP 0 rfl rfl 12 (by decide) fl_X4_score_35 rfl dX4_score_47 ?_
        refine lv_sipush (v := 200) F.1 F.2.1 dX4_score_50 (by decide) ?_
        refine lv_aload_n F.1 F.2.1 dX4_score_53 rfl (lv_at hl 0 rfl) ?_
        refine xi_get (C := RX4) (T := TX4) (N := 16) (v := .int n0_sets) F in_X4_score_X4 hK hP 0 rfl rfl 10 (by decide) fl_X4_score_59 rfl dX4_score_54 ?_
        refine lv_iconst (v := 1) F.1 F.2.1 dX4_score_57 (by decide) ?_
        refine lv_isub F.1 F.2.1 dX4_score_58 ?_
        refine lv_imul F.1 F.2.1 dX4_score_59 ?_
        refine lv_iload_n F.1 F.2.1 dX4_score_60 rfl (lv_at hl 1 rfl) ?_
        refine lv_iadd F.1 F.2.1 dX4_score_61 ?_
        obtain ⟨j62, hj, he, hw⟩ := hw
        refine xi_lald (j := j62) F hK hP 2 rfl (by decide) hj he dX4_score_62 ?_
        exact (hX63 _ _).mp hw H locs ls hP hD hS (lv_sub hl [] rfl)
      · have hw := hw.2 hc
        exact (hX40 _).mp hw H locs ls hP hD hS (lv_sub hl [] rfl)

theorem in_X4_family_X4 : ∀ w ∈ wsX40, w ∈ wsX4_family := by decide +kernel
theorem fl_X4_family_45 : Cond.fieldLink RX4 45 "JoinBlocksModel" "thrown" "I" ∈ wsX4_family := by decide +kernel
theorem fl_X4_family_62 : Cond.fieldLink RX4 62 "JoinBlocksModel" "hasFamily" "Z" ∈ wsX4_family := by decide +kernel
abbrev pc_X4_family (cs : Nat → ClassId) (h0 : Nat) (h0_level : Nat) (h0_value : Nat) (h0_tags : Nat) (h0_link : Nat) (h0_key : Nat) (h0_lives : Nat) (h0_open : Nat) (h0_in : Nat) (h0_scores : Nat) (h0_was : Nat) (h0_had : Nat) (n0_thrown : Int32) (n0_objects : Int32) (n0_opened : Int32) (n0_sets : Int32) (b0_hasFamily : Bool) (f0_level : Nat → Int32) (f0_in : Nat → Bool) (f0_scores : Nat → Int64) : va_W := [(h0, .inr (4, [.int n0_thrown, .int n0_objects, .ref h0_level, .ref h0_value, .ref h0_tags, .ref h0_link, .ref h0_key, .ref h0_lives, .int n0_opened, .ref h0_open, .int n0_sets, .ref h0_in, .ref h0_scores, .int (b2i b0_hasFamily), .ref h0_was, .ref h0_had])), (h0_level, .inl (cs 0, 261, .inl f0_level)), (h0_in, .inl (cs 1, 1800, .inl (bF f0_in))), (h0_scores, .inl (cs 2, 1800, .inr (.inl f0_scores)))]
abbrev rm_X4_family : Room := { frames := 3, cells := 0, slots := 0, locals := 77 }
def call_X4_family (p1 : Int32) (p2 : Int32) (n0_thrown : Int32) (n0_objects : Int32) (b0_hasFamily : Bool) (f0_level : Nat → Int32) (f0_in : Nat → Bool) (f0_scores : Nat → Int64) (Q : Int32 → Int32 → Prop) : Prop := ∀ (X20 : Int32 → Prop) (X32 : Int32 → Int32 → Prop),
    (∀ (n0_thrown : Int32),
      X32 (-1) n0_thrown → X20 n0_thrown) →
    (∀ (s0 : Int32) (n0_thrown : Int32),
      Q s0 n0_thrown → X32 s0 n0_thrown) →
    (call_X4_isObject p1 n0_objects (fun (r7 : Bool) => ((r7 = false → X20 0) ∧ (r7 = true → ((b0_hasFamily = true → (call_X4_kth 8 p1 p2 n0_objects f0_level f0_in f0_scores (fun (r29 : Int32) => X32 r29 0))) ∧ (b0_hasFamily = false → X20 0))))))
set_option maxHeartbeats 4000000 in
set_option maxRecDepth 100000 in
theorem m_X4_family (l : Launch) (D : va_G) (cs : Nat → ClassId) (h0 : Nat) (h0_level : Nat) (h0_value : Nat) (h0_tags : Nat) (h0_link : Nat) (h0_key : Nat) (h0_lives : Nat) (h0_open : Nat) (h0_in : Nat) (h0_scores : Nat) (h0_was : Nat) (h0_had : Nat)  (p1 : Int32) (p2 : Int32) (n0_thrown : Int32) (n0_objects : Int32) (n0_opened : Int32) (n0_sets : Int32) (b0_hasFamily : Bool) (f0_level : Nat → Int32) (f0_in : Nat → Bool) (f0_scores : Nat → Int64) (Q : Int32 → Int32 → Prop) (h : call_X4_family p1 p2 n0_thrown n0_objects b0_hasFamily f0_level f0_in f0_scores Q) : CtI l yX4_family wsX4_family rm_X4_family D cs [.ref h0, .int p1, .int p2] (pc_X4_family cs h0 h0_level h0_value h0_tags h0_link h0_key h0_lives h0_open h0_in h0_scores h0_was h0_had n0_thrown n0_objects n0_opened n0_sets b0_hasFamily f0_level f0_in f0_scores) (fun u : Int32 => (pc_X4_family cs h0 h0_level h0_value h0_tags h0_link h0_key h0_lives h0_open h0_in h0_scores h0_was h0_had u n0_objects n0_opened n0_sets b0_hasFamily f0_level f0_in f0_scores)) (fun r u => Q r u) := by
  refine xo_I (S := Int32) (cc := cX4_family) (maxL := 3) (own := RX4) (lv0 := [(0, .ref h0), (1, .int p1), (2, .int p2)]) (by decide) rfl rfl (Nat.le_of_ble_eq_true rfl) rfl ?_
  intro p e s m args below meth c A Z ls F hK hA hP hD hS hl RET
  unfold call_X4_family at h
  obtain ⟨X20, hX20⟩ : ∃ X : Int32 → Prop, ∀ (n0_thrown : Int32), (X n0_thrown ↔ ∀ (H : Heap) (locs : List Loc) (ls : Array Slot), va_P D vwCl (pc_X4_family cs h0 h0_level h0_value h0_tags h0_link h0_key h0_lives h0_open h0_in h0_scores h0_was h0_had n0_thrown n0_objects n0_opened n0_sets b0_hasFamily f0_level f0_in f0_scores) H → va_D A (pc_X4_family cs h0 h0_level h0_value h0_tags h0_link h0_key h0_lives h0_open h0_in h0_scores h0_was h0_had n0_thrown n0_objects n0_opened n0_sets b0_hasFamily f0_level f0_in f0_scores) → va_S A s.heap H locs → lv_has ls 3 [] → W p l e rm_X4_family s m args below meth c H locs 0 0 Z (F0 m 20 ls [])) := ⟨_, fun _ => Iff.rfl⟩
  obtain ⟨X32, hX32⟩ : ∃ X : Int32 → Int32 → Prop, ∀ (s0 : Int32) (n0_thrown : Int32), (X s0 n0_thrown ↔ ∀ (H : Heap) (locs : List Loc) (ls : Array Slot), va_P D vwCl (pc_X4_family cs h0 h0_level h0_value h0_tags h0_link h0_key h0_lives h0_open h0_in h0_scores h0_was h0_had n0_thrown n0_objects n0_opened n0_sets b0_hasFamily f0_level f0_in f0_scores) H → va_D A (pc_X4_family cs h0 h0_level h0_value h0_tags h0_link h0_key h0_lives h0_open h0_in h0_scores h0_was h0_had n0_thrown n0_objects n0_opened n0_sets b0_hasFamily f0_level f0_in f0_scores) → va_S A s.heap H locs → lv_has ls 3 [] → W p l e rm_X4_family s m args below meth c H locs 0 0 Z (F0 m 32 ls [.int s0])) := ⟨_, fun _ _ => Iff.rfl⟩
  refine xt_cut (h X20 X32 ?_ ?_) (fun hw => ?_)
  · intro n0_thrown hw
    refine (hX20 _).mpr ?_
    intro H locs ls hP hD hS hl
    refine lv_iconst (v := (-1)) F.1 F.2.1 dX4_family_20 (by decide) ?_
    refine lv_goto (tgt := 32) F.1 F.2.1 dX4_family_21 (by decide) ?_
    exact (hX32 _ _).mp hw H locs ls hP hD hS (lv_sub hl [] rfl)
  · intro s0 n0_thrown hw
    refine (hX32 _ _).mpr ?_
    intro H locs ls hP hD hS hl
    exact RET s0 (n0_thrown) H locs 32 ls hw hP hD hS dX4_family_32
  generalize ([] : List Loc) = locs at hS ⊢
  obtain ⟨H, hHe⟩ : ∃ H, H = s.heap := ⟨_, rfl⟩
  have hP : va_P D vwCl (pc_X4_family cs h0 h0_level h0_value h0_tags h0_link h0_key h0_lives h0_open h0_in h0_scores h0_was h0_had n0_thrown n0_objects n0_opened n0_sets b0_hasFamily f0_level f0_in f0_scores) H := by rw [hHe]; exact hP
  have hS : va_S A s.heap H locs := by rw [hHe]; exact hS
  suffices W p l e rm_X4_family s m args below meth c H locs 0 0 Z (F0 m 0 ls []) by rw [hHe] at this; exact this
  refine lv_aload_n F.1 F.2.1 dX4_family_0 rfl (lv_at hl 0 rfl) ?_
  refine lv_iconst (v := 0) F.1 F.2.1 dX4_family_1 (by decide) ?_
  refine xi_put (C := RX4) (T := TX4) (N := 16) (v := .int 0) (ty := .int) F in_X4_family_X4 tyX4 tyX4_ok nmX4 hK hP hD hS 0 rfl rfl 0 (by decide) fl_X4_family_45 rfl (tyX4_ok 0 (by decide)) rfl rfl (Nat.le_of_ble_eq_true rfl) dX4_family_2 (fun H locs hP hD hS => ?_)
  have hP : va_P D vwCl (pc_X4_family cs h0 h0_level h0_value h0_tags h0_link h0_key h0_lives h0_open h0_in h0_scores h0_was h0_had 0 n0_objects n0_opened n0_sets b0_hasFamily f0_level f0_in f0_scores) H := hP
  have hD : va_D A (pc_X4_family cs h0 h0_level h0_value h0_tags h0_link h0_key h0_lives h0_open h0_in h0_scores h0_was h0_had 0 n0_objects n0_opened n0_sets b0_hasFamily f0_level f0_in f0_scores) := hD
  refine lv_aload_n F.1 F.2.1 dX4_family_5 rfl (lv_at hl 0 rfl) ?_
  refine lv_iload_n F.1 F.2.1 dX4_family_6 rfl (lv_at hl 1 rfl) ?_
  refine xc_Vz (As := [.int p1]) (rest := []) (m_X4_isObject l D cs h0 h0_level h0_value h0_tags h0_link h0_key h0_lives h0_open h0_in h0_scores h0_was h0_had p1 0 n0_objects n0_opened n0_sets b0_hasFamily _ hw) F (cwV 1 F.2.2.2.2 gX4_family_X4_isObject rfl rfl rfl (by decide +kernel) ⟨Nat.le_of_ble_eq_true rfl, Nat.le_of_ble_eq_true rfl⟩) hK hP hD hS hA [0] [1, 2, 3] rfl rfl 0 rfl rfl rfl hl.1 rfl (Nat.le_of_ble_eq_true rfl) dX4_family_7 ⟨Nat.zero_le _, Nat.zero_le _⟩ (fun r7 u H locs hw hP hD hS => ?_)
  have hP : va_P D vwCl (pc_X4_family cs h0 h0_level h0_value h0_tags h0_link h0_key h0_lives h0_open h0_in h0_scores h0_was h0_had 0 n0_objects n0_opened n0_sets b0_hasFamily f0_level f0_in f0_scores) H := hP.sub [3, 0, 1, 2] rfl
  have hD : va_D A (pc_X4_family cs h0 h0_level h0_value h0_tags h0_link h0_key h0_lives h0_open h0_in h0_scores h0_was h0_had 0 n0_objects n0_opened n0_sets b0_hasFamily f0_level f0_in f0_scores) := hD.sub [3, 0, 1, 2] (by decide) rfl
  try dsimp only at hw
  refine xi_ifeqz (tgt := 20) F dX4_family_10 (by decide) (fun hc => ?_) (fun hc => ?_)
  · have hw := hw.1 hc
    exact (hX20 _).mp hw H locs ls hP hD hS (lv_sub hl [] rfl)
  · have hw := hw.2 hc
    refine lv_aload_n F.1 F.2.1 dX4_family_13 rfl (lv_at hl 0 rfl) ?_
    refine xi_get (C := RX4) (T := TX4) (N := 16) (v := .int (b2i b0_hasFamily)) F in_X4_family_X4 hK hP 0 rfl rfl 13 (by decide) fl_X4_family_62 rfl dX4_family_14 ?_
    refine xi_ifnez (tgt := 24) F dX4_family_17 (by decide) (fun hc => ?_) (fun hc => ?_)
    · have hw := hw.1 hc
      refine lv_aload_n F.1 F.2.1 dX4_family_24 rfl (lv_at hl 0 rfl) ?_
      refine lv_bipush (v := 8) F.1 F.2.1 dX4_family_25 (by decide) ?_
      refine lv_iload_n F.1 F.2.1 dX4_family_27 rfl (lv_at hl 1 rfl) ?_
      refine lv_iload_n F.1 F.2.1 dX4_family_28 rfl (lv_at hl 2 rfl) ?_
      refine xc_Vi (As := [.int 8, .int p1, .int p2]) (rest := []) (m_X4_kth l D cs h0 h0_level h0_value h0_tags h0_link h0_key h0_lives h0_open h0_in h0_scores h0_was h0_had 8 p1 p2 0 n0_objects n0_opened n0_sets b0_hasFamily f0_level f0_in f0_scores _ hw) F (cwV 3 F.2.2.2.2 gX4_family_X4_kth rfl rfl rfl (by decide +kernel) ⟨Nat.le_of_ble_eq_true rfl, Nat.le_of_ble_eq_true rfl⟩) hK hP hD hS hA [0, 1, 2, 3] [] rfl rfl 0 rfl rfl rfl hl.1 rfl (Nat.le_of_ble_eq_true rfl) dX4_family_29 ⟨Nat.zero_le _, Nat.zero_le _⟩ (fun r29 u H locs hw hP hD hS => ?_)
      have hP : va_P D vwCl (pc_X4_family cs h0 h0_level h0_value h0_tags h0_link h0_key h0_lives h0_open h0_in h0_scores h0_was h0_had 0 n0_objects n0_opened n0_sets b0_hasFamily f0_level f0_in f0_scores) H := hP.sub [0, 1, 2, 3] rfl
      have hD : va_D A (pc_X4_family cs h0 h0_level h0_value h0_tags h0_link h0_key h0_lives h0_open h0_in h0_scores h0_was h0_had 0 n0_objects n0_opened n0_sets b0_hasFamily f0_level f0_in f0_scores) := hD.sub [0, 1, 2, 3] (by decide) rfl
      try dsimp only at hw
      exact (hX32 _ _).mp hw H locs ls hP hD hS (lv_sub hl [] rfl)
    · have hw := hw.2 hc
      exact (hX20 _).mp hw H locs ls hP hD hS (lv_sub hl [] rfl)

theorem in_X4_share_X4 : ∀ w ∈ wsX40, w ∈ wsX4_share := by decide +kernel
theorem fl_X4_share_45 : Cond.fieldLink RX4 45 "JoinBlocksModel" "thrown" "I" ∈ wsX4_share := by decide +kernel
theorem fl_X4_share_59 : Cond.fieldLink RX4 59 "JoinBlocksModel" "sets" "I" ∈ wsX4_share := by decide +kernel
abbrev pc_X4_share (cs : Nat → ClassId) (h0 : Nat) (h0_level : Nat) (h0_value : Nat) (h0_tags : Nat) (h0_link : Nat) (h0_key : Nat) (h0_lives : Nat) (h0_open : Nat) (h0_in : Nat) (h0_scores : Nat) (h0_was : Nat) (h0_had : Nat) (n0_thrown : Int32) (n0_objects : Int32) (n0_opened : Int32) (n0_sets : Int32) (b0_hasFamily : Bool) (f0_in : Nat → Bool) : va_W := [(h0, .inr (4, [.int n0_thrown, .int n0_objects, .ref h0_level, .ref h0_value, .ref h0_tags, .ref h0_link, .ref h0_key, .ref h0_lives, .int n0_opened, .ref h0_open, .int n0_sets, .ref h0_in, .ref h0_scores, .int (b2i b0_hasFamily), .ref h0_was, .ref h0_had])), (h0_in, .inl (cs 1, 1800, .inl (bF f0_in)))]
abbrev rm_X4_share : Room := { frames := 1, cells := 0, slots := 0, locals := 23 }
def call_X4_share (n0_thrown : Int32) (n0_objects : Int32) (n0_sets : Int32) (f0_in : Nat → Bool) (Q : Int64 → Int32 → Prop) : Prop :=
    ((2 ≤ n0_sets → (call_X4_sizeOf (n0_sets - 2) n0_objects f0_in (fun (r24 : Int32) => ((¬ r24 = 0 → (call_X4_sizeOf (n0_sets - 1) n0_objects f0_in (fun (r49 : Int32) => (¬ ((r24).toInt64) = 0 ∧ Q ((1000 * ((r49).toInt64)) / ((r24).toInt64)) 0)))) ∧ (r24 = 0 → Q 0 1))))) ∧ (¬ 2 ≤ n0_sets → Q (-9223372036854775808) 0))
set_option maxHeartbeats 4000000 in
set_option maxRecDepth 100000 in
theorem m_X4_share (l : Launch) (D : va_G) (cs : Nat → ClassId) (h0 : Nat) (h0_level : Nat) (h0_value : Nat) (h0_tags : Nat) (h0_link : Nat) (h0_key : Nat) (h0_lives : Nat) (h0_open : Nat) (h0_in : Nat) (h0_scores : Nat) (h0_was : Nat) (h0_had : Nat)  (n0_thrown : Int32) (n0_objects : Int32) (n0_opened : Int32) (n0_sets : Int32) (b0_hasFamily : Bool) (f0_in : Nat → Bool) (Q : Int64 → Int32 → Prop) (h : call_X4_share n0_thrown n0_objects n0_sets f0_in Q) : CtL l yX4_share wsX4_share rm_X4_share D cs [.ref h0] (pc_X4_share cs h0 h0_level h0_value h0_tags h0_link h0_key h0_lives h0_open h0_in h0_scores h0_was h0_had n0_thrown n0_objects n0_opened n0_sets b0_hasFamily f0_in) (fun u : Int32 => (pc_X4_share cs h0 h0_level h0_value h0_tags h0_link h0_key h0_lives h0_open h0_in h0_scores h0_was h0_had u n0_objects n0_opened n0_sets b0_hasFamily f0_in)) (fun r u => Q r u) := by
  refine xo_L (S := Int32) (cc := cX4_share) (maxL := 2) (own := RX4) (lv0 := [(0, .ref h0)]) (by decide) rfl rfl (Nat.le_of_ble_eq_true rfl) rfl ?_
  intro p e s m args below meth c A Z ls F hK hA hP hD hS hl RET
  have hw := h
  unfold call_X4_share at hw
  generalize ([] : List Loc) = locs at hS ⊢
  obtain ⟨H, hHe⟩ : ∃ H, H = s.heap := ⟨_, rfl⟩
  have hP : va_P D vwCl (pc_X4_share cs h0 h0_level h0_value h0_tags h0_link h0_key h0_lives h0_open h0_in h0_scores h0_was h0_had n0_thrown n0_objects n0_opened n0_sets b0_hasFamily f0_in) H := by rw [hHe]; exact hP
  have hS : va_S A s.heap H locs := by rw [hHe]; exact hS
  suffices W p l e rm_X4_share s m args below meth c H locs 0 0 Z (F0 m 0 ls []) by rw [hHe] at this; exact this
  refine lv_aload_n F.1 F.2.1 dX4_share_0 rfl (lv_at hl 0 rfl) ?_
  refine lv_iconst (v := 0) F.1 F.2.1 dX4_share_1 (by decide) ?_
  refine xi_put (C := RX4) (T := TX4) (N := 16) (v := .int 0) (ty := .int) F in_X4_share_X4 tyX4 tyX4_ok nmX4 hK hP hD hS 0 rfl rfl 0 (by decide) fl_X4_share_45 rfl (tyX4_ok 0 (by decide)) rfl rfl (Nat.le_of_ble_eq_true rfl) dX4_share_2 (fun H locs hP hD hS => ?_)
  have hP : va_P D vwCl (pc_X4_share cs h0 h0_level h0_value h0_tags h0_link h0_key h0_lives h0_open h0_in h0_scores h0_was h0_had 0 n0_objects n0_opened n0_sets b0_hasFamily f0_in) H := hP
  have hD : va_D A (pc_X4_share cs h0 h0_level h0_value h0_tags h0_link h0_key h0_lives h0_open h0_in h0_scores h0_was h0_had 0 n0_objects n0_opened n0_sets b0_hasFamily f0_in) := hD
  refine lv_aload_n F.1 F.2.1 dX4_share_5 rfl (lv_at hl 0 rfl) ?_
  refine xi_get (C := RX4) (T := TX4) (N := 16) (v := .int n0_sets) F in_X4_share_X4 hK hP 0 rfl rfl 10 (by decide) fl_X4_share_59 rfl dX4_share_6 ?_
  refine lv_iconst (v := 2) F.1 F.2.1 dX4_share_9 (by decide) ?_
  refine lv_icmp_ge (tgt := 17) F.1 F.2.1 dX4_share_10 (by decide) (fun hc => ?_) (fun hc => ?_)
  · have hw := hw.1 hc
    refine lv_aload_n F.1 F.2.1 dX4_share_17 rfl (lv_at hl 0 rfl) ?_
    refine lv_aload_n F.1 F.2.1 dX4_share_18 rfl (lv_at hl 0 rfl) ?_
    refine xi_get (C := RX4) (T := TX4) (N := 16) (v := .int n0_sets) F in_X4_share_X4 hK hP 0 rfl rfl 10 (by decide) fl_X4_share_59 rfl dX4_share_19 ?_
    refine lv_iconst (v := 2) F.1 F.2.1 dX4_share_22 (by decide) ?_
    refine lv_isub F.1 F.2.1 dX4_share_23 ?_
    refine xc_Vi (As := [.int (n0_sets - 2)]) (rest := []) (m_X4_sizeOf l D cs h0 h0_level h0_value h0_tags h0_link h0_key h0_lives h0_open h0_in h0_scores h0_was h0_had (n0_sets - 2) 0 n0_objects n0_opened n0_sets b0_hasFamily f0_in _ hw) F (cwV 1 F.2.2.2.2 gX4_share_X4_sizeOf rfl rfl rfl (by decide +kernel) ⟨Nat.le_of_ble_eq_true rfl, Nat.le_of_ble_eq_true rfl⟩) hK hP hD hS hA [0, 1] [] rfl rfl 0 rfl rfl rfl hl.1 rfl (Nat.le_of_ble_eq_true rfl) dX4_share_24 ⟨Nat.zero_le _, Nat.zero_le _⟩ (fun r24 u H locs hw hP hD hS => ?_)
    have hP : va_P D vwCl (pc_X4_share cs h0 h0_level h0_value h0_tags h0_link h0_key h0_lives h0_open h0_in h0_scores h0_was h0_had 0 n0_objects n0_opened n0_sets b0_hasFamily f0_in) H := hP.sub [0, 1] rfl
    have hD : va_D A (pc_X4_share cs h0 h0_level h0_value h0_tags h0_link h0_key h0_lives h0_open h0_in h0_scores h0_was h0_had 0 n0_objects n0_opened n0_sets b0_hasFamily f0_in) := hD.sub [0, 1] (by decide) rfl
    try dsimp only at hw
    refine lv_istore_n (lv' := [(1, .int r24), (0, .ref h0)]) F.1 F.2.1 dX4_share_27 rfl hl (by decide) rfl (fun ls hl => ?_)
    refine lv_iload_n F.1 F.2.1 dX4_share_28 rfl (lv_at hl 0 rfl) ?_
    refine lv_if_ne (tgt := 39) F.1 F.2.1 dX4_share_29 (by decide) (fun hc => ?_) (fun hc => ?_)
    · have hw := hw.1 hc
      refine lv_ldc2 (v := 1000) F.1 F.2.1 F.2.2.2.1 (F.2.2.2.2 (.constantLong RX4 116 (1000)) (by decide +kernel)) dX4_share_39 ?_
      refine lv_aload_n F.1 F.2.1 dX4_share_42 rfl (lv_at hl 1 rfl) ?_
      refine lv_aload_n F.1 F.2.1 dX4_share_43 rfl (lv_at hl 1 rfl) ?_
      refine xi_get (C := RX4) (T := TX4) (N := 16) (v := .int n0_sets) F in_X4_share_X4 hK hP 0 rfl rfl 10 (by decide) fl_X4_share_59 rfl dX4_share_44 ?_
      refine lv_iconst (v := 1) F.1 F.2.1 dX4_share_47 (by decide) ?_
      refine lv_isub F.1 F.2.1 dX4_share_48 ?_
      refine xc_Vi (As := [.int (n0_sets - 1)]) (rest := [.long 1000]) (m_X4_sizeOf l D cs h0 h0_level h0_value h0_tags h0_link h0_key h0_lives h0_open h0_in h0_scores h0_was h0_had (n0_sets - 1) 0 n0_objects n0_opened n0_sets b0_hasFamily f0_in _ hw) F (cwV 1 F.2.2.2.2 gX4_share_X4_sizeOf rfl rfl rfl (by decide +kernel) ⟨Nat.le_of_ble_eq_true rfl, Nat.le_of_ble_eq_true rfl⟩) hK hP hD hS hA [0, 1] [] rfl rfl 0 rfl rfl rfl hl.1 rfl (Nat.le_of_ble_eq_true rfl) dX4_share_49 ⟨Nat.zero_le _, Nat.zero_le _⟩ (fun r49 u H locs hw hP hD hS => ?_)
      have hP : va_P D vwCl (pc_X4_share cs h0 h0_level h0_value h0_tags h0_link h0_key h0_lives h0_open h0_in h0_scores h0_was h0_had 0 n0_objects n0_opened n0_sets b0_hasFamily f0_in) H := hP.sub [0, 1] rfl
      have hD : va_D A (pc_X4_share cs h0 h0_level h0_value h0_tags h0_link h0_key h0_lives h0_open h0_in h0_scores h0_was h0_had 0 n0_objects n0_opened n0_sets b0_hasFamily f0_in) := hD.sub [0, 1] (by decide) rfl
      try dsimp only at hw
      refine lv_i2l (v := (r49).toInt64) F.1 F.2.1 dX4_share_52 rfl ?_
      refine lv_lmul F.1 F.2.1 dX4_share_53 ?_
      refine lv_iload_n F.1 F.2.1 dX4_share_54 rfl (lv_at hl 0 rfl) ?_
      refine lv_i2l (v := (r24).toInt64) F.1 F.2.1 dX4_share_55 rfl ?_
      obtain ⟨hne, hw⟩ := hw
      refine lv_ldiv F.1 F.2.1 dX4_share_56 hne ?_
      exact RET ((1000 * ((r49).toInt64)) / ((r24).toInt64)) (0) H locs 57 ls hw hP hD hS dX4_share_57
    · have hw := hw.2 hc
      refine lv_aload_n F.1 F.2.1 dX4_share_32 rfl (lv_at hl 1 rfl) ?_
      refine lv_iconst (v := 1) F.1 F.2.1 dX4_share_33 (by decide) ?_
      refine xi_put (C := RX4) (T := TX4) (N := 16) (v := .int 1) (ty := .int) F in_X4_share_X4 tyX4 tyX4_ok nmX4 hK hP hD hS 0 rfl rfl 0 (by decide) fl_X4_share_45 rfl (tyX4_ok 0 (by decide)) rfl rfl (Nat.le_of_ble_eq_true rfl) dX4_share_34 (fun H locs hP hD hS => ?_)
      have hP : va_P D vwCl (pc_X4_share cs h0 h0_level h0_value h0_tags h0_link h0_key h0_lives h0_open h0_in h0_scores h0_was h0_had 1 n0_objects n0_opened n0_sets b0_hasFamily f0_in) H := hP
      have hD : va_D A (pc_X4_share cs h0 h0_level h0_value h0_tags h0_link h0_key h0_lives h0_open h0_in h0_scores h0_was h0_had 1 n0_objects n0_opened n0_sets b0_hasFamily f0_in) := hD
      refine lv_lconst (v := 0) F.1 F.2.1 dX4_share_37 (by decide) ?_
      exact RET 0 (1) H locs 38 ls hw hP hD hS dX4_share_38
  · have hw := hw.2 hc
    refine lv_ldc2 (v := (-9223372036854775808)) F.1 F.2.1 F.2.2.2.1 (F.2.2.2.2 (.constantLong RX4 114 (-9223372036854775808)) (by decide +kernel)) dX4_share_13 ?_
    exact RET (-9223372036854775808) (0) H locs 16 ls hw hP hD hS dX4_share_16
