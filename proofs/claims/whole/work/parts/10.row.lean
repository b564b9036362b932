theorem in_X1_holds_X1 : ∀ w ∈ wsX10, w ∈ wsX1_holds := by decide +kernel
theorem fl_X1_holds_31 : Cond.fieldLink RX1 31 "JoinBlocks$Row" "size" "I" ∈ wsX1_holds := by decide +kernel
abbrev pc_X1_holds (cs : Nat → ClassId) (h0 : Nat) (h0_levels : Nat) (h0_values : Nat) (h0_tags : Nat) (h0_links : Nat) (h0_keys : Nat) (h0_living : Nat) (n0_size : Int32) : va_W := [(h0, .inr (1, [.ref h0_levels, .ref h0_values, .ref h0_tags, .ref h0_links, .ref h0_keys, .ref h0_living, .int n0_size]))]
abbrev rm_X1_holds : Room := { frames := 0, cells := 0, slots := 0, locals := 0 }
def call_X1_holds (p1 : Int32) (n0_size : Int32) (Q : Bool → Prop) : Prop := ∀ (X16 : Prop) (X17 : Bool → Prop),
    (X17 false → X16) →
    (∀ (s0 : Bool),
      Q s0 → X17 s0) →
    ((p1 < 0 → X16) ∧ (¬ p1 < 0 → ((n0_size ≤ p1 → X16) ∧ (¬ n0_size ≤ p1 → X17 true))))
set_option maxHeartbeats 4000000 in
set_option maxRecDepth 100000 in
theorem m_X1_holds (l : Launch) (D : va_G) (cs : Nat → ClassId) (h0 : Nat) (h0_levels : Nat) (h0_values : Nat) (h0_tags : Nat) (h0_links : Nat) (h0_keys : Nat) (h0_living : Nat)  (p1 : Int32) (n0_size : Int32) (Q : Bool → Prop) (h : call_X1_holds p1 n0_size Q) : CtZ l yX1_holds wsX1_holds rm_X1_holds D cs [.ref h0, .int p1] (pc_X1_holds cs h0 h0_levels h0_values h0_tags h0_links h0_keys h0_living n0_size) (fun u : Unit => (pc_X1_holds cs h0 h0_levels h0_values h0_tags h0_links h0_keys h0_living n0_size)) (fun r u => Q r ) := by
  refine xo_Z (S := Unit) (cc := cX1_holds) (maxL := 2) (own := RX1) (lv0 := [(0, .ref h0), (1, .int p1)]) (by decide) rfl rfl (Nat.le_of_ble_eq_true rfl) rfl ?_
  intro p e s m args below meth c A Z ls F hK hA hP hD hS hl RET
  unfold call_X1_holds at h
  obtain ⟨X16, hX16⟩ : ∃ X : Prop, (X  ↔ ∀ (H : Heap) (locs : List Loc) (ls : Array Slot), va_P D vwCl (pc_X1_holds cs h0 h0_levels h0_values h0_tags h0_links h0_keys h0_living n0_size) H → va_D A (pc_X1_holds cs h0 h0_levels h0_values h0_tags h0_links h0_keys h0_living n0_size) → va_S A s.heap H locs → lv_has ls 2 [] → W p l e rm_X1_holds s m args below meth c H locs 0 0 Z (F0 m 16 ls [])) := ⟨_, Iff.rfl⟩
  obtain ⟨X17, hX17⟩ : ∃ X : Bool → Prop, ∀ (s0 : Bool), (X s0 ↔ ∀ (H : Heap) (locs : List Loc) (ls : Array Slot), va_P D vwCl (pc_X1_holds cs h0 h0_levels h0_values h0_tags h0_links h0_keys h0_living n0_size) H → va_D A (pc_X1_holds cs h0 h0_levels h0_values h0_tags h0_links h0_keys h0_living n0_size) → va_S A s.heap H locs → lv_has ls 2 [] → W p l e rm_X1_holds s m args below meth c H locs 0 0 Z (F0 m 17 ls [.int (b2i s0)])) := ⟨_, fun _ => Iff.rfl⟩
  refine xt_cut (h X16 X17 ?_ ?_) (fun hw => ?_)
  · intro  hw
    refine (hX16).mpr ?_
    intro H locs ls hP hD hS hl
    refine lv_iconst (v := 0) F.1 F.2.1 dX1_holds_16 (by decide) ?_
    exact (hX17 _).mp hw H locs ls hP hD hS (lv_sub hl [] rfl)
  · intro s0 hw
    refine (hX17 _).mpr ?_
    intro H locs ls hP hD hS hl
    exact RET s0 () H locs 17 ls _ rfl hw hP hD hS dX1_holds_17
  generalize ([] : List Loc) = locs at hS ⊢
  obtain ⟨H, hHe⟩ : ∃ H, H = s.heap := ⟨_, rfl⟩
  have hP : va_P D vwCl (pc_X1_holds cs h0 h0_levels h0_values h0_tags h0_links h0_keys h0_living n0_size) H := by rw [hHe]; exact hP
  have hS : va_S A s.heap H locs := by rw [hHe]; exact hS
  suffices W p l e rm_X1_holds s m args below meth c H locs 0 0 Z (F0 m 0 ls []) by rw [hHe] at this; exact this
  refine lv_iload_n F.1 F.2.1 dX1_holds_0 rfl (lv_at hl 1 rfl) ?_
  refine lv_if_lt (tgt := 16) F.1 F.2.1 dX1_holds_1 (by decide) (fun hc => ?_) (fun hc => ?_)
  · have hw := hw.1 hc
    exact (hX16).mp hw H locs ls hP hD hS (lv_sub hl [] rfl)
  · have hw := hw.2 hc
    refine lv_iload_n F.1 F.2.1 dX1_holds_4 rfl (lv_at hl 1 rfl) ?_
    refine lv_aload_n F.1 F.2.1 dX1_holds_5 rfl (lv_at hl 0 rfl) ?_
    refine xi_get (C := RX1) (T := TX1) (N := 7) (v := .int n0_size) F in_X1_holds_X1 hK hP 0 rfl rfl 6 (by decide) fl_X1_holds_31 rfl dX1_holds_6 ?_
    refine lv_icmp_ge (tgt := 16) F.1 F.2.1 dX1_holds_9 (by decide) (fun hc => ?_) (fun hc => ?_)
    · have hw := hw.1 hc
      exact (hX16).mp hw H locs ls hP hD hS (lv_sub hl [] rfl)
    · have hw := hw.2 hc
      refine lv_iconst (v := 1) F.1 F.2.1 dX1_holds_12 (by decide) ?_
      refine lv_goto (tgt := 17) F.1 F.2.1 dX1_holds_13 (by decide) ?_
      exact (hX17 _).mp hw H locs ls hP hD hS (lv_sub hl [] rfl)

theorem in_X1_isRoot_X1 : ∀ w ∈ wsX10, w ∈ wsX1_isRoot := by decide +kernel
theorem fl_X1_isRoot_9 : Cond.fieldLink RX1 9 "JoinBlocks$Row" "levels" "[I" ∈ wsX1_isRoot := by decide +kernel
abbrev pc_X1_isRoot (cs : Nat → ClassId) (h0 : Nat) (h0_levels : Nat) (h0_values : Nat) (h0_tags : Nat) (h0_links : Nat) (h0_keys : Nat) (h0_living : Nat) (k0 : Nat) (n0_size : Int32) (f0_levels : Nat → Int32) : va_W := [(h0, .inr (1, [.ref h0_levels, .ref h0_values, .ref h0_tags, .ref h0_links, .ref h0_keys, .ref h0_living, .int n0_size])), (h0_levels, .inl (cs 0, k0, .inl f0_levels))]
abbrev rm_X1_isRoot : Room := { frames := 0, cells := 0, slots := 0, locals := 0 }
def call_X1_isRoot (k0 : Nat) (p1 : Int32) (f0_levels : Nat → Int32) (Q : Bool → Prop) : Prop := ∀ (X15 : Bool → Prop),
    (∀ (s0 : Bool),
      Q s0 → X15 s0) →
    (∃ j5 : Nat, j5 < k0 ∧ p1 = nI j5 ∧ ((¬ (f0_levels j5) = 2 → X15 false) ∧ ((f0_levels j5) = 2 → X15 true)))
set_option maxHeartbeats 4000000 in
set_option maxRecDepth 100000 in
theorem m_X1_isRoot (l : Launch) (D : va_G) (cs : Nat → ClassId) (h0 : Nat) (h0_levels : Nat) (h0_values : Nat) (h0_tags : Nat) (h0_links : Nat) (h0_keys : Nat) (h0_living : Nat) (k0 : Nat) (hk0 : k0 < 2 ^ 31) (p1 : Int32) (n0_size : Int32) (f0_levels : Nat → Int32) (Q : Bool → Prop) (h : call_X1_isRoot k0 p1 f0_levels Q) : CtZ l yX1_isRoot wsX1_isRoot rm_X1_isRoot D cs [.ref h0, .int p1] (pc_X1_isRoot cs h0 h0_levels h0_values h0_tags h0_links h0_keys h0_living k0 n0_size f0_levels) (fun u : Unit => (pc_X1_isRoot cs h0 h0_levels h0_values h0_tags h0_links h0_keys h0_living k0 n0_size f0_levels)) (fun r u => Q r ) := by
  refine xo_Z (S := Unit) (cc := cX1_isRoot) (maxL := 2) (own := RX1) (lv0 := [(0, .ref h0), (1, .int p1)]) (by decide) rfl rfl (Nat.le_of_ble_eq_true rfl) rfl ?_
  intro p e s m args below meth c A Z ls F hK hA hP hD hS hl RET
  unfold call_X1_isRoot at h
  obtain ⟨X15, hX15⟩ : ∃ X : Bool → Prop, ∀ (s0 : Bool), (X s0 ↔ ∀ (H : Heap) (locs : List Loc) (ls : Array Slot), va_P D vwCl (pc_X1_isRoot cs h0 h0_levels h0_values h0_tags h0_links h0_keys h0_living k0 n0_size f0_levels) H → va_D A (pc_X1_isRoot cs h0 h0_levels h0_values h0_tags h0_links h0_keys h0_living k0 n0_size f0_levels) → va_S A s.heap H locs → lv_has ls 2 [] → W p l e rm_X1_isRoot s m args below meth c H locs 0 0 Z (F0 m 15 ls [.int (b2i s0)])) := ⟨_, fun _ => Iff.rfl⟩
  refine xt_cut (h X15 ?_) (fun hw => ?_)
  · intro s0 hw
    refine (hX15 _).mpr ?_
    intro H locs ls hP hD hS hl
    exact RET s0 () H locs 15 ls _ rfl hw hP hD hS dX1_isRoot_15
  generalize ([] : List Loc) = locs at hS ⊢
  obtain ⟨H, hHe⟩ : ∃ H, H = s.heap := ⟨_, rfl⟩
  have hP : va_P D vwCl (pc_X1_isRoot cs h0 h0_levels h0_values h0_tags h0_links h0_keys h0_living k0 n0_size f0_levels) H := by rw [hHe]; exact hP
  have hS : va_S A s.heap H locs := by rw [hHe]; exact hS
  suffices W p l e rm_X1_isRoot s m args below meth c H locs 0 0 Z (F0 m 0 ls []) by rw [hHe] at this; exact this
  refine lv_aload_n F.1 F.2.1 dX1_isRoot_0 rfl (lv_at hl 0 rfl) ?_
  refine xi_get (C := RX1) (T := TX1) (N := 7) (v := .ref h0_levels) F in_X1_isRoot_X1 hK hP 0 rfl rfl 0 (by decide) fl_X1_isRoot_9 rfl dX1_isRoot_1 ?_
  refine lv_iload_n F.1 F.2.1 dX1_isRoot_4 rfl (lv_at hl 1 rfl) ?_
  obtain ⟨j5, hj, he, hw⟩ := hw
  refine xi_iald (j := j5) F hK hP 1 rfl hk0 hj he dX1_isRoot_5 ?_
  refine lv_iconst (v := 2) F.1 F.2.1 dX1_isRoot_6 (by decide) ?_
  refine lv_icmp_ne (tgt := 14) F.1 F.2.1 dX1_isRoot_7 (by decide) (fun hc => ?_) (fun hc => ?_)
  · have hw := hw.1 hc
    refine lv_iconst (v := 0) F.1 F.2.1 dX1_isRoot_14 (by decide) ?_
    exact (hX15 _).mp hw H locs ls hP hD hS (lv_sub hl [] rfl)
  · have hw := hw.2 hc
    refine lv_iconst (v := 1) F.1 F.2.1 dX1_isRoot_10 (by decide) ?_
    refine lv_goto (tgt := 15) F.1 F.2.1 dX1_isRoot_11 (by decide) ?_
    exact (hX15 _).mp hw H locs ls hP hD hS (lv_sub hl [] rfl)

theorem in_X1_append_X1 : ∀ w ∈ wsX10, w ∈ wsX1_append := by decide +kernel
theorem fl_X1_append_9 : Cond.fieldLink RX1 9 "JoinBlocks$Row" "levels" "[I" ∈ wsX1_append := by decide +kernel
theorem fl_X1_append_31 : Cond.fieldLink RX1 31 "JoinBlocks$Row" "size" "I" ∈ wsX1_append := by decide +kernel
theorem fl_X1_append_15 : Cond.fieldLink RX1 15 "JoinBlocks$Row" "values" "[I" ∈ wsX1_append := by decide +kernel
theorem fl_X1_append_18 : Cond.fieldLink RX1 18 "JoinBlocks$Row" "tags" "[I" ∈ wsX1_append := by decide +kernel
theorem fl_X1_append_21 : Cond.fieldLink RX1 21 "JoinBlocks$Row" "links" "[I" ∈ wsX1_append := by decide +kernel
theorem fl_X1_append_24 : Cond.fieldLink RX1 24 "JoinBlocks$Row" "keys" "[I" ∈ wsX1_append := by decide +kernel
theorem fl_X1_append_27 : Cond.fieldLink RX1 27 "JoinBlocks$Row" "living" "[Z" ∈ wsX1_append := by decide +kernel
abbrev pc_X1_append (cs : Nat → ClassId) (h0 : Nat) (h0_levels : Nat) (h0_values : Nat) (h0_tags : Nat) (h0_links : Nat) (h0_keys : Nat) (h0_living : Nat) (k0 : Nat) (n0_size : Int32) (f0_levels : Nat → Int32) (f0_values : Nat → Int32) (f0_tags : Nat → Int32) (f0_links : Nat → Int32) (f0_keys : Nat → Int32) (f0_living : Nat → Bool) : va_W := [(h0, .inr (1, [.ref h0_levels, .ref h0_values, .ref h0_tags, .ref h0_links, .ref h0_keys, .ref h0_living, .int n0_size])), (h0_levels, .inl (cs 0, k0, .inl f0_levels)), (h0_values, .inl (cs 0, k0, .inl f0_values)), (h0_tags, .inl (cs 0, k0, .inl f0_tags)), (h0_links, .inl (cs 0, k0, .inl f0_links)), (h0_keys, .inl (cs 0, k0, .inl f0_keys)), (h0_living, .inl (cs 1, k0, .inl (bF f0_living)))]
abbrev rm_X1_append : Room := { frames := 0, cells := 0, slots := 0, locals := 0 }
def call_X1_append (k0 : Nat) (p1 : Int32) (p2 : Int32) (p3 : Int32) (p4 : Int32) (p5 : Int32) (n0_size : Int32) (f0_levels : Nat → Int32) (f0_values : Nat → Int32) (f0_tags : Nat → Int32) (f0_links : Nat → Int32) (f0_keys : Nat → Int32) (f0_living : Nat → Bool) (Q : Int32 → (Nat → Int32) → (Nat → Int32) → (Nat → Int32) → (Nat → Int32) → (Nat → Int32) → (Nat → Bool) → Prop) : Prop :=
    (∃ j9 : Nat, j9 < k0 ∧ n0_size = nI j9 ∧ (∃ j19 : Nat, j19 < k0 ∧ n0_size = nI j19 ∧ (∃ j29 : Nat, j29 < k0 ∧ n0_size = nI j29 ∧ (∃ j40 : Nat, j40 < k0 ∧ n0_size = nI j40 ∧ (∃ j51 : Nat, j51 < k0 ∧ n0_size = nI j51 ∧ (∃ j61 : Nat, j61 < k0 ∧ n0_size = nI j61 ∧ Q (n0_size + 1) (va_up f0_levels j9 p1) (va_up f0_values j19 p2) (va_up f0_tags j29 p3) (va_up f0_links j40 p4) (va_up f0_keys j51 p5) (va_up f0_living j61 true)))))))
set_option maxHeartbeats 4000000 in
set_option maxRecDepth 100000 in
theorem m_X1_append (l : Launch) (D : va_G) (cs : Nat → ClassId) (h0 : Nat) (h0_levels : Nat) (h0_values : Nat) (h0_tags : Nat) (h0_links : Nat) (h0_keys : Nat) (h0_living : Nat) (k0 : Nat) (hk0 : k0 < 2 ^ 31) (p1 : Int32) (p2 : Int32) (p3 : Int32) (p4 : Int32) (p5 : Int32) (n0_size : Int32) (f0_levels : Nat → Int32) (f0_values : Nat → Int32) (f0_tags : Nat → Int32) (f0_links : Nat → Int32) (f0_keys : Nat → Int32) (f0_living : Nat → Bool) (Q : Int32 → (Nat → Int32) → (Nat → Int32) → (Nat → Int32) → (Nat → Int32) → (Nat → Int32) → (Nat → Bool) → Prop) (h : call_X1_append k0 p1 p2 p3 p4 p5 n0_size f0_levels f0_values f0_tags f0_links f0_keys f0_living Q) : CtV l yX1_append wsX1_append rm_X1_append D cs [.ref h0, .int p1, .int p2, .int p3, .int p4, .int p5] (pc_X1_append cs h0 h0_levels h0_values h0_tags h0_links h0_keys h0_living k0 n0_size f0_levels f0_values f0_tags f0_links f0_keys f0_living) (fun u : Int32 × (Nat → Int32) × (Nat → Int32) × (Nat → Int32) × (Nat → Int32) × (Nat → Int32) × (Nat → Bool) => (pc_X1_append cs h0 h0_levels h0_values h0_tags h0_links h0_keys h0_living k0 u.1 u.2.1 u.2.2.1 u.2.2.2.1 u.2.2.2.2.1 u.2.2.2.2.2.1 u.2.2.2.2.2.2)) 0 0 (fun u => Q u.1 u.2.1 u.2.2.1 u.2.2.2.1 u.2.2.2.2.1 u.2.2.2.2.2.1 u.2.2.2.2.2.2) := by
  refine xo_V (S := Int32 × (Nat → Int32) × (Nat → Int32) × (Nat → Int32) × (Nat → Int32) × (Nat → Int32) × (Nat → Bool)) (cc := cX1_append) (maxL := 6) (own := RX1) (lv0 := [(0, .ref h0), (1, .int p1), (2, .int p2), (3, .int p3), (4, .int p4), (5, .int p5)]) (by decide) rfl rfl (Nat.le_of_ble_eq_true rfl) rfl ?_
  intro p e s m args below meth c A Z ls hnm F hK hA hP hD hS hl RET
  have hw := h
  unfold call_X1_append at hw
  generalize ([] : List Loc) = locs at hS ⊢
  obtain ⟨H, hHe⟩ : ∃ H, H = s.heap := ⟨_, rfl⟩
  have hP : va_P D vwCl (pc_X1_append cs h0 h0_levels h0_values h0_tags h0_links h0_keys h0_living k0 n0_size f0_levels f0_values f0_tags f0_links f0_keys f0_living) H := by rw [hHe]; exact hP
  have hS : va_S A s.heap H locs := by rw [hHe]; exact hS
  suffices W p l e rm_X1_append s m args below meth c H locs 0 0 Z (F0 m 0 ls []) by rw [hHe] at this; exact this
  refine lv_aload_n F.1 F.2.1 dX1_append_0 rfl (lv_at hl 0 rfl) ?_
  refine xi_get (C := RX1) (T := TX1) (N := 7) (v := .ref h0_levels) F in_X1_append_X1 hK hP 0 rfl rfl 0 (by decide) fl_X1_append_9 rfl dX1_append_1 ?_
  refine lv_aload_n F.1 F.2.1 dX1_append_4 rfl (lv_at hl 0 rfl) ?_
  refine xi_get (C := RX1) (T := TX1) (N := 7) (v := .int n0_size) F in_X1_append_X1 hK hP 0 rfl rfl 6 (by decide) fl_X1_append_31 rfl dX1_append_5 ?_
  refine lv_iload_n F.1 F.2.1 dX1_append_8 rfl (lv_at hl 1 rfl) ?_
  obtain ⟨j9, hj, he, hw⟩ := hw
  refine xi_iast (j := j9) F hK hP hD hS 1 rfl hk0 hj he dX1_append_9 (fun H locs hP hD hS => ?_)
  have hP : va_P D vwCl (pc_X1_append cs h0 h0_levels h0_values h0_tags h0_links h0_keys h0_living k0 n0_size (va_up f0_levels j9 p1) f0_values f0_tags f0_links f0_keys f0_living) H := hP
  have hD : va_D A (pc_X1_append cs h0 h0_levels h0_values h0_tags h0_links h0_keys h0_living k0 n0_size (va_up f0_levels j9 p1) f0_values f0_tags f0_links f0_keys f0_living) := hD
  refine lv_aload_n F.1 F.2.1 dX1_append_10 rfl (lv_at hl 0 rfl) ?_
  refine xi_get (C := RX1) (T := TX1) (N := 7) (v := .ref h0_values) F in_X1_append_X1 hK hP 0 rfl rfl 1 (by decide) fl_X1_append_15 rfl dX1_append_11 ?_
  refine lv_aload_n F.1 F.2.1 dX1_append_14 rfl (lv_at hl 0 rfl) ?_
  refine xi_get (C := RX1) (T := TX1) (N := 7) (v := .int n0_size) F in_X1_append_X1 hK hP 0 rfl rfl 6 (by decide) fl_X1_append_31 rfl dX1_append_15 ?_
  refine lv_iload_n F.1 F.2.1 dX1_append_18 rfl (lv_at hl 2 rfl) ?_
  obtain ⟨j19, hj, he, hw⟩ := hw
  refine xi_iast (j := j19) F hK hP hD hS 2 rfl hk0 hj he dX1_append_19 (fun H locs hP hD hS => ?_)
  have hP : va_P D vwCl (pc_X1_append cs h0 h0_levels h0_values h0_tags h0_links h0_keys h0_living k0 n0_size (va_up f0_levels j9 p1) (va_up f0_values j19 p2) f0_tags f0_links f0_keys f0_living) H := hP
  have hD : va_D A (pc_X1_append cs h0 h0_levels h0_values h0_tags h0_links h0_keys h0_living k0 n0_size (va_up f0_levels j9 p1) (va_up f0_values j19 p2) f0_tags f0_links f0_keys f0_living) := hD
  refine lv_aload_n F.1 F.2.1 dX1_append_20 rfl (lv_at hl 0 rfl) ?_
  refine xi_get (C := RX1) (T := TX1) (N := 7) (v := .ref h0_tags) F in_X1_append_X1 hK hP 0 rfl rfl 2 (by decide) fl_X1_append_18 rfl dX1_append_21 ?_
  refine lv_aload_n F.1 F.2.1 dX1_append_24 rfl (lv_at hl 0 rfl) ?_
  refine xi_get (C := RX1) (T := TX1) (N := 7) (v := .int n0_size) F in_X1_append_X1 hK hP 0 rfl rfl 6 (by decide) fl_X1_append_31 rfl dX1_append_25 ?_
  refine lv_iload_n F.1 F.2.1 dX1_append_28 rfl (lv_at hl 3 rfl) ?_
  obtain ⟨j29, hj, he, hw⟩ := hw
  refine xi_iast (j := j29) F hK hP hD hS 3 rfl hk0 hj he dX1_append_29 (fun H locs hP hD hS => ?_)
  have hP : va_P D vwCl (pc_X1_append cs h0 h0_levels h0_values h0_tags h0_links h0_keys h0_living k0 n0_size (va_up f0_levels j9 p1) (va_up f0_values j19 p2) (va_up f0_tags j29 p3) f0_links f0_keys f0_living) H := hP
  have hD : va_D A (pc_X1_append cs h0 h0_levels h0_values h0_tags h0_links h0_keys h0_living k0 n0_size (va_up f0_levels j9 p1) (va_up f0_values j19 p2) (va_up f0_tags j29 p3) f0_links f0_keys f0_living) := hD
  refine lv_aload_n F.1 F.2.1 dX1_append_30 rfl (lv_at hl 0 rfl) ?_
  refine xi_get (C := RX1) (T := TX1) (N := 7) (v := .ref h0_links) F in_X1_append_X1 hK hP 0 rfl rfl 3 (by decide) fl_X1_append_21 rfl dX1_append_31 ?_
  refine lv_aload_n F.1 F.2.1 dX1_append_34 rfl (lv_at hl 0 rfl) ?_
  refine xi_get (C := RX1) (T := TX1) (N := 7) (v := .int n0_size) F in_X1_append_X1 hK hP 0 rfl rfl 6 (by decide) fl_X1_append_31 rfl dX1_append_35 ?_
  refine lv_iload F.1 F.2.1 dX1_append_38 (lv_at hl 4 rfl) ?_
  obtain ⟨j40, hj, he, hw⟩ := hw
  refine xi_iast (j := j40) F hK hP hD hS 4 rfl hk0 hj he dX1_append_40 (fun H locs hP hD hS => ?_)
  have hP : va_P D vwCl (pc_X1_append cs h0 h0_levels h0_values h0_tags h0_links h0_keys h0_living k0 n0_size (va_up f0_levels j9 p1) (va_up f0_values j19 p2) (va_up f0_tags j29 p3) (va_up f0_links j40 p4) f0_keys f0_living) H := hP
  have hD : va_D A (pc_X1_append cs h0 h0_levels h0_values h0_tags h0_links h0_keys h0_living k0 n0_size (va_up f0_levels j9 p1) (va_up f0_values j19 p2) (va_up f0_tags j29 p3) (va_up f0_links j40 p4) f0_keys f0_living) := hD
  refine lv_aload_n F.1 F.2.1 dX1_append_41 rfl (lv_at hl 0 rfl) ?_
  refine xi_get (C := RX1) (T := TX1) (N := 7) (v := .ref h0_keys) F in_X1_append_X1 hK hP 0 rfl rfl 4 (by decide) fl_X1_append_24 rfl dX1_append_42 ?_
  refine lv_aload_n F.1 F.2.1 dX1_append_45 rfl (lv_at hl 0 rfl) ?_
  refine xi_get (C := RX1) (T := TX1) (N := 7) (v := .int n0_size) F in_X1_append_X1 hK hP 0 rfl rfl 6 (by decide) fl_X1_append_31 rfl dX1_append_46 ?_
  refine lv_iload F.1 F.2.1 dX1_append_49 (lv_at hl 5 rfl) ?_
  obtain ⟨j51, hj, he, hw⟩ := hw
  refine xi_iast (j := j51) F hK hP hD hS 5 rfl hk0 hj he dX1_append_51 (fun H locs hP hD hS => ?_)
  have hP : va_P D vwCl (pc_X1_append cs h0 h0_levels h0_values h0_tags h0_links h0_keys h0_living k0 n0_size (va_up f0_levels j9 p1) (va_up f0_values j19 p2) (va_up f0_tags j29 p3) (va_up f0_links j40 p4) (va_up f0_keys j51 p5) f0_living) H := hP
  have hD : va_D A (pc_X1_append cs h0 h0_levels h0_values h0_tags h0_links h0_keys h0_living k0 n0_size (va_up f0_levels j9 p1) (va_up f0_values j19 p2) (va_up f0_tags j29 p3) (va_up f0_links j40 p4) (va_up f0_keys j51 p5) f0_living) := hD
  refine lv_aload_n F.1 F.2.1 dX1_append_52 rfl (lv_at hl 0 rfl) ?_
  refine xi_get (C := RX1) (T := TX1) (N := 7) (v := .ref h0_living) F in_X1_append_X1 hK hP 0 rfl rfl 5 (by decide) fl_X1_append_27 rfl dX1_append_53 ?_
  refine lv_aload_n F.1 F.2.1 dX1_append_56 rfl (lv_at hl 0 rfl) ?_
  refine xi_get (C := RX1) (T := TX1) (N := 7) (v := .int n0_size) F in_X1_append_X1 hK hP 0 rfl rfl 6 (by decide) fl_X1_append_31 rfl dX1_append_57 ?_
  refine lv_iconst (v := 1) F.1 F.2.1 dX1_append_60 (by decide) ?_
  obtain ⟨j61, hj, he, hw⟩ := hw
  refine xi_zast (v := true) (j := j61) F hK hP hD hS 6 rfl hk0 hj he rfl dX1_append_61 (fun H locs hP hD hS => ?_)
  have hP : va_P D vwCl (pc_X1_append cs h0 h0_levels h0_values h0_tags h0_links h0_keys h0_living k0 n0_size (va_up f0_levels j9 p1) (va_up f0_values j19 p2) (va_up f0_tags j29 p3) (va_up f0_links j40 p4) (va_up f0_keys j51 p5) (va_up f0_living j61 true)) H := hP
  have hD : va_D A (pc_X1_append cs h0 h0_levels h0_values h0_tags h0_links h0_keys h0_living k0 n0_size (va_up f0_levels j9 p1) (va_up f0_values j19 p2) (va_up f0_tags j29 p3) (va_up f0_links j40 p4) (va_up f0_keys j51 p5) (va_up f0_living j61 true)) := hD
  refine lv_aload_n F.1 F.2.1 dX1_append_62 rfl (lv_at hl 0 rfl) ?_
  refine lv_dup F.1 F.2.1 dX1_append_63 rfl ?_
  refine xi_get (C := RX1) (T := TX1) (N := 7) (v := .int n0_size) F in_X1_append_X1 hK hP 0 rfl rfl 6 (by decide) fl_X1_append_31 rfl dX1_append_64 ?_
  refine lv_iconst (v := 1) F.1 F.2.1 dX1_append_67 (by decide) ?_
  refine lv_iadd F.1 F.2.1 dX1_append_68 ?_
  refine xi_put (C := RX1) (T := TX1) (N := 7) (v := .int (n0_size + 1)) (ty := .int) F in_X1_append_X1 tyX1 tyX1_ok nmX1 hK hP hD hS 0 rfl rfl 6 (by decide) fl_X1_append_31 rfl (tyX1_ok 6 (by decide)) rfl rfl (Nat.le_of_ble_eq_true rfl) dX1_append_69 (fun H locs hP hD hS => ?_)
  have hP : va_P D vwCl (pc_X1_append cs h0 h0_levels h0_values h0_tags h0_links h0_keys h0_living k0 (n0_size + 1) (va_up f0_levels j9 p1) (va_up f0_values j19 p2) (va_up f0_tags j29 p3) (va_up f0_links j40 p4) (va_up f0_keys j51 p5) (va_up f0_living j61 true)) H := hP
  have hD : va_D A (pc_X1_append cs h0 h0_levels h0_values h0_tags h0_links h0_keys h0_living k0 (n0_size + 1) (va_up f0_levels j9 p1) (va_up f0_values j19 p2) (va_up f0_tags j29 p3) (va_up f0_links j40 p4) (va_up f0_keys j51 p5) (va_up f0_living j61 true)) := hD
  exact RET ((n0_size + 1), (va_up f0_levels j9 p1), (va_up f0_values j19 p2), (va_up f0_tags j29 p3), (va_up f0_links j40 p4), (va_up f0_keys j51 p5), (va_up f0_living j61 true)) H locs 72 ls hw hP hD hS dX1_append_72

theorem in_X1_appendFrom_X1 : ∀ w ∈ wsX10, w ∈ wsX1_appendFrom := by decide +kernel
theorem fl_X1_appendFrom_9 : Cond.fieldLink RX1 9 "JoinBlocks$Row" "levels" "[I" ∈ wsX1_appendFrom := by decide +kernel
theorem fl_X1_appendFrom_15 : Cond.fieldLink RX1 15 "JoinBlocks$Row" "values" "[I" ∈ wsX1_appendFrom := by decide +kernel
theorem fl_X1_appendFrom_18 : Cond.fieldLink RX1 18 "JoinBlocks$Row" "tags" "[I" ∈ wsX1_appendFrom := by decide +kernel
theorem fl_X1_appendFrom_21 : Cond.fieldLink RX1 21 "JoinBlocks$Row" "links" "[I" ∈ wsX1_appendFrom := by decide +kernel
theorem fl_X1_appendFrom_24 : Cond.fieldLink RX1 24 "JoinBlocks$Row" "keys" "[I" ∈ wsX1_appendFrom := by decide +kernel
abbrev pc_X1_appendFrom (cs : Nat → ClassId) (h0 : Nat) (h0_levels : Nat) (h0_values : Nat) (h0_tags : Nat) (h0_links : Nat) (h0_keys : Nat) (h0_living : Nat) (h1 : Nat) (h1_levels : Nat) (h1_values : Nat) (h1_tags : Nat) (h1_links : Nat) (h1_keys : Nat) (h1_living : Nat) (k0 : Nat) (k1 : Nat) (n0_size : Int32) (f0_levels : Nat → Int32) (f0_values : Nat → Int32) (f0_tags : Nat → Int32) (f0_links : Nat → Int32) (f0_keys : Nat → Int32) (f0_living : Nat → Bool) (n1_size : Int32) (f1_levels : Nat → Int32) (f1_values : Nat → Int32) (f1_tags : Nat → Int32) (f1_links : Nat → Int32) (f1_keys : Nat → Int32) : va_W := [(h0, .inr (1, [.ref h0_levels, .ref h0_values, .ref h0_tags, .ref h0_links, .ref h0_keys, .ref h0_living, .int n0_size])), (h0_levels, .inl (cs 0, k0, .inl f0_levels)), (h0_values, .inl (cs 0, k0, .inl f0_values)), (h0_tags, .inl (cs 0, k0, .inl f0_tags)), (h0_links, .inl (cs 0, k0, .inl f0_links)), (h0_keys, .inl (cs 0, k0, .inl f0_keys)), (h0_living, .inl (cs 1, k0, .inl (bF f0_living))), (h1, .inr (1, [.ref h1_levels, .ref h1_values, .ref h1_tags, .ref h1_links, .ref h1_keys, .ref h1_living, .int n1_size])), (h1_levels, .inl (cs 0, k1, .inl f1_levels)), (h1_values, .inl (cs 0, k1, .inl f1_values)), (h1_tags, .inl (cs 0, k1, .inl f1_tags)), (h1_links, .inl (cs 0, k1, .inl f1_links)), (h1_keys, .inl (cs 0, k1, .inl f1_keys))]
abbrev rm_X1_appendFrom : Room := { frames := 1, cells := 0, slots := 0, locals := 25 }
def call_X1_appendFrom (k0 : Nat) (k1 : Nat) (p2 : Int32) (n0_size : Int32) (f0_levels : Nat → Int32) (f0_values : Nat → Int32) (f0_tags : Nat → Int32) (f0_links : Nat → Int32) (f0_keys : Nat → Int32) (f0_living : Nat → Bool) (f1_levels : Nat → Int32) (f1_values : Nat → Int32) (f1_tags : Nat → Int32) (f1_links : Nat → Int32) (f1_keys : Nat → Int32) (Q : Int32 → (Nat → Int32) → (Nat → Int32) → (Nat → Int32) → (Nat → Int32) → (Nat → Int32) → (Nat → Bool) → Prop) : Prop :=
    (∃ j6 : Nat, j6 < k1 ∧ p2 = nI j6 ∧ (∃ j12 : Nat, j12 < k1 ∧ p2 = nI j12 ∧ (∃ j18 : Nat, j18 < k1 ∧ p2 = nI j18 ∧ (∃ j24 : Nat, j24 < k1 ∧ p2 = nI j24 ∧ (∃ j30 : Nat, j30 < k1 ∧ p2 = nI j30 ∧ (call_X1_append k0 (f1_levels j6) (f1_values j12) (f1_tags j18) (f1_links j24) (f1_keys j30) n0_size f0_levels f0_values f0_tags f0_links f0_keys f0_living (fun (n0_size_31 : Int32) (f0_levels_31 : Nat → Int32) (f0_values_31 : Nat → Int32) (f0_tags_31 : Nat → Int32) (f0_links_31 : Nat → Int32) (f0_keys_31 : Nat → Int32) (f0_living_31 : Nat → Bool) => Q n0_size_31 f0_levels_31 f0_values_31 f0_tags_31 f0_links_31 f0_keys_31 f0_living_31)))))))
set_option maxHeartbeats 4000000 in
set_option maxRecDepth 100000 in
theorem m_X1_appendFrom (l : Launch) (D : va_G) (cs : Nat → ClassId) (h0 : Nat) (h0_levels : Nat) (h0_values : Nat) (h0_tags : Nat) (h0_links : Nat) (h0_keys : Nat) (h0_living : Nat) (h1 : Nat) (h1_levels : Nat) (h1_values : Nat) (h1_tags : Nat) (h1_links : Nat) (h1_keys : Nat) (h1_living : Nat) (k0 : Nat) (k1 : Nat) (hk0 : k0 < 2 ^ 31) (hk1 : k1 < 2 ^ 31) (p2 : Int32) (n0_size : Int32) (f0_levels : Nat → Int32) (f0_values : Nat → Int32) (f0_tags : Nat → Int32) (f0_links : Nat → Int32) (f0_keys : Nat → Int32) (f0_living : Nat → Bool) (n1_size : Int32) (f1_levels : Nat → Int32) (f1_values : Nat → Int32) (f1_tags : Nat → Int32) (f1_links : Nat → Int32) (f1_keys : Nat → Int32) (Q : Int32 → (Nat → Int32) → (Nat → Int32) → (Nat → Int32) → (Nat → Int32) → (Nat → Int32) → (Nat → Bool) → Prop) (h : call_X1_appendFrom k0 k1 p2 n0_size f0_levels f0_values f0_tags f0_links f0_keys f0_living f1_levels f1_values f1_tags f1_links f1_keys Q) : CtV l yX1_appendFrom wsX1_appendFrom rm_X1_appendFrom D cs [.ref h0, .ref h1, .int p2] (pc_X1_appendFrom cs h0 h0_levels h0_values h0_tags h0_links h0_keys h0_living h1 h1_levels h1_values h1_tags h1_links h1_keys h1_living k0 k1 n0_size f0_levels f0_values f0_tags f0_links f0_keys f0_living n1_size f1_levels f1_values f1_tags f1_links f1_keys) (fun u : Int32 × (Nat → Int32) × (Nat → Int32) × (Nat → Int32) × (Nat → Int32) × (Nat → Int32) × (Nat → Bool) => (pc_X1_appendFrom cs h0 h0_levels h0_values h0_tags h0_links h0_keys h0_living h1 h1_levels h1_values h1_tags h1_links h1_keys h1_living k0 k1 u.1 u.2.1 u.2.2.1 u.2.2.2.1 u.2.2.2.2.1 u.2.2.2.2.2.1 u.2.2.2.2.2.2 n1_size f1_levels f1_values f1_tags f1_links f1_keys)) 0 0 (fun u => Q u.1 u.2.1 u.2.2.1 u.2.2.2.1 u.2.2.2.2.1 u.2.2.2.2.2.1 u.2.2.2.2.2.2) := by
  refine xo_V (S := Int32 × (Nat → Int32) × (Nat → Int32) × (Nat → Int32) × (Nat → Int32) × (Nat → Int32) × (Nat → Bool)) (cc := cX1_appendFrom) (maxL := 3) (own := RX1) (lv0 := [(0, .ref h0), (1, .ref h1), (2, .int p2)]) (by decide) rfl rfl (Nat.le_of_ble_eq_true rfl) rfl ?_
  intro p e s m args below meth c A Z ls hnm F hK hA hP hD hS hl RET
  have hw := h
  unfold call_X1_appendFrom at hw
  generalize ([] : List Loc) = locs at hS ⊢
  obtain ⟨H, hHe⟩ : ∃ H, H = s.heap := ⟨_, rfl⟩
  have hP : va_P D vwCl (pc_X1_appendFrom cs h0 h0_levels h0_values h0_tags h0_links h0_keys h0_living h1 h1_levels h1_values h1_tags h1_links h1_keys h1_living k0 k1 n0_size f0_levels f0_values f0_tags f0_links f0_keys f0_living n1_size f1_levels f1_values f1_tags f1_links f1_keys) H := by rw [hHe]; exact hP
  have hS : va_S A s.heap H locs := by rw [hHe]; exact hS
  suffices W p l e rm_X1_appendFrom s m args below meth c H locs 0 0 Z (F0 m 0 ls []) by rw [hHe] at this; exact this
  refine lv_aload_n F.1 F.2.1 dX1_appendFrom_0 rfl (lv_at hl 0 rfl) ?_
  refine lv_aload_n F.1 F.2.1 dX1_appendFrom_1 rfl (lv_at hl 1 rfl) ?_
  refine xi_get (C := RX1) (T := TX1) (N := 7) (v := .ref h1_levels) F in_X1_appendFrom_X1 hK hP 7 rfl rfl 0 (by decide) fl_X1_appendFrom_9 rfl dX1_appendFrom_2 ?_
  refine lv_iload_n F.1 F.2.1 dX1_appendFrom_5 rfl (lv_at hl 2 rfl) ?_
  obtain ⟨j6, hj, he, hw⟩ := hw
  refine xi_iald (j := j6) F hK hP 8 rfl hk1 hj he dX1_appendFrom_6 ?_
  refine lv_aload_n F.1 F.2.1 dX1_appendFrom_7 rfl (lv_at hl 1 rfl) ?_
  refine xi_get (C := RX1) (T := TX1) (N := 7) (v := .ref h1_values) F in_X1_appendFrom_X1 hK hP 7 rfl rfl 1 (by decide) fl_X1_appendFrom_15 rfl dX1_appendFrom_8 ?_
  refine lv_iload_n F.1 F.2.1 dX1_appendFrom_11 rfl (lv_at hl 2 rfl) ?_
  obtain ⟨j12, hj, he, hw⟩ := hw
  refine xi_iald (j := j12) F hK hP 9 rfl hk1 hj he dX1_appendFrom_12 ?_
  refine lv_aload_n F.1 F.2.1 dX1_appendFrom_13 rfl (lv_at hl 1 rfl) ?_
  refine xi_get (C := RX1) (T := TX1) (N := 7) (v := .ref h1_tags) F in_X1_appendFrom_X1 hK hP 7 rfl rfl 2 (by decide) fl_X1_appendFrom_18 rfl dX1_appendFrom_14 ?_
  refine lv_iload_n F.1 F.2.1 dX1_appendFrom_17 rfl (lv_at hl 2 rfl) ?_
  obtain ⟨j18, hj, he, hw⟩ := hw
  refine xi_iald (j := j18) F hK hP 10 rfl hk1 hj he dX1_appendFrom_18 ?_
  refine lv_aload_n F.1 F.2.1 dX1_appendFrom_19 rfl (lv_at hl 1 rfl) ?_
  refine xi_get (C := RX1) (T := TX1) (N := 7) (v := .ref h1_links) F in_X1_appendFrom_X1 hK hP 7 rfl rfl 3 (by decide) fl_X1_appendFrom_21 rfl dX1_appendFrom_20 ?_
  refine lv_iload_n F.1 F.2.1 dX1_appendFrom_23 rfl (lv_at hl 2 rfl) ?_
  obtain ⟨j24, hj, he, hw⟩ := hw
  refine xi_iald (j := j24) F hK hP 11 rfl hk1 hj he dX1_appendFrom_24 ?_
  refine lv_aload_n F.1 F.2.1 dX1_appendFrom_25 rfl (lv_at hl 1 rfl) ?_
  refine xi_get (C := RX1) (T := TX1) (N := 7) (v := .ref h1_keys) F in_X1_appendFrom_X1 hK hP 7 rfl rfl 4 (by decide) fl_X1_appendFrom_24 rfl dX1_appendFrom_26 ?_
  refine lv_iload_n F.1 F.2.1 dX1_appendFrom_29 rfl (lv_at hl 2 rfl) ?_
  obtain ⟨j30, hj, he, hw⟩ := hw
  refine xi_iald (j := j30) F hK hP 12 rfl hk1 hj he dX1_appendFrom_30 ?_
  refine xc_Vv (As := [.int (f1_levels j6), .int (f1_values j12), .int (f1_tags j18), .int (f1_links j24), .int (f1_keys j30)]) (rest := []) (m_X1_append l D cs h0 h0_levels h0_values h0_tags h0_links h0_keys h0_living k0 hk0 (f1_levels j6) (f1_values j12) (f1_tags j18) (f1_links j24) (f1_keys j30) n0_size f0_levels f0_values f0_tags f0_links f0_keys f0_living _ hw) F (cwV 5 F.2.2.2.2 gX1_appendFrom_X1_append rfl rfl rfl (by decide +kernel) ⟨Nat.le_of_ble_eq_true rfl, Nat.le_of_ble_eq_true rfl⟩) hK hP hD hS hA [0, 1, 2, 3, 4, 5, 6] [7, 8, 9, 10, 11, 12] rfl rfl 0 rfl rfl rfl hl.1 rfl (Nat.le_of_ble_eq_true rfl) dX1_appendFrom_31 ⟨Nat.zero_le _, Nat.zero_le _⟩ (fun u H locs hw hP hD hS => ?_)
  obtain ⟨n0_size_31, f0_levels_31, f0_values_31, f0_tags_31, f0_links_31, f0_keys_31, f0_living_31⟩ := u
  have hP : va_P D vwCl (pc_X1_appendFrom cs h0 h0_levels h0_values h0_tags h0_links h0_keys h0_living h1 h1_levels h1_values h1_tags h1_links h1_keys h1_living k0 k1 n0_size_31 f0_levels_31 f0_values_31 f0_tags_31 f0_links_31 f0_keys_31 f0_living_31 n1_size f1_levels f1_values f1_tags f1_links f1_keys) H := hP.sub [6, 7, 8, 9, 10, 11, 12, 0, 1, 2, 3, 4, 5] rfl
  have hD : va_D A (pc_X1_appendFrom cs h0 h0_levels h0_values h0_tags h0_links h0_keys h0_living h1 h1_levels h1_values h1_tags h1_links h1_keys h1_living k0 k1 n0_size_31 f0_levels_31 f0_values_31 f0_tags_31 f0_links_31 f0_keys_31 f0_living_31 n1_size f1_levels f1_values f1_tags f1_links f1_keys) := hD.sub [6, 7, 8, 9, 10, 11, 12, 0, 1, 2, 3, 4, 5] (by decide) rfl
  try dsimp only at hw
  exact RET (n0_size_31, f0_levels_31, f0_values_31, f0_tags_31, f0_links_31, f0_keys_31, f0_living_31) H locs 34 ls hw hP hD hS dX1_appendFrom_34

theorem in_X1_appendAll_X1 : ∀ w ∈ wsX10, w ∈ wsX1_appendAll := by decide +kernel
theorem fl_X1_appendAll_31 : Cond.fieldLink RX1 31 "JoinBlocks$Row" "size" "I" ∈ wsX1_appendAll := by decide +kernel
abbrev pc_X1_appendAll (cs : Nat → ClassId) (h0 : Nat) (h0_levels : Nat) (h0_values : Nat) (h0_tags : Nat) (h0_links : Nat) (h0_keys : Nat) (h0_living : Nat) (h1 : Nat) (h1_levels : Nat) (h1_values : Nat) (h1_tags : Nat) (h1_links : Nat) (h1_keys : Nat) (h1_living : Nat) (k0 : Nat) (k1 : Nat) (n0_size : Int32) (f0_levels : Nat → Int32) (f0_values : Nat → Int32) (f0_tags : Nat → Int32) (f0_links : Nat → Int32) (f0_keys : Nat → Int32) (f0_living : Nat → Bool) (n1_size : Int32) (f1_levels : Nat → Int32) (f1_values : Nat → Int32) (f1_tags : Nat → Int32) (f1_links : Nat → Int32) (f1_keys : Nat → Int32) : va_W := [(h0, .inr (1, [.ref h0_levels, .ref h0_values, .ref h0_tags, .ref h0_links, .ref h0_keys, .ref h0_living, .int n0_size])), (h0_levels, .inl (cs 0, k0, .inl f0_levels)), (h0_values, .inl (cs 0, k0, .inl f0_values)), (h0_tags, .inl (cs 0, k0, .inl f0_tags)), (h0_links, .inl (cs 0, k0, .inl f0_links)), (h0_keys, .inl (cs 0, k0, .inl f0_keys)), (h0_living, .inl (cs 1, k0, .inl (bF f0_living))), (h1, .inr (1, [.ref h1_levels, .ref h1_values, .ref h1_tags, .ref h1_links, .ref h1_keys, .ref h1_living, .int n1_size])), (h1_levels, .inl (cs 0, k1, .inl f1_levels)), (h1_values, .inl (cs 0, k1, .inl f1_values)), (h1_tags, .inl (cs 0, k1, .inl f1_tags)), (h1_links, .inl (cs 0, k1, .inl f1_links)), (h1_keys, .inl (cs 0, k1, .inl f1_keys))]
abbrev rm_X1_appendAll : Room := { frames := 2, cells := 0, slots := 0, locals := 47 }
def call_X1_appendAll (k0 : Nat) (k1 : Nat) (n0_size : Int32) (f0_levels : Nat → Int32) (f0_values : Nat → Int32) (f0_tags : Nat → Int32) (f0_links : Nat → Int32) (f0_keys : Nat → Int32) (f0_living : Nat → Bool) (n1_size : Int32) (f1_levels : Nat → Int32) (f1_values : Nat → Int32) (f1_tags : Nat → Int32) (f1_links : Nat → Int32) (f1_keys : Nat → Int32) (Q : Int32 → (Nat → Int32) → (Nat → Int32) → (Nat → Int32) → (Nat → Int32) → (Nat → Int32) → (Nat → Bool) → Prop) : Prop := ∀ (X2 : Int32 → Int32 → (Nat → Int32) → (Nat → Int32) → (Nat → Int32) → (Nat → Int32) → (Nat → Int32) → (Nat → Bool) → Prop),
    (∀ (x2 : Int32) (n0_size : Int32) (f0_levels : Nat → Int32) (f0_values : Nat → Int32) (f0_tags : Nat → Int32) (f0_links : Nat → Int32) (f0_keys : Nat → Int32) (f0_living : Nat → Bool),
      ((n1_size ≤ x2 → Q n0_size f0_levels f0_values f0_tags f0_links f0_keys f0_living) ∧ (¬ n1_size ≤ x2 → (call_X1_appendFrom k0 k1 x2 n0_size f0_levels f0_values f0_tags f0_links f0_keys f0_living f1_levels f1_values f1_tags f1_links f1_keys (fun (n0_size_13 : Int32) (f0_levels_13 : Nat → Int32) (f0_values_13 : Nat → Int32) (f0_tags_13 : Nat → Int32) (f0_links_13 : Nat → Int32) (f0_keys_13 : Nat → Int32) (f0_living_13 : Nat → Bool) => X2 (x2 + 1) n0_size_13 f0_levels_13 f0_values_13 f0_tags_13 f0_links_13 f0_keys_13 f0_living_13)))) → X2 x2 n0_size f0_levels f0_values f0_tags f0_links f0_keys f0_living) →
    X2 0 n0_size f0_levels f0_values f0_tags f0_links f0_keys f0_living
set_option maxHeartbeats 4000000 in
set_option maxRecDepth 100000 in
theorem m_X1_appendAll (l : Launch) (D : va_G) (cs : Nat → ClassId) (h0 : Nat) (h0_levels : Nat) (h0_values : Nat) (h0_tags : Nat) (h0_links : Nat) (h0_keys : Nat) (h0_living : Nat) (h1 : Nat) (h1_levels : Nat) (h1_values : Nat) (h1_tags : Nat) (h1_links : Nat) (h1_keys : Nat) (h1_living : Nat) (k0 : Nat) (k1 : Nat) (hk0 : k0 < 2 ^ 31) (hk1 : k1 < 2 ^ 31) (n0_size : Int32) (f0_levels : Nat → Int32) (f0_values : Nat → Int32) (f0_tags : Nat → Int32) (f0_links : Nat → Int32) (f0_keys : Nat → Int32) (f0_living : Nat → Bool) (n1_size : Int32) (f1_levels : Nat → Int32) (f1_values : Nat → Int32) (f1_tags : Nat → Int32) (f1_links : Nat → Int32) (f1_keys : Nat → Int32) (Q : Int32 → (Nat → Int32) → (Nat → Int32) → (Nat → Int32) → (Nat → Int32) → (Nat → Int32) → (Nat → Bool) → Prop) (h : call_X1_appendAll k0 k1 n0_size f0_levels f0_values f0_tags f0_links f0_keys f0_living n1_size f1_levels f1_values f1_tags f1_links f1_keys Q) : CtV l yX1_appendAll wsX1_appendAll rm_X1_appendAll D cs [.ref h0, .ref h1] (pc_X1_appendAll cs h0 h0_levels h0_values h0_tags h0_links h0_keys h0_living h1 h1_levels h1_values h1_tags h1_links h1_keys h1_living k0 k1 n0_size f0_levels f0_values f0_tags f0_links f0_keys f0_living n1_size f1_levels f1_values f1_tags f1_links f1_keys) (fun u : Int32 × (Nat → Int32) × (Nat → Int32) × (Nat → Int32) × (Nat → Int32) × (Nat → Int32) × (Nat → Bool) => (pc_X1_appendAll cs h0 h0_levels h0_values h0_tags h0_links h0_keys h0_living h1 h1_levels h1_values h1_tags h1_links h1_keys h1_living k0 k1 u.1 u.2.1 u.2.2.1 u.2.2.2.1 u.2.2.2.2.1 u.2.2.2.2.2.1 u.2.2.2.2.2.2 n1_size f1_levels f1_values f1_tags f1_links f1_keys)) 0 0 (fun u => Q u.1 u.2.1 u.2.2.1 u.2.2.2.1 u.2.2.2.2.1 u.2.2.2.2.2.1 u.2.2.2.2.2.2) := by
  refine xo_V (S := Int32 × (Nat → Int32) × (Nat → Int32) × (Nat → Int32) × (Nat → Int32) × (Nat → Int32) × (Nat → Bool)) (cc := cX1_appendAll) (maxL := 3) (own := RX1) (lv0 := [(0, .ref h0), (1, .ref h1)]) (by decide) rfl rfl (Nat.le_of_ble_eq_true rfl) rfl ?_
  intro p e s m args below meth c A Z ls hnm F hK hA hP hD hS hl RET
  unfold call_X1_appendAll at h
  obtain ⟨X2, hX2⟩ : ∃ X : Int32 → Int32 → (Nat → Int32) → (Nat → Int32) → (Nat → Int32) → (Nat → Int32) → (Nat → Int32) → (Nat → Bool) → Prop, ∀ (x2 : Int32) (n0_size : Int32) (f0_levels : Nat → Int32) (f0_values : Nat → Int32) (f0_tags : Nat → Int32) (f0_links : Nat → Int32) (f0_keys : Nat → Int32) (f0_living : Nat → Bool), (X x2 n0_size f0_levels f0_values f0_tags f0_links f0_keys f0_living ↔ ∀ (H : Heap) (locs : List Loc) (ls : Array Slot), va_P D vwCl (pc_X1_appendAll cs h0 h0_levels h0_values h0_tags h0_links h0_keys h0_living h1 h1_levels h1_values h1_tags h1_links h1_keys h1_living k0 k1 n0_size f0_levels f0_values f0_tags f0_links f0_keys f0_living n1_size f1_levels f1_values f1_tags f1_links f1_keys) H → va_D A (pc_X1_appendAll cs h0 h0_levels h0_values h0_tags h0_links h0_keys h0_living h1 h1_levels h1_values h1_tags h1_links h1_keys h1_living k0 k1 n0_size f0_levels f0_values f0_tags f0_links f0_keys f0_living n1_size f1_levels f1_values f1_tags f1_links f1_keys) → va_S A s.heap H locs → lv_has ls 3 [(0, .ref h0), (1, .ref h1), (2, .int x2)] → W p l e rm_X1_appendAll s m args below meth c H locs 0 0 Z (F0 m 2 ls [])) := ⟨_, fun _ _ _ _ _ _ _ _ => Iff.rfl⟩
  refine xt_cut (h X2 ?_) (fun hw => ?_)
  · intro x2 n0_size f0_levels f0_values f0_tags f0_links f0_keys f0_living hw
    refine (hX2 _ _ _ _ _ _ _ _).mpr ?_
    intro H locs ls hP hD hS hl
    refine lv_iload_n F.1 F.2.1 dX1_appendAll_2 rfl (lv_at hl 2 rfl) ?_
    refine lv_aload_n F.1 F.2.1 dX1_appendAll_3 rfl (lv_at hl 1 rfl) ?_
    refine xi_get (C := RX1) (T := TX1) (N := 7) (v := .int n1_size) F in_X1_appendAll_X1 hK hP 7 rfl rfl 6 (by decide) fl_X1_appendAll_31 rfl dX1_appendAll_4 ?_
    refine lv_icmp_ge (tgt := 22) F.1 F.2.1 dX1_appendAll_7 (by decide) (fun hc => ?_) (fun hc => ?_)
    · have hw := hw.1 hc
      exact RET (n0_size, f0_levels, f0_values, f0_tags, f0_links, f0_keys, f0_living) H locs 22 ls hw hP hD hS dX1_appendAll_22
    · have hw := hw.2 hc
      refine lv_aload_n F.1 F.2.1 dX1_appendAll_10 rfl (lv_at hl 0 rfl) ?_
      refine lv_aload_n F.1 F.2.1 dX1_appendAll_11 rfl (lv_at hl 1 rfl) ?_
      refine lv_iload_n F.1 F.2.1 dX1_appendAll_12 rfl (lv_at hl 2 rfl) ?_
      refine xc_Vv (As := [.ref h1, .int x2]) (rest := []) (m_X1_appendFrom l D cs h0 h0_levels h0_values h0_tags h0_links h0_keys h0_living h1 h1_levels h1_values h1_tags h1_links h1_keys h1_living k0 k1 hk0 hk1 x2 n0_size f0_levels f0_values f0_tags f0_links f0_keys f0_living n1_size f1_levels f1_values f1_tags f1_links f1_keys _ hw) F (cwV 2 F.2.2.2.2 gX1_appendAll_X1_appendFrom rfl rfl rfl (by decide +kernel) ⟨Nat.le_of_ble_eq_true rfl, Nat.le_of_ble_eq_true rfl⟩) hK hP hD hS hA [0, 1, 2, 3, 4, 5, 6, 7, 8, 9, 10, 11, 12] [] rfl rfl 0 rfl rfl rfl hl.1 rfl (Nat.le_of_ble_eq_true rfl) dX1_appendAll_13 ⟨Nat.zero_le _, Nat.zero_le _⟩ (fun u H locs hw hP hD hS => ?_)
      obtain ⟨n0_size_13, f0_levels_13, f0_values_13, f0_tags_13, f0_links_13, f0_keys_13, f0_living_13⟩ := u
      have hP : va_P D vwCl (pc_X1_appendAll cs h0 h0_levels h0_values h0_tags h0_links h0_keys h0_living h1 h1_levels h1_values h1_tags h1_links h1_keys h1_living k0 k1 n0_size_13 f0_levels_13 f0_values_13 f0_tags_13 f0_links_13 f0_keys_13 f0_living_13 n1_size f1_levels f1_values f1_tags f1_links f1_keys) H := hP.sub [0, 1, 2, 3, 4, 5, 6, 7, 8, 9, 10, 11, 12] rfl
      have hD : va_D A (pc_X1_appendAll cs h0 h0_levels h0_values h0_tags h0_links h0_keys h0_living h1 h1_levels h1_values h1_tags h1_links h1_keys h1_living k0 k1 n0_size_13 f0_levels_13 f0_values_13 f0_tags_13 f0_links_13 f0_keys_13 f0_living_13 n1_size f1_levels f1_values f1_tags f1_links f1_keys) := hD.sub [0, 1, 2, 3, 4, 5, 6, 7, 8, 9, 10, 11, 12] (by decide) rfl
      try dsimp only at hw
      refine lv_iinc (v := (x2 + 1)) (lv' := [(2, .int (x2 + 1)), (0, .ref h0), (1, .ref h1)]) F.1 F.2.1 dX1_appendAll_16 hl (k := 2) rfl rfl (by decide) rfl (fun ls hl => ?_)
      refine lv_goto (tgt := 2) F.1 F.2.1 dX1_appendAll_19 (by decide) ?_
      exact (hX2 _ _ _ _ _ _ _ _).mp hw H locs ls hP hD hS (lv_sub hl [1, 2, 0] rfl)
  generalize ([] : List Loc) = locs at hS ⊢
  obtain ⟨H, hHe⟩ : ∃ H, H = s.heap := ⟨_, rfl⟩
  have hP : va_P D vwCl (pc_X1_appendAll cs h0 h0_levels h0_values h0_tags h0_links h0_keys h0_living h1 h1_levels h1_values h1_tags h1_links h1_keys h1_living k0 k1 n0_size f0_levels f0_values f0_tags f0_links f0_keys f0_living n1_size f1_levels f1_values f1_tags f1_links f1_keys) H := by rw [hHe]; exact hP
  have hS : va_S A s.heap H locs := by rw [hHe]; exact hS
  suffices W p l e rm_X1_appendAll s m args below meth c H locs 0 0 Z (F0 m 0 ls []) by rw [hHe] at this; exact this
  refine lv_iconst (v := 0) F.1 F.2.1 dX1_appendAll_0 (by decide) ?_
  refine lv_istore_n (lv' := [(2, .int 0), (0, .ref h0), (1, .ref h1)]) F.1 F.2.1 dX1_appendAll_1 rfl hl (by decide) rfl (fun ls hl => ?_)
  exact (hX2 _ _ _ _ _ _ _ _).mp hw H locs ls hP hD hS (lv_sub hl [1, 2, 0] rfl)

abbrev pc_X1_appendFromS (cs : Nat → ClassId) (h0 : Nat) (h0_levels : Nat) (h0_values : Nat) (h0_tags : Nat) (h0_links : Nat) (h0_keys : Nat) (h0_living : Nat) (k0 : Nat) (n0_size : Int32) (f0_levels : Nat → Int32) (f0_values : Nat → Int32) (f0_tags : Nat → Int32) (f0_links : Nat → Int32) (f0_keys : Nat → Int32) (f0_living : Nat → Bool) : va_W := [(h0, .inr (1, [.ref h0_levels, .ref h0_values, .ref h0_tags, .ref h0_links, .ref h0_keys, .ref h0_living, .int n0_size])), (h0_levels, .inl (cs 0, k0, .inl f0_levels)), (h0_values, .inl (cs 0, k0, .inl f0_values)), (h0_tags, .inl (cs 0, k0, .inl f0_tags)), (h0_links, .inl (cs 0, k0, .inl f0_links)), (h0_keys, .inl (cs 0, k0, .inl f0_keys)), (h0_living, .inl (cs 1, k0, .inl (bF f0_living)))]
abbrev rm_X1_appendFromS : Room := { frames := 1, cells := 0, slots := 0, locals := 25 }
def call_X1_appendFromS (k0 : Nat) (p2 : Int32) (n0_size : Int32) (f0_levels : Nat → Int32) (f0_values : Nat → Int32) (f0_tags : Nat → Int32) (f0_links : Nat → Int32) (f0_keys : Nat → Int32) (f0_living : Nat → Bool) (Q : Int32 → (Nat → Int32) → (Nat → Int32) → (Nat → Int32) → (Nat → Int32) → (Nat → Int32) → (Nat → Bool) → Prop) : Prop :=
    (∃ j6 : Nat, j6 < k0 ∧ p2 = nI j6 ∧ (∃ j12 : Nat, j12 < k0 ∧ p2 = nI j12 ∧ (∃ j18 : Nat, j18 < k0 ∧ p2 = nI j18 ∧ (∃ j24 : Nat, j24 < k0 ∧ p2 = nI j24 ∧ (∃ j30 : Nat, j30 < k0 ∧ p2 = nI j30 ∧ (call_X1_append k0 (f0_levels j6) (f0_values j12) (f0_tags j18) (f0_links j24) (f0_keys j30) n0_size f0_levels f0_values f0_tags f0_links f0_keys f0_living (fun (n0_size_31 : Int32) (f0_levels_31 : Nat → Int32) (f0_values_31 : Nat → Int32) (f0_tags_31 : Nat → Int32) (f0_links_31 : Nat → Int32) (f0_keys_31 : Nat → Int32) (f0_living_31 : Nat → Bool) => Q n0_size_31 f0_levels_31 f0_values_31 f0_tags_31 f0_links_31 f0_keys_31 f0_living_31)))))))
set_option maxHeartbeats 4000000 in
set_option maxRecDepth 100000 in
theorem m_X1_appendFromS (l : Launch) (D : va_G) (cs : Nat → ClassId) (h0 : Nat) (h0_levels : Nat) (h0_values : Nat) (h0_tags : Nat) (h0_links : Nat) (h0_keys : Nat) (h0_living : Nat) (k0 : Nat) (hk0 : k0 < 2 ^ 31) (p2 : Int32) (n0_size : Int32) (f0_levels : Nat → Int32) (f0_values : Nat → Int32) (f0_tags : Nat → Int32) (f0_links : Nat → Int32) (f0_keys : Nat → Int32) (f0_living : Nat → Bool) (Q : Int32 → (Nat → Int32) → (Nat → Int32) → (Nat → Int32) → (Nat → Int32) → (Nat → Int32) → (Nat → Bool) → Prop) (h : call_X1_appendFromS k0 p2 n0_size f0_levels f0_values f0_tags f0_links f0_keys f0_living Q) : CtV l yX1_appendFrom wsX1_appendFrom rm_X1_appendFromS D cs [.ref h0, .ref h0, .int p2] (pc_X1_appendFromS cs h0 h0_levels h0_values h0_tags h0_links h0_keys h0_living k0 n0_size f0_levels f0_values f0_tags f0_links f0_keys f0_living) (fun u : Int32 × (Nat → Int32) × (Nat → Int32) × (Nat → Int32) × (Nat → Int32) × (Nat → Int32) × (Nat → Bool) => (pc_X1_appendFromS cs h0 h0_levels h0_values h0_tags h0_links h0_keys h0_living k0 u.1 u.2.1 u.2.2.1 u.2.2.2.1 u.2.2.2.2.1 u.2.2.2.2.2.1 u.2.2.2.2.2.2)) 0 0 (fun u => Q u.1 u.2.1 u.2.2.1 u.2.2.2.1 u.2.2.2.2.1 u.2.2.2.2.2.1 u.2.2.2.2.2.2) := by
  refine xo_V (S := Int32 × (Nat → Int32) × (Nat → Int32) × (Nat → Int32) × (Nat → Int32) × (Nat → Int32) × (Nat → Bool)) (cc := cX1_appendFrom) (maxL := 3) (own := RX1) (lv0 := [(0, .ref h0), (1, .ref h0), (2, .int p2)]) (by decide) rfl rfl (Nat.le_of_ble_eq_true rfl) rfl ?_
  intro p e s m args below meth c A Z ls hnm F hK hA hP hD hS hl RET
  have hw := h
  unfold call_X1_appendFromS at hw
  generalize ([] : List Loc) = locs at hS ⊢
  obtain ⟨H, hHe⟩ : ∃ H, H = s.heap := ⟨_, rfl⟩
  have hP : va_P D vwCl (pc_X1_appendFromS cs h0 h0_levels h0_values h0_tags h0_links h0_keys h0_living k0 n0_size f0_levels f0_values f0_tags f0_links f0_keys f0_living) H := by rw [hHe]; exact hP
  have hS : va_S A s.heap H locs := by rw [hHe]; exact hS
  suffices W p l e rm_X1_appendFromS s m args below meth c H locs 0 0 Z (F0 m 0 ls []) by rw [hHe] at this; exact this
  refine lv_aload_n F.1 F.2.1 dX1_appendFrom_0 rfl (lv_at hl 0 rfl) ?_
  refine lv_aload_n F.1 F.2.1 dX1_appendFrom_1 rfl (lv_at hl 1 rfl) ?_
  refine xi_get (C := RX1) (T := TX1) (N := 7) (v := .ref h0_levels) F in_X1_appendFrom_X1 hK hP 0 rfl rfl 0 (by decide) fl_X1_appendFrom_9 rfl dX1_appendFrom_2 ?_
  refine lv_iload_n F.1 F.2.1 dX1_appendFrom_5 rfl (lv_at hl 2 rfl) ?_
  obtain ⟨j6, hj, he, hw⟩ := hw
  refine xi_iald (j := j6) F hK hP 1 rfl hk0 hj he dX1_appendFrom_6 ?_
  refine lv_aload_n F.1 F.2.1 dX1_appendFrom_7 rfl (lv_at hl 1 rfl) ?_
  refine xi_get (C := RX1) (T := TX1) (N := 7) (v := .ref h0_values) F in_X1_appendFrom_X1 hK hP 0 rfl rfl 1 (by decide) fl_X1_appendFrom_15 rfl dX1_appendFrom_8 ?_
  refine lv_iload_n F.1 F.2.1 dX1_appendFrom_11 rfl (lv_at hl 2 rfl) ?_
  obtain ⟨j12, hj, he, hw⟩ := hw
  refine xi_iald (j := j12) F hK hP 2 rfl hk0 hj he dX1_appendFrom_12 ?_
  refine lv_aload_n F.1 F.2.1 dX1_appendFrom_13 rfl (lv_at hl 1 rfl) ?_
  refine xi_get (C := RX1) (T := TX1) (N := 7) (v := .ref h0_tags) F in_X1_appendFrom_X1 hK hP 0 rfl rfl 2 (by decide) fl_X1_appendFrom_18 rfl dX1_appendFrom_14 ?_
  refine lv_iload_n F.1 F.2.1 dX1_appendFrom_17 rfl (lv_at hl 2 rfl) ?_
  obtain ⟨j18, hj, he, hw⟩ := hw
  refine xi_iald (j := j18) F hK hP 3 rfl hk0 hj he dX1_appendFrom_18 ?_
  refine lv_aload_n F.1 F.2.1 dX1_appendFrom_19 rfl (lv_at hl 1 rfl) ?_
  refine xi_get (C := RX1) (T := TX1) (N := 7) (v := .ref h0_links) F in_X1_appendFrom_X1 hK hP 0 rfl rfl 3 (by decide) fl_X1_appendFrom_21 rfl dX1_appendFrom_20 ?_
  refine lv_iload_n F.1 F.2.1 dX1_appendFrom_23 rfl (lv_at hl 2 rfl) ?_
  obtain ⟨j24, hj, he, hw⟩ := hw
  refine xi_iald (j := j24) F hK hP 4 rfl hk0 hj he dX1_appendFrom_24 ?_
  refine lv_aload_n F.1 F.2.1 dX1_appendFrom_25 rfl (lv_at hl 1 rfl) ?_
  refine xi_get (C := RX1) (T := TX1) (N := 7) (v := .ref h0_keys) F in_X1_appendFrom_X1 hK hP 0 rfl rfl 4 (by decide) fl_X1_appendFrom_24 rfl dX1_appendFrom_26 ?_
  refine lv_iload_n F.1 F.2.1 dX1_appendFrom_29 rfl (lv_at hl 2 rfl) ?_
  obtain ⟨j30, hj, he, hw⟩ := hw
  refine xi_iald (j := j30) F hK hP 5 rfl hk0 hj he dX1_appendFrom_30 ?_
  refine xc_Vv (As := [.int (f0_levels j6), .int (f0_values j12), .int (f0_tags j18), .int (f0_links j24), .int (f0_keys j30)]) (rest := []) (m_X1_append l D cs h0 h0_levels h0_values h0_tags h0_links h0_keys h0_living k0 hk0 (f0_levels j6) (f0_values j12) (f0_tags j18) (f0_links j24) (f0_keys j30) n0_size f0_levels f0_values f0_tags f0_links f0_keys f0_living _ hw) F (cwV 5 F.2.2.2.2 gX1_appendFrom_X1_append rfl rfl rfl (by decide +kernel) ⟨Nat.le_of_ble_eq_true rfl, Nat.le_of_ble_eq_true rfl⟩) hK hP hD hS hA [0, 1, 2, 3, 4, 5, 6] [] rfl rfl 0 rfl rfl rfl hl.1 rfl (Nat.le_of_ble_eq_true rfl) dX1_appendFrom_31 ⟨Nat.zero_le _, Nat.zero_le _⟩ (fun u H locs hw hP hD hS => ?_)
  obtain ⟨n0_size_31, f0_levels_31, f0_values_31, f0_tags_31, f0_links_31, f0_keys_31, f0_living_31⟩ := u
  have hP : va_P D vwCl (pc_X1_appendFromS cs h0 h0_levels h0_values h0_tags h0_links h0_keys h0_living k0 n0_size_31 f0_levels_31 f0_values_31 f0_tags_31 f0_links_31 f0_keys_31 f0_living_31) H := hP.sub [0, 1, 2, 3, 4, 5, 6] rfl
  have hD : va_D A (pc_X1_appendFromS cs h0 h0_levels h0_values h0_tags h0_links h0_keys h0_living k0 n0_size_31 f0_levels_31 f0_values_31 f0_tags_31 f0_links_31 f0_keys_31 f0_living_31) := hD.sub [0, 1, 2, 3, 4, 5, 6] (by decide) rfl
  try dsimp only at hw
  exact RET (n0_size_31, f0_levels_31, f0_values_31, f0_tags_31, f0_links_31, f0_keys_31, f0_living_31) H locs 34 ls hw hP hD hS dX1_appendFrom_34

theorem in_X1_keepLiving_X1 : ∀ w ∈ wsX10, w ∈ wsX1_keepLiving := by decide +kernel
theorem fl_X1_keepLiving_27 : Cond.fieldLink RX1 27 "JoinBlocks$Row" "living" "[Z" ∈ wsX1_keepLiving := by decide +kernel
theorem fl_X1_keepLiving_31 : Cond.fieldLink RX1 31 "JoinBlocks$Row" "size" "I" ∈ wsX1_keepLiving := by decide +kernel
abbrev pc_X1_keepLiving (cs : Nat → ClassId) (h0 : Nat) (h0_levels : Nat) (h0_values : Nat) (h0_tags : Nat) (h0_links : Nat) (h0_keys : Nat) (h0_living : Nat) (k0 : Nat) (n0_size : Int32) (f0_levels : Nat → Int32) (f0_values : Nat → Int32) (f0_tags : Nat → Int32) (f0_links : Nat → Int32) (f0_keys : Nat → Int32) (f0_living : Nat → Bool) : va_W := [(h0, .inr (1, [.ref h0_levels, .ref h0_values, .ref h0_tags, .ref h0_links, .ref h0_keys, .ref h0_living, .int n0_size])), (h0_levels, .inl (cs 0, k0, .inl f0_levels)), (h0_values, .inl (cs 0, k0, .inl f0_values)), (h0_tags, .inl (cs 0, k0, .inl f0_tags)), (h0_links, .inl (cs 0, k0, .inl f0_links)), (h0_keys, .inl (cs 0, k0, .inl f0_keys)), (h0_living, .inl (cs 1, k0, .inl (bF f0_living)))]
abbrev rm_X1_keepLiving : Room := { frames := 2, cells := 0, slots := 0, locals := 47 }
def call_X1_keepLiving (k0 : Nat) (n0_size : Int32) (f0_levels : Nat → Int32) (f0_values : Nat → Int32) (f0_tags : Nat → Int32) (f0_links : Nat → Int32) (f0_keys : Nat → Int32) (f0_living : Nat → Bool) (Q : Int32 → (Nat → Int32) → (Nat → Int32) → (Nat → Int32) → (Nat → Int32) → (Nat → Int32) → (Nat → Bool) → Prop) : Prop := ∀ (X12 : Int32 → Int32 → Int32 → (Nat → Int32) → (Nat → Int32) → (Nat → Int32) → (Nat → Int32) → (Nat → Int32) → (Nat → Bool) → Prop) (X32 : Int32 → Int32 → Int32 → (Nat → Int32) → (Nat → Int32) → (Nat → Int32) → (Nat → Int32) → (Nat → Int32) → (Nat → Bool) → Prop),
    (∀ (x1 : Int32) (x2 : Int32) (n0_size : Int32) (f0_levels : Nat → Int32) (f0_values : Nat → Int32) (f0_tags : Nat → Int32) (f0_links : Nat → Int32) (f0_keys : Nat → Int32) (f0_living : Nat → Bool),
      ((x1 ≤ x2 → Q n0_size f0_levels f0_values f0_tags f0_links f0_keys f0_living) ∧ (¬ x1 ≤ x2 → (∃ j22 : Nat, j22 < k0 ∧ x2 = nI j22 ∧ (((f0_living j22) = false → X32 x1 x2 n0_size f0_levels f0_values f0_tags f0_links f0_keys f0_living) ∧ ((f0_living j22) = true → (call_X1_appendFromS k0 x2 n0_size f0_levels f0_values f0_tags f0_links f0_keys f0_living (fun (n0_size_29 : Int32) (f0_levels_29 : Nat → Int32) (f0_values_29 : Nat → Int32) (f0_tags_29 : Nat → Int32) (f0_links_29 : Nat → Int32) (f0_keys_29 : Nat → Int32) (f0_living_29 : Nat → Bool) => X32 x1 x2 n0_size_29 f0_levels_29 f0_values_29 f0_tags_29 f0_links_29 f0_keys_29 f0_living_29))))))) → X12 x1 x2 n0_size f0_levels f0_values f0_tags f0_links f0_keys f0_living) →
    (∀ (x1 : Int32) (x2 : Int32) (n0_size : Int32) (f0_levels : Nat → Int32) (f0_values : Nat → Int32) (f0_tags : Nat → Int32) (f0_links : Nat → Int32) (f0_keys : Nat → Int32) (f0_living : Nat → Bool),
      X12 x1 (x2 + 1) n0_size f0_levels f0_values f0_tags f0_links f0_keys f0_living → X32 x1 x2 n0_size f0_levels f0_values f0_tags f0_links f0_keys f0_living) →
    X12 n0_size 0 0 f0_levels f0_values f0_tags f0_links f0_keys f0_living
set_option maxHeartbeats 4000000 in
set_option maxRecDepth 100000 in
theorem m_X1_keepLiving (l : Launch) (D : va_G) (cs : Nat → ClassId) (h0 : Nat) (h0_levels : Nat) (h0_values : Nat) (h0_tags : Nat) (h0_links : Nat) (h0_keys : Nat) (h0_living : Nat) (k0 : Nat) (hk0 : k0 < 2 ^ 31) (n0_size : Int32) (f0_levels : Nat → Int32) (f0_values : Nat → Int32) (f0_tags : Nat → Int32) (f0_links : Nat → Int32) (f0_keys : Nat → Int32) (f0_living : Nat → Bool) (Q : Int32 → (Nat → Int32) → (Nat → Int32) → (Nat → Int32) → (Nat → Int32) → (Nat → Int32) → (Nat → Bool) → Prop) (h : call_X1_keepLiving k0 n0_size f0_levels f0_values f0_tags f0_links f0_keys f0_living Q) : CtV l yX1_keepLiving wsX1_keepLiving rm_X1_keepLiving D cs [.ref h0] (pc_X1_keepLiving cs h0 h0_levels h0_values h0_tags h0_links h0_keys h0_living k0 n0_size f0_levels f0_values f0_tags f0_links f0_keys f0_living) (fun u : Int32 × (Nat → Int32) × (Nat → Int32) × (Nat → Int32) × (Nat → Int32) × (Nat → Int32) × (Nat → Bool) => (pc_X1_keepLiving cs h0 h0_levels h0_values h0_tags h0_links h0_keys h0_living k0 u.1 u.2.1 u.2.2.1 u.2.2.2.1 u.2.2.2.2.1 u.2.2.2.2.2.1 u.2.2.2.2.2.2)) 0 0 (fun u => Q u.1 u.2.1 u.2.2.1 u.2.2.2.1 u.2.2.2.2.1 u.2.2.2.2.2.1 u.2.2.2.2.2.2) := by
  refine xo_V (S := Int32 × (Nat → Int32) × (Nat → Int32) × (Nat → Int32) × (Nat → Int32) × (Nat → Int32) × (Nat → Bool)) (cc := cX1_keepLiving) (maxL := 3) (own := RX1) (lv0 := [(0, .ref h0)]) (by decide) rfl rfl (Nat.le_of_ble_eq_true rfl) rfl ?_
  intro p e s m args below meth c A Z ls hnm F hK hA hP hD hS hl RET
  unfold call_X1_keepLiving at h
  obtain ⟨X12, hX12⟩ : ∃ X : Int32 → Int32 → Int32 → (Nat → Int32) → (Nat → Int32) → (Nat → Int32) → (Nat → Int32) → (Nat → Int32) → (Nat → Bool) → Prop, ∀ (x1 : Int32) (x2 : Int32) (n0_size : Int32) (f0_levels : Nat → Int32) (f0_values : Nat → Int32) (f0_tags : Nat → Int32) (f0_links : Nat → Int32) (f0_keys : Nat → Int32) (f0_living : Nat → Bool), (X x1 x2 n0_size f0_levels f0_values f0_tags f0_links f0_keys f0_living ↔ ∀ (H : Heap) (locs : List Loc) (ls : Array Slot), va_P D vwCl (pc_X1_keepLiving cs h0 h0_levels h0_values h0_tags h0_links h0_keys h0_living k0 n0_size f0_levels f0_values f0_tags f0_links f0_keys f0_living) H → va_D A (pc_X1_keepLiving cs h0 h0_levels h0_values h0_tags h0_links h0_keys h0_living k0 n0_size f0_levels f0_values f0_tags f0_links f0_keys f0_living) → va_S A s.heap H locs → lv_has ls 3 [(0, .ref h0), (1, .int x1), (2, .int x2)] → W p l e rm_X1_keepLiving s m args below meth c H locs 0 0 Z (F0 m 12 ls [])) := ⟨_, fun _ _ _ _ _ _ _ _ _ => Iff.rfl⟩
  obtain ⟨X32, hX32⟩ : ∃ X : Int32 → Int32 → Int32 → (Nat → Int32) → (Nat → Int32) → (Nat → Int32) → (Nat → Int32) → (Nat → Int32) → (Nat → Bool) → Prop, ∀ (x1 : Int32) (x2 : Int32) (n0_size : Int32) (f0_levels : Nat → Int32) (f0_values : Nat → Int32) (f0_tags : Nat → Int32) (f0_links : Nat → Int32) (f0_keys : Nat → Int32) (f0_living : Nat → Bool), (X x1 x2 n0_size f0_levels f0_values f0_tags f0_links f0_keys f0_living ↔ ∀ (H : Heap) (locs : List Loc) (ls : Array Slot), va_P D vwCl (pc_X1_keepLiving cs h0 h0_levels h0_values h0_tags h0_links h0_keys h0_living k0 n0_size f0_levels f0_values f0_tags f0_links f0_keys f0_living) H → va_D A (pc_X1_keepLiving cs h0 h0_levels h0_values h0_tags h0_links h0_keys h0_living k0 n0_size f0_levels f0_values f0_tags f0_links f0_keys f0_living) → va_S A s.heap H locs → lv_has ls 3 [(0, .ref h0), (1, .int x1), (2, .int x2)] → W p l e rm_X1_keepLiving s m args below meth c H locs 0 0 Z (F0 m 32 ls [])) := ⟨_, fun _ _ _ _ _ _ _ _ _ => Iff.rfl⟩
  refine xt_cut (h X12 X32 ?_ ?_) (fun hw => ?_)
  · intro x1 x2 n0_size f0_levels f0_values f0_tags f0_links f0_keys f0_living hw
    refine (hX12 _ _ _ _ _ _ _ _ _).mpr ?_
    intro H locs ls hP hD hS hl
    refine lv_iload_n F.1 F.2.1 dX1_keepLiving_12 rfl (lv_at hl 2 rfl) ?_
    refine lv_iload_n F.1 F.2.1 dX1_keepLiving_13 rfl (lv_at hl 1 rfl) ?_
    refine lv_icmp_ge (tgt := 38) F.1 F.2.1 dX1_keepLiving_14 (by decide) (fun hc => ?_) (fun hc => ?_)
    · have hw := hw.1 hc
      exact RET (n0_size, f0_levels, f0_values, f0_tags, f0_links, f0_keys, f0_living) H locs 38 ls hw hP hD hS dX1_keepLiving_38
    · have hw := hw.2 hc
      refine lv_aload_n F.1 F.2.1 dX1_keepLiving_17 rfl (lv_at hl 0 rfl) ?_
      refine xi_get (C := RX1) (T := TX1) (N := 7) (v := .ref h0_living) F in_X1_keepLiving_X1 hK hP 0 rfl rfl 5 (by decide) fl_X1_keepLiving_27 rfl dX1_keepLiving_18 ?_
      refine lv_iload_n F.1 F.2.1 dX1_keepLiving_21 rfl (lv_at hl 2 rfl) ?_
      obtain ⟨j22, hj, he, hw⟩ := hw
      refine xi_zald (j := j22) F hK hP 6 rfl hk0 hj he dX1_keepLiving_22 ?_
      refine xi_ifeqz (tgt := 32) F dX1_keepLiving_23 (by decide) (fun hc => ?_) (fun hc => ?_)
      · have hw := hw.1 hc
        exact (hX32 _ _ _ _ _ _ _ _ _).mp hw H locs ls hP hD hS (lv_sub hl [0, 1, 2] rfl)
      · have hw := hw.2 hc
        refine lv_aload_n F.1 F.2.1 dX1_keepLiving_26 rfl (lv_at hl 0 rfl) ?_
        refine lv_aload_n F.1 F.2.1 dX1_keepLiving_27 rfl (lv_at hl 0 rfl) ?_
        refine lv_iload_n F.1 F.2.1 dX1_keepLiving_28 rfl (lv_at hl 2 rfl) ?_
        refine xc_Vv (As := [.ref h0, .int x2]) (rest := []) (m_X1_appendFromS l D cs h0 h0_levels h0_values h0_tags h0_links h0_keys h0_living k0 hk0 x2 n0_size f0_levels f0_values f0_tags f0_links f0_keys f0_living _ hw) F (cwV 2 F.2.2.2.2 gX1_keepLiving_X1_appendFrom rfl rfl rfl (by decide +kernel) ⟨Nat.le_of_ble_eq_true rfl, Nat.le_of_ble_eq_true rfl⟩) hK hP hD hS hA [0, 1, 2, 3, 4, 5, 6] [] rfl rfl 0 rfl rfl rfl hl.1 rfl (Nat.le_of_ble_eq_true rfl) dX1_keepLiving_29 ⟨Nat.zero_le _, Nat.zero_le _⟩ (fun u H locs hw hP hD hS => ?_)
        obtain ⟨n0_size_29, f0_levels_29, f0_values_29, f0_tags_29, f0_links_29, f0_keys_29, f0_living_29⟩ := u
        have hP : va_P D vwCl (pc_X1_keepLiving cs h0 h0_levels h0_values h0_tags h0_links h0_keys h0_living k0 n0_size_29 f0_levels_29 f0_values_29 f0_tags_29 f0_links_29 f0_keys_29 f0_living_29) H := hP.sub [0, 1, 2, 3, 4, 5, 6] rfl
        have hD : va_D A (pc_X1_keepLiving cs h0 h0_levels h0_values h0_tags h0_links h0_keys h0_living k0 n0_size_29 f0_levels_29 f0_values_29 f0_tags_29 f0_links_29 f0_keys_29 f0_living_29) := hD.sub [0, 1, 2, 3, 4, 5, 6] (by decide) rfl
        try dsimp only at hw
        exact (hX32 _ _ _ _ _ _ _ _ _).mp hw H locs ls hP hD hS (lv_sub hl [0, 1, 2] rfl)
  · intro x1 x2 n0_size f0_levels f0_values f0_tags f0_links f0_keys f0_living hw
    refine (hX32 _ _ _ _ _ _ _ _ _).mpr ?_
    intro H locs ls hP hD hS hl
    refine lv_iinc (v := (x2 + 1)) (lv' := [(2, .int (x2 + 1)), (0, .ref h0), (1, .int x1)]) F.1 F.2.1 dX1_keepLiving_32 hl (k := 2) rfl rfl (by decide) rfl (fun ls hl => ?_)
    refine lv_goto (tgt := 12) F.1 F.2.1 dX1_keepLiving_35 (by decide) ?_
    exact (hX12 _ _ _ _ _ _ _ _ _).mp hw H locs ls hP hD hS (lv_sub hl [1, 2, 0] rfl)
  generalize ([] : List Loc) = locs at hS ⊢
  obtain ⟨H, hHe⟩ : ∃ H, H = s.heap := ⟨_, rfl⟩
  have hP : va_P D vwCl (pc_X1_keepLiving cs h0 h0_levels h0_values h0_tags h0_links h0_keys h0_living k0 n0_size f0_levels f0_values f0_tags f0_links f0_keys f0_living) H := by rw [hHe]; exact hP
  have hS : va_S A s.heap H locs := by rw [hHe]; exact hS
  suffices W p l e rm_X1_keepLiving s m args below meth c H locs 0 0 Z (F0 m 0 ls []) by rw [hHe] at this; exact this
  refine lv_aload_n F.1 F.2.1 dX1_keepLiving_0 rfl (lv_at hl 0 rfl) ?_
  refine xi_get (C := RX1) (T := TX1) (N := 7) (v := .int n0_size) F in_X1_keepLiving_X1 hK hP 0 rfl rfl 6 (by decide) fl_X1_keepLiving_31 rfl dX1_keepLiving_1 ?_
  refine lv_istore_n (lv' := [(1, .int n0_size), (0, .ref h0)]) F.1 F.2.1 dX1_keepLiving_4 rfl hl (by decide) rfl (fun ls hl => ?_)
  refine lv_aload_n F.1 F.2.1 dX1_keepLiving_5 rfl (lv_at hl 1 rfl) ?_
  refine lv_iconst (v := 0) F.1 F.2.1 dX1_keepLiving_6 (by decide) ?_
  refine xi_put (C := RX1) (T := TX1) (N := 7) (v := .int 0) (ty := .int) F in_X1_keepLiving_X1 tyX1 tyX1_ok nmX1 hK hP hD hS 0 rfl rfl 6 (by decide) fl_X1_keepLiving_31 rfl (tyX1_ok 6 (by decide)) rfl rfl (Nat.le_of_ble_eq_true rfl) dX1_keepLiving_7 (fun H locs hP hD hS => ?_)
  have hP : va_P D vwCl (pc_X1_keepLiving cs h0 h0_levels h0_values h0_tags h0_links h0_keys h0_living k0 0 f0_levels f0_values f0_tags f0_links f0_keys f0_living) H := hP
  have hD : va_D A (pc_X1_keepLiving cs h0 h0_levels h0_values h0_tags h0_links h0_keys h0_living k0 0 f0_levels f0_values f0_tags f0_links f0_keys f0_living) := hD
  refine lv_iconst (v := 0) F.1 F.2.1 dX1_keepLiving_10 (by decide) ?_
  refine lv_istore_n (lv' := [(2, .int 0), (1, .int n0_size), (0, .ref h0)]) F.1 F.2.1 dX1_keepLiving_11 rfl hl (by decide) rfl (fun ls hl => ?_)
  exact (hX12 _ _ _ _ _ _ _ _ _).mp hw H locs ls hP hD hS (lv_sub hl [2, 1, 0] rfl)

theorem in_X1_livingRoot_X1 : ∀ w ∈ wsX10, w ∈ wsX1_livingRoot := by decide +kernel
theorem fl_X1_livingRoot_31 : Cond.fieldLink RX1 31 "JoinBlocks$Row" "size" "I" ∈ wsX1_livingRoot := by decide +kernel
theorem fl_X1_livingRoot_27 : Cond.fieldLink RX1 27 "JoinBlocks$Row" "living" "[Z" ∈ wsX1_livingRoot := by decide +kernel
theorem fl_X1_livingRoot_24 : Cond.fieldLink RX1 24 "JoinBlocks$Row" "keys" "[I" ∈ wsX1_livingRoot := by decide +kernel
abbrev pc_X1_livingRoot (cs : Nat → ClassId) (h0 : Nat) (h0_levels : Nat) (h0_values : Nat) (h0_tags : Nat) (h0_links : Nat) (h0_keys : Nat) (h0_living : Nat) (k0 : Nat) (n0_size : Int32) (f0_levels : Nat → Int32) (f0_keys : Nat → Int32) (f0_living : Nat → Bool) : va_W := [(h0, .inr (1, [.ref h0_levels, .ref h0_values, .ref h0_tags, .ref h0_links, .ref h0_keys, .ref h0_living, .int n0_size])), (h0_levels, .inl (cs 0, k0, .inl f0_levels)), (h0_keys, .inl (cs 0, k0, .inl f0_keys)), (h0_living, .inl (cs 1, k0, .inl (bF f0_living)))]
abbrev rm_X1_livingRoot : Room := { frames := 1, cells := 0, slots := 0, locals := 21 }
def call_X1_livingRoot (k0 : Nat) (p1 : Int32) (n0_size : Int32) (f0_levels : Nat → Int32) (f0_keys : Nat → Int32) (f0_living : Nat → Bool) (Q : Int32 → Prop) : Prop := ∀ (X2 : Int32 → Prop) (X39 : Int32 → Prop),
    (∀ (x2 : Int32),
      ((n0_size ≤ x2 → Q (-1)) ∧ (¬ n0_size ≤ x2 → (∃ j15 : Nat, j15 < k0 ∧ x2 = nI j15 ∧ (((f0_living j15) = false → X39 x2) ∧ ((f0_living j15) = true → (call_X1_isRoot k0 x2 f0_levels (fun (r21 : Bool) => ((r21 = false → X39 x2) ∧ (r21 = true → (∃ j32 : Nat, j32 < k0 ∧ x2 = nI j32 ∧ ((¬ (f0_keys j32) = p1 → X39 x2) ∧ ((f0_keys j32) = p1 → Q x2)))))))))))) → X2 x2) →
    (∀ (x2 : Int32),
      X2 (x2 + 1) → X39 x2) →
    X2 0
set_option maxHeartbeats 4000000 in
set_option maxRecDepth 100000 in
theorem m_X1_livingRoot (l : Launch) (D : va_G) (cs : Nat → ClassId) (h0 : Nat) (h0_levels : Nat) (h0_values : Nat) (h0_tags : Nat) (h0_links : Nat) (h0_keys : Nat) (h0_living : Nat) (k0 : Nat) (hk0 : k0 < 2 ^ 31) (p1 : Int32) (n0_size : Int32) (f0_levels : Nat → Int32) (f0_keys : Nat → Int32) (f0_living : Nat → Bool) (Q : Int32 → Prop) (h : call_X1_livingRoot k0 p1 n0_size f0_levels f0_keys f0_living Q) : CtI l yX1_livingRoot wsX1_livingRoot rm_X1_livingRoot D cs [.ref h0, .int p1] (pc_X1_livingRoot cs h0 h0_levels h0_values h0_tags h0_links h0_keys h0_living k0 n0_size f0_levels f0_keys f0_living) (fun u : Unit => (pc_X1_livingRoot cs h0 h0_levels h0_values h0_tags h0_links h0_keys h0_living k0 n0_size f0_levels f0_keys f0_living)) (fun r u => Q r ) := by
  refine xo_I (S := Unit) (cc := cX1_livingRoot) (maxL := 3) (own := RX1) (lv0 := [(0, .ref h0), (1, .int p1)]) (by decide) rfl rfl (Nat.le_of_ble_eq_true rfl) rfl ?_
  intro p e s m args below meth c A Z ls F hK hA hP hD hS hl RET
  unfold call_X1_livingRoot at h
  obtain ⟨X2, hX2⟩ : ∃ X : Int32 → Prop, ∀ (x2 : Int32), (X x2 ↔ ∀ (H : Heap) (locs : List Loc) (ls : Array Slot), va_P D vwCl (pc_X1_livingRoot cs h0 h0_levels h0_values h0_tags h0_links h0_keys h0_living k0 n0_size f0_levels f0_keys f0_living) H → va_D A (pc_X1_livingRoot cs h0 h0_levels h0_values h0_tags h0_links h0_keys h0_living k0 n0_size f0_levels f0_keys f0_living) → va_S A s.heap H locs → lv_has ls 3 [(0, .ref h0), (1, .int p1), (2, .int x2)] → W p l e rm_X1_livingRoot s m args below meth c H locs 0 0 Z (F0 m 2 ls [])) := ⟨_, fun _ => Iff.rfl⟩
  obtain ⟨X39, hX39⟩ : ∃ X : Int32 → Prop, ∀ (x2 : Int32), (X x2 ↔ ∀ (H : Heap) (locs : List Loc) (ls : Array Slot), va_P D vwCl (pc_X1_livingRoot cs h0 h0_levels h0_values h0_tags h0_links h0_keys h0_living k0 n0_size f0_levels f0_keys f0_living) H → va_D A (pc_X1_livingRoot cs h0 h0_levels h0_values h0_tags h0_links h0_keys h0_living k0 n0_size f0_levels f0_keys f0_living) → va_S A s.heap H locs → lv_has ls 3 [(0, .ref h0), (1, .int p1), (2, .int x2)] → W p l e rm_X1_livingRoot s m args below meth c H locs 0 0 Z (F0 m 39 ls [])) := ⟨_, fun _ => Iff.rfl⟩
  refine xt_cut (h X2 X39 ?_ ?_) (fun hw => ?_)
  · intro x2 hw
    refine (hX2 _).mpr ?_
    intro H locs ls hP hD hS hl
    refine lv_iload_n F.1 F.2.1 dX1_livingRoot_2 rfl (lv_at hl 2 rfl) ?_
    refine lv_aload_n F.1 F.2.1 dX1_livingRoot_3 rfl (lv_at hl 0 rfl) ?_
    refine xi_get (C := RX1) (T := TX1) (N := 7) (v := .int n0_size) F in_X1_livingRoot_X1 hK hP 0 rfl rfl 6 (by decide) fl_X1_livingRoot_31 rfl dX1_livingRoot_4 ?_
    refine lv_icmp_ge (tgt := 45) F.1 F.2.1 dX1_livingRoot_7 (by decide) (fun hc => ?_) (fun hc => ?_)
    · have hw := hw.1 hc
      refine lv_iconst (v := (-1)) F.1 F.2.1 dX1_livingRoot_45 (by decide) ?_
      exact RET (-1) () H locs 46 ls hw hP hD hS dX1_livingRoot_46
    · have hw := hw.2 hc
      refine lv_aload_n F.1 F.2.1 dX1_livingRoot_10 rfl (lv_at hl 0 rfl) ?_
      refine xi_get (C := RX1) (T := TX1) (N := 7) (v := .ref h0_living) F in_X1_livingRoot_X1 hK hP 0 rfl rfl 5 (by decide) fl_X1_livingRoot_27 rfl dX1_livingRoot_11 ?_
      refine lv_iload_n F.1 F.2.1 dX1_livingRoot_14 rfl (lv_at hl 2 rfl) ?_
      obtain ⟨j15, hj, he, hw⟩ := hw
      refine xi_zald (j := j15) F hK hP 3 rfl hk0 hj he dX1_livingRoot_15 ?_
      refine xi_ifeqz (tgt := 39) F dX1_livingRoot_16 (by decide) (fun hc => ?_) (fun hc => ?_)
      · have hw := hw.1 hc
        exact (hX39 _).mp hw H locs ls hP hD hS (lv_sub hl [0, 1, 2] rfl)
      · have hw := hw.2 hc
        refine lv_aload_n F.1 F.2.1 dX1_livingRoot_19 rfl (lv_at hl 0 rfl) ?_
        refine lv_iload_n F.1 F.2.1 dX1_livingRoot_20 rfl (lv_at hl 2 rfl) ?_
        refine xc_Vz (As := [.int x2]) (rest := []) (m_X1_isRoot l D cs h0 h0_levels h0_values h0_tags h0_links h0_keys h0_living k0 hk0 x2 n0_size f0_levels _ hw) F (cwV 1 F.2.2.2.2 gX1_livingRoot_X1_isRoot rfl rfl rfl (by decide +kernel) ⟨Nat.le_of_ble_eq_true rfl, Nat.le_of_ble_eq_true rfl⟩) hK hP hD hS hA [0, 1] [2, 3] rfl rfl 0 rfl rfl rfl hl.1 rfl (Nat.le_of_ble_eq_true rfl) dX1_livingRoot_21 ⟨Nat.zero_le _, Nat.zero_le _⟩ (fun r21 u H locs hw hP hD hS => ?_)
        have hP : va_P D vwCl (pc_X1_livingRoot cs h0 h0_levels h0_values h0_tags h0_links h0_keys h0_living k0 n0_size f0_levels f0_keys f0_living) H := hP.sub [2, 3, 0, 1] rfl
        have hD : va_D A (pc_X1_livingRoot cs h0 h0_levels h0_values h0_tags h0_links h0_keys h0_living k0 n0_size f0_levels f0_keys f0_living) := hD.sub [2, 3, 0, 1] (by decide) rfl
        try dsimp only at hw
        refine xi_ifeqz (tgt := 39) F dX1_livingRoot_24 (by decide) (fun hc => ?_) (fun hc => ?_)
        · have hw := hw.1 hc
          exact (hX39 _).mp hw H locs ls hP hD hS (lv_sub hl [0, 1, 2] rfl)
        · have hw := hw.2 hc
          refine lv_aload_n F.1 F.2.1 dX1_livingRoot_27 rfl (lv_at hl 0 rfl) ?_
          refine xi_get (C := RX1) (T := TX1) (N := 7) (v := .ref h0_keys) F in_X1_livingRoot_X1 hK hP 0 rfl rfl 4 (by decide) fl_X1_livingRoot_24 rfl dX1_livingRoot_28 ?_
          refine lv_iload_n F.1 F.2.1 dX1_livingRoot_31 rfl (lv_at hl 2 rfl) ?_
          obtain ⟨j32, hj, he, hw⟩ := hw
          refine xi_iald (j := j32) F hK hP 2 rfl hk0 hj he dX1_livingRoot_32 ?_
          refine lv_iload_n F.1 F.2.1 dX1_livingRoot_33 rfl (lv_at hl 1 rfl) ?_
          refine lv_icmp_ne (tgt := 39) F.1 F.2.1 dX1_livingRoot_34 (by decide) (fun hc => ?_) (fun hc => ?_)
          · have hw := hw.1 hc
            exact (hX39 _).mp hw H locs ls hP hD hS (lv_sub hl [0, 1, 2] rfl)
          · have hw := hw.2 hc
            refine lv_iload_n F.1 F.2.1 dX1_livingRoot_37 rfl (lv_at hl 2 rfl) ?_
            exact RET x2 () H locs 38 ls hw hP hD hS dX1_livingRoot_38
  · intro x2 hw
    refine (hX39 _).mpr ?_
    intro H locs ls hP hD hS hl
    refine lv_iinc (v := (x2 + 1)) (lv' := [(2, .int (x2 + 1)), (0, .ref h0), (1, .int p1)]) F.1 F.2.1 dX1_livingRoot_39 hl (k := 2) rfl rfl (by decide) rfl (fun ls hl => ?_)
    refine lv_goto (tgt := 2) F.1 F.2.1 dX1_livingRoot_42 (by decide) ?_
    exact (hX2 _).mp hw H locs ls hP hD hS (lv_sub hl [1, 2, 0] rfl)
  generalize ([] : List Loc) = locs at hS ⊢
  obtain ⟨H, hHe⟩ : ∃ H, H = s.heap := ⟨_, rfl⟩
  have hP : va_P D vwCl (pc_X1_livingRoot cs h0 h0_levels h0_values h0_tags h0_links h0_keys h0_living k0 n0_size f0_levels f0_keys f0_living) H := by rw [hHe]; exact hP
  have hS : va_S A s.heap H locs := by rw [hHe]; exact hS
  suffices W p l e rm_X1_livingRoot s m args below meth c H locs 0 0 Z (F0 m 0 ls []) by rw [hHe] at this; exact this
  refine lv_iconst (v := 0) F.1 F.2.1 dX1_livingRoot_0 (by decide) ?_
  refine lv_istore_n (lv' := [(2, .int 0), (0, .ref h0), (1, .int p1)]) F.1 F.2.1 dX1_livingRoot_1 rfl hl (by decide) rfl (fun ls hl => ?_)
  exact (hX2 _).mp hw H locs ls hP hD hS (lv_sub hl [1, 2, 0] rfl)

theorem in_X1_firstBelow_X1 : ∀ w ∈ wsX10, w ∈ wsX1_firstBelow := by decide +kernel
theorem fl_X1_firstBelow_9 : Cond.fieldLink RX1 9 "JoinBlocks$Row" "levels" "[I" ∈ wsX1_firstBelow := by decide +kernel
abbrev pc_X1_firstBelow (cs : Nat → ClassId) (h0 : Nat) (h0_levels : Nat) (h0_values : Nat) (h0_tags : Nat) (h0_links : Nat) (h0_keys : Nat) (h0_living : Nat) (k0 : Nat) (n0_size : Int32) (f0_levels : Nat → Int32) : va_W := [(h0, .inr (1, [.ref h0_levels, .ref h0_values, .ref h0_tags, .ref h0_links, .ref h0_keys, .ref h0_living, .int n0_size])), (h0_levels, .inl (cs 0, k0, .inl f0_levels))]
abbrev rm_X1_firstBelow : Room := { frames := 0, cells := 0, slots := 0, locals := 0 }
def call_X1_firstBelow (k0 : Nat) (p1 : Int32) (f0_levels : Nat → Int32) (Q : Int32 → Prop) : Prop := ∀ (X2 : Int32 → Prop) (X29 : Int32 → Prop),
    (∀ (x2 : Int32),
      ((x2 ≤ 0 → X29 x2) ∧ (¬ x2 ≤ 0 → (∃ j13 : Nat, j13 < k0 ∧ (x2 - 1) = nI j13 ∧ (∃ j19 : Nat, j19 < k0 ∧ p1 = nI j19 ∧ (((f0_levels j19) ≤ (f0_levels j13) → X29 x2) ∧ (¬ (f0_levels j19) ≤ (f0_levels j13) → X2 (x2 + (-1)))))))) → X2 x2) →
    (∀ (x2 : Int32),
      Q x2 → X29 x2) →
    X2 p1
set_option maxHeartbeats 4000000 in
set_option maxRecDepth 100000 in
theorem m_X1_firstBelow (l : Launch) (D : va_G) (cs : Nat → ClassId) (h0 : Nat) (h0_levels : Nat) (h0_values : Nat) (h0_tags : Nat) (h0_links : Nat) (h0_keys : Nat) (h0_living : Nat) (k0 : Nat) (hk0 : k0 < 2 ^ 31) (p1 : Int32) (n0_size : Int32) (f0_levels : Nat → Int32) (Q : Int32 → Prop) (h : call_X1_firstBelow k0 p1 f0_levels Q) : CtI l yX1_firstBelow wsX1_firstBelow rm_X1_firstBelow D cs [.ref h0, .int p1] (pc_X1_firstBelow cs h0 h0_levels h0_values h0_tags h0_links h0_keys h0_living k0 n0_size f0_levels) (fun u : Unit => (pc_X1_firstBelow cs h0 h0_levels h0_values h0_tags h0_links h0_keys h0_living k0 n0_size f0_levels)) (fun r u => Q r ) := by
  refine xo_I (S := Unit) (cc := cX1_firstBelow) (maxL := 3) (own := RX1) (lv0 := [(0, .ref h0), (1, .int p1)]) (by decide) rfl rfl (Nat.le_of_ble_eq_true rfl) rfl ?_
  intro p e s m args below meth c A Z ls F hK hA hP hD hS hl RET
  unfold call_X1_firstBelow at h
  obtain ⟨X2, hX2⟩ : ∃ X : Int32 → Prop, ∀ (x2 : Int32), (X x2 ↔ ∀ (H : Heap) (locs : List Loc) (ls : Array Slot), va_P D vwCl (pc_X1_firstBelow cs h0 h0_levels h0_values h0_tags h0_links h0_keys h0_living k0 n0_size f0_levels) H → va_D A (pc_X1_firstBelow cs h0 h0_levels h0_values h0_tags h0_links h0_keys h0_living k0 n0_size f0_levels) → va_S A s.heap H locs → lv_has ls 3 [(0, .ref h0), (1, .int p1), (2, .int x2)] → W p l e rm_X1_firstBelow s m args below meth c H locs 0 0 Z (F0 m 2 ls [])) := ⟨_, fun _ => Iff.rfl⟩
  obtain ⟨X29, hX29⟩ : ∃ X : Int32 → Prop, ∀ (x2 : Int32), (X x2 ↔ ∀ (H : Heap) (locs : List Loc) (ls : Array Slot), va_P D vwCl (pc_X1_firstBelow cs h0 h0_levels h0_values h0_tags h0_links h0_keys h0_living k0 n0_size f0_levels) H → va_D A (pc_X1_firstBelow cs h0 h0_levels h0_values h0_tags h0_links h0_keys h0_living k0 n0_size f0_levels) → va_S A s.heap H locs → lv_has ls 3 [(2, .int x2)] → W p l e rm_X1_firstBelow s m args below meth c H locs 0 0 Z (F0 m 29 ls [])) := ⟨_, fun _ => Iff.rfl⟩
  refine xt_cut (h X2 X29 ?_ ?_) (fun hw => ?_)
  · intro x2 hw
    refine (hX2 _).mpr ?_
    intro H locs ls hP hD hS hl
    refine lv_iload_n F.1 F.2.1 dX1_firstBelow_2 rfl (lv_at hl 2 rfl) ?_
    refine lv_if_le (tgt := 29) F.1 F.2.1 dX1_firstBelow_3 (by decide) (fun hc => ?_) (fun hc => ?_)
    · have hw := hw.1 hc
      exact (hX29 _).mp hw H locs ls hP hD hS (lv_sub hl [2] rfl)
    · have hw := hw.2 hc
      refine lv_aload_n F.1 F.2.1 dX1_firstBelow_6 rfl (lv_at hl 0 rfl) ?_
      refine xi_get (C := RX1) (T := TX1) (N := 7) (v := .ref h0_levels) F in_X1_firstBelow_X1 hK hP 0 rfl rfl 0 (by decide) fl_X1_firstBelow_9 rfl dX1_firstBelow_7 ?_
      refine lv_iload_n F.1 F.2.1 dX1_firstBelow_10 rfl (lv_at hl 2 rfl) ?_
      refine lv_iconst (v := 1) F.1 F.2.1 dX1_firstBelow_11 (by decide) ?_
      refine lv_isub F.1 F.2.1 dX1_firstBelow_12 ?_
      obtain ⟨j13, hj, he, hw⟩ := hw
      refine xi_iald (j := j13) F hK hP 1 rfl hk0 hj he dX1_firstBelow_13 ?_
      refine lv_aload_n F.1 F.2.1 dX1_firstBelow_14 rfl (lv_at hl 0 rfl) ?_
      refine xi_get (C := RX1) (T := TX1) (N := 7) (v := .ref h0_levels) F in_X1_firstBelow_X1 hK hP 0 rfl rfl 0 (by decide) fl_X1_firstBelow_9 rfl dX1_firstBelow_15 ?_
      refine lv_iload_n F.1 F.2.1 dX1_firstBelow_18 rfl (lv_at hl 1 rfl) ?_
      obtain ⟨j19, hj, he, hw⟩ := hw
      refine xi_iald (j := j19) F hK hP 1 rfl hk0 hj he dX1_firstBelow_19 ?_
      refine lv_icmp_ge (tgt := 29) F.1 F.2.1 dX1_firstBelow_20 (by decide) (fun hc => ?_) (fun hc => ?_)
      · have hw := hw.1 hc
        exact (hX29 _).mp hw H locs ls hP hD hS (lv_sub hl [2] rfl)
      · have hw := hw.2 hc
        refine lv_iinc (v := (x2 + (-1))) (lv' := [(2, .int (x2 + (-1))), (0, .ref h0), (1, .int p1)]) F.1 F.2.1 dX1_firstBelow_23 hl (k := 2) rfl rfl (by decide) rfl (fun ls hl => ?_)
        refine lv_goto (tgt := 2) F.1 F.2.1 dX1_firstBelow_26 (by decide) ?_
        exact (hX2 _).mp hw H locs ls hP hD hS (lv_sub hl [1, 2, 0] rfl)
  · intro x2 hw
    refine (hX29 _).mpr ?_
    intro H locs ls hP hD hS hl
    refine lv_iload_n F.1 F.2.1 dX1_firstBelow_29 rfl (lv_at hl 0 rfl) ?_
    exact RET x2 () H locs 30 ls hw hP hD hS dX1_firstBelow_30
  generalize ([] : List Loc) = locs at hS ⊢
  obtain ⟨H, hHe⟩ : ∃ H, H = s.heap := ⟨_, rfl⟩
  have hP : va_P D vwCl (pc_X1_firstBelow cs h0 h0_levels h0_values h0_tags h0_links h0_keys h0_living k0 n0_size f0_levels) H := by rw [hHe]; exact hP
  have hS : va_S A s.heap H locs := by rw [hHe]; exact hS
  suffices W p l e rm_X1_firstBelow s m args below meth c H locs 0 0 Z (F0 m 0 ls []) by rw [hHe] at this; exact this
  refine lv_iload_n F.1 F.2.1 dX1_firstBelow_0 rfl (lv_at hl 1 rfl) ?_
  refine lv_istore_n (lv' := [(2, .int p1), (0, .ref h0), (1, .int p1)]) F.1 F.2.1 dX1_firstBelow_1 rfl hl (by decide) rfl (fun ls hl => ?_)
  exact (hX2 _).mp hw H locs ls hP hD hS (lv_sub hl [1, 2, 0] rfl)

theorem in_X1_killBlock_X1 : ∀ w ∈ wsX10, w ∈ wsX1_killBlock := by decide +kernel
theorem fl_X1_killBlock_27 : Cond.fieldLink RX1 27 "JoinBlocks$Row" "living" "[Z" ∈ wsX1_killBlock := by decide +kernel
abbrev pc_X1_killBlock (cs : Nat → ClassId) (h0 : Nat) (h0_levels : Nat) (h0_values : Nat) (h0_tags : Nat) (h0_links : Nat) (h0_keys : Nat) (h0_living : Nat) (k0 : Nat) (n0_size : Int32) (f0_levels : Nat → Int32) (f0_living : Nat → Bool) : va_W := [(h0, .inr (1, [.ref h0_levels, .ref h0_values, .ref h0_tags, .ref h0_links, .ref h0_keys, .ref h0_living, .int n0_size])), (h0_levels, .inl (cs 0, k0, .inl f0_levels)), (h0_living, .inl (cs 1, k0, .inl (bF f0_living)))]
abbrev rm_X1_killBlock : Room := { frames := 1, cells := 0, slots := 0, locals := 22 }
def call_X1_killBlock (k0 : Nat) (p1 : Int32) (f0_levels : Nat → Int32) (f0_living : Nat → Bool) (Q : Int32 → (Nat → Bool) → Prop) : Prop := ∀ (X8 : Int32 → Int32 → (Nat → Bool) → Prop),
    (∀ (x2 : Int32) (x3 : Int32) (f0_living : Nat → Bool),
      ((p1 < x3 → Q ((p1 - x2) + 1) f0_living) ∧ (¬ p1 < x3 → (∃ j19 : Nat, j19 < k0 ∧ x3 = nI j19 ∧ X8 x2 (x3 + 1) (va_up f0_living j19 false)))) → X8 x2 x3 f0_living) →
    (call_X1_firstBelow k0 p1 f0_levels (fun (r2 : Int32) => X8 r2 r2 f0_living))
set_option maxHeartbeats 4000000 in
set_option maxRecDepth 100000 in
theorem m_X1_killBlock (l : Launch) (D : va_G) (cs : Nat → ClassId) (h0 : Nat) (h0_levels : Nat) (h0_values : Nat) (h0_tags : Nat) (h0_links : Nat) (h0_keys : Nat) (h0_living : Nat) (k0 : Nat) (hk0 : k0 < 2 ^ 31) (p1 : Int32) (n0_size : Int32) (f0_levels : Nat → Int32) (f0_living : Nat → Bool) (Q : Int32 → (Nat → Bool) → Prop) (h : call_X1_killBlock k0 p1 f0_levels f0_living Q) : CtI l yX1_killBlock wsX1_killBlock rm_X1_killBlock D cs [.ref h0, .int p1] (pc_X1_killBlock cs h0 h0_levels h0_values h0_tags h0_links h0_keys h0_living k0 n0_size f0_levels f0_living) (fun u : (Nat → Bool) => (pc_X1_killBlock cs h0 h0_levels h0_values h0_tags h0_links h0_keys h0_living k0 n0_size f0_levels u)) (fun r u => Q r u) := by
  refine xo_I (S := (Nat → Bool)) (cc := cX1_killBlock) (maxL := 4) (own := RX1) (lv0 := [(0, .ref h0), (1, .int p1)]) (by decide) rfl rfl (Nat.le_of_ble_eq_true rfl) rfl ?_
  intro p e s m args below meth c A Z ls F hK hA hP hD hS hl RET
  unfold call_X1_killBlock at h
  obtain ⟨X8, hX8⟩ : ∃ X : Int32 → Int32 → (Nat → Bool) → Prop, ∀ (x2 : Int32) (x3 : Int32) (f0_living : Nat → Bool), (X x2 x3 f0_living ↔ ∀ (H : Heap) (locs : List Loc) (ls : Array Slot), va_P D vwCl (pc_X1_killBlock cs h0 h0_levels h0_values h0_tags h0_links h0_keys h0_living k0 n0_size f0_levels f0_living) H → va_D A (pc_X1_killBlock cs h0 h0_levels h0_values h0_tags h0_links h0_keys h0_living k0 n0_size f0_levels f0_living) → va_S A s.heap H locs → lv_has ls 4 [(0, .ref h0), (1, .int p1), (2, .int x2), (3, .int x3)] → W p l e rm_X1_killBlock s m args below meth c H locs 0 0 Z (F0 m 8 ls [])) := ⟨_, fun _ _ _ => Iff.rfl⟩
  refine xt_cut (h X8 ?_) (fun hw => ?_)
  · intro x2 x3 f0_living hw
    refine (hX8 _ _ _).mpr ?_
    intro H locs ls hP hD hS hl
    refine lv_iload_n F.1 F.2.1 dX1_killBlock_8 rfl (lv_at hl 3 rfl) ?_
    refine lv_iload_n F.1 F.2.1 dX1_killBlock_9 rfl (lv_at hl 1 rfl) ?_
    refine lv_icmp_gt (tgt := 26) F.1 F.2.1 dX1_killBlock_10 (by decide) (fun hc => ?_) (fun hc => ?_)
    · have hw := hw.1 hc
      refine lv_iload_n F.1 F.2.1 dX1_killBlock_26 rfl (lv_at hl 1 rfl) ?_
      refine lv_iload_n F.1 F.2.1 dX1_killBlock_27 rfl (lv_at hl 2 rfl) ?_
      refine lv_isub F.1 F.2.1 dX1_killBlock_28 ?_
      refine lv_iconst (v := 1) F.1 F.2.1 dX1_killBlock_29 (by decide) ?_
      refine lv_iadd F.1 F.2.1 dX1_killBlock_30 ?_
      exact RET ((p1 - x2) + 1) (f0_living) H locs 31 ls hw hP hD hS dX1_killBlock_31
    · have hw := hw.2 hc
      refine lv_aload_n F.1 F.2.1 dX1_killBlock_13 rfl (lv_at hl 0 rfl) ?_
      refine xi_get (C := RX1) (T := TX1) (N := 7) (v := .ref h0_living) F in_X1_killBlock_X1 hK hP 0 rfl rfl 5 (by decide) fl_X1_killBlock_27 rfl dX1_killBlock_14 ?_
      refine lv_iload_n F.1 F.2.1 dX1_killBlock_17 rfl (lv_at hl 3 rfl) ?_
      refine lv_iconst (v := 0) F.1 F.2.1 dX1_killBlock_18 (by decide) ?_
      obtain ⟨j19, hj, he, hw⟩ := hw
      refine xi_zast (v := false) (j := j19) F hK hP hD hS 2 rfl hk0 hj he rfl dX1_killBlock_19 (fun H locs hP hD hS => ?_)
      have hP : va_P D vwCl (pc_X1_killBlock cs h0 h0_levels h0_values h0_tags h0_links h0_keys h0_living k0 n0_size f0_levels (va_up f0_living j19 false)) H := hP
      have hD : va_D A (pc_X1_killBlock cs h0 h0_levels h0_values h0_tags h0_links h0_keys h0_living k0 n0_size f0_levels (va_up f0_living j19 false)) := hD
      refine lv_iinc (v := (x3 + 1)) (lv' := [(3, .int (x3 + 1)), (0, .ref h0), (1, .int p1), (2, .int x2)]) F.1 F.2.1 dX1_killBlock_20 hl (k := 3) rfl rfl (by decide) rfl (fun ls hl => ?_)
      refine lv_goto (tgt := 8) F.1 F.2.1 dX1_killBlock_23 (by decide) ?_
      exact (hX8 _ _ _).mp hw H locs ls hP hD hS (lv_sub hl [1, 2, 3, 0] rfl)
  generalize ([] : List Loc) = locs at hS ⊢
  obtain ⟨H, hHe⟩ : ∃ H, H = s.heap := ⟨_, rfl⟩
  have hP : va_P D vwCl (pc_X1_killBlock cs h0 h0_levels h0_values h0_tags h0_links h0_keys h0_living k0 n0_size f0_levels f0_living) H := by rw [hHe]; exact hP
  have hS : va_S A s.heap H locs := by rw [hHe]; exact hS
  suffices W p l e rm_X1_killBlock s m args below meth c H locs 0 0 Z (F0 m 0 ls []) by rw [hHe] at this; exact this
  refine lv_aload_n F.1 F.2.1 dX1_killBlock_0 rfl (lv_at hl 0 rfl) ?_
  refine lv_iload_n F.1 F.2.1 dX1_killBlock_1 rfl (lv_at hl 1 rfl) ?_
  refine xc_Vi (As := [.int p1]) (rest := []) (m_X1_firstBelow l D cs h0 h0_levels h0_values h0_tags h0_links h0_keys h0_living k0 hk0 p1 n0_size f0_levels _ hw) F (cwV 1 F.2.2.2.2 gX1_killBlock_X1_firstBelow rfl rfl rfl (by decide +kernel) ⟨Nat.le_of_ble_eq_true rfl, Nat.le_of_ble_eq_true rfl⟩) hK hP hD hS hA [0, 1] [2] rfl rfl 0 rfl rfl rfl hl.1 rfl (Nat.le_of_ble_eq_true rfl) dX1_killBlock_2 ⟨Nat.zero_le _, Nat.zero_le _⟩ (fun r2 u H locs hw hP hD hS => ?_)
  have hP : va_P D vwCl (pc_X1_killBlock cs h0 h0_levels h0_values h0_tags h0_links h0_keys h0_living k0 n0_size f0_levels f0_living) H := hP.sub [1, 2, 0] rfl
  have hD : va_D A (pc_X1_killBlock cs h0 h0_levels h0_values h0_tags h0_links h0_keys h0_living k0 n0_size f0_levels f0_living) := hD.sub [1, 2, 0] (by decide) rfl
  try dsimp only at hw
  refine lv_istore_n (lv' := [(2, .int r2), (0, .ref h0), (1, .int p1)]) F.1 F.2.1 dX1_killBlock_5 rfl hl (by decide) rfl (fun ls hl => ?_)
  refine lv_iload_n F.1 F.2.1 dX1_killBlock_6 rfl (lv_at hl 0 rfl) ?_
  refine lv_istore_n (lv' := [(3, .int r2), (2, .int r2), (0, .ref h0), (1, .int p1)]) F.1 F.2.1 dX1_killBlock_7 rfl hl (by decide) rfl (fun ls hl => ?_)
  exact (hX8 _ _ _).mp hw H locs ls hP hD hS (lv_sub hl [2, 3, 1, 0] rfl)

theorem in_X1_countLiving_X1 : ∀ w ∈ wsX10, w ∈ wsX1_countLiving := by decide +kernel
theorem fl_X1_countLiving_31 : Cond.fieldLink RX1 31 "JoinBlocks$Row" "size" "I" ∈ wsX1_countLiving := by decide +kernel
theorem fl_X1_countLiving_27 : Cond.fieldLink RX1 27 "JoinBlocks$Row" "living" "[Z" ∈ wsX1_countLiving := by decide +kernel
theorem fl_X1_countLiving_9 : Cond.fieldLink RX1 9 "JoinBlocks$Row" "levels" "[I" ∈ wsX1_countLiving := by decide +kernel
abbrev pc_X1_countLiving (cs : Nat → ClassId) (h0 : Nat) (h0_levels : Nat) (h0_values : Nat) (h0_tags : Nat) (h0_links : Nat) (h0_keys : Nat) (h0_living : Nat) (k0 : Nat) (n0_size : Int32) (f0_levels : Nat → Int32) (f0_living : Nat → Bool) : va_W := [(h0, .inr (1, [.ref h0_levels, .ref h0_values, .ref h0_tags, .ref h0_links, .ref h0_keys, .ref h0_living, .int n0_size])), (h0_levels, .inl (cs 0, k0, .inl f0_levels)), (h0_living, .inl (cs 1, k0, .inl (bF f0_living)))]
abbrev rm_X1_countLiving : Room := { frames := 0, cells := 0, slots := 0, locals := 0 }
def call_X1_countLiving (k0 : Nat) (p1 : Int32) (n0_size : Int32) (f0_levels : Nat → Int32) (f0_living : Nat → Bool) (Q : Int32 → Prop) : Prop := ∀ (X4 : Int32 → Int32 → Prop) (X34 : Int32 → Int32 → Prop),
    (∀ (x2 : Int32) (x3 : Int32),
      ((n0_size ≤ x3 → Q x2) ∧ (¬ n0_size ≤ x3 → (∃ j17 : Nat, j17 < k0 ∧ x3 = nI j17 ∧ (((f0_living j17) = false → X34 x2 x3) ∧ ((f0_living j17) = true → (∃ j26 : Nat, j26 < k0 ∧ x3 = nI j26 ∧ (((f0_levels j26) < p1 → X34 x2 x3) ∧ (¬ (f0_levels j26) < p1 → X34 (x2 + 1) x3)))))))) → X4 x2 x3) →
    (∀ (x2 : Int32) (x3 : Int32),
      X4 x2 (x3 + 1) → X34 x2 x3) →
    X4 0 0
set_option maxHeartbeats 4000000 in
set_option maxRecDepth 100000 in
theorem m_X1_countLiving (l : Launch) (D : va_G) (cs : Nat → ClassId) (h0 : Nat) (h0_levels : Nat) (h0_values : Nat) (h0_tags : Nat) (h0_links : Nat) (h0_keys : Nat) (h0_living : Nat) (k0 : Nat) (hk0 : k0 < 2 ^ 31) (p1 : Int32) (n0_size : Int32) (f0_levels : Nat → Int32) (f0_living : Nat → Bool) (Q : Int32 → Prop) (h : call_X1_countLiving k0 p1 n0_size f0_levels f0_living Q) : CtI l yX1_countLiving wsX1_countLiving rm_X1_countLiving D cs [.ref h0, .int p1] (pc_X1_countLiving cs h0 h0_levels h0_values h0_tags h0_links h0_keys h0_living k0 n0_size f0_levels f0_living) (fun u : Unit => (pc_X1_countLiving cs h0 h0_levels h0_values h0_tags h0_links h0_keys h0_living k0 n0_size f0_levels f0_living)) (fun r u => Q r ) := by
  refine xo_I (S := Unit) (cc := cX1_countLiving) (maxL := 4) (own := RX1) (lv0 := [(0, .ref h0), (1, .int p1)]) (by decide) rfl rfl (Nat.le_of_ble_eq_true rfl) rfl ?_
  intro p e s m args below meth c A Z ls F hK hA hP hD hS hl RET
  unfold call_X1_countLiving at h
  obtain ⟨X4, hX4⟩ : ∃ X : Int32 → Int32 → Prop, ∀ (x2 : Int32) (x3 : Int32), (X x2 x3 ↔ ∀ (H : Heap) (locs : List Loc) (ls : Array Slot), va_P D vwCl (pc_X1_countLiving cs h0 h0_levels h0_values h0_tags h0_links h0_keys h0_living k0 n0_size f0_levels f0_living) H → va_D A (pc_X1_countLiving cs h0 h0_levels h0_values h0_tags h0_links h0_keys h0_living k0 n0_size f0_levels f0_living) → va_S A s.heap H locs → lv_has ls 4 [(0, .ref h0), (1, .int p1), (2, .int x2), (3, .int x3)] → W p l e rm_X1_countLiving s m args below meth c H locs 0 0 Z (F0 m 4 ls [])) := ⟨_, fun _ _ => Iff.rfl⟩
  obtain ⟨X34, hX34⟩ : ∃ X : Int32 → Int32 → Prop, ∀ (x2 : Int32) (x3 : Int32), (X x2 x3 ↔ ∀ (H : Heap) (locs : List Loc) (ls : Array Slot), va_P D vwCl (pc_X1_countLiving cs h0 h0_levels h0_values h0_tags h0_links h0_keys h0_living k0 n0_size f0_levels f0_living) H → va_D A (pc_X1_countLiving cs h0 h0_levels h0_values h0_tags h0_links h0_keys h0_living k0 n0_size f0_levels f0_living) → va_S A s.heap H locs → lv_has ls 4 [(0, .ref h0), (1, .int p1), (2, .int x2), (3, .int x3)] → W p l e rm_X1_countLiving s m args below meth c H locs 0 0 Z (F0 m 34 ls [])) := ⟨_, fun _ _ => Iff.rfl⟩
  refine xt_cut (h X4 X34 ?_ ?_) (fun hw => ?_)
  · intro x2 x3 hw
    refine (hX4 _ _).mpr ?_
    intro H locs ls hP hD hS hl
    refine lv_iload_n F.1 F.2.1 dX1_countLiving_4 rfl (lv_at hl 3 rfl) ?_
    refine lv_aload_n F.1 F.2.1 dX1_countLiving_5 rfl (lv_at hl 0 rfl) ?_
    refine xi_get (C := RX1) (T := TX1) (N := 7) (v := .int n0_size) F in_X1_countLiving_X1 hK hP 0 rfl rfl 6 (by decide) fl_X1_countLiving_31 rfl dX1_countLiving_6 ?_
    refine lv_icmp_ge (tgt := 40) F.1 F.2.1 dX1_countLiving_9 (by decide) (fun hc => ?_) (fun hc => ?_)
    · have hw := hw.1 hc
      refine lv_iload_n F.1 F.2.1 dX1_countLiving_40 rfl (lv_at hl 2 rfl) ?_
      exact RET x2 () H locs 41 ls hw hP hD hS dX1_countLiving_41
    · have hw := hw.2 hc
      refine lv_aload_n F.1 F.2.1 dX1_countLiving_12 rfl (lv_at hl 0 rfl) ?_
      refine xi_get (C := RX1) (T := TX1) (N := 7) (v := .ref h0_living) F in_X1_countLiving_X1 hK hP 0 rfl rfl 5 (by decide) fl_X1_countLiving_27 rfl dX1_countLiving_13 ?_
      refine lv_iload_n F.1 F.2.1 dX1_countLiving_16 rfl (lv_at hl 3 rfl) ?_
      obtain ⟨j17, hj, he, hw⟩ := hw
      refine xi_zald (j := j17) F hK hP 2 rfl hk0 hj he dX1_countLiving_17 ?_
      refine xi_ifeqz (tgt := 34) F dX1_countLiving_18 (by decide) (fun hc => ?_) (fun hc => ?_)
      · have hw := hw.1 hc
        exact (hX34 _ _).mp hw H locs ls hP hD hS (lv_sub hl [0, 1, 2, 3] rfl)
      · have hw := hw.2 hc
        refine lv_aload_n F.1 F.2.1 dX1_countLiving_21 rfl (lv_at hl 0 rfl) ?_
        refine xi_get (C := RX1) (T := TX1) (N := 7) (v := .ref h0_levels) F in_X1_countLiving_X1 hK hP 0 rfl rfl 0 (by decide) fl_X1_countLiving_9 rfl dX1_countLiving_22 ?_
        refine lv_iload_n F.1 F.2.1 dX1_countLiving_25 rfl (lv_at hl 3 rfl) ?_
        obtain ⟨j26, hj, he, hw⟩ := hw
        refine xi_iald (j := j26) F hK hP 1 rfl hk0 hj he dX1_countLiving_26 ?_
        refine lv_iload_n F.1 F.2.1 dX1_countLiving_27 rfl (lv_at hl 1 rfl) ?_
        refine lv_icmp_lt (tgt := 34) F.1 F.2.1 dX1_countLiving_28 (by decide) (fun hc => ?_) (fun hc => ?_)
        · have hw := hw.1 hc
          exact (hX34 _ _).mp hw H locs ls hP hD hS (lv_sub hl [0, 1, 2, 3] rfl)
        · have hw := hw.2 hc
          refine lv_iinc (v := (x2 + 1)) (lv' := [(2, .int (x2 + 1)), (0, .ref h0), (1, .int p1), (3, .int x3)]) F.1 F.2.1 dX1_countLiving_31 hl (k := 2) rfl rfl (by decide) rfl (fun ls hl => ?_)
          exact (hX34 _ _).mp hw H locs ls hP hD hS (lv_sub hl [1, 2, 0, 3] rfl)
  · intro x2 x3 hw
    refine (hX34 _ _).mpr ?_
    intro H locs ls hP hD hS hl
    refine lv_iinc (v := (x3 + 1)) (lv' := [(3, .int (x3 + 1)), (0, .ref h0), (1, .int p1), (2, .int x2)]) F.1 F.2.1 dX1_countLiving_34 hl (k := 3) rfl rfl (by decide) rfl (fun ls hl => ?_)
    refine lv_goto (tgt := 4) F.1 F.2.1 dX1_countLiving_37 (by decide) ?_
    exact (hX4 _ _).mp hw H locs ls hP hD hS (lv_sub hl [1, 2, 3, 0] rfl)
  generalize ([] : List Loc) = locs at hS ⊢
  obtain ⟨H, hHe⟩ : ∃ H, H = s.heap := ⟨_, rfl⟩
  have hP : va_P D vwCl (pc_X1_countLiving cs h0 h0_levels h0_values h0_tags h0_links h0_keys h0_living k0 n0_size f0_levels f0_living) H := by rw [hHe]; exact hP
  have hS : va_S A s.heap H locs := by rw [hHe]; exact hS
  suffices W p l e rm_X1_countLiving s m args below meth c H locs 0 0 Z (F0 m 0 ls []) by rw [hHe] at this; exact this
  refine lv_iconst (v := 0) F.1 F.2.1 dX1_countLiving_0 (by decide) ?_
  refine lv_istore_n (lv' := [(2, .int 0), (0, .ref h0), (1, .int p1)]) F.1 F.2.1 dX1_countLiving_1 rfl hl (by decide) rfl (fun ls hl => ?_)
  refine lv_iconst (v := 0) F.1 F.2.1 dX1_countLiving_2 (by decide) ?_
  refine lv_istore_n (lv' := [(3, .int 0), (2, .int 0), (0, .ref h0), (1, .int p1)]) F.1 F.2.1 dX1_countLiving_3 rfl hl (by decide) rfl (fun ls hl => ?_)
  exact (hX4 _ _).mp hw H locs ls hP hD hS (lv_sub hl [2, 3, 1, 0] rfl)

theorem in_X1_parentOf_X1 : ∀ w ∈ wsX10, w ∈ wsX1_parentOf := by decide +kernel
theorem fl_X1_parentOf_31 : Cond.fieldLink RX1 31 "JoinBlocks$Row" "size" "I" ∈ wsX1_parentOf := by decide +kernel
theorem fl_X1_parentOf_9 : Cond.fieldLink RX1 9 "JoinBlocks$Row" "levels" "[I" ∈ wsX1_parentOf := by decide +kernel
abbrev pc_X1_parentOf (cs : Nat → ClassId) (h0 : Nat) (h0_levels : Nat) (h0_values : Nat) (h0_tags : Nat) (h0_links : Nat) (h0_keys : Nat) (h0_living : Nat) (k0 : Nat) (n0_size : Int32) (f0_levels : Nat → Int32) : va_W := [(h0, .inr (1, [.ref h0_levels, .ref h0_values, .ref h0_tags, .ref h0_links, .ref h0_keys, .ref h0_living, .int n0_size])), (h0_levels, .inl (cs 0, k0, .inl f0_levels))]
abbrev rm_X1_parentOf : Room := { frames := 0, cells := 0, slots := 0, locals := 0 }
def call_X1_parentOf (k0 : Nat) (p1 : Int32) (n0_size : Int32) (f0_levels : Nat → Int32) (Q : Int32 → Prop) : Prop := ∀ (X4 : Int32 → Prop),
    (∀ (x2 : Int32),
      ((n0_size ≤ x2 → Q (-1)) ∧ (¬ n0_size ≤ x2 → (∃ j17 : Nat, j17 < k0 ∧ x2 = nI j17 ∧ (∃ j23 : Nat, j23 < k0 ∧ p1 = nI j23 ∧ (((f0_levels j17) ≤ (f0_levels j23) → X4 (x2 + 1)) ∧ (¬ (f0_levels j17) ≤ (f0_levels j23) → Q x2)))))) → X4 x2) →
    X4 (p1 + 1)
set_option maxHeartbeats 4000000 in
set_option maxRecDepth 100000 in
theorem m_X1_parentOf (l : Launch) (D : va_G) (cs : Nat → ClassId) (h0 : Nat) (h0_levels : Nat) (h0_values : Nat) (h0_tags : Nat) (h0_links : Nat) (h0_keys : Nat) (h0_living : Nat) (k0 : Nat) (hk0 : k0 < 2 ^ 31) (p1 : Int32) (n0_size : Int32) (f0_levels : Nat → Int32) (Q : Int32 → Prop) (h : call_X1_parentOf k0 p1 n0_size f0_levels Q) : CtI l yX1_parentOf wsX1_parentOf rm_X1_parentOf D cs [.ref h0, .int p1] (pc_X1_parentOf cs h0 h0_levels h0_values h0_tags h0_links h0_keys h0_living k0 n0_size f0_levels) (fun u : Unit => (pc_X1_parentOf cs h0 h0_levels h0_values h0_tags h0_links h0_keys h0_living k0 n0_size f0_levels)) (fun r u => Q r ) := by
  refine xo_I (S := Unit) (cc := cX1_parentOf) (maxL := 3) (own := RX1) (lv0 := [(0, .ref h0), (1, .int p1)]) (by decide) rfl rfl (Nat.le_of_ble_eq_true rfl) rfl ?_
  intro p e s m args below meth c A Z ls F hK hA hP hD hS hl RET
  unfold call_X1_parentOf at h
  obtain ⟨X4, hX4⟩ : ∃ X : Int32 → Prop, ∀ (x2 : Int32), (X x2 ↔ ∀ (H : Heap) (locs : List Loc) (ls : Array Slot), va_P D vwCl (pc_X1_parentOf cs h0 h0_levels h0_values h0_tags h0_links h0_keys h0_living k0 n0_size f0_levels) H → va_D A (pc_X1_parentOf cs h0 h0_levels h0_values h0_tags h0_links h0_keys h0_living k0 n0_size f0_levels) → va_S A s.heap H locs → lv_has ls 3 [(0, .ref h0), (1, .int p1), (2, .int x2)] → W p l e rm_X1_parentOf s m args below meth c H locs 0 0 Z (F0 m 4 ls [])) := ⟨_, fun _ => Iff.rfl⟩
  refine xt_cut (h X4 ?_) (fun hw => ?_)
  · intro x2 hw
    refine (hX4 _).mpr ?_
    intro H locs ls hP hD hS hl
    refine lv_iload_n F.1 F.2.1 dX1_parentOf_4 rfl (lv_at hl 2 rfl) ?_
    refine lv_aload_n F.1 F.2.1 dX1_parentOf_5 rfl (lv_at hl 0 rfl) ?_
    refine xi_get (C := RX1) (T := TX1) (N := 7) (v := .int n0_size) F in_X1_parentOf_X1 hK hP 0 rfl rfl 6 (by decide) fl_X1_parentOf_31 rfl dX1_parentOf_6 ?_
    refine lv_icmp_ge (tgt := 35) F.1 F.2.1 dX1_parentOf_9 (by decide) (fun hc => ?_) (fun hc => ?_)
    · have hw := hw.1 hc
      refine lv_iconst (v := (-1)) F.1 F.2.1 dX1_parentOf_35 (by decide) ?_
      exact RET (-1) () H locs 36 ls hw hP hD hS dX1_parentOf_36
    · have hw := hw.2 hc
      refine lv_aload_n F.1 F.2.1 dX1_parentOf_12 rfl (lv_at hl 0 rfl) ?_
      refine xi_get (C := RX1) (T := TX1) (N := 7) (v := .ref h0_levels) F in_X1_parentOf_X1 hK hP 0 rfl rfl 0 (by decide) fl_X1_parentOf_9 rfl dX1_parentOf_13 ?_
      refine lv_iload_n F.1 F.2.1 dX1_parentOf_16 rfl (lv_at hl 2 rfl) ?_
      obtain ⟨j17, hj, he, hw⟩ := hw
      refine xi_iald (j := j17) F hK hP 1 rfl hk0 hj he dX1_parentOf_17 ?_
      refine lv_aload_n F.1 F.2.1 dX1_parentOf_18 rfl (lv_at hl 0 rfl) ?_
      refine xi_get (C := RX1) (T := TX1) (N := 7) (v := .ref h0_levels) F in_X1_parentOf_X1 hK hP 0 rfl rfl 0 (by decide) fl_X1_parentOf_9 rfl dX1_parentOf_19 ?_
      refine lv_iload_n F.1 F.2.1 dX1_parentOf_22 rfl (lv_at hl 1 rfl) ?_
      obtain ⟨j23, hj, he, hw⟩ := hw
      refine xi_iald (j := j23) F hK hP 1 rfl hk0 hj he dX1_parentOf_23 ?_
      refine lv_icmp_le (tgt := 29) F.1 F.2.1 dX1_parentOf_24 (by decide) (fun hc => ?_) (fun hc => ?_)
      · have hw := hw.1 hc
        refine lv_iinc (v := (x2 + 1)) (lv' := [(2, .int (x2 + 1)), (0, .ref h0), (1, .int p1)]) F.1 F.2.1 dX1_parentOf_29 hl (k := 2) rfl rfl (by decide) rfl (fun ls hl => ?_)
        refine lv_goto (tgt := 4) F.1 F.2.1 dX1_parentOf_32 (by decide) ?_
        exact (hX4 _).mp hw H locs ls hP hD hS (lv_sub hl [1, 2, 0] rfl)
      · have hw := hw.2 hc
        refine lv_iload_n F.1 F.2.1 dX1_parentOf_27 rfl (lv_at hl 2 rfl) ?_
        exact RET x2 () H locs 28 ls hw hP hD hS dX1_parentOf_28
  generalize ([] : List Loc) = locs at hS ⊢
  obtain ⟨H, hHe⟩ : ∃ H, H = s.heap := ⟨_, rfl⟩
  have hP : va_P D vwCl (pc_X1_parentOf cs h0 h0_levels h0_values h0_tags h0_links h0_keys h0_living k0 n0_size f0_levels) H := by rw [hHe]; exact hP
  have hS : va_S A s.heap H locs := by rw [hHe]; exact hS
  suffices W p l e rm_X1_parentOf s m args below meth c H locs 0 0 Z (F0 m 0 ls []) by rw [hHe] at this; exact this
  refine lv_iload_n F.1 F.2.1 dX1_parentOf_0 rfl (lv_at hl 1 rfl) ?_
  refine lv_iconst (v := 1) F.1 F.2.1 dX1_parentOf_1 (by decide) ?_
  refine lv_iadd F.1 F.2.1 dX1_parentOf_2 ?_
  refine lv_istore_n (lv' := [(2, .int (p1 + 1)), (0, .ref h0), (1, .int p1)]) F.1 F.2.1 dX1_parentOf_3 rfl hl (by decide) rfl (fun ls hl => ?_)
  exact (hX4 _).mp hw H locs ls hP hD hS (lv_sub hl [1, 2, 0] rfl)
