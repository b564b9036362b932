theorem in_X2_has_X2 : ∀ w ∈ wsX20, w ∈ wsX2_has := by decide +kernel
theorem fl_X2_has_9 : Cond.fieldLink RX2 9 "JoinBlocks$ScoredSet" "members" "[Z" ∈ wsX2_has := by decide +kernel
abbrev pc_X2_has (cs : Nat → ClassId) (h0 : Nat) (h0_members : Nat) (h0_scores : Nat) (n0_size : Int32) (f0_members : Nat → Bool) : va_W := [(h0, .inr (2, [.ref h0_members, .ref h0_scores, .int n0_size])), (h0_members, .inl (cs 1, 200, .inl (bF f0_members)))]
abbrev rm_X2_has : Room := { frames := 0, cells := 0, slots := 0, locals := 0 }
def call_X2_has (p1 : Int32) (f0_members : Nat → Bool) (Q : Bool → Prop) : Prop := ∀ (X24 : Prop) (X25 : Bool → Prop),
    (X25 false → X24) →
    (∀ (s0 : Bool),
      Q s0 → X25 s0) →
    ((p1 < 0 → X24) ∧ (¬ p1 < 0 → ((200 ≤ p1 → X24) ∧ (¬ 200 ≤ p1 → (∃ j16 : Nat, j16 < 200 ∧ p1 = nI j16 ∧ (((f0_members j16) = false → X24) ∧ ((f0_members j16) = true → X25 true)))))))
set_option maxHeartbeats 4000000 in
set_option maxRecDepth 100000 in
theorem m_X2_has (l : Launch) (D : va_G) (cs : Nat → ClassId) (h0 : Nat) (h0_members : Nat) (h0_scores : Nat)  (p1 : Int32) (n0_size : Int32) (f0_members : Nat → Bool) (Q : Bool → Prop) (h : call_X2_has p1 f0_members Q) : CtZ l yX2_has wsX2_has rm_X2_has D cs [.ref h0, .int p1] (pc_X2_has cs h0 h0_members h0_scores n0_size f0_members) (fun u : Unit => (pc_X2_has cs h0 h0_members h0_scores n0_size f0_members)) (fun r u => Q r ) := by
  refine xo_Z (S := Unit) (cc := cX2_has) (maxL := 2) (own := RX2) (lv0 := [(0, .ref h0), (1, .int p1)]) (by decide) rfl rfl (Nat.le_of_ble_eq_true rfl) rfl ?_
  intro p e s m args below meth c A Z ls F hK hA hP hD hS hl RET
  unfold call_X2_has at h
  obtain ⟨X24, hX24⟩ : ∃ X : Prop, (X  ↔ ∀ (H : Heap) (locs : List Loc) (ls : Array Slot), va_P D vwCl (pc_X2_has cs h0 h0_members h0_scores n0_size f0_members) H → va_D A (pc_X2_has cs h0 h0_members h0_scores n0_size f0_members) → va_S A s.heap H locs → lv_has ls 2 [] → W p l e rm_X2_has s m args below meth c H locs 0 0 Z (F0 m 24 ls [])) := ⟨_, Iff.rfl⟩
  obtain ⟨X25, hX25⟩ : ∃ X : Bool → Prop, ∀ (s0 : Bool), (X s0 ↔ ∀ (H : Heap) (locs : List Loc) (ls : Array Slot), va_P D vwCl (pc_X2_has cs h0 h0_members h0_scores n0_size f0_members) H → va_D A (pc_X2_has cs h0 h0_members h0_scores n0_size f0_members) → va_S A s.heap H locs → lv_has ls 2 [] → W p l e rm_X2_has s m args below meth c H locs 0 0 Z (F0 m 25 ls [.int (b2i s0)])) := ⟨_, fun _ => Iff.rfl⟩
  refine xt_cut (h X24 X25 ?_ ?_) (fun hw => ?_)
  · intro  hw
    refine (hX24).mpr ?_
    intro H locs ls hP hD hS hl
    refine lv_iconst (v := 0) F.1 F.2.1 dX2_has_24 (by decide) ?_
    exact (hX25 _).mp hw H locs ls hP hD hS (lv_sub hl [] rfl)
  · intro s0 hw
    refine (hX25 _).mpr ?_
    intro H locs ls hP hD hS hl
    exact RET s0 () H locs 25 ls _ rfl hw hP hD hS dX2_has_25
  generalize ([] : List Loc) = locs at hS ⊢
  obtain ⟨H, hHe⟩ : ∃ H, H = s.heap := ⟨_, rfl⟩
  have hP : va_P D vwCl (pc_X2_has cs h0 h0_members h0_scores n0_size f0_members) H := by rw [hHe]; exact hP
  have hS : va_S A s.heap H locs := by rw [hHe]; exact hS
  suffices W p l e rm_X2_has s m args below meth c H locs 0 0 Z (F0 m 0 ls []) by rw [hHe] at this; exact this
  refine lv_iload_n F.1 F.2.1 dX2_has_0 rfl (lv_at hl 1 rfl) ?_
  refine lv_if_lt (tgt := 24) F.1 F.2.1 dX2_has_1 (by decide) (fun hc => ?_) (fun hc => ?_)
  · have hw := hw.1 hc
    exact (hX24).mp hw H locs ls hP hD hS (lv_sub hl [] rfl)
  · have hw := hw.2 hc
    refine lv_iload_n F.1 F.2.1 dX2_has_4 rfl (lv_at hl 1 rfl) ?_
    refine lv_sipush (v := 200) F.1 F.2.1 dX2_has_5 (by decide) ?_
    refine lv_icmp_ge (tgt := 24) F.1 F.2.1 dX2_has_8 (by decide) (fun hc => ?_) (fun hc => ?_)
    · have hw := hw.1 hc
      exact (hX24).mp hw H locs ls hP hD hS (lv_sub hl [] rfl)
    · have hw := hw.2 hc
      refine lv_aload_n F.1 F.2.1 dX2_has_11 rfl (lv_at hl 0 rfl) ?_
      refine xi_get (C := RX2) (T := TX2) (N := 3) (v := .ref h0_members) F in_X2_has_X2 hK hP 0 rfl rfl 0 (by decide) fl_X2_has_9 rfl dX2_has_12 ?_
      refine lv_iload_n F.1 F.2.1 dX2_has_15 rfl (lv_at hl 1 rfl) ?_
      obtain ⟨j16, hj, he, hw⟩ := hw
      refine xi_zald (j := j16) F hK hP 1 rfl (by decide) hj he dX2_has_16 ?_
      refine xi_ifeqz (tgt := 24) F dX2_has_17 (by decide) (fun hc => ?_) (fun hc => ?_)
      · have hw := hw.1 hc
        exact (hX24).mp hw H locs ls hP hD hS (lv_sub hl [] rfl)
      · have hw := hw.2 hc
        refine lv_iconst (v := 1) F.1 F.2.1 dX2_has_20 (by decide) ?_
        refine lv_goto (tgt := 25) F.1 F.2.1 dX2_has_21 (by decide) ?_
        exact (hX25 _).mp hw H locs ls hP hD hS (lv_sub hl [] rfl)

theorem in_X2_clear_X2 : ∀ w ∈ wsX20, w ∈ wsX2_clear := by decide +kernel
theorem fl_X2_clear_19 : Cond.fieldLink RX2 19 "JoinBlocks$ScoredSet" "size" "I" ∈ wsX2_clear := by decide +kernel
theorem fl_X2_clear_9 : Cond.fieldLink RX2 9 "JoinBlocks$ScoredSet" "members" "[Z" ∈ wsX2_clear := by decide +kernel
abbrev pc_X2_clear (cs : Nat → ClassId) (h0 : Nat) (h0_members : Nat) (h0_scores : Nat) (n0_size : Int32) (f0_members : Nat → Bool) : va_W := [(h0, .inr (2, [.ref h0_members, .ref h0_scores, .int n0_size])), (h0_members, .inl (cs 1, 200, .inl (bF f0_members)))]
abbrev rm_X2_clear : Room := { frames := 0, cells := 0, slots := 0, locals := 0 }
def call_X2_clear (n0_size : Int32) (f0_members : Nat → Bool) (Q : Int32 → (Nat → Bool) → Prop) : Prop := ∀ (X2 : Int32 → Int32 → (Nat → Bool) → Prop),
    (∀ (x1 : Int32) (n0_size : Int32) (f0_members : Nat → Bool),
      ((200 ≤ x1 → Q 0 f0_members) ∧ (¬ 200 ≤ x1 → (∃ j15 : Nat, j15 < 200 ∧ x1 = nI j15 ∧ X2 (x1 + 1) n0_size (va_up f0_members j15 false)))) → X2 x1 n0_size f0_members) →
    X2 0 n0_size f0_members
set_option maxHeartbeats 4000000 in
set_option maxRecDepth 100000 in
theorem m_X2_clear (l : Launch) (D : va_G) (cs : Nat → ClassId) (h0 : Nat) (h0_members : Nat) (h0_scores : Nat)  (n0_size : Int32) (f0_members : Nat → Bool) (Q : Int32 → (Nat → Bool) → Prop) (h : call_X2_clear n0_size f0_members Q) : CtV l yX2_clear wsX2_clear rm_X2_clear D cs [.ref h0] (pc_X2_clear cs h0 h0_members h0_scores n0_size f0_members) (fun u : Int32 × (Nat → Bool) => (pc_X2_clear cs h0 h0_members h0_scores u.1 u.2)) 0 0 (fun u => Q u.1 u.2) := by
  refine xo_V (S := Int32 × (Nat → Bool)) (cc := cX2_clear) (maxL := 2) (own := RX2) (lv0 := [(0, .ref h0)]) (by decide) rfl rfl (Nat.le_of_ble_eq_true rfl) rfl ?_
  intro p e s m args below meth c A Z ls hnm F hK hA hP hD hS hl RET
  unfold call_X2_clear at h
  obtain ⟨X2, hX2⟩ : ∃ X : Int32 → Int32 → (Nat → Bool) → Prop, ∀ (x1 : Int32) (n0_size : Int32) (f0_members : Nat → Bool), (X x1 n0_size f0_members ↔ ∀ (H : Heap) (locs : List Loc) (ls : Array Slot), va_P D vwCl (pc_X2_clear cs h0 h0_members h0_scores n0_size f0_members) H → va_D A (pc_X2_clear cs h0 h0_members h0_scores n0_size f0_members) → va_S A s.heap H locs → lv_has ls 2 [(0, .ref h0), (1, .int x1)] → W p l e rm_X2_clear s m args below meth c H locs 0 0 Z (F0 m 2 ls [])) := ⟨_, fun _ _ _ => Iff.rfl⟩
  refine xt_cut (h X2 ?_) (fun hw => ?_)
  · intro x1 n0_size f0_members hw
    refine (hX2 _ _ _).mpr ?_
    intro H locs ls hP hD hS hl
    refine lv_iload_n F.1 F.2.1 dX2_clear_2 rfl (lv_at hl 1 rfl) ?_
    refine lv_sipush (v := 200) F.1 F.2.1 dX2_clear_3 (by decide) ?_
    refine lv_icmp_ge (tgt := 22) F.1 F.2.1 dX2_clear_6 (by decide) (fun hc => ?_) (fun hc => ?_)
    · have hw := hw.1 hc
      refine lv_aload_n F.1 F.2.1 dX2_clear_22 rfl (lv_at hl 0 rfl) ?_
      refine lv_iconst (v := 0) F.1 F.2.1 dX2_clear_23 (by decide) ?_
      refine xi_put (C := RX2) (T := TX2) (N := 3) (v := .int 0) (ty := .int) F in_X2_clear_X2 tyX2 tyX2_ok nmX2 hK hP hD hS 0 rfl rfl 2 (by decide) fl_X2_clear_19 rfl (tyX2_ok 2 (by decide)) rfl rfl (Nat.le_of_ble_eq_true rfl) dX2_clear_24 (fun H locs hP hD hS => ?_)
      have hP : va_P D vwCl (pc_X2_clear cs h0 h0_members h0_scores 0 f0_members) H := hP
      have hD : va_D A (pc_X2_clear cs h0 h0_members h0_scores 0 f0_members) := hD
      exact RET (0, f0_members) H locs 27 ls hw hP hD hS dX2_clear_27
    · have hw := hw.2 hc
      refine lv_aload_n F.1 F.2.1 dX2_clear_9 rfl (lv_at hl 0 rfl) ?_
      refine xi_get (C := RX2) (T := TX2) (N := 3) (v := .ref h0_members) F in_X2_clear_X2 hK hP 0 rfl rfl 0 (by decide) fl_X2_clear_9 rfl dX2_clear_10 ?_
      refine lv_iload_n F.1 F.2.1 dX2_clear_13 rfl (lv_at hl 1 rfl) ?_
      refine lv_iconst (v := 0) F.1 F.2.1 dX2_clear_14 (by decide) ?_
      obtain ⟨j15, hj, he, hw⟩ := hw
      refine xi_zast (v := false) (j := j15) F hK hP hD hS 1 rfl (by decide) hj he rfl dX2_clear_15 (fun H locs hP hD hS => ?_)
      have hP : va_P D vwCl (pc_X2_clear cs h0 h0_members h0_scores n0_size (va_up f0_members j15 false)) H := hP
      have hD : va_D A (pc_X2_clear cs h0 h0_members h0_scores n0_size (va_up f0_members j15 false)) := hD
      refine lv_iinc (v := (x1 + 1)) (lv' := [(1, .int (x1 + 1)), (0, .ref h0)]) F.1 F.2.1 dX2_clear_16 hl (k := 1) rfl rfl (by decide) rfl (fun ls hl => ?_)
      refine lv_goto (tgt := 2) F.1 F.2.1 dX2_clear_19 (by decide) ?_
      exact (hX2 _ _ _).mp hw H locs ls hP hD hS (lv_sub hl [1, 0] rfl)
  generalize ([] : List Loc) = locs at hS ⊢
  obtain ⟨H, hHe⟩ : ∃ H, H = s.heap := ⟨_, rfl⟩
  have hP : va_P D vwCl (pc_X2_clear cs h0 h0_members h0_scores n0_size f0_members) H := by rw [hHe]; exact hP
  have hS : va_S A s.heap H locs := by rw [hHe]; exact hS
  suffices W p l e rm_X2_clear s m args below meth c H locs 0 0 Z (F0 m 0 ls []) by rw [hHe] at this; exact this
  refine lv_iconst (v := 0) F.1 F.2.1 dX2_clear_0 (by decide) ?_
  refine lv_istore_n (lv' := [(1, .int 0), (0, .ref h0)]) F.1 F.2.1 dX2_clear_1 rfl hl (by decide) rfl (fun ls hl => ?_)
  exact (hX2 _ _ _).mp hw H locs ls hP hD hS (lv_sub hl [1, 0] rfl)

theorem in_X2_put_X2 : ∀ w ∈ wsX20, w ∈ wsX2_put := by decide +kernel
theorem fl_X2_put_15 : Cond.fieldLink RX2 15 "JoinBlocks$ScoredSet" "scores" "[J" ∈ wsX2_put := by decide +kernel
theorem fl_X2_put_9 : Cond.fieldLink RX2 9 "JoinBlocks$ScoredSet" "members" "[Z" ∈ wsX2_put := by decide +kernel
theorem fl_X2_put_19 : Cond.fieldLink RX2 19 "JoinBlocks$ScoredSet" "size" "I" ∈ wsX2_put := by decide +kernel
abbrev pc_X2_put (cs : Nat → ClassId) (h0 : Nat) (h0_members : Nat) (h0_scores : Nat) (n0_size : Int32) (f0_members : Nat → Bool) (f0_scores : Nat → Int64) : va_W := [(h0, .inr (2, [.ref h0_members, .ref h0_scores, .int n0_size])), (h0_members, .inl (cs 1, 200, .inl (bF f0_members))), (h0_scores, .inl (cs 2, 200, .inr (.inl f0_scores)))]
abbrev rm_X2_put : Room := { frames := 0, cells := 0, slots := 0, locals := 0 }
def call_X2_put (p1 : Int32) (p2 : Int64) (n0_size : Int32) (f0_members : Nat → Bool) (f0_scores : Nat → Int64) (Q : Int32 → (Nat → Bool) → (Nat → Int64) → Prop) : Prop := ∀ (X26 : Int32 → (Nat → Bool) → (Nat → Int64) → Prop),
    (∀ (n0_size : Int32) (f0_members : Nat → Bool) (f0_scores : Nat → Int64),
      (∃ j32 : Nat, j32 < 200 ∧ p1 = nI j32 ∧ Q n0_size f0_members (va_up f0_scores j32 p2)) → X26 n0_size f0_members f0_scores) →
    (∃ j5 : Nat, j5 < 200 ∧ p1 = nI j5 ∧ (((f0_members j5) = true → X26 n0_size f0_members f0_scores) ∧ ((f0_members j5) = false → (∃ j15 : Nat, j15 < 200 ∧ p1 = nI j15 ∧ X26 (n0_size + 1) (va_up f0_members j15 true) f0_scores))))
set_option maxHeartbeats 4000000 in
set_option maxRecDepth 100000 in
theorem m_X2_put (l : Launch) (D : va_G) (cs : Nat → ClassId) (h0 : Nat) (h0_members : Nat) (h0_scores : Nat)  (p1 : Int32) (p2 : Int64) (n0_size : Int32) (f0_members : Nat → Bool) (f0_scores : Nat → Int64) (Q : Int32 → (Nat → Bool) → (Nat → Int64) → Prop) (h : call_X2_put p1 p2 n0_size f0_members f0_scores Q) : CtV l yX2_put wsX2_put rm_X2_put D cs [.ref h0, .int p1, .long p2] (pc_X2_put cs h0 h0_members h0_scores n0_size f0_members f0_scores) (fun u : Int32 × (Nat → Bool) × (Nat → Int64) => (pc_X2_put cs h0 h0_members h0_scores u.1 u.2.1 u.2.2)) 0 0 (fun u => Q u.1 u.2.1 u.2.2) := by
  refine xo_V (S := Int32 × (Nat → Bool) × (Nat → Int64)) (cc := cX2_put) (maxL := 4) (own := RX2) (lv0 := [(0, .ref h0), (1, .int p1), (2, .long p2)]) (by decide) rfl rfl (Nat.le_of_ble_eq_true rfl) rfl ?_
  intro p e s m args below meth c A Z ls hnm F hK hA hP hD hS hl RET
  unfold call_X2_put at h
  obtain ⟨X26, hX26⟩ : ∃ X : Int32 → (Nat → Bool) → (Nat → Int64) → Prop, ∀ (n0_size : Int32) (f0_members : Nat → Bool) (f0_scores : Nat → Int64), (X n0_size f0_members f0_scores ↔ ∀ (H : Heap) (locs : List Loc) (ls : Array Slot), va_P D vwCl (pc_X2_put cs h0 h0_members h0_scores n0_size f0_members f0_scores) H → va_D A (pc_X2_put cs h0 h0_members h0_scores n0_size f0_members f0_scores) → va_S A s.heap H locs → lv_has ls 4 [(0, .ref h0), (1, .int p1), (2, .long p2)] → W p l e rm_X2_put s m args below meth c H locs 0 0 Z (F0 m 26 ls [])) := ⟨_, fun _ _ _ => Iff.rfl⟩
  refine xt_cut (h X26 ?_) (fun hw => ?_)
  · intro n0_size f0_members f0_scores hw
    refine (hX26 _ _ _).mpr ?_
    intro H locs ls hP hD hS hl
    refine lv_aload_n F.1 F.2.1 dX2_put_26 rfl (lv_at hl 0 rfl) ?_
    refine xi_get (C := RX2) (T := TX2) (N := 3) (v := .ref h0_scores) F in_X2_put_X2 hK hP 0 rfl rfl 1 (by decide) fl_X2_put_15 rfl dX2_put_27 ?_
    refine lv_iload_n F.1 F.2.1 dX2_put_30 rfl (lv_at hl 1 rfl) ?_
    refine lv_lload_n F.1 F.2.1 dX2_put_31 rfl (lv_at hl 2 rfl) ?_
    obtain ⟨j32, hj, he, hw⟩ := hw
    refine xi_last (j := j32) F hK hP hD hS 2 rfl (by decide) hj he dX2_put_32 (fun H locs hP hD hS => ?_)
    have hP : va_P D vwCl (pc_X2_put cs h0 h0_members h0_scores n0_size f0_members (va_up f0_scores j32 p2)) H := hP
    have hD : va_D A (pc_X2_put cs h0 h0_members h0_scores n0_size f0_members (va_up f0_scores j32 p2)) := hD
    exact RET (n0_size, f0_members, (va_up f0_scores j32 p2)) H locs 33 ls hw hP hD hS dX2_put_33
  generalize ([] : List Loc) = locs at hS ⊢
  obtain ⟨H, hHe⟩ : ∃ H, H = s.heap := ⟨_, rfl⟩
  have hP : va_P D vwCl (pc_X2_put cs h0 h0_members h0_scores n0_size f0_members f0_scores) H := by rw [hHe]; exact hP
  have hS : va_S A s.heap H locs := by rw [hHe]; exact hS
  suffices W p l e rm_X2_put s m args below meth c H locs 0 0 Z (F0 m 0 ls []) by rw [hHe] at this; exact this
  refine lv_aload_n F.1 F.2.1 dX2_put_0 rfl (lv_at hl 0 rfl) ?_
  refine xi_get (C := RX2) (T := TX2) (N := 3) (v := .ref h0_members) F in_X2_put_X2 hK hP 0 rfl rfl 0 (by decide) fl_X2_put_9 rfl dX2_put_1 ?_
  refine lv_iload_n F.1 F.2.1 dX2_put_4 rfl (lv_at hl 1 rfl) ?_
  obtain ⟨j5, hj, he, hw⟩ := hw
  refine xi_zald (j := j5) F hK hP 1 rfl (by decide) hj he dX2_put_5 ?_
  refine xi_ifnez (tgt := 26) F dX2_put_6 (by decide) (fun hc => ?_) (fun hc => ?_)
  · have hw := hw.1 hc
    exact (hX26 _ _ _).mp hw H locs ls hP hD hS (lv_sub hl [0, 1, 2] rfl)
  · have hw := hw.2 hc
    refine lv_aload_n F.1 F.2.1 dX2_put_9 rfl (lv_at hl 0 rfl) ?_
    refine xi_get (C := RX2) (T := TX2) (N := 3) (v := .ref h0_members) F in_X2_put_X2 hK hP 0 rfl rfl 0 (by decide) fl_X2_put_9 rfl dX2_put_10 ?_
    refine lv_iload_n F.1 F.2.1 dX2_put_13 rfl (lv_at hl 1 rfl) ?_
    refine lv_iconst (v := 1) F.1 F.2.1 dX2_put_14 (by decide) ?_
    obtain ⟨j15, hj, he, hw⟩ := hw
    refine xi_zast (v := true) (j := j15) F hK hP hD hS 1 rfl (by decide) hj he rfl dX2_put_15 (fun H locs hP hD hS => ?_)
    have hP : va_P D vwCl (pc_X2_put cs h0 h0_members h0_scores n0_size (va_up f0_members j15 true) f0_scores) H := hP
    have hD : va_D A (pc_X2_put cs h0 h0_members h0_scores n0_size (va_up f0_members j15 true) f0_scores) := hD
    refine lv_aload_n F.1 F.2.1 dX2_put_16 rfl (lv_at hl 0 rfl) ?_
    refine lv_dup F.1 F.2.1 dX2_put_17 rfl ?_
    refine xi_get (C := RX2) (T := TX2) (N := 3) (v := .int n0_size) F in_X2_put_X2 hK hP 0 rfl rfl 2 (by decide) fl_X2_put_19 rfl dX2_put_18 ?_
    refine lv_iconst (v := 1) F.1 F.2.1 dX2_put_21 (by decide) ?_
    refine lv_iadd F.1 F.2.1 dX2_put_22 ?_
    refine xi_put (C := RX2) (T := TX2) (N := 3) (v := .int (n0_size + 1)) (ty := .int) F in_X2_put_X2 tyX2 tyX2_ok nmX2 hK hP hD hS 0 rfl rfl 2 (by decide) fl_X2_put_19 rfl (tyX2_ok 2 (by decide)) rfl rfl (Nat.le_of_ble_eq_true rfl) dX2_put_23 (fun H locs hP hD hS => ?_)
    have hP : va_P D vwCl (pc_X2_put cs h0 h0_members h0_scores (n0_size + 1) (va_up f0_members j15 true) f0_scores) H := hP
    have hD : va_D A (pc_X2_put cs h0 h0_members h0_scores (n0_size + 1) (va_up f0_members j15 true) f0_scores) := hD
    exact (hX26 _ _ _).mp hw H locs ls hP hD hS (lv_sub hl [0, 1, 2] rfl)

theorem in_X2_add_X2 : ∀ w ∈ wsX20, w ∈ wsX2_add := by decide +kernel
theorem fl_X2_add_9 : Cond.fieldLink RX2 9 "JoinBlocks$ScoredSet" "members" "[Z" ∈ wsX2_add := by decide +kernel
theorem fl_X2_add_15 : Cond.fieldLink RX2 15 "JoinBlocks$ScoredSet" "scores" "[J" ∈ wsX2_add := by decide +kernel
abbrev pc_X2_add (cs : Nat → ClassId) (h0 : Nat) (h0_members : Nat) (h0_scores : Nat) (n0_size : Int32) (f0_members : Nat → Bool) (f0_scores : Nat → Int64) : va_W := [(h0, .inr (2, [.ref h0_members, .ref h0_scores, .int n0_size])), (h0_members, .inl (cs 1, 200, .inl (bF f0_members))), (h0_scores, .inl (cs 2, 200, .inr (.inl f0_scores)))]
abbrev rm_X2_add : Room := { frames := 1, cells := 0, slots := 0, locals := 23 }
def call_X2_add (p1 : Int32) (p2 : Int64) (n0_size : Int32) (f0_members : Nat → Bool) (f0_scores : Nat → Int64) (Q : Int32 → (Nat → Bool) → (Nat → Int64) → Prop) : Prop := ∀ (X23 : Int64 → Int32 → Int32 → (Nat → Bool) → (Nat → Int64) → Prop),
    (∀ (s0 : Int64) (s1 : Int32) (n0_size : Int32) (f0_members : Nat → Bool) (f0_scores : Nat → Int64),
      (call_X2_put s1 s0 n0_size f0_members f0_scores (fun (n0_size_23 : Int32) (f0_members_23 : Nat → Bool) (f0_scores_23 : Nat → Int64) => Q n0_size_23 f0_members_23 f0_scores_23)) → X23 s0 s1 n0_size f0_members f0_scores) →
    (∃ j7 : Nat, j7 < 200 ∧ p1 = nI j7 ∧ (((f0_members j7) = false → X23 p2 p1 n0_size f0_members f0_scores) ∧ ((f0_members j7) = true → (∃ j16 : Nat, j16 < 200 ∧ p1 = nI j16 ∧ X23 ((f0_scores j16) + p2) p1 n0_size f0_members f0_scores))))
set_option maxHeartbeats 4000000 in
set_option maxRecDepth 100000 in
theorem m_X2_add (l : Launch) (D : va_G) (cs : Nat → ClassId) (h0 : Nat) (h0_members : Nat) (h0_scores : Nat)  (p1 : Int32) (p2 : Int64) (n0_size : Int32) (f0_members : Nat → Bool) (f0_scores : Nat → Int64) (Q : Int32 → (Nat → Bool) → (Nat → Int64) → Prop) (h : call_X2_add p1 p2 n0_size f0_members f0_scores Q) : CtV l yX2_add wsX2_add rm_X2_add D cs [.ref h0, .int p1, .long p2] (pc_X2_add cs h0 h0_members h0_scores n0_size f0_members f0_scores) (fun u : Int32 × (Nat → Bool) × (Nat → Int64) => (pc_X2_add cs h0 h0_members h0_scores u.1 u.2.1 u.2.2)) 0 0 (fun u => Q u.1 u.2.1 u.2.2) := by
  refine xo_V (S := Int32 × (Nat → Bool) × (Nat → Int64)) (cc := cX2_add) (maxL := 4) (own := RX2) (lv0 := [(0, .ref h0), (1, .int p1), (2, .long p2)]) (by decide) rfl rfl (Nat.le_of_ble_eq_true rfl) rfl ?_
  intro p e s m args below meth c A Z ls hnm F hK hA hP hD hS hl RET
  unfold call_X2_add at h
  obtain ⟨X23, hX23⟩ : ∃ X : Int64 → Int32 → Int32 → (Nat → Bool) → (Nat → Int64) → Prop, ∀ (s0 : Int64) (s1 : Int32) (n0_size : Int32) (f0_members : Nat → Bool) (f0_scores : Nat → Int64), (X s0 s1 n0_size f0_members f0_scores ↔ ∀ (H : Heap) (locs : List Loc) (ls : Array Slot), va_P D vwCl (pc_X2_add cs h0 h0_members h0_scores n0_size f0_members f0_scores) H → va_D A (pc_X2_add cs h0 h0_members h0_scores n0_size f0_members f0_scores) → va_S A s.heap H locs → lv_has ls 4 [] → W p l e rm_X2_add s m args below meth c H locs 0 0 Z (F0 m 23 ls [.long s0, .int s1, .ref h0])) := ⟨_, fun _ _ _ _ _ => Iff.rfl⟩
  refine xt_cut (h X23 ?_) (fun hw => ?_)
  · intro s0 s1 n0_size f0_members f0_scores hw
    refine (hX23 _ _ _ _ _).mpr ?_
    intro H locs ls hP hD hS hl
    refine xc_Vv (As := [.int s1, .long s0]) (rest := []) (m_X2_put l D cs h0 h0_members h0_scores s1 s0 n0_size f0_members f0_scores _ hw) F (cwV 2 F.2.2.2.2 gX2_add_X2_put rfl rfl rfl (by decide +kernel) ⟨Nat.le_of_ble_eq_true rfl, Nat.le_of_ble_eq_true rfl⟩) hK hP hD hS hA [0, 1, 2] [] rfl rfl 0 rfl rfl rfl hl.1 rfl (Nat.le_of_ble_eq_true rfl) dX2_add_23 ⟨Nat.zero_le _, Nat.zero_le _⟩ (fun u H locs hw hP hD hS => ?_)
    obtain ⟨n0_size_23, f0_members_23, f0_scores_23⟩ := u
    have hP : va_P D vwCl (pc_X2_add cs h0 h0_members h0_scores n0_size_23 f0_members_23 f0_scores_23) H := hP.sub [0, 1, 2] rfl
    have hD : va_D A (pc_X2_add cs h0 h0_members h0_scores n0_size_23 f0_members_23 f0_scores_23) := hD.sub [0, 1, 2] (by decide) rfl
    try dsimp only at hw
    exact RET (n0_size_23, f0_members_23, f0_scores_23) H locs 26 ls hw hP hD hS dX2_add_26
  generalize ([] : List Loc) = locs at hS ⊢
  obtain ⟨H, hHe⟩ : ∃ H, H = s.heap := ⟨_, rfl⟩
  have hP : va_P D vwCl (pc_X2_add cs h0 h0_members h0_scores n0_size f0_members f0_scores) H := by rw [hHe]; exact hP
  have hS : va_S A s.heap H locs := by rw [hHe]; exact hS
  suffices W p l e rm_X2_add s m args below meth c H locs 0 0 Z (F0 m 0 ls []) by rw [hHe] at this; exact this
  refine lv_aload_n F.1 F.2.1 dX2_add_0 rfl (lv_at hl 0 rfl) ?_
  refine lv_iload_n F.1 F.2.1 dX2_add_1 rfl (lv_at hl 1 rfl) ?_
  refine lv_aload_n F.1 F.2.1 dX2_add_2 rfl (lv_at hl 0 rfl) ?_
  refine xi_get (C := RX2) (T := TX2) (N := 3) (v := .ref h0_members) F in_X2_add_X2 hK hP 0 rfl rfl 0 (by decide) fl_X2_add_9 rfl dX2_add_3 ?_
  refine lv_iload_n F.1 F.2.1 dX2_add_6 rfl (lv_at hl 1 rfl) ?_
  obtain ⟨j7, hj, he, hw⟩ := hw
  refine xi_zald (j := j7) F hK hP 1 rfl (by decide) hj he dX2_add_7 ?_
  refine xi_ifeqz (tgt := 22) F dX2_add_8 (by decide) (fun hc => ?_) (fun hc => ?_)
  · have hw := hw.1 hc
    refine lv_lload_n F.1 F.2.1 dX2_add_22 rfl (lv_at hl 2 rfl) ?_
    exact (hX23 _ _ _ _ _).mp hw H locs ls hP hD hS (lv_sub hl [] rfl)
  · have hw := hw.2 hc
    refine lv_aload_n F.1 F.2.1 dX2_add_11 rfl (lv_at hl 0 rfl) ?_
    refine xi_get (C := RX2) (T := TX2) (N := 3) (v := .ref h0_scores) F in_X2_add_X2 hK hP 0 rfl rfl 1 (by decide) fl_X2_add_15 rfl dX2_add_12 ?_
    refine lv_iload_n F.1 F.2.1 dX2_add_15 rfl (lv_at hl 1 rfl) ?_
    obtain ⟨j16, hj, he, hw⟩ := hw
    refine xi_lald (j := j16) F hK hP 2 rfl (by decide) hj he dX2_add_16 ?_
    refine lv_lload_n F.1 F.2.1 dX2_add_17 rfl (lv_at hl 2 rfl) ?_
    refine lv_ladd F.1 F.2.1 dX2_add_18 ?_
    refine lv_goto (tgt := 23) F.1 F.2.1 dX2_add_19 (by decide) ?_
    exact (hX23 _ _ _ _ _).mp hw H locs ls hP hD hS (lv_sub hl [] rfl)

theorem in_X2_remove_X2 : ∀ w ∈ wsX20, w ∈ wsX2_remove := by decide +kernel
theorem fl_X2_remove_9 : Cond.fieldLink RX2 9 "JoinBlocks$ScoredSet" "members" "[Z" ∈ wsX2_remove := by decide +kernel
theorem fl_X2_remove_19 : Cond.fieldLink RX2 19 "JoinBlocks$ScoredSet" "size" "I" ∈ wsX2_remove := by decide +kernel
abbrev pc_X2_remove (cs : Nat → ClassId) (h0 : Nat) (h0_members : Nat) (h0_scores : Nat) (n0_size : Int32) (f0_members : Nat → Bool) : va_W := [(h0, .inr (2, [.ref h0_members, .ref h0_scores, .int n0_size])), (h0_members, .inl (cs 1, 200, .inl (bF f0_members)))]
abbrev rm_X2_remove : Room := { frames := 0, cells := 0, slots := 0, locals := 0 }
def call_X2_remove (p1 : Int32) (n0_size : Int32) (f0_members : Nat → Bool) (Q : Int32 → (Nat → Bool) → Prop) : Prop := ∀ (X26 : Int32 → (Nat → Bool) → Prop),
    (∀ (n0_size : Int32) (f0_members : Nat → Bool),
      Q n0_size f0_members → X26 n0_size f0_members) →
    (∃ j5 : Nat, j5 < 200 ∧ p1 = nI j5 ∧ (((f0_members j5) = false → X26 n0_size f0_members) ∧ ((f0_members j5) = true → (∃ j15 : Nat, j15 < 200 ∧ p1 = nI j15 ∧ X26 (n0_size - 1) (va_up f0_members j15 false)))))
set_option maxHeartbeats 4000000 in
set_option maxRecDepth 100000 in
theorem m_X2_remove (l : Launch) (D : va_G) (cs : Nat → ClassId) (h0 : Nat) (h0_members : Nat) (h0_scores : Nat)  (p1 : Int32) (n0_size : Int32) (f0_members : Nat → Bool) (Q : Int32 → (Nat → Bool) → Prop) (h : call_X2_remove p1 n0_size f0_members Q) : CtV l yX2_remove wsX2_remove rm_X2_remove D cs [.ref h0, .int p1] (pc_X2_remove cs h0 h0_members h0_scores n0_size f0_members) (fun u : Int32 × (Nat → Bool) => (pc_X2_remove cs h0 h0_members h0_scores u.1 u.2)) 0 0 (fun u => Q u.1 u.2) := by
  refine xo_V (S := Int32 × (Nat → Bool)) (cc := cX2_remove) (maxL := 2) (own := RX2) (lv0 := [(0, .ref h0), (1, .int p1)]) (by decide) rfl rfl (Nat.le_of_ble_eq_true rfl) rfl ?_
  intro p e s m args below meth c A Z ls hnm F hK hA hP hD hS hl RET
  unfold call_X2_remove at h
  obtain ⟨X26, hX26⟩ : ∃ X : Int32 → (Nat → Bool) → Prop, ∀ (n0_size : Int32) (f0_members : Nat → Bool), (X n0_size f0_members ↔ ∀ (H : Heap) (locs : List Loc) (ls : Array Slot), va_P D vwCl (pc_X2_remove cs h0 h0_members h0_scores n0_size f0_members) H → va_D A (pc_X2_remove cs h0 h0_members h0_scores n0_size f0_members) → va_S A s.heap H locs → lv_has ls 2 [] → W p l e rm_X2_remove s m args below meth c H locs 0 0 Z (F0 m 26 ls [])) := ⟨_, fun _ _ => Iff.rfl⟩
  refine xt_cut (h X26 ?_) (fun hw => ?_)
  · intro n0_size f0_members hw
    refine (hX26 _ _).mpr ?_
    intro H locs ls hP hD hS hl
    exact RET (n0_size, f0_members) H locs 26 ls hw hP hD hS dX2_remove_26
  generalize ([] : List Loc) = locs at hS ⊢
  obtain ⟨H, hHe⟩ : ∃ H, H = s.heap := ⟨_, rfl⟩
  have hP : va_P D vwCl (pc_X2_remove cs h0 h0_members h0_scores n0_size f0_members) H := by rw [hHe]; exact hP
  have hS : va_S A s.heap H locs := by rw [hHe]; exact hS
  suffices W p l e rm_X2_remove s m args below meth c H locs 0 0 Z (F0 m 0 ls []) by rw [hHe] at this; exact this
  refine lv_aload_n F.1 F.2.1 dX2_remove_0 rfl (lv_at hl 0 rfl) ?_
  refine xi_get (C := RX2) (T := TX2) (N := 3) (v := .ref h0_members) F in_X2_remove_X2 hK hP 0 rfl rfl 0 (by decide) fl_X2_remove_9 rfl dX2_remove_1 ?_
  refine lv_iload_n F.1 F.2.1 dX2_remove_4 rfl (lv_at hl 1 rfl) ?_
  obtain ⟨j5, hj, he, hw⟩ := hw
  refine xi_zald (j := j5) F hK hP 1 rfl (by decide) hj he dX2_remove_5 ?_
  refine xi_ifeqz (tgt := 26) F dX2_remove_6 (by decide) (fun hc => ?_) (fun hc => ?_)
  · have hw := hw.1 hc
    exact (hX26 _ _).mp hw H locs ls hP hD hS (lv_sub hl [] rfl)
  · have hw := hw.2 hc
    refine lv_aload_n F.1 F.2.1 dX2_remove_9 rfl (lv_at hl 0 rfl) ?_
    refine xi_get (C := RX2) (T := TX2) (N := 3) (v := .ref h0_members) F in_X2_remove_X2 hK hP 0 rfl rfl 0 (by decide) fl_X2_remove_9 rfl dX2_remove_10 ?_
    refine lv_iload_n F.1 F.2.1 dX2_remove_13 rfl (lv_at hl 1 rfl) ?_
    refine lv_iconst (v := 0) F.1 F.2.1 dX2_remove_14 (by decide) ?_
    obtain ⟨j15, hj, he, hw⟩ := hw
    refine xi_zast (v := false) (j := j15) F hK hP hD hS 1 rfl (by decide) hj he rfl dX2_remove_15 (fun H locs hP hD hS => ?_)
    have hP : va_P D vwCl (pc_X2_remove cs h0 h0_members h0_scores n0_size (va_up f0_members j15 false)) H := hP
    have hD : va_D A (pc_X2_remove cs h0 h0_members h0_scores n0_size (va_up f0_members j15 false)) := hD
    refine lv_aload_n F.1 F.2.1 dX2_remove_16 rfl (lv_at hl 0 rfl) ?_
    refine lv_dup F.1 F.2.1 dX2_remove_17 rfl ?_
    refine xi_get (C := RX2) (T := TX2) (N := 3) (v := .int n0_size) F in_X2_remove_X2 hK hP 0 rfl rfl 2 (by decide) fl_X2_remove_19 rfl dX2_remove_18 ?_
    refine lv_iconst (v := 1) F.1 F.2.1 dX2_remove_21 (by decide) ?_
    refine lv_isub F.1 F.2.1 dX2_remove_22 ?_
    refine xi_put (C := RX2) (T := TX2) (N := 3) (v := .int (n0_size - 1)) (ty := .int) F in_X2_remove_X2 tyX2 tyX2_ok nmX2 hK hP hD hS 0 rfl rfl 2 (by decide) fl_X2_remove_19 rfl (tyX2_ok 2 (by decide)) rfl rfl (Nat.le_of_ble_eq_true rfl) dX2_remove_23 (fun H locs hP hD hS => ?_)
    have hP : va_P D vwCl (pc_X2_remove cs h0 h0_members h0_scores (n0_size - 1) (va_up f0_members j15 false)) H := hP
    have hD : va_D A (pc_X2_remove cs h0 h0_members h0_scores (n0_size - 1) (va_up f0_members j15 false)) := hD
    exact (hX26 _ _).mp hw H locs ls hP hD hS (lv_sub hl [] rfl)

theorem in_X2_addAll_X2 : ∀ w ∈ wsX20, w ∈ wsX2_addAll := by decide +kernel
theorem fl_X2_addAll_9 : Cond.fieldLink RX2 9 "JoinBlocks$ScoredSet" "members" "[Z" ∈ wsX2_addAll := by decide +kernel
theorem fl_X2_addAll_15 : Cond.fieldLink RX2 15 "JoinBlocks$ScoredSet" "scores" "[J" ∈ wsX2_addAll := by decide +kernel
abbrev pc_X2_addAll (cs : Nat → ClassId) (h0 : Nat) (h0_members : Nat) (h0_scores : Nat) (h1 : Nat) (h1_members : Nat) (h1_scores : Nat) (n0_size : Int32) (f0_members : Nat → Bool) (f0_scores : Nat → Int64) (n1_size : Int32) (f1_members : Nat → Bool) (f1_scores : Nat → Int64) : va_W := [(h0, .inr (2, [.ref h0_members, .ref h0_scores, .int n0_size])), (h0_members, .inl (cs 1, 200, .inl (bF f0_members))), (h0_scores, .inl (cs 2, 200, .inr (.inl f0_scores))), (h1, .inr (2, [.ref h1_members, .ref h1_scores, .int n1_size])), (h1_members, .inl (cs 1, 200, .inl (bF f1_members))), (h1_scores, .inl (cs 2, 200, .inr (.inl f1_scores)))]
abbrev rm_X2_addAll : Room := { frames := 2, cells := 0, slots := 0, locals := 46 }
def call_X2_addAll (n0_size : Int32) (f0_members : Nat → Bool) (f0_scores : Nat → Int64) (f1_members : Nat → Bool) (f1_scores : Nat → Int64) (Q : Int32 → (Nat → Bool) → (Nat → Int64) → Prop) : Prop := ∀ (X2 : Int32 → Int32 → (Nat → Bool) → (Nat → Int64) → Prop) (X29 : Int32 → Int32 → (Nat → Bool) → (Nat → Int64) → Prop),
    (∀ (x2 : Int32) (n0_size : Int32) (f0_members : Nat → Bool) (f0_scores : Nat → Int64),
      ((200 ≤ x2 → Q n0_size f0_members f0_scores) ∧ (¬ 200 ≤ x2 → (∃ j14 : Nat, j14 < 200 ∧ x2 = nI j14 ∧ (((f1_members j14) = false → X29 x2 n0_size f0_members f0_scores) ∧ ((f1_members j14) = true → (∃ j25 : Nat, j25 < 200 ∧ x2 = nI j25 ∧ (call_X2_add x2 (f1_scores j25) n0_size f0_members f0_scores (fun (n0_size_26 : Int32) (f0_members_26 : Nat → Bool) (f0_scores_26 : Nat → Int64) => X29 x2 n0_size_26 f0_members_26 f0_scores_26)))))))) → X2 x2 n0_size f0_members f0_scores) →
    (∀ (x2 : Int32) (n0_size : Int32) (f0_members : Nat → Bool) (f0_scores : Nat → Int64),
      X2 (x2 + 1) n0_size f0_members f0_scores → X29 x2 n0_size f0_members f0_scores) →
    X2 0 n0_size f0_members f0_scores
set_option maxHeartbeats 4000000 in
set_option maxRecDepth 100000 in
theorem m_X2_addAll (l : Launch) (D : va_G) (cs : Nat → ClassId) (h0 : Nat) (h0_members : Nat) (h0_scores : Nat) (h1 : Nat) (h1_members : Nat) (h1_scores : Nat)  (n0_size : Int32) (f0_members : Nat → Bool) (f0_scores : Nat → Int64) (n1_size : Int32) (f1_members : Nat → Bool) (f1_scores : Nat → Int64) (Q : Int32 → (Nat → Bool) → (Nat → Int64) → Prop) (h : call_X2_addAll n0_size f0_members f0_scores f1_members f1_scores Q) : CtV l yX2_addAll wsX2_addAll rm_X2_addAll D cs [.ref h0, .ref h1] (pc_X2_addAll cs h0 h0_members h0_scores h1 h1_members h1_scores n0_size f0_members f0_scores n1_size f1_members f1_scores) (fun u : Int32 × (Nat → Bool) × (Nat → Int64) => (pc_X2_addAll cs h0 h0_members h0_scores h1 h1_members h1_scores u.1 u.2.1 u.2.2 n1_size f1_members f1_scores)) 0 0 (fun u => Q u.1 u.2.1 u.2.2) := by
  refine xo_V (S := Int32 × (Nat → Bool) × (Nat → Int64)) (cc := cX2_addAll) (maxL := 3) (own := RX2) (lv0 := [(0, .ref h0), (1, .ref h1)]) (by decide) rfl rfl (Nat.le_of_ble_eq_true rfl) rfl ?_
  intro p e s m args below meth c A Z ls hnm F hK hA hP hD hS hl RET
  unfold call_X2_addAll at h
  obtain ⟨X2, hX2⟩ : ∃ X : Int32 → Int32 → (Nat → Bool) → (Nat → Int64) → Prop, ∀ (x2 : Int32) (n0_size : Int32) (f0_members : Nat → Bool) (f0_scores : Nat → Int64), (X x2 n0_size f0_members f0_scores ↔ ∀ (H : Heap) (locs : List Loc) (ls : Array Slot), va_P D vwCl (pc_X2_addAll cs h0 h0_members h0_scores h1 h1_members h1_scores n0_size f0_members f0_scores n1_size f1_members f1_scores) H → va_D A (pc_X2_addAll cs h0 h0_members h0_scores h1 h1_members h1_scores n0_size f0_members f0_scores n1_size f1_members f1_scores) → va_S A s.heap H locs → lv_has ls 3 [(0, .ref h0), (1, .ref h1), (2, .int x2)] → W p l e rm_X2_addAll s m args below meth c H locs 0 0 Z (F0 m 2 ls [])) := ⟨_, fun _ _ _ _ => Iff.rfl⟩
  obtain ⟨X29, hX29⟩ : ∃ X : Int32 → Int32 → (Nat → Bool) → (Nat → Int64) → Prop, ∀ (x2 : Int32) (n0_size : Int32) (f0_members : Nat → Bool) (f0_scores : Nat → Int64), (X x2 n0_size f0_members f0_scores ↔ ∀ (H : Heap) (locs : List Loc) (ls : Array Slot), va_P D vwCl (pc_X2_addAll cs h0 h0_members h0_scores h1 h1_members h1_scores n0_size f0_members f0_scores n1_size f1_members f1_scores) H → va_D A (pc_X2_addAll cs h0 h0_members h0_scores h1 h1_members h1_scores n0_size f0_members f0_scores n1_size f1_members f1_scores) → va_S A s.heap H locs → lv_has ls 3 [(0, .ref h0), (1, .ref h1), (2, .int x2)] → W p l e rm_X2_addAll s m args below meth c H locs 0 0 Z (F0 m 29 ls [])) := ⟨_, fun _ _ _ _ => Iff.rfl⟩
  refine xt_cut (h X2 X29 ?_ ?_) (fun hw => ?_)
  · intro x2 n0_size f0_members f0_scores hw
    refine (hX2 _ _ _ _).mpr ?_
    intro H locs ls hP hD hS hl
    refine lv_iload_n F.1 F.2.1 dX2_addAll_2 rfl (lv_at hl 2 rfl) ?_
    refine lv_sipush (v := 200) F.1 F.2.1 dX2_addAll_3 (by decide) ?_
    refine lv_icmp_ge (tgt := 35) F.1 F.2.1 dX2_addAll_6 (by decide) (fun hc => ?_) (fun hc => ?_)
    · have hw := hw.1 hc
      exact RET (n0_size, f0_members, f0_scores) H locs 35 ls hw hP hD hS dX2_addAll_35
    · have hw := hw.2 hc
      refine lv_aload_n F.1 F.2.1 dX2_addAll_9 rfl (lv_at hl 1 rfl) ?_
      refine xi_get (C := RX2) (T := TX2) (N := 3) (v := .ref h1_members) F in_X2_addAll_X2 hK hP 3 rfl rfl 0 (by decide) fl_X2_addAll_9 rfl dX2_addAll_10 ?_
      refine lv_iload_n F.1 F.2.1 dX2_addAll_13 rfl (lv_at hl 2 rfl) ?_
      obtain ⟨j14, hj, he, hw⟩ := hw
      refine xi_zald (j := j14) F hK hP 4 rfl (by decide) hj he dX2_addAll_14 ?_
      refine xi_ifeqz (tgt := 29) F dX2_addAll_15 (by decide) (fun hc => ?_) (fun hc => ?_)
      · have hw := hw.1 hc
        exact (hX29 _ _ _ _).mp hw H locs ls hP hD hS (lv_sub hl [0, 1, 2] rfl)
      · have hw := hw.2 hc
        refine lv_aload_n F.1 F.2.1 dX2_addAll_18 rfl (lv_at hl 0 rfl) ?_
        refine lv_iload_n F.1 F.2.1 dX2_addAll_19 rfl (lv_at hl 2 rfl) ?_
        refine lv_aload_n F.1 F.2.1 dX2_addAll_20 rfl (lv_at hl 1 rfl) ?_
        refine xi_get (C := RX2) (T := TX2) (N := 3) (v := .ref h1_scores) F in_X2_addAll_X2 hK hP 3 rfl rfl 1 (by decide) fl_X2_addAll_15 rfl dX2_addAll_21 ?_
        refine lv_iload_n F.1 F.2.1 dX2_addAll_24 rfl (lv_at hl 2 rfl) ?_
        obtain ⟨j25, hj, he, hw⟩ := hw
        refine xi_lald (j := j25) F hK hP 5 rfl (by decide) hj he dX2_addAll_25 ?_
        refine xc_Vv (As := [.int x2, .long (f1_scores j25)]) (rest := []) (m_X2_add l D cs h0 h0_members h0_scores x2 (f1_scores j25) n0_size f0_members f0_scores _ hw) F (cwV 2 F.2.2.2.2 gX2_addAll_X2_add rfl rfl rfl (by decide +kernel) ⟨Nat.le_of_ble_eq_true rfl, Nat.le_of_ble_eq_true rfl⟩) hK hP hD hS hA [0, 1, 2] [3, 4, 5] rfl rfl 0 rfl rfl rfl hl.1 rfl (Nat.le_of_ble_eq_true rfl) dX2_addAll_26 ⟨Nat.zero_le _, Nat.zero_le _⟩ (fun u H locs hw hP hD hS => ?_)
        obtain ⟨n0_size_26, f0_members_26, f0_scores_26⟩ := u
        have hP : va_P D vwCl (pc_X2_addAll cs h0 h0_members h0_scores h1 h1_members h1_scores n0_size_26 f0_members_26 f0_scores_26 n1_size f1_members f1_scores) H := hP.sub [3, 4, 5, 0, 1, 2] rfl
        have hD : va_D A (pc_X2_addAll cs h0 h0_members h0_scores h1 h1_members h1_scores n0_size_26 f0_members_26 f0_scores_26 n1_size f1_members f1_scores) := hD.sub [3, 4, 5, 0, 1, 2] (by decide) rfl
        try dsimp only at hw
        exact (hX29 _ _ _ _).mp hw H locs ls hP hD hS (lv_sub hl [0, 1, 2] rfl)
  · intro x2 n0_size f0_members f0_scores hw
    refine (hX29 _ _ _ _).mpr ?_
    intro H locs ls hP hD hS hl
    refine lv_iinc (v := (x2 + 1)) (lv' := [(2, .int (x2 + 1)), (0, .ref h0), (1, .ref h1)]) F.1 F.2.1 dX2_addAll_29 hl (k := 2) rfl rfl (by decide) rfl (fun ls hl => ?_)
    refine lv_goto (tgt := 2) F.1 F.2.1 dX2_addAll_32 (by decide) ?_
    exact (hX2 _ _ _ _).mp hw H locs ls hP hD hS (lv_sub hl [1, 2, 0] rfl)
  generalize ([] : List Loc) = locs at hS ⊢
  obtain ⟨H, hHe⟩ : ∃ H, H = s.heap := ⟨_, rfl⟩
  have hP : va_P D vwCl (pc_X2_addAll cs h0 h0_members h0_scores h1 h1_members h1_scores n0_size f0_members f0_scores n1_size f1_members f1_scores) H := by rw [hHe]; exact hP
  have hS : va_S A s.heap H locs := by rw [hHe]; exact hS
  suffices W p l e rm_X2_addAll s m args below meth c H locs 0 0 Z (F0 m 0 ls []) by rw [hHe] at this; exact this
  refine lv_iconst (v := 0) F.1 F.2.1 dX2_addAll_0 (by decide) ?_
  refine lv_istore_n (lv' := [(2, .int 0), (0, .ref h0), (1, .ref h1)]) F.1 F.2.1 dX2_addAll_1 rfl hl (by decide) rfl (fun ls hl => ?_)
  exact (hX2 _ _ _ _).mp hw H locs ls hP hD hS (lv_sub hl [1, 2, 0] rfl)

theorem in_X2_removeAll_X2 : ∀ w ∈ wsX20, w ∈ wsX2_removeAll := by decide +kernel
theorem fl_X2_removeAll_9 : Cond.fieldLink RX2 9 "JoinBlocks$ScoredSet" "members" "[Z" ∈ wsX2_removeAll := by decide +kernel
abbrev pc_X2_removeAll (cs : Nat → ClassId) (h0 : Nat) (h0_members : Nat) (h0_scores : Nat) (h1 : Nat) (h1_members : Nat) (h1_scores : Nat) (n0_size : Int32) (f0_members : Nat → Bool) (n1_size : Int32) (f1_members : Nat → Bool) : va_W := [(h0, .inr (2, [.ref h0_members, .ref h0_scores, .int n0_size])), (h0_members, .inl (cs 1, 200, .inl (bF f0_members))), (h1, .inr (2, [.ref h1_members, .ref h1_scores, .int n1_size])), (h1_members, .inl (cs 1, 200, .inl (bF f1_members)))]
abbrev rm_X2_removeAll : Room := { frames := 1, cells := 0, slots := 0, locals := 21 }
def call_X2_removeAll (n0_size : Int32) (f0_members : Nat → Bool) (f1_members : Nat → Bool) (Q : Int32 → (Nat → Bool) → Prop) : Prop := ∀ (X2 : Int32 → Int32 → (Nat → Bool) → Prop) (X23 : Int32 → Int32 → (Nat → Bool) → Prop),
    (∀ (x2 : Int32) (n0_size : Int32) (f0_members : Nat → Bool),
      ((200 ≤ x2 → Q n0_size f0_members) ∧ (¬ 200 ≤ x2 → (∃ j14 : Nat, j14 < 200 ∧ x2 = nI j14 ∧ (((f1_members j14) = false → X23 x2 n0_size f0_members) ∧ ((f1_members j14) = true → (call_X2_remove x2 n0_size f0_members (fun (n0_size_20 : Int32) (f0_members_20 : Nat → Bool) => X23 x2 n0_size_20 f0_members_20))))))) → X2 x2 n0_size f0_members) →
    (∀ (x2 : Int32) (n0_size : Int32) (f0_members : Nat → Bool),
      X2 (x2 + 1) n0_size f0_members → X23 x2 n0_size f0_members) →
    X2 0 n0_size f0_members
set_option maxHeartbeats 4000000 in
set_option maxRecDepth 100000 in
theorem m_X2_removeAll (l : Launch) (D : va_G) (cs : Nat → ClassId) (h0 : Nat) (h0_members : Nat) (h0_scores : Nat) (h1 : Nat) (h1_members : Nat) (h1_scores : Nat)  (n0_size : Int32) (f0_members : Nat → Bool) (n1_size : Int32) (f1_members : Nat → Bool) (Q : Int32 → (Nat → Bool) → Prop) (h : call_X2_removeAll n0_size f0_members f1_members Q) : CtV l yX2_removeAll wsX2_removeAll rm_X2_removeAll D cs [.ref h0, .ref h1] (pc_X2_removeAll cs h0 h0_members h0_scores h1 h1_members h1_scores n0_size f0_members n1_size f1_members) (fun u : Int32 × (Nat → Bool) => (pc_X2_removeAll cs h0 h0_members h0_scores h1 h1_members h1_scores u.1 u.2 n1_size f1_members)) 0 0 (fun u => Q u.1 u.2) := by
  refine xo_V (S := Int32 × (Nat → Bool)) (cc := cX2_removeAll) (maxL := 3) (own := RX2) (lv0 := [(0, .ref h0), (1, .ref h1)]) (by decide) rfl rfl (Nat.le_of_ble_eq_true rfl) rfl ?_
  intro p e s m args below meth c A Z ls hnm F hK hA hP hD hS hl RET
  unfold call_X2_removeAll at h
  obtain ⟨X2, hX2⟩ : ∃ X : Int32 → Int32 → (Nat → Bool) → Prop, ∀ (x2 : Int32) (n0_size : Int32) (f0_members : Nat → Bool), (X x2 n0_size f0_members ↔ ∀ (H : Heap) (locs : List Loc) (ls : Array Slot), va_P D vwCl (pc_X2_removeAll cs h0 h0_members h0_scores h1 h1_members h1_scores n0_size f0_members n1_size f1_members) H → va_D A (pc_X2_removeAll cs h0 h0_members h0_scores h1 h1_members h1_scores n0_size f0_members n1_size f1_members) → va_S A s.heap H locs → lv_has ls 3 [(0, .ref h0), (1, .ref h1), (2, .int x2)] → W p l e rm_X2_removeAll s m args below meth c H locs 0 0 Z (F0 m 2 ls [])) := ⟨_, fun _ _ _ => Iff.rfl⟩
  obtain ⟨X23, hX23⟩ : ∃ X : Int32 → Int32 → (Nat → Bool) → Prop, ∀ (x2 : Int32) (n0_size : Int32) (f0_members : Nat → Bool), (X x2 n0_size f0_members ↔ ∀ (H : Heap) (locs : List Loc) (ls : Array Slot), va_P D vwCl (pc_X2_removeAll cs h0 h0_members h0_scores h1 h1_members h1_scores n0_size f0_members n1_size f1_members) H → va_D A (pc_X2_removeAll cs h0 h0_members h0_scores h1 h1_members h1_scores n0_size f0_members n1_size f1_members) → va_S A s.heap H locs → lv_has ls 3 [(0, .ref h0), (1, .ref h1), (2, .int x2)] → W p l e rm_X2_removeAll s m args below meth c H locs 0 0 Z (F0 m 23 ls [])) := ⟨_, fun _ _ _ => Iff.rfl⟩
  refine xt_cut (h X2 X23 ?_ ?_) (fun hw => ?_)
  · intro x2 n0_size f0_members hw
    refine (hX2 _ _ _).mpr ?_
    intro H locs ls hP hD hS hl
    refine lv_iload_n F.1 F.2.1 dX2_removeAll_2 rfl (lv_at hl 2 rfl) ?_
    refine lv_sipush (v := 200) F.1 F.2.1 dX2_removeAll_3 (by decide) ?_
    refine lv_icmp_ge (tgt := 29) F.1 F.2.1 dX2_removeAll_6 (by decide) (fun hc => ?_) (fun hc => ?_)
    · have hw := hw.1 hc
      exact RET (n0_size, f0_members) H locs 29 ls hw hP hD hS dX2_removeAll_29
    · have hw := hw.2 hc
      refine lv_aload_n F.1 F.2.1 dX2_removeAll_9 rfl (lv_at hl 1 rfl) ?_
      refine xi_get (C := RX2) (T := TX2) (N := 3) (v := .ref h1_members) F in_X2_removeAll_X2 hK hP 2 rfl rfl 0 (by decide) fl_X2_removeAll_9 rfl dX2_removeAll_10 ?_
      refine lv_iload_n F.1 F.2.1 dX2_removeAll_13 rfl (lv_at hl 2 rfl) ?_
      obtain ⟨j14, hj, he, hw⟩ := hw
      refine xi_zald (j := j14) F hK hP 3 rfl (by decide) hj he dX2_removeAll_14 ?_
      refine xi_ifeqz (tgt := 23) F dX2_removeAll_15 (by decide) (fun hc => ?_) (fun hc => ?_)
      · have hw := hw.1 hc
        exact (hX23 _ _ _).mp hw H locs ls hP hD hS (lv_sub hl [0, 1, 2] rfl)
      · have hw := hw.2 hc
        refine lv_aload_n F.1 F.2.1 dX2_removeAll_18 rfl (lv_at hl 0 rfl) ?_
        refine lv_iload_n F.1 F.2.1 dX2_removeAll_19 rfl (lv_at hl 2 rfl) ?_
        refine xc_Vv (As := [.int x2]) (rest := []) (m_X2_remove l D cs h0 h0_members h0_scores x2 n0_size f0_members _ hw) F (cwV 1 F.2.2.2.2 gX2_removeAll_X2_remove rfl rfl rfl (by decide +kernel) ⟨Nat.le_of_ble_eq_true rfl, Nat.le_of_ble_eq_true rfl⟩) hK hP hD hS hA [0, 1] [2, 3] rfl rfl 0 rfl rfl rfl hl.1 rfl (Nat.le_of_ble_eq_true rfl) dX2_removeAll_20 ⟨Nat.zero_le _, Nat.zero_le _⟩ (fun u H locs hw hP hD hS => ?_)
        obtain ⟨n0_size_20, f0_members_20⟩ := u
        have hP : va_P D vwCl (pc_X2_removeAll cs h0 h0_members h0_scores h1 h1_members h1_scores n0_size_20 f0_members_20 n1_size f1_members) H := hP.sub [2, 3, 0, 1] rfl
        have hD : va_D A (pc_X2_removeAll cs h0 h0_members h0_scores h1 h1_members h1_scores n0_size_20 f0_members_20 n1_size f1_members) := hD.sub [2, 3, 0, 1] (by decide) rfl
        try dsimp only at hw
        exact (hX23 _ _ _).mp hw H locs ls hP hD hS (lv_sub hl [0, 1, 2] rfl)
  · intro x2 n0_size f0_members hw
    refine (hX23 _ _ _).mpr ?_
    intro H locs ls hP hD hS hl
    refine lv_iinc (v := (x2 + 1)) (lv' := [(2, .int (x2 + 1)), (0, .ref h0), (1, .ref h1)]) F.1 F.2.1 dX2_removeAll_23 hl (k := 2) rfl rfl (by decide) rfl (fun ls hl => ?_)
    refine lv_goto (tgt := 2) F.1 F.2.1 dX2_removeAll_26 (by decide) ?_
    exact (hX2 _ _ _).mp hw H locs ls hP hD hS (lv_sub hl [1, 2, 0] rfl)
  generalize ([] : List Loc) = locs at hS ⊢
  obtain ⟨H, hHe⟩ : ∃ H, H = s.heap := ⟨_, rfl⟩
  have hP : va_P D vwCl (pc_X2_removeAll cs h0 h0_members h0_scores h1 h1_members h1_scores n0_size f0_members n1_size f1_members) H := by rw [hHe]; exact hP
  have hS : va_S A s.heap H locs := by rw [hHe]; exact hS
  suffices W p l e rm_X2_removeAll s m args below meth c H locs 0 0 Z (F0 m 0 ls []) by rw [hHe] at this; exact this
  refine lv_iconst (v := 0) F.1 F.2.1 dX2_removeAll_0 (by decide) ?_
  refine lv_istore_n (lv' := [(2, .int 0), (0, .ref h0), (1, .ref h1)]) F.1 F.2.1 dX2_removeAll_1 rfl hl (by decide) rfl (fun ls hl => ?_)
  exact (hX2 _ _ _).mp hw H locs ls hP hD hS (lv_sub hl [1, 2, 0] rfl)

theorem in_X2_keepCommon_X2 : ∀ w ∈ wsX20, w ∈ wsX2_keepCommon := by decide +kernel
theorem fl_X2_keepCommon_9 : Cond.fieldLink RX2 9 "JoinBlocks$ScoredSet" "members" "[Z" ∈ wsX2_keepCommon := by decide +kernel
theorem fl_X2_keepCommon_15 : Cond.fieldLink RX2 15 "JoinBlocks$ScoredSet" "scores" "[J" ∈ wsX2_keepCommon := by decide +kernel
abbrev pc_X2_keepCommon (cs : Nat → ClassId) (h0 : Nat) (h0_members : Nat) (h0_scores : Nat) (h1 : Nat) (h1_members : Nat) (h1_scores : Nat) (n0_size : Int32) (f0_members : Nat → Bool) (f0_scores : Nat → Int64) (n1_size : Int32) (f1_members : Nat → Bool) (f1_scores : Nat → Int64) : va_W := [(h0, .inr (2, [.ref h0_members, .ref h0_scores, .int n0_size])), (h0_members, .inl (cs 1, 200, .inl (bF f0_members))), (h0_scores, .inl (cs 2, 200, .inr (.inl f0_scores))), (h1, .inr (2, [.ref h1_members, .ref h1_scores, .int n1_size])), (h1_members, .inl (cs 1, 200, .inl (bF f1_members))), (h1_scores, .inl (cs 2, 200, .inr (.inl f1_scores)))]
abbrev rm_X2_keepCommon : Room := { frames := 2, cells := 0, slots := 0, locals := 46 }
def call_X2_keepCommon (n0_size : Int32) (f0_members : Nat → Bool) (f0_scores : Nat → Int64) (f1_members : Nat → Bool) (f1_scores : Nat → Int64) (Q : Int32 → (Nat → Bool) → (Nat → Int64) → Prop) : Prop := ∀ (X2 : Int32 → Int32 → (Nat → Bool) → (Nat → Int64) → Prop) (X46 : Int32 → Int32 → (Nat → Bool) → (Nat → Int64) → Prop),
    (∀ (x2 : Int32) (n0_size : Int32) (f0_members : Nat → Bool) (f0_scores : Nat → Int64),
      ((200 ≤ x2 → Q n0_size f0_members f0_scores) ∧ (¬ 200 ≤ x2 → (∃ j14 : Nat, j14 < 200 ∧ x2 = nI j14 ∧ (((f1_members j14) = true → (∃ j31 : Nat, j31 < 200 ∧ x2 = nI j31 ∧ (((f0_members j31) = false → X46 x2 n0_size f0_members f0_scores) ∧ ((f0_members j31) = true → (∃ j42 : Nat, j42 < 200 ∧ x2 = nI j42 ∧ (call_X2_add x2 (f1_scores j42) n0_size f0_members f0_scores (fun (n0_size_43 : Int32) (f0_members_43 : Nat → Bool) (f0_scores_43 : Nat → Int64) => X46 x2 n0_size_43 f0_members_43 f0_scores_43))))))) ∧ ((f1_members j14) = false → (call_X2_remove x2 n0_size f0_members (fun (n0_size_20 : Int32) (f0_members_20 : Nat → Bool) => X46 x2 n0_size_20 f0_members_20 f0_scores))))))) → X2 x2 n0_size f0_members f0_scores) →
    (∀ (x2 : Int32) (n0_size : Int32) (f0_members : Nat → Bool) (f0_scores : Nat → Int64),
      X2 (x2 + 1) n0_size f0_members f0_scores → X46 x2 n0_size f0_members f0_scores) →
    X2 0 n0_size f0_members f0_scores
set_option maxHeartbeats 4000000 in
set_option maxRecDepth 100000 in
theorem m_X2_keepCommon (l : Launch) (D : va_G) (cs : Nat → ClassId) (h0 : Nat) (h0_members : Nat) (h0_scores : Nat) (h1 : Nat) (h1_members : Nat) (h1_scores : Nat)  (n0_size : Int32) (f0_members : Nat → Bool) (f0_scores : Nat → Int64) (n1_size : Int32) (f1_members : Nat → Bool) (f1_scores : Nat → Int64) (Q : Int32 → (Nat → Bool) → (Nat → Int64) → Prop) (h : call_X2_keepCommon n0_size f0_members f0_scores f1_members f1_scores Q) : CtV l yX2_keepCommon wsX2_keepCommon rm_X2_keepCommon D cs [.ref h0, .ref h1] (pc_X2_keepCommon cs h0 h0_members h0_scores h1 h1_members h1_scores n0_size f0_members f0_scores n1_size f1_members f1_scores) (fun u : Int32 × (Nat → Bool) × (Nat → Int64) => (pc_X2_keepCommon cs h0 h0_members h0_scores h1 h1_members h1_scores u.1 u.2.1 u.2.2 n1_size f1_members f1_scores)) 0 0 (fun u => Q u.1 u.2.1 u.2.2) := by
  refine xo_V (S := Int32 × (Nat → Bool) × (Nat → Int64)) (cc := cX2_keepCommon) (maxL := 3) (own := RX2) (lv0 := [(0, .ref h0), (1, .ref h1)]) (by decide) rfl rfl (Nat.le_of_ble_eq_true rfl) rfl ?_
  intro p e s m args below meth c A Z ls hnm F hK hA hP hD hS hl RET
  unfold call_X2_keepCommon at h
  obtain ⟨X2, hX2⟩ : ∃ X : Int32 → Int32 → (Nat → Bool) → (Nat → Int64) → Prop, ∀ (x2 : Int32) (n0_size : Int32) (f0_members : Nat → Bool) (f0_scores : Nat → Int64), (X x2 n0_size f0_members f0_scores ↔ ∀ (H : Heap) (locs : List Loc) (ls : Array Slot), va_P D vwCl (pc_X2_keepCommon cs h0 h0_members h0_scores h1 h1_members h1_scores n0_size f0_members f0_scores n1_size f1_members f1_scores) H → va_D A (pc_X2_keepCommon cs h0 h0_members h0_scores h1 h1_members h1_scores n0_size f0_members f0_scores n1_size f1_members f1_scores) → va_S A s.heap H locs → lv_has ls 3 [(0, .ref h0), (1, .ref h1), (2, .int x2)] → W p l e rm_X2_keepCommon s m args below meth c H locs 0 0 Z (F0 m 2 ls [])) := ⟨_, fun _ _ _ _ => Iff.rfl⟩
  obtain ⟨X46, hX46⟩ : ∃ X : Int32 → Int32 → (Nat → Bool) → (Nat → Int64) → Prop, ∀ (x2 : Int32) (n0_size : Int32) (f0_members : Nat → Bool) (f0_scores : Nat → Int64), (X x2 n0_size f0_members f0_scores ↔ ∀ (H : Heap) (locs : List Loc) (ls : Array Slot), va_P D vwCl (pc_X2_keepCommon cs h0 h0_members h0_scores h1 h1_members h1_scores n0_size f0_members f0_scores n1_size f1_members f1_scores) H → va_D A (pc_X2_keepCommon cs h0 h0_members h0_scores h1 h1_members h1_scores n0_size f0_members f0_scores n1_size f1_members f1_scores) → va_S A s.heap H locs → lv_has ls 3 [(0, .ref h0), (1, .ref h1), (2, .int x2)] → W p l e rm_X2_keepCommon s m args below meth c H locs 0 0 Z (F0 m 46 ls [])) := ⟨_, fun _ _ _ _ => Iff.rfl⟩
  refine xt_cut (h X2 X46 ?_ ?_) (fun hw => ?_)
  · intro x2 n0_size f0_members f0_scores hw
    refine (hX2 _ _ _ _).mpr ?_
    intro H locs ls hP hD hS hl
    refine lv_iload_n F.1 F.2.1 dX2_keepCommon_2 rfl (lv_at hl 2 rfl) ?_
    refine lv_sipush (v := 200) F.1 F.2.1 dX2_keepCommon_3 (by decide) ?_
    refine lv_icmp_ge (tgt := 52) F.1 F.2.1 dX2_keepCommon_6 (by decide) (fun hc => ?_) (fun hc => ?_)
    · have hw := hw.1 hc
      exact RET (n0_size, f0_members, f0_scores) H locs 52 ls hw hP hD hS dX2_keepCommon_52
    · have hw := hw.2 hc
      refine lv_aload_n F.1 F.2.1 dX2_keepCommon_9 rfl (lv_at hl 1 rfl) ?_
      refine xi_get (C := RX2) (T := TX2) (N := 3) (v := .ref h1_members) F in_X2_keepCommon_X2 hK hP 3 rfl rfl 0 (by decide) fl_X2_keepCommon_9 rfl dX2_keepCommon_10 ?_
      refine lv_iload_n F.1 F.2.1 dX2_keepCommon_13 rfl (lv_at hl 2 rfl) ?_
      obtain ⟨j14, hj, he, hw⟩ := hw
      refine xi_zald (j := j14) F hK hP 4 rfl (by decide) hj he dX2_keepCommon_14 ?_
      refine xi_ifnez (tgt := 26) F dX2_keepCommon_15 (by decide) (fun hc => ?_) (fun hc => ?_)
      · have hw := hw.1 hc
        refine lv_aload_n F.1 F.2.1 dX2_keepCommon_26 rfl (lv_at hl 0 rfl) ?_
        refine xi_get (C := RX2) (T := TX2) (N := 3) (v := .ref h0_members) F in_X2_keepCommon_X2 hK hP 0 rfl rfl 0 (by decide) fl_X2_keepCommon_9 rfl dX2_keepCommon_27 ?_
        refine lv_iload_n F.1 F.2.1 dX2_keepCommon_30 rfl (lv_at hl 2 rfl) ?_
        obtain ⟨j31, hj, he, hw⟩ := hw
        refine xi_zald (j := j31) F hK hP 1 rfl (by decide) hj he dX2_keepCommon_31 ?_
        refine xi_ifeqz (tgt := 46) F dX2_keepCommon_32 (by decide) (fun hc => ?_) (fun hc => ?_)
        · have hw := hw.1 hc
          exact (hX46 _ _ _ _).mp hw H locs ls hP hD hS (lv_sub hl [0, 1, 2] rfl)
        · have hw := hw.2 hc
          refine lv_aload_n F.1 F.2.1 dX2_keepCommon_35 rfl (lv_at hl 0 rfl) ?_
          refine lv_iload_n F.1 F.2.1 dX2_keepCommon_36 rfl (lv_at hl 2 rfl) ?_
          refine lv_aload_n F.1 F.2.1 dX2_keepCommon_37 rfl (lv_at hl 1 rfl) ?_
          refine xi_get (C := RX2) (T := TX2) (N := 3) (v := .ref h1_scores) F in_X2_keepCommon_X2 hK hP 3 rfl rfl 1 (by decide) fl_X2_keepCommon_15 rfl dX2_keepCommon_38 ?_
          refine lv_iload_n F.1 F.2.1 dX2_keepCommon_41 rfl (lv_at hl 2 rfl) ?_
          obtain ⟨j42, hj, he, hw⟩ := hw
          refine xi_lald (j := j42) F hK hP 5 rfl (by decide) hj he dX2_keepCommon_42 ?_
          refine xc_Vv (As := [.int x2, .long (f1_scores j42)]) (rest := []) (m_X2_add l D cs h0 h0_members h0_scores x2 (f1_scores j42) n0_size f0_members f0_scores _ hw) F (cwV 2 F.2.2.2.2 gX2_keepCommon_X2_add rfl rfl rfl (by decide +kernel) ⟨Nat.le_of_ble_eq_true rfl, Nat.le_of_ble_eq_true rfl⟩) hK hP hD hS hA [0, 1, 2] [3, 4, 5] rfl rfl 0 rfl rfl rfl hl.1 rfl (Nat.le_of_ble_eq_true rfl) dX2_keepCommon_43 ⟨Nat.zero_le _, Nat.zero_le _⟩ (fun u H locs hw hP hD hS => ?_)
          obtain ⟨n0_size_43, f0_members_43, f0_scores_43⟩ := u
          have hP : va_P D vwCl (pc_X2_keepCommon cs h0 h0_members h0_scores h1 h1_members h1_scores n0_size_43 f0_members_43 f0_scores_43 n1_size f1_members f1_scores) H := hP.sub [3, 4, 5, 0, 1, 2] rfl
          have hD : va_D A (pc_X2_keepCommon cs h0 h0_members h0_scores h1 h1_members h1_scores n0_size_43 f0_members_43 f0_scores_43 n1_size f1_members f1_scores) := hD.sub [3, 4, 5, 0, 1, 2] (by decide) rfl
          try dsimp only at hw
          exact (hX46 _ _ _ _).mp hw H locs ls hP hD hS (lv_sub hl [0, 1, 2] rfl)
      · have hw := hw.2 hc
        refine lv_aload_n F.1 F.2.1 dX2_keepCommon_18 rfl (lv_at hl 0 rfl) ?_
        refine lv_iload_n F.1 F.2.1 dX2_keepCommon_19 rfl (lv_at hl 2 rfl) ?_
        refine xc_Vv (As := [.int x2]) (rest := []) (m_X2_remove l D cs h0 h0_members h0_scores x2 n0_size f0_members _ hw) F (cwV 1 F.2.2.2.2 gX2_keepCommon_X2_remove rfl rfl rfl (by decide +kernel) ⟨Nat.le_of_ble_eq_true rfl, Nat.le_of_ble_eq_true rfl⟩) hK hP hD hS hA [0, 1] [2, 3, 4, 5] rfl rfl 0 rfl rfl rfl hl.1 rfl (Nat.le_of_ble_eq_true rfl) dX2_keepCommon_20 ⟨Nat.zero_le _, Nat.zero_le _⟩ (fun u H locs hw hP hD hS => ?_)
        obtain ⟨n0_size_20, f0_members_20⟩ := u
        have hP : va_P D vwCl (pc_X2_keepCommon cs h0 h0_members h0_scores h1 h1_members h1_scores n0_size_20 f0_members_20 f0_scores n1_size f1_members f1_scores) H := hP.sub [4, 5, 0, 1, 2, 3] rfl
        have hD : va_D A (pc_X2_keepCommon cs h0 h0_members h0_scores h1 h1_members h1_scores n0_size_20 f0_members_20 f0_scores n1_size f1_members f1_scores) := hD.sub [4, 5, 0, 1, 2, 3] (by decide) rfl
        try dsimp only at hw
        refine lv_goto (tgt := 46) F.1 F.2.1 dX2_keepCommon_23 (by decide) ?_
        exact (hX46 _ _ _ _).mp hw H locs ls hP hD hS (lv_sub hl [0, 1, 2] rfl)
  · intro x2 n0_size f0_members f0_scores hw
    refine (hX46 _ _ _ _).mpr ?_
    intro H locs ls hP hD hS hl
    refine lv_iinc (v := (x2 + 1)) (lv' := [(2, .int (x2 + 1)), (0, .ref h0), (1, .ref h1)]) F.1 F.2.1 dX2_keepCommon_46 hl (k := 2) rfl rfl (by decide) rfl (fun ls hl => ?_)
    refine lv_goto (tgt := 2) F.1 F.2.1 dX2_keepCommon_49 (by decide) ?_
    exact (hX2 _ _ _ _).mp hw H locs ls hP hD hS (lv_sub hl [1, 2, 0] rfl)
  generalize ([] : List Loc) = locs at hS ⊢
  obtain ⟨H, hHe⟩ : ∃ H, H = s.heap := ⟨_, rfl⟩
  have hP : va_P D vwCl (pc_X2_keepCommon cs h0 h0_members h0_scores h1 h1_members h1_scores n0_size f0_members f0_scores n1_size f1_members f1_scores) H := by rw [hHe]; exact hP
  have hS : va_S A s.heap H locs := by rw [hHe]; exact hS
  suffices W p l e rm_X2_keepCommon s m args below meth c H locs 0 0 Z (F0 m 0 ls []) by rw [hHe] at this; exact this
  refine lv_iconst (v := 0) F.1 F.2.1 dX2_keepCommon_0 (by decide) ?_
  refine lv_istore_n (lv' := [(2, .int 0), (0, .ref h0), (1, .ref h1)]) F.1 F.2.1 dX2_keepCommon_1 rfl hl (by decide) rfl (fun ls hl => ?_)
  exact (hX2 _ _ _ _).mp hw H locs ls hP hD hS (lv_sub hl [1, 2, 0] rfl)

abbrev pc_X2_moveTo (cs : Nat → ClassId) (h0 : Nat) (h0_members : Nat) (h0_scores : Nat) (h1 : Nat) (h1_members : Nat) (h1_scores : Nat) (n0_size : Int32) (f0_members : Nat → Bool) (f0_scores : Nat → Int64) (n1_size : Int32) (f1_members : Nat → Bool) (f1_scores : Nat → Int64) : va_W := [(h0, .inr (2, [.ref h0_members, .ref h0_scores, .int n0_size])), (h0_members, .inl (cs 1, 200, .inl (bF f0_members))), (h0_scores, .inl (cs 2, 200, .inr (.inl f0_scores))), (h1, .inr (2, [.ref h1_members, .ref h1_scores, .int n1_size])), (h1_members, .inl (cs 1, 200, .inl (bF f1_members))), (h1_scores, .inl (cs 2, 200, .inr (.inl f1_scores)))]
abbrev rm_X2_moveTo : Room := { frames := 3, cells := 0, slots := 0, locals := 68 }
def call_X2_moveTo (n0_size : Int32) (f0_members : Nat → Bool) (f0_scores : Nat → Int64) (n1_size : Int32) (f1_members : Nat → Bool) (f1_scores : Nat → Int64) (Q : Int32 → (Nat → Bool) → Int32 → (Nat → Bool) → (Nat → Int64) → Prop) : Prop :=
    (call_X2_clear n1_size f1_members (fun (n1_size_1 : Int32) (f1_members_1 : Nat → Bool) => (call_X2_addAll n1_size_1 f1_members_1 f1_scores f0_members f0_scores (fun (n1_size_6 : Int32) (f1_members_6 : Nat → Bool) (f1_scores_6 : Nat → Int64) => (call_X2_clear n0_size f0_members (fun (n0_size_10 : Int32) (f0_members_10 : Nat → Bool) => Q n0_size_10 f0_members_10 n1_size_6 f1_members_6 f1_scores_6))))))
set_option maxHeartbeats 4000000 in
set_option maxRecDepth 100000 in
theorem m_X2_moveTo (l : Launch) (D : va_G) (cs : Nat → ClassId) (h0 : Nat) (h0_members : Nat) (h0_scores : Nat) (h1 : Nat) (h1_members : Nat) (h1_scores : Nat)  (n0_size : Int32) (f0_members : Nat → Bool) (f0_scores : Nat → Int64) (n1_size : Int32) (f1_members : Nat → Bool) (f1_scores : Nat → Int64) (Q : Int32 → (Nat → Bool) → Int32 → (Nat → Bool) → (Nat → Int64) → Prop) (h : call_X2_moveTo n0_size f0_members f0_scores n1_size f1_members f1_scores Q) : CtV l yX2_moveTo wsX2_moveTo rm_X2_moveTo D cs [.ref h0, .ref h1] (pc_X2_moveTo cs h0 h0_members h0_scores h1 h1_members h1_scores n0_size f0_members f0_scores n1_size f1_members f1_scores) (fun u : Int32 × (Nat → Bool) × Int32 × (Nat → Bool) × (Nat → Int64) => (pc_X2_moveTo cs h0 h0_members h0_scores h1 h1_members h1_scores u.1 u.2.1 f0_scores u.2.2.1 u.2.2.2.1 u.2.2.2.2)) 0 0 (fun u => Q u.1 u.2.1 u.2.2.1 u.2.2.2.1 u.2.2.2.2) := by
  refine xo_V (S := Int32 × (Nat → Bool) × Int32 × (Nat → Bool) × (Nat → Int64)) (cc := cX2_moveTo) (maxL := 2) (own := RX2) (lv0 := [(0, .ref h0), (1, .ref h1)]) (by decide) rfl rfl (Nat.le_of_ble_eq_true rfl) rfl ?_
  intro p e s m args below meth c A Z ls hnm F hK hA hP hD hS hl RET
  have hw := h
  unfold call_X2_moveTo at hw
  generalize ([] : List Loc) = locs at hS ⊢
  obtain ⟨H, hHe⟩ : ∃ H, H = s.heap := ⟨_, rfl⟩
  have hP : va_P D vwCl (pc_X2_moveTo cs h0 h0_members h0_scores h1 h1_members h1_scores n0_size f0_members f0_scores n1_size f1_members f1_scores) H := by rw [hHe]; exact hP
  have hS : va_S A s.heap H locs := by rw [hHe]; exact hS
  suffices W p l e rm_X2_moveTo s m args below meth c H locs 0 0 Z (F0 m 0 ls []) by rw [hHe] at this; exact this
  refine lv_aload_n F.1 F.2.1 dX2_moveTo_0 rfl (lv_at hl 1 rfl) ?_
  refine xc_Vv (As := []) (rest := []) (m_X2_clear l D cs h1 h1_members h1_scores n1_size f1_members _ hw) F (cwV 0 F.2.2.2.2 gX2_moveTo_X2_clear rfl rfl rfl (by decide +kernel) ⟨Nat.le_of_ble_eq_true rfl, Nat.le_of_ble_eq_true rfl⟩) hK hP hD hS hA [3, 4] [0, 1, 2, 5] rfl rfl 0 rfl rfl rfl hl.1 rfl (Nat.le_of_ble_eq_true rfl) dX2_moveTo_1 ⟨Nat.zero_le _, Nat.zero_le _⟩ (fun u H locs hw hP hD hS => ?_)
  obtain ⟨n1_size_1, f1_members_1⟩ := u
  have hP : va_P D vwCl (pc_X2_moveTo cs h0 h0_members h0_scores h1 h1_members h1_scores n0_size f0_members f0_scores n1_size_1 f1_members_1 f1_scores) H := hP.sub [0, 1, 2, 4, 5, 3] rfl
  have hD : va_D A (pc_X2_moveTo cs h0 h0_members h0_scores h1 h1_members h1_scores n0_size f0_members f0_scores n1_size_1 f1_members_1 f1_scores) := hD.sub [0, 1, 2, 4, 5, 3] (by decide) rfl
  try dsimp only at hw
  refine lv_aload_n F.1 F.2.1 dX2_moveTo_4 rfl (lv_at hl 1 rfl) ?_
  refine lv_aload_n F.1 F.2.1 dX2_moveTo_5 rfl (lv_at hl 0 rfl) ?_
  refine xc_Vv (As := [.ref h0]) (rest := []) (m_X2_addAll l D cs h1 h1_members h1_scores h0 h0_members h0_scores n1_size_1 f1_members_1 f1_scores n0_size f0_members f0_scores _ hw) F (cwV 1 F.2.2.2.2 gX2_moveTo_X2_addAll rfl rfl rfl (by decide +kernel) ⟨Nat.le_of_ble_eq_true rfl, Nat.le_of_ble_eq_true rfl⟩) hK hP hD hS hA [3, 4, 5, 0, 1, 2] [] rfl rfl 0 rfl rfl rfl hl.1 rfl (Nat.le_of_ble_eq_true rfl) dX2_moveTo_6 ⟨Nat.zero_le _, Nat.zero_le _⟩ (fun u H locs hw hP hD hS => ?_)
  obtain ⟨n1_size_6, f1_members_6, f1_scores_6⟩ := u
  have hP : va_P D vwCl (pc_X2_moveTo cs h0 h0_members h0_scores h1 h1_members h1_scores n0_size f0_members f0_scores n1_size_6 f1_members_6 f1_scores_6) H := hP.sub [3, 4, 5, 0, 1, 2] rfl
  have hD : va_D A (pc_X2_moveTo cs h0 h0_members h0_scores h1 h1_members h1_scores n0_size f0_members f0_scores n1_size_6 f1_members_6 f1_scores_6) := hD.sub [3, 4, 5, 0, 1, 2] (by decide) rfl
  try dsimp only at hw
  refine lv_aload_n F.1 F.2.1 dX2_moveTo_9 rfl (lv_at hl 0 rfl) ?_
  refine xc_Vv (As := []) (rest := []) (m_X2_clear l D cs h0 h0_members h0_scores n0_size f0_members _ hw) F (cwV 0 F.2.2.2.2 gX2_moveTo_X2_clear rfl rfl rfl (by decide +kernel) ⟨Nat.le_of_ble_eq_true rfl, Nat.le_of_ble_eq_true rfl⟩) hK hP hD hS hA [0, 1] [2, 3, 4, 5] rfl rfl 0 rfl rfl rfl hl.1 rfl (Nat.le_of_ble_eq_true rfl) dX2_moveTo_10 ⟨Nat.zero_le _, Nat.zero_le _⟩ (fun u H locs hw hP hD hS => ?_)
  obtain ⟨n0_size_10, f0_members_10⟩ := u
  have hP : va_P D vwCl (pc_X2_moveTo cs h0 h0_members h0_scores h1 h1_members h1_scores n0_size_10 f0_members_10 f0_scores n1_size_6 f1_members_6 f1_scores_6) H := hP.sub [4, 5, 0, 1, 2, 3] rfl
  have hD : va_D A (pc_X2_moveTo cs h0 h0_members h0_scores h1 h1_members h1_scores n0_size_10 f0_members_10 f0_scores n1_size_6 f1_members_6 f1_scores_6) := hD.sub [4, 5, 0, 1, 2, 3] (by decide) rfl
  try dsimp only at hw
  exact RET (n0_size_10, f0_members_10, n1_size_6, f1_members_6, f1_scores_6) H locs 13 ls hw hP hD hS dX2_moveTo_13
