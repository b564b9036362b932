theorem in_X0_mergeTwo_X2 : ∀ w ∈ wsX20, w ∈ wsX0_mergeTwo := by decide +kernel
theorem fl_X0_mergeTwo_48 : Cond.fieldLink RX0 48 "JoinBlocks$ScoredSet" "scores" "[J" ∈ wsX0_mergeTwo := by decide +kernel
theorem in_X0_mergeTwo_X0 : ∀ w ∈ wsX00, w ∈ wsX0_mergeTwo := by decide +kernel
theorem fl_X0_mergeTwo_9 : Cond.fieldLink RX0 9 "JoinBlocks$Ranking" "numbers" "[I" ∈ wsX0_mergeTwo := by decide +kernel
theorem fl_X0_mergeTwo_15 : Cond.fieldLink RX0 15 "JoinBlocks$Ranking" "merged" "[I" ∈ wsX0_mergeTwo := by decide +kernel
abbrev pc_X0_mergeTwo (cs : Nat → ClassId) (h0 : Nat) (h0_numbers : Nat) (h0_merged : Nat) (h1 : Nat) (h1_members : Nat) (h1_scores : Nat) (n0_size : Int32) (f0_numbers : Nat → Int32) (f0_merged : Nat → Int32) (n1_size : Int32) (f1_scores : Nat → Int64) : va_W := [(h0, .inr (0, [.ref h0_numbers, .ref h0_merged, .int n0_size])), (h0_numbers, .inl (cs 0, 200, .inl f0_numbers)), (h0_merged, .inl (cs 0, 200, .inl f0_merged)), (h1, .inr (2, [.ref h1_members, .ref h1_scores, .int n1_size])), (h1_scores, .inl (cs 2, 200, .inr (.inl f1_scores)))]
abbrev rm_X0_mergeTwo : Room := { frames := 0, cells := 0, slots := 0, locals := 0 }
def call_X0_mergeTwo (p2 : Int32) (p3 : Int32) (p4 : Int32) (f0_numbers : Nat → Int32) (f0_merged : Nat → Int32) (f1_scores : Nat → Int64) (Q : (Nat → Int32) → Prop) : Prop := ∀ (X9 : Int32 → Int32 → Int32 → (Nat → Int32) → Prop) (X57 : Int32 → Int32 → Int32 → (Nat → Int32) → Prop) (X61 : Int32 → Int32 → Int32 → (Nat → Int32) → Prop) (X62 : Int32 → Int32 → Int32 → Bool → (Nat → Int32) → Prop) (X92 : Int32 → Int32 → Int32 → Bool → Int32 → Int32 → (Nat → Int32) → Prop) (X107 : Int32 → Int32 → Int32 → (Nat → Int32) → Prop),
    (∀ (x5 : Int32) (x6 : Int32) (x7 : Int32) (f0_merged : Nat → Int32),
      ((p4 ≤ x7 → Q f0_merged) ∧ (¬ p4 ≤ x7 → ((p4 ≤ x6 → X57 x5 x6 x7 f0_merged) ∧ (¬ p4 ≤ x6 → ((p3 ≤ x5 → X61 x5 x6 x7 f0_merged) ∧ (¬ p3 ≤ x5 → (∃ j39 : Nat, j39 < 200 ∧ x5 = nI j39 ∧ (∃ j40 : Nat, j40 < 200 ∧ (f0_numbers j39) = nI j40 ∧ (∃ j51 : Nat, j51 < 200 ∧ x6 = nI j51 ∧ (∃ j52 : Nat, j52 < 200 ∧ (f0_numbers j51) = nI j52 ∧ (((f1_scores j40) < (f1_scores j52) → X61 x5 x6 x7 f0_merged) ∧ (¬ (f1_scores j40) < (f1_scores j52) → X57 x5 x6 x7 f0_merged)))))))))))) → X9 x5 x6 x7 f0_merged) →
    (∀ (x5 : Int32) (x6 : Int32) (x7 : Int32) (f0_merged : Nat → Int32),
      X62 x5 x6 x7 true f0_merged → X57 x5 x6 x7 f0_merged) →
    (∀ (x5 : Int32) (x6 : Int32) (x7 : Int32) (f0_merged : Nat → Int32),
      X62 x5 x6 x7 false f0_merged → X61 x5 x6 x7 f0_merged) →
    (∀ (x5 : Int32) (x6 : Int32) (x7 : Int32) (s0 : Bool) (f0_merged : Nat → Int32),
      ((s0 = false → (∃ j91 : Nat, j91 < 200 ∧ x6 = nI j91 ∧ X92 x5 x6 x7 s0 (f0_numbers j91) x7 f0_merged)) ∧ (s0 = true → (∃ j81 : Nat, j81 < 200 ∧ x5 = nI j81 ∧ X92 x5 x6 x7 s0 (f0_numbers j81) x7 f0_merged))) → X62 x5 x6 x7 s0 f0_merged) →
    (∀ (x5 : Int32) (x6 : Int32) (x7 : Int32) (x8 : Bool) (s0 : Int32) (s1 : Int32) (f0_merged : Nat → Int32),
      (∃ j92 : Nat, j92 < 200 ∧ s1 = nI j92 ∧ ((x8 = false → X107 x5 (x6 + 1) x7 (va_up f0_merged j92 s0)) ∧ (x8 = true → X107 (x5 + 1) x6 x7 (va_up f0_merged j92 s0)))) → X92 x5 x6 x7 x8 s0 s1 f0_merged) →
    (∀ (x5 : Int32) (x6 : Int32) (x7 : Int32) (f0_merged : Nat → Int32),
      X9 x5 x6 (x7 + 1) f0_merged → X107 x5 x6 x7 f0_merged) →
    X9 p2 p3 p2 f0_merged
set_option maxHeartbeats 4000000 in
set_option maxRecDepth 100000 in
theorem m_X0_mergeTwo (l : Launch) (D : va_G) (cs : Nat → ClassId) (h0 : Nat) (h0_numbers : Nat) (h0_merged : Nat) (h1 : Nat) (h1_members : Nat) (h1_scores : Nat)  (p2 : Int32) (p3 : Int32) (p4 : Int32) (n0_size : Int32) (f0_numbers : Nat → Int32) (f0_merged : Nat → Int32) (n1_size : Int32) (f1_scores : Nat → Int64) (Q : (Nat → Int32) → Prop) (h : call_X0_mergeTwo p2 p3 p4 f0_numbers f0_merged f1_scores Q) : CtV l yX0_mergeTwo wsX0_mergeTwo rm_X0_mergeTwo D cs [.ref h0, .ref h1, .int p2, .int p3, .int p4] (pc_X0_mergeTwo cs h0 h0_numbers h0_merged h1 h1_members h1_scores n0_size f0_numbers f0_merged n1_size f1_scores) (fun u : (Nat → Int32) => (pc_X0_mergeTwo cs h0 h0_numbers h0_merged h1 h1_members h1_scores n0_size f0_numbers u n1_size f1_scores)) 0 0 (fun u => Q u) := by
  refine xo_V (S := (Nat → Int32)) (cc := cX0_mergeTwo) (maxL := 9) (own := RX0) (lv0 := [(0, .ref h0), (1, .ref h1), (2, .int p2), (3, .int p3), (4, .int p4)]) (by decide) rfl rfl (Nat.le_of_ble_eq_true rfl) rfl ?_
  intro p e s m args below meth c A Z ls hnm F hK hA hP hD hS hl RET
  unfold call_X0_mergeTwo at h
  obtain ⟨X9, hX9⟩ : ∃ X : Int32 → Int32 → Int32 → (Nat → Int32) → Prop, ∀ (x5 : Int32) (x6 : Int32) (x7 : Int32) (f0_merged : Nat → Int32), (X x5 x6 x7 f0_merged ↔ ∀ (H : Heap) (locs : List Loc) (ls : Array Slot), va_P D vwCl (pc_X0_mergeTwo cs h0 h0_numbers h0_merged h1 h1_members h1_scores n0_size f0_numbers f0_merged n1_size f1_scores) H → va_D A (pc_X0_mergeTwo cs h0 h0_numbers h0_merged h1 h1_members h1_scores n0_size f0_numbers f0_merged n1_size f1_scores) → va_S A s.heap H locs → lv_has ls 9 [(0, .ref h0), (1, .ref h1), (3, .int p3), (4, .int p4), (5, .int x5), (6, .int x6), (7, .int x7)] → W p l e rm_X0_mergeTwo s m args below meth c H locs 0 0 Z (F0 m 9 ls [])) := ⟨_, fun _ _ _ _ => Iff.rfl⟩
  obtain ⟨X57, hX57⟩ : ∃ X : Int32 → Int32 → Int32 → (Nat → Int32) → Prop, ∀ (x5 : Int32) (x6 : Int32) (x7 : Int32) (f0_merged : Nat → Int32), (X x5 x6 x7 f0_merged ↔ ∀ (H : Heap) (locs : List Loc) (ls : Array Slot), va_P D vwCl (pc_X0_mergeTwo cs h0 h0_numbers h0_merged h1 h1_members h1_scores n0_size f0_numbers f0_merged n1_size f1_scores) H → va_D A (pc_X0_mergeTwo cs h0 h0_numbers h0_merged h1 h1_members h1_scores n0_size f0_numbers f0_merged n1_size f1_scores) → va_S A s.heap H locs → lv_has ls 9 [(0, .ref h0), (1, .ref h1), (3, .int p3), (4, .int p4), (5, .int x5), (6, .int x6), (7, .int x7)] → W p l e rm_X0_mergeTwo s m args below meth c H locs 0 0 Z (F0 m 57 ls [])) := ⟨_, fun _ _ _ _ => Iff.rfl⟩
  obtain ⟨X61, hX61⟩ : ∃ X : Int32 → Int32 → Int32 → (Nat → Int32) → Prop, ∀ (x5 : Int32) (x6 : Int32) (x7 : Int32) (f0_merged : Nat → Int32), (X x5 x6 x7 f0_merged ↔ ∀ (H : Heap) (locs : List Loc) (ls : Array Slot), va_P D vwCl (pc_X0_mergeTwo cs h0 h0_numbers h0_merged h1 h1_members h1_scores n0_size f0_numbers f0_merged n1_size f1_scores) H → va_D A (pc_X0_mergeTwo cs h0 h0_numbers h0_merged h1 h1_members h1_scores n0_size f0_numbers f0_merged n1_size f1_scores) → va_S A s.heap H locs → lv_has ls 9 [(0, .ref h0), (1, .ref h1), (3, .int p3), (4, .int p4), (5, .int x5), (6, .int x6), (7, .int x7)] → W p l e rm_X0_mergeTwo s m args below meth c H locs 0 0 Z (F0 m 61 ls [])) := ⟨_, fun _ _ _ _ => Iff.rfl⟩
  obtain ⟨X62, hX62⟩ : ∃ X : Int32 → Int32 → Int32 → Bool → (Nat → Int32) → Prop, ∀ (x5 : Int32) (x6 : Int32) (x7 : Int32) (s0 : Bool) (f0_merged : Nat → Int32), (X x5 x6 x7 s0 f0_merged ↔ ∀ (H : Heap) (locs : List Loc) (ls : Array Slot), va_P D vwCl (pc_X0_mergeTwo cs h0 h0_numbers h0_merged h1 h1_members h1_scores n0_size f0_numbers f0_merged n1_size f1_scores) H → va_D A (pc_X0_mergeTwo cs h0 h0_numbers h0_merged h1 h1_members h1_scores n0_size f0_numbers f0_merged n1_size f1_scores) → va_S A s.heap H locs → lv_has ls 9 [(0, .ref h0), (1, .ref h1), (3, .int p3), (4, .int p4), (5, .int x5), (6, .int x6), (7, .int x7)] → W p l e rm_X0_mergeTwo s m args below meth c H locs 0 0 Z (F0 m 62 ls [.int (b2i s0)])) := ⟨_, fun _ _ _ _ _ => Iff.rfl⟩
  obtain ⟨X92, hX92⟩ : ∃ X : Int32 → Int32 → Int32 → Bool → Int32 → Int32 → (Nat → Int32) → Prop, ∀ (x5 : Int32) (x6 : Int32) (x7 : Int32) (x8 : Bool) (s0 : Int32) (s1 : Int32) (f0_merged : Nat → Int32), (X x5 x6 x7 x8 s0 s1 f0_merged ↔ ∀ (H : Heap) (locs : List Loc) (ls : Array Slot), va_P D vwCl (pc_X0_mergeTwo cs h0 h0_numbers h0_merged h1 h1_members h1_scores n0_size f0_numbers f0_merged n1_size f1_scores) H → va_D A (pc_X0_mergeTwo cs h0 h0_numbers h0_merged h1 h1_members h1_scores n0_size f0_numbers f0_merged n1_size f1_scores) → va_S A s.heap H locs → lv_has ls 9 [(0, .ref h0), (1, .ref h1), (3, .int p3), (4, .int p4), (5, .int x5), (6, .int x6), (7, .int x7), (8, .int (b2i x8))] → W p l e rm_X0_mergeTwo s m args below meth c H locs 0 0 Z (F0 m 92 ls [.int s0, .int s1, .ref h0_merged])) := ⟨_, fun _ _ _ _ _ _ _ => Iff.rfl⟩
  obtain ⟨X107, hX107⟩ : ∃ X : Int32 → Int32 → Int32 → (Nat → Int32) → Prop, ∀ (x5 : Int32) (x6 : Int32) (x7 : Int32) (f0_merged : Nat → Int32), (X x5 x6 x7 f0_merged ↔ ∀ (H : Heap) (locs : List Loc) (ls : Array Slot), va_P D vwCl (pc_X0_mergeTwo cs h0 h0_numbers h0_merged h1 h1_members h1_scores n0_size f0_numbers f0_merged n1_size f1_scores) H → va_D A (pc_X0_mergeTwo cs h0 h0_numbers h0_merged h1 h1_members h1_scores n0_size f0_numbers f0_merged n1_size f1_scores) → va_S A s.heap H locs → lv_has ls 9 [(0, .ref h0), (1, .ref h1), (3, .int p3), (4, .int p4), (5, .int x5), (6, .int x6), (7, .int x7)] → W p l e rm_X0_mergeTwo s m args below meth c H locs 0 0 Z (F0 m 107 ls [])) := ⟨_, fun _ _ _ _ => Iff.rfl⟩
  refine xt_cut (h X9 X57 X61 X62 X92 X107 ?_ ?_ ?_ ?_ ?_ ?_) (fun hw => ?_)
  · intro x5 x6 x7 f0_merged hw
    refine (hX9 _ _ _ _).mpr ?_
    intro H locs ls hP hD hS hl
    refine lv_iload F.1 F.2.1 dX0_mergeTwo_9 (lv_at hl 6 rfl) ?_
    refine lv_iload F.1 F.2.1 dX0_mergeTwo_11 (lv_at hl 3 rfl) ?_
    refine lv_icmp_ge (tgt := 113) F.1 F.2.1 dX0_mergeTwo_13 (by decide) (fun hc => ?_) (fun hc => ?_)
    · have hw := hw.1 hc
      exact RET (f0_merged) H locs 113 ls hw hP hD hS dX0_mergeTwo_113
    · have hw := hw.2 hc
      refine lv_iload F.1 F.2.1 dX0_mergeTwo_16 (lv_at hl 5 rfl) ?_
      refine lv_iload F.1 F.2.1 dX0_mergeTwo_18 (lv_at hl 3 rfl) ?_
      refine lv_icmp_ge (tgt := 57) F.1 F.2.1 dX0_mergeTwo_20 (by decide) (fun hc => ?_) (fun hc => ?_)
      · have hw := hw.1 hc
        exact (hX57 _ _ _ _).mp hw H locs ls hP hD hS (lv_sub hl [0, 1, 2, 3, 4, 5, 6] rfl)
      · have hw := hw.2 hc
        refine lv_iload F.1 F.2.1 dX0_mergeTwo_23 (lv_at hl 4 rfl) ?_
        refine lv_iload_n F.1 F.2.1 dX0_mergeTwo_25 rfl (lv_at hl 2 rfl) ?_
        refine lv_icmp_ge (tgt := 61) F.1 F.2.1 dX0_mergeTwo_26 (by decide) (fun hc => ?_) (fun hc => ?_)
        · have hw := hw.1 hc
          exact (hX61 _ _ _ _).mp hw H locs ls hP hD hS (lv_sub hl [0, 1, 2, 3, 4, 5, 6] rfl)
        · have hw := hw.2 hc
          refine lv_aload_n F.1 F.2.1 dX0_mergeTwo_29 rfl (lv_at hl 1 rfl) ?_
          refine xi_get (C := RX2) (T := TX2) (N := 3) (v := .ref h1_scores) F in_X0_mergeTwo_X2 hK hP 3 rfl rfl 1 (by decide) fl_X0_mergeTwo_48 rfl dX0_mergeTwo_30 ?_
          refine lv_aload_n F.1 F.2.1 dX0_mergeTwo_33 rfl (lv_at hl 0 rfl) ?_
          refine xi_get (C := RX0) (T := TX0) (N := 3) (v := .ref h0_numbers) F in_X0_mergeTwo_X0 hK hP 0 rfl rfl 0 (by decide) fl_X0_mergeTwo_9 rfl dX0_mergeTwo_34 ?_
          refine lv_iload F.1 F.2.1 dX0_mergeTwo_37 (lv_at hl 4 rfl) ?_
          obtain ⟨j39, hj, he, hw⟩ := hw
          refine xi_iald (j := j39) F hK hP 1 rfl (by decide) hj he dX0_mergeTwo_39 ?_
          obtain ⟨j40, hj, he, hw⟩ := hw
          refine xi_lald (j := j40) F hK hP 4 rfl (by decide) hj he dX0_mergeTwo_40 ?_
          refine lv_aload_n F.1 F.2.1 dX0_mergeTwo_41 rfl (lv_at hl 1 rfl) ?_
          refine xi_get (C := RX2) (T := TX2) (N := 3) (v := .ref h1_scores) F in_X0_mergeTwo_X2 hK hP 3 rfl rfl 1 (by decide) fl_X0_mergeTwo_48 rfl dX0_mergeTwo_42 ?_
          refine lv_aload_n F.1 F.2.1 dX0_mergeTwo_45 rfl (lv_at hl 0 rfl) ?_
          refine xi_get (C := RX0) (T := TX0) (N := 3) (v := .ref h0_numbers) F in_X0_mergeTwo_X0 hK hP 0 rfl rfl 0 (by decide) fl_X0_mergeTwo_9 rfl dX0_mergeTwo_46 ?_
          refine lv_iload F.1 F.2.1 dX0_mergeTwo_49 (lv_at hl 5 rfl) ?_
          obtain ⟨j51, hj, he, hw⟩ := hw
          refine xi_iald (j := j51) F hK hP 1 rfl (by decide) hj he dX0_mergeTwo_51 ?_
          obtain ⟨j52, hj, he, hw⟩ := hw
          refine xi_lald (j := j52) F hK hP 4 rfl (by decide) hj he dX0_mergeTwo_52 ?_
          refine xi_lcmp_lt (tgt := 61) F dX0_mergeTwo_53 dX0_mergeTwo_54 (by decide) (fun hc => ?_) (fun hc => ?_)
          · have hw := hw.1 hc
            exact (hX61 _ _ _ _).mp hw H locs ls hP hD hS (lv_sub hl [0, 1, 2, 3, 4, 5, 6] rfl)
          · have hw := hw.2 hc
            exact (hX57 _ _ _ _).mp hw H locs ls hP hD hS (lv_sub hl [0, 1, 2, 3, 4, 5, 6] rfl)
  · intro x5 x6 x7 f0_merged hw
    refine (hX57 _ _ _ _).mpr ?_
    intro H locs ls hP hD hS hl
    refine lv_iconst (v := 1) F.1 F.2.1 dX0_mergeTwo_57 (by decide) ?_
    refine lv_goto (tgt := 62) F.1 F.2.1 dX0_mergeTwo_58 (by decide) ?_
    exact (hX62 _ _ _ _ _).mp hw H locs ls hP hD hS (lv_sub hl [0, 1, 2, 3, 4, 5, 6] rfl)
  · intro x5 x6 x7 f0_merged hw
    refine (hX61 _ _ _ _).mpr ?_
    intro H locs ls hP hD hS hl
    refine lv_iconst (v := 0) F.1 F.2.1 dX0_mergeTwo_61 (by decide) ?_
    exact (hX62 _ _ _ _ _).mp hw H locs ls hP hD hS (lv_sub hl [0, 1, 2, 3, 4, 5, 6] rfl)
  · intro x5 x6 x7 s0 f0_merged hw
    refine (hX62 _ _ _ _ _).mpr ?_
    intro H locs ls hP hD hS hl
    refine lv_istore (lv' := [(8, .int (b2i s0)), (0, .ref h0), (1, .ref h1), (3, .int p3), (4, .int p4), (5, .int x5), (6, .int x6), (7, .int x7)]) F.1 F.2.1 dX0_mergeTwo_62 hl (by decide) rfl (fun ls hl => ?_)
    refine lv_aload_n F.1 F.2.1 dX0_mergeTwo_64 rfl (lv_at hl 1 rfl) ?_
    refine xi_get (C := RX0) (T := TX0) (N := 3) (v := .ref h0_merged) F in_X0_mergeTwo_X0 hK hP 0 rfl rfl 1 (by decide) fl_X0_mergeTwo_15 rfl dX0_mergeTwo_65 ?_
    refine lv_iload F.1 F.2.1 dX0_mergeTwo_68 (lv_at hl 7 rfl) ?_
    refine lv_iload F.1 F.2.1 dX0_mergeTwo_70 (lv_at hl 0 rfl) ?_
    refine xi_ifeqz (tgt := 85) F dX0_mergeTwo_72 (by decide) (fun hc => ?_) (fun hc => ?_)
    · have hw := hw.1 hc
      refine lv_aload_n F.1 F.2.1 dX0_mergeTwo_85 rfl (lv_at hl 1 rfl) ?_
      refine xi_get (C := RX0) (T := TX0) (N := 3) (v := .ref h0_numbers) F in_X0_mergeTwo_X0 hK hP 0 rfl rfl 0 (by decide) fl_X0_mergeTwo_9 rfl dX0_mergeTwo_86 ?_
      refine lv_iload F.1 F.2.1 dX0_mergeTwo_89 (lv_at hl 6 rfl) ?_
      obtain ⟨j91, hj, he, hw⟩ := hw
      refine xi_iald (j := j91) F hK hP 1 rfl (by decide) hj he dX0_mergeTwo_91 ?_
      exact (hX92 _ _ _ _ _ _ _).mp hw H locs ls hP hD hS (lv_sub hl [1, 2, 3, 4, 5, 6, 7, 0] rfl)
    · have hw := hw.2 hc
      refine lv_aload_n F.1 F.2.1 dX0_mergeTwo_75 rfl (lv_at hl 1 rfl) ?_
      refine xi_get (C := RX0) (T := TX0) (N := 3) (v := .ref h0_numbers) F in_X0_mergeTwo_X0 hK hP 0 rfl rfl 0 (by decide) fl_X0_mergeTwo_9 rfl dX0_mergeTwo_76 ?_
      refine lv_iload F.1 F.2.1 dX0_mergeTwo_79 (lv_at hl 5 rfl) ?_
      obtain ⟨j81, hj, he, hw⟩ := hw
      refine xi_iald (j := j81) F hK hP 1 rfl (by decide) hj he dX0_mergeTwo_81 ?_
      refine lv_goto (tgt := 92) F.1 F.2.1 dX0_mergeTwo_82 (by decide) ?_
      exact (hX92 _ _ _ _ _ _ _).mp hw H locs ls hP hD hS (lv_sub hl [1, 2, 3, 4, 5, 6, 7, 0] rfl)
  · intro x5 x6 x7 x8 s0 s1 f0_merged hw
    refine (hX92 _ _ _ _ _ _ _).mpr ?_
    intro H locs ls hP hD hS hl
    obtain ⟨j92, hj, he, hw⟩ := hw
    refine xi_iast (j := j92) F hK hP hD hS 2 rfl (by decide) hj he dX0_mergeTwo_92 (fun H locs hP hD hS => ?_)
    have hP : va_P D vwCl (pc_X0_mergeTwo cs h0 h0_numbers h0_merged h1 h1_members h1_scores n0_size f0_numbers (va_up f0_merged j92 s0) n1_size f1_scores) H := hP
    have hD : va_D A (pc_X0_mergeTwo cs h0 h0_numbers h0_merged h1 h1_members h1_scores n0_size f0_numbers (va_up f0_merged j92 s0) n1_size f1_scores) := hD
    refine lv_iload F.1 F.2.1 dX0_mergeTwo_93 (lv_at hl 7 rfl) ?_
    refine xi_ifeqz (tgt := 104) F dX0_mergeTwo_95 (by decide) (fun hc => ?_) (fun hc => ?_)
    · have hw := hw.1 hc
      refine lv_iinc (v := (x6 + 1)) (lv' := [(6, .int (x6 + 1)), (0, .ref h0), (1, .ref h1), (3, .int p3), (4, .int p4), (5, .int x5), (7, .int x7), (8, .int (b2i x8))]) F.1 F.2.1 dX0_mergeTwo_104 hl (k := 5) rfl rfl (by decide) rfl (fun ls hl => ?_)
      exact (hX107 _ _ _ _).mp hw H locs ls hP hD hS (lv_sub hl [1, 2, 3, 4, 5, 0, 6] rfl)
    · have hw := hw.2 hc
      refine lv_iinc (v := (x5 + 1)) (lv' := [(5, .int (x5 + 1)), (0, .ref h0), (1, .ref h1), (3, .int p3), (4, .int p4), (6, .int x6), (7, .int x7), (8, .int (b2i x8))]) F.1 F.2.1 dX0_mergeTwo_98 hl (k := 4) rfl rfl (by decide) rfl (fun ls hl => ?_)
      refine lv_goto (tgt := 107) F.1 F.2.1 dX0_mergeTwo_101 (by decide) ?_
      exact (hX107 _ _ _ _).mp hw H locs ls hP hD hS (lv_sub hl [1, 2, 3, 4, 0, 5, 6] rfl)
  · intro x5 x6 x7 f0_merged hw
    refine (hX107 _ _ _ _).mpr ?_
    intro H locs ls hP hD hS hl
    refine lv_iinc (v := (x7 + 1)) (lv' := [(7, .int (x7 + 1)), (0, .ref h0), (1, .ref h1), (3, .int p3), (4, .int p4), (5, .int x5), (6, .int x6)]) F.1 F.2.1 dX0_mergeTwo_107 hl (k := 6) rfl rfl (by decide) rfl (fun ls hl => ?_)
    refine lv_goto (tgt := 9) F.1 F.2.1 dX0_mergeTwo_110 (by decide) ?_
    exact (hX9 _ _ _ _).mp hw H locs ls hP hD hS (lv_sub hl [1, 2, 3, 4, 5, 6, 0] rfl)
  generalize ([] : List Loc) = locs at hS ⊢
  obtain ⟨H, hHe⟩ : ∃ H, H = s.heap := ⟨_, rfl⟩
  have hP : va_P D vwCl (pc_X0_mergeTwo cs h0 h0_numbers h0_merged h1 h1_members h1_scores n0_size f0_numbers f0_merged n1_size f1_scores) H := by rw [hHe]; exact hP
  have hS : va_S A s.heap H locs := by rw [hHe]; exact hS
  suffices W p l e rm_X0_mergeTwo s m args below meth c H locs 0 0 Z (F0 m 0 ls []) by rw [hHe] at this; exact this
  refine lv_iload_n F.1 F.2.1 dX0_mergeTwo_0 rfl (lv_at hl 2 rfl) ?_
  refine lv_istore (lv' := [(5, .int p2), (0, .ref h0), (1, .ref h1), (2, .int p2), (3, .int p3), (4, .int p4)]) F.1 F.2.1 dX0_mergeTwo_1 hl (by decide) rfl (fun ls hl => ?_)
  refine lv_iload_n F.1 F.2.1 dX0_mergeTwo_3 rfl (lv_at hl 4 rfl) ?_
  refine lv_istore (lv' := [(6, .int p3), (5, .int p2), (0, .ref h0), (1, .ref h1), (2, .int p2), (3, .int p3), (4, .int p4)]) F.1 F.2.1 dX0_mergeTwo_4 hl (by decide) rfl (fun ls hl => ?_)
  refine lv_iload_n F.1 F.2.1 dX0_mergeTwo_6 rfl (lv_at hl 4 rfl) ?_
  refine lv_istore (lv' := [(7, .int p2), (6, .int p3), (5, .int p2), (0, .ref h0), (1, .ref h1), (2, .int p2), (3, .int p3), (4, .int p4)]) F.1 F.2.1 dX0_mergeTwo_7 hl (by decide) rfl (fun ls hl => ?_)
  exact (hX9 _ _ _ _).mp hw H locs ls hP hD hS (lv_sub hl [3, 4, 6, 7, 2, 1, 0] rfl)

theorem in_X0_mergeRuns_X0 : ∀ w ∈ wsX00, w ∈ wsX0_mergeRuns := by decide +kernel
theorem fl_X0_mergeRuns_18 : Cond.fieldLink RX0 18 "JoinBlocks$Ranking" "size" "I" ∈ wsX0_mergeRuns := by decide +kernel
theorem fl_X0_mergeRuns_15 : Cond.fieldLink RX0 15 "JoinBlocks$Ranking" "merged" "[I" ∈ wsX0_mergeRuns := by decide +kernel
theorem fl_X0_mergeRuns_9 : Cond.fieldLink RX0 9 "JoinBlocks$Ranking" "numbers" "[I" ∈ wsX0_mergeRuns := by decide +kernel
abbrev pc_X0_mergeRuns (cs : Nat → ClassId) (h0 : Nat) (h0_numbers : Nat) (h0_merged : Nat) (h1 : Nat) (h1_members : Nat) (h1_scores : Nat) (n0_size : Int32) (f0_numbers : Nat → Int32) (f0_merged : Nat → Int32) (n1_size : Int32) (f1_scores : Nat → Int64) : va_W := [(h0, .inr (0, [.ref h0_numbers, .ref h0_merged, .int n0_size])), (h0_numbers, .inl (cs 0, 200, .inl f0_numbers)), (h0_merged, .inl (cs 0, 200, .inl f0_merged)), (h1, .inr (2, [.ref h1_members, .ref h1_scores, .int n1_size])), (h1_scores, .inl (cs 2, 200, .inr (.inl f1_scores)))]
abbrev rm_X0_mergeRuns : Room := { frames := 1, cells := 0, slots := 0, locals := 60 }
def call_X0_mergeRuns (p2 : Int32) (n0_size : Int32) (f0_numbers : Nat → Int32) (f0_merged : Nat → Int32) (f1_scores : Nat → Int64) (Q : (Nat → Int32) → (Nat → Int32) → Prop) : Prop := ∀ (X2 : Int32 → (Nat → Int32) → (Nat → Int32) → Prop),
    (∀ (x3 : Int32) (f0_numbers : Nat → Int32) (f0_merged : Nat → Int32),
      ((n0_size ≤ x3 → (∃ j69 : Nat, j69 ≤ 200 ∧ n0_size = nI j69 ∧ Q (va_cpy f0_merged f0_numbers 0 0 j69) f0_merged)) ∧ (¬ n0_size ≤ x3 → (call_X0_mergeTwo x3 (if n0_size < (x3 + p2) then n0_size else (x3 + p2)) (if n0_size < (x3 + (2 * p2)) then n0_size else (x3 + (2 * p2))) f0_numbers f0_merged f1_scores (fun (f0_merged_43 : Nat → Int32) => X2 (x3 + (2 * p2)) f0_numbers f0_merged_43)))) → X2 x3 f0_numbers f0_merged) →
    X2 0 f0_numbers f0_merged
set_option maxHeartbeats 4000000 in
set_option maxRecDepth 100000 in
theorem m_X0_mergeRuns (l : Launch) (D : va_G) (cs : Nat → ClassId) (h0 : Nat) (h0_numbers : Nat) (h0_merged : Nat) (h1 : Nat) (h1_members : Nat) (h1_scores : Nat)  (p2 : Int32) (n0_size : Int32) (f0_numbers : Nat → Int32) (f0_merged : Nat → Int32) (n1_size : Int32) (f1_scores : Nat → Int64) (Q : (Nat → Int32) → (Nat → Int32) → Prop) (h : call_X0_mergeRuns p2 n0_size f0_numbers f0_merged f1_scores Q) : CtV l yX0_mergeRuns wsX0_mergeRuns rm_X0_mergeRuns D cs [.ref h0, .ref h1, .int p2] (pc_X0_mergeRuns cs h0 h0_numbers h0_merged h1 h1_members h1_scores n0_size f0_numbers f0_merged n1_size f1_scores) (fun u : (Nat → Int32) × (Nat → Int32) => (pc_X0_mergeRuns cs h0 h0_numbers h0_merged h1 h1_members h1_scores n0_size u.1 u.2 n1_size f1_scores)) 0 0 (fun u => Q u.1 u.2) := by
  refine xo_V (S := (Nat → Int32) × (Nat → Int32)) (cc := cX0_mergeRuns) (maxL := 6) (own := RX0) (lv0 := [(0, .ref h0), (1, .ref h1), (2, .int p2)]) (by decide) rfl rfl (Nat.le_of_ble_eq_true rfl) rfl ?_
  intro p e s m args below meth c A Z ls hnm F hK hA hP hD hS hl RET
  unfold call_X0_mergeRuns at h
  obtain ⟨X2, hX2⟩ : ∃ X : Int32 → (Nat → Int32) → (Nat → Int32) → Prop, ∀ (x3 : Int32) (f0_numbers : Nat → Int32) (f0_merged : Nat → Int32), (X x3 f0_numbers f0_merged ↔ ∀ (H : Heap) (locs : List Loc) (ls : Array Slot), va_P D vwCl (pc_X0_mergeRuns cs h0 h0_numbers h0_merged h1 h1_members h1_scores n0_size f0_numbers f0_merged n1_size f1_scores) H → va_D A (pc_X0_mergeRuns cs h0 h0_numbers h0_merged h1 h1_members h1_scores n0_size f0_numbers f0_merged n1_size f1_scores) → va_S A s.heap H locs → lv_has ls 6 [(0, .ref h0), (1, .ref h1), (2, .int p2), (3, .int x3)] → W p l e rm_X0_mergeRuns s m args below meth c H locs 0 0 Z (F0 m 2 ls [])) := ⟨_, fun _ _ _ => Iff.rfl⟩
  refine xt_cut (h X2 ?_) (fun hw => ?_)
  · intro x3 f0_numbers f0_merged hw
    refine (hX2 _ _ _).mpr ?_
    intro H locs ls hP hD hS hl
    refine lv_iload_n F.1 F.2.1 dX0_mergeRuns_2 rfl (lv_at hl 3 rfl) ?_
    refine lv_aload_n F.1 F.2.1 dX0_mergeRuns_3 rfl (lv_at hl 0 rfl) ?_
    refine xi_get (C := RX0) (T := TX0) (N := 3) (v := .int n0_size) F in_X0_mergeRuns_X0 hK hP 0 rfl rfl 2 (by decide) fl_X0_mergeRuns_18 rfl dX0_mergeRuns_4 ?_
    refine lv_icmp_ge (tgt := 55) F.1 F.2.1 dX0_mergeRuns_7 (by decide) (fun hc => ?_) (fun hc => ?_)
    · have hw := hw.1 hc
      refine lv_aload_n F.1 F.2.1 dX0_mergeRuns_55 rfl (lv_at hl 0 rfl) ?_
      refine xi_get (C := RX0) (T := TX0) (N := 3) (v := .ref h0_merged) F in_X0_mergeRuns_X0 hK hP 0 rfl rfl 1 (by decide) fl_X0_mergeRuns_15 rfl dX0_mergeRuns_56 ?_
      refine lv_iconst (v := 0) F.1 F.2.1 dX0_mergeRuns_59 (by decide) ?_
      refine lv_aload_n F.1 F.2.1 dX0_mergeRuns_60 rfl (lv_at hl 0 rfl) ?_
      refine xi_get (C := RX0) (T := TX0) (N := 3) (v := .ref h0_numbers) F in_X0_mergeRuns_X0 hK hP 0 rfl rfl 0 (by decide) fl_X0_mergeRuns_9 rfl dX0_mergeRuns_61 ?_
      refine lv_iconst (v := 0) F.1 F.2.1 dX0_mergeRuns_64 (by decide) ?_
      refine lv_aload_n F.1 F.2.1 dX0_mergeRuns_65 rfl (lv_at hl 0 rfl) ?_
      refine xi_get (C := RX0) (T := TX0) (N := 3) (v := .int n0_size) F in_X0_mergeRuns_X0 hK hP 0 rfl rfl 2 (by decide) fl_X0_mergeRuns_18 rfl dX0_mergeRuns_66 ?_
      obtain ⟨j69, hj, he, hw⟩ := hw
      refine xi_copy F hl.1 (F.2.2.2.2 (.methodLink RX0 42 arraycopyName) (by decide +kernel)) (F.2.2.2.2 (.native arraycopyName) (by decide +kernel)) (F.2.2.2.2 (.static arraycopyName) (by decide +kernel)) (F.2.2.2.2 (.initialized "java/lang/System") (by decide +kernel)) hK hP hD hS 2 1 rfl rfl hj he (Nat.le_of_ble_eq_true rfl) (by decide +kernel) dX0_mergeRuns_69 (fun H locs hP hD hS => ?_)
      have hP : va_P D vwCl (pc_X0_mergeRuns cs h0 h0_numbers h0_merged h1 h1_members h1_scores n0_size (va_cpy f0_merged f0_numbers 0 0 j69) f0_merged n1_size f1_scores) H := hP
      have hD : va_D A (pc_X0_mergeRuns cs h0 h0_numbers h0_merged h1 h1_members h1_scores n0_size (va_cpy f0_merged f0_numbers 0 0 j69) f0_merged n1_size f1_scores) := hD
      exact RET ((va_cpy f0_merged f0_numbers 0 0 j69), f0_merged) H locs 72 ls hw hP hD hS dX0_mergeRuns_72
    · have hw := hw.2 hc
      refine lv_iload_n F.1 F.2.1 dX0_mergeRuns_10 rfl (lv_at hl 3 rfl) ?_
      refine lv_iload_n F.1 F.2.1 dX0_mergeRuns_11 rfl (lv_at hl 2 rfl) ?_
      refine lv_iadd F.1 F.2.1 dX0_mergeRuns_12 ?_
      refine lv_aload_n F.1 F.2.1 dX0_mergeRuns_13 rfl (lv_at hl 0 rfl) ?_
      refine xi_get (C := RX0) (T := TX0) (N := 3) (v := .int n0_size) F in_X0_mergeRuns_X0 hK hP 0 rfl rfl 2 (by decide) fl_X0_mergeRuns_18 rfl dX0_mergeRuns_14 ?_
      refine va_mmin F.1 F.2.1 (F.2.2.1.trans hl.1.symm) F.2.2.2.1 (F.2.2.2.2 (.methodLink RX0 32 Lib.Math.min.name) (by decide +kernel)) (F.2.2.2.2 (.static Lib.Math.min.name) (by decide +kernel)) (F.2.2.2.2 (.initialized "java/lang/Math") (by decide +kernel)) (F.2.2.2.2 (.code Lib.Math.min.name Lib.Math.min.code 2 (some .int)) (by decide +kernel)) (Nat.le_of_ble_eq_true rfl) (Nat.le_of_ble_eq_true rfl) (Nat.zero_le _) (Nat.zero_le _) dX0_mergeRuns_17 ?_
      refine lv_istore (lv' := [(4, .int (if n0_size < (x3 + p2) then n0_size else (x3 + p2))), (0, .ref h0), (1, .ref h1), (2, .int p2), (3, .int x3)]) F.1 F.2.1 dX0_mergeRuns_20 hl (by decide) rfl (fun ls hl => ?_)
      refine lv_iload_n F.1 F.2.1 dX0_mergeRuns_22 rfl (lv_at hl 4 rfl) ?_
      refine lv_iconst (v := 2) F.1 F.2.1 dX0_mergeRuns_23 (by decide) ?_
      refine lv_iload_n F.1 F.2.1 dX0_mergeRuns_24 rfl (lv_at hl 3 rfl) ?_
      refine lv_imul F.1 F.2.1 dX0_mergeRuns_25 ?_
      refine lv_iadd F.1 F.2.1 dX0_mergeRuns_26 ?_
      refine lv_aload_n F.1 F.2.1 dX0_mergeRuns_27 rfl (lv_at hl 1 rfl) ?_
      refine xi_get (C := RX0) (T := TX0) (N := 3) (v := .int n0_size) F in_X0_mergeRuns_X0 hK hP 0 rfl rfl 2 (by decide) fl_X0_mergeRuns_18 rfl dX0_mergeRuns_28 ?_
      refine va_mmin F.1 F.2.1 (F.2.2.1.trans hl.1.symm) F.2.2.2.1 (F.2.2.2.2 (.methodLink RX0 32 Lib.Math.min.name) (by decide +kernel)) (F.2.2.2.2 (.static Lib.Math.min.name) (by decide +kernel)) (F.2.2.2.2 (.initialized "java/lang/Math") (by decide +kernel)) (F.2.2.2.2 (.code Lib.Math.min.name Lib.Math.min.code 2 (some .int)) (by decide +kernel)) (Nat.le_of_ble_eq_true rfl) (Nat.le_of_ble_eq_true rfl) (Nat.zero_le _) (Nat.zero_le _) dX0_mergeRuns_31 ?_
      refine lv_istore (lv' := [(5, .int (if n0_size < (x3 + (2 * p2)) then n0_size else (x3 + (2 * p2)))), (4, .int (if n0_size < (x3 + p2) then n0_size else (x3 + p2))), (0, .ref h0), (1, .ref h1), (2, .int p2), (3, .int x3)]) F.1 F.2.1 dX0_mergeRuns_34 hl (by decide) rfl (fun ls hl => ?_)
      refine lv_aload_n F.1 F.2.1 dX0_mergeRuns_36 rfl (lv_at hl 2 rfl) ?_
      refine lv_aload_n F.1 F.2.1 dX0_mergeRuns_37 rfl (lv_at hl 3 rfl) ?_
      refine lv_iload_n F.1 F.2.1 dX0_mergeRuns_38 rfl (lv_at hl 5 rfl) ?_
      refine lv_iload F.1 F.2.1 dX0_mergeRuns_39 (lv_at hl 1 rfl) ?_
      refine lv_iload F.1 F.2.1 dX0_mergeRuns_41 (lv_at hl 0 rfl) ?_
      refine xc_Vv (As := [.ref h1, .int x3, .int (if n0_size < (x3 + p2) then n0_size else (x3 + p2)), .int (if n0_size < (x3 + (2 * p2)) then n0_size else (x3 + (2 * p2)))]) (rest := []) (m_X0_mergeTwo l D cs h0 h0_numbers h0_merged h1 h1_members h1_scores x3 (if n0_size < (x3 + p2) then n0_size else (x3 + p2)) (if n0_size < (x3 + (2 * p2)) then n0_size else (x3 + (2 * p2))) n0_size f0_numbers f0_merged n1_size f1_scores _ hw) F (cwV 4 F.2.2.2.2 gX0_mergeRuns_X0_mergeTwo rfl rfl rfl (by decide +kernel) ⟨Nat.le_of_ble_eq_true rfl, Nat.le_of_ble_eq_true rfl⟩) hK hP hD hS hA [0, 1, 2, 3, 4] [] rfl rfl 0 rfl rfl rfl hl.1 rfl (Nat.le_of_ble_eq_true rfl) dX0_mergeRuns_43 ⟨Nat.zero_le _, Nat.zero_le _⟩ (fun u H locs hw hP hD hS => ?_)
      obtain ⟨f0_merged_43, rfl⟩ : ∃ z, z = u := ⟨_, rfl⟩
      have hP : va_P D vwCl (pc_X0_mergeRuns cs h0 h0_numbers h0_merged h1 h1_members h1_scores n0_size f0_numbers f0_merged_43 n1_size f1_scores) H := hP.sub [0, 1, 2, 3, 4] rfl
      have hD : va_D A (pc_X0_mergeRuns cs h0 h0_numbers h0_merged h1 h1_members h1_scores n0_size f0_numbers f0_merged_43 n1_size f1_scores) := hD.sub [0, 1, 2, 3, 4] (by decide) rfl
      try dsimp only at hw
      refine lv_iload_n F.1 F.2.1 dX0_mergeRuns_46 rfl (lv_at hl 5 rfl) ?_
      refine lv_iconst (v := 2) F.1 F.2.1 dX0_mergeRuns_47 (by decide) ?_
      refine lv_iload_n F.1 F.2.1 dX0_mergeRuns_48 rfl (lv_at hl 4 rfl) ?_
      refine lv_imul F.1 F.2.1 dX0_mergeRuns_49 ?_
      refine lv_iadd F.1 F.2.1 dX0_mergeRuns_50 ?_
      refine lv_istore_n (lv' := [(3, .int (x3 + (2 * p2))), (5, .int (if n0_size < (x3 + (2 * p2)) then n0_size else (x3 + (2 * p2)))), (4, .int (if n0_size < (x3 + p2) then n0_size else (x3 + p2))), (0, .ref h0), (1, .ref h1), (2, .int p2)]) F.1 F.2.1 dX0_mergeRuns_51 rfl hl (by decide) rfl (fun ls hl => ?_)
      refine lv_goto (tgt := 2) F.1 F.2.1 dX0_mergeRuns_52 (by decide) ?_
      exact (hX2 _ _ _).mp hw H locs ls hP hD hS (lv_sub hl [3, 4, 5, 0] rfl)
  generalize ([] : List Loc) = locs at hS ⊢
  obtain ⟨H, hHe⟩ : ∃ H, H = s.heap := ⟨_, rfl⟩
  have hP : va_P D vwCl (pc_X0_mergeRuns cs h0 h0_numbers h0_merged h1 h1_members h1_scores n0_size f0_numbers f0_merged n1_size f1_scores) H := by rw [hHe]; exact hP
  have hS : va_S A s.heap H locs := by rw [hHe]; exact hS
  suffices W p l e rm_X0_mergeRuns s m args below meth c H locs 0 0 Z (F0 m 0 ls []) by rw [hHe] at this; exact this
  refine lv_iconst (v := 0) F.1 F.2.1 dX0_mergeRuns_0 (by decide) ?_
  refine lv_istore_n (lv' := [(3, .int 0), (0, .ref h0), (1, .ref h1), (2, .int p2)]) F.1 F.2.1 dX0_mergeRuns_1 rfl hl (by decide) rfl (fun ls hl => ?_)
  exact (hX2 _ _ _).mp hw H locs ls hP hD hS (lv_sub hl [1, 2, 3, 0] rfl)

theorem in_X0_rank_X0 : ∀ w ∈ wsX00, w ∈ wsX0_rank := by decide +kernel
theorem fl_X0_rank_9 : Cond.fieldLink RX0 9 "JoinBlocks$Ranking" "numbers" "[I" ∈ wsX0_rank := by decide +kernel
theorem fl_X0_rank_18 : Cond.fieldLink RX0 18 "JoinBlocks$Ranking" "size" "I" ∈ wsX0_rank := by decide +kernel
abbrev pc_X0_rank (cs : Nat → ClassId) (h0 : Nat) (h0_numbers : Nat) (h0_merged : Nat) (h1 : Nat) (h1_members : Nat) (h1_scores : Nat) (n0_size : Int32) (f0_numbers : Nat → Int32) (f0_merged : Nat → Int32) (n1_size : Int32) (f1_members : Nat → Bool) (f1_scores : Nat → Int64) : va_W := [(h0, .inr (0, [.ref h0_numbers, .ref h0_merged, .int n0_size])), (h0_numbers, .inl (cs 0, 200, .inl f0_numbers)), (h0_merged, .inl (cs 0, 200, .inl f0_merged)), (h1, .inr (2, [.ref h1_members, .ref h1_scores, .int n1_size])), (h1_members, .inl (cs 1, 200, .inl (bF f1_members))), (h1_scores, .inl (cs 2, 200, .inr (.inl f1_scores)))]
abbrev rm_X0_rank : Room := { frames := 2, cells := 0, slots := 0, locals := 85 }
def call_X0_rank (p2 : Int32) (p3 : Int32) (n0_size : Int32) (f0_numbers : Nat → Int32) (f0_merged : Nat → Int32) (f1_members : Nat → Bool) (f1_scores : Nat → Int64) (Q : Int32 → (Nat → Int32) → (Nat → Int32) → Prop) : Prop := ∀ (X8 : Int32 → Int32 → (Nat → Int32) → (Nat → Int32) → Prop) (X44 : Int32 → Int32 → (Nat → Int32) → (Nat → Int32) → Prop) (X53 : Int32 → Int32 → (Nat → Int32) → (Nat → Int32) → Prop),
    (∀ (x4 : Int32) (n0_size : Int32) (f0_numbers : Nat → Int32) (f0_merged : Nat → Int32),
      ((p3 ≤ x4 → X53 1 n0_size f0_numbers f0_merged) ∧ (¬ p3 ≤ x4 → (call_X2_has x4 f1_members (fun (r17 : Bool) => ((r17 = false → X44 x4 n0_size f0_numbers f0_merged) ∧ (r17 = true → (∃ j33 : Nat, j33 < 200 ∧ n0_size = nI j33 ∧ X44 x4 (n0_size + 1) (va_up f0_numbers j33 x4) f0_merged))))))) → X8 x4 n0_size f0_numbers f0_merged) →
    (∀ (x4 : Int32) (n0_size : Int32) (f0_numbers : Nat → Int32) (f0_merged : Nat → Int32),
      X8 (x4 + 1) n0_size f0_numbers f0_merged → X44 x4 n0_size f0_numbers f0_merged) →
    (∀ (x4 : Int32) (n0_size : Int32) (f0_numbers : Nat → Int32) (f0_merged : Nat → Int32),
      ((n0_size ≤ x4 → Q n0_size f0_numbers f0_merged) ∧ (¬ n0_size ≤ x4 → (call_X0_mergeRuns x4 n0_size f0_numbers f0_merged f1_scores (fun (f0_numbers_66 : Nat → Int32) (f0_merged_66 : Nat → Int32) => X53 (x4 * 2) n0_size f0_numbers_66 f0_merged_66)))) → X53 x4 n0_size f0_numbers f0_merged) →
    X8 p2 0 f0_numbers f0_merged
set_option maxHeartbeats 4000000 in
set_option maxRecDepth 100000 in
theorem m_X0_rank (l : Launch) (D : va_G) (cs : Nat → ClassId) (h0 : Nat) (h0_numbers : Nat) (h0_merged : Nat) (h1 : Nat) (h1_members : Nat) (h1_scores : Nat)  (p2 : Int32) (p3 : Int32) (n0_size : Int32) (f0_numbers : Nat → Int32) (f0_merged : Nat → Int32) (n1_size : Int32) (f1_members : Nat → Bool) (f1_scores : Nat → Int64) (Q : Int32 → (Nat → Int32) → (Nat → Int32) → Prop) (h : call_X0_rank p2 p3 n0_size f0_numbers f0_merged f1_members f1_scores Q) : CtV l yX0_rank wsX0_rank rm_X0_rank D cs [.ref h0, .ref h1, .int p2, .int p3] (pc_X0_rank cs h0 h0_numbers h0_merged h1 h1_members h1_scores n0_size f0_numbers f0_merged n1_size f1_members f1_scores) (fun u : Int32 × (Nat → Int32) × (Nat → Int32) => (pc_X0_rank cs h0 h0_numbers h0_merged h1 h1_members h1_scores u.1 u.2.1 u.2.2 n1_size f1_members f1_scores)) 0 0 (fun u => Q u.1 u.2.1 u.2.2) := by
  refine xo_V (S := Int32 × (Nat → Int32) × (Nat → Int32)) (cc := cX0_rank) (maxL := 5) (own := RX0) (lv0 := [(0, .ref h0), (1, .ref h1), (2, .int p2), (3, .int p3)]) (by decide) rfl rfl (Nat.le_of_ble_eq_true rfl) rfl ?_
  intro p e s m args below meth c A Z ls hnm F hK hA hP hD hS hl RET
  unfold call_X0_rank at h
  obtain ⟨X8, hX8⟩ : ∃ X : Int32 → Int32 → (Nat → Int32) → (Nat → Int32) → Prop, ∀ (x4 : Int32) (n0_size : Int32) (f0_numbers : Nat → Int32) (f0_merged : Nat → Int32), (X x4 n0_size f0_numbers f0_merged ↔ ∀ (H : Heap) (locs : List Loc) (ls : Array Slot), va_P D vwCl (pc_X0_rank cs h0 h0_numbers h0_merged h1 h1_members h1_scores n0_size f0_numbers f0_merged n1_size f1_members f1_scores) H → va_D A (pc_X0_rank cs h0 h0_numbers h0_merged h1 h1_members h1_scores n0_size f0_numbers f0_merged n1_size f1_members f1_scores) → va_S A s.heap H locs → lv_has ls 5 [(0, .ref h0), (1, .ref h1), (3, .int p3), (4, .int x4)] → W p l e rm_X0_rank s m args below meth c H locs 0 0 Z (F0 m 8 ls [])) := ⟨_, fun _ _ _ _ => Iff.rfl⟩
  obtain ⟨X44, hX44⟩ : ∃ X : Int32 → Int32 → (Nat → Int32) → (Nat → Int32) → Prop, ∀ (x4 : Int32) (n0_size : Int32) (f0_numbers : Nat → Int32) (f0_merged : Nat → Int32), (X x4 n0_size f0_numbers f0_merged ↔ ∀ (H : Heap) (locs : List Loc) (ls : Array Slot), va_P D vwCl (pc_X0_rank cs h0 h0_numbers h0_merged h1 h1_members h1_scores n0_size f0_numbers f0_merged n1_size f1_members f1_scores) H → va_D A (pc_X0_rank cs h0 h0_numbers h0_merged h1 h1_members h1_scores n0_size f0_numbers f0_merged n1_size f1_members f1_scores) → va_S A s.heap H locs → lv_has ls 5 [(0, .ref h0), (1, .ref h1), (3, .int p3), (4, .int x4)] → W p l e rm_X0_rank s m args below meth c H locs 0 0 Z (F0 m 44 ls [])) := ⟨_, fun _ _ _ _ => Iff.rfl⟩
  obtain ⟨X53, hX53⟩ : ∃ X : Int32 → Int32 → (Nat → Int32) → (Nat → Int32) → Prop, ∀ (x4 : Int32) (n0_size : Int32) (f0_numbers : Nat → Int32) (f0_merged : Nat → Int32), (X x4 n0_size f0_numbers f0_merged ↔ ∀ (H : Heap) (locs : List Loc) (ls : Array Slot), va_P D vwCl (pc_X0_rank cs h0 h0_numbers h0_merged h1 h1_members h1_scores n0_size f0_numbers f0_merged n1_size f1_members f1_scores) H → va_D A (pc_X0_rank cs h0 h0_numbers h0_merged h1 h1_members h1_scores n0_size f0_numbers f0_merged n1_size f1_members f1_scores) → va_S A s.heap H locs → lv_has ls 5 [(0, .ref h0), (1, .ref h1), (4, .int x4)] → W p l e rm_X0_rank s m args below meth c H locs 0 0 Z (F0 m 53 ls [])) := ⟨_, fun _ _ _ _ => Iff.rfl⟩
  refine xt_cut (h X8 X44 X53 ?_ ?_ ?_) (fun hw => ?_)
  · intro x4 n0_size f0_numbers f0_merged hw
    refine (hX8 _ _ _ _).mpr ?_
    intro H locs ls hP hD hS hl
    refine lv_iload F.1 F.2.1 dX0_rank_8 (lv_at hl 3 rfl) ?_
    refine lv_iload_n F.1 F.2.1 dX0_rank_10 rfl (lv_at hl 2 rfl) ?_
    refine lv_icmp_ge (tgt := 50) F.1 F.2.1 dX0_rank_11 (by decide) (fun hc => ?_) (fun hc => ?_)
    · have hw := hw.1 hc
      refine lv_iconst (v := 1) F.1 F.2.1 dX0_rank_50 (by decide) ?_
      refine lv_istore (lv' := [(4, .int 1), (0, .ref h0), (1, .ref h1), (3, .int p3)]) F.1 F.2.1 dX0_rank_51 hl (by decide) rfl (fun ls hl => ?_)
      exact (hX53 _ _ _ _).mp hw H locs ls hP hD hS (lv_sub hl [1, 2, 0] rfl)
    · have hw := hw.2 hc
      refine lv_aload_n F.1 F.2.1 dX0_rank_14 rfl (lv_at hl 1 rfl) ?_
      refine lv_iload F.1 F.2.1 dX0_rank_15 (lv_at hl 3 rfl) ?_
      refine xc_Vz (As := [.int x4]) (rest := []) (m_X2_has l D cs h1 h1_members h1_scores x4 n1_size f1_members _ hw) F (cwV 1 F.2.2.2.2 gX0_rank_X2_has rfl rfl rfl (by decide +kernel) ⟨Nat.le_of_ble_eq_true rfl, Nat.le_of_ble_eq_true rfl⟩) hK hP hD hS hA [3, 4] [0, 1, 2, 5] rfl rfl 0 rfl rfl rfl hl.1 rfl (Nat.le_of_ble_eq_true rfl) dX0_rank_17 ⟨Nat.zero_le _, Nat.zero_le _⟩ (fun r17 u H locs hw hP hD hS => ?_)
      have hP : va_P D vwCl (pc_X0_rank cs h0 h0_numbers h0_merged h1 h1_members h1_scores n0_size f0_numbers f0_merged n1_size f1_members f1_scores) H := hP.sub [0, 1, 2, 4, 5, 3] rfl
      have hD : va_D A (pc_X0_rank cs h0 h0_numbers h0_merged h1 h1_members h1_scores n0_size f0_numbers f0_merged n1_size f1_members f1_scores) := hD.sub [0, 1, 2, 4, 5, 3] (by decide) rfl
      try dsimp only at hw
      refine xi_ifeqz (tgt := 44) F dX0_rank_20 (by decide) (fun hc => ?_) (fun hc => ?_)
      · have hw := hw.1 hc
        exact (hX44 _ _ _ _).mp hw H locs ls hP hD hS (lv_sub hl [0, 1, 2, 3] rfl)
      · have hw := hw.2 hc
        refine lv_aload_n F.1 F.2.1 dX0_rank_23 rfl (lv_at hl 0 rfl) ?_
        refine xi_get (C := RX0) (T := TX0) (N := 3) (v := .ref h0_numbers) F in_X0_rank_X0 hK hP 0 rfl rfl 0 (by decide) fl_X0_rank_9 rfl dX0_rank_24 ?_
        refine lv_aload_n F.1 F.2.1 dX0_rank_27 rfl (lv_at hl 0 rfl) ?_
        refine xi_get (C := RX0) (T := TX0) (N := 3) (v := .int n0_size) F in_X0_rank_X0 hK hP 0 rfl rfl 2 (by decide) fl_X0_rank_18 rfl dX0_rank_28 ?_
        refine lv_iload F.1 F.2.1 dX0_rank_31 (lv_at hl 3 rfl) ?_
        obtain ⟨j33, hj, he, hw⟩ := hw
        refine xi_iast (j := j33) F hK hP hD hS 1 rfl (by decide) hj he dX0_rank_33 (fun H locs hP hD hS => ?_)
        have hP : va_P D vwCl (pc_X0_rank cs h0 h0_numbers h0_merged h1 h1_members h1_scores n0_size (va_up f0_numbers j33 x4) f0_merged n1_size f1_members f1_scores) H := hP
        have hD : va_D A (pc_X0_rank cs h0 h0_numbers h0_merged h1 h1_members h1_scores n0_size (va_up f0_numbers j33 x4) f0_merged n1_size f1_members f1_scores) := hD
        refine lv_aload_n F.1 F.2.1 dX0_rank_34 rfl (lv_at hl 0 rfl) ?_
        refine lv_dup F.1 F.2.1 dX0_rank_35 rfl ?_
        refine xi_get (C := RX0) (T := TX0) (N := 3) (v := .int n0_size) F in_X0_rank_X0 hK hP 0 rfl rfl 2 (by decide) fl_X0_rank_18 rfl dX0_rank_36 ?_
        refine lv_iconst (v := 1) F.1 F.2.1 dX0_rank_39 (by decide) ?_
        refine lv_iadd F.1 F.2.1 dX0_rank_40 ?_
        refine xi_put (C := RX0) (T := TX0) (N := 3) (v := .int (n0_size + 1)) (ty := .int) F in_X0_rank_X0 tyX0 tyX0_ok nmX0 hK hP hD hS 0 rfl rfl 2 (by decide) fl_X0_rank_18 rfl (tyX0_ok 2 (by decide)) rfl rfl (Nat.le_of_ble_eq_true rfl) dX0_rank_41 (fun H locs hP hD hS => ?_)
        have hP : va_P D vwCl (pc_X0_rank cs h0 h0_numbers h0_merged h1 h1_members h1_scores (n0_size + 1) (va_up f0_numbers j33 x4) f0_merged n1_size f1_members f1_scores) H := hP
        have hD : va_D A (pc_X0_rank cs h0 h0_numbers h0_merged h1 h1_members h1_scores (n0_size + 1) (va_up f0_numbers j33 x4) f0_merged n1_size f1_members f1_scores) := hD
        exact (hX44 _ _ _ _).mp hw H locs ls hP hD hS (lv_sub hl [0, 1, 2, 3] rfl)
  · intro x4 n0_size f0_numbers f0_merged hw
    refine (hX44 _ _ _ _).mpr ?_
    intro H locs ls hP hD hS hl
    refine lv_iinc (v := (x4 + 1)) (lv' := [(4, .int (x4 + 1)), (0, .ref h0), (1, .ref h1), (3, .int p3)]) F.1 F.2.1 dX0_rank_44 hl (k := 3) rfl rfl (by decide) rfl (fun ls hl => ?_)
    refine lv_goto (tgt := 8) F.1 F.2.1 dX0_rank_47 (by decide) ?_
    exact (hX8 _ _ _ _).mp hw H locs ls hP hD hS (lv_sub hl [1, 2, 3, 0] rfl)
  · intro x4 n0_size f0_numbers f0_merged hw
    refine (hX53 _ _ _ _).mpr ?_
    intro H locs ls hP hD hS hl
    refine lv_iload F.1 F.2.1 dX0_rank_53 (lv_at hl 2 rfl) ?_
    refine lv_aload_n F.1 F.2.1 dX0_rank_55 rfl (lv_at hl 0 rfl) ?_
    refine xi_get (C := RX0) (T := TX0) (N := 3) (v := .int n0_size) F in_X0_rank_X0 hK hP 0 rfl rfl 2 (by decide) fl_X0_rank_18 rfl dX0_rank_56 ?_
    refine lv_icmp_ge (tgt := 78) F.1 F.2.1 dX0_rank_59 (by decide) (fun hc => ?_) (fun hc => ?_)
    · have hw := hw.1 hc
      exact RET (n0_size, f0_numbers, f0_merged) H locs 78 ls hw hP hD hS dX0_rank_78
    · have hw := hw.2 hc
      refine lv_aload_n F.1 F.2.1 dX0_rank_62 rfl (lv_at hl 0 rfl) ?_
      refine lv_aload_n F.1 F.2.1 dX0_rank_63 rfl (lv_at hl 1 rfl) ?_
      refine lv_iload F.1 F.2.1 dX0_rank_64 (lv_at hl 2 rfl) ?_
      refine xc_Vv (As := [.ref h1, .int x4]) (rest := []) (m_X0_mergeRuns l D cs h0 h0_numbers h0_merged h1 h1_members h1_scores x4 n0_size f0_numbers f0_merged n1_size f1_scores _ hw) F (cwV 2 F.2.2.2.2 gX0_rank_X0_mergeRuns rfl rfl rfl (by decide +kernel) ⟨Nat.le_of_ble_eq_true rfl, Nat.le_of_ble_eq_true rfl⟩) hK hP hD hS hA [0, 1, 2, 3, 5] [4] rfl rfl 0 rfl rfl rfl hl.1 rfl (Nat.le_of_ble_eq_true rfl) dX0_rank_66 ⟨Nat.zero_le _, Nat.zero_le _⟩ (fun u H locs hw hP hD hS => ?_)
      obtain ⟨f0_numbers_66, f0_merged_66⟩ := u
      have hP : va_P D vwCl (pc_X0_rank cs h0 h0_numbers h0_merged h1 h1_members h1_scores n0_size f0_numbers_66 f0_merged_66 n1_size f1_members f1_scores) H := hP.sub [1, 2, 3, 4, 0, 5] rfl
      have hD : va_D A (pc_X0_rank cs h0 h0_numbers h0_merged h1 h1_members h1_scores n0_size f0_numbers_66 f0_merged_66 n1_size f1_members f1_scores) := hD.sub [1, 2, 3, 4, 0, 5] (by decide) rfl
      try dsimp only at hw
      refine lv_iload F.1 F.2.1 dX0_rank_69 (lv_at hl 2 rfl) ?_
      refine lv_iconst (v := 2) F.1 F.2.1 dX0_rank_71 (by decide) ?_
      refine lv_imul F.1 F.2.1 dX0_rank_72 ?_
      refine lv_istore (lv' := [(4, .int (x4 * 2)), (0, .ref h0), (1, .ref h1)]) F.1 F.2.1 dX0_rank_73 hl (by decide) rfl (fun ls hl => ?_)
      refine lv_goto (tgt := 53) F.1 F.2.1 dX0_rank_75 (by decide) ?_
      exact (hX53 _ _ _ _).mp hw H locs ls hP hD hS (lv_sub hl [1, 2, 0] rfl)
  generalize ([] : List Loc) = locs at hS ⊢
  obtain ⟨H, hHe⟩ : ∃ H, H = s.heap := ⟨_, rfl⟩
  have hP : va_P D vwCl (pc_X0_rank cs h0 h0_numbers h0_merged h1 h1_members h1_scores n0_size f0_numbers f0_merged n1_size f1_members f1_scores) H := by rw [hHe]; exact hP
  have hS : va_S A s.heap H locs := by rw [hHe]; exact hS
  suffices W p l e rm_X0_rank s m args below meth c H locs 0 0 Z (F0 m 0 ls []) by rw [hHe] at this; exact this
  refine lv_aload_n F.1 F.2.1 dX0_rank_0 rfl (lv_at hl 0 rfl) ?_
  refine lv_iconst (v := 0) F.1 F.2.1 dX0_rank_1 (by decide) ?_
  refine xi_put (C := RX0) (T := TX0) (N := 3) (v := .int 0) (ty := .int) F in_X0_rank_X0 tyX0 tyX0_ok nmX0 hK hP hD hS 0 rfl rfl 2 (by decide) fl_X0_rank_18 rfl (tyX0_ok 2 (by decide)) rfl rfl (Nat.le_of_ble_eq_true rfl) dX0_rank_2 (fun H locs hP hD hS => ?_)
  have hP : va_P D vwCl (pc_X0_rank cs h0 h0_numbers h0_merged h1 h1_members h1_scores 0 f0_numbers f0_merged n1_size f1_members f1_scores) H := hP
  have hD : va_D A (pc_X0_rank cs h0 h0_numbers h0_merged h1 h1_members h1_scores 0 f0_numbers f0_merged n1_size f1_members f1_scores) := hD
  refine lv_iload_n F.1 F.2.1 dX0_rank_5 rfl (lv_at hl 2 rfl) ?_
  refine lv_istore (lv' := [(4, .int p2), (0, .ref h0), (1, .ref h1), (2, .int p2), (3, .int p3)]) F.1 F.2.1 dX0_rank_6 hl (by decide) rfl (fun ls hl => ?_)
  exact (hX8 _ _ _ _).mp hw H locs ls hP hD hS (lv_sub hl [1, 2, 4, 0] rfl)
