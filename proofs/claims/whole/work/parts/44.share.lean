/-! share: the class's throw, and its catching -/
abbrev aeN : String := "java/lang/ArithmeticException"
abbrev aeT : String := "the set before the last one has no objects"
abbrev aeS : List String := ["java/lang/RuntimeException", "java/lang/Exception"]
abbrev aeB : List Cond := [.castable aeN aeN, .declares (Bundle.initS "java/lang/RuntimeException"), .declares (Bundle.initS "java/lang/Exception"), .declares (Bundle.initS "java/lang/Throwable")]
/-- what a throw of the class stands on, beyond the tables' good words -/
def tX (A : Nat → Prop) (sa : Nat) (U : State) (H : Heap) : Prop :=
  (va_Nw (.castable aeN aeN) U ∧ va_Nw (.declares (Bundle.initS "java/lang/RuntimeException")) U ∧ va_Nw (.declares (Bundle.initS "java/lang/Exception")) U ∧ va_Nw (.declares (Bundle.initS "java/lang/Throwable")) U) ∧ vk_R RX3 183 aeT sa U ∧ vx_Zq Bundle.tN "UNASSIGNED_STACK" Bundle.steD A U H ∧ vx_Zq Bundle.tN "SUPPRESSED_SENTINEL" Bundle.listD A U H
theorem tX.warm {A : Nat → Prop} {sa : Nat} {s U : State} {H : Heap} (hW : s.WarmedH U.vm) (h : tX A sa s H) : tX A sa U H :=
  ⟨⟨va_Nw.warmC hW h.1.1, va_Nw.warmD hW h.1.2.1, va_Nw.warmD hW h.1.2.2.1, va_Nw.warmD hW h.1.2.2.2⟩, vk_R.warm hW h.2.1, vx_Zq.moved hW.alike h.2.2.1, vx_Zq.moved hW.alike h.2.2.2⟩
theorem tX.kept {A : Nat → Prop} {sa : Nat} {U : State} {H H1 : Heap} (h : tX A sa U H) (hq : ∀ a : Nat, a < H.size → ¬ A a → H1[a]? = H[a]?) : tX A sa U H1 := ⟨h.1, h.2.1, h.2.2.1.kept hq, h.2.2.2.kept hq⟩
theorem tX.narrow {A B : Nat → Prop} {sa : Nat} {U : State} {H : Heap} (h : tX A sa U H) (hAB : ∀ q, B q → A q) : tX B sa U H := ⟨h.1, h.2.1, h.2.2.1.narrow hAB, h.2.2.2.narrow hAB⟩
theorem tX.blind {A : Nat → Prop} {sa : Nat} {U : State} {g : JFrame} {mk : MethodId} {a : Array Value} (h : tX A sa U U.heap) : tX A sa (U.calling g mk a) (U.calling g mk a).heap :=
  tX.warm (s := U) (U := U.calling g mk a) (State.WarmedH.refl U) h
theorem vx_noX {l : Launch} {y : MethodName} {ws : List Cond} {rm : Room} {Pc : Array Value → State → Prop} {Qc : Array Value → State → Outcome → State → Prop} {mc ms : Nat} {free : Addr → Prop} (h : vx_Met l y ws rm Pc Qc (fun _ _ _ => False) mc ms free) : Met l y ws rm Pc Qc mc ms free := by
  intro p e ha' hc hk s m args below hf happ hP _
  obtain ⟨n, o, h1, h2, h3, h4⟩ := h p e ha' hc hk s m args below hf happ hP trivial
  rcases h4 with h4 | ⟨q, -, E, ce, L, h5, -⟩
  · exact ⟨n, o, h1, h2, h3, h4⟩
  · exact h5.elim
def call_X3_share (d : Int32) (sz : Nat → Int32) (Q : Int64 → Prop) (X : Prop) : Prop :=
  (¬ 2 ≤ d → Q (-9223372036854775808)) ∧ (2 ≤ d → ∃ k : Nat, k < 7 ∧ d - 2 = nI k ∧ d - 1 = nI (k + 1) ∧ (sz k = 0 → X) ∧ (¬ sz k = 0 → ¬ (sz k).toInt64 = 0 ∧ Q (1000 * (sz (k + 1)).toInt64 / (sz k).toInt64)))
abbrev rm_X3_share : Room := { frames := 6, cells := 1, slots := 6, locals := 84 }
theorem in_X3_share_X3 : ∀ w ∈ wsX30, w ∈ wsX3_share := by decide +kernel
theorem in_X3_share_X2 : ∀ w ∈ wsX20, w ∈ wsX3_share := by decide +kernel
theorem fl_X3_share_44 : Cond.fieldLink RX3 44 "JoinBlocks" "depth" "I" ∈ wsX3_share := by decide +kernel
theorem fl_X3_share_25 : Cond.fieldLink RX3 25 "JoinBlocks" "stack" "[LJoinBlocks$ScoredSet;" ∈ wsX3_share := by decide +kernel
theorem fl_X3_share_140 : Cond.fieldLink RX3 140 "JoinBlocks$ScoredSet" "size" "I" ∈ wsX3_share := by decide +kernel
theorem fl_X3_share_175 : Cond.constantLong RX3 175 (-9223372036854775808) ∈ wsX3_share := by decide +kernel
theorem fl_X3_share_188 : Cond.constantLong RX3 188 (1000) ∈ wsX3_share := by decide +kernel
theorem ae_k : Cond.classLink RX3 181 aeN ∈ wsX3_share := by decide +kernel
theorem ae_i : Cond.initialized aeN ∈ wsX3_share := by decide +kernel
theorem ae_b : ∀ w ∈ (vx_atS RX3 185 aeN aeS).filter (fun w => !goodWord w), w ∈ aeB := by decide +kernel
theorem ae_g : ∀ w ∈ Cond.classLink RX3 181 aeN :: Cond.initialized aeN :: vx_atS RX3 185 aeN aeS, vx_ot w = true := by decide +kernel
set_option maxHeartbeats 4000000 in
set_option maxRecDepth 100000 in
theorem F_X3_share (l : Launch) (hst : l.stackTraces = false) (D : va_G) (cs : Nat → ClassId) (ax : Nat → Nat) (o : Int32) (olv : Nat → Int32) (ova : Nat → Int32) (otg : Nat → Int32) (olk : Nat → Int32) (oky : Nat → Int32) (oal : Nat → Bool) (n : Int32) (lv : Nat → Int32) (va : Nat → Int32) (tg : Nat → Int32) (lk : Nat → Int32) (ky : Nat → Int32) (al : Nat → Bool) (d : Int32) (w : Bool) (tz : Int32) (tm : Nat → Bool) (ts : Nat → Int64) (kz : Int32) (km : Nat → Bool) (ks : Nat → Int64) (rz : Int32) (nu : Nat → Int32) (mr : Nat → Int32) (sz : Nat → Int32) (sm : Nat → Nat → Bool) (ss : Nat → Nat → Int64) (sa : Nat) (Q : Int64 → Prop) (X : Prop) (h : call_X3_share d sz Q X) (z : Nat) : vx_Met l yX3_share wsX3_share rm_X3_share (va_Pc [.ref (ax 0)] (fun U => sP D cs (fX cs ax o olv ova otg olk oky oal n lv va tg lk ky al d w tz tm ts kz km ks rz nu mr sz sm ss) z U ∧ tX (va_A (fX cs ax o olv ova otg olk oky oal n lv va tg lk ky al d w tz tm ts kz km ks rz nu mr sz sm ss) z) sa U U.heap)) (va_Ql (fun r (_ : Unit) => Q r) (sB D cs (va_A (fX cs ax o olv ova otg olk oky oal n lv va tg lk ky al d w tz tm ts kz km ks rz nu mr sz sm ss) z) (fun _ : Unit => (fX cs ax o olv ova otg olk oky oal n lv va tg lk ky al d w tz tm ts kz km ks rz nu mr sz sm ss))) (va_A (fX cs ax o olv ova otg olk oky oal n lv va tg lk ky al d w tz tm ts kz km ks rz nu mr sz sm ss) z)) (vx_X (fun _ : Unit => X) (fun E (_ : Unit) t => E = aeN ∧ sB D cs (va_A (fX cs ax o olv ova otg olk oky oal n lv va tg lk ky al d w tz tm ts kz km ks rz nu mr sz sm ss) z) (fun _ : Unit => (fX cs ax o olv ova otg olk oky oal n lv va tg lk ky al d w tz tm ts kz km ks rz nu mr sz sm ss)) () t) (va_A (fX cs ax o olv ova otg olk oky oal n lv va tg lk ky al d w tz tm ts kz km ks rz nu mr sz sm ss) z)) 1 6 (va_A (fX cs ax o olv ova otg olk oky oal n lv va tg lk ky al d w tz tm ts kz km ks rz nu mr sz sm ss) z) := by
  refine vx_ofW (cc := cX3_share) (maxL := 2) (ret := some .long) (by decide) rfl ?_
  intro p e s m args below meth c s₁ B hml htab hv
  obtain ⟨rfl, ⟨hsz, hP, hK, hD0⟩, hT⟩ := hv
  subst hsz
  have hl := lv_entry ([.ref (ax 0)]) (n := 2) (Nat.le_of_ble_eq_true rfl)
  have hl : lv_has _ 2 [(0, .ref (ax 0))] := hl
  rw [lg_entry_eq]
  have F : CallFix p m c cX3_share 2 s _ wsX3_share RX3 := ⟨B.exec, B.bytes, hml, findClass_of_methodNamed B.named, atoms_spec (ws := wsX3_share) B.pre⟩
  have hD := hD0.self (sz := s.heap.size)
  have hS : va_S (va_A (fX cs ax o olv ova otg olk oky oal n lv va tg lk ky al d w tz tm ts kz km ks rz nu mr sz sm ss) s.heap.size) s.heap s.heap [] := va_S.rf
  refine lv_aload_n F.1 F.2.1 dX3_share_0 rfl (lv_at hl 0 rfl) ?_
  refine xi_get (C := RX3) (T := TX3) (N := 8) (v := .int d) F in_X3_share_X3 hK hP 0 rfl rfl 6 (by decide) fl_X3_share_44 rfl dX3_share_1 ?_
  refine lv_iconst (v := 2) F.1 F.2.1 dX3_share_4 (by decide) ?_
  refine lv_icmp_ge (tgt := 12) F.1 F.2.1 dX3_share_5 (by decide) (fun hc => ?_) (fun hc => ?_)
  · obtain ⟨k, hk, e2, e1, h1, h2⟩ := h.2 hc
    refine lv_aload_n F.1 F.2.1 dX3_share_12 rfl (lv_at hl 0 rfl) ?_
    refine xi_get (C := RX3) (T := TX3) (N := 8) (v := .ref (ax 15)) F in_X3_share_X3 hK hP 0 rfl rfl 2 (by decide) fl_X3_share_25 rfl dX3_share_13 ?_
    refine lv_aload_n F.1 F.2.1 dX3_share_16 rfl (lv_at hl 0 rfl) ?_
    refine xi_get (C := RX3) (T := TX3) (N := 8) (v := .int d) F in_X3_share_X3 hK hP 0 rfl rfl 6 (by decide) fl_X3_share_44 rfl dX3_share_17 ?_
    refine lv_iconst (v := 2) F.1 F.2.1 dX3_share_20 (by decide) ?_
    refine lv_isub F.1 F.2.1 dX3_share_21 ?_
    refine xi_aald (x := ax (25 + 3 * k)) F hK hP 15 rfl (by decide) (j := k) (by omega) e2 rfl dX3_share_22 ?_
    have hset : ∃ q : Nat × Nat, (fX cs ax o olv ova otg olk oky oal n lv va tg lk ky al d w tz tm ts kz km ks rz nu mr sz sm ss)[25 + 3 * k]? = some (ax (25 + 3 * k), .inr (2, [.ref q.1, .ref q.2, .int (sz k)])) := by
      rcases (show k = 0 ∨ k = 1 ∨ k = 2 ∨ k = 3 ∨ k = 4 ∨ k = 5 ∨ k = 6 by omega) with rfl | rfl | rfl | rfl | rfl | rfl | rfl
      · exact ⟨(ax 26, ax 27), rfl⟩
      · exact ⟨(ax 29, ax 30), rfl⟩
      · exact ⟨(ax 32, ax 33), rfl⟩
      · exact ⟨(ax 35, ax 36), rfl⟩
      · exact ⟨(ax 38, ax 39), rfl⟩
      · exact ⟨(ax 41, ax 42), rfl⟩
      · exact ⟨(ax 44, ax 45), rfl⟩
    have hset1 : ∃ q : Nat × Nat, (fX cs ax o olv ova otg olk oky oal n lv va tg lk ky al d w tz tm ts kz km ks rz nu mr sz sm ss)[25 + 3 * (k + 1)]? = some (ax (25 + 3 * (k + 1)), .inr (2, [.ref q.1, .ref q.2, .int (sz (k + 1))])) := by
      rcases (show k = 0 ∨ k = 1 ∨ k = 2 ∨ k = 3 ∨ k = 4 ∨ k = 5 ∨ k = 6 by omega) with rfl | rfl | rfl | rfl | rfl | rfl | rfl
      · exact ⟨(ax 29, ax 30), rfl⟩
      · exact ⟨(ax 32, ax 33), rfl⟩
      · exact ⟨(ax 35, ax 36), rfl⟩
      · exact ⟨(ax 38, ax 39), rfl⟩
      · exact ⟨(ax 41, ax 42), rfl⟩
      · exact ⟨(ax 44, ax 45), rfl⟩
      · exact ⟨(ax 47, ax 48), rfl⟩
    obtain ⟨⟨q1, q2⟩, hq⟩ := hset
    obtain ⟨⟨q3, q4⟩, hq1⟩ := hset1
    refine xi_get (C := RX2) (T := TX2) (N := 3) (v := .int (sz k)) F in_X3_share_X2 hK hP (25 + 3 * k) hq rfl 2 (by decide) fl_X3_share_140 rfl dX3_share_23 ?_
    refine lv_istore_n (lv' := [(1, .int (sz k)), (0, .ref (ax 0))]) F.1 F.2.1 dX3_share_26 rfl hl (by decide) rfl (fun ls hl => ?_)
    refine lv_iload_n F.1 F.2.1 dX3_share_27 rfl (lv_at hl 0 rfl) ?_
    refine lv_if_ne (tgt := 41) F.1 F.2.1 dX3_share_28 (by decide) (fun c0 => ?_) (fun c0 => ?_)
    · obtain ⟨hne, hQ⟩ := h2 c0
      refine lv_ldc2 (v := 1000) F.1 F.2.1 F.2.2.2.1 (F.2.2.2.2 _ fl_X3_share_188) dX3_share_41 ?_
      refine lv_aload_n F.1 F.2.1 dX3_share_44 rfl (lv_at hl 1 rfl) ?_
      refine xi_get (C := RX3) (T := TX3) (N := 8) (v := .ref (ax 15)) F in_X3_share_X3 hK hP 0 rfl rfl 2 (by decide) fl_X3_share_25 rfl dX3_share_45 ?_
      refine lv_aload_n F.1 F.2.1 dX3_share_48 rfl (lv_at hl 1 rfl) ?_
      refine xi_get (C := RX3) (T := TX3) (N := 8) (v := .int d) F in_X3_share_X3 hK hP 0 rfl rfl 6 (by decide) fl_X3_share_44 rfl dX3_share_49 ?_
      refine lv_iconst (v := 1) F.1 F.2.1 dX3_share_52 (by decide) ?_
      refine lv_isub F.1 F.2.1 dX3_share_53 ?_
      refine xi_aald (x := ax (25 + 3 * (k + 1))) F hK hP 15 rfl (by decide) (j := k + 1) (by omega) e1 rfl dX3_share_54 ?_
      refine xi_get (C := RX2) (T := TX2) (N := 3) (v := .int (sz (k + 1))) F in_X3_share_X2 hK hP (25 + 3 * (k + 1)) hq1 rfl 2 (by decide) fl_X3_share_140 rfl dX3_share_55 ?_
      refine lv_i2l (v := (sz (k + 1)).toInt64) F.1 F.2.1 dX3_share_58 rfl ?_
      refine lv_lmul F.1 F.2.1 dX3_share_59 ?_
      refine lv_iload_n F.1 F.2.1 dX3_share_60 rfl (lv_at hl 0 rfl) ?_
      refine lv_i2l (v := (sz k).toInt64) F.1 F.2.1 dX3_share_61 rfl ?_
      refine lv_ldiv F.1 F.2.1 dX3_share_62 hne ?_
      refine W.widen (k := 1) (n := 6) (by decide) (by decide) ?_
      exact vx_ret (W.lret B.exec B.bytes B.returns (fun t ht hW => ⟨⟨_, (), rfl, hQ, by rw [ht]; exact hP, sK.moved hW.alike hK, hD⟩, hS.F ht⟩) hS.2.2 dX3_share_63 B.notSynchronized)
    · refine vx_throwS (own := RX3) (cls := aeN) (text := aeT) (names := aeS) (ik := 181) (is := 183) (ic := 185) (mc := 1) (ms := 6) (sa := sa) (A := va_A (fX cs ax o olv ova otg olk oky oal n lv va tg lk ky al d w tz tm ts kz km ks rz nu mr sz sm ss) s.heap.size) B.exec B.bytes hst F.2.2.2.1 (by decide) (by decide) (F.2.2.2.2 _ ae_k) (F.2.2.2.2 _ ae_i) hT.2.1 (vx_hat (B := aeB) (fun w hw => F.2.2.2.2 w (List.mem_cons_of_mem _ (List.mem_append_right _ hw))) ae_b (vx_c (va_Nw.use rfl hT.1.1) (vx_c (va_Nw.use rfl hT.1.2.1) (vx_c (va_Nw.use rfl hT.1.2.2.1) (vx_c (va_Nw.use rfl hT.1.2.2.2) vx_n))))) ae_g hT.2.2.1 hT.2.2.2 hS (by rw [hml]; exact hl.1) dX3_share_31 dX3_share_34 dX3_share_35 dX3_share_37 dX3_share_40 (fun x hx => (htab x hx).elim) (by decide) (by decide) (by decide) (by decide) B.notSynchronized (fun t hv hz hq => ?_) (fun z hz => nomatch hz) (by decide) (by decide)
      exact ⟨(), h1 (by simpa using c0), ⟨rfl, hP.kept (fun k x hx => hq x.1 ((hP k x hx).lt)), sK.moved hv hK, hD⟩, ⟨hz, fun q h1 _ => hq q h1⟩⟩
  · refine lv_ldc2 (v := -9223372036854775808) F.1 F.2.1 F.2.2.2.1 (F.2.2.2.2 _ fl_X3_share_175) dX3_share_8 ?_
    refine W.widen (k := 1) (n := 6) (by decide) (by decide) ?_
    exact vx_ret (W.lret B.exec B.bytes B.returns (fun t ht hW => ⟨⟨_, (), rfl, h.1 hc, by rw [ht]; exact hP, sK.moved hW.alike hK, hD⟩, hS.F ht⟩) hS.2.2 dX3_share_11 B.notSynchronized)
/-- the law's own share: what the class answers goes into the row, or its throw is caught -/
def call_L_share (d : Int32) (sz : Nat → Int32) (f : Nat → Int64) (Q : Int32 → (Nat → Int64) → Prop) : Prop := call_X3_share d sz (fun r => Q 0 (va_up f 0 r)) (Q 1 f)
abbrev rm_L_share : Room := { frames := 7, cells := 1, slots := 6, locals := 110 }
theorem ml_L_share : Cond.classLink RL 13 aeN ∈ wsL_share := by decide +kernel
set_option maxHeartbeats 4000000 in
set_option maxRecDepth 100000 in
theorem F_L_share (l : Launch) (hst : l.stackTraces = false) (D : va_G) (cs : Nat → ClassId) (ax : Nat → Nat) (oa : Nat) (f : Nat → Int64) (o : Int32) (olv : Nat → Int32) (ova : Nat → Int32) (otg : Nat → Int32) (olk : Nat → Int32) (oky : Nat → Int32) (oal : Nat → Bool) (n : Int32) (lv : Nat → Int32) (va : Nat → Int32) (tg : Nat → Int32) (lk : Nat → Int32) (ky : Nat → Int32) (al : Nat → Bool) (d : Int32) (w : Bool) (tz : Int32) (tm : Nat → Bool) (ts : Nat → Int64) (kz : Int32) (km : Nat → Bool) (ks : Nat → Int64) (rz : Int32) (nu : Nat → Int32) (mr : Nat → Int32) (sz : Nat → Int32) (sm : Nat → Nat → Bool) (ss : Nat → Nat → Int64) (sa : Nat) (Q : Int32 → (Nat → Int64) → Prop) (h : call_L_share d sz f Q) (z : Nat) : Met l yL_share wsL_share rm_L_share (va_Pc [.ref (ax 0), .ref oa] (fun U => sP D cs ((fX cs ax o olv ova otg olk oky oal n lv va tg lk ky al d w tz tm ts kz km ks rz nu mr sz sm ss) ++ [(oa, .inl (cs 2, 1, .inr (.inl f)))]) z U ∧ tX (va_A ((fX cs ax o olv ova otg olk oky oal n lv va tg lk ky al d w tz tm ts kz km ks rz nu mr sz sm ss) ++ [(oa, .inl (cs 2, 1, .inr (.inl f)))]) z) sa U U.heap)) (va_Qi (fun r (u : Nat → Int64) => Q r u) (sB D cs (va_A ((fX cs ax o olv ova otg olk oky oal n lv va tg lk ky al d w tz tm ts kz km ks rz nu mr sz sm ss) ++ [(oa, .inl (cs 2, 1, .inr (.inl f)))]) z) (fun u : Nat → Int64 => (fX cs ax o olv ova otg olk oky oal n lv va tg lk ky al d w tz tm ts kz km ks rz nu mr sz sm ss) ++ [(oa, .inl (cs 2, 1, .inr (.inl u)))])) (va_A ((fX cs ax o olv ova otg olk oky oal n lv va tg lk ky al d w tz tm ts kz km ks rz nu mr sz sm ss) ++ [(oa, .inl (cs 2, 1, .inr (.inl f)))]) z)) 1 6 (va_A ((fX cs ax o olv ova otg olk oky oal n lv va tg lk ky al d w tz tm ts kz km ks rz nu mr sz sm ss) ++ [(oa, .inl (cs 2, 1, .inr (.inl f)))]) z) := by
  refine vx_noX (vx_ofWH (cc := cL_share) (maxL := 3) (ret := some .int) (hh := [(0, 7, 10, 13)]) (by decide) rfl ?_)
  intro p e s m args below meth c s₁ B hml hv
  obtain ⟨rfl, ⟨hsz, hP, hK, hD0⟩, hT⟩ := hv
  subst hsz
  have hl := lv_entry ([.ref (ax 0), .ref oa]) (n := 3) (Nat.le_of_ble_eq_true rfl)
  have hl : lv_has _ 3 [(0, .ref (ax 0)), (1, .ref oa)] := hl
  rw [lg_entry_eq]
  have F : CallFix p m c cL_share 3 s _ wsL_share RL := ⟨B.exec, B.bytes, hml, findClass_of_methodNamed B.named, atoms_spec (ws := wsL_share) B.pre⟩
  have htab := vx_table (x := yL_share) B (F.2.2.2.2 _ List.mem_cons_self)
  have hD := hD0.self (sz := s.heap.size)
  have hS : va_S (va_A ((fX cs ax o olv ova otg olk oky oal n lv va tg lk ky al d w tz tm ts kz km ks rz nu mr sz sm ss) ++ [(oa, .inl (cs 2, 1, .inr (.inl f)))]) s.heap.size) s.heap s.heap [] := va_S.rf
  refine lv_aload_n F.1 F.2.1 dL_share_0 rfl (lv_at hl 1 rfl) ?_
  refine lv_iconst (v := 0) F.1 F.2.1 dL_share_1 (by decide) ?_
  refine lv_aload_n F.1 F.2.1 dL_share_2 rfl (lv_at hl 0 rfl) ?_
  have hPc : va_P D vwCl (fX cs ax o olv ova otg olk oky oal n lv va tg lk ky al d w tz tm ts kz km ks rz nu mr sz sm ss) s.heap := va_P_l hP
  have hDc : va_D _ (fX cs ax o olv ova otg olk oky oal n lv va tg lk ky al d w tz tm ts kz km ks rz nu mr sz sm ss) := va_D_l hD
  have hFc : ∀ q, va_A (fX cs ax o olv ova otg olk oky oal n lv va tg lk ky al d w tz tm ts kz km ks rz nu mr sz sm ss) s.heap.size q → va_A ((fX cs ax o olv ova otg olk oky oal n lv va tg lk ky al d w tz tm ts kz km ks rz nu mr sz sm ss) ++ [(oa, .inl (cs 2, 1, .inr (.inl f)))]) s.heap.size q := fun q h => by
    rcases h with ⟨k, e, h⟩ | h
    · exact hDc.2 k (q, e) h
    · exact Or.inr h
  refine vx_calll (A0 := va_A ((fX cs ax o olv ova otg olk oky oal n lv va tg lk ky al d w tz tm ts kz km ks rz nu mr sz sm ss) ++ [(oa, .inl (cs 2, 1, .inr (.inl f)))]) s.heap.size) (vx_runV (As := []) (b := ax 0) (rest := [.int 0, .ref oa]) F (F_X3_share l hst D cs ax o olv ova otg olk oky oal n lv va tg lk ky al d w tz tm ts kz km ks rz nu mr sz sm ss sa (fun r => Q 0 (va_up f 0 r)) (Q 1 f) h s.heap.size) (cwV 0 F.2.2.2.2 gL_share_X3_share rfl rfl rfl (by decide +kernel) ⟨Nat.le_of_ble_eq_true rfl, Nat.le_of_ble_eq_true rfl⟩) ⟨fun a U g mk q => ?_, va_recv hK.1 hPc (show vwCl[3]? = some (RX3, TX3, 8) from rfl) (show (fX cs ax o olv ova otg olk oky oal n lv va tg lk ky al d w tz tm ts kz km ks rz nu mr sz sm ss)[0]? = _ from rfl), fun U hU hW => ⟨rfl, ⟨by rw [hU], by rw [hU]; exact hPc, sK.moved hW.alike hK, hDc.weaken (fun _ _ _ _ => trivial)⟩, ?_⟩⟩ rfl rfl hl.1 rfl (lv_room (Nat.le_of_ble_eq_true rfl)) dL_share_3 ⟨Nat.le_of_ble_eq_true rfl, Nat.le_of_ble_eq_true rfl⟩) hS (fun q _ h => hFc q h) hFc (fun q _ h => hFc q h) ?_ ?_
  · obtain ⟨q0, ⟨q1, qP, qK, qD⟩, qT⟩ := q
    exact ⟨q0, ⟨q1, qP, sK.moved (u := U) (U := U.calling g mk a) (Vm.Alike.refl U.vm) qK, qD⟩, qT.blind⟩
  · rw [hU]; exact (tX.warm hW hT).narrow hFc
  · intro E ce q9 u t H1 locs1 ht hvm hpx hBX hz1 hk1 hS1 hce hcv hcl
    obtain ⟨rfl, hP1, hK1, hD1⟩ := hBX
    rw [ht] at hP1
    obtain ⟨hP2, hD2⟩ := xd_join (wl := []) (wr := [(oa, .inl (cs 2, 1, .inr (.inl f)))]) (w1 := (fX cs ax o olv ova otg olk oky oal n lv va tg lk ky al d w tz tm ts kz km ks rz nu mr sz sm ss)) hP hD hk1 hFc hP1 hD1
    refine vx_catch (own := RL) (name := aeN) F.2.2.2.1 [] { startPc := 0, endPc := 7, handlerPc := 10, catchType := 13 } [] (by rw [htab]; rfl) (fun z hz => nomatch hz) (by decide) (by decide) (F.2.2.2.2 _ ml_L_share) (va_Nw.use rfl hT.1.1) hce hcv hcl ?_
    refine lv_astore_n (lv' := [(2, .ref q9), (0, .ref (ax 0)), (1, .ref oa)]) F.1 F.2.1 dL_share_10 rfl hl (by decide) rfl (fun ls hl => ?_)
    refine lv_iconst (v := 1) F.1 F.2.1 dL_share_11 (by decide) ?_
    exact vx_ret (W.iret B.exec B.bytes B.returns (fun t ht hW => ⟨⟨_, f, rfl, hpx, by rw [ht]; exact hP2, sK.moved hW.alike hK, hD2⟩, hS1.F ht⟩) hS1.2.2 dL_share_12 B.notSynchronized)
  · intro r u t H1 locs1 ht hvm hw hB hz1 hk1 hS1
    obtain ⟨hP1, hK1, hD1⟩ := hB
    rw [ht] at hP1
    obtain ⟨hP2, hD2⟩ := xd_join (wl := []) (wr := [(oa, .inl (cs 2, 1, .inr (.inl f)))]) (w1 := (fX cs ax o olv ova otg olk oky oal n lv va tg lk ky al d w tz tm ts kz km ks rz nu mr sz sm ss)) hP hD hk1 hFc hP1 hD1
    refine xi_last F hK hP2 hD2 hS1 49 rfl (by decide) (j := 0) (by decide) (by decide) dL_share_6 (fun H locs hP hD hS => ?_)
    refine lv_goto (tgt := 13) F.1 F.2.1 dL_share_7 (by decide) ?_
    refine lv_iconst (v := 0) F.1 F.2.1 dL_share_13 (by decide) ?_
    exact vx_ret (W.iret B.exec B.bytes B.returns (fun t ht hW => ⟨⟨_, va_up f 0 r, rfl, hw, by rw [ht]; exact hP, sK.moved hW.alike hK, hD⟩, hS.F ht⟩) hS.2.2 dL_share_14 B.notSynchronized)
