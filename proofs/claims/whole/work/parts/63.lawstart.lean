/-! the law from its entry -/
theorem lt_iX0 : Cond.instantiable RX0 3 ∈ lw_tbl := List.mem_of_getElem? (i := 102) (by decide +kernel)
theorem lt_iX1 : Cond.instantiable RX1 7 ∈ lw_tbl := List.mem_of_getElem? (i := 44) (by decide +kernel)
theorem lt_iX2 : Cond.instantiable RX2 3 ∈ lw_tbl := List.mem_of_getElem? (i := 82) (by decide +kernel)
theorem lt_iX3 : Cond.instantiable RX3 8 ∈ lw_tbl := List.mem_of_getElem? (i := 36) (by decide +kernel)
theorem lt_iX4 : Cond.instantiable RX4 16 ∈ lw_tbl := List.mem_of_getElem? (i := 457) (by decide +kernel)
theorem lt_aint : Cond.arrayClass .int ∈ lw_tbl := List.mem_of_getElem? (i := 78) (by decide +kernel)
theorem lt_aboolean : Cond.arrayClass .boolean ∈ lw_tbl := List.mem_of_getElem? (i := 79) (by decide +kernel)
theorem lt_along : Cond.arrayClass .long ∈ lw_tbl := List.mem_of_getElem? (i := 100) (by decide +kernel)
theorem lt_over : Cond.arrayOver (.object "JoinBlocks$ScoredSet") ∈ lw_tbl := List.mem_of_getElem? (i := 81) (by decide +kernel)
theorem lt_str : Cond.stringRef RX3 183 aeT ∈ lw_tbl := List.mem_of_getElem? (i := 428) (by decide +kernel)
theorem lt_cast : Cond.castable aeN aeN ∈ lw_tbl := List.mem_of_getElem? (i := 391) (by decide +kernel)
theorem lt_dr : Cond.declares (Bundle.initS "java/lang/RuntimeException") ∈ lw_tbl := List.mem_of_getElem? (i := 393) (by decide +kernel)
theorem lt_de : Cond.declares (Bundle.initS "java/lang/Exception") ∈ lw_tbl := List.mem_of_getElem? (i := 395) (by decide +kernel)
theorem lt_dt : Cond.declares (Bundle.initS "java/lang/Throwable") ∈ lw_tbl := List.mem_of_getElem? (i := 397) (by decide +kernel)
theorem lt_U : Cond.laysStatic Bundle.tN "UNASSIGNED_STACK" Bundle.steD ∈ lw_tbl := List.mem_of_getElem? (i := 416) (by decide +kernel)
theorem lt_N : Cond.laysStatic Bundle.tN "SUPPRESSED_SENTINEL" Bundle.listD ∈ lw_tbl := List.mem_of_getElem? (i := 418) (by decide +kernel)
theorem lt_T : Cond.initialized Bundle.tN ∈ lw_tbl := List.mem_of_getElem? (i := 31) (by decide +kernel)
theorem lu_cX3 : Cond.classLink RL 8 RX3 ∈ wsL_law := by decide +kernel
theorem lu_iX3 : Cond.instantiable RX3 8 ∈ wsL_law := by decide +kernel
theorem lu_zX3 : Cond.initialized RX3 ∈ wsL_law := by decide +kernel
theorem lu_cX4 : Cond.classLink RL 16 RX4 ∈ wsL_law := by decide +kernel
theorem lu_iX4 : Cond.instantiable RX4 16 ∈ wsL_law := by decide +kernel
theorem lu_zX4 : Cond.initialized RX4 ∈ wsL_law := by decide +kernel
theorem lu_mX3 : Cond.methodLink RL 15 yX3_init ∈ wsL_law := by decide +kernel
theorem lu_yX3 : Cond.instanceMethod yX3_init ∈ wsL_law := by decide +kernel
theorem lu_mX4 : Cond.methodLink RL 18 yX4_init ∈ wsL_law := by decide +kernel
theorem lu_yX4 : Cond.instanceMethod yX4_init ∈ wsL_law := by decide +kernel
theorem lu_long : Cond.arrayClass .long ∈ wsL_law := by decide +kernel
set_option maxHeartbeats 4000000 in
set_option maxRecDepth 100000 in
theorem law_known {s : State} {a : Array Value} (hts : ∀ w ∈ lw_tbl, w.before a s = true) : ∃ (D : va_G) (cs : Nat → ClassId), sK D cs s := by
  obtain ⟨c0, iS0, hKn0⟩ := u_known (C := RX0) (T := TX0) (N := 3) (n := 3) hts inX0 (hts _ lt_iX0)
  obtain ⟨c1, iS1, hKn1⟩ := u_known (C := RX1) (T := TX1) (N := 7) (n := 7) hts inX1 (hts _ lt_iX1)
  obtain ⟨c2, iS2, hKn2⟩ := u_known (C := RX2) (T := TX2) (N := 3) (n := 3) hts inX2 (hts _ lt_iX2)
  obtain ⟨c3, iS3, hKn3⟩ := u_known (C := RX3) (T := TX3) (N := 8) (n := 8) hts inX3 (hts _ lt_iX3)
  obtain ⟨c4, iS4, hKn4⟩ := u_known (C := RX4) (T := TX4) (N := 16) (n := 16) hts inX4 (hts _ lt_iX4)
  obtain ⟨a0, k0, m0, f0, g0, e0⟩ := Cond.arrayClass_spec (hts _ lt_aint)
  obtain ⟨a1, k1, m1, f1, g1, e1⟩ := Cond.arrayClass_spec (hts _ lt_aboolean)
  obtain ⟨a2, k2, m2, f2, g2, e2⟩ := Cond.arrayClass_spec (hts _ lt_along)
  obtain ⟨m3, a3, k3, f3, -, g3, e3, n3⟩ := Cond.arrayOver_spec (hts _ lt_over)
  obtain ⟨D, hDk⟩ : ∃ D : va_G, ∀ (k : Nat) (q : vw_C), vwCl[k]? = some q → u_Kn s q.1 q.2.1 q.2.2 (D.1 k) (D.2 k) := by
    refine ⟨(fun k => if k = 0 then c0 else if k = 1 then c1 else if k = 2 then c2 else if k = 3 then c3 else c4, fun k => if k = 0 then iS0 else if k = 1 then iS1 else if k = 2 then iS2 else if k = 3 then iS3 else iS4), ?_⟩
    intro k q hq
    match k, hq with
    | 0, hq => cases hq; exact hKn0
    | 1, hq => cases hq; exact hKn1
    | 2, hq => cases hq; exact hKn2
    | 3, hq => cases hq; exact hKn3
    | 4, hq => cases hq; exact hKn4
    | k + 5, hq => simp [vwCl] at hq
  obtain ⟨cs, r0, r1, r2, r3⟩ : ∃ cs : Nat → ClassId, cs 0 = a0 ∧ cs 1 = a1 ∧ cs 2 = a2 ∧ cs 3 = a3 := ⟨fun k => if k = 0 then a0 else if k = 1 then a1 else if k = 2 then a2 else a3, rfl, rfl, rfl, rfl⟩
  subst r0; subst r1; subst r2; subst r3
  refine ⟨D, cs, ⟨hDk, fun k q hq => ?_⟩, f0, f1, f2, n3⟩
  match k, hq with
  | 0, hq => cases hq; exact ⟨fun n z => ⟨fun k h => (by cases h), k0, g0, m0, e0⟩, f0⟩
  | 1, hq => cases hq; exact ⟨fun n z => ⟨fun k h => (by cases h), k1, g1, m1, e1⟩, f1⟩
  | 2, hq => cases hq; exact ⟨fun n z => ⟨fun k h => (by cases h), k2, g2, m2, e2⟩, f2⟩
  | 3, hq => cases hq; exact ⟨fun n z => ⟨fun k h => (by cases h), k3, g3, m3, e3⟩, k3, m3, g3, e3, f3, n3⟩
  | k + 4, hq => simp at hq
theorem law_throws {s : State} {a : Array Value} (hts : ∀ w ∈ lw_tbl, w.before a s = true) (hgv : (Jvm.Cond.and given_1 narrow_1).before a s = true) : ∃ sa : Nat, tX (lawA s) sa s s.heap := by
  obtain ⟨cC, kC, hfc, -⟩ := Cond.instantiable_spec (hts _ lt_iX3)
  obtain ⟨-, -, -, sa, -, -, -, -, -, hev⟩ := Cond.stringRef_spec hfc (hts _ lt_str)
  have hgf := flat_of_before _ hgv
  have hnA : ∀ a : Nat, a < s.heap.size → ¬ lawA s a := fun a h => Nat.not_le.mpr h
  exact ⟨sa, ⟨va_Nw.of rfl (hts _ lt_cast), va_Nw.of rfl (hts _ lt_dr), va_Nw.of rfl (hts _ lt_de), va_Nw.of rfl (hts _ lt_dt)⟩, vk_R.of (hts _ lt_str) hev, vx_Zqof (hts _ lt_U) (hts _ lt_T) (hgf (.isRef (.static Bundle.tN "UNASSIGNED_STACK" Bundle.steD)) (by decide +kernel)) hnA, vx_Zqof (hts _ lt_N) (hts _ lt_T) (hgf (.isRef (.static Bundle.tN "SUPPRESSED_SENTINEL" Bundle.listD)) (by decide +kernel)) hnA⟩
set_option maxHeartbeats 4000000 in
set_option maxRecDepth 100000 in
/-- the law, from its entry -/
theorem whole_start {p : Program} {e : Env} {s : State} {m : MethodId} {below : List Frame} {meth : Method} {c : Code} (l : Launch) (hst : l.stackTraces = false) {b L : Nat} {xs : Nat → Int32} (hL : L ≤ 2560) (C0 : lw_At p s m meth c b L xs) : W p l e room_1 s m #[Value.ref b] below meth c s.heap [] 0 0 (lw_Z below #[Value.ref b] s) (entryFrame m ([Value.ref b] : List Value).toArray 8) := by
  obtain ⟨hx, hb, hr, hml, hown, hts, hX, hbl, hlocks, hgv⟩ := C0
  have F : CallFix p m c cL_law 8 s #[Value.ref b] wsL_law RL := ⟨hx, hb, hml, hown, fun w h => hts w (wsL_law_in w h)⟩
  have hA : ∀ q : Nat, s.heap.size ≤ q → lawA s q := fun _ h => h
  obtain ⟨D, cs, hK⟩ := law_known hts
  obtain ⟨sa, hT⟩ := law_throws hts hgv
  have hov : va_AO "JoinBlocks$ScoredSet" s := va_AO.of (hts _ lt_over)
  have hS : va_S (lawA s) s.heap s.heap [] := va_S.rf
  have hP : va_P D vwCl [] s.heap := fun k q h => by simp at h
  have hD : va_D (lawA s) [] := ⟨fun i j p q h => by simp at h, fun k q h => by simp at h⟩
  have hl := lv_entry ([.ref b]) (n := 8) (Nat.le_of_ble_eq_true rfl)
  have hl : lv_has _ 8 [(0, .ref b)] := hl
  rw [lg_entry_eq]
  refine xi_new (C := RX3) (T := TX3) (N := 8) (ci := 3) (fs := [.null, .null, .null, .null, .null, .null, .int 0, .int 0]) F inlX3 tyX3 tyX3_ok lu_cX3 lu_iX3 lu_zX3 hK hP hD hS hA rfl (fun j hj => by rcases (show j = 0 ∨ j = 1 ∨ j = 2 ∨ j = 3 ∨ j = 4 ∨ j = 5 ∨ j = 6 ∨ j = 7 by omega) with rfl | rfl | rfl | rfl | rfl | rfl | rfl | rfl <;> rfl) (Nat.le_of_ble_eq_true rfl) (Nat.le_of_ble_eq_true rfl) dL_law_0 (fun q1 H hP hD hS => ?_)
  refine lv_dup F.1 F.2.1 dL_law_3 rfl ?_
  refine xd_Io (wl := []) (As := []) (rest := [.ref q1]) (i_X3 l D cs q1) hov F (cwI 0 F.2.2.2.2 gL_law_X3_init rfl rfl rfl (F.2.2.2.2 _ lu_zX3) (F.2.2.2.2 _ lu_mX3) (F.2.2.2.2 _ lu_yX3) rfl (by decide +kernel) ⟨Nat.le_of_ble_eq_true rfl, Nat.le_of_ble_eq_true rfl⟩) hK hP hD hS hA rfl rfl hl.1 rfl (Nat.le_of_ble_eq_true rfl) dL_law_4 ⟨Nat.le_of_ble_eq_true rfl, Nat.le_of_ble_eq_true rfl⟩ (fun ax H locs hax hP hD hS => ?_)
  have hP : va_P D vwCl (fX cs ax 0 (fun _ => 0) (fun _ => 0) (fun _ => 0) (fun _ => 0) (fun _ => 0) (fun _ => false) 0 (fun _ => 0) (fun _ => 0) (fun _ => 0) (fun _ => 0) (fun _ => 0) (fun _ => false) 0 false 0 (fun _ => false) (fun _ => 0) 0 (fun _ => false) (fun _ => 0) 0 (fun _ => 0) (fun _ => 0) (fun _ => 0) (fun _ _ => false) (fun _ _ => 0)) H := by
    rw [List.nil_append, List.append_nil] at hP
    exact hP
  have hD : va_D (lawA s) (fX cs ax 0 (fun _ => 0) (fun _ => 0) (fun _ => 0) (fun _ => 0) (fun _ => 0) (fun _ => false) 0 (fun _ => 0) (fun _ => 0) (fun _ => 0) (fun _ => 0) (fun _ => 0) (fun _ => false) 0 false 0 (fun _ => false) (fun _ => 0) 0 (fun _ => false) (fun _ => 0) 0 (fun _ => 0) (fun _ => 0) (fun _ => 0) (fun _ _ => false) (fun _ _ => 0)) := by
    rw [List.nil_append, List.append_nil] at hD
    exact hD
  refine lv_astore_n (lv' := [(1, .ref q1), (0, .ref b)]) F.1 F.2.1 dL_law_7 rfl hl (by decide) rfl (fun ls hl => ?_)
  refine xi_new (C := RX4) (T := TX4) (N := 16) (ci := 4) (fs := [.int 0, .int 0, .null, .null, .null, .null, .null, .null, .int 0, .null, .int 0, .null, .null, .int 0, .null, .null]) F inlX4 tyX4 tyX4_ok lu_cX4 lu_iX4 lu_zX4 hK hP hD hS hA rfl (fun j hj => by rcases (show j = 0 ∨ j = 1 ∨ j = 2 ∨ j = 3 ∨ j = 4 ∨ j = 5 ∨ j = 6 ∨ j = 7 ∨ j = 8 ∨ j = 9 ∨ j = 10 ∨ j = 11 ∨ j = 12 ∨ j = 13 ∨ j = 14 ∨ j = 15 by omega) with rfl | rfl | rfl | rfl | rfl | rfl | rfl | rfl | rfl | rfl | rfl | rfl | rfl | rfl | rfl | rfl <;> rfl) (Nat.le_of_ble_eq_true rfl) (Nat.le_of_ble_eq_true rfl) dL_law_8 (fun q2 H hP hD hS => ?_)
  refine lv_dup F.1 F.2.1 dL_law_11 rfl ?_
  refine xd_Iv (wl := (fX cs ax 0 (fun _ => 0) (fun _ => 0) (fun _ => 0) (fun _ => 0) (fun _ => 0) (fun _ => false) 0 (fun _ => 0) (fun _ => 0) (fun _ => 0) (fun _ => 0) (fun _ => 0) (fun _ => false) 0 false 0 (fun _ => false) (fun _ => 0) 0 (fun _ => false) (fun _ => 0) 0 (fun _ => 0) (fun _ => 0) (fun _ => 0) (fun _ _ => false) (fun _ _ => 0))) (As := []) (rest := [.ref q2]) (i_X4 l D cs q2) F (cwI 0 F.2.2.2.2 gL_law_X4_init rfl rfl rfl (F.2.2.2.2 _ lu_zX4) (F.2.2.2.2 _ lu_mX4) (F.2.2.2.2 _ lu_yX4) rfl (by decide +kernel) ⟨Nat.le_of_ble_eq_true rfl, Nat.le_of_ble_eq_true rfl⟩) hK hP hD hS hA (by rw [List.append_nil]) rfl hl.1 rfl (Nat.le_of_ble_eq_true rfl) dL_law_12 ⟨Nat.le_of_ble_eq_true rfl, Nat.le_of_ble_eq_true rfl⟩ (fun am H locs ham hP hD hS => ?_)
  have hP : va_P D vwCl ((fX cs ax 0 (fun _ => 0) (fun _ => 0) (fun _ => 0) (fun _ => 0) (fun _ => 0) (fun _ => false) 0 (fun _ => 0) (fun _ => 0) (fun _ => 0) (fun _ => 0) (fun _ => 0) (fun _ => false) 0 false 0 (fun _ => false) (fun _ => 0) 0 (fun _ => false) (fun _ => 0) 0 (fun _ => 0) (fun _ => 0) (fun _ => 0) (fun _ _ => false) (fun _ _ => 0)) ++ (fM cs am 0 0 0 0 false (fun _ => 0) (fun _ => 0) (fun _ => 0) (fun _ => 0) (fun _ => 0) (fun _ => false) (fun _ => 0) (fun _ => false) (fun _ => 0) (fun _ => false) (fun _ => 0))) H := by
    rw [List.append_nil] at hP
    exact hP
  have hD : va_D (lawA s) ((fX cs ax 0 (fun _ => 0) (fun _ => 0) (fun _ => 0) (fun _ => 0) (fun _ => 0) (fun _ => false) 0 (fun _ => 0) (fun _ => 0) (fun _ => 0) (fun _ => 0) (fun _ => 0) (fun _ => false) 0 false 0 (fun _ => false) (fun _ => 0) 0 (fun _ => false) (fun _ => 0) 0 (fun _ => 0) (fun _ => 0) (fun _ => 0) (fun _ _ => false) (fun _ _ => 0)) ++ (fM cs am 0 0 0 0 false (fun _ => 0) (fun _ => 0) (fun _ => 0) (fun _ => 0) (fun _ => 0) (fun _ => false) (fun _ => 0) (fun _ => false) (fun _ => 0) (fun _ => false) (fun _ => 0))) := by
    rw [List.append_nil] at hD
    exact hD
  refine lv_astore_n (lv' := [(2, .ref q2), (1, .ref q1), (0, .ref b)]) F.1 F.2.1 dL_law_15 rfl hl (by decide) rfl (fun ls hl => ?_)
  refine lv_iconst (v := 1) F.1 F.2.1 dL_law_16 (by decide) ?_
  refine xi_newL (N := 1) F lu_long hK hP hD hS hA (by decide) (Nat.le_of_ble_eq_true rfl) (Nat.le_of_ble_eq_true rfl) (Nat.le_of_ble_eq_true rfl) dL_law_17 (fun oa H hP hD hS => ?_)
  have hPF : va_P D vwCl ((fM cs am 0 0 0 0 false (fun _ => 0) (fun _ => 0) (fun _ => 0) (fun _ => 0) (fun _ => 0) (fun _ => false) (fun _ => 0) (fun _ => false) (fun _ => 0) (fun _ => false) (fun _ => 0)) ++ ((fX cs ax 0 (fun _ => 0) (fun _ => 0) (fun _ => 0) (fun _ => 0) (fun _ => 0) (fun _ => false) 0 (fun _ => 0) (fun _ => 0) (fun _ => 0) (fun _ => 0) (fun _ => 0) (fun _ => false) 0 false 0 (fun _ => false) (fun _ => 0) 0 (fun _ => false) (fun _ => 0) 0 (fun _ => 0) (fun _ => 0) (fun _ => 0) (fun _ _ => false) (fun _ _ => 0)) ++ [(oa, .inl (cs 2, 1, .inr (.inl (fun _ => 0))))])) H := va_P_sw (wa := (fX cs ax 0 (fun _ => 0) (fun _ => 0) (fun _ => 0) (fun _ => 0) (fun _ => 0) (fun _ => false) 0 (fun _ => 0) (fun _ => 0) (fun _ => 0) (fun _ => 0) (fun _ => 0) (fun _ => false) 0 false 0 (fun _ => false) (fun _ => 0) 0 (fun _ => false) (fun _ => 0) 0 (fun _ => 0) (fun _ => 0) (fun _ => 0) (fun _ _ => false) (fun _ _ => 0))) (wb := (fM cs am 0 0 0 0 false (fun _ => 0) (fun _ => 0) (fun _ => 0) (fun _ => 0) (fun _ => 0) (fun _ => false) (fun _ => 0) (fun _ => false) (fun _ => 0) (fun _ => false) (fun _ => 0))) (by rw [← List.append_assoc]; exact hP)
  have hDF : va_D (lawA s) ((fM cs am 0 0 0 0 false (fun _ => 0) (fun _ => 0) (fun _ => 0) (fun _ => 0) (fun _ => 0) (fun _ => false) (fun _ => 0) (fun _ => false) (fun _ => 0) (fun _ => false) (fun _ => 0)) ++ ((fX cs ax 0 (fun _ => 0) (fun _ => 0) (fun _ => 0) (fun _ => 0) (fun _ => 0) (fun _ => false) 0 (fun _ => 0) (fun _ => 0) (fun _ => 0) (fun _ => 0) (fun _ => 0) (fun _ => false) 0 false 0 (fun _ => false) (fun _ => 0) 0 (fun _ => false) (fun _ => 0) 0 (fun _ => 0) (fun _ => 0) (fun _ => 0) (fun _ _ => false) (fun _ _ => 0)) ++ [(oa, .inl (cs 2, 1, .inr (.inl (fun _ => 0))))])) := va_D_sw (wa := (fX cs ax 0 (fun _ => 0) (fun _ => 0) (fun _ => 0) (fun _ => 0) (fun _ => 0) (fun _ => false) 0 (fun _ => 0) (fun _ => 0) (fun _ => 0) (fun _ => 0) (fun _ => 0) (fun _ => false) 0 false 0 (fun _ => false) (fun _ => 0) 0 (fun _ => false) (fun _ => 0) 0 (fun _ => 0) (fun _ => 0) (fun _ => 0) (fun _ _ => false) (fun _ _ => 0))) (wb := (fM cs am 0 0 0 0 false (fun _ => 0) (fun _ => 0) (fun _ => 0) (fun _ => 0) (fun _ => 0) (fun _ => false) (fun _ => 0) (fun _ => false) (fun _ => 0) (fun _ => false) (fun _ => 0))) (by rw [← List.append_assoc]; exact hD)
  refine lv_astore_n (lv' := [(3, .ref oa), (2, .ref q2), (1, .ref q1), (0, .ref b)]) F.1 F.2.1 dL_law_19 rfl hl (by decide) rfl (fun ls hl => ?_)
  refine lv_iconst (v := 0) F.1 F.2.1 dL_law_20 (by decide) ?_
  refine lv_istore (lv' := [(4, .int (nI 0)), (3, .ref oa), (2, .ref q2), (1, .ref q1), (0, .ref b)]) F.1 F.2.1 dL_law_21 hl (by decide) rfl (fun ls hl => ?_)
  subst hax
  subst ham
  exact la_loop hst F hK hT hr hlocks hX hbl hL (L + 1) 0 _ _ (by omega) (by omega) (Nat.le_of_ble_eq_true rfl) (Nat.le_of_ble_eq_true rfl) 0 (fun _ => 0) (fun _ => 0) (fun _ => 0) (fun _ => 0) (fun _ => 0) (fun _ => false) 0 (fun _ => 0) (fun _ => 0) (fun _ => 0) (fun _ => 0) (fun _ => 0) (fun _ => false) 0 false 0 (fun _ => false) (fun _ => 0) 0 (fun _ => false) (fun _ => 0) 0 (fun _ => 0) (fun _ => 0) (fun _ => 0) (fun _ _ => false) (fun _ _ => 0) 0 0 0 0 false (fun _ => 0) (fun _ => 0) (fun _ => 0) (fun _ => 0) (fun _ => 0) (fun _ => false) (fun _ => 0) (fun _ => false) (fun _ => 0) (fun _ => false) (fun _ => 0) (fun _ => 0) H locs ls li_start hPF hDF hS (lv_sub hl [4, 3, 2, 1, 0] rfl)
