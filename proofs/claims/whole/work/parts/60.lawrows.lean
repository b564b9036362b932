/-! the law: the words of its end, and its own rows -/
def R_law : String := "JoinBlocksLaw"
def lw_P (b : Addr) (xs : List Int32) (args : Array Value) (s : State) : Prop := args = #[.ref b] ∧ s.IntsAt b xs ∧ xs.length ≤ 2560 ∧ (Jvm.Cond.and given_1 narrow_1).before args s = true
def lw_Q (_ : Array Value) (s : State) (o : Outcome) (t : State) : Prop := o = .returned (some (.int 1)) ∧ Framed s o t [] 601024 7293034
def lw_Z (below : List Frame) (a : Array Value) (s : State) : State → Prop := fun t => ∃ o, t.status = .running ∧ Ended t below o ∧ lw_Q a s o t
/-- the law's own end, with 1 on the stack, nothing written that was there before, its room as the claim has it -/
theorem lw_ret {p : Program} {l : Launch} {e : Env} {s : State} {m : MethodId} {below : List Frame} {meth : Method} {c : Code} {b : Nat} (hx : p.tables.exec = Jvm.exec) (hb : c.code = code) (hr : meth.sig.returnType = ret) (hlocks : meth.locks = false) {pc : Nat} {H : Heap} {ls : Array Slot} (hdg : decode code pc = .ok (.ireturn, 1)) : W p l e room_1 s m #[Value.ref b] below meth c H [] 601024 7293034 (lw_Z below #[Value.ref b] s) (F0 m pc ls [.int 1]) := by
  intro T hT X
  obtain ⟨fs, hret, hrun, hended, hW, hframe⟩ := X.leave (v := some (.int 1)) (hlocks := hlocks) (fun h => by rw [hr] at h; cases h)
  have hmeth' : T.vm.method? m = some meth := X.method'
  refine ⟨T.setFrames fs, ?_, .returned (some (.int 1)), hrun, hended, rfl, ⟨_, rfl⟩, hW, hframe⟩
  jvm_step X.here [X.here.top, hx, hb, hdg, hmeth', hr, ret, narrow_b1]
  (try refine ⟨rfl, ?_⟩); (try refine ⟨rfl, ?_⟩)
  first | (intro acts; rw [hret _ acts rfl rfl rfl]) | rw [hret _ _ rfl rfl rfl]
  exact Steps.refl _
/-- what holds at the law's entry: the machine, the code, the tables' words (any of lw_tbl by 'hts w (by decide +kernel)'), the script of L ints xs at the cell b, what the Statement gives of the start (any of its parts by flat_of_before) -/
def lw_At (p : Program) (s : State) (m : MethodId) (meth : Method) (c : Code) (b L : Nat) (xs : Nat → Int32) : Prop :=
  p.tables.exec = Jvm.exec ∧ c.code = code ∧ meth.sig.returnType = ret ∧ c.maxLocals = 8 ∧ s.vm.findClass R_law = some m.cls ∧ (∀ w ∈ lw_tbl, w.before #[Value.ref b] s = true) ∧ va_X b L xs s s.heap ∧ b < s.heap.size ∧ meth.locks = false ∧ (Jvm.Cond.and given_1 narrow_1).before #[Value.ref b] s = true
abbrev lawA (s : State) : Nat → Prop := fun q => s.heap.size ≤ q
section XL
variable {p : Program} {l : Launch} {e : Env} {R : Room} {s : State} {m : MethodId} {args : Array Value} {below : List Frame} {meth : Method} {c : Code} {H : Heap} {locs : List Loc} {cells slots : Nat} {Q : State → Prop}
variable {cc bytes : ByteArray} {pc nL maxL n index : Nat} {ret : Option FieldType} {ls : Array Slot} {rest As st0 : List Value} {D : va_G} {cs : Nat → ClassId} {A : Nat → Prop} {a b : Nat} {ws W0 wl wc wr : va_W} {H0 : Heap} {Ts wsL : List Cond} {own C : String} {rm : Room} {y : MethodName} {S : Type} {wf : S → va_W}
theorem xd_Vi {post : Int32 → S → Prop} (hM : CtI l y wsL rm D cs (.ref b :: As) wc wf post) (F : CallFix p m c cc nL s args Ts own) (cw : CallW R s args own C index y bytes maxL ret wsL rm 0 0 n)
    (hK : sK D cs s) (hP : va_P D vwCl W0 H) (hD : va_D A W0) (hS : va_S A H0 H locs) (hA : ∀ q : Nat, H0.size ≤ q → A q) (hW0 : W0 = wl ++ (wc ++ wr)) (q0 : Nat) {ci N : Nat} {T : u_T} {fs : List Value} (hr : wc[q0]? = some (b, .inr (ci, fs))) (hci : vwCl[ci]? = some (C, T, N)) (hn : As.length = n) (hsize : ls.size = nL) (hst : st0 = As.reverse ++ .ref b :: rest) (hW : (rest.map fun v => v.category).sum ≤ 8) (hdg : decode cc pc = .ok (.invokevirtual index, 3)) (hroom : cells ≤ R.cells ∧ slots ≤ R.slots)
    (kk : ∀ (r : Int32) (u : S) (H1 : Heap) (locs1 : List Loc), post r u → va_P D vwCl (wl ++ (wf u ++ wr)) H1 → va_D A (wl ++ (wf u ++ wr)) → va_S A H0 H1 locs1 → W p l e R s m args below meth c H1 locs1 cells slots Q (F0 m (pc + 3) ls (.int r :: rest))) :
    W p l e R s m args below meth c H locs cells slots Q (F0 m pc ls st0) := by
  subst hW0
  have hPc : va_P D vwCl wc H := va_P_l (va_P_r hP)
  have hDc : va_D A wc := va_D_l (va_D_r hD)
  have hFc : ∀ q, va_A wc H.size q → A q := fun q h => by
    rcases h with ⟨k, e, h⟩ | h
    · exact hDc.2 k (q, e) h
    · exact hA q (Nat.le_trans hS.1 h)
  refine va_calli (va_runV (As := As) (rest := rest) F (hM H.size) cw ⟨sP_blind, va_recv hK.1 hPc hci hr, fun U hU hW => ⟨rfl, by rw [hU], by rw [hU]; exact hPc, sK.moved hW.alike hK, hDc.weaken (fun _ _ _ _ => trivial)⟩⟩ rfl hn hsize hst (lv_room hW) hdg hroom) hS (fun q _ h => hFc q h) hFc (fun r u t H1 locs1 ht hvm hw hB hz1 hk1 hS1 => ?_)
  obtain ⟨hP1, hK1, hD1⟩ := hB
  rw [ht] at hP1
  obtain ⟨hP2, hD2⟩ := xd_join (w1 := wf u) hP hD hk1 hFc hP1 hD1
  exact kk r u H1 locs1 hw hP2 hD2 hS1
theorem xd_Vl {post : Int64 → S → Prop} (hM : CtL l y wsL rm D cs (.ref b :: As) wc wf post) (F : CallFix p m c cc nL s args Ts own) (cw : CallW R s args own C index y bytes maxL ret wsL rm 0 0 n)
    (hK : sK D cs s) (hP : va_P D vwCl W0 H) (hD : va_D A W0) (hS : va_S A H0 H locs) (hA : ∀ q : Nat, H0.size ≤ q → A q) (hW0 : W0 = wl ++ (wc ++ wr)) (q0 : Nat) {ci N : Nat} {T : u_T} {fs : List Value} (hr : wc[q0]? = some (b, .inr (ci, fs))) (hci : vwCl[ci]? = some (C, T, N)) (hn : As.length = n) (hsize : ls.size = nL) (hst : st0 = As.reverse ++ .ref b :: rest) (hW : (rest.map fun v => v.category).sum ≤ 8) (hdg : decode cc pc = .ok (.invokevirtual index, 3)) (hroom : cells ≤ R.cells ∧ slots ≤ R.slots)
    (kk : ∀ (r : Int64) (u : S) (H1 : Heap) (locs1 : List Loc), post r u → va_P D vwCl (wl ++ (wf u ++ wr)) H1 → va_D A (wl ++ (wf u ++ wr)) → va_S A H0 H1 locs1 → W p l e R s m args below meth c H1 locs1 cells slots Q (F0 m (pc + 3) ls (.long r :: rest))) :
    W p l e R s m args below meth c H locs cells slots Q (F0 m pc ls st0) := by
  subst hW0
  have hPc : va_P D vwCl wc H := va_P_l (va_P_r hP)
  have hDc : va_D A wc := va_D_l (va_D_r hD)
  have hFc : ∀ q, va_A wc H.size q → A q := fun q h => by
    rcases h with ⟨k, e, h⟩ | h
    · exact hDc.2 k (q, e) h
    · exact hA q (Nat.le_trans hS.1 h)
  refine va_calll (va_runV (As := As) (rest := rest) F (hM H.size) cw ⟨sP_blind, va_recv hK.1 hPc hci hr, fun U hU hW => ⟨rfl, by rw [hU], by rw [hU]; exact hPc, sK.moved hW.alike hK, hDc.weaken (fun _ _ _ _ => trivial)⟩⟩ rfl hn hsize hst (lv_room hW) hdg hroom) hS (fun q _ h => hFc q h) hFc (fun r u t H1 locs1 ht hvm hw hB hz1 hk1 hS1 => ?_)
  obtain ⟨hP1, hK1, hD1⟩ := hB
  rw [ht] at hP1
  obtain ⟨hP2, hD2⟩ := xd_join (w1 := wf u) hP hD hk1 hFc hP1 hD1
  exact kk r u H1 locs1 hw hP2 hD2 hS1
theorem xd_Mi {post : Int32 → S → Prop} (hM : CtI l y wsL rm D cs (.ref b :: As) wc wf post) (F : CallFix p m c cc nL s args Ts own) (cw : CallW R s args own C index y bytes maxL ret wsL rm 0 0 n)
    (hK : sK D cs s) (hP : va_P D vwCl (wc ++ wr) H) (hD : va_D A (wc ++ wr)) (hS : va_S A H0 H locs) (hA : ∀ q : Nat, H0.size ≤ q → A q) (q0 : Nat) {ci N : Nat} {T : u_T} {fs : List Value} (hr : wc[q0]? = some (b, .inr (ci, fs))) (hci : vwCl[ci]? = some (C, T, N)) (hn : As.length = n) (hsize : ls.size = nL) (hst : st0 = As.reverse ++ .ref b :: rest) (hW : (rest.map fun v => v.category).sum ≤ 8) (hdg : decode cc pc = .ok (.invokevirtual index, 3)) (hroom : cells ≤ R.cells ∧ slots ≤ R.slots)
    (kk : ∀ (r : Int32) (u : S) (H1 : Heap) (locs1 : List Loc), post r u → va_P D vwCl (wf u ++ wr) H1 → va_D A (wf u ++ wr) → va_S A H0 H1 locs1 → W p l e R s m args below meth c H1 locs1 cells slots Q (F0 m (pc + 3) ls (.int r :: rest))) :
    W p l e R s m args below meth c H locs cells slots Q (F0 m pc ls st0) := xd_Vi (wl := []) hM F cw hK hP hD hS hA rfl q0 hr hci hn hsize hst hW hdg hroom kk
theorem xd_Ml {post : Int64 → S → Prop} (hM : CtL l y wsL rm D cs (.ref b :: As) wc wf post) (F : CallFix p m c cc nL s args Ts own) (cw : CallW R s args own C index y bytes maxL ret wsL rm 0 0 n)
    (hK : sK D cs s) (hP : va_P D vwCl (wc ++ wr) H) (hD : va_D A (wc ++ wr)) (hS : va_S A H0 H locs) (hA : ∀ q : Nat, H0.size ≤ q → A q) (q0 : Nat) {ci N : Nat} {T : u_T} {fs : List Value} (hr : wc[q0]? = some (b, .inr (ci, fs))) (hci : vwCl[ci]? = some (C, T, N)) (hn : As.length = n) (hsize : ls.size = nL) (hst : st0 = As.reverse ++ .ref b :: rest) (hW : (rest.map fun v => v.category).sum ≤ 8) (hdg : decode cc pc = .ok (.invokevirtual index, 3)) (hroom : cells ≤ R.cells ∧ slots ≤ R.slots)
    (kk : ∀ (r : Int64) (u : S) (H1 : Heap) (locs1 : List Loc), post r u → va_P D vwCl (wf u ++ wr) H1 → va_D A (wf u ++ wr) → va_S A H0 H1 locs1 → W p l e R s m args below meth c H1 locs1 cells slots Q (F0 m (pc + 3) ls (.long r :: rest))) :
    W p l e R s m args below meth c H locs cells slots Q (F0 m pc ls st0) := xd_Vl (wl := []) hM F cw hK hP hD hS hA rfl q0 hr hci hn hsize hst hW hdg hroom kk
/-- the constructor of the class, on the last cell -/
theorem xd_Io {mc ms : Nat} {post : S → Prop} (hM : CtO l y wsL rm D cs (.ref b :: As) wc wf mc ms post) (hov : va_AO "JoinBlocks$ScoredSet" s) (F : CallFix p m c cc nL s args Ts own) (cw : CallB R s args own index y bytes maxL none wsL rm mc ms n ∧ y.name = "<init>" ∧ (Cond.instanceMethod y).before args s = true)
    (hK : sK D cs s) (hP : va_P D vwCl W0 H) (hD : va_D A W0) (hS : va_S A H0 H locs) (hA : ∀ q : Nat, H0.size ≤ q → A q) (hW0 : W0 = wl ++ (wc ++ [])) (hn : As.length = n) (hsize : ls.size = nL) (hst : st0 = As.reverse ++ .ref b :: rest) (hW : (rest.map fun v => v.category).sum ≤ 8) (hdg : decode cc pc = .ok (.invokespecial index, 3)) (hroom : cells + mc ≤ R.cells ∧ slots + ms ≤ R.slots)
    (kk : ∀ (u : S) (H1 : Heap) (locs1 : List Loc), post u → va_P D vwCl (wl ++ (wf u ++ [])) H1 → va_D A (wl ++ (wf u ++ [])) → va_S A H0 H1 locs1 → W p l e R s m args below meth c H1 locs1 (cells + mc) (slots + ms) Q (F0 m (pc + 3) ls rest)) :
    W p l e R s m args below meth c H locs cells slots Q (F0 m pc ls st0) := by
  subst hW0
  have hPc : va_P D vwCl wc H := va_P_l (va_P_r hP)
  have hDc : va_D A wc := va_D_l (va_D_r hD)
  have hFc : ∀ q, va_A wc H.size q → A q := fun q h => by
    rcases h with ⟨k, e, h⟩ | h
    · exact hDc.2 k (q, e) h
    · exact hA q (Nat.le_trans hS.1 h)
  refine va_callv (va_runI (As := As) (rest := rest) F (hM H.size) cw ⟨fun a U g mk q => ?_, fun U hU hW => ⟨rfl, ⟨by rw [hU], by rw [hU]; exact hPc, sK.moved hW.alike hK, hDc.weaken (fun _ _ _ _ => trivial)⟩, va_AO.moved hW.alike hov⟩⟩ rfl hn hsize hst (lv_room hW) hdg hroom) hS (fun q _ h => hFc q h) hFc (fun u t H1 locs1 ht hvm hw hB hz1 hk1 hS1 => ?_)
  · obtain ⟨q0, ⟨q1, qP, qK, qD⟩, qO⟩ := q
    exact ⟨q0, ⟨q1, qP, sK.moved (u := U) (U := U.calling g mk a) (Vm.Alike.refl U.vm) qK, qD⟩, va_AO.moved (u := U) (U := U.calling g mk a) (Vm.Alike.refl U.vm) qO⟩
  · obtain ⟨hP1, hK1, hD1⟩ := hB
    rw [ht] at hP1
    obtain ⟨hP2, hD2⟩ := xd_join (w1 := wf u) hP hD hk1 hFc hP1 hD1
    exact kk u H1 locs1 hw hP2 hD2 hS1
/-- the law's script read at a place -/
theorem xi_sld (F : CallFix p m c cc nL s args Ts own) {L : Nat} {xs : Nat → Int32} (hX : va_X b L xs s s.heap) (hbl : b < s.heap.size) (hS : va_S (lawA s) s.heap H locs) {z : Int32} {j : Nat} (hL : L < 2 ^ 31) (hj : j < L) (hz : z = nI j) (hdg : decode cc pc = .ok (.iaload, 1))
    (kk : W p l e R s m args below meth c H locs cells slots Q (F0 m (pc + 1) ls (.int (xs j) :: rest))) : W p l e R s m args below meth c H locs cells slots Q (F0 m pc ls (.int z :: .ref b :: rest)) := by
  subst hz
  refine va_sld F.1 F.2.1 hX hbl (Nat.not_le.mpr hbl) hS (vp_in_nI hj hL) hdg ?_
  rw [nI_clamp (Nat.lt_trans hj hL)]
  exact kk
theorem va_P_sw {wa wb wd : va_W} (h : va_P D vwCl (wa ++ (wb ++ wd)) H) : va_P D vwCl (wb ++ (wa ++ wd)) H := va_P.app (va_P_l (va_P_r h)) (va_P.app (va_P_l h) (va_P_r (va_P_r h)))
theorem va_D_sw {wa wb wd : va_W} (h : va_D A (wa ++ (wb ++ wd))) : va_D A (wb ++ (wa ++ wd)) := by
  refine va_D.app (va_D_l (va_D_r h)) (va_D.app (va_D_l h) (va_D_r (va_D_r h)) (fun i j p q hi hj => va_D_x h i (wb.length + j) p q hi ?_)) (fun i j p q hi hj => ?_)
  · rw [List.getElem?_append_right (by omega), show wb.length + j - wb.length = j by omega]; exact hj
  · by_cases c : j < wa.length
    · rw [List.getElem?_append_left c] at hj
      have hl := (List.getElem?_eq_some_iff.mp hi).1
      exact (va_D_x h j i q p hj (by rw [List.getElem?_append_left hl]; exact hi)).symm
    · rw [List.getElem?_append_right (by omega)] at hj
      exact va_D_x (va_D_r h) i (j - wa.length) p q hi hj
end XL
/-- the law at a place of its loop: whatever class and reference hold, as long as they are side by side, it comes to its end with true -/
def LW (p : Program) (l : Launch) (e : Env) (s : State) (m : MethodId) (below : List Frame) (meth : Method) (c : Code) (b : Nat) (D : va_G) (cs : Nat → ClassId) (ax am : Nat → Nat) (oa i cells slots pc : Nat) : Prop :=
  ∀ (o : Int32) (olv : Nat → Int32) (ova : Nat → Int32) (otg : Nat → Int32) (olk : Nat → Int32) (oky : Nat → Int32) (oal : Nat → Bool) (n : Int32) (lv : Nat → Int32) (va : Nat → Int32) (tg : Nat → Int32) (lk : Nat → Int32) (ky : Nat → Int32) (al : Nat → Bool) (d : Int32) (w : Bool) (tz : Int32) (tm : Nat → Bool) (ts : Nat → Int64) (kz : Int32) (km : Nat → Bool) (ks : Nat → Int64) (rz : Int32) (nu : Nat → Int32) (mr : Nat → Int32) (sz : Nat → Int32) (sm : Nat → Nat → Bool) (ss : Nat → Nat → Int64) (thr : Int32) (mn : Int32) (mo : Int32) (md : Int32) (hf : Bool) (mlv : Nat → Int32) (mva : Nat → Int32) (mtg : Nat → Int32) (mlk : Nat → Int32) (mky : Nat → Int32) (mal : Nat → Bool) (op : Nat → Int32) (inn : Nat → Bool) (sc : Nat → Int64) (was : Nat → Bool) (had : Nat → Int64) (f : Nat → Int64) (H : Heap) (locs : List Loc) (ls : Array Slot), LI o olv ova otg olk n lv va tg lk ky al d w km ks sz sm ss mn mo md hf mlv mva mtg mlk mky mal op inn sc → va_P D vwCl ((fM cs am thr mn mo md hf mlv mva mtg mlk mky mal op inn sc was had) ++ ((fX cs ax o olv ova otg olk oky oal n lv va tg lk ky al d w tz tm ts kz km ks rz nu mr sz sm ss) ++ [(oa, .inl (cs 2, 1, .inr (.inl f)))])) H → va_D (lawA s) ((fM cs am thr mn mo md hf mlv mva mtg mlk mky mal op inn sc was had) ++ ((fX cs ax o olv ova otg olk oky oal n lv va tg lk ky al d w tz tm ts kz km ks rz nu mr sz sm ss) ++ [(oa, .inl (cs 2, 1, .inr (.inl f)))])) → va_S (lawA s) s.heap H locs → lv_has ls 8 [(0, .ref b), (1, .ref (ax 0)), (2, .ref (am 0)), (3, .ref oa), (4, .int (nI i))] → W p l e room_1 s m #[Value.ref b] below meth c H locs cells slots (lw_Z below #[Value.ref b] s) (F0 m pc ls [])
