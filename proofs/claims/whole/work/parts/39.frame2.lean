/-! a world of three stretches: the middle one is the callee's; and a world in which some places are laid anew -/
section XF2
variable {A : Nat → Prop} {D : va_G} {cl : List vw_C} {H H1 : Heap}
theorem va_P_l {a b : va_W} (h : va_P D cl (a ++ b) H) : va_P D cl a H := fun k q hk => h k q (by rw [List.getElem?_append_left (List.getElem?_eq_some_iff.mp hk).1]; exact hk)
theorem va_P_r {a b : va_W} (h : va_P D cl (a ++ b) H) : va_P D cl b H := fun k q hk => h (a.length + k) q (by rw [List.getElem?_append_right (by omega), show a.length + k - a.length = k by omega]; exact hk)
theorem va_D_l {a b : va_W} (h : va_D A (a ++ b)) : va_D A a :=
  ⟨fun i j p q hi hj e => h.1 i j p q (by rw [List.getElem?_append_left (List.getElem?_eq_some_iff.mp hi).1]; exact hi) (by rw [List.getElem?_append_left (List.getElem?_eq_some_iff.mp hj).1]; exact hj) e, fun k q hk => h.2 k q (by rw [List.getElem?_append_left (List.getElem?_eq_some_iff.mp hk).1]; exact hk)⟩
theorem va_D_r {a b : va_W} (h : va_D A (a ++ b)) : va_D A b :=
  ⟨fun i j p q hi hj e => by
    have := h.1 (a.length + i) (a.length + j) p q (by rw [List.getElem?_append_right (by omega), show a.length + i - a.length = i by omega]; exact hi) (by rw [List.getElem?_append_right (by omega), show a.length + j - a.length = j by omega]; exact hj) e
    omega, fun k q hk => h.2 (a.length + k) q (by rw [List.getElem?_append_right (by omega), show a.length + k - a.length = k by omega]; exact hk)⟩
theorem va_D_x {a b : va_W} (h : va_D A (a ++ b)) (i j : Nat) (p q : Nat × va_E) (hi : a[i]? = some p) (hj : b[j]? = some q) : p.1 ≠ q.1 := fun e => by
  have hl := (List.getElem?_eq_some_iff.mp hi).1
  have := h.1 i (a.length + j) p q (by rw [List.getElem?_append_left hl]; exact hi) (by rw [List.getElem?_append_right (by omega), show a.length + j - a.length = j by omega]; exact hj) e
  omega
theorem xd_join {wl wc wr w1 : va_W} (hP : va_P D cl (wl ++ (wc ++ wr)) H) (hD : va_D A (wl ++ (wc ++ wr))) (hk : ∀ q : Nat, q < H.size → ¬ va_A wc H.size q → H1[q]? = H[q]?) (hF : ∀ q, va_A wc H.size q → A q) (hP1 : va_P D cl w1 H1) (hD1 : va_D (va_A wc H.size) w1) : va_P D cl (wl ++ (w1 ++ wr)) H1 ∧ va_D A (wl ++ (w1 ++ wr)) := by
  have hPl := va_P_l hP
  have hPr := va_P_r (va_P_r hP)
  have hDl := va_D_l hD
  have hDr := va_D_r (va_D_r hD)
  have xl : ∀ (k : Nat) (q : Nat × va_E), wl[k]? = some q → q.1 < H.size ∧ ¬ va_A wc H.size q.1 := fun k q hq => by
    have hl := (hPl k q hq).lt
    refine ⟨hl, fun h => ?_⟩
    rcases h with ⟨k2, e, h⟩ | h
    · have h2 : (wc ++ wr)[k2]? = some (q.1, e) := by rw [List.getElem?_append_left (List.getElem?_eq_some_iff.mp h).1]; exact h
      exact va_D_x hD k k2 q (q.1, e) hq h2 rfl
    · omega
  have xr : ∀ (k : Nat) (q : Nat × va_E), wr[k]? = some q → q.1 < H.size ∧ ¬ va_A wc H.size q.1 := fun k q hq => by
    have hl := (hPr k q hq).lt
    refine ⟨hl, fun h => ?_⟩
    rcases h with ⟨k2, e, h⟩ | h
    · exact va_D_x (va_D_r hD) k2 k (q.1, e) q h hq rfl
    · omega
  have yl : ∀ (i j : Nat) (p q : Nat × va_E), wl[i]? = some p → w1[j]? = some q → p.1 ≠ q.1 := fun i j p q hi hj e => (xl i p hi).2 (by rw [e]; exact hD1.2 j q hj)
  have yr : ∀ (i j : Nat) (p q : Nat × va_E), w1[i]? = some p → wr[j]? = some q → p.1 ≠ q.1 := fun i j p q hi hj e => (xr j q hj).2 (by rw [← e]; exact hD1.2 i p hi)
  have hD1' : va_D A w1 := hD1.weaken (fun k q _ h => hF q.1 h)
  refine ⟨va_P.app (fun k q hq => (hPl k q hq).kept (hk _ (xl k q hq).1 (xl k q hq).2)) (va_P.app hP1 (fun k q hq => (hPr k q hq).kept (hk _ (xr k q hq).1 (xr k q hq).2))), va_D.app hDl (va_D.app hD1' hDr yr) (fun i j p q hi hj => ?_)⟩
  by_cases c : j < w1.length
  · rw [List.getElem?_append_left c] at hj; exact yl i j p q hi hj
  · rw [List.getElem?_append_right (by omega)] at hj
    refine va_D_x hD i (wc.length + (j - w1.length)) p q hi ?_
    rw [List.getElem?_append_right (by omega), show wc.length + (j - w1.length) - wc.length = j - w1.length by omega]; exact hj
/-- some places laid anew -/
def setL : va_W → List Nat → va_W → va_W
  | W, i :: is, c :: cs => setL (W.set i c) is cs
  | W, _, _ => W
theorem setL_at {is : List Nat} {cs : va_W} {W : va_W} {k : Nat} {q : Nat × va_E} (hl : is.length = cs.length) (h : (setL W is cs)[k]? = some q) : (∃ j : Nat, is[j]? = some k ∧ cs[j]? = some q) ∨ (W[k]? = some q ∧ k ∉ is) := by
  induction is generalizing cs W with
  | nil => exact Or.inr ⟨by cases cs <;> exact h, List.not_mem_nil⟩
  | cons i is ih =>
    cases cs with
    | nil => simp at hl
    | cons c cs =>
      have h : (setL (W.set i c) is cs)[k]? = some q := h
      rcases ih (by simpa using hl) h with ⟨j, h1, h2⟩ | ⟨h1, h2⟩
      · exact Or.inl ⟨j + 1, by simpa using h1, by simpa using h2⟩
      · by_cases e : k = i
        · subst e
          rw [List.getElem?_set_self'] at h1
          refine Or.inl ⟨0, rfl, ?_⟩
          cases hw : W[k]? with
          | none => rw [hw] at h1; simp at h1
          | some x => rw [hw] at h1; simpa using h1
        · rw [List.getElem?_set_ne (fun y => e y.symm)] at h1
          exact Or.inr ⟨h1, fun y => by rcases List.mem_cons.mp y with y | y; exact e y; exact h2 y⟩
theorem map_some_at {is : List Nat} {W wc : va_W} (hC : is.map (fun i => W[i]?) = wc.map some) {j i : Nat} (hj : is[j]? = some i) : ∃ q, wc[j]? = some q ∧ W[i]? = some q := by
  have h1 : (is.map (fun i => W[i]?))[j]? = some W[i]? := by rw [List.getElem?_map, hj]; rfl
  rw [hC, List.getElem?_map] at h1
  cases hw : wc[j]? with
  | none => rw [hw] at h1; cases h1
  | some q => rw [hw] at h1; exact ⟨q, rfl, (Option.some.inj h1).symm⟩
theorem map_some_at' {is : List Nat} {W wc : va_W} (hC : is.map (fun i => W[i]?) = wc.map some) {j : Nat} {q : Nat × va_E} (hj : wc[j]? = some q) : ∃ i, is[j]? = some i ∧ W[i]? = some q := by
  have h1 : (wc.map some)[j]? = some (some q) := by rw [List.getElem?_map, hj]; rfl
  rw [← hC, List.getElem?_map] at h1
  cases hi : is[j]? with
  | none => rw [hi] at h1; cases h1
  | some i => rw [hi] at h1; exact ⟨i, rfl, Option.some.inj h1⟩
theorem setL_join {W wc w1 : va_W} {is : List Nat} (hP : va_P D cl W H) (hD : va_D A W) (hC : is.map (fun i => W[i]?) = wc.map some) (ha : w1.map Prod.fst = wc.map Prod.fst) (hk : ∀ q : Nat, q < H.size → ¬ va_A wc H.size q → H1[q]? = H[q]?) (hP1 : va_P D cl w1 H1) : va_P D cl (setL W is w1) H1 ∧ va_D A (setL W is w1) := by
  have hlen : is.length = w1.length := by
    have e1 := congrArg List.length hC
    have e2 := congrArg List.length ha
    simp at e1 e2; omega
  have adr : ∀ (j : Nat) (q : Nat × va_E), w1[j]? = some q → ∃ q0, wc[j]? = some q0 ∧ q0.1 = q.1 := fun j q hq => by
    have h1 : (w1.map Prod.fst)[j]? = some q.1 := by rw [List.getElem?_map, hq]; rfl
    rw [ha, List.getElem?_map] at h1
    cases hw : wc[j]? with
    | none => rw [hw] at h1; cases h1
    | some q0 => rw [hw] at h1; exact ⟨q0, rfl, Option.some.inj h1⟩
  have old : ∀ (k : Nat) (q : Nat × va_E), (setL W is w1)[k]? = some q → ∃ q0, W[k]? = some q0 ∧ q0.1 = q.1 := fun k q hq => by
    rcases setL_at hlen hq with ⟨j, h1, h2⟩ | ⟨h1, -⟩
    · obtain ⟨q0, h3, h4⟩ := adr j q h2
      obtain ⟨q1, h5, h6⟩ := map_some_at hC h1
      rw [h3] at h5; cases h5
      exact ⟨q0, h6, h4⟩
    · exact ⟨q, h1, rfl⟩
  refine ⟨fun k q hq => ?_, fun i j p q hi hj e => ?_, fun k q hq => ?_⟩
  · rcases setL_at hlen hq with ⟨j, h1, h2⟩ | ⟨h1, h2⟩
    · exact hP1 j q h2
    · have hl := (hP k q h1).lt
      refine (hP k q h1).kept (hk _ hl (fun z => ?_))
      rcases z with ⟨j, e, z⟩ | z
      · obtain ⟨i, h3, h4⟩ := map_some_at' hC z
        have := hD.1 k i q (q.1, e) h1 h4 rfl
        subst this
        exact h2 (List.mem_of_getElem? h3)
      · omega
  · obtain ⟨p0, h1, h2⟩ := old i p hi
    obtain ⟨q0, h3, h4⟩ := old j q hj
    exact hD.1 i j p0 q0 h1 h3 (by rw [h2, h4, e])
  · obtain ⟨q0, h1, h2⟩ := old k q hq
    rw [← h2]; exact hD.2 k q0 h1
end XF2
section XFR
variable {l : Launch} {y : MethodName} {ws : List Cond} {rm : Room} {D : va_G} {cs : Nat → ClassId} {av : List Value} {wc W0 : va_W} {S : Type} {wf Wf : S → va_W}
theorem fr_B {sz : Nat} {s t : State} {u : S} {isC : List Nat} (hC : isC.map (fun i => W0[i]?) = wc.map some) (hp : Wf u = setL W0 isC (wf u)) (ha : (wf u).map Prod.fst = wc.map Prod.fst) (h : sP D cs W0 sz s) (hB : sB D cs (va_A wc sz) wf u t) (hF : va_F (va_A wc sz) s t) : sB D cs (va_A W0 sz) Wf u t ∧ va_F (va_A W0 sz) s t ∧ ∀ q, va_A wc sz q → va_A W0 sz q := by
  obtain ⟨hsz, hP0, hK, hD0⟩ := h
  subst hsz
  have hD := hD0.self (sz := s.heap.size)
  have hFc : ∀ q, va_A wc s.heap.size q → va_A W0 s.heap.size q := va_free (wc := wc) (H0 := s.heap) (locs := []) hD va_S.rf (fun q h => Or.inr h) isC hC
  obtain ⟨hP1, hK1, hD1⟩ := hB
  obtain ⟨hP2, hD2⟩ := setL_join hP0 hD hC ha (fun q h1 h2 => hF.2 q h1 h2) hP1
  exact ⟨⟨by rw [hp]; exact hP2, hK1, by rw [hp]; exact hD2⟩, ⟨hF.1, fun q h1 h2 => hF.2 q h1 (fun z => h2 (hFc q z))⟩, hFc⟩
theorem fr_P {sz : Nat} {s : State} {isC : List Nat} (hC : isC.map (fun i => W0[i]?) = wc.map some) (hnd : va_nd isC = true) (h : sP D cs W0 sz s) : sP D cs wc sz s :=
  ⟨h.1, h.2.1.sub isC (xs_fm hC), h.2.2.1, h.2.2.2.sub isC hnd hC⟩
theorem fr_i {Q : Int32 → S → Prop} (hM : CtI l y ws rm D cs av wc wf Q) (isC : List Nat) (hnd : va_nd isC = true) (hC : isC.map (fun i => W0[i]?) = wc.map some) (hp : ∀ u, Wf u = setL W0 isC (wf u)) (ha : ∀ u, (wf u).map Prod.fst = wc.map Prod.fst) : CtI l y ws rm D cs av W0 Wf Q := by
  intro sz p e ha' hc hk s m args below hf happ hP _
  obtain ⟨rfl, hs⟩ := hP
  obtain ⟨n, o, h1, h2, h3, ⟨⟨⟨r, u, ho, hq, hB⟩, hF⟩, L, hfe, hL⟩⟩ := hM sz p e ha' hc hk s m _ below hf happ ⟨rfl, fr_P hC hnd hs⟩ trivial
  obtain ⟨b1, b2, b3⟩ := fr_B hC (hp u) (ha u) hs hB hF
  exact ⟨n, o, h1, h2, h3, ⟨⟨⟨r, u, ho, hq, b1⟩, b2⟩, L, hfe, fun q hq => b3 _ (hL q hq)⟩⟩
theorem fr_l {Q : Int64 → S → Prop} (hM : CtL l y ws rm D cs av wc wf Q) (isC : List Nat) (hnd : va_nd isC = true) (hC : isC.map (fun i => W0[i]?) = wc.map some) (hp : ∀ u, Wf u = setL W0 isC (wf u)) (ha : ∀ u, (wf u).map Prod.fst = wc.map Prod.fst) : CtL l y ws rm D cs av W0 Wf Q := by
  intro sz p e ha' hc hk s m args below hf happ hP _
  obtain ⟨rfl, hs⟩ := hP
  obtain ⟨n, o, h1, h2, h3, ⟨⟨⟨r, u, ho, hq, hB⟩, hF⟩, L, hfe, hL⟩⟩ := hM sz p e ha' hc hk s m _ below hf happ ⟨rfl, fr_P hC hnd hs⟩ trivial
  obtain ⟨b1, b2, b3⟩ := fr_B hC (hp u) (ha u) hs hB hF
  exact ⟨n, o, h1, h2, h3, ⟨⟨⟨r, u, ho, hq, b1⟩, b2⟩, L, hfe, fun q hq => b3 _ (hL q hq)⟩⟩
end XFR
