/-! the class's calls on sets -/
theorem sp_spreadBelow {u : Nat} {lev : Int32} {lv : Nat → Int32} {ts : Nat → Int64} {m : Nat → Bool} {c : Nat → Int64} {Q : Int32 → (Nat → Bool) → (Nat → Int64) → Prop} (hu : u < 200)
    (h : ∀ (m' : Nat → Bool) (c' : Nat → Int64), (∀ i, i < 200 → m' i = (m i || (decide (lv i = lev) && (decide (fb lv u ≤ i) && decide (i < u))))) → (∀ i, i < 200 → c' i = if (decide (lv i = lev) && (decide (fb lv u ≤ i) && decide (i < u))) = true then (if m i then c i + ts u else ts u) else c i) → Q (nI (cnt m' 200)) m' c') : call_X3_spreadBelow (nI u) lev lv ts (nI (cnt m 200)) m c Q := by
  intro X10 X45 h10 h45
  have hf := fb_le lv u
  have L : ∀ d i (m1 : Nat → Bool) (c1 : Nat → Int64), i + d = u → fb lv u ≤ i → (∀ j, j < 200 → m1 j = (m j || (decide (lv j = lev) && (decide (fb lv u ≤ j) && decide (j < i))))) → (∀ j, j < 200 → c1 j = if (decide (lv j = lev) && (decide (fb lv u ≤ j) && decide (j < i))) = true then (if m j then c j + ts u else ts u) else c j) → X10 (nI i) (nI (cnt m1 200)) m1 c1 := by
    intro d
    induction d with
    | zero =>
      intro i m1 c1 hi _ hm hc
      obtain rfl : i = u := by omega
      exact h10 _ _ _ _ ⟨fun _ => h m1 c1 hm hc, fun q => absurd (nI_le (Nat.le_refl i) (by omega)) q⟩
    | succ d ih =>
      intro i m1 c1 hi hfi hm hc
      refine h10 _ _ _ _ ⟨fun q => absurd q (nI_ge (by omega) (by omega)), fun _ => ⟨i, by omega, rfl, fun q => h45 _ _ _ _ ?_, fun q => ⟨u, hu, rfl, sp_add (by omega) (h45 _ _ _ _ ?_)⟩⟩⟩
      · rw [nI_1]
        refine ih (i + 1) m1 c1 (by omega) (by omega) (fun j hj => ?_) (fun j hj => ?_)
        · rw [hm j hj]
          by_cases e : j = i
          · subst e; simp [q]
          · rw [show decide (j < i + 1) = decide (j < i) from decide_eq_decide.mpr (by omega)]
        · rw [hc j hj]
          by_cases e : j = i
          · subst e; simp [q]
          · rw [show decide (j < i + 1) = decide (j < i) from decide_eq_decide.mpr (by omega)]
      · rw [nI_1]
        refine ih (i + 1) _ _ (by omega) (by omega) (fun j hj => ?_) (fun j hj => ?_)
        · by_cases e : j = i
          · subst e; rw [uu_s]; simp [q, hfi]
          · rw [uu_n e, hm j hj, show decide (j < i + 1) = decide (j < i) from decide_eq_decide.mpr (by omega)]
        · by_cases e : j = i
          · subst e; rw [uu_s, hm j hj, hc j hj]; simp [q, hfi]
          · rw [uu_n e, hc j hj, show decide (j < i + 1) = decide (j < i) from decide_eq_decide.mpr (by omega)]
  refine sp_firstBelow hu (by decide) ?_
  refine L (u - fb lv u) (fb lv u) m c (by omega) (Nat.le_refl _) (fun j hj => ?_) (fun j hj => ?_)
  · have : (decide (fb lv u ≤ j) && decide (j < fb lv u)) = false := by simp
    rw [this]; simp
  · have : (decide (fb lv u ≤ j) && decide (j < fb lv u)) = false := by simp
    rw [this]; simp
theorem sp_spreadToLinked {u n : Nat} {lk ky : Nat → Int32} {al : Nat → Bool} {ts : Nat → Int64} {m : Nat → Bool} {c : Nat → Int64} {Q : Int32 → (Nat → Bool) → (Nat → Int64) → Prop} (hu : u < 200) (hn : n ≤ 200)
    (h : ∀ (m' : Nat → Bool) (c' : Nat → Int64), (∀ i, i < 200 → m' i = (m i || (decide (i < n) && (al i && decide (lk i = ky u))))) → (∀ i, i < 200 → c' i = if (decide (i < n) && (al i && decide (lk i = ky u))) = true then ts u else c i) → Q (nI (cnt m' 200)) m' c') : call_X3_spreadToLinked (nI u) (nI n) lk ky al ts (nI (cnt m 200)) m c Q := by
  intro X2 X60 h2 h60
  have L : ∀ d i (m1 : Nat → Bool) (c1 : Nat → Int64), i + d = n → (∀ j, j < 200 → m1 j = (m j || (decide (j < i) && (al j && decide (lk j = ky u))))) → (∀ j, j < 200 → c1 j = if (decide (j < i) && (al j && decide (lk j = ky u))) = true then ts u else c j) → X2 (nI i) (nI (cnt m1 200)) m1 c1 := by
    intro d
    induction d with
    | zero =>
      intro i m1 c1 hi hm hc
      obtain rfl : i = n := by omega
      exact h2 _ _ _ _ ⟨fun _ => h m1 c1 hm hc, fun q => absurd (nI_le (Nat.le_refl i) (by omega)) q⟩
    | succ d ih =>
      intro i m1 c1 hi hm hc
      have no : (al i && decide (lk i = ky u)) = false → X60 (nI i) (nI (cnt m1 200)) m1 c1 := fun q => by
        refine h60 _ _ _ _ ?_
        rw [nI_1]
        refine ih (i + 1) m1 c1 (by omega) (fun j hj => ?_) (fun j hj => ?_)
        · rw [hm j hj]
          by_cases e : j = i
          · subst e; rw [q]; simp
          · rw [show decide (j < i + 1) = decide (j < i) from decide_eq_decide.mpr (by omega)]
        · rw [hc j hj]
          by_cases e : j = i
          · subst e; rw [q]; simp
          · rw [show decide (j < i + 1) = decide (j < i) from decide_eq_decide.mpr (by omega)]
      refine h2 _ _ _ _ ⟨fun q => absurd q (nI_ge (by omega) (by omega)), fun _ => ⟨i, by omega, rfl, fun q => no (by simp [q]), fun q => ⟨i, by omega, rfl, u, hu, rfl, fun q2 => no (by simp [q2]), fun q2 => ⟨u, hu, rfl, sp_put (by omega) (h60 _ _ _ _ ?_)⟩⟩⟩⟩
      rw [nI_1]
      refine ih (i + 1) _ _ (by omega) (fun j hj => ?_) (fun j hj => ?_)
      · by_cases e : j = i
        · subst e; rw [uu_s]; simp [q, q2]
        · rw [uu_n e, hm j hj, show decide (j < i + 1) = decide (j < i) from decide_eq_decide.mpr (by omega)]
      · by_cases e : j = i
        · subst e; rw [uu_s]; simp [q, q2]
        · rw [uu_n e, hc j hj, show decide (j < i + 1) = decide (j < i) from decide_eq_decide.mpr (by omega)]
  refine L n 0 m c (by omega) (fun j hj => by simp) (fun j hj => by simp)
/-- the k-th of a list, as it is answered -/
def ans (L : List Nat) (k : Int32) : Int32 := if k = -1 then nI L.length else match (if k < 0 then none else L[k.toNatClampNeg]?) with | some v => nI v | none => -1
theorem sp_answerRanked {L : List Nat} {k : Int32} {num : Nat → Int32} {Q : Int32 → Prop} (hl : L.length ≤ 200) (hn : ∀ (j v : Nat), L[j]? = some v → num j = nI v) (h : Q (ans L k)) : call_X3_answerRanked k (nI L.length) num Q := by
  intro X40 X41 h40 h41
  unfold ans at h
  refine ⟨fun c => ?_, fun c => ?_⟩
  · rw [if_neg c] at h
    refine ⟨fun c2 => h40 (h41 _ ?_), fun c2 => ?_⟩
    · rw [if_pos c2] at h; exact h
    · rw [if_neg c2] at h
      obtain ⟨q, hq, rfl⟩ := nI_of c2
      rw [nI_clamp hq] at h
      refine ⟨fun c3 => h40 (h41 _ ?_), fun c3 => ?_⟩
      · rw [nI_leI (by omega) hq] at c3
        rw [List.getElem?_eq_none c3] at h; exact h
      · rw [nI_leI (by omega) hq] at c3
        have hq2 : q < L.length := by omega
        refine ⟨q, by omega, rfl, h41 _ ?_⟩
        rw [List.getElem?_eq_getElem hq2] at h
        rw [hn q _ (List.getElem?_eq_getElem hq2)]; exact h
  · rw [if_pos c] at h; exact h
theorem RK.len {sc : Nat → Int64} {P : Nat → Bool} {a b : Nat} {L : List Nat} (h : RK sc P a b L) : L.length ≤ b - a := by
  rw [h.1.length_eq]; exact mems_len
theorem d_lt {a b : Nat} (ha : a < 2 ^ 31) (hb : b < 2 ^ 31) : nI a < nI b ↔ a < b := nI_ltI ha hb
theorem nI8 : (8 : Int32) = nI 8 := rfl
theorem nI1 : (1 : Int32) = nI 1 := rfl
theorem nIm1 {d : Nat} (h : 1 ≤ d) : nI d - 1 = nI (d - 1) := by rw [nI1, pk_sub h]
theorem nIm2 {d : Nat} (h : 2 ≤ d) : nI d - 2 = nI (d - 2) := by rw [nI2, pk_sub h]
theorem sp_find {ds1 d n : Nat} {k a b sz : Int32} {lv va tg lk ky : Nat → Int32} {al mem : Nat → Bool} {sc : Nat → Int64} {Q : Int32 → Int32 → Int32 → (Nat → Bool) → (Nat → Int64) → Prop} (hn : n ≤ 200) (hd : d ≤ 8) (hds : d < 8 → ds1 = d)
    (h2 : cbf k a b = false → Q (-2) (nI d) sz mem sc) (h4 : cbf k a b = true → d = 8 → Q (-4) (nI d) sz mem sc)
    (h : cbf k a b = true → d < 8 → ∀ (m' : Nat → Bool) (c' : Nat → Int64), (∀ i, i < 200 → m' i = (decide (i < n) && (al i && fnd k a b (lv i) (va i) (tg i) (lk i) (ky i)))) → (∀ i, i < 200 → m' i = true → c' i = scf k a (va i)) → Q (nI (cnt m' 200)) (nI (d + 1)) (nI (cnt m' 200)) m' c') : call_X3_find ds1 k a b (nI d) (nI n) lv va tg lk ky al sz mem sc Q := by
  intro X43 X95 h43 h95
  refine sp_canBeFound ⟨fun c => ⟨fun c2 => ?_, fun c2 => h4 c ?_⟩, fun c => h2 c⟩
  · rw [nI8, nI_ltI (by omega) (by decide)] at c2
    refine ⟨by rw [hds c2], sp_clear (fun m0 hm0 => ?_)⟩
    have L : ∀ e i (m1 : Nat → Bool) (c1 : Nat → Int64), i + e = n → (∀ j, j < 200 → m1 j = (decide (j < i) && (al j && fnd k a b (lv j) (va j) (tg j) (lk j) (ky j)))) → (∀ j, j < 200 → m1 j = true → c1 j = scf k a (va j)) → X43 (nI i) (nI d) (nI (cnt m1 200)) m1 c1 := by
      intro e
      induction e with
      | zero =>
        intro i m1 c1 hi hm hc
        obtain rfl : i = n := by omega
        refine h43 _ _ _ _ _ ⟨fun _ => ?_, fun q => absurd (nI_le (Nat.le_refl i) (by omega)) q⟩
        rw [nI_1]; exact h c c2 m1 c1 hm hc
      | succ e ih =>
        intro i m1 c1 hi hm hc
        have no : (al i && fnd k a b (lv i) (va i) (tg i) (lk i) (ky i)) = false → X95 (nI i) (nI d) (nI (cnt m1 200)) m1 c1 := fun q => by
          refine h95 _ _ _ _ _ ?_
          rw [nI_1]
          refine ih (i + 1) m1 c1 (by omega) (fun j hj => ?_) hc
          rw [hm j hj]
          by_cases e : j = i
          · subst e; rw [q]; simp
          · rw [show decide (j < i + 1) = decide (j < i) from decide_eq_decide.mpr (by omega)]
        refine h43 _ _ _ _ _ ⟨fun q => absurd q (nI_ge (by omega) (by omega)), fun _ => ⟨i, by omega, rfl, fun q => no (by simp [q]), fun q => sp_isFound (by omega) ⟨fun q2 => no (by simp [q2]), fun q2 => sp_scoreFound (by omega) (sp_put (by omega) (h95 _ _ _ _ _ ?_))⟩⟩⟩
        rw [nI_1]
        refine ih (i + 1) _ _ (by omega) (fun j hj => ?_) (fun j hj hj2 => ?_)
        · by_cases e : j = i
          · subst e; rw [uu_s]; simp [q, q2]
          · rw [uu_n e, hm j hj, show decide (j < i + 1) = decide (j < i) from decide_eq_decide.mpr (by omega)]
        · by_cases e : j = i
          · subst e; rw [uu_s]
          · rw [uu_n e] at hj2 ⊢; exact hc j hj hj2
    have := L n 0 m0 sc (by omega) (fun j hj => by rw [hm0 j hj]; simp) (fun j hj q => by rw [hm0 j hj] at q; exact absurd q (by decide))
    rw [← cnt0 hm0] at this
    exact this
  · rw [nI8, nI_ltI (by omega) (by decide)] at c2; omega
theorem sp_join {ds1 ds2 d : Nat} {how : Int32} {m1 m2 : Nat → Bool} {s1 s2 : Nat → Int64} {Q : Int32 → Int32 → Int32 → (Nat → Bool) → (Nat → Int64) → Prop} (hd : d ≤ 8) (hds : 2 ≤ d → ds1 = d - 2 ∧ ds2 = d - 1)
    (h2 : wB how 0 2 = false → Q (-2) (nI d) (nI (cnt m1 200)) m1 s1) (h3 : wB how 0 2 = true → d < 2 → Q (-3) (nI d) (nI (cnt m1 200)) m1 s1)
    (h : wB how 0 2 = true → 2 ≤ d → ∀ (m' : Nat → Bool) (c' : Nat → Int64), (∀ i, i < 200 → m' i = if how = 0 then (m1 i && m2 i) else if how = 1 then (m1 i || m2 i) else (m1 i && !m2 i)) → (∀ i, i < 200 → m' i = true → c' i = if how = 0 then s1 i + s2 i else if how = 1 then (if m1 i then (if m2 i then s1 i + s2 i else s1 i) else s2 i) else s1 i) → Q (nI (cnt m' 200)) (nI (d - 1)) (nI (cnt m' 200)) m' c') : call_X3_join ds1 ds2 how (nI d) (nI (cnt m1 200)) m1 s1 m2 s2 Q := by
  intro X97 h97
  refine sp_within ⟨fun c => ⟨fun c2 => ?_, fun c2 => h3 c ?_⟩, fun c => h2 c⟩
  · rw [nI2, nI_leI (by decide) (by omega)] at c2
    obtain ⟨e1, e2⟩ := hds c2
    have hh := h c c2
    refine ⟨by rw [nIm2 c2, e1], by rw [nIm1 (by omega), e2], fun q => ?_, fun q => ?_, fun q q2 => ?_⟩
    · subst q
      refine sp_keepCommon (fun m' c' hm hc => h97 _ _ _ _ ?_)
      rw [nIm1 (by omega)]
      refine hh m' c' (fun i hi => by rw [hm i hi]; rfl) (fun i hi z => ?_)
      rw [hm i hi] at z
      rw [hc i hi, if_pos z]; rfl
    · subst q
      refine sp_addAll (fun m' c' hm hc => h97 _ _ _ _ ?_)
      rw [nIm1 (by omega)]
      refine hh m' c' (fun i hi => by rw [hm i hi]; rfl) (fun i hi z => ?_)
      rw [hm i hi] at z
      rw [hc i hi]
      show _ = (if m1 i = true then (if m2 i = true then s1 i + s2 i else s1 i) else s2 i)
      cases e1 : m1 i <;> cases e2 : m2 i <;> simp_all
    · refine sp_removeAll (fun m' hm => h97 _ _ _ _ ?_)
      rw [nIm1 (by omega)]
      refine hh m' s1 (fun i hi => by rw [hm i hi, if_neg q, if_neg q2]) (fun i hi z => ?_)
      rw [if_neg q, if_neg q2]
  · rw [nI2, nI_leI (by decide) (by omega)] at c2; omega
theorem sp_up {ds1 d n : Nat} {lev r ksz : Int32} {w : Bool} {lv : Nat → Int32} {km mem : Nat → Bool} {ks sc : Nat → Int64} {Q : Int32 → Bool → Int32 → (Nat → Bool) → (Nat → Int64) → Int32 → (Nat → Bool) → (Nat → Int64) → Prop} (hn : n ≤ 200) (hd : d ≤ 8) (hds : 1 ≤ d → ds1 = d - 1)
    (h2 : (wB lev 1 2 && wB r 0 4) = false → Q (-2) w ksz km ks (nI (cnt mem 200)) mem sc) (h3 : (wB lev 1 2 && wB r 0 4) = true → d = 0 → Q (-3) w ksz km ks (nI (cnt mem 200)) mem sc)
    (h : (wB lev 1 2 && wB r 0 4) = true → 1 ≤ d → ∀ (m' km' : Nat → Bool) (c' ks' : Nat → Int64), (∀ i, i < 200 → km' i = mem i) → (∀ i, i < 200 → mem i = true → ks' i = sc i) → (∀ i, i < 200 → m' i = (decide (i < n) && (decide (lv i = lev) && decide (0 < cnt (blw lv mem i) i)))) → (∀ i, i < 200 → m' i = true → c' i = valF r (blw lv mem i) sc i) → Q (nI (cnt m' 200)) true (nI (cnt km' 200)) km' ks' (nI (cnt m' 200)) m' c') : call_X3_up ds1 lev r (nI d) w (nI n) lv ksz km ks (nI (cnt mem 200)) mem sc Q := by
  intro X18 X60 X94 h18 h60 h94
  refine sp_within ⟨fun c => h18 _ _ _ _ _ _ _ (h2 (by simp [c])), fun c => sp_within ⟨fun c1 => ⟨fun c2 => ?_, fun c2 => h3 (by simp [c, c1]) ?_⟩, fun c1 => h18 _ _ _ _ _ _ _ (h2 (by simp [c1]))⟩⟩
  · rw [nI1, nI_leI (by decide) (by omega)] at c2
    have hh := h (by simp [c, c1]) c2
    refine ⟨by rw [nIm1 c2, hds c2], sp_moveTo (fun m0 k0 s0 hm0 hk0 hs0 => ?_)⟩
    have hblw : ∀ u, u < 200 → ∀ i, i < u → blw lv k0 u i = blw lv mem u i := fun u hu i hi => by unfold blw; rw [hk0 i (by omega)]
    have hcnt : ∀ u, u < 200 → cnt (blw lv k0 u) u = cnt (blw lv mem u) u := fun u hu => cnt_congr (hblw u hu)
    have hval : ∀ u, u < 200 → valF r (blw lv k0 u) s0 u = valF r (blw lv mem u) sc u := fun u hu => valF_congr (hblw u hu) (fun i hi q => by
      refine hs0 i (by omega) ?_
      rw [hblw u hu i hi] at q
      simp only [blw, Bool.and_eq_true] at q; exact q.2.2)
    have L : ∀ e i (m1 : Nat → Bool) (c1 : Nat → Int64), i + e = n → (∀ j, j < 200 → m1 j = (decide (j < i) && (decide (lv j = lev) && decide (0 < cnt (blw lv mem j) j)))) → (∀ j, j < 200 → m1 j = true → c1 j = valF r (blw lv mem j) sc j) → X60 (nI i) true (nI (cnt k0 200)) k0 s0 (nI (cnt m1 200)) m1 c1 := by
      intro e
      induction e with
      | zero =>
        intro i m1 c1 hi hm hc
        obtain rfl : i = n := by omega
        exact h60 _ _ _ _ _ _ _ _ ⟨fun _ => hh m1 k0 c1 s0 hk0 hs0 hm hc, fun q => absurd (nI_le (Nat.le_refl i) (by omega)) q⟩
      | succ e ih =>
        intro i m1 c1 hi hm hc
        have no : (decide (lv i = lev) && decide (0 < cnt (blw lv mem i) i)) = false → X94 (nI i) true (nI (cnt k0 200)) k0 s0 (nI (cnt m1 200)) m1 c1 := fun q => by
          refine h94 _ _ _ _ _ _ _ _ ?_
          rw [nI_1]
          refine ih (i + 1) m1 c1 (by omega) (fun j hj => ?_) hc
          rw [hm j hj]
          by_cases e : j = i
          · subst e; rw [q]; simp
          · rw [show decide (j < i + 1) = decide (j < i) from decide_eq_decide.mpr (by omega)]
        refine h60 _ _ _ _ _ _ _ _ ⟨fun q => absurd q (nI_ge (by omega) (by omega)), fun _ => ⟨i, by omega, rfl, fun q => no (by simp [q]), fun q => sp_gatherBelow (by omega) (fun q2 => no ?_) (fun q2 => h94 _ _ _ _ _ _ _ _ ?_)⟩⟩
        · rw [hcnt i (by omega)] at q2; simp [q2]
        · rw [hcnt i (by omega)] at q2
          rw [nI_1, hval i (by omega)]
          refine ih (i + 1) _ _ (by omega) (fun j hj => ?_) (fun j hj hj2 => ?_)
          · by_cases e : j = i
            · subst e; rw [uu_s]; simp [q, q2]
            · rw [uu_n e, hm j hj, show decide (j < i + 1) = decide (j < i) from decide_eq_decide.mpr (by omega)]
          · by_cases e : j = i
            · subst e; rw [uu_s]
            · rw [uu_n e] at hj2 ⊢; exact hc j hj hj2
    exact L n 0 m0 sc (by omega) (fun j hj => by rw [hm0 j hj]; simp) (fun j hj q => by rw [hm0 j hj] at q; exact absurd q (by decide))
  · rw [nI1, nI_leI (by decide) (by omega)] at c2; omega
/-- what a set has above i -/
def abv (lv : Nat → Int32) (mem : Nat → Bool) (i : Nat) : Nat → Bool := fun p => mem p && (decide (fb lv p ≤ i) && decide (i < p))
theorem sp_down {ds1 d n : Nat} {lev tsz : Int32} {lv : Nat → Int32} {tm mem : Nat → Bool} {ts sc : Nat → Int64} {Q : Int32 → Int32 → (Nat → Bool) → (Nat → Int64) → Int32 → (Nat → Bool) → (Nat → Int64) → Prop} (hn : n ≤ 200) (hd : d ≤ 8) (hds : 1 ≤ d → ds1 = d - 1)
    (h2 : wB lev 0 1 = false → Q (-2) tsz tm ts (nI (cnt mem 200)) mem sc) (h3 : wB lev 0 1 = true → d = 0 → Q (-3) tsz tm ts (nI (cnt mem 200)) mem sc)
    (h : wB lev 0 1 = true → 1 ≤ d → ∀ (m' : Nat → Bool) (c' : Nat → Int64) (tsz' : Int32) (tm' : Nat → Bool) (ts' : Nat → Int64), (∀ i, i < 200 → m' i = (decide (lv i = lev) && decide (0 < cnt (abv lv mem i) n))) → (∀ i, i < 200 → m' i = true → c' i = sumF (abv lv mem i) sc n) → Q (nI (cnt m' 200)) tsz' tm' ts' (nI (cnt m' 200)) m' c') : call_X3_down ds1 lev (nI d) (nI n) lv tsz tm ts (nI (cnt mem 200)) mem sc Q := by
  intro X45 X74 h45 h74
  refine sp_within ⟨fun c => ⟨fun c2 => ?_, fun c2 => h3 c ?_⟩, fun c => h2 c⟩
  · rw [nI1, nI_leI (by decide) (by omega)] at c2
    have hh := h c c2
    refine ⟨by rw [nIm1 c2, hds c2], sp_moveTo (fun m0 k0 s0 hm0 hk0 hs0 => ?_)⟩
    have L : ∀ e p (m1 : Nat → Bool) (c1 : Nat → Int64), p + e = n → (∀ j, j < 200 → m1 j = (decide (lv j = lev) && decide (0 < cnt (abv lv mem j) p))) → (∀ j, j < 200 → m1 j = true → c1 j = sumF (abv lv mem j) sc p) → X45 (nI p) (nI (cnt k0 200)) k0 s0 (nI (cnt m1 200)) m1 c1 := by
      intro e
      induction e with
      | zero =>
        intro i m1 c1 hi hm hc
        obtain rfl : i = n := by omega
        exact h45 _ _ _ _ _ _ _ ⟨fun _ => hh m1 c1 _ _ _ hm hc, fun q => absurd (nI_le (Nat.le_refl i) (by omega)) q⟩
      | succ e ih =>
        intro p m1 c1 hi hm hc
        refine h45 _ _ _ _ _ _ _ ⟨fun q => absurd q (nI_ge (by omega) (by omega)), fun _ => sp_hasN (by omega) ⟨fun q => h74 _ _ _ _ _ _ _ ?_, fun q => sp_spreadBelow (by omega) (fun m' c' hm' hc' => h74 _ _ _ _ _ _ _ ?_)⟩⟩
        · rw [hk0 p (by omega)] at q
          rw [nI_1]
          have hz : ∀ j, abv lv mem j p = false := fun j => by simp [abv, q]
          refine ih (p + 1) m1 c1 (by omega) (fun j hj => ?_) (fun j hj z => ?_)
          · rw [hm j hj]; simp only [cnt, hz j]; rfl
          · rw [hc j hj z]; simp only [sumF, hz j]; rfl
        · rw [hk0 p (by omega)] at q
          rw [nI_1]
          have hp : ∀ j, abv lv mem j p = (decide (fb lv p ≤ j) && decide (j < p)) := fun j => by simp [abv, q]
          refine ih (p + 1) m' c' (by omega) (fun j hj => ?_) (fun j hj z => ?_)
          · rw [hm' j hj, hm j hj]; simp only [cnt, hp j]
            cases z1 : decide (lv j = lev) <;> cases z2 : (decide (fb lv p ≤ j) && decide (j < p)) <;> simp
          · rw [hm' j hj, hm j hj] at z
            rw [hc' j hj]
            simp only [sumF, hp j]
            have hl : decide (lv j = lev) = true := by
              cases z1 : decide (lv j = lev)
              · rw [z1] at z; simp at z
              · rfl
            rw [hl] at z ⊢
            cases z2 : (decide (fb lv p ≤ j) && decide (j < p))
            · rw [z2] at z
              simp only [Bool.and_false, Bool.or_false, Bool.true_and] at z
              simp only [Bool.and_false]
              rw [if_neg (by decide), if_neg (by decide)]
              exact hc j hj (by rw [hm j hj, hl]; simpa using z)
            · simp only [Bool.and_self, if_true]
              rw [hs0 p (by omega) q]
              by_cases z3 : 0 < cnt (abv lv mem j) p
              · have hm1 : m1 j = true := by rw [hm j hj, hl]; simp [z3]
                rw [if_pos hm1, hc j hj hm1]
              · have hm1 : m1 j = false := by rw [hm j hj]; simp; intro _; omega
                rw [hm1, sumF_z (by omega), Int64.zero_add]; rfl
    exact L n 0 m0 sc (by omega) (fun j hj => by rw [hm0 j hj]; simp [cnt]) (fun j hj q => by rw [hm0 j hj] at q; exact absurd q (by decide))
  · rw [nI1, nI_leI (by decide) (by omega)] at c2; omega
