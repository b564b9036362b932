/-! what the sets' methods do; a set's size is the count of its members -/
theorem nI200 : (200 : Int32) = nI 200 := rfl
theorem sp_has {p1 : Int32} {mem : Nat → Bool} {Q : Bool → Prop} (ht : ∀ j, j < 200 → p1 = nI j → Q (mem j)) (hf : (∀ j, j < 200 → ¬ p1 = nI j) → Q false) : call_X2_has p1 mem Q := by
  intro X24 X25 h24 h25
  rcases pk_ix p1 (n := 200) (by decide) with h | h | ⟨j, hj, rfl⟩
  · refine ⟨fun _ => h24 (h25 _ (hf fun j hj e => ?_)), fun c => absurd h c⟩
    rw [e] at h; exact nI_pos (by omega) h
  · refine ⟨fun c => ?_, fun _ => ⟨fun _ => h24 (h25 _ (hf fun j hj e => ?_)), fun c => absurd h c⟩⟩
    · have h1 := Int32.lt_iff_toInt_lt.mp c
      have h2 := Int32.le_iff_toInt_le.mp h
      rw [nI_toInt (by decide)] at h2
      have : (0 : Int32).toInt = 0 := by decide
      omega
    · rw [e, nI_leI (by decide) (by omega)] at h; omega
  · refine ⟨fun c => absurd c (nI_pos (by omega)), fun _ => ⟨fun c => ?_, fun _ => ⟨j, hj, rfl, fun c => h24 (h25 _ ?_), fun c => h25 _ ?_⟩⟩⟩
    · rw [nI200, nI_leI (by decide) (by omega)] at c; omega
    · rw [← c]; exact ht j hj rfl
    · rw [← c]; exact ht j hj rfl
theorem sp_hasN {j : Nat} {mem : Nat → Bool} {Q : Bool → Prop} (hj : j < 200) (h : Q (mem j)) : call_X2_has (nI j) mem Q :=
  sp_has (fun i hi e => by rw [nI_eq (by omega) (by omega)] at e; rw [← e]; exact h) (fun c => absurd rfl (c j hj))
theorem sp_clear {sz : Int32} {mem : Nat → Bool} {Q : Int32 → (Nat → Bool) → Prop} (h : ∀ mem' : Nat → Bool, (∀ i, i < 200 → mem' i = false) → Q 0 mem') : call_X2_clear sz mem Q := by
  intro X2 h2
  have L : ∀ d i (m : Nat → Bool), i + d = 200 → (∀ j, j < i → m j = false) → X2 (nI i) sz m := by
    intro d
    induction d with
    | zero =>
      intro i m hi hm
      obtain rfl : i = 200 := by omega
      exact h2 _ _ _ ⟨fun _ => h m hm, fun c => absurd (by decide) c⟩
    | succ d ih =>
      intro i m hi hm
      refine h2 _ _ _ ⟨fun c => ?_, fun _ => ⟨i, by omega, rfl, ?_⟩⟩
      · rw [nI200, nI_leI (by decide) (by omega)] at c; omega
      · rw [nI_1]
        refine ih (i + 1) _ (by omega) (fun j hj => ?_)
        by_cases e : j = i
        · rw [e, uu_s]
        · rw [uu_n e]; exact hm j (by omega)
  exact L 200 0 mem (by omega) (fun j hj => by omega)
theorem sp_put {j : Nat} {s : Int64} {mem : Nat → Bool} {sc : Nat → Int64} {Q : Int32 → (Nat → Bool) → (Nat → Int64) → Prop} (hj : j < 200) (h : Q (nI (cnt (va_up mem j true) 200)) (va_up mem j true) (va_up sc j s)) : call_X2_put (nI j) s (nI (cnt mem 200)) mem sc Q := by
  intro X26 h26
  refine ⟨j, hj, rfl, fun c => h26 _ _ _ ⟨j, hj, rfl, ?_⟩, fun c => ⟨j, hj, rfl, h26 _ _ _ ⟨j, hj, rfl, ?_⟩⟩⟩
  · rw [up_same c] at h; exact h
  · rw [cnt_t hj c] at h; rw [nI_1]; exact h
theorem sp_add {j : Nat} {s : Int64} {mem : Nat → Bool} {sc : Nat → Int64} {Q : Int32 → (Nat → Bool) → (Nat → Int64) → Prop} (hj : j < 200) (h : Q (nI (cnt (va_up mem j true) 200)) (va_up mem j true) (va_up sc j (if mem j then sc j + s else s))) : call_X2_add (nI j) s (nI (cnt mem 200)) mem sc Q := by
  intro X23 h23
  refine ⟨j, hj, rfl, fun c => h23 _ _ _ _ _ (sp_put hj ?_), fun c => ⟨j, hj, rfl, h23 _ _ _ _ _ (sp_put hj ?_)⟩⟩
  · rw [c] at h; exact h
  · rw [c] at h; exact h
theorem sp_remove {j : Nat} {mem : Nat → Bool} {Q : Int32 → (Nat → Bool) → Prop} (hj : j < 200) (h : Q (nI (cnt (va_up mem j false) 200)) (va_up mem j false)) : call_X2_remove (nI j) (nI (cnt mem 200)) mem Q := by
  intro X26 h26
  refine ⟨j, hj, rfl, fun c => h26 _ _ ?_, fun c => ⟨j, hj, rfl, h26 _ _ ?_⟩⟩
  · rw [up_same c] at h; exact h
  · rw [← cnt_f hj c, nI_pred]; exact h
theorem sp_addAll {mem om : Nat → Bool} {sc os : Nat → Int64} {Q : Int32 → (Nat → Bool) → (Nat → Int64) → Prop}
    (h : ∀ (mem' : Nat → Bool) (sc' : Nat → Int64), (∀ i, i < 200 → mem' i = (mem i || om i)) → (∀ i, i < 200 → sc' i = if om i then (if mem i then sc i + os i else os i) else sc i) → Q (nI (cnt mem' 200)) mem' sc') : call_X2_addAll (nI (cnt mem 200)) mem sc om os Q := by
  intro X2 X29 h2 h29
  have L : ∀ d i (m : Nat → Bool) (c : Nat → Int64), i + d = 200 → (∀ j, j < i → m j = (mem j || om j)) → (∀ j, j < i → c j = if om j then (if mem j then sc j + os j else os j) else sc j) → (∀ j, i ≤ j → m j = mem j) → (∀ j, i ≤ j → c j = sc j) → X2 (nI i) (nI (cnt m 200)) m c := by
    intro d
    induction d with
    | zero =>
      intro i m c hi h3 h4 h5 h6
      obtain rfl : i = 200 := by omega
      exact h2 _ _ _ _ ⟨fun _ => h m c h3 h4, fun c => absurd (by decide) c⟩
    | succ d ih =>
      intro i m c hi h3 h4 h5 h6
      refine h2 _ _ _ _ ⟨fun c => ?_, fun _ => ⟨i, by omega, rfl, fun e => h29 _ _ _ _ ?_, fun e => ⟨i, by omega, rfl, sp_add (by omega) (h29 _ _ _ _ ?_)⟩⟩⟩
      · rw [nI200, nI_leI (by decide) (by omega)] at c; omega
      · rw [nI_1]
        refine ih (i + 1) m c (by omega) (fun j hj => ?_) (fun j hj => ?_) (fun j hj => h5 j (by omega)) (fun j hj => h6 j (by omega))
        · by_cases e2 : j = i
          · rw [e2, h5 i (Nat.le_refl i), e]; simp
          · exact h3 j (by omega)
        · by_cases e2 : j = i
          · rw [e2, h6 i (Nat.le_refl i), e]; simp
          · exact h4 j (by omega)
      · rw [nI_1]
        refine ih (i + 1) _ _ (by omega) (fun j hj => ?_) (fun j hj => ?_) (fun j hj => ?_) (fun j hj => ?_)
        · by_cases e2 : j = i
          · rw [e2, uu_s, e]; simp
          · rw [uu_n e2]; exact h3 j (by omega)
        · by_cases e2 : j = i
          · rw [e2, uu_s, e, h5 i (Nat.le_refl i), h6 i (Nat.le_refl i)]; simp
          · rw [uu_n e2]; exact h4 j (by omega)
        · rw [uu_n (by omega)]; exact h5 j (by omega)
        · rw [uu_n (by omega)]; exact h6 j (by omega)
  exact L 200 0 mem sc (by omega) (fun j hj => by omega) (fun j hj => by omega) (fun _ _ => rfl) (fun _ _ => rfl)
theorem sp_removeAll {mem om : Nat → Bool} {Q : Int32 → (Nat → Bool) → Prop}
    (h : ∀ mem' : Nat → Bool, (∀ i, i < 200 → mem' i = (mem i && !om i)) → Q (nI (cnt mem' 200)) mem') : call_X2_removeAll (nI (cnt mem 200)) mem om Q := by
  intro X2 X23 h2 h23
  have L : ∀ d i (m : Nat → Bool), i + d = 200 → (∀ j, j < i → m j = (mem j && !om j)) → (∀ j, i ≤ j → m j = mem j) → X2 (nI i) (nI (cnt m 200)) m := by
    intro d
    induction d with
    | zero =>
      intro i m hi h3 h5
      obtain rfl : i = 200 := by omega
      exact h2 _ _ _ ⟨fun _ => h m h3, fun c => absurd (by decide) c⟩
    | succ d ih =>
      intro i m hi h3 h5
      refine h2 _ _ _ ⟨fun c => ?_, fun _ => ⟨i, by omega, rfl, fun e => h23 _ _ _ ?_, fun e => sp_remove (by omega) (h23 _ _ _ ?_)⟩⟩
      · rw [nI200, nI_leI (by decide) (by omega)] at c; omega
      · rw [nI_1]
        refine ih (i + 1) m (by omega) (fun j hj => ?_) (fun j hj => h5 j (by omega))
        by_cases e2 : j = i
        · rw [e2, h5 i (Nat.le_refl i), e]; simp
        · exact h3 j (by omega)
      · rw [nI_1]
        refine ih (i + 1) _ (by omega) (fun j hj => ?_) (fun j hj => ?_)
        · by_cases e2 : j = i
          · rw [e2, uu_s, e]; simp
          · rw [uu_n e2]; exact h3 j (by omega)
        · rw [uu_n (by omega)]; exact h5 j (by omega)
  exact L 200 0 mem (by omega) (fun j hj => by omega) (fun _ _ => rfl)
theorem sp_keepCommon {mem om : Nat → Bool} {sc os : Nat → Int64} {Q : Int32 → (Nat → Bool) → (Nat → Int64) → Prop}
    (h : ∀ (mem' : Nat → Bool) (sc' : Nat → Int64), (∀ i, i < 200 → mem' i = (mem i && om i)) → (∀ i, i < 200 → sc' i = if mem i && om i then sc i + os i else sc i) → Q (nI (cnt mem' 200)) mem' sc') : call_X2_keepCommon (nI (cnt mem 200)) mem sc om os Q := by
  intro X2 X46 h2 h46
  have L : ∀ d i (m : Nat → Bool) (c : Nat → Int64), i + d = 200 → (∀ j, j < i → m j = (mem j && om j)) → (∀ j, j < i → c j = if mem j && om j then sc j + os j else sc j) → (∀ j, i ≤ j → m j = mem j) → (∀ j, i ≤ j → c j = sc j) → X2 (nI i) (nI (cnt m 200)) m c := by
    intro d
    induction d with
    | zero =>
      intro i m c hi h3 h4 h5 h6
      obtain rfl : i = 200 := by omega
      exact h2 _ _ _ _ ⟨fun _ => h m c h3 h4, fun c => absurd (by decide) c⟩
    | succ d ih =>
      intro i m c hi h3 h4 h5 h6
      have hi5 := h5 i (Nat.le_refl i)
      have hi6 := h6 i (Nat.le_refl i)
      refine h2 _ _ _ _ ⟨fun c => ?_, fun _ => ⟨i, by omega, rfl, fun e => ⟨i, by omega, rfl, fun e2 => h46 _ _ _ _ ?_, fun e2 => ⟨i, by omega, rfl, sp_add (by omega) (h46 _ _ _ _ ?_)⟩⟩, fun e => sp_remove (by omega) (h46 _ _ _ _ ?_)⟩⟩
      · rw [nI200, nI_leI (by decide) (by omega)] at c; omega
      · rw [nI_1]
        rw [hi5] at e2
        refine ih (i + 1) m c (by omega) (fun j hj => ?_) (fun j hj => ?_) (fun j hj => h5 j (by omega)) (fun j hj => h6 j (by omega))
        · by_cases q : j = i
          · rw [q, hi5, e2]; simp
          · exact h3 j (by omega)
        · by_cases q : j = i
          · rw [q, hi6, e2]; simp
          · exact h4 j (by omega)
      · rw [nI_1]
        rw [hi5] at e2
        refine ih (i + 1) _ _ (by omega) (fun j hj => ?_) (fun j hj => ?_) (fun j hj => ?_) (fun j hj => ?_)
        · by_cases q : j = i
          · rw [q, uu_s, e, e2]; rfl
          · rw [uu_n q]; exact h3 j (by omega)
        · by_cases q : j = i
          · rw [q, uu_s, hi5, hi6, e, e2]; rfl
          · rw [uu_n q]; exact h4 j (by omega)
        · rw [uu_n (by omega)]; exact h5 j (by omega)
        · rw [uu_n (by omega)]; exact h6 j (by omega)
      · rw [nI_1]
        refine ih (i + 1) _ c (by omega) (fun j hj => ?_) (fun j hj => ?_) (fun j hj => ?_) (fun j hj => h6 j (by omega))
        · by_cases q : j = i
          · rw [q, uu_s, e]; simp
          · rw [uu_n q]; exact h3 j (by omega)
        · by_cases q : j = i
          · rw [q, hi6, e]; simp
          · exact h4 j (by omega)
        · rw [uu_n (by omega)]; exact h5 j (by omega)
  exact L 200 0 mem sc (by omega) (fun j hj => by omega) (fun j hj => by omega) (fun _ _ => rfl) (fun _ _ => rfl)
theorem cnt0 {m : Nat → Bool} (h : ∀ i, i < 200 → m i = false) : (0 : Int32) = nI (cnt m 200) := by rw [cnt_zero h]; rfl
/-- the set's objects go over; it is empty -/
theorem sp_moveTo {sz1 : Int32} {mem om : Nat → Bool} {sc os : Nat → Int64} {Q : Int32 → (Nat → Bool) → Int32 → (Nat → Bool) → (Nat → Int64) → Prop}
    (h : ∀ (m' om' : Nat → Bool) (os' : Nat → Int64), (∀ i, i < 200 → m' i = false) → (∀ i, i < 200 → om' i = mem i) → (∀ i, i < 200 → mem i = true → os' i = sc i) → Q (nI (cnt m' 200)) m' (nI (cnt om' 200)) om' os') : call_X2_moveTo (nI (cnt mem 200)) mem sc sz1 om os Q := by
  refine sp_clear (fun o1 ho1 => ?_)
  rw [cnt0 ho1]
  refine sp_addAll (fun o2 s2 ho2 hs2 => ?_)
  refine sp_clear (fun m1 hm1 => ?_)
  rw [cnt0 hm1]
  refine h m1 o2 s2 hm1 (fun i hi => ?_) (fun i hi e => ?_)
  · rw [ho2 i hi, ho1 i hi]; rfl
  · rw [hs2 i hi, e, ho1 i hi]; rfl
