/-! ranking: a stable merge of runs, the greatest score first, of like ones the lesser number -/
def leS (sc : Nat → Int64) (x y : Nat) : Bool := decide (sc y < sc x) || (decide (sc x = sc y) && decide (x ≤ y))
theorem leS_iff {sc : Nat → Int64} {x y : Nat} : leS sc x y = true ↔ sc y < sc x ∨ (sc x = sc y ∧ x ≤ y) := by simp [leS]
theorem i64_lt {a b : Int64} : a < b ↔ a.toInt < b.toInt := Int64.lt_iff_toInt_lt
theorem i64_eq {a b : Int64} : a = b ↔ a.toInt = b.toInt := ⟨fun h => by rw [h], fun h => Int64.toInt_inj.mp h⟩
theorem leS_trans (sc : Nat → Int64) (a b c : Nat) (h1 : leS sc a b = true) (h2 : leS sc b c = true) : leS sc a c = true := by
  rw [leS_iff, i64_lt, i64_eq] at *
  omega
theorem leS_total (sc : Nat → Int64) (a b : Nat) : (leS sc a b || leS sc b a) = true := by
  rw [Bool.or_eq_true, leS_iff, leS_iff, i64_lt, i64_eq, i64_lt, i64_eq]
  omega
/-- the stretch from a to b of g -/
def seg (g : Nat → Nat) (a b : Nat) : List Nat := (List.range (b - a)).map (fun i => g (a + i))
theorem seg_len (g : Nat → Nat) (a b : Nat) : (seg g a b).length = b - a := by simp [seg]
theorem seg_get {g : Nat → Nat} {a b i : Nat} (h : i < b - a) : (seg g a b)[i]? = some (g (a + i)) := by
  simp [seg, h]
theorem seg_mem {g : Nat → Nat} {a b x : Nat} : x ∈ seg g a b ↔ ∃ i, a ≤ i ∧ i < b ∧ g i = x := by
  constructor
  · intro h
    obtain ⟨i, hi, e⟩ := List.mem_map.mp h
    have := List.mem_range.mp hi
    exact ⟨a + i, by omega, by omega, e⟩
  · rintro ⟨i, h1, h2, e⟩
    exact List.mem_map.mpr ⟨i - a, List.mem_range.mpr (by omega), by rw [show a + (i - a) = i by omega]; exact e⟩
theorem seg_congr {g h : Nat → Nat} {a b : Nat} (e : ∀ i, a ≤ i → i < b → g i = h i) : seg g a b = seg h a b := by
  apply List.ext_getElem?
  intro i
  by_cases c : i < b - a
  · rw [seg_get c, seg_get c, e (a + i) (by omega) (by omega)]
  · rw [List.getElem?_eq_none (by rw [seg_len]; omega), List.getElem?_eq_none (by rw [seg_len]; omega)]
theorem seg_app {g : Nat → Nat} {a m b : Nat} (h1 : a ≤ m) (h2 : m ≤ b) : seg g a m ++ seg g m b = seg g a b := by
  apply List.ext_getElem?
  intro i
  rw [List.getElem?_append, seg_len]
  by_cases c : i < m - a
  · rw [if_pos c, seg_get c, seg_get (by omega)]
  · rw [if_neg c]
    by_cases c2 : i < b - a
    · rw [seg_get (by omega), seg_get c2, show m + (i - (m - a)) = a + i by omega]
    · rw [List.getElem?_eq_none (by rw [seg_len]; omega), List.getElem?_eq_none (by rw [seg_len]; omega)]
theorem seg_drop {g : Nat → Nat} {a b i : Nat} (h : i < b - a) : (seg g a b).drop i = g (a + i) :: (seg g a b).drop (i + 1) := by
  have hl : i < (seg g a b).length := by rw [seg_len]; exact h
  rw [List.drop_eq_getElem_cons hl]
  congr 1
  have := seg_get (g := g) h
  rw [List.getElem?_eq_getElem hl] at this
  exact Option.some.inj this
theorem seg_dropN {g : Nat → Nat} {a b i : Nat} (h : b - a ≤ i) : (seg g a b).drop i = [] := List.drop_eq_nil_of_le (by rw [seg_len]; exact h)
theorem drop_step {α : Type} {M T : List α} {n : Nat} {x : α} (e : M.drop n = x :: T) : M[n]? = some x ∧ M.drop (n + 1) = T := by
  constructor
  · have h1 := congrArg (fun l => l[0]?) e
    simpa [List.getElem?_drop] using h1
  · have h1 := congrArg List.tail e
    rwa [List.tail_drop] at h1
theorem sp_mergeTwo {st mi en : Nat} {g : Nat → Nat} {num mrg : Nat → Int32} {sc : Nat → Int64} {Q : (Nat → Int32) → Prop} (h1 : st ≤ mi) (h2 : mi ≤ en) (h3 : en ≤ 200) (hg : ∀ j, st ≤ j → j < en → num j = nI (g j) ∧ g j < 200) (hlt : ∀ i j, st ≤ i → i < mi → mi ≤ j → j < en → g i < g j)
    (h : ∀ mrg' : Nat → Int32, (∀ j, (j < st ∨ en ≤ j) → mrg' j = mrg j) → (∀ t, t < en - st → ∃ v, (List.merge (seg g st mi) (seg g mi en) (leS sc))[t]? = some v ∧ mrg' (st + t) = nI v) → Q mrg') : call_X0_mergeTwo (nI st) (nI mi) (nI en) num mrg sc Q := by
  intro X9 X57 X61 X62 X92 X107 h9 h57 h61 h62 h92 h107
  generalize hM : List.merge (seg g st mi) (seg g mi en) (leS sc) = M at h
  have L : ∀ d a b (m : Nat → Int32), a + b + d = en - st → a ≤ mi - st → b ≤ en - mi → M.drop (a + b) = List.merge ((seg g st mi).drop a) ((seg g mi en).drop b) (leS sc) → (∀ j, (j < st ∨ st + (a + b) ≤ j) → m j = mrg j) → (∀ t, t < a + b → ∃ v, M[t]? = some v ∧ m (st + t) = nI v) → X9 (nI (st + a)) (nI (mi + b)) (nI (st + (a + b))) m := by
    intro d
    induction d with
    | zero =>
      intro a b m hd ha hb hM2 ho hv
      refine h9 _ _ _ _ ⟨fun _ => h m (fun j hj => ho j (by omega)) (fun t ht => hv t (by omega)), fun c => absurd (nI_le (by omega) (by omega)) c⟩
    | succ d ih =>
      intro a b m hd ha hb hM2 ho hv
      have put : ∀ (x : Nat) (T : List Nat), M.drop (a + b) = x :: T → (∀ j, (j < st ∨ st + (a + b + 1) ≤ j) → va_up m (st + (a + b)) (nI x) j = mrg j) ∧ (∀ t, t < a + b + 1 → ∃ v, M[t]? = some v ∧ va_up m (st + (a + b)) (nI x) (st + t) = nI v) := by
        intro x T e
        obtain ⟨e1, e2⟩ := drop_step e
        refine ⟨fun j hj => ?_, fun t ht => ?_⟩
        · rw [uu_n (by omega)]; exact ho j (by omega)
        · by_cases q : t = a + b
          · rw [q, uu_s]; exact ⟨x, e1, rfl⟩
          · rw [uu_n (by omega)]; exact hv t (by omega)
      have TL : a < mi - st → List.merge ((seg g st mi).drop a) ((seg g mi en).drop b) (leS sc) = g (st + a) :: List.merge ((seg g st mi).drop (a + 1)) ((seg g mi en).drop b) (leS sc) → X57 (nI (st + a)) (nI (mi + b)) (nI (st + (a + b))) m := by
        intro ha2 e
        rw [e] at hM2
        obtain ⟨p1, p2⟩ := put _ _ hM2
        refine h57 _ _ _ _ (h62 _ _ _ _ _ ⟨fun c => absurd c (by decide), fun _ => ⟨st + a, by omega, rfl, h92 _ _ _ _ _ _ _ ⟨st + (a + b), by omega, rfl, fun c => absurd c (by decide), fun _ => h107 _ _ _ _ ?_⟩⟩⟩)
        rw [(hg (st + a) (by omega) (by omega)).1, nI_1, nI_1]
        have := ih (a + 1) b _ (by omega) (by omega) hb (by rw [show a + 1 + b = a + b + 1 by omega]; exact (drop_step hM2).2) (fun j hj => p1 j (by omega)) (fun t ht => p2 t (by omega))
        rw [show st + (a + 1) = st + a + 1 by omega, show st + (a + 1 + b) = st + (a + b) + 1 by omega] at this
        exact this
      have TR : b < en - mi → List.merge ((seg g st mi).drop a) ((seg g mi en).drop b) (leS sc) = g (mi + b) :: List.merge ((seg g st mi).drop a) ((seg g mi en).drop (b + 1)) (leS sc) → X61 (nI (st + a)) (nI (mi + b)) (nI (st + (a + b))) m := by
        intro hb2 e
        rw [e] at hM2
        obtain ⟨p1, p2⟩ := put _ _ hM2
        refine h61 _ _ _ _ (h62 _ _ _ _ _ ⟨fun _ => ⟨mi + b, by omega, rfl, h92 _ _ _ _ _ _ _ ⟨st + (a + b), by omega, rfl, fun _ => h107 _ _ _ _ ?_, fun c => absurd c (by decide)⟩⟩, fun c => absurd c (by decide)⟩)
        rw [(hg (mi + b) (by omega) (by omega)).1, nI_1, nI_1]
        have := ih a (b + 1) _ (by omega) ha (by omega) (by rw [show a + (b + 1) = a + b + 1 by omega]; exact (drop_step hM2).2) (fun j hj => p1 j (by omega)) (fun t ht => p2 t (by omega))
        rw [show mi + (b + 1) = mi + b + 1 by omega, show st + (a + (b + 1)) = st + (a + b) + 1 by omega] at this
        exact this
      refine h9 _ _ _ _ ⟨fun c => ?_, fun _ => ⟨fun c => ?_, fun c => ⟨fun c2 => ?_, fun c2 => ?_⟩⟩⟩
      · rw [nI_leI (by omega) (by omega)] at c; omega
      · rw [nI_leI (by omega) (by omega)] at c
        refine TL (by omega) ?_
        rw [seg_dropN (a := mi) (b := en) (i := b) (by omega), List.merge_right, List.merge_right]
        exact seg_drop (by omega)
      · rw [nI_leI (by omega) (by omega)] at c c2
        refine TR (by omega) ?_
        rw [seg_dropN (a := st) (b := mi) (i := a) (by omega), List.nil_merge, List.nil_merge]
        exact seg_drop (by omega)
      · rw [nI_leI (by omega) (by omega)] at c c2
        have hl := hg (st + a) (by omega) (by omega)
        have hr := hg (mi + b) (by omega) (by omega)
        have hlr := hlt (st + a) (mi + b) (by omega) (by omega) (by omega) (by omega)
        refine ⟨st + a, by omega, rfl, g (st + a), hl.2, hl.1, mi + b, by omega, rfl, g (mi + b), hr.2, hr.1, fun c3 => TR (by omega) ?_, fun c3 => TL (by omega) ?_⟩
        · rw [seg_drop (a := st) (b := mi) (i := a) (by omega), seg_drop (a := mi) (b := en) (i := b) (by omega)]
          rw [List.cons_merge_cons_neg]
          rw [leS_iff, i64_lt, i64_eq]
          rw [i64_lt] at c3
          omega
        · rw [seg_drop (a := st) (b := mi) (i := a) (by omega), seg_drop (a := mi) (b := en) (i := b) (by omega)]
          rw [List.cons_merge_cons_pos]
          rw [leS_iff, i64_lt, i64_eq]
          rw [i64_lt] at c3
          omega
  have := L (en - st) 0 0 mrg (by omega) (by omega) (by omega) (by rw [← hM]; rfl) (fun _ _ => rfl) (fun t ht => by omega)
  exact this
