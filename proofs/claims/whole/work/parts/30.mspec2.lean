/-- levels are 0 to 2, and a root stands last -/
def wfL (lv : Nat → Int32) (n : Nat) : Prop := (∀ i, i < n → lv i = 0 ∨ lv i = 1 ∨ lv i = 2) ∧ (0 < n → lv (n - 1) = 2)
theorem wfL.ti {lv : Nat → Int32} {n i : Nat} (h : wfL lv n) (hi : i < n) : 0 ≤ (lv i).toInt ∧ (lv i).toInt ≤ 2 := by
  rcases h.1 i hi with e | e | e
  · rw [e, i32_0]; omega
  · rw [e, i32_1]; omega
  · rw [e, i32_2]; omega
theorem lv2 {x : Int32} : x = 2 ↔ x.toInt = 2 := ⟨fun h => by rw [h]; exact i32_2, fun h => Int32.toInt_inj.mp (by rw [h, i32_2])⟩
/-- the parent's place -/
def prn (lv : Nat → Int32) (n i : Nat) : Nat := ffr (fun j => decide (¬ lv j ≤ lv i)) (n - (i + 1)) (i + 1)
theorem prn_lt {lv : Nat → Int32} {n i : Nat} (h : wfL lv n) (hi : i < n) (h2 : ¬ lv i = 2) : prn lv n i < n ∧ i < prn lv n i ∧ ¬ lv (prn lv n i) ≤ lv i ∧ ∀ j, i < j → j < prn lv n i → lv j ≤ lv i := by
  have hl := ffr_le (fun j => decide (¬ lv j ≤ lv i)) (n - (i + 1)) (i + 1)
  have hno : ∀ j, i < j → j < prn lv n i → lv j ≤ lv i := fun j h3 h4 => by
    have := ffr_no (P := fun j => decide (¬ lv j ≤ lv i)) (d := n - (i + 1)) (i := i + 1) (j := j) (by omega) h4
    simpa using this
  have hlast := h.2 (by omega)
  have hti := h.ti hi
  have hlt : prn lv n i < n := by
    rcases Nat.lt_or_ge (prn lv n i) n with z | z
    · exact z
    · exfalso
      have hin : i < n - 1 := by
        rcases Nat.lt_or_ge i (n - 1) with y | y
        · exact y
        · exact absurd (by rw [show i = n - 1 by omega]; exact hlast) h2
      have := hno (n - 1) hin (by omega)
      rw [hlast, i32_le, i32_2] at this
      rw [lv2] at h2
      omega
  refine ⟨hlt, by unfold prn; omega, ?_, hno⟩
  have := ffr_yes (P := fun j => decide (¬ lv j ≤ lv i)) (d := n - (i + 1)) (i := i + 1) (by unfold prn at hlt; omega)
  rw [decide_eq_true_eq] at this
  exact this
theorem mp_parent {lv : Nat → Int32} {n i : Nat} {Q : Int32 → Prop} (hw : wfL lv n) (hn : n ≤ 200) (hi : i < n) (h3 : lv i = 2 → Q (-3)) (h : ¬ lv i = 2 → Q (nI (prn lv n i))) : call_X4_parent (nI i) lv Q := by
  intro X17 h17
  refine ⟨i, by omega, rfl, fun c => ?_, h3⟩
  obtain ⟨p1, p2, p3, p4⟩ := prn_lt hw hi c
  rw [nI_1]
  have L : ∀ d j, j + d = prn lv n i → i < j → X17 (nI j) := by
    intro d
    induction d with
    | zero =>
      intro j hj _
      obtain rfl : j = prn lv n i := by omega
      refine h17 _ ⟨_, by omega, rfl, i, by omega, rfl, fun _ => h c, fun q => ?_⟩
      rw [i32_lt] at q; rw [i32_le] at p3; omega
    | succ d ih =>
      intro j hj hij
      have := p4 j hij (by omega)
      refine h17 _ ⟨_, by omega, rfl, i, by omega, rfl, fun q => ?_, fun q => ?_⟩
      · rw [i32_lt] at q; rw [i32_le] at this; omega
      · rw [nI_1]; exact ih (j + 1) (by omega) (by omega)
  exact L (prn lv n i - (i + 1)) (i + 1) (by omega) (by omega)
def isBb (lv : Nat → Int32) (i a : Nat) : Bool := decide (fb lv a ≤ i) && decide (i < a)
theorem isBb_iff {lv : Nat → Int32} {i a : Nat} : isBb lv i a = true ↔ isB lv i a := by
  rw [← fb_iff]; simp [isBb]
/-- above i: its parent, the parent of that, and on -/
theorem isB_par {lv : Nat → Int32} {n i k : Nat} (hw : wfL lv n) (hk : k < n) (h2 : ¬ lv k = 2) (hik : i ≤ k) (ha : ∀ j, i ≤ j → j < k → ¬ lv k ≤ lv j) : isB lv i (prn lv n k) := by
  obtain ⟨p1, p2, p3, p4⟩ := prn_lt hw hk h2
  refine ⟨by omega, fun j h3 h4 => ?_⟩
  rcases Nat.lt_trichotomy j k with z | z | z
  · have := ha j h3 z
    rw [i32_le] at *; omega
  · rw [z]; exact p3
  · have := p4 j z h4
    rw [i32_le] at *; omega
theorem isB_next {lv : Nat → Int32} {n i k a : Nat} (hw : wfL lv n) (hk : k < n) (h2 : ¬ lv k = 2) (hik : i ≤ k) (hka : k < a) (ha : isB lv i a) : prn lv n k ≤ a := by
  obtain ⟨p1, p2, p3, p4⟩ := prn_lt hw hk h2
  rcases Nat.lt_or_ge a (prn lv n k) with z | z
  · exact absurd (p4 a hka z) (ha.2 k hik hka)
  · exact z
theorem isB_top {lv : Nat → Int32} {n i k a : Nat} (hw : wfL lv n) (hn : a < n) (h2 : lv k = 2) (hik : i ≤ k) (hka : k < a) : ¬ isB lv i a := fun ha => by
  have h3 := ha.2 k hik hka
  have := hw.ti hn
  rw [h2, i32_le, i32_2] at h3; omega
theorem mp_isAbove {lv : Nat → Int32} {n i a : Nat} {Q : Bool → Prop} (hw : wfL lv n) (hn : n ≤ 200) (hi : i < n) (ha : a < n) (h : Q (isBb lv i a)) : call_X4_isAbove (nI a) (nI i) lv Q := by
  intro X6 X24 X34 h6 h24 h34
  have m3 : ∀ j : Nat, j < n → ¬ (-3 : Int32) = nI j := fun j hj e => by
    have h1 := congrArg Int32.toInt e
    rw [nI_toInt (by omega)] at h1
    have : (-3 : Int32).toInt = -3 := by decide
    omega
  have out : ¬ isB lv i a → X6 (-3) := fun q => by
    refine h6 _ ⟨fun _ => h24 _ ⟨fun _ => h34 _ ?_, fun c => absurd c (m3 a ha)⟩, fun c => absurd (by decide) c⟩
    have : isBb lv i a = false := by
      rw [← Bool.not_eq_true, isBb_iff]; exact q
    rw [this] at h; exact h
  have L : ∀ d k, k + d = n → isB lv i k → (isB lv i a → k ≤ a) → k < n → X6 (nI k) := by
    intro d
    induction d using Nat.strongRecOn with
    | ind d ih =>
      intro k hk hb hka hkn
      refine h6 _ ⟨fun c => absurd c (nI_pos (by omega)), fun _ => ⟨fun c => h24 _ ⟨fun q => absurd c q, fun _ => h34 _ ?_⟩, fun c => mp_parent hw hn hkn (fun q => ?_) (fun q => ?_)⟩⟩
      · rw [nI_eq (by omega) (by omega)] at c
        subst c
        rw [isBb_iff.mpr hb] at h; exact h
      · rw [nI_eq (by omega) (by omega)] at c
        exact out (fun z => isB_top hw ha q (Nat.le_of_lt hb.1) (by have := hka z; omega) z)
      · rw [nI_eq (by omega) (by omega)] at c
        obtain ⟨p1, p2, p3, p4⟩ := prn_lt hw hkn q
        refine ih (n - prn lv n k) (by omega) _ (by omega) (isB_par hw hkn q (Nat.le_of_lt hb.1) hb.2) (fun z => isB_next hw hkn q (Nat.le_of_lt hb.1) (by have := hka z; omega) z) p1
  refine mp_parent hw hn hi (fun q => out (fun z => isB_top hw ha q (Nat.le_refl i) z.1 z)) (fun q => ?_)
  obtain ⟨p1, p2, p3, p4⟩ := prn_lt hw hi q
  exact L (n - prn lv n i) _ (by omega) (isB_par hw hi q (Nat.le_refl i) (fun j h1 h2 => by omega)) (fun z => isB_next hw hi q (Nat.le_refl i) z.1 z) p1
theorem cnt_rng {a b n : Nat} (hb : b ≤ n) : cnt (fun i => decide (a ≤ i) && decide (i < b)) n = b - a := by
  rw [cnt_ext hb (fun i h1 h2 => by simp; omega)]
  induction b with
  | zero => simp [cnt]
  | succ b ih =>
    simp only [cnt]
    rw [cnt_congr (R := fun i => decide (a ≤ i) && decide (i < b)) (fun i hi => by rw [show decide (i < b + 1) = decide (i < b) from decide_eq_decide.mpr (by omega)]), ih (by omega)]
    by_cases c : a ≤ b
    · rw [if_pos (by simp [c])]; omega
    · rw [if_neg (by simp [c])]; omega
theorem b2i_add (c : Nat) (b : Bool) : nI c + b2i b = nI (c + (if b then 1 else 0)) := by
  cases b
  · show nI c + nI 0 = _; rw [nI_add]; rfl
  · show nI c + nI 1 = _; rw [nI_add]; rfl
theorem mp_belowOf {lv : Nat → Int32} {n a : Nat} {Q : Int32 → Prop} (hw : wfL lv n) (hn : n ≤ 200) (ha : a < n) (h : Q (nI (a - fb lv a))) : call_X4_belowOf (nI a) (nI n) lv Q := by
  intro X4 X27 h4 h27
  have L : ∀ d i, i + d = n → X4 (nI (cnt (fun i => isBb lv i a) i)) (nI i) := by
    intro d
    induction d with
    | zero =>
      intro i hi
      obtain rfl : i = n := by omega
      refine h4 _ _ ⟨fun _ => ?_, fun q => absurd (nI_le (Nat.le_refl i) (by omega)) q⟩
      have := cnt_rng (a := fb lv a) (b := a) (n := i) (by omega)
      unfold isBb; rw [this]; exact h
    | succ d ih =>
      intro i hi
      have this := ih (i + 1) (by omega)
      simp only [cnt] at this
      refine h4 _ _ ⟨fun q => absurd q (nI_ge (by omega) (by omega)), fun _ => mp_isAbove hw hn (by omega) ha ⟨fun q => h27 _ _ _ ?_, fun q => h27 _ _ _ ?_⟩⟩
      · rw [b2i_add, nI_1]; simpa [q] using this
      · rw [b2i_add, nI_1]; simpa [q] using this
  exact L n 0 (by omega)
theorem mp_object {n : Nat} {p k thr : Int32} {lv va tg lk ky : Nat → Int32} {al : Nat → Bool} {Q : Int32 → Int32 → Prop} (hw : wfL lv n) (hn : n ≤ 200) (hf : (∀ j, j < n → ¬ p = nI j) → Q (-1) 0) (h : ∀ j, j < n → p = nI j → Q (obj k n j lv va tg lk ky al) 0) : call_X4_object p k thr (nI n) lv va tg lk ky al Q := by
  intro X113 X134 h113 h134
  refine mp_isObject (by omega) (fun j hj e => ⟨fun _ => ?_, fun z => absurd z (by decide)⟩) (fun q => ⟨fun z => absurd z (by decide), fun _ => hf q⟩)
  have hq := h j hj e
  subst e
  have j2 : j < 261 := by omega
  refine ⟨fun c => ⟨j, j2, rfl, ?_⟩, fun c => ⟨j, j2, rfl, ?_⟩, fun c => ⟨j, j2, rfl, ?_⟩, fun c => ⟨j, j2, rfl, ?_⟩, fun c => ⟨j, j2, rfl, fun c2 => h113 _ _ ?_, fun c2 => ⟨j, j2, rfl, h113 _ _ ?_⟩⟩, fun c => mp_parent hw hn hj (fun c2 => ?_) (fun c2 => ?_), fun c => ⟨j, j2, rfl, fun c2 => h134 _ _ ?_, fun c2 => h134 _ _ ?_⟩, fun c => mp_belowOf hw hn hj ?_, fun c0 c1 c2 c3 c4 c5 c6 c7 => ?_⟩
  · subst c; exact hq
  · subst c; exact hq
  · subst c; exact hq
  · subst c; exact hq
  · subst c
    have hq : Q (if lv j = 2 then ky j else -3) 0 := hq
    rw [if_neg c2] at hq; exact hq
  · subst c
    have hq : Q (if lv j = 2 then ky j else -3) 0 := hq
    rw [if_pos c2] at hq; exact hq
  · subst c
    have hq : Q (if lv j = 2 then -3 else orM (ffr (fun i => decide (¬ lv i ≤ lv j)) (n - (j + 1)) (j + 1)) n) 0 := hq
    rw [if_pos c2] at hq; exact hq
  · subst c
    have hq : Q (if lv j = 2 then -3 else orM (prn lv n j) n) 0 := hq
    rw [if_neg c2, orM_lt (prn_lt hw hj c2).1] at hq; exact hq
  · subst c
    have hq : Q (b2i (al j)) 0 := hq
    rw [c2] at hq; exact hq
  · subst c
    have hq : Q (b2i (al j)) 0 := hq
    rw [c2] at hq; exact hq
  · subst c; exact hq
  · unfold obj at hq
    rw [if_neg c0, if_neg c1, if_neg c2, if_neg c3, if_neg c4, if_neg c5, if_neg c6, if_neg c7] at hq; exact hq
theorem wB04 {k : Int32} : wB k 0 4 = true ↔ (k = 0 ∨ k = 1 ∨ k = 2 ∨ k = 3 ∨ k = 4) := by
  constructor
  · intro h
    simp only [wB, Bool.and_eq_true, decide_eq_true_eq] at h
    obtain ⟨j, hj, rfl⟩ := nI_of h.1
    have h2 := h.2
    rw [show (4 : Int32) = nI 4 from rfl, nI_ltI (by decide) hj] at h2
    have : j = 0 ∨ j = 1 ∨ j = 2 ∨ j = 3 ∨ j = 4 := by omega
    rcases this with rfl | rfl | rfl | rfl | rfl
    · exact Or.inl rfl
    · exact Or.inr (Or.inl rfl)
    · exact Or.inr (Or.inr (Or.inl rfl))
    · exact Or.inr (Or.inr (Or.inr (Or.inl rfl)))
    · exact Or.inr (Or.inr (Or.inr (Or.inr rfl)))
  · rintro (rfl | rfl | rfl | rfl | rfl) <;> decide
theorem mp_count {n o d : Nat} {k thr : Int32} {lv : Nat → Int32} {al : Nat → Bool} {Q : Int32 → Int32 → Prop} (hn : n ≤ 200)
    (h : Q (if k = 0 then nI n else if k = 1 then nI (cnt al n) else if k = 2 then nI (cnt (fun i => al i && decide (lv i = 2)) n) else if k = 3 then nI o else if k = 4 then nI d else -2) 0) : call_X4_count k thr (nI n) (nI o) (nI d) lv al Q := by
  intro X24 X49 X77 X78 X131 h24 h49 h77 h78 h131
  refine mp_isIn ⟨fun c => ?_, fun c => ?_⟩
  · have L : ∀ e i, i + e = n → X24 (nI (cnt al i)) (nI (cnt (fun i => al i && decide (lv i = 2)) i)) (nI i) 0 := by
      intro e
      induction e with
      | zero =>
        intro i hi
        obtain rfl : i = n := by omega
        refine h24 _ _ _ _ ⟨fun _ => ⟨fun c0 => ⟨fun c1 => ⟨fun c2 => ⟨fun c3 => h131 _ _ ?_, fun c3 => h131 _ _ ?_⟩, fun c2 => h131 _ _ ?_⟩, fun c1 => h131 _ _ ?_⟩, fun c0 => h131 _ _ ?_⟩, fun q => absurd (nI_le (Nat.le_refl i) (by omega)) q⟩
        · have c4 : k = 4 := by rcases wB04.mp c with z | z | z | z | z <;> first | exact z | exact absurd z ‹_›
          subst c4; exact h
        · subst c3; exact h
        · subst c2; exact h
        · subst c1; exact h
        · subst c0; exact h
      | succ e ih =>
        intro i hi
        have this := ih (i + 1) (by omega)
        simp only [cnt] at this
        have i2 : i < 261 := by omega
        refine h24 _ _ _ _ ⟨fun q => absurd q (nI_ge (by omega) (by omega)), fun _ => ⟨i, i2, rfl, fun q => h49 _ _ _ _ _ ⟨i, i2, rfl, fun q2 => h77 _ _ _ _ (h78 _ _ _ _ _ ?_), fun q2 => absurd (q.symm.trans q2) (by decide)⟩, fun q => h49 _ _ _ _ _ ⟨i, i2, rfl, fun q2 => absurd (q.symm.trans q2) (by decide), fun _ => ⟨i, i2, rfl, fun q2 => h77 _ _ _ _ (h78 _ _ _ _ _ ?_), fun q2 => h78 _ _ _ _ _ ?_⟩⟩⟩⟩
        · rw [b2i_add, b2i_add, nI_1]; simpa [q] using this
        · rw [b2i_add, b2i_add, nI_1]; simpa [q, q2] using this
        · rw [b2i_add, b2i_add, nI_1]; simpa [q, q2] using this
    exact L n 0 (by omega)
  · have c' : ¬ wB k 0 4 = true := by rw [c]; decide
    rw [wB04] at c'
    rw [if_neg (fun z => c' (Or.inl z)), if_neg (fun z => c' (Or.inr (Or.inl z))), if_neg (fun z => c' (Or.inr (Or.inr (Or.inl z)))), if_neg (fun z => c' (Or.inr (Or.inr (Or.inr (Or.inl z))))), if_neg (fun z => c' (Or.inr (Or.inr (Or.inr (Or.inr z)))))] at h
    exact h
theorem mp_root {n : Nat} {key thr : Int32} {lv ky : Nat → Int32} {al : Nat → Bool} {Q : Int32 → Int32 → Prop} (hn : n ≤ 200) (h : Q (orM (ffr (lrP al lv ky key) n 0) n) 0) : call_X4_root key thr (nI n) lv ky al Q := mp_rootOf hn h
theorem mp_sizeOf {s n : Nat} {inn : Nat → Bool} {Q : Int32 → Prop} (hs : s < 9) (hn : n ≤ 200) (h : Q (nI (cnt (fun i => inn (200 * s + i)) n))) : call_X4_sizeOf (nI s) (nI n) inn Q := by
  intro X4 X33 h4 h33
  have L : ∀ d i, i + d = n → X4 (nI (cnt (fun i => inn (200 * s + i)) i)) (nI i) := by
    intro d
    induction d with
    | zero =>
      intro i hi
      obtain rfl : i = n := by omega
      exact h4 _ _ ⟨fun _ => h, fun q => absurd (nI_le (Nat.le_refl i) (by omega)) q⟩
    | succ d ih =>
      intro i hi
      have this := ih (i + 1) (by omega)
      simp only [cnt] at this
      refine h4 _ _ ⟨fun q => absurd q (nI_ge (by omega) (by omega)), fun _ => ⟨200 * s + i, by omega, ix200 s i, fun q => h33 _ _ _ ?_, fun q => h33 _ _ _ ?_⟩⟩
      · rw [b2i_add, nI_1]; simpa [q] using this
      · rw [b2i_add, nI_1]; simpa [q] using this
  exact L n 0 (by omega)
theorem mp_mayBeFound {k a b : Int32} {Q : Bool → Prop} (h : Q (cbf k a b)) : call_X4_mayBeFound k a b Q := by
  intro X81 X82 h81 h82
  refine ⟨fun c => ?_, fun c => mp_isIn ?_, fun c => mp_isIn ⟨fun c2 => h81 (h82 _ ?_), fun c2 => mp_isIn ⟨fun c3 => h81 (h82 _ ?_), fun c3 => h82 _ ?_⟩⟩, fun c => mp_isIn ?_, fun c => mp_isIn ?_, fun c => mp_isIn ?_, fun c0 c1 c2 c3 c4 c5 => ?_⟩
  · subst c; exact h
  · subst c; exact h
  · subst c; simpa [cbf, c2] using h
  · subst c; simpa [cbf, c2, c3] using h
  · subst c; simpa [cbf, c2, c3] using h
  · subst c; exact h
  · subst c; exact h
  · subst c; exact h
  · simpa [cbf, c0, c1, c2, c3, c4, c5] using h
theorem cbf_k {k a b : Int32} (h : cbf k a b = true) : k = 0 ∨ k = 1 ∨ k = 2 ∨ k = 3 ∨ k = 4 ∨ k = 5 := by
  unfold cbf at h
  by_cases c0 : k = 0
  · exact Or.inl c0
  · by_cases c1 : k = 1
    · exact Or.inr (Or.inl c1)
    · by_cases c2 : k = 2
      · exact Or.inr (Or.inr (Or.inl c2))
      · by_cases c3 : k = 3
        · exact Or.inr (Or.inr (Or.inr (Or.inl c3)))
        · by_cases c4 : k = 4
          · exact Or.inr (Or.inr (Or.inr (Or.inr (Or.inl c4))))
          · by_cases c5 : k = 5
            · exact Or.inr (Or.inr (Or.inr (Or.inr (Or.inr c5))))
            · rw [if_neg c0, if_neg c1, if_neg c2, if_neg c3, if_neg c4, if_neg c5] at h
              exact absurd h (by decide)
theorem mp_isFound {i : Nat} {k a b : Int32} {lv va tg lk ky : Nat → Int32} {Q : Bool → Prop} (hi : i < 200) (hk : k = 0 ∨ k = 1 ∨ k = 2 ∨ k = 3 ∨ k = 4 ∨ k = 5) (h : Q (fnd k a b (lv i) (va i) (tg i) (lk i) (ky i))) : call_X4_isFound (nI i) k a b lv va tg lk ky Q := by
  intro X55 X84 X109 X110 X126 h55 h84 h109 h110 h126
  have i2 : i < 261 := by omega
  refine ⟨fun c => ?_, fun c => ⟨i, i2, rfl, fun c2 => h55 _ ?_, fun c2 => h55 _ ?_⟩, fun c => ⟨i, i2, rfl, mp_isIn ?_⟩, fun c => ⟨i, i2, rfl, fun c2 => h84 _ ?_, fun c2 => h84 _ ?_⟩, fun c => ⟨i, i2, rfl, fun c2 => h109 (h110 _ ?_), fun c2 => ⟨i, i2, rfl, fun c3 => h109 (h110 _ ?_), fun c3 => h110 _ ?_⟩⟩, fun c0 c1 c2 c3 c4 => ⟨i, i2, rfl, fun c5 => h126 _ ?_, fun c5 => h126 _ ?_⟩⟩
  · subst c; exact h
  · subst c; simpa [fnd, c2] using h
  · subst c; simpa [fnd, c2] using h
  · subst c; exact h
  · subst c; simpa [fnd, c2] using h
  · subst c; simpa [fnd, c2] using h
  · subst c; simpa [fnd, c2] using h
  · subst c; simpa [fnd, c2, c3] using h
  · subst c; simpa [fnd, c2, c3] using h
  · have c6 : k = 5 := by rcases hk with z | z | z | z | z | z <;> first | exact z | exact absurd z ‹_›
    subst c6; simpa [fnd, c5] using h
  · have c6 : k = 5 := by rcases hk with z | z | z | z | z | z <;> first | exact z | exact absurd z ‹_›
    subst c6; simpa [fnd, c5] using h
/-- the bits one by one -/
def btI (a : Int32) : Nat → Int32
  | 0 => 0
  | n + 1 => btI a n + ((a >>> (nI n &&& 31)) &&& 1)
theorem bt_bc : ∀ j : Fin 256, btI (nI j.val) 8 = bcI (nI j.val) := by decide +kernel
theorem mp_bits {a : Int32} {Q : Int32 → Prop} (h : Q (btI a 8)) : call_X4_bits a Q := by
  intro X4 h4
  have L : ∀ d i, i + d = 8 → X4 (btI a i) (nI i) := by
    intro d
    induction d with
    | zero =>
      intro i hi
      obtain rfl : i = 8 := by omega
      exact h4 _ _ ⟨fun _ => h, fun q => absurd (by decide) q⟩
    | succ d ih =>
      intro i hi
      refine h4 _ _ ⟨fun q => ?_, fun _ => ?_⟩
      · rw [nI8, nI_leI (by decide) (by omega)] at q; omega
      · rw [nI_1]; exact ih (i + 1) (by omega)
  exact L 8 0 (by omega)
theorem bits_eq {k a b : Int32} (h : cbf k a b = true) (hk : k = 1) : btI a 8 = bcI a := by
  subst hk
  have h : wB a 0 255 = true := h
  simp only [wB, Bool.and_eq_true, decide_eq_true_eq] at h
  obtain ⟨j, hj, rfl⟩ := nI_of h.1
  have h2 := h.2
  rw [show (255 : Int32) = nI 255 from rfl, nI_ltI (by decide) hj] at h2
  exact bt_bc ⟨j, by omega⟩
