/-! what the rows' methods do -/
theorem sp_holds {n : Nat} {p1 : Int32} {Q : Bool → Prop} (hn : n < 2 ^ 31) (ht : ∀ j, j < n → p1 = nI j → Q true) (hf : (∀ j, j < n → ¬ p1 = nI j) → Q false) : call_X1_holds p1 (nI n) Q := by
  intro X16 X17 h16 h17
  rcases pk_ix p1 hn with h | h | ⟨j, hj, rfl⟩
  · refine ⟨fun _ => h16 (h17 _ (hf fun j hj e => ?_)), fun c => absurd h c⟩
    rw [e] at h; exact nI_pos (by omega) h
  · refine ⟨fun c => ?_, fun _ => ⟨fun _ => h16 (h17 _ (hf fun j hj e => ?_)), fun c => absurd h c⟩⟩
    · have := Int32.lt_iff_toInt_lt.mp c
      have h2 := Int32.le_iff_toInt_le.mp h
      rw [nI_toInt hn] at h2
      have : (0 : Int32).toInt = 0 := by decide
      omega
    · rw [e, nI_leI hn (by omega)] at h; omega
  · refine ⟨fun c => absurd c (nI_pos (by omega)), fun _ => ⟨fun c => ?_, fun _ => h17 _ (ht j hj rfl)⟩⟩
    rw [nI_leI hn (by omega)] at c; omega
theorem sp_isRoot {k j : Nat} {lv : Nat → Int32} {Q : Bool → Prop} (hj : j < k) (h : Q (decide (lv j = 2))) : call_X1_isRoot k (nI j) lv Q := by
  intro X h15
  refine ⟨j, hj, rfl, fun c => h15 _ ?_, fun c => h15 _ ?_⟩
  · rw [decide_eq_false c] at h; exact h
  · rw [decide_eq_true c] at h; exact h
theorem sp_append {k n : Nat} {a1 a2 a3 a4 a5 : Int32} {lv va tg lk ky : Nat → Int32} {al : Nat → Bool} {Q : Int32 → (Nat → Int32) → (Nat → Int32) → (Nat → Int32) → (Nat → Int32) → (Nat → Int32) → (Nat → Bool) → Prop} (hn : n < k)
    (h : Q (nI (n + 1)) (va_up lv n a1) (va_up va n a2) (va_up tg n a3) (va_up lk n a4) (va_up ky n a5) (va_up al n true)) : call_X1_append k a1 a2 a3 a4 a5 (nI n) lv va tg lk ky al Q := by
  refine ⟨n, hn, rfl, n, hn, rfl, n, hn, rfl, n, hn, rfl, n, hn, rfl, n, hn, rfl, ?_⟩
  rw [nI_1]; exact h
theorem sp_appendFrom {k k1 n j : Nat} {lv va tg lk ky lv1 va1 tg1 lk1 ky1 : Nat → Int32} {al : Nat → Bool} {Q : Int32 → (Nat → Int32) → (Nat → Int32) → (Nat → Int32) → (Nat → Int32) → (Nat → Int32) → (Nat → Bool) → Prop} (hn : n < k) (hj : j < k1)
    (h : Q (nI (n + 1)) (va_up lv n (lv1 j)) (va_up va n (va1 j)) (va_up tg n (tg1 j)) (va_up lk n (lk1 j)) (va_up ky n (ky1 j)) (va_up al n true)) : call_X1_appendFrom k k1 (nI j) (nI n) lv va tg lk ky al lv1 va1 tg1 lk1 ky1 Q :=
  ⟨j, hj, rfl, j, hj, rfl, j, hj, rfl, j, hj, rfl, j, hj, rfl, sp_append hn h⟩
theorem sp_appendFromS {k n j : Nat} {lv va tg lk ky : Nat → Int32} {al : Nat → Bool} {Q : Int32 → (Nat → Int32) → (Nat → Int32) → (Nat → Int32) → (Nat → Int32) → (Nat → Int32) → (Nat → Bool) → Prop} (hn : n < k) (hj : j < k)
    (h : Q (nI (n + 1)) (va_up lv n (lv j)) (va_up va n (va j)) (va_up tg n (tg j)) (va_up lk n (lk j)) (va_up ky n (ky j)) (va_up al n true)) : call_X1_appendFromS k (nI j) (nI n) lv va tg lk ky al Q :=
  ⟨j, hj, rfl, j, hj, rfl, j, hj, rfl, j, hj, rfl, j, hj, rfl, sp_append hn h⟩
/-- f, with m of g behind its first n -/
def apd {α : Type} (f : Nat → α) (n m : Nat) (g : Nat → α) : Nat → α := fun i => if n ≤ i ∧ i < n + m then g (i - n) else f i
theorem apd_0 {α : Type} (f : Nat → α) (n : Nat) (g : Nat → α) : apd f n 0 g = f := by
  funext i; exact if_neg (by omega)
theorem apd_s {α : Type} (f : Nat → α) (n m : Nat) (g : Nat → α) : va_up (apd f n m g) (n + m) (g m) = apd f n (m + 1) g := by
  funext i
  by_cases e : i = n + m
  · subst e
    rw [uu_s]; unfold apd; rw [if_pos (by omega), show n + m - n = m by omega]
  · rw [uu_n e]; unfold apd
    by_cases c : n ≤ i ∧ i < n + m
    · rw [if_pos c, if_pos (by omega)]
    · rw [if_neg c, if_neg (by omega)]
theorem apd_lo {α : Type} {f : Nat → α} {n m : Nat} {g : Nat → α} {i : Nat} (h : i < n) : apd f n m g i = f i := if_neg (by omega)
theorem apd_hi {α : Type} {f : Nat → α} {n m : Nat} {g : Nat → α} {i : Nat} (h : i < m) : apd f n m g (n + i) = g i := by
  unfold apd; rw [if_pos (by omega), show n + i - n = i by omega]
theorem sp_appendAll {k k1 n m : Nat} {lv va tg lk ky lv1 va1 tg1 lk1 ky1 : Nat → Int32} {al : Nat → Bool} {Q : Int32 → (Nat → Int32) → (Nat → Int32) → (Nat → Int32) → (Nat → Int32) → (Nat → Int32) → (Nat → Bool) → Prop} (hn : n + m ≤ k) (hm : m ≤ k1) (hk1 : k1 < 2 ^ 31)
    (h : Q (nI (n + m)) (apd lv n m lv1) (apd va n m va1) (apd tg n m tg1) (apd lk n m lk1) (apd ky n m ky1) (apd al n m (fun _ => true))) : call_X1_appendAll k k1 (nI n) lv va tg lk ky al (nI m) lv1 va1 tg1 lk1 ky1 Q := by
  intro X2 h2
  have L : ∀ d i, i + d = m → X2 (nI i) (nI (n + i)) (apd lv n i lv1) (apd va n i va1) (apd tg n i tg1) (apd lk n i lk1) (apd ky n i ky1) (apd al n i (fun _ => true)) := by
    intro d
    induction d with
    | zero =>
      intro i hi
      obtain rfl : i = m := by omega
      exact h2 _ _ _ _ _ _ _ _ ⟨fun _ => h, fun c => absurd (nI_le (Nat.le_refl i) (by omega)) c⟩
    | succ d ih =>
      intro i hi
      refine h2 _ _ _ _ _ _ _ _ ⟨fun c => absurd c (nI_ge (by omega) (by omega)), fun _ => ?_⟩
      refine sp_appendFrom (by omega) (by omega) ?_
      have := ih (i + 1) (by omega)
      rw [← apd_s, ← apd_s, ← apd_s, ← apd_s, ← apd_s, ← apd_s] at this
      rw [nI_1]
      exact this
  have := L m 0 (by omega)
  rw [apd_0, apd_0, apd_0, apd_0, apd_0, apd_0] at this
  exact this
/-- the living put together: after i of them have been looked at -/
def kpF {α : Type} (al : Nat → Bool) (f : Nat → α) : Nat → Nat → α
  | 0 => f
  | i + 1 => if al i then va_up (kpF al f i) (cnt al i) (kpF al f i i) else kpF al f i
def kpT (al : Nat → Bool) : Nat → Nat → Bool
  | 0 => al
  | i + 1 => if al i then va_up (kpT al i) (cnt al i) true else kpT al i
theorem kpF_hi {α : Type} {al : Nat → Bool} {f : Nat → α} {i j : Nat} (h : i ≤ j) : kpF al f i j = f j := by
  induction i with
  | zero => rfl
  | succ i ih =>
    simp only [kpF]
    split
    · rw [uu_n (by have := cnt_le al i; omega), ih (by omega)]
    · exact ih (by omega)
theorem kpT_hi {al : Nat → Bool} {i j : Nat} (h : i ≤ j) : kpT al i j = al j := by
  induction i with
  | zero => rfl
  | succ i ih =>
    simp only [kpT]
    split
    · rw [uu_n (by have := cnt_le al i; omega), ih (by omega)]
    · exact ih (by omega)
/-- each place of what is kept comes from a living place, the same one in every row -/
theorem kp_from {al : Nat → Bool} {n j : Nat} (h : j < cnt al n) : ∃ i, j ≤ i ∧ i < n ∧ al i = true ∧ cnt al i = j ∧ (∀ f : Nat → Int32, kpF al f n j = f i) ∧ kpT al n j = true := by
  induction n with
  | zero => simp only [cnt] at h; omega
  | succ n ih =>
    by_cases c : al n = true
    · by_cases e : j = cnt al n
      · refine ⟨n, by have := cnt_le al n; omega, by omega, c, e.symm, fun f => ?_, ?_⟩
        · simp only [kpF]; rw [if_pos c, e, uu_s, kpF_hi (Nat.le_refl n)]
        · simp only [kpT]; rw [if_pos c, e, uu_s]
      · simp only [cnt, c, if_true] at h
        obtain ⟨i, h1, h2, h3, h4, h5, h6⟩ := ih (by omega)
        refine ⟨i, h1, by omega, h3, h4, fun f => ?_, ?_⟩
        · simp only [kpF]; rw [if_pos c, uu_n e, h5]
        · simp only [kpT]; rw [if_pos c, uu_n e, h6]
    · simp only [cnt, c] at h
      obtain ⟨i, h1, h2, h3, h4, h5, h6⟩ := ih (by simpa using h)
      refine ⟨i, h1, by omega, h3, h4, fun f => ?_, ?_⟩
      · simp only [kpF]; rw [if_neg c, h5]
      · simp only [kpT]; rw [if_neg c, h6]
theorem sp_keepLiving {k n : Nat} {lv va tg lk ky : Nat → Int32} {al : Nat → Bool} {Q : Int32 → (Nat → Int32) → (Nat → Int32) → (Nat → Int32) → (Nat → Int32) → (Nat → Int32) → (Nat → Bool) → Prop} (hn : n ≤ k) (hk : k < 2 ^ 31)
    (h : Q (nI (cnt al n)) (kpF al lv n) (kpF al va n) (kpF al tg n) (kpF al lk n) (kpF al ky n) (kpT al n)) : call_X1_keepLiving k (nI n) lv va tg lk ky al Q := by
  intro X12 X32 h12 h32
  have L : ∀ d i, i + d = n → X12 (nI n) (nI i) (nI (cnt al i)) (kpF al lv i) (kpF al va i) (kpF al tg i) (kpF al lk i) (kpF al ky i) (kpT al i) := by
    intro d
    induction d with
    | zero =>
      intro i hi
      obtain rfl : i = n := by omega
      exact h12 _ _ _ _ _ _ _ _ _ ⟨fun _ => h, fun c => absurd (nI_le (Nat.le_refl i) (by omega)) c⟩
    | succ d ih =>
      intro i hi
      have hc := cnt_le al i
      refine h12 _ _ _ _ _ _ _ _ _ ⟨fun c => absurd c (nI_ge (by omega) (by omega)), fun _ => ⟨i, by omega, rfl, fun c => ?_, fun c => ?_⟩⟩
      · rw [kpT_hi (Nat.le_refl i)] at c
        refine h32 _ _ _ _ _ _ _ _ _ ?_
        have := ih (i + 1) (by omega)
        simp only [kpF, kpT, cnt, c] at this
        rw [nI_1]
        exact this
      · rw [kpT_hi (Nat.le_refl i)] at c
        refine sp_appendFromS (by omega) (by omega) ?_
        refine h32 _ _ _ _ _ _ _ _ _ ?_
        have := ih (i + 1) (by omega)
        simp only [kpF, kpT, cnt, c] at this
        rw [nI_1]
        exact this
  exact L n 0 (by omega)
/-- a living root of a key -/
def lrP (al : Nat → Bool) (lv ky : Nat → Int32) (key : Int32) : Nat → Bool := fun i => al i && (decide (lv i = 2) && decide (ky i = key))
theorem sp_livingRoot {k n : Nat} {key : Int32} {lv ky : Nat → Int32} {al : Nat → Bool} {Q : Int32 → Prop} (hn : n ≤ k) (hk : k < 2 ^ 31) (h : Q (orM (ffr (lrP al lv ky key) n 0) n)) : call_X1_livingRoot k key (nI n) lv ky al Q := by
  intro X2 X39 h2 h39
  have L : ∀ d i, i + d = n → ffr (lrP al lv ky key) d i = ffr (lrP al lv ky key) n 0 → X2 (nI i) := by
    intro d
    induction d with
    | zero =>
      intro i hi e
      obtain rfl : i = n := by omega
      refine h2 _ ⟨fun _ => ?_, fun c => absurd (nI_le (Nat.le_refl i) (by omega)) c⟩
      rw [← e] at h
      unfold orM at h
      rw [if_neg (by simp [ffr])] at h
      exact h
    | succ d ih =>
      intro i hi e
      have no : lrP al lv ky key i = false → X39 (nI i) := fun c => by
        refine h39 _ ?_
        rw [nI_1]
        refine ih (i + 1) (by omega) ?_
        rw [← e]; simp only [ffr, c]; rfl
      refine h2 _ ⟨fun c => absurd c (nI_ge (by omega) (by omega)), fun _ => ⟨i, by omega, rfl, fun c => no (by simp [lrP, c]), fun c => ?_⟩⟩
      refine sp_isRoot (by omega) ⟨fun c2 => no ?_, fun c2 => ⟨i, by omega, rfl, fun c3 => no ?_, fun c3 => ?_⟩⟩
      · simp [lrP, c2]
      · simp [lrP, c3]
      · have hy : lrP al lv ky key i = true := by simp [lrP, c, c3]; simpa using c2
        simp only [ffr, hy, if_true] at e
        rw [← e] at h
        unfold orM at h
        rw [if_pos (by omega)] at h
        exact h
  exact L n 0 (by omega) rfl
theorem sp_firstBelow {k u : Nat} {lv : Nat → Int32} {Q : Int32 → Prop} (hu : u < k) (hk : k < 2 ^ 31) (h : Q (nI (fb lv u))) : call_X1_firstBelow k (nI u) lv Q := by
  intro X2 X29 h2 h29
  have L : ∀ f, f ≤ u → fbr lv (lv u) f = fb lv u → X2 (nI f) := by
    intro f
    induction f with
    | zero =>
      intro _ e
      refine h2 _ ⟨fun _ => h29 _ ?_, fun c => absurd (by decide) c⟩
      rw [← e] at h; exact h
    | succ f ih =>
      intro hf e
      refine h2 _ ⟨fun c => absurd c (nI_nle (by omega) (by omega)), fun _ => ⟨f, by omega, nI_pred f, u, hu, rfl, fun c => h29 _ ?_, fun c => ?_⟩⟩
      · simp only [fbr] at e
        rw [if_pos c] at e
        rw [← e] at h; exact h
      · rw [pk_m1]
        refine ih (by omega) ?_
        rw [← e]; simp only [fbr]; rw [if_neg c]
  exact L u (Nat.le_refl u) rfl
/-- from a to b dead -/
def kil (al : Nat → Bool) (a b : Nat) : Nat → Bool := fun i => if a ≤ i ∧ i < b then false else al i
theorem sp_killBlock {k u : Nat} {lv : Nat → Int32} {al : Nat → Bool} {Q : Int32 → (Nat → Bool) → Prop} (hu : u < k) (hk : k < 2 ^ 31) (h : Q (nI (u - fb lv u + 1)) (kil al (fb lv u) (u + 1))) : call_X1_killBlock k (nI u) lv al Q := by
  intro X8 h8
  have hf := fb_le lv u
  refine sp_firstBelow hu hk ?_
  have L : ∀ d i, i + d = u + 1 → fb lv u ≤ i → X8 (nI (fb lv u)) (nI i) (kil al (fb lv u) i) := by
    intro d
    induction d with
    | zero =>
      intro i hi _
      obtain rfl : i = u + 1 := by omega
      refine h8 _ _ _ ⟨fun _ => ?_, fun c => absurd (nI_lt (by omega) (by omega)) c⟩
      rw [pk_sub hf, nI_1]; exact h
    | succ d ih =>
      intro i hi hfi
      refine h8 _ _ _ ⟨fun c => absurd c (nI_nlt (by omega) (by omega)), fun _ => ⟨i, by omega, rfl, ?_⟩⟩
      have := ih (i + 1) (by omega) (by omega)
      rw [nI_1]
      have e : va_up (kil al (fb lv u) i) i false = kil al (fb lv u) (i + 1) := by
        funext j
        by_cases c : j = i
        · rw [c, uu_s]; unfold kil; rw [if_pos (by omega)]
        · rw [uu_n c]; unfold kil
          by_cases c2 : fb lv u ≤ j ∧ j < i
          · rw [if_pos c2, if_pos (by omega)]
          · rw [if_neg c2, if_neg (by omega)]
      rw [e]; exact this
  have := L (u + 1 - fb lv u) (fb lv u) (by omega) (Nat.le_refl _)
  have e : kil al (fb lv u) (fb lv u) = al := by
    funext j; exact if_neg (by omega)
  rw [e] at this
  exact this
theorem sp_countLiving {k n : Nat} {p : Int32} {lv : Nat → Int32} {al : Nat → Bool} {Q : Int32 → Prop} (hn : n ≤ k) (hk : k < 2 ^ 31) (h : Q (nI (cnt (fun i => al i && decide (¬ lv i < p)) n))) : call_X1_countLiving k p (nI n) lv al Q := by
  intro X4 X34 h4 h34
  have L : ∀ d i, i + d = n → X4 (nI (cnt (fun i => al i && decide (¬ lv i < p)) i)) (nI i) := by
    intro d
    induction d with
    | zero =>
      intro i hi
      obtain rfl : i = n := by omega
      exact h4 _ _ ⟨fun _ => h, fun c => absurd (nI_le (Nat.le_refl i) (by omega)) c⟩
    | succ d ih =>
      intro i hi
      have := ih (i + 1) (by omega)
      simp only [cnt] at this
      refine h4 _ _ ⟨fun c => absurd c (nI_ge (by omega) (by omega)), fun _ => ⟨i, by omega, rfl, fun c => h34 _ _ ?_, fun c => ⟨i, by omega, rfl, fun c2 => h34 _ _ ?_, fun c2 => h34 _ _ ?_⟩⟩⟩
      · rw [nI_1]; simpa [c] using this
      · rw [nI_1]; simpa [c, c2] using this
      · rw [nI_1, nI_1]; simpa [c, c2] using this
  exact L n 0 (by omega)
theorem sp_parentOf {k n i : Nat} {lv : Nat → Int32} {Q : Int32 → Prop} (hi : i < n) (hn : n ≤ k) (hk : k < 2 ^ 31) (h : Q (orM (ffr (fun j => decide (¬ lv j ≤ lv i)) (n - (i + 1)) (i + 1)) n)) : call_X1_parentOf k (nI i) (nI n) lv Q := by
  intro X4 h4
  rw [nI_1]
  have L : ∀ d j, j + d = n → ffr (fun j => decide (¬ lv j ≤ lv i)) d j = ffr (fun j => decide (¬ lv j ≤ lv i)) (n - (i + 1)) (i + 1) → X4 (nI j) := by
    intro d
    induction d with
    | zero =>
      intro j hj e
      obtain rfl : j = n := by omega
      refine h4 _ ⟨fun _ => ?_, fun c => absurd (nI_le (Nat.le_refl j) (by omega)) c⟩
      rw [← e] at h
      unfold orM at h
      rw [if_neg (by simp [ffr])] at h
      exact h
    | succ d ih =>
      intro j hj e
      refine h4 _ ⟨fun c => absurd c (nI_ge (by omega) (by omega)), fun _ => ⟨j, by omega, rfl, i, by omega, rfl, fun c => ?_, fun c => ?_⟩⟩
      · rw [nI_1]
        refine ih (j + 1) (by omega) ?_
        rw [← e]; simp only [ffr]; rw [if_neg (by simp [c])]
      · simp only [ffr] at e
        rw [if_pos (by simp [c])] at e
        rw [← e] at h
        unfold orM at h
        rw [if_pos (by omega)] at h
        exact h
  exact L (n - (i + 1)) (i + 1) (by omega) rfl
