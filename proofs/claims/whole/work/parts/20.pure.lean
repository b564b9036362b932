/-! pure words: counts, the first that .., what is below; and what the leaves' predicates say in them -/
theorem uu_s {α : Type} {f : Nat → α} {k : Nat} {v : α} : va_up f k v k = v := if_pos rfl
theorem uu_n {α : Type} {f : Nat → α} {k j : Nat} {v : α} (h : j ≠ k) : va_up f k v j = f j := if_neg h
def cnt (P : Nat → Bool) : Nat → Nat
  | 0 => 0
  | n + 1 => cnt P n + (if P n then 1 else 0)
theorem cnt_le (P : Nat → Bool) (n : Nat) : cnt P n ≤ n := by
  induction n with
  | zero => exact Nat.le_refl 0
  | succ n ih => simp only [cnt]; split <;> omega
theorem cnt_congr {P R : Nat → Bool} {n : Nat} (h : ∀ i, i < n → P i = R i) : cnt P n = cnt R n := by
  induction n with
  | zero => rfl
  | succ n ih => simp only [cnt]; rw [ih (fun i hi => h i (by omega)), h n (by omega)]
theorem cnt_zero {P : Nat → Bool} {n : Nat} (h : ∀ i, i < n → P i = false) : cnt P n = 0 := by
  induction n with
  | zero => rfl
  | succ n ih => simp only [cnt]; rw [ih (fun i hi => h i (by omega)), h n (by omega)]; rfl
theorem cnt_ext {P : Nat → Bool} {n m : Nat} (h : n ≤ m) (hz : ∀ i, n ≤ i → i < m → P i = false) : cnt P m = cnt P n := by
  induction m with
  | zero => rw [show n = 0 by omega]
  | succ m ih =>
    by_cases e : n = m + 1
    · rw [e]
    · simp only [cnt]; rw [ih (by omega) (fun i h1 h2 => hz i h1 (by omega)), hz m (by omega) (by omega)]; rfl
theorem cnt_up {P : Nat → Bool} {j n : Nat} (v : Bool) (hj : j < n) : cnt (va_up P j v) n + (if P j then 1 else 0) = cnt P n + (if v then 1 else 0) := by
  induction n with
  | zero => omega
  | succ n ih =>
    simp only [cnt]
    by_cases e : j = n
    · subst e
      rw [uu_s, cnt_congr (R := P) (fun i hi => uu_n (by omega))]
      omega
    · rw [uu_n (by omega)]
      have := ih (by omega)
      omega
theorem cnt_t {P : Nat → Bool} {j n : Nat} (hj : j < n) (h : P j = false) : cnt (va_up P j true) n = cnt P n + 1 := by
  have := cnt_up (P := P) true hj
  rw [h] at this
  simpa using this
theorem cnt_t' {P : Nat → Bool} {j n : Nat} (hj : j < n) (h : P j = true) : cnt (va_up P j true) n = cnt P n := by
  have := cnt_up (P := P) true hj
  rw [h] at this
  simpa using this
theorem cnt_f {P : Nat → Bool} {j n : Nat} (hj : j < n) (h : P j = true) : cnt (va_up P j false) n + 1 = cnt P n := by
  have := cnt_up (P := P) false hj
  rw [h] at this
  simpa using this
theorem up_same {α : Type} {f : Nat → α} {j : Nat} {v : α} (h : f j = v) : va_up f j v = f := by
  funext k
  by_cases e : k = j
  · rw [e, uu_s, h]
  · rw [uu_n e]
/-- the first place from i on, of d places, where P holds; else i + d -/
def ffr (P : Nat → Bool) : Nat → Nat → Nat
  | 0, i => i
  | d + 1, i => if P i then i else ffr P d (i + 1)
theorem ffr_congr {P R : Nat → Bool} (d i : Nat) (h : ∀ j, i ≤ j → j < i + d → P j = R j) : ffr P d i = ffr R d i := by
  induction d generalizing i with
  | zero => rfl
  | succ d ih => simp only [ffr]; rw [h i (by omega) (by omega), ih (i + 1) (fun j h1 h2 => h j (by omega) (by omega))]
theorem ffr_le (P : Nat → Bool) (d i : Nat) : i ≤ ffr P d i ∧ ffr P d i ≤ i + d := by
  induction d generalizing i with
  | zero => exact ⟨Nat.le_refl _, by simp [ffr]⟩
  | succ d ih => simp only [ffr]; split
                 · omega
                 · have := ih (i + 1); omega
theorem ffr_no {P : Nat → Bool} {d i j : Nat} (h1 : i ≤ j) (h2 : j < ffr P d i) : P j = false := by
  induction d generalizing i with
  | zero => simp only [ffr] at h2; omega
  | succ d ih =>
    simp only [ffr] at h2
    split at h2
    · omega
    · by_cases e : j = i
      · rw [e]; simp_all
      · exact ih (by omega) h2
theorem ffr_yes {P : Nat → Bool} {d i : Nat} (h : ffr P d i < i + d) : P (ffr P d i) = true := by
  induction d generalizing i with
  | zero => simp only [ffr] at h; omega
  | succ d ih =>
    simp only [ffr] at h ⊢
    split
    · assumption
    · rename_i hn
      rw [if_neg hn] at h
      exact ih (by omega)
/-- an answer: the place, or -1 where it is the end -/
def orM (k n : Nat) : Int32 := if k < n then nI k else -1
/-- from f down: the least place from which on all are below L -/
def fbr (lv : Nat → Int32) (L : Int32) : Nat → Nat
  | 0 => 0
  | f + 1 => if L ≤ lv f then f + 1 else fbr lv L f
def fb (lv : Nat → Int32) (u : Nat) : Nat := fbr lv (lv u) u
theorem fbr_le (lv : Nat → Int32) (L : Int32) (f : Nat) : fbr lv L f ≤ f := by
  induction f with
  | zero => exact Nat.le_refl 0
  | succ f ih => simp only [fbr]; split <;> omega
theorem fbr_lt {lv : Nat → Int32} {L : Int32} {f j : Nat} (h1 : fbr lv L f ≤ j) (h2 : j < f) : ¬ L ≤ lv j := by
  induction f with
  | zero => omega
  | succ f ih =>
    simp only [fbr] at h1
    split at h1
    · omega
    · by_cases e : j = f
      · rw [e]; assumption
      · exact ih h1 (by omega)
theorem fbr_ge {lv : Nat → Int32} {L : Int32} {f : Nat} (h : 0 < fbr lv L f) : L ≤ lv (fbr lv L f - 1) := by
  induction f with
  | zero => simp only [fbr] at h; omega
  | succ f ih =>
    simp only [fbr] at h ⊢
    split
    · simpa using ‹_›
    · rename_i hn
      rw [if_neg hn] at h
      exact ih h
/-- i is below u -/
def isB (lv : Nat → Int32) (i u : Nat) : Prop := i < u ∧ ∀ j, i ≤ j → j < u → ¬ lv u ≤ lv j
theorem fb_iff (lv : Nat → Int32) (i u : Nat) : (fb lv u ≤ i ∧ i < u) ↔ isB lv i u := by
  constructor
  · intro h
    exact ⟨h.2, fun j h1 h2 => fbr_lt (f := u) (by exact Nat.le_trans h.1 h1) h2⟩
  · intro h
    refine ⟨?_, h.1⟩
    rcases Nat.lt_or_ge i (fb lv u) with q | q
    · have h3 := fbr_le lv (lv u) u
      have h4 : 0 < fb lv u := by omega
      exact absurd (fbr_ge h4) (h.2 (fb lv u - 1) (by omega) (by unfold fb at *; omega))
    · exact q
theorem fb_le (lv : Nat → Int32) (u : Nat) : fb lv u ≤ u := fbr_le lv (lv u) u
theorem z_nI : (0 : Int32) = nI 0 := rfl
theorem m1_nI {n : Nat} (h : n < 2 ^ 31) : ¬ (-1 : Int32) = nI n := by
  intro e
  have h1 := congrArg Int32.toInt e
  rw [nI_toInt h] at h1
  have : (-1 : Int32).toInt = -1 := by decide
  omega
