/-! what the reference's methods do -/
theorem mp_isIn {p lo hi : Int32} {Q : Bool → Prop} (h : Q (wB p lo hi)) : call_X4_isIn p lo hi Q := by
  intro X14 X15 h14 h15
  refine ⟨fun c => h14 (h15 _ ?_), fun c => ⟨fun c2 => h14 (h15 _ ?_), fun c2 => h15 _ ?_⟩⟩
  · simpa [wB, c] using h
  · simpa [wB, c, c2] using h
  · simpa [wB, c, c2] using h
theorem i32_lt {a b : Int32} : a < b ↔ a.toInt < b.toInt := Int32.lt_iff_toInt_lt
theorem i32_le {a b : Int32} : a ≤ b ↔ a.toInt ≤ b.toInt := Int32.le_iff_toInt_le
theorem i32_0 : (0 : Int32).toInt = 0 := by decide
theorem i32_1 : (1 : Int32).toInt = 1 := by decide
theorem i32_2 : (2 : Int32).toInt = 2 := by decide
theorem i32_m1 : (-1 : Int32).toInt = -1 := by decide
theorem wB_ix {p : Int32} {n : Nat} (hn : n < 2 ^ 31) : (wB p 0 (nI n - 1) = true ↔ ∃ j, j < n ∧ p = nI j) := by
  cases n with
  | zero =>
    constructor
    · intro h
      simp only [wB, Bool.and_eq_true, decide_eq_true_eq] at h
      exfalso
      have e : (nI 0 - 1 : Int32) = -1 := by decide
      rw [e, i32_lt, i32_lt, i32_0, i32_m1] at h
      omega
    · rintro ⟨j, hj, -⟩; omega
  | succ m =>
    rw [nI_pred]
    simp only [wB, Bool.and_eq_true, decide_eq_true_eq]
    constructor
    · rintro ⟨h1, h2⟩
      obtain ⟨j, hj, rfl⟩ := nI_of h1
      rw [nI_ltI (by omega) hj] at h2
      exact ⟨j, by omega, rfl⟩
    · rintro ⟨j, hj, rfl⟩
      refine ⟨nI_pos (by omega), ?_⟩
      rw [nI_ltI (by omega) (by omega)]; omega
theorem mp_isObject {p : Int32} {n : Nat} {Q : Bool → Prop} (hn : n < 2 ^ 31) (ht : ∀ j, j < n → p = nI j → Q true) (hf : (∀ j, j < n → ¬ p = nI j) → Q false) : call_X4_isObject p (nI n) Q := by
  refine mp_isIn ?_
  by_cases c : wB p 0 (nI n - 1) = true
  · obtain ⟨j, hj, e⟩ := (wB_ix hn).mp c
    rw [c]; exact ht j hj e
  · have c2 : wB p 0 (nI n - 1) = false := by simpa using c
    rw [c2]; exact hf (fun j hj e => c ((wB_ix hn).mpr ⟨j, hj, e⟩))
theorem ix4 (i : Nat) : (4 : Int32) * nI i = nI (4 * i) := by rw [show (4 : Int32) = nI 4 from rfl, pk_mul]
theorem ix200 (s i : Nat) : (200 : Int32) * nI s + nI i = nI (200 * s + i) := by rw [nI200, pk_mul, nI_add]
theorem mp_child {o : Nat} {l v t k thr : Int32} {op : Nat → Int32} {Q : Int32 → Int32 → Int32 → (Nat → Int32) → Prop} (ho : o ≤ 60)
    (h2 : (wB l 0 1 && told v t k) = false → Q (-2) 0 (nI o) op) (h4 : (wB l 0 1 && told v t k) = true → o = 60 → Q (-4) 0 (nI o) op)
    (h : (wB l 0 1 && told v t k) = true → o < 60 → Q (nI (o + 1)) 0 (nI (o + 1)) (va_up (va_up (va_up (va_up op (4 * o) l) (4 * o + 1) v) (4 * o + 2) t) (4 * o + 3) k)) : call_X4_child l v t k thr (nI o) op Q := by
  intro X50 h50
  refine mp_isIn ⟨fun c => h50 _ _ _ (h2 (by simp [c])), fun c => mp_isIn ⟨fun c1 => h50 _ _ _ (h2 (by simp [told, c1])), fun c1 => mp_isIn ⟨fun c2 => h50 _ _ _ (h2 (by simp [told, c2])), fun c2 => mp_isIn ⟨fun c3 => ⟨fun c4 => ?_, fun c4 => h4 (by simp [told, c, c1, c2, c3]) ?_⟩, fun c3 => h50 _ _ _ (h2 (by simp [told, c3]))⟩⟩⟩⟩
  · have o2 : o < 60 := by
      rcases Nat.lt_or_ge o 60 with z | z
      · exact z
      · exfalso; apply c4; rw [show o = 60 by omega]; rfl
    refine ⟨4 * o, by omega, ix4 o, 4 * o + 1, by omega, by rw [ix4, nI_1], 4 * o + 2, by omega, by rw [ix4, nI2, nI_add], 4 * o + 3, by omega, by rw [ix4, show (3 : Int32) = nI 3 from rfl, nI_add], ?_⟩
    rw [nI_1]
    exact h (by simp [told, c, c1, c2, c3]) o2
  · rw [nI60, nI_eq (by omega) (by decide)] at c4; exact c4
theorem mp_stand {n : Nat} {l v t k ow : Int32} {lv va tg lk ky : Nat → Int32} {al inn : Nat → Bool} {Q : Int32 → (Nat → Int32) → (Nat → Int32) → (Nat → Int32) → (Nat → Int32) → (Nat → Int32) → (Nat → Bool) → (Nat → Bool) → Prop} (hn : n < 200)
    (h : ∀ in' : Nat → Bool, (∀ s, s < 9 → in' (200 * s + n) = false) → (∀ x, ¬ x % 200 = n → in' x = inn x) → Q (nI (n + 1)) (va_up lv n l) (va_up va n v) (va_up tg n t) (va_up lk n k) (va_up ky n ow) (va_up al n true) in') : call_X4_stand l v t k ow (nI n) lv va tg lk ky al inn Q := by
  intro X65 h65
  have L : ∀ d s (i1 : Nat → Bool), s + d = 9 → (∀ q, q < s → i1 (200 * q + n) = false) → (∀ x, ¬ x % 200 = n → i1 x = inn x) → X65 (nI s) (nI n) (va_up lv n l) (va_up va n v) (va_up tg n t) (va_up lk n k) (va_up ky n ow) (va_up al n true) i1 := by
    intro d
    induction d with
    | zero =>
      intro s i1 hs h1 h2
      obtain rfl : s = 9 := by omega
      refine h65 _ _ _ _ _ _ _ _ _ ⟨fun _ => ?_, fun q => absurd (by decide) q⟩
      rw [nI_1]; exact h i1 h1 h2
    | succ d ih =>
      intro s i1 hs h1 h2
      refine h65 _ _ _ _ _ _ _ _ _ ⟨fun q => ?_, fun _ => ⟨200 * s + n, by omega, ix200 s n, ?_⟩⟩
      · rw [show (9 : Int32) = nI 9 from rfl, nI_leI (by decide) (by omega)] at q; omega
      · rw [nI_1]
        refine ih (s + 1) _ (by omega) (fun q hq => ?_) (fun x hx => ?_)
        · by_cases e : q = s
          · rw [e, uu_s]
          · rw [uu_n (by omega)]; exact h1 q (by omega)
        · rw [uu_n (fun e => hx (by rw [e]; omega))]; exact h2 x hx
  refine ⟨n, by omega, rfl, n, by omega, rfl, n, by omega, rfl, n, by omega, rfl, n, by omega, rfl, n, by omega, rfl, ?_⟩
  exact L 9 0 inn (by omega) (fun q hq => by omega) (fun _ _ => rfl)
theorem mp_rootOf {n : Nat} {key : Int32} {lv ky : Nat → Int32} {al : Nat → Bool} {Q : Int32 → Prop} (hn : n ≤ 200) (h : Q (orM (ffr (lrP al lv ky key) n 0) n)) : call_X4_rootOf key (nI n) lv ky al Q := by
  intro X2 X41 h2 h41
  have L : ∀ d i, i + d = n → ffr (lrP al lv ky key) d i = ffr (lrP al lv ky key) n 0 → X2 (nI i) := by
    intro d
    induction d with
    | zero =>
      intro i hi e
      obtain rfl : i = n := by omega
      refine h2 _ ⟨fun _ => ?_, fun c => absurd (nI_le (Nat.le_refl i) (by omega)) c⟩
      rw [← e] at h
      rw [orM_ge (by simp [ffr])] at h
      exact h
    | succ d ih =>
      intro i hi e
      have no : lrP al lv ky key i = false → X41 (nI i) := fun c => by
        refine h41 _ ?_
        rw [nI_1]
        refine ih (i + 1) (by omega) ?_
        rw [← e]; simp only [ffr, c]; rfl
      refine h2 _ ⟨fun c => absurd c (nI_ge (by omega) (by omega)), fun _ => ⟨i, by omega, rfl, fun c => no (by simp [lrP, c]), fun c => ⟨i, by omega, rfl, fun c2 => no (by simp [lrP, c2]), fun c2 => ⟨i, by omega, rfl, fun c3 => no (by simp [lrP, c3]), fun c3 => ?_⟩⟩⟩⟩
      have hy : lrP al lv ky key i = true := by simp [lrP, c, c2, c3]
      simp only [ffr, hy, if_true] at e
      rw [← e, orM_lt (by omega)] at h
      exact h
  exact L n 0 (by omega) rfl
theorem mp_die {n u : Nat} {st : Int32} {hf : Bool} {lv : Nat → Int32} {al : Nat → Bool} {Q : Int32 → Int32 → Bool → (Nat → Bool) → Prop} (hu : u < n) (hn : n ≤ 200) (hl : lv u = 2) (h : Q (nI (u - fb lv u + 1)) 0 false (kil al (fb lv u) (u + 1))) : call_X4_die (nI u) st hf lv al Q := by
  intro X4 X23 X39 h4 h23 h39
  have L : ∀ f, f ≤ u → fbr lv (lv u) f = fb lv u → X4 (nI (u + 1 - f)) (nI f + (-1)) st hf (kil al f (u + 1)) := by
    intro f
    induction f with
    | zero =>
      intro _ e
      have e0 : fb lv u = 0 := by rw [← e]; rfl
      rw [e0] at h
      refine h4 _ _ _ _ _ ⟨fun _ => h39 _ _ _ _ ?_, fun c => absurd (by decide) c⟩
      rw [show u + 1 - 0 = u - 0 + 1 by omega]; exact h
    | succ f ih =>
      intro hf2 e
      rw [pk_m1]
      refine h4 _ _ _ _ _ ⟨fun c => absurd c (nI_pos (by omega)), fun _ => ⟨fun c => ?_, fun _ => ⟨f, by omega, rfl, fun c => h39 _ _ _ _ ?_, fun c => h23 _ _ _ _ _ ⟨f, by omega, rfl, ?_⟩⟩⟩⟩
      · rw [nI_eq (by omega) (by omega)] at c; omega
      · rw [hl] at e
        simp only [fbr] at e
        rw [if_pos c] at e
        rw [← e] at h
        rw [show u + 1 - (f + 1) = u - (f + 1) + 1 by omega]; exact h
      · rw [nI_1]
        have := ih (by omega) (by rw [← e, hl]; simp only [fbr]; rw [if_neg c])
        rw [show u + 1 - f = u + 1 - (f + 1) + 1 by omega] at this
        have e2 : va_up (kil al (f + 1) (u + 1)) f false = kil al f (u + 1) := by
          funext j
          by_cases z : j = f
          · rw [z, uu_s]; unfold kil; rw [if_pos (by omega)]
          · rw [uu_n z]; unfold kil
            by_cases z2 : f + 1 ≤ j ∧ j < u + 1
            · rw [if_pos z2, if_pos (by omega)]
            · rw [if_neg z2, if_neg (by omega)]
        rw [e2]; exact this
  have hfb := fb_le lv u
  refine h4 _ _ _ _ _ ⟨fun c => absurd c (nI_pos (by omega)), fun _ => ⟨fun _ => h23 _ _ _ _ _ ⟨u, by omega, rfl, ?_⟩, fun c => absurd rfl c⟩⟩
  have := L u (Nat.le_refl u) rfl
  rw [show u + 1 - u = 0 + 1 by omega, ← nI_1] at this
  have e2 : va_up al u false = kil al u (u + 1) := by
    funext j
    by_cases z : j = u
    · rw [z, uu_s]; unfold kil; rw [if_pos (by omega)]
    · rw [uu_n z]; unfold kil; rw [if_neg (by omega)]
  rw [e2]; exact this
theorem mp_kill {n : Nat} {key thr st : Int32} {hf : Bool} {lv ky : Nat → Int32} {al : Nat → Bool} {Q : Int32 → Int32 → Int32 → Bool → (Nat → Bool) → Prop} (hn : n ≤ 200)
    (h1 : n ≤ ffr (lrP al lv ky key) n 0 → Q (-1) 0 st hf al)
    (h : ∀ u, u = ffr (lrP al lv ky key) n 0 → u < n → Q (nI (u - fb lv u + 1)) 0 0 false (kil al (fb lv u) (u + 1))) : call_X4_kill key thr (nI n) st hf lv ky al Q := by
  intro X24 h24
  refine mp_rootOf hn ?_
  by_cases e : ffr (lrP al lv ky key) n 0 < n
  · rw [orM_lt e]
    have hy := ffr_yes (P := lrP al lv ky key) (d := n) (i := 0) (by omega)
    simp only [lrP, Bool.and_eq_true, decide_eq_true_eq] at hy
    exact ⟨fun _ => mp_die e hn hy.2.1 (h24 _ _ _ _ _ (h _ rfl e)), fun c => absurd (nI_pos' (by omega)) c⟩
  · rw [orM_ge (by omega)]
    exact ⟨fun c => absurd c (by decide), fun _ => h24 _ _ _ _ _ (h1 (by omega))⟩
theorem mp_merge {n : Nat} {thr st : Int32} {hf : Bool} {lv va tg lk ky : Nat → Int32} {al : Nat → Bool} {Q : Int32 → Int32 → Int32 → Int32 → Bool → (Nat → Int32) → (Nat → Int32) → (Nat → Int32) → (Nat → Int32) → (Nat → Int32) → (Nat → Bool) → Prop} (hn : n ≤ 200)
    (h : Q (nI (cnt al n)) 0 (nI (cnt al n)) 0 false (kpF al lv n) (kpF al va n) (kpF al tg n) (kpF al lk n) (kpF al ky n) (kpT al n)) : call_X4_merge thr (nI n) st hf lv va tg lk ky al Q := by
  intro X9 X96 h9 h96
  have L : ∀ d i, i + d = n → X9 (nI (cnt al i)) (nI i) 0 (nI n) st hf (kpF al lv i) (kpF al va i) (kpF al tg i) (kpF al lk i) (kpF al ky i) (kpT al i) := by
    intro d
    induction d with
    | zero =>
      intro i hi
      obtain rfl : i = n := by omega
      exact h9 _ _ _ _ _ _ _ _ _ _ _ _ ⟨fun _ => h, fun c => absurd (nI_le (Nat.le_refl i) (by omega)) c⟩
    | succ d ih =>
      intro i hi
      have hc := cnt_le al i
      have this := ih (i + 1) (by omega)
      refine h9 _ _ _ _ _ _ _ _ _ _ _ _ ⟨fun c => absurd c (nI_ge (by omega) (by omega)), fun _ => ⟨i, by omega, rfl, fun c => ?_, fun c => ?_⟩⟩
      · rw [kpT_hi (Nat.le_refl i)] at c
        refine h96 _ _ _ _ _ _ _ _ _ _ _ _ ?_
        simp only [kpF, kpT, cnt, c] at this
        rw [nI_1]
        exact this
      · rw [kpT_hi (Nat.le_refl i)] at c
        have i2 : i < 261 := by omega
        have c2 : cnt al i < 261 := by omega
        refine ⟨i, i2, rfl, _, c2, rfl, i, i2, rfl, _, c2, rfl, i, i2, rfl, _, c2, rfl, i, i2, rfl, _, c2, rfl, i, i2, rfl, _, c2, rfl, _, c2, rfl, h96 _ _ _ _ _ _ _ _ _ _ _ _ ?_⟩
        simp only [kpF, kpT, cnt, c] at this
        rw [nI_1, nI_1]
        exact this
  exact L n 0 (by omega)
