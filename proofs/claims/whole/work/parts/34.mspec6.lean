theorem m1lt : (-1 : Int32) < 0 := by decide
theorem mp_hit {d n : Nat} {k thr : Int32} {lv : Nat → Int32} {inn : Nat → Bool} {sc : Nat → Int64} {Q : Int32 → Int32 → Prop} (hn : n ≤ 200) (hd : d ≤ 8)
    (h3 : d = 0 → Q (-3) 0) (h : 1 ≤ d → Q (if k = -1 then nI (cnt (fun i => inn (200 * (d - 1) + i)) n) else lst (fun i => inn (200 * (d - 1) + i) && decide (nI (cnt (fun j => inn (200 * (d - 1) + j) && ahd (fun q => sc (200 * (d - 1) + q)) j i) n) = k)) n) 0) : call_X4_hit k thr (nI n) (nI d) lv inn sc Q := by
  intro X29 h29
  refine ⟨fun c => ?_, fun c => h29 _ _ (h3 ?_)⟩
  · rw [nI_ne0' hd] at c
    rw [nIm1 c]
    refine mp_kth (ab := fun _ => true) (by omega) hn (fun i hi T F t f => ⟨fun _ => t rfl, fun z => absurd m1lt z⟩) (fun i hi T F t f => ⟨fun _ => t rfl, fun z => absurd m1lt z⟩) (h29 _ _ ?_)
    have := h c
    simpa using this
  · rw [z_nI, nI_eq (by omega) (by decide)] at c; exact c
theorem mp_family {n : Nat} {p k thr : Int32} {hf : Bool} {lv : Nat → Int32} {inn : Nat → Bool} {sc : Nat → Int64} {Q : Int32 → Int32 → Prop} (hw : wfL lv n) (hn : n ≤ 200)
    (h0 : hf = false → Q (-1) 0) (h1 : hf = true → (∀ j, j < n → ¬ p = nI j) → Q (-1) 0)
    (h : hf = true → ∀ a, a < n → p = nI a → Q (if k = -1 then nI (cnt (fun i => inn (1600 + i) && isBb lv i a) n) else lst (fun i => (inn (1600 + i) && isBb lv i a) && decide (nI (cnt (fun j => (inn (1600 + j) && isBb lv j a) && ahd (fun q => sc (1600 + q)) j i) n) = k)) n) 0) : call_X4_family p k thr (nI n) hf lv inn sc Q := by
  intro X20 X32 h20 h32
  have none : Q (-1) 0 → X20 0 := fun q => h20 _ (h32 _ _ q)
  refine mp_isObject (by omega) (fun a ha e => ⟨fun z => absurd z (by decide), fun _ => ⟨fun z => ?_, fun z => none (h0 z)⟩⟩) (fun q => ⟨fun _ => none ?_, fun z => absurd z (by decide)⟩)
  · rw [e]
    refine mp_kth (s := 8) (ab := fun i => isBb lv i a) (by omega) hn (fun i hi T F t f => ⟨fun y => absurd y (nI_pos (by omega)), fun _ => mp_isAbove hw hn hi ha ⟨fun y => t y, fun y => f y⟩⟩) (fun i hi T F t f => ⟨fun y => absurd y (nI_pos (by omega)), fun _ => mp_isAbove hw hn hi ha ⟨fun y => f y, fun y => t y⟩⟩) (h32 _ _ (h z a ha e))
  · cases hfe : hf
    · exact h0 hfe
    · exact h1 hfe q
theorem mp_share {d n : Nat} {thr : Int32} {inn : Nat → Bool} {Q : Int64 → Int32 → Prop} (hn : n ≤ 200) (hd : d ≤ 8)
    (h0 : d < 2 → Q (-9223372036854775808) 0) (h1 : 2 ≤ d → cnt (fun i => inn (200 * (d - 2) + i)) n = 0 → Q 0 1)
    (h : 2 ≤ d → 0 < cnt (fun i => inn (200 * (d - 2) + i)) n → Q (1000 * lN (cnt (fun i => inn (200 * (d - 1) + i)) n) / lN (cnt (fun i => inn (200 * (d - 2) + i)) n)) 0) : call_X4_share thr (nI n) (nI d) inn Q := by
  refine ⟨fun c => ?_, fun c => h0 ?_⟩
  · rw [nI2, nI_leI (by decide) (by omega)] at c
    rw [nIm2 c, nIm1 (by omega)]
    have k1 := cnt_le (fun i => inn (200 * (d - 2) + i)) n
    have k2 := cnt_le (fun i => inn (200 * (d - 1) + i)) n
    refine mp_sizeOf (by omega) hn ⟨fun z => mp_sizeOf (by omega) hn ⟨?_, ?_⟩, fun z => h1 c ?_⟩
    · rw [nI_l (by omega), show (0 : Int64) = lN 0 from rfl, lN_eq (by omega) (by decide)]
      intro e; apply z; rw [e]; rfl
    · rw [nI_l (by omega), nI_l (by omega)]
      refine h c ?_
      rcases Nat.eq_zero_or_pos (cnt (fun i => inn (200 * (d - 2) + i)) n) with y | y
      · exfalso; apply z; rw [y]; rfl
      · exact y
    · rw [z_nI, nI_eq (by omega) (by decide)] at z; exact z
  · rw [nI2, nI_leI (by decide) (by omega)] at c; omega
theorem apd_st {α : Type} (f : Nat → α) (n m : Nat) (g : Nat → α) (v : α) (h : v = g m) : va_up (apd f n m g) (n + m) v = apd f n (m + 1) g := by
  rw [h, apd_s]
set_option maxHeartbeats 1000000 in
theorem mp_close {n o : Nat} {key v t k thr st : Int32} {hf : Bool} {lv va tg lk ky op : Nat → Int32} {al inn : Nat → Bool} {Q : Int32 → Int32 → Int32 → Int32 → Int32 → Bool → (Nat → Int32) → (Nat → Int32) → (Nat → Int32) → (Nat → Int32) → (Nat → Int32) → (Nat → Bool) → (Nat → Bool) → Prop} (hn : n ≤ 200) (ho : o ≤ 60)
    (h2 : (wB key 0 999 && told v t k) = false → Q (-2) 0 (nI n) (nI o) st hf lv va tg lk ky al inn)
    (h4 : (wB key 0 999 && told v t k) = true → 200 < n + o + 1 → Q (-4) 0 (nI n) (nI o) st hf lv va tg lk ky al inn)
    (h : (wB key 0 999 && told v t k) = true → n + o + 1 ≤ 200 → ∀ (st' : Int32) (hf' : Bool) (al' in' : Nat → Bool), ((n ≤ ffr (lrP al lv ky key) n 0 ∧ st' = st ∧ hf' = hf ∧ al' = al) ∨ (∃ u, u = ffr (lrP al lv ky key) n 0 ∧ u < n ∧ st' = 0 ∧ hf' = false ∧ al' = kil al (fb lv u) (u + 1))) → (∀ s i, s < 9 → n ≤ i → i < n + o + 1 → in' (200 * s + i) = false) → (∀ x, (x % 200 < n ∨ n + o + 1 ≤ x % 200) → in' x = inn x) →
      Q (nI (n + o)) 0 (nI (n + o + 1)) 0 st' hf' (va_up (apd lv n o (fun i => op (4 * i))) (n + o) 2) (va_up (apd va n o (fun i => op (4 * i + 1))) (n + o) v) (va_up (apd tg n o (fun i => op (4 * i + 2))) (n + o) t) (va_up (apd lk n o (fun i => op (4 * i + 3))) (n + o) k) (va_up (apd ky n o (fun _ => -3)) (n + o) key) (va_up (apd al' n o (fun _ => true)) (n + o) true) in') : call_X4_close key v t k thr (nI n) (nI o) st hf lv va tg lk ky al op inn Q := by
  intro X52 X94 X97 h52 h94 h97
  refine mp_isIn ⟨fun c => h52 _ _ _ _ _ _ _ _ _ _ _ _ (h2 (by simp [c])), fun c => mp_isIn ⟨fun c1 => h52 _ _ _ _ _ _ _ _ _ _ _ _ (h2 (by simp [told, c1])), fun c1 => mp_isIn ⟨fun c3 => h52 _ _ _ _ _ _ _ _ _ _ _ _ (h2 (by simp [told, c3])), fun c3 => mp_isIn ⟨fun c4 => ⟨fun c2 => ?_, fun c2 => h4 (by simp [told, c, c1, c3, c4]) ?_⟩, fun c4 => h52 _ _ _ _ _ _ _ _ _ _ _ _ (h2 (by simp [told, c4]))⟩⟩⟩⟩
  · rw [nI_add, nI_1, nI200, nI_leI (by omega) (by decide)] at c2
    have hh := h (by simp [told, c, c1, c3, c4]) c2
    have go : ∀ (st' : Int32) (hf' : Bool) (al' : Nat → Bool), ((n ≤ ffr (lrP al lv ky key) n 0 ∧ st' = st ∧ hf' = hf ∧ al' = al) ∨ (∃ u, u = ffr (lrP al lv ky key) n 0 ∧ u < n ∧ st' = 0 ∧ hf' = false ∧ al' = kil al (fb lv u) (u + 1))) → X94 0 (nI n) (nI o) st' hf' lv va tg lk ky al' inn := by
      intro st' hf' al' hc
      refine h94 _ _ _ _ _ _ _ _ _ _ _ _ ?_
      have L : ∀ e m (i1 : Nat → Bool), m + e = o → (∀ s i, s < 9 → n ≤ i → i < n + m → i1 (200 * s + i) = false) → (∀ x, (x % 200 < n ∨ n + m ≤ x % 200) → i1 x = inn x) → X97 (nI m) 0 (nI (n + m)) (nI o) st' hf' (apd lv n m (fun i => op (4 * i))) (apd va n m (fun i => op (4 * i + 1))) (apd tg n m (fun i => op (4 * i + 2))) (apd lk n m (fun i => op (4 * i + 3))) (apd ky n m (fun _ => -3)) (apd al' n m (fun _ => true)) i1 := by
        intro e
        induction e with
        | zero =>
          intro m i1 hm g1 g2
          obtain rfl : m = o := by omega
          refine h97 _ _ _ _ _ _ _ _ _ _ _ _ _ ⟨fun _ => mp_stand (by omega) (fun i2 k1 k2 => ?_), fun q => absurd (nI_le (Nat.le_refl m) (by omega)) q⟩
          rw [nI_pred]
          refine hh st' hf' al' i2 hc (fun s i hs h1 h2 => ?_) (fun x hx => ?_)
          · by_cases y : i = n + m
            · rw [y]; exact k1 s hs
            · rw [k2 _ (by omega)]; exact g1 s i hs h1 (by omega)
          · rw [k2 x (by omega)]; exact g2 x (by omega)
        | succ e ih =>
          intro m i1 hm g1 g2
          refine h97 _ _ _ _ _ _ _ _ _ _ _ _ _ ⟨fun q => absurd q (nI_ge (by omega) (by omega)), fun _ => ⟨4 * m, by omega, ix4 m, 4 * m + 1, by omega, by rw [ix4, nI_1], 4 * m + 2, by omega, by rw [ix4, nI2, nI_add], 4 * m + 3, by omega, by rw [ix4, show (3 : Int32) = nI 3 from rfl, nI_add], mp_stand (by omega) (fun i2 k1 k2 => ?_)⟩⟩
          rw [nI_1, apd_st lv n m (fun i => op (4 * i)) _ rfl, apd_st va n m (fun i => op (4 * i + 1)) _ rfl, apd_st tg n m (fun i => op (4 * i + 2)) _ rfl, apd_st lk n m (fun i => op (4 * i + 3)) _ rfl, apd_st ky n m (fun _ => -3) _ rfl, apd_st al' n m (fun _ => true) _ rfl]
          refine ih (m + 1) i2 (by omega) (fun s i hs h1 h2 => ?_) (fun x hx => ?_)
          · by_cases y : i = n + m
            · rw [y]; exact k1 s hs
            · rw [k2 _ (by omega)]; exact g1 s i hs h1 (by omega)
          · rw [k2 x (by omega)]; exact g2 x (by omega)
      have := L o 0 inn (by omega) (fun s i _ h1 h2 => by omega) (fun x _ => rfl)
      rw [apd_0, apd_0, apd_0, apd_0, apd_0, apd_0] at this
      exact this
    refine mp_rootOf hn ?_
    by_cases e : ffr (lrP al lv ky key) n 0 < n
    · rw [orM_lt e]
      have hy := ffr_yes (P := lrP al lv ky key) (d := n) (i := 0) (by omega)
      simp only [lrP, Bool.and_eq_true, decide_eq_true_eq] at hy
      exact ⟨fun z => absurd z (nI_pos (by omega)), fun _ => mp_die e hn hy.2.1 (go _ _ _ (Or.inr ⟨_, rfl, e, rfl, rfl, rfl⟩))⟩
    · rw [orM_ge (by omega)]
      exact ⟨fun _ => go _ _ _ (Or.inl ⟨by omega, rfl, rfl, rfl⟩), fun z => absurd (by decide) z⟩
  · rw [nI_add, nI_1, nI200, nI_leI (by omega) (by decide)] at c2; omega
