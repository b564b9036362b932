theorem nI_ne8 {d : Nat} (hd : d ≤ 8) : ¬ nI d = 8 ↔ d < 8 := by
  rw [nI8, nI_eq (by omega) (by decide)]; omega
theorem nI_ne0' {d : Nat} (hd : d ≤ 8) : ¬ nI d = 0 ↔ 1 ≤ d := by
  rw [z_nI, nI_eq (by omega) (by decide)]; omega
theorem up_in {α : Type} {f : Nat → α} {b i j : Nat} {v : α} (h : i ≠ j) : va_up f (b + j) v (b + i) = f (b + i) := uu_n (by omega)
theorem mp_find {d n : Nat} {k a b thr : Int32} {lv va tg lk ky : Nat → Int32} {al inn : Nat → Bool} {sc : Nat → Int64} {Q : Int32 → Int32 → Int32 → (Nat → Bool) → (Nat → Int64) → Prop} (hn : n ≤ 200) (hd : d ≤ 8)
    (h2 : cbf k a b = false → Q (-2) 0 (nI d) inn sc) (h4 : cbf k a b = true → d = 8 → Q (-4) 0 (nI d) inn sc)
    (h : cbf k a b = true → d < 8 → ∀ (in' : Nat → Bool) (sc' : Nat → Int64), (∀ i, i < n → in' (200 * d + i) = (al i && fnd k a b (lv i) (va i) (tg i) (lk i) (ky i))) → (∀ i, i < n → sc' (200 * d + i) = scf k a (va i)) → (∀ x, (x < 200 * d ∨ 200 * d + n ≤ x) → in' x = inn x ∧ sc' x = sc x) → Q (nI (cnt (fun i => in' (200 * d + i)) n)) 0 (nI (d + 1)) in' sc') : call_X4_find k a b thr (nI n) (nI d) lv va tg lk ky al inn sc Q := by
  intro X32 X82 X83 X138 h32 h82 h83 h138
  refine mp_mayBeFound ⟨fun c => ⟨fun c2 => ?_, fun c2 => h4 c ?_⟩, fun c => h2 c⟩
  · rw [nI_ne8 hd] at c2
    have hh := h c c2
    have hk := cbf_k c
    have L : ∀ e i (i1 : Nat → Bool) (c1 : Nat → Int64), i + e = n → (∀ j, j < i → i1 (200 * d + j) = (al j && fnd k a b (lv j) (va j) (tg j) (lk j) (ky j))) → (∀ j, j < i → c1 (200 * d + j) = scf k a (va j)) → (∀ x, (x < 200 * d ∨ 200 * d + i ≤ x) → i1 x = inn x ∧ c1 x = sc x) → X32 (nI i) 0 (nI d) i1 c1 := by
      intro e
      induction e with
      | zero =>
        intro i i1 c1 hi g1 g2 g3
        obtain rfl : i = n := by omega
        refine h32 _ _ _ _ _ ⟨fun _ => ?_, fun q => absurd (nI_le (Nat.le_refl i) (by omega)) q⟩
        rw [nI_1, nI_pred]
        exact mp_sizeOf (by omega) hn (hh i1 c1 g1 g2 g3)
      | succ e ih =>
        intro i i1 c1 hi g1 g2 g3
        have st : ∀ f : Bool, f = (al i && fnd k a b (lv i) (va i) (tg i) (lk i) (ky i)) → X83 (nI i) f (nI (200 * d + i)) 0 (nI d) i1 c1 := by
          intro f hf
          have fin : ∀ v : Int64, v = scf k a (va i) → X138 (nI i) v ((200 : Int32) * nI d + nI i) 0 (nI d) (va_up i1 (200 * d + i) f) c1 := by
            intro v hv
            refine h138 _ _ _ _ _ _ _ ⟨200 * d + i, by omega, ix200 d i, ?_⟩
            rw [nI_1]
            refine ih (i + 1) _ _ (by omega) (fun j hj => ?_) (fun j hj => ?_) (fun x hx => ?_)
            · by_cases z : j = i
              · rw [z, uu_s, hf]
              · rw [up_in z]; exact g1 j (by omega)
            · by_cases z : j = i
              · rw [z, uu_s, hv]
              · rw [up_in z]; exact g2 j (by omega)
            · rw [uu_n (by omega), uu_n (by omega)]; exact g3 x (by omega)
          refine h83 _ _ _ _ _ _ _ ⟨200 * d + i, by omega, rfl, fun q1 => ⟨fun q2 => ⟨fun q4 => fin _ ?_, fun q4 => fin _ ?_⟩, fun q2 => ⟨i, by omega, rfl, fin _ ?_⟩⟩, fun q1 => mp_bits (fin _ ?_)⟩
          · rcases hk with z | z | z | z | z | z
            · subst z; rfl
            · exact absurd z q1
            · exact absurd z q2
            · subst z; rfl
            · subst z; exact absurd q4 (by decide)
            · subst z; exact absurd q4 (by decide)
          · rcases hk with z | z | z | z | z | z
            · subst z; exact absurd (by decide) q4
            · exact absurd z q1
            · exact absurd z q2
            · subst z; exact absurd (by decide) q4
            · subst z; rfl
            · subst z; rfl
          · subst q2; rfl
          · rw [bits_eq c q1]; subst q1; rfl
        refine h32 _ _ _ _ _ ⟨fun q => absurd q (nI_ge (by omega) (by omega)), fun _ => ⟨i, by omega, rfl, fun q => h82 _ _ _ _ _ _ ?_, fun q => mp_isFound (by omega) hk ⟨fun q2 => h82 _ _ _ _ _ _ ?_, fun q2 => ?_⟩⟩⟩
        · rw [ix200]; exact st false (by simp [q])
        · rw [ix200]; exact st false (by simp [q2])
        · rw [ix200]; exact st true (by simp [q, q2])
    exact L n 0 inn sc (by omega) (fun j hj => by omega) (fun j hj => by omega) (fun x _ => ⟨rfl, rfl⟩)
  · rw [nI8, nI_eq (by omega) (by decide)] at c2; exact c2
theorem mp_join {d n : Nat} {how thr : Int32} {inn : Nat → Bool} {sc : Nat → Int64} {Q : Int32 → Int32 → Int32 → (Nat → Bool) → (Nat → Int64) → Prop} (hn : n ≤ 200) (hd : d ≤ 8)
    (h2 : wB how 0 2 = false → Q (-2) 0 (nI d) inn sc) (h3 : wB how 0 2 = true → d < 2 → Q (-3) 0 (nI d) inn sc)
    (h : wB how 0 2 = true → 2 ≤ d → ∀ (in' : Nat → Bool) (sc' : Nat → Int64), (∀ i, i < n → in' (200 * (d - 2) + i) = if how = 0 then (inn (200 * (d - 2) + i) && inn (200 * (d - 1) + i)) else if how = 1 then (inn (200 * (d - 2) + i) || inn (200 * (d - 1) + i)) else (inn (200 * (d - 2) + i) && !inn (200 * (d - 1) + i))) → (∀ i, i < n → sc' (200 * (d - 2) + i) = if how = 0 ∨ how = 1 then (if inn (200 * (d - 2) + i) then sc (200 * (d - 2) + i) else 0) + (if inn (200 * (d - 1) + i) then sc (200 * (d - 1) + i) else 0) else sc (200 * (d - 2) + i)) → (∀ x, (x < 200 * (d - 2) ∨ 200 * (d - 2) + n ≤ x) → in' x = inn x ∧ sc' x = sc x) → Q (nI (cnt (fun i => in' (200 * (d - 2) + i)) n)) 0 (nI (d - 1)) in' sc') : call_X4_join how thr (nI n) (nI d) inn sc Q := by
  intro X53 X115 X133 X135 X161 X180 X202 X203 h53 h115 h133 h135 h161 h180 h202 h203
  refine mp_isIn ⟨fun c => ⟨fun c2 => ?_, fun c2 => h3 c ?_⟩, fun c => h2 c⟩
  · rw [nI2, nI_leI (by decide) (by omega)] at c2
    have hh := h c c2
    have hhow : how = 0 ∨ how = 1 ∨ how = 2 := by
      simp only [wB, Bool.and_eq_true, decide_eq_true_eq] at c
      obtain ⟨j, hj, rfl⟩ := nI_of c.1
      have h5 := c.2
      rw [nI2, nI_ltI (by decide) hj] at h5
      have : j = 0 ∨ j = 1 ∨ j = 2 := by omega
      rcases this with rfl | rfl | rfl
      · exact Or.inl rfl
      · exact Or.inr (Or.inl rfl)
      · exact Or.inr (Or.inr rfl)
    rw [nIm2 c2, nIm1 (by omega), nI200, pk_mul, pk_mul]
    generalize hs : 200 * (d - 2) = S at *
    generalize ht : 200 * (d - 1) = T at *
    have hST : S + 200 ≤ T := by omega
    have hT : T ≤ 1400 := by omega
    have L : ∀ e i (i1 : Nat → Bool) (c1 : Nat → Int64), i + e = n → (∀ j, j < i → i1 (S + j) = if how = 0 then (inn (S + j) && inn (T + j)) else if how = 1 then (inn (S + j) || inn (T + j)) else (inn (S + j) && !inn (T + j))) → (∀ j, j < i → c1 (S + j) = if how = 0 ∨ how = 1 then (if inn (S + j) then sc (S + j) else 0) + (if inn (T + j) then sc (T + j) else 0) else sc (S + j)) → (∀ x, (x < S ∨ S + i ≤ x) → i1 x = inn x ∧ c1 x = sc x) → X53 (nI S) (nI T) (nI i) 0 (nI d) i1 c1 := by
      intro e
      induction e with
      | zero =>
        intro i i1 c1 hi g1 g2 g3
        obtain rfl : i = n := by omega
        refine h53 _ _ _ _ _ _ _ ⟨fun _ => ?_, fun q => absurd (nI_le (Nat.le_refl i) (by omega)) q⟩
        rw [nIm1 (by omega), nIm1 (by omega)]
        refine mp_sizeOf (s := d - 1 - 1) (by omega) hn ?_
        rw [show 200 * (d - 1 - 1) = S by omega]
        exact hh i1 c1 g1 g2 g3
      | succ e ih =>
        intro i i1 c1 hi g1 g2 g3
        have ea := (g3 (S + i) (Or.inr (Nat.le_refl _))).1
        have eb := (g3 (T + i) (Or.inr (by omega))).1
        have esa := (g3 (S + i) (Or.inr (Nat.le_refl _))).2
        have esb := (g3 (T + i) (Or.inr (by omega))).2
        -- the flag
        have fin : ∀ (f : Bool) (c2 : Nat → Int64), f = (if how = 0 then (inn (S + i) && inn (T + i)) else if how = 1 then (inn (S + i) || inn (T + i)) else (inn (S + i) && !inn (T + i))) → (∀ x, x ≠ S + i → c2 x = c1 x) → c2 (S + i) = (if how = 0 ∨ how = 1 then (if inn (S + i) then sc (S + i) else 0) + (if inn (T + i) then sc (T + i) else 0) else sc (S + i)) → X203 (nI S) (nI T) (nI i) f (nI S + nI i) 0 (nI d) i1 c2 := by
          intro f c2 hf hc2 hc3
          refine h203 _ _ _ _ _ _ _ _ _ ⟨S + i, by omega, nI_add S i, ?_⟩
          rw [nI_1]
          refine ih (i + 1) _ _ (by omega) (fun j hj => ?_) (fun j hj => ?_) (fun x hx => ?_)
          · by_cases z : j = i
            · rw [z, uu_s, hf]
            · rw [up_in z]; exact g1 j (by omega)
          · by_cases z : j = i
            · rw [z]; exact hc3
            · rw [hc2 _ (by omega)]; exact g2 j (by omega)
          · rw [uu_n (by omega), hc2 x (by omega)]; exact g3 x (by omega)
        have flag : ∀ c2 : Nat → Int64, (∀ x, x ≠ S + i → c2 x = c1 x) → c2 (S + i) = (if how = 0 ∨ how = 1 then (if inn (S + i) then sc (S + i) else 0) + (if inn (T + i) then sc (T + i) else 0) else sc (S + i)) → X135 (nI S) (nI T) (nI i) (inn (S + i)) (inn (T + i)) 0 (nI d) i1 c2 := by
          intro c2 hc2 hc3
          refine h135 _ _ _ _ _ _ _ _ _ ⟨fun q0 => ⟨fun q1 => ⟨fun qa => h202 _ _ _ _ _ _ _ _ (fin _ c2 ?_ hc2 hc3), fun qa => ⟨fun qb => h202 _ _ _ _ _ _ _ _ (fin _ c2 ?_ hc2 hc3), fun qb => fin _ c2 ?_ hc2 hc3⟩⟩, fun q1 => ⟨fun qa => h180 _ _ _ _ _ _ _ _ (fin _ c2 ?_ hc2 hc3), fun qa => ⟨fun qb => fin _ c2 ?_ hc2 hc3, fun qb => h180 _ _ _ _ _ _ _ _ (fin _ c2 ?_ hc2 hc3)⟩⟩⟩, fun q0 => ⟨fun qa => h161 _ _ _ _ _ _ _ _ (fin _ c2 ?_ hc2 hc3), fun qa => ⟨fun qb => h161 _ _ _ _ _ _ _ _ (fin _ c2 ?_ hc2 hc3), fun qb => fin _ c2 ?_ hc2 hc3⟩⟩⟩
          · rw [if_neg q0, if_neg q1, qa]; rfl
          · rw [if_neg q0, if_neg q1, qa, qb]; rfl
          · rw [if_neg q0, if_neg q1, qa, qb]; rfl
          · rw [if_neg q0, if_pos q1, qa]; rfl
          · rw [if_neg q0, if_pos q1, qa, qb]; rfl
          · rw [if_neg q0, if_pos q1, qa, qb]; rfl
          · rw [if_pos q0, qa]; rfl
          · rw [if_pos q0, qa, qb]; rfl
          · rw [if_pos q0, qa, qb]; rfl
        refine h53 _ _ _ _ _ _ _ ⟨fun q => absurd q (nI_ge (by omega) (by omega)), fun _ => ⟨S + i, by omega, nI_add S i, T + i, by omega, nI_add T i, fun q => ?_, fun q => ?_⟩⟩
        · rw [ea, eb]
          refine flag c1 (fun _ _ => rfl) ?_
          have q2 : ¬ (how = 0 ∨ how = 1) := by
            rintro (z | z)
            · subst z; exact absurd q (by decide)
            · subst z; exact absurd q (by decide)
          rw [if_neg q2, esa]
        · have q2 : how = 0 ∨ how = 1 := by
            rcases hhow with z | z | z
            · exact Or.inl z
            · exact Or.inr z
            · subst z; exact absurd (by decide) q
          rw [ea, eb]
          have sum : ∀ v : Int64, v = (if inn (S + i) then sc (S + i) else 0) → X115 (nI S) (nI T) (nI i) (inn (S + i)) (inn (T + i)) v (nI S + nI i) 0 (nI d) i1 c1 := by
            intro v hv
            have put : ∀ w : Int64, w = (if inn (T + i) then sc (T + i) else 0) → X133 (nI S) (nI T) (nI i) (inn (S + i)) (inn (T + i)) w v (nI S + nI i) 0 (nI d) i1 c1 := by
              intro w hw
              refine h133 _ _ _ _ _ _ _ _ _ _ _ _ ⟨S + i, by omega, nI_add S i, flag _ (fun x hx => uu_n hx) ?_⟩
              rw [uu_s, if_pos q2, hv, hw]
            refine h115 _ _ _ _ _ _ _ _ _ _ _ ⟨fun z => put _ ?_, fun z => ⟨T + i, by omega, nI_add T i, put _ ?_⟩⟩
            · rw [z]; rfl
            · rw [z, esb]; rfl
          refine ⟨fun z => sum _ ?_, fun z => ⟨S + i, by omega, nI_add S i, sum _ ?_⟩⟩
          · rw [z]; rfl
          · rw [z, esa]; rfl
    exact L n 0 inn sc (by omega) (fun j hj => by omega) (fun j hj => by omega) (fun x _ => ⟨rfl, rfl⟩)
  · rw [nI2, nI_leI (by decide) (by omega)] at c2; omega
theorem mp_takeLast {d n : Nat} {inn was : Nat → Bool} {sc had : Nat → Int64} {Q : (Nat → Bool) → (Nat → Int64) → (Nat → Bool) → (Nat → Int64) → Prop} (hn : n ≤ 200) (hd : d ≤ 8) (h1 : 1 ≤ d)
    (h : ∀ (in' : Nat → Bool) (sc' : Nat → Int64) (was' : Nat → Bool) (had' : Nat → Int64), (∀ i, i < n → in' (200 * (d - 1) + i) = false ∧ sc' (200 * (d - 1) + i) = 0 ∧ was' i = inn (200 * (d - 1) + i) ∧ had' i = sc (200 * (d - 1) + i)) → (∀ x, (x < 200 * (d - 1) ∨ 200 * (d - 1) + n ≤ x) → in' x = inn x ∧ sc' x = sc x) → Q in' sc' was' had') : call_X4_takeLast (nI n) (nI d) inn sc was had Q := by
  intro X13 h13
  rw [nIm1 h1, nI200, pk_mul]
  generalize hs : 200 * (d - 1) = S at *
  have hS : S ≤ 1400 := by omega
  have L : ∀ e i (i1 : Nat → Bool) (c1 : Nat → Int64) (w1 : Nat → Bool) (a1 : Nat → Int64), i + e = n → (∀ j, j < i → i1 (S + j) = false ∧ c1 (S + j) = 0 ∧ w1 j = inn (S + j) ∧ a1 j = sc (S + j)) → (∀ x, (x < S ∨ S + i ≤ x) → i1 x = inn x ∧ c1 x = sc x) → X13 (nI S) (nI i) i1 c1 w1 a1 := by
    intro e
    induction e with
    | zero =>
      intro i i1 c1 w1 a1 hi g1 g3
      obtain rfl : i = n := by omega
      exact h13 _ _ _ _ _ _ ⟨fun _ => h i1 c1 w1 a1 g1 g3, fun q => absurd (nI_le (Nat.le_refl i) (by omega)) q⟩
    | succ e ih =>
      intro i i1 c1 w1 a1 hi g1 g3
      have e3 := g3 (S + i) (Or.inr (Nat.le_refl _))
      have hx : nI S + nI i = nI (S + i) := nI_add S i
      refine h13 _ _ _ _ _ _ ⟨fun q => absurd q (nI_ge (by omega) (by omega)), fun _ => ⟨S + i, by omega, hx, i, by omega, rfl, S + i, by omega, hx, i, by omega, rfl, S + i, by omega, hx, S + i, by omega, hx, ?_⟩⟩
      rw [nI_1]
      refine ih (i + 1) _ _ _ _ (by omega) (fun j hj => ?_) (fun x hx => ?_)
      · by_cases z : j = i
        · rw [z, uu_s, uu_s, uu_s, uu_s, e3.1, e3.2]; exact ⟨rfl, rfl, rfl, rfl⟩
        · rw [up_in z, up_in z, uu_n z, uu_n z]; exact g1 j (by omega)
      · rw [uu_n (by omega), uu_n (by omega)]; exact g3 x (by omega)
  exact L n 0 inn sc was had (by omega) (fun j hj => by omega) (fun x _ => ⟨rfl, rfl⟩)
theorem mp_again {d n : Nat} {thr : Int32} {inn : Nat → Bool} {sc : Nat → Int64} {Q : Int32 → Int32 → Int32 → (Nat → Bool) → (Nat → Int64) → Prop} (hn : n ≤ 200) (hd : d ≤ 8)
    (h3 : d = 0 → Q (-3) 0 (nI d) inn sc) (h4 : d = 8 → Q (-4) 0 (nI d) inn sc)
    (h : 1 ≤ d → d < 8 → ∀ (in' : Nat → Bool) (sc' : Nat → Int64), (∀ i, i < n → in' (200 * d + i) = inn (200 * (d - 1) + i) ∧ sc' (200 * d + i) = sc (200 * (d - 1) + i)) → (∀ x, (x < 200 * d ∨ 200 * d + n ≤ x) → in' x = inn x ∧ sc' x = sc x) → Q (nI (d + 1)) 0 (nI (d + 1)) in' sc') : call_X4_again thr (nI n) (nI d) inn sc Q := by
  intro X29 h29
  refine ⟨fun c => ⟨fun c2 => ?_, fun c2 => h4 ?_⟩, fun c => h3 ?_⟩
  · rw [nI_ne0' hd] at c
    rw [nI_ne8 hd] at c2
    have hh := h c c2
    have L : ∀ e i (i1 : Nat → Bool) (c1 : Nat → Int64), i + e = n → (∀ j, j < i → i1 (200 * d + j) = inn (200 * (d - 1) + j) ∧ c1 (200 * d + j) = sc (200 * (d - 1) + j)) → (∀ x, (x < 200 * d ∨ 200 * d + i ≤ x) → i1 x = inn x ∧ c1 x = sc x) → X29 (nI i) 0 (nI d) i1 c1 := by
      intro e
      induction e with
      | zero =>
        intro i i1 c1 hi g1 g3
        obtain rfl : i = n := by omega
        refine h29 _ _ _ _ _ ⟨fun _ => ?_, fun q => absurd (nI_le (Nat.le_refl i) (by omega)) q⟩
        rw [nI_1]; exact hh i1 c1 g1 g3
      | succ e ih =>
        intro i i1 c1 hi g1 g3
        have e3 := g3 (200 * (d - 1) + i) (Or.inl (by omega))
        have hx : (200 : Int32) * (nI d - 1) + nI i = nI (200 * (d - 1) + i) := by rw [nIm1 c, ix200]
        refine h29 _ _ _ _ _ ⟨fun q => absurd q (nI_ge (by omega) (by omega)), fun _ => ⟨200 * (d - 1) + i, by omega, hx, 200 * d + i, by omega, ix200 d i, 200 * (d - 1) + i, by omega, hx, 200 * d + i, by omega, ix200 d i, ?_⟩⟩
        rw [nI_1, e3.1, e3.2]
        refine ih (i + 1) _ _ (by omega) (fun j hj => ?_) (fun x hx => ?_)
        · by_cases z : j = i
          · rw [z, uu_s, uu_s]; exact ⟨rfl, rfl⟩
          · rw [up_in z, up_in z]; exact g1 j (by omega)
        · rw [uu_n (by omega), uu_n (by omega)]; exact g3 x (by omega)
    exact L n 0 inn sc (by omega) (fun j hj => by omega) (fun x _ => ⟨rfl, rfl⟩)
  · rw [nI8, nI_eq (by omega) (by decide)] at c2; exact c2
  · rw [z_nI, nI_eq (by omega) (by decide)] at c; exact c
theorem mp_pop {d : Nat} {thr : Int32} {Q : Int32 → Int32 → Int32 → Prop} (hd : d ≤ 8) (h3 : d = 0 → Q (-3) 0 (nI d)) (h : 1 ≤ d → Q (nI (d - 1)) 0 (nI (d - 1))) : call_X4_pop thr (nI d) Q := by
  refine ⟨fun c => ?_, fun c => h3 ?_⟩
  · rw [nI_ne0' hd] at c; rw [nIm1 c]; exact h c
  · rw [z_nI, nI_eq (by omega) (by decide)] at c; exact c
theorem mp_score {d n : Nat} {p thr : Int32} {inn : Nat → Bool} {sc : Nat → Int64} {Q : Int64 → Int32 → Prop} (hn : n ≤ 200) (hd : d ≤ 8)
    (h0 : d = 0 → Q (-9223372036854775808) 0) (hf : 1 ≤ d → (∀ j, j < n → p = nI j → inn (200 * (d - 1) + j) = false) → Q (-9223372036854775808) 0) (ht : 1 ≤ d → ∀ j, j < n → p = nI j → inn (200 * (d - 1) + j) = true → Q (sc (200 * (d - 1) + j)) 0) : call_X4_score p thr (nI n) (nI d) inn sc Q := by
  intro X40 X63 h40 h63
  refine ⟨fun c => h40 _ (h63 _ _ (h0 ?_)), fun c => ?_⟩
  · rw [z_nI, nI_eq (by omega) (by decide)] at c; exact c
  · rw [nI_ne0' hd] at c
    refine mp_isObject (by omega) (fun j hj e => ⟨fun z => absurd z (by decide), fun _ => ?_⟩) (fun q => ⟨fun _ => h40 _ (h63 _ _ (hf c (fun j hj e => absurd e (q j hj)))), fun z => absurd z (by decide)⟩)
    have hx : (200 : Int32) * (nI d - 1) + p = nI (200 * (d - 1) + j) := by rw [nIm1 c, e, ix200]
    refine ⟨200 * (d - 1) + j, by omega, hx, fun q => ⟨200 * (d - 1) + j, by omega, hx, h63 _ _ (ht c j hj e q)⟩, fun q => h40 _ (h63 _ _ (hf c (fun i hi e2 => ?_)))⟩
    rw [e, nI_eq (by omega) (by omega)] at e2
    rw [← e2]; exact q
theorem mp_kth {s n : Nat} {p2 k : Int32} {lv : Nat → Int32} {inn ab : Nat → Bool} {sc : Nat → Int64} {Q : Int32 → Prop} (hs : s < 9) (hn : n ≤ 200)
    (hA1 : ∀ i, i < n → ∀ T F : Prop, (ab i = true → T) → (ab i = false → F) → ((p2 < 0 → T) ∧ (¬ p2 < 0 → call_X4_isAbove p2 (nI i) lv (fun r => (r = true → T) ∧ (r = false → F)))))
    (hA2 : ∀ i, i < n → ∀ T F : Prop, (ab i = true → T) → (ab i = false → F) → ((p2 < 0 → T) ∧ (¬ p2 < 0 → call_X4_isAbove p2 (nI i) lv (fun r => (r = false → F) ∧ (r = true → T)))))
    (h : Q (if k = -1 then nI (cnt (fun i => inn (200 * s + i) && ab i) n) else lst (fun i => (inn (200 * s + i) && ab i) && decide (nI (cnt (fun j => (inn (200 * s + j) && ab j) && ahd (fun q => sc (200 * s + q)) j i) n) = k)) n)) : call_X4_kth (nI s) p2 k (nI n) lv inn sc Q := by
  intro X9 X51 X60 X99 X154 X158 X159 X162 X181 X183 X201 h9 h51 h60 h99 h154 h158 h159 h162 h181 h183 h201
  generalize hP : (fun i => inn (200 * s + i) && ab i) = P at h
  have hPa : ∀ i, P i = (inn (200 * s + i) && ab i) := fun i => by rw [← hP]
  have hPe : (fun i => (inn (200 * s + i) && ab i) && decide (nI (cnt (fun j => (inn (200 * s + j) && ab j) && ahd (fun q => sc (200 * s + q)) j i) n) = k)) = (fun i => P i && decide (nI (cnt (fun j => P j && ahd (fun q => sc (200 * s + q)) j i) n) = k)) := by
    funext i; rw [← hP]
  rw [hPe] at h
  generalize hR : (fun i => P i && decide (nI (cnt (fun j => P j && ahd (fun q => sc (200 * s + q)) j i) n) = k)) = R at h
  have L : ∀ e i, i + e = n → X9 (nI (cnt P i)) (lst R i) (nI i) := by
    intro e
    induction e with
    | zero =>
      intro i hi
      obtain rfl : i = n := by omega
      refine h9 _ _ _ ⟨fun _ => ⟨fun c => h201 _ ?_, fun c => h201 _ ?_⟩, fun q => absurd (nI_le (Nat.le_refl i) (by omega)) q⟩
      · rw [if_neg c] at h; exact h
      · rw [if_pos c] at h; exact h
    | succ e ih =>
      intro i hi
      have this := ih (i + 1) (by omega)
      have no : P i = false → X183 (nI (cnt P i)) (lst R i) (nI i) := fun q => by
        have hRi : R i = false := by rw [← hR]; simp [q]
        refine h183 _ _ _ ?_
        simp only [cnt, lst] at this
        rw [nI_1]; simpa [q, hRi] using this
      have yes : P i = true → X51 (nI (cnt P i)) (lst R i) (nI i) := fun q => by
        refine h51 _ _ _ ?_
        have M : ∀ e2 j, j + e2 = n → X60 (nI (cnt P i) + 1) (lst R i) (nI i) (nI (cnt (fun j => P j && ahd (fun q => sc (200 * s + q)) j i) j)) (nI j) := by
          intro e2
          induction e2 with
          | zero =>
            intro j hj
            obtain rfl : j = n := by omega
            have hRi : R i = decide (nI (cnt (fun j => P j && ahd (fun q => sc (200 * s + q)) j i) j) = k) := by rw [← hR]; simp [q]
            simp only [cnt, lst, q, if_true] at this
            refine h60 _ _ _ _ _ ⟨fun _ => ⟨fun z => h181 _ _ _ (h183 _ _ _ ?_), fun z => h181 _ _ _ (h183 _ _ _ ?_)⟩, fun z => absurd (nI_le (Nat.le_refl j) (by omega)) z⟩
            · rw [nI_1, nI_1]
              rw [decide_eq_false z] at hRi
              simpa [hRi] using this
            · rw [nI_1, nI_1]
              rw [decide_eq_true z] at hRi
              simpa [hRi] using this
          | succ e2 ih2 =>
            intro j hj
            have that := ih2 (j + 1) (by omega)
            simp only [cnt] at that
            have no2 : (P j && ahd (fun q => sc (200 * s + q)) j i) = false → X162 (nI (cnt P i) + 1) (lst R i) (nI i) (nI (cnt (fun j => P j && ahd (fun q => sc (200 * s + q)) j i) j)) (nI j) := fun z => by
              refine h162 _ _ _ _ _ ?_
              rw [nI_1 j]; rw [if_neg (by rw [z]; decide)] at that; exact that
            have cmp : P j = true → X99 (nI (cnt P i) + 1) (lst R i) (nI i) (nI (cnt (fun j => P j && ahd (fun q => sc (200 * s + q)) j i) j)) (nI j) := fun zP => by
              have t1 : ahd (fun q => sc (200 * s + q)) j i = true → X154 (nI (cnt P i) + 1) (lst R i) (nI i) (nI j) (nI (cnt (fun j => P j && ahd (fun q => sc (200 * s + q)) j i) j)) := fun z => by
                refine h154 _ _ _ _ _ (h159 _ _ _ _ _ _ (h162 _ _ _ _ _ ?_))
                rw [b2i_add, nI_1 j]; rw [if_pos (by rw [zP, z]; rfl)] at that; exact that
              have t2 : ahd (fun q => sc (200 * s + q)) j i = false → X158 (nI (cnt P i) + 1) (lst R i) (nI i) (nI j) (nI (cnt (fun j => P j && ahd (fun q => sc (200 * s + q)) j i) j)) := fun z => by
                refine h158 _ _ _ _ _ (h159 _ _ _ _ _ _ (h162 _ _ _ _ _ ?_))
                rw [b2i_add, nI_1 j]; rw [if_neg (by rw [zP, z]; decide)] at that; exact that
              refine h99 _ _ _ _ _ ⟨200 * s + j, by omega, ix200 s j, 200 * s + i, by omega, ix200 s i, fun z => t1 ?_, fun z => ⟨fun z2 => t2 ?_, fun z2 => ⟨fun z3 => t2 ?_, fun z3 => t1 ?_⟩⟩⟩
              · rw [ahd_iff]; exact Or.inl z
              · rw [← Bool.not_eq_true, ahd_iff]; rintro (y | y)
                · exact z y
                · exact z2 y.1
              · rw [nI_leI (by omega) (by omega)] at z3
                rw [← Bool.not_eq_true, ahd_iff]; rintro (y | y)
                · exact z y
                · omega
              · rw [nI_leI (by omega) (by omega)] at z3
                rw [ahd_iff]; exact Or.inr ⟨z2, by omega⟩
            refine h60 _ _ _ _ _ ⟨fun z => absurd z (nI_ge (by omega) (by omega)), fun _ => ⟨200 * s + j, by omega, ix200 s j, fun z => no2 (by rw [hPa j, z]; rfl), fun z => hA2 j (by omega) _ _ (fun z2 => cmp (by rw [hPa j, z, z2]; rfl)) (fun z2 => no2 (by rw [hPa j, z2]; simp))⟩⟩
        have := M n 0 (by omega)
        exact this
      refine h9 _ _ _ ⟨fun q => absurd q (nI_ge (by omega) (by omega)), fun _ => ⟨200 * s + i, by omega, ix200 s i, fun q => no (by rw [hPa i, q]; rfl), fun q => hA1 i (by omega) _ _ (fun q2 => yes (by rw [hPa i, q, q2]; rfl)) (fun q2 => no (by rw [hPa i, q2]; simp))⟩⟩
  exact L n 0 (by omega)
